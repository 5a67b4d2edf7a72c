/-! Layer 3: match, the reference's wishes -/
section
variable {ρ : rq_R} {m : rt_M} {S : rq_S} {a : Nat → Nat} {k : Nat → Int} {t : Nat}
def rq_wLm (k j : Nat) : Bool := rq_wF k j || k == 298 || k == 299
theorem rq_wLm_st : (rq_P.all fun p => !(rq_wLm p.1 p.2.1)) = true := by decide +kernel
theorem rq_WQ_L {k j : Nat} (h : rq_WQ k j = false) : rq_wLm k j = false := by
  have h := rq_WQ_R h
  unfold rq_WR at h
  unfold rq_wLm
  simp only [Bool.or_eq_false_iff, Bool.and_eq_false_iff, beq_eq_false_iff_ne, decide_eq_false_iff_not] at h ⊢
  exact ⟨⟨h.1.1.1.1, by omega⟩, by omega⟩
theorem rq_wL_F {k j : Nat} (h : rq_wLm k j = false) : rq_wF k j = false := by
  unfold rq_wLm at h
  simp only [Bool.or_eq_false_iff] at h
  exact h.1.1
theorem rq_D_wL {m' : rt_M} (h : rq_D ρ m) (k : rq_fr rq_wLm m m') : rq_D ρ m' := by
  obtain ⟨hs, hv, hc⟩ := h
  refine ⟨rq_st_fr hs k rq_wLm_st, hv, rq_rr_fr hc (fun a j h1 h2 => k a j ?_)⟩
  unfold rq_wLm rq_wF
  simp only [Bool.or_eq_false_iff, Bool.and_eq_false_iff, beq_eq_false_iff_ne, decide_eq_false_iff_not]
  omega
theorem rq_sr_wL {m' : rt_M} (h : rq_sr S m) (k : rq_fr rq_wLm m m') : rq_sr S m' := fun i hi => by rw [k 285 i rfl]; exact h i hi
/-- the reference's marks of asking and keeping -/
def rq_mn (a : Nat → Nat) (k : Nat → Int) (m : rt_M) : Prop := (∀ w, w < 6 → m 299 w = k w) ∧ ∀ h, h < 6 → a h < 64 ∧ m 298 h = ((a h : Nat) : Int)
theorem rq_mn_F {m' : rt_M} (h : rq_mn a k m) (f : rq_fr rq_wF m m') : rq_mn a k m' := ⟨fun w hw => by rw [f 299 w rfl]; exact h.1 w hw, fun x hx => ⟨(h.2 x hx).1, by rw [f 298 x rfl]; exact (h.2 x hx).2⟩⟩
theorem q_wishes (hD : rq_D ρ m) (hS : rq_sr S m) (hv : rq_vs ρ S) (hm : rq_mn a k m) {h : Nat} (hh : (h : Int) < ρ.1 0 1) : rq (f_X12_wishes 248 (h : Int) m) (fun p => p.1 = rq_bw (rq_mp1 ρ S (S 0).toNat a h) (rq_mO ρ) (ρ.1 0 0).toNat ∧ rq_fr rq_wF m p.2) := by
  have hb := hD.2.1.1
  have s0 : S 0 = (((S 0).toNat : Nat) : Int) := by have := hv.1; omega
  have s1 := hv.2.1
  unfold f_X12_wishes
  refine rq_call (rq_up (Q := fun e => e.1 = rq_bw (rq_mp1 ρ S (S 0).toNat a h) (rq_mO ρ) (ρ.1 0 0).toNat ∧ rq_fr rq_wF m e.2) (fun i s => s.2.1 = (i : Int) ∧ s.1 = rq_bw (rq_mp1 ρ S (S 0).toNat a h) (rq_mO ρ) i ∧ rq_fr rq_wF m s.2.2) (ρ.1 0 0).toNat (by omega) ?_ ?_ (by exact ⟨rfl, rfl, rq_fr.rfl⟩)) (fun e q => rq_some.mpr q)
  · rintro i ⟨x, y, mm⟩ hi ⟨e1, e2, hf⟩
    dsimp only at e1 e2 hf
    subst e1 e2
    have bb := rq_bw_b (rq_mp1 ρ S (S 0).toNat a h) (rq_mO ρ) i
    have hD1 := rq_D_wF hD hf
    have hS1 := rq_sr_wF hS hf
    have hm1 := rq_mn_F hm hf
    have ha := hm1.2 h (by omega)
    have stay : ∀ m2, rq_fr rq_wF m m2 → rq_mp1 ρ S (S 0).toNat a h i = false → rq (j_X12_wishes_77_4 248 (h : Int) (rq_bw (rq_mp1 ρ S (S 0).toNat a h) (rq_mO ρ) i) (i : Int) m2) (fun t_1 => (∀ s', t_1 = .inl s' → s'.2.1 = ((i + 1 : Nat) : Int) ∧ s'.1 = rq_bw (rq_mp1 ρ S (S 0).toNat a h) (rq_mO ρ) (i + 1) ∧ rq_fr rq_wF m s'.2.2) ∧ (∀ e, t_1 = .inr e → e.1 = rq_bw (rq_mp1 ρ S (S 0).toNat a h) (rq_mO ρ) (ρ.1 0 0).toNat ∧ rq_fr rq_wF m e.2)) := by
      intro m2 f2 p
      unfold j_X12_wishes_77_4
      rw [rq_n1 (by omega)]
      refine rq_some.mpr (rq_inl ⟨rfl, ?_, f2⟩)
      rw [rq_bw_s, if_neg (fun q => by rw [p] at q; cases q.1)]
    unfold b_X12_wishes_4
    dsimp only
    rw [q_gfr, Option.bind_some, q_rn0 hD1 0 rfl, Option.bind_some, if_neg (by omega), q_gfr, Option.bind_some, q_a8 (k := 298) _ 6 (pt_248_69 hD1.1) kd_298 ln_298 (by omega), Option.bind_some, ha.2, rq_tb _ (by omega) i (by omega)]
    by_cases z1 : (a h).testBit i = true
    · rw [if_pos z1, if_neg (by decide)]
      exact stay mm hf (by unfold rq_mp1; simp [z1])
    rw [if_neg z1, if_pos rfl, q_gfr, Option.bind_some, q_rwe hD1.1 hS1 (by omega), Option.bind_some]
    by_cases z2 : 9 ≤ S (7 + i)
    · rw [if_pos z2]
      exact stay mm hf (by unfold rq_mp1; rw [decide_eq_false (by omega)]; rfl)
    rw [if_neg z2, Option.bind_some, q_rs0 hD1.1 hS1 0 rfl, Option.bind_some]
    have hfit := q_fitsIn hD1 (w := i) (k := h) (t := (S 0).toNat) (by omega) hh (by omega)
    rw [← s0] at hfit
    refine rq_call hfit ?_
    rintro ⟨v, m2⟩ ⟨e, f2⟩
    dsimp only at e f2 ⊢
    subst e
    have hf2 := hf.trans f2
    have hD2 := rq_D_wF hD hf2
    by_cases z3 : rq_fi ρ i h (S 0).toNat = 0
    · rw [if_pos z3]
      exact stay m2 hf2 (by unfold rq_mp1; simp [z3])
    · have fi : rq_fi ρ i h (S 0).toNat = 1 := (rq_fi01 ρ i h _).resolve_left z3
      have p : rq_mp1 ρ S (S 0).toNat a h i = true := rq_mp1_i.mpr ⟨⟨by omega, fi⟩, by simpa using z1⟩
      have take : (rq_bw (rq_mp1 ρ S (S 0).toNat a h) (rq_mO ρ) i = -1 ∨ rq_mO ρ (rq_bw (rq_mp1 ρ S (S 0).toNat a h) (rq_mO ρ) i).toNat < rq_mO ρ i) → rq (j_X12_wishes_75_4 248 (h : Int) (i : Int) m2) (fun t_1 => (∀ s', t_1 = .inl s' → s'.2.1 = ((i + 1 : Nat) : Int) ∧ s'.1 = rq_bw (rq_mp1 ρ S (S 0).toNat a h) (rq_mO ρ) (i + 1) ∧ rq_fr rq_wF m s'.2.2) ∧ (∀ e, t_1 = .inr e → e.1 = rq_bw (rq_mp1 ρ S (S 0).toNat a h) (rq_mO ρ) (ρ.1 0 0).toNat ∧ rq_fr rq_wF m e.2)) := by
        intro y
        unfold j_X12_wishes_75_4 j_X12_wishes_77_4
        rw [rq_n1 (by omega)]
        refine rq_some.mpr (rq_inl ⟨rfl, ?_, hf2⟩)
        rw [rq_bw_s, if_pos ⟨p, y⟩]
      rw [if_neg z3]
      by_cases z4 : rq_bw (rq_mp1 ρ S (S 0).toNat a h) (rq_mO ρ) i = -1
      · rw [if_pos (by omega)]
        exact take (Or.inl z4)
      · obtain ⟨b, eb⟩ := Int.eq_ofNat_of_zero_le (show 0 ≤ rq_bw (rq_mp1 ρ S (S 0).toNat a h) (rq_mO ρ) i by omega)
        rw [if_neg (by omega), q_gfr, Option.bind_some, q_a8 (k := 254) _ 12 (pt_248_14 hD2.1) kd_254 ln_254 (by omega), Option.bind_some, Option.bind_some, eb, q_a8 (k := 254) _ 12 (pt_248_14 hD2.1) kd_254 ln_254 (by omega), Option.bind_some, (hD2.2.2.2.1 i (by omega)).2.1, (hD2.2.2.2.1 b (by omega)).2.1]
        rw [eb] at take stay
        by_cases z5 : ρ.1 2 i ≤ ρ.1 2 b
        · rw [if_pos z5]
          unfold j_X12_wishes_77_4
          rw [rq_n1 (by omega)]
          refine rq_some.mpr (rq_inl ⟨rfl, ?_, hf2⟩)
          rw [rq_bw_s, eb, Int.toNat_natCast, if_neg]
          rintro ⟨-, y | y⟩
          · omega
          · have : ρ.1 2 b < ρ.1 2 i := y
            omega
        · rw [if_neg z5]
          exact take (Or.inr (by rw [Int.toNat_natCast]; show ρ.1 2 b < ρ.1 2 i; omega))
  · rintro ⟨x, y, mm⟩ ⟨e1, e2, hf⟩
    dsimp only at e1 e2 hf
    subst e1 e2
    have hD1 := rq_D_wF hD hf
    unfold b_X12_wishes_4
    dsimp only
    rw [q_gfr, Option.bind_some, q_rn0 hD1 0 rfl, Option.bind_some, if_pos (by omega)]
    exact rq_some.mpr (rq_inre ⟨rfl, hf⟩)
theorem q_risAhead (hD : rq_D ρ m) (hS : rq_sr S m) (hv : rq_vs ρ S) {w h h0 : Nat} (hw : (w : Int) < ρ.1 0 0) (hh : (h : Int) < ρ.1 0 1) (hh0 : (h0 : Int) < ρ.1 0 1) : rq (f_X12_isAhead 248 (w : Int) (h : Int) (h0 : Int) m) (fun p => (p.1 = if rq_ti ρ w h (S 0).toNat < rq_ti ρ w h0 (S 0).toNat ∨ (rq_ti ρ w h (S 0).toNat = rq_ti ρ w h0 (S 0).toNat ∧ (h : Int) < (h0 : Int)) then 1 else 0) ∧ rq_fr rq_wF m p.2) := by
  have s0 : S 0 = (((S 0).toNat : Nat) : Int) := by have := hv.1; omega
  have s1 := hv.2.1
  unfold f_X12_isAhead
  rw [q_gfr, Option.bind_some, q_rs0 hD.1 hS 0 rfl, Option.bind_some]
  have t1 := q_tiltIn hD hw hh (t := (S 0).toNat) (by omega)
  rw [← s0] at t1
  refine rq_call t1 ?_
  rintro ⟨x, m1⟩ ⟨e1, f1⟩
  dsimp only at e1 f1 ⊢
  have hD1 := rq_D_wF hD f1
  have hS1 := rq_sr_wF hS f1
  rw [q_gfr, Option.bind_some, q_rs0 hD1.1 hS1 0 rfl, Option.bind_some]
  have t2 := q_tiltIn hD1 hw hh0 (t := (S 0).toNat) (by omega)
  rw [← s0] at t2
  refine rq_call t2 ?_
  rintro ⟨y, m2⟩ ⟨e2, f2⟩
  dsimp only at e2 f2 ⊢
  subst e1 e2
  have ff := f1.trans f2
  unfold j_X12_isAhead_47 j_X12_isAhead_51 j_X12_isAhead_52
  by_cases z1 : rq_ti ρ w h (S 0).toNat < rq_ti ρ w h0 (S 0).toNat
  · rw [if_pos z1, q_bz1, if_pos (Or.inl z1)]; exact rq_some.mpr ⟨rfl, ff⟩
  · rw [if_neg z1]
    by_cases z2 : rq_ti ρ w h (S 0).toNat = rq_ti ρ w h0 (S 0).toNat
    · rw [if_pos z2]
      by_cases z3 : (h0 : Int) ≤ (h : Int)
      · rw [if_pos z3, q_bz0, if_neg (by omega)]; exact rq_some.mpr ⟨rfl, ff⟩
      · rw [if_neg z3, q_bz1, if_pos (Or.inr ⟨z2, by omega⟩)]; exact rq_some.mpr ⟨rfl, ff⟩
    · rw [if_neg z2, q_bz0, if_neg (by omega)]; exact rq_some.mpr ⟨rfl, ff⟩
end
