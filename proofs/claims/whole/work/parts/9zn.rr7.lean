/-! Layer 3: a realm told, the reference reads all -/
def rq_wRB (k j : Nat) : Bool := rq_wRA k j || (k == 248 && (j == 1 || j == 3))
theorem rq_wRB_st : (rq_P.all fun p => !(rq_wRB p.1 p.2.1)) = true := by decide +kernel
theorem rq_wRB_A {k j : Nat} (h : rq_wRB k j = false) : rq_wRA k j = false := by
  unfold rq_wRB at h
  simp only [Bool.or_eq_false_iff] at h
  exact h.1
def rq_ra (s : Nat → Int) (n : Nat) (m : rt_M) (p : Int × rt_M) : Prop := rq_fr rq_wRB m p.2 ∧ p.2 248 1 = 0 ∧ (((rq_rpA s n).1 = 0 ∧ p.1 = 1 ∧ ∃ b, b ≤ 1000 ∧ rq_RD b (rq_rpA s n).2 p.2) ∨ ((rq_rpA s n).1 ≠ 0 ∧ p.1 = 0 ∧ p.2 248 9 = (rq_rpA s n).1))
section
variable {m m' : rt_M} {s : Nat → Int} {n b b' : Nat} {δ : rq_DR} {ρ : rq_R}
theorem rq_ty_A (h : rq_ty s n m) (f : rq_fr rq_wRA m m') : rq_ty s n m' := ⟨by rw [f 248 3 rfl]; exact h.1, fun i hi => by rw [f 249 i rfl]; exact h.2 i hi⟩
theorem q_rInit (hs : rq_st m) : rq (rt_it (b_X12_readsAll_32 248) 4000 ((2, m))) (fun x => (∀ j, j < 2 → x 261 (2 + j) = 1000 ∧ x 262 (2 + j) = 1000) ∧ rq_fr (fun k j => (k == 261 || k == 262) && (j == 2 || j == 3)) m x) := by
  refine rq_up (fun i x => x.1 = ((2 + i : Nat) : Int) ∧ (∀ j, j < i → x.2 261 (2 + j) = 1000 ∧ x.2 262 (2 + j) = 1000) ∧ rq_fr (fun k j => (k == 261 || k == 262) && (j == 2 || j == 3)) m x.2) 2 (by decide) ?_ ?_ ?_
  · rintro i ⟨x, mm⟩ hi ⟨e1, hj, hf⟩
    dsimp only at e1 hj hf
    subst e1
    have s1 := rq_st_fr hs hf (by decide +kernel)
    unfold b_X12_readsAll_32
    dsimp only
    have f1 : rq_fr (fun k j => (k == 261 || k == 262) && (j == 2 || j == 3)) m (rt_up mm 261 (2 + i) 1000) := hf.up (by
      have : i = 0 ∨ i = 1 := by omega
      rcases this with q | q <;> subst q <;> rfl)
    have f2 : rq_fr (fun k j => (k == 261 || k == 262) && (j == 2 || j == 3)) m (rt_up (rt_up mm 261 (2 + i) 1000) 262 (2 + i) 1000) := f1.up (by
      have : i = 0 ∨ i = 1 := by omega
      rcases this with q | q <;> subst q <;> rfl)
    have s2 := rq_st_fr hs f1 (by decide +kernel)
    rw [if_neg (by omega), q_gfr, Option.bind_some, q_s8 (k := 261) _ 4 (pt_248_21 s1) kd_261 ln_261 (show 2 + i < 4 by omega), Option.bind_some, q_gfr, Option.bind_some, q_s8 (k := 262) _ 4 (pt_248_22 s2) kd_262 ln_262 (show 2 + i < 4 by omega), Option.bind_some, rq_n1 (by omega)]
    refine rq_some.mpr (rq_inl ⟨by dsimp only; omega, fun j hj2 => ?_, f2⟩)
    show rt_up (rt_up mm 261 (2 + i) 1000) 262 (2 + i) 1000 261 (2 + j) = 1000 ∧ rt_up (rt_up mm 261 (2 + i) 1000) 262 (2 + i) 1000 262 (2 + j) = 1000
    by_cases z : j = i
    · rw [z]
      refine ⟨?_, rq_upE _ _ _ _⟩
      rw [q_up, if_neg (by omega), rq_upE]
    · rw [q_up, if_neg (by omega), q_up, if_neg (by omega), q_up, if_neg (by omega), q_up, if_neg (by omega)]
      exact hj j (by omega)
  · rintro ⟨x, mm⟩ ⟨e1, hj, hf⟩
    dsimp only at e1 hj hf
    subst e1
    unfold b_X12_readsAll_32
    dsimp only
    rw [if_pos (by decide)]
    exact rq_some.mpr (rq_inre ⟨hj, hf⟩)
  · exact ⟨rfl, fun j hj => absurd hj (Nat.not_lt_zero j), rq_fr.rfl⟩
theorem q_readsAll (hs : rq_st m) (h1 : m 248 1 = (n : Int)) (ht : ∀ i, i < n → m 249 i = s i) (hok : rq_okT s n) : rq (f_X12_readsAll 248 m) (rq_ra s n m) := by
  have hn := hok.1
  obtain ⟨r0, r1, r2, r3⟩ := rq_ρ0_e
  unfold f_X12_readsAll
  rw [q_gfr, Option.bind_some, q_s9 (k := 250) _ 4 8 4 (pt_248_10 hs) kd_250 ln_250 rfl (by decide), Option.bind_some]
  have F1 : rq_fr rq_wRB m (rt_up m 250 4 0) := rq_fr.rfl.up rfl
  have s1 := rq_st_fr hs F1 rq_wRB_st
  rw [q_gfr, Option.bind_some, q_s9 (k := 250) _ 5 8 5 (pt_248_10 s1) kd_250 ln_250 rfl (by decide), Option.bind_some]
  have F2 : rq_fr rq_wRB m (rt_up (rt_up m 250 4 0) 250 5 0) := F1.up rfl
  have s2 := rq_st_fr hs F2 rq_wRB_st
  rw [q_gfr, Option.bind_some, q_s9 (k := 250) _ 6 8 6 (pt_248_10 s2) kd_250 ln_250 rfl (by decide), Option.bind_some]
  have F3 : rq_fr rq_wRB m (rt_up (rt_up (rt_up m 250 4 0) 250 5 0) 250 6 1) := F2.up rfl
  have s3 := rq_st_fr hs F3 rq_wRB_st
  rw [q_gfr, Option.bind_some, q_s9 (k := 250) _ 7 8 7 (pt_248_10 s3) kd_250 ln_250 rfl (by decide), Option.bind_some]
  have F4 : rq_fr rq_wRB m (rt_up (rt_up (rt_up (rt_up m 250 4 0) 250 5 0) 250 6 1) 250 7 0) := F3.up rfl
  have c4 : ∀ x : rt_M, x = rt_up (rt_up (rt_up (rt_up m 250 4 0) 250 5 0) 250 6 1) 250 7 0 → x 250 4 = 0 ∧ x 250 5 = 0 ∧ x 250 6 = 1 ∧ x 250 7 = 0 ∧ x 248 1 = (n : Int) ∧ ∀ i, i < n → x 249 i = s i := fun x e => by
    subst e
    exact ⟨rfl, rfl, rfl, rfl, h1, ht⟩
  generalize rt_up (rt_up (rt_up (rt_up m 250 4 0) 250 5 0) 250 6 1) 250 7 0 = m4 at F4 c4 ⊢
  obtain ⟨c41, c42, c43, c44, c45, c46⟩ := c4 m4 rfl
  have s4 := rq_st_fr hs F4 rq_wRB_st
  clear F1 F2 F3 s1 s2 s3 c4
  refine rq_call (q_rInit s4) ?_
  rintro m5 ⟨i5, f5⟩
  have g5 : ∀ a j, a ≠ 261 → a ≠ 262 → m5 a j = m4 a j := fun a j h1 h2 => f5 a j (by
    simp only [Bool.or_eq_false_iff, Bool.and_eq_false_iff, beq_eq_false_iff_ne]
    omega)
  have F5 : rq_fr rq_wRB m m5 := F4.trans (f5.mono (fun k j q => by
    have := rq_wRB_A q
    unfold rq_wRA rq_wRl at this
    simp only [Bool.or_eq_false_iff, Bool.and_eq_false_iff, beq_eq_false_iff_ne] at this ⊢
    omega))
  rw [q_pfr, Option.bind_some, q_pfr, Option.bind_some]
  have F6 : rq_fr rq_wRB m (rt_up (rt_up m5 248 26 0) 248 24 1000) := (F5.up rfl).up rfl
  have c6 : rt_up (rt_up m5 248 26 0) 248 24 1000 248 26 = 0 := rfl
  have c6' : rt_up (rt_up m5 248 26 0) 248 24 1000 248 24 = 1000 := rfl
  have g6 : ∀ a j, ¬ (a = 248 ∧ (j = 24 ∨ j = 26)) → rt_up (rt_up m5 248 26 0) 248 24 1000 a j = m5 a j := fun a j q => by rw [q_up, if_neg (fun z => q ⟨z.1, Or.inl z.2⟩), q_up, if_neg (fun z => q ⟨z.1, Or.inr z.2⟩)]
  generalize rt_up (rt_up m5 248 26 0) 248 24 1000 = m6 at F6 c6 c6' g6 ⊢
  have s6 := rq_st_fr hs F6 rq_wRB_st
  refine rq_call (q_begins s6 (s := s) (n := n) (by rw [g6 _ _ (by omega), g5 _ _ (by omega) (by omega), c45]) (fun i hi => by rw [g6 _ _ (by omega), g5 _ _ (by omega) (by omega)]; exact c46 i hi) hok) ?_
  rintro m7 ⟨ts7, ty7, z7, f7⟩
  have F7 : rq_fr rq_wRB m m7 := F6.trans (f7.mono (fun k j q => by
    have q1 := rq_w9_N (rq_w40_9 (rq_wGr_40 (rq_wGs_r (rq_wRA_s (rq_wRB_A q)))))
    unfold rq_wRB at q
    unfold rq_wN2 at q1
    simp only [Bool.or_eq_false_iff, Bool.and_eq_false_iff, beq_eq_false_iff_ne, decide_eq_false_iff_not] at q q1 ⊢
    omega))
  have s7 := rq_st_fr hs F7 rq_wRB_st
  have g7 : ∀ a j, a ≠ 248 ∨ j = 24 ∨ j = 26 → m7 a j = m6 a j := fun a j q => f7 a j (by
    simp only [Bool.or_eq_false_iff, Bool.and_eq_false_iff, beq_eq_false_iff_ne, decide_eq_false_iff_not]
    omega)
  have D7 : rq_RD (rq_sk' s n 0) rq_δ0 m7 := by
    have k5 : ∀ j, m7 250 j = m4 250 j := fun j => by rw [g7 _ _ (by omega), g6 _ _ (by omega), g5 _ _ (by omega) (by omega)]
    have i0 := i5 0 (by decide)
    have i1 := i5 1 (by decide)
    have k6 : ∀ a j, a = 261 ∨ a = 262 → m7 a j = m5 a j := fun a j q => by rw [g7 _ _ (by omega), g6 _ _ (by omega)]
    refine ⟨s7, rq_ρ0_va, ⟨⟨by show m7 250 4 = rq_ρ0.1 0 0; rw [k5, c41, r0], by show m7 250 5 = rq_ρ0.1 0 1; rw [k5, c42, r1], by show m7 250 6 = rq_ρ0.1 0 2; rw [k5, c43, r2], by show m7 250 7 = rq_ρ0.1 0 3; rw [k5, c44, r3]⟩, fun w hw => ?_, fun w hw => ?_, fun w hw => ?_⟩, by show m7 248 26 = 0; rw [g7 _ _ (by omega), c6], 0, Nat.zero_le _, by rw [g7 _ _ (by omega), c6']; rfl, Or.inl ⟨rfl, ?_, fun _ _ _ => rfl⟩, Or.inl ⟨rfl, ?_, fun _ _ _ => rfl⟩⟩
    · have hw' : (w : Int) < rq_ρ0.1 0 0 := hw
      rw [r0] at hw'; omega
    · have hw' : (w : Int) < rq_ρ0.1 0 1 := hw
      rw [r1] at hw'; omega
    · have hw' : (w : Int) < rq_ρ0.1 0 3 := hw
      rw [r3] at hw'; omega
    · rw [k6 _ _ (by omega), k6 _ _ (by omega)]
      exact i0
    · rw [k6 _ _ (by omega), k6 _ _ (by omega)]
      exact i1
  clear f5 g5 i5 g6 g7 f7 c6 c6' F4 F5 F6 s4 s6 c41 c42 c43 c44 c45 c46
  refine rq_call (rq_up (Q := fun e => match e with
      | .inl x => (rq_rpA s n).1 = 0 ∧ (∃ b, b ≤ 1000 ∧ rq_RD b (rq_rpA s n).2 x) ∧ x 248 1 = 0 ∧ rq_fr rq_wRB m x
      | .inr q => q.1 = 0 ∧ (rq_rpA s n).1 ≠ 0 ∧ q.2 248 9 = (rq_rpA s n).1 ∧ q.2 248 1 = 0 ∧ rq_fr rq_wRB m q.2) (fun i x => (∃ b δ, i ≤ b ∧ i ≤ 1000 ∧ rq_nmb δ.1 ∧ rq_bp s n b ∧ rq_ts s n b x ∧ rq_RD b δ x ∧ rq_rp s n (1000 - i) b δ = rq_rpA s n) ∧ rq_ty s n x ∧ x 248 1 = 0 ∧ rq_fr rq_wRB m x) 1000 (by decide) ?_ ?_ ?_) ?_
  · rintro i mm hi ⟨⟨b, δ, ib, i1, nm, bp, ts, rd, er⟩, ty, z1, hf⟩
    rw [show 1000 - i = (999 - i) + 1 by omega, rq_rp_s] at er
    have t0 := rq_tn_0 hok bp
    by_cases z : rq_kd s n b = 37
    · rw [if_pos z] at er
      unfold b_X12_readsAll_77
      rw [q_gfr, Option.bind_some, ts.2.2.2.1, if_pos (t0.mpr z)]
      refine rq_some.mpr (rq_inr ?_)
      dsimp only
      rw [← er]
      have bn := bp.1
      exact ⟨rfl, ⟨b, by omega, rd⟩, z1, hf⟩
    · rw [if_neg z] at er
      have o := rq_rl_o hok (rq_kd_lt z) rd.2.1 nm
      refine rq_mono (q_rBody rd ty hok bp ts z) ?_
      intro t h3
      cases e : rq_rl δ s n b with
      | inl q =>
        rw [e] at er o h3
        dsimp only at er
        obtain ⟨o1, o2⟩ := o
        obtain ⟨m3, et, e9, f3⟩ := h3
        subst et
        refine rq_inr ?_
        dsimp only
        rw [← er]
        exact ⟨rfl, by dsimp only; omega, e9, by rw [f3 248 1 rfl, z1], hf.trans (f3.mono (fun _ _ => rq_wRB_A))⟩
      | inr q =>
        rw [e] at er o h3
        dsimp only at er
        obtain ⟨o1, o2, o3, o4⟩ := o
        obtain ⟨m3, et, ts3, rd3, f3⟩ := h3
        subst et
        refine rq_inl ⟨⟨q.2, q.1, by omega, by omega, o4, o1, ts3, rd3, ?_⟩, rq_ty_A ty f3, by rw [f3 248 1 rfl, z1], hf.trans (f3.mono (fun _ _ => rq_wRB_A))⟩
        rw [show 1000 - (i + 1) = 999 - i by omega]
        exact er
  · rintro mm ⟨⟨b, δ, ib, i1, nm, bp, ts, rd, er⟩, ty, z1, hf⟩
    have bn := bp.1
    have t0 := rq_tn_0 hok bp
    have z : rq_kd s n b = 37 := rq_kd_37.mpr (by omega)
    have er' : ((0 : Int), δ) = rq_rpA s n := er
    unfold b_X12_readsAll_77
    rw [q_gfr, Option.bind_some, ts.2.2.2.1, if_pos (t0.mpr z)]
    refine rq_some.mpr (rq_inre ?_)
    dsimp only
    rw [← er']
    exact ⟨rfl, ⟨b, by omega, rd⟩, z1, hf⟩
  · exact ⟨⟨_, rq_δ0, Nat.zero_le _, by decide, rq_ρ0_nmb, rq_bp_sk (Nat.zero_le n), ts7, D7, rfl⟩, ty7, z7, F7⟩
  · rintro (e | t) q
    · exact rq_some.mpr ⟨q.2.2.2, q.2.2.1, Or.inl ⟨q.1, rfl, q.2.1⟩⟩
    · exact rq_some.mpr ⟨q.2.2.2.2, q.2.2.2.1, Or.inr ⟨q.2.1, q.1, q.2.2.1⟩⟩
end
