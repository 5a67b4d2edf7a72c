/-! Layer 3: match -/
section
variable {r : Nat} {ρ : rq_R} {A : rq_A} {c : Nat} {m : rt_M} {S : rq_S}
/-- the heads below i are done, the others have not asked -/
def rq_mU (ρ : rq_R) (S : rq_S) (i : Nat) (a : Nat → Nat) (k : Nat → Int) : Prop :=
  rq_mS (ρ.1 0 0).toNat (ρ.1 0 1).toNat (rq_mA ρ S (S 0).toNat) (rq_mO ρ) (rq_mT ρ (S 0).toNat) a k ∧ rq_mL (ρ.1 0 0).toNat (ρ.1 0 1).toNat (rq_mA ρ S (S 0).toNat) (rq_mO ρ) (rq_mT ρ (S 0).toNat) a ∧
  (∀ v u, v < (ρ.1 0 0).toNat → u < (ρ.1 0 0).toNat → k v = k u → k v ≠ -1 → v = u) ∧ (∀ x, i ≤ x → a x = 0) ∧ ∀ x, x < i → rq_mX ρ S (S 0).toNat x a k
theorem q_chains (hD : rq_D ρ m) (hS : rq_sr S m) (hv : rq_vs ρ S) {i : Nat} (hi : i < (ρ.1 0 1).toNat) {w0 : Int} (hm : ∃ a k, rq_mn a k m ∧ rq_mV ρ S i (i : Int) w0 a k) : rq (rt_it (b_X12_laysMatch_48 248 (i : Int)) 4000 ((i : Int), w0, m)) (fun m1 => (∃ a k, rq_mn a k m1 ∧ rq_mU ρ S (i + 1) a k) ∧ rq_fr rq_wLm m m1) := by
  have hb := hD.2.1.1
  have ends : ∀ (hc wc : Int) (a : Nat → Nat) (k : Nat → Int), rq_mV ρ S i hc wc a k → hc < 0 ∨ wc < 0 → rq_mU ρ S (i + 1) a k := by
    intro hc wc a k ⟨v1, v2, v3, v4, v5⟩ hneg
    refine ⟨v1, v2, v3, fun x hx => v4 x (by omega), fun x hx => ?_⟩
    rcases v5 with ⟨-, all⟩ | ⟨h, hh, hhi, e1, e2, free, all⟩
    · exact all x (by omega)
    · by_cases z : x = h
      · subst z
        refine Or.inr (fun w hw ac => ?_)
        rcases rq_bw_at (rq_mp1 ρ S (S 0).toNat a x) (rq_mO ρ) (ρ.1 0 0).toNat with ⟨-, no⟩ | ⟨w1, hw1, ew1, -⟩
        · exact rq_mp1_f (no w hw) ac
        · omega
      · exact all x (by omega) z
  have step : ∀ (n : Nat) (s : Int × Int × rt_M), (∃ a k, rq_mn a k s.2.2 ∧ rq_mV ρ S i s.1 s.2.1 a k ∧ (n : Int) ≤ rq_mc (ρ.1 0 0).toNat a (ρ.1 0 1).toNat) → rq_fr rq_wLm m s.2.2 →
      rq (b_X12_laysMatch_48 248 (i : Int) s) (fun t => (∀ s', t = .inl s' → (∃ a k, rq_mn a k s'.2.2 ∧ rq_mV ρ S i s'.1 s'.2.1 a k ∧ ((n + 1 : Nat) : Int) ≤ rq_mc (ρ.1 0 0).toNat a (ρ.1 0 1).toNat) ∧ rq_fr rq_wLm m s'.2.2) ∧ ∀ e, t = .inr e → (∃ a k, rq_mn a k e ∧ rq_mU ρ S (i + 1) a k) ∧ rq_fr rq_wLm m e) := by
    rintro n ⟨hc, wc, mm⟩ ⟨a, k, hmn, hV, hn⟩ hf
    dsimp only at hmn hV hf
    by_cases z1 : hc < 0
    · unfold b_X12_laysMatch_48
      dsimp only
      rw [if_pos z1]
      exact rq_some.mpr (rq_inr ⟨⟨a, k, hmn, ends hc wc a k hV (Or.inl z1)⟩, hf⟩)
    · by_cases z2 : wc < 0
      · unfold b_X12_laysMatch_48
        dsimp only
        rw [if_neg z1, if_pos z2]
        exact rq_some.mpr (rq_inr ⟨⟨a, k, hmn, ends hc wc a k hV (Or.inr z2)⟩, hf⟩)
      · obtain ⟨h, rfl⟩ := Int.eq_ofNat_of_zero_le (show 0 ≤ hc by omega)
        obtain ⟨w, rfl⟩ := Int.eq_ofNat_of_zero_le (show 0 ≤ wc by omega)
        have hh : h < (ρ.1 0 1).toNat := by
          rcases hV.2.2.2.2 with ⟨e, -⟩ | ⟨h', hh', -, e, -⟩ <;> omega
        refine rq_mono (q_chain (rq_D_wL hD hf) (rq_sr_wL hS hf) hv hi hmn hV hh hn) ?_
        rintro t ⟨h', w', m', a', k', rfl, b1, b2, b3, b4⟩
        exact rq_inl ⟨⟨a', k', b1, b2, b3⟩, hf.trans b4⟩
  refine rq_up (fun n s => (∃ a k, rq_mn a k s.2.2 ∧ rq_mV ρ S i s.1 s.2.1 a k ∧ (n : Int) ≤ rq_mc (ρ.1 0 0).toNat a (ρ.1 0 1).toNat) ∧ rq_fr rq_wLm m s.2.2) 37 (by decide) (fun n s _ h => step n s h.1 h.2) ?_ ?_
  · rintro s ⟨⟨a, k, -, -, h3⟩, -⟩
    have mb := rq_mc_b (ρ.1 0 0).toNat (ρ.1 0 1).toNat a (by omega) (by omega)
    omega
  · obtain ⟨a, k, h1, h2⟩ := hm
    refine ⟨⟨a, k, h1, h2, ?_⟩, rq_fr.rfl⟩
    have := rq_sum_b (f := fun h : Nat => rq_sum (fun w : Nat => if (a h).testBit w = true then (1 : Int) else 0) (ρ.1 0 0).toNat) (c := 6) (by decide) (ρ.1 0 1).toNat (fun i _ => by
      have := rq_sum_b (f := fun w : Nat => if (a i).testBit w = true then (1 : Int) else 0) (c := 1) (by decide) (ρ.1 0 0).toNat (fun i _ => by split <;> decide)
      omega)
    exact this.1
theorem q_laysMatch (hD : rq_D ρ m) (hS : rq_sr S m) (hv : rq_vs ρ S) : rq (f_X12_laysMatch 248 m) (fun m1 => (∃ k, rq_mR ρ S (S 0).toNat k ∧ ∀ w, w < 6 → m1 299 w = k w) ∧ rq_fr rq_wLm m m1) := by
  have hb := hD.2.1.1
  unfold f_X12_laysMatch
  refine rq_call (rq_up (Q := fun m1 => rq_mn (fun _ => 0) (fun _ => -1) m1 ∧ rq_fr rq_wLm m m1) (fun i s => s.1 = (i : Int) ∧ (∀ j, j < i → s.2 298 j = 0 ∧ s.2 299 j = -1) ∧ rq_fr rq_wLm m s.2) 6 (by decide) ?_ ?_ (by exact ⟨rfl, fun j hj => absurd hj (Nat.not_lt_zero _), rq_fr.rfl⟩)) ?_
  · rintro i ⟨x, mm⟩ hi ⟨e1, e2, hf⟩
    dsimp only at e1 e2 hf
    subst e1
    have hD1 := rq_D_wL hD hf
    have f2 : rq_fr rq_wLm m (rt_up mm 298 i 0) := hf.up rfl
    have hD2 := rq_D_wL hD f2
    unfold b_X12_laysMatch_2
    dsimp only
    rw [if_neg (by omega), q_gfr, Option.bind_some, q_s8 (k := 298) _ 6 (pt_248_69 hD1.1) kd_298 ln_298 hi, Option.bind_some, q_gfr, Option.bind_some, q_s8 (k := 299) _ 6 (pt_248_70 hD2.1) kd_299 ln_299 hi, Option.bind_some, rq_n1 (by omega)]
    refine rq_some.mpr (rq_inl ⟨rfl, fun j hj => ⟨?_, ?_⟩, f2.up rfl⟩)
    · show rt_up (rt_up mm 298 i 0) 299 i (-1) 298 j = _
      rw [q_up, if_neg (by omega), q_up]
      by_cases z : j = i
      · rw [if_pos ⟨rfl, z⟩]
      · rw [if_neg (fun y => z y.2)]; exact (e2 j (by omega)).1
    · show rt_up (rt_up mm 298 i 0) 299 i (-1) 299 j = _
      rw [q_up]
      by_cases z : j = i
      · rw [if_pos ⟨rfl, z⟩]
      · rw [if_neg (fun y => z y.2), q_up, if_neg (by omega)]; exact (e2 j (by omega)).2
  · rintro ⟨x, mm⟩ ⟨e1, e2, hf⟩
    dsimp only at e1 e2 hf
    unfold b_X12_laysMatch_2
    dsimp only
    rw [if_pos (by omega)]
    exact rq_some.mpr (rq_inre ⟨⟨fun w hw => (e2 w hw).2, fun h hh => ⟨show 0 < 64 by decide, (e2 h hh).1⟩⟩, hf⟩)
  · rintro m1 ⟨hm1, f1⟩
    have hD1 := rq_D_wL hD f1
    have hS1 := rq_sr_wL hS f1
    have z0 := @rq_m_0 (ρ.1 0 0).toNat (ρ.1 0 1).toNat (rq_mA ρ S (S 0).toNat) (rq_mO ρ) (rq_mT ρ (S 0).toNat)
    refine rq_call (rq_up (Q := fun m2 => (∃ a k, rq_mn a k m2 ∧ rq_mU ρ S (ρ.1 0 1).toNat a k) ∧ rq_fr rq_wLm m1 m2) (fun i s => s.1 = (i : Int) ∧ (∃ a k, rq_mn a k s.2 ∧ rq_mU ρ S i a k) ∧ rq_fr rq_wLm m1 s.2) (ρ.1 0 1).toNat (by omega) ?_ ?_ ?_) ?_
    · rintro i ⟨x, mm⟩ hi ⟨e1, ⟨a, k, hmn, u1, u2, u3, u4, u5⟩, hf⟩
      dsimp only at e1 hmn hf
      subst e1
      have hD2 := rq_D_wL hD1 hf
      have hS2 := rq_sr_wL hS1 hf
      unfold b_X12_laysMatch_30
      dsimp only
      rw [q_gfr, Option.bind_some, q_rn1 hD2 1 rfl, Option.bind_some, if_neg (by omega)]
      refine rq_call (q_wishes hD2 hS2 hv hmn (h := i) (by omega)) ?_
      rintro ⟨w0, m3⟩ ⟨e3, f3⟩
      dsimp only at e3 f3 ⊢
      have f3' : rq_fr rq_wLm mm m3 := f3.mono (fun _ _ => rq_wL_F)
      refine rq_call (q_chains (rq_D_wL hD2 f3') (rq_sr_wL hS2 f3') hv hi (w0 := w0) ⟨a, k, rq_mn_F hmn f3, u1, u2, u3, fun x hx => u4 x (by omega), Or.inr ⟨i, hi, Nat.le_refl i, rfl, e3, fun v hv2 y => ?_, fun x hx hne => u5 x (by omega)⟩⟩) ?_
      · rcases u1.2.2 v hv2 with ⟨q, -⟩ | ⟨h0, h0H, q, b1, -⟩
        · omega
        · have e0 : h0 = i := by omega
          rw [e0, u4 i (Nat.le_refl i)] at b1
          simp at b1
      · rintro m4 ⟨b1, b2⟩
        rw [rq_n1 (by omega)]
        exact rq_some.mpr (rq_inl ⟨rfl, b1, (hf.trans f3').trans b2⟩)
    · rintro ⟨x, mm⟩ ⟨e1, e2, hf⟩
      dsimp only at e1 e2 hf
      have hD2 := rq_D_wL hD1 hf
      unfold b_X12_laysMatch_30
      dsimp only
      rw [q_gfr, Option.bind_some, q_rn1 hD2 1 rfl, Option.bind_some, if_pos (by omega)]
      exact rq_some.mpr (rq_inre ⟨e2, hf⟩)
    · exact ⟨rfl, ⟨_, _, hm1, z0.1, z0.2, fun v u _ _ _ q => absurd rfl q, fun _ _ => rfl, fun x hx => absurd hx (Nat.not_lt_zero x)⟩, rq_fr.rfl⟩
    · rintro m2 ⟨⟨a, k, hmn, u1, u2, u3, u4, u5⟩, f2⟩
      exact rq_some.mpr ⟨⟨k, ⟨a, u1, fun x hx => u5 x hx, u2⟩, hmn.1⟩, f1.trans f2⟩
theorem q_match12 (h : rq_J r ρ A c m) {d : Nat} (hd : (d : Int) < ρ.1 0 1) : rq (f_X12_match 248 (d : Int) m) (fun p => (∃ k, rq_mR ρ A.1 (A.1 0).toNat k ∧ p.1 = rq_fst (fun w => k w == (d : Int)) (ρ.1 0 0).toNat) ∧ rq_fr rq_WQ m p.2) := by
  have hb := h.1.2.2.1.1
  obtain ⟨m2, e2, h2, f2⟩ := q_thr h 0
  unfold f_X12_match
  rw [e2, Option.bind_some, q_rihT h2.2.1 (by omega) hd, Option.bind_some, if_neg (by decide)]
  refine rq_call (q_laysMatch h2.2.1 (q_Sr h2) h2.2.2.2.2.2.1.1) ?_
  rintro m3 ⟨⟨k, hR, hk⟩, f3⟩
  have f3' : rq_fr rq_WQ m2 m3 := f3.mono (fun _ _ => rq_WQ_L)
  have h3 := rq_J_fr h2 f3' (Nat.le_refl c)
  refine rq_call (rq_up (Q := fun e => match e with
      | .inl x => rq_fst (fun w => k w == (d : Int)) (ρ.1 0 0).toNat = -1 ∧ x = m3
      | .inr t => rq_fst (fun w => k w == (d : Int)) (ρ.1 0 0).toNat = t.1 ∧ t.2 = m3) (fun i s => s.1 = (i : Int) ∧ s.2 = m3 ∧ ∀ j, j < i → (k j == (d : Int)) = false) (ρ.1 0 0).toNat (by omega) ?_ ?_ ⟨rfl, rfl, fun j hj => absurd hj (Nat.not_lt_zero _)⟩) ?_
  · rintro i ⟨x, mm⟩ hi ⟨e1, e3, hj⟩
    dsimp only at e1 e3
    subst e1 e3
    unfold b_X12_match_22
    dsimp only
    rw [q_gfr, Option.bind_some, q_rn0 h3.2.1 0 rfl, Option.bind_some, if_neg (by omega), q_gfr, Option.bind_some, q_a8 (k := 299) _ 6 (pt_248_70 h3.1.1) kd_299 ln_299 (by omega), Option.bind_some, hk i (by omega)]
    by_cases q : k i = (d : Int)
    · rw [if_pos q]
      exact rq_map.mpr (rq_some.mpr (rq_inr ⟨rq_fst_some hi (by simp [q]) hj, rfl⟩))
    · rw [if_neg q, rq_n1 (by omega)]
      refine rq_some.mpr (rq_inl ⟨rfl, rfl, fun j hj2 => ?_⟩)
      by_cases z : j = i
      · subst z; simp [q]
      · exact hj j (by omega)
  · rintro ⟨x, mm⟩ ⟨e1, e3, hj⟩
    dsimp only at e1 e3
    subst e1 e3
    unfold b_X12_match_22
    dsimp only
    rw [q_gfr, Option.bind_some, q_rn0 h3.2.1 0 rfl, Option.bind_some, if_pos (by omega)]
    exact rq_some.mpr (rq_inre ⟨rq_fst_none hj, rfl⟩)
  · rintro (e | t) ⟨q1, q2⟩
    · subst q2
      exact rq_some.mpr ⟨⟨k, hR, q1.symm⟩, f2.trans f3'⟩
    · refine rq_some.mpr ⟨⟨k, hR, q1.symm⟩, ?_⟩
      rw [q2]; exact f2.trans f3'
theorem q_match11 (h : rq_J r ρ A c m) {d : Nat} (hd : (d : Int) < ρ.1 0 1) : rq (f_X11_match 41 (d : Int) m) (fun p => (∃ k, rq_mR ρ A.1 (A.1 0).toNat k ∧ p.1 = rq_fst (fun w => k w == (d : Int)) (ρ.1 0 0).toNat) ∧ rq_fr rq_WQ m p.2) := by
  have s0 := q_sea0 h
  have hv := h.2.2.2.2.2.1.1
  unfold f_X11_match
  rw [q_told h, Option.bind_some, q_gd4 h.1, q_isHeadT h.1 (show 0 ≤ (d : Int) by omega) hd, Option.bind_some, if_neg (by decide), q_fit h.1.1, Option.bind_some, Option.bind_some, q_now h.1.1, Option.bind_some, q_nst h.1.1, Option.bind_some, q_sea h, Option.bind_some, q_gd1]
  have hm := q_measure h (t := (A.1 0).toNat) (by have := hv.2.1; omega)
  rw [← s0] at hm
  refine rq_call hm ?_
  rintro m2 ⟨ml, f2⟩
  have f2' : rq_fr rq_WQ m m2 := f2.mono (fun _ _ => rq_WQ_Ti)
  have h2 := rq_J_fr h f2' (Nat.le_refl c)
  rw [q_fit h2.1.1, Option.bind_some, q_told h2, Option.bind_some, q_now h2.1.1, Option.bind_some, q_nst h2.1.1, Option.bind_some, Option.bind_some, q_gd7 q_b49, q_wornOut h2.1 (q_Sc h2), Option.bind_some, q_gd1]
  refine rq_call (q_matched h2 (S := A.1) (t := (A.1 0).toNat) ml d) ?_
  rintro ⟨v, m3⟩ ⟨e, f3⟩
  dsimp only at e f3 ⊢
  exact rq_some.mpr ⟨e, f2'.trans (f3.mono (fun _ _ => rq_WQ_K))⟩
theorem L_match (hI : rq_I c m) (a : Int) : rq (f_X11_match 41 a m) (fun p => rq (f_X12_match 248 a p.2) (fun q => q.1 = p.1 ∧ rq_I (c + 1) q.2)) := by
  obtain ⟨r, ρ, A, h⟩ := hI
  by_cases ha : 0 ≤ a ∧ a < ρ.1 0 1
  · obtain ⟨d, rfl⟩ := Int.eq_ofNat_of_zero_le ha.1
    obtain ⟨p, ep, ⟨k, hR, hp⟩, hf⟩ := q_match11 h ha.2
    refine rq_pair (v := p.1) (o2 := f_X12_match 248 (d : Int)) h ⟨p, ep, rfl, hf⟩ (fun m1 h1 => ?_)
    refine rq_mono (q_match12 h1 ha.2) ?_
    rintro q ⟨⟨k2, hR2, hq⟩, hf2⟩
    refine ⟨?_, hf2⟩
    rw [hq, hp]
    rcases rq_fst_cases (fun w => k w == (d : Int)) (ρ.1 0 0).toNat with ⟨i, hi, e, pi, no⟩ | ⟨e, no⟩
    · rw [e]
      exact rq_fst_some hi (by rw [← rq_mR_u hR hR2 hi]; exact pi) (fun j hj => by rw [← rq_mR_u hR hR2 (show j < (ρ.1 0 0).toNat by omega)]; exact no j hj)
    · rw [e]
      exact rq_fst_none (fun j hj => by rw [← rq_mR_u hR hR2 hj]; exact no j hj)
  · refine rq_pair (v := -2) (o2 := f_X12_match 248 a) h ?_ (fun m1 h1 => ?_)
    · unfold f_X11_match
      rw [q_told h, Option.bind_some, q_gd4 h.1, q_isHeadF h.1 ha, Option.bind_some, if_pos rfl]
      exact rq_some.mpr ⟨rfl, rq_fr.rfl⟩
    · obtain ⟨m2, e2, h2, f2⟩ := q_thr h1 0
      unfold f_X12_match
      rw [e2, Option.bind_some, q_rihF h2.2.1 ha, Option.bind_some, if_pos rfl]
      exact rq_some.mpr ⟨rfl, f2⟩
end
