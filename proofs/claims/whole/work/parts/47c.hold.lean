/-! Layer 3: what is remembered, the reference -/
section
variable {r : Nat} {ρ : rq_R} {A A' : rq_A} {c c' : Nat} {m m' : rt_M}
theorem q_holds (hs : rq_st m) {S : rq_S} (hS : rq_sr S m) {U : Nat → rq_S} {n : Nat} (hn : n ≤ 16) (hu : rq_ur U n m) : rq (f_X12_holds 248 m) (fun m1 => rq_ur (rq_cons S U) (if n < 16 then n + 1 else 16) m1 ∧ rq_sr S m1 ∧ rq_fr (fun k j => (k == 248 && j == 55) || k == 288) m m1) := by
  have stW : (rq_P.all fun p => !((fun k j => (k == 248 && j == 55) || k == 288) p.1 p.2.1 : Bool)) = true := by decide +kernel
  have last : ∀ (V : Nat → rq_S) (k : Nat) (m0 : rt_M), rq_st m0 → rq_fr (fun k j => (k == 248 && j == 55) || k == 288) m m0 → k < 16 → m0 248 55 = (k : Int) → (∀ i, i < k → ∀ j, j < 13 → m0 288 (13 * (k - 1 - i) + j) = V i j) → rq (j_X12_holds_49 248 m0) (fun m1 => rq_ur (rq_cons S V) (k + 1) m1 ∧ rq_sr S m1 ∧ rq_fr (fun k j => (k == 248 && j == 55) || k == 288) m m1) := by
    intro V k m0 hs0 hf0 hk h55 hV
    unfold j_X12_holds_49
    simp only [q_gfr, Option.bind_some]
    rw [h55, rq_imul (by omega) (by omega)]
    refine rq_call (q_copies 285 288 0 (13 * k) 13 208 _ _ 0 _ (pt_248_50 hs0) (pt_248_53 hs0) rfl (by omega) kd_285 ln_285 (by decide) kd_288 ln_288 (by omega) (by decide) (by decide) (by decide)) ?_
    rintro m1 ⟨c1, hf⟩
    rw [show m1 248 55 = (k : Int) by rw [hf 248 55 (by unfold rq_row; simp)]; exact h55, rq_iadd (by omega) (by omega), q_pfr, Option.bind_some]
    refine rq_some.mpr ⟨⟨?_, fun i hi j hj => ?_⟩, fun i hi => ?_, (hf0.trans (hf.mono (fun a j q => ?_))).up rfl⟩
    · rw [q_up, if_pos ⟨rfl, rfl⟩]; omega
    · rw [q_up, if_neg (by omega)]
      unfold rq_cons
      by_cases i0 : i = 0
      · subst i0
        rw [if_pos rfl, show k + 1 - 1 - 0 = k by omega, c1 j hj, show 0 + j = j by omega, hf0 285 j rfl]
        exact hS j hj
      · rw [if_neg i0, show k + 1 - 1 - i = k - 1 - (i - 1) by omega, hf 288 _ (by unfold rq_row; simp; omega)]
        exact hV (i - 1) (by omega) j hj
    · rw [q_up, if_neg (by omega), hf 285 i (by unfold rq_row; simp), hf0 285 i rfl]
      exact hS i hi
    · unfold rq_row
      simp only [Bool.or_eq_false_iff, Bool.and_eq_false_iff, beq_eq_false_iff_ne] at q ⊢
      omega
  unfold f_X12_holds
  rw [q_gfr, Option.bind_some, hu.1]
  by_cases h16 : n = 16
  · subst h16
    rw [if_pos (show ((16 : Nat) : Int) = 16 from rfl), if_neg (by decide)]
    refine rq_call (rq_up (Q := fun e => rq_fr (fun k _ => k == 288) m e ∧ ∀ j, j < 195 → e 288 j = m 288 (j + 13)) (fun i s => s.1 = (i : Int) ∧ rq_fr (fun k _ => k == 288) m s.2 ∧ (∀ j, j < i → s.2 288 j = m 288 (j + 13)) ∧ ∀ j, i ≤ j → s.2 288 j = m 288 j) 195 (by decide) ?_ ?_ ⟨rfl, rq_fr.rfl, fun j hj => absurd hj (Nat.not_lt_zero _), fun j _ => rfl⟩) ?_
    · rintro i ⟨x, mm⟩ hi ⟨e1, hf, g1, g2⟩
      dsimp only at e1 hf g1 g2
      subst e1
      have hs1 := rq_st_fr hs hf (by decide +kernel)
      unfold b_X12_holds_11
      dsimp only
      rw [if_neg (by omega), q_gfr, Option.bind_some, Option.bind_some, rq_iadd (by omega) (by omega), show (i : Int) + 13 = ((i + 13 : Nat) : Int) by omega, q_a8 (k := 288) _ 208 (pt_248_53 hs1) kd_288 ln_288 (by omega), Option.bind_some, q_s8 (k := 288) _ 208 (pt_248_53 hs1) kd_288 ln_288 (by omega), Option.bind_some, rq_n1 (by omega), g2 (i + 13) (by omega)]
      refine rq_some.mpr (rq_inl ⟨rfl, hf.up rfl, fun j hj => ?_, fun j hj => ?_⟩)
      · show rt_up mm 288 i (m 288 (i + 13)) 288 j = _
        rw [q_up]
        by_cases z : j = i
        · subst z; rw [if_pos ⟨rfl, rfl⟩]
        · rw [if_neg (by omega)]; exact g1 j (by omega)
      · show rt_up mm 288 i (m 288 (i + 13)) 288 j = _
        rw [q_up, if_neg (by omega)]; exact g2 j (by omega)
    · rintro ⟨x, mm⟩ ⟨e1, hf, g1, g2⟩
      dsimp only at e1 hf g1 g2
      subst e1
      unfold b_X12_holds_11
      dsimp only
      rw [if_pos (by omega)]
      exact rq_some.mpr (rq_inre ⟨hf, g1⟩)
    · rintro m1 ⟨hf, g1⟩
      have f55 : m1 248 55 = 16 := by rw [hf 248 55 rfl]; exact hu.1
      rw [q_gfr, Option.bind_some, f55, rq_isub (by decide) (by decide), q_pfr, Option.bind_some]
      have f1 : rq_fr (fun k j => (k == 248 && j == 55) || k == 288) m (rt_up m1 248 55 (16 - 1)) := (hf.mono (fun a j q => by simp only [Bool.or_eq_false_iff] at q; exact q.2)).up rfl
      refine rq_mono (last U 15 (rt_up m1 248 55 (16 - 1)) (rq_st_fr hs f1 stW) f1 (by decide) ?_ ?_) ?_
      · rw [q_up, if_pos ⟨rfl, rfl⟩]; rfl
      · intro i hi j hj
        rw [q_up, if_neg (by omega), g1 _ (by omega)]
        have e : 13 * (15 - 1 - i) + j + 13 = 13 * (16 - 1 - i) + j := by omega
        rw [e]
        exact hu.2 i (by omega) j hj
      · rintro m2 ⟨q1, q2, q3⟩
        refine ⟨⟨q1.1, fun i hi j hj => ?_⟩, q2, q3⟩
        exact q1.2 i hi j hj
  · rw [if_neg (by omega), if_pos (by omega)]
    exact last U n m hs rq_fr.rfl (by omega) hu.1 hu.2
theorem q_forgets (hs : rq_st m) : rq (f_X0_forgetTilts ((48 : Nat) : Int) m) (fun m1 => (∀ w, w < 6 → m1 60 w = -1) ∧ rq_fr (rq_row 60 0 6) m m1) := by
  have st := @rq_row_st 60 0 6 kd_60
  unfold f_X0_forgetTilts
  refine rq_call (rq_up (Q := fun m1 => (∀ w, w < 6 → m1 60 w = -1) ∧ rq_fr (rq_row 60 0 6) m m1) (fun i s => s.1 = (i : Int) ∧ (∀ j, j < i → s.2 60 j = -1) ∧ rq_fr (rq_row 60 0 6) m s.2) 6 (by decide) ?_ ?_ ⟨rfl, fun j hj => absurd hj (Nat.not_lt_zero _), rq_fr.rfl⟩) (fun e q => rq_some.mpr q)
  · rintro i ⟨x, mm⟩ hi ⟨e1, hj, hf⟩
    dsimp only at e1 hj hf
    subst e1
    have hs1 := rq_st_fr hs hf st
    unfold b_X0_forgetTilts_2
    dsimp only
    rw [if_neg (by omega), q_nti hs1, Option.bind_some, q_sa kd_60 ln_60 hi, Option.bind_some, rq_n1 (by omega)]
    refine rq_some.mpr (rq_inl ⟨rfl, fun j hj2 => ?_, hf.up (by unfold rq_row; simp; omega)⟩)
    show rt_up mm 60 i (-1) 60 j = _
    rw [q_up]
    by_cases z : j = i
    · rw [if_pos ⟨rfl, z⟩]
    · rw [if_neg (by omega)]; exact hj j (by omega)
  · rintro ⟨x, mm⟩ ⟨e1, hj, hf⟩
    dsimp only at e1 hj hf
    subst e1
    unfold b_X0_forgetTilts_2
    dsimp only
    rw [if_pos (by omega)]
    exact rq_some.mpr (rq_inre ⟨hj, hf⟩)
end
