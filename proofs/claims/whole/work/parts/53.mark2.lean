/-! Layer 3: the reference's copies of lines and sayings -/
def rq_wL (t k j : Nat) : Bool := (k == 276 && j == t) || ((k == 277 || k == 278 || k == 279) && decide (40 * t ≤ j) && decide (j < 40 * t + 40))
def rq_wZ (t k j : Nat) : Bool := (k == 280 && j == t) || ((k == 281 || k == 282 || k == 283) && decide (8 * t ≤ j) && decide (j < 8 * t + 8)) || (k == 284 && decide (6 * t ≤ j) && decide (j < 6 * t + 6))
section
variable {ρ : rq_R} {m : rt_M}
theorem rq_wL_st (t : Nat) : (rq_P.all fun p => !(rq_wL t p.1 p.2.1)) = true := by
  have hP : rq_P.all (fun p => decide (p.1 < 276)) = true := by decide +kernel
  rw [List.all_eq_true] at hP ⊢
  intro p hp
  have := hP p hp
  simp only [decide_eq_true_eq] at this
  unfold rq_wL
  simp
  omega
theorem rq_wZ_st (t : Nat) : (rq_P.all fun p => !(rq_wZ t p.1 p.2.1)) = true := by
  have hP : rq_P.all (fun p => decide (p.1 < 276)) = true := by decide +kernel
  rw [List.all_eq_true] at hP ⊢
  intro p hp
  have := hP p hp
  simp only [decide_eq_true_eq] at this
  unfold rq_wZ
  simp
  omega
theorem q_laysLines (hs : rq_st m) {s t : Nat} (h1 : s < 6) (h2 : t < 6) (hne : s ≠ t) : rq (f_X12_laysLines 248 (s : Int) (t : Int) m) (fun m1 => m1 276 t = m 276 s ∧ (∀ i, i < 40 → m1 277 (40 * t + i) = m 277 (40 * s + i) ∧ m1 278 (40 * t + i) = m 278 (40 * s + i) ∧ m1 279 (40 * t + i) = m 279 (40 * s + i)) ∧ rq_fr (rq_wL t) m m1) := by
  unfold f_X12_laysLines
  simp only [q_gfr, Option.bind_some]
  rw [q_a8 (k := 276) _ 6 (pt_248_41 hs) kd_276 ln_276 h1, Option.bind_some, q_s8 (k := 276) _ 6 (pt_248_41 hs) kd_276 ln_276 h2, Option.bind_some]
  have f0 : rq_fr (rq_wL t) m (rt_up m 276 t (m 276 s)) := rq_fr.rfl.up (by unfold rq_wL; simp)
  have frr : ∀ {mm : rt_M}, rq_fr (rq_wL t) m mm → ∀ a j, (a = 277 ∨ a = 278 ∨ a = 279) → 40 * s ≤ j → j < 40 * s + 40 → mm a j = m a j := by
    intro mm hf a j q q1 q2
    refine hf a j ?_
    unfold rq_wL
    simp only [Bool.or_eq_false_iff, Bool.and_eq_false_iff, beq_eq_false_iff_ne, decide_eq_false_iff_not]
    omega
  have em : ∀ (u i : Nat), u < 6 → i < 40 → rt_iadd (rt_imul 40 (u : Int)) (i : Int) = ((40 * u + i : Nat) : Int) := by
    intro u i q1 q2
    rw [rq_imul (by omega) (by omega), rq_iadd (by omega) (by omega)]; omega
  refine rq_call (rq_up (Q := fun m1 => m1 276 t = m 276 s ∧ (∀ i, i < 40 → m1 277 (40 * t + i) = m 277 (40 * s + i) ∧ m1 278 (40 * t + i) = m 278 (40 * s + i) ∧ m1 279 (40 * t + i) = m 279 (40 * s + i)) ∧ rq_fr (rq_wL t) m m1) (fun i x => x.1 = (i : Int) ∧ x.2 276 t = m 276 s ∧ (∀ j, j < i → x.2 277 (40 * t + j) = m 277 (40 * s + j) ∧ x.2 278 (40 * t + j) = m 278 (40 * s + j) ∧ x.2 279 (40 * t + j) = m 279 (40 * s + j)) ∧ rq_fr (rq_wL t) m x.2) 40 (by decide) ?_ ?_ (by exact ⟨rfl, rt_up_same _ _ _ _, fun j hj => absurd hj (Nat.not_lt_zero _), f0⟩)) (fun e q => rq_some.mpr q)
  · rintro i ⟨x, mm⟩ hi ⟨e1, g0, gj, hf⟩
    dsimp only at e1 g0 gj hf
    subst e1
    have hs0 := rq_st_fr hs hf (rq_wL_st t)
    have f1 : rq_fr (rq_wL t) m (rt_up mm 277 (40 * t + i) (m 277 (40 * s + i))) := hf.up (by unfold rq_wL; simp; omega)
    have hs1 := rq_st_fr hs f1 (rq_wL_st t)
    have f2 : rq_fr (rq_wL t) m (rt_up (rt_up mm 277 (40 * t + i) (m 277 (40 * s + i))) 278 (40 * t + i) (m 278 (40 * s + i))) := f1.up (by unfold rq_wL; simp; omega)
    have hs2 := rq_st_fr hs f2 (rq_wL_st t)
    unfold b_X12_laysLines_14
    dsimp only
    rw [if_neg (by omega), em s i h1 hi, em t i h2 hi]
    simp only [q_gfr, Option.bind_some]
    rw [q_a8 (k := 277) _ 240 (pt_248_42 hs0) kd_277 ln_277 (by omega), Option.bind_some, frr hf 277 _ (by omega) (by omega) (by omega), q_s8 (k := 277) _ 240 (pt_248_42 hs0) kd_277 ln_277 (by omega), Option.bind_some, q_a8 (k := 278) _ 240 (pt_248_43 hs1) kd_278 ln_278 (by omega), Option.bind_some, frr f1 278 _ (by omega) (by omega) (by omega), q_s8 (k := 278) _ 240 (pt_248_43 hs1) kd_278 ln_278 (by omega), Option.bind_some, q_a8 (k := 279) _ 240 (pt_248_44 hs2) kd_279 ln_279 (by omega), Option.bind_some, frr f2 279 _ (by omega) (by omega) (by omega), q_s8 (k := 279) _ 240 (pt_248_44 hs2) kd_279 ln_279 (by omega), Option.bind_some, rq_n1 (by omega)]
    refine rq_some.mpr (rq_inl ⟨rfl, g0, fun j hj => ⟨?_, ?_, ?_⟩, f2.up (by unfold rq_wL; simp; omega)⟩)
    · show rt_up (rt_up (rt_up mm 277 (40 * t + i) (m 277 (40 * s + i))) 278 (40 * t + i) (m 278 (40 * s + i))) 279 (40 * t + i) (m 279 (40 * s + i)) 277 (40 * t + j) = _
      rw [q_up, if_neg (by omega), q_up, if_neg (by omega), q_up]
      by_cases z : j = i
      · subst z; rw [if_pos ⟨rfl, rfl⟩]
      · rw [if_neg (by omega)]; exact (gj j (by omega)).1
    · show rt_up (rt_up (rt_up mm 277 (40 * t + i) (m 277 (40 * s + i))) 278 (40 * t + i) (m 278 (40 * s + i))) 279 (40 * t + i) (m 279 (40 * s + i)) 278 (40 * t + j) = _
      rw [q_up, if_neg (by omega), q_up]
      by_cases z : j = i
      · subst z; rw [if_pos ⟨rfl, rfl⟩]
      · rw [if_neg (by omega), q_up, if_neg (by omega)]; exact (gj j (by omega)).2.1
    · show rt_up (rt_up (rt_up mm 277 (40 * t + i) (m 277 (40 * s + i))) 278 (40 * t + i) (m 278 (40 * s + i))) 279 (40 * t + i) (m 279 (40 * s + i)) 279 (40 * t + j) = _
      rw [q_up]
      by_cases z : j = i
      · subst z; rw [if_pos ⟨rfl, rfl⟩]
      · rw [if_neg (by omega), q_up, if_neg (by omega), q_up, if_neg (by omega)]; exact (gj j (by omega)).2.2
  · rintro ⟨x, mm⟩ ⟨e1, g0, gj, hf⟩
    dsimp only at e1 g0 gj hf
    subst e1
    unfold b_X12_laysLines_14
    dsimp only
    rw [if_pos (by omega)]
    exact rq_some.mpr (rq_inre ⟨g0, gj, hf⟩)
theorem q_laysSaid (hs : rq_st m) (hb : ∀ i, i < 40 → m 283 i = 0 ∨ m 283 i = 1) {s t : Nat} (h1 : s < 5) (h2 : t < 5) (hne : s ≠ t) : rq (f_X12_laysSaid 248 (s : Int) (t : Int) m) (fun m1 => m1 280 t = m 280 s ∧ (∀ i, i < 8 → m1 281 (8 * t + i) = m 281 (8 * s + i) ∧ m1 282 (8 * t + i) = m 282 (8 * s + i) ∧ m1 283 (8 * t + i) = m 283 (8 * s + i)) ∧ (∀ w, w < 6 → m1 284 (6 * t + w) = m 284 (6 * s + w)) ∧ rq_fr (rq_wZ t) m m1) := by
  unfold f_X12_laysSaid
  simp only [q_gfr, Option.bind_some]
  rw [q_a8 (k := 280) _ 5 (pt_248_45 hs) kd_280 ln_280 h1, Option.bind_some, q_s8 (k := 280) _ 5 (pt_248_45 hs) kd_280 ln_280 h2, Option.bind_some]
  have f0 : rq_fr (rq_wZ t) m (rt_up m 280 t (m 280 s)) := rq_fr.rfl.up (by unfold rq_wZ; simp)
  have frr : ∀ {mm : rt_M}, rq_fr (rq_wZ t) m mm → ∀ a j, ((a = 281 ∨ a = 282 ∨ a = 283) ∧ 8 * s ≤ j ∧ j < 8 * s + 8) ∨ (a = 284 ∧ 6 * s ≤ j ∧ j < 6 * s + 6) → mm a j = m a j := by
    intro mm hf a j q
    refine hf a j ?_
    unfold rq_wZ
    simp only [Bool.or_eq_false_iff, Bool.and_eq_false_iff, beq_eq_false_iff_ne, decide_eq_false_iff_not]
    omega
  have em : ∀ (u i : Nat), u < 5 → i < 8 → rt_iadd (rt_imul 8 (u : Int)) (i : Int) = ((8 * u + i : Nat) : Int) := by
    intro u i q1 q2
    rw [rq_imul (by omega) (by omega), rq_iadd (by omega) (by omega)]; omega
  have em6 : ∀ (u i : Nat), u < 5 → i < 6 → rt_iadd (rt_imul 6 (u : Int)) (i : Int) = ((6 * u + i : Nat) : Int) := by
    intro u i q1 q2
    rw [rq_imul (by omega) (by omega), rq_iadd (by omega) (by omega)]; omega
  refine rq_call (rq_up (Q := fun m1 => m1 280 t = m 280 s ∧ (∀ i, i < 8 → m1 281 (8 * t + i) = m 281 (8 * s + i) ∧ m1 282 (8 * t + i) = m 282 (8 * s + i) ∧ m1 283 (8 * t + i) = m 283 (8 * s + i)) ∧ rq_fr (rq_wZ t) m m1) (fun i x => x.1 = (i : Int) ∧ x.2 280 t = m 280 s ∧ (∀ j, j < i → x.2 281 (8 * t + j) = m 281 (8 * s + j) ∧ x.2 282 (8 * t + j) = m 282 (8 * s + j) ∧ x.2 283 (8 * t + j) = m 283 (8 * s + j)) ∧ rq_fr (rq_wZ t) m x.2) 8 (by decide) ?_ ?_ (by exact ⟨rfl, rt_up_same _ _ _ _, fun j hj => absurd hj (Nat.not_lt_zero _), f0⟩)) ?_
  · rintro i ⟨x, mm⟩ hi ⟨e1, g0, gj, hf⟩
    dsimp only at e1 g0 gj hf
    subst e1
    have hs0 := rq_st_fr hs hf (rq_wZ_st t)
    have f1 : rq_fr (rq_wZ t) m (rt_up mm 281 (8 * t + i) (m 281 (8 * s + i))) := hf.up (by unfold rq_wZ; simp; omega)
    have hs1 := rq_st_fr hs f1 (rq_wZ_st t)
    have f2 : rq_fr (rq_wZ t) m (rt_up (rt_up mm 281 (8 * t + i) (m 281 (8 * s + i))) 282 (8 * t + i) (m 282 (8 * s + i))) := f1.up (by unfold rq_wZ; simp; omega)
    have hs2 := rq_st_fr hs f2 (rq_wZ_st t)
    have hbz : rt_bz (m 283 (8 * s + i)) = some (m 283 (8 * s + i)) := if_pos (hb _ (by omega))
    unfold b_X12_laysSaid_14
    dsimp only
    rw [if_neg (by omega), em s i h1 hi, em t i h2 hi]
    simp only [q_gfr, Option.bind_some]
    rw [q_a8 (k := 281) _ 40 (pt_248_46 hs0) kd_281 ln_281 (by omega), Option.bind_some, frr hf 281 _ (by omega), q_s8 (k := 281) _ 40 (pt_248_46 hs0) kd_281 ln_281 (by omega), Option.bind_some, q_a8 (k := 282) _ 40 (pt_248_47 hs1) kd_282 ln_282 (by omega), Option.bind_some, frr f1 282 _ (by omega), q_s8 (k := 282) _ 40 (pt_248_47 hs1) kd_282 ln_282 (by omega), Option.bind_some, pt_248_48 hs2, show (283 : Int) = ((283 : Nat) : Int) from rfl, q_al kd_283 ln_283 (by omega), Option.bind_some, frr f2 283 _ (by omega), hbz, Option.bind_some, q_sa kd_283 ln_283 (by omega), Option.bind_some, rq_n1 (by omega)]
    refine rq_some.mpr (rq_inl ⟨rfl, g0, fun j hj => ⟨?_, ?_, ?_⟩, f2.up (by unfold rq_wZ; simp; omega)⟩)
    · show rt_up (rt_up (rt_up mm 281 (8 * t + i) (m 281 (8 * s + i))) 282 (8 * t + i) (m 282 (8 * s + i))) 283 (8 * t + i) (m 283 (8 * s + i)) 281 (8 * t + j) = _
      rw [q_up, if_neg (by omega), q_up, if_neg (by omega), q_up]
      by_cases z : j = i
      · subst z; rw [if_pos ⟨rfl, rfl⟩]
      · rw [if_neg (by omega)]; exact (gj j (by omega)).1
    · show rt_up (rt_up (rt_up mm 281 (8 * t + i) (m 281 (8 * s + i))) 282 (8 * t + i) (m 282 (8 * s + i))) 283 (8 * t + i) (m 283 (8 * s + i)) 282 (8 * t + j) = _
      rw [q_up, if_neg (by omega), q_up]
      by_cases z : j = i
      · subst z; rw [if_pos ⟨rfl, rfl⟩]
      · rw [if_neg (by omega), q_up, if_neg (by omega)]; exact (gj j (by omega)).2.1
    · show rt_up (rt_up (rt_up mm 281 (8 * t + i) (m 281 (8 * s + i))) 282 (8 * t + i) (m 282 (8 * s + i))) 283 (8 * t + i) (m 283 (8 * s + i)) 283 (8 * t + j) = _
      rw [q_up]
      by_cases z : j = i
      · subst z; rw [if_pos ⟨rfl, rfl⟩]
      · rw [if_neg (by omega), q_up, if_neg (by omega), q_up, if_neg (by omega)]; exact (gj j (by omega)).2.2
  · rintro ⟨x, mm⟩ ⟨e1, g0, gj, hf⟩
    dsimp only at e1 g0 gj hf
    subst e1
    unfold b_X12_laysSaid_14
    dsimp only
    rw [if_pos (by omega)]
    exact rq_some.mpr (rq_inre ⟨g0, gj, hf⟩)
  · rintro m1 ⟨a1, a2, a3⟩
    refine rq_call (rq_up (Q := fun m2 => (∀ w, w < 6 → m2 284 (6 * t + w) = m 284 (6 * s + w)) ∧ (∀ a j, a ≠ 284 → m2 a j = m1 a j) ∧ rq_fr (rq_wZ t) m m2) (fun i x => x.1 = (i : Int) ∧ (∀ w, w < i → x.2 284 (6 * t + w) = m 284 (6 * s + w)) ∧ (∀ a j, a ≠ 284 → x.2 a j = m1 a j) ∧ rq_fr (rq_wZ t) m x.2) 6 (by decide) ?_ ?_ (by exact ⟨rfl, fun j hj => absurd hj (Nat.not_lt_zero _), fun a j _ => rfl, a3⟩)) ?_
    · rintro i ⟨x, mm⟩ hi ⟨e1, gj, ga, hf⟩
      dsimp only at e1 gj ga hf
      subst e1
      have hs0 := rq_st_fr hs hf (rq_wZ_st t)
      unfold b_X12_laysSaid_94
      dsimp only
      rw [if_neg (by omega), em6 s i h1 hi, em6 t i h2 hi]
      simp only [q_gfr, Option.bind_some]
      rw [q_a8 (k := 284) _ 30 (pt_248_49 hs0) kd_284 ln_284 (by omega), Option.bind_some, frr hf 284 _ (by omega), q_s8 (k := 284) _ 30 (pt_248_49 hs0) kd_284 ln_284 (by omega), Option.bind_some, rq_n1 (by omega)]
      refine rq_some.mpr (rq_inl ⟨rfl, fun j hj => ?_, fun a j q => ?_, hf.up (by unfold rq_wZ; simp; omega)⟩)
      · show rt_up mm 284 (6 * t + i) (m 284 (6 * s + i)) 284 (6 * t + j) = _
        rw [q_up]
        by_cases z : j = i
        · subst z; rw [if_pos ⟨rfl, rfl⟩]
        · rw [if_neg (by omega)]; exact gj j (by omega)
      · show rt_up mm 284 (6 * t + i) (m 284 (6 * s + i)) a j = _
        rw [q_up, if_neg (fun z => q z.1)]; exact ga a j q
    · rintro ⟨x, mm⟩ ⟨e1, gj, ga, hf⟩
      dsimp only at e1 gj ga hf
      subst e1
      unfold b_X12_laysSaid_94
      dsimp only
      rw [if_pos (by omega)]
      exact rq_some.mpr (rq_inre ⟨gj, ga, hf⟩)
    · rintro m2 ⟨b1, b2, b3⟩
      refine rq_some.mpr ⟨by rw [b2 _ _ (by omega)]; exact a1, fun i hi => ?_, b1, b3⟩
      rw [b2 281 _ (by omega), b2 282 _ (by omega), b2 283 _ (by omega)]
      exact a2 i hi
end
