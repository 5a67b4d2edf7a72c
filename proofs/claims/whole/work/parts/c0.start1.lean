/-! Layer 4: the state that the constructors leave -/
abbrev M_law : rt_Mt := (yL_law, cL_law, 7, some .boolean, (601024, 7293034), 0)
def rz_m : Option (Nat × rt_M) := (rt_no M_law 41 11 41 (fun _ _ => 0)).bind fun p0 => if p0.1 = 42 then
  (f_X11_init 42 41 p0.2).bind fun u1 => (rt_gc M_law M_X11_init 41 42 u1).bind fun p1 => if p1.1 = 248 then
  (rt_no M_law 41 12 248 p1.2).bind fun p2 => if p2.1 = 249 then
  (f_X12_init 249 248 p2.2).bind fun u3 => (rt_gc M_law M_X12_init 41 249 u3).bind fun p3 => if p3.1 = 300 then
  rt_na M_law 41 9 1 300 p3.2 else none else none else none else none
def rz_L : List (Nat × Nat × Int) := [(41, 7, 63), (41, 8, 87), (41, 5, 0), (41, 6, 0), (42, 1, 0), (248, 1, 0), (248, 55, 0), (63, 0, 0), (63, 1, 0), (63, 8, 1), (63, 7, 0), (81, 6, 0), (84, 6, 0), (250, 0, 0), (250, 1, 0), (250, 2, 1), (250, 3, 0), (261, 0, 0), (262, 0, 0), (261, 1, 0), (262, 1, 0), (49, 0, 0), (52, 0, 0), (56, 0, 0), (276, 0, 0), (280, 0, 0)] ++ (List.range 6).flatMap (fun w => [(50, w, -1), (51, w, 0), (60, w, -1), (284, w, -1)]) ++ (List.range 13).map (fun i => (285, i, rq_S0 i)) ++ (List.range 4).flatMap (fun k => [(148 + 13 * k, 4, 0), (289, k, 0)]) ++ (List.range 40).map (fun i => (283, i, 0))
theorem rz_ok : (match rz_m with
  | some p => p.1 == 301 && (rq_P ++ rz_L).all (fun q => decide (p.2 q.1 q.2.1 = q.2.2))
  | none => false) = true := by decide +kernel
theorem rz_I : ∃ m, rz_m = some (301, m) ∧ rq_I 0 m := by
  have h := rz_ok
  cases e : rz_m with
  | none => rw [e] at h; cases h
  | some p =>
    rw [e] at h
    have h2 : (p.1 == 301 && (rq_P ++ rz_L).all (fun q => decide (p.2 q.1 q.2.1 = q.2.2))) = true := h
    obtain ⟨k, m⟩ := p
    rw [Bool.and_eq_true] at h2
    obtain ⟨h3, h4⟩ := h2
    have h5 : k = 301 := eq_of_beq h3
    subst h5
    refine ⟨m, rfl, ?_⟩
    have g : ∀ q ∈ rq_P ++ rz_L, m q.1 q.2.1 = q.2.2 := fun q hq => of_decide_eq_true (List.all_eq_true.mp h4 q hq)
    have hs : rq_st m := fun q hq => g q (List.mem_append_left _ hq)
    have z : ∀ q ∈ rz_L, m q.1 q.2.1 = q.2.2 := fun q hq => g q (List.mem_append_right _ hq)
    have va := rq_ρ0_va
    refine ⟨63, rq_ρ0, rq_A0, ⟨hs, Or.inl rfl, va, ⟨z (63, 0, 0) (by decide +kernel), z (63, 1, 0) (by decide +kernel), z (63, 8, 1) (by decide +kernel), z (63, 7, 0) (by decide +kernel)⟩, fun w hw => ?_, fun w hw => ?_, fun w hw => ?_, Or.inl ⟨z (81, 6, 0) (by decide +kernel), fun _ _ _ => rfl⟩, Or.inl ⟨z (84, 6, 0) (by decide +kernel), fun _ _ _ => rfl⟩⟩,
      ⟨hs, va, ⟨z (250, 0, 0) (by decide +kernel), z (250, 1, 0) (by decide +kernel), z (250, 2, 1) (by decide +kernel), z (250, 3, 0) (by decide +kernel)⟩, fun w hw => ?_, fun w hw => ?_, fun w hw => ?_, Or.inl ⟨?_, fun _ _ _ => rfl⟩, Or.inl ⟨?_, fun _ _ _ => rfl⟩⟩,
      ⟨z (41, 7, 63) (by decide +kernel), z (41, 8, 87) (by decide +kernel)⟩,
      ⟨⟨z (49, 0, 0) (by decide +kernel), fun w hw => ?_⟩, ⟨z (52, 0, 0) (by decide +kernel), fun i hi => ?_⟩, ⟨z (56, 0, 0) (by decide +kernel), fun i hi => ?_⟩, fun w hw => ?_⟩,
      ⟨fun i hi => ?_, ⟨z (276, 0, 0) (by decide +kernel), fun i hi => ?_⟩, ⟨z (280, 0, 0) (by decide +kernel), fun i hi => ?_⟩, fun w hw => ?_⟩, rq_A0_v.mpr (rq_S0_vs va), Int.le_refl 0,
      ⟨0, by decide, z (42, 1, 0) (by decide +kernel), z (248, 1, 0) (by decide +kernel), fun i hi => absurd hi (Nat.not_lt_zero i)⟩,
      ⟨0, 0, fun _ => rq_S0, ⟨by decide, by decide, z (41, 5, 0) (by decide +kernel), z (41, 6, 0) (by decide +kernel), fun i hi => absurd hi (Nat.not_lt_zero i)⟩, ⟨z (248, 55, 0) (by decide +kernel), fun i hi => absurd hi (Nat.not_lt_zero i)⟩, fun i hi => absurd hi (Nat.not_lt_zero i)⟩,
      ⟨fun k hk => Or.inl ⟨?_, ?_⟩, fun i hi => Or.inl ?_⟩⟩
    · exact absurd hw (by show ¬ (w : Int) < 0; omega)
    · exact absurd hw (by show ¬ (w : Int) < 0; omega)
    · exact absurd hw (by show ¬ (w : Int) < 0; omega)
    · exact absurd hw (by show ¬ (w : Int) < 0; omega)
    · exact absurd hw (by show ¬ (w : Int) < 0; omega)
    · exact absurd hw (by show ¬ (w : Int) < 0; omega)
    · rw [z (262, 0, 0) (by decide +kernel), z (261, 0, 0) (by decide +kernel)]; exact Int.le_refl _
    · rw [z (262, 1, 0) (by decide +kernel), z (261, 1, 0) (by decide +kernel)]; exact Int.le_refl _
    · have e1 : ∀ w, w < 6 → (50, w, (-1 : Int)) ∈ rz_L ∧ (51, w, (0 : Int)) ∈ rz_L := by decide +kernel
      have e2 : ∀ w, w < 6 → rq_S0 (1 + w) = -1 ∧ rq_S0 (7 + w) = 0 := by decide
      exact ⟨(z _ (e1 w hw).1).trans (e2 w hw).1.symm, (z _ (e1 w hw).2).trans (e2 w hw).2.symm⟩
    · exact absurd hi (by show ¬ (i : Int) < 0; omega)
    · exact absurd hi (by show ¬ (i : Int) < 0; omega)
    · have e1 : ∀ w, w < 6 → (60, w, (-1 : Int)) ∈ rz_L := by decide +kernel
      exact z _ (e1 w hw)
    · have e1 : ∀ i, i < 13 → (285, i, rq_S0 i) ∈ rz_L := by decide +kernel
      rw [if_pos rfl]
      exact z _ (e1 i hi)
    · exact absurd hi (by show ¬ (i : Int) < 0; omega)
    · exact absurd hi (by show ¬ (i : Int) < 0; omega)
    · have e1 : ∀ w, w < 6 → (284, w, (-1 : Int)) ∈ rz_L := by decide +kernel
      rw [show 6 * 0 + w = w by omega]
      exact z _ (e1 w hw)
    · have e1 : ∀ k, k < 4 → (148 + 13 * k, 4, (0 : Int)) ∈ rz_L := by decide +kernel
      exact z _ (e1 k hk)
    · have e1 : ∀ k, k < 4 → (289, k, (0 : Int)) ∈ rz_L := by decide +kernel
      exact z _ (e1 k hk)
    · have e1 : ∀ k, k < 40 → (283, k, (0 : Int)) ∈ rz_L := by decide +kernel
      exact z _ (e1 i hi)
