/-! Layer 3: count -/
section
variable {r : Nat} {ρ : rq_R} {A : rq_A} {c : Nat} {m : rt_M}
theorem q_tiltsTold (h : rq_J r ρ A c m) : f_X0_tiltsTold ((48 : Nat) : Int) m = some (rq_sum (fun w => if A.2.2.2 w = -1 then 0 else 1) 6) := by
  have hs := h.1.1
  unfold f_X0_tiltsTold
  apply rq_of
  refine rq_call (rq_up (Q := fun e => e = rq_sum (fun w => if A.2.2.2 w = -1 then 0 else 1) 6) (fun i s => s.2 = (i : Int) ∧ s.1 = rq_sum (fun w => if A.2.2.2 w = -1 then 0 else 1) i) 6 (by decide) ?_ ?_ ⟨rfl, rfl⟩) (fun e q => rq_some.mpr q)
  · rintro i ⟨x, y⟩ hi ⟨e1, e2⟩
    dsimp only at e1 e2
    subst e1 e2
    have b := rq_sum_b (f := fun w => if A.2.2.2 w = -1 then (0 : Int) else 1) (c := 1) (by decide) i (fun j _ => by split <;> decide)
    unfold b_X0_tiltsTold_4 j_X0_tiltsTold_23_4
    dsimp only
    rw [if_neg (by omega), q_nti hs, Option.bind_some, q_al kd_60 ln_60 hi, Option.bind_some, show m 60 i = A.2.2.2 i from h.2.2.2.1.2.2.2 i hi, rq_n1 (by omega), rq_sum_s, rq_iadd (by omega) (by omega)]
    by_cases z : A.2.2.2 i = -1
    · rw [if_pos z, if_pos z]; exact rq_some.mpr (rq_inl ⟨rfl, by simp⟩)
    · rw [if_neg z, if_neg z]; exact rq_some.mpr (rq_inl ⟨rfl, rfl⟩)
  · rintro ⟨x, y⟩ ⟨e1, e2⟩
    dsimp only at e1 e2
    subst e1 e2
    unfold b_X0_tiltsTold_4
    dsimp only
    rw [if_pos (by omega)]
    exact rq_some.mpr (rq_inre rfl)
theorem q_toldMany (h : rq_J r ρ A c m) : f_X12_toldMany 248 m = some (rq_sum (fun w => if A.2.2.2 w = -1 then 0 else 1) 6) := by
  have hD := h.2.1
  have hb := hD.2.1.1
  have hv := h.2.2.2.2.2.1.2.2.2
  have tail : ∀ d, (ρ.1 0 0).toNat + d ≤ 6 → rq_sum (fun w => if A.2.2.2 w = -1 then (0 : Int) else 1) ((ρ.1 0 0).toNat + d) = rq_sum (fun w => if A.2.2.2 w = -1 then 0 else 1) (ρ.1 0 0).toNat := by
    intro d
    induction d with
    | zero => intro _; rfl
    | succ d ih =>
      intro hd
      rw [← Nat.add_assoc, rq_sum_s, ih (by omega), if_pos ((hv _ (by omega)).2.2 (by omega))]
      simp
  unfold f_X12_toldMany
  apply rq_of
  refine rq_call (rq_up (Q := fun e => e = rq_sum (fun w => if A.2.2.2 w = -1 then 0 else 1) 6) (fun i s => s.2 = (i : Int) ∧ s.1 = rq_sum (fun w => if A.2.2.2 w = -1 then 0 else 1) i) (ρ.1 0 0).toNat (by omega) ?_ ?_ ⟨rfl, rfl⟩) (fun e q => rq_some.mpr q)
  · rintro i ⟨x, y⟩ hi ⟨e1, e2⟩
    dsimp only at e1 e2
    subst e1 e2
    have b := rq_sum_b (f := fun w => if A.2.2.2 w = -1 then (0 : Int) else 1) (c := 1) (by decide) i (fun j _ => by split <;> decide)
    have vi := hv i (by omega)
    have ti : m 284 i = A.2.2.2 i := by
      have := h.2.2.2.2.1.2.2.2 i (by omega)
      rw [show 6 * 0 + i = i by omega] at this; exact this
    unfold b_X12_toldMany_4 j_X12_toldMany_29_4
    dsimp only
    rw [q_gfr, Option.bind_some, q_rn0 hD 0 rfl, Option.bind_some, if_neg (by omega), q_gfr, Option.bind_some, q_a8 (k := 284) _ 30 (pt_248_49 hD.1) kd_284 ln_284 (by omega), Option.bind_some, ti, rq_n1 (by omega), rq_sum_s, rq_iadd (by omega) (by omega), rq_iadd (by omega) (by omega)]
    by_cases z : A.2.2.2 i = -1
    · rw [if_pos (by omega), if_pos z]; exact rq_some.mpr (rq_inl ⟨rfl, rfl⟩)
    · rw [if_neg (by omega), if_neg z]; exact rq_some.mpr (rq_inl ⟨rfl, rfl⟩)
  · rintro ⟨x, y⟩ ⟨e1, e2⟩
    dsimp only at e1 e2
    subst e1 e2
    unfold b_X12_toldMany_4
    dsimp only
    rw [q_gfr, Option.bind_some, q_rn0 hD 0 rfl, Option.bind_some, if_pos (by omega)]
    refine rq_some.mpr (rq_inre ?_)
    have := tail (6 - (ρ.1 0 0).toNat) (by omega)
    rw [← this, show (ρ.1 0 0).toNat + (6 - (ρ.1 0 0).toNat) = 6 by omega]
theorem L_count (hI : rq_I c m) (hc : c < 800000) (a : Int) : rq (f_X11_count 41 a m) (fun p => rq (f_X12_count 248 a m) (fun q => q.1 = p ∧ rq_I (c + 1) q.2)) := by
  obtain ⟨r, ρ, A, h⟩ := hI
  have hC := h.1
  have hs := hC.1
  have hS := q_Sc h
  have h0 := q_sea0 h
  have hcc := h.2.2.2.2.2.2.1
  have hh : f_X4_heatOf r (A.1 0) m = some (rq_ht ρ (A.1 0).toNat) := by
    have := q_heatOf hC (t := (A.1 0).toNat) (by omega)
    rw [← h0] at this; exact this
  have g10 : rt_gf 10 0 ((52 : Nat) : Int) m = some (m 52 0) := rfl
  have g6 : rt_gf 6 0 ((56 : Nat) : Int) m = some (m 56 0) := rfl
  have g8 : rt_gf 8 1 42 m = some (m 42 1) := rfl
  have hy : m 52 0 = A.2.1 0 0 := h.2.2.2.1.2.1.1
  have hz : m 56 0 = A.2.2.1 0 0 := h.2.2.2.1.2.2.1.1
  obtain ⟨m2, e2, h2, f2⟩ := q_thr h 0
  have hD := h2.2.1
  have hs2 := hD.1
  have hS2 := q_Sr h2
  have hvs := h.2.2.2.2.2.1.1
  have hh2 : f_X12_heatIn 248 (A.1 0) m2 = some (rq_ht ρ (A.1 0).toNat) := by
    have := q_heatIn hD (t := (A.1 0).toNat) (by omega)
    rw [← h0] at this; exact this
  have hy2 : m2 276 0 = A.2.1 0 0 := h2.2.2.2.2.1.2.1.1
  have hz2 : m2 280 0 = A.2.2.1 0 0 := h2.2.2.2.2.1.2.2.1.1
  have hu2 : m2 248 55 = m 41 5 := by
    obtain ⟨n, p, U, x1, x2, -⟩ := h.2.2.2.2.2.2.2.2.1
    rw [f2 248 55 (by decide), x1.2.2.1, x2.1]
  have ht2 : m2 248 1 = m 42 1 := by
    obtain ⟨n, x1, x2, x3, -⟩ := h.2.2.2.2.2.2.2.1
    rw [f2 248 1 (by decide), x2, x3]
  by_cases ha : 0 ≤ a ∧ a ≤ 12
  · have hr : a = 0 ∨ a = 1 ∨ a = 2 ∨ a = 3 ∨ a = 4 ∨ a = 5 ∨ a = 6 ∨ a = 7 ∨ a = 8 ∨ a = 9 ∨ a = 10 ∨ a = 11 ∨ a = 12 := by omega
    rcases hr with rfl | rfl | rfl | rfl | rfl | rfl | rfl | rfl | rfl | rfl | rfl | rfl | rfl
    · refine rq_pair0 (v := ρ.1 0 0) h ?_ ?_
      · unfold f_X11_count
        rw [if_pos rfl]
        simp only [q_told h, Option.bind_some, q_gf4 hC, hC.2.2.2.1.1]
      · unfold f_X12_count j_X12_count_157 j_X12_count_126 j_X12_count_98 j_X12_count_58
        rw [e2, Option.bind_some, q_withinT (by decide) (by decide), Option.bind_some, if_neg (by decide), if_neg (by decide)]
        simp only [q_gfr, Option.bind_some, q_rn0 hD 0 rfl]
        exact rq_some.mpr ⟨rfl, f2⟩
    · refine rq_pair0 (v := ρ.1 0 1) h ?_ ?_
      · unfold f_X11_count
        rw [if_neg (by decide), if_pos rfl]
        simp only [q_told h, Option.bind_some, q_gf4 hC, hC.2.2.2.1.2.1]
      · unfold f_X12_count j_X12_count_157 j_X12_count_126 j_X12_count_98 j_X12_count_58
        rw [e2, Option.bind_some, q_withinT (by decide) (by decide), Option.bind_some, if_neg (by decide), if_neg (by decide)]
        simp only [q_gfr, Option.bind_some, q_rn1 hD 1 rfl]
        exact rq_some.mpr ⟨rfl, f2⟩
    · refine rq_pair0 (v := ρ.1 0 2) h ?_ ?_
      · unfold f_X11_count
        rw [if_neg (by decide), if_neg (by decide), if_pos rfl]
        simp only [q_told h, Option.bind_some, q_gf4 hC, hC.2.2.2.1.2.2.1]
      · unfold f_X12_count j_X12_count_157 j_X12_count_126 j_X12_count_98 j_X12_count_58
        rw [e2, Option.bind_some, q_withinT (by decide) (by decide), Option.bind_some, if_neg (by decide), if_neg (by decide)]
        simp only [q_gfr, Option.bind_some, q_rn2 hD 2 rfl]
        exact rq_some.mpr ⟨rfl, f2⟩
    · refine rq_pair0 (v := A.1 0) h ?_ ?_
      · unfold f_X11_count
        rw [if_neg (by decide), if_neg (by decide), if_neg (by decide), if_pos rfl]
        simp only [Option.bind_some, q_now hs, q_nst hs, q_sea h]
      · unfold f_X12_count j_X12_count_157 j_X12_count_126 j_X12_count_98 j_X12_count_58
        rw [e2, Option.bind_some, q_withinT (by decide) (by decide), Option.bind_some, if_neg (by decide), if_pos (by decide), if_neg (by decide), if_pos (by decide)]
        simp only [q_gfr, Option.bind_some, q_rs0 hs2 hS2 0 rfl]
        exact rq_some.mpr ⟨rfl, f2⟩
    · refine rq_pair0 (v := rq_ht ρ (A.1 0).toNat) h ?_ ?_
      · unfold f_X11_count
        rw [if_neg (by decide), if_neg (by decide), if_neg (by decide), if_neg (by decide), if_pos rfl]
        simp only [q_told h, Option.bind_some, q_now hs, q_nst hs, q_sea h, q_gd4 hC, hh]
      · unfold f_X12_count j_X12_count_157 j_X12_count_126 j_X12_count_98 j_X12_count_58
        rw [e2, Option.bind_some, q_withinT (by decide) (by decide), Option.bind_some, if_neg (by decide), if_pos (by decide), if_neg (by decide), if_neg (by decide)]
        simp only [q_gfr, Option.bind_some, q_rs0 hs2 hS2 0 rfl, hh2]
        exact rq_some.mpr ⟨rfl, f2⟩
    · refine rq_pair0 (v := ((rq_wn ρ A.1 : Nat) : Int)) h ?_ ?_
      · unfold f_X11_count
        rw [if_neg (by decide), if_neg (by decide), if_neg (by decide), if_neg (by decide), if_neg (by decide), if_pos rfl]
        simp only [q_told h, Option.bind_some, q_now hs, q_nst hs, q_gd7 q_b49, q_worn hC hS]
      · unfold f_X12_count j_X12_count_157 j_X12_count_126 j_X12_count_98 j_X12_count_58
        rw [e2, Option.bind_some, q_withinT (by decide) (by decide), Option.bind_some, if_neg (by decide), if_pos (by decide), if_pos (by decide), if_neg (by decide), if_pos (by decide)]
        simp only [Option.bind_some, q_onHeads hD hS2 hvs]
        exact rq_some.mpr ⟨rfl, f2⟩
    · refine rq_pair0 (v := ((rq_wt ρ A.1 : Nat) : Int)) h ?_ ?_
      · unfold f_X11_count
        rw [if_neg (by decide), if_neg (by decide), if_neg (by decide), if_neg (by decide), if_neg (by decide), if_neg (by decide), if_pos rfl]
        simp only [q_told h, Option.bind_some, q_now hs, q_nst hs, q_gd7 q_b49, q_wornOut hC hS]
      · unfold f_X12_count j_X12_count_157 j_X12_count_126 j_X12_count_98 j_X12_count_58
        rw [e2, Option.bind_some, q_withinT (by decide) (by decide), Option.bind_some, if_neg (by decide), if_pos (by decide), if_pos (by decide), if_neg (by decide), if_neg (by decide), if_pos (by decide)]
        simp only [Option.bind_some, q_rwornOut hD hS2 hvs]
        exact rq_some.mpr ⟨rfl, f2⟩
    · refine rq_pair0 (v := rq_os ρ ((rq_wn ρ A.1 : Nat) : Int)) h ?_ ?_
      · unfold f_X11_count
        rw [if_neg (by decide), if_neg (by decide), if_neg (by decide), if_neg (by decide), if_neg (by decide), if_neg (by decide), if_neg (by decide), if_pos rfl]
        simp only [q_told h, Option.bind_some, q_now hs, q_nst hs, q_gd7 q_b49, q_worn hC hS, q_gd4 hC, q_officeOfAll hC]
      · unfold f_X12_count j_X12_count_157 j_X12_count_126 j_X12_count_98 j_X12_count_58
        rw [e2, Option.bind_some, q_withinT (by decide) (by decide), Option.bind_some, if_neg (by decide), if_pos (by decide), if_pos (by decide), if_neg (by decide), if_neg (by decide), if_neg (by decide)]
        simp only [Option.bind_some, q_onHeads hD hS2 hvs, q_rofficeOf hD]
        exact rq_some.mpr ⟨rfl, f2⟩
    · refine rq_pair0 (v := A.2.1 0 0) h ?_ ?_
      · unfold f_X11_count
        rw [if_neg (by decide), if_neg (by decide), if_neg (by decide), if_neg (by decide), if_neg (by decide), if_neg (by decide), if_neg (by decide), if_neg (by decide), if_pos rfl]
        simp only [Option.bind_some, q_now hs, q_nye hs, g10, hy]
      · unfold f_X12_count j_X12_count_157 j_X12_count_126 j_X12_count_98 j_X12_count_58
        rw [e2, Option.bind_some, q_withinT (by decide) (by decide), Option.bind_some, if_neg (by decide), if_pos (by decide), if_pos (by decide), if_pos (by decide), if_neg (by decide), if_pos (by decide)]
        simp only [q_gfr, Option.bind_some, q_a9 (k := 276) _ 0 6 0 (pt_248_41 hs2) kd_276 ln_276 rfl (by decide), hy2]
        exact rq_some.mpr ⟨rfl, f2⟩
    · refine rq_pair0 (v := A.2.2.1 0 0) h ?_ ?_
      · unfold f_X11_count
        rw [if_neg (by decide), if_neg (by decide), if_neg (by decide), if_neg (by decide), if_neg (by decide), if_neg (by decide), if_neg (by decide), if_neg (by decide), if_neg (by decide), if_pos rfl]
        simp only [Option.bind_some, q_now hs, q_nsa hs, g6, hz]
      · unfold f_X12_count j_X12_count_157 j_X12_count_126 j_X12_count_98 j_X12_count_58
        rw [e2, Option.bind_some, q_withinT (by decide) (by decide), Option.bind_some, if_neg (by decide), if_pos (by decide), if_pos (by decide), if_pos (by decide), if_neg (by decide), if_neg (by decide)]
        simp only [q_gfr, Option.bind_some, q_a9 (k := 280) _ 0 5 0 (pt_248_45 hs2) kd_280 ln_280 rfl (by decide), hz2]
        exact rq_some.mpr ⟨rfl, f2⟩
    · refine rq_pair0 (v := rq_sum (fun w => if A.2.2.2 w = -1 then 0 else 1) 6) h ?_ ?_
      · unfold f_X11_count
        rw [if_neg (by decide), if_neg (by decide), if_neg (by decide), if_neg (by decide), if_neg (by decide), if_neg (by decide), if_neg (by decide), if_neg (by decide), if_neg (by decide), if_neg (by decide), if_pos rfl]
        simp only [Option.bind_some, q_now hs, q_gd0, q_tiltsTold h]
      · unfold f_X12_count j_X12_count_157 j_X12_count_126 j_X12_count_98 j_X12_count_58
        rw [e2, Option.bind_some, q_withinT (by decide) (by decide), Option.bind_some, if_neg (by decide), if_pos (by decide), if_pos (by decide), if_pos (by decide), if_pos (by decide), if_pos (by decide)]
        simp only [Option.bind_some, q_toldMany h2]
        exact rq_some.mpr ⟨rfl, f2⟩
    · refine rq_pair0 (v := m 41 5) h ?_ ?_
      · unfold f_X11_count
        rw [if_neg (by decide), if_neg (by decide), if_neg (by decide), if_neg (by decide), if_neg (by decide), if_neg (by decide), if_neg (by decide), if_neg (by decide), if_neg (by decide), if_neg (by decide), if_neg (by decide), if_pos rfl]
        simp only [Option.bind_some, q_g11]
      · unfold f_X12_count j_X12_count_157 j_X12_count_126 j_X12_count_98 j_X12_count_58
        rw [e2, Option.bind_some, q_withinT (by decide) (by decide), Option.bind_some, if_neg (by decide), if_pos (by decide), if_pos (by decide), if_pos (by decide), if_pos (by decide), if_neg (by decide), if_pos (by decide)]
        simp only [q_gfr, Option.bind_some, hu2]
        exact rq_some.mpr ⟨rfl, f2⟩
    · refine rq_pair0 (v := m 42 1) h ?_ ?_
      · unfold f_X11_count
        rw [if_neg (by decide), if_neg (by decide), if_neg (by decide), if_neg (by decide), if_neg (by decide), if_neg (by decide), if_neg (by decide), if_neg (by decide), if_neg (by decide), if_neg (by decide), if_neg (by decide), if_neg (by decide), if_pos rfl]
        simp only [Option.bind_some, q_g11, pt_41_0 hs, g8]
      · unfold f_X12_count j_X12_count_157 j_X12_count_126 j_X12_count_98 j_X12_count_58
        rw [e2, Option.bind_some, q_withinT (by decide) (by decide), Option.bind_some, if_neg (by decide), if_pos (by decide), if_pos (by decide), if_pos (by decide), if_pos (by decide), if_neg (by decide), if_neg (by decide)]
        simp only [q_gfr, Option.bind_some, ht2]
        exact rq_some.mpr ⟨rfl, f2⟩
  · refine rq_pair0 (v := -1) h ?_ ?_
    · unfold f_X11_count
      rw [if_neg (show ¬ a = 0 by omega), if_neg (show ¬ a = 1 by omega), if_neg (show ¬ a = 2 by omega), if_neg (show ¬ a = 3 by omega), if_neg (show ¬ a = 4 by omega), if_neg (show ¬ a = 5 by omega), if_neg (show ¬ a = 6 by omega), if_neg (show ¬ a = 7 by omega), if_neg (show ¬ a = 8 by omega), if_neg (show ¬ a = 9 by omega), if_neg (show ¬ a = 10 by omega), if_neg (show ¬ a = 11 by omega), if_neg (show ¬ a = 12 by omega)]
    · unfold f_X12_count
      rw [e2, Option.bind_some, q_withinF ha, Option.bind_some, if_pos rfl]
      exact rq_some.mpr ⟨rfl, f2⟩
end
