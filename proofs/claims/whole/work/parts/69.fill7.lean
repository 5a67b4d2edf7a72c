/-! Layer 3: fill, the reference's table, whole -/
section
variable {ρ : rq_R} {m : rt_M} {S : rq_S}
theorem q_rfillG (h : rq_D ρ m) (hS : rq_sr S m) (hv : rq_vs ρ S) {n : Nat} (hn : n ≤ 8) (h59 : m 248 59 = (n : Int)) (a : Int) : rq (rt_it (b_X12_fill_38 248 a) 4000 (0, m)) (fun m1 => (∀ w k : Nat, w < (ρ.1 0 0).toNat → k < (ρ.1 0 1).toNat → m1 292 (6 * w + k) = if (rq_fo ρ S n w).testBit k = true then 1 else 0) ∧ rq_fr rq_w92 m m1) := by
  have hb := h.2.1.1
  refine rq_up (fun i s => s.1 = (i : Int) ∧ (∀ w k : Nat, w < i → k < (ρ.1 0 1).toNat → s.2 292 (6 * w + k) = if (rq_fo ρ S n w).testBit k = true then 1 else 0) ∧ rq_fr rq_w92 m s.2) (ρ.1 0 0).toNat (by omega) ?_ ?_ (by exact ⟨rfl, fun w k hj => absurd hj (Nat.not_lt_zero _), rq_fr.rfl⟩)
  · rintro i ⟨x, mm⟩ hi ⟨e1, e2, hf⟩
    dsimp only at e1 e2 hf
    subst e1
    have hD := rq_D_w92 h hf
    have hS1 : rq_sr S mm := fun j hj => by rw [hf 285 j rfl]; exact hS j hj
    unfold b_X12_fill_38
    dsimp only
    rw [q_gfr, Option.bind_some, q_rn0 hD 0 rfl, Option.bind_some, if_neg (by omega)]
    refine rq_call (q_rfillR hD hS1 hv (w := i) (by omega) hn (by rw [hf 248 59 rfl, h59]) a) ?_
    rintro m2 ⟨b1, b2, b3⟩
    rw [rq_n1 (by omega)]
    refine rq_some.mpr (rq_inl ⟨rfl, fun w k hw hk => ?_, hf.trans b3⟩)
    show m2 292 (6 * w + k) = _
    by_cases z : w = i
    · rw [z]; exact b1 k hk
    · rw [b2 _ (by omega)]; exact e2 w k (by omega) hk
  · rintro ⟨x, mm⟩ ⟨e1, e2, hf⟩
    dsimp only at e1 e2 hf
    have hD := rq_D_w92 h hf
    unfold b_X12_fill_38
    dsimp only
    rw [q_gfr, Option.bind_some, q_rn0 hD 0 rfl, Option.bind_some, if_pos (by omega)]
    exact rq_some.mpr (rq_inre ⟨e2, hf⟩)
end
