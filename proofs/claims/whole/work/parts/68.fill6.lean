/-! Layer 3: fill, the reference's table, filled -/
section
variable {ρ : rq_R} {m : rt_M} {S : rq_S}
def rq_w92 (k j : Nat) : Bool := rq_wF k j || k == 292
theorem rq_w92_st : (rq_P.all fun p => !(rq_w92 p.1 p.2.1)) = true := by decide +kernel
theorem rq_D_w92 {m' : rt_M} (h : rq_D ρ m) (k : rq_fr rq_w92 m m') : rq_D ρ m' := by
  obtain ⟨hs, hv, hc⟩ := h
  refine ⟨rq_st_fr hs k rq_w92_st, hv, rq_rr_fr hc (fun a j h1 h2 => k a j ?_)⟩
  unfold rq_w92 rq_wF
  simp only [Bool.or_eq_false_iff, Bool.and_eq_false_iff, beq_eq_false_iff_ne, decide_eq_false_iff_not]
  omega
theorem rq_w92_F {k j : Nat} (h : rq_w92 k j = false) : rq_wF k j = false := by
  unfold rq_w92 at h
  simp only [Bool.or_eq_false_iff] at h
  exact h.1
theorem rq_fo_tb {w k n : Nat} (hw : (w : Int) < ρ.1 0 0) (hk : (k : Int) < ρ.1 0 1) : (rq_fo ρ S n w).testBit k = (decide (S (7 + w) < 9) && rq_ftb ρ w k (S 0).toNat n) := by
  unfold rq_fo
  by_cases z : S (7 + w) < 9
  · rw [if_pos ⟨hw, z⟩, rq_bn_tb]
    simp [z]
    omega
  · rw [if_neg (fun y => z y.2)]
    simp [z]
theorem q_rfillR (h : rq_D ρ m) (hS : rq_sr S m) (hv : rq_vs ρ S) {w n : Nat} (hw : (w : Int) < ρ.1 0 0) (hn : n ≤ 8) (h59 : m 248 59 = (n : Int)) (a : Int) : rq (rt_it (b_X12_fill_51 248 a (w : Int)) 4000 (0, m)) (fun m1 => (∀ k : Nat, k < (ρ.1 0 1).toNat → m1 292 (6 * w + k) = if (rq_fo ρ S n w).testBit k = true then 1 else 0) ∧ (∀ l, l < 6 * w → m1 292 l = m 292 l) ∧ rq_fr rq_w92 m m1) := by
  have hb := h.2.1.1
  have w6 : w < 6 := by omega
  refine rq_up (fun i s => s.1 = (i : Int) ∧ (∀ k : Nat, k < i → s.2 292 (6 * w + k) = if (rq_fo ρ S n w).testBit k = true then 1 else 0) ∧ (∀ l, l < 6 * w → s.2 292 l = m 292 l) ∧ rq_fr rq_w92 m s.2) (ρ.1 0 1).toNat (by omega) ?_ ?_ (by exact ⟨rfl, fun j hj => absurd hj (Nat.not_lt_zero _), fun _ _ => rfl, rq_fr.rfl⟩)
  · rintro i ⟨x, mm⟩ hi ⟨e1, e2, e3, hf⟩
    dsimp only at e1 e2 e3 hf
    subst e1
    have hD := rq_D_w92 h hf
    have hs1 := hD.1
    have hS1 : rq_sr S mm := fun j hj => by rw [hf 285 j rfl]; exact hS j hj
    have tb := rq_fo_tb (ρ := ρ) (S := S) (n := n) hw (k := i) (by omega)
    have ix : rt_iadd (rt_imul 6 (w : Int)) (i : Int) = ((6 * w + i : Nat) : Int) := by rw [rq_imul (by omega) (by omega), rq_iadd (by omega) (by omega)]; omega
    have fin : ∀ (m2 : rt_M) (v : Int), rq_fr rq_wF mm m2 → (v = if (rq_fo ρ S n w).testBit i = true then 1 else 0) → rq (j_X12_fill_102_51 248 a (w : Int) (i : Int) 292 ((6 * w + i : Nat) : Int) v m2) (fun t => (∀ s', t = .inl s' → s'.1 = ((i + 1 : Nat) : Int) ∧ (∀ k : Nat, k < i + 1 → s'.2 292 (6 * w + k) = if (rq_fo ρ S n w).testBit k = true then 1 else 0) ∧ (∀ l, l < 6 * w → s'.2 292 l = m 292 l) ∧ rq_fr rq_w92 m s'.2) ∧ (∀ e, t = .inr e → (∀ k : Nat, k < (ρ.1 0 1).toNat → e 292 (6 * w + k) = if (rq_fo ρ S n w).testBit k = true then 1 else 0) ∧ (∀ l, l < 6 * w → e 292 l = m 292 l) ∧ rq_fr rq_w92 m e)) := by
      intro m2 v f2 ev
      have ez : rt_bz v = some v := by
        unfold rt_bz
        refine if_pos ?_
        split at ev <;> omega
      unfold j_X12_fill_102_51
      rw [ez, Option.bind_some, show (292 : Int) = ((292 : Nat) : Int) from rfl, q_sa kd_292 ln_292 (show 6 * w + i < 36 by omega), Option.bind_some, rq_n1 (by omega)]
      refine rq_some.mpr (rq_inl ⟨rfl, fun k hk => ?_, fun l hl => ?_, (hf.trans (f2.mono (fun _ _ => rq_w92_F))).up rfl⟩)
      · show rt_up m2 292 (6 * w + i) v 292 (6 * w + k) = _
        rw [q_up]
        by_cases z : k = i
        · rw [if_pos ⟨rfl, by omega⟩, ev, z]
        · rw [if_neg (by omega), f2 292 _ rfl]
          exact e2 k (by omega)
      · show rt_up m2 292 (6 * w + i) v 292 l = _
        rw [q_up, if_neg (by omega), f2 292 _ rfl]
        exact e3 l hl
    unfold b_X12_fill_51 j_X12_fill_101_51
    dsimp only
    rw [q_gfr, Option.bind_some, q_rn1 hD 1 rfl, Option.bind_some, if_neg (by omega), q_gfr, Option.bind_some, q_gfr, Option.bind_some, q_rwe hs1 hS1 w6, Option.bind_some, ix, pt_248_60 hs1]
    by_cases z : 9 ≤ S (7 + w)
    · rw [if_pos z]
      exact fin mm 0 rq_fr.rfl (by rw [tb, if_neg]; simp; omega)
    · rw [if_neg z]
      refine rq_call (q_fitsAll hD hS1 hv hw (k := i) (by omega) hn (by rw [hf 248 59 rfl, h59])) ?_
      rintro ⟨v, m2⟩ ⟨e, f2⟩
      dsimp only at e f2 ⊢
      subst e
      by_cases y : rq_ftb ρ w i (S 0).toNat n = true
      · rw [if_pos y, if_neg (by decide)]
        exact fin m2 1 f2 (by rw [tb, if_pos]; simp [y]; omega)
      · rw [if_neg y, if_pos rfl]
        exact fin m2 0 f2 (by rw [tb, if_neg]; simp [y])
  · rintro ⟨x, mm⟩ ⟨e1, e2, e3, hf⟩
    dsimp only at e1 e2 e3 hf
    have hD := rq_D_w92 h hf
    unfold b_X12_fill_51
    dsimp only
    rw [q_gfr, Option.bind_some, q_rn1 hD 1 rfl, Option.bind_some, if_pos (by omega)]
    exact rq_some.mpr (rq_inre ⟨e2, e3, hf⟩)
end
