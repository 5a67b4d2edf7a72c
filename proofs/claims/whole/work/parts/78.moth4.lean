/-! Layer 3: moths, the reference's states -/
section
variable {r : Nat} {ρ : rq_R} {m : rt_M} {S X : rq_S}
/-- X: ahead of season i, the wigs of s mended -/
def rq_md (ρ : rq_R) (S : rq_S) (i s : Nat) (X : rq_S) : Prop := rq_vs ρ X ∧ X 0 = rq_pn ρ S i 0 ∧ ∀ w, w < 6 → X (1 + w) = rq_pn ρ S i (1 + w) ∧ (s.testBit w = false → X (7 + w) = rq_pn ρ S i (7 + w)) ∧ (s.testBit w = true → X (7 + w) ≤ (i : Int))
theorem rq_md_pass (hv : rq_va ρ) {i s : Nat} (h : rq_md ρ S i s X) (h0 : X 0 < 899999) : rq_md ρ S (i + 1) s (rq_ps ρ X) := by
  obtain ⟨a1, a2, a3⟩ := h
  refine ⟨rq_vs_ps hv a1 h0, ?_, fun w hw => ?_⟩
  · show X 0 + 1 = rq_pn ρ S i 0 + 1
    rw [a2]
  · obtain ⟨b1, b2, b3⟩ := a3 w hw
    have fl : rq_fl ρ X w = rq_fl ρ (rq_pn ρ S i) w := by unfold rq_fl; rw [b1, a2]
    have e1 : rq_pn ρ S (i + 1) (1 + w) = rq_ps ρ (rq_pn ρ S i) (1 + w) := rfl
    have e2 : rq_pn ρ S (i + 1) (7 + w) = rq_ps ρ (rq_pn ρ S i) (7 + w) := rfl
    have vw := (a1.2.2 w hw).1
    rw [e1, e2, rq_ps_on hw, rq_ps_on hw, rq_ps_wr, rq_ps_wr, fl, b1]
    refine ⟨rfl, fun hs => ?_, fun hs => ?_⟩
    · unfold rq_wr
      rw [b1, b2 hs]
    · have := b3 hs
      unfold rq_wr
      split
      · split
        · split <;> omega
        · omega
      · omega
theorem rq_md_mend {i s w : Nat} (h : rq_md ρ S i s X) (hw : (w : Int) < ρ.1 0 0) (h6 : w < 6) : rq_md ρ S i (s ||| 2 ^ w) (rq_at X (7 + w) 0) := by
  obtain ⟨a1, a2, a3⟩ := h
  refine ⟨rq_vs_at7 a1 hw h6, ?_, fun k hk => ?_⟩
  · unfold rq_at
    rw [if_neg (by omega)]; exact a2
  · obtain ⟨b1, b2, b3⟩ := a3 k hk
    have e1 : rq_at X (7 + w) 0 (1 + k) = X (1 + k) := by unfold rq_at; rw [if_neg (by omega)]
    have tb : (s ||| 2 ^ w).testBit k = (s.testBit k || decide (w = k)) := by rw [Nat.testBit_or, Nat.testBit_two_pow]
    rw [e1, tb]
    refine ⟨b1, fun q => ?_, fun q => ?_⟩
    · simp only [Bool.or_eq_false_iff, decide_eq_false_iff_not] at q
      unfold rq_at
      rw [if_neg (by omega)]
      exact b2 q.1
    · unfold rq_at
      by_cases z : k = w
      · rw [if_pos (by omega)]; omega
      · rw [if_neg (by omega)]
        simp only [Bool.or_eq_true, decide_eq_true_eq] at q
        exact b3 (q.resolve_right (fun y => z y.symm))
/-- the office that is saved anyway; by mending -/
def rq_b9 (ρ : rq_R) (S : rq_S) (n : Nat) : Int := rq_sum (fun w => if rq_pn ρ S n (7 + w) < 9 then ρ.1 2 w else 0) (ρ.1 0 0).toNat
def rq_gs (ρ : rq_R) (S : rq_S) (n s : Nat) : Int := rq_sum (fun w => if s.testBit w = true then rq_mg ρ S n 0 w else 0) (ρ.1 0 0).toNat
theorem rq_wt6 (hv : rq_va ρ) (X : rq_S) : rq_wt ρ X < 64 := by
  have hb := hv.1
  have wt := rq_bn_lt (fun w => decide (9 ≤ X (7 + w))) (ρ.1 0 0).toNat
  have h64 : 2 ^ (ρ.1 0 0).toNat ≤ 2 ^ 6 := Nat.pow_le_pow_right (by decide) (by omega)
  unfold rq_wt; omega
theorem rq_wt_tb (X : rq_S) {w : Nat} (hw : w < (ρ.1 0 0).toNat) : (rq_wt ρ X).testBit w = decide (9 ≤ X (7 + w)) := by
  unfold rq_wt
  rw [rq_bn_tb]
  simp [hw]
theorem rq_if01 (p : Prop) [Decidable p] (x y : Int) : (if (if decide p = true then (0 : Int) else 1) = 1 then x else y) = if p then y else x := by
  by_cases z : p
  · rw [if_pos z, show (if decide p = true then (0 : Int) else 1) = 0 from if_pos (decide_eq_true z), if_neg (by decide)]
  · rw [if_neg z, show (if decide p = true then (0 : Int) else 1) = 1 from if_neg (by simpa using z), if_pos rfl]
theorem rq_b9_c (hv : rq_va ρ) (n : Nat) : rq_os ρ (rt_ixor ((rq_wt ρ (rq_pn ρ S n) : Nat) : Int) (-1)) = rq_b9 ρ S n := by
  have hb := hv.1
  unfold rq_os rq_b9
  refine rq_sum_c _ (fun w hw => ?_)
  rw [rq_tbn _ (rq_wt6 hv _) w (by omega), rq_wt_tb _ hw, rq_if01]
  by_cases z : 9 ≤ rq_pn ρ S n (7 + w)
  · rw [if_pos z, if_neg (show ¬ rq_pn ρ S n (7 + w) < 9 by omega)]
  · rw [if_neg z, if_pos (show rq_pn ρ S n (7 + w) < 9 by omega)]
theorem rq_b9_r (hv : rq_va ρ) {n s : Nat} (hn : n ≤ 4) (h : rq_md ρ S n s X) : rq_os ρ (rt_iand 63 (rt_ixor ((rq_wt ρ X : Nat) : Int) (-1))) = rq_b9 ρ S n + rq_gs ρ S n s := by
  have hb := hv.1
  unfold rq_os rq_b9 rq_gs
  rw [← rq_sum_ad]
  refine rq_sum_c _ (fun w hw => ?_)
  obtain ⟨b1, b2, b3⟩ := h.2.2 w (by omega)
  rw [rq_tbm _ (rq_wt6 hv _) w (by omega), rq_wt_tb _ hw, rq_if01]
  unfold rq_mg
  by_cases y : s.testBit w = true
  · have := b3 y
    rw [if_neg (show ¬ 9 ≤ X (7 + w) by omega), if_pos y]
    by_cases z : 9 ≤ rq_pn ρ S n (7 + w)
    · rw [if_neg (show ¬ rq_pn ρ S n (7 + w) < 9 by omega), if_pos (show (w : Int) < ρ.1 0 0 ∧ 9 ≤ rq_pn ρ S n (7 + w) from ⟨by omega, z⟩)]; omega
    · rw [if_pos (show rq_pn ρ S n (7 + w) < 9 by omega), if_neg (show ¬ ((w : Int) < ρ.1 0 0 ∧ 9 ≤ rq_pn ρ S n (7 + w)) from fun q => z q.2)]; omega
  · rw [if_neg y, b2 (by simpa using y)]
    by_cases z : 9 ≤ rq_pn ρ S n (7 + w)
    · rw [if_pos z, if_neg (show ¬ rq_pn ρ S n (7 + w) < 9 by omega)]; rfl
    · rw [if_neg z, if_pos (show rq_pn ρ S n (7 + w) < 9 by omega)]; omega
theorem rq_gs_add (n s : Nat) {w : Nat} (hw : (w : Int) < ρ.1 0 0) (i : Nat) : rq_gs ρ S n (s ||| 2 ^ w) = rq_gs ρ S n s + (if s.testBit w = true then 0 else rq_mg ρ S n i w) := by
  unfold rq_gs
  refine rq_sum_one (w := w) (fun k hk => ?_) ?_ _ (by omega)
  · rw [Nat.testBit_or, Nat.testBit_two_pow, decide_eq_false (fun y => hk y.symm), Bool.or_false]
  · rw [Nat.testBit_or, Nat.testBit_two_pow, decide_eq_true rfl, Bool.or_true, if_pos rfl]
    by_cases z : s.testBit w = true
    · rw [if_pos z, if_pos z]; omega
    · rw [if_neg z, if_neg z]
      show rq_mg ρ S n 0 w = 0 + rq_mg ρ S n 0 w
      omega
theorem rq_gs_0 (n : Nat) : rq_gs ρ S n 0 = 0 := by
  unfold rq_gs
  have : ∀ k, rq_sum (fun w => if (0 : Nat).testBit w = true then rq_mg ρ S n 0 w else 0) k = 0 := by
    intro k
    induction k with
    | zero => rfl
    | succ k ih => rw [rq_sum_s, ih]; simp
  exact this _
end
