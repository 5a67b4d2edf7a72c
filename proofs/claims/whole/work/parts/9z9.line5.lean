/-! Layer 3: a line of a head, the class reads it -/
abbrev rq_HT : Type := Int × Int × Int × Int × Int
def rq_ah (ρ : rq_R) (t : rq_HT) : rq_R := (fun a i => if a = 0 then (if i = 1 then ρ.1 0 1 + 1 else ρ.1 0 i) else if i = (ρ.1 0 1).toNat ∧ (a = 4 ∨ a = 5 ∨ a = 6 ∨ a = 7 ∨ a = 10) then (if a = 4 then t.1 else if a = 5 then t.2.1 else if a = 6 then t.2.2.1 else if a = 7 then t.2.2.2.1 else t.2.2.2.2) else ρ.1 a i, ρ.2)
section
variable {m : rt_M} {s : Nat → Int} {n b r : Nat} {ρ : rq_R}
theorem rq_ah_n (t : rq_HT) (x i : Nat) (q0 : x ≠ 0) (q4 : x ≠ 4) (q5 : x ≠ 5) (q6 : x ≠ 6) (q7 : x ≠ 7) (q10 : x ≠ 10) : (rq_ah ρ t).1 x i = ρ.1 x i := by
  unfold rq_ah
  dsimp only
  rw [if_neg q0, if_neg (by omega)]
theorem rq_ah_va (hv : rq_va ρ) (h6 : ρ.1 0 1 ≠ 6) {t : rq_HT} (h0 : 0 ≤ t.1 ∧ t.1 ≤ 3) (h1 : 40 ≤ t.2.1 ∧ t.2.1 ≤ 79) (h2 : 0 ≤ t.2.2.1 ∧ t.2.2.1 ≤ 99) (h3 : 0 ≤ t.2.2.2.1 ∧ t.2.2.2.1 ≤ 9) : rq_va (rq_ah ρ t) := by
  obtain ⟨a, b, c, d⟩ := hv
  have e0 : (rq_ah ρ t).1 0 0 = ρ.1 0 0 := rfl
  have e1 : (rq_ah ρ t).1 0 1 = ρ.1 0 1 + 1 := rfl
  have e2 : (rq_ah ρ t).1 0 2 = ρ.1 0 2 := rfl
  have e3 : (rq_ah ρ t).1 0 3 = ρ.1 0 3 := rfl
  refine ⟨by rw [e0, e1, e2, e3]; omega, fun w hw => ?_, fun w hw => ?_, fun i hi => ?_⟩
  · rw [e0] at hw
    rw [rq_ah_n t 1 w (by decide) (by decide) (by decide) (by decide) (by decide) (by decide), rq_ah_n t 2 w (by decide) (by decide) (by decide) (by decide) (by decide) (by decide), rq_ah_n t 3 w (by decide) (by decide) (by decide) (by decide) (by decide) (by decide)]
    exact b w hw
  · rw [e1] at hw
    have f0 : (rq_ah ρ t).1 4 w = if w = (ρ.1 0 1).toNat then t.1 else ρ.1 4 w := by simp [rq_ah]
    have f1 : (rq_ah ρ t).1 5 w = if w = (ρ.1 0 1).toNat then t.2.1 else ρ.1 5 w := by simp [rq_ah]
    have f2 : (rq_ah ρ t).1 6 w = if w = (ρ.1 0 1).toNat then t.2.2.1 else ρ.1 6 w := by simp [rq_ah]
    have f3 : (rq_ah ρ t).1 7 w = if w = (ρ.1 0 1).toNat then t.2.2.2.1 else ρ.1 7 w := by simp [rq_ah]
    rw [f0, f1, f2, f3]
    by_cases z : w = (ρ.1 0 1).toNat
    · rw [if_pos z, if_pos z, if_pos z, if_pos z]; omega
    · rw [if_neg z, if_neg z, if_neg z, if_neg z]; exact c w (by omega)
  · rw [e3] at hi
    rw [rq_ah_n t 8 i (by decide) (by decide) (by decide) (by decide) (by decide) (by decide)]
    exact d i hi
/-- the class's draft with one head more -/
theorem rq_ah_C (h : rq_C r ρ m) (h6 : ρ.1 0 1 ≠ 6) {t : rq_HT} (h0 : 0 ≤ t.1 ∧ t.1 ≤ 3) (h1 : 40 ≤ t.2.1 ∧ t.2.1 ≤ 79) (h2 : 0 ≤ t.2.2.1 ∧ t.2.2.1 ≤ 99) (h3 : 0 ≤ t.2.2.2.1 ∧ t.2.2.2.1 ≤ 9) {c : Nat} (hc : ρ.1 0 1 = (c : Int)) {m' : rt_M} (hs' : rq_st m') (c0 : m' (r + 11 + c) 0 = t.1) (c1 : m' (r + 11 + c) 1 = t.2.1) (c2 : m' (r + 11 + c) 2 = t.2.2.1) (c3 : m' (r + 11 + c) 3 = t.2.2.2.1) (cn : m' (r + 2) c = t.2.2.2.2) (ct : m' r 1 = (c : Int) + 1) (k : ∀ a j, r ≤ a → a ≤ r + 23 → ¬ (a = r ∧ j = 1) → ¬ (a = r + 2 ∧ j = c) → ¬ (a = r + 11 + c) → m' a j = m a j) : rq_C r (rq_ah ρ t) m' := by
  obtain ⟨hs, hr, hv, ⟨b0, b1, b2, b3⟩, q1, q2, q3, q4, q5⟩ := h
  have hv0 := hv.1
  have e0 : (rq_ah ρ t).1 0 0 = ρ.1 0 0 := rfl
  have e1 : (rq_ah ρ t).1 0 1 = ρ.1 0 1 + 1 := rfl
  have e2 : (rq_ah ρ t).1 0 2 = ρ.1 0 2 := rfl
  have e3 : (rq_ah ρ t).1 0 3 = ρ.1 0 3 := rfl
  have ec : (ρ.1 0 1).toNat = c := by omega
  refine ⟨hs', hr, rq_ah_va hv h6 h0 h1 h2 h3, ⟨by rw [e0, k r 0 (by omega) (by omega) (by omega) (by omega) (by omega)]; exact b0, by rw [e1, ct, hc], by rw [e2, k r 8 (by omega) (by omega) (by omega) (by omega) (by omega)]; exact b2, by rw [e3, k r 7 (by omega) (by omega) (by omega) (by omega) (by omega)]; exact b3⟩, fun w hw => ?_, fun w hw => ?_, fun i hi => ?_, rq_lw_fr q4 (fun j => k _ j (by omega) (by omega) (by omega) (by omega) (by omega)) (fun j => k _ j (by omega) (by omega) (by omega) (by omega) (by omega)), rq_lw_fr q5 (fun j => k _ j (by omega) (by omega) (by omega) (by omega) (by omega)) (fun j => k _ j (by omega) (by omega) (by omega) (by omega) (by omega))⟩
  · rw [e0] at hw
    rw [rq_ah_n t 1 w (by decide) (by decide) (by decide) (by decide) (by decide) (by decide), rq_ah_n t 2 w (by decide) (by decide) (by decide) (by decide) (by decide) (by decide), rq_ah_n t 3 w (by decide) (by decide) (by decide) (by decide) (by decide) (by decide), rq_ah_n t 9 w (by decide) (by decide) (by decide) (by decide) (by decide) (by decide), k (r + 4 + w) 0 (by omega) (by omega) (by omega) (by omega) (by omega), k (r + 4 + w) 1 (by omega) (by omega) (by omega) (by omega) (by omega), k (r + 4 + w) 2 (by omega) (by omega) (by omega) (by omega) (by omega), k (r + 1) w (by omega) (by omega) (by omega) (by omega) (by omega)]
    exact q1 w hw
  · rw [e1] at hw
    have f0 : (rq_ah ρ t).1 4 w = if w = c then t.1 else ρ.1 4 w := by simp [rq_ah, ec]
    have f1 : (rq_ah ρ t).1 5 w = if w = c then t.2.1 else ρ.1 5 w := by simp [rq_ah, ec]
    have f2 : (rq_ah ρ t).1 6 w = if w = c then t.2.2.1 else ρ.1 6 w := by simp [rq_ah, ec]
    have f3 : (rq_ah ρ t).1 7 w = if w = c then t.2.2.2.1 else ρ.1 7 w := by simp [rq_ah, ec]
    have f10 : (rq_ah ρ t).1 10 w = if w = c then t.2.2.2.2 else ρ.1 10 w := by simp [rq_ah, ec]
    rw [f0, f1, f2, f3, f10]
    by_cases z : w = c
    · rw [if_pos z, if_pos z, if_pos z, if_pos z, if_pos z, z]
      exact ⟨c0, c1, c2, c3, cn⟩
    · rw [if_neg z, if_neg z, if_neg z, if_neg z, if_neg z, k _ 0 (by omega) (by omega) (by omega) (by omega) (by omega), k _ 1 (by omega) (by omega) (by omega) (by omega) (by omega), k _ 2 (by omega) (by omega) (by omega) (by omega) (by omega), k _ 3 (by omega) (by omega) (by omega) (by omega) (by omega), k (r + 2) w (by omega) (by omega) (by omega) (by omega) (by omega)]
      exact q2 w (by omega)
  · rw [e3] at hi
    rw [rq_ah_n t 8 i (by decide) (by decide) (by decide) (by decide) (by decide) (by decide), k (r + 17) i (by omega) (by omega) (by omega) (by omega) (by omega)]
    exact q3 i hi
end
