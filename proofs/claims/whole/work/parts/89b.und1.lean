/-! Layer 3: sets with one head more -/
section
/-- sets made by adding a head -/
theorem rq_reix (G : Nat → Int) : ∀ h, h < 6 → rq_sum (fun s => if s.testBit h = true then G (s ^^^ 2 ^ h) else 0) 64 = rq_sum (fun s => if s.testBit h = true then 0 else G s) 64 := by
  intro h hh
  have h6 : h = 0 ∨ h = 1 ∨ h = 2 ∨ h = 3 ∨ h = 4 ∨ h = 5 := by omega
  rcases h6 with rfl | rfl | rfl | rfl | rfl | rfl <;> simp [rq_sum, Nat.testBit] <;> omega
theorem rq_sets1 : ∀ s, s < 64 → ∀ B, B < 64 → ∀ h, h < 6 → (decide (s &&& B = 0) && s.testBit h) = (s.testBit h && !B.testBit h && decide ((s ^^^ 2 ^ h) &&& (B ||| 2 ^ h) = 0)) := by decide +kernel
theorem rq_sets2 : ∀ s, s < 64 → ∀ B, B < 64 → ∀ h, h < 6 → (decide (s &&& (B ||| 2 ^ h) = 0) && s.testBit h) = false := by decide +kernel
theorem rq_sets (s : Nat) (hs : s < 64) (B : Nat) (hB : B < 64) (h : Nat) (hh : h < 6) : (s &&& B = 0 ∧ s.testBit h = true ↔ s.testBit h = true ∧ B.testBit h = false ∧ (s ^^^ 2 ^ h) &&& (B ||| 2 ^ h) = 0) ∧ (s &&& (B ||| 2 ^ h) = 0 → s.testBit h = false) := by
  have a := rq_sets1 s hs B hB h hh
  have b := rq_sets2 s hs B hB h hh
  constructor
  · rw [Bool.eq_iff_iff] at a
    simp only [Bool.and_eq_true, decide_eq_true_eq, Bool.not_eq_true'] at a
    rw [a, and_assoc]
  · intro q
    rw [decide_eq_true q, Bool.true_and] at b
    exact b
end
