/-! Layer 3: a line of a wig, the class reads it -/
def rq_wDc (r k j : Nat) : Bool := rq_w47 k j || (k == r && (j == 0 || j == 1 || j == 7 || j == 8)) || k == r + 1 || k == r + 2 || (decide (r + 4 ≤ k) && decide (k ≤ r + 9)) || (decide (r + 11 ≤ k) && decide (k ≤ r + 17))
theorem rq_wDc_st {r : Nat} (h : r = 63 ∨ r = 87) : (rq_P.all fun p => !(rq_wDc r p.1 p.2.1)) = true := by
  rcases h with rfl | rfl <;> decide +kernel
theorem rq_wDc_47 {r k j : Nat} (h : rq_wDc r k j = false) : rq_w47 k j = false := by
  unfold rq_wDc at h
  simp only [Bool.or_eq_false_iff] at h
  exact h.1.1.1.1.1
abbrev rq_WT : Type := Int × Int × Int × Int
def rq_aw (ρ : rq_R) (t : rq_WT) : rq_R := (fun a i => if a = 0 then (if i = 0 then ρ.1 0 0 + 1 else ρ.1 0 i) else if i = (ρ.1 0 0).toNat ∧ (a = 1 ∨ a = 2 ∨ a = 3 ∨ a = 9) then (if a = 1 then t.1 else if a = 2 then t.2.1 else if a = 3 then t.2.2.1 else t.2.2.2) else ρ.1 a i, ρ.2)
def rq_lnR {α : Type} (s : Nat → Int) (n r : Nat) (m : rt_M) (x : (Int × Nat) ⊕ (α × Nat)) (C : α → rt_M → Prop) (p : Int × rt_M) : Prop := rq_fr (rq_wDc r) m p.2 ∧ match x with
  | .inl q => p.1 = 0 ∧ p.2 47 2 = q.1 + 16 * (q.2 : Int)
  | .inr q => p.1 = 1 ∧ rq_pc s n q.2 p.2 ∧ C q.1 p.2
section
variable {m : rt_M} {s : Nat → Int} {n b r : Nat} {ρ : rq_R}
theorem q_gf4r (hr : r = 63 ∨ r = 87) (j : Nat) : rt_gf 4 j (r : Int) m = some (m r j) := by
  rcases hr with rfl | rfl <;> rfl
theorem q_pf4r (hr : r = 63 ∨ r = 87) (j : Nat) (v : Int) : rt_pf 4 j (r : Int) v m = some (rt_up m r j v) := by
  rcases hr with rfl | rfl <;> rfl
theorem rq_aw_va (hv : rq_va ρ) (h6 : ρ.1 0 0 ≠ 6) {t : rq_WT} (h1 : 40 ≤ t.1 ∧ t.1 ≤ 79) (h2 : 0 ≤ t.2.1 ∧ t.2.1 ≤ 99) (h3 : 0 ≤ t.2.2.1 ∧ t.2.2.1 ≤ 9) : rq_va (rq_aw ρ t) := by
  obtain ⟨a, b, c, d⟩ := hv
  have e0 : (rq_aw ρ t).1 0 0 = ρ.1 0 0 + 1 := rfl
  have e1 : (rq_aw ρ t).1 0 1 = ρ.1 0 1 := rfl
  have e2 : (rq_aw ρ t).1 0 2 = ρ.1 0 2 := rfl
  have e3 : (rq_aw ρ t).1 0 3 = ρ.1 0 3 := rfl
  have en : ∀ x i, x ≠ 0 → x ≠ 1 → x ≠ 2 → x ≠ 3 → x ≠ 9 → (rq_aw ρ t).1 x i = ρ.1 x i := fun x i q0 q1 q2 q3 q9 => by
    unfold rq_aw
    dsimp only
    rw [if_neg q0, if_neg (by omega)]
  refine ⟨by rw [e0, e1, e2, e3]; omega, fun w hw => ?_, fun h hh => ?_, fun i hi => ?_⟩
  · rw [e0] at hw
    have f1 : (rq_aw ρ t).1 1 w = if w = (ρ.1 0 0).toNat then t.1 else ρ.1 1 w := by simp [rq_aw]
    have f2 : (rq_aw ρ t).1 2 w = if w = (ρ.1 0 0).toNat then t.2.1 else ρ.1 2 w := by simp [rq_aw]
    have f3 : (rq_aw ρ t).1 3 w = if w = (ρ.1 0 0).toNat then t.2.2.1 else ρ.1 3 w := by simp [rq_aw]
    rw [f1, f2, f3]
    by_cases z : w = (ρ.1 0 0).toNat
    · rw [if_pos z, if_pos z, if_pos z]; omega
    · rw [if_neg z, if_neg z, if_neg z]; exact b w (by omega)
  · rw [e1] at hh
    rw [en 4 h (by decide) (by decide) (by decide) (by decide) (by decide), en 5 h (by decide) (by decide) (by decide) (by decide) (by decide), en 6 h (by decide) (by decide) (by decide) (by decide) (by decide), en 7 h (by decide) (by decide) (by decide) (by decide) (by decide)]
    exact c h hh
  · rw [e3] at hi
    rw [en 8 i (by decide) (by decide) (by decide) (by decide) (by decide)]
    exact d i hi
/-- the class's draft with one wig more -/
theorem rq_aw_C (h : rq_C r ρ m) (h6 : ρ.1 0 0 ≠ 6) {t : rq_WT} (h1 : 40 ≤ t.1 ∧ t.1 ≤ 79) (h2 : 0 ≤ t.2.1 ∧ t.2.1 ≤ 99) (h3 : 0 ≤ t.2.2.1 ∧ t.2.2.1 ≤ 9) {c : Nat} (hc : ρ.1 0 0 = (c : Int)) {m' : rt_M} (hs' : rq_st m') (c0 : m' (r + 4 + c) 0 = t.1) (c1 : m' (r + 4 + c) 1 = t.2.1) (c2 : m' (r + 4 + c) 2 = t.2.2.1) (cn : m' (r + 1) c = t.2.2.2) (ct : m' r 0 = (c : Int) + 1) (k : ∀ a j, r ≤ a → a ≤ r + 23 → ¬ (a = r ∧ j = 0) → ¬ (a = r + 1 ∧ j = c) → ¬ (a = r + 4 + c) → m' a j = m a j) : rq_C r (rq_aw ρ t) m' := by
  obtain ⟨hs, hr, hv, ⟨b0, b1, b2, b3⟩, q1, q2, q3, q4, q5⟩ := h
  have hv0 := hv.1
  have e0 : (rq_aw ρ t).1 0 0 = ρ.1 0 0 + 1 := rfl
  have e1 : (rq_aw ρ t).1 0 1 = ρ.1 0 1 := rfl
  have e2 : (rq_aw ρ t).1 0 2 = ρ.1 0 2 := rfl
  have e3 : (rq_aw ρ t).1 0 3 = ρ.1 0 3 := rfl
  have ec : (ρ.1 0 0).toNat = c := by omega
  have en : ∀ x i, x ≠ 0 → x ≠ 1 → x ≠ 2 → x ≠ 3 → x ≠ 9 → (rq_aw ρ t).1 x i = ρ.1 x i := fun x i q0 q1 q2 q3 q9 => by
    unfold rq_aw
    dsimp only
    rw [if_neg q0, if_neg (by omega)]
  refine ⟨hs', hr, rq_aw_va hv h6 h1 h2 h3, ⟨by rw [e0, ct, hc], by rw [e1, k r 1 (by omega) (by omega) (by omega) (by omega) (by omega)]; exact b1, by rw [e2, k r 8 (by omega) (by omega) (by omega) (by omega) (by omega)]; exact b2, by rw [e3, k r 7 (by omega) (by omega) (by omega) (by omega) (by omega)]; exact b3⟩, fun w hw => ?_, fun w hw => ?_, fun i hi => ?_, rq_lw_fr q4 (fun j => k _ j (by omega) (by omega) (by omega) (by omega) (by omega)) (fun j => k _ j (by omega) (by omega) (by omega) (by omega) (by omega)), rq_lw_fr q5 (fun j => k _ j (by omega) (by omega) (by omega) (by omega) (by omega)) (fun j => k _ j (by omega) (by omega) (by omega) (by omega) (by omega))⟩
  · rw [e0] at hw
    have f1 : (rq_aw ρ t).1 1 w = if w = c then t.1 else ρ.1 1 w := by simp [rq_aw, ec]
    have f2 : (rq_aw ρ t).1 2 w = if w = c then t.2.1 else ρ.1 2 w := by simp [rq_aw, ec]
    have f3 : (rq_aw ρ t).1 3 w = if w = c then t.2.2.1 else ρ.1 3 w := by simp [rq_aw, ec]
    have f9 : (rq_aw ρ t).1 9 w = if w = c then t.2.2.2 else ρ.1 9 w := by simp [rq_aw, ec]
    rw [f1, f2, f3, f9]
    by_cases z : w = c
    · rw [if_pos z, if_pos z, if_pos z, if_pos z, z]
      exact ⟨c0, c1, c2, cn⟩
    · rw [if_neg z, if_neg z, if_neg z, if_neg z, k _ 0 (by omega) (by omega) (by omega) (by omega) (by omega), k _ 1 (by omega) (by omega) (by omega) (by omega) (by omega), k _ 2 (by omega) (by omega) (by omega) (by omega) (by omega), k (r + 1) w (by omega) (by omega) (by omega) (by omega) (by omega)]
      exact q1 w (by omega)
  · rw [e1] at hw
    rw [en 4 w (by decide) (by decide) (by decide) (by decide) (by decide), en 5 w (by decide) (by decide) (by decide) (by decide) (by decide), en 6 w (by decide) (by decide) (by decide) (by decide) (by decide), en 7 w (by decide) (by decide) (by decide) (by decide) (by decide), en 10 w (by decide) (by decide) (by decide) (by decide) (by decide), k (r + 11 + w) 0 (by omega) (by omega) (by omega) (by omega) (by omega), k (r + 11 + w) 1 (by omega) (by omega) (by omega) (by omega) (by omega), k (r + 11 + w) 2 (by omega) (by omega) (by omega) (by omega) (by omega), k (r + 11 + w) 3 (by omega) (by omega) (by omega) (by omega) (by omega), k (r + 2) w (by omega) (by omega) (by omega) (by omega) (by omega)]
    exact q2 w hw
  · rw [e3] at hi
    rw [en 8 i (by decide) (by decide) (by decide) (by decide) (by decide), k (r + 17) i (by omega) (by omega) (by omega) (by omega) (by omega)]
    exact q3 i hi
end
