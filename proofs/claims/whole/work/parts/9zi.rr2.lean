/-! Layer 3: the reference's draft -/
def rq_dr (ρ : rq_R) (m : rt_M) : Prop :=
  (m 250 4 = ρ.1 0 0 ∧ m 250 5 = ρ.1 0 1 ∧ m 250 6 = ρ.1 0 2 ∧ m 250 7 = ρ.1 0 3) ∧
  (∀ w : Nat, (w : Int) < ρ.1 0 0 → m 253 (6 + w) = ρ.1 1 w ∧ m 254 (6 + w) = ρ.1 2 w ∧ m 255 (6 + w) = ρ.1 3 w ∧ rq_nm (ρ.1 9 w) (m 251 (6 + w))) ∧
  (∀ h : Nat, (h : Int) < ρ.1 0 1 → m 256 (6 + h) = ρ.1 4 h ∧ m 257 (6 + h) = ρ.1 5 h ∧ m 258 (6 + h) = ρ.1 6 h ∧ m 259 (6 + h) = ρ.1 7 h ∧ rq_nm (ρ.1 10 h) (m 252 (6 + h))) ∧
  ∀ i : Nat, (i : Int) < ρ.1 0 3 → m 260 (12 + i) = ρ.1 8 i
def rq_wGr (k j : Nat) : Bool := rq_w40 k j || (k == 250 && decide (4 ≤ j)) || (decide (251 ≤ k) && decide (k ≤ 259) && decide (6 ≤ j)) || (k == 260 && decide (12 ≤ j))
theorem rq_wGr_st : (rq_P.all fun p => !(rq_wGr p.1 p.2.1)) = true := by decide +kernel
theorem rq_wGr_40 {k j : Nat} (h : rq_wGr k j = false) : rq_w40 k j = false := by
  unfold rq_wGr at h
  simp only [Bool.or_eq_false_iff] at h
  exact h.1.1.1
def rq_lnD {α : Type} (s : Nat → Int) (n : Nat) (m : rt_M) (x : (Int × Nat) ⊕ (α × Nat)) (C : α → rt_M → Prop) (p : Int × rt_M) : Prop := rq_fr rq_wGr m p.2 ∧ match x with
  | .inl q => p.1 = 0 ∧ p.2 248 9 = q.1 + 16 * (q.2 : Int)
  | .inr q => p.1 = 1 ∧ rq_ts s n q.2 p.2 ∧ C q.1 p.2
def rq_wFy (a j k i : Nat) : Bool := rq_w9 k i || (k == a && i == j)
theorem rq_wFy_st {a j : Nat} (ha : (rq_P.all fun p => !(p.1 == a)) = true) : (rq_P.all fun p => !(rq_wFy a j p.1 p.2.1)) = true := by
  have h9 := rq_w9_st
  rw [List.all_eq_true] at h9 ha ⊢
  intro p hp
  have x := h9 p hp
  have y := ha p hp
  unfold rq_wFy
  simp only [Bool.not_eq_true', beq_eq_false_iff_ne, Bool.or_eq_false_iff, Bool.and_eq_false_iff] at x y ⊢
  exact ⟨x, Or.inl y⟩
section
variable {m m' : rt_M} {s : Nat → Int} {n b : Nat} {ρ : rq_R}
theorem rq_dr_dn (h : rq_dr ρ m) : rq_dn ρ m := ⟨h.1.1, h.1.2.1, fun i hi => (h.2.1 i hi).2.2.2, fun i hi => (h.2.2.1 i hi).2.2.2.2⟩
theorem rq_dr_fr (h : rq_dr ρ m) (k : ∀ a j, 250 ≤ a → a ≤ 260 → m' a j = m a j) : rq_dr ρ m' := by
  obtain ⟨⟨a1, a2, a3, a4⟩, h1, h2, h3⟩ := h
  refine ⟨⟨?_, ?_, ?_, ?_⟩, fun w hw => ?_, fun w hw => ?_, fun w hw => ?_⟩
  · rw [k 250 _ (by omega) (by omega)]; exact a1
  · rw [k 250 _ (by omega) (by omega)]; exact a2
  · rw [k 250 _ (by omega) (by omega)]; exact a3
  · rw [k 250 _ (by omega) (by omega)]; exact a4
  · rw [k 253 _ (by omega) (by omega), k 254 _ (by omega) (by omega), k 255 _ (by omega) (by omega), k 251 _ (by omega) (by omega)]; exact h1 w hw
  · rw [k 256 _ (by omega) (by omega), k 257 _ (by omega) (by omega), k 258 _ (by omega) (by omega), k 259 _ (by omega) (by omega), k 252 _ (by omega) (by omega)]; exact h2 w hw
  · rw [k 260 _ (by omega) (by omega)]; exact h3 w hw
theorem rq_aw_dr (h : rq_dr ρ m) {t : rq_WT} {c : Nat} (hc : ρ.1 0 0 = (c : Int)) (c1 : m' 253 (6 + c) = t.1) (c2 : m' 254 (6 + c) = t.2.1) (c3 : m' 255 (6 + c) = t.2.2.1) (cn : rq_nm t.2.2.2 (m' 251 (6 + c))) (ct : m' 250 4 = (c : Int) + 1) (k : ∀ a i, 250 ≤ a → a ≤ 260 → ¬ (a = 250 ∧ i = 4) → ¬ ((a = 251 ∨ a = 253 ∨ a = 254 ∨ a = 255) ∧ i = 6 + c) → m' a i = m a i) : rq_dr (rq_aw ρ t) m' := by
  obtain ⟨⟨a1, a2, a3, a4⟩, h1, h2, h3⟩ := h
  have e0 : (rq_aw ρ t).1 0 0 = ρ.1 0 0 + 1 := rfl
  have e1 : (rq_aw ρ t).1 0 1 = ρ.1 0 1 := rfl
  have e2 : (rq_aw ρ t).1 0 2 = ρ.1 0 2 := rfl
  have e3 : (rq_aw ρ t).1 0 3 = ρ.1 0 3 := rfl
  have ec : (ρ.1 0 0).toNat = c := by omega
  have en : ∀ x i, x ≠ 0 → x ≠ 1 → x ≠ 2 → x ≠ 3 → x ≠ 9 → (rq_aw ρ t).1 x i = ρ.1 x i := fun x i q0 q1 q2 q3 q9 => by
    unfold rq_aw
    dsimp only
    rw [if_neg q0, if_neg (by omega)]
  refine ⟨⟨by rw [e0, ct, hc], by rw [e1, k 250 5 (by omega) (by omega) (by omega) (by omega)]; exact a2, by rw [e2, k 250 6 (by omega) (by omega) (by omega) (by omega)]; exact a3, by rw [e3, k 250 7 (by omega) (by omega) (by omega) (by omega)]; exact a4⟩, fun w hw => ?_, fun w hw => ?_, fun i hi => ?_⟩
  · rw [e0] at hw
    have f1 : (rq_aw ρ t).1 1 w = if w = c then t.1 else ρ.1 1 w := by simp [rq_aw, ec]
    have f2 : (rq_aw ρ t).1 2 w = if w = c then t.2.1 else ρ.1 2 w := by simp [rq_aw, ec]
    have f3 : (rq_aw ρ t).1 3 w = if w = c then t.2.2.1 else ρ.1 3 w := by simp [rq_aw, ec]
    have f9 : (rq_aw ρ t).1 9 w = if w = c then t.2.2.2 else ρ.1 9 w := by simp [rq_aw, ec]
    rw [f1, f2, f3, f9]
    by_cases z : w = c
    · rw [if_pos z, if_pos z, if_pos z, if_pos z, z]
      exact ⟨c1, c2, c3, cn⟩
    · rw [if_neg z, if_neg z, if_neg z, if_neg z, k 253 _ (by omega) (by omega) (by omega) (by omega), k 254 _ (by omega) (by omega) (by omega) (by omega), k 255 _ (by omega) (by omega) (by omega) (by omega), k 251 _ (by omega) (by omega) (by omega) (by omega)]
      exact h1 w (by omega)
  · rw [e1] at hw
    rw [en 4 w (by decide) (by decide) (by decide) (by decide) (by decide), en 5 w (by decide) (by decide) (by decide) (by decide) (by decide), en 6 w (by decide) (by decide) (by decide) (by decide) (by decide), en 7 w (by decide) (by decide) (by decide) (by decide) (by decide), en 10 w (by decide) (by decide) (by decide) (by decide) (by decide), k 256 _ (by omega) (by omega) (by omega) (by omega), k 257 _ (by omega) (by omega) (by omega) (by omega), k 258 _ (by omega) (by omega) (by omega) (by omega), k 259 _ (by omega) (by omega) (by omega) (by omega), k 252 _ (by omega) (by omega) (by omega) (by omega)]
    exact h2 w hw
  · rw [e3] at hi
    rw [en 8 i (by decide) (by decide) (by decide) (by decide) (by decide), k 260 _ (by omega) (by omega) (by omega) (by omega)]
    exact h3 i hi
theorem rq_ah_dr (h : rq_dr ρ m) {t : rq_HT} {c : Nat} (hc : ρ.1 0 1 = (c : Int)) (c0 : m' 256 (6 + c) = t.1) (c1 : m' 257 (6 + c) = t.2.1) (c2 : m' 258 (6 + c) = t.2.2.1) (c3 : m' 259 (6 + c) = t.2.2.2.1) (cn : rq_nm t.2.2.2.2 (m' 252 (6 + c))) (ct : m' 250 5 = (c : Int) + 1) (k : ∀ a i, 250 ≤ a → a ≤ 260 → ¬ (a = 250 ∧ i = 5) → ¬ ((a = 252 ∨ a = 256 ∨ a = 257 ∨ a = 258 ∨ a = 259) ∧ i = 6 + c) → m' a i = m a i) : rq_dr (rq_ah ρ t) m' := by
  obtain ⟨⟨a1, a2, a3, a4⟩, h1, h2, h3⟩ := h
  have e0 : (rq_ah ρ t).1 0 0 = ρ.1 0 0 := rfl
  have e1 : (rq_ah ρ t).1 0 1 = ρ.1 0 1 + 1 := rfl
  have e2 : (rq_ah ρ t).1 0 2 = ρ.1 0 2 := rfl
  have e3 : (rq_ah ρ t).1 0 3 = ρ.1 0 3 := rfl
  have ec : (ρ.1 0 1).toNat = c := by omega
  have en := rq_ah_n (ρ := ρ) t
  refine ⟨⟨by rw [e0, k 250 4 (by omega) (by omega) (by omega) (by omega)]; exact a1, by rw [e1, ct, hc], by rw [e2, k 250 6 (by omega) (by omega) (by omega) (by omega)]; exact a3, by rw [e3, k 250 7 (by omega) (by omega) (by omega) (by omega)]; exact a4⟩, fun w hw => ?_, fun w hw => ?_, fun i hi => ?_⟩
  · rw [e0] at hw
    rw [en 1 w (by decide) (by decide) (by decide) (by decide) (by decide) (by decide), en 2 w (by decide) (by decide) (by decide) (by decide) (by decide) (by decide), en 3 w (by decide) (by decide) (by decide) (by decide) (by decide) (by decide), en 9 w (by decide) (by decide) (by decide) (by decide) (by decide) (by decide), k 253 _ (by omega) (by omega) (by omega) (by omega), k 254 _ (by omega) (by omega) (by omega) (by omega), k 255 _ (by omega) (by omega) (by omega) (by omega), k 251 _ (by omega) (by omega) (by omega) (by omega)]
    exact h1 w hw
  · rw [e1] at hw
    have f4 : (rq_ah ρ t).1 4 w = if w = c then t.1 else ρ.1 4 w := by simp [rq_ah, ec]
    have f5 : (rq_ah ρ t).1 5 w = if w = c then t.2.1 else ρ.1 5 w := by simp [rq_ah, ec]
    have f6 : (rq_ah ρ t).1 6 w = if w = c then t.2.2.1 else ρ.1 6 w := by simp [rq_ah, ec]
    have f7 : (rq_ah ρ t).1 7 w = if w = c then t.2.2.2.1 else ρ.1 7 w := by simp [rq_ah, ec]
    have f10 : (rq_ah ρ t).1 10 w = if w = c then t.2.2.2.2 else ρ.1 10 w := by simp [rq_ah, ec]
    rw [f4, f5, f6, f7, f10]
    by_cases z : w = c
    · rw [if_pos z, if_pos z, if_pos z, if_pos z, if_pos z, z]
      exact ⟨c0, c1, c2, c3, cn⟩
    · rw [if_neg z, if_neg z, if_neg z, if_neg z, if_neg z, k 256 _ (by omega) (by omega) (by omega) (by omega), k 257 _ (by omega) (by omega) (by omega) (by omega), k 258 _ (by omega) (by omega) (by omega) (by omega), k 259 _ (by omega) (by omega) (by omega) (by omega), k 252 _ (by omega) (by omega) (by omega) (by omega)]
      exact h2 w (by omega)
  · rw [e3] at hi
    rw [en 8 i (by decide) (by decide) (by decide) (by decide) (by decide) (by decide), k 260 _ (by omega) (by omega) (by omega) (by omega)]
    exact h3 i hi
theorem rq_at3_dr (h : rq_dr ρ m) {t : Nat × (Nat → Int)} (c0 : ∀ i, i < t.1 → m' 260 (12 + i) = t.2 i) (ct : m' 250 7 = (t.1 : Int)) (k : ∀ a i, 250 ≤ a → a ≤ 259 → ¬ (a = 250 ∧ i = 7) → m' a i = m a i) : rq_dr (rq_at3 ρ t) m' := by
  obtain ⟨⟨a1, a2, a3, a4⟩, h1, h2, h3⟩ := h
  have e0 : (rq_at3 ρ t).1 0 0 = ρ.1 0 0 := rfl
  have e1 : (rq_at3 ρ t).1 0 1 = ρ.1 0 1 := rfl
  have e2 : (rq_at3 ρ t).1 0 2 = ρ.1 0 2 := rfl
  have e3 : (rq_at3 ρ t).1 0 3 = (t.1 : Int) := rfl
  have e8 : ∀ i, (rq_at3 ρ t).1 8 i = t.2 i := fun i => rfl
  have en := rq_at3_n (ρ := ρ) t
  refine ⟨⟨by rw [e0, k 250 4 (by omega) (by omega) (by omega)]; exact a1, by rw [e1, k 250 5 (by omega) (by omega) (by omega)]; exact a2, by rw [e2, k 250 6 (by omega) (by omega) (by omega)]; exact a3, by rw [e3, ct]⟩, fun w hw => ?_, fun w hw => ?_, fun i hi => ?_⟩
  · rw [e0] at hw
    rw [en 1 w (by decide) (by decide), en 2 w (by decide) (by decide), en 3 w (by decide) (by decide), en 9 w (by decide) (by decide), k 253 _ (by omega) (by omega) (by omega), k 254 _ (by omega) (by omega) (by omega), k 255 _ (by omega) (by omega) (by omega), k 251 _ (by omega) (by omega) (by omega)]
    exact h1 w hw
  · rw [e1] at hw
    rw [en 4 w (by decide) (by decide), en 5 w (by decide) (by decide), en 6 w (by decide) (by decide), en 7 w (by decide) (by decide), en 10 w (by decide) (by decide), k 256 _ (by omega) (by omega) (by omega), k 257 _ (by omega) (by omega) (by omega), k 258 _ (by omega) (by omega) (by omega), k 259 _ (by omega) (by omega) (by omega), k 252 _ (by omega) (by omega) (by omega)]
    exact h2 w hw
  · rw [e3] at hi
    rw [e8]
    exact c0 i (by omega)
theorem rq_asl_dr (h : rq_dr ρ m) {v : Int} (ct : m' 250 6 = v) (k : ∀ a i, 250 ≤ a → a ≤ 260 → ¬ (a = 250 ∧ i = 6) → m' a i = m a i) : rq_dr (rq_asl ρ v) m' := by
  obtain ⟨⟨a1, a2, a3, a4⟩, h1, h2, h3⟩ := h
  have e0 : (rq_asl ρ v).1 0 0 = ρ.1 0 0 := rfl
  have e1 : (rq_asl ρ v).1 0 1 = ρ.1 0 1 := rfl
  have e2 : (rq_asl ρ v).1 0 2 = v := rfl
  have e3 : (rq_asl ρ v).1 0 3 = ρ.1 0 3 := rfl
  have en := rq_asl_n (ρ := ρ) v
  refine ⟨⟨by rw [e0, k 250 4 (by omega) (by omega) (by omega)]; exact a1, by rw [e1, k 250 5 (by omega) (by omega) (by omega)]; exact a2, by rw [e2, ct], by rw [e3, k 250 7 (by omega) (by omega) (by omega)]; exact a4⟩, fun w hw => ?_, fun w hw => ?_, fun i hi => ?_⟩
  · rw [e0] at hw
    rw [en 1 w (by decide), en 2 w (by decide), en 3 w (by decide), en 9 w (by decide), k 253 _ (by omega) (by omega) (by omega), k 254 _ (by omega) (by omega) (by omega), k 255 _ (by omega) (by omega) (by omega), k 251 _ (by omega) (by omega) (by omega)]
    exact h1 w hw
  · rw [e1] at hw
    rw [en 4 w (by decide), en 5 w (by decide), en 6 w (by decide), en 7 w (by decide), en 10 w (by decide), k 256 _ (by omega) (by omega) (by omega), k 257 _ (by omega) (by omega) (by omega), k 258 _ (by omega) (by omega) (by omega), k 259 _ (by omega) (by omega) (by omega), k 252 _ (by omega) (by omega) (by omega)]
    exact h2 w hw
  · rw [e3] at hi
    rw [en 8 i (by decide), k 260 _ (by omega) (by omega) (by omega)]
    exact h3 i hi
end
