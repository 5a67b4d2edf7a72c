/-! Layer 3: deeds -/
def rq_WS (k j : Nat) : Bool := rq_WQ k j || (k == 41 && (j == 5 || j == 6)) || (k == 49 && j == 0) || k == 50 || k == 51 || (k == 52 && j == 0) || k == 53 || k == 54 || k == 55 || (k == 56 && j == 0) || k == 57 || k == 58 || k == 59 || k == 60 || (decide (200 ≤ k) && decide (k < 248) && (j == 0 || !(k % 3 == 2))) || (k == 248 && j == 55) || k == 285 || k == 288 || (k == 276 && j == 0) || (decide (277 ≤ k) && decide (k ≤ 279) && decide (j < 40)) || (k == 280 && j == 0) || (decide (281 ≤ k) && decide (k ≤ 283) && decide (j < 8)) || (k == 284 && decide (j < 6))
theorem rq_WS_st : (rq_P.all fun p => !(rq_WS p.1 p.2.1)) = true := by decide +kernel
theorem rq_WS_0 {k j : Nat} (h : (k = 41 ∧ (j = 7 ∨ j = 8)) ∨ k = 42 ∨ k = 43 ∨ (61 ≤ k ∧ k < 115 ∧ k ≠ 83 ∧ k ≠ 86 ∧ k ≠ 107 ∧ k ≠ 110) ∨ (148 ≤ k ∧ k < 200) ∨ (k = 248 ∧ j = 1) ∨ (249 ≤ k ∧ k < 264) ∨ (k = 276 ∧ 1 ≤ j) ∨ (277 ≤ k ∧ k ≤ 279 ∧ 40 ≤ j) ∨ (k = 280 ∧ 1 ≤ j) ∨ (281 ≤ k ∧ k ≤ 283 ∧ 8 ≤ j) ∨ (k = 284 ∧ 6 ≤ j) ∨ k = 287 ∨ k = 289) : rq_WS k j = false := by
  have q : rq_WQ k j = false := rq_WQ_0 (by omega)
  unfold rq_WS
  rw [q]
  clear q
  simp only [Bool.or_eq_false_iff, Bool.and_eq_false_iff, beq_eq_false_iff_ne, decide_eq_false_iff_not, Bool.false_or]
  rcases h with ⟨rfl, rfl | rfl⟩ | rfl | rfl | h | h | ⟨rfl, rfl⟩ | h | h | h | h | h | h | rfl | rfl
  all_goals (repeat' apply And.intro)
  all_goals omega
theorem rq_WS_Q {k j : Nat} (h : rq_WS k j = false) : rq_WQ k j = false := by
  cases q : rq_WQ k j with
  | false => rfl
  | true => unfold rq_WS at h; rw [q] at h; simp at h
section
variable {r : Nat} {ρ : rq_R} {A A' : rq_A} {c c' : Nat} {m m' : rt_M}
theorem rq_frQS (h : rq_fr rq_WQ m m') : rq_fr rq_WS m m' := h.mono (fun _ _ => rq_WS_Q)
theorem rq_C_WS (h : rq_C r ρ m) (k : rq_fr rq_WS m m') : rq_C r ρ m' := by
  refine ⟨rq_st_fr h.1 k rq_WS_st, h.2.1, h.2.2.1, rq_rc_fr h.2.2.2 h.2.2.1 (fun a j h1 h2 h3 h4 => k a j (rq_WS_0 (Or.inr (Or.inr (Or.inr (Or.inl ?_))))))⟩
  rcases h.2.1 with rfl | rfl <;> omega
theorem rq_D_WS (h : rq_D ρ m) (k : rq_fr rq_WS m m') : rq_D ρ m' := ⟨rq_st_fr h.1 k rq_WS_st, h.2.1, rq_rr_fr h.2.2 (fun a j h1 h2 => k a j (rq_WS_0 (Or.inr (Or.inr (Or.inr (Or.inr (Or.inr (Or.inr (Or.inl ⟨by omega, by omega⟩)))))))))⟩
theorem rq_J_set (h : rq_J r ρ A c m) (k : rq_fr rq_WS m m') (hc : c ≤ c') (hAc : rq_Ac 48 A' m') (hAr : rq_Ar 0 A' m') (hv : rq_vA ρ A') (h0 : A'.1 0 ≤ (c' : Int)) (hu : rq_ud ρ c' m') (hb : ∀ i, i < 8 → m' 283 i = 0 ∨ m' 283 i = 1) : rq_J r ρ A' c' m' := by
  have z7 : ∀ j, j = 7 ∨ j = 8 → m' 41 j = m 41 j := fun j q => k _ _ (rq_WS_0 (Or.inl ⟨rfl, q⟩))
  have z42 : ∀ j, m' 42 j = m 42 j := fun j => k _ _ (rq_WS_0 (Or.inr (Or.inl rfl)))
  have z43 : ∀ j, m' 43 j = m 43 j := fun j => k _ _ (rq_WS_0 (Or.inr (Or.inr (Or.inl rfl))))
  have zM : ∀ a j, 148 ≤ a → a < 200 → m' a j = m a j := fun a j q1 q2 => k _ _ (rq_WS_0 (Or.inr (Or.inr (Or.inr (Or.inr (Or.inl ⟨q1, q2⟩))))))
  have z1 : m' 248 1 = m 248 1 := k _ _ (rq_WS_0 (Or.inr (Or.inr (Or.inr (Or.inr (Or.inr (Or.inl ⟨rfl, rfl⟩)))))))
  have z249 : ∀ j, m' 249 j = m 249 j := fun j => k _ _ (rq_WS_0 (Or.inr (Or.inr (Or.inr (Or.inr (Or.inr (Or.inr (Or.inl ⟨by decide, by decide⟩))))))))
  have z276 : ∀ j, 1 ≤ j → m' 276 j = m 276 j := fun j q => k _ _ (rq_WS_0 (Or.inr (Or.inr (Or.inr (Or.inr (Or.inr (Or.inr (Or.inr (Or.inl ⟨rfl, q⟩)))))))))
  have z277 : ∀ a j, 277 ≤ a → a ≤ 279 → 40 ≤ j → m' a j = m a j := fun a j q1 q2 q3 => k _ _ (rq_WS_0 (Or.inr (Or.inr (Or.inr (Or.inr (Or.inr (Or.inr (Or.inr (Or.inr (Or.inl ⟨q1, q2, q3⟩))))))))))
  have z280 : ∀ j, 1 ≤ j → m' 280 j = m 280 j := fun j q => k _ _ (rq_WS_0 (Or.inr (Or.inr (Or.inr (Or.inr (Or.inr (Or.inr (Or.inr (Or.inr (Or.inr (Or.inl ⟨rfl, q⟩)))))))))))
  have z281 : ∀ a j, 281 ≤ a → a ≤ 283 → 8 ≤ j → m' a j = m a j := fun a j q1 q2 q3 => k _ _ (rq_WS_0 (Or.inr (Or.inr (Or.inr (Or.inr (Or.inr (Or.inr (Or.inr (Or.inr (Or.inr (Or.inr (Or.inl ⟨q1, q2, q3⟩))))))))))))
  have z284 : ∀ j, 6 ≤ j → m' 284 j = m 284 j := fun j q => k _ _ (rq_WS_0 (Or.inr (Or.inr (Or.inr (Or.inr (Or.inr (Or.inr (Or.inr (Or.inr (Or.inr (Or.inr (Or.inr (Or.inl ⟨rfl, q⟩)))))))))))))
  have z287 : ∀ j, m' 287 j = m 287 j := fun j => k _ _ (rq_WS_0 (Or.inr (Or.inr (Or.inr (Or.inr (Or.inr (Or.inr (Or.inr (Or.inr (Or.inr (Or.inr (Or.inr (Or.inr (Or.inl rfl))))))))))))))
  have z289 : ∀ j, m' 289 j = m 289 j := fun j => k _ _ (rq_WS_0 (Or.inr (Or.inr (Or.inr (Or.inr (Or.inr (Or.inr (Or.inr (Or.inr (Or.inr (Or.inr (Or.inr (Or.inr (Or.inr rfl))))))))))))))
  refine ⟨rq_C_WS h.1 k, rq_D_WS h.2.1 k, ⟨by rw [z7 7 (Or.inl rfl)]; exact h.2.2.1.1, by rw [z7 8 (Or.inr rfl)]; exact h.2.2.1.2⟩, hAc, hAr, hv, h0, rq_tp_fr h.2.2.2.2.2.2.2.1 (z42 1) z1 z43 z249, hu, rq_mk_fr hc h.2.2.2.2.2.2.2.2.2 zM z289 (fun a j h1 h2 h3 h4 h5 => ?_) hb⟩
  rcases h1 with h1 | ⟨rfl, h1⟩ | rfl
  · by_cases q : a = 276
    · subst q; exact z276 j (h2 rfl).1
    · by_cases q2 : a ≤ 279
      · exact z277 a j (by omega) q2 (h3 ⟨by omega, q2⟩).1
      · by_cases q3 : a = 280
        · subst q3; exact z280 j (h4 rfl)
        · exact z281 a j (by omega) h1.2 (h5 ⟨by omega, h1.2⟩)
  · exact z284 j h1
  · exact z287 j
end
