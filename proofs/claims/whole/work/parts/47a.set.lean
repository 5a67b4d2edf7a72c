/-! Layer 3: deeds -/
def rq_WS (k j : Nat) : Bool := rq_WQ k j || (k == 41 && (j == 5 || j == 6)) || (k == 49 && j == 0) || k == 50 || k == 51 || (k == 52 && j == 0) || k == 53 || k == 54 || k == 55 || (k == 56 && j == 0) || k == 57 || k == 58 || k == 59 || k == 60 || (decide (200 ≤ k) && decide (k < 248) && (j == 0 || !(k % 3 == 2))) || (k == 248 && j == 55) || k == 285 || k == 288 || (k == 276 && j == 0) || (decide (277 ≤ k) && decide (k ≤ 279) && decide (j < 40)) || (k == 280 && j == 0) || (decide (281 ≤ k) && decide (k ≤ 283) && decide (j < 8)) || (k == 284 && decide (j < 6))
theorem rq_WS_st : (rq_P.all fun p => !(rq_WS p.1 p.2.1)) = true := by decide +kernel
theorem rq_WS_0 {k j : Nat} (h : (k = 41 ∧ (j = 7 ∨ j = 8)) ∨ k = 42 ∨ k = 43 ∨ (61 ≤ k ∧ k < 115 ∧ k ≠ 83 ∧ k ≠ 86 ∧ k ≠ 107 ∧ k ≠ 110) ∨ (148 ≤ k ∧ k < 200) ∨ (k = 248 ∧ j = 1) ∨ (249 ≤ k ∧ k < 264) ∨ (k = 276 ∧ 1 ≤ j) ∨ (277 ≤ k ∧ k ≤ 279 ∧ 40 ≤ j) ∨ (k = 280 ∧ 1 ≤ j) ∨ (281 ≤ k ∧ k ≤ 283 ∧ 8 ≤ j) ∨ (k = 284 ∧ 6 ≤ j) ∨ k = 287 ∨ k = 289) : rq_WS k j = false := by
  have q : rq_WQ k j = false := rq_WQ_0 (by omega)
  unfold rq_WS
  rw [q]
  simp only [Bool.or_eq_false_iff, Bool.and_eq_false_iff, beq_eq_false_iff_ne, decide_eq_false_iff_not, Bool.false_or]
  repeat' apply And.intro
  all_goals omega
theorem rq_WS_Q {k j : Nat} (h : rq_WS k j = false) : rq_WQ k j = false := by
  cases q : rq_WQ k j with
  | false => rfl
  | true => unfold rq_WS at h; rw [q] at h; simp at h
section
variable {r : Nat} {ρ : rq_R} {A A' : rq_A} {c c' : Nat} {m m' : rt_M}
theorem rq_frQS (h : rq_fr rq_WQ m m') : rq_fr rq_WS m m' := h.mono (fun _ _ => rq_WS_Q)
theorem rq_C_WS (h : rq_C r ρ m) (k : rq_fr rq_WS m m') : rq_C r ρ m' := by
  refine ⟨rq_st_fr h.1 k rq_WS_st, h.2.1, h.2.2.1, rq_rc_fr h.2.2.2 h.2.2.1 (fun a j h1 h2 h3 h4 => k a j (rq_WS_0 ?_))⟩
  rcases h.2.1 with rfl | rfl <;> omega
theorem rq_D_WS (h : rq_D ρ m) (k : rq_fr rq_WS m m') : rq_D ρ m' := ⟨rq_st_fr h.1 k rq_WS_st, h.2.1, rq_rr_fr h.2.2 (fun a j h1 h2 => k a j (rq_WS_0 (by omega)))⟩
theorem rq_J_set (h : rq_J r ρ A c m) (k : rq_fr rq_WS m m') (hc : c ≤ c') (hAc : rq_Ac 48 A' m') (hAr : rq_Ar 0 A' m') (hv : rq_vA ρ A') (h0 : A'.1 0 ≤ (c' : Int)) (hu : rq_ud ρ c' m') : rq_J r ρ A' c' m' := by
  have z : ∀ {a j : Nat}, ((a = 41 ∧ (j = 7 ∨ j = 8)) ∨ a = 42 ∨ a = 43 ∨ (61 ≤ a ∧ a < 115 ∧ a ≠ 83 ∧ a ≠ 86 ∧ a ≠ 107 ∧ a ≠ 110) ∨ (148 ≤ a ∧ a < 200) ∨ (a = 248 ∧ j = 1) ∨ (249 ≤ a ∧ a < 264) ∨ (a = 276 ∧ 1 ≤ j) ∨ (277 ≤ a ∧ a ≤ 279 ∧ 40 ≤ j) ∨ (a = 280 ∧ 1 ≤ j) ∨ (281 ≤ a ∧ a ≤ 283 ∧ 8 ≤ j) ∨ (a = 284 ∧ 6 ≤ j) ∨ a = 287 ∨ a = 289) → m' a j = m a j := fun q => k _ _ (rq_WS_0 q)
  refine ⟨rq_C_WS h.1 k, rq_D_WS h.2.1 k, ⟨by rw [z (by omega)]; exact h.2.2.1.1, by rw [z (by omega)]; exact h.2.2.1.2⟩, hAc, hAr, hv, h0, rq_tp_fr h.2.2.2.2.2.2.2.1 (z (by omega)) (z (by omega)) (fun j => z (by omega)) (fun j => z (by omega)), hu, rq_mk_fr hc h.2.2.2.2.2.2.2.2.2 (fun a j h1 h2 => z (by omega)) (fun j => z (by omega)) (fun a j h1 h2 h3 h4 h5 => z (by omega))⟩
end
