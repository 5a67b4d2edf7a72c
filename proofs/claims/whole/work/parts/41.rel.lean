/-! Layer 3: what holds between calls -/
abbrev rq_A : Type := rq_S × rq_Y × rq_Y × (Nat → Int)
def rq_Ac (f : Nat) (A : rq_A) (m : rt_M) : Prop := rq_sc (f + 1) A.1 m ∧ rq_yc (f + 4) A.2.1 m ∧ rq_zc (f + 8) A.2.2.1 m ∧ ∀ w, w < 6 → m (f + 12) w = A.2.2.2 w
def rq_Ar (t : Nat) (A : rq_A) (m : rt_M) : Prop := (∀ i, i < 13 → (if t = 0 then m 285 i else m 287 (13 * (t - 1) + i)) = A.1 i) ∧ rq_yr t A.2.1 m ∧ rq_zr t A.2.2.1 m ∧ ∀ w, w < 6 → m 284 (6 * t + w) = A.2.2.2 w
def rq_vA (ρ : rq_R) (A : rq_A) : Prop := rq_vs ρ A.1 ∧ rq_vy ρ A.2.1 ∧ rq_vz ρ A.2.2.1 ∧ rq_vd ρ A.2.2.2
def rq_tp (m : rt_M) : Prop := ∃ n : Nat, n ≤ 1000 ∧ m 42 1 = (n : Int) ∧ m 248 1 = (n : Int) ∧ ∀ i, i < n → m 43 i = m 249 i ∧ (m 43 i = 10 ∨ (32 ≤ m 43 i ∧ m 43 i ≤ 126))
def rq_uc (U : Nat → rq_S) (n p : Nat) (m : rt_M) : Prop := n ≤ 16 ∧ p < 16 ∧ m 41 5 = (n : Int) ∧ m 41 6 = (p : Int) ∧ ∀ i, i < n → rq_sc (200 + 3 * ((p + 15 - i) % 16)) (U i) m
def rq_ur (U : Nat → rq_S) (n : Nat) (m : rt_M) : Prop := m 248 55 = (n : Int) ∧ ∀ i, i < n → ∀ j, j < 13 → m 288 (13 * (n - 1 - i) + j) = U i j
def rq_uv (ρ : rq_R) (c : Nat) (U : Nat → rq_S) (n : Nat) : Prop := ∀ i, i < n → rq_vs ρ (U i) ∧ U i 0 ≤ (c : Int)
def rq_ud (ρ : rq_R) (c : Nat) (m : rt_M) : Prop := ∃ (n p : Nat) (U : Nat → rq_S), rq_uc U n p m ∧ rq_ur U n m ∧ rq_uv ρ c U n
/-- the marks; and that all that is said for is 0 or 1 -/
def rq_mk (ρ : rq_R) (c : Nat) (m : rt_M) : Prop := (∀ k, k < 4 → (m (148 + 13 * k) 4 = 0 ∧ m 289 k = 0) ∨ (m (148 + 13 * k) 4 = 1 ∧ m 289 k = 1 ∧ ∃ A, rq_Ac (148 + 13 * k) A m ∧ rq_Ar (k + 1) A m ∧ rq_vA ρ A ∧ A.1 0 ≤ (c : Int))) ∧ ∀ i, i < 40 → m 283 i = 0 ∨ m 283 i = 1
def rq_J (r : Nat) (ρ : rq_R) (A : rq_A) (c : Nat) (m : rt_M) : Prop := rq_C r ρ m ∧ rq_D ρ m ∧ (m 41 7 = (r : Int) ∧ m 41 8 = 150 - (r : Int)) ∧ rq_Ac 48 A m ∧ rq_Ar 0 A m ∧ rq_vA ρ A ∧ A.1 0 ≤ (c : Int) ∧ rq_tp m ∧ rq_ud ρ c m ∧ rq_mk ρ c m
def rq_I (c : Nat) (m : rt_M) : Prop := ∃ r ρ A, rq_J r ρ A c m
/-- what a question writes: the class, the reference -/
def rq_WC (k j : Nat) : Bool := rq_wE k j || (k == 41 && j == 13) || (k == 115 && j == 0) || k == 116 || k == 117 || (k == 118 && decide (j < 2)) || (decide (120 ≤ k) && decide (k ≤ 129)) || (k == 130 && decide (j < 2)) || k == 131 || (decide (133 ≤ k) && decide (k ≤ 138)) || (decide (140 ≤ k) && decide (k ≤ 147))
def rq_WR (k j : Nat) : Bool := rq_wF k j || (k == 248 && (j == 0 || j == 58 || j == 59 || j == 64 || j == 65 || j == 67 || j == 71)) || k == 286 || (k == 285 && decide (13 ≤ j)) || (decide (290 ≤ k) && decide (k ≤ 299))
def rq_WQ (k j : Nat) : Bool := rq_WC k j || rq_WR k j
theorem rq_WQ_st : (rq_P.all fun p => !(rq_WQ p.1 p.2.1)) = true := by decide +kernel
theorem rq_WQ_C {k j : Nat} (h : rq_WQ k j = false) : rq_WC k j = false := by unfold rq_WQ at h; simp only [Bool.or_eq_false_iff] at h; exact h.1
theorem rq_WQ_R {k j : Nat} (h : rq_WQ k j = false) : rq_WR k j = false := by unfold rq_WQ at h; simp only [Bool.or_eq_false_iff] at h; exact h.2
theorem rq_WQ_0 {k j : Nat} (h : (k = 41 ∧ j ≠ 13) ∨ (42 ≤ k ∧ k < 115 ∧ k ≠ 83 ∧ k ≠ 86 ∧ k ≠ 107 ∧ k ≠ 110) ∨ (148 ≤ k ∧ k < 248) ∨ (k = 248 ∧ (j = 1 ∨ j = 55)) ∨ (249 ≤ k ∧ k < 264) ∨ (276 ≤ k ∧ k < 285) ∨ (k = 285 ∧ j < 13) ∨ (287 ≤ k ∧ k < 290)) : rq_WQ k j = false := by
  unfold rq_WQ rq_WC rq_WR rq_wE rq_wF
  simp only [Bool.or_eq_false_iff, Bool.and_eq_false_iff, beq_eq_false_iff_ne, decide_eq_false_iff_not]
  rcases h with h | h | h | ⟨h, rfl | rfl⟩ | h | h | h | h
  all_goals (repeat' apply And.intro)
  all_goals omega
section
variable {m m' : rt_M}
theorem rq_yc_fr {y : Nat} {Y : rq_Y} (h : rq_yc y Y m) (k : ∀ a j, y ≤ a → a ≤ y + 3 → m' a j = m a j) : rq_yc y Y m' := by
  unfold rq_yc at h ⊢
  simp only [k y _ (by omega) (by omega), k (y + 1) _ (by omega) (by omega), k (y + 2) _ (by omega) (by omega), k (y + 3) _ (by omega) (by omega)]
  exact h
theorem rq_zc_fr {y : Nat} {Y : rq_Y} (h : rq_zc y Y m) (k : ∀ a j, y ≤ a → a ≤ y + 3 → m' a j = m a j) : rq_zc y Y m' := by
  unfold rq_zc at h ⊢
  simp only [k y _ (by omega) (by omega), k (y + 1) _ (by omega) (by omega), k (y + 2) _ (by omega) (by omega), k (y + 3) _ (by omega) (by omega)]
  exact h
theorem rq_yr_fr {t : Nat} {Y : rq_Y} (h : rq_yr t Y m) (k : ∀ a j, 276 ≤ a → a ≤ 279 → m' a j = m a j) : rq_yr t Y m' := by
  unfold rq_yr at h ⊢
  simp only [k 276 _ (by omega) (by omega), k 277 _ (by omega) (by omega), k 278 _ (by omega) (by omega), k 279 _ (by omega) (by omega)]
  exact h
theorem rq_zr_fr {t : Nat} {Y : rq_Y} (h : rq_zr t Y m) (k : ∀ a j, 280 ≤ a → a ≤ 283 → m' a j = m a j) : rq_zr t Y m' := by
  unfold rq_zr at h ⊢
  simp only [k 280 _ (by omega) (by omega), k 281 _ (by omega) (by omega), k 282 _ (by omega) (by omega), k 283 _ (by omega) (by omega)]
  exact h
theorem rq_Ac_fr {f : Nat} {A : rq_A} (h : rq_Ac f A m) (k : ∀ a j, f ≤ a → a ≤ f + 12 → m' a j = m a j) : rq_Ac f A m' :=
  ⟨rq_sc_fr h.1 (k _ _ (by omega) (by omega)) (fun w _ => k _ _ (by omega) (by omega)) (fun w _ => k _ _ (by omega) (by omega)), rq_yc_fr h.2.1 (fun a j h1 h2 => k a j (by omega) (by omega)), rq_zc_fr h.2.2.1 (fun a j h1 h2 => k a j (by omega) (by omega)), fun w hw => by rw [k _ _ (by omega) (by omega)]; exact h.2.2.2 w hw⟩
theorem rq_Ar_fr {t : Nat} {A : rq_A} (h : rq_Ar t A m) (k : ∀ a j, 276 ≤ a → a ≤ 287 → a ≠ 286 → (a = 285 → j < 13) → m' a j = m a j) : rq_Ar t A m' := by
  obtain ⟨h1, h2, h3, h4⟩ := h
  refine ⟨?_, rq_yr_fr h2 (fun a j q1 q2 => k a j (by omega) (by omega) (by omega) (by omega)), rq_zr_fr h3 (fun a j q1 q2 => k a j (by omega) (by omega) (by omega) (by omega)), fun w hw => by rw [k _ _ (by omega) (by omega) (by omega) (by omega)]; exact h4 w hw⟩
  intro i hi
  rw [k 285 _ (by omega) (by omega) (by omega) (by omega), k 287 _ (by omega) (by omega) (by omega) (by omega)]
  exact h1 i hi
theorem rq_tp_fr (h : rq_tp m) (k1 : m' 42 1 = m 42 1) (k2 : m' 248 1 = m 248 1) (k3 : ∀ j, m' 43 j = m 43 j) (k4 : ∀ j, m' 249 j = m 249 j) : rq_tp m' := by
  unfold rq_tp at h ⊢
  simp only [k1, k2, k3, k4]
  exact h
theorem rq_uc_fr {U : Nat → rq_S} {n p : Nat} (h : rq_uc U n p m) (k1 : m' 41 5 = m 41 5) (k2 : m' 41 6 = m 41 6) (k4 : ∀ a j, 200 ≤ a → a < 248 → m' a j = m a j) : rq_uc U n p m' := by
  obtain ⟨a1, a2, a3, a4, h⟩ := h
  refine ⟨a1, a2, by rw [k1]; exact a3, by rw [k2]; exact a4, fun i hi => ?_⟩
  have := Nat.mod_lt (p + 15 - i) (show 0 < 16 by decide)
  exact rq_sc_fr (h i hi) (k4 _ _ (by omega) (by omega)) (fun w _ => k4 _ _ (by omega) (by omega)) (fun w _ => k4 _ _ (by omega) (by omega))
theorem rq_ur_fr {U : Nat → rq_S} {n : Nat} (h : rq_ur U n m) (k3 : m' 248 55 = m 248 55) (k5 : ∀ j, m' 288 j = m 288 j) : rq_ur U n m' := ⟨by rw [k3]; exact h.1, fun i hi j hj => by rw [k5]; exact h.2 i hi j hj⟩
theorem rq_uv_le {ρ : rq_R} {c c' : Nat} {U : Nat → rq_S} {n : Nat} (hc : c ≤ c') (h : rq_uv ρ c U n) : rq_uv ρ c' U n := fun i hi => ⟨(h i hi).1, by have := (h i hi).2; omega⟩
theorem rq_ud_fr {ρ : rq_R} {c c' : Nat} (hc : c ≤ c') (h : rq_ud ρ c m) (k1 : m' 41 5 = m 41 5) (k2 : m' 41 6 = m 41 6) (k3 : m' 248 55 = m 248 55) (k4 : ∀ a j, 200 ≤ a → a < 248 → m' a j = m a j) (k5 : ∀ j, m' 288 j = m 288 j) : rq_ud ρ c' m' := by
  obtain ⟨n, p, U, a1, a2, a3⟩ := h
  exact ⟨n, p, U, rq_uc_fr a1 k1 k2 k4, rq_ur_fr a2 k3 k5, rq_uv_le hc a3⟩
theorem rq_mk_fr {ρ : rq_R} {c c' : Nat} (hc : c ≤ c') (h : rq_mk ρ c m) (k1 : ∀ a j, 148 ≤ a → a < 200 → m' a j = m a j) (k2 : ∀ j, m' 289 j = m 289 j) (k3 : ∀ a j, (276 ≤ a ∧ a ≤ 283) ∨ (a = 284 ∧ 6 ≤ j) ∨ a = 287 → (a = 276 → 1 ≤ j ∧ j < 5) → ((277 ≤ a ∧ a ≤ 279) → 40 ≤ j ∧ j < 200) → (a = 280 → 1 ≤ j) → ((281 ≤ a ∧ a ≤ 283) → 8 ≤ j) → m' a j = m a j) (hb : ∀ i, i < 8 → m' 283 i = 0 ∨ m' 283 i = 1) : rq_mk ρ c' m' := by
  refine ⟨?_, fun i hi => ?_⟩
  rotate_left
  · by_cases z : i < 8
    · exact hb i z
    · rw [k3 283 i (by omega) (by omega) (by omega) (by omega) (by omega)]; exact h.2 i hi
  intro k hk
  rcases h.1 k hk with ⟨a1, a2⟩ | ⟨a1, a2, A, b1, b2, b3, b4⟩
  · exact Or.inl ⟨by rw [k1 _ _ (by omega) (by omega)]; exact a1, by rw [k2]; exact a2⟩
  · refine Or.inr ⟨by rw [k1 _ _ (by omega) (by omega)]; exact a1, by rw [k2]; exact a2, A, rq_Ac_fr b1 (fun a j h1 h2 => k1 a j (by omega) (by omega)), ?_, b3, by omega⟩
    obtain ⟨c1, c2, c3, c4⟩ := b2
    obtain ⟨-, vy, vz, -⟩ := b3
    refine ⟨fun i hi => ?_, ?_, ?_, fun w hw => ?_⟩
    · have := c1 i hi
      rw [if_neg (by omega)] at this ⊢
      rw [k3 287 _ (by omega) (by omega) (by omega) (by omega) (by omega)]; exact this
    · refine ⟨by rw [k3 276 _ (by omega) (by omega) (by omega) (by omega) (by omega)]; exact c2.1, fun i hi => ?_⟩
      have hi40 := vy.2.1
      rw [k3 277 _ (by omega) (by omega) (by omega) (by omega) (by omega), k3 278 _ (by omega) (by omega) (by omega) (by omega) (by omega), k3 279 _ (by omega) (by omega) (by omega) (by omega) (by omega)]
      exact c2.2 i hi
    · refine ⟨by rw [k3 280 _ (by omega) (by omega) (by omega) (by omega) (by omega)]; exact c3.1, fun i hi => ?_⟩
      rw [k3 281 _ (by omega) (by omega) (by omega) (by omega) (by omega), k3 282 _ (by omega) (by omega) (by omega) (by omega) (by omega), k3 283 _ (by omega) (by omega) (by omega) (by omega) (by omega)]
      exact c3.2 i hi
    · rw [k3 284 _ (by omega) (by omega) (by omega) (by omega) (by omega)]; exact c4 w hw
theorem rq_J_fr {r : Nat} {ρ : rq_R} {A : rq_A} {c c' : Nat} (h : rq_J r ρ A c m) (k : rq_fr rq_WQ m m') (hc : c ≤ c') : rq_J r ρ A c' m' := by
  obtain ⟨hC, hD, h7, hAc, hAr, hv, hcc, htp, hud, hmk⟩ := h
  have z : ∀ {a j : Nat}, ((a = 41 ∧ j ≠ 13) ∨ (42 ≤ a ∧ a < 115 ∧ a ≠ 83 ∧ a ≠ 86 ∧ a ≠ 107 ∧ a ≠ 110) ∨ (148 ≤ a ∧ a < 248) ∨ (a = 248 ∧ (j = 1 ∨ j = 55)) ∨ (249 ≤ a ∧ a < 264) ∨ (276 ≤ a ∧ a < 285) ∨ (a = 285 ∧ j < 13) ∨ (287 ≤ a ∧ a < 290)) → m' a j = m a j := fun q => k _ _ (rq_WQ_0 q)
  have hs := rq_st_fr hC.1 k rq_WQ_st
  refine ⟨⟨hs, hC.2.1, hC.2.2.1, rq_rc_fr hC.2.2.2 hC.2.2.1 (fun a j h1 h2 h3 h4 => z ?_)⟩, ⟨hs, hD.2.1, rq_rr_fr hD.2.2 (fun a j h1 h2 => z (by omega))⟩, ⟨by rw [z (by omega)]; exact h7.1, by rw [z (by omega)]; exact h7.2⟩, rq_Ac_fr hAc (fun a j h1 h2 => z (by omega)), rq_Ar_fr hAr (fun a j h1 h2 h3 h4 => z (by omega)), hv, by omega, rq_tp_fr htp (z (by omega)) (z (by omega)) (fun j => z (by omega)) (fun j => z (by omega)), rq_ud_fr hc hud (z (by omega)) (z (by omega)) (z (by omega)) (fun a j h1 h2 => z (by omega)) (fun j => z (by omega)), rq_mk_fr hc hmk (fun a j h1 h2 => z (Or.inr (Or.inr (Or.inl ⟨h1, by omega⟩)))) (fun j => z (by omega)) (fun a j h1 _ _ _ _ => by
      rcases h1 with h1 | h1 | h1
      · exact z (Or.inr (Or.inr (Or.inr (Or.inr (Or.inr (Or.inl ⟨h1.1, by omega⟩))))))
      · exact z (Or.inr (Or.inr (Or.inr (Or.inr (Or.inr (Or.inl ⟨by omega, by omega⟩))))))
      · exact z (Or.inr (Or.inr (Or.inr (Or.inr (Or.inr (Or.inr (Or.inr ⟨by omega, by omega⟩))))))) ) (fun i hi => by rw [z (by omega)]; exact hmk.2 i (by omega))⟩
  rcases hC.2.1 with rfl | rfl <;> omega
theorem rq_pair {r : Nat} {ρ : rq_R} {A : rq_A} {c : Nat} {v : Int} {o1 : Option (Int × rt_M)} {o2 : rt_M → Option (Int × rt_M)} (h : rq_J r ρ A c m) (h1 : rq o1 (fun p => p.1 = v ∧ rq_fr rq_WQ m p.2)) (h2 : ∀ m1, rq_J r ρ A c m1 → rq (o2 m1) (fun q => q.1 = v ∧ rq_fr rq_WQ m1 q.2)) : rq o1 (fun p => rq (o2 p.2) (fun q => q.1 = p.1 ∧ rq_I (c + 1) q.2)) := by
  refine rq_mono h1 ?_
  rintro ⟨x, m1⟩ ⟨rfl, hf⟩
  have hJ := rq_J_fr h hf (Nat.le_refl c)
  refine rq_mono (h2 m1 hJ) ?_
  rintro ⟨y, m2⟩ ⟨rfl, hf2⟩
  exact ⟨rfl, r, ρ, A, rq_J_fr hJ hf2 (Nat.le_succ c)⟩
/-- a question that the class answers without writing -/
theorem rq_pair0 {r : Nat} {ρ : rq_R} {A : rq_A} {c : Nat} {v : Int} {o1 : Option Int} {o2 : Option (Int × rt_M)} (h : rq_J r ρ A c m) (h1 : o1 = some v) (h2 : rq o2 (fun q => q.1 = v ∧ rq_fr rq_WQ m q.2)) : rq o1 (fun p => rq o2 (fun q => q.1 = p ∧ rq_I (c + 1) q.2)) := by
  refine rq_eq h1 ?_
  refine rq_mono h2 ?_
  rintro ⟨y, m2⟩ ⟨rfl, hf2⟩
  exact ⟨rfl, r, ρ, A, rq_J_fr h hf2 (Nat.le_succ c)⟩
theorem rq_wE_Q {k j : Nat} (h : rq_WQ k j = false) : rq_wE k j = false := by
  have := rq_WQ_C h
  unfold rq_WC at this
  simp only [Bool.or_eq_false_iff] at this
  exact this.1.1.1.1.1.1.1.1.1.1
theorem rq_wF_Q {k j : Nat} (h : rq_WQ k j = false) : rq_wF k j = false := by
  have := rq_WQ_R h
  unfold rq_WR at this
  simp only [Bool.or_eq_false_iff] at this
  exact this.1.1.1.1
theorem rq_frE (h : rq_fr rq_wE m m') : rq_fr rq_WQ m m' := h.mono (fun _ _ => rq_wE_Q)
theorem rq_frF (h : rq_fr rq_wF m m') : rq_fr rq_WQ m m' := h.mono (fun _ _ => rq_wF_Q)
end
section
variable {r : Nat} {ρ : rq_R} {A : rq_A} {c : Nat} {m : rt_M}
theorem q_g11 (j : Nat) : rt_gf 11 j 41 m = some (m 41 j) := rfl
theorem q_p11 (j : Nat) (v : Int) : rt_pf 11 j 41 v m = some (rt_up m 41 j v) := rfl
theorem q_told (h : rq_J r ρ A c m) : rt_gf 11 7 41 m = some (r : Int) := by rw [q_g11, h.2.2.1.1]
theorem q_now (hs : rq_st m) : rt_gf 11 2 41 m = some ((48 : Nat) : Int) := by rw [q_g11, pt_41_2 hs]; rfl
theorem q_nst (hs : rq_st m) : rt_gf 0 0 ((48 : Nat) : Int) m = some ((49 : Nat) : Int) := by show some (m 48 0) = _; rw [pt_48_0 hs]; rfl
theorem q_nye (hs : rq_st m) : rt_gf 0 1 ((48 : Nat) : Int) m = some ((52 : Nat) : Int) := by show some (m 48 1) = _; rw [pt_48_1 hs]; rfl
theorem q_nsa (hs : rq_st m) : rt_gf 0 2 ((48 : Nat) : Int) m = some ((56 : Nat) : Int) := by show some (m 48 2) = _; rw [pt_48_2 hs]; rfl
theorem q_nti (hs : rq_st m) : rt_gf 0 3 ((48 : Nat) : Int) m = some ((60 : Nat) : Int) := by show some (m 48 3) = _; rw [pt_48_3 hs]; rfl
theorem q_gd0 {α : Type} (o : Option α) : rt_gd 0 ((48 : Nat) : Int) o = o := rfl
theorem q_tri (hs : rq_st m) : rt_gf 11 10 41 m = some ((115 : Nat) : Int) := by rw [q_g11, pt_41_10 hs]; rfl
theorem q_fit (hs : rq_st m) : rt_gf 11 11 41 m = some ((118 : Nat) : Int) := by rw [q_g11, pt_41_11 hs]; rfl
theorem q_rws (hs : rq_st m) : rt_gf 11 12 41 m = some ((130 : Nat) : Int) := by rw [q_g11, pt_41_12 hs]; rfl
theorem q_b49 : (49 : Nat) ∈ rq_sbL := by decide
theorem q_b115 : (115 : Nat) ∈ rq_sbL := by decide
theorem q_Sc (h : rq_J r ρ A c m) : rq_Sc 49 ρ A.1 m := ⟨q_b49, h.2.2.2.1.1, h.2.2.2.2.2.1.1⟩
theorem q_Sr (h : rq_J r ρ A c m) : rq_sr A.1 m := fun i hi => by have := h.2.2.2.2.1.1 i hi; rw [if_pos rfl] at this; exact this
theorem q_sea (h : rq_J r ρ A c m) : rt_gf 7 0 ((49 : Nat) : Int) m = some (A.1 0) := by rw [q_gf7 q_b49, h.2.2.2.1.1.1]
theorem q_sea0 (h : rq_J r ρ A c m) : A.1 0 = (((A.1 0).toNat : Nat) : Int) := by have := h.2.2.2.2.2.1.1.1; omega
theorem q_upT (h : rq_J r ρ A c m) (v : Int) : rq_J r ρ A c (rt_up m 248 0 v) ∧ rq_fr rq_WQ m (rt_up m 248 0 v) := by
  have f : rq_fr rq_WQ m (rt_up m 248 0 v) := rq_fr.rfl.up (by decide)
  exact ⟨rq_J_fr h f (Nat.le_refl c), f⟩
end
