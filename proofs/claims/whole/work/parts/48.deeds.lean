/-! Layer 3: deeds -/
def rq_wU (k j : Nat) : Bool := (k == 41 && (j == 5 || j == 6)) || (decide (200 ≤ k) && decide (k < 248) && (j == 0 || !(k % 3 == 2)))
def rq_wV (k j : Nat) : Bool := (k == 248 && j == 55) || k == 288
def rq_WD (k j : Nat) : Bool := rq_WC k j || rq_wU k j || rq_wS 49 k j || rq_row 60 0 6 k j
def rq_WE (k j : Nat) : Bool := rq_WR k j || rq_wV k j || k == 285 || rq_row 284 0 6 k j
theorem rq_WD_st : (rq_P.all fun p => !(rq_WD p.1 p.2.1)) = true := by decide +kernel
theorem rq_WE_st : (rq_P.all fun p => !(rq_WE p.1 p.2.1)) = true := by decide +kernel
theorem rq_WS_D {k j : Nat} (h : rq_WS k j = false) : rq_WD k j = false := by
  have hQ := rq_WS_Q h
  have hC := rq_WQ_C hQ
  have hE := rq_wE_Q hQ
  unfold rq_WS at h
  unfold rq_WD rq_wU rq_wS rq_row
  rw [hC, hE]
  simp only [Bool.or_eq_false_iff, Bool.and_eq_false_iff, beq_eq_false_iff_ne, decide_eq_false_iff_not, Bool.not_eq_false', beq_iff_eq, Bool.false_or] at h ⊢
  obtain ⟨⟨⟨⟨⟨⟨⟨⟨⟨⟨⟨⟨⟨⟨⟨⟨⟨⟨⟨⟨⟨⟨h0, h1⟩, h2⟩, h3⟩, h4⟩, h5⟩, h6⟩, h7⟩, h8⟩, h9⟩, h10⟩, h11⟩, h12⟩, h13⟩, h14⟩, h15⟩, h16⟩, h17⟩, h18⟩, h19⟩, h20⟩, h21⟩, h22⟩ := h
  clear h0
  exact ⟨⟨⟨h1, h14⟩, ⟨h2, h3⟩, h4⟩, Or.inl (Or.inl h13)⟩
theorem rq_WS_E {k j : Nat} (h : rq_WS k j = false) : rq_WE k j = false := by
  have hQ := rq_WS_Q h
  have hR := rq_WQ_R hQ
  unfold rq_WS at h
  unfold rq_WE rq_wV rq_row
  rw [hR]
  simp only [Bool.or_eq_false_iff, Bool.and_eq_false_iff, beq_eq_false_iff_ne, decide_eq_false_iff_not, Bool.not_eq_false', beq_iff_eq, Bool.false_or] at h ⊢
  obtain ⟨⟨⟨⟨⟨⟨⟨⟨⟨⟨⟨⟨⟨⟨⟨⟨⟨⟨⟨⟨⟨⟨h0, h1⟩, h2⟩, h3⟩, h4⟩, h5⟩, h6⟩, h7⟩, h8⟩, h9⟩, h10⟩, h11⟩, h12⟩, h13⟩, h14⟩, h15⟩, h16⟩, h17⟩, h18⟩, h19⟩, h20⟩, h21⟩, h22⟩ := h
  clear h0
  refine ⟨⟨⟨h15, h17⟩, h16⟩, ?_⟩
  omega
section
variable {r : Nat} {ρ : rq_R} {A : rq_A} {c : Nat} {m m1 m2 : rt_M}
theorem rq_frD (h : rq_fr rq_WD m m1) : rq_fr rq_WS m m1 := h.mono (fun _ _ => rq_WS_D)
theorem rq_frR (h : rq_fr rq_WE m m1) : rq_fr rq_WS m m1 := h.mono (fun _ _ => rq_WS_E)
theorem rq_D_WC {k j : Nat} (h : rq_WD k j = false) : rq_WC k j = false := by unfold rq_WD at h; simp only [Bool.or_eq_false_iff] at h; exact h.1.1.1
theorem rq_D_U {k j : Nat} (h : rq_WD k j = false) : rq_wU k j = false := by unfold rq_WD at h; simp only [Bool.or_eq_false_iff] at h; exact h.1.1.2
theorem rq_D_S {k j : Nat} (h : rq_WD k j = false) : rq_wS 49 k j = false := by unfold rq_WD at h; simp only [Bool.or_eq_false_iff] at h; exact h.1.2
theorem rq_D_60 {k j : Nat} (h : rq_WD k j = false) : rq_row 60 0 6 k j = false := by unfold rq_WD at h; simp only [Bool.or_eq_false_iff] at h; exact h.2
theorem rq_D_E {k j : Nat} (h : rq_WD k j = false) : rq_wE k j = false := rq_wS_E (rq_D_S h)
theorem rq_E_WR {k j : Nat} (h : rq_WE k j = false) : rq_WR k j = false := by unfold rq_WE at h; simp only [Bool.or_eq_false_iff] at h; exact h.1.1.1
theorem rq_E_V {k j : Nat} (h : rq_WE k j = false) : rq_wV k j = false := by unfold rq_WE at h; simp only [Bool.or_eq_false_iff] at h; exact h.1.1.2
theorem rq_E_285 {k j : Nat} (h : rq_WE k j = false) : (k == 285) = false := by unfold rq_WE at h; simp only [Bool.or_eq_false_iff] at h; exact h.1.2
theorem rq_E_284 {k j : Nat} (h : rq_WE k j = false) : rq_row 284 0 6 k j = false := by unfold rq_WE at h; simp only [Bool.or_eq_false_iff] at h; exact h.2
theorem rq_E_F {k j : Nat} (h : rq_WE k j = false) : rq_wF k j = false := by
  have := rq_E_WR h
  unfold rq_WR at this
  simp only [Bool.or_eq_false_iff] at this
  exact this.1.1.1.1
theorem rq_E_R {k j : Nat} (h : rq_WE k j = false) : rq_wR k j = false := by
  unfold rq_wR
  rw [rq_E_F h, rq_E_285 h]; rfl
theorem rq_WD_hi {k j : Nat} (h : 248 ≤ k) : rq_WD k j = false := by
  unfold rq_WD rq_WC rq_wU rq_wS rq_row rq_wE
  simp only [Bool.or_eq_false_iff, Bool.and_eq_false_iff, beq_eq_false_iff_ne, decide_eq_false_iff_not]
  repeat' apply And.intro
  all_goals omega
theorem rq_WE_lo {k j : Nat} (h : k < 248) : rq_WE k j = false := by
  unfold rq_WE rq_WR rq_wV rq_row rq_wF
  simp only [Bool.or_eq_false_iff, Bool.and_eq_false_iff, beq_eq_false_iff_ne, decide_eq_false_iff_not]
  repeat' apply And.intro
  all_goals omega
theorem rq_WD_y {k j : Nat} (h : (k = 48) ∨ (52 ≤ k ∧ k ≤ 59)) : rq_WD k j = false := by
  unfold rq_WD rq_WC rq_wU rq_wS rq_row rq_wE
  simp only [Bool.or_eq_false_iff, Bool.and_eq_false_iff, beq_eq_false_iff_ne, decide_eq_false_iff_not]
  repeat' apply And.intro
  all_goals omega
theorem rq_WE_y {k j : Nat} (h : 276 ≤ k ∧ k ≤ 283) : rq_WE k j = false := by
  unfold rq_WE rq_WR rq_wV rq_row rq_wF
  simp only [Bool.or_eq_false_iff, Bool.and_eq_false_iff, beq_eq_false_iff_ne, decide_eq_false_iff_not]
  repeat' apply And.intro
  all_goals omega
theorem rq_deed (h : rq_J r ρ A c m) {S' : rq_S} {D' : Nat → Int} {U' : Nat → rq_S} {n' p' : Nat} (f1 : rq_fr rq_WD m m1) (f2 : rq_fr rq_WE m1 m2) (c1 : rq_sc 49 S' m1) (c2 : rq_uc U' n' p' m1) (c3 : ∀ w, w < 6 → m1 60 w = D' w) (r1 : rq_sr S' m2) (r2 : rq_ur U' n' m2) (r3 : ∀ w, w < 6 → m2 284 w = D' w) (hv : rq_vs ρ S') (hvd : rq_vd ρ D') (h0 : S' 0 ≤ ((c + 1 : Nat) : Int)) (huv : rq_uv ρ (c + 1) U' n') : rq_I (c + 1) m2 := by
  have lo : ∀ a j, a < 248 → m2 a j = m1 a j := fun a j q => f2 a j (rq_WE_lo q)
  refine ⟨r, ρ, (S', A.2.1, A.2.2.1, D'), rq_J_set h ((rq_frD f1).trans (rq_frR f2)) (Nat.le_succ c) ⟨?_, ?_, ?_, ?_⟩ ⟨?_, ?_, ?_, ?_⟩ ⟨hv, h.2.2.2.2.2.1.2.1, h.2.2.2.2.2.1.2.2.1, hvd⟩ h0 ⟨n', p', U', ?_, r2, huv⟩ (fun i hi => by rw [f2 283 i (rq_WE_y (by omega)), f1 283 i (rq_WD_hi (by omega))]; exact h.2.2.2.2.2.2.2.2.2.2 i (by omega))⟩
  · exact rq_sc_fr c1 (lo _ _ (by decide)) (fun w _ => lo _ _ (by decide)) (fun w _ => lo _ _ (by decide))
  · exact rq_yc_fr h.2.2.2.1.2.1 (fun a j q1 q2 => by rw [lo a j (by omega), f1 a j (rq_WD_y (by omega))])
  · exact rq_zc_fr h.2.2.2.1.2.2.1 (fun a j q1 q2 => by rw [lo a j (by omega), f1 a j (rq_WD_y (by omega))])
  · intro w hw; rw [lo _ _ (by decide)]; exact c3 w hw
  · intro i hi; rw [if_pos rfl]; exact r1 i hi
  · exact rq_yr_fr h.2.2.2.2.1.2.1 (fun a j q1 q2 => by rw [f2 a j (rq_WE_y (by omega)), f1 a j (rq_WD_hi (by omega))])
  · exact rq_zr_fr h.2.2.2.2.1.2.2.1 (fun a j q1 q2 => by rw [f2 a j (rq_WE_y (by omega)), f1 a j (rq_WD_hi (by omega))])
  · intro w hw; rw [show 6 * 0 + w = w by omega]; exact r3 w hw
  · exact rq_uc_fr c2 (lo _ _ (by decide)) (lo _ _ (by decide)) (fun a j q1 q2 => lo a j q2)
theorem rq_half (h : rq_J r ρ A c m) (f1 : rq_fr rq_WD m m1) : rq_D ρ m1 ∧ rq_sr A.1 m1 ∧ (∀ w, w < 6 → m1 284 w = A.2.2.2 w) ∧ ∀ U n, rq_ur U n m → rq_ur U n m1 := by
  have hi : ∀ a j, 248 ≤ a → m1 a j = m a j := fun a j q => f1 a j (rq_WD_hi q)
  refine ⟨rq_D_WS h.2.1 (rq_frD f1), fun i hi2 => ?_, fun w hw => ?_, fun U n hu => rq_ur_fr hu (hi _ _ (by decide)) (fun j => hi _ _ (by decide))⟩
  · rw [hi _ _ (by decide)]; exact q_Sr h i hi2
  · rw [hi _ _ (by decide)]
    have := h.2.2.2.2.1.2.2.2 w hw
    rw [show 6 * 0 + w = w by omega] at this; exact this
theorem rq_vs_at1 {S : rq_S} {w : Nat} {v : Int} (h : rq_vs ρ S) (hw : (w : Int) < ρ.1 0 0) (h6 : w < 6) (h1 : -1 ≤ v) (h2 : v < ρ.1 0 1) : rq_vs ρ (rq_at S (1 + w) v) := by
  obtain ⟨a, b, d⟩ := h
  refine ⟨?_, ?_, fun u hu => ?_⟩
  · unfold rq_at; rw [if_neg (by omega)]; exact a
  · unfold rq_at; rw [if_neg (by omega)]; exact b
  · obtain ⟨x, y⟩ := d u hu
    unfold rq_at
    rw [if_neg (show ¬ 7 + u = 1 + w by omega)]
    by_cases z : u = w
    · subst z
      rw [if_pos rfl]
      exact ⟨⟨h1, h2, x.2.2⟩, fun q => absurd hw q⟩
    · rw [if_neg (by omega)]
      exact ⟨x, y⟩
theorem rq_vs_at7 {S : rq_S} {w : Nat} (h : rq_vs ρ S) (hw : (w : Int) < ρ.1 0 0) (h6 : w < 6) : rq_vs ρ (rq_at S (7 + w) 0) := by
  obtain ⟨a, b, d⟩ := h
  refine ⟨?_, ?_, fun u hu => ?_⟩
  · unfold rq_at; rw [if_neg (by omega)]; exact a
  · unfold rq_at; rw [if_neg (by omega)]; exact b
  · obtain ⟨x, y⟩ := d u hu
    unfold rq_at
    rw [if_neg (show ¬ 1 + u = 7 + w by omega)]
    by_cases z : u = w
    · subst z
      rw [if_pos rfl]
      exact ⟨⟨x.1, x.2.1, by decide, by decide⟩, fun q => absurd hw q⟩
    · rw [if_neg (by omega)]
      exact ⟨x, y⟩
theorem rq_uv_cons {S : rq_S} {U : Nat → rq_S} {n : Nat} (h : rq_uv ρ c U n) (hS : rq_vs ρ S) (h0 : S 0 ≤ (c : Int)) : rq_uv ρ (c + 1) (rq_cons S U) (if n < 16 then n + 1 else 16) := by
  intro i hi
  unfold rq_cons
  by_cases i0 : i = 0
  · rw [if_pos i0]; exact ⟨hS, by omega⟩
  · rw [if_neg i0]
    have := h (i - 1) (by split at hi <;> omega)
    exact ⟨this.1, by have := this.2; omega⟩
theorem rq_sr_at {S : rq_S} {k : Nat} {v : Int} (h : rq_sr S m) : rq_sr (rq_at S k v) (rt_up m 285 k v) := by
  intro i hi
  unfold rq_at
  rw [q_up]
  by_cases z : i = k
  · rw [if_pos ⟨rfl, z⟩, if_pos z]
  · rw [if_neg (fun y => z y.2), if_neg z]; exact h i hi
end
