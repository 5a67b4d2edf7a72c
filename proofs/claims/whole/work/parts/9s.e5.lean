/-! Layer 3: an E, what its steps and its codes give -/
def rq_gq (s : Nat → Int) (n : Nat) (R : Nat → rq_EX) (Q : rq_ET → Prop) : Prop := ∀ b q, rq_bp s n b → R b = .inr q → Q q.1
def rq_tev (H : Nat) (t : rq_ET) : Prop := ∀ a b c, rq_i a → rq_i b → rq_i c → rq_i (t.2.2 a b c) ∧ ∀ st : List Int, st.length + H ≤ 24 → rq_ev a b c t.1 st = some (t.2.2 a b c :: st)
section
variable {s : Nat → Int} {n : Nat} {R : Nat → rq_EX} {l : Int}
theorem rq_ec_P {Q P : rq_ET → Prop} (hR : rq_ge s n R) (h1 : rq_gq s n R Q) (base : ∀ t, Q t → P t) (step : ∀ k t u, rq_jk l k ≠ 0 → P t → Q u → P (rq_jt (rq_jk l k) t u)) : rq_gq s n (rq_ec s n l R) P := by
  have loop : ∀ f t b q, rq_bp s n b → P t → rq_lpE s n l R f t b = .inr q → P q.1 := by
    intro f
    induction f with
    | zero => intro t b q _ hP e; cases e; exact hP
    | succ f ih =>
      intro t b q hb hP e
      rw [rq_lpE_s] at e
      by_cases z : rq_jk l (rq_kd s n b) = 0
      · rw [if_pos z] at e; cases e; exact hP
      · rw [if_neg z] at e
        have bn := rq_bp_nx (s := s) (rq_jk_37 z)
        cases e2 : R (rq_nxp s n b) with
        | inl p => rw [e2] at e; cases e
        | inr p =>
          rw [e2] at e
          exact ih _ _ _ (rq_ge_r hR bn e2).1 (step _ _ _ z hP (h1 _ _ bn e2)) e
  intro b q hb e
  unfold rq_ec at e
  cases e2 : R b with
  | inl p => rw [e2] at e; cases e
  | inr p =>
    rw [e2] at e
    exact loop _ _ _ _ (rq_ge_r hR hb e2).1 (base _ (h1 _ _ hb e2)) e
theorem rq_et_P {Q P : rq_ET → Prop} (hR : rq_ge s n R) (h1 : rq_gq s n R Q) (base : ∀ t, Q t → P t) (step : ∀ j t u, j = -7 ∨ j = -8 → Q t → Q u → P (rq_jt j t u)) : rq_gq s n (rq_et s n R) P := by
  intro b q hb e
  unfold rq_et at e
  cases e2 : R b with
  | inl p => rw [e2] at e; cases e
  | inr p =>
    rw [e2] at e
    dsimp only at e
    unfold rq_tk2 at e
    have q1 := h1 _ _ hb e2
    by_cases z : rq_kd s n p.2 = 29 ∨ rq_kd s n p.2 = 30
    · rw [if_pos z] at e
      have hq : p.2 < n := rq_kd_lt (s := s) (by rcases z with z | z <;> omega)
      have bn := rq_bp_nx (s := s) hq
      cases e3 : R (rq_nxp s n p.2) with
      | inl x => rw [e3] at e; cases e
      | inr x =>
        rw [e3] at e
        cases e
        refine step _ _ _ ?_ q1 (h1 _ _ bn e3)
        by_cases y : rq_kd s n p.2 = 29
        · rw [if_pos y]; exact Or.inl rfl
        · rw [if_neg y]; exact Or.inr rfl
    · rw [if_neg z] at e
      cases e
      exact base _ q1
theorem rq_jk_c {l k : Int} (h : rq_jk l k ≠ 0) : (l = 0 ∧ (rq_jk l k = -5 ∨ rq_jk l k = -6)) ∨ (l = 1 ∧ (rq_jk l k = -9 ∨ rq_jk l k = -10)) ∨ (l ≠ 0 ∧ l ≠ 1 ∧ rq_jk l k = -11) := by
  unfold rq_jk at h ⊢
  by_cases z0 : l = 0
  · rw [if_pos z0] at h ⊢
    refine Or.inl ⟨z0, ?_⟩
    by_cases z1 : k = 19
    · rw [if_pos z1]; exact Or.inl rfl
    · rw [if_neg z1] at h ⊢
      by_cases z2 : k = 20
      · rw [if_pos z2]; exact Or.inr rfl
      · rw [if_neg z2] at h; exact absurd rfl h
  · rw [if_neg z0] at h ⊢
    by_cases z1 : l = 1
    · rw [if_pos z1] at h ⊢
      refine Or.inr (Or.inl ⟨z1, ?_⟩)
      by_cases z1 : k = 31
      · rw [if_pos z1]; exact Or.inl rfl
      · rw [if_neg z1] at h ⊢
        by_cases z2 : k = 32
        · rw [if_pos z2]; exact Or.inr rfl
        · rw [if_neg z2] at h; exact absurd rfl h
    · rw [if_neg z1] at h ⊢
      refine Or.inr (Or.inr ⟨z0, z1, ?_⟩)
      by_cases z1 : k = 33
      · rw [if_pos z1]
      · rw [if_neg z1] at h; exact absurd rfl h
theorem rq_jn_i (j x y : Int) : rq_i (rq_jn j x y) := by
  have b01 : ∀ (c : Prop) [Decidable c], rq_i (if c then 0 else 1) := fun c _ => by
    by_cases h : c
    · rw [if_pos h]; decide
    · rw [if_neg h]; decide
  have b10 : ∀ (c : Prop) [Decidable c], rq_i (if c then 1 else 0) := fun c _ => by
    by_cases h : c
    · rw [if_pos h]; decide
    · rw [if_neg h]; decide
  unfold rq_jn
  by_cases h1 : j = -10
  · rw [if_pos h1, rq_isub0]; exact rq_ok_bm _
  rw [if_neg h1]
  by_cases h1 : j = -9
  · rw [if_pos h1, rq_iadd0]; exact rq_ok_bm _
  rw [if_neg h1]
  by_cases h1 : j = -8
  · rw [if_pos h1]; exact b10 _
  rw [if_neg h1]
  by_cases h1 : j = -7
  · rw [if_pos h1]; exact b01 _
  rw [if_neg h1]
  by_cases h1 : j = -6
  · rw [if_pos h1]; exact b01 _
  rw [if_neg h1]
  by_cases h1 : j = -5
  · rw [if_pos h1]; exact b01 _
  rw [if_neg h1, rq_imul0]
  exact rq_ok_bm _
theorem rq_tev_le {H K : Nat} (hk : H ≤ K) {t : rq_ET} (h : rq_tev H t) : rq_tev K t := fun a b c ha hb hc => ⟨(h a b c ha hb hc).1, fun st hs => (h a b c ha hb hc).2 st (by omega)⟩
theorem rq_tev_j {H : Nat} {j : Int} (hj : j < -4) {t u : rq_ET} (h1 : rq_tev (H + 1) t) (h2 : rq_tev H u) : rq_tev (H + 1) (rq_jt j t u) := by
  intro a b c ha hb hc
  refine ⟨rq_jn_i _ _ _, fun st hs => ?_⟩
  have e1 := (h1 a b c ha hb hc).2 st hs
  have e2 := (h2 a b c ha hb hc).2 (t.2.2 a b c :: st) (by simp only [List.length_cons]; omega)
  show rq_ev a b c (t.1 ++ u.1 ++ [j]) st = _
  rw [rq_ev_app, rq_ev_app, e1, Option.bind_some, e2, Option.bind_some]
  unfold rq_ev
  rw [if_neg (by omega), if_neg (by omega)]
  rfl
theorem rq_ec_tev {H : Nat} (hR : rq_ge s n R) (h : rq_gq s n R (rq_tev H)) : rq_gq s n (rq_ec s n l R) (rq_tev (H + 1)) := rq_ec_P hR h (fun t => rq_tev_le (by omega)) (fun k t u hk h1 h2 => rq_tev_j (by
  rcases rq_jk_c hk with ⟨-, h | h⟩ | ⟨-, h | h⟩ | ⟨-, -, h⟩ <;> omega) h1 h2)
theorem rq_et_tev {H : Nat} (hR : rq_ge s n R) (h : rq_gq s n R (rq_tev H)) : rq_gq s n (rq_et s n R) (rq_tev (H + 1)) := rq_et_P hR h (fun t => rq_tev_le (by omega)) (fun j t u hj h1 h2 => rq_tev_j (by
  rcases hj with h | h <;> omega) (rq_tev_le (by omega) h1) h2)
theorem rq_eE_tev {H : Nat} (hR : rq_ge s n R) (h : rq_gq s n R (rq_tev H)) : rq_gq s n (rq_eE s n R) (rq_tev (H + 4)) := rq_ec_tev (rq_et_ge (rq_ec_ge (rq_ec_ge hR))) (rq_et_tev (rq_ec_ge (rq_ec_ge hR)) (rq_ec_tev (rq_ec_ge hR) (rq_ec_tev hR h)))
theorem rq_vl_36 {b : Nat} (hok : rq_okT s n) (bp : rq_bp s n b) (z36 : rq_kd s n b = 36) : 0 ≤ rq_vl s n b ∧ rq_vl s n b ≤ 9999 := by
  rcases rq_kd_c2 hok bp with ⟨t, k, -⟩ | ⟨t, hb, lt, v, k⟩ | ⟨t, hb, k, v, v1, v2⟩ | ⟨t, hb, W', w1, w2, k, es⟩ | ⟨t, hb, k⟩
  · omega
  · rcases k with ⟨k, -⟩ | ⟨W', hW', k, -⟩ <;> omega
  · exact ⟨v1, v2⟩
  · omega
  · omega
theorem rq_ep_tev {line : Nat} (hl : line < 2) (hok : rq_okT s n) : ∀ k, rq_gq s n (rq_ep s n line k) (rq_tev (4 * k)) := by
  intro k
  induction k with
  | zero =>
    intro b q hb e
    have e' : (if rq_pb line (rq_kd s n b) = true then (.inl (5, b) : rq_EX) else .inl (1, b)) = .inr q := e
    by_cases z : rq_pb line (rq_kd s n b) = true
    · rw [if_pos z] at e'; cases e'
    · rw [if_neg z] at e'; cases e'
  | succ k ih =>
    intro b q hb e
    rw [rq_ep_s] at e
    by_cases z : rq_pb line (rq_kd s n b) = true
    rotate_left
    · rw [if_neg z] at e; cases e
    rw [if_pos z] at e
    have hq := rq_pb_lt hl z
    have bn := rq_bp_nx (s := s) hq
    by_cases z27 : rq_kd s n b = 27
    · rw [if_pos z27] at e
      cases e2 : rq_eE s n (rq_ep s n line k) (rq_nxp s n b) with
      | inl p => rw [e2] at e; cases e
      | inr p =>
        rw [e2] at e
        have h1 := rq_eE_tev (rq_ep_ge hl k) ih _ _ bn e2
        dsimp only at e
        unfold rq_clo at e
        by_cases y : rq_kd s n p.2 = 28
        · rw [if_pos y] at e; cases e; exact h1
        · rw [if_neg y] at e; cases e
    rw [if_neg z27] at e
    by_cases z18 : rq_kd s n b = 18
    · rw [if_pos z18] at e
      cases e2 : rq_ep s n line k (rq_nxp s n b) with
      | inl p => rw [e2] at e; cases e
      | inr p =>
        rw [e2] at e
        have h1 := ih _ _ bn e2
        cases e
        intro a b' c ha hb' hc
        obtain ⟨i1, i2⟩ := h1 a b' c ha hb' hc
        refine ⟨?_, fun st hs => ?_⟩
        · show rq_i (if p.1.2.2 a b' c = 0 then 1 else 0)
          by_cases y : p.1.2.2 a b' c = 0
          · rw [if_pos y]; decide
          · rw [if_neg y]; decide
        · show rq_ev a b' c (p.1.1 ++ [-4]) st = _
          rw [rq_ev_app, i2 st (by omega), Option.bind_some]
          rfl
    rw [if_neg z18] at e
    cases e
    intro a b' c ha hb' hc
    unfold rq_lf
    by_cases z36 : rq_kd s n b = 36
    · rw [if_pos z36]
      have vb := rq_vl_36 hok hb z36
      refine ⟨by dsimp only; unfold rq_i; omega, fun st hs => ?_⟩
      dsimp only
      unfold rq_ev
      rw [if_pos (by omega), if_pos (by omega), if_pos vb.1]
      rfl
    · rw [if_neg z36]
      have zf : rq_fc line (rq_kd s n b) ≠ 0 := by
        rcases (rq_pb_c _ _).mp z with q | q | q | q
        · exact q
        · exact absurd q z36
        · exact absurd q z18
        · exact absurd q z27
      have fb := rq_fc_b hl zf
      refine ⟨?_, fun st hs => ?_⟩
      · dsimp only
        by_cases y : rq_fc line (rq_kd s n b) = -1
        · rw [if_pos y]; exact ha
        · rw [if_neg y]
          by_cases y : rq_fc line (rq_kd s n b) = -2
          · rw [if_pos y]; exact hb'
          · rw [if_neg y]; exact hc
      · dsimp only
        unfold rq_ev
        rw [if_pos (by omega), if_pos (by omega), if_neg (show ¬ 0 ≤ rq_fc line (rq_kd s n b) by omega)]
        rfl
end
