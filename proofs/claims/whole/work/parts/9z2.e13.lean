/-! Layer 3: an E, the reference reads it: tests and parts -/
section
variable {s : Nat → Int} {n line kk : Nat} {R : Nat → rq_EX}
theorem rq_el (k : Nat) (c : Int) (t u : List Int) : k + (t ++ c :: u).length = k + t.length + 1 + u.length := by
  simp only [List.length_append, List.length_cons]
  omega
theorem rq_ec' (c : Int) (t u : List Int) : t ++ [c] ++ u = t ++ c :: u := by rw [List.append_assoc]; rfl
theorem rq_et_RT (hok : rq_okT s n) (hR : rq_ge s n R) (h : rq_RL s n line kk R) : rq_RT s n line kk (rq_et s n R) := by
  intro d m b k hd hp h5 hH
  have hn := hok.1
  have bp := hH.2.2.2.1
  have step := h d m b k hd hp hH
  unfold rq_et
  cases e : R b with
  | inl q =>
    rw [e] at step
    refine rq_to_mono step ?_ ?_
    · rintro b' st' ⟨t, w, -⟩; cases w
    · rintro e2 ⟨q2, w, g⟩
      cases w
      exact ⟨q, rfl, g⟩
  | inr q =>
    obtain ⟨t, b1⟩ := q
    rw [e] at step
    obtain ⟨a1, a2, a3, a4⟩ := rq_ge_r hR bp e
    dsimp only at a1 a2 a3 a4 ⊢
    refine rq_to_bind (rq_to_mono step (fun _ _ q => q) (Q' := fun e => ∃ q, rq_tk2 s n R t b1 = .inl q ∧ rq_fE m q.1 q.2 e) ?_) ?_
    · rintro e2 ⟨q2, w, g⟩; cases w
    rintro b' st' ⟨t', w, m1, rfl, hH1, f1, c1, o1⟩
    cases w
    unfold rq_tk2
    by_cases z : rq_kd s n b1 = 29 ∨ rq_kd s n b1 = 30
    rotate_left
    · rw [if_neg z]
      exact rq_to_id ⟨t, rfl, m1, rfl, hH1, f1, c1, fun j hj => (o1 j hj).1, fun j hj => (o1 j (by omega)).2, fun q => absurd q z⟩
    rw [if_pos z]
    have hb : b1 < n := rq_kd_lt (s := s) (by rcases z with z | z <;> omega)
    have nx := rq_nxp_b (s := s) hb
    have bn := rq_bp_nx (s := s) hb
    refine rq_to_bind (P := fun b' st' => b' = rq_nxp s n b1 ∧ ∃ m2, st' = ((d : Int), 1, m2) ∧ rq_spE s n line b1 (k + t.2.1.length) (rq_cd (if rq_kd s n b1 = 29 then -7 else -8)) (m1 264) (fun j => if j = d then 1 else m1 265 j) m1 m2) (rq_to_in (b' := rq_nxp s n b1) (rq_mono (q_r263 hok hH1 (by omega) z (by rw [(o1 d (Nat.le_refl d)).2, h5])) ?_) (by omega) hb) ?_
    · rintro x ⟨m2, rfl, q⟩
      exact ⟨_, rfl, rfl, m2, rfl, q⟩
    generalize (if rq_kd s n b1 = 29 then (-7 : Int) else -8) = jj
    rintro b' st' ⟨rfl, m2, rfl, hH2, f2, c2, o2, p2⟩
    have oo : ∀ j, j ≤ d → m2 264 j = m 264 j := fun j hj => by rw [o2]; exact (o1 j hj).1
    have pp : ∀ j, j < d → m2 265 j = m 265 j := fun j hj => by rw [p2]; dsimp only; rw [if_neg (by omega)]; exact (o1 j (by omega)).2
    have pd : m2 265 d = 1 := by rw [p2]; dsimp only; rw [if_pos rfl]
    have hp2 : rq_po m2 d = d := by rw [rq_po_e d oo, hp]
    have step := h d m2 (rq_nxp s n b1) _ hd hp2 hH2
    have f12 := f1.trans f2
    cases e : R (rq_nxp s n b1) with
    | inl q =>
      rw [e] at step
      refine rq_to_mono step ?_ ?_
      · rintro b' st' ⟨t, w, -⟩; cases w
      · rintro e2 ⟨q2, w, g⟩
        cases w
        exact ⟨q, rfl, rq_fE_fr f12 g⟩
    | inr q =>
      obtain ⟨u, b2⟩ := q
      rw [e] at step
      refine rq_to_mono step ?_ ?_
      rotate_left
      · rintro e2 ⟨q2, w, g⟩; cases w
      · rintro b' st' ⟨t', w, m3, rfl, hH3, f3, c3, o3⟩
        cases w
        have cc := rq_co_app (rq_co_app c1 c2) (es := u.2.1) (by rw [List.length_append]; exact c3)
        rw [rq_ec'] at cc
        refine ⟨_, rfl, m3, rfl, ?_, f12.trans f3, cc, fun j hj => by rw [(o3 j hj).1]; exact oo j hj, fun j hj => by rw [(o3 j (by omega)).2]; exact pp j hj, fun _ => by rw [(o3 d (Nat.le_refl d)).2, pd]; decide⟩
        show rq_rH s n line b2 (k + (t.2.1 ++ rq_cd jj :: u.2.1).length) m3
        rw [rq_el]
        exact hH3
theorem rq_ec_RT (hok : rq_okT s n) (hR : rq_ge s n R) (h : rq_RT s n line kk R) : rq_RT s n line kk (rq_ec s n 0 R) := by
  intro d m b k hd hp h5 hH
  have hn := hok.1
  have loop : ∀ f (t : rq_ET) (b1 : Nat) (m1 : rt_M), n - b1 < f → rq_rH s n line b1 (k + t.2.1.length) m1 → rq_fr rq_wRe m m1 → rq_co k t.2.1 m m1 → rq_ot s n d b1 m m1 → rq_toX n b1 ((d : Int), 0, m1) m (rq_lpE s n 0 R f t b1) (fun t b' st' => rq_aft s n line d k t.2.1 b' (rq_ot s n d b' m) m st') := by
    intro f
    induction f with
    | zero => intro t b1 m1 h1; omega
    | succ f ih =>
      intro t b1 m1 h1 hH1 f1 c1 o1
      rw [rq_lpE_s]
      by_cases z : rq_jk 0 (rq_kd s n b1) = 0
      · rw [if_pos z]
        exact rq_to_id ⟨t, rfl, m1, rfl, hH1, f1, c1, o1⟩
      · rw [if_neg z]
        have hb := rq_jk_37 z
        have nx := rq_nxp_b (s := s) hb
        have bn := rq_bp_nx (s := s) hb
        refine rq_to_bind (P := fun b' st' => b' = rq_nxp s n b1 ∧ ∃ m2, st' = ((d : Int), 1, m2) ∧ rq_spE s n line b1 (k + t.2.1.length) (rq_cd (rq_jk 0 (rq_kd s n b1))) (m1 264) (fun j => if j = d then 0 else m1 265 j) m1 m2) (rq_to_in (b' := rq_nxp s n b1) (rq_mono (q_r324 hok hH1 (by omega) z) ?_) (by omega) hb) ?_
        · rintro x ⟨m2, rfl, q⟩
          exact ⟨_, rfl, rfl, m2, rfl, q⟩
        rintro b' st' ⟨rfl, m2, rfl, hH2, f2, c2, o2, p2⟩
        obtain ⟨o1a, o1b, -⟩ := o1
        have oo : ∀ j, j ≤ d → m2 264 j = m 264 j := fun j hj => by rw [o2]; exact o1a j hj
        have pp : ∀ j, j < d → m2 265 j = m 265 j := fun j hj => by rw [p2]; dsimp only; rw [if_neg (by omega)]; exact o1b j hj
        have pd : m2 265 d = 0 := by rw [p2]; dsimp only; rw [if_pos rfl]
        have hp2 : rq_po m2 d = d := by rw [rq_po_e d oo, hp]
        have step := h d m2 (rq_nxp s n b1) _ hd hp2 pd hH2
        have f12 := f1.trans f2
        cases e : R (rq_nxp s n b1) with
        | inl q =>
          rw [e] at step
          refine rq_to_mono step ?_ ?_
          · rintro b' st' ⟨t, w, -⟩; cases w
          · rintro e2 ⟨q2, w, g⟩
            cases w
            exact ⟨q, rfl, rq_fE_fr f12 g⟩
        | inr q =>
          obtain ⟨u, b2⟩ := q
          rw [e] at step
          obtain ⟨a1, a2, a3, a4⟩ := rq_ge_r hR bn e
          dsimp only at a1 a2 a3 a4
          refine rq_to_bind (rq_to_mono step (fun _ _ q => q) (Q' := fun e => ∃ q, rq_lpE s n 0 R f (rq_jt (rq_jk 0 (rq_kd s n b1)) t u) b2 = .inl q ∧ rq_fE m q.1 q.2 e) ?_) ?_
          · rintro e2 ⟨q2, w, g⟩; cases w
          · rintro b' st' ⟨t', w, m3, rfl, hH3, f3, c3, o3a, o3b, o3c⟩
            cases w
            have hb2 := a1.1
            have cc := rq_co_app (rq_co_app c1 c2) (es := u.2.1) (by rw [List.length_append]; exact c3)
            rw [rq_ec'] at cc
            exact ih (rq_jt (rq_jk 0 (rq_kd s n b1)) t u) b2 m3 (by omega) (by
              show rq_rH s n line b2 (k + (t.2.1 ++ rq_cd (rq_jk 0 (rq_kd s n b1)) :: u.2.1).length) m3
              rw [rq_el]; exact hH3) (f12.trans f3) cc ⟨fun j hj => by rw [o3a j hj]; exact oo j hj, fun j hj => by rw [o3b j hj]; exact pp j hj, o3c⟩
  have bp := hH.2.2.2.1
  have step := h d m b k hd hp h5 hH
  unfold rq_ec
  cases e : R b with
  | inl q =>
    rw [e] at step
    refine rq_to_mono step ?_ ?_
    · rintro b' st' ⟨t, w, -⟩; cases w
    · rintro e2 ⟨q2, w, g⟩
      cases w
      exact ⟨q, rfl, g⟩
  | inr q =>
    obtain ⟨u, b2⟩ := q
    rw [e] at step
    obtain ⟨a1, a2, a3, a4⟩ := rq_ge_r hR bp e
    dsimp only at a1 a2 a3 a4 ⊢
    refine rq_to_bind (rq_to_mono step (fun _ _ q => q) (Q' := fun e => ∃ q, rq_lpE s n 0 R 1001 u b2 = .inl q ∧ rq_fE m q.1 q.2 e) ?_) ?_
    · rintro e2 ⟨q2, w, g⟩; cases w
    · rintro b' st' ⟨t', w, m3, rfl, hH3, f3, c3, o3⟩
      cases w
      exact loop 1001 u b2 m3 (by omega) hH3 f3 c3 o3
theorem rq_eE_RT (hok : rq_okT s n) (hR : rq_ge s n R) (h : rq_RP s n line kk R) : rq_RT s n line kk (rq_eE s n R) := rq_ec_RT hok (rq_et_ge (rq_ec_ge (rq_ec_ge hR))) (rq_et_RT hok (rq_ec_ge (rq_ec_ge hR)) (rq_ec_RL hok (Or.inl rfl) (rq_ec_ge hR) (rq_ec_RL hok (Or.inr rfl) hR (rq_RL_P h))))
/-- where an E ends, no joint stands -/
def rq_gE (s : Nat → Int) (n : Nat) (R : Nat → rq_EX) (E : Nat → Prop) : Prop := ∀ b q, rq_bp s n b → R b = .inr q → E q.2
theorem rq_ec_E {l : Int} {E : Nat → Prop} (hn : n ≤ 1000) (hR : rq_ge s n R) (h : rq_gE s n R E) : rq_gE s n (rq_ec s n l R) (fun b => E b ∧ rq_jk l (rq_kd s n b) = 0) := by
  have loop : ∀ f t b q, n - b < f → rq_bp s n b → E b → rq_lpE s n l R f t b = .inr q → E q.2 ∧ rq_jk l (rq_kd s n q.2) = 0 := by
    intro f
    induction f with
    | zero => intro t b q h1; omega
    | succ f ih =>
      intro t b q h1 hb hE e
      rw [rq_lpE_s] at e
      by_cases z : rq_jk l (rq_kd s n b) = 0
      · rw [if_pos z] at e; cases e; exact ⟨hE, z⟩
      · rw [if_neg z] at e
        have hbn := rq_jk_37 z
        have bn := rq_bp_nx (s := s) hbn
        have nx := rq_nxp_b (s := s) hbn
        cases e2 : R (rq_nxp s n b) with
        | inl p => rw [e2] at e; cases e
        | inr p =>
          rw [e2] at e
          obtain ⟨a1, a2, -⟩ := rq_ge_r hR bn e2
          have a3 := a1.1
          exact ih _ _ _ (by omega) a1 (h _ _ bn e2) e
  intro b q hb e
  unfold rq_ec at e
  cases e2 : R b with
  | inl p => rw [e2] at e; cases e
  | inr p =>
    rw [e2] at e
    obtain ⟨a1, a2, -⟩ := rq_ge_r hR hb e2
    exact loop _ _ _ _ (by omega) a1 (h _ _ hb e2) e
theorem rq_et_E {E : Nat → Prop} (h : rq_gE s n R E) : rq_gE s n (rq_et s n R) E := by
  intro b q hb e
  unfold rq_et at e
  cases e2 : R b with
  | inl p => rw [e2] at e; cases e
  | inr p =>
    rw [e2] at e
    dsimp only at e
    unfold rq_tk2 at e
    by_cases z : rq_kd s n p.2 = 29 ∨ rq_kd s n p.2 = 30
    · rw [if_pos z] at e
      have hq : p.2 < n := rq_kd_lt (s := s) (by rcases z with z | z <;> omega)
      cases e3 : R (rq_nxp s n p.2) with
      | inl x => rw [e3] at e; cases e
      | inr x =>
        rw [e3] at e
        cases e
        exact h _ x (rq_bp_nx hq) e3
    · rw [if_neg z] at e
      cases e
      exact h _ _ hb e2
theorem rq_eE_E (hn : n ≤ 1000) (hR : rq_ge s n R) {b : Nat} {q : rq_ET × Nat} (hb : rq_bp s n b) (e : rq_eE s n R b = .inr q) : (rq_kd s n q.2 ≠ 31 ∧ rq_kd s n q.2 ≠ 32 ∧ rq_kd s n q.2 ≠ 33) ∧ rq_kd s n q.2 ≠ 19 ∧ rq_kd s n q.2 ≠ 20 := by
  have h0 : rq_gE s n R (fun _ => True) := fun _ _ _ _ => trivial
  obtain ⟨⟨⟨-, j2⟩, j1⟩, j0⟩ := rq_ec_E (l := 0) hn (rq_et_ge (rq_ec_ge (rq_ec_ge hR))) (rq_et_E (rq_ec_E (l := 1) hn (rq_ec_ge hR) (rq_ec_E (l := 2) hn hR h0))) b q hb e
  generalize rq_kd s n q.2 = k at j0 j1 j2 ⊢
  refine ⟨⟨fun z => ?_, fun z => ?_, fun z => ?_⟩, fun z => ?_, fun z => ?_⟩
  · subst z; exact absurd j1 (by decide)
  · subst z; exact absurd j1 (by decide)
  · subst z; exact absurd j2 (by decide)
  · subst z; exact absurd j0 (by decide)
  · subst z; exact absurd j0 (by decide)
end
