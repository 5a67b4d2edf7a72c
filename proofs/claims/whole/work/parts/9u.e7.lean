/-! Layer 3: an E, both give its value -/
section
variable {s : Nat → Int} {n : Nat} {R : Nat → rq_EX} {V : Int → Int} {a b c : Int} {k : Nat}
theorem rq_eE_q0 (hR : rq_ge s n R) (h : rq_gq s n R (rq_qP V a b c k)) : rq_gq s n (rq_eE s n R) (rq_q0 V a b c k) := by
  have h2 : rq_gq s n (rq_ec s n 2 R) (rq_q2 V a b c k) := rq_ec_P hR h (fun t => rq_q2_P) (fun k' t u hk h1 h2 => by
    rcases rq_jk_c hk with ⟨e, -⟩ | ⟨e, -⟩ | ⟨-, -, e⟩
    · omega
    · omega
    · rw [e]; exact rq_q2_j h1 h2)
  have h1 : rq_gq s n (rq_ec s n 1 (rq_ec s n 2 R)) (rq_q1 V a b c k) := rq_ec_P (rq_ec_ge hR) h2 (fun t => rq_q1_2) (fun k' t u hk h1 h2 => by
    rcases rq_jk_c hk with ⟨e, -⟩ | ⟨-, e⟩ | ⟨-, e, -⟩
    · omega
    · exact rq_q1_j e h1 h2
    · omega)
  have ht : rq_gq s n (rq_et s n (rq_ec s n 1 (rq_ec s n 2 R))) (rq_qt V a b c k) := rq_et_P (rq_ec_ge (rq_ec_ge hR)) h1 (fun t => rq_qt_1) (fun j t u hj h1 h2 => rq_qt_j hj h1 h2)
  exact rq_ec_P (rq_et_ge (rq_ec_ge (rq_ec_ge hR))) ht (fun t => rq_q0_t) (fun k' t u hk h1 h2 => by
    rcases rq_jk_c hk with ⟨-, e⟩ | ⟨e, -⟩ | ⟨e, -, -⟩
    · exact rq_q0_j e h1 h2
    · omega
    · omega)
theorem rq_op_v {d : Nat} {m : rt_M} : rq_op d m 267 d = 0 ∧ rq_op d m 269 d = 0 ∧ rq_op d m 270 d = 0 ∧ rq_op d m 271 d = 20 ∧ rq_op d m 273 d = 0 := by
  unfold rq_op
  refine ⟨?_, ?_, ?_, ?_, rq_upE _ _ _ _⟩
  · rw [q_up, if_neg (by omega), q_up, if_neg (by omega), q_up, if_neg (by omega), q_up, if_neg (by omega), rq_upE]
  · rw [q_up, if_neg (by omega), q_up, if_neg (by omega), q_up, if_neg (by omega), rq_upE]
  · rw [q_up, if_neg (by omega), q_up, if_neg (by omega), rq_upE]
  · rw [q_up, if_neg (by omega), rq_upE]
theorem rq_op_o {d kk j : Nat} {m : rt_M} (h : ¬ (j = d ∧ (kk = 267 ∨ kk = 269 ∨ kk = 270 ∨ kk = 271 ∨ kk = 273))) : rq_op d m kk j = m kk j := by
  unfold rq_op
  rw [q_up, if_neg (by omega), q_up, if_neg (by omega), q_up, if_neg (by omega), q_up, if_neg (by omega), q_up, if_neg (by omega)]
theorem rq_ep_qP {line : Nat} (hl : line < 2) (hok : rq_okT s n) (ha : rq_i a) (hb : rq_i b) (hc : rq_i c) (va : V (3 * (line : Int) + 1) = a) (vb : V (3 * (line : Int) + 2) = b) (vc : V (3 * (line : Int) + 3) = c) : ∀ k, rq_gq s n (rq_ep s n line k) (rq_qP V a b c k) := by
  intro k
  induction k with
  | zero =>
    intro p q hb e
    have e' : (if rq_pb line (rq_kd s n p) = true then (.inl (5, p) : rq_EX) else .inl (1, p)) = .inr q := e
    by_cases z : rq_pb line (rq_kd s n p) = true
    · rw [if_pos z] at e'; cases e'
    · rw [if_neg z] at e'; cases e'
  | succ k ih =>
    intro p q hp e
    have tv := (rq_ep_tev hl hok (k + 1) p q hp e a b c ha hb hc).1
    rw [rq_ep_s] at e
    by_cases z : rq_pb line (rq_kd s n p) = true
    rotate_left
    · rw [if_neg z] at e; cases e
    rw [if_pos z] at e
    have hq := rq_pb_lt hl z
    have bn := rq_bp_nx (s := s) hq
    refine ⟨tv, fun d m hd => ?_⟩
    by_cases z27 : rq_kd s n p = 27
    · rw [if_pos z27] at e
      cases e2 : rq_eE s n (rq_ep s n line k) (rq_nxp s n p) with
      | inl x => rw [e2] at e; cases e
      | inr x =>
        rw [e2] at e
        have h1 := rq_eE_q0 (rq_ep_ge hl k) ih _ _ bn e2
        dsimp only at e
        unfold rq_clo at e
        by_cases y : rq_kd s n x.2 = 28
        rotate_left
        · rw [if_neg y] at e; cases e
        rw [if_pos y] at e
        cases e
        obtain ⟨v1, v2, v3, v4, v5⟩ := rq_op_v (d := d + 1) (m := rt_up m 274 (d + 1) 0)
        have w4 : rq_op (d + 1) (rt_up m 274 (d + 1) 0) 274 (d + 1) = 0 := by rw [rq_op_o (by omega), rq_upE]
        have wl : ∀ kk j, j ≤ d → rq_op (d + 1) (rt_up m 274 (d + 1) 0) kk j = m kk j := fun kk j hj => by rw [rq_op_o (by omega), q_up, if_neg (by omega)]
        have r1 := rq_r1_op (V := V) (d := d) (m := m) 28 (Or.inl rfl) (by omega)
        rw [if_neg (by decide)] at r1
        generalize rq_op (d + 1) (rt_up m 274 (d + 1) 0) = M at v1 v2 v3 v4 v5 w4 wl r1
        obtain ⟨m2, g1, g2, g3, g4⟩ := h1.2 (d + 1) M (by omega) (Or.inr (by omega)) v1 v2 v3 v4 v5
        refine ⟨rq_te (d + 1) m2, fun kk j hj => by rw [rq_te_o (by omega), g3 kk j (by omega), wl kk j hj], ?_⟩
        show rq_rn V (28 :: (x.1.2.1 ++ [29])) (d, m) = some (rq_pv d (x.1.2.2 a b c) (rq_te (d + 1) m2))
        rw [rq_rn_c, r1, Option.bind_some, rq_rn_app, g1, Option.bind_some, rq_rn_c, rq_r1_29, Option.bind_some, g2]
        rfl
    rw [if_neg z27] at e
    by_cases z18 : rq_kd s n p = 18
    · rw [if_pos z18] at e
      cases e2 : rq_ep s n line k (rq_nxp s n p) with
      | inl x => rw [e2] at e; cases e
      | inr x =>
        rw [e2] at e
        have h1 := ih _ _ bn e2
        cases e
        have w4 : rq_op (d + 1) (rt_up m 274 (d + 1) 1) 274 (d + 1) = 1 := by rw [rq_op_o (by omega), rq_upE]
        have wl : ∀ kk j, j ≤ d → rq_op (d + 1) (rt_up m 274 (d + 1) 1) kk j = m kk j := fun kk j hj => by rw [rq_op_o (by omega), q_up, if_neg (by omega)]
        have r1 := rq_r1_op (V := V) (d := d) (m := m) 30 (Or.inr rfl) (by omega)
        rw [if_pos rfl] at r1
        generalize rq_op (d + 1) (rt_up m 274 (d + 1) 1) = M at w4 wl r1
        obtain ⟨m2, g1, g2⟩ := h1.2 (d + 1) M (by omega)
        refine ⟨m2, fun kk j hj => by rw [g1 kk j (by omega), wl kk j hj], ?_⟩
        show rq_rn V (30 :: x.1.2.1) (d, m) = some (rq_pv d (if x.1.2.2 a b c = 0 then 1 else 0) m2)
        rw [rq_rn_c, r1, Option.bind_some, g2]
        have e4 : m2 274 (d + 1) = 1 := by rw [g1 274 (d + 1) (Nat.le_refl _), w4]
        have key : ∀ v, rq_pv (d + 1) v m2 = rq_pv d (if v = 0 then 1 else 0) m2 := by
          intro v
          have : rq_nn m2 (d + 1) v = rq_nn m2 d (if v = 0 then 1 else 0) := by
            show (if m2 274 (d + 1) = 1 then rq_nn m2 d (if v = 0 then 1 else 0) else (d + 1, v)) = _
            rw [if_pos e4]
          unfold rq_pv
          rw [this]
        rw [key]
    rw [if_neg z18] at e
    cases e
    refine ⟨m, fun kk j _ => rfl, ?_⟩
    unfold rq_lf
    by_cases z36 : rq_kd s n p = 36
    · rw [if_pos z36]
      have vb := rq_vl_36 hok hp z36
      dsimp only
      rw [rq_rn_c, rq_r1_n _ (by omega), Option.bind_some, rq_isub (by omega) (by omega), show 100 + rq_vl s n p - 100 = rq_vl s n p by omega]
      rfl
    · rw [if_neg z36]
      have zf : rq_fc line (rq_kd s n p) ≠ 0 := by
        rcases (rq_pb_c _ _).mp z with q | q | q | q
        · exact q
        · exact absurd q z36
        · exact absurd q z18
        · exact absurd q z27
      have fb := rq_fc_b hl zf
      dsimp only
      rw [rq_rn_c, rq_r1_f _ (by omega) (by omega), Option.bind_some]
      have f3 : rq_fc line (rq_kd s n p) = -1 ∨ rq_fc line (rq_kd s n p) = -2 ∨ rq_fc line (rq_kd s n p) = -3 := by omega
      rcases f3 with f3 | f3 | f3
      · rw [f3, if_pos rfl, show 3 * (line : Int) - -1 = 3 * (line : Int) + 1 by omega, va]; rfl
      · rw [f3, if_neg (by decide), if_pos rfl, show 3 * (line : Int) - -2 = 3 * (line : Int) + 2 by omega, vb]; rfl
      · rw [f3, if_neg (by decide), if_neg (by decide), show 3 * (line : Int) - -3 = 3 * (line : Int) + 3 by omega, vc]; rfl
/-- an E that is read gives its value, in its steps and in its codes -/
theorem rq_top {line : Nat} (hl : line < 2) (hok : rq_okT s n) {p : Nat} (hp : rq_bp s n p) {t : rq_ET} {p' : Nat} (e : rq_eE s n (rq_ep s n line 5) p = .inr (t, p')) : (∀ a b c, rq_i a → rq_i b → rq_i c → rq_ev a b c t.1 [] = some [t.2.2 a b c]) ∧ rq_rv line t.2.1 t.2.2 := by
  refine ⟨fun a b c ha hb hc => ?_, fun a b c V m ha hb hc va vb vc => ?_⟩
  · exact (rq_eE_tev (rq_ep_ge hl 5) (rq_ep_tev hl hok 5) p (t, p') hp e a b c ha hb hc).2 [] (by decide)
  · obtain ⟨v1, v2, v3, v4, v5⟩ := rq_op_v (d := 0) (m := m)
    obtain ⟨m2, g1, g2, -, -⟩ := (rq_eE_q0 (rq_ep_ge hl 5) (rq_ep_qP hl hok ha hb hc va vb vc 5) p (t, p') hp e).2 0 (rq_op 0 m) (by decide) (Or.inl rfl) v1 v2 v3 v4 v5
    exact ⟨m2, g1, g2⟩
end
