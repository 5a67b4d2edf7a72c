/-! Layer 3: an E, what its codes give -/
section
variable {V : Int → Int} {d : Nat} {m : rt_M}
theorem rq_r1_op (c : Int) (hc : c = 28 ∨ c = 30) (h : d < 6) : rq_r1 V c (d, m) = some (d + 1, rq_op (d + 1) (rt_up m 274 (d + 1) (if c = 30 then 1 else 0))) := by
  unfold rq_r1
  dsimp only
  rw [if_pos hc, if_pos h]
theorem rq_r1_su (c : Int) (hc : c = 20 ∨ c = 21) : rq_r1 V c (d, m) = some (d, rt_up (rq_su d m) 271 d c) := by
  unfold rq_r1
  dsimp only
  rw [if_neg (by omega), if_pos hc]
theorem rq_r1_22 : rq_r1 V 22 (d, m) = some (d, rt_up m 273 d 22) := by
  unfold rq_r1
  dsimp only
  rw [if_neg (by decide), if_neg (by decide), if_pos rfl]
theorem rq_r1_cmp (c : Int) (hc : c = 24 ∨ c = 25) : rq_r1 V c (d, m) = some (d, rq_cmp d c (rq_su d m)) := by
  unfold rq_r1
  dsimp only
  rw [if_neg (by omega), if_neg (by omega), if_neg (by omega), if_pos hc]
theorem rq_r1_te (c : Int) (hc : c = 26 ∨ c = 27) : rq_r1 V c (d, m) = some (d, rt_up (rq_te d m) 267 d c) := by
  unfold rq_r1
  dsimp only
  rw [if_neg (by omega), if_neg (by omega), if_neg (by omega), if_neg (by omega), if_pos hc]
theorem rq_r1_29 : rq_r1 V 29 (d + 1, m) = some (rq_pv d ((rq_te (d + 1) m) 266 (d + 1)) (rq_te (d + 1) m)) := by
  unfold rq_r1
  dsimp only
  rw [if_neg (by decide), if_neg (by decide), if_neg (by decide), if_neg (by decide), if_neg (by decide), if_pos rfl]
theorem rq_r1_n (c : Int) (hc : 100 ≤ c) : rq_r1 V c (d, m) = some (rq_pv d (rt_isub c 100) m) := by
  unfold rq_r1
  dsimp only
  rw [if_neg (by omega), if_neg (by omega), if_neg (by omega), if_neg (by omega), if_neg (by omega), if_neg (by omega), if_pos hc]
theorem rq_r1_f (c : Int) (h0 : 0 ≤ c) (h1 : c < 20) : rq_r1 V c (d, m) = some (rq_pv d (V c) m) := by
  unfold rq_r1
  dsimp only
  rw [if_neg (by omega), if_neg (by omega), if_neg (by omega), if_neg (by omega), if_neg (by omega), if_neg (by omega), if_neg (by omega), if_pos ⟨h0, h1⟩]
theorem rq_rn_c (c : Int) (cs : List Int) (x : Nat × rt_M) : rq_rn V (c :: cs) x = (rq_r1 V c x).bind (rq_rn V cs) := rfl
def rq_nl (d : Nat) (m : rt_M) : Prop := d = 0 ∨ m 274 d ≠ 1
theorem rq_pv_nl (h : rq_nl d m) (v : Int) : rq_pv d v m = (d, rt_up m 272 d (if m 273 d = 0 then v else rt_imul (m 272 d) v)) := by
  cases d with
  | zero => rfl
  | succ d =>
    have e : m 274 (d + 1) ≠ 1 := by
      rcases h with h | h
      · omega
      · exact h
    unfold rq_pv rq_nn rq_pv1
    rw [if_neg e]
end
theorem rq_jn_5 (x y : Int) : rq_jn (-5) x y = if x = 0 ∨ y = 0 then 0 else 1 := rfl
theorem rq_jn_6 (x y : Int) : rq_jn (-6) x y = if x = 0 ∧ y = 0 then 0 else 1 := rfl
theorem rq_jn_7 (x y : Int) : rq_jn (-7) x y = if y ≤ x then 0 else 1 := rfl
theorem rq_jn_8 (x y : Int) : rq_jn (-8) x y = if x = y then 1 else 0 := rfl
theorem rq_jn_9 (x y : Int) : rq_jn (-9) x y = rt_iadd x y := rfl
theorem rq_jn_10 (x y : Int) : rq_jn (-10) x y = rt_isub x y := rfl
theorem rq_jn_11 (x y : Int) : rq_jn (-11) x y = rt_imul x y := rfl
theorem rq_jt_F (j : Int) (t u : rq_ET) (a b c : Int) : (rq_jt j t u).2.2 a b c = rq_jn j (t.2.2 a b c) (u.2.2 a b c) := rfl
def rq_qP (V : Int → Int) (a b c : Int) (k : Nat) (t : rq_ET) : Prop := rq_i (t.2.2 a b c) ∧ ∀ (d : Nat) (m : rt_M), d + k ≤ 5 → ∃ m', (∀ kk j, j ≤ d → m' kk j = m kk j) ∧ rq_rn V t.2.1 (d, m) = some (rq_pv d (t.2.2 a b c) m')
def rq_q2 (V : Int → Int) (a b c : Int) (k : Nat) (t : rq_ET) : Prop := rq_i (t.2.2 a b c) ∧ ∀ (d : Nat) (m : rt_M), d + k ≤ 5 → rq_nl d m → m 273 d = 0 → ∃ m', rq_rn V t.2.1 (d, m) = some (d, m') ∧ m' 272 d = t.2.2 a b c ∧ (∀ kk j, j < d → m' kk j = m kk j) ∧ (∀ kk, kk ≠ 272 → kk ≠ 273 → m' kk d = m kk d)
def rq_q1 (V : Int → Int) (a b c : Int) (k : Nat) (t : rq_ET) : Prop := rq_i (t.2.2 a b c) ∧ ∀ (d : Nat) (m : rt_M), d + k ≤ 5 → rq_nl d m → m 270 d = 0 → m 271 d = 20 → m 273 d = 0 → ∃ m', rq_rn V t.2.1 (d, m) = some (d, m') ∧ (rq_su d m') 270 d = t.2.2 a b c ∧ (∀ kk j, j < d → m' kk j = m kk j) ∧ (∀ kk, kk < 270 ∨ 273 < kk → m' kk d = m kk d)
def rq_qt (V : Int → Int) (a b c : Int) (k : Nat) (t : rq_ET) : Prop := rq_i (t.2.2 a b c) ∧ ∀ (d : Nat) (m : rt_M), d + k ≤ 5 → rq_nl d m → m 269 d = 0 → m 270 d = 0 → m 271 d = 20 → m 273 d = 0 → ∃ m', rq_rn V t.2.1 (d, m) = some (d, m') ∧ rq_tv1 d (rq_su d m') = t.2.2 a b c ∧ (∀ kk j, j < d → m' kk j = m kk j) ∧ (∀ kk, kk < 268 ∨ 273 < kk → m' kk d = m kk d)
def rq_q0 (V : Int → Int) (a b c : Int) (k : Nat) (t : rq_ET) : Prop := rq_i (t.2.2 a b c) ∧ ∀ (d : Nat) (m : rt_M), d + k ≤ 5 → rq_nl d m → m 267 d = 0 → m 269 d = 0 → m 270 d = 0 → m 271 d = 20 → m 273 d = 0 → ∃ m', rq_rn V t.2.1 (d, m) = some (d, m') ∧ (rq_te d m') 266 d = t.2.2 a b c ∧ (∀ kk j, j < d → m' kk j = m kk j) ∧ m' 274 d = m 274 d
section
variable {V : Int → Int} {a b c : Int} {k : Nat} {t u : rq_ET}
theorem rq_su_o {d kk j : Nat} {m : rt_M} (h : ¬ (j = d ∧ (kk = 270 ∨ kk = 273))) : rq_su d m kk j = m kk j := by
  unfold rq_su
  rw [q_up, if_neg (by omega), q_up, if_neg (by omega)]
theorem rq_su_270 {d : Nat} {m : rt_M} : rq_su d m 270 d = if m 271 d = 21 then rt_isub (m 270 d) (m 272 d) else rt_iadd (m 270 d) (m 272 d) := by
  unfold rq_su
  rw [q_up, if_neg (by omega), rq_upE]
theorem rq_su_273 {d : Nat} {m : rt_M} : rq_su d m 273 d = 0 := by
  unfold rq_su
  rw [rq_upE]
theorem rq_nl_e {d : Nat} {m m' : rt_M} (h : rq_nl d m) (e : m' 274 d = m 274 d) : rq_nl d m' := by
  unfold rq_nl
  rw [e]
  exact h
theorem rq_q2_P (h : rq_qP V a b c k t) : rq_q2 V a b c k t := by
  refine ⟨h.1, fun d m hd nl h3 => ?_⟩
  obtain ⟨m1, lo, e⟩ := h.2 d m hd
  rw [rq_pv_nl (rq_nl_e nl (lo 274 d (Nat.le_refl d))), lo 273 d (Nat.le_refl d), h3, if_pos rfl] at e
  refine ⟨_, e, rq_upE _ _ _ _, fun kk j hj => ?_, fun kk k1 k2 => ?_⟩
  · rw [q_up, if_neg (by omega), lo kk j (by omega)]
  · rw [q_up, if_neg (by omega), lo kk d (Nat.le_refl d)]
theorem rq_q2_j (h1 : rq_q2 V a b c k t) (h2 : rq_qP V a b c k u) : rq_q2 V a b c k (rq_jt (-11) t u) := by
  refine ⟨by rw [rq_jt_F]; exact rq_jn_i _ _ _, fun d m hd nl h3 => ?_⟩
  obtain ⟨m1, e1, f1, lo1, sa1⟩ := h1.2 d m hd nl h3
  obtain ⟨m2, lo2, e2⟩ := h2.2 d (rt_up m1 273 d 22) hd
  have g2 : ∀ kk j, j ≤ d → m2 kk j = if kk = 273 ∧ j = d then 22 else m1 kk j := fun kk j hj => by rw [lo2 kk j hj, q_up]
  have w3 : m2 273 d = 22 := by rw [g2 273 d (Nat.le_refl d), if_pos ⟨rfl, rfl⟩]
  have w2 : m2 272 d = t.2.2 a b c := by rw [g2 272 d (Nat.le_refl d), if_neg (by omega), f1]
  rw [rq_pv_nl (rq_nl_e nl (by rw [g2 274 d (Nat.le_refl d), if_neg (by omega), sa1 274 (by decide) (by decide)])), w3, if_neg (by decide), w2] at e2
  refine ⟨rt_up m2 272 d (rt_imul (t.2.2 a b c) (u.2.2 a b c)), ?_, by rw [rq_jt_F, rq_upE, rq_jn_11], fun kk j hj => ?_, fun kk k1 k2 => ?_⟩
  rotate_left
  · rw [q_up, if_neg (by omega), g2 kk j (by omega), if_neg (by omega), lo1 kk j hj]
  · rw [q_up, if_neg (by omega), g2 kk d (Nat.le_refl d), if_neg (by omega), sa1 kk k1 k2]
  show rq_rn V (t.2.1 ++ 22 :: u.2.1) (d, m) = _
  rw [rq_rn_app, e1, Option.bind_some, rq_rn_c, rq_r1_22, Option.bind_some, e2]
theorem rq_q1_2 (h : rq_q2 V a b c k t) : rq_q1 V a b c k t := by
  refine ⟨h.1, fun d m hd nl h0 h1 h3 => ?_⟩
  obtain ⟨m1, e1, f1, lo1, sa1⟩ := h.2 d m hd nl h3
  refine ⟨m1, e1, ?_, lo1, fun kk hk => sa1 kk (by omega) (by omega)⟩
  rw [rq_su_270, sa1 271 (by decide) (by decide), sa1 270 (by decide) (by decide), h0, h1, f1, if_neg (by decide)]
  have := h.1
  unfold rq_i at this
  rw [rq_iadd (by omega) (by omega)]
  omega
theorem rq_q1_j {j : Int} (hj : j = -9 ∨ j = -10) (h1 : rq_q1 V a b c k t) (h2 : rq_q2 V a b c k u) : rq_q1 V a b c k (rq_jt j t u) := by
  refine ⟨rq_jn_i _ _ _, fun d m hd nl h270 h271 h273 => ?_⟩
  obtain ⟨m1, e1, f1, lo1, sa1⟩ := h1.2 d m hd nl h270 h271 h273
  have hc : rq_cd j = 20 ∨ rq_cd j = 21 := by
    rcases hj with rfl | rfl
    · exact Or.inl rfl
    · exact Or.inr rfl
  obtain ⟨m2, e2, f2, lo2, sa2⟩ := h2.2 d (rt_up (rq_su d m1) 271 d (rq_cd j)) hd (rq_nl_e nl (by rw [q_up, if_neg (by omega), rq_su_o (by omega), sa1 274 (by decide)])) (by rw [q_up, if_neg (by omega), rq_su_273])
  refine ⟨m2, ?_, ?_, fun kk j hj => ?_, fun kk hk => ?_⟩
  · show rq_rn V (t.2.1 ++ rq_cd j :: u.2.1) (d, m) = _
    rw [rq_rn_app, e1, Option.bind_some, rq_rn_c, rq_r1_su _ hc, Option.bind_some, e2]
  · have w1 : m2 271 d = rq_cd j := by rw [sa2 271 (by decide) (by decide), rq_upE]
    have w0 : m2 270 d = t.2.2 a b c := by rw [sa2 270 (by decide) (by decide), q_up, if_neg (by omega), f1]
    rw [rq_su_270, w1, w0, f2]
    show _ = rq_jn j (t.2.2 a b c) (u.2.2 a b c)
    rcases hj with rfl | rfl
    · rw [rq_jn_9, if_neg (by decide)]
    · rw [rq_jn_10, if_pos (by decide)]
  · rw [lo2 kk j hj, q_up, if_neg (by omega), rq_su_o (by omega), lo1 kk j hj]
  · rw [sa2 kk (by omega) (by omega), q_up, if_neg (by omega), rq_su_o (by omega), sa1 kk hk]
theorem rq_qt_1 (h : rq_q1 V a b c k t) : rq_qt V a b c k t := by
  refine ⟨h.1, fun d m hd nl h269 h270 h271 h273 => ?_⟩
  obtain ⟨m1, e1, f1, lo1, sa1⟩ := h.2 d m hd nl h270 h271 h273
  refine ⟨m1, e1, ?_, lo1, fun kk hk => sa1 kk (by omega)⟩
  unfold rq_tv1
  rw [rq_su_o (by omega), sa1 269 (by decide), h269, if_neg (by decide), if_neg (by decide), f1]
theorem rq_qt_j {j : Int} (hj : j = -7 ∨ j = -8) (h1 : rq_q1 V a b c k t) (h2 : rq_q1 V a b c k u) : rq_qt V a b c k (rq_jt j t u) := by
  refine ⟨rq_jn_i _ _ _, fun d m hd nl h269 h270 h271 h273 => ?_⟩
  obtain ⟨m1, e1, f1, lo1, sa1⟩ := h1.2 d m hd nl h270 h271 h273
  have hc : rq_cd j = 24 ∨ rq_cd j = 25 := by
    rcases hj with rfl | rfl
    · exact Or.inl rfl
    · exact Or.inr rfl
  have cm : ∀ kk i, rq_cmp d (rq_cd j) (rq_su d m1) kk i = if i = d then (if kk = 268 then t.2.2 a b c else if kk = 269 then rq_cd j else if kk = 270 then 0 else if kk = 271 then 20 else rq_su d m1 kk i) else m1 kk i := fun kk i => by
    unfold rq_cmp
    by_cases z : i = d
    · rw [if_pos z]
      subst z
      by_cases k1 : kk = 268
      · subst k1
        rw [if_pos rfl, q_up, if_neg (by omega), q_up, if_neg (by omega), q_up, if_neg (by omega), rq_upE, f1]
      rw [if_neg k1]
      by_cases k2 : kk = 269
      · subst k2
        rw [if_pos rfl, q_up, if_neg (by omega), q_up, if_neg (by omega), rq_upE]
      rw [if_neg k2]
      by_cases k3 : kk = 270
      · subst k3
        rw [if_pos rfl, q_up, if_neg (by omega), rq_upE]
      rw [if_neg k3]
      by_cases k4 : kk = 271
      · subst k4
        rw [if_pos rfl, rq_upE]
      rw [if_neg k4, q_up, if_neg (by omega), q_up, if_neg (by omega), q_up, if_neg (by omega), q_up, if_neg (by omega)]
    · rw [if_neg z, q_up, if_neg (by omega), q_up, if_neg (by omega), q_up, if_neg (by omega), q_up, if_neg (by omega), rq_su_o (by omega)]
  generalize hM : rq_cmp d (rq_cd j) (rq_su d m1) = M at cm
  obtain ⟨m2, e2, f2, lo2, sa2⟩ := h2.2 d M hd (rq_nl_e nl (by rw [cm, if_pos rfl, if_neg (by decide), if_neg (by decide), if_neg (by decide), if_neg (by decide), rq_su_o (by omega), sa1 274 (by decide)])) (by rw [cm, if_pos rfl, if_neg (by decide), if_neg (by decide), if_pos rfl]) (by rw [cm, if_pos rfl, if_neg (by decide), if_neg (by decide), if_neg (by decide), if_pos rfl]) (by rw [cm, if_pos rfl, if_neg (by decide), if_neg (by decide), if_neg (by decide), if_neg (by decide), rq_su_273])
  refine ⟨m2, ?_, ?_, fun kk i hi => ?_, fun kk hk => ?_⟩
  · show rq_rn V (t.2.1 ++ rq_cd j :: u.2.1) (d, m) = _
    rw [rq_rn_app, e1, Option.bind_some, rq_rn_c, rq_r1_cmp _ hc, Option.bind_some, hM, e2]
  · have x8 : rq_su d m2 268 d = t.2.2 a b c := by rw [rq_su_o (by omega), sa2 268 (by decide), cm, if_pos rfl, if_pos rfl]
    have x9 : rq_su d m2 269 d = rq_cd j := by rw [rq_su_o (by omega), sa2 269 (by decide), cm, if_pos rfl, if_neg (by decide), if_pos rfl]
    unfold rq_tv1
    rw [x8, x9, f2]
    show _ = rq_jn j (t.2.2 a b c) (u.2.2 a b c)
    generalize t.2.2 a b c = x
    generalize u.2.2 a b c = y
    rcases hj with rfl | rfl
    · rw [rq_jn_7, if_pos (show rq_cd (-7) = 24 from rfl)]
      by_cases z : x < y
      · rw [if_pos z, if_neg (by omega)]
      · rw [if_neg z, if_pos (by omega)]
    · rw [rq_jn_8, if_neg (show ¬ rq_cd (-8) = 24 by decide), if_pos (show rq_cd (-8) = 25 from rfl)]
  · rw [lo2 kk i hi, cm, if_neg (by omega), lo1 kk i hi]
  · rw [sa2 kk (by omega), cm, if_pos rfl, if_neg (by omega), if_neg (by omega), if_neg (by omega), if_neg (by omega), rq_su_o (by omega), sa1 kk (by omega)]
theorem rq_te_266 {d : Nat} {m : rt_M} : rq_te d m 266 d = rq_tv d (rq_su d m) := by
  unfold rq_te rq_te1
  rw [q_up, if_neg (by omega), q_up, if_neg (by omega), q_up, if_neg (by omega), rq_upE]
theorem rq_te_o {d kk j : Nat} {m : rt_M} (h : ¬ (j = d ∧ (kk = 266 ∨ kk = 269 ∨ kk = 270 ∨ kk = 271 ∨ kk = 273))) : rq_te d m kk j = m kk j := by
  unfold rq_te rq_te1
  rw [q_up, if_neg (by omega), q_up, if_neg (by omega), q_up, if_neg (by omega), q_up, if_neg (by omega), rq_su_o (by omega)]
theorem rq_te_v {d : Nat} {m : rt_M} : rq_te d m 269 d = 0 ∧ rq_te d m 270 d = 0 ∧ rq_te d m 271 d = 20 ∧ rq_te d m 273 d = 0 := by
  unfold rq_te rq_te1
  refine ⟨?_, ?_, ?_, ?_⟩
  · rw [q_up, if_neg (by omega), q_up, if_neg (by omega), rq_upE]
  · rw [q_up, if_neg (by omega), rq_upE]
  · rw [rq_upE]
  · rw [q_up, if_neg (by omega), q_up, if_neg (by omega), q_up, if_neg (by omega), q_up, if_neg (by omega), rq_su_273]
theorem rq_q0_t (h : rq_qt V a b c k t) : rq_q0 V a b c k t := by
  refine ⟨h.1, fun d m hd nl h267 h269 h270 h271 h273 => ?_⟩
  obtain ⟨m1, e1, f1, lo1, sa1⟩ := h.2 d m hd nl h269 h270 h271 h273
  refine ⟨m1, e1, ?_, lo1, sa1 274 (by decide)⟩
  rw [rq_te_266]
  unfold rq_tv
  rw [rq_su_o (by omega), sa1 267 (by decide), h267, if_neg (by decide), if_neg (by decide), f1]
theorem rq_q0_j {j : Int} (hj : j = -5 ∨ j = -6) (h1 : rq_q0 V a b c k t) (h2 : rq_qt V a b c k u) : rq_q0 V a b c k (rq_jt j t u) := by
  refine ⟨rq_jn_i _ _ _, fun d m hd nl h267 h269 h270 h271 h273 => ?_⟩
  obtain ⟨m1, e1, f1, lo1, sa1⟩ := h1.2 d m hd nl h267 h269 h270 h271 h273
  have hc : rq_cd j = 26 ∨ rq_cd j = 27 := by
    rcases hj with rfl | rfl
    · exact Or.inl rfl
    · exact Or.inr rfl
  obtain ⟨v1, v2, v3, v4⟩ := rq_te_v (d := d) (m := m1)
  have cm : ∀ kk i, kk ≠ 267 → rt_up (rq_te d m1) 267 d (rq_cd j) kk i = rq_te d m1 kk i := fun kk i hk => by rw [q_up, if_neg (by omega)]
  have cl : ∀ kk i, i < d → rt_up (rq_te d m1) 267 d (rq_cd j) kk i = m1 kk i := fun kk i hi => by rw [q_up, if_neg (by omega), rq_te_o (by omega)]
  have c7 : rt_up (rq_te d m1) 267 d (rq_cd j) 267 d = rq_cd j := rq_upE _ _ _ _
  generalize hM : rt_up (rq_te d m1) 267 d (rq_cd j) = M at cm cl c7
  obtain ⟨m2, e2, f2, lo2, sa2⟩ := h2.2 d M hd (rq_nl_e nl (by rw [cm 274 d (by decide), rq_te_o (by omega), sa1])) (by rw [cm 269 d (by decide), v1]) (by rw [cm 270 d (by decide), v2]) (by rw [cm 271 d (by decide), v3]) (by rw [cm 273 d (by decide), v4])
  refine ⟨m2, ?_, ?_, fun kk i hi => ?_, ?_⟩
  · show rq_rn V (t.2.1 ++ rq_cd j :: u.2.1) (d, m) = _
    rw [rq_rn_app, e1, Option.bind_some, rq_rn_c, rq_r1_te _ hc, Option.bind_some, hM, e2]
  · have x6 : rq_su d m2 266 d = t.2.2 a b c := by rw [rq_su_o (by omega), sa2 266 (by decide), cm 266 d (by decide), f1]
    have x7 : rq_su d m2 267 d = rq_cd j := by rw [rq_su_o (by omega), sa2 267 (by decide), c7]
    rw [rq_te_266]
    unfold rq_tv
    rw [x6, x7, f2]
    show _ = rq_jn j (t.2.2 a b c) (u.2.2 a b c)
    generalize t.2.2 a b c = x
    generalize u.2.2 a b c = y
    rcases hj with rfl | rfl
    · rw [rq_jn_5, if_pos (show rq_cd (-5) = 26 from rfl)]
      by_cases z : x ≠ 0 ∧ y ≠ 0
      · rw [if_pos z, if_neg (by omega)]
      · rw [if_neg z, if_pos (by omega)]
    · rw [rq_jn_6, if_neg (show ¬ rq_cd (-6) = 26 by decide), if_pos (show rq_cd (-6) = 27 from rfl)]
      by_cases z : x ≠ 0 ∨ y ≠ 0
      · rw [if_pos z, if_neg (by omega)]
      · rw [if_neg z, if_pos (by omega)]
  · rw [lo2 kk i hi, cl kk i hi, lo1 kk i hi]
  · rw [sa2 274 (by decide), cm 274 d (by decide), rq_te_o (by omega), sa1]
end
