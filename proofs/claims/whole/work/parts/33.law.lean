/-! Layer 3: the class's E at work, girths and fits -/
section
variable {m : rt_M}
theorem q_law : ∀ L, L = 81 ∨ L = 84 ∨ L = 105 ∨ L = 108 → rt_kd L = 22 ∧ (L, 3, ((L + 1 : Nat) : Int)) ∈ rq_P ∧ (L, 4, ((L + 2 : Nat) : Int)) ∈ rq_P ∧ rt_kd (L + 1) = 1 ∧ rt_ln (L + 1) = 1000 ∧ rt_kd (L + 2) = 1 ∧ rt_ln (L + 2) = 24 := by
  intro L h
  rcases h with rfl | rfl | rfl | rfl <;> decide +kernel
theorem q_gf2 {L : Nat} (h : L = 81 ∨ L = 84 ∨ L = 105 ∨ L = 108) (j : Nat) : rt_gf 2 j (L : Int) m = some (m L j) := if_pos (q_law L h).1
theorem q_sa {tc a j : Nat} {v : Int} (h1 : rt_kd a = tc) {n : Nat} (h2 : rt_ln a = n) (h3 : j < n) : rt_sa tc ((a : Nat) : Int) ((j : Nat) : Int) v m = some (rt_up m a j v) := by
  unfold rt_sa
  rw [if_pos ⟨h1, by omega, by show (j : Int) < (rt_ln a : Int); omega⟩]
  rfl
theorem q_len {tc a : Nat} (h1 : rt_kd a = tc) : rt_len tc ((a : Nat) : Int) = some (rt_ln a : Int) := if_pos h1
theorem q_up (k j : Nat) (v : Int) (a i : Nat) : rt_up m k j v a i = if a = k ∧ i = j then v else m a i := rfl
/-- the stack st lies in row a -/
def rq_sk (a : Nat) (st : List Int) (mm : rt_M) : Prop := ∀ j (h : j < st.length), mm a (st.length - 1 - j) = st[j]
theorem rq_sk_push {a : Nat} {st : List Int} {mm : rt_M} {v : Int} (h : rq_sk a st mm) : rq_sk a (v :: st) (rt_up mm a st.length v) := by
  intro j hj
  cases j with
  | zero => rw [q_up, if_pos ⟨rfl, by simp⟩]; rfl
  | succ j =>
    simp only [List.length_cons] at hj
    rw [q_up, if_neg (by simp only [List.length_cons]; omega)]
    have := h j (by omega)
    rw [show (v :: st).length - 1 - (j + 1) = st.length - 1 - j by simp only [List.length_cons]; omega, this]
    rfl
theorem rq_sk_set {a : Nat} {x v : Int} {st : List Int} {mm : rt_M} (h : rq_sk a (x :: st) mm) : rq_sk a (v :: st) (rt_up mm a st.length v) := by
  intro j hj
  cases j with
  | zero => rw [q_up, if_pos ⟨rfl, by simp⟩]; rfl
  | succ j =>
    simp only [List.length_cons] at hj
    rw [q_up, if_neg (by simp only [List.length_cons]; omega)]
    have := h (j + 1) (by simp only [List.length_cons]; omega)
    simp only [List.length_cons, List.getElem_cons_succ] at this ⊢
    exact this
theorem rq_sk_pop {a : Nat} {x : Int} {st : List Int} {mm : rt_M} (h : rq_sk a (x :: st) mm) : rq_sk a st mm ∧ mm a st.length = x := by
  constructor
  · intro j hj
    have := h (j + 1) (by simp only [List.length_cons]; omega)
    simp only [List.length_cons, List.getElem_cons_succ] at this
    rw [show st.length - 1 - j = st.length + 1 - 1 - (j + 1) by omega]
    exact this
  · have := h 0 (by simp)
    simp only [List.length_cons, List.getElem_cons_zero] at this
    exact this
theorem q_worth_step {L : Nat} (hL : L = 81 ∨ L = 84 ∨ L = 105 ∨ L = 108) {cs : List Int} {a b c v : Int} {mm : rt_M} (hs : rq_st mm) (h5 : mm L 5 = (cs.length : Int)) (hl : cs.length ≤ 1000) (hcs : ∀ i (h : i < cs.length), mm (L + 1) i = cs[i]) {i : Nat} (hi : i < cs.length) {st : List Int} (hst24 : st.length ≤ 24) (ev : rq_ev a b c (cs.drop i) st = some [v]) (hst : rq_sk (L + 2) st mm) :
    ∃ st' m', st'.length ≤ 24 ∧ b_X2_worth_6 L a b c ((st.length : Int), (i : Int), mm) = some (.inl ((st'.length : Int), ((i + 1 : Nat) : Int), m')) ∧ rq_ev a b c (cs.drop (i + 1)) st' = some [v] ∧ rq_sk (L + 2) st' m' ∧ rq_fr (fun k _ => k == L + 2) mm m' := by
  obtain ⟨kL, p3, p4, k1, l1, k2, l2⟩ := q_law L hL
  rw [List.drop_eq_getElem_cons hi] at ev
  unfold rq_ev at ev
  generalize hsx : cs[i] = s at ev
  unfold b_X2_worth_6
  dsimp only
  rw [q_gf2 hL, Option.bind_some, h5, if_neg (by omega), q_gf2 hL, Option.bind_some, q_pt hs p3, q_al k1 l1 (by omega), Option.bind_some, hcs i hi, hsx]
  have g4 : rt_gf 2 4 (L : Int) mm = some ((L + 2 : Nat) : Int) := by rw [q_gf2 hL, q_pt hs p4]
  have n1 : rt_iadd (i : Int) 1 = ((i + 1 : Nat) : Int) := rq_n1 (by omega)
  by_cases h3 : -3 ≤ s
  · rw [if_pos h3] at ev
    by_cases h24 : st.length < 24
    · rw [if_pos h24] at ev
      rw [if_neg (by omega), g4, Option.bind_some, q_len k2, Option.bind_some, l2, if_neg (by omega), Option.bind_some]
      have key : ∀ x, j_X2_worth_79_6 L a b c st.length i ((L + 2 : Nat) : Int) st.length x mm = some (.inl (((x :: st).length : Int), ((i + 1 : Nat) : Int), rt_up mm (L + 2) st.length x)) := by
        intro x
        unfold j_X2_worth_79_6 j_X2_worth_174_6
        rw [q_sa k2 l2 (by omega), Option.bind_some, n1, rq_n1 (by omega)]
        rfl
      refine ⟨_, _, ?_, ?_, ev, rq_sk_push hst, (rq_fr.rfl).up (by simp)⟩
      · simp only [List.length_cons]; omega
      · rw [key, key, key, key]
        by_cases q0 : s < 0
        · rw [if_pos q0, if_neg (show ¬ 0 ≤ s by omega)]
          by_cases q1 : s = -1
          · rw [if_pos q1, if_pos q1]
          · rw [if_neg q1, if_neg q1]
            by_cases q2 : s = -2
            · rw [if_pos q2, if_pos q2]
            · rw [if_neg q2, if_neg q2]
        · rw [if_neg q0, if_pos (show 0 ≤ s by omega)]
    · rw [if_neg h24] at ev; cases ev
  · rw [if_neg h3] at ev
    rw [if_pos (show s < -3 by omega)]
    unfold j_X2_worth_86_6
    by_cases h4 : s = -4
    · rw [if_pos h4] at ev
      rw [if_pos h4]
      cases st with
      | nil => cases ev
      | cons x r =>
        obtain ⟨sk1, sk2⟩ := rq_sk_pop hst
        simp only [List.length_cons] at hst24
        have e1 : rt_isub (((x :: r).length : Nat) : Int) 1 = ((r.length : Nat) : Int) := by rw [rq_isub (by simp only [List.length_cons]; omega) (by simp only [List.length_cons]; omega)]; simp only [List.length_cons]; omega
        have key : ∀ y, j_X2_worth_124_6 L a b c ((x :: r).length : Nat) i ((L + 2 : Nat) : Int) ((r.length : Nat) : Int) y mm = some (.inl (((y :: r).length : Int), ((i + 1 : Nat) : Int), rt_up mm (L + 2) r.length y)) := by
          intro y
          unfold j_X2_worth_124_6 j_X2_worth_174_6
          rw [q_sa k2 l2 (by omega), Option.bind_some, n1]
          rfl
        rw [if_neg (by simp only [List.length_cons]; omega), g4, Option.bind_some, Option.bind_some, e1, q_al k2 l2 (by omega), Option.bind_some, sk2, key, key]
        refine ⟨_, _, ?_, ?_, ev, rq_sk_set hst, (rq_fr.rfl).up (by simp)⟩
        · simp only [List.length_cons]; omega
        · by_cases q : x = 0
          · rw [if_pos q, if_pos q]
          · rw [if_neg q, if_neg q]
    · rw [if_neg h4] at ev
      rw [if_neg h4]
      unfold j_X2_worth_128_6
      match st, ev, hst, hst24 with
      | [], ev, _, _ => cases ev
      | [x], ev, _, _ => cases ev
      | x :: y :: r, ev, hst, hst24 =>
        obtain ⟨sk1, sk2⟩ := rq_sk_pop hst
        obtain ⟨sk3, sk4⟩ := rq_sk_pop sk1
        simp only [List.length_cons] at hst24
        have e1 : rt_iadd (((x :: y :: r).length : Nat) : Int) (-1) = (((y :: r).length : Nat) : Int) := by rw [rq_iadd (by simp only [List.length_cons]; omega) (by simp only [List.length_cons]; omega)]; simp only [List.length_cons]; omega
        have e2 : rt_isub (((y :: r).length : Nat) : Int) 1 = ((r.length : Nat) : Int) := by rw [rq_isub (by simp only [List.length_cons]; omega) (by simp only [List.length_cons]; omega)]; simp only [List.length_cons]; omega
        rw [if_neg (by omega), if_neg (by simp only [List.length_cons]; omega), g4, Option.bind_some, Option.bind_some, e1, e2, q_al k2 l2 (by omega), Option.bind_some, Option.bind_some, q_al k2 l2 (by simp only [List.length_cons]; omega), Option.bind_some, sk2, sk4, q_joined, Option.bind_some, q_sa k2 l2 (by omega), Option.bind_some]
        refine ⟨rq_jn s y x :: r, rt_up mm (L + 2) r.length (rq_jn s y x), ?_, ?_, ev, rq_sk_set sk1, (rq_fr.rfl).up (by simp)⟩
        · simp only [List.length_cons]; omega
        · unfold j_X2_worth_174_6
          rw [n1]
          rfl
theorem q_worth {L : Nat} (hL : L = 81 ∨ L = 84 ∨ L = 105 ∨ L = 108) {cs : List Int} {a b c v : Int} (hs : rq_st m) (h5 : m L 5 = (cs.length : Int)) (hl : cs.length ≤ 1000) (hcs : ∀ i (h : i < cs.length), m (L + 1) i = cs[i]) (ev : rq_ev a b c cs [] = some [v]) :
    rq (f_X2_worth L a b c m) (fun p => p.1 = v ∧ rq_fr rq_wE m p.2) := by
  obtain ⟨kL, p3, p4, k1, l1, k2, l2⟩ := q_law L hL
  have fw : ∀ {m' : rt_M}, rq_fr (fun k _ => k == L + 2) m m' → rq_fr rq_wE m m' := fun h => h.mono (fun k j q => by
    unfold rq_wE at q
    simp only [Bool.or_eq_false_iff, beq_eq_false_iff_ne] at q
    simp only [beq_eq_false_iff_ne]
    rcases hL with rfl | rfl | rfl | rfl <;> omega)
  unfold f_X2_worth
  refine rq_call (rq_up (Q := fun e => rq_fr (fun k _ => k == L + 2) m e ∧ e (L + 2) 0 = v) (fun i s => s.2.1 = (i : Int) ∧ rq_fr (fun k _ => k == L + 2) m s.2.2 ∧ ∃ st : List Int, st.length ≤ 24 ∧ s.1 = (st.length : Int) ∧ rq_ev a b c (cs.drop i) st = some [v] ∧ rq_sk (L + 2) st s.2.2) cs.length (by omega) ?_ ?_ ⟨rfl, rq_fr.rfl, [], by decide, rfl, ev, fun j h => absurd h (Nat.not_lt_zero _)⟩) ?_
  · rintro i ⟨top, k, mm⟩ hi ⟨e1, hf, st, h24, e2, hev, hst⟩
    dsimp only at e1 hf e2 hst
    subst e1 e2
    obtain ⟨st', m', w1, w2, w3, w4, w5⟩ := q_worth_step hL (rq_st_fr hs (fw hf) (by decide +kernel)) (by rw [hf L 5 (by simp)]; exact h5) hl (fun j h => by rw [hf (L + 1) j (by simp)]; exact hcs j h) hi h24 hev hst
    rw [w2]
    exact rq_some.mpr (rq_inl ⟨rfl, hf.trans w5, st', w1, rfl, w3, w4⟩)
  · rintro ⟨top, k, mm⟩ ⟨e1, hf, st, h24, e2, hev, hst⟩
    dsimp only at e1 hf e2 hst
    subst e1 e2
    unfold b_X2_worth_6
    dsimp only
    rw [q_gf2 hL, Option.bind_some, hf L 5 (by simp), h5, if_pos (by omega)]
    rw [List.drop_length] at hev
    unfold rq_ev at hev
    cases hev
    exact rq_some.mpr (rq_inre ⟨hf, hst 0 Nat.zero_lt_one⟩)
  · rintro m1 ⟨hf, e⟩
    have hs1 := rq_st_fr hs (fw hf) (by decide +kernel)
    rw [q_gf2 hL, Option.bind_some, q_pt hs1 p4, show (0 : Int) = ((0 : Nat) : Int) from rfl, q_al k2 l2 (by decide), Option.bind_some]
    exact rq_some.mpr ⟨e, fw hf⟩
end
section
variable {r : Nat} {ρ : rq_R} {m : rt_M}
theorem q_girth (h : rq_C r ρ m) {k t : Nat} (hk : (k : Int) < ρ.1 0 1) (ht : t < 1000000) : rq (f_X4_girth r k t m) (fun p => p.1 = rq_gi ρ k t ∧ rq_fr rq_wE m p.2) := by
  have hvh := h.2.2.1.2.2.1 k hk
  have hhb := rq_ht_b h.2.2.1 t
  have t4 : rt_idiv (t : Int) 4 = ((t / 4 : Nat) : Int) := by rw [rq_idiv (by omega) (by omega) (by decide) (by decide)]; omega
  have tb : t / 4 < 250000 := by omega
  obtain ⟨o1, o2, o3, o4, o5, o6, o7, -, -, -, -, -, -, -, -, -, -, k18, k21, -⟩ := q_sh_o r h.2.1
  have hL : (r + 18) = 81 ∨ (r + 18) = 84 ∨ (r + 18) = 105 ∨ (r + 18) = 108 := by rcases h.2.1 with rfl | rfl <;> omega
  have fin : ∀ {m1 : rt_M} (x : Int), rq_C r ρ m1 → rq_fr rq_wE m m1 → x = ρ.2.1 (rq_ht ρ t) (ρ.1 6 k + ((t / 4 : Nat) : Int)) (ρ.1 4 k) → rq (j_X4_girth_66 r k (ρ.1 4 k) ((t / 4 : Nat) : Int) x m1) (fun p => p.1 = rq_gi ρ k t ∧ rq_fr rq_wE m p.2) := by
    intro m1 x h1 hf hx
    unfold j_X4_girth_66 rq_gi
    rw [q_head1 h1 hk, Option.bind_some, q_min, Option.bind_some, q_max, Option.bind_some, ← hx]
    have hb := rq_cl_b x
    have hcl : (if (-9 : Int) < (if x < 9 then x else 9) then (if x < 9 then x else 9) else -9) = rq_cl x := rfl
    rw [hcl]
    rw [rq_iadd (x := ρ.1 5 k) (y := rq_cl x) (by omega) (by omega)]
    unfold j_X4_girth_114
    by_cases q3 : ρ.1 4 k = 3
    · rw [if_pos q3, if_pos q3, if_neg (by omega), rq_iadd (by omega) (by omega)]
      exact rq_some.mpr ⟨by omega, hf⟩
    · rw [if_neg q3, if_neg q3]
      by_cases q2 : ρ.1 4 k = 2
      · rw [if_pos q2, if_pos q2, rq_isub (by omega) (by omega)]
        exact rq_some.mpr ⟨by omega, hf⟩
      · rw [if_neg q2, if_neg q2]
        exact rq_some.mpr ⟨by omega, hf⟩
  have mid : ∀ x : Int, x = rq_dsw (rq_ht ρ t) (ρ.1 6 k + ((t / 4 : Nat) : Int)) (ρ.1 4 k) → rq (j_X4_girth_33 r k (ρ.1 4 k) (rq_ht ρ t) ((t / 4 : Nat) : Int) x m) (fun p => p.1 = rq_gi ρ k t ∧ rq_fr rq_wE m p.2) := by
    intro x hx
    unfold j_X4_girth_33
    rw [q_gf4 h, Option.bind_some, q_pt h.1 o6, q_gf2 hL, Option.bind_some]
    rcases h.2.2.2.2.2.2.2.1 with ⟨e6, hF⟩ | ⟨e6, cs, e5, hl, hcs, hev⟩
    · rw [e6, if_pos rfl]
      exact fin x h rq_fr.rfl (by rw [hx, hF])
    · rw [e6, if_neg (by decide), Option.bind_some, q_head2 h hk, Option.bind_some, rq_iadd (by omega) (by omega)]
      have hkd : rt_kd ((r + 18 : Nat) : Int).toNat = 20 + 2 := k18
      unfold rt_gd
      rw [if_pos hkd]
      refine rq_call (q_worth hL h.1 e5 hl hcs (hev _ _ _ (by unfold rq_i; omega) (by unfold rq_i; omega) (by unfold rq_i; omega))) ?_
      rintro ⟨y, m1⟩ ⟨rfl, hf⟩
      exact fin _ (rq_C_wE h hf) hf rfl
  unfold f_X4_girth
  rw [q_head0 h hk, Option.bind_some, q_heatOf h (by omega), Option.bind_some, t4]
  by_cases q1 : ρ.1 4 k = 1
  · rw [if_pos q1]
    exact mid _ (by unfold rq_dsw; rw [if_pos q1])
  · rw [if_neg q1]
    exact mid _ (by unfold rq_dsw; rw [if_neg q1])
theorem q_isFit (h : rq_C r ρ m) {w k t : Nat} (hw : (w : Int) < ρ.1 0 0) (hk : (k : Int) < ρ.1 0 1) (ht : t < 1000000) : rq (f_X4_isFit r w k t m) (fun p => p.1 = rq_fi ρ w k t ∧ rq_fr rq_wE m p.2) := by
  have hvw := h.2.2.1.2.1 w hw
  have hg := rq_gi_b h.2.2.1 hk ht
  unfold f_X4_isFit
  rw [q_sizeOfWig h hw, Option.bind_some]
  refine rq_call (q_girth h hk ht) ?_
  rintro ⟨g, m1⟩ ⟨rfl, hf⟩
  dsimp only
  rw [q_isTilt (rq_C_wE h hf), Option.bind_some, rq_isub (by omega) (by omega)]
  unfold rq_fi rq_ti
  refine rq_bind.mpr (rq_bz.mpr ⟨?_, rq_some.mpr ⟨rfl, hf⟩⟩)
  split
  · exact Or.inr rfl
  · exact Or.inl rfl
theorem q_isFor (h : rq_C r ρ m) {lean hard : Int} (hl : 0 ≤ lean ∧ lean ≤ 9) (hh : 0 ≤ hard ∧ hard ≤ 9) {k : Nat} (hk : (k : Int) < ρ.1 0 1) : rq (f_X4_isFor r lean k hard m) (fun p => p.1 = rq_jf ρ lean k hard ∧ rq_fr rq_wE m p.2) := by
  have hvh := h.2.2.1.2.2.1 k hk
  obtain ⟨o1, o2, o3, o4, o5, o6, o7, -, -, -, -, -, -, -, -, -, -, k18, k21, -⟩ := q_sh_o r h.2.1
  have hL : (r + 21) = 81 ∨ (r + 21) = 84 ∨ (r + 21) = 105 ∨ (r + 21) = 108 := by rcases h.2.1 with rfl | rfl <;> omega
  unfold f_X4_isFor
  rw [q_head3 h hk, Option.bind_some, q_gf4 h, Option.bind_some, q_pt h.1 o7, q_gf2 hL, Option.bind_some]
  unfold j_X4_isFor_56 rq_jf
  rcases h.2.2.2.2.2.2.2.2 with ⟨e6, hF⟩ | ⟨e6, cs, e5, hl2, hcs, hev⟩
  · rw [e6, if_pos rfl, hF]
    unfold rq_dju
    by_cases q : rt_imul (ρ.1 7 k) 9 ≤ rt_imul lean hard
    · rw [if_pos q, if_pos q, if_pos rfl]; exact rq_some.mpr ⟨rfl, rq_fr.rfl⟩
    · rw [if_neg q, if_neg q, if_neg (by decide)]; exact rq_some.mpr ⟨rfl, rq_fr.rfl⟩
  · rw [e6, if_neg (by decide), Option.bind_some]
    have hkd : rt_kd ((r + 21 : Nat) : Int).toNat = 20 + 2 := k21
    unfold rt_gd
    rw [if_pos hkd]
    refine rq_call (q_worth hL h.1 e5 hl2 hcs (hev lean (ρ.1 7 k) hard (by unfold rq_i; omega) (by unfold rq_i; omega) (by unfold rq_i; omega))) ?_
    rintro ⟨y, m1⟩ ⟨rfl, hf⟩
    dsimp only
    by_cases q : ρ.2.2 lean (ρ.1 7 k) hard = 0
    · rw [if_pos q, if_pos q]; exact rq_some.mpr ⟨rfl, hf⟩
    · rw [if_neg q, if_neg q]; exact rq_some.mpr ⟨rfl, hf⟩
end
