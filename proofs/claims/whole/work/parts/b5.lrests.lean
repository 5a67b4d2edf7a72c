/-! Layer 3: rests, horsehair: class and reference -/
def rq_ga (w c x y : Int) : Int := (if y < x then w else 0) - c * x
theorem rq_ga_eq {w c : Int} (hw : 0 ≤ w ∧ w ≤ 9) (hc : 0 ≤ c ∧ c ≤ 9) {x y : Int} (hx : 0 ≤ x ∧ x ≤ 5) : rt_isub (if y ≤ x ∧ ¬ y = x then w else 0) (rt_imul c x) = rq_ga w c x y ∧ rt_isub 0 (rt_imul c x) = 0 - c * x ∧ rt_isub w (rt_imul c x) = w - c * x := by
  have h1 : c * x ≤ 9 * 5 := Int.mul_le_mul hc.2 hx.2 hx.1 (by decide)
  have h0 : 0 ≤ c * x := Int.mul_nonneg hc.1 hx.1
  have e := rq_imul (x := c) (y := x) (by omega) (by omega)
  rw [e]
  refine ⟨?_, rq_isub (by omega) (by omega), rq_isub (by omega) (by omega)⟩
  unfold rq_ga
  by_cases z : y < x
  · rw [if_pos z, if_pos (by omega), rq_isub (by omega) (by omega)]
  · rw [if_neg z, if_neg (by omega), rq_isub (by omega) (by omega)]
theorem q_gain {w c : Int} (hw : 0 ≤ w ∧ w ≤ 9) (hc : 0 ≤ c ∧ c ≤ 9) {x : Int} (hx : 0 ≤ x ∧ x ≤ 5) (y : Int) (m : rt_M) : f_X11_gainOf w c x y m = some (rq_ga w c x y) := by
  obtain ⟨-, e2, e3⟩ := rq_ga_eq hw hc (y := y) hx
  unfold f_X11_gainOf j_X11_gainOf_10 rq_ga
  by_cases z : y < x
  · rw [if_neg (by omega), e3, if_pos z]
  · rw [if_pos (by omega), e2, if_neg z]
theorem q_rgain {w c : Int} (hw : 0 ≤ w ∧ w ≤ 9) (hc : 0 ≤ c ∧ c ≤ 9) {x : Int} (hx : 0 ≤ x ∧ x ≤ 5) (y : Int) (m : rt_M) : f_X12_getsBy w c x y m = some (rq_ga w c x y) := by
  obtain ⟨-, e2, e3⟩ := rq_ga_eq hw hc (y := y) hx
  unfold f_X12_getsBy j_X12_getsBy_10 rq_ga
  by_cases z : y < x
  · rw [if_neg (by omega), e3, if_pos z]
  · rw [if_pos (by omega), e2, if_neg z]
/-- no other number of pieces gains more against b than a -/
def rq_be (w c a b : Int) : Bool := (List.range 6).all (fun p => decide (rq_ga w c (p : Int) b ≤ rq_ga w c a b))
theorem rq_be_iff {w c a b : Int} : rq_be w c a b = true ↔ ∀ p : Nat, p < 6 → rq_ga w c (p : Int) b ≤ rq_ga w c a b := by
  unfold rq_be
  rw [List.all_eq_true]
  exact ⟨fun h p hp => of_decide_eq_true (h p (List.mem_range.mpr hp)), fun h p hp => decide_eq_true (h p (List.mem_range.mp hp))⟩
theorem q_isBest {w c : Int} (hw : 0 ≤ w ∧ w ≤ 9) (hc : 0 ≤ c ∧ c ≤ 9) {a : Int} (ha : 0 ≤ a ∧ a ≤ 5) (b : Int) (m : rt_M) : f_X11_isBest w c a b m = some (if rq_be w c a b = true then 1 else 0) := by
  refine rq_of ?_
  unfold f_X11_isBest
  rw [q_gain hw hc ha, Option.bind_some]
  refine rq_call (Q := fun e => (e = .inl () ∧ rq_be w c a b = true) ∨ (e = .inr 0 ∧ ¬ rq_be w c a b = true)) (rq_up (fun j s => s = (j : Int) ∧ ∀ p : Nat, p < j → rq_ga w c (p : Int) b ≤ rq_ga w c a b) 6 (by decide) ?_ ?_ ⟨rfl, fun p hp => absurd hp (Nat.not_lt_zero p)⟩) ?_
  · rintro j s hj ⟨rfl, hp⟩
    unfold b_X11_isBest_12
    rw [if_neg (by omega), q_gain hw hc ⟨by omega, by omega⟩, Option.bind_some]
    by_cases z : rq_ga w c (j : Int) b ≤ rq_ga w c a b
    · rw [if_pos z, rq_n1 (by omega)]
      refine rq_some.mpr (rq_inl ⟨rfl, fun p h => ?_⟩)
      by_cases e : p = j
      · rw [e]; exact z
      · exact hp p (by omega)
    · rw [if_neg z]
      refine rq_some.mpr (rq_inr (Or.inr ⟨rfl, fun q => z (rq_be_iff.mp q j hj)⟩))
  · rintro s ⟨rfl, hp⟩
    unfold b_X11_isBest_12
    rw [if_pos (by decide)]
    exact rq_some.mpr (rq_inre (Or.inl ⟨rfl, rq_be_iff.mpr hp⟩))
  · rintro e (⟨rfl, h⟩ | ⟨rfl, h⟩)
    · rw [if_pos h]; exact rq_some.mpr rfl
    · rw [if_neg h]; exact rq_some.mpr rfl
theorem q_isRest {w c : Int} (hw : 0 ≤ w ∧ w ≤ 9) (hc : 0 ≤ c ∧ c ≤ 9) {a b : Int} (ha : 0 ≤ a ∧ a ≤ 5) (hb : 0 ≤ b ∧ b ≤ 5) (m : rt_M) : f_X12_isRest w c a b m = some (if (rq_be w c a b && rq_be w c b a) = true then 1 else 0) := by
  refine rq_of ?_
  unfold f_X12_isRest
  refine rq_call (Q := fun e => (e = .inl () ∧ (rq_be w c a b && rq_be w c b a) = true) ∨ (e = .inr 0 ∧ ¬ (rq_be w c a b && rq_be w c b a) = true)) (rq_up (fun j s => s = (j : Int) ∧ ∀ p : Nat, p < j → rq_ga w c (p : Int) b ≤ rq_ga w c a b ∧ rq_ga w c (p : Int) a ≤ rq_ga w c b a) 6 (by decide) ?_ ?_ ⟨rfl, fun p hp => absurd hp (Nat.not_lt_zero p)⟩) ?_
  · rintro j s hj ⟨rfl, hp⟩
    unfold b_X12_isRest_3 j_X12_isRest_46
    rw [if_neg (by omega), q_rgain hw hc ⟨by omega, by omega⟩, Option.bind_some, q_rgain hw hc ha, Option.bind_some]
    by_cases z : rq_ga w c (j : Int) b ≤ rq_ga w c a b
    · rw [if_neg (by omega), q_rgain hw hc ⟨by omega, by omega⟩, Option.bind_some, q_rgain hw hc hb, Option.bind_some]
      by_cases z2 : rq_ga w c (j : Int) a ≤ rq_ga w c b a
      · rw [if_pos z2, rq_n1 (by omega)]
        refine rq_some.mpr (rq_inl ⟨rfl, fun p h => ?_⟩)
        by_cases e : p = j
        · rw [e]; exact ⟨z, z2⟩
        · exact hp p (by omega)
      · rw [if_neg z2]
        refine rq_some.mpr (rq_inr (Or.inr ⟨rfl, fun q => z2 ?_⟩))
        rw [Bool.and_eq_true] at q
        exact rq_be_iff.mp q.2 j hj
    · rw [if_pos (by omega)]
      refine rq_some.mpr (rq_inr (Or.inr ⟨rfl, fun q => z ?_⟩))
      rw [Bool.and_eq_true] at q
      exact rq_be_iff.mp q.1 j hj
  · rintro s ⟨rfl, hp⟩
    unfold b_X12_isRest_3
    rw [if_pos (by decide)]
    refine rq_some.mpr (rq_inre (Or.inl ⟨rfl, ?_⟩))
    rw [Bool.and_eq_true]
    exact ⟨rq_be_iff.mpr (fun p h => (hp p h).1), rq_be_iff.mpr (fun p h => (hp p h).2)⟩
  · rintro e (⟨rfl, h⟩ | ⟨rfl, h⟩)
    · rw [if_pos h]; exact rq_some.mpr rfl
    · rw [if_neg h]; exact rq_some.mpr rfl
/-- the pair of number k is at rest; how many are, ahead of n; the pair that is asked for -/
def rq_pr (w c : Int) (k : Nat) : Bool := rq_be w c ((k / 6 : Nat) : Int) ((k % 6 : Nat) : Int) && rq_be w c ((k % 6 : Nat) : Int) ((k / 6 : Nat) : Int)
def rq_cnt (w c : Int) (n : Nat) : Int := rq_sum (fun k => if rq_pr w c k = true then 1 else 0) n
theorem rq_cnt_b (w c : Int) (n : Nat) : 0 ≤ rq_cnt w c n ∧ rq_cnt w c n ≤ n := by
  have := rq_sum_b (f := fun k => if rq_pr w c k = true then 1 else 0) (c := 1) (by decide) n (fun i _ => by
    split <;> decide)
  unfold rq_cnt
  omega
def rq_fk (w c what : Int) (k : Nat) : Prop := rq_pr w c k = true ∧ rq_cnt w c k = what
def rq_rv2 (k : Nat) : Int := 10 * ((k / 6 : Nat) : Int) + ((k % 6 : Nat) : Int)
/-- what is found: the first such pair, or how many there are -/
def rq_rs (w c what : Int) (t : Int ⊕ Int) : Prop := (∃ k, k < 36 ∧ rq_fk w c what k ∧ (∀ j, j < k → ¬ rq_fk w c what j) ∧ t = .inl (rq_rv2 k)) ∨ ((∀ j, j < 36 → ¬ rq_fk w c what j) ∧ t = .inr (rq_cnt w c 36))
theorem rq_rs_u {w c what : Int} {t t' : Int ⊕ Int} (h : rq_rs w c what t) (h' : rq_rs w c what t') : t = t' := by
  rcases h with ⟨k, hk, hf, hn, rfl⟩ | ⟨hn, rfl⟩
  · rcases h' with ⟨k', hk', hf', hn', rfl⟩ | ⟨hn', rfl⟩
    · rcases Nat.lt_trichotomy k k' with z | z | z
      · exact absurd hf (hn' k z)
      · rw [z]
      · exact absurd hf' (hn k' z)
    · exact absurd hf (hn' k hk)
  · rcases h' with ⟨k', hk', hf', hn', rfl⟩ | ⟨hn', rfl⟩
    · exact absurd hf' (hn k' hk')
    · rfl
theorem rq_no_s {w c what : Int} {k : Nat} (h : ∀ j, j < k → ¬ rq_fk w c what j) (z : ¬ rq_fk w c what k) : ∀ j, j < k + 1 → ¬ rq_fk w c what j := fun j hj => by
  by_cases e : j = k
  · rw [e]; exact z
  · exact h j (by omega)
theorem q_crest1 {w c : Int} (hw : 0 ≤ w ∧ w ≤ 9) (hc : 0 ≤ c ∧ c ≤ 9) (what : Int) {i : Nat} (hi : i < 6) (hno : ∀ j, j < 6 * i → ¬ rq_fk w c what j) (m : rt_M) : rq (rt_it (b_X11_rests_51 w c what (i : Int) m) 4000 (rq_cnt w c (6 * i), 0)) (fun e => (∃ k, k < 36 ∧ rq_fk w c what k ∧ (∀ j, j < k → ¬ rq_fk w c what j) ∧ e = .inr (.inr (.inr (.inl (rq_rv2 k))))) ∨ ((∀ j, j < 6 * (i + 1) → ¬ rq_fk w c what j) ∧ e = .inl (rq_cnt w c (6 * (i + 1))))) := by
  refine rq_up (fun j s => s.2 = (j : Int) ∧ s.1 = rq_cnt w c (6 * i + j) ∧ ∀ k, k < 6 * i + j → ¬ rq_fk w c what k) 6 (by decide) ?_ ?_ ⟨rfl, rfl, hno⟩
  · rintro j ⟨x, y⟩ hj ⟨e1, e2, hn⟩
    dsimp only at e1 e2
    subst e1 e2
    have d1 : (6 * i + j) / 6 = i := by omega
    have d2 : (6 * i + j) % 6 = j := by omega
    have hp : rq_pr w c (6 * i + j) = (rq_be w c (i : Int) (j : Int) && rq_be w c (j : Int) (i : Int)) := by unfold rq_pr; rw [d1, d2]
    have hs : rq_cnt w c (6 * i + (j + 1)) = rq_cnt w c (6 * i + j) + (if rq_pr w c (6 * i + j) = true then 1 else 0) := rfl
    have hb := rq_cnt_b w c (6 * i + j)
    unfold b_X11_rests_51 j_X11_rests_99_51
    dsimp only
    rw [if_neg (by omega), q_isBest hw hc ⟨by omega, by omega⟩, Option.bind_some]
    by_cases z1 : rq_be w c (i : Int) (j : Int) = true
    · rw [if_pos z1, if_neg (by decide), q_isBest hw hc ⟨by omega, by omega⟩, Option.bind_some]
      by_cases z2 : rq_be w c (j : Int) (i : Int) = true
      · have hp1 : rq_pr w c (6 * i + j) = true := by rw [hp, z1, z2]; rfl
        rw [if_pos z2, if_neg (by decide)]
        by_cases z3 : rq_cnt w c (6 * i + j) = what
        · rw [if_pos z3]
          refine rq_some.mpr (rq_inr (Or.inl ⟨6 * i + j, by omega, ⟨hp1, z3⟩, hn, ?_⟩))
          have ev : rt_iadd (rt_imul 10 (i : Int)) (j : Int) = rq_rv2 (6 * i + j) := by
            unfold rq_rv2
            rw [d1, d2, rq_imul (by omega) (by omega), rq_iadd (by omega) (by omega)]
          rw [ev]
        · rw [if_neg z3, rq_n1 (by omega), rq_iadd (by omega) (by omega)]
          rw [if_pos hp1] at hs
          exact rq_some.mpr (rq_inl ⟨rfl, hs.symm, rq_no_s hn (fun q => z3 q.2)⟩)
      · have hp0 : ¬ rq_pr w c (6 * i + j) = true := by rw [hp, z1]; simpa using z2
        rw [if_neg z2, if_pos rfl, rq_n1 (by omega)]
        rw [if_neg hp0, Int.add_zero] at hs
        exact rq_some.mpr (rq_inl ⟨rfl, hs.symm, rq_no_s hn (fun q => hp0 q.1)⟩)
    · have hp0 : ¬ rq_pr w c (6 * i + j) = true := by rw [hp]; intro q; rw [Bool.and_eq_true] at q; exact z1 q.1
      rw [if_neg z1, if_pos rfl, rq_n1 (by omega)]
      rw [if_neg hp0, Int.add_zero] at hs
      exact rq_some.mpr (rq_inl ⟨rfl, hs.symm, rq_no_s hn (fun q => hp0 q.1)⟩)
  · rintro ⟨x, y⟩ ⟨e1, e2, hn⟩
    dsimp only at e1 e2
    subst e1 e2
    unfold b_X11_rests_51
    dsimp only
    rw [if_pos (by decide)]
    exact rq_some.mpr (rq_inre (Or.inr ⟨hn, rfl⟩))
theorem q_crest {w c : Int} (hw : 0 ≤ w ∧ w ≤ 9) (hc : 0 ≤ c ∧ c ≤ 9) (what : Int) (m : rt_M) : rq (rt_it (b_X11_rests_42 w c what m) 4000 (0, 0)) (fun e => ∃ t, rq_rs w c what t ∧ e = (match t with
    | .inl v => .inr (.inl v)
    | .inr n => .inl n)) := by
  refine rq_up (fun i s => s.2 = (i : Int) ∧ s.1 = rq_cnt w c (6 * i) ∧ ∀ k, k < 6 * i → ¬ rq_fk w c what k) 6 (by decide) ?_ ?_ ⟨rfl, rfl, fun k hk => absurd hk (Nat.not_lt_zero k)⟩
  · rintro i ⟨x, y⟩ hi ⟨e1, e2, hn⟩
    dsimp only at e1 e2
    subst e1 e2
    unfold b_X11_rests_42
    dsimp only
    rw [if_neg (by omega)]
    refine rq_call (q_crest1 hw hc what hi hn m) ?_
    rintro e (⟨k, hk, hf, hn2, rfl⟩ | ⟨hn2, rfl⟩)
    · exact rq_some.mpr (rq_inr ⟨.inl (rq_rv2 k), Or.inl ⟨k, hk, hf, hn2, rfl⟩, rfl⟩)
    · dsimp only
      rw [rq_n1 (by omega)]
      exact rq_some.mpr (rq_inl ⟨rfl, rfl, hn2⟩)
  · rintro ⟨x, y⟩ ⟨e1, e2, hn⟩
    dsimp only at e1 e2
    subst e1 e2
    unfold b_X11_rests_42
    dsimp only
    rw [if_pos (by decide)]
    exact rq_some.mpr (rq_inre ⟨.inr (rq_cnt w c 36), Or.inr ⟨hn, rfl⟩, rfl⟩)
theorem q_rrest {w c : Int} (hw : 0 ≤ w ∧ w ≤ 9) (hc : 0 ≤ c ∧ c ≤ 9) (what x : Int) (m : rt_M) : rq (rt_it (b_X12_rests_50 x w c what) 4000 (0, 0, m)) (fun e => ∃ t, rq_rs w c what t ∧ e = (match t with
    | .inl v => .inr (v, m)
    | .inr n => .inl (n, m))) := by
  refine rq_up (fun k s => s.2.1 = (k : Int) ∧ s.1 = rq_cnt w c k ∧ s.2.2 = m ∧ ∀ j, j < k → ¬ rq_fk w c what j) 36 (by decide) ?_ ?_ ⟨rfl, rfl, rfl, fun k hk => absurd hk (Nat.not_lt_zero k)⟩
  · rintro k ⟨x1, y, mm⟩ hk ⟨e1, e2, e3, hn⟩
    dsimp only at e1 e2 e3
    subst e1 e2 e3
    have d1 : rt_idiv (k : Int) 6 = ((k / 6 : Nat) : Int) := by rw [rq_idiv (by omega) (by omega) (by decide) (by decide)]; omega
    have d2 : rt_irem (k : Int) 6 = ((k % 6 : Nat) : Int) := by rw [rq_irem (by omega) (by omega) (by decide) (by decide)]; omega
    have hs : rq_cnt w c (k + 1) = rq_cnt w c k + (if rq_pr w c k = true then 1 else 0) := rfl
    have hb := rq_cnt_b w c k
    unfold b_X12_rests_50 j_X12_rests_102_50
    dsimp only
    rw [if_neg (by omega), d1, d2, q_isRest hw hc ⟨by omega, by omega⟩ ⟨by omega, by omega⟩, Option.bind_some]
    by_cases z1 : rq_pr w c k = true
    · rw [show (if (rq_be w c ((k / 6 : Nat) : Int) ((k % 6 : Nat) : Int) && rq_be w c ((k % 6 : Nat) : Int) ((k / 6 : Nat) : Int)) = true then (1 : Int) else 0) = 1 from if_pos z1, if_neg (by decide)]
      by_cases z3 : rq_cnt w c k = what
      · rw [if_pos z3]
        have ev : rt_iadd (rt_imul 10 ((k / 6 : Nat) : Int)) ((k % 6 : Nat) : Int) = rq_rv2 k := by
          unfold rq_rv2
          rw [rq_imul (by omega) (by omega), rq_iadd (by omega) (by omega)]
        rw [ev]
        exact rq_some.mpr (rq_inr ⟨.inl (rq_rv2 k), Or.inl ⟨k, hk, ⟨z1, z3⟩, hn, rfl⟩, rfl⟩)
      · rw [if_neg z3, rq_n1 (by omega), rq_iadd (by omega) (by omega)]
        rw [if_pos z1] at hs
        exact rq_some.mpr (rq_inl ⟨rfl, hs.symm, rfl, rq_no_s hn (fun q => z3 q.2)⟩)
    · rw [show (if (rq_be w c ((k / 6 : Nat) : Int) ((k % 6 : Nat) : Int) && rq_be w c ((k % 6 : Nat) : Int) ((k / 6 : Nat) : Int)) = true then (1 : Int) else 0) = 0 from if_neg z1, if_pos rfl, rq_n1 (by omega)]
      rw [if_neg z1, Int.add_zero] at hs
      exact rq_some.mpr (rq_inl ⟨rfl, hs.symm, rfl, rq_no_s hn (fun q => z1 q.1)⟩)
  · rintro ⟨x1, y, mm⟩ ⟨e1, e2, e3, hn⟩
    dsimp only at e1 e2 e3
    subst e1 e2 e3
    unfold b_X12_rests_50
    dsimp only
    rw [if_pos (by decide)]
    exact rq_some.mpr (rq_inre ⟨.inr (rq_cnt w c 36), Or.inr ⟨hn, rfl⟩, rfl⟩)
/-- how the two ends belong together: the class's, the reference's -/
theorem rq_u300 (m : rt_M) (v : Int) : rt_up m 248 0 v 300 0 = m 300 0 := rt_up_ne _ _ (by decide)
def rq_xr (c : Nat) (m : rt_M) (t : Int ⊕ Unit) (q : Int × rt_M) : Prop := (∀ v, t = .inl v → q.1 = v ∧ q.2 248 0 = 0) ∧ (t = .inr () → q.2 248 0 = 1) ∧ rq_I (c + 1) q.2 ∧ q.2 300 0 = m 300 0
theorem rq_xr_l {c : Nat} {v : Int} {m m1 : rt_M} (h0 : m1 248 0 = 0) (h : rq_I (c + 1) m1) (h3 : m1 300 0 = m 300 0) : rq_xr c m (.inl v) (v, m1) := ⟨fun v' q => (by cases q; exact ⟨rfl, h0⟩), fun q => (by cases q), h, h3⟩
theorem rq_xr_r {c : Nat} {v : Int} {m m1 : rt_M} (h0 : m1 248 0 = 1) (h : rq_I (c + 1) m1) (h3 : m1 300 0 = m 300 0) : rq_xr c m (.inr ()) (v, m1) := ⟨fun v' q => (by cases q), fun _ => h0, h, h3⟩
theorem rq_I_up0 {c : Nat} {m : rt_M} (h : rq_I c m) (v : Int) : rq_I c (rt_up m 248 0 v) := by
  obtain ⟨r, ρ, A, hJ⟩ := h
  exact ⟨r, ρ, A, (q_upT hJ v).1⟩
theorem rq_I_s {c : Nat} {m : rt_M} (h : rq_I c m) : rq_I (c + 1) m := by
  obtain ⟨r, ρ, A, hJ⟩ := h
  exact ⟨r, ρ, A, rq_J_fr hJ rq_fr.rfl (Nat.le_succ c)⟩
theorem L_rests (a1 a2 a3 : Int) : ∃ t : Int ⊕ Unit, (∀ m, f_X11_rests 41 a1 a2 a3 m = some t) ∧ ∀ c m, rq_I c m → rq (f_X12_rests 248 a1 a2 a3 m) (rq_xr c m t) := by
  by_cases z : 0 ≤ a1 ∧ a1 ≤ 9 ∧ 0 ≤ a2 ∧ a2 ≤ 9 ∧ -1 ≤ a3
  · obtain ⟨z1, z2, z3, z4, z5⟩ := z
    obtain ⟨e0, he0, t, ht, he⟩ := q_crest ⟨z1, z2⟩ ⟨z3, z4⟩ a3 (fun _ _ => 0)
    refine ⟨(match t with
      | .inl v => .inl v
      | .inr n => if a3 = -1 then .inl n else .inr ()), fun m => ?_, fun c m hI => ?_⟩
    · obtain ⟨e1, he1, t1, ht1, he'⟩ := q_crest ⟨z1, z2⟩ ⟨z3, z4⟩ a3 m
      obtain rfl := rq_rs_u ht ht1
      unfold f_X11_rests
      rw [if_neg (by omega), if_neg (by omega), if_neg (by omega), if_neg (by omega), if_pos (by omega), he1, Option.bind_some, he']
      cases t with
      | inl v => rfl
      | inr n =>
        dsimp only
        split <;> rfl
    · unfold f_X12_rests j_X12_rests_31 j_X12_rests_119 j_X12_rests_133
      rw [q_withinT z1 z2, Option.bind_some, if_neg (by decide), q_withinT z3 z4, Option.bind_some, if_neg (by decide), if_neg (by omega)]
      rw [q_pfr, Option.bind_some, q_gfr, Option.bind_some, rq_upE, if_neg (by decide)]
      refine rq_call (q_rrest ⟨z1, z2⟩ ⟨z3, z4⟩ a3 248 _) ?_
      rintro e ⟨t1, ht1, rfl⟩
      obtain rfl := rq_rs_u ht ht1
      have hI0 := rq_I_s (rq_I_up0 hI 0)
      cases t with
      | inl v => exact rq_some.mpr (rq_xr_l (rq_upE _ _ _ _) hI0 (rq_u300 _ _))
      | inr n =>
        dsimp only
        by_cases z6 : a3 = -1
        · rw [if_pos z6, if_pos z6, q_pfr, Option.bind_some, if_pos z6]
          exact rq_some.mpr (rq_xr_l (rq_upE _ _ _ _) (rq_I_up0 hI0 _) ((rq_u300 _ _).trans (rq_u300 _ _)))
        · rw [if_neg z6, if_neg z6, q_pfr, Option.bind_some, if_neg z6]
          exact rq_some.mpr (rq_xr_r (rq_upE _ _ _ _) (rq_I_up0 hI0 _) ((rq_u300 _ _).trans (rq_u300 _ _)))
  · refine ⟨.inr (), fun m => ?_, fun c m hI => ?_⟩
    · unfold f_X11_rests j_X11_rests_25
      repeat' split
      all_goals first | rfl | omega
    · have k : ∀ s0 : Int, s0 = 248 → rq (j_X12_rests_30 248 a1 a2 a3 s0 m) (rq_xr c m (.inr ())) := by
        rintro s0 rfl
        unfold j_X12_rests_30 j_X12_rests_31
        rw [q_pfr, Option.bind_some, q_gfr, Option.bind_some, rq_upE, if_pos rfl]
        exact rq_some.mpr (rq_xr_r (rq_upE _ _ _ _) (rq_I_s (rq_I_up0 hI 1)) (rq_u300 _ _))
      unfold f_X12_rests
      rw [q_within, Option.bind_some]
      by_cases y1 : 0 ≤ a1 ∧ a1 ≤ 9
      · rw [if_pos y1, if_neg (by decide), q_within, Option.bind_some]
        by_cases y2 : 0 ≤ a2 ∧ a2 ≤ 9
        · rw [if_pos y2, if_neg (by decide), if_pos (by omega)]
          exact k _ rfl
        · rw [if_neg y2, if_pos rfl]
          exact k _ rfl
      · rw [if_neg y1, if_pos rfl]
        exact k _ rfl
/-! horsehair -/
def rq_pq (x : Int) : Nat → Int
  | 0 => 1
  | n + 1 => rq_pq x n * x
theorem rq_pq_b {x : Int} (h0 : 0 ≤ x) (h1 : x ≤ 100) : ∀ n, n ≤ 3 → 0 ≤ rq_pq x n ∧ rq_pq x n ≤ rq_pq 100 n := by
  intro n
  induction n with
  | zero => exact fun _ => ⟨show (0 : Int) ≤ 1 by decide, show (1 : Int) ≤ 1 by decide⟩
  | succ n ih =>
    intro hn
    obtain ⟨a, b⟩ := ih (by omega)
    exact ⟨Int.mul_nonneg a h0, Int.mul_le_mul b h1 h0 (Int.le_trans a b)⟩
theorem rq_pq_m {x : Int} (h0 : 0 ≤ x) (h1 : x ≤ 100) {n : Nat} (hn : n ≤ 3) : 0 ≤ rq_pq x n ∧ rq_pq x n ≤ 1000000 := by
  obtain ⟨a, b⟩ := rq_pq_b h0 h1 n hn
  refine ⟨a, Int.le_trans b ?_⟩
  have : n = 0 ∨ n = 1 ∨ n = 2 ∨ n = 3 := by omega
  rcases this with rfl | rfl | rfl | rfl <;> decide
theorem q_power0 {x : Int} (h0 : 0 ≤ x) (h1 : x ≤ 100) {n : Nat} (hn : n ≤ 3) (m : rt_M) : f_X12_power0 x (n : Int) m = some (rq_pq x n) := by
  refine rq_of ?_
  unfold f_X12_power0
  refine rq_call (Q := fun e => e = rq_pq x n) (rq_up (fun j s => s.2 = (j : Int) ∧ s.1 = rq_pq x j) n (by omega) ?_ ?_ ⟨rfl, rfl⟩) (fun e he => by rw [he]; exact rq_some.mpr rfl)
  · rintro j ⟨y, z⟩ hj ⟨e1, e2⟩
    dsimp only at e1 e2
    subst e1 e2
    obtain ⟨b0, b1⟩ := rq_pq_m h0 h1 (n := j) (by omega)
    have c0 := Int.mul_nonneg b0 h0
    have c1 : rq_pq x j * x ≤ 1000000 * 100 := Int.mul_le_mul b1 h1 h0 (by decide)
    unfold b_X12_power0_5
    dsimp only
    rw [if_neg (by omega), rq_n1 (by omega), rq_lmul (by omega) (by omega)]
    exact rq_some.mpr (rq_inl ⟨rfl, rfl⟩)
  · rintro ⟨y, z⟩ ⟨e1, e2⟩
    dsimp only at e1 e2
    subst e1 e2
    unfold b_X12_power0_5
    dsimp only
    rw [if_pos (Int.le_refl _)]
    exact rq_some.mpr (rq_inre rfl)
theorem q_hundred (v : Int) (m : rt_M) : f_X11_isOfHundred v m = some (if 0 ≤ v ∧ v ≤ 100 then 1 else 0) := by
  unfold f_X11_isOfHundred j_X11_isOfHundred_14 j_X11_isOfHundred_15
  by_cases z : 0 ≤ v ∧ v ≤ 100
  · rw [if_neg (by omega), if_neg (by omega), if_pos z]; rfl
  · rw [if_neg z]
    by_cases y : v < 0
    · rw [if_pos y]; rfl
    · rw [if_neg y, if_pos (by omega)]; rfl
theorem rq_mb {a x : Int} (ha : 0 ≤ a ∧ a ≤ 100) (hx : 0 ≤ x ∧ x ≤ 1000000) : 0 ≤ a * x ∧ a * x ≤ 100000000 := by
  have c1 : a * x ≤ 100 * 1000000 := Int.mul_le_mul ha.2 hx.2 hx.1 (by decide)
  exact ⟨Int.mul_nonneg ha.1 hx.1, c1⟩
theorem q_chair {a1 a2 a3 : Int} (h1 : 0 ≤ a1 ∧ a1 ≤ 100) (h2 : 0 ≤ a2 ∧ a2 ≤ 100) (h3 : 0 ≤ a3 ∧ a3 ≤ 100) {n : Nat} (hn : n ≤ 3) (m : rt_M) : rt_it (b_X11_horsehair_58 a2 a3 (n : Int) m) 4000 (a1, rt_isub 100 a1, 0) = some (a1 * rq_pq a2 n, (100 - a1) * rq_pq a3 n) := by
  refine rq_of ?_
  rw [rq_isub (by omega) (by omega)]
  refine rq_up (fun j s => s.2.2 = (j : Int) ∧ s.1 = a1 * rq_pq a2 j ∧ s.2.1 = (100 - a1) * rq_pq a3 j) n (by omega) ?_ ?_ ⟨rfl, (Int.mul_one a1).symm, (Int.mul_one (100 - a1)).symm⟩
  · rintro j ⟨x, y, z⟩ hj ⟨e1, e2, e3⟩
    dsimp only at e1 e2 e3
    subst e1 e2 e3
    have p1 : a1 * rq_pq a2 j * a2 = a1 * rq_pq a2 (j + 1) := Int.mul_assoc _ _ _
    have p2 : (100 - a1) * rq_pq a3 j * a3 = (100 - a1) * rq_pq a3 (j + 1) := Int.mul_assoc _ _ _
    obtain ⟨q1, q2⟩ := rq_mb h1 (rq_pq_m h2.1 h2.2 (n := j + 1) (by omega))
    obtain ⟨q3, q4⟩ := rq_mb (a := 100 - a1) ⟨by omega, by omega⟩ (rq_pq_m h3.1 h3.2 (n := j + 1) (by omega))
    unfold b_X11_horsehair_58
    dsimp only
    rw [if_neg (by omega), rq_n1 (by omega), rq_lmul (by rw [p1]; omega) (by rw [p1]; omega), rq_lmul (by rw [p2]; omega) (by rw [p2]; omega), p1, p2]
    exact rq_some.mpr (rq_inl ⟨rfl, rfl, rfl⟩)
  · rintro ⟨x, y, z⟩ ⟨e1, e2, e3⟩
    dsimp only at e1 e2 e3
    subst e1 e2 e3
    unfold b_X11_horsehair_58
    dsimp only
    rw [if_pos (Int.le_refl _)]
    exact rq_some.mpr (rq_inre rfl)
theorem L_horsehair (a1 a2 a3 a4 : Int) : ∃ t : Int ⊕ Unit, (∀ m, f_X11_horsehair 41 a1 a2 a3 a4 m = some t) ∧ ∀ c m, rq_I c m → rq (f_X12_horsehair 248 a1 a2 a3 a4 m) (rq_xr c m t) := by
  by_cases z : (0 ≤ a1 ∧ a1 ≤ 100) ∧ (0 ≤ a2 ∧ a2 ≤ 100) ∧ (0 ≤ a3 ∧ a3 ≤ 100) ∧ 1 ≤ a4 ∧ a4 ≤ 3
  · obtain ⟨z1, z2, z3, z4⟩ := z
    obtain ⟨n, rfl, hn⟩ : ∃ n : Nat, a4 = (n : Int) ∧ n ≤ 3 := ⟨a4.toNat, by omega, by omega⟩
    obtain ⟨b1, b2⟩ := rq_mb z1 (rq_pq_m z2.1 z2.2 hn)
    obtain ⟨b3, b4⟩ := rq_mb (a := 100 - a1) ⟨by omega, by omega⟩ (rq_pq_m z3.1 z3.2 hn)
    generalize hR : a1 * rq_pq a2 n = R at b1 b2
    generalize hW : (100 - a1) * rq_pq a3 n = W2 at b3 b4
    have ea : rt_ladd R W2 = R + W2 := rq_ladd (by omega) (by omega)
    have el : (0 < rt_lcmp (R + W2) 0) ↔ ¬ R + W2 = 0 := by
      have := rq_lcmp_le (x := R + W2) (y := 0) (by omega) (by omega) (by decide) (by decide)
      omega
    have el0 : rt_lcmp (R + W2) 0 = 0 ↔ R + W2 = 0 := rq_lcmp0 (by omega) (by omega) (by decide) (by decide)
    refine ⟨if R + W2 = 0 then .inr () else .inl (rt_l2i (rt_ldiv (rt_lmul R 1000000) (R + W2))), fun m => ?_, fun c m hI => ?_⟩
    · unfold f_X11_horsehair
      rw [q_hundred, Option.bind_some, if_pos z1, if_neg (by decide), q_hundred, Option.bind_some, if_pos z2, if_neg (by decide), q_hundred, Option.bind_some, if_pos z3, if_neg (by decide), if_neg (by omega), if_pos (by omega), q_chair z1 z2 z3 hn, Option.bind_some]
      dsimp only
      rw [hR, hW, ea]
      by_cases y : R + W2 = 0
      · rw [if_neg (by rw [el]; exact fun q => q y), if_pos y]
      · rw [if_pos (el.mpr y), if_neg y, if_neg y]
    · unfold f_X12_horsehair j_X12_horsehair_46 j_X12_horsehair_100 j_X12_horsehair_124
      rw [q_withinT z1.1 z1.2, Option.bind_some, if_neg (by decide), q_withinT z2.1 z2.2, Option.bind_some, if_neg (by decide), q_withinT z3.1 z3.2, Option.bind_some, if_neg (by decide), q_withinT z4.1 z4.2, Option.bind_some, if_neg (by decide)]
      rw [q_pfr, Option.bind_some, q_gfr, Option.bind_some, rq_upE, if_neg (by decide), q_power0 z2.1 z2.2 hn, Option.bind_some, q_power0 z3.1 z3.2 hn, Option.bind_some]
      rw [rq_isub (x := 100) (y := a1) (by omega) (by omega), rq_lmul (x := a1) (by rw [hR]; omega) (by rw [hR]; omega), rq_lmul (x := 100 - a1) (by rw [hW]; omega) (by rw [hW]; omega), hR, hW, ea]
      have hI0 := rq_I_s (rq_I_up0 hI 0)
      by_cases y : R + W2 = 0
      · rw [if_pos (el0.mpr y), if_pos y, q_pfr, Option.bind_some, if_pos (el0.mpr y)]
        exact rq_some.mpr (rq_xr_r (rq_upE _ _ _ _) (rq_I_up0 hI0 _) ((rq_u300 _ _).trans (rq_u300 _ _)))
      · rw [if_neg (fun q => y (el0.mp q)), if_neg y, q_pfr, Option.bind_some, if_neg (fun q => y (el0.mp q)), if_neg y]
        exact rq_some.mpr (rq_xr_l (rq_upE _ _ _ _) (rq_I_up0 hI0 _) ((rq_u300 _ _).trans (rq_u300 _ _)))
  · refine ⟨.inr (), fun m => ?_, fun c m hI => ?_⟩
    · unfold f_X11_horsehair j_X11_horsehair_33
      rw [q_hundred, Option.bind_some]
      by_cases y1 : 0 ≤ a1 ∧ a1 ≤ 100
      · rw [if_pos y1, if_neg (by decide), q_hundred, Option.bind_some]
        by_cases y2 : 0 ≤ a2 ∧ a2 ≤ 100
        · rw [if_pos y2, if_neg (by decide), q_hundred, Option.bind_some]
          by_cases y3 : 0 ≤ a3 ∧ a3 ≤ 100
          · rw [if_pos y3, if_neg (by decide)]
            by_cases y4 : a4 < 1
            · rw [if_pos y4]
            · rw [if_neg y4, if_neg (by omega)]
          · rw [if_neg y3, if_pos rfl]
        · rw [if_neg y2, if_pos rfl]
      · rw [if_neg y1, if_pos rfl]
    · have k : ∀ s0 : Int, s0 = 248 → rq (j_X12_horsehair_45 248 a1 a2 a3 a4 s0 m) (rq_xr c m (.inr ())) := by
        rintro s0 rfl
        unfold j_X12_horsehair_45 j_X12_horsehair_46
        rw [q_pfr, Option.bind_some, q_gfr, Option.bind_some, rq_upE, if_pos rfl]
        exact rq_some.mpr (rq_xr_r (rq_upE _ _ _ _) (rq_I_s (rq_I_up0 hI 1)) (rq_u300 _ _))
      unfold f_X12_horsehair
      rw [q_within, Option.bind_some]
      by_cases y1 : 0 ≤ a1 ∧ a1 ≤ 100
      · rw [if_pos y1, if_neg (by decide), q_within, Option.bind_some]
        by_cases y2 : 0 ≤ a2 ∧ a2 ≤ 100
        · rw [if_pos y2, if_neg (by decide), q_within, Option.bind_some]
          by_cases y3 : 0 ≤ a3 ∧ a3 ≤ 100
          · rw [if_pos y3, if_neg (by decide), q_within, Option.bind_some, if_neg (show ¬ (1 ≤ a4 ∧ a4 ≤ 3) by omega), if_pos rfl]
            exact k _ rfl
          · rw [if_neg y3, if_pos rfl]
            exact k _ rfl
        · rw [if_neg y2, if_pos rfl]
          exact k _ rfl
      · rw [if_neg y1, if_pos rfl]
        exact k _ rfl
