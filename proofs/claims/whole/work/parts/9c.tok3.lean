/-! Layer 3: kinds and values of tokens; the class's splitting -/
theorem rq_w10_b : ∀ k (l : List Int), l.length = k → (∀ c ∈ l, 48 ≤ c ∧ c ≤ 57) → 0 ≤ rq_w10 l ∧ rq_w10 l < 10 ^ k
  | 0, l, hk, _ => by
    have : l = [] := List.eq_nil_of_length_eq_zero hk
    subst this
    exact ⟨Int.le_refl 0, by decide⟩
  | k + 1, l, hk, hl => by
    rcases List.eq_nil_or_concat l with rfl | ⟨L, c, rfl⟩
    · cases hk
    · rw [List.concat_eq_append] at hk hl ⊢
      have hc := hl c (List.mem_append_right _ (List.mem_singleton.mpr rfl))
      have := rq_w10_b k L (by rw [List.length_append] at hk; simpa using hk) (fun x hx => hl x (List.mem_append_left _ hx))
      have e : (10 : Int) ^ (k + 1) = 10 ^ k * 10 := Int.pow_succ 10 k
      rw [rq_w10_s, e]
      generalize (10 : Int) ^ k = Q at this ⊢
      omega
def rq_spf (v : Int) : Int := rq_fst (fun i => (rt_wp i == v) && !(v == 0)) 39
def rq_kd (s : Nat → Int) (n b : Nat) : Int := if b < n then (if rq_dd (s b) = true then (if rq_en s n b - b ≤ 4 then 36 else 38) else if rq_en s n b - b ≤ 8 then (if rq_spf (rq_pk (rq_cs s b (rq_en s n b))) = -1 then (if rq_ll (s b) = true then 35 else 38) else rq_spf (rq_pk (rq_cs s b (rq_en s n b)))) else 38) else 37
def rq_vl (s : Nat → Int) (n b : Nat) : Int := if b < n then (if rq_dd (s b) = true then (if rq_en s n b - b ≤ 4 then rq_w10 (rq_cs s b (rq_en s n b)) else 0) else if rq_en s n b - b ≤ 8 then rq_pk (rq_cs s b (rq_en s n b)) else 0) else 0
/-- where the i-th token begins -/
def rq_sti (s : Nat → Int) (n : Nat) : Nat → Nat
  | 0 => rq_sk' s n 0
  | i + 1 => rq_nxp s n (rq_sti s n i)
theorem rq_spf_b (v : Int) : -1 ≤ rq_spf v ∧ rq_spf v < 39 := by
  unfold rq_spf
  rcases rq_fst_cases (fun i => (rt_wp i == v) && !(v == 0)) 39 with ⟨i, hi, e, -⟩ | ⟨e, -⟩ <;> omega
theorem rq_kd_b (s : Nat → Int) (n b : Nat) : 0 ≤ rq_kd s n b ∧ rq_kd s n b < 39 := by
  have := rq_spf_b (rq_pk (rq_cs s b (rq_en s n b)))
  unfold rq_kd
  split
  · split
    · split <;> omega
    · split
      · split
        · split <;> omega
        · omega
      · omega
  · omega
def rq_okT (s : Nat → Int) (n : Nat) : Prop := n ≤ 1000 ∧ ∀ i, i < n → rq_okS (s i)
def rq_tx (s : Nat → Int) (n : Nat) (m : rt_M) : Prop := m 42 1 = (n : Int) ∧ ∀ i, i < n → m 43 i = s i
def rq_wTk (k j : Nat) : Bool := (k == 42 && j == 5) || k == 44 || k == 45 || k == 46
theorem rq_wTk_st : (rq_P.all fun p => !(rq_wTk p.1 p.2.1)) = true := by decide +kernel
section
variable {m : rt_M} {s : Nat → Int} {n : Nat}
theorem rq_tx_fr {m' : rt_M} (h : rq_tx s n m) (f : rq_fr rq_wTk m m') : rq_tx s n m' := ⟨by rw [f 42 1 rfl]; exact h.1, fun i hi => by rw [f 43 i rfl]; exact h.2 i hi⟩
theorem q_g8 (j : Nat) : rt_gf 8 j ((42 : Nat) : Int) m = some (m 42 j) := rfl
theorem q_p8 (j : Nat) (v : Int) : rt_pf 8 j ((42 : Nat) : Int) v m = some (rt_up m 42 j v) := rfl
theorem q_gd8 {α : Type} (q : Option α) : rt_gd 8 ((42 : Nat) : Int) q = q := rfl
theorem q_isLetter (c : Int) : f_X8_isLetter c m = some (if rq_ll c = true then 1 else 0) := by
  unfold f_X8_isLetter j_X8_isLetter_16 j_X8_isLetter_17 rq_ll
  by_cases h1 : c < 97
  · rw [if_pos h1, if_neg (by simp; omega)]; rfl
  · rw [if_neg h1]
    by_cases h2 : 122 < c
    · rw [if_pos h2, if_neg (by simp; omega)]; rfl
    · rw [if_neg h2, if_pos (by simp; omega)]; rfl
theorem q_isDigit (c : Int) : f_X8_isDigit c m = some (if rq_dd c = true then 1 else 0) := by
  unfold f_X8_isDigit j_X8_isDigit_16 j_X8_isDigit_17 rq_dd
  by_cases h1 : c < 48
  · rw [if_pos h1, if_neg (by simp; omega)]; rfl
  · rw [if_neg h1]
    by_cases h2 : 57 < c
    · rw [if_pos h2, if_neg (by simp; omega)]; rfl
    · rw [if_neg h2, if_pos (by simp; omega)]; rfl
theorem q_sgn (hs : rq_st m) (ht : rq_tx s n m) (hn : n ≤ 1000) {i : Nat} (hi : i < n) : rt_al 4 (m 42 0) (i : Int) m = some (s i) := by
  rw [pt_42_0 hs, show (43 : Int) = ((43 : Nat) : Int) from rfl, q_al kd_43 ln_43 (by omega), ht.2 i hi]
theorem q_spelled {v : Int} (h1 : -9223372036854775808 ≤ v) (h2 : v < 9223372036854775808) (o : Int) : f_X9_spelled v o m = some (if rq_spf v = -1 then o else rq_spf v) := by
  have wpb : ∀ i, i < 39 → 0 ≤ rt_wp i ∧ rt_wp i < 9223372036854775808 := by decide +kernel
  unfold f_X9_spelled
  apply rq_of
  refine rq_call (rq_up (Q := fun e => match e with
      | .inl _ => rq_spf v = -1
      | .inr t => rq_spf v = t ∧ t ≠ -1) (fun i x => x = (i : Int) ∧ ∀ j, j < i → ((rt_wp j == v) && !(v == 0)) = false) 39 (by decide) ?_ ?_ ⟨rfl, fun j hj => absurd hj (Nat.not_lt_zero _)⟩) ?_
  · rintro i x hi ⟨rfl, hj⟩
    have e1 : rt_alw 39 (i : Int) = some (i : Int) := if_pos ⟨rfl, by omega, by omega⟩
    have e2 : rt_gwp (i : Int) = some (rt_wp i) := if_pos ⟨by omega, by omega⟩
    have wi := wpb i hi
    have c1 := rq_lcmp0 (x := rt_wp i) (y := v) (by omega) (by omega) h1 h2
    have c2 := rq_lcmp0 (x := v) (y := 0) h1 h2 (by omega) (by omega)
    have stay : ((rt_wp i == v) && !(v == 0)) = false → rq (j_X9_spelled_35_2 v o (i : Int) m) (fun t => (∀ s', t = .inl s' → s' = ((i + 1 : Nat) : Int) ∧ ∀ j, j < i + 1 → ((rt_wp j == v) && !(v == 0)) = false) ∧ (∀ e, t = .inr e → match e with
      | .inl _ => rq_spf v = -1
      | .inr t => rq_spf v = t ∧ t ≠ -1)) := by
      intro q
      unfold j_X9_spelled_35_2
      rw [rq_n1 (by omega)]
      refine rq_some.mpr (rq_inl ⟨rfl, fun j hj2 => ?_⟩)
      by_cases z : j = i
      · rw [z]; exact q
      · exact hj j (by omega)
    unfold b_X9_spelled_2
    rw [if_neg (by omega), e1, Option.bind_some, e2, Option.bind_some]
    by_cases z1 : rt_wp i = v
    · rw [if_pos (c1.mpr z1)]
      by_cases z2 : v = 0
      · rw [if_pos (c2.mpr z2)]
        exact stay (by simp [z2])
      · rw [if_neg (fun q => z2 (c2.mp q)), Option.bind_some]
        refine rq_map.mpr (rq_some.mpr (rq_inr ⟨?_, by omega⟩))
        exact rq_fst_some hi (by simp [z1, z2]) hj
    · rw [if_neg (fun q => z1 (c1.mp q))]
      exact stay (by simp [z1])
  · rintro x ⟨rfl, hj⟩
    unfold b_X9_spelled_2
    rw [if_pos (by omega)]
    exact rq_some.mpr (rq_inre (rq_fst_none hj))
  · rintro (e | t) q
    · rw [if_pos q]
      exact rq_some.mpr rfl
    · rw [if_neg (by rw [q.1]; exact q.2), q.1]
      exact rq_some.mpr rfl
theorem q_endOf (hs : rq_st m) (ht : rq_tx s n m) (hn : n ≤ 1000) {b : Nat} (hb : b < n) : f_X8_endOf ((42 : Nat) : Int) (b : Int) m = some ((rq_en s n b : Nat) : Int) := by
  have hrun : ∀ (P : Int → Bool) (body : Int → Option (Int ⊕ Int)), (∀ i : Nat, i < n → body (i : Int) = if P (s i) = true then some (.inl (rt_iadd (i : Int) 1)) else some (.inr (i : Int))) → (∀ i : Nat, n ≤ i → body (i : Int) = some (.inr (i : Int))) → rq (rt_it body 4000 ((b + 1 : Nat) : Int)) (fun e => e = ((rq_ru P s n (b + 1) : Nat) : Int)) := by
    intro P body h1 h2
    refine rq_up (fun i x => x = ((b + 1 + i : Nat) : Int) ∧ b + 1 + i ≤ n ∧ ∀ q, b + 1 ≤ q → q < b + 1 + i → P (s q) = true) (n - (b + 1)) (by omega) ?_ ?_ ⟨rfl, by omega, fun q h1 h2 => by omega⟩
    · rintro i x hi ⟨rfl, hle, hin⟩
      rw [h1 _ (by omega)]
      by_cases z : P (s (b + 1 + i)) = true
      · rw [if_pos z, rq_n1 (by omega)]
        refine rq_some.mpr (rq_inl ⟨by omega, by omega, fun q h3 h4 => ?_⟩)
        by_cases y : q = b + 1 + i
        · rw [y]; exact z
        · exact hin q h3 (by omega)
      · rw [if_neg z]
        refine rq_some.mpr (rq_inr ?_)
        rw [rq_ru_u (by omega) hle hin (fun _ => by simpa using z)]
    · rintro x ⟨rfl, hle, hin⟩
      rw [h2 _ (by omega)]
      refine rq_some.mpr (rq_inre ?_)
      rw [rq_ru_u (by omega) hle hin (fun q => by omega)]
  unfold f_X8_endOf j_X8_endOf_80 rq_en
  rw [q_g8, Option.bind_some, q_sgn hs ht hn hb, Option.bind_some, q_isLetter, Option.bind_some, rq_n1 (by omega)]
  apply rq_of
  by_cases z1 : rq_ll (s b) = true
  · rw [if_pos z1, if_neg (show ¬ (1 : Int) = 0 by decide), if_pos z1]
    refine rq_call (hrun rq_ll _ (fun i hi => ?_) (fun i hi => ?_)) (fun e q => rq_some.mpr q)
    · unfold b_X8_endOf_16
      rw [q_g8, Option.bind_some, ht.1, if_neg (by omega), q_g8, Option.bind_some, q_sgn hs ht hn hi, Option.bind_some, q_isLetter, Option.bind_some]
      by_cases y : rq_ll (s i) = true
      · rw [if_pos y, if_neg (by decide), if_pos y]
      · rw [if_neg y, if_pos rfl, if_neg y]
    · unfold b_X8_endOf_16
      rw [q_g8, Option.bind_some, ht.1, if_pos (by omega)]
  · rw [if_neg z1, if_pos rfl, Option.bind_some, q_sgn hs ht hn hb, Option.bind_some, q_isDigit, Option.bind_some, if_neg z1]
    by_cases z2 : rq_dd (s b) = true
    · rw [if_pos z2, if_neg (show ¬ (1 : Int) = 0 by decide), if_pos z2]
      refine rq_call (hrun rq_dd _ (fun i hi => ?_) (fun i hi => ?_)) (fun e q => rq_some.mpr q)
      · unfold b_X8_endOf_54
        rw [q_g8, Option.bind_some, ht.1, if_neg (by omega), q_g8, Option.bind_some, q_sgn hs ht hn hi, Option.bind_some, q_isDigit, Option.bind_some]
        by_cases y : rq_dd (s i) = true
        · rw [if_pos y, if_neg (by decide), if_pos y]
        · rw [if_neg y, if_pos rfl, if_neg y]
      · unfold b_X8_endOf_54
        rw [q_g8, Option.bind_some, ht.1, if_pos (by omega)]
    · rw [if_neg z2, if_pos rfl, if_neg z2]
      exact rq_some.mpr rfl
end
