/-! Layer 3: the class's rows: the most gain -/
theorem q_bk : ∀ i, i < 7 → (139, i, ((140 + i : Nat) : Int)) ∈ rq_P ∧ rt_kd (140 + i) = 1 ∧ rt_ln (140 + i) = 64 := by decide +kernel
theorem q_gk : ∀ i, i < 6 → (132, i, ((133 + i : Nat) : Int)) ∈ rq_P ∧ rt_kd (133 + i) = 1 ∧ rt_ln (133 + i) = 6 := by decide +kernel
def rq_th (o : Nat → Nat) (g : Nat → Nat → Int) (ag : Bool) (B : Nat → Int) (i s ch : Nat) : Int := if (o i).testBit ch = false ∨ (s.testBit ch = true ∧ ag = false) then -1 else (if s.testBit ch = true then 0 else g i ch) + B (s ||| 2 ^ ch)
def rq_mx (f : Nat → Int) (x : Int) : Nat → Int
  | 0 => x
  | n + 1 => if rq_mx f x n < f n then f n else rq_mx f x n
def rq_bs (o : Nat → Nat) (g : Nat → Nat → Int) (ag : Bool) (n : Nat) : Nat → Nat → Int
  | 0 => fun _ => 0
  | k + 1 => fun s => rq_mx (rq_th o g ag (rq_bs o g ag n k) (n - 1 - k) s) (rq_bs o g ag n k s) 6
theorem rq_mx_b {f : Nat → Int} {x lo hi : Int} (h0 : lo ≤ x ∧ x ≤ hi) : ∀ n, (∀ i, i < n → f i ≤ hi) → lo ≤ rq_mx f x n ∧ rq_mx f x n ≤ hi
  | 0, _ => h0
  | n + 1, h => by
    have a := rq_mx_b h0 n (fun i hi => h i (by omega))
    have b := h n (by omega)
    unfold rq_mx
    split <;> omega
section
variable {o : Nat → Nat} {g : Nat → Nat → Int} {ag : Bool} {n : Nat} {m : rt_M}
theorem rq_bs_b (hg : ∀ i ch, 0 ≤ g i ch ∧ g i ch ≤ 1000) : ∀ k s, 0 ≤ rq_bs o g ag n k s ∧ rq_bs o g ag n k s ≤ 1000 * k
  | 0, s => ⟨by show (0 : Int) ≤ 0; decide, by show (0 : Int) ≤ 1000 * 0; decide⟩
  | k + 1, s => by
    have a := rq_bs_b hg k s
    refine rq_mx_b ⟨a.1, by omega⟩ 6 (fun i hi => ?_)
    unfold rq_th
    have b := rq_bs_b hg k (s ||| 2 ^ i)
    have e := hg (n - 1 - k) i
    split
    · omega
    · split <;> omega
/-- what the class has of a row problem -/
def rq_rwp (o : Nat → Nat) (g : Nat → Nat → Int) (ag : Bool) (n : Nat) (m : rt_M) : Prop := m 130 0 = (n : Int) ∧ m 130 1 = (if ag = true then 1 else 0) ∧ ∀ i, i < 6 → m 131 i = ((o i : Nat) : Int) ∧ ∀ j, j < 6 → (o i).testBit j = true → m (133 + i) j = g i j
theorem q_through (hs : rq_st m) (hp : rq_rwp o g ag n m) (ho : ∀ i, o i < 64) (hg : ∀ i ch, 0 ≤ g i ch ∧ g i ch ≤ 1000) {i s ch : Nat} (hi : i < 6) (hs6 : s < 64) (hc : ch < 6) {B : Nat → Int} (hB : ∀ t, t < 64 → m (140 + (i + 1)) t = B t ∧ 0 ≤ B t ∧ B t ≤ 100000) : f_X5_through ((130 : Nat) : Int) (i : Int) (s : Int) (ch : Int) m = some (rq_th o g ag B i s ch) := by
  have bk := q_bk (i + 1) (by omega)
  have gk := q_gk i hi
  have os : s ||| 2 ^ ch < 64 := Nat.or_lt_two_pow (n := 6) hs6 (by have : 2 ^ ch < 2 ^ 6 := Nat.pow_lt_pow_right (by decide) hc; omega)
  have p130 : ∀ j, rt_gf 5 j ((130 : Nat) : Int) m = some (m 130 j) := fun j => rfl
  have hBs := hB _ os
  have tail : ∀ s0 : Int, 0 ≤ s0 → s0 ≤ 1000 → j_X5_through_60 ((130 : Nat) : Int) (i : Int) (s : Int) (ch : Int) s0 m = some (s0 + B (s ||| 2 ^ ch)) := by
    intro s0 h0 h1
    unfold j_X5_through_60
    rw [p130, Option.bind_some, pt_130_4 hs, show (139 : Int) = ((139 : Nat) : Int) from rfl, rq_n1 (by omega), q_al kd_139 ln_139 (show i + 1 < 7 by omega), Option.bind_some, hs _ bk.1, rq_sb s (by omega) ch (by omega), q_al bk.2.1 bk.2.2 os, Option.bind_some, hBs.1, rq_iadd (by omega) (by omega)]
  have t43 : ∀ q : Int, (o i).testBit ch = true → (q = if s.testBit ch = true then 1 else 0) → j_X5_through_43 ((130 : Nat) : Int) (i : Int) (s : Int) (ch : Int) q m = some ((if s.testBit ch = true then 0 else g i ch) + B (s ||| 2 ^ ch)) := by
    intro q ob hq
    unfold j_X5_through_43
    by_cases z : s.testBit ch = true
    · rw [if_pos z] at hq
      rw [if_neg (by omega), if_pos z]
      exact tail 0 (by decide) (by decide)
    · rw [if_neg z] at hq
      rw [if_pos hq, if_neg z, p130, Option.bind_some, pt_130_3 hs, show (132 : Int) = ((132 : Nat) : Int) from rfl, q_al kd_132 ln_132 hi, Option.bind_some, hs _ gk.1, q_al gk.2.1 gk.2.2 hc, Option.bind_some, (hp.2.2 i hi).2 ch hc ob]
      exact tail _ (hg i ch).1 (hg i ch).2
  have t14 : ∀ q : Int, (q = if s.testBit ch = true then 1 else 0) → j_X5_through_14 ((130 : Nat) : Int) (i : Int) (s : Int) (ch : Int) q m = some (rq_th o g ag B i s ch) := by
    intro q hq
    unfold j_X5_through_14 j_X5_through_41 rq_th
    rw [p130, Option.bind_some, pt_130_2 hs, show (131 : Int) = ((131 : Nat) : Int) from rfl, q_al kd_131 ln_131 hi, Option.bind_some, (hp.2.2 i hi).1, rq_tb (o i) (by have := ho i; omega) ch (by omega)]
    by_cases ob : (o i).testBit ch = true
    · rw [if_pos ob, if_neg (show ¬ (1 : Int) = 0 by decide)]
      by_cases z : s.testBit ch = true
      · rw [if_pos z] at hq
        rw [if_neg (by omega), p130, Option.bind_some, hp.2.1]
        by_cases y : ag = true
        · rw [if_pos y, if_neg (show ¬ (1 : Int) = 0 by decide), if_neg (by simp [ob, y])]
          exact t43 q ob (by rw [if_pos z]; exact hq)
        · rw [if_neg y, if_pos rfl, if_pos (Or.inr ⟨z, by simpa using y⟩)]
      · rw [if_neg z] at hq
        rw [if_pos hq, if_neg (by simp [ob, z])]
        exact t43 q ob (by rw [if_neg z]; exact hq)
    · rw [if_neg ob, if_pos rfl, if_pos (Or.inl (by simpa using ob))]
  unfold f_X5_through
  rw [rq_tb s (by omega) ch (by omega)]
  by_cases z : s.testBit ch = true
  · rw [if_pos z, if_pos rfl]
    exact t14 1 (by rw [if_pos z])
  · rw [if_neg z, if_neg (by decide)]
    exact t14 0 (by rw [if_neg z])
def rq_w140 (k _j : Nat) : Bool := decide (140 ≤ k) && decide (k ≤ 146)
theorem rq_w140_st : (rq_P.all fun p => !(rq_w140 p.1 p.2.1)) = true := by decide +kernel
theorem rq_rwp_fr {m' : rt_M} (hp : rq_rwp o g ag n m) (hf : rq_fr rq_w140 m m') : rq_rwp o g ag n m' := by
  refine ⟨by rw [hf 130 0 rfl]; exact hp.1, by rw [hf 130 1 rfl]; exact hp.2.1, fun i hi => ⟨by rw [hf 131 i rfl]; exact (hp.2.2 i hi).1, fun j hj ob => ?_⟩⟩
  rw [hf (133 + i) j (by unfold rq_w140; simp only [Bool.and_eq_false_iff, decide_eq_false_iff_not]; omega)]
  exact (hp.2.2 i hi).2 j hj ob
end
