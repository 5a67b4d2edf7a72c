/-! Layer 3: ways to have heads under wigs -/
section
variable {T T' : Nat → Bool} {F : Nat → Nat → Bool} {H : Nat}
theorem rq_sum_0 : ∀ n, rq_sum (fun _ => 0) n = 0
  | 0 => rfl
  | n + 1 => by rw [rq_sum_s, rq_sum_0 n]; rfl
theorem rq_sum_comm (f : Nat → Nat → Int) (n : Nat) : ∀ k, rq_sum (fun i => rq_sum (fun j => f i j) n) k = rq_sum (fun j => rq_sum (fun i => f i j) k) n
  | 0 => by show (0 : Int) = rq_sum (fun _ => 0) n; rw [rq_sum_0]
  | k + 1 => by
    have a := rq_sum_comm f n k
    rw [rq_sum_s, a, ← rq_sum_ad]
    rfl
theorem rq_sum_if {p : Prop} [Decidable p] (f : Nat → Int) (n : Nat) : (if p then rq_sum f n else 0) = rq_sum (fun i => if p then f i else 0) n := by
  by_cases z : p
  · rw [if_pos z]; exact rq_sum_c n (fun i _ => by rw [if_pos z])
  · rw [if_neg z]
    rw [rq_sum_c (g := fun _ => 0) n (fun i _ => by rw [if_neg z]), rq_sum_0]
/-- ways of k wigs from i on, u taken: the first wig first, the last wig first -/
def rq_cf (T : Nat → Bool) (F : Nat → Nat → Bool) (H : Nat) : Nat → Nat → Nat → Int
  | 0 => fun _ _ => 1
  | k + 1 => fun i u => if T i = true then rq_sum (fun h => if u.testBit h = false ∧ F i h = true then rq_cf T F H k (i + 1) (u ||| 2 ^ h) else 0) H else rq_cf T F H k (i + 1) u
def rq_cl2 (T : Nat → Bool) (F : Nat → Nat → Bool) (H : Nat) : Nat → Nat → Nat → Int
  | 0 => fun _ _ => 1
  | k + 1 => fun i u => if T (i + k) = true then rq_sum (fun h => if u.testBit h = false ∧ F (i + k) h = true then rq_cl2 T F H k i (u ||| 2 ^ h) else 0) H else rq_cl2 T F H k i u
theorem rq_cf_s (k i u : Nat) : rq_cf T F H (k + 1) i u = if T i = true then rq_sum (fun h => if u.testBit h = false ∧ F i h = true then rq_cf T F H k (i + 1) (u ||| 2 ^ h) else 0) H else rq_cf T F H k (i + 1) u := rfl
theorem rq_cl2_s (k i u : Nat) : rq_cl2 T F H (k + 1) i u = if T (i + k) = true then rq_sum (fun h => if u.testBit h = false ∧ F (i + k) h = true then rq_cl2 T F H k i (u ||| 2 ^ h) else 0) H else rq_cl2 T F H k i u := rfl
theorem rq_or_tb (u h g : Nat) : (u ||| 2 ^ h).testBit g = (u.testBit g || decide (h = g)) := by rw [Nat.testBit_or, Nat.testBit_two_pow]
theorem rq_or_sw (u h g : Nat) : u ||| 2 ^ h ||| 2 ^ g = u ||| 2 ^ g ||| 2 ^ h := by rw [Nat.or_assoc, Nat.or_comm (2 ^ h), ← Nat.or_assoc]
theorem rq_cf_cl : ∀ k i u, rq_cf T F H k i u = rq_cl2 T F H k i u ∧ rq_cf T F H (k + 1) i u = rq_cl2 T F H (k + 1) i u
  | 0, i, u => ⟨rfl, rfl⟩
  | k + 1, i, u => by
    refine ⟨(rq_cf_cl k i u).2, ?_⟩
    have a : ∀ i u, rq_cf T F H k i u = rq_cl2 T F H k i u := fun i u => (rq_cf_cl k i u).1
    have b : ∀ i u, rq_cf T F H (k + 1) i u = rq_cl2 T F H (k + 1) i u := fun i u => (rq_cf_cl k i u).2
    rw [rq_cf_s (k + 1), rq_cl2_s (k + 1)]
    simp only [b (i + 1), ← b i]
    simp only [rq_cl2_s k (i + 1), rq_cf_s k i, ← a (i + 1), show i + 1 + k = i + (k + 1) by omega]
    by_cases z1 : T i = true
    · by_cases z2 : T (i + (k + 1)) = true
      · simp only [if_pos z1, if_pos z2]
        simp only [rq_sum_if]
        rw [rq_sum_comm]
        refine rq_sum_c _ (fun g _ => rq_sum_c _ (fun h _ => ?_))
        rw [rq_or_tb, rq_or_tb, rq_or_sw]
        by_cases y1 : u.testBit h = false ∧ F i h = true
        · by_cases y2 : u.testBit g = false ∧ F (i + (k + 1)) g = true
          · rw [if_pos y1, if_pos y2]
            by_cases y3 : h = g
            · rw [if_neg (by simp [y3]), if_neg (by simp [y3])]
            · rw [if_pos (by simp [y2.1, y2.2, y3]), if_pos (by simp [y1.1, y1.2, show ¬ g = h from fun q => y3 q.symm])]
          · rw [if_neg y2, if_pos y1, if_neg]
            rintro ⟨q1, q2⟩
            simp only [Bool.or_eq_false_iff] at q1
            exact y2 ⟨q1.1, q2⟩
        · rw [if_neg y1]
          by_cases y2 : u.testBit g = false ∧ F (i + (k + 1)) g = true
          · rw [if_pos y2, if_neg]
            rintro ⟨q1, q2⟩
            simp only [Bool.or_eq_false_iff] at q1
            exact y1 ⟨q1.1, q2⟩
          · rw [if_neg y2]
      · simp only [if_pos z1, if_neg z2]
    · by_cases z2 : T (i + (k + 1)) = true
      · simp only [if_neg z1, if_pos z2]
      · simp only [if_neg z1, if_neg z2]
theorem rq_ifc {p : Prop} [Decidable p] {a b c d : Int} (h1 : p → a = b) (h2 : ¬ p → c = d) : (if p then a else c) = if p then b else d := by
  by_cases z : p
  · rw [if_pos z, if_pos z, h1 z]
  · rw [if_neg z, if_neg z, h2 z]
theorem rq_cf_cong {i : Nat} (h : ∀ j, i ≤ j → T j = T' j) : ∀ k i' u, i ≤ i' → rq_cf T F H k i' u = rq_cf T' F H k i' u
  | 0, i', u, _ => rfl
  | k + 1, i', u, hi => by
    rw [rq_cf_s, rq_cf_s, h i' hi, rq_cf_cong h k (i' + 1) u (by omega)]
    refine rq_ifc (fun _ => rq_sum_c _ (fun g _ => ?_)) (fun _ => rfl)
    rw [rq_cf_cong h k (i' + 1) _ (by omega)]
theorem rq_cf_b (hH : H ≤ 6) : ∀ k i u, 0 ≤ rq_cf T F H k i u ∧ rq_cf T F H k i u ≤ 6 ^ k
  | 0, i, u => ⟨by show (0 : Int) ≤ 1; decide, by show (1 : Int) ≤ 6 ^ 0; decide⟩
  | k + 1, i, u => by
    have p : (0 : Int) ≤ 6 ^ k := Int.pow_nonneg (by decide)
    have e : (6 : Int) ^ (k + 1) = 6 ^ k * 6 := Int.pow_succ 6 k
    rw [rq_cf_s]
    split
    · have := rq_sum_b (f := fun h => if u.testBit h = false ∧ F i h = true then rq_cf T F H k (i + 1) (u ||| 2 ^ h) else 0) (c := 6 ^ k) p H (fun h _ => by
        have := rq_cf_b hH k (i + 1) (u ||| 2 ^ h)
        split <;> omega)
      refine ⟨this.1, ?_⟩
      have h2 : (6 : Int) ^ k * (H : Int) ≤ 6 ^ k * 6 := Int.mul_le_mul_of_nonneg_left (by omega) p
      omega
    · have := rq_cf_b hH k (i + 1) u
      omega
end
