/-! Layer 3: ways by the sets that they take -/
section
variable {T : Nat → Bool} {F : Nat → Nat → Bool} {H : Nat}
def rq_Wy (T : Nat → Bool) (F : Nat → Nat → Bool) (H : Nat) : Nat → Nat → Int
  | 0 => fun s => if s = 0 then 1 else 0
  | j + 1 => fun s => if T j = true then rq_sum (fun h => if s.testBit h = true ∧ F j h = true then rq_Wy T F H j (s ^^^ 2 ^ h) else 0) H else rq_Wy T F H j s
theorem rq_Wy_s (j s : Nat) : rq_Wy T F H (j + 1) s = if T j = true then rq_sum (fun h => if s.testBit h = true ∧ F j h = true then rq_Wy T F H j (s ^^^ 2 ^ h) else 0) H else rq_Wy T F H j s := rfl
theorem rq_Wy_b (hH : H ≤ 6) : ∀ j s, 0 ≤ rq_Wy T F H j s ∧ rq_Wy T F H j s ≤ 6 ^ j
  | 0, s => by
    show 0 ≤ (if s = 0 then (1 : Int) else 0) ∧ (if s = 0 then (1 : Int) else 0) ≤ 6 ^ 0
    rw [Int.pow_zero]
    split <;> decide
  | j + 1, s => by
    have p : (0 : Int) ≤ 6 ^ j := Int.pow_nonneg (by decide)
    have e : (6 : Int) ^ (j + 1) = 6 ^ j * 6 := Int.pow_succ 6 j
    rw [rq_Wy_s, e]
    have hb := fun x => rq_Wy_b hH j x
    generalize (6 : Int) ^ j = P at p hb ⊢
    split
    · have a := rq_sum_b (f := fun h => if s.testBit h = true ∧ F j h = true then rq_Wy T F H j (s ^^^ 2 ^ h) else 0) (c := P) p H (fun h _ => by
        have := hb (s ^^^ 2 ^ h)
        split <;> omega)
      have h2 : P * (H : Int) ≤ P * 6 := Int.mul_le_mul_of_nonneg_left (by omega) p
      exact ⟨a.1, by omega⟩
    · have := hb s
      omega
def rq_tw (T : Nat → Bool) (F : Nat → Nat → Bool) (H : Nat) (j B : Nat) : Int := rq_sum (fun s => if s &&& B = 0 then rq_Wy T F H j s else 0) 64
theorem rq_tw_cl (hH : H ≤ 6) : ∀ j B, B < 64 → rq_tw T F H j B = rq_cl2 T F H j 0 B
  | 0, B, hB => by
    unfold rq_tw
    have := rq_sum_one (f := fun _ => 0) (f' := fun s => if s &&& B = 0 then rq_Wy T F H 0 s else 0) (w := 0) (d := 1) (fun k hk => by
      show (if k &&& B = 0 then (if k = 0 then (1 : Int) else 0) else 0) = 0
      rw [if_neg hk]; split <;> rfl) (by
      show (if 0 &&& B = 0 then (if (0 : Nat) = 0 then (1 : Int) else 0) else 0) = 0 + 1
      rw [Nat.zero_and, if_pos rfl, if_pos rfl]; rfl) 64 (by decide)
    rw [this, rq_sum_0]
    rfl
  | j + 1, B, hB => by
    rw [rq_cl2_s, Nat.zero_add]
    unfold rq_tw
    by_cases z : T j = true
    · rw [if_pos z]
      simp only [rq_Wy_s, if_pos z]
      simp only [rq_sum_if]
      rw [rq_sum_comm]
      refine rq_sum_c _ (fun h hh => ?_)
      have h6 : h < 6 := by omega
      obtain ⟨G, hG⟩ : ∃ G : Nat → Int, ∀ x, G x = if (B.testBit h = false ∧ F j h = true) ∧ x &&& (B ||| 2 ^ h) = 0 then rq_Wy T F H j x else 0 := ⟨_, fun _ => rfl⟩
      have e1 : rq_sum (fun s => if s &&& B = 0 then (if s.testBit h = true ∧ F j h = true then rq_Wy T F H j (s ^^^ 2 ^ h) else 0) else 0) 64 = rq_sum (fun s => if s.testBit h = true then G (s ^^^ 2 ^ h) else 0) 64 := by
        refine rq_sum_c _ (fun s hs => ?_)
        have q := (rq_sets s hs B hB h h6).1
        rw [hG]
        by_cases y : s.testBit h = true
        · rw [if_pos y]
          by_cases y2 : F j h = true
          · by_cases y3 : s &&& B = 0
            · obtain ⟨-, q2, q3⟩ := q.mp ⟨y3, y⟩
              rw [if_pos y3, if_pos ⟨y, y2⟩, if_pos ⟨⟨q2, y2⟩, q3⟩]
            · rw [if_neg y3, if_neg]
              rintro ⟨⟨q2, -⟩, q3⟩
              exact y3 (q.mpr ⟨y, q2, q3⟩).1
          · rw [if_neg (show ¬ (s.testBit h = true ∧ F j h = true) from fun q => y2 q.2), if_neg (show ¬ ((B.testBit h = false ∧ F j h = true) ∧ (s ^^^ 2 ^ h) &&& (B ||| 2 ^ h) = 0) from fun q => y2 q.1.2)]
            split <;> rfl
        · rw [if_neg y, if_neg (show ¬ (s.testBit h = true ∧ F j h = true) from fun q => y q.1)]
          split <;> rfl
      rw [e1, rq_reix G h h6]
      have hB2 : B ||| 2 ^ h < 64 := Nat.or_lt_two_pow (n := 6) hB (by have : 2 ^ h < 2 ^ 6 := Nat.pow_lt_pow_right (by decide) h6; omega)
      rw [← rq_tw_cl hH j (B ||| 2 ^ h) hB2]
      unfold rq_tw
      rw [rq_sum_if]
      refine rq_sum_c _ (fun s hs => ?_)
      have q := (rq_sets s hs B hB h h6).2
      rw [hG]
      by_cases y : B.testBit h = false ∧ F j h = true
      · by_cases y2 : s &&& (B ||| 2 ^ h) = 0
        · rw [if_neg (show ¬ s.testBit h = true by rw [q y2]; decide), if_pos y2, if_pos ⟨y, y2⟩, if_pos y]
        · rw [if_pos y, if_neg y2, if_neg (show ¬ ((B.testBit h = false ∧ F j h = true) ∧ s &&& (B ||| 2 ^ h) = 0) from fun w => y2 w.2)]
          split <;> rfl
      · rw [if_neg y, if_neg (show ¬ ((B.testBit h = false ∧ F j h = true) ∧ s &&& (B ||| 2 ^ h) = 0) from fun w => y w.1)]
        split <;> rfl
    · rw [if_neg z, ← rq_tw_cl hH j B hB]
      simp only [rq_Wy_s, if_neg z]
      rfl
end
