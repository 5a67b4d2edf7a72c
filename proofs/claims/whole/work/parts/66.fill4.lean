/-! Layer 3: the first row of the most gain, from a step on -/
section
variable {o : Nat → Nat} {g : Nat → Nat → Int} {ag : Bool} {n : Nat}
def rq_nxt (o : Nat → Nat) (g : Nat → Nat → Int) (ag : Bool) (n i s : Nat) : Nat := if rq_ch o g ag n i s = -1 then s else s ||| 2 ^ (rq_ch o g ag n i s).toNat
/-- with k steps left, s chosen: step w's choice -/
def rq_rw (o : Nat → Nat) (g : Nat → Nat → Int) (ag : Bool) (n : Nat) : Nat → Nat → Nat → Int
  | 0 => fun _ _ => -1
  | k + 1 => fun s w => if w = n - 1 - k then rq_ch o g ag n (n - 1 - k) s else rq_rw o g ag n k (rq_nxt o g ag n (n - 1 - k) s) w
theorem rq_rw_ss (w : Nat) (hw : w < n) : ∀ k, k ≤ n → n - k ≤ w → rq_rw o g ag n k (rq_ss o g ag n (n - k)) w = rq_ch o g ag n w (rq_ss o g ag n w)
  | 0, _, h => by omega
  | k + 1, hk, h => by
    unfold rq_rw
    rw [show n - 1 - k = n - (k + 1) by omega]
    by_cases z : w = n - (k + 1)
    · rw [if_pos z, ← z]
    · rw [if_neg z]
      have e : rq_nxt o g ag n (n - (k + 1)) (rq_ss o g ag n (n - (k + 1))) = rq_ss o g ag n (n - k) := by
        rw [show n - k = (n - (k + 1)) + 1 by omega]
        rfl
      rw [e]
      exact rq_rw_ss w hw k (by omega) (by omega)
/-- the most of those below j, -1 without any -/
theorem rq_mx_ge {f : Nat → Int} {x : Int} : ∀ j, x ≤ rq_mx f x j
  | 0 => Int.le_refl _
  | j + 1 => by
    have a := rq_mx_ge (f := f) (x := x) j
    unfold rq_mx
    split <;> omega
theorem rq_mx_max {f : Nat → Int} {x : Int} (hx : -1 ≤ x) : ∀ j, rq_mx f x j = if x < rq_mx f (-1) j then rq_mx f (-1) j else x
  | 0 => by
    show x = if x < -1 then -1 else x
    rw [if_neg (by omega)]
  | j + 1 => by
    have a := rq_mx_max (f := f) hx j
    show (if rq_mx f x j < f j then f j else rq_mx f x j) = if x < (if rq_mx f (-1) j < f j then f j else rq_mx f (-1) j) then (if rq_mx f (-1) j < f j then f j else rq_mx f (-1) j) else x
    rw [a]
    by_cases z1 : x < rq_mx f (-1) j
    · rw [if_pos z1]
      by_cases z2 : rq_mx f (-1) j < f j
      · rw [if_pos z2, if_pos (by omega)]
      · rw [if_neg z2, if_pos z1]
    · rw [if_neg z1]
      by_cases z2 : rq_mx f (-1) j < f j
      · rw [if_pos z2]
      · rw [if_neg z2, if_neg z1, if_neg (by omega)]
/-- the first below j to reach the most -/
theorem rq_mx_at {f : Nat → Int} : ∀ j, rq_mx f (-1) j = -1 ∨ ∃ c, c < j ∧ f c = rq_mx f (-1) j ∧ ∀ d, d < c → f d < f c
  | 0 => Or.inl rfl
  | j + 1 => by
    have a := rq_mx_at (f := f) j
    show (if rq_mx f (-1) j < f j then f j else rq_mx f (-1) j) = -1 ∨ ∃ c, c < j + 1 ∧ f c = (if rq_mx f (-1) j < f j then f j else rq_mx f (-1) j) ∧ ∀ d, d < c → f d < f c
    by_cases z : rq_mx f (-1) j < f j
    · rw [if_pos z]
      refine Or.inr ⟨j, by omega, rfl, fun d hd => ?_⟩
      have : f d ≤ rq_mx f (-1) j := by
        clear a z
        induction j with
        | zero => omega
        | succ j ih =>
          unfold rq_mx
          by_cases y : d = j
          · subst y; split <;> omega
          · have := ih (by omega)
            split <;> omega
      omega
    · rw [if_neg z]
      rcases a with a | ⟨c, h1, h2, h3⟩
      · exact Or.inl a
      · exact Or.inr ⟨c, by omega, h2, h3⟩
end
