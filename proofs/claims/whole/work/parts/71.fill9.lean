/-! Layer 3: fill, the reference's search -/
section
variable {ρ : rq_R} {m : rt_M} {o : Nat → Nat}
theorem rq_mx_le {f : Nat → Int} {x : Int} : ∀ j d, d < j → f d ≤ rq_mx f x j
  | 0, d, h => absurd h (Nat.not_lt_zero d)
  | j + 1, d, h => by
    unfold rq_mx
    by_cases y : d = j
    · subst y; split <;> omega
    · have := rq_mx_le (f := f) (x := x) j d (by omega)
      split <;> omega
theorem rq_mx_ext {f : Nat → Int} {x : Int} {H : Nat} (hx : -1 ≤ x) (h : ∀ c, H ≤ c → f c = -1) : ∀ j, rq_mx f x (H + j) = rq_mx f x H
  | 0 => rfl
  | j + 1 => by
    have a := rq_mx_ext hx h j
    have b := rq_mx_ge (f := f) (x := x) H
    show (if rq_mx f x (H + j) < f (H + j) then f (H + j) else rq_mx f x (H + j)) = _
    rw [a, h (H + j) (by omega), if_neg (by omega)]
def rq_w90 (k j : Nat) : Bool := (k == 248 && j == 58) || k == 290 || k == 291
theorem rq_w90_st : (rq_P.all fun p => !(rq_w90 p.1 p.2.1)) = true := by decide +kernel
theorem rq_D_w90 {m' : rt_M} (h : rq_D ρ m) (k : rq_fr rq_w90 m m') : rq_D ρ m' := by
  obtain ⟨hs, hv, hc⟩ := h
  refine ⟨rq_st_fr hs k rq_w90_st, hv, rq_rr_fr hc (fun a j h1 h2 => k a j ?_)⟩
  unfold rq_w90
  simp only [Bool.or_eq_false_iff, Bool.and_eq_false_iff, beq_eq_false_iff_ne]
  omega
/-- the table -/
def rq_ft (ρ : rq_R) (o : Nat → Nat) (m : rt_M) : Prop := ∀ w k : Nat, w < (ρ.1 0 0).toNat → k < (ρ.1 0 1).toNat → m 292 (6 * w + k) = if (o w).testBit k = true then 1 else 0
theorem rq_ft_fr {m' : rt_M} (h : rq_ft ρ o m) (k : rq_fr rq_w90 m m') : rq_ft ρ o m' := fun w j hw hj => by rw [k 292 _ rfl]; exact h w j hw hj
theorem rq_th_lo {g : Nat → Nat → Int} {B : Nat → Int} (hg : ∀ i ch, 0 ≤ g i ch ∧ g i ch ≤ 1000) (hB : ∀ t, 0 ≤ B t) (i s c : Nat) : rq_th o g false B i s c = -1 ∨ 0 ≤ rq_th o g false B i s c := by
  unfold rq_th
  have a := hg i c
  have b := hB (s ||| 2 ^ c)
  split
  · exact Or.inl rfl
  · refine Or.inr ?_
    split <;> omega
end
