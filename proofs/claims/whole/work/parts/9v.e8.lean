/-! Layer 3: an E, the reference's machine: one step -/
def rq_wRe (k j : Nat) : Bool := rq_wN2 k j || (k == 248 && (j == 9 || j == 24)) || (k == 263 && decide (1000 ≤ j)) || k == 264 || k == 265
def rq_w63 (k j : Nat) : Bool := (k == 248 && j == 24) || (k == 263 && decide (1000 ≤ j)) || k == 264 || k == 265
theorem rq_w63_k {k : Nat} (h : 1000 ≤ k) : rq_w63 263 k = true := by unfold rq_w63; simp [h]
theorem rq_wRe_st : (rq_P.all fun p => !(rq_wRe p.1 p.2.1)) = true := by decide +kernel
theorem rq_wRe_N {k j : Nat} (h : rq_wRe k j = false) : rq_wN2 k j = false := by
  unfold rq_wRe at h
  simp only [Bool.or_eq_false_iff] at h
  exact h.1.1.1.1
/-- codes are laid behind the k that were there -/
def rq_co (k : Nat) (ds : List Int) (m m' : rt_M) : Prop := m' 248 24 = ((k + ds.length : Nat) : Int) ∧ (∀ i (h : i < ds.length), m' 263 (k + i) = ds[i]) ∧ ∀ i, i < k → m' 263 i = m 263 i
theorem rq_co_app {k : Nat} {ds es : List Int} {m m1 m2 : rt_M} (h : rq_co k ds m m1) (h2 : rq_co (k + ds.length) es m1 m2) : rq_co k (ds ++ es) m m2 := by
  obtain ⟨a1, a2, a3⟩ := h
  obtain ⟨b1, b2, b3⟩ := h2
  refine ⟨by rw [b1, List.length_append, Nat.add_assoc], fun i hi => ?_, fun i hi => by rw [b3 i (by omega), a3 i hi]⟩
  rw [List.length_append] at hi
  by_cases z : i < ds.length
  · rw [b3 (k + i) (by omega), a2 i z, List.getElem_append_left z]
  · have := b2 (i - ds.length) (by omega)
    rw [show k + ds.length + (i - ds.length) = k + i by omega] at this
    rw [this, List.getElem_append_right (by omega)]
theorem rq_co_fr {k : Nat} {ds : List Int} {m m1 m2 : rt_M} (h : rq_co k ds m m1) (k1 : m2 248 24 = m1 248 24) (k2 : ∀ i, m2 263 i = m1 263 i) : rq_co k ds m m2 := ⟨by rw [k1]; exact h.1, fun i hi => by rw [k2]; exact h.2.1 i hi, fun i hi => by rw [k2]; exact h.2.2 i hi⟩
/-- where the machine stands: at b, k codes laid -/
def rq_rH (s : Nat → Int) (n line b k : Nat) (m : rt_M) : Prop := rq_st m ∧ rq_ty s n m ∧ rq_ts s n b m ∧ rq_bp s n b ∧ m 248 25 = (line : Int) ∧ m 248 24 = (k : Int) ∧ k ≤ 1000 + b ∧ 1000 ≤ k
section
variable {m : rt_M} {s : Nat → Int} {n b line k : Nat}
theorem q_puts (hs : rq_st m) (hk : m 248 24 = (k : Int)) (h2 : k < 2000) (c : Int) : f_X12_puts 248 c m = some (rt_up (rt_up m 263 k c) 248 24 ((k + 1 : Nat) : Int)) := by
  have e : rt_up m 263 k c 248 24 = (k : Int) := hk
  unfold f_X12_puts
  rw [q_gfr, Option.bind_some, q_gfr, Option.bind_some, hk, q_s8 (k := 263) _ 2000 (pt_248_23 hs) kd_263 ln_263 h2, Option.bind_some, q_gfr, Option.bind_some, e, q_pfr, Option.bind_some, rq_n1 (by omega)]
theorem q_gd12 {α : Type} (o : Option α) : rt_gd 12 248 o = o := rfl
theorem rq_co_put {c : Int} (h2 : k < 2000) : rq_co k [c] m (rt_up (rt_up m 263 k c) 248 24 ((k + 1 : Nat) : Int)) := by
  refine ⟨rq_upE _ _ _ _, fun i hi => ?_, fun i hi => ?_⟩
  · simp only [List.length_cons, List.length_nil] at hi
    obtain rfl : i = 0 := by omega
    rw [q_up, if_neg (by omega)]
    exact rq_upE _ _ _ _
  · rw [q_up, if_neg (by omega), q_up, if_neg (by omega)]
theorem q_rfact (hok : rq_okT s n) (h : rq_rH s n line b k m) (hl : line < 2) : f_X12_fact 248 m = some (if rq_fc line (rq_kd s n b) = 0 then 0 else 3 * (line : Int) - rq_fc line (rq_kd s n b)) := by
  obtain ⟨-, -, ts, hp, h25, -⟩ := h
  obtain ⟨-, -, -, h6, h7, -⟩ := ts
  have fn : ∀ {kk : Int}, kk < 21 ∨ 26 < kk → rq_fc line kk = 0 := fun {kk} q => by
    unfold rq_fc
    rw [if_neg (by omega), if_neg (by omega), if_neg (by omega)]
  have no : rq_tn s n b ≠ 1 → rq_fc line (rq_kd s n b) = 0 := fun q => by
    rcases rq_kd_c2 hok hp with ⟨t, k, -⟩ | ⟨t, -⟩ | ⟨t, -, k, -⟩ | ⟨t, -, W', w1, w2, k, -⟩ | ⟨t, -, k⟩
    · exact fn (by omega)
    · exact absurd t q
    · exact fn (by omega)
    · exact fn (by omega)
    · exact fn (by omega)
  unfold f_X12_fact
  rw [q_gfr, Option.bind_some, h6]
  by_cases t1 : rq_tn s n b = 1
  rotate_left
  · rw [if_neg t1, if_pos (no t1)]
  have iw : ∀ W c, W < 27 → c = rq_W27 W → (rt_lcmp (m 248 7) c = 0 ↔ rq_kd s n b = (W : Int)) := by
    intro W c hW hc
    subst hc
    have wb := rq_W27_b W hW
    rw [h7 t1]
    rcases rq_kd_c2 hok hp with ⟨t, k, -⟩ | ⟨t, -, lt, -, k⟩ | ⟨t, -, k, -⟩ | ⟨t, -, W', w1, w2, k, -⟩ | ⟨t, -, k⟩
    · omega
    · have lb := rq_lt_b lt
      have e := rq_lcmp0 (x := rq_w27 (rq_tl s n b)) (y := rq_W27 W) (by omega) (by omega) (by omega) (by omega)
      rw [e]
      rcases k with ⟨k, no⟩ | ⟨W', hW', k, ew⟩
      · exact ⟨fun q => absurd q (no W hW), fun q => by omega⟩
      · rw [ew]
        exact ⟨fun q => by have := rq_W27_inj W' hW' W hW q; omega, fun q => by rw [show W' = W by omega]⟩
    · omega
    · omega
    · omega
  have l01 : line = 0 ∨ line = 1 := by omega
  rw [if_pos t1, q_gfr, Option.bind_some, h25]
  unfold rq_fc
  rcases l01 with rfl | rfl
  · rw [if_pos (by decide), q_gfr, Option.bind_some]
    by_cases z1 : rq_kd s n b = 21
    · rw [if_pos ((iw 21 161156 (by decide) (by decide)).mpr z1), if_pos (show rq_kd s n b = 21 + 3 * ((0 : Nat) : Int) by omega), if_neg (by decide)]; rfl
    rw [if_neg (fun q => z1 ((iw 21 161156 (by decide) (by decide)).mp q)), if_neg (show ¬ rq_kd s n b = 21 + 3 * ((0 : Nat) : Int) by omega), Option.bind_some]
    by_cases z2 : rq_kd s n b = 22
    · rw [if_pos ((iw 22 13385674 (by decide) (by decide)).mpr z2), if_pos (show rq_kd s n b = 22 + 3 * ((0 : Nat) : Int) by omega), if_neg (by decide)]; rfl
    rw [if_neg (fun q => z2 ((iw 22 13385674 (by decide) (by decide)).mp q)), if_neg (show ¬ rq_kd s n b = 22 + 3 * ((0 : Nat) : Int) by omega), Option.bind_some]
    by_cases z3 : rq_kd s n b = 23
    · rw [if_pos ((iw 23 385418 (by decide) (by decide)).mpr z3), if_pos (show rq_kd s n b = 23 + 3 * ((0 : Nat) : Int) by omega), if_neg (by decide)]; rfl
    rw [if_neg (fun q => z3 ((iw 23 385418 (by decide) (by decide)).mp q)), if_neg (show ¬ rq_kd s n b = 23 + 3 * ((0 : Nat) : Int) by omega), if_pos rfl]
    rfl
  · rw [if_neg (by decide), q_gfr, Option.bind_some]
    by_cases z1 : rq_kd s n b = 24
    · rw [if_pos ((iw 24 334950853 (by decide) (by decide)).mpr z1), if_pos (show rq_kd s n b = 21 + 3 * ((1 : Nat) : Int) by omega), if_neg (by decide)]; rfl
    rw [if_neg (fun q => z1 ((iw 24 334950853 (by decide) (by decide)).mp q)), if_neg (show ¬ rq_kd s n b = 21 + 3 * ((1 : Nat) : Int) by omega), Option.bind_some]
    by_cases z2 : rq_kd s n b = 25
    · rw [if_pos ((iw 25 117471199 (by decide) (by decide)).mpr z2), if_pos (show rq_kd s n b = 22 + 3 * ((1 : Nat) : Int) by omega), if_neg (by decide)]; rfl
    rw [if_neg (fun q => z2 ((iw 25 117471199 (by decide) (by decide)).mp q)), if_neg (show ¬ rq_kd s n b = 22 + 3 * ((1 : Nat) : Int) by omega), Option.bind_some]
    by_cases z3 : rq_kd s n b = 26
    · rw [if_pos ((iw 26 158683 (by decide) (by decide)).mpr z3), if_pos (show rq_kd s n b = 23 + 3 * ((1 : Nat) : Int) by omega), if_neg (by decide)]; rfl
    rw [if_neg (fun q => z3 ((iw 26 158683 (by decide) (by decide)).mp q)), if_neg (show ¬ rq_kd s n b = 23 + 3 * ((1 : Nat) : Int) by omega), if_pos rfl]
    rfl
end
