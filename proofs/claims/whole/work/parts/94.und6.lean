/-! Layer 3: the reference's ways, what comes of them -/
section
variable {ρ : rq_R} {T : Nat → Bool} {F : Nat → Nat → Bool} {H t : Nat} {a : Int}
theorem rq_lv_told : ∀ k i (U : Nat → Int) u x, i ≤ x → x < i + k → T x = true → ∀ l ∈ rq_lv T F H k i U u, ∃ h, h < H ∧ l.1 x = (h : Int) ∧ F x h = true
  | 0, i, U, u, x, h1, h2, _, l, hl => by omega
  | k + 1, i, U, u, x, h1, h2, hT, l, hl => by
    rw [rq_lv_s] at hl
    by_cases z : T i = true
    · rw [if_pos z, List.mem_flatMap] at hl
      obtain ⟨h, hh, hl⟩ := hl
      by_cases y : u.testBit h = false ∧ F i h = true
      · rw [if_pos y] at hl
        by_cases yx : x = i
        · refine ⟨h, List.mem_range.mp hh, ?_, by rw [yx]; exact y.2⟩
          rw [rq_lv_at k (i + 1) _ _ x (by omega) l hl, yx]
          unfold rq_at; rw [if_pos rfl]
        · exact rq_lv_told k (i + 1) _ _ x (by omega) (by omega) hT l hl
      · rw [if_neg y] at hl; cases hl
    · have hne : x ≠ i := fun q => z (by rw [← q]; exact hT)
      rw [if_neg z] at hl
      exact rq_lv_told k (i + 1) _ _ x (by omega) (by omega) hT l hl
/-- the heads below h that are bare, by tilts -/
def rq_bx (ρ : rq_R) (t : Nat) (a : Int) (u j : Nat) (v : Int) : Nat → Int
  | 0 => v
  | h + 1 => if u.testBit h = false ∧ rq_tt ρ a.toNat h t = (j : Int) then rt_iadd (rq_bx ρ t a u j v h) 1 else rq_bx ρ t a u j v h
theorem rq_bx_s (u j : Nat) (v : Int) (h : Nat) : rq_bx ρ t a u j v (h + 1) = if u.testBit h = false ∧ rq_tt ρ a.toNat h t = (j : Int) then rt_iadd (rq_bx ρ t a u j v h) 1 else rq_bx ρ t a u j v h := rfl
abbrev rq_Su : Type := Int × (Nat → Int) × (Nat → Int)
def rq_sp (ρ : rq_R) (t : Nat) (a : Int) (H : Nat) (s : rq_Su) (l : rq_Lf) : rq_Su := (rt_iadd s.1 1, fun j => if j < 6 then (if s.1 = 0 ∨ s.2.1 j = l.1 j then l.1 j else 6) else s.2.1 j, fun j => if a < 0 then s.2.2 j else rq_bx ρ t a l.2 j (s.2.2 j) H)
theorem rq_bx_v (u j : Nat) {v : Int} (h0 : 0 ≤ v) (h1 : v < 2000000000) : ∀ n, n ≤ 6 → rq_bx ρ t a u j v n = v + rq_sum (fun h => if rq_tt ρ a.toNat h t = (j : Int) then (if (!u.testBit h) = true then 1 else 0) else 0) n ∧ 0 ≤ rq_sum (fun h => if rq_tt ρ a.toNat h t = (j : Int) then (if (!u.testBit h) = true then (1 : Int) else 0) else 0) n ∧ rq_sum (fun h => if rq_tt ρ a.toNat h t = (j : Int) then (if (!u.testBit h) = true then (1 : Int) else 0) else 0) n ≤ n
  | 0, _ => ⟨by show v = v + 0; omega, by show (0 : Int) ≤ 0; decide, by show (0 : Int) ≤ 0; decide⟩
  | n + 1, hn => by
    obtain ⟨i1, i2, i3⟩ := rq_bx_v u j h0 h1 n (by omega)
    rw [rq_bx_s, rq_sum_s]
    by_cases z1 : rq_tt ρ a.toNat n t = (j : Int)
    · rw [if_pos z1]
      by_cases z2 : u.testBit n = false
      · rw [if_pos ⟨z2, z1⟩, if_pos (by rw [z2]; rfl), i1, rq_iadd (by omega) (by omega)]
        omega
      · rw [if_neg (fun q => z2 q.1), if_neg (by simpa using z2), i1]
        omega
    · rw [if_neg (fun q => z1 q.2), if_neg z1, i1]
      omega
theorem rq_ci_ap (p : rq_Lf → Bool) (L : List rq_Lf) (l : rq_Lf) : rq_ci p (L ++ [l]) = rq_ci p L + if p l = true then 1 else 0 := by
  have a := rq_ci_one p l
  unfold rq_ci at a ⊢
  rw [List.countP_append, Int.natCast_add, a]
theorem rq_ci_le (p : rq_Lf → Bool) (L : List rq_Lf) : 0 ≤ rq_ci p L ∧ rq_ci p L ≤ (L.length : Int) := by
  have := List.countP_le_length (p := p) (l := L)
  unfold rq_ci
  omega
/-- behind the ways L0 -/
def rq_P0 (ρ : rq_R) (t : Nat) (a : Int) (H : Nat) (L0 : List rq_Lf) (s : rq_Su) : Prop :=
  s.1 = (L0.length : Int) ∧
  (∀ x, x < 6 → L0 = [] ∨ (∃ v, v ≠ 6 ∧ (∀ l ∈ L0, l.1 x = v) ∧ s.2.1 x = v) ∨ ((¬ ∃ v, ∀ l ∈ L0, l.1 x = v) ∧ s.2.1 x = 6)) ∧
  (0 ≤ a → ∀ j : Nat, j < 10 → s.2.2 j = rq_sum (fun h => if rq_tt ρ a.toNat h t = (j : Int) then rq_ci (fun l => !l.2.testBit h) L0 else 0) H)
theorem rq_P0_step (hH : H ≤ 6) {L0 : List rq_Lf} {s : rq_Su} {l : rq_Lf} (h : rq_P0 ρ t a H L0 s) (hl : ∀ x, x < 6 → l.1 x ≠ 6) (hn : L0.length < 1000000) : rq_P0 ρ t a H (L0 ++ [l]) (rq_sp ρ t a H s l) := by
  obtain ⟨h1, h2, h3⟩ := h
  refine ⟨?_, fun x hx => ?_, fun ha j hj => ?_⟩
  · show rt_iadd s.1 1 = _
    rw [h1, rq_iadd (by omega) (by omega), List.length_append]
    simp
  · have e : (rq_sp ρ t a H s l).2.1 x = if s.1 = 0 ∨ s.2.1 x = l.1 x then l.1 x else 6 := by
      show (if x < 6 then _ else _) = _
      rw [if_pos hx]
    rw [e]
    refine Or.inr ?_
    have l6 := hl x hx
    rcases h2 x hx with e0 | ⟨v, v6, hv, ev⟩ | ⟨no, ev⟩
    · subst e0
      have s0 : s.1 = 0 := by rw [h1]; rfl
      rw [if_pos (Or.inl s0)]
      refine Or.inl ⟨l.1 x, l6, fun q hq => ?_, rfl⟩
      rw [List.nil_append, List.mem_singleton] at hq
      rw [hq]
    · by_cases z0 : s.1 = 0
      · have hL : L0 = [] := List.eq_nil_of_length_eq_zero (by omega)
        subst hL
        rw [if_pos (Or.inl z0)]
        refine Or.inl ⟨l.1 x, l6, fun q hq => ?_, rfl⟩
        rw [List.nil_append, List.mem_singleton] at hq
        rw [hq]
      · by_cases z : s.2.1 x = l.1 x
        · rw [if_pos (Or.inr z)]
          refine Or.inl ⟨l.1 x, l6, fun q hq => ?_, rfl⟩
          rw [List.mem_append, List.mem_singleton] at hq
          rcases hq with hq | hq
          · rw [hv q hq, ← ev, z]
          · rw [hq]
        · rw [if_neg (fun q => q.elim z0 z)]
          refine Or.inr ⟨?_, rfl⟩
          rintro ⟨w, hw⟩
          have hne : L0 ≠ [] := fun q => z0 (by rw [h1, q]; rfl)
          obtain ⟨q, hq⟩ := List.exists_mem_of_ne_nil L0 hne
          have e1 := hw q (List.mem_append_left _ hq)
          have e2 := hw l (List.mem_append_right _ (List.mem_singleton.mpr rfl))
          rw [hv q hq] at e1
          exact z (by rw [ev, e2, e1])
    · have hne : L0 ≠ [] := fun q => no ⟨0, fun l' hl' => by rw [q] at hl'; cases hl'⟩
      have z0 : ¬ s.1 = 0 := fun q => hne (List.eq_nil_of_length_eq_zero (by omega))
      rw [if_neg (by rintro (q | q); exact z0 q; exact l6 (by rw [← q, ev]))]
      refine Or.inr ⟨?_, rfl⟩
      rintro ⟨w, hw⟩
      exact no ⟨w, fun q hq => hw q (List.mem_append_left _ hq)⟩
  · have e : (rq_sp ρ t a H s l).2.2 j = rq_bx ρ t a l.2 j (s.2.2 j) H := by
      show (if a < 0 then _ else _) = _
      rw [if_neg (by omega)]
    have sb := rq_sum_b (f := fun h => if rq_tt ρ a.toNat h t = (j : Int) then rq_ci (fun l => !l.2.testBit h) L0 else 0) (c := 1000000) (by decide) H (fun h _ => by
      have := rq_ci_le (fun l => !l.2.testBit h) L0
      split <;> omega)
    rw [e, h3 ha j hj, (rq_bx_v l.2 j sb.1 (by omega) H hH).1, ← rq_sum_ad]
    refine rq_sum_c _ (fun h _ => ?_)
    rw [rq_ci_ap]
    split
    · rfl
    · rfl
theorem rq_P0_fold (hH : H ≤ 6) : ∀ (L L0 : List rq_Lf) (s : rq_Su), rq_P0 ρ t a H L0 s → (∀ l ∈ L, ∀ x, x < 6 → l.1 x ≠ 6) → L0.length + L.length < 1000000 → rq_P0 ρ t a H (L0 ++ L) (L.foldl (rq_sp ρ t a H) s)
  | [], L0, s, h, _, _ => by rw [List.append_nil]; exact h
  | l :: L, L0, s, h, hl, hn => by
    rw [List.length_cons] at hn
    have := rq_P0_fold hH L (L0 ++ [l]) (rq_sp ρ t a H s l) (rq_P0_step hH h (hl l List.mem_cons_self) (by omega)) (fun q hq => hl q (List.mem_cons_of_mem _ hq)) (by rw [List.length_append]; simp; omega)
    rw [List.append_assoc, List.singleton_append] at this
    exact this
end
