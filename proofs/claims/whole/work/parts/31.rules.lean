/-! Layer 3: a function ends, and P holds of what it answers -/
def rq {α : Type} (o : Option α) (P : α → Prop) : Prop := ∃ a, o = some a ∧ P a
section
variable {α β : Type} {P : α → Prop} {mem : rt_M}
theorem rq_some {a : α} : rq (some a) P ↔ P a := ⟨fun ⟨b, h, k⟩ => (by cases h; exact k), fun h => ⟨a, rfl, h⟩⟩
theorem rq_none : rq (none : Option α) P ↔ False := ⟨fun ⟨b, h, k⟩ => (by cases h), fun h => h.elim⟩
theorem rq_bind {o : Option β} {f : β → Option α} : rq (o.bind f) P ↔ rq o (fun a => rq (f a) P) := by
  cases o with
  | none => exact ⟨fun ⟨b, h, k⟩ => (by cases h), fun ⟨b, h, k⟩ => (by cases h)⟩
  | some a => exact ⟨fun h => ⟨a, rfl, h⟩, fun ⟨b, h, k⟩ => (by cases h; exact k)⟩
theorem rq_map {o : Option β} {g : β → α} : rq (Option.map g o) P ↔ rq o (fun a => P (g a)) := by
  cases o with
  | none => exact ⟨fun ⟨b, h, k⟩ => (by cases h), fun ⟨b, h, k⟩ => (by cases h)⟩
  | some a => exact ⟨fun ⟨b, h, k⟩ => ⟨a, rfl, by cases h; exact k⟩, fun ⟨b, h, k⟩ => ⟨g b, by rw [h]; rfl, k⟩⟩
theorem rq_ite {c : Prop} [Decidable c] {x y : Option α} : rq (if c then x else y) P ↔ (c → rq x P) ∧ (¬ c → rq y P) := by
  by_cases h : c
  · rw [if_pos h]; exact ⟨fun k => ⟨fun _ => k, fun q => absurd h q⟩, fun k => k.1 h⟩
  · rw [if_neg h]; exact ⟨fun k => ⟨fun q => absurd q h, fun _ => k⟩, fun k => k.2 h⟩
theorem rq_if {c : Prop} [Decidable c] {x y : Option α} (h1 : c → rq x P) (h2 : ¬ c → rq y P) : rq (if c then x else y) P := rq_ite.mpr ⟨h1, h2⟩
theorem rq_mono {o : Option α} {Q : α → Prop} (h : rq o Q) (k : ∀ a, Q a → P a) : rq o P := by
  obtain ⟨a, e, q⟩ := h; exact ⟨a, e, k a q⟩
theorem rq_call {o : Option β} {Q : β → Prop} {f : β → Option α} (h : rq o Q) (k : ∀ a, Q a → rq (f a) P) : rq (o.bind f) P := rq_bind.mpr (rq_mono h k)
theorem rq_eq {o : Option α} {a : α} (h : o = some a) (k : P a) : rq o P := ⟨a, h, k⟩
theorem rq_of {o : Option α} {a : α} (h : rq o (fun b => b = a)) : o = some a := by obtain ⟨b, e, rfl⟩ := h; exact e
theorem rq_gf {ci j : Nat} {x : Int} {P : Int → Prop} : rq (rt_gf ci j x mem) P ↔ rt_kd x.toNat = 20 + ci ∧ P (mem x.toNat j) := by
  unfold rt_gf; rw [rq_ite]; constructor
  · intro h
    by_cases q : rt_kd x.toNat = 20 + ci
    · exact ⟨q, rq_some.mp (h.1 q)⟩
    · exact (rq_none.mp (h.2 q)).elim
  · intro h; exact ⟨fun _ => rq_some.mpr h.2, fun q => absurd h.1 q⟩
theorem rq_pf {ci j : Nat} {x v : Int} {P : rt_M → Prop} : rq (rt_pf ci j x v mem) P ↔ rt_kd x.toNat = 20 + ci ∧ P (rt_up mem x.toNat j v) := by
  unfold rt_pf; rw [rq_ite]; constructor
  · intro h
    by_cases q : rt_kd x.toNat = 20 + ci
    · exact ⟨q, rq_some.mp (h.1 q)⟩
    · exact (rq_none.mp (h.2 q)).elim
  · intro h; exact ⟨fun _ => rq_some.mpr h.2, fun q => absurd h.1 q⟩
theorem rq_al {tc : Nat} {x i : Int} {P : Int → Prop} : rq (rt_al tc x i mem) P ↔ (rt_kd x.toNat = tc ∧ 0 ≤ i ∧ i < (rt_ln x.toNat : Int)) ∧ P (mem x.toNat i.toNat) := by
  unfold rt_al; rw [rq_ite]; constructor
  · intro h
    by_cases q : rt_kd x.toNat = tc ∧ 0 ≤ i ∧ i < (rt_ln x.toNat : Int)
    · exact ⟨q, rq_some.mp (h.1 q)⟩
    · exact (rq_none.mp (h.2 q)).elim
  · intro h; exact ⟨fun _ => rq_some.mpr h.2, fun q => absurd h.1 q⟩
theorem rq_sa {tc : Nat} {x i v : Int} {P : rt_M → Prop} : rq (rt_sa tc x i v mem) P ↔ (rt_kd x.toNat = tc ∧ 0 ≤ i ∧ i < (rt_ln x.toNat : Int)) ∧ P (rt_up mem x.toNat i.toNat v) := by
  unfold rt_sa; rw [rq_ite]; constructor
  · intro h
    by_cases q : rt_kd x.toNat = tc ∧ 0 ≤ i ∧ i < (rt_ln x.toNat : Int)
    · exact ⟨q, rq_some.mp (h.1 q)⟩
    · exact (rq_none.mp (h.2 q)).elim
  · intro h; exact ⟨fun _ => rq_some.mpr h.2, fun q => absurd h.1 q⟩
theorem rq_len {tc : Nat} {x : Int} {P : Int → Prop} : rq (rt_len tc x) P ↔ rt_kd x.toNat = tc ∧ P (rt_ln x.toNat : Int) := by
  unfold rt_len; rw [rq_ite]; constructor
  · intro h
    by_cases q : rt_kd x.toNat = tc
    · exact ⟨q, rq_some.mp (h.1 q)⟩
    · exact (rq_none.mp (h.2 q)).elim
  · intro h; exact ⟨fun _ => rq_some.mpr h.2, fun q => absurd h.1 q⟩
theorem rq_bz {v : Int} {P : Int → Prop} : rq (rt_bz v) P ↔ (v = 0 ∨ v = 1) ∧ P v := by
  unfold rt_bz; rw [rq_ite]; constructor
  · intro h
    by_cases q : v = 0 ∨ v = 1
    · exact ⟨q, rq_some.mp (h.1 q)⟩
    · exact (rq_none.mp (h.2 q)).elim
  · intro h; exact ⟨fun _ => rq_some.mpr h.2, fun q => absurd h.1 q⟩
theorem rq_cz {v : Int} {P : Int → Prop} : rq (rt_cz v) P ↔ (0 ≤ v ∧ v < 65536) ∧ P v := by
  unfold rt_cz; rw [rq_ite]; constructor
  · intro h
    by_cases q : 0 ≤ v ∧ v < 65536
    · exact ⟨q, rq_some.mp (h.1 q)⟩
    · exact (rq_none.mp (h.2 q)).elim
  · intro h; exact ⟨fun _ => rq_some.mpr h.2, fun q => absurd h.1 q⟩
theorem rq_gd {ci : Nat} {x : Int} {o : Option α} : rq (rt_gd ci x o) P ↔ rt_kd x.toNat = 20 + ci ∧ rq o P := by
  unfold rt_gd; rw [rq_ite]; constructor
  · intro h
    by_cases q : rt_kd x.toNat = 20 + ci
    · exact ⟨q, h.1 q⟩
    · exact (rq_none.mp (h.2 q)).elim
  · intro h; exact ⟨fun _ => h.2, fun q => absurd h.1 q⟩
theorem rq_saw {x i v : Int} {P : rt_M → Prop} : rq (rt_saw x i v mem) P ↔ (0 ≤ v ∧ v < 39) ∧ rq (rt_sa 5 x i v mem) P := by
  unfold rt_saw; rw [rq_ite]; constructor
  · intro h
    by_cases q : 0 ≤ v ∧ v < 39
    · exact ⟨q, h.1 q⟩
    · exact (rq_none.mp (h.2 q)).elim
  · intro h; exact ⟨fun _ => h.2, fun q => absurd h.1 q⟩
end
/-! loops that count up -/
theorem rq_up {S E : Type} {b : S → Option (S ⊕ E)} {Q : E → Prop} (I : Nat → S → Prop) (n : Nat) (hn : n < 4000)
    (step : ∀ i s, i < n → I i s → rq (b s) (fun t => (∀ s', t = .inl s' → I (i + 1) s') ∧ (∀ e, t = .inr e → Q e)))
    (last : ∀ s, I n s → rq (b s) (fun t => ∃ e, t = .inr e ∧ Q e)) {s0 : S} (h0 : I 0 s0) : rq (rt_it b 4000 s0) Q := by
  have key : ∀ m i s, i ≤ n → n - i < m → I i s → rq (rt_it b m s) Q := by
    intro m
    induction m with
    | zero => intro i s hi hm; omega
    | succ m ih =>
      intro i s hi hm h
      by_cases hl : i = n
      · subst hl
        obtain ⟨t, e, x, hx, q⟩ := last s h
        subst hx
        refine ⟨x, ?_, q⟩
        unfold rt_it; rw [e]
      · obtain ⟨t, e, k1, k2⟩ := step i s (by omega) h
        cases t with
        | inl s' =>
          obtain ⟨x, ex, qx⟩ := ih (i + 1) s' (by omega) (by omega) (k1 s' rfl)
          refine ⟨x, ?_, qx⟩
          unfold rt_it; rw [e]; exact ex
        | inr x => exact ⟨x, by unfold rt_it; rw [e], k2 x rfl⟩
  exact key 4000 0 s0 (Nat.zero_le _) (by omega) h0
theorem rq_inl {S E : Type} {s : S} {A : S → Prop} {B : E → Prop} (h : A s) : (∀ s', (Sum.inl s : S ⊕ E) = .inl s' → A s') ∧ (∀ e, (Sum.inl s : S ⊕ E) = .inr e → B e) := ⟨fun s' q => (by cases q; exact h), fun e q => (by cases q)⟩
theorem rq_inr {S E : Type} {x : E} {A : S → Prop} {B : E → Prop} (h : B x) : (∀ s', (Sum.inr x : S ⊕ E) = .inl s' → A s') ∧ (∀ e, (Sum.inr x : S ⊕ E) = .inr e → B e) := ⟨fun s' q => (by cases q), fun e q => (by cases q; exact h)⟩
theorem rq_inre {S E : Type} {x : E} {B : E → Prop} (h : B x) : ∃ e, (Sum.inr x : S ⊕ E) = .inr e ∧ B e := ⟨x, rfl, h⟩
/-! numbers that stay small -/
theorem rq_bm {x : Int} (h1 : -2147483648 ≤ x) (h2 : x < 2147483648) : x.bmod 4294967296 = x := Int.bmod_eq_of_le (by show -(4294967296 / 2) ≤ x; omega) (by show x < (4294967296 + 1) / 2; omega)
theorem rq_bl {x : Int} (h1 : -9223372036854775808 ≤ x) (h2 : x < 9223372036854775808) : x.bmod 18446744073709551616 = x := Int.bmod_eq_of_le (by show -(18446744073709551616 / 2) ≤ x; omega) (by show x < (18446744073709551616 + 1) / 2; omega)
theorem rq_iadd0 (x y : Int) : rt_iadd x y = (x + y).bmod 4294967296 := by
  unfold rt_iadd; rw [Int32.toInt_add, Int32.toInt_ofInt, Int32.toInt_ofInt]
  show (x.bmod 4294967296 + y.bmod 4294967296).bmod 4294967296 = _
  rw [Int.bmod_add_bmod, Int.add_bmod_bmod]
theorem rq_isub0 (x y : Int) : rt_isub x y = (x - y).bmod 4294967296 := by
  unfold rt_isub; rw [Int32.toInt_sub, Int32.toInt_ofInt, Int32.toInt_ofInt]
  show (x.bmod 4294967296 - y.bmod 4294967296).bmod 4294967296 = _
  rw [Int.bmod_sub_bmod, Int.sub_bmod_bmod]
theorem rq_imul0 (x y : Int) : rt_imul x y = (x * y).bmod 4294967296 := by
  unfold rt_imul; rw [Int32.toInt_mul, Int32.toInt_ofInt, Int32.toInt_ofInt]
  show (x.bmod 4294967296 * y.bmod 4294967296).bmod 4294967296 = _
  rw [Int.bmod_mul_bmod, Int.mul_bmod_bmod]
theorem rq_ladd0 (x y : Int) : rt_ladd x y = (x + y).bmod 18446744073709551616 := by
  unfold rt_ladd; rw [Int64.toInt_add, Int64.toInt_ofInt, Int64.toInt_ofInt]
  show (x.bmod 18446744073709551616 + y.bmod 18446744073709551616).bmod 18446744073709551616 = _
  rw [Int.bmod_add_bmod, Int.add_bmod_bmod]
theorem rq_lmul0 (x y : Int) : rt_lmul x y = (x * y).bmod 18446744073709551616 := by
  unfold rt_lmul; rw [Int64.toInt_mul, Int64.toInt_ofInt, Int64.toInt_ofInt]
  show (x.bmod 18446744073709551616 * y.bmod 18446744073709551616).bmod 18446744073709551616 = _
  rw [Int.bmod_mul_bmod, Int.mul_bmod_bmod]
theorem rq_lsub0 (x y : Int) : rt_lsub x y = (x - y).bmod 18446744073709551616 := by
  unfold rt_lsub; rw [Int64.toInt_sub, Int64.toInt_ofInt, Int64.toInt_ofInt]
  show (x.bmod 18446744073709551616 - y.bmod 18446744073709551616).bmod 18446744073709551616 = _
  rw [Int.bmod_sub_bmod, Int.sub_bmod_bmod]
theorem rq_iadd {x y : Int} (h1 : -2147483648 ≤ x + y) (h2 : x + y < 2147483648) : rt_iadd x y = x + y := by rw [rq_iadd0, rq_bm h1 h2]
theorem rq_isub {x y : Int} (h1 : -2147483648 ≤ x - y) (h2 : x - y < 2147483648) : rt_isub x y = x - y := by rw [rq_isub0, rq_bm h1 h2]
theorem rq_imul {x y : Int} (h1 : -2147483648 ≤ x * y) (h2 : x * y < 2147483648) : rt_imul x y = x * y := by rw [rq_imul0, rq_bm h1 h2]
theorem rq_ladd {x y : Int} (h1 : -9223372036854775808 ≤ x + y) (h2 : x + y < 9223372036854775808) : rt_ladd x y = x + y := by rw [rq_ladd0, rq_bl h1 h2]
theorem rq_lmul {x y : Int} (h1 : -9223372036854775808 ≤ x * y) (h2 : x * y < 9223372036854775808) : rt_lmul x y = x * y := by rw [rq_lmul0, rq_bl h1 h2]
theorem rq_lsub {x y : Int} (h1 : -9223372036854775808 ≤ x - y) (h2 : x - y < 9223372036854775808) : rt_lsub x y = x - y := by rw [rq_lsub0, rq_bl h1 h2]
theorem rq_ok_bm (x : Int) : -2147483648 ≤ x.bmod 4294967296 ∧ x.bmod 4294967296 < 2147483648 := by
  have h1 := Int.le_bmod (x := x) (m := 4294967296) (by decide)
  have h2 := Int.bmod_lt (x := x) (m := 4294967296) (by decide)
  omega
theorem rq_n1 {i : Nat} (h : i < 100000) : rt_iadd (i : Int) 1 = ((i + 1 : Nat) : Int) := by rw [rq_iadd (by omega) (by omega)]; omega
theorem rq_1n {i : Nat} (h : i < 100000) : rt_iadd 1 (i : Int) = ((1 + i : Nat) : Int) := by rw [rq_iadd (by omega) (by omega)]; omega
theorem rq_7n {i : Nat} (h : i < 100000) : rt_iadd 7 (i : Int) = ((7 + i : Nat) : Int) := by rw [rq_iadd (by omega) (by omega)]; omega
theorem rq_idiv {x y : Int} (h0 : 0 ≤ x) (h1 : x < 2147483648) (h2 : 0 < y) (h3 : y < 2147483648) : rt_idiv x y = x / y := by
  unfold rt_idiv
  rw [Int32.toInt_div, Int32.toInt_ofInt, Int32.toInt_ofInt]
  show ((x.bmod 4294967296).tdiv (y.bmod 4294967296)).bmod 4294967296 = _
  rw [rq_bm (by omega) h1, rq_bm (by omega) h3, Int.tdiv_eq_ediv_of_nonneg h0]
  have a := Int.ediv_nonneg h0 (Int.le_of_lt h2)
  have b := Int.ediv_le_self y h0
  exact rq_bm (by omega) (by omega)
theorem rq_irem {x y : Int} (h0 : 0 ≤ x) (h1 : x < 2147483648) (h2 : 0 < y) (h3 : y < 2147483648) : rt_irem x y = x % y := by
  unfold rt_irem
  rw [Int32.toInt_sub, Int32.toInt_mul, Int32.toInt_div, Int32.toInt_ofInt, Int32.toInt_ofInt]
  show (x.bmod 4294967296 - (((x.bmod 4294967296).tdiv (y.bmod 4294967296)).bmod 4294967296 * y.bmod 4294967296).bmod 4294967296).bmod 4294967296 = _
  rw [rq_bm (x := x) (by omega) h1, rq_bm (x := y) (by omega) h3, Int.tdiv_eq_ediv_of_nonneg h0]
  have a := Int.ediv_nonneg h0 (Int.le_of_lt h2)
  have b := Int.ediv_le_self y h0
  rw [rq_bm (x := x / y) (by omega) (by omega)]
  have c : x % y = x - x / y * y := by have := Int.emod_add_mul_ediv x y; rw [Int.mul_comm] at this; omega
  have d := Int.emod_nonneg x (show y ≠ 0 by omega)
  have e := Int.emod_lt_of_pos x h2
  have f : 0 ≤ x / y * y := Int.mul_nonneg a (Int.le_of_lt h2)
  rw [rq_bm (x := x / y * y) (by omega) (by omega), ← c]
  exact rq_bm (by omega) (by omega)
theorem rq_or0 {x : Int} (h0 : -2147483648 ≤ x) (h1 : x < 2147483648) : rt_ior x 0 = x := by
  unfold rt_ior
  rw [show (Int32.ofInt 0) = 0 from rfl, Int32.or_zero, Int32.toInt_ofInt]
  exact rq_bm h0 h1
theorem rq_tb : ∀ x, x < 1024 → ∀ i, i < 10 → rt_iand (rt_ishr ((x : Nat) : Int) ((i : Nat) : Int)) 1 = if Nat.testBit x i then 1 else 0 := by decide +kernel
theorem rq_sb : ∀ x, x < 1024 → ∀ i, i < 10 → rt_ior ((x : Nat) : Int) (rt_ishl 1 ((i : Nat) : Int)) = ((x ||| 2 ^ i : Nat) : Int) := by decide +kernel
theorem rq_tbn : ∀ x, x < 64 → ∀ i, i < 6 → rt_iand (rt_ishr (rt_ixor ((x : Nat) : Int) (-1)) ((i : Nat) : Int)) 1 = if Nat.testBit x i then 0 else 1 := by decide +kernel
theorem rq_tbm : ∀ x, x < 64 → ∀ i, i < 6 → rt_iand (rt_ishr (rt_iand 63 (rt_ixor ((x : Nat) : Int) (-1))) ((i : Nat) : Int)) 1 = if Nat.testBit x i then 0 else 1 := by decide +kernel
theorem rq_pw : ∀ i, i < 31 → rt_ishl 1 ((i : Nat) : Int) = ((2 ^ i : Nat) : Int) := by decide +kernel
theorem rq_an : ∀ x, x < 64 → ∀ i, i < 6 → rt_iand ((x : Nat) : Int) (rt_ishl 1 ((i : Nat) : Int)) = ((x &&& 2 ^ i : Nat) : Int) := by decide +kernel
theorem rq_xo : ∀ x, x < 64 → ∀ i, i < 6 → rt_ixor ((x : Nat) : Int) (rt_ishl 1 ((i : Nat) : Int)) = ((x ^^^ 2 ^ i : Nat) : Int) := by decide +kernel
/-! what does not change -/
def rq_fr (W : Nat → Nat → Bool) (m m' : rt_M) : Prop := ∀ k j, W k j = false → m' k j = m k j
theorem rq_fr.rfl {W : Nat → Nat → Bool} {m : rt_M} : rq_fr W m m := fun _ _ _ => Eq.refl _
theorem rq_fr.trans {W : Nat → Nat → Bool} {m m1 m2 : rt_M} (h : rq_fr W m m1) (k : rq_fr W m1 m2) : rq_fr W m m2 := fun a j q => (k a j q).trans (h a j q)
theorem rq_fr.mono {W V : Nat → Nat → Bool} {m m' : rt_M} (h : rq_fr W m m') (k : ∀ a j, V a j = false → W a j = false) : rq_fr V m m' := fun a j q => h a j (k a j q)
theorem rq_fr.up {W : Nat → Nat → Bool} {m m' : rt_M} {k j : Nat} {v : Int} (h : rq_fr W m m') (q : W k j = true) : rq_fr W m (rt_up m' k j v) := fun a i z => by
  unfold rt_up
  rw [if_neg (fun e => by rw [e.1, e.2, q] at z; cases z)]
  exact h a i z
theorem rq_st_fr {W : Nat → Nat → Bool} {m m' : rt_M} (hs : rq_st m) (h : rq_fr W m m') (q : (rq_P.all fun p => !(W p.1 p.2.1)) = true) : rq_st m' := fun p hp => by
  rw [h p.1 p.2.1 (by have := List.all_eq_true.mp q p hp; simpa using this)]
  exact hs p hp
