/-! Layer 3: the reference's ways, one by one -/
section
variable {T : Nat → Bool} {F : Nat → Nat → Bool} {H : Nat}
abbrev rq_Lf : Type := (Nat → Int) × Nat
def rq_lv (T : Nat → Bool) (F : Nat → Nat → Bool) (H : Nat) : Nat → Nat → (Nat → Int) → Nat → List rq_Lf
  | 0 => fun _ U u => [(U, u)]
  | k + 1 => fun i U u => if T i = true then (List.range H).flatMap (fun h => if u.testBit h = false ∧ F i h = true then rq_lv T F H k (i + 1) (rq_at U i (h : Int)) (u ||| 2 ^ h) else []) else rq_lv T F H k (i + 1) (rq_at U i (-1)) u
theorem rq_lv_s (k i : Nat) (U : Nat → Int) (u : Nat) : rq_lv T F H (k + 1) i U u = if T i = true then (List.range H).flatMap (fun h => if u.testBit h = false ∧ F i h = true then rq_lv T F H k (i + 1) (rq_at U i (h : Int)) (u ||| 2 ^ h) else []) else rq_lv T F H k (i + 1) (rq_at U i (-1)) u := rfl
theorem rq_lv_cong : ∀ k i (U V : Nat → Int) u, (∀ j, j < i ∨ i + k ≤ j → U j = V j) → rq_lv T F H k i U u = rq_lv T F H k i V u
  | 0, i, U, V, u, h => by
    have : U = V := funext fun j => h j (by omega)
    rw [this]
  | k + 1, i, U, V, u, h => by
    have e : ∀ v : Int, ∀ j, j < i + 1 ∨ i + 1 + k ≤ j → rq_at U i v j = rq_at V i v j := fun v j hj => by
      unfold rq_at
      by_cases z : j = i
      · rw [if_pos z, if_pos z]
      · rw [if_neg z, if_neg z]; exact h j (by omega)
    rw [rq_lv_s, rq_lv_s, rq_lv_cong k (i + 1) _ _ u (e (-1))]
    by_cases z : T i = true
    · rw [if_pos z, if_pos z]
      have : (fun h : Nat => if u.testBit h = false ∧ F i h = true then rq_lv T F H k (i + 1) (rq_at U i (h : Int)) (u ||| 2 ^ h) else []) = (fun h : Nat => if u.testBit h = false ∧ F i h = true then rq_lv T F H k (i + 1) (rq_at V i (h : Int)) (u ||| 2 ^ h) else []) := funext fun g => by rw [rq_lv_cong k (i + 1) _ _ (u ||| 2 ^ g) (e (g : Int))]
      rw [this]
    · rw [if_neg z, if_neg z]
def rq_ci (p : rq_Lf → Bool) (L : List rq_Lf) : Int := ((L.countP p : Nat) : Int)
theorem rq_ci_nil (p : rq_Lf → Bool) : rq_ci p [] = 0 := rfl
theorem rq_ci_one (p : rq_Lf → Bool) (l : rq_Lf) : rq_ci p [l] = if p l = true then 1 else 0 := by
  unfold rq_ci
  rw [List.countP_cons, List.countP_nil]
  by_cases z : p l = true
  · rw [if_pos z, if_pos z]; rfl
  · rw [if_neg z, if_neg z]; rfl
theorem rq_ci_fm (p : rq_Lf → Bool) (f : Nat → List rq_Lf) : ∀ H, rq_ci p ((List.range H).flatMap f) = rq_sum (fun h => rq_ci p (f h)) H
  | 0 => rfl
  | H + 1 => by
    have a := rq_ci_fm p f H
    unfold rq_ci at a ⊢
    rw [List.range_succ, List.flatMap_append, List.countP_append, rq_sum_s, Int.natCast_add, a]
    simp
theorem rq_ci_if (p : rq_Lf → Bool) (q : Prop) [Decidable q] (L : List rq_Lf) : rq_ci p (if q then L else []) = if q then rq_ci p L else 0 := by
  by_cases z : q
  · rw [if_pos z, if_pos z]
  · rw [if_neg z, if_neg z]; rfl
theorem rq_ci_s (p : rq_Lf → Bool) (k i : Nat) (U : Nat → Int) (u : Nat) : rq_ci p (rq_lv T F H (k + 1) i U u) = if T i = true then rq_sum (fun h => if u.testBit h = false ∧ F i h = true then rq_ci p (rq_lv T F H k (i + 1) (rq_at U i (h : Int)) (u ||| 2 ^ h)) else 0) H else rq_ci p (rq_lv T F H k (i + 1) (rq_at U i (-1)) u) := by
  rw [rq_lv_s]
  by_cases z : T i = true
  · rw [if_pos z, if_pos z, rq_ci_fm]
    exact rq_sum_c _ (fun h _ => rq_ci_if p _ _)
  · rw [if_neg z, if_neg z]
theorem rq_ci_all : ∀ k i (U : Nat → Int) u, rq_ci (fun _ => true) (rq_lv T F H k i U u) = rq_cf T F H k i u
  | 0, i, U, u => rfl
  | k + 1, i, U, u => by
    rw [rq_ci_s, rq_cf_s, rq_ci_all k]
    refine rq_ifc (fun _ => rq_sum_c _ (fun h _ => ?_)) (fun _ => rfl)
    rw [rq_ci_all k]
theorem rq_ci_bare (h : Nat) : ∀ k i (U : Nat → Int) u, rq_ci (fun l => !l.2.testBit h) (rq_lv T F H k i U u) = if u.testBit h = false then rq_cf T F H k i (u ||| 2 ^ h) else 0
  | 0, i, U, u => by
    show rq_ci _ [(U, u)] = _
    rw [rq_ci_one]
    show (if (!u.testBit h) = true then (1 : Int) else 0) = if u.testBit h = false then 1 else 0
    cases u.testBit h <;> rfl
  | k + 1, i, U, u => by
    rw [rq_ci_s, rq_cf_s, rq_ci_bare h k]
    by_cases z : T i = true
    · rw [if_pos z, if_pos z, rq_sum_if]
      refine rq_sum_c _ (fun g _ => ?_)
      rw [rq_ci_bare h k, rq_or_tb, rq_or_tb, rq_or_sw]
      by_cases y1 : u.testBit h = false
      · rw [if_pos y1]
        by_cases y2 : u.testBit g = false ∧ F i g = true
        · rw [if_pos y2]
          by_cases y3 : g = h
          · rw [if_neg (by simp [y3]), if_neg (by simp [y3])]
          · rw [if_pos (by simp [y1, y3]), if_pos (by simp [y2.1, y2.2, show ¬ h = g from fun q => y3 q.symm])]
        · rw [if_neg y2, if_neg]
          rintro ⟨q1, q2⟩
          simp only [Bool.or_eq_false_iff] at q1
          exact y2 ⟨q1.1, q2⟩
      · rw [if_neg y1]
        by_cases y2 : u.testBit g = false ∧ F i g = true
        · rw [if_pos y2, if_neg]
          intro q1
          simp only [Bool.or_eq_false_iff] at q1
          exact y1 q1.1
        · rw [if_neg y2]
    · rw [if_neg z, if_neg z]
/-- before its turn a wig is where it was -/
theorem rq_lv_at : ∀ k i (U : Nat → Int) u x, x < i ∨ i + k ≤ x → ∀ l ∈ rq_lv T F H k i U u, l.1 x = U x
  | 0, i, U, u, x, _, l, hl => by
    have : l = (U, u) := List.mem_singleton.mp hl
    rw [this]
  | k + 1, i, U, u, x, hx, l, hl => by
    have e : ∀ v : Int, rq_at U i v x = U x := fun v => by unfold rq_at; rw [if_neg (by omega)]
    rw [rq_lv_s] at hl
    by_cases z : T i = true
    · rw [if_pos z, List.mem_flatMap] at hl
      obtain ⟨h, -, hl⟩ := hl
      by_cases y : u.testBit h = false ∧ F i h = true
      · rw [if_pos y] at hl
        rw [rq_lv_at k (i + 1) _ _ x (by omega) l hl, e]
      · rw [if_neg y] at hl; cases hl
    · rw [if_neg z] at hl
      rw [rq_lv_at k (i + 1) _ _ x (by omega) l hl, e]
theorem rq_lv_no : ∀ k i (U : Nat → Int) u x, i ≤ x → x < i + k → T x = false → ∀ l ∈ rq_lv T F H k i U u, l.1 x = -1
  | 0, i, U, u, x, h1, h2, _, l, hl => by omega
  | k + 1, i, U, u, x, h1, h2, hT, l, hl => by
    rw [rq_lv_s] at hl
    by_cases z : T i = true
    · have hne : x ≠ i := fun q => by rw [q, z] at hT; cases hT
      rw [if_pos z, List.mem_flatMap] at hl
      obtain ⟨h, -, hl⟩ := hl
      by_cases y : u.testBit h = false ∧ F i h = true
      · rw [if_pos y] at hl
        exact rq_lv_no k (i + 1) _ _ x (by omega) (by omega) hT l hl
      · rw [if_neg y] at hl; cases hl
    · rw [if_neg z] at hl
      by_cases y : x = i
      · rw [rq_lv_at k (i + 1) _ _ x (by omega) l hl, y]
        unfold rq_at; rw [if_pos rfl]
      · exact rq_lv_no k (i + 1) _ _ x (by omega) (by omega) hT l hl
theorem rq_ci_0 {p : rq_Lf → Bool} {L : List rq_Lf} (h : ∀ l ∈ L, p l = false) : rq_ci p L = 0 := by
  unfold rq_ci
  rw [List.countP_eq_zero.mpr (fun l hl => by rw [h l hl]; decide)]
  rfl
theorem rq_ci_c {p q : rq_Lf → Bool} {L : List rq_Lf} (h : ∀ l ∈ L, p l = q l) : rq_ci p L = rq_ci q L := by
  unfold rq_ci
  rw [List.countP_congr (fun l hl => by rw [h l hl])]
/-- the ways by which x is on h: all the others keep off it -/
theorem rq_ci_on {x h : Nat} (hh : h < H) {T' : Nat → Bool} (hT' : ∀ j, j ≠ x → T' j = T j) (hTx : T x = true) (hTx' : T' x = false) : ∀ k i (U : Nat → Int) u, i ≤ x → x < i + k → rq_ci (fun l => l.1 x == (h : Int)) (rq_lv T F H k i U u) = if u.testBit h = false ∧ F x h = true then rq_cf T' F H k i (u ||| 2 ^ h) else 0
  | 0, i, U, u, h1, h2 => by omega
  | k + 1, i, U, u, h1, h2 => by
    rw [rq_ci_s, rq_cf_s]
    by_cases y : x = i
    · subst y
      rw [if_pos hTx, if_neg (show ¬ T' x = true by rw [hTx']; decide)]
      have e : ∀ g : Nat, (if u.testBit g = false ∧ F x g = true then rq_ci (fun l => l.1 x == (h : Int)) (rq_lv T F H k (x + 1) (rq_at U x (g : Int)) (u ||| 2 ^ g)) else 0) = if g = h then (if u.testBit h = false ∧ F x h = true then rq_cf T F H k (x + 1) (u ||| 2 ^ h) else 0) else 0 := fun g => by
        have at' : ∀ l ∈ rq_lv T F H k (x + 1) (rq_at U x (g : Int)) (u ||| 2 ^ g), l.1 x = (g : Int) := fun l hl => by
          rw [rq_lv_at k (x + 1) _ _ x (by omega) l hl]
          unfold rq_at; rw [if_pos rfl]
        by_cases z : g = h
        · subst z
          rw [if_pos rfl, rq_ci_c (q := fun _ => true) (fun l hl => by rw [at' l hl]; simp), rq_ci_all]
        · rw [if_neg z, rq_ci_0 (fun l hl => by rw [at' l hl]; simp; omega)]
          split <;> rfl
      rw [rq_sum_c _ (fun g _ => e g)]
      have := rq_sum_one (f := fun _ => 0) (f' := fun g => if g = h then (if u.testBit h = false ∧ F x h = true then rq_cf T F H k (x + 1) (u ||| 2 ^ h) else 0) else 0) (w := h) (d := if u.testBit h = false ∧ F x h = true then rq_cf T F H k (x + 1) (u ||| 2 ^ h) else 0) (fun g hg => by show (if g = h then _ else (0 : Int)) = 0; rw [if_neg hg]) (by show (if h = h then _ else (0 : Int)) = 0 + _; rw [if_pos rfl, Int.zero_add]) H hh
      rw [this, rq_sum_0, Int.zero_add, rq_cf_cong (T := T) (T' := T') (i := x + 1) (fun j hj => (hT' j (by omega)).symm) k (x + 1) _ (Nat.le_refl _)]
    · rw [hT' i (fun q => y q.symm), rq_ci_on hh hT' hTx hTx' k (i + 1) _ u (by omega) (by omega)]
      by_cases z : T i = true
      · rw [if_pos z, if_pos z, rq_sum_if]
        refine rq_sum_c _ (fun g _ => ?_)
        rw [rq_ci_on hh hT' hTx hTx' k (i + 1) _ _ (by omega) (by omega), rq_or_tb, rq_or_tb, rq_or_sw]
        by_cases y1 : u.testBit h = false ∧ F x h = true
        · rw [if_pos y1]
          by_cases y2 : u.testBit g = false ∧ F i g = true
          · rw [if_pos y2]
            by_cases y3 : g = h
            · rw [if_neg (by simp [y3]), if_neg (by simp [y3])]
            · rw [if_pos (by simp [y1.1, y1.2, y3]), if_pos (by simp [y2.1, y2.2, show ¬ h = g from fun q => y3 q.symm])]
          · rw [if_neg y2, if_neg]
            rintro ⟨q1, q2⟩
            simp only [Bool.or_eq_false_iff] at q1
            exact y2 ⟨q1.1, q2⟩
        · rw [if_neg y1]
          by_cases y2 : u.testBit g = false ∧ F i g = true
          · rw [if_pos y2, if_neg]
            rintro ⟨q1, q2⟩
            simp only [Bool.or_eq_false_iff] at q1
            exact y1 ⟨q1.1, q2⟩
          · rw [if_neg y2]
      · rw [if_neg z, if_neg z]
end
