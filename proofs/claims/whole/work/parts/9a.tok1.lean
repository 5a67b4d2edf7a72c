/-! Layer 3: the text and its tokens -/
def rq_bla (c : Int) : Bool := decide (c = 10) || decide (c = 32)
def rq_ll (c : Int) : Bool := decide (97 ≤ c) && decide (c ≤ 122)
def rq_dd (c : Int) : Bool := decide (48 ≤ c) && decide (c ≤ 57)
/-- the first place from p on whose sign is not such, or n -/
def rq_rf (P : Int → Bool) (s : Nat → Int) (n : Nat) : Nat → Nat → Nat
  | 0 => fun p => p
  | f + 1 => fun p => if p < n ∧ P (s p) = true then rq_rf P s n f (p + 1) else p
def rq_ru (P : Int → Bool) (s : Nat → Int) (n p : Nat) : Nat := rq_rf P s n (n - p) p
section
variable {P : Int → Bool} {s : Nat → Int} {n : Nat}
theorem rq_rf_ge : ∀ f p, p ≤ rq_rf P s n f p
  | 0, p => Nat.le_refl p
  | f + 1, p => by
    show p ≤ (if p < n ∧ P (s p) = true then rq_rf P s n f (p + 1) else p)
    split
    · exact Nat.le_trans (Nat.le_succ p) (rq_rf_ge f (p + 1))
    · exact Nat.le_refl p
theorem rq_rf_le : ∀ f p, p ≤ n → rq_rf P s n f p ≤ n
  | 0, p, h => h
  | f + 1, p, h => by
    show (if p < n ∧ P (s p) = true then rq_rf P s n f (p + 1) else p) ≤ n
    split
    · exact rq_rf_le f (p + 1) (by omega)
    · exact h
theorem rq_rf_in : ∀ f p q, p ≤ q → q < rq_rf P s n f p → q < n ∧ P (s q) = true
  | 0, p, q, h1, h2 => absurd h2 (Nat.not_lt_of_le h1)
  | f + 1, p, q, h1, h2 => by
    change q < (if p < n ∧ P (s p) = true then rq_rf P s n f (p + 1) else p) at h2
    by_cases z : p < n ∧ P (s p) = true
    · rw [if_pos z] at h2
      by_cases y : q = p
      · rw [y]; exact z
      · exact rq_rf_in f (p + 1) q (by omega) h2
    · rw [if_neg z] at h2
      omega
theorem rq_rf_at : ∀ f p, n - p ≤ f → rq_rf P s n f p < n → P (s (rq_rf P s n f p)) = false
  | 0, p, h1, h2 => by
    change p < n at h2
    omega
  | f + 1, p, h1, h2 => by
    change (if p < n ∧ P (s p) = true then rq_rf P s n f (p + 1) else p) < n at h2
    show P (s (if p < n ∧ P (s p) = true then rq_rf P s n f (p + 1) else p)) = false
    by_cases z : p < n ∧ P (s p) = true
    · rw [if_pos z] at h2 ⊢
      exact rq_rf_at f (p + 1) (by omega) h2
    · rw [if_neg z] at h2 ⊢
      simpa [h2] using z
theorem rq_ru_u {p q : Nat} (h1 : p ≤ q) (h2 : q ≤ n) (h3 : ∀ x, p ≤ x → x < q → P (s x) = true) (h4 : q < n → P (s q) = false) : rq_ru P s n p = q := by
  have a := rq_rf_ge (P := P) (s := s) (n := n) (n - p) p
  have b := rq_rf_le (P := P) (s := s) (n := n) (n - p) p (by omega)
  have c := rq_rf_in (P := P) (s := s) (n := n) (n - p) p
  have d := rq_rf_at (P := P) (s := s) (n := n) (n - p) p (Nat.le_refl _)
  unfold rq_ru
  rcases Nat.lt_trichotomy (rq_rf P s n (n - p) p) q with z | z | z
  · have := d (by omega)
    rw [h3 _ a z] at this
    cases this
  · exact z
  · have := (c q h1 z)
    rw [h4 this.1] at this
    cases this.2
theorem rq_ru_b {p : Nat} (h : p ≤ n) : p ≤ rq_ru P s n p ∧ rq_ru P s n p ≤ n := ⟨rq_rf_ge _ p, rq_rf_le _ p h⟩
theorem rq_ru_in {p q : Nat} (h1 : p ≤ q) (h2 : q < rq_ru P s n p) : q < n ∧ P (s q) = true := rq_rf_in _ p q h1 h2
theorem rq_ru_at {p : Nat} (h : rq_ru P s n p < n) : P (s (rq_ru P s n p)) = false := rq_rf_at _ p (Nat.le_refl _) h
/-- where a token at b ends; the next token from p on -/
def rq_en (s : Nat → Int) (n b : Nat) : Nat := if rq_ll (s b) = true then rq_ru rq_ll s n (b + 1) else if rq_dd (s b) = true then rq_ru rq_dd s n (b + 1) else b + 1
def rq_sk' (s : Nat → Int) (n p : Nat) : Nat := rq_ru rq_bla s n p
def rq_nxp (s : Nat → Int) (n b : Nat) : Nat := rq_sk' s n (rq_en s n b)
theorem rq_en_b {b : Nat} (h : b < n) : b < rq_en s n b ∧ rq_en s n b ≤ n := by
  unfold rq_en
  have a := rq_ru_b (P := rq_ll) (s := s) (n := n) (p := b + 1) (by omega)
  have c := rq_ru_b (P := rq_dd) (s := s) (n := n) (p := b + 1) (by omega)
  split
  · omega
  · split <;> omega
/-- the signs from b to e -/
def rq_cs (s : Nat → Int) (b e : Nat) : List Int := (List.range (e - b)).map (fun i => s (b + i))
theorem rq_cs_s (b k : Nat) : rq_cs s b (b + k + 1) = rq_cs s b (b + k) ++ [s (b + k)] := by
  unfold rq_cs
  rw [show b + k + 1 - b = k + 1 by omega, show b + k - b = k by omega, List.range_succ, List.map_append]
  rfl
theorem rq_cs_len (b e : Nat) : (rq_cs s b e).length = e - b := by unfold rq_cs; rw [List.length_map, List.length_range]
theorem rq_cs_mem {b e : Nat} {c : Int} (h : c ∈ rq_cs s b e) : ∃ q, b ≤ q ∧ q < e ∧ c = s q := by
  unfold rq_cs at h
  rw [List.mem_map] at h
  obtain ⟨i, hi, rfl⟩ := h
  rw [List.mem_range] at hi
  exact ⟨b + i, by omega, by omega, rfl⟩
end
/-- a number told by its signs -/
def rq_w10 (l : List Int) : Int := l.foldl (fun v c => v * 10 + (c - 48)) 0
theorem rq_pk_s (l : List Int) (c : Int) : rq_pk (l ++ [c]) = rq_pk l * 128 + c := by unfold rq_pk; rw [List.foldl_append]; rfl
theorem rq_w27_s (l : List Int) (c : Int) : rq_w27 (l ++ [c]) = rq_w27 l * 27 + (c - 96) := by unfold rq_w27; rw [List.foldl_append]; rfl
theorem rq_w10_s (l : List Int) (c : Int) : rq_w10 (l ++ [c]) = rq_w10 l * 10 + (c - 48) := by unfold rq_w10; rw [List.foldl_append]; rfl
def rq_al' (l : List Int) : Prop := ∀ c ∈ l, 97 ≤ c ∧ c ≤ 122
theorem rq_al_app {l : List Int} {c : Int} (h : rq_al' (l ++ [c])) : rq_al' l ∧ 97 ≤ c ∧ c ≤ 122 := ⟨fun x hx => h x (List.mem_append_left _ hx), h c (List.mem_append_right _ (List.mem_singleton.mpr rfl))⟩
theorem rq_pk_pos : ∀ k (l : List Int), l.length = k → rq_al' l → 0 ≤ rq_pk l ∧ (l ≠ [] → 97 ≤ rq_pk l)
  | 0, l, hk, _ => by
    have : l = [] := List.eq_nil_of_length_eq_zero hk
    subst this
    exact ⟨Int.le_refl 0, fun q => absurd rfl q⟩
  | k + 1, l, hk, hl => by
    rcases List.eq_nil_or_concat l with rfl | ⟨L, c, rfl⟩
    · cases hk
    · rw [List.concat_eq_append] at hk hl ⊢
      obtain ⟨h1, h2⟩ := rq_al_app hl
      have := (rq_pk_pos k L (by rw [List.length_append] at hk; simpa using hk) h1).1
      rw [rq_pk_s]
      exact ⟨by omega, fun _ => by omega⟩
theorem rq_w27_pos : ∀ k (l : List Int), l.length = k → rq_al' l → 0 ≤ rq_w27 l ∧ (l ≠ [] → 1 ≤ rq_w27 l)
  | 0, l, hk, _ => by
    have : l = [] := List.eq_nil_of_length_eq_zero hk
    subst this
    exact ⟨Int.le_refl 0, fun q => absurd rfl q⟩
  | k + 1, l, hk, hl => by
    rcases List.eq_nil_or_concat l with rfl | ⟨L, c, rfl⟩
    · cases hk
    · rw [List.concat_eq_append] at hk hl ⊢
      obtain ⟨h1, h2⟩ := rq_al_app hl
      have := (rq_w27_pos k L (by rw [List.length_append] at hk; simpa using hk) h1).1
      rw [rq_w27_s]
      exact ⟨by omega, fun _ => by omega⟩
theorem rq_pk_inj : ∀ k (l l' : List Int), l.length = k → rq_al' l → rq_al' l' → rq_pk l = rq_pk l' → l = l'
  | 0, l, l', hk, hl, hl', e => by
    have : l = [] := List.eq_nil_of_length_eq_zero hk
    subst this
    by_cases z : l' = []
    · rw [z]
    · have := (rq_pk_pos l'.length l' rfl hl').2 z
      have e0 : rq_pk [] = 0 := rfl
      omega
  | k + 1, l, l', hk, hl, hl', e => by
    rcases List.eq_nil_or_concat l with rfl | ⟨L, c, rfl⟩
    · cases hk
    · rw [List.concat_eq_append] at hk hl e ⊢
      obtain ⟨h1, h2⟩ := rq_al_app hl
      rcases List.eq_nil_or_concat l' with rfl | ⟨L', c', rfl⟩
      · have := (rq_pk_pos (L ++ [c]).length (L ++ [c]) rfl hl).2 (by simp)
        have e0 : rq_pk [] = 0 := rfl
        omega
      · rw [List.concat_eq_append] at hl' e ⊢
        obtain ⟨h1', h2'⟩ := rq_al_app hl'
        rw [rq_pk_s, rq_pk_s] at e
        have ec : c = c' := by omega
        rw [ec, rq_pk_inj k L L' (by rw [List.length_append] at hk; simpa using hk) h1 h1' (by omega)]
theorem rq_w27_inj : ∀ k (l l' : List Int), l.length = k → rq_al' l → rq_al' l' → rq_w27 l = rq_w27 l' → l = l'
  | 0, l, l', hk, hl, hl', e => by
    have : l = [] := List.eq_nil_of_length_eq_zero hk
    subst this
    by_cases z : l' = []
    · rw [z]
    · have := (rq_w27_pos l'.length l' rfl hl').2 z
      have e0 : rq_w27 [] = 0 := rfl
      omega
  | k + 1, l, l', hk, hl, hl', e => by
    rcases List.eq_nil_or_concat l with rfl | ⟨L, c, rfl⟩
    · cases hk
    · rw [List.concat_eq_append] at hk hl e ⊢
      obtain ⟨h1, h2⟩ := rq_al_app hl
      rcases List.eq_nil_or_concat l' with rfl | ⟨L', c', rfl⟩
      · have := (rq_w27_pos (L ++ [c]).length (L ++ [c]) rfl hl).2 (by simp)
        have e0 : rq_w27 [] = 0 := rfl
        omega
      · rw [List.concat_eq_append] at hl' e ⊢
        obtain ⟨h1', h2'⟩ := rq_al_app hl'
        rw [rq_w27_s, rq_w27_s] at e
        have ec : c = c' := by omega
        rw [ec, rq_w27_inj k L L' (by rw [List.length_append] at hk; simpa using hk) h1 h1' (by omega)]
/-- bounds of what is packed -/
theorem rq_pk_b : ∀ k (l : List Int), l.length = k → (∀ c ∈ l, 0 ≤ c ∧ c < 128) → 0 ≤ rq_pk l ∧ rq_pk l < 128 ^ k
  | 0, l, hk, _ => by
    have : l = [] := List.eq_nil_of_length_eq_zero hk
    subst this
    exact ⟨Int.le_refl 0, by decide⟩
  | k + 1, l, hk, hl => by
    rcases List.eq_nil_or_concat l with rfl | ⟨L, c, rfl⟩
    · cases hk
    · rw [List.concat_eq_append] at hk hl ⊢
      have hc := hl c (List.mem_append_right _ (List.mem_singleton.mpr rfl))
      have := rq_pk_b k L (by rw [List.length_append] at hk; simpa using hk) (fun x hx => hl x (List.mem_append_left _ hx))
      have e : (128 : Int) ^ (k + 1) = 128 ^ k * 128 := Int.pow_succ 128 k
      rw [rq_pk_s, e]
      generalize (128 : Int) ^ k = Q at this ⊢
      omega
theorem rq_w27_b : ∀ k (l : List Int), l.length = k → rq_al' l → rq_w27 l < 27 ^ k
  | 0, l, hk, _ => by
    have : l = [] := List.eq_nil_of_length_eq_zero hk
    subst this
    show (0 : Int) < 27 ^ 0
    decide
  | k + 1, l, hk, hl => by
    rcases List.eq_nil_or_concat l with rfl | ⟨L, c, rfl⟩
    · cases hk
    · rw [List.concat_eq_append] at hk hl ⊢
      obtain ⟨h1, h2⟩ := rq_al_app hl
      have := rq_w27_b k L (by rw [List.length_append] at hk; simpa using hk) h1
      have e : (27 : Int) ^ (k + 1) = 27 ^ k * 27 := Int.pow_succ 27 k
      rw [rq_w27_s, e]
      generalize (27 : Int) ^ k = Q at this ⊢
      omega
