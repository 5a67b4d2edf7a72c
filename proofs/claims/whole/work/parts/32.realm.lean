/-! Layer 3: a realm, as both have it -/
abbrev rq_R : Type := (Nat → Nat → Int) × (Int → Int → Int → Int) × (Int → Int → Int → Int)
/-- an int -/
abbrev rq_i (x : Int) : Prop := -2147483648 ≤ x ∧ x < 2147483648
def rq_ht (ρ : rq_R) (t : Nat) : Int := if ρ.1 0 3 = 0 then 0 else ρ.1 8 (t % (ρ.1 0 3).toNat)
def rq_cl (x : Int) : Int := if (-9 : Int) < (if x < 9 then x else 9) then (if x < 9 then x else 9) else -9
def rq_gi (ρ : rq_R) (h t : Nat) : Int := ρ.1 5 h + rq_cl (ρ.2.1 (rq_ht ρ t) (ρ.1 6 h + ((t / 4 : Nat) : Int)) (ρ.1 4 h)) + (if ρ.1 4 h = 3 then ((t / 4 : Nat) : Int) else 0) - (if ρ.1 4 h = 2 then 1 else 0)
def rq_ti (ρ : rq_R) (w h t : Nat) : Int := ρ.1 1 w - rq_gi ρ h t
def rq_fi (ρ : rq_R) (w h t : Nat) : Int := if 0 ≤ rq_ti ρ w h t ∧ rq_ti ρ w h t ≤ ρ.1 0 2 then 1 else 0
def rq_jf (ρ : rq_R) (lean : Int) (h : Nat) (hard : Int) : Int := if ρ.2.2 lean (ρ.1 7 h) hard = 0 then 0 else 1
def rq_va (ρ : rq_R) : Prop := (0 ≤ ρ.1 0 0 ∧ ρ.1 0 0 ≤ 6 ∧ 0 ≤ ρ.1 0 1 ∧ ρ.1 0 1 ≤ 6 ∧ 0 ≤ ρ.1 0 2 ∧ ρ.1 0 2 ≤ 9 ∧ 0 ≤ ρ.1 0 3 ∧ ρ.1 0 3 ≤ 12) ∧
  (∀ w : Nat, (w : Int) < ρ.1 0 0 → 40 ≤ ρ.1 1 w ∧ ρ.1 1 w ≤ 79 ∧ 0 ≤ ρ.1 2 w ∧ ρ.1 2 w ≤ 99 ∧ 0 ≤ ρ.1 3 w ∧ ρ.1 3 w ≤ 9) ∧
  (∀ h : Nat, (h : Int) < ρ.1 0 1 → 0 ≤ ρ.1 4 h ∧ ρ.1 4 h ≤ 3 ∧ 40 ≤ ρ.1 5 h ∧ ρ.1 5 h ≤ 79 ∧ 0 ≤ ρ.1 6 h ∧ ρ.1 6 h ≤ 99 ∧ 0 ≤ ρ.1 7 h ∧ ρ.1 7 h ≤ 9) ∧
  (∀ i : Nat, (i : Int) < ρ.1 0 3 → 0 ≤ ρ.1 8 i ∧ ρ.1 8 i ≤ 9)
theorem rq_cl_b (x : Int) : -9 ≤ rq_cl x ∧ rq_cl x ≤ 9 := by unfold rq_cl; split <;> split <;> omega
theorem rq_ht_b {ρ : rq_R} (h : rq_va ρ) (t : Nat) : 0 ≤ rq_ht ρ t ∧ rq_ht ρ t ≤ 9 := by
  unfold rq_ht
  obtain ⟨b, -, -, hh⟩ := h
  split
  · omega
  · rename_i q
    have : 0 < (ρ.1 0 3).toNat := by omega
    have h2 := Nat.mod_lt t this
    exact hh _ (by omega)
theorem rq_gi_b {ρ : rq_R} (hv : rq_va ρ) {h t : Nat} (hh : (h : Int) < ρ.1 0 1) (ht : t < 1000000) : -1000000 ≤ rq_gi ρ h t ∧ rq_gi ρ h t ≤ 1000000 := by
  unfold rq_gi
  have a := rq_cl_b (ρ.2.1 (rq_ht ρ t) (ρ.1 6 h + ((t / 4 : Nat) : Int)) (ρ.1 4 h))
  obtain ⟨-, -, b, -⟩ := hv
  have c := b h hh
  have d : ((t / 4 : Nat) : Int) ≤ 250000 := by omega
  split <;> split <;> omega
/-! the class's E: steps on a stack, the top first -/
def rq_jn (s x y : Int) : Int := if s = -10 then rt_isub x y else if s = -9 then rt_iadd x y else if s = -8 then (if x = y then 1 else 0) else if s = -7 then (if y ≤ x then 0 else 1) else if s = -6 then (if x = 0 ∧ y = 0 then 0 else 1) else if s = -5 then (if x = 0 ∨ y = 0 then 0 else 1) else rt_imul x y
def rq_ev (a b c : Int) : List Int → List Int → Option (List Int)
  | [], st => some st
  | s :: cs, st => if -3 ≤ s then (if st.length < 24 then rq_ev a b c cs ((if 0 ≤ s then s else if s = -1 then a else if s = -2 then b else c) :: st) else none)
      else if s = -4 then (match st with
        | x :: r => rq_ev a b c cs ((if x = 0 then 1 else 0) :: r)
        | [] => none)
      else (match st with
        | x :: y :: r => rq_ev a b c cs (rq_jn s y x :: r)
        | _ => none)
theorem rq_ev_app (a b c : Int) (ds : List Int) : ∀ (cs st : List Int), rq_ev a b c (cs ++ ds) st = (rq_ev a b c cs st).bind (rq_ev a b c ds)
  | [], st => rfl
  | s :: cs, st => by
    simp only [List.cons_append, rq_ev]
    split
    · split
      · exact rq_ev_app a b c ds cs _
      · rfl
    · split
      · cases st with
        | nil => rfl
        | cons x r => exact rq_ev_app a b c ds cs _
      · match st with
        | [] => rfl
        | [x] => rfl
        | x :: y :: r => exact rq_ev_app a b c ds cs _
def rq_dsw (a _b c : Int) : Int := if c = 1 then rt_imul 2 a else a
def rq_dju (a b c : Int) : Int := if rt_imul b 9 ≤ rt_imul a c then 0 else 1
/-- a Law holds F -/
def rq_lw (L : Nat) (D F : Int → Int → Int → Int) (m : rt_M) : Prop := (m L 6 = 0 ∧ ∀ a b c, F a b c = D a b c) ∨ (m L 6 = 1 ∧ ∃ cs : List Int, m L 5 = (cs.length : Int) ∧ cs.length ≤ 1000 ∧ (∀ i (h : i < cs.length), m (L + 1) i = cs[i]) ∧ ∀ a b c, rq_i a → rq_i b → rq_i c → rq_ev a b c cs [] = some [F a b c])
def rq_rc (r : Nat) (ρ : rq_R) (m : rt_M) : Prop :=
  (m r 0 = ρ.1 0 0 ∧ m r 1 = ρ.1 0 1 ∧ m r 8 = ρ.1 0 2 ∧ m r 7 = ρ.1 0 3) ∧
  (∀ w : Nat, (w : Int) < ρ.1 0 0 → m (r + 4 + w) 0 = ρ.1 1 w ∧ m (r + 4 + w) 1 = ρ.1 2 w ∧ m (r + 4 + w) 2 = ρ.1 3 w ∧ m (r + 1) w = ρ.1 9 w) ∧
  (∀ h : Nat, (h : Int) < ρ.1 0 1 → m (r + 11 + h) 0 = ρ.1 4 h ∧ m (r + 11 + h) 1 = ρ.1 5 h ∧ m (r + 11 + h) 2 = ρ.1 6 h ∧ m (r + 11 + h) 3 = ρ.1 7 h ∧ m (r + 2) h = ρ.1 10 h) ∧
  (∀ i : Nat, (i : Int) < ρ.1 0 3 → m (r + 17) i = ρ.1 8 i) ∧
  rq_lw (r + 18) rq_dsw ρ.2.1 m ∧ rq_lw (r + 21) rq_dju ρ.2.2 m
/-- the class's realm at r is ρ -/
def rq_C (r : Nat) (ρ : rq_R) (m : rt_M) : Prop := rq_st m ∧ (r = 63 ∨ r = 87) ∧ rq_va ρ ∧ rq_rc r ρ m
/-- what an E's working writes: the class, the reference -/
def rq_wE (k _j : Nat) : Bool := k == 83 || k == 86 || k == 107 || k == 110
theorem rq_lw_fr {L : Nat} {D F : Int → Int → Int → Int} {m m' : rt_M} (h : rq_lw L D F m) (k : ∀ j, m' L j = m L j) (k1 : ∀ j, m' (L + 1) j = m (L + 1) j) : rq_lw L D F m' := by
  unfold rq_lw
  simp only [k, k1]
  exact h
theorem rq_rc_fr {r : Nat} {ρ : rq_R} {m m' : rt_M} (h : rq_rc r ρ m) (hv : rq_va ρ) (k : ∀ a j, r ≤ a → a < r + 24 → a ≠ r + 20 → a ≠ r + 23 → m' a j = m a j) : rq_rc r ρ m' := by
  obtain ⟨h0, h1, h2, h3, h4, h5⟩ := h
  obtain ⟨hv0, -⟩ := hv
  refine ⟨?_, ?_, ?_, ?_, rq_lw_fr h4 (fun j => k _ j (by omega) (by omega) (by omega) (by omega)) (fun j => k _ j (by omega) (by omega) (by omega) (by omega)), rq_lw_fr h5 (fun j => k _ j (by omega) (by omega) (by omega) (by omega)) (fun j => k _ j (by omega) (by omega) (by omega) (by omega))⟩
  · rw [k r 0 (by omega) (by omega) (by omega) (by omega), k r 1 (by omega) (by omega) (by omega) (by omega), k r 8 (by omega) (by omega) (by omega) (by omega), k r 7 (by omega) (by omega) (by omega) (by omega)]; exact h0
  · intro w hw
    rw [k (r + 4 + w) 0 (by omega) (by omega) (by omega) (by omega), k (r + 4 + w) 1 (by omega) (by omega) (by omega) (by omega), k (r + 4 + w) 2 (by omega) (by omega) (by omega) (by omega), k (r + 1) w (by omega) (by omega) (by omega) (by omega)]; exact h1 w hw
  · intro w hw
    rw [k (r + 11 + w) 0 (by omega) (by omega) (by omega) (by omega), k (r + 11 + w) 1 (by omega) (by omega) (by omega) (by omega), k (r + 11 + w) 2 (by omega) (by omega) (by omega) (by omega), k (r + 11 + w) 3 (by omega) (by omega) (by omega) (by omega), k (r + 2) w (by omega) (by omega) (by omega) (by omega)]; exact h2 w hw
  · intro i hi
    rw [k (r + 17) i (by omega) (by omega) (by omega) (by omega)]; exact h3 i hi
theorem rq_C_wE {r : Nat} {ρ : rq_R} {m m' : rt_M} (h : rq_C r ρ m) (k : rq_fr rq_wE m m') : rq_C r ρ m' := by
  obtain ⟨hs, hr, hv, hc⟩ := h
  refine ⟨rq_st_fr hs k (by decide +kernel), hr, hv, rq_rc_fr hc hv (fun a j h1 h2 h3 h4 => k a j ?_)⟩
  unfold rq_wE
  simp only [Bool.or_eq_false_iff, beq_eq_false_iff_ne]
  omega
section
variable {r : Nat} {ρ : rq_R} {m : rt_M}
theorem q_gf4 (h : rq_C r ρ m) (j : Nat) : rt_gf 4 j (r : Int) m = some (m r j) := by
  obtain ⟨-, hr, -⟩ := h
  rcases hr with rfl | rfl <;> rfl
theorem q_kd4 (h : rq_C r ρ m) : rt_kd ((r : Int)).toNat = 20 + 4 := by
  obtain ⟨-, hr, -⟩ := h
  rcases hr with rfl | rfl <;> rfl
theorem q_gd4 (h : rq_C r ρ m) {α : Type} (o : Option α) : rt_gd 4 (r : Int) o = o := if_pos (q_kd4 h)
theorem q_bz0 {α : Type} {f : Int → Option α} : (rt_bz 0).bind f = f 0 := rfl
theorem q_bz1 {α : Type} {f : Int → Option α} : (rt_bz 1).bind f = f 1 := rfl
theorem q_isWig (h : rq_C r ρ m) (a : Int) : f_X4_isWig r a m = some (if 0 ≤ a ∧ a < ρ.1 0 0 then 1 else 0) := by
  have e := h.2.2.2.1.1
  unfold f_X4_isWig
  by_cases h1 : a < 0
  · rw [if_pos h1, if_neg (by omega)]; rfl
  · rw [if_neg h1, q_gf4 h, Option.bind_some, e]
    by_cases h2 : ρ.1 0 0 ≤ a
    · rw [if_pos h2, if_neg (by omega)]; rfl
    · rw [if_neg h2, if_pos (by omega)]; rfl
theorem q_isWigT (h : rq_C r ρ m) {a : Int} (h0 : 0 ≤ a) (h1 : a < ρ.1 0 0) : f_X4_isWig r a m = some 1 := by rw [q_isWig h, if_pos ⟨h0, h1⟩]
theorem q_isWigF (h : rq_C r ρ m) {a : Int} (h0 : ¬ (0 ≤ a ∧ a < ρ.1 0 0)) : f_X4_isWig r a m = some 0 := by rw [q_isWig h, if_neg h0]
theorem q_isHead (h : rq_C r ρ m) (a : Int) : f_X4_isHead r a m = some (if 0 ≤ a ∧ a < ρ.1 0 1 then 1 else 0) := by
  have e := h.2.2.2.1.2.1
  unfold f_X4_isHead
  by_cases h1 : a < 0
  · rw [if_pos h1, if_neg (by omega)]; rfl
  · rw [if_neg h1, q_gf4 h, Option.bind_some, e]
    by_cases h2 : ρ.1 0 1 ≤ a
    · rw [if_pos h2, if_neg (by omega)]; rfl
    · rw [if_neg h2, if_pos (by omega)]; rfl
theorem q_isHeadT (h : rq_C r ρ m) {a : Int} (h0 : 0 ≤ a) (h1 : a < ρ.1 0 1) : f_X4_isHead r a m = some 1 := by rw [q_isHead h, if_pos ⟨h0, h1⟩]
theorem q_isHeadF (h : rq_C r ρ m) {a : Int} (h0 : ¬ (0 ≤ a ∧ a < ρ.1 0 1)) : f_X4_isHead r a m = some 0 := by rw [q_isHead h, if_neg h0]
theorem q_sh_w : ∀ r, r = 63 ∨ r = 87 → ∀ w, w < 6 → rt_kd (r + 3) = 6 ∧ rt_ln (r + 3) = 6 ∧ rt_kd (r + 4 + w) = 1 ∧ rt_ln (r + 4 + w) = 3 ∧ (r + 3, w, ((r + 4 + w : Nat) : Int)) ∈ rq_P := by
  intro r hr
  rcases hr with rfl | rfl <;> decide +kernel
theorem q_sh_h : ∀ r, r = 63 ∨ r = 87 → ∀ w, w < 6 → rt_kd (r + 10) = 6 ∧ rt_ln (r + 10) = 6 ∧ rt_kd (r + 11 + w) = 1 ∧ rt_ln (r + 11 + w) = 4 ∧ (r + 10, w, ((r + 11 + w : Nat) : Int)) ∈ rq_P := by
  intro r hr
  rcases hr with rfl | rfl <;> decide +kernel
theorem q_sh_o : ∀ r, r = 63 ∨ r = 87 → (r, 2, ((r + 1 : Nat) : Int)) ∈ rq_P ∧ (r, 3, ((r + 2 : Nat) : Int)) ∈ rq_P ∧ (r, 4, ((r + 3 : Nat) : Int)) ∈ rq_P ∧ (r, 5, ((r + 10 : Nat) : Int)) ∈ rq_P ∧ (r, 6, ((r + 17 : Nat) : Int)) ∈ rq_P ∧ (r, 10, ((r + 18 : Nat) : Int)) ∈ rq_P ∧ (r, 11, ((r + 21 : Nat) : Int)) ∈ rq_P ∧ (r + 18, 3, ((r + 18 + 1 : Nat) : Int)) ∈ rq_P ∧ (r + 18, 4, ((r + 18 + 2 : Nat) : Int)) ∈ rq_P ∧ (r + 21, 3, ((r + 21 + 1 : Nat) : Int)) ∈ rq_P ∧ (r + 21, 4, ((r + 21 + 2 : Nat) : Int)) ∈ rq_P ∧ rt_kd (r + 17) = 1 ∧ rt_ln (r + 17) = 12 ∧ rt_kd (r + 1) = 2 ∧ rt_ln (r + 1) = 6 ∧ rt_kd (r + 2) = 2 ∧ rt_ln (r + 2) = 6 ∧ rt_kd (r + 18) = 22 ∧ rt_kd (r + 21) = 22 ∧ rt_kd (r + 18 + 1) = 1 ∧ rt_ln (r + 18 + 1) = 1000 ∧ rt_kd (r + 18 + 2) = 1 ∧ rt_ln (r + 18 + 2) = 24 ∧ rt_kd (r + 21 + 1) = 1 ∧ rt_ln (r + 21 + 1) = 1000 ∧ rt_kd (r + 21 + 2) = 1 ∧ rt_ln (r + 21 + 2) = 24 := by
  intro r hr
  rcases hr with rfl | rfl
  · exact ⟨by decide +kernel, by decide +kernel, by decide +kernel, by decide +kernel, by decide +kernel, by decide +kernel, by decide +kernel, by decide +kernel, by decide +kernel, by decide +kernel, by decide +kernel, by decide +kernel, by decide +kernel, by decide +kernel, by decide +kernel, by decide +kernel, by decide +kernel, by decide +kernel, by decide +kernel, by decide +kernel, by decide +kernel, by decide +kernel, by decide +kernel, by decide +kernel, by decide +kernel, by decide +kernel, by decide +kernel⟩
  · exact ⟨by decide +kernel, by decide +kernel, by decide +kernel, by decide +kernel, by decide +kernel, by decide +kernel, by decide +kernel, by decide +kernel, by decide +kernel, by decide +kernel, by decide +kernel, by decide +kernel, by decide +kernel, by decide +kernel, by decide +kernel, by decide +kernel, by decide +kernel, by decide +kernel, by decide +kernel, by decide +kernel, by decide +kernel, by decide +kernel, by decide +kernel, by decide +kernel, by decide +kernel, by decide +kernel, by decide +kernel⟩
theorem q_pt (hs : rq_st m) {a j : Nat} {v : Int} (h : (a, j, v) ∈ rq_P) : m a j = v := hs _ h
theorem q_al {tc a j : Nat} (h1 : rt_kd a = tc) {n : Nat} (h2 : rt_ln a = n) (h3 : j < n) : rt_al tc ((a : Nat) : Int) ((j : Nat) : Int) m = some (m a j) := by
  unfold rt_al
  rw [if_pos ⟨h1, by omega, by show (j : Int) < (rt_ln a : Int); omega⟩]
  rfl
theorem q_ofWig (h : rq_C r ρ m) (w : Nat) (j : Nat) (hj : j < 3) : f_X4_ofWig r w j m = some (if (w : Int) < ρ.1 0 0 then m (r + 4 + w) j else 0) := by
  unfold f_X4_ofWig
  by_cases hw : (w : Int) < ρ.1 0 0
  · rw [q_isWigT h (by omega) hw, Option.bind_some, if_neg (by decide), if_pos hw, q_gf4 h, Option.bind_some]
    have hv := h.2.2.1.1
    obtain ⟨a, b, c, d, e⟩ := q_sh_w r h.2.1 w (by omega)
    rw [q_pt h.1 (q_sh_o r h.2.1).2.2.1, q_al a b (by omega), Option.bind_some, q_pt h.1 e, q_al c d hj]
    rfl
  · rw [q_isWigF h (by omega), Option.bind_some, if_pos rfl, if_neg hw]
    rfl
theorem q_ofHead (h : rq_C r ρ m) (w : Nat) (j : Nat) (hj : j < 4) : f_X4_ofHead r w j m = some (if (w : Int) < ρ.1 0 1 then m (r + 11 + w) j else 0) := by
  unfold f_X4_ofHead
  by_cases hw : (w : Int) < ρ.1 0 1
  · rw [q_isHeadT h (by omega) hw, Option.bind_some, if_neg (by decide), if_pos hw, q_gf4 h, Option.bind_some]
    have hv := h.2.2.1.1
    obtain ⟨a, b, c, d, e⟩ := q_sh_h r h.2.1 w (by omega)
    rw [q_pt h.1 (q_sh_o r h.2.1).2.2.2.1, q_al a b (by omega), Option.bind_some, q_pt h.1 e, q_al c d hj]
    rfl
  · rw [q_isHeadF h (by omega), Option.bind_some, if_pos rfl, if_neg hw]
    rfl
theorem q_sizeOfWig (h : rq_C r ρ m) {w : Nat} (hw : (w : Int) < ρ.1 0 0) : f_X4_sizeOfWig r w m = some (ρ.1 1 w) := by
  unfold f_X4_sizeOfWig
  have := q_ofWig h w 0 (by decide)
  rw [if_pos hw, (h.2.2.2.2.1 w hw).1] at this
  rw [show (0 : Int) = ((0 : Nat) : Int) from rfl, this]; rfl
theorem q_officeOf (h : rq_C r ρ m) {w : Nat} (hw : (w : Int) < ρ.1 0 0) : f_X4_officeOf r w m = some (ρ.1 2 w) := by
  unfold f_X4_officeOf
  have := q_ofWig h w 1 (by decide)
  rw [if_pos hw, (h.2.2.2.2.1 w hw).2.1] at this
  rw [show (1 : Int) = ((1 : Nat) : Int) from rfl, this]; rfl
theorem q_leanOfWig (h : rq_C r ρ m) {w : Nat} (hw : (w : Int) < ρ.1 0 0) : f_X4_leanOfWig r w m = some (ρ.1 3 w) := by
  unfold f_X4_leanOfWig
  have := q_ofWig h w 2 (by decide)
  rw [if_pos hw, (h.2.2.2.2.1 w hw).2.2.1] at this
  rw [show (2 : Int) = ((2 : Nat) : Int) from rfl, this]; rfl
theorem q_head0 (h : rq_C r ρ m) {w : Nat} (hw : (w : Int) < ρ.1 0 1) : f_X4_ofHead r w 0 m = some (ρ.1 4 w) := by
  have := q_ofHead h w 0 (by decide)
  rw [if_pos hw, (h.2.2.2.2.2.1 w hw).1] at this
  exact this
theorem q_head1 (h : rq_C r ρ m) {w : Nat} (hw : (w : Int) < ρ.1 0 1) : f_X4_ofHead r w 1 m = some (ρ.1 5 w) := by
  have := q_ofHead h w 1 (by decide)
  rw [if_pos hw, (h.2.2.2.2.2.1 w hw).2.1] at this
  exact this
theorem q_head2 (h : rq_C r ρ m) {w : Nat} (hw : (w : Int) < ρ.1 0 1) : f_X4_ofHead r w 2 m = some (ρ.1 6 w) := by
  have := q_ofHead h w 2 (by decide)
  rw [if_pos hw, (h.2.2.2.2.2.1 w hw).2.2.1] at this
  exact this
theorem q_head3 (h : rq_C r ρ m) {w : Nat} (hw : (w : Int) < ρ.1 0 1) : f_X4_ofHead r w 3 m = some (ρ.1 7 w) := by
  have := q_ofHead h w 3 (by decide)
  rw [if_pos hw, (h.2.2.2.2.2.1 w hw).2.2.2.1] at this
  exact this
theorem q_floorMod {x y : Int} (h0 : 0 ≤ x) (h1 : x < 2147483648) (h2 : 0 < y) (h3 : y < 2147483648) : f_J9_floorMod_7cf53 x y m = some (x % y) := by
  unfold f_J9_floorMod_7cf53
  rw [if_neg (by omega)]
  have e : 0 ≤ rt_ixor x y := by
    unfold rt_ixor
    have hx : (Int32.ofInt x).toBitVec.toInt = x := by show (Int32.ofInt x).toInt = x; rw [Int32.toInt_ofInt]; exact rq_bm (by omega) h1
    have hy : (Int32.ofInt y).toBitVec.toInt = y := by show (Int32.ofInt y).toInt = y; rw [Int32.toInt_ofInt]; exact rq_bm (by omega) h3
    show 0 ≤ ((Int32.ofInt x).toBitVec ^^^ (Int32.ofInt y).toBitVec).toInt
    refine BitVec.toInt_nonneg_of_msb_false ?_
    rw [BitVec.msb_xor, BitVec.msb_eq_toInt, BitVec.msb_eq_toInt, hx, hy, decide_eq_false (by omega), decide_eq_false (by omega)]
    rfl
  rw [if_pos e, rq_irem h0 h1 h2 h3]
  rfl
theorem q_heatOf (h : rq_C r ρ m) {t : Nat} (ht : t < 2000000) : f_X4_heatOf r t m = some (rq_ht ρ t) := by
  unfold f_X4_heatOf rq_ht
  obtain ⟨hs, hr, hv, hc⟩ := h
  have hC : rq_C r ρ m := ⟨hs, hr, hv, hc⟩
  have hb := hv.1
  rw [q_gf4 hC, Option.bind_some, hc.1.2.2.2]
  by_cases h0 : ρ.1 0 3 = 0
  · rw [if_pos (by omega), if_pos h0]; rfl
  · rw [if_neg (by omega), if_neg h0, q_gf4 hC, Option.bind_some, Option.bind_some, q_floorMod (by omega) (by omega) (by omega) (by omega), Option.bind_some]
    have hn : 0 < (ρ.1 0 3).toNat := by omega
    have hm := Nat.mod_lt t hn
    have e : (t : Int) % ρ.1 0 3 = ((t % (ρ.1 0 3).toNat : Nat) : Int) := by
      rw [Int.natCast_emod, Int.toNat_of_nonneg (by omega)]
    rw [e, q_pt hs (q_sh_o r hr).2.2.2.2.1, q_al (q_sh_o r hr).2.2.2.2.2.2.2.2.2.2.2.1 (q_sh_o r hr).2.2.2.2.2.2.2.2.2.2.2.2.1 (by omega), Option.bind_some, hc.2.2.2.1 _ (by omega)]
    rfl
theorem q_isTilt (h : rq_C r ρ m) (a : Int) : f_X4_isTilt r a m = some (if 0 ≤ a ∧ a ≤ ρ.1 0 2 then 1 else 0) := by
  have e := h.2.2.2.1.2.2.1
  unfold f_X4_isTilt
  by_cases h1 : a < 0
  · rw [if_pos h1, if_neg (by omega)]; rfl
  · rw [if_neg h1, q_gf4 h, Option.bind_some, e]
    by_cases h2 : ρ.1 0 2 < a
    · rw [if_pos h2, if_neg (by omega)]; rfl
    · rw [if_neg h2, if_pos (by omega)]; rfl
theorem q_min (x y : Int) : f_J9_min_7cf53 x y m = some (if y < x then y else x) := by
  unfold f_J9_min_7cf53
  by_cases h : y < x
  · rw [if_pos h, if_pos h]; rfl
  · rw [if_neg h, if_neg h]; rfl
theorem q_max (x y : Int) : f_J9_max_7cf53 x y m = some (if x < y then y else x) := by
  unfold f_J9_max_7cf53
  by_cases h : x < y
  · rw [if_pos h, if_pos h]; rfl
  · rw [if_neg h, if_neg h]; rfl
theorem q_joined (s x y : Int) : f_X2_joined s x y m = some (rq_jn s x y) := by
  unfold f_X2_joined rq_jn
  by_cases h1 : s = -10
  · rw [if_pos h1, if_pos h1]
  rw [if_neg h1, if_neg h1]
  by_cases h2 : s = -9
  · rw [if_pos h2, if_pos h2]
  rw [if_neg h2, if_neg h2]
  by_cases h3 : s = -8
  · rw [if_pos h3, if_pos h3]; by_cases q : x = y
    · rw [if_pos q, if_pos q]; rfl
    · rw [if_neg q, if_neg q]; rfl
  rw [if_neg h3, if_neg h3]
  by_cases h4 : s = -7
  · rw [if_pos h4, if_pos h4]; by_cases q : y ≤ x
    · rw [if_pos q, if_pos q]; rfl
    · rw [if_neg q, if_neg q]; rfl
  rw [if_neg h4, if_neg h4]
  by_cases h5 : s = -6
  · rw [if_pos h5, if_pos h5]; by_cases q : x = 0
    · rw [if_pos q]; by_cases q2 : y = 0
      · rw [if_pos q2, if_pos ⟨q, q2⟩]; rfl
      · rw [if_neg q2, if_neg (fun z => q2 z.2)]; rfl
    · rw [if_neg q, if_neg (fun z => q z.1)]; rfl
  rw [if_neg h5, if_neg h5]
  by_cases h6 : s = -5
  · rw [if_pos h6, if_pos h6]; by_cases q : x = 0
    · rw [if_pos q, if_pos (Or.inl q)]; rfl
    · rw [if_neg q]; by_cases q2 : y = 0
      · rw [if_pos q2, if_pos (Or.inr q2)]; rfl
      · rw [if_neg q2, if_neg (fun z => z.elim q q2)]; rfl
  rw [if_neg h6, if_neg h6]
end
