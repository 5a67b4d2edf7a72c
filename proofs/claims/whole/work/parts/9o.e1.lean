/-! Layer 3: an E, read: its steps, its codes, its value -/
abbrev rq_ET : Type := List Int × List Int × (Int → Int → Int → Int)
abbrev rq_EX : Type := (Int × Nat) ⊕ (rq_ET × Nat)
def rq_jk (l k : Int) : Int := if l = 0 then (if k = 19 then -5 else if k = 20 then -6 else 0) else if l = 1 then (if k = 31 then -9 else if k = 32 then -10 else 0) else if k = 33 then -11 else 0
def rq_cd (j : Int) : Int := if j = -5 then 26 else if j = -6 then 27 else if j = -9 then 20 else if j = -10 then 21 else if j = -11 then 22 else if j = -7 then 24 else 25
def rq_jt (j : Int) (t u : rq_ET) : rq_ET := (t.1 ++ u.1 ++ [j], t.2.1 ++ rq_cd j :: u.2.1, fun a b c => rq_jn j (t.2.2 a b c) (u.2.2 a b c))
def rq_lpE (s : Nat → Int) (n : Nat) (l : Int) (R : Nat → rq_EX) : Nat → rq_ET → Nat → rq_EX
  | 0 => fun t b => .inr (t, b)
  | f + 1 => fun t b => if rq_jk l (rq_kd s n b) = 0 then .inr (t, b) else match R (rq_nxp s n b) with
    | .inl q => .inl q
    | .inr q => rq_lpE s n l R f (rq_jt (rq_jk l (rq_kd s n b)) t q.1) q.2
theorem rq_lpE_s (s : Nat → Int) (n : Nat) (l : Int) (R : Nat → rq_EX) (f : Nat) (t : rq_ET) (b : Nat) : rq_lpE s n l R (f + 1) t b = if rq_jk l (rq_kd s n b) = 0 then .inr (t, b) else match R (rq_nxp s n b) with
    | .inl q => .inl q
    | .inr q => rq_lpE s n l R f (rq_jt (rq_jk l (rq_kd s n b)) t q.1) q.2 := rfl
def rq_ec (s : Nat → Int) (n : Nat) (l : Int) (R : Nat → rq_EX) (b : Nat) : rq_EX := match R b with
  | .inl q => .inl q
  | .inr q => rq_lpE s n l R 1001 q.1 q.2
def rq_tk2 (s : Nat → Int) (n : Nat) (R : Nat → rq_EX) (t : rq_ET) (b : Nat) : rq_EX := if rq_kd s n b = 29 ∨ rq_kd s n b = 30 then (match R (rq_nxp s n b) with
    | .inl p => .inl p
    | .inr p => .inr (rq_jt (if rq_kd s n b = 29 then -7 else -8) t p.1, p.2)) else .inr (t, b)
def rq_et (s : Nat → Int) (n : Nat) (R : Nat → rq_EX) (b : Nat) : rq_EX := match R b with
  | .inl q => .inl q
  | .inr q => rq_tk2 s n R q.1 q.2
def rq_eE (s : Nat → Int) (n : Nat) (R : Nat → rq_EX) : Nat → rq_EX := rq_ec s n 0 (rq_et s n (rq_ec s n 1 (rq_ec s n 2 R)))
def rq_fc (line : Nat) (k : Int) : Int := if k = 21 + 3 * (line : Int) then -1 else if k = 22 + 3 * (line : Int) then -2 else if k = 23 + 3 * (line : Int) then -3 else 0
def rq_pb (line : Nat) (k : Int) : Bool := !(decide (rq_fc line k = 0)) || decide (k = 36) || decide (k = 18) || decide (k = 27)
theorem rq_pb_c (line : Nat) (k : Int) : rq_pb line k = true ↔ rq_fc line k ≠ 0 ∨ k = 36 ∨ k = 18 ∨ k = 27 := by
  unfold rq_pb
  simp only [Bool.or_eq_true, Bool.not_eq_true', decide_eq_false_iff_not, decide_eq_true_eq]
  constructor
  · rintro (((h | h) | h) | h)
    · exact Or.inl h
    · exact Or.inr (Or.inl h)
    · exact Or.inr (Or.inr (Or.inl h))
    · exact Or.inr (Or.inr (Or.inr h))
  · rintro (h | h | h | h)
    · exact Or.inl (Or.inl (Or.inl h))
    · exact Or.inl (Or.inl (Or.inr h))
    · exact Or.inl (Or.inr h)
    · exact Or.inr h
def rq_clo (s : Nat → Int) (n : Nat) (t : rq_ET) (b : Nat) : rq_EX := if rq_kd s n b = 28 then .inr ((t.1, 28 :: (t.2.1 ++ [29]), t.2.2), rq_nxp s n b) else .inl (1, b)
def rq_nt (t : rq_ET) : rq_ET := (t.1 ++ [-4], 30 :: t.2.1, fun a b c => if t.2.2 a b c = 0 then 1 else 0)
def rq_lf (line : Nat) (k v : Int) : rq_ET := if k = 36 then ([v], [100 + v], fun _ _ _ => v) else ([rq_fc line k], [3 * (line : Int) - rq_fc line k], fun a b c => if rq_fc line k = -1 then a else if rq_fc line k = -2 then b else c)
def rq_ep (s : Nat → Int) (n line : Nat) : Nat → Nat → rq_EX
  | 0 => fun b => if rq_pb line (rq_kd s n b) = true then .inl (5, b) else .inl (1, b)
  | k + 1 => fun b => if rq_pb line (rq_kd s n b) = true then (if rq_kd s n b = 27 then (match rq_eE s n (rq_ep s n line k) (rq_nxp s n b) with
      | .inl q => .inl q
      | .inr q => rq_clo s n q.1 q.2) else if rq_kd s n b = 18 then (match rq_ep s n line k (rq_nxp s n b) with
      | .inl q => .inl q
      | .inr q => .inr (rq_nt q.1, q.2)) else .inr (rq_lf line (rq_kd s n b) (rq_vl s n b), rq_nxp s n b)) else .inl (1, b)
theorem rq_ep_s (s : Nat → Int) (n line k b : Nat) : rq_ep s n line (k + 1) b = if rq_pb line (rq_kd s n b) = true then (if rq_kd s n b = 27 then (match rq_eE s n (rq_ep s n line k) (rq_nxp s n b) with
      | .inl q => .inl q
      | .inr q => rq_clo s n q.1 q.2) else if rq_kd s n b = 18 then (match rq_ep s n line k (rq_nxp s n b) with
      | .inl q => .inl q
      | .inr q => .inr (rq_nt q.1, q.2)) else .inr (rq_lf line (rq_kd s n b) (rq_vl s n b), rq_nxp s n b)) else .inl (1, b) := rfl
/-- what a reader gives, place by place -/
def rq_ge (s : Nat → Int) (n : Nat) (R : Nat → rq_EX) : Prop := ∀ b, rq_bp s n b → match R b with
  | .inl q => (1 ≤ q.1 ∧ q.1 ≤ 9) ∧ rq_bp s n q.2
  | .inr q => rq_bp s n q.2 ∧ b < q.2 ∧ b + q.1.1.length ≤ q.2 ∧ b + q.1.2.1.length ≤ q.2
section
variable {s : Nat → Int} {n : Nat} {R : Nat → rq_EX} {l : Int}
theorem rq_ge_l (h : rq_ge s n R) {b : Nat} (hb : rq_bp s n b) {q : Int × Nat} (e : R b = .inl q) : (1 ≤ q.1 ∧ q.1 ≤ 9) ∧ rq_bp s n q.2 := by
  have := h b hb
  rw [e] at this
  exact this
theorem rq_ge_r (h : rq_ge s n R) {b : Nat} (hb : rq_bp s n b) {q : rq_ET × Nat} (e : R b = .inr q) : rq_bp s n q.2 ∧ b < q.2 ∧ b + q.1.1.length ≤ q.2 ∧ b + q.1.2.1.length ≤ q.2 := by
  have := h b hb
  rw [e] at this
  exact this
theorem rq_jk_37 {b : Nat} (h : rq_jk l (rq_kd s n b) ≠ 0) : b < n := by
  refine rq_kd_lt (s := s) (fun z => h ?_)
  rw [z]
  unfold rq_jk
  split
  · rfl
  · split <;> rfl
theorem rq_nxp_b {b : Nat} (h : b < n) : b + 1 ≤ rq_nxp s n b := by
  have h1 := rq_en_b (s := s) h
  have h2 := (rq_sk_b (s := s) (n := n) h1.2).1
  show b + 1 ≤ rq_sk' s n (rq_en s n b)
  omega
theorem rq_jt_len (j : Int) (t u : rq_ET) : (rq_jt j t u).1.length = t.1.length + u.1.length + 1 ∧ (rq_jt j t u).2.1.length = t.2.1.length + u.2.1.length + 1 := by
  constructor
  · show (t.1 ++ u.1 ++ [j]).length = _
    simp only [List.length_append, List.length_cons, List.length_nil]
  · show (t.2.1 ++ rq_cd j :: u.2.1).length = _
    simp only [List.length_append, List.length_cons, List.length_nil]
    omega
theorem rq_lpE_ge (h : rq_ge s n R) (b0 : Nat) : ∀ f t b, rq_bp s n b → b0 < b → b0 + t.1.length ≤ b → b0 + t.2.1.length ≤ b → match rq_lpE s n l R f t b with
    | .inl q => (1 ≤ q.1 ∧ q.1 ≤ 9) ∧ rq_bp s n q.2
    | .inr q => rq_bp s n q.2 ∧ b0 < q.2 ∧ b0 + q.1.1.length ≤ q.2 ∧ b0 + q.1.2.1.length ≤ q.2 := by
  intro f
  induction f with
  | zero => intro t b h1 h2 h3 h4; exact ⟨h1, h2, h3, h4⟩
  | succ f ih =>
    intro t b h1 h2 h3 h4
    rw [rq_lpE_s]
    by_cases z : rq_jk l (rq_kd s n b) = 0
    · rw [if_pos z]; exact ⟨h1, h2, h3, h4⟩
    · rw [if_neg z]
      have hb := rq_jk_37 z
      have nx := rq_nxp_b (s := s) hb
      have bn := rq_bp_nx (s := s) hb
      cases e : R (rq_nxp s n b) with
      | inl q => exact rq_ge_l h bn e
      | inr q =>
        obtain ⟨a1, a2, a3, a4⟩ := rq_ge_r h bn e
        obtain ⟨l1, l2⟩ := rq_jt_len (rq_jk l (rq_kd s n b)) t q.1
        exact ih _ _ a1 (by omega) (by omega) (by omega)
theorem rq_ec_ge (h : rq_ge s n R) : rq_ge s n (rq_ec s n l R) := by
  intro b hb
  unfold rq_ec
  cases e : R b with
  | inl q => exact rq_ge_l h hb e
  | inr q =>
    obtain ⟨a1, a2, a3, a4⟩ := rq_ge_r h hb e
    exact rq_lpE_ge h b 1001 _ _ a1 a2 a3 a4
theorem rq_et_ge (h : rq_ge s n R) : rq_ge s n (rq_et s n R) := by
  intro b hb
  unfold rq_et
  cases e : R b with
  | inl q => exact rq_ge_l h hb e
  | inr q =>
    obtain ⟨a1, a2, a3, a4⟩ := rq_ge_r h hb e
    dsimp only
    unfold rq_tk2
    by_cases z : rq_kd s n q.2 = 29 ∨ rq_kd s n q.2 = 30
    · rw [if_pos z]
      have hq : q.2 < n := rq_kd_lt (s := s) (by rcases z with z | z <;> omega)
      have nx := rq_nxp_b (s := s) hq
      have bn := rq_bp_nx (s := s) hq
      generalize (if rq_kd s n q.2 = 29 then (-7 : Int) else -8) = jj
      clear z
      cases e2 : R (rq_nxp s n q.2) with
      | inl p => exact rq_ge_l h bn e2
      | inr p =>
        obtain ⟨c1, c2, c3, c4⟩ := rq_ge_r h bn e2
        obtain ⟨l1, l2⟩ := rq_jt_len jj q.1 p.1
        exact ⟨c1, by dsimp only; omega, by dsimp only; omega, by dsimp only; omega⟩
    · rw [if_neg z]
      exact ⟨a1, a2, a3, a4⟩
theorem rq_eE_ge (h : rq_ge s n R) : rq_ge s n (rq_eE s n R) := rq_ec_ge (rq_et_ge (rq_ec_ge (rq_ec_ge h)))
theorem rq_lf_len (line : Nat) (k v : Int) : (rq_lf line k v).1.length = 1 ∧ (rq_lf line k v).2.1.length = 1 := by
  unfold rq_lf
  split <;> exact ⟨rfl, rfl⟩
theorem rq_fc_b {line : Nat} {k : Int} (hl : line < 2) (h : rq_fc line k ≠ 0) : 21 ≤ k ∧ k ≤ 26 ∧ -3 ≤ rq_fc line k ∧ rq_fc line k ≤ -1 := by
  unfold rq_fc at h ⊢
  by_cases z1 : k = 21 + 3 * (line : Int)
  · rw [if_pos z1]; omega
  · rw [if_neg z1] at h ⊢
    by_cases z2 : k = 22 + 3 * (line : Int)
    · rw [if_pos z2]; omega
    · rw [if_neg z2] at h ⊢
      by_cases z3 : k = 23 + 3 * (line : Int)
      · rw [if_pos z3]; omega
      · rw [if_neg z3] at h; exact absurd rfl h
theorem rq_pb_lt {line b : Nat} (hl : line < 2) (h : rq_pb line (rq_kd s n b) = true) : b < n := by
  refine rq_kd_lt (s := s) ?_
  rcases (rq_pb_c _ _).mp h with h | h | h | h
  · have := (rq_fc_b hl h).2.1; omega
  · omega
  · omega
  · omega
theorem rq_ep_ge {line : Nat} (hl : line < 2) : ∀ k, rq_ge s n (rq_ep s n line k) := by
  intro k
  induction k with
  | zero =>
    intro b hb
    show match (if rq_pb line (rq_kd s n b) = true then (.inl (5, b) : rq_EX) else .inl (1, b)) with
      | .inl q => (1 ≤ q.1 ∧ q.1 ≤ 9) ∧ rq_bp s n q.2
      | .inr q => rq_bp s n q.2 ∧ b < q.2 ∧ b + q.1.1.length ≤ q.2 ∧ b + q.1.2.1.length ≤ q.2
    by_cases z : rq_pb line (rq_kd s n b) = true
    · rw [if_pos z]; exact ⟨⟨by dsimp only; omega, by dsimp only; omega⟩, hb⟩
    · rw [if_neg z]; exact ⟨⟨by dsimp only; omega, by dsimp only; omega⟩, hb⟩
  | succ k ih =>
    intro b hb
    rw [rq_ep_s]
    by_cases z : rq_pb line (rq_kd s n b) = true
    · rw [if_pos z]
      have hq := rq_pb_lt hl z
      have nx := rq_nxp_b (s := s) hq
      have bn := rq_bp_nx (s := s) hq
      clear z
      by_cases z2 : rq_kd s n b = 27
      · rw [if_pos z2]
        cases e : rq_eE s n (rq_ep s n line k) (rq_nxp s n b) with
        | inl q => exact rq_ge_l (rq_eE_ge ih) bn e
        | inr q =>
          obtain ⟨a1, a2, a3, a4⟩ := rq_ge_r (rq_eE_ge ih) bn e
          dsimp only
          unfold rq_clo
          by_cases z3 : rq_kd s n q.2 = 28
          · rw [if_pos z3]
            have hq2 : q.2 < n := rq_kd_lt (s := s) (by omega)
            have nx2 := rq_nxp_b (s := s) hq2
            refine ⟨rq_bp_nx hq2, by dsimp only; omega, by dsimp only; omega, ?_⟩
            simp only [List.length_append, List.length_cons, List.length_nil]
            omega
          · rw [if_neg z3]; exact ⟨⟨by dsimp only; omega, by dsimp only; omega⟩, a1⟩
      · rw [if_neg z2]
        by_cases z3 : rq_kd s n b = 18
        · rw [if_pos z3]
          cases e : rq_ep s n line k (rq_nxp s n b) with
          | inl q => exact rq_ge_l ih bn e
          | inr q =>
            obtain ⟨a1, a2, a3, a4⟩ := rq_ge_r ih bn e
            refine ⟨a1, by dsimp only; omega, ?_, ?_⟩
            · unfold rq_nt
              simp only [List.length_append, List.length_cons, List.length_nil]
              omega
            · unfold rq_nt
              simp only [List.length_append, List.length_cons, List.length_nil]
              omega
        · rw [if_neg z3]
          obtain ⟨l1, l2⟩ := rq_lf_len line (rq_kd s n b) (rq_vl s n b)
          exact ⟨bn, by dsimp only; omega, by dsimp only; omega, by dsimp only; omega⟩
    · rw [if_neg z]; exact ⟨⟨by dsimp only; omega, by dsimp only; omega⟩, hb⟩
end
