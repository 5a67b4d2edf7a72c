/-! Layer 3: the other lines of a realm, pure; the class's words, numbers, names -/
def rq_sbd {α β : Type} (x : (Int × Nat) ⊕ α) (f : α → (Int × Nat) ⊕ β) : (Int × Nat) ⊕ β := match x with
  | .inl q => .inl q
  | .inr a => f a
theorem rq_sbd_l {α β : Type} (q : Int × Nat) (f : α → (Int × Nat) ⊕ β) : rq_sbd (.inl q) f = .inl q := rfl
theorem rq_sbd_r {α β : Type} (a : α) (f : α → (Int × Nat) ⊕ β) : rq_sbd (.inr a) f = f a := rfl
def rq_nu (s : Nat → Int) (n : Nat) (lo hi : Int) (b : Nat) : (Int × Nat) ⊕ (Int × Nat) := if rq_kd s n b = 36 then (if lo ≤ rq_vl s n b ∧ rq_vl s n b ≤ hi then .inr (rq_vl s n b, rq_nxp s n b) else .inl (4, b)) else .inl (1, b)
def rq_fa (s : Nat → Int) (n : Nat) (W lo hi : Int) (b : Nat) : (Int × Nat) ⊕ (Int × Nat) := if rq_kd s n b = W then rq_nu s n lo hi (rq_nxp s n b) else .inl (1, b)
def rq_nnw (ρ : rq_R) (s : Nat → Int) (n b : Nat) : (Int × Nat) ⊕ Nat := if rq_cnb s n b = true then (if rq_nw ρ (rq_vl s n b) = -1 ∧ rq_nh ρ (rq_vl s n b) = -1 then .inr (rq_nxp s n b) else .inl (3, b)) else .inl (1, b)
def rq_stp (s : Nat → Int) (n b : Nat) : (Int × Nat) ⊕ Nat := if rq_kd s n b = 34 then .inr (rq_nxp s n b) else .inl (1, b)
def rq_hk (s : Nat → Int) (n b : Nat) : (Int × Nat) ⊕ (Int × Nat) := if 14 ≤ rq_kd s n b ∧ rq_kd s n b ≤ 17 then .inr (rq_kd s n b - 14, rq_nxp s n b) else .inl (1, b)
def rq_wgl (ρ : rq_R) (s : Nat → Int) (n b : Nat) : (Int × Nat) ⊕ ((Int × Int × Int × Int) × Nat) := if ρ.1 0 0 = 6 then .inl (5, b) else rq_sbd (rq_nnw ρ s n (rq_nxp s n b)) fun b2 => rq_sbd (rq_fa s n 1 40 79 b2) fun x => rq_sbd (rq_fa s n 2 0 99 x.2) fun y => rq_sbd (rq_fa s n 3 0 9 y.2) fun z => rq_sbd (rq_stp s n z.2) fun b6 => .inr ((x.1, y.1, z.1, rq_vl s n (rq_nxp s n b)), b6)
def rq_hdl (ρ : rq_R) (s : Nat → Int) (n b : Nat) : (Int × Nat) ⊕ ((Int × Int × Int × Int × Int) × Nat) := if ρ.1 0 1 = 6 then .inl (5, b) else rq_sbd (rq_nnw ρ s n (rq_nxp s n b)) fun b2 => rq_sbd (rq_hk s n b2) fun w => rq_sbd (rq_fa s n 1 40 79 w.2) fun x => rq_sbd (rq_fa s n 5 0 99 x.2) fun y => rq_sbd (rq_fa s n 3 0 9 y.2) fun z => rq_sbd (rq_stp s n z.2) fun b6 => .inr ((w.1, x.1, y.1, z.1, rq_vl s n (rq_nxp s n b)), b6)
def rq_hh (s : Nat → Int) (n : Nat) : Nat → Nat → (Nat → Int) → Nat → (Int × Nat) ⊕ ((Nat × (Nat → Int)) × Nat)
  | 0 => fun _ _ b => .inl (1, b)
  | f + 1 => fun i H b => if i ≠ 0 ∧ rq_kd s n b = 34 then .inr ((i, H), rq_nxp s n b) else if rq_kd s n b = 36 then (if rq_vl s n b ≤ 9 then (if i = 12 then .inl (5, b) else rq_hh s n f (i + 1) (fun j => if j = i then rq_vl s n b else H j) (rq_nxp s n b)) else .inl (4, b)) else .inl (1, b)
theorem rq_hh_s (s : Nat → Int) (n f i : Nat) (H : Nat → Int) (b : Nat) : rq_hh s n (f + 1) i H b = if i ≠ 0 ∧ rq_kd s n b = 34 then .inr ((i, H), rq_nxp s n b) else if rq_kd s n b = 36 then (if rq_vl s n b ≤ 9 then (if i = 12 then .inl (5, b) else rq_hh s n f (i + 1) (fun j => if j = i then rq_vl s n b else H j) (rq_nxp s n b)) else .inl (4, b)) else .inl (1, b) := rfl
def rq_htl (ρ : rq_R) (s : Nat → Int) (n b : Nat) : (Int × Nat) ⊕ ((Nat × (Nat → Int)) × Nat) := if ρ.1 0 3 ≤ 0 then rq_hh s n 13 0 (fun _ => 0) (rq_nxp s n b) else .inl (3, b)
def rq_skl (told : Int) (s : Nat → Int) (n b : Nat) : (Int × Nat) ⊕ (Int × Nat) := if told = 0 then rq_sbd (rq_nu s n 0 9 (rq_nxp s n b)) fun x => rq_sbd (rq_stp s n x.2) fun b3 => .inr (x.1, b3) else .inl (3, b)
def rq_w47 (k j : Nat) : Bool := k == 47 && (j == 1 || j == 2)
theorem rq_lcmp_lt {x y : Int} (h1 : -9223372036854775808 ≤ x) (h2 : x < 9223372036854775808) (h3 : -9223372036854775808 ≤ y) (h4 : y < 9223372036854775808) : rt_lcmp x y < 0 ↔ x < y := by
  unfold rt_lcmp
  rw [show ((lg_cmp (Int64.ofInt x) (Int64.ofInt y)).toInt < 0) ↔ (lg_cmp (Int64.ofInt x) (Int64.ofInt y) < 0) from by rw [Int32.lt_iff_toInt_lt, show (0 : Int32).toInt = 0 from rfl], lg_cmp_lt, Int64.lt_iff_toInt_lt, Int64.toInt_ofInt, Int64.toInt_ofInt]
  show x.bmod 18446744073709551616 < y.bmod 18446744073709551616 ↔ _
  rw [rq_bl h1 h2, rq_bl h3 h4]
theorem rq_lcmp_le {x y : Int} (h1 : -9223372036854775808 ≤ x) (h2 : x < 9223372036854775808) (h3 : -9223372036854775808 ≤ y) (h4 : y < 9223372036854775808) : rt_lcmp x y ≤ 0 ↔ x ≤ y := by
  unfold rt_lcmp
  rw [show ((lg_cmp (Int64.ofInt x) (Int64.ofInt y)).toInt ≤ 0) ↔ (lg_cmp (Int64.ofInt x) (Int64.ofInt y) ≤ 0) from by rw [Int32.le_iff_toInt_le, show (0 : Int32).toInt = 0 from rfl], lg_cmp_le, Int64.le_iff_toInt_le, Int64.toInt_ofInt, Int64.toInt_ofInt]
  show x.bmod 18446744073709551616 ≤ y.bmod 18446744073709551616 ↔ _
  rw [rq_bl h1 h2, rq_bl h3 h4]
section
variable {m : rt_M} {s : Nat → Int} {n b r : Nat} {ρ : rq_R}
/-- what a piece of the class's reader answers -/
def rq_pcX (s : Nat → Int) (n : Nat) (W : Nat → Nat → Bool) (m : rt_M) (x : (Int × Nat) ⊕ Nat) (p : Int × rt_M) : Prop := rq_fr W m p.2 ∧ match x with
  | .inl q => p.1 = 0 ∧ p.2 47 2 = q.1 + 16 * (q.2 : Int)
  | .inr b' => p.1 = 1 ∧ rq_pc s n b' p.2
theorem q_takeX (hs : rq_st m) (h : rq_pc s n b m) (hok : rq_okT s n) {W : Nat} (hW : W ≠ 37) : rq (f_X3_take ((47 : Nat) : Int) (W : Int) m) (rq_pcX s n rq_w47 m (if rq_kd s n b = (W : Int) then .inr (rq_nxp s n b) else .inl (1, b))) := by
  obtain ⟨k1, k2⟩ := q_take hs h hok.1 (W : Int)
  by_cases z : rq_kd s n b = (W : Int)
  · have hb : b < n := rq_kd_lt (s := s) (by omega)
    rw [k1 z, if_pos z]
    exact rq_some.mpr ⟨rq_fr.rfl.up rfl, rfl, (rq_pc_adv h hb).2⟩
  · rw [k2 z, if_neg z]
    exact rq_some.mpr ⟨rq_fr.rfl.up rfl, rfl, rq_upE m 47 2 _⟩
/-- a number that may stand: the class does not yet go on -/
theorem q_isNum (hs : rq_st m) (h : rq_pc s n b m) (hok : rq_okT s n) (bp : rq_bp s n b) {lo hi : Int} (l0 : 0 ≤ lo ∧ lo ≤ 9999) (l1 : 0 ≤ hi ∧ hi ≤ 9999) : (∀ q, rq_nu s n lo hi b = .inl q → rq (f_X3_isNumber ((47 : Nat) : Int) lo hi m) (fun p => rq_fr rq_w47 m p.2 ∧ p.1 = 0 ∧ p.2 47 2 = q.1 + 16 * (q.2 : Int))) ∧ (∀ v b', rq_nu s n lo hi b = .inr (v, b') → f_X3_isNumber ((47 : Nat) : Int) lo hi m = some (1, m) ∧ v = rq_vl s n b ∧ b' = rq_nxp s n b ∧ b < n ∧ lo ≤ v ∧ v ≤ hi) := by
  have hn := hok.1
  unfold f_X3_isNumber j_X3_isNumber_36 j_X3_isNumber_44 j_X3_isNumber_49 rq_nu
  rw [q_kind hs h, Option.bind_some]
  by_cases z : rq_kd s n b = 36
  rotate_left
  · rw [if_neg z, if_neg z, q_fail hs h hn (by decide) (by decide), Option.bind_some, q_bz0]
    refine ⟨fun q e => ?_, fun v b' e => ?_⟩
    · cases e
      exact rq_some.mpr ⟨rq_fr.rfl.up rfl, rfl, rq_upE m 47 2 _⟩
    · cases e
  have hb : b < n := rq_kd_lt (s := s) (by omega)
  have vb := rq_vl_36 hok bp z
  rw [if_pos z, if_pos z, q_value hs h, Option.bind_some]
  have bad : rq ((some ((0 : Int), rt_up m 47 2 (4 + 16 * (b : Int)))).bind fun p38 : Int × rt_M => if p38.1 = 0 then (rt_bz 0).bind fun _ => some ((0 : Int), p38.2) else (rt_bz 1).bind fun _ => some (1, p38.2)) (fun p => rq_fr rq_w47 m p.2 ∧ p.1 = 0 ∧ p.2 47 2 = (4 : Int) + 16 * (b : Int)) := by
    rw [Option.bind_some, if_pos rfl, q_bz0]
    exact rq_some.mpr ⟨rq_fr.rfl.up rfl, rfl, rq_upE m 47 2 _⟩
  have l1' := rq_lcmp_lt (x := rq_vl s n b) (y := lo) (by omega) (by omega) (by omega) (by omega)
  have l2' := rq_lcmp_le (x := rq_vl s n b) (y := hi) (by omega) (by omega) (by omega) (by omega)
  by_cases z1 : lo ≤ rq_vl s n b
  rotate_left
  · rw [if_neg (show ¬ (lo ≤ rq_vl s n b ∧ rq_vl s n b ≤ hi) from fun q => z1 q.1), if_pos (show rt_lcmp (rq_vl s n b) lo < 0 from l1'.mpr (by omega))]
    refine ⟨fun q e => ?_, fun v b' e => by cases e⟩
    cases e
    rw [q_fail hs h hn (by decide) (by decide)]
    exact bad
  rw [if_neg (show ¬ rt_lcmp (rq_vl s n b) lo < 0 from fun q => by have := l1'.mp q; omega)]
  by_cases z2 : rq_vl s n b ≤ hi
  · rw [if_pos (show lo ≤ rq_vl s n b ∧ rq_vl s n b ≤ hi from ⟨z1, z2⟩), Option.bind_some, if_pos (show rt_lcmp (rq_vl s n b) hi ≤ 0 from l2'.mpr z2), q_bz1]
    refine ⟨fun q e => (by cases e), fun v b' e => ?_⟩
    cases e
    exact ⟨rfl, rfl, rfl, hb, z1, z2⟩
  · rw [if_neg (show ¬ (lo ≤ rq_vl s n b ∧ rq_vl s n b ≤ hi) from fun q => z2 q.2), Option.bind_some, if_neg (show ¬ rt_lcmp (rq_vl s n b) hi ≤ 0 from fun q => z2 (l2'.mp q))]
    refine ⟨fun q e => ?_, fun v b' e => by cases e⟩
    cases e
    rw [q_fail hs h hn (by decide) (by decide)]
    exact bad
end
