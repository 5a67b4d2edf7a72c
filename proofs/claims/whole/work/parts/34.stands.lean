/-! Layer 3: sums, sets as bits, the first of a kind -/
def rq_sum (f : Nat → Int) : Nat → Int
  | 0 => 0
  | n + 1 => rq_sum f n + f n
theorem rq_sum_s (f : Nat → Int) (n : Nat) : rq_sum f (n + 1) = rq_sum f n + f n := rfl
theorem rq_sum_b {f : Nat → Int} {c : Int} (h0 : 0 ≤ c) : ∀ n, (∀ i, i < n → 0 ≤ f i ∧ f i ≤ c) → 0 ≤ rq_sum f n ∧ rq_sum f n ≤ c * n
  | 0, _ => by simp [rq_sum]
  | n + 1, h => by
    have a := rq_sum_b h0 n (fun i hi => h i (by omega))
    have b := h n (by omega)
    unfold rq_sum
    have e : c * ((n + 1 : Nat) : Int) = c * (n : Int) + c := by rw [Int.natCast_add, Int.mul_add]; simp
    omega
theorem rq_sum_c {f g : Nat → Int} : ∀ n, (∀ i, i < n → f i = g i) → rq_sum f n = rq_sum g n
  | 0, _ => rfl
  | n + 1, h => by unfold rq_sum; rw [rq_sum_c n (fun i hi => h i (by omega)), h n (by omega)]
def rq_bn (p : Nat → Bool) : Nat → Nat
  | 0 => 0
  | n + 1 => if p n then rq_bn p n ||| 2 ^ n else rq_bn p n
theorem rq_bn_s (p : Nat → Bool) (n : Nat) : rq_bn p (n + 1) = if p n then rq_bn p n ||| 2 ^ n else rq_bn p n := rfl
theorem rq_bn_lt (p : Nat → Bool) : ∀ n, rq_bn p n < 2 ^ n
  | 0 => Nat.zero_lt_one
  | n + 1 => by
    have a := rq_bn_lt p n
    unfold rq_bn
    split
    · exact Nat.or_lt_two_pow (by rw [Nat.pow_succ]; omega) (Nat.pow_lt_pow_right (by decide) (by omega))
    · rw [Nat.pow_succ]; omega
theorem rq_bn_tb (p : Nat → Bool) (i : Nat) : ∀ n, (rq_bn p n).testBit i = (decide (i < n) && p i)
  | 0 => by simp [rq_bn]
  | n + 1 => by
    have a := rq_bn_tb p i n
    unfold rq_bn
    by_cases hp : p n = true
    · rw [if_pos hp, Nat.testBit_or, a, Nat.testBit_two_pow]
      by_cases h : n = i
      · subst h; simp [hp]
      · have : decide (i < n + 1) = decide (i < n) := by simp; omega
        rw [this]; simp [h]
    · rw [if_neg hp, a]
      by_cases h : n = i
      · subst h; simp [hp]
      · have : decide (i < n + 1) = decide (i < n) := by simp; omega
        rw [this]
theorem rq_bn_c {p q : Nat → Bool} : ∀ n, (∀ i, i < n → p i = q i) → rq_bn p n = rq_bn q n
  | 0, _ => rfl
  | n + 1, h => by unfold rq_bn; rw [rq_bn_c n (fun i hi => h i (by omega)), h n (by omega)]
/-- the first of those below n, or -1 -/
def rq_fst (p : Nat → Bool) (n : Nat) : Int := match (List.range n).find? p with
  | some i => (i : Int)
  | none => -1
theorem rq_fst_some {p : Nat → Bool} {n i : Nat} (hi : i < n) (hp : p i = true) (h : ∀ j, j < i → p j = false) : rq_fst p n = i := by
  unfold rq_fst
  have : (List.range n).find? p = some i := List.find?_range_eq_some.mpr ⟨hp, List.mem_range.mpr hi, fun j hj => by simp [h j hj]⟩
  rw [this]
theorem rq_fst_none {p : Nat → Bool} {n : Nat} (h : ∀ j, j < n → p j = false) : rq_fst p n = -1 := by
  unfold rq_fst
  have : (List.range n).find? p = none := List.find?_range_eq_none.mpr (fun j hj => by simp [h j hj])
  rw [this]
theorem rq_fst_cases (p : Nat → Bool) (n : Nat) : (∃ i, i < n ∧ rq_fst p n = (i : Int) ∧ p i = true ∧ ∀ j, j < i → p j = false) ∨ (rq_fst p n = -1 ∧ ∀ j, j < n → p j = false) := by
  unfold rq_fst
  cases h : (List.range n).find? p with
  | some i =>
    obtain ⟨a, b, c⟩ := List.find?_range_eq_some.mp h
    exact Or.inl ⟨i, List.mem_range.mp b, rfl, a, fun j hj => by have := c j hj; simpa using this⟩
  | none =>
    have c := List.find?_range_eq_none.mp h
    exact Or.inr ⟨rfl, fun j hj => by have := c j hj; simpa using this⟩
/-! stands: 0 the season, 1 + w the head under w, 7 + w its wear -/
abbrev rq_S : Type := Nat → Int
def rq_vs (ρ : rq_R) (S : rq_S) : Prop := 0 ≤ S 0 ∧ S 0 < 900000 ∧ ∀ w, w < 6 → (-1 ≤ S (1 + w) ∧ S (1 + w) < ρ.1 0 1 ∧ 0 ≤ S (7 + w) ∧ S (7 + w) ≤ 9) ∧ (¬ (w : Int) < ρ.1 0 0 → S (1 + w) = -1 ∧ S (7 + w) = 0)
def rq_wo (S : rq_S) (h : Int) : Int := rq_fst (fun w => S (1 + w) == h) 6
def rq_cp (ρ : rq_R) (S : rq_S) (w h : Nat) : Int := if S (1 + w) = -1 ∧ S (7 + w) < 9 ∧ rq_wo S h = -1 ∧ rq_fi ρ w h (S 0).toNat = 1 then 1 else 0
/-- whether w falls as the next season comes -/
def rq_fl (ρ : rq_R) (S : rq_S) (w : Nat) : Bool := decide (S (1 + w) ≠ -1) && decide (rq_fi ρ w (S (1 + w)).toNat ((S 0).toNat + 1) = 0)
def rq_wr (S : rq_S) (w : Nat) : Int := if S (1 + w) = -1 then (if S (7 + w) + 1 < 9 then S (7 + w) + 1 else 9) else S (7 + w)
def rq_ps (ρ : rq_R) (S : rq_S) : rq_S := fun k => if k = 0 then S 0 + 1 else if k < 7 then (if ((k - 1 : Nat) : Int) < ρ.1 0 0 ∧ rq_fl ρ S (k - 1) = true then -1 else S k) else (if ((k - 7 : Nat) : Int) < ρ.1 0 0 then rq_wr S (k - 7) else S k)
def rq_cm (ρ : rq_R) (S : rq_S) : Int := rq_sum (fun w => if rq_fl ρ S w = true then 1 else 0) (ρ.1 0 0).toNat
def rq_wn (ρ : rq_R) (S : rq_S) : Nat := rq_bn (fun w => decide (S (1 + w) ≠ -1)) (ρ.1 0 0).toNat
def rq_wt (ρ : rq_R) (S : rq_S) : Nat := rq_bn (fun w => decide (9 ≤ S (7 + w))) (ρ.1 0 0).toNat
/-- the office of a set -/
def rq_os (ρ : rq_R) (x : Int) : Int := rq_sum (fun w => if rt_iand (rt_ishr x (w : Int)) 1 = 1 then ρ.1 2 w else 0) (ρ.1 0 0).toNat
def rq_sbL : List Nat := [49, 115, 149, 162, 175, 188, 200, 203, 206, 209, 212, 215, 218, 221, 224, 227, 230, 233, 236, 239, 242, 245]
def rq_sc (b : Nat) (S : rq_S) (m : rt_M) : Prop := m b 0 = S 0 ∧ ∀ w, w < 6 → m (b + 1) w = S (1 + w) ∧ m (b + 2) w = S (7 + w)
def rq_Sc (b : Nat) (ρ : rq_R) (S : rq_S) (m : rt_M) : Prop := b ∈ rq_sbL ∧ rq_sc b S m ∧ rq_vs ρ S
def rq_wS (b : Nat) (k j : Nat) : Bool := rq_wE k j || (k == b && j == 0) || k == b + 1 || k == b + 2
theorem rq_fi01 (ρ : rq_R) (w h t : Nat) : rq_fi ρ w h t = 0 ∨ rq_fi ρ w h t = 1 := by
  unfold rq_fi
  split
  · exact Or.inr rfl
  · exact Or.inl rfl
theorem q_sbk : ∀ b ∈ rq_sbL, (rt_kd b = 27 ∧ rt_kd (b + 1) = 1 ∧ rt_ln (b + 1) = 6 ∧ rt_kd (b + 2) = 1 ∧ rt_ln (b + 2) = 6 ∧ (b, 1, ((b + 1 : Nat) : Int)) ∈ rq_P ∧ (b, 2, ((b + 2 : Nat) : Int)) ∈ rq_P) ∧ (rq_P.all fun p => !(rq_wS b p.1 p.2.1)) = true ∧ (b < 50 ∨ 114 < b) ∧ rq_wE b 0 = false ∧ (∀ j, j < 2 → rq_wE (b + 1) j = false) := by decide +kernel
theorem rq_vs_ps {ρ : rq_R} {S : rq_S} (hv : rq_va ρ) (h : rq_vs ρ S) (h0 : S 0 < 899999) : rq_vs ρ (rq_ps ρ S) := by
  obtain ⟨a, b, c⟩ := h
  refine ⟨?_, ?_, ?_⟩
  · show 0 ≤ S 0 + 1; omega
  · show S 0 + 1 < 900000; omega
  · intro w hw
    obtain ⟨d, e⟩ := c w hw
    have e1 : rq_ps ρ S (1 + w) = if ((w : Nat) : Int) < ρ.1 0 0 ∧ rq_fl ρ S w = true then -1 else S (1 + w) := by
      unfold rq_ps; rw [if_neg (by omega), if_pos (by omega), show 1 + w - 1 = w by omega]
    have e2 : rq_ps ρ S (7 + w) = if ((w : Nat) : Int) < ρ.1 0 0 then rq_wr S w else S (7 + w) := by
      unfold rq_ps; rw [if_neg (by omega), if_neg (by omega), show 7 + w - 7 = w by omega]
    rw [e1, e2]
    have hv0 := hv.1
    refine ⟨⟨?_, ?_, ?_, ?_⟩, fun q => ?_⟩
    · split <;> omega
    · split <;> omega
    · unfold rq_wr; split
      · split
        · split <;> omega
        · omega
      · omega
    · unfold rq_wr; split
      · split
        · split <;> omega
        · omega
      · omega
    · rw [if_neg (fun z => q z.1), if_neg q]; exact e q
section
variable {r b : Nat} {ρ : rq_R} {S : rq_S} {m : rt_M}
theorem rq_sc_fr {m' : rt_M} (h : rq_sc b S m) (k0 : m' b 0 = m b 0) (k1 : ∀ w, w < 6 → m' (b + 1) w = m (b + 1) w) (k2 : ∀ w, w < 6 → m' (b + 2) w = m (b + 2) w) : rq_sc b S m' :=
  ⟨by rw [k0]; exact h.1, fun w hw => by rw [k1 w hw, k2 w hw]; exact h.2 w hw⟩
theorem rq_Sc_wE {m' : rt_M} (h : rq_Sc b ρ S m) (k : rq_fr rq_wE m m') : rq_Sc b ρ S m' := by
  obtain ⟨hb, hc, hv⟩ := h
  have z := (q_sbk b hb).2.2.1
  have z2 : ∀ a j, a = b ∨ a = b + 1 ∨ a = b + 2 → rq_wE a j = false := by
    intro a j q
    unfold rq_wE
    simp only [Bool.or_eq_false_iff, beq_eq_false_iff_ne]
    omega
  exact ⟨hb, rq_sc_fr hc (k _ _ (z2 _ _ (by omega))) (fun w _ => k _ _ (z2 _ _ (by omega))) (fun w _ => k _ _ (z2 _ _ (by omega))), hv⟩
theorem rq_C_wS {m' : rt_M} (hb : b ∈ rq_sbL) (h : rq_C r ρ m) (k : rq_fr (rq_wS b) m m') : rq_C r ρ m' := by
  obtain ⟨hs, hr, hv, hc⟩ := h
  have z := q_sbk b hb
  refine ⟨rq_st_fr hs k z.2.1, hr, hv, rq_rc_fr hc hv (fun a j h1 h2 h3 h4 => k a j ?_)⟩
  have z3 := z.2.2.1
  unfold rq_wS rq_wE
  simp only [Bool.or_eq_false_iff, beq_eq_false_iff_ne, Bool.and_eq_false_iff]
  omega
theorem rq_wS_E {k j : Nat} (h : rq_wS b k j = false) : rq_wE k j = false := by
  unfold rq_wS at h
  simp only [Bool.or_eq_false_iff] at h
  exact h.1.1.1
theorem q_gf7 (hb : b ∈ rq_sbL) (j : Nat) : rt_gf 7 j (b : Int) m = some (m b j) := if_pos (q_sbk b hb).1.1
theorem q_pf7 (hb : b ∈ rq_sbL) (j : Nat) (v : Int) : rt_pf 7 j (b : Int) v m = some (rt_up m b j v) := if_pos (q_sbk b hb).1.1
theorem q_gd7 (hb : b ∈ rq_sbL) {α : Type} (o : Option α) : rt_gd 7 (b : Int) o = o := if_pos (q_sbk b hb).1.1
theorem q_hu (hs : rq_st m) (h : rq_Sc b ρ S m) {w : Nat} (hw : w < 6) : rt_al 1 (m b 1) (w : Int) m = some (S (1 + w)) := by
  obtain ⟨hb, hc, hv⟩ := h
  obtain ⟨k0, k1, l1, k2, l2, p1, p2⟩ := (q_sbk b hb).1
  rw [q_pt hs p1, q_al k1 l1 hw, (hc.2 w hw).1]
theorem q_hw (hs : rq_st m) (h : rq_Sc b ρ S m) {w : Nat} (hw : w < 6) : rt_al 1 (m b 2) (w : Int) m = some (S (7 + w)) := by
  obtain ⟨hb, hc, hv⟩ := h
  obtain ⟨k0, k1, l1, k2, l2, p1, p2⟩ := (q_sbk b hb).1
  rw [q_pt hs p2, q_al k2 l2 hw, (hc.2 w hw).2]
theorem q_headUnder (hs : rq_st m) (h : rq_Sc b ρ S m) {w : Nat} (hw : w < 6) : f_X7_headUnder b w m = some (S (1 + w)) := by
  unfold f_X7_headUnder
  rw [if_neg (by omega), if_neg (by omega), q_gf7 h.1, Option.bind_some, q_hu hs h hw]
  rfl
theorem q_wearOf (hs : rq_st m) (h : rq_Sc b ρ S m) {w : Nat} (hw : w < 6) : f_X7_wearOf b w m = some (S (7 + w)) := by
  unfold f_X7_wearOf
  rw [if_neg (by omega), if_neg (by omega), q_gf7 h.1, Option.bind_some, q_hw hs h hw]
  rfl
theorem q_wigUpon (hs : rq_st m) (h : rq_Sc b ρ S m) (k : Nat) : f_X7_wigUpon b k m = some (rq_wo S k) := by
  unfold f_X7_wigUpon
  apply rq_of
  refine rq_call (rq_up (Q := fun e => match e with
      | .inl _ => rq_wo S k = -1
      | .inr t => rq_wo S k = t) (fun i s => s = (i : Int) ∧ ∀ j, j < i → (S (1 + j) == (k : Int)) = false) 6 (by decide) ?_ ?_ ⟨rfl, fun j hj => absurd hj (Nat.not_lt_zero _)⟩) ?_
  · rintro i s hi ⟨rfl, hj⟩
    unfold b_X7_wigUpon_2
    rw [if_neg (by omega), if_neg (by omega), q_gf7 h.1, Option.bind_some, q_hu hs h hi, Option.bind_some]
    by_cases q : S (1 + i) = (k : Int)
    · rw [if_pos q]
      exact rq_some.mpr (rq_inr (rq_fst_some hi (by simp [q]) hj))
    · rw [if_neg q]
      unfold j_X7_wigUpon_25_2
      rw [rq_n1 (by omega)]
      refine rq_some.mpr (rq_inl ⟨rfl, fun j hj2 => ?_⟩)
      by_cases z : j = i
      · subst z; simp [q]
      · exact hj j (by omega)
  · rintro s ⟨rfl, hj⟩
    unfold b_X7_wigUpon_2
    rw [if_pos (by omega)]
    exact rq_some.mpr (rq_inre (rq_fst_none hj))
  · rintro (e | t) q
    · exact rq_some.mpr q.symm
    · exact rq_some.mpr q.symm
theorem q_canPut (hC : rq_C r ρ m) (h : rq_Sc b ρ S m) {w k : Nat} (hw : (w : Int) < ρ.1 0 0) (hk : (k : Int) < ρ.1 0 1) : rq (f_X7_canPut b r w k m) (fun p => p.1 = rq_cp ρ S w k ∧ rq_fr rq_wE m p.2) := by
  have hv0 := hC.2.2.1.1
  have hs := hC.1
  have hw6 : w < 6 := by omega
  unfold f_X7_canPut rq_cp
  rw [q_gd4 hC, q_isWigT hC (by omega) hw, Option.bind_some, if_neg (by decide), q_gd4 hC, q_isHeadT hC (by omega) hk, Option.bind_some, if_neg (by decide), q_gf7 h.1, Option.bind_some, q_hu hs h hw6, Option.bind_some]
  by_cases q1 : S (1 + w) = -1
  · rw [if_pos q1, q_gf7 h.1, Option.bind_some, q_hw hs h hw6, Option.bind_some]
    by_cases q2 : S (7 + w) < 9
    · rw [if_neg (by omega), q_wigUpon hs h, Option.bind_some]
      by_cases q3 : rq_wo S k = -1
      · rw [if_pos q3, q_gf7 h.1, Option.bind_some, h.2.1.1, q_gd4 hC]
        have hs0 := h.2.2
        have e : S 0 = (((S 0).toNat : Nat) : Int) := by have := hs0.1; omega
        rw [e]
        refine rq_call (q_isFit hC hw hk (by have := hs0.2.1; omega)) ?_
        rintro ⟨x, m1⟩ ⟨rfl, hf⟩
        dsimp only
        rw [← e]
        by_cases q4 : rq_fi ρ w k (S 0).toNat = 0
        · rw [if_pos q4, if_neg (by omega)]
          exact rq_some.mpr ⟨rfl, hf⟩
        · rw [if_neg q4, if_pos ⟨q1, q2, q3, (rq_fi01 ρ w k _).resolve_left q4⟩]
          exact rq_some.mpr ⟨rfl, hf⟩
      · rw [if_neg q3, if_neg (fun z => q3 z.2.2.1)]
        exact rq_some.mpr ⟨rfl, rq_fr.rfl⟩
    · rw [if_pos (by omega), if_neg (fun z => q2 z.2.1)]
      exact rq_some.mpr ⟨rfl, rq_fr.rfl⟩
  · rw [if_neg q1, if_neg (fun z => q1 z.1)]
    exact rq_some.mpr ⟨rfl, rq_fr.rfl⟩
theorem q_canPut0 (hC : rq_C r ρ m) {a k : Int} (hn : ¬ (0 ≤ a ∧ a < ρ.1 0 0 ∧ 0 ≤ k ∧ k < ρ.1 0 1)) : f_X7_canPut b r a k m = some (0, m) := by
  unfold f_X7_canPut
  by_cases q : 0 ≤ a ∧ a < ρ.1 0 0
  · rw [q_gd4 hC, q_isWigT hC q.1 q.2, Option.bind_some, if_neg (by decide), q_gd4 hC, q_isHeadF hC (by omega), Option.bind_some, if_pos rfl]
    rfl
  · rw [q_gd4 hC, q_isWigF hC q, Option.bind_some, if_pos rfl]
    rfl
theorem q_canTakeOff (hC : rq_C r ρ m) (h : rq_Sc b ρ S m) (a : Int) : f_X7_canTakeOff b r a m = some (if 0 ≤ a ∧ a < ρ.1 0 0 ∧ S (1 + a.toNat) ≠ -1 then 1 else 0) := by
  have hv0 := hC.2.2.1.1
  unfold f_X7_canTakeOff
  by_cases q : 0 ≤ a ∧ a < ρ.1 0 0
  · obtain ⟨w, rfl⟩ := Int.eq_ofNat_of_zero_le q.1
    rw [q_gd4 hC, q_isWigT hC q.1 q.2, Option.bind_some, if_neg (by decide), q_gf7 h.1, Option.bind_some, q_hu hC.1 h (by omega), Option.bind_some]
    by_cases q1 : S (1 + w) = -1
    · rw [if_pos q1, if_neg (fun z => z.2.2 q1)]; rfl
    · rw [if_neg q1, if_pos ⟨q.1, q.2, q1⟩]; rfl
  · rw [q_gd4 hC, q_isWigF hC q, Option.bind_some, if_pos rfl, if_neg (fun z => q ⟨z.1, z.2.1⟩)]; rfl
theorem q_canMend (hC : rq_C r ρ m) (h : rq_Sc b ρ S m) (a : Int) : f_X7_canMend b r a m = some (if 0 ≤ a ∧ a < ρ.1 0 0 ∧ S (1 + a.toNat) = -1 then 1 else 0) := by
  have hv0 := hC.2.2.1.1
  unfold f_X7_canMend
  by_cases q : 0 ≤ a ∧ a < ρ.1 0 0
  · obtain ⟨w, rfl⟩ := Int.eq_ofNat_of_zero_le q.1
    rw [q_gd4 hC, q_isWigT hC q.1 q.2, Option.bind_some, if_neg (by decide), q_gf7 h.1, Option.bind_some, q_hu hC.1 h (by omega), Option.bind_some]
    by_cases q1 : S (1 + w) = -1
    · rw [if_pos q1, if_pos ⟨q.1, q.2, q1⟩]; rfl
    · rw [if_neg q1, if_neg (fun z => q1 z.2.2)]; rfl
  · rw [q_gd4 hC, q_isWigF hC q, Option.bind_some, if_pos rfl, if_neg (fun z => q ⟨z.1, z.2.1⟩)]; rfl
def rq_at (S : rq_S) (k : Nat) (v : Int) : rq_S := fun j => if j = k then v else S j
theorem q_place (hs : rq_st m) (h : rq_Sc b ρ S m) {w : Nat} (hw : w < 6) (v : Int) : rq (f_X7_place b w v m) (fun m1 => rq_sc b (rq_at S (1 + w) v) m1 ∧ rq_fr (rq_wS b) m m1) := by
  obtain ⟨hb, hc, hv⟩ := h
  obtain ⟨k0, k1, l1, k2, l2, p1, p2⟩ := (q_sbk b hb).1
  unfold f_X7_place
  rw [if_neg (by omega), if_neg (by omega), q_gf7 hb, Option.bind_some, q_pt hs p1, q_sa k1 l1 hw, Option.bind_some]
  refine rq_some.mpr ⟨⟨?_, fun j hj => ⟨?_, ?_⟩⟩, rq_fr.rfl.up (by unfold rq_wS; simp)⟩
  · rw [q_up, if_neg (by omega), hc.1]; unfold rq_at; rw [if_neg (by omega)]
  · rw [q_up]; unfold rq_at
    by_cases z : j = w
    · rw [if_pos ⟨rfl, z⟩, if_pos (by omega)]
    · rw [if_neg (by omega), if_neg (by omega), (hc.2 j hj).1]
  · rw [q_up, if_neg (by omega), (hc.2 j hj).2]; unfold rq_at; rw [if_neg (by omega)]
theorem q_makeNew (hs : rq_st m) (h : rq_Sc b ρ S m) {w : Nat} (hw : w < 6) : rq (f_X7_makeNew b w m) (fun m1 => rq_sc b (rq_at S (7 + w) 0) m1 ∧ rq_fr (rq_wS b) m m1) := by
  obtain ⟨hb, hc, hv⟩ := h
  obtain ⟨k0, k1, l1, k2, l2, p1, p2⟩ := (q_sbk b hb).1
  unfold f_X7_makeNew
  rw [if_neg (by omega), if_neg (by omega), q_gf7 hb, Option.bind_some, q_pt hs p2, q_sa k2 l2 hw, Option.bind_some]
  refine rq_some.mpr ⟨⟨?_, fun j hj => ⟨?_, ?_⟩⟩, rq_fr.rfl.up (by unfold rq_wS; simp)⟩
  · rw [q_up, if_neg (by omega), hc.1]; unfold rq_at; rw [if_neg (by omega)]
  · rw [q_up, if_neg (by omega), (hc.2 j hj).1]; unfold rq_at; rw [if_neg (by omega)]
  · rw [q_up]; unfold rq_at
    by_cases z : j = w
    · rw [if_pos ⟨rfl, z⟩, if_pos (by omega)]
    · rw [if_neg (by omega), if_neg (by omega), (hc.2 j hj).2]
end
