/-! Layer 3: the class lays ways -/
section
variable {r : Nat} {ρ : rq_R} {A : rq_A} {c : Nat} {m : rt_M} {t : Nat} {D : Nat → Int}
/-- of whom it is told, but for x; who fits as it is told -/
def rq_uT (D : Nat → Int) (x : Int) (w : Nat) : Bool := decide (D w ≠ -1) && !decide ((w : Int) = x)
def rq_uF (ρ : rq_R) (t : Nat) (D : Nat → Int) (w h : Nat) : Bool := rq_tt ρ w h t == D w
abbrev rq_uW (ρ : rq_R) (t : Nat) (D : Nat → Int) (x : Int) (j s : Nat) : Int := rq_Wy (rq_uT D x) (rq_uF ρ t D) (ρ.1 0 1).toNat j s
def rq_w26 (k _j : Nat) : Bool := k == 126
theorem rq_w26_st : (rq_P.all fun p => !(rq_w26 p.1 p.2.1)) = true := by decide +kernel
theorem rq_WQ_26 {k j : Nat} (h : rq_WQ k j = false) : rq_w26 k j = false := by
  have h := rq_WQ_C h
  unfold rq_WC at h
  unfold rq_w26
  simp only [Bool.or_eq_false_iff, Bool.and_eq_false_iff, beq_eq_false_iff_ne, decide_eq_false_iff_not] at h ⊢
  omega
theorem rq_ml_26 {m' : rt_M} (h : rq_ml ρ t m) (hv : rq_va ρ) (f : rq_fr rq_w26 m m') : rq_ml ρ t m' := by
  have hb := hv.1
  refine ⟨by rw [f 118 0 rfl]; exact h.1, by rw [f 118 1 rfl]; exact h.2.1, fun w j hw hj => ?_⟩
  rw [f _ j (by unfold rq_w26; simp only [beq_eq_false_iff_ne]; omega)]
  exact h.2.2 w j hw hj
theorem rq_xo_lt : ∀ s, s < 64 → ∀ h, h < 6 → s.testBit h = true → s ^^^ 2 ^ h < s := by decide +kernel
theorem rq_uW_b (hv : rq_va ρ) (x : Int) {j : Nat} (hj : j ≤ 6) (s : Nat) : 0 ≤ rq_uW ρ t D x j s ∧ rq_uW ρ t D x j s ≤ 46656 := by
  have hb := hv.1
  have a := rq_Wy_b (T := rq_uT D x) (F := rq_uF ρ t D) (H := (ρ.1 0 1).toNat) (by omega) j s
  have h6 : (6 : Int) ^ j ≤ 46656 := by
    have : j = 0 ∨ j = 1 ∨ j = 2 ∨ j = 3 ∨ j = 4 ∨ j = 5 ∨ j = 6 := by omega
    rcases this with rfl | rfl | rfl | rfl | rfl | rfl | rfl <;> decide
  exact ⟨a.1, Int.le_trans a.2 h6⟩
/-- one set with one wig more -/
theorem q_lay13 (hs : rq_st m) (hv : rq_va ρ) (hm : rq_ml ρ t m) {x : Int} {j s : Nat} (hj : (j : Int) < ρ.1 0 0) (hs6 : s < 64) (ht : rq_uT D x j = true) (hW : ∀ s', s' ≤ s → m 126 s' = rq_uW ρ t D x j s') : rq (rt_it (b_X1_layUnder_13 ((118 : Nat) : Int) (j : Int) (D j) (s : Int)) 4000 (0, 0, m)) (fun e => e = (rq_uW ρ t D x (j + 1) s, m)) := by
  have hb := hv.1
  have tk := q_tk j (by omega)
  have hWb := rq_uW_b (ρ := ρ) (t := t) (D := D) hv x (j := j) (by omega)
  refine rq_up (fun i e => e.2.1 = (i : Int) ∧ e.1 = rq_sum (fun h => if s.testBit h = true ∧ rq_uF ρ t D j h = true then rq_uW ρ t D x j (s ^^^ 2 ^ h) else 0) i ∧ e.2.2 = m) (ρ.1 0 1).toNat (by omega) ?_ ?_ (by exact ⟨rfl, rfl, rfl⟩)
  · rintro i ⟨y, z, mm⟩ hi ⟨e1, e2, e3⟩
    dsimp only at e1 e2 e3
    subst e1 e2 e3
    have sb := rq_sum_b (f := fun h => if s.testBit h = true ∧ rq_uF ρ t D j h = true then rq_uW ρ t D x j (s ^^^ 2 ^ h) else 0) (c := 46656) (by decide) i (fun h _ => by
      have := hWb (s ^^^ 2 ^ h)
      split <;> omega)
    have stay : ¬ (s.testBit i = true ∧ rq_uF ρ t D j i = true) → rq (j_X1_layUnder_61_13 ((118 : Nat) : Int) (j : Int) (D j) (s : Int) (rq_sum (fun h => if s.testBit h = true ∧ rq_uF ρ t D j h = true then rq_uW ρ t D x j (s ^^^ 2 ^ h) else 0) i) (i : Int) mm) (fun t_1 => (∀ s', t_1 = .inl s' → s'.2.1 = ((i + 1 : Nat) : Int) ∧ s'.1 = rq_sum (fun h => if s.testBit h = true ∧ rq_uF ρ t D j h = true then rq_uW ρ t D x j (s ^^^ 2 ^ h) else 0) (i + 1) ∧ s'.2.2 = mm) ∧ (∀ e, t_1 = .inr e → e = (rq_uW ρ t D x (j + 1) s, mm))) := by
      intro q
      unfold j_X1_layUnder_61_13
      rw [rq_n1 (by omega)]
      refine rq_some.mpr (rq_inl ⟨rfl, ?_, rfl⟩)
      rw [rq_sum_s, if_neg q]
      omega
    unfold b_X1_layUnder_13
    dsimp only
    rw [q_g1, Option.bind_some, hm.2.1, if_neg (by omega), rq_tb s (by omega) i (by omega)]
    by_cases z1 : s.testBit i = true
    · rw [if_pos z1, if_pos rfl, q_g1, Option.bind_some, pt_118_2 hs, show (119 : Int) = ((119 : Nat) : Int) from rfl, q_al kd_119 ln_119 (show j < 6 by omega), Option.bind_some, hs _ tk.1, q_al tk.2.1 tk.2.2 (show i < 6 by omega), Option.bind_some, hm.2.2 j i (by omega) hi]
      by_cases z2 : rq_tt ρ j i t = D j
      · have hx := rq_xo_lt s hs6 i (by omega) z1
        have f1 : rq_uF ρ t D j i = true := by unfold rq_uF; simp [z2]
        have hwb := hWb (s ^^^ 2 ^ i)
        rw [if_pos z2, q_g1, Option.bind_some, pt_118_3 hs, show (126 : Int) = ((126 : Nat) : Int) from rfl, rq_xo s hs6 i (by omega), q_al kd_126 ln_126 (by omega), Option.bind_some, hW _ (by omega)]
        unfold j_X1_layUnder_61_13
        rw [rq_n1 (by omega), rq_iadd (by omega) (by omega)]
        refine rq_some.mpr (rq_inl ⟨rfl, ?_, rfl⟩)
        rw [rq_sum_s, if_pos ⟨z1, f1⟩]
      · rw [if_neg z2]
        exact stay (fun q => z2 (by have := q.2; unfold rq_uF at this; simpa using this))
    · rw [if_neg z1, if_neg (by decide)]
      exact stay (fun q => z1 q.1)
  · rintro ⟨y, z, mm⟩ ⟨e1, e2, e3⟩
    dsimp only at e1 e2 e3
    subst e1 e2 e3
    unfold b_X1_layUnder_13
    dsimp only
    rw [q_g1, Option.bind_some, hm.2.1, if_pos (by omega)]
    refine rq_some.mpr (rq_inre ?_)
    show (_, _) = (rq_uW ρ t D x (j + 1) s, _)
    unfold rq_uW
    rw [rq_Wy_s, if_pos ht]
theorem q_layUnder (h : rq_J r ρ A c m) (hm : rq_ml ρ t m) {x : Int} {j : Nat} (hj : (j : Int) < ρ.1 0 0) (ht : rq_uT D x j = true) (hW : ∀ s, s < 64 → m 126 s = rq_uW ρ t D x j s) : rq (f_X1_layUnder ((118 : Nat) : Int) (j : Int) (D j) m) (fun m1 => (∀ s, s < 64 → m1 126 s = rq_uW ρ t D x (j + 1) s) ∧ rq_fr rq_w26 m m1) := by
  have hv := h.1.2.2.1
  unfold f_X1_layUnder
  refine rq_call (rq_up (Q := fun m1 => (∀ s, s < 64 → m1 126 s = rq_uW ρ t D x (j + 1) s) ∧ rq_fr rq_w26 m m1) (fun i e => e.1 = 63 - (i : Int) ∧ (∀ s, s < 64 → e.2 126 s = if s < 64 - i then rq_uW ρ t D x j s else rq_uW ρ t D x (j + 1) s) ∧ rq_fr rq_w26 m e.2) 64 (by decide) ?_ ?_ (by exact ⟨rfl, fun s hs => by rw [if_pos (by omega)]; exact hW s hs, rq_fr.rfl⟩)) (fun m1 q => rq_some.mpr q)
  · rintro i ⟨y, mm⟩ hi ⟨e1, e2, hf⟩
    dsimp only at e1 e2 hf
    obtain ⟨s, hs⟩ : ∃ s : Nat, s = 63 - i := ⟨_, rfl⟩
    have e1 : y = (s : Int) := by omega
    subst e1
    have hJ := rq_J_fr h (hf.mono (fun _ _ => rq_WQ_26)) (Nat.le_refl c)
    have hm1 := rq_ml_26 hm hv hf
    unfold b_X1_layUnder_3
    dsimp only
    rw [if_neg (by omega)]
    refine rq_call (q_lay13 hJ.1.1 hv hm1 (x := x) (s := s) hj (by omega) ht (fun s' hs' => by rw [e2 s' (by omega), if_pos (by omega)])) ?_
    rintro e rfl
    dsimp only
    rw [q_g1, Option.bind_some, pt_118_3 hJ.1.1, show (126 : Int) = ((126 : Nat) : Int) from rfl, q_sa kd_126 ln_126 (show s < 64 by omega), Option.bind_some, rq_iadd (by omega) (by omega)]
    refine rq_some.mpr (rq_inl ⟨by dsimp only; omega, fun s' hs' => ?_, hf.up rfl⟩)
    show rt_up mm 126 s _ 126 s' = _
    rw [q_up]
    by_cases z : s' = s
    · rw [if_pos ⟨rfl, z⟩, if_neg (by omega), z]
    · rw [if_neg (fun q => z q.2), e2 s' hs']
      by_cases y : s' < 64 - i
      · rw [if_pos y, if_pos (by omega)]
      · rw [if_neg y, if_neg (by omega)]
  · rintro ⟨y, mm⟩ ⟨e1, e2, hf⟩
    dsimp only at e1 e2 hf
    unfold b_X1_layUnder_3
    dsimp only
    rw [if_pos (by omega)]
    exact rq_some.mpr (rq_inre ⟨fun s hs => by rw [e2 s hs, if_neg (by omega)], hf⟩)
/-- the ways of all of whom it is told, but for x -/
theorem q_layWays (h : rq_J r ρ A c m) (hm : rq_ml ρ t m) (x : Int) : rq (f_X1_layWays ((118 : Nat) : Int) ((60 : Nat) : Int) x m) (fun m1 => (∀ s, s < 64 → m1 126 s = rq_uW ρ t A.2.2.2 x (ρ.1 0 0).toNat s) ∧ rq_fr rq_w26 m m1) := by
  have hv := h.1.2.2.1
  have hb := hv.1
  unfold f_X1_layWays
  refine rq_call (rq_up (Q := fun m1 => (∀ s, s < 64 → m1 126 s = rq_uW ρ t A.2.2.2 x 0 s) ∧ rq_fr rq_w26 m m1) (fun i e => e.1 = (i : Int) ∧ (∀ s, s < i → e.2 126 s = rq_uW ρ t A.2.2.2 x 0 s) ∧ rq_fr rq_w26 m e.2) 64 (by decide) ?_ ?_ (by exact ⟨rfl, fun j hj => absurd hj (Nat.not_lt_zero _), rq_fr.rfl⟩)) ?_
  · rintro i ⟨y, mm⟩ hi ⟨e1, e2, hf⟩
    dsimp only at e1 e2 hf
    subst e1
    have hs1 : rq_st mm := rq_st_fr h.1.1 hf rq_w26_st
    have key : ∀ v, v = rq_uW ρ t A.2.2.2 x 0 i → rq (j_X1_layWays_22_2 ((118 : Nat) : Int) ((60 : Nat) : Int) x (i : Int) 126 (i : Int) v mm) (fun t_1 => (∀ s', t_1 = .inl s' → s'.1 = ((i + 1 : Nat) : Int) ∧ (∀ s, s < i + 1 → s'.2 126 s = rq_uW ρ t A.2.2.2 x 0 s) ∧ rq_fr rq_w26 m s'.2) ∧ (∀ e, t_1 = .inr e → (∀ s, s < 64 → e 126 s = rq_uW ρ t A.2.2.2 x 0 s) ∧ rq_fr rq_w26 m e)) := by
      intro v ev
      unfold j_X1_layWays_22_2
      rw [show (126 : Int) = ((126 : Nat) : Int) from rfl, q_sa kd_126 ln_126 hi, Option.bind_some, rq_n1 (by omega)]
      refine rq_some.mpr (rq_inl ⟨rfl, fun s hs => ?_, hf.up rfl⟩)
      show rt_up mm 126 i v 126 s = _
      rw [q_up]
      by_cases z : s = i
      · rw [if_pos ⟨rfl, z⟩, ev, z]
      · rw [if_neg (fun q => z q.2)]; exact e2 s (by omega)
    unfold b_X1_layWays_2
    dsimp only
    rw [if_neg (by omega), q_g1, Option.bind_some, pt_118_3 hs1]
    by_cases z : (i : Int) = 0
    · rw [if_pos z]
      exact key 1 (by show (1 : Int) = if i = 0 then 1 else 0; rw [if_pos (by omega)])
    · rw [if_neg z]
      exact key 0 (by show (0 : Int) = if i = 0 then 1 else 0; rw [if_neg (by omega)])
  · rintro ⟨y, mm⟩ ⟨e1, e2, hf⟩
    dsimp only at e1 e2 hf
    unfold b_X1_layWays_2
    dsimp only
    rw [if_pos (by omega)]
    exact rq_some.mpr (rq_inre ⟨e2, hf⟩)
  · rintro m1 ⟨w1, f1⟩
    have hJ1 := rq_J_fr h (f1.mono (fun _ _ => rq_WQ_26)) (Nat.le_refl c)
    have hm1 := rq_ml_26 hm hv f1
    refine rq_call (rq_up (Q := fun m2 => (∀ s, s < 64 → m2 126 s = rq_uW ρ t A.2.2.2 x (ρ.1 0 0).toNat s) ∧ rq_fr rq_w26 m1 m2) (fun i e => e.1 = (i : Int) ∧ (∀ s, s < 64 → e.2 126 s = rq_uW ρ t A.2.2.2 x i s) ∧ rq_fr rq_w26 m1 e.2) (ρ.1 0 0).toNat (by omega) ?_ ?_ (by exact ⟨rfl, w1, rq_fr.rfl⟩)) (fun m2 q => rq_some.mpr ⟨q.1, f1.trans q.2⟩)
    · rintro i ⟨y, mm⟩ hi ⟨e1, e2, hf⟩
      dsimp only at e1 e2 hf
      subst e1
      have hJ := rq_J_fr hJ1 (hf.mono (fun _ _ => rq_WQ_26)) (Nat.le_refl c)
      have hm2 := rq_ml_26 hm1 hv hf
      have d := hJ.2.2.2.1.2.2.2 i (by omega)
      have stay : rq_uT A.2.2.2 x i = false → rq (j_X1_layWays_59_31 ((118 : Nat) : Int) ((60 : Nat) : Int) x (i : Int) mm) (fun t_1 => (∀ s', t_1 = .inl s' → s'.1 = ((i + 1 : Nat) : Int) ∧ (∀ s, s < 64 → s'.2 126 s = rq_uW ρ t A.2.2.2 x (i + 1) s) ∧ rq_fr rq_w26 m1 s'.2) ∧ (∀ e, t_1 = .inr e → (∀ s, s < 64 → e 126 s = rq_uW ρ t A.2.2.2 x (ρ.1 0 0).toNat s) ∧ rq_fr rq_w26 m1 e)) := by
        intro q
        unfold j_X1_layWays_59_31
        rw [rq_n1 (by omega)]
        refine rq_some.mpr (rq_inl ⟨rfl, fun s hs => ?_, hf⟩)
        show mm 126 s = _
        unfold rq_uW
        rw [e2 s hs, rq_Wy_s, if_neg (by rw [q]; decide)]
      unfold b_X1_layWays_31
      dsimp only
      rw [q_g1, Option.bind_some, hm2.1, if_neg (by omega), q_al kd_60 ln_60 (show i < 6 by omega), Option.bind_some, d]
      by_cases z1 : A.2.2.2 i = -1
      · rw [if_pos z1]
        exact stay (by unfold rq_uT; simp [z1])
      · rw [if_neg z1]
        by_cases z2 : (i : Int) = x
        · rw [if_pos z2]
          exact stay (by unfold rq_uT; simp [z2])
        · have ht : rq_uT A.2.2.2 x i = true := by unfold rq_uT; simp [z1, z2]
          rw [if_neg z2, Option.bind_some]
          refine rq_call (q_layUnder hJ hm2 (x := x) (j := i) (by omega) ht e2) ?_
          rintro m3 ⟨b1, b2⟩
          unfold j_X1_layWays_59_31
          rw [rq_n1 (by omega)]
          exact rq_some.mpr (rq_inl ⟨rfl, b1, hf.trans b2⟩)
    · rintro ⟨y, mm⟩ ⟨e1, e2, hf⟩
      dsimp only at e1 e2 hf
      have hm2 := rq_ml_26 hm1 hv hf
      unfold b_X1_layWays_31
      dsimp only
      rw [q_g1, Option.bind_some, hm2.1, if_pos (by omega)]
      exact rq_some.mpr (rq_inre ⟨e2, hf⟩)
/-- the ways that leave B bare -/
theorem q_waysWithout (hs : rq_st m) (hv : rq_va ρ) {x b : Int} {B : Nat} (hW : ∀ s, s < 64 → m 126 s = rq_uW ρ t D x (ρ.1 0 0).toNat s) (hb : ∀ s : Nat, s < 64 → rt_iand (s : Int) b = ((s &&& B : Nat) : Int)) : f_X1_waysWithout ((118 : Nat) : Int) b m = some (rq_tw (rq_uT D x) (rq_uF ρ t D) (ρ.1 0 1).toNat (ρ.1 0 0).toNat B) := by
  have hb0 := hv.1
  have hWb := rq_uW_b (ρ := ρ) (t := t) (D := D) hv x (j := (ρ.1 0 0).toNat) (by omega)
  unfold f_X1_waysWithout
  apply rq_of
  refine rq_call (rq_up (Q := fun e => e = rq_tw (rq_uT D x) (rq_uF ρ t D) (ρ.1 0 1).toNat (ρ.1 0 0).toNat B) (fun i e => e.2 = (i : Int) ∧ e.1 = rq_sum (fun s => if s &&& B = 0 then rq_uW ρ t D x (ρ.1 0 0).toNat s else 0) i) 64 (by decide) ?_ ?_ ⟨rfl, rfl⟩) (fun e q => rq_some.mpr q)
  · rintro i ⟨y, z⟩ hi ⟨e1, e2⟩
    dsimp only at e1 e2
    subst e1 e2
    have sb := rq_sum_b (f := fun s => if s &&& B = 0 then rq_uW ρ t D x (ρ.1 0 0).toNat s else 0) (c := 46656) (by decide) i (fun s _ => by
      have := hWb s
      split <;> omega)
    have hwi := hWb i
    unfold b_X1_waysWithout_4 j_X1_waysWithout_25_4
    dsimp only
    rw [if_neg (by omega), hb i hi, rq_n1 (by omega)]
    by_cases z : i &&& B = 0
    · rw [if_pos (by omega), q_g1, Option.bind_some, pt_118_3 hs, show (126 : Int) = ((126 : Nat) : Int) from rfl, q_al kd_126 ln_126 hi, Option.bind_some, hW i hi, rq_iadd (by omega) (by omega)]
      refine rq_some.mpr (rq_inl ⟨rfl, ?_⟩)
      rw [rq_sum_s, if_pos z]
    · rw [if_neg (by omega)]
      refine rq_some.mpr (rq_inl ⟨rfl, ?_⟩)
      rw [rq_sum_s, if_neg z]
      omega
  · rintro ⟨y, z⟩ ⟨e1, e2⟩
    dsimp only at e1 e2
    subst e1 e2
    unfold b_X1_waysWithout_4
    dsimp only
    rw [if_pos (by omega)]
    exact rq_some.mpr (rq_inre rfl)
end
