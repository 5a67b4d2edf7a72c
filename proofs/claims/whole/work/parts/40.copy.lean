/-! Layer 3: copies of stands, years, sayings, tilts -/
abbrev rq_Y : Type := Nat → Nat → Int
def rq_yL : List Nat := [52, 111, 152, 165, 178, 191]
def rq_zL : List Nat := [56, 156, 169, 182, 195]
def rq_fL : List Nat := [48, 148, 161, 174, 187]
/-- years: 0 0 how many, 1 what, 2 the wig, 3 the head -/
def rq_yc (y : Nat) (Y : rq_Y) (m : rt_M) : Prop := m y 0 = Y 0 0 ∧ ∀ i : Nat, (i : Int) < Y 0 0 → m (y + 1) i = 10 + Y 1 i ∧ (Y 1 i ≠ 3 → m (y + 2) i = Y 2 i) ∧ (Y 1 i = 0 → m (y + 3) i = Y 3 i)
def rq_yr (t : Nat) (Y : rq_Y) (m : rt_M) : Prop := m 276 t = Y 0 0 ∧ ∀ i : Nat, (i : Int) < Y 0 0 → m 277 (40 * t + i) = Y 1 i ∧ (Y 1 i ≠ 3 → m 278 (40 * t + i) = Y 2 i) ∧ (Y 1 i = 0 → m 279 (40 * t + i) = Y 3 i)
def rq_vy (ρ : rq_R) (Y : rq_Y) : Prop := 0 ≤ Y 0 0 ∧ Y 0 0 ≤ 40 ∧ ∀ i : Nat, (i : Int) < Y 0 0 → 0 ≤ Y 1 i ∧ Y 1 i ≤ 3 ∧ (Y 1 i ≠ 3 → 0 ≤ Y 2 i ∧ Y 2 i < ρ.1 0 0) ∧ (Y 1 i = 0 → 0 ≤ Y 3 i ∧ Y 3 i < ρ.1 0 1)
/-- sayings: 0 0 how many, 1 the head, 2 how hard, 3 for -/
def rq_zc (z : Nat) (Z : rq_Y) (m : rt_M) : Prop := m z 0 = Z 0 0 ∧ ∀ i : Nat, (i : Int) < Z 0 0 → m (z + 1) i = Z 1 i ∧ m (z + 2) i = Z 2 i ∧ m (z + 3) i = Z 3 i
def rq_zr (t : Nat) (Z : rq_Y) (m : rt_M) : Prop := m 280 t = Z 0 0 ∧ ∀ i : Nat, (i : Int) < Z 0 0 → m 281 (8 * t + i) = Z 1 i ∧ m 282 (8 * t + i) = Z 2 i ∧ m 283 (8 * t + i) = Z 3 i
def rq_vz (ρ : rq_R) (Z : rq_Y) : Prop := 0 ≤ Z 0 0 ∧ Z 0 0 ≤ 8 ∧ ∀ i : Nat, (i : Int) < Z 0 0 → (0 ≤ Z 1 i ∧ Z 1 i < ρ.1 0 1) ∧ (0 ≤ Z 2 i ∧ Z 2 i ≤ 9) ∧ (Z 3 i = 0 ∨ Z 3 i = 1)
def rq_vd (ρ : rq_R) (D : Nat → Int) : Prop := ∀ w, w < 6 → -1 ≤ D w ∧ D w ≤ 9 ∧ (¬ (w : Int) < ρ.1 0 0 → D w = -1)
/-- rows that a copy writes -/
def rq_row (k2 b n : Nat) (k j : Nat) : Bool := k == k2 && decide (b ≤ j) && decide (j < b + n)
section
variable {ρ : rq_R} {S : rq_S} {m : rt_M} {b b2 : Nat}
theorem rq_row_st {k2 b n : Nat} (h : rt_kd k2 = 1) : (rq_P.all fun p => !(rq_row k2 b n p.1 p.2.1)) = true := by
  have hP : rq_P.all (fun p => decide (rt_kd p.1 ≠ 1)) = true := by decide +kernel
  rw [List.all_eq_true] at hP ⊢
  intro p hp
  have := hP p hp
  simp only [decide_eq_true_eq] at this
  unfold rq_row
  by_cases q : p.1 = k2
  · rw [q] at this; exact absurd h this
  · simp [q]
theorem q_copies (k1 k2 : Nat) (a b n1 n2 : Nat) (x y ai bi : Int) (hx : x = (k1 : Int)) (hy : y = (k2 : Int)) (hai : ai = (a : Int)) (hbi : bi = (b : Int)) (h1 : rt_kd k1 = 1) (l1 : rt_ln k1 = n1) (ha : a + 13 ≤ n1) (h2 : rt_kd k2 = 1) (l2 : rt_ln k2 = n2) (hb : b + 13 ≤ n2) (hn : n1 < 3000) (hn2 : n2 < 3000) (hne : k1 ≠ k2) : rq (f_X12_copies x ai y bi m) (fun m1 => (∀ i, i < 13 → m1 k2 (b + i) = m k1 (a + i)) ∧ rq_fr (rq_row k2 b 13) m m1) := by
  subst hx hy hai hbi
  unfold f_X12_copies
  refine rq_call (rq_up (Q := fun m1 => (∀ i, i < 13 → m1 k2 (b + i) = m k1 (a + i)) ∧ rq_fr (rq_row k2 b 13) m m1) (fun i s => s.1 = (i : Int) ∧ (∀ j, j < i → s.2 k2 (b + j) = m k1 (a + j)) ∧ rq_fr (rq_row k2 b 13) m s.2) 13 (by decide) ?_ ?_ ⟨rfl, fun j hj => absurd hj (Nat.not_lt_zero _), rq_fr.rfl⟩) (fun e q => rq_some.mpr q)
  · rintro i ⟨x, mm⟩ hi ⟨e1, hj, hf⟩
    dsimp only at e1 hj hf
    subst e1
    have ea : rt_iadd (a : Int) (i : Int) = ((a + i : Nat) : Int) := by rw [rq_iadd (by omega) (by omega)]; omega
    have eb : rt_iadd (b : Int) (i : Int) = ((b + i : Nat) : Int) := by rw [rq_iadd (by omega) (by omega)]; omega
    unfold b_X12_copies_3
    dsimp only
    rw [if_neg (by omega), ea, eb, q_al h1 l1 (by omega), Option.bind_some, q_sa h2 l2 (by omega), Option.bind_some, rq_n1 (by omega)]
    refine rq_some.mpr (rq_inl ⟨rfl, fun j hj2 => ?_, hf.up (by unfold rq_row; simp; omega)⟩)
    show rt_up mm k2 (b + i) (mm k1 (a + i)) k2 (b + j) = _
    rw [q_up]
    by_cases z : j = i
    · subst z
      rw [if_pos ⟨rfl, rfl⟩, hf k1 _ (by unfold rq_row; simp [hne])]
    · rw [if_neg (by omega)]
      exact hj j (by omega)
  · rintro ⟨x, mm⟩ ⟨e1, hj, hf⟩
    dsimp only at e1 hj hf
    subst e1
    unfold b_X12_copies_3
    dsimp only
    rw [if_pos (by omega)]
    exact rq_some.mpr (rq_inre ⟨hj, hf⟩)
def rq_S0 : rq_S := fun k => if 1 ≤ k ∧ k < 7 then -1 else 0
theorem q_fresh (hs : rq_st m) : rq (f_X12_fresh 248 m) (fun m1 => rq_sr rq_S0 m1 ∧ rq_fr (rq_row 285 0 13) m m1) := by
  have st := @rq_row_st 285 0 13 kd_285
  unfold f_X12_fresh
  rw [q_gfr, Option.bind_some, q_s9 (k := 285) _ 0 13 0 (pt_248_50 hs) kd_285 ln_285 rfl (by decide), Option.bind_some]
  refine rq_call (rq_up (Q := fun m1 => rq_sr rq_S0 m1 ∧ rq_fr (rq_row 285 0 13) m m1) (fun i s => s.1 = (i : Int) ∧ (∀ j, j < 13 → (j = 0 ∨ (1 ≤ j ∧ j < 1 + i) ∨ (7 ≤ j ∧ j < 7 + i)) → s.2 285 j = rq_S0 j) ∧ rq_fr (rq_row 285 0 13) m s.2) 6 (by decide) ?_ ?_ ⟨rfl, fun j hj q => ?_, rq_fr.rfl.up (by decide)⟩) (fun e q => rq_some.mpr q)
  · rintro i ⟨x, mm⟩ hi ⟨e1, hj, hf⟩
    dsimp only at e1 hj hf
    subst e1
    have hs1 := rq_st_fr hs hf st
    have f1 : rq_fr (rq_row 285 0 13) m (rt_up mm 285 (1 + i) (-1)) := hf.up (by unfold rq_row; simp; omega)
    have hs2 := rq_st_fr hs f1 st
    unfold b_X12_fresh_9
    dsimp only
    rw [if_neg (by omega), q_gfr, Option.bind_some, rq_1n (by omega), q_s8 (k := 285) _ 13 (pt_248_50 hs1) kd_285 ln_285 (by omega), Option.bind_some, q_gfr, Option.bind_some, rq_7n (by omega), q_s8 (k := 285) _ 13 (pt_248_50 hs2) kd_285 ln_285 (by omega), Option.bind_some, rq_n1 (by omega)]
    refine rq_some.mpr (rq_inl ⟨rfl, fun j hj2 q => ?_, f1.up (by unfold rq_row; simp; omega)⟩)
    show rt_up (rt_up mm 285 (1 + i) (-1)) 285 (7 + i) 0 285 j = _
    rw [q_up]
    by_cases z : j = 7 + i
    · rw [if_pos ⟨rfl, z⟩]; unfold rq_S0; rw [if_neg (by omega)]
    · rw [if_neg (by omega), q_up]
      by_cases z2 : j = 1 + i
      · rw [if_pos ⟨rfl, z2⟩]; unfold rq_S0; rw [if_pos (by omega)]
      · rw [if_neg (by omega)]; exact hj j hj2 (by omega)
  · rintro ⟨x, mm⟩ ⟨e1, hj, hf⟩
    dsimp only at e1 hj hf
    subst e1
    unfold b_X12_fresh_9
    dsimp only
    rw [if_pos (by omega)]
    exact rq_some.mpr (rq_inre ⟨fun j hj2 => hj j hj2 (by omega), hf⟩)
  · have : j = 0 := by omega
    subst this
    rfl
theorem q_rforgets (hs : rq_st m) : rq (f_X12_forgets 248 m) (fun m1 => (∀ w, w < 6 → m1 284 w = -1) ∧ rq_fr (rq_row 284 0 6) m m1) := by
  have st := @rq_row_st 284 0 6 kd_284
  unfold f_X12_forgets
  refine rq_call (rq_up (Q := fun m1 => (∀ w, w < 6 → m1 284 w = -1) ∧ rq_fr (rq_row 284 0 6) m m1) (fun i s => s.1 = (i : Int) ∧ (∀ j, j < i → s.2 284 j = -1) ∧ rq_fr (rq_row 284 0 6) m s.2) 6 (by decide) ?_ ?_ ⟨rfl, fun j hj => absurd hj (Nat.not_lt_zero _), rq_fr.rfl⟩) (fun e q => rq_some.mpr q)
  · rintro i ⟨x, mm⟩ hi ⟨e1, hj, hf⟩
    dsimp only at e1 hj hf
    subst e1
    have hs1 := rq_st_fr hs hf st
    unfold b_X12_forgets_2
    dsimp only
    rw [if_neg (by omega), q_gfr, Option.bind_some, q_s8 (k := 284) _ 30 (pt_248_49 hs1) kd_284 ln_284 (by omega), Option.bind_some, rq_n1 (by omega)]
    refine rq_some.mpr (rq_inl ⟨rfl, fun j hj2 => ?_, hf.up (by unfold rq_row; simp; omega)⟩)
    show rt_up mm 284 i (-1) 284 j = _
    rw [q_up]
    by_cases z : j = i
    · rw [if_pos ⟨rfl, z⟩]
    · rw [if_neg (by omega)]; exact hj j (by omega)
  · rintro ⟨x, mm⟩ ⟨e1, hj, hf⟩
    dsimp only at e1 hj hf
    subst e1
    unfold b_X12_forgets_2
    dsimp only
    rw [if_pos (by omega)]
    exact rq_some.mpr (rq_inre ⟨hj, hf⟩)
def rq_wB (b k j : Nat) : Bool := (k == b && j == 0) || k == b + 1 || k == b + 2
theorem rq_wB_st : ∀ b ∈ rq_sbL, (rq_P.all fun p => !(rq_wB b p.1 p.2.1)) = true := by decide +kernel
theorem q_sclear (hs : rq_st m) (hb : b ∈ rq_sbL) : rq (f_X7_clear b m) (fun m1 => rq_sc b rq_S0 m1 ∧ rq_fr (rq_wB b) m m1) := by
  obtain ⟨k0, k1, l1, k2, l2, p1, p2⟩ := (q_sbk b hb).1
  have st := rq_wB_st b hb
  unfold f_X7_clear
  rw [q_pf7 hb, Option.bind_some]
  refine rq_call (rq_up (Q := fun m1 => rq_sc b rq_S0 m1 ∧ rq_fr (rq_wB b) m m1) (fun i s => s.1 = (i : Int) ∧ s.2 b 0 = 0 ∧ (∀ j, j < i → s.2 (b + 1) j = -1 ∧ s.2 (b + 2) j = 0) ∧ rq_fr (rq_wB b) m s.2) 6 (by decide) ?_ ?_ ⟨rfl, ?_, fun j hj => absurd hj (Nat.not_lt_zero _), rq_fr.rfl.up (by unfold rq_wB; simp)⟩) (fun e q => rq_some.mpr q)
  · rintro i ⟨x, mm⟩ hi ⟨e1, h0, hj, hf⟩
    dsimp only at e1 h0 hj hf
    subst e1
    have hs1 := rq_st_fr hs hf st
    have f1 : rq_fr (rq_wB b) m (rt_up mm (b + 1) i (-1)) := hf.up (by unfold rq_wB; simp)
    have hs2 := rq_st_fr hs f1 st
    unfold b_X7_clear_7
    dsimp only
    rw [if_neg (by omega), q_gf7 hb, Option.bind_some, q_pt hs1 p1, q_sa k1 l1 hi, Option.bind_some, q_gf7 hb, Option.bind_some, q_pt hs2 p2, q_sa k2 l2 hi, Option.bind_some, rq_n1 (by omega)]
    refine rq_some.mpr (rq_inl ⟨rfl, ?_, fun j hj2 => ⟨?_, ?_⟩, f1.up (by unfold rq_wB; simp)⟩)
    · show rt_up (rt_up mm (b + 1) i (-1)) (b + 2) i 0 b 0 = 0
      rw [q_up, if_neg (by omega), q_up, if_neg (by omega)]; exact h0
    · show rt_up (rt_up mm (b + 1) i (-1)) (b + 2) i 0 (b + 1) j = -1
      rw [q_up, if_neg (by omega), q_up]
      by_cases z : j = i
      · rw [if_pos ⟨rfl, z⟩]
      · rw [if_neg (by omega)]; exact (hj j (by omega)).1
    · show rt_up (rt_up mm (b + 1) i (-1)) (b + 2) i 0 (b + 2) j = 0
      rw [q_up]
      by_cases z : j = i
      · rw [if_pos ⟨rfl, z⟩]
      · rw [if_neg (by omega), q_up, if_neg (by omega)]; exact (hj j (by omega)).2
  · rintro ⟨x, mm⟩ ⟨e1, h0, hj, hf⟩
    dsimp only at e1 h0 hj hf
    subst e1
    unfold b_X7_clear_7
    dsimp only
    rw [if_pos (by omega)]
    refine rq_some.mpr (rq_inre ⟨⟨h0, fun w hw => ?_⟩, hf⟩)
    unfold rq_S0
    rw [if_pos (by omega), if_neg (by omega)]
    exact hj w hw
  · show rt_up m b 0 0 b 0 = 0
    rw [q_up, if_pos ⟨rfl, rfl⟩]
theorem q_sb_apart : ∀ b ∈ rq_sbL, ∀ b2 ∈ rq_sbL, b ≠ b2 → b + 2 < b2 ∨ b2 + 2 < b := by decide +kernel
theorem q_scopy (hs : rq_st m) (hb : b ∈ rq_sbL) (hb2 : b2 ∈ rq_sbL) (hne : b ≠ b2) (h : rq_sc b2 S m) : rq (f_X7_copy b b2 m) (fun m1 => rq_sc b S m1 ∧ rq_fr (rq_wB b) m m1) := by
  obtain ⟨k0, k1, l1, k2, l2, p1, p2⟩ := (q_sbk b hb).1
  obtain ⟨k0', k1', l1', k2', l2', p1', p2'⟩ := (q_sbk b2 hb2).1
  have st := rq_wB_st b hb
  have ap := q_sb_apart b hb b2 hb2 hne
  unfold f_X7_copy
  rw [q_gf7 hb2, Option.bind_some, q_pf7 hb, Option.bind_some, h.1]
  refine rq_call (rq_up (Q := fun m1 => rq_sc b S m1 ∧ rq_fr (rq_wB b) m m1) (fun i s => s.1 = (i : Int) ∧ s.2 b 0 = S 0 ∧ (∀ j, j < i → s.2 (b + 1) j = S (1 + j) ∧ s.2 (b + 2) j = S (7 + j)) ∧ rq_fr (rq_wB b) m s.2) 6 (by decide) ?_ ?_ ⟨rfl, ?_, fun j hj => absurd hj (Nat.not_lt_zero _), rq_fr.rfl.up (by unfold rq_wB; simp)⟩) (fun e q => rq_some.mpr q)
  · rintro i ⟨x, mm⟩ hi ⟨e1, h0, hj, hf⟩
    dsimp only at e1 h0 hj hf
    subst e1
    have hs1 := rq_st_fr hs hf st
    have f1 : rq_fr (rq_wB b) m (rt_up mm (b + 1) i (S (1 + i))) := hf.up (by unfold rq_wB; simp)
    have hs2 := rq_st_fr hs f1 st
    have v1 : mm (b2 + 1) i = S (1 + i) := by rw [hf _ _ (by unfold rq_wB; simp; omega)]; exact (h.2 i hi).1
    have v2 : rt_up mm (b + 1) i (S (1 + i)) (b2 + 2) i = S (7 + i) := by rw [f1 _ _ (by unfold rq_wB; simp; omega)]; exact (h.2 i hi).2
    unfold b_X7_copy_10
    dsimp only
    rw [if_neg (by omega), q_gf7 hb, Option.bind_some, q_gf7 hb2, Option.bind_some, q_pt hs1 p1, q_pt hs1 p1', q_al k1' l1' hi, Option.bind_some, v1, q_sa k1 l1 hi, Option.bind_some, q_gf7 hb, Option.bind_some, q_gf7 hb2, Option.bind_some, q_pt hs2 p2, q_pt hs2 p2', q_al k2' l2' hi, Option.bind_some, v2, q_sa k2 l2 hi, Option.bind_some, rq_n1 (by omega)]
    refine rq_some.mpr (rq_inl ⟨rfl, ?_, fun j hj2 => ⟨?_, ?_⟩, f1.up (by unfold rq_wB; simp)⟩)
    · show rt_up (rt_up mm (b + 1) i (S (1 + i))) (b + 2) i (S (7 + i)) b 0 = _
      rw [q_up, if_neg (by omega), q_up, if_neg (by omega)]; exact h0
    · show rt_up (rt_up mm (b + 1) i (S (1 + i))) (b + 2) i (S (7 + i)) (b + 1) j = _
      rw [q_up, if_neg (by omega), q_up]
      by_cases z : j = i
      · subst z; rw [if_pos ⟨rfl, rfl⟩]
      · rw [if_neg (by omega)]; exact (hj j (by omega)).1
    · show rt_up (rt_up mm (b + 1) i (S (1 + i))) (b + 2) i (S (7 + i)) (b + 2) j = _
      rw [q_up]
      by_cases z : j = i
      · subst z; rw [if_pos ⟨rfl, rfl⟩]
      · rw [if_neg (by omega), q_up, if_neg (by omega)]; exact (hj j (by omega)).2
  · rintro ⟨x, mm⟩ ⟨e1, h0, hj, hf⟩
    dsimp only at e1 h0 hj hf
    subst e1
    unfold b_X7_copy_10
    dsimp only
    rw [if_pos (by omega)]
    exact rq_some.mpr (rq_inre ⟨⟨h0, hj⟩, hf⟩)
  · show rt_up m b 0 (S 0) b 0 = _
    rw [q_up, if_pos ⟨rfl, rfl⟩]
end
