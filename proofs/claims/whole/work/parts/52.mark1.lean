/-! Layer 3: copies of all that a mark holds -/
def rq_wY (y k j : Nat) : Bool := (k == y && j == 0) || k == y + 1 || k == y + 2 || k == y + 3
def rq_wA (f k j : Nat) : Bool := rq_wB (f + 1) k j || rq_wY (f + 4) k j || rq_wY (f + 8) k j || k == f + 12
theorem q_yk : ∀ y ∈ rq_yL, (rt_kd y = 30 ∧ rt_kd (y + 1) = 5 ∧ rt_ln (y + 1) = 40 ∧ rt_kd (y + 2) = 1 ∧ rt_ln (y + 2) = 40 ∧ rt_kd (y + 3) = 1 ∧ rt_ln (y + 3) = 40) ∧ ((y, 1, ((y + 1 : Nat) : Int)) ∈ rq_P ∧ (y, 2, ((y + 2 : Nat) : Int)) ∈ rq_P ∧ (y, 3, ((y + 3 : Nat) : Int)) ∈ rq_P) ∧ (rq_P.all fun p => !(rq_wY y p.1 p.2.1)) = true := by decide +kernel
theorem q_zk : ∀ y ∈ rq_zL, (rt_kd y = 26 ∧ rt_kd (y + 1) = 1 ∧ rt_ln (y + 1) = 8 ∧ rt_kd (y + 2) = 1 ∧ rt_ln (y + 2) = 8 ∧ rt_kd (y + 3) = 3 ∧ rt_ln (y + 3) = 8) ∧ ((y, 1, ((y + 1 : Nat) : Int)) ∈ rq_P ∧ (y, 2, ((y + 2 : Nat) : Int)) ∈ rq_P ∧ (y, 3, ((y + 3 : Nat) : Int)) ∈ rq_P) ∧ (rq_P.all fun p => !(rq_wY y p.1 p.2.1)) = true := by decide +kernel
theorem q_fk : ∀ f ∈ rq_fL, (rt_kd f = 20 ∧ rt_kd (f + 12) = 1 ∧ rt_ln (f + 12) = 6 ∧ (f + 1) ∈ rq_sbL ∧ (f + 4) ∈ rq_yL ∧ (f + 8) ∈ rq_zL) ∧ ((f, 0, ((f + 1 : Nat) : Int)) ∈ rq_P ∧ (f, 1, ((f + 4 : Nat) : Int)) ∈ rq_P ∧ (f, 2, ((f + 8 : Nat) : Int)) ∈ rq_P ∧ (f, 3, ((f + 12 : Nat) : Int)) ∈ rq_P) ∧ (rq_P.all fun p => !(rq_wA f p.1 p.2.1)) = true := by decide +kernel
theorem q_fap : ∀ f ∈ rq_fL, ∀ f2 ∈ rq_fL, f ≠ f2 → f + 12 < f2 ∨ f2 + 12 < f := by decide +kernel
section
variable {ρ : rq_R} {m : rt_M}
theorem q_gf10 {y : Nat} (h : y ∈ rq_yL) (j : Nat) : rt_gf 10 j (y : Int) m = some (m y j) := if_pos (q_yk y h).1.1
theorem q_pf10 {y : Nat} (h : y ∈ rq_yL) (j : Nat) (v : Int) : rt_pf 10 j (y : Int) v m = some (rt_up m y j v) := if_pos (q_yk y h).1.1
theorem q_gf6 {y : Nat} (h : y ∈ rq_zL) (j : Nat) : rt_gf 6 j (y : Int) m = some (m y j) := if_pos (q_zk y h).1.1
theorem q_pf6 {y : Nat} (h : y ∈ rq_zL) (j : Nat) (v : Int) : rt_pf 6 j (y : Int) v m = some (rt_up m y j v) := if_pos (q_zk y h).1.1
theorem q_ycopy (hs : rq_st m) {y y2 : Nat} (h1 : y ∈ rq_yL) (h2 : y2 ∈ rq_yL) (hap : y + 3 < y2 ∨ y2 + 3 < y) {Y : rq_Y} (hv : rq_vy ρ Y) (h : rq_yc y2 Y m) : rq (f_X10_copy y y2 m) (fun m1 => rq_yc y Y m1 ∧ rq_fr (rq_wY y) m m1) := by
  obtain ⟨⟨k0, k1, l1, k2, l2, k3, l3⟩, ⟨p1, p2, p3⟩, st⟩ := q_yk y h1
  obtain ⟨⟨k0', k1', l1', k2', l2', k3', l3'⟩, ⟨p1', p2', p3'⟩, st'⟩ := q_yk y2 h2
  obtain ⟨v0, v1, v2⟩ := hv
  obtain ⟨n, hn⟩ := Int.eq_ofNat_of_zero_le v0
  unfold f_X10_copy
  rw [q_gf10 h2, Option.bind_some, q_pf10 h1, Option.bind_some, h.1]
  have frr : ∀ {mm : rt_M}, rq_fr (rq_wY y) m mm → ∀ a j, y2 ≤ a → a ≤ y2 + 3 → mm a j = m a j := by
    intro mm hf a j q1 q2
    refine hf a j ?_
    unfold rq_wY
    simp only [Bool.or_eq_false_iff, Bool.and_eq_false_iff, beq_eq_false_iff_ne]
    omega
  refine rq_call (rq_up (Q := fun m1 => rq_yc y Y m1 ∧ rq_fr (rq_wY y) m m1) (fun i s => s.1 = (i : Int) ∧ s.2 y 0 = Y 0 0 ∧ (∀ j, j < i → s.2 (y + 1) j = m (y2 + 1) j ∧ s.2 (y + 2) j = m (y2 + 2) j ∧ s.2 (y + 3) j = m (y2 + 3) j) ∧ rq_fr (rq_wY y) m s.2) n (by omega) ?_ ?_ (by exact ⟨rfl, by show rt_up m y 0 (Y 0 0) y 0 = _; rw [q_up, if_pos ⟨rfl, rfl⟩], fun j hj => absurd hj (Nat.not_lt_zero _), rq_fr.rfl.up (by unfold rq_wY; simp)⟩)) (fun e q => rq_some.mpr q)
  · rintro i ⟨x, mm⟩ hi ⟨e1, g0, gj, hf⟩
    dsimp only at e1 g0 gj hf
    subst e1
    have hs0 := rq_st_fr hs hf st
    have i40 : i < 40 := by omega
    have f1 : rq_fr (rq_wY y) m (rt_up mm (y + 1) i (m (y2 + 1) i)) := hf.up (by unfold rq_wY; simp)
    have hs1 := rq_st_fr hs f1 st
    have f2 : rq_fr (rq_wY y) m (rt_up (rt_up mm (y + 1) i (m (y2 + 1) i)) (y + 2) i (m (y2 + 2) i)) := f1.up (by unfold rq_wY; simp)
    have hs2 := rq_st_fr hs f2 st
    have hd := (h.2 i (by omega)).1
    have hw := v2 i (by omega)
    have hsaw : ∀ v (M : rt_M), 0 ≤ v → v < 39 → rt_saw ((y + 1 : Nat) : Int) (i : Int) v M = some (rt_up M (y + 1) i v) := by
      intro v M q1 q2
      unfold rt_saw
      rw [if_pos ⟨q1, q2⟩, q_sa k1 l1 i40]
    unfold b_X10_copy_10
    dsimp only
    rw [q_gf10 h1, Option.bind_some, g0, if_neg (by omega), q_gf10 h1, Option.bind_some, q_gf10 h2, Option.bind_some, q_pt hs0 p1, q_pt hs0 p1', q_al k1' l1' i40, Option.bind_some, frr hf _ _ (by omega) (by omega), hsaw _ _ (by omega) (by omega), Option.bind_some, q_gf10 h1, Option.bind_some, q_gf10 h2, Option.bind_some, q_pt hs1 p2, q_pt hs1 p2', q_al k2' l2' i40, Option.bind_some, frr f1 _ _ (by omega) (by omega), q_sa k2 l2 i40, Option.bind_some, q_gf10 h1, Option.bind_some, q_gf10 h2, Option.bind_some, q_pt hs2 p3, q_pt hs2 p3', q_al k3' l3' i40, Option.bind_some, frr f2 _ _ (by omega) (by omega), q_sa k3 l3 i40, Option.bind_some, rq_n1 (by omega)]
    refine rq_some.mpr (rq_inl ⟨rfl, ?_, fun j hj => ⟨?_, ?_, ?_⟩, f2.up (by unfold rq_wY; simp)⟩)
    · show rt_up (rt_up (rt_up mm (y + 1) i _) (y + 2) i _) (y + 3) i (m (y2 + 3) i) y 0 = _
      rw [q_up, if_neg (by omega), q_up, if_neg (by omega), q_up, if_neg (by omega)]; exact g0
    · show rt_up (rt_up (rt_up mm (y + 1) i (m (y2 + 1) i)) (y + 2) i (m (y2 + 2) i)) (y + 3) i (m (y2 + 3) i) (y + 1) j = _
      rw [q_up, if_neg (by omega), q_up, if_neg (by omega), q_up]
      by_cases z : j = i
      · subst z; rw [if_pos ⟨rfl, rfl⟩]
      · rw [if_neg (fun q => z q.2)]; exact (gj j (by omega)).1
    · show rt_up (rt_up (rt_up mm (y + 1) i (m (y2 + 1) i)) (y + 2) i (m (y2 + 2) i)) (y + 3) i (m (y2 + 3) i) (y + 2) j = _
      rw [q_up, if_neg (by omega), q_up]
      by_cases z : j = i
      · subst z; rw [if_pos ⟨rfl, rfl⟩]
      · rw [if_neg (fun q => z q.2), q_up, if_neg (by omega)]; exact (gj j (by omega)).2.1
    · show rt_up (rt_up (rt_up mm (y + 1) i (m (y2 + 1) i)) (y + 2) i (m (y2 + 2) i)) (y + 3) i (m (y2 + 3) i) (y + 3) j = _
      rw [q_up]
      by_cases z : j = i
      · subst z; rw [if_pos ⟨rfl, rfl⟩]
      · rw [if_neg (fun q => z q.2), q_up, if_neg (by omega), q_up, if_neg (by omega)]; exact (gj j (by omega)).2.2
  · rintro ⟨x, mm⟩ ⟨e1, g0, gj, hf⟩
    dsimp only at e1 g0 gj hf
    subst e1
    unfold b_X10_copy_10
    dsimp only
    rw [q_gf10 h1, Option.bind_some, g0, if_pos (by omega)]
    refine rq_some.mpr (rq_inre ⟨⟨g0, fun i hi => ?_⟩, hf⟩)
    have := gj i (by omega)
    rw [this.1, this.2.1, this.2.2]
    exact h.2 i hi
theorem q_zcopy (hs : rq_st m) {y y2 : Nat} (h1 : y ∈ rq_zL) (h2 : y2 ∈ rq_zL) (hap : y + 3 < y2 ∨ y2 + 3 < y) {Y : rq_Y} (hv : rq_vz ρ Y) (h : rq_zc y2 Y m) : rq (f_X6_copy y y2 m) (fun m1 => rq_zc y Y m1 ∧ rq_fr (rq_wY y) m m1) := by
  obtain ⟨⟨k0, k1, l1, k2, l2, k3, l3⟩, ⟨p1, p2, p3⟩, st⟩ := q_zk y h1
  obtain ⟨⟨k0', k1', l1', k2', l2', k3', l3'⟩, ⟨p1', p2', p3'⟩, st'⟩ := q_zk y2 h2
  obtain ⟨v0, v1, v2⟩ := hv
  obtain ⟨n, hn⟩ := Int.eq_ofNat_of_zero_le v0
  unfold f_X6_copy
  rw [q_gf6 h2, Option.bind_some, q_pf6 h1, Option.bind_some, h.1]
  have frr : ∀ {mm : rt_M}, rq_fr (rq_wY y) m mm → ∀ a j, y2 ≤ a → a ≤ y2 + 3 → mm a j = m a j := by
    intro mm hf a j q1 q2
    refine hf a j ?_
    unfold rq_wY
    simp only [Bool.or_eq_false_iff, Bool.and_eq_false_iff, beq_eq_false_iff_ne]
    omega
  refine rq_call (rq_up (Q := fun m1 => rq_zc y Y m1 ∧ rq_fr (rq_wY y) m m1) (fun i s => s.1 = (i : Int) ∧ s.2 y 0 = Y 0 0 ∧ (∀ j, j < i → s.2 (y + 1) j = m (y2 + 1) j ∧ s.2 (y + 2) j = m (y2 + 2) j ∧ s.2 (y + 3) j = m (y2 + 3) j) ∧ rq_fr (rq_wY y) m s.2) n (by omega) ?_ ?_ (by exact ⟨rfl, by show rt_up m y 0 (Y 0 0) y 0 = _; rw [q_up, if_pos ⟨rfl, rfl⟩], fun j hj => absurd hj (Nat.not_lt_zero _), rq_fr.rfl.up (by unfold rq_wY; simp)⟩)) (fun e q => rq_some.mpr q)
  · rintro i ⟨x, mm⟩ hi ⟨e1, g0, gj, hf⟩
    dsimp only at e1 g0 gj hf
    subst e1
    have hs0 := rq_st_fr hs hf st
    have i8 : i < 8 := by omega
    have f1 : rq_fr (rq_wY y) m (rt_up mm (y + 1) i (m (y2 + 1) i)) := hf.up (by unfold rq_wY; simp)
    have hs1 := rq_st_fr hs f1 st
    have f2 : rq_fr (rq_wY y) m (rt_up (rt_up mm (y + 1) i (m (y2 + 1) i)) (y + 2) i (m (y2 + 2) i)) := f1.up (by unfold rq_wY; simp)
    have hs2 := rq_st_fr hs f2 st
    have hd := (h.2 i (by omega)).2.2
    have hw := (v2 i (by omega)).2.2
    have hbz : rt_bz (m (y2 + 3) i) = some (m (y2 + 3) i) := if_pos (by rw [hd]; exact hw)
    unfold b_X6_copy_10
    dsimp only
    rw [q_gf6 h1, Option.bind_some, g0, if_neg (by omega), q_gf6 h1, Option.bind_some, q_gf6 h2, Option.bind_some, q_pt hs0 p1, q_pt hs0 p1', q_al k1' l1' i8, Option.bind_some, frr hf _ _ (by omega) (by omega), q_sa k1 l1 i8, Option.bind_some, q_gf6 h1, Option.bind_some, q_gf6 h2, Option.bind_some, q_pt hs1 p2, q_pt hs1 p2', q_al k2' l2' i8, Option.bind_some, frr f1 _ _ (by omega) (by omega), q_sa k2 l2 i8, Option.bind_some, q_gf6 h1, Option.bind_some, q_gf6 h2, Option.bind_some, q_pt hs2 p3, q_pt hs2 p3', q_al k3' l3' i8, Option.bind_some, frr f2 _ _ (by omega) (by omega), hbz, Option.bind_some, q_sa k3 l3 i8, Option.bind_some, rq_n1 (by omega)]
    refine rq_some.mpr (rq_inl ⟨rfl, ?_, fun j hj => ⟨?_, ?_, ?_⟩, f2.up (by unfold rq_wY; simp)⟩)
    · show rt_up (rt_up (rt_up mm (y + 1) i _) (y + 2) i _) (y + 3) i (m (y2 + 3) i) y 0 = _
      rw [q_up, if_neg (by omega), q_up, if_neg (by omega), q_up, if_neg (by omega)]; exact g0
    · show rt_up (rt_up (rt_up mm (y + 1) i (m (y2 + 1) i)) (y + 2) i (m (y2 + 2) i)) (y + 3) i (m (y2 + 3) i) (y + 1) j = _
      rw [q_up, if_neg (by omega), q_up, if_neg (by omega), q_up]
      by_cases z : j = i
      · subst z; rw [if_pos ⟨rfl, rfl⟩]
      · rw [if_neg (fun q => z q.2)]; exact (gj j (by omega)).1
    · show rt_up (rt_up (rt_up mm (y + 1) i (m (y2 + 1) i)) (y + 2) i (m (y2 + 2) i)) (y + 3) i (m (y2 + 3) i) (y + 2) j = _
      rw [q_up, if_neg (by omega), q_up]
      by_cases z : j = i
      · subst z; rw [if_pos ⟨rfl, rfl⟩]
      · rw [if_neg (fun q => z q.2), q_up, if_neg (by omega)]; exact (gj j (by omega)).2.1
    · show rt_up (rt_up (rt_up mm (y + 1) i (m (y2 + 1) i)) (y + 2) i (m (y2 + 2) i)) (y + 3) i (m (y2 + 3) i) (y + 3) j = _
      rw [q_up]
      by_cases z : j = i
      · subst z; rw [if_pos ⟨rfl, rfl⟩]
      · rw [if_neg (fun q => z q.2), q_up, if_neg (by omega), q_up, if_neg (by omega)]; exact (gj j (by omega)).2.2
  · rintro ⟨x, mm⟩ ⟨e1, g0, gj, hf⟩
    dsimp only at e1 g0 gj hf
    subst e1
    unfold b_X6_copy_10
    dsimp only
    rw [q_gf6 h1, Option.bind_some, g0, if_pos (by omega)]
    refine rq_some.mpr (rq_inre ⟨⟨g0, fun i hi => ?_⟩, hf⟩)
    have := gj i (by omega)
    rw [this.1, this.2.1, this.2.2]
    exact h.2 i hi
theorem q_gf0 {f : Nat} (h : f ∈ rq_fL) (j : Nat) : rt_gf 0 j (f : Int) m = some (m f j) := if_pos (q_fk f h).1.1
theorem q_acopy (hs : rq_st m) {f f2 : Nat} (h1 : f ∈ rq_fL) (h2 : f2 ∈ rq_fL) (hne : f ≠ f2) {A : rq_A} (hv : rq_vA ρ A) (h : rq_Ac f2 A m) : rq (f_X0_copy f f2 m) (fun m1 => rq_Ac f A m1 ∧ rq_fr (rq_wA f) m m1) := by
  obtain ⟨⟨k0, k1, l1, b1, y1, z1⟩, ⟨p0, p1, p2, p3⟩, st⟩ := q_fk f h1
  obtain ⟨⟨k0', k1', l1', b1', y1', z1'⟩, ⟨p0', p1', p2', p3'⟩, st'⟩ := q_fk f2 h2
  have ap := q_fap f h1 f2 h2 hne
  have frr : ∀ {mm : rt_M}, rq_fr (rq_wA f) m mm → ∀ a j, f2 ≤ a → a ≤ f2 + 12 → mm a j = m a j := by
    intro mm hf a j q1 q2
    refine hf a j ?_
    unfold rq_wA rq_wB rq_wY
    simp only [Bool.or_eq_false_iff, Bool.and_eq_false_iff, beq_eq_false_iff_ne]
    omega
  unfold f_X0_copy
  rw [q_gf0 h1, Option.bind_some, q_gf0 h2, Option.bind_some, q_pt hs p0, q_pt hs p0', q_gd7 b1]
  refine rq_call (q_scopy hs b1 b1' (by omega) h.1) ?_
  rintro m1 ⟨c1, hf1⟩
  have g1 : rq_fr (rq_wA f) m m1 := hf1.mono (fun a j q => by unfold rq_wA at q; simp only [Bool.or_eq_false_iff] at q; exact q.1.1.1)
  have hs1 := rq_st_fr hs g1 st
  have gd10 : ∀ {α : Type} (o : Option α), rt_gd 10 ((f + 4 : Nat) : Int) o = o := fun o => if_pos (q_yk _ y1).1.1
  have gd6 : ∀ {α : Type} (o : Option α), rt_gd 6 ((f + 8 : Nat) : Int) o = o := fun o => if_pos (q_zk _ z1).1.1
  rw [q_gf0 h1, Option.bind_some, q_gf0 h2, Option.bind_some, q_pt hs1 p1, q_pt hs1 p1', gd10]
  refine rq_call (q_ycopy hs1 y1 y1' (by omega) hv.2.1 (rq_yc_fr h.2.1 (fun a j q1 q2 => frr g1 a j (by omega) (by omega)))) ?_
  rintro m2 ⟨c2, hf2⟩
  have g2 : rq_fr (rq_wA f) m m2 := g1.trans (hf2.mono (fun a j q => by unfold rq_wA at q; simp only [Bool.or_eq_false_iff] at q; exact q.1.1.2))
  have hs2 := rq_st_fr hs g2 st
  rw [q_gf0 h1, Option.bind_some, q_gf0 h2, Option.bind_some, q_pt hs2 p2, q_pt hs2 p2', gd6]
  refine rq_call (q_zcopy hs2 z1 z1' (by omega) hv.2.2.1 (rq_zc_fr h.2.2.1 (fun a j q1 q2 => frr g2 a j (by omega) (by omega)))) ?_
  rintro m3 ⟨c3, hf3⟩
  have g3 : rq_fr (rq_wA f) m m3 := g2.trans (hf3.mono (fun a j q => by unfold rq_wA at q; simp only [Bool.or_eq_false_iff] at q; exact q.1.2))
  have y3 : ∀ a j, (a = f + 1 ∨ a = f + 2 ∨ a = f + 3) → m3 a j = m1 a j := by
    intro a j q
    rw [hf3 a j (by unfold rq_wY; simp only [Bool.or_eq_false_iff, Bool.and_eq_false_iff, beq_eq_false_iff_ne]; omega), hf2 a j (by unfold rq_wY; simp only [Bool.or_eq_false_iff, Bool.and_eq_false_iff, beq_eq_false_iff_ne]; omega)]
  have y4 : ∀ a j, f + 4 ≤ a → a ≤ f + 7 → m3 a j = m2 a j := by
    intro a j q1 q2
    rw [hf3 a j (by unfold rq_wY; simp only [Bool.or_eq_false_iff, Bool.and_eq_false_iff, beq_eq_false_iff_ne]; omega)]
  refine rq_call (rq_up (Q := fun m4 => rq_Ac f A m4 ∧ rq_fr (rq_wA f) m m4) (fun i s => s.1 = (i : Int) ∧ (∀ a j, a ≠ f + 12 → s.2 a j = m3 a j) ∧ (∀ j, j < i → s.2 (f + 12) j = A.2.2.2 j) ∧ rq_fr (rq_wA f) m s.2) 6 (by decide) ?_ ?_ (by exact ⟨rfl, fun a j _ => rfl, fun j hj => absurd hj (Nat.not_lt_zero _), g3⟩)) (fun e q => rq_some.mpr q)
  · rintro i ⟨x, mm⟩ hi ⟨e1, ha, hj, hf⟩
    dsimp only at e1 ha hj hf
    subst e1
    have hs4 := rq_st_fr hs hf st
    unfold b_X0_copy_35
    dsimp only
    rw [if_neg (by omega), q_gf0 h1, Option.bind_some, q_gf0 h2, Option.bind_some, q_pt hs4 p3, q_pt hs4 p3', q_al k1' l1' hi, Option.bind_some, frr hf _ _ (by omega) (by omega), h.2.2.2 i hi, q_sa k1 l1 hi, Option.bind_some, rq_n1 (by omega)]
    refine rq_some.mpr (rq_inl ⟨rfl, fun a j q => ?_, fun j hj2 => ?_, hf.up (by unfold rq_wA; simp)⟩)
    · show rt_up mm (f + 12) i (A.2.2.2 i) a j = _
      rw [q_up, if_neg (fun z => q z.1)]; exact ha a j q
    · show rt_up mm (f + 12) i (A.2.2.2 i) (f + 12) j = _
      rw [q_up]
      by_cases z : j = i
      · subst z; rw [if_pos ⟨rfl, rfl⟩]
      · rw [if_neg (fun q => z q.2)]; exact hj j (by omega)
  · rintro ⟨x, mm⟩ ⟨e1, ha, hj, hf⟩
    dsimp only at e1 ha hj hf
    subst e1
    unfold b_X0_copy_35
    dsimp only
    rw [if_pos (by omega)]
    refine rq_some.mpr (rq_inre ⟨⟨?_, ?_, ?_, hj⟩, hf⟩)
    · exact rq_sc_fr c1 (by rw [ha _ _ (by omega), y3 _ _ (by omega)]) (fun w _ => by rw [ha _ _ (by omega), y3 _ _ (by omega)]) (fun w _ => by rw [ha _ _ (by omega), y3 _ _ (by omega)])
    · exact rq_yc_fr c2 (fun a j q1 q2 => by rw [ha _ _ (by omega), y4 _ _ (by omega) (by omega)])
    · exact rq_zc_fr c3 (fun a j q1 q2 => ha _ _ (by omega))
end
