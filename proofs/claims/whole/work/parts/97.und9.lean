/-! Layer 3: under -/
section
variable {r : Nat} {ρ : rq_R} {A : rq_A} {c : Nat} {m : rt_M}
abbrev rq_uL (ρ : rq_R) (t : Nat) (D : Nat → Int) (U : Nat → Int) : List rq_Lf := rq_lv (rq_uT D (-1)) (rq_uF ρ t D) (ρ.1 0 1).toNat (ρ.1 0 0).toNat 0 U 0
theorem rq_WQ_96 {k j : Nat} (h : rq_WQ k j = false) : rq_w96 k j = false := by
  have h := rq_WQ_R h
  unfold rq_WR at h
  unfold rq_w96
  simp only [Bool.or_eq_false_iff, Bool.and_eq_false_iff, beq_eq_false_iff_ne, decide_eq_false_iff_not] at h ⊢
  refine ⟨⟨⟨⟨h.1.1.1.1, by omega⟩, by omega⟩, by omega⟩, by omega⟩
theorem rq_uL_len (hv : rq_va ρ) (t : Nat) (D U : Nat → Int) : ((rq_uL ρ t D U).length : Int) = rq_uN ρ t D ∧ (rq_uL ρ t D U).length ≤ 46656 := by
  have hb := hv.1
  have e : rq_ci (fun _ => true) (rq_uL ρ t D U) = rq_uN ρ t D := rq_ci_all _ _ _ _
  have e2 : rq_ci (fun _ => true) (rq_uL ρ t D U) = ((rq_uL ρ t D U).length : Int) := by
    unfold rq_ci
    rw [List.countP_eq_length.mpr (fun _ _ => rfl)]
  have cb := rq_cf_b (T := rq_uT D (-1)) (F := rq_uF ρ t D) (H := (ρ.1 0 1).toNat) (by omega) (ρ.1 0 0).toNat 0 0
  have h6 : (6 : Int) ^ (ρ.1 0 0).toNat ≤ 46656 := by
    have : (ρ.1 0 0).toNat = 0 ∨ (ρ.1 0 0).toNat = 1 ∨ (ρ.1 0 0).toNat = 2 ∨ (ρ.1 0 0).toNat = 3 ∨ (ρ.1 0 0).toNat = 4 ∨ (ρ.1 0 0).toNat = 5 ∨ (ρ.1 0 0).toNat = 6 := by omega
    rcases this with q | q | q | q | q | q | q <;> rw [q] <;> decide
  refine ⟨by rw [← e2, e], ?_⟩
  have : rq_uN ρ t D ≤ 46656 := Int.le_trans cb.2 h6
  omega
theorem rq_uL_6 (hv : rq_va ρ) (t : Nat) (D U : Nat → Int) (hU : ∀ j, j < 6 → U j = -1) : ∀ l ∈ rq_uL ρ t D U, ∀ x, x < 6 → l.1 x ≠ 6 := by
  have hb := hv.1
  intro l hl x hx
  by_cases z : x < (ρ.1 0 0).toNat
  · by_cases y : rq_uT D (-1) x = true
    · obtain ⟨h, hh, e, -⟩ := rq_lv_told _ _ _ _ x (Nat.zero_le x) (by omega) y l hl
      omega
    · rw [rq_lv_no _ _ _ _ x (Nat.zero_le x) (by omega) (by simpa using y) l hl]
      decide
  · rw [rq_lv_at _ _ _ _ x (Or.inr (by omega)) l hl, hU x hx]
    decide
theorem q_laysUnder (h : rq_J r ρ A c m) {a : Int} (ha : a < ρ.1 0 0) : rq (f_X12_laysUnder 248 a m) (fun m1 => (∃ U : Nat → Int, (∀ j, j < 6 → U j = -1) ∧ rq_P0 ρ (A.1 0).toNat a (ρ.1 0 1).toNat (rq_uL ρ (A.1 0).toNat A.2.2.2 U) (rq_su3 m1)) ∧ rq_fr rq_WQ m m1) := by
  have hv := h.1.2.2.1
  have hb := hv.1
  unfold f_X12_laysUnder
  rw [q_pfr, Option.bind_some, q_pfr, Option.bind_some]
  have f1 : rq_fr rq_WQ m (rt_up (rt_up m 248 67 a) 248 65 0) := (rq_fr.rfl.up (by decide)).up (by decide)
  have e67 : rt_up (rt_up m 248 67 a) 248 65 0 248 67 = a := by rw [q_up, if_neg (by omega), q_up, if_pos ⟨rfl, rfl⟩]
  have e65 : rt_up (rt_up m 248 67 a) 248 65 0 248 65 = 0 := by rw [q_up, if_pos ⟨rfl, rfl⟩]
  generalize rt_up (rt_up m 248 67 a) 248 65 0 = m1 at f1 e67 e65 ⊢
  have h1 := rq_J_fr h f1 (Nat.le_refl c)
  refine rq_call (rq_up (Q := fun m2 => (∀ j, j < 10 → m2 297 j = 0) ∧ rq_fr (fun k _ => k == 297) m1 m2) (fun i s => s.1 = (i : Int) ∧ (∀ j, j < i → s.2 297 j = 0) ∧ rq_fr (fun k _ => k == 297) m1 s.2) 10 (by decide) ?_ ?_ (by exact ⟨rfl, fun j hj => absurd hj (Nat.not_lt_zero _), rq_fr.rfl⟩)) ?_
  · rintro i ⟨x, mm⟩ hi ⟨e1, e2, hf⟩
    dsimp only at e1 e2 hf
    subst e1
    have hs1 : rq_st mm := rq_st_fr h1.1.1 hf (by decide +kernel)
    unfold b_X12_laysUnder_12
    dsimp only
    rw [if_neg (by omega), q_gfr, Option.bind_some, q_s8 (k := 297) _ 10 (pt_248_68 hs1) kd_297 ln_297 hi, Option.bind_some, rq_n1 (by omega)]
    refine rq_some.mpr (rq_inl ⟨rfl, fun j hj => ?_, hf.up rfl⟩)
    show rt_up mm 297 i 0 297 j = 0
    rw [q_up]
    by_cases z : j = i
    · rw [if_pos ⟨rfl, z⟩]
    · rw [if_neg (fun y => z y.2)]; exact e2 j (by omega)
  · rintro ⟨x, mm⟩ ⟨e1, e2, hf⟩
    dsimp only at e1 e2 hf
    unfold b_X12_laysUnder_12
    dsimp only
    rw [if_pos (by omega)]
    exact rq_some.mpr (rq_inre ⟨e2, hf⟩)
  rintro m2 ⟨z2, f2⟩
  have f2' : rq_fr rq_WQ m1 m2 := f2.mono (fun k j q => by have := rq_WQ_96 q; unfold rq_w96 at this; simp only [Bool.or_eq_false_iff] at this; exact this.2)
  have h2 := rq_J_fr h1 f2' (Nat.le_refl c)
  refine rq_call (rq_up (Q := fun m3 => (∀ j, j < 6 → m3 290 j = -1) ∧ rq_fr (fun k _ => k == 290) m2 m3) (fun i s => s.1 = (i : Int) ∧ (∀ j, j < i → s.2 290 j = -1) ∧ rq_fr (fun k _ => k == 290) m2 s.2) 6 (by decide) ?_ ?_ (by exact ⟨rfl, fun j hj => absurd hj (Nat.not_lt_zero _), rq_fr.rfl⟩)) ?_
  · rintro i ⟨x, mm⟩ hi ⟨e1, e2, hf⟩
    dsimp only at e1 e2 hf
    subst e1
    have hs1 : rq_st mm := rq_st_fr h2.1.1 hf (by decide +kernel)
    unfold b_X12_laysUnder_33
    dsimp only
    rw [if_neg (by omega), q_gfr, Option.bind_some, q_s8 (k := 290) _ 6 (pt_248_56 hs1) kd_290 ln_290 hi, Option.bind_some, rq_n1 (by omega)]
    refine rq_some.mpr (rq_inl ⟨rfl, fun j hj => ?_, hf.up rfl⟩)
    show rt_up mm 290 i (-1) 290 j = -1
    rw [q_up]
    by_cases z : j = i
    · rw [if_pos ⟨rfl, z⟩]
    · rw [if_neg (fun y => z y.2)]; exact e2 j (by omega)
  · rintro ⟨x, mm⟩ ⟨e1, e2, hf⟩
    dsimp only at e1 e2 hf
    unfold b_X12_laysUnder_33
    dsimp only
    rw [if_pos (by omega)]
    exact rq_some.mpr (rq_inre ⟨e2, hf⟩)
  rintro m3 ⟨z3, f3⟩
  have f3' : rq_fr rq_WQ m2 m3 := f3.mono (fun k j q => by have := rq_WQ_96 q; unfold rq_w96 at this; simp only [Bool.or_eq_false_iff] at this; exact this.1.1.2)
  have h3 := rq_J_fr h2 f3' (Nat.le_refl c)
  refine rq_call (q_tilts (D := A.2.2.2) (a := a) h.2.2.2.2.2.1.1 h.2.2.2.2.2.1.2.2.2 ha (ρ.1 0 0).toNat 12 0 0 m3 (by omega) (by omega) (by decide) h3.2.1 (q_Sr h3) (fun w hw => by have := h3.2.2.2.2.1.2.2.2 w hw; rw [Nat.mul_zero, Nat.zero_add] at this; exact this) (by rw [f3 248 67 rfl, f2 248 67 rfl, e67])) ?_
  rintro m4 ⟨g1, -, f4⟩
  refine rq_some.mpr ⟨⟨m3 290, z3, ?_⟩, ((f1.trans f2').trans f3').trans (f4.mono (fun _ _ => rq_WQ_96))⟩
  rw [g1]
  have P := rq_P0_fold (ρ := ρ) (t := (A.1 0).toNat) (a := a) (H := (ρ.1 0 1).toNat) (by omega) (rq_uL ρ (A.1 0).toNat A.2.2.2 (m3 290)) [] (rq_su3 m3) ⟨?_, fun x _ => Or.inl rfl, fun _ j hj => ?_⟩ (rq_uL_6 hv _ _ _ z3) (by have := (rq_uL_len hv (A.1 0).toNat A.2.2.2 (m3 290)).2; simp; omega)
  · exact P
  · show m3 248 65 = 0
    rw [f3 248 65 rfl, f2 248 65 rfl, e65]
  · show m3 297 j = _
    rw [f3 297 j rfl, z2 j hj, rq_sum_c (g := fun _ => 0) _ (fun h _ => by rw [rq_ci_nil]; split <;> rfl), rq_sum_0]
theorem q_rund21 (h : rq_J r ρ A c m) {a : Int} (ha : a = -1 ∨ (0 ≤ a ∧ a < ρ.1 0 0)) : rq (j_X12_under_21 248 a m) (fun p => p.1 = rq_vun ρ (A.1 0).toNat A.2.2.2 a ∧ rq_fr rq_WQ m p.2) := by
  have hv := h.1.2.2.1
  have hb := hv.1
  have vd := h.2.2.2.2.2.1.2.2.2
  unfold j_X12_under_21 j_X12_under_54 j_X12_under_64
  refine rq_call (q_laysUnder h (a := -1) (by omega)) ?_
  rintro m2 ⟨⟨U, hU, p1, p2, -⟩, f2⟩
  have h2 := rq_J_fr h f2 (Nat.le_refl c)
  have len := rq_uL_len hv (A.1 0).toNat A.2.2.2 U
  have e65 : m2 248 65 = rq_uN ρ (A.1 0).toNat A.2.2.2 := by rw [← len.1]; exact p1
  unfold rq_vun
  by_cases z : a = -1
  · rw [if_pos z, if_pos z, q_gfr, Option.bind_some]
    exact rq_some.mpr ⟨e65, f2⟩
  · have ha := ha.resolve_left z
    obtain ⟨w, rfl⟩ := Int.eq_ofNat_of_zero_le ha.1
    have w6 : w < 6 := by omega
    rw [if_neg z, if_neg z, if_pos ha, q_gfr, Option.bind_some, e65, Int.toNat_natCast]
    by_cases y0 : rq_uN ρ (A.1 0).toNat A.2.2.2 = 0
    · rw [if_pos y0, if_pos (Or.inr y0)]
      exact rq_some.mpr ⟨rfl, f2⟩
    · rw [if_neg y0, q_gfr, Option.bind_some, q_a8 (k := 296) _ 6 (pt_248_66 h2.1.1) kd_296 ln_296 w6, Option.bind_some]
      have al : rq_uL ρ (A.1 0).toNat A.2.2.2 U = [] ∨ (∃ v, v ≠ 6 ∧ (∀ l ∈ rq_uL ρ (A.1 0).toNat A.2.2.2 U, l.1 w = v) ∧ m2 296 w = v) ∨ ((¬ ∃ v, ∀ l ∈ rq_uL ρ (A.1 0).toNat A.2.2.2 U, l.1 w = v) ∧ m2 296 w = 6) := p2 w w6
      have ne : rq_uL ρ (A.1 0).toNat A.2.2.2 U ≠ [] := fun q => y0 (by rw [← len.1, q]; rfl)
      obtain ⟨l0, hl0⟩ := List.exists_mem_of_ne_nil _ ne
      have fin : ∀ v, v ≠ 6 → m2 296 w = v → v = (if A.2.2.2 w = -1 ∨ rq_uN ρ (A.1 0).toNat A.2.2.2 = 0 then -1 else rq_fst (fun h => rq_uF ρ (A.1 0).toNat A.2.2.2 w h && (rq_uB ρ (A.1 0).toNat A.2.2.2 (w : Int) h == rq_uN ρ (A.1 0).toNat A.2.2.2)) (ρ.1 0 1).toNat) → rq (if m2 296 w = 6 then (some ((-1), m2) : Option (Int × rt_M)) else some (m2 296 w, m2)) (fun p => p.1 = (if A.2.2.2 w = -1 ∨ rq_uN ρ (A.1 0).toNat A.2.2.2 = 0 then -1 else rq_fst (fun h => rq_uF ρ (A.1 0).toNat A.2.2.2 w h && (rq_uB ρ (A.1 0).toNat A.2.2.2 (w : Int) h == rq_uN ρ (A.1 0).toNat A.2.2.2)) (ρ.1 0 1).toNat) ∧ rq_fr rq_WQ m p.2) := by
        intro v v6 e ev
        rw [if_neg (by rw [e]; exact v6)]
        exact rq_some.mpr ⟨by rw [← ev]; exact e, f2⟩
      rw [Option.bind_some, q_a8 (k := 296) _ 6 (pt_248_66 h2.1.1) kd_296 ln_296 w6, Option.bind_some]
      by_cases y1 : A.2.2.2 w = -1
      · have hT : rq_uT A.2.2.2 (-1) w = false := by unfold rq_uT; simp [y1]
        have no := rq_lv_no (T := rq_uT A.2.2.2 (-1)) (F := rq_uF ρ (A.1 0).toNat A.2.2.2) (H := (ρ.1 0 1).toNat) (ρ.1 0 0).toNat 0 U 0 w (Nat.zero_le w) (by omega) hT
        rcases al with q | ⟨v, v6, hall, e⟩ | ⟨q, -⟩
        · exact absurd q ne
        · refine fin v v6 e ?_
          rw [if_pos (Or.inl y1), ← hall l0 hl0, no l0 hl0]
        · exact absurd ⟨-1, no⟩ q
      · have hT : rq_uT A.2.2.2 (-1) w = true := by
          unfold rq_uT
          simp [y1]
        have hTx : ∀ j, j ≠ w → rq_uT A.2.2.2 (w : Int) j = rq_uT A.2.2.2 (-1) j := fun j hj => by
          unfold rq_uT
          rw [decide_eq_false (show ¬ (j : Int) = (w : Int) by omega), decide_eq_false (show ¬ (j : Int) = -1 by omega)]
        have hTw : rq_uT A.2.2.2 (w : Int) w = false := by unfold rq_uT; simp
        have told := rq_lv_told (T := rq_uT A.2.2.2 (-1)) (F := rq_uF ρ (A.1 0).toNat A.2.2.2) (H := (ρ.1 0 1).toNat) (ρ.1 0 0).toNat 0 U 0 w (Nat.zero_le w) (by omega) hT
        have on : ∀ h, h < (ρ.1 0 1).toNat → rq_ci (fun l => l.1 w == (h : Int)) (rq_uL ρ (A.1 0).toNat A.2.2.2 U) = if rq_uF ρ (A.1 0).toNat A.2.2.2 w h = true then rq_uB ρ (A.1 0).toNat A.2.2.2 (w : Int) h else 0 := fun h hh => by
          have := rq_ci_on (F := rq_uF ρ (A.1 0).toNat A.2.2.2) hh hTx hT hTw (ρ.1 0 0).toNat 0 U 0 (Nat.zero_le w) (by omega)
          rw [this, Nat.zero_or]
          have tb0 : (0 : Nat).testBit h = false := Nat.zero_testBit h
          by_cases q : rq_uF ρ (A.1 0).toNat A.2.2.2 w h = true
          · rw [if_pos ⟨tb0, q⟩, if_pos q]; rfl
          · rw [if_neg (fun y => q y.2), if_neg q]
        -- all ways have h
        have allh : ∀ h, h < (ρ.1 0 1).toNat → (rq_uF ρ (A.1 0).toNat A.2.2.2 w h && (rq_uB ρ (A.1 0).toNat A.2.2.2 (w : Int) h == rq_uN ρ (A.1 0).toNat A.2.2.2)) = true → ∀ l ∈ rq_uL ρ (A.1 0).toNat A.2.2.2 U, l.1 w = (h : Int) := fun h hh q => by
          simp only [Bool.and_eq_true, beq_iff_eq] at q
          have e := on h hh
          rw [if_pos q.1, q.2, ← len.1] at e
          unfold rq_ci at e
          have := List.countP_eq_length.mp (show (rq_uL ρ (A.1 0).toNat A.2.2.2 U).countP (fun l => l.1 w == (h : Int)) = (rq_uL ρ (A.1 0).toNat A.2.2.2 U).length by omega)
          exact fun l hl => by have := this l hl; simpa using this
        rcases al with q | ⟨v, v6, hall, e⟩ | ⟨q, e⟩
        · exact absurd q ne
        · obtain ⟨h0, h0H, e0, F0⟩ := told l0 hl0
          have ev : v = (h0 : Int) := by rw [← hall l0 hl0, e0]
          refine fin v v6 e ?_
          rw [if_neg (fun y => y.elim y1 y0), ev]
          refine (rq_fst_some h0H ?_ (fun j hj => ?_)).symm
          · have eo := on h0 h0H
            rw [if_pos F0] at eo
            have : rq_ci (fun l => l.1 w == (h0 : Int)) (rq_uL ρ (A.1 0).toNat A.2.2.2 U) = ((rq_uL ρ (A.1 0).toNat A.2.2.2 U).length : Int) := by
              unfold rq_ci
              rw [List.countP_eq_length.mpr (fun l hl => by rw [hall l hl, ev]; simp)]
            rw [F0, ← eo, this, len.1]
            simp
          · by_cases q : (rq_uF ρ (A.1 0).toNat A.2.2.2 w j && (rq_uB ρ (A.1 0).toNat A.2.2.2 (w : Int) j == rq_uN ρ (A.1 0).toNat A.2.2.2)) = true
            · have := allh j (by omega) q l0 hl0
              omega
            · simpa using q
        · rw [if_pos e, if_neg (fun y => y.elim y1 y0)]
          refine rq_some.mpr ⟨?_, f2⟩
          refine (rq_fst_none (fun j hj => ?_)).symm
          by_cases q2 : (rq_uF ρ (A.1 0).toNat A.2.2.2 w j && (rq_uB ρ (A.1 0).toNat A.2.2.2 (w : Int) j == rq_uN ρ (A.1 0).toNat A.2.2.2)) = true
          · exact absurd ⟨(j : Int), allh j hj q2⟩ q
          · simpa using q2
theorem L_under (hI : rq_I c m) (a : Int) : rq (f_X11_under 41 a m) (fun p => rq (f_X12_under 248 a p.2) (fun q => q.1 = p.1 ∧ rq_I (c + 1) q.2)) := by
  obtain ⟨r, ρ, A, h⟩ := hI
  refine rq_pair (v := rq_vun ρ (A.1 0).toNat A.2.2.2 a) (o2 := f_X12_under 248 a) h (q_under11 h a) (fun m1 h1 => ?_)
  obtain ⟨m2, e2, h2, f2⟩ := q_thr h1 0
  unfold f_X12_under
  rw [e2, Option.bind_some]
  by_cases z : a = -1
  · rw [if_pos z]
    exact rq_mono (q_rund21 h2 (Or.inl z)) (fun p q => ⟨q.1, f2.trans q.2⟩)
  · rw [if_neg z]
    by_cases ha : 0 ≤ a ∧ a < ρ.1 0 0
    · rw [q_riwT h2.2.1 ha.1 ha.2, Option.bind_some, if_neg (by decide)]
      exact rq_mono (q_rund21 h2 (Or.inr ha)) (fun p q => ⟨q.1, f2.trans q.2⟩)
    · rw [q_riwF h2.2.1 ha, Option.bind_some, if_pos rfl]
      refine rq_some.mpr ⟨?_, f2⟩
      unfold rq_vun
      rw [if_neg z, if_neg ha]
end
