/-! Layer 3: mark -/
section
variable {r : Nat} {ρ : rq_R} {A : rq_A} {c : Nat} {m : rt_M}
theorem q_mk4 : ∀ k, k < 4 → (148 + 13 * k) ∈ rq_fL ∧ (61, k, ((148 + 13 * k : Nat) : Int)) ∈ rq_P ∧ 48 ≠ 148 + 13 * k ∧ (rq_P.all fun p => !((fun a j => rq_wA (148 + 13 * k) a j || (a == 148 + 13 * k && j == 4)) p.1 p.2.1 : Bool)) = true := by decide +kernel
theorem rq_yr_of {s t : Nat} {Y : rq_Y} {m m1 : rt_M} (hv : rq_vy ρ Y) (h : rq_yr s Y m) (h0 : m1 276 t = m 276 s) (h1 : ∀ i, i < 40 → m1 277 (40 * t + i) = m 277 (40 * s + i) ∧ m1 278 (40 * t + i) = m 278 (40 * s + i) ∧ m1 279 (40 * t + i) = m 279 (40 * s + i)) : rq_yr t Y m1 := by
  refine ⟨by rw [h0]; exact h.1, fun i hi => ?_⟩
  have hv1 := hv.2.1
  obtain ⟨a, b, d⟩ := h1 i (by omega)
  rw [a, b, d]
  exact h.2 i hi
theorem rq_zr_of {s t : Nat} {Y : rq_Y} {m m1 : rt_M} (hv : rq_vz ρ Y) (h : rq_zr s Y m) (h0 : m1 280 t = m 280 s) (h1 : ∀ i, i < 8 → m1 281 (8 * t + i) = m 281 (8 * s + i) ∧ m1 282 (8 * t + i) = m 282 (8 * s + i) ∧ m1 283 (8 * t + i) = m 283 (8 * s + i)) : rq_zr t Y m1 := by
  refine ⟨by rw [h0]; exact h.1, fun i hi => ?_⟩
  have hv1 := hv.2.1
  obtain ⟨a, b, d⟩ := h1 i (by omega)
  rw [a, b, d]
  exact h.2 i hi
theorem q_g11m (hs : rq_st m) {k : Nat} (hk : k < 4) : rt_al 7 (m 41 3) (k : Int) m = some ((148 + 13 * k : Nat) : Int) := by
  have := q_al (m := m) kd_61 ln_61 hk
  rw [q_pt hs (q_mk4 k hk).2.1] at this
  rw [pt_41_3 hs]; exact this
theorem L_mark0 (h : rq_J r ρ A c m) {k : Nat} (hk : k < 4) : rq (f_X11_mark 41 k 0 m) (fun p => rq (f_X12_mark 248 k 0 p.2) (fun q => q.1 = p.1 ∧ rq_I (c + 1) q.2)) := by
  have hs := h.1.1
  obtain ⟨f1, f2, f3, f4⟩ := q_mk4 k hk
  have kf := q_fk _ f1
  unfold f_X11_mark j_X11_mark_27
  rw [if_neg (by omega), if_neg (by omega), if_pos rfl, if_pos rfl, q_g11, Option.bind_some, q_g11m hs hk, Option.bind_some, q_now hs, Option.bind_some, show ∀ {α : Type} (o : Option α), rt_gd 0 ((148 + 13 * k : Nat) : Int) o = o from fun o => if_pos kf.1.1]
  refine rq_call (q_acopy hs f1 (by decide) (fun z => f3 z.symm) h.2.2.2.2.2.1 h.2.2.2.1) ?_
  rintro m1 ⟨c1, hf1⟩
  have hs1 := rq_st_fr hs hf1 kf.2.2
  rw [q_g11, Option.bind_some, q_g11m hs1 hk, Option.bind_some, show ∀ v, rt_pf 0 4 ((148 + 13 * k : Nat) : Int) v m1 = some (rt_up m1 (148 + 13 * k) 4 v) from fun v => if_pos kf.1.1, Option.bind_some]
  refine rq_some.mpr ?_
  dsimp only
  generalize hm2 : rt_up m1 (148 + 13 * k) 4 1 = m2
  have hf2 : rq_fr (fun a j => rq_wA (148 + 13 * k) a j || (a == 148 + 13 * k && j == 4)) m m2 := by
    rw [← hm2]
    exact (hf1.mono (fun a j q => by simp only [Bool.or_eq_false_iff] at q; exact q.1)).up (by simp)
  have out : ∀ a j, a < 148 + 13 * k ∨ 148 + 13 * k + 12 < a → m2 a j = m a j := by
    intro a j q
    refine hf2 a j ?_
    unfold rq_wA rq_wB rq_wY
    simp only [Bool.or_eq_false_iff, Bool.and_eq_false_iff, beq_eq_false_iff_ne]
    repeat' apply And.intro
    all_goals omega
  have hs2 := rq_st_fr hs hf2 f4
  have c2 : rq_Ac (148 + 13 * k) A m2 := by
    rw [← hm2]
    obtain ⟨x1, x2, x3, x4⟩ := c1
    have ne : ∀ a j, a ≠ 148 + 13 * k → rt_up m1 (148 + 13 * k) 4 1 a j = m1 a j := fun a j q => by rw [q_up, if_neg (fun z => q z.1)]
    exact ⟨rq_sc_fr x1 (ne _ _ (by omega)) (fun w _ => ne _ _ (by omega)) (fun w _ => ne _ _ (by omega)), rq_yc_fr x2 (fun a j q1 q2 => ne _ _ (by omega)), rq_zc_fr x3 (fun a j q1 q2 => ne _ _ (by omega)), fun w hw => by rw [ne _ _ (by omega)]; exact x4 w hw⟩
  have l2 : m2 (148 + 13 * k) 4 = 1 := by rw [← hm2, q_up, if_pos ⟨rfl, rfl⟩]
  unfold f_X12_mark
  rw [q_pfr, Option.bind_some, q_withinT (by omega) (by omega), Option.bind_some, if_neg (by decide), if_pos rfl]
  unfold j_X12_mark_29 j_X12_mark_47
  rw [q_gfr, Option.bind_some, show rt_up m2 248 0 0 248 54 = 289 from (show m2 248 54 = 289 from pt_248_54 hs2), show (289 : Int) = ((289 : Nat) : Int) from rfl, q_sa kd_289 ln_289 hk, Option.bind_some, if_pos rfl, if_pos rfl, rq_1n (by omega)]
  generalize hm3 : rt_up (rt_up m2 248 0 0) 289 k 1 = m3
  have v3 : ∀ a j, ¬ (a = 248 ∧ j = 0) → ¬ (a = 289 ∧ j = k) → m3 a j = m2 a j := by
    intro a j q1 q2
    rw [← hm3, q_up, if_neg q2, q_up, if_neg q1]
  have hs3 : rq_st m3 := by
    rw [← hm3]
    exact rq_st_fr (W := fun a j => (a == 248 && j == 0) || a == 289) hs2 ((rq_fr.rfl.up (by simp)).up (by simp)) (by decide +kernel)
  have v289 : m3 289 k = 1 := by rw [← hm3, q_up, if_pos ⟨rfl, rfl⟩]
  unfold j_X12_mark_59
  refine rq_call (q_laysLines hs3 (s := 0) (t := 1 + k) (by decide) (by omega) (by omega)) ?_
  rintro m4 ⟨a1, a2, a3⟩
  have hs4 := rq_st_fr hs3 a3 (rq_wL_st _)
  have o4 : ∀ a j, a < 276 ∨ 279 < a ∨ (a = 276 ∧ j ≠ 1 + k) ∨ (277 ≤ a ∧ a ≤ 279 ∧ (j < 40 * (1 + k) ∨ 40 * (1 + k) + 40 ≤ j)) → m4 a j = m3 a j := by
    intro a j q
    refine a3 a j ?_
    unfold rq_wL
    simp only [Bool.or_eq_false_iff, Bool.and_eq_false_iff, beq_eq_false_iff_ne, decide_eq_false_iff_not]
    omega
  have hb4 : ∀ i, i < 40 → m4 283 i = 0 ∨ m4 283 i = 1 := by
    intro i hi
    rw [o4 283 i (by omega), v3 283 i (by omega) (by omega), out 283 i (by omega)]
    exact h.2.2.2.2.2.2.2.2.2.2 i hi
  refine rq_call (q_laysSaid hs4 hb4 (s := 0) (t := 1 + k) (by decide) (by omega) (by omega)) ?_
  rintro m5 ⟨b1, b2, b3, b4⟩
  have hs5 := rq_st_fr hs4 b4 (rq_wZ_st _)
  have o5 : ∀ a j, a < 280 ∨ 284 < a ∨ (a = 280 ∧ j ≠ 1 + k) ∨ (281 ≤ a ∧ a ≤ 283 ∧ (j < 8 * (1 + k) ∨ 8 * (1 + k) + 8 ≤ j)) ∨ (a = 284 ∧ (j < 6 * (1 + k) ∨ 6 * (1 + k) + 6 ≤ j)) → m5 a j = m4 a j := by
    intro a j q
    refine b4 a j ?_
    unfold rq_wZ
    simp only [Bool.or_eq_false_iff, Bool.and_eq_false_iff, beq_eq_false_iff_ne, decide_eq_false_iff_not]
    omega
  rw [if_pos rfl, q_gfr, Option.bind_some, q_gfr, Option.bind_some, rq_imul (by omega) (by omega)]
  refine rq_call (q_copies 285 287 0 (13 * k) 13 52 _ _ 0 _ (pt_248_50 hs5) (pt_248_52 hs5) rfl (by omega) kd_285 ln_285 (by decide) kd_287 ln_287 (by omega) (by decide) (by decide) (by decide)) ?_
  rintro m6 ⟨d1, d2⟩
  have o6 : ∀ a j, a ≠ 287 ∨ j < 13 * k ∨ 13 * k + 13 ≤ j → m6 a j = m5 a j := by
    intro a j q
    refine d2 a j ?_
    unfold rq_row
    simp only [Bool.and_eq_false_iff, beq_eq_false_iff_ne, decide_eq_false_iff_not]
    omega
  have hs6 := rq_st_fr hs5 d2 (rq_row_st kd_287)
  -- what is as it was
  have all : ∀ a j, (a < 248 → a < 148 + 13 * k ∨ 148 + 13 * k + 12 < a) → (a = 248 → j ≠ 0) → (a = 289 → j ≠ k) → (a = 276 → j ≠ 1 + k) → ((277 ≤ a ∧ a ≤ 279) → (j < 40 * (1 + k) ∨ 40 * (1 + k) + 40 ≤ j)) → (a = 280 → j ≠ 1 + k) → ((281 ≤ a ∧ a ≤ 283) → (j < 8 * (1 + k) ∨ 8 * (1 + k) + 8 ≤ j)) → (a = 284 → (j < 6 * (1 + k) ∨ 6 * (1 + k) + 6 ≤ j)) → (a = 287 → j < 13 * k ∨ 13 * k + 13 ≤ j) → m6 a j = m a j := by
    intro a j q1 q2 q3 q4 q5 q6 q7 q8 q9
    rw [o6 a j (by omega), o5 a j (by omega), o4 a j (by omega), v3 a j (by omega) (by omega), out a j (by omega)]
  have lo : ∀ a j, a < 148 ∨ (200 ≤ a ∧ a < 248) ∨ (249 ≤ a ∧ a ≤ 275) ∨ a = 285 ∨ a = 288 → m6 a j = m a j := by
    intro a j q
    exact all a j (by omega) (by omega) (by omega) (by omega) (by omega) (by omega) (by omega) (by omega) (by omega)
  have st0 : ∀ a j, 276 ≤ a → a ≤ 287 → a ≠ 286 → a ≠ 287 → (a = 276 → j = 0) → ((277 ≤ a ∧ a ≤ 279) → j < 40) → (a = 280 → j = 0) → ((281 ≤ a ∧ a ≤ 283) → j < 8) → (a = 284 → j < 6) → m6 a j = m a j := by
    intro a j q1 q2 q3 q4 q5 q6 q7 q8 q9
    exact all a j (by omega) (by omega) (by omega) (by omega) (by omega) (by omega) (by omega) (by omega) (by omega)
  have hvA := h.2.2.2.2.2.1
  have hAr := h.2.2.2.2.1
  have hC := h.1
  refine rq_some.mpr ⟨rfl, r, ρ, A, ⟨hs6, hC.2.1, hC.2.2.1, rq_rc_fr hC.2.2.2 hC.2.2.1 (fun a j q1 q2 q3 q4 => lo a j ?_)⟩, ⟨hs6, h.2.1.2.1, rq_rr_fr h.2.1.2.2 (fun a j q1 q2 => lo a j (by omega))⟩, ⟨?_, ?_⟩, rq_Ac_fr h.2.2.2.1 (fun a j q1 q2 => lo a j (by omega)), ⟨fun i hi => ?_, ⟨?_, fun i hi => ?_⟩, ⟨?_, fun i hi => ?_⟩, fun w hw => ?_⟩, hvA, ?_, rq_tp_fr h.2.2.2.2.2.2.2.1 (lo _ _ (by omega)) ?_ (fun j => lo _ _ (by omega)) (fun j => lo _ _ (by omega)), rq_ud_fr (Nat.le_succ c) h.2.2.2.2.2.2.2.2.1 (lo _ _ (by omega)) (lo _ _ (by omega)) ?_ (fun a j q1 q2 => lo a j (by omega)) (fun j => lo _ _ (by omega)), fun k' hk' => ?_, fun i hi => ?_⟩
  · rcases hC.2.1 with rfl | rfl <;> omega
  · show m6 41 7 = _; rw [lo 41 7 (by omega)]; exact h.2.2.1.1
  · show m6 41 8 = _; rw [lo 41 8 (by omega)]; exact h.2.2.1.2
  · show (if 0 = 0 then m6 285 i else _) = _
    rw [if_pos rfl, lo 285 i (by omega)]
    have := hAr.1 i hi
    rw [if_pos rfl] at this; exact this
  · show m6 276 0 = _
    rw [st0 276 0 (by omega) (by omega) (by omega) (by omega) (by omega) (by omega) (by omega) (by omega) (by omega)]; exact hAr.2.1.1
  · have v := hvA.2.1.2.1
    show m6 277 (40 * 0 + i) = _ ∧ (_ → m6 278 (40 * 0 + i) = _) ∧ (_ → m6 279 (40 * 0 + i) = _)
    rw [st0 277 _ (by omega) (by omega) (by omega) (by omega) (by omega) (by omega) (by omega) (by omega) (by omega), st0 278 _ (by omega) (by omega) (by omega) (by omega) (by omega) (by omega) (by omega) (by omega) (by omega), st0 279 _ (by omega) (by omega) (by omega) (by omega) (by omega) (by omega) (by omega) (by omega) (by omega)]
    exact hAr.2.1.2 i hi
  · show m6 280 0 = _
    rw [st0 280 0 (by omega) (by omega) (by omega) (by omega) (by omega) (by omega) (by omega) (by omega) (by omega)]; exact hAr.2.2.1.1
  · have v := hvA.2.2.1.2.1
    show m6 281 (8 * 0 + i) = _ ∧ m6 282 (8 * 0 + i) = _ ∧ m6 283 (8 * 0 + i) = _
    rw [st0 281 _ (by omega) (by omega) (by omega) (by omega) (by omega) (by omega) (by omega) (by omega) (by omega), st0 282 _ (by omega) (by omega) (by omega) (by omega) (by omega) (by omega) (by omega) (by omega) (by omega), st0 283 _ (by omega) (by omega) (by omega) (by omega) (by omega) (by omega) (by omega) (by omega) (by omega)]
    exact hAr.2.2.1.2 i hi
  · show m6 284 (6 * 0 + w) = _
    rw [st0 284 _ (by omega) (by omega) (by omega) (by omega) (by omega) (by omega) (by omega) (by omega) (by omega)]
    exact hAr.2.2.2 w hw
  · have := h.2.2.2.2.2.2.1; omega
  · exact all 248 1 (by omega) (by omega) (by omega) (by omega) (by omega) (by omega) (by omega) (by omega) (by omega)
  · exact all 248 55 (by omega) (by omega) (by omega) (by omega) (by omega) (by omega) (by omega) (by omega) (by omega)
  · by_cases kk : k' = k
    · subst kk
      have hc := h.2.2.2.2.2.2.1
      have lo2 : ∀ a j, a < 248 → m6 a j = m2 a j := fun a j q => by rw [o6 a j (by omega), o5 a j (by omega), o4 a j (by omega), v3 a j (by omega) (by omega)]
      refine Or.inr ⟨by show m6 _ 4 = 1; rw [lo2 _ _ (by omega)]; exact l2, by show m6 289 k' = 1; rw [o6 _ _ (by omega), o5 _ _ (by omega), o4 _ _ (by omega)]; exact v289, A, rq_Ac_fr c2 (fun a j q1 q2 => lo2 a j (by omega)), ⟨fun i hi => ?_, ?_, ?_, fun w hw => ?_⟩, hvA, by omega⟩
      · rw [if_neg (by omega), show 13 * (k' + 1 - 1) + i = 13 * k' + i by omega]
        show m6 287 (13 * k' + i) = _
        rw [d1 i hi, show 0 + i = i by omega, o5 285 i (by omega), o4 285 i (by omega), v3 285 i (by omega) (by omega), out 285 i (by omega)]
        have := hAr.1 i hi
        rw [if_pos rfl] at this; exact this
      · have y4 : rq_yr (1 + k') A.2.1 m4 := rq_yr_of hvA.2.1 (s := 0) (m := m3) (rq_yr_fr hAr.2.1 (fun a j q1 q2 => by rw [v3 a j (by omega) (by omega), out a j (by omega)])) a1 a2
        rw [Nat.add_comm k' 1]
        exact rq_yr_fr y4 (fun a j q1 q2 => by show m6 a j = _; rw [o6 a j (by omega), o5 a j (by omega)])
      · have z5 : rq_zr (1 + k') A.2.2.1 m5 := rq_zr_of hvA.2.2.1 (s := 0) (m := m4) (rq_zr_fr hAr.2.2.1 (fun a j q1 q2 => by rw [o4 a j (by omega), v3 a j (by omega) (by omega), out a j (by omega)])) b1 b2
        rw [Nat.add_comm k' 1]
        exact rq_zr_fr z5 (fun a j q1 q2 => by show m6 a j = _; rw [o6 a j (by omega)])
      · rw [Nat.add_comm k' 1]
        show m6 284 (6 * (1 + k') + w) = _
        rw [o6 _ _ (by omega), b3 w hw, o4 284 _ (by omega), v3 284 _ (by omega) (by omega), out 284 _ (by omega)]
        exact hAr.2.2.2 w hw
    · have old := h.2.2.2.2.2.2.2.2.2.1 k' hk'
      have al : ∀ a j, 148 + 13 * k' ≤ a → a ≤ 148 + 13 * k' + 12 → m6 a j = m a j := fun a j q1 q2 => all a j (by omega) (by omega) (by omega) (by omega) (by omega) (by omega) (by omega) (by omega) (by omega)
      have a289 : m6 289 k' = m 289 k' := all 289 k' (by omega) (by omega) (by omega) (by omega) (by omega) (by omega) (by omega) (by omega) (by omega)
      rcases old with ⟨x1, x2⟩ | ⟨x1, x2, A2, x3, x4, x5, x6⟩
      · exact Or.inl ⟨by show m6 _ 4 = 0; rw [al _ _ (by omega) (by omega)]; exact x1, by show m6 289 k' = 0; rw [a289]; exact x2⟩
      · refine Or.inr ⟨by show m6 _ 4 = 1; rw [al _ _ (by omega) (by omega)]; exact x1, by show m6 289 k' = 1; rw [a289]; exact x2, A2, rq_Ac_fr x3 (fun a j q1 q2 => al a j q1 q2), ?_, x5, by omega⟩
        obtain ⟨y1, y2, y3, y4⟩ := x4
        refine ⟨fun i hi => ?_, ⟨?_, fun i hi => ?_⟩, ⟨?_, fun i hi => ?_⟩, fun w hw => ?_⟩
        · have := y1 i hi
          rw [if_neg (by omega)] at this ⊢
          show m6 287 _ = _
          rw [all 287 _ (by omega) (by omega) (by omega) (by omega) (by omega) (by omega) (by omega) (by omega) (by omega)]; exact this
        · show m6 276 _ = _
          rw [all 276 _ (by omega) (by omega) (by omega) (by omega) (by omega) (by omega) (by omega) (by omega) (by omega)]; exact y2.1
        · have v := x5.2.1.2.1
          show m6 277 _ = _ ∧ (_ → m6 278 _ = _) ∧ (_ → m6 279 _ = _)
          rw [all 277 _ (by omega) (by omega) (by omega) (by omega) (by omega) (by omega) (by omega) (by omega) (by omega), all 278 _ (by omega) (by omega) (by omega) (by omega) (by omega) (by omega) (by omega) (by omega) (by omega), all 279 _ (by omega) (by omega) (by omega) (by omega) (by omega) (by omega) (by omega) (by omega) (by omega)]
          exact y2.2 i hi
        · show m6 280 _ = _
          rw [all 280 _ (by omega) (by omega) (by omega) (by omega) (by omega) (by omega) (by omega) (by omega) (by omega)]; exact y3.1
        · have v := x5.2.2.1.2.1
          show m6 281 _ = _ ∧ m6 282 _ = _ ∧ m6 283 _ = _
          rw [all 281 _ (by omega) (by omega) (by omega) (by omega) (by omega) (by omega) (by omega) (by omega) (by omega), all 282 _ (by omega) (by omega) (by omega) (by omega) (by omega) (by omega) (by omega) (by omega) (by omega), all 283 _ (by omega) (by omega) (by omega) (by omega) (by omega) (by omega) (by omega) (by omega) (by omega)]
          exact y3.2 i hi
        · show m6 284 _ = _
          rw [all 284 _ (by omega) (by omega) (by omega) (by omega) (by omega) (by omega) (by omega) (by omega) (by omega)]; exact y4 w hw
  · show m6 283 i = 0 ∨ m6 283 i = 1
    rw [o6 283 i (by omega)]
    by_cases q : 8 * (1 + k) ≤ i ∧ i < 8 * (1 + k) + 8
    · obtain ⟨u, rfl⟩ : ∃ u, i = 8 * (1 + k) + u := ⟨i - 8 * (1 + k), by omega⟩
      rw [(b2 u (by omega)).2.2]
      exact hb4 _ (by omega)
    · rw [o5 283 i (by omega)]
      exact hb4 i hi
theorem L_mark1 (h : rq_J r ρ A c m) {k : Nat} (hk : k < 4) (hl : m 289 k = 1) : rq (f_X11_mark 41 k 1 m) (fun p => rq (f_X12_mark 248 k 1 p.2) (fun q => q.1 = p.1 ∧ rq_I (c + 1) q.2)) := by
  have hs := h.1.1
  obtain ⟨f1, f2, f3, f4⟩ := q_mk4 k hk
  have kf := q_fk _ f1
  have old := h.2.2.2.2.2.2.2.2.2.1 k hk
  rcases old with ⟨-, x2⟩ | ⟨x1, x2, B, x3, x4, x5, x6⟩
  · rw [hl] at x2; exact absurd x2 (by decide)
  obtain ⟨n0, p0, U0, u1, u2, u3⟩ := h.2.2.2.2.2.2.2.2.1
  unfold f_X11_mark j_X11_mark_27
  rw [if_neg (by omega), if_neg (by omega), if_neg (by decide), q_g11, Option.bind_some, q_g11m hs hk, Option.bind_some, show rt_gf 0 4 ((148 + 13 * k : Nat) : Int) m = some (m (148 + 13 * k) 4) from if_pos kf.1.1, Option.bind_some, x1, if_neg (by decide), if_neg (by decide), q_now hs, Option.bind_some, Option.bind_some, q_g11m hs hk, Option.bind_some, q_gd0]
  refine rq_call (q_acopy hs (show 48 ∈ rq_fL by decide) f1 f3 x5 x3) ?_
  rintro m1 ⟨c1, hf1⟩
  rw [q_p11, Option.bind_some]
  refine rq_some.mpr ?_
  dsimp only
  generalize hm2 : rt_up m1 41 5 0 = m2
  have w48 : ∀ a j, rq_WS a j = false → rq_wA 48 a j = false := by
    intro a j q
    unfold rq_WS at q
    simp only [Bool.or_eq_false_iff] at q
    obtain ⟨⟨⟨⟨⟨⟨⟨⟨⟨⟨⟨⟨⟨⟨⟨⟨⟨⟨⟨⟨⟨⟨h0, h1⟩, h2⟩, h3⟩, h4⟩, h5⟩, h6⟩, h7⟩, h8⟩, h9⟩, h10⟩, h11⟩, h12⟩, h13⟩, h14⟩, h15⟩, h16⟩, h17⟩, h18⟩, h19⟩, h20⟩, h21⟩, h22⟩ := q
    unfold rq_wA rq_wB rq_wY
    simp only [Bool.or_eq_false_iff]
    exact ⟨⟨⟨⟨⟨h2, h3⟩, h4⟩, ⟨⟨h5, h6⟩, h7⟩, h8⟩, ⟨⟨h9, h10⟩, h11⟩, h12⟩, h13⟩
  have hf2 : rq_fr rq_WS m m2 := by rw [← hm2]; exact (hf1.mono w48).up rfl
  have hD2 := rq_D_WS h.2.1 hf2
  have hs2 := hD2.1
  have out : ∀ a j, 61 ≤ a → m2 a j = m a j := by
    intro a j q
    rw [← hm2, q_up, if_neg (by omega)]
    refine hf1 a j ?_
    unfold rq_wA rq_wB rq_wY
    simp only [Bool.or_eq_false_iff, Bool.and_eq_false_iff, beq_eq_false_iff_ne]
    repeat' apply And.intro
    all_goals omega
  have c2 : rq_Ac 48 B m2 := by rw [← hm2]; exact rq_Ac_fr c1 (fun a j q1 q2 => by rw [q_up, if_neg (by omega)])
  unfold f_X12_mark
  rw [q_pfr, Option.bind_some, q_withinT (by omega) (by omega), Option.bind_some, if_neg (by decide), if_neg (by decide), q_gfr, Option.bind_some, show rt_up m2 248 0 0 248 54 = 289 from (show m2 248 54 = 289 from pt_248_54 hs2), show (289 : Int) = ((289 : Nat) : Int) from rfl, q_al kd_289 ln_289 hk, Option.bind_some, show rt_up m2 248 0 0 289 k = 1 from (by show m2 289 k = 1; rw [out 289 k (by omega)]; exact hl), if_neg (by decide)]
  unfold j_X12_mark_29 j_X12_mark_47
  rw [q_gfr, Option.bind_some, show rt_up m2 248 0 0 248 54 = 289 from (show m2 248 54 = 289 from pt_248_54 hs2), show (289 : Int) = ((289 : Nat) : Int) from rfl, q_sa kd_289 ln_289 hk, Option.bind_some, if_neg (by decide), if_neg (by decide), rq_1n (by omega)]
  generalize hm3 : rt_up (rt_up m2 248 0 0) 289 k 1 = m3
  have v3 : ∀ a j, ¬ (a = 248 ∧ j = 0) → m3 a j = m2 a j := by
    intro a j q1
    rw [← hm3, q_up]
    by_cases z : a = 289 ∧ j = k
    · rw [if_pos z, z.1, z.2, out 289 k (by omega), hl]
    · rw [if_neg z, q_up, if_neg q1]
  have f3' : rq_fr rq_WS m2 m3 := fun a j q => v3 a j (by
    rintro ⟨rfl, rfl⟩
    exact absurd q (by decide))
  have hs3 := rq_st_fr hs2 f3' rq_WS_st
  unfold j_X12_mark_59
  refine rq_call (q_laysLines hs3 (s := 1 + k) (t := 0) (by omega) (by decide) (by omega)) ?_
  rintro m4 ⟨a1, a2, a3⟩
  have f4' : rq_fr rq_WS m3 m4 := a3.mono (fun a j q => by
    unfold rq_WS at q
    simp only [Bool.or_eq_false_iff] at q
    obtain ⟨⟨⟨⟨⟨⟨⟨⟨⟨⟨⟨⟨⟨⟨⟨⟨⟨⟨⟨⟨⟨⟨h0, h1⟩, h2⟩, h3⟩, h4⟩, h5⟩, h6⟩, h7⟩, h8⟩, h9⟩, h10⟩, h11⟩, h12⟩, h13⟩, h14⟩, h15⟩, h16⟩, h17⟩, h18⟩, h19⟩, h20⟩, h21⟩, h22⟩ := q
    clear h0 h1 h2 h3 h4 h5 h6 h7 h8 h9 h10 h11 h12 h13 h14 h15 h16 h17 h20 h21 h22
    unfold rq_wL
    simp only [Bool.or_eq_false_iff, Bool.and_eq_false_iff, beq_eq_false_iff_ne, decide_eq_false_iff_not] at h18 h19 ⊢
    omega)
  have hs4 := rq_st_fr hs3 f4' rq_WS_st
  have o4 : ∀ a j, a < 276 ∨ 279 < a → m4 a j = m3 a j := by
    intro a j q
    refine a3 a j ?_
    unfold rq_wL
    simp only [Bool.or_eq_false_iff, Bool.and_eq_false_iff, beq_eq_false_iff_ne, decide_eq_false_iff_not]
    omega
  have hb4 : ∀ i, i < 40 → m4 283 i = 0 ∨ m4 283 i = 1 := by
    intro i hi
    rw [o4 283 i (by omega), v3 283 i (by omega), out 283 i (by omega)]
    exact h.2.2.2.2.2.2.2.2.2.2 i hi
  refine rq_call (q_laysSaid hs4 hb4 (s := 1 + k) (t := 0) (by omega) (by decide) (by omega)) ?_
  rintro m5 ⟨b1, b2, b3, b4⟩
  have f5' : rq_fr rq_WS m4 m5 := b4.mono (fun a j q => by
    unfold rq_WS at q
    simp only [Bool.or_eq_false_iff] at q
    obtain ⟨⟨⟨⟨⟨⟨⟨⟨⟨⟨⟨⟨⟨⟨⟨⟨⟨⟨⟨⟨⟨⟨h0, h1⟩, h2⟩, h3⟩, h4⟩, h5⟩, h6⟩, h7⟩, h8⟩, h9⟩, h10⟩, h11⟩, h12⟩, h13⟩, h14⟩, h15⟩, h16⟩, h17⟩, h18⟩, h19⟩, h20⟩, h21⟩, h22⟩ := q
    clear h0 h1 h2 h3 h4 h5 h6 h7 h8 h9 h10 h11 h12 h13 h14 h15 h16 h17 h18 h19
    unfold rq_wZ
    simp only [Bool.or_eq_false_iff, Bool.and_eq_false_iff, beq_eq_false_iff_ne, decide_eq_false_iff_not] at h20 h21 h22 ⊢
    omega)
  have hs5 := rq_st_fr hs4 f5' rq_WS_st
  have o5 : ∀ a j, a < 280 ∨ 284 < a → m5 a j = m4 a j := by
    intro a j q
    refine b4 a j ?_
    unfold rq_wZ
    simp only [Bool.or_eq_false_iff, Bool.and_eq_false_iff, beq_eq_false_iff_ne, decide_eq_false_iff_not]
    omega
  rw [if_neg (by decide), q_gfr, Option.bind_some, q_gfr, Option.bind_some, rq_imul (by omega) (by omega)]
  refine rq_call (q_copies 287 285 (13 * k) 0 52 13 _ _ _ 0 (pt_248_52 hs5) (pt_248_50 hs5) (by omega) rfl kd_287 ln_287 (by omega) kd_285 ln_285 (by decide) (by decide) (by decide) (by decide)) ?_
  rintro m6 ⟨d1, d2⟩
  have f6' : rq_fr rq_WS m5 m6 := d2.mono (fun a j q => by
    unfold rq_WS at q
    simp only [Bool.or_eq_false_iff] at q
    obtain ⟨⟨⟨⟨⟨⟨⟨⟨⟨⟨⟨⟨⟨⟨⟨⟨⟨⟨⟨⟨⟨⟨h0, h1⟩, h2⟩, h3⟩, h4⟩, h5⟩, h6⟩, h7⟩, h8⟩, h9⟩, h10⟩, h11⟩, h12⟩, h13⟩, h14⟩, h15⟩, h16⟩, h17⟩, h18⟩, h19⟩, h20⟩, h21⟩, h22⟩ := q
    unfold rq_row
    simp only [Bool.and_eq_false_iff]
    exact Or.inl (Or.inl h16))
  have o6 : ∀ a j, a ≠ 285 → m6 a j = m5 a j := by
    intro a j q
    refine d2 a j ?_
    unfold rq_row
    simp only [Bool.and_eq_false_iff, beq_eq_false_iff_ne, decide_eq_false_iff_not]
    omega
  rw [q_pfr, Option.bind_some]
  have f7' : rq_fr rq_WS m (rt_up m6 248 55 0) := (hf2.trans (f3'.trans (f4'.trans (f5'.trans f6')))).up rfl
  have o7 : ∀ a j, a ≠ 248 → rt_up m6 248 55 0 a j = m6 a j := fun a j q => by rw [q_up, if_neg (fun z => q z.1)]
  obtain ⟨y1, y2, y3, y4⟩ := x4
  have lo2 : ∀ a j, a < 248 → rt_up m6 248 55 0 a j = m2 a j := fun a j q => by rw [o7 a j (by omega), o6 a j (by omega), o5 a j (by omega), o4 a j (by omega), v3 a j (by omega)]
  refine rq_some.mpr ⟨rfl, ?_⟩
  show rq_I (c + 1) (rt_up m6 248 55 0)
  refine ⟨r, ρ, B, rq_J_set h f7' (Nat.le_succ c) (rq_Ac_fr c2 (fun a j q1 q2 => lo2 a j (by omega))) ⟨fun i hi => ?_, ?_, ?_, fun w hw => ?_⟩ x5 (by omega) ⟨0, p0, U0, ⟨by decide, u1.2.1, ?_, ?_, fun i hi => absurd hi (Nat.not_lt_zero _)⟩, ⟨?_, fun i hi => absurd hi (Nat.not_lt_zero _)⟩, fun i hi => absurd hi (Nat.not_lt_zero _)⟩ (fun i hi => ?_)⟩
  · rw [if_pos rfl]
    have := d1 i hi
    rw [show 0 + i = i by omega] at this
    rw [o7 285 i (by omega), this, o5 287 _ (by omega), o4 287 _ (by omega), v3 287 _ (by omega), out 287 _ (by omega)]
    have := y1 i hi
    rw [if_neg (by omega), show 13 * (k + 1 - 1) + i = 13 * k + i by omega] at this
    exact this
  · rw [Nat.add_comm k 1] at y2
    have y4 : rq_yr 0 B.2.1 m4 := rq_yr_of x5.2.1 (s := 1 + k) (m := m3) (rq_yr_fr y2 (fun a j q1 q2 => by rw [v3 a j (by omega), out a j (by omega)])) a1 a2
    exact rq_yr_fr y4 (fun a j q1 q2 => by rw [o7 a j (by omega), o6 a j (by omega), o5 a j (by omega)])
  · rw [Nat.add_comm k 1] at y3
    have z5 : rq_zr 0 B.2.2.1 m5 := rq_zr_of x5.2.2.1 (s := 1 + k) (m := m4) (rq_zr_fr y3 (fun a j q1 q2 => by rw [o4 a j (by omega), v3 a j (by omega), out a j (by omega)])) b1 b2
    exact rq_zr_fr z5 (fun a j q1 q2 => by rw [o7 a j (by omega), o6 a j (by omega)])
  · rw [Nat.add_comm k 1] at y4
    rw [o7 284 _ (by omega), o6 284 _ (by omega), b3 w hw, o4 284 _ (by omega), v3 284 _ (by omega), out 284 _ (by omega)]
    exact y4 w hw
  · rw [lo2 41 5 (by omega), ← hm2, q_up, if_pos ⟨rfl, rfl⟩]; rfl
  · rw [lo2 41 6 (by omega), ← hm2, q_up, if_neg (by omega), hf1 41 6 (by decide)]; exact u1.2.2.2.1
  · rw [q_up, if_pos ⟨rfl, rfl⟩]; rfl
  · rw [o7 283 i (by omega), o6 283 i (by omega)]
    have := (b2 i hi).2.2
    rw [show 8 * 0 + i = i by omega] at this
    rw [this]
    exact hb4 _ (by omega)
theorem L_mark (hI : rq_I c m) (a b : Int) (hb : b = 0 ∨ b = 1) : rq (f_X11_mark 41 a b m) (fun p => rq (f_X12_mark 248 a b p.2) (fun q => q.1 = p.1 ∧ rq_I (c + 1) q.2)) := by
  obtain ⟨r, ρ, A, h⟩ := hI
  have hs := h.1.1
  by_cases ha : 0 ≤ a ∧ a ≤ 3
  · obtain ⟨k, rfl⟩ := Int.eq_ofNat_of_zero_le ha.1
    have hk : k < 4 := by omega
    rcases hb with rfl | rfl
    · exact L_mark0 h hk
    · by_cases hl : m 289 k = 1
      · exact L_mark1 h hk hl
      · have old := h.2.2.2.2.2.2.2.2.2.1 k hk
        have kf := q_fk _ (q_mk4 k hk).1
        rcases old with ⟨x1, x2⟩ | ⟨x1, x2, -⟩
        · unfold f_X11_mark j_X11_mark_25
          rw [if_neg (by omega), if_neg (by omega), if_neg (by decide), q_g11, Option.bind_some, q_g11m hs hk, Option.bind_some, show rt_gf 0 4 ((148 + 13 * k : Nat) : Int) m = some (m (148 + 13 * k) 4) from if_pos kf.1.1, Option.bind_some, x1, if_pos rfl]
          refine rq_some.mpr ?_
          show rq (f_X12_mark 248 k 1 m) _
          obtain ⟨m2, e2, h2, f2⟩ := q_thr h 0
          have z : m2 289 k = 0 := by
            rw [f2 289 k (rq_WQ_0 (by omega))]
            exact x2
          unfold f_X12_mark j_X12_mark_27
          rw [e2, Option.bind_some, q_withinT ha.1 ha.2, Option.bind_some, if_neg (by decide), if_neg (by decide), q_gfr, Option.bind_some, pt_248_54 h2.2.1.1, show (289 : Int) = ((289 : Nat) : Int) from rfl, q_al kd_289 ln_289 hk, Option.bind_some, z, if_pos rfl]
          exact rq_some.mpr ⟨rfl, r, ρ, A, rq_J_fr h f2 (Nat.le_succ c)⟩
        · exact absurd x2 hl
  · refine rq_pair (v := 0) (o2 := f_X12_mark 248 a b) h ?_ (fun m1 h1 => ?_)
    · unfold f_X11_mark j_X11_mark_25
      by_cases z : a < 0
      · rw [if_pos z]; exact rq_some.mpr ⟨rfl, rq_fr.rfl⟩
      · rw [if_neg z, if_pos (by omega)]; exact rq_some.mpr ⟨rfl, rq_fr.rfl⟩
    · obtain ⟨m2, e2, h2, f2⟩ := q_thr h1 0
      unfold f_X12_mark j_X12_mark_27
      rw [e2, Option.bind_some, q_withinF ha, Option.bind_some, if_pos rfl]
      exact rq_some.mpr ⟨rfl, f2⟩
end
