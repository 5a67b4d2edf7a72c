/-! Layer 3: judged, both -/
section
variable {r : Nat} {ρ : rq_R} {A : rq_A} {c : Nat} {m : rt_M} {S : rq_S} {Y : rq_Y}
theorem q_jdC (a p x1 x2 : Int) (i : Nat) (hi : i < 1000) (mm : rt_M) : (if p = (-1) then (if x1 = (-1) then j_X11_judged_77_26 41 a (i : Int) x2 (i : Int) p mm else j_X11_judged_77_26 41 a x1 x2 (i : Int) p mm) else j_X11_judged_77_26 41 a x1 x2 (i : Int) p mm) = some (.inl (if p = -1 ∧ x1 = -1 then (i : Int) else x1, if 0 < p ∧ x2 = -1 then (i : Int) else x2, ((i + 1 : Nat) : Int), mm)) := by
  unfold j_X11_judged_77_26 j_X11_judged_90_26
  rw [rq_n1 (by omega)]
  by_cases a1 : p = -1
  · rw [if_pos a1, if_neg (show ¬ (0 < p ∧ x2 = -1) by omega)]
    by_cases a2 : x1 = -1
    · rw [if_pos a2, if_pos (by omega), if_pos ⟨a1, a2⟩]
    · rw [if_neg a2, if_pos (by omega), if_neg (fun q => a2 q.2)]
  · rw [if_neg a1, if_neg (show ¬ (p = -1 ∧ x1 = -1) from fun q => a1 q.1)]
    by_cases a3 : p ≤ 0
    · rw [if_pos a3, if_neg (by omega)]
    · rw [if_neg a3]
      by_cases a4 : x2 = -1
      · rw [if_pos a4, if_pos ⟨by omega, a4⟩]
      · rw [if_neg a4, if_neg (fun q => a4 q.2)]
theorem q_judge (hC : rq_C r ρ m) (h7 : m 41 7 = (r : Int)) (hy : rq_yc 52 Y m) (vy : rq_vy ρ Y) (h0 : rq_sc 115 rq_S0 m) (a : Int) : rq (rt_it (b_X11_judged_26 41 a) 4000 (-1, -1, 0, m)) (fun e => e.1 = (rq_ju ρ Y (Y 0 0).toNat).1 ∧ e.2.1 = (rq_ju ρ Y (Y 0 0).toNat).2.1 ∧ rq_sc 115 (rq_ju ρ Y (Y 0 0).toNat).2.2 e.2.2 ∧ rq_fr (rq_wS 115) m e.2.2) := by
  have hv := hC.2.2.1
  have y52 : (52 : Nat) ∈ rq_yL := by decide
  have v1 := vy.1
  have v2 := vy.2.1
  have loc : ∀ mm, rq_fr (rq_wS 115) m mm → rq_C r ρ mm ∧ rq_yc 52 Y mm ∧ rt_gf 11 7 41 mm = some (r : Int) := by
    intro mm hf
    refine ⟨rq_C_wS q_b115 hC hf, rq_yc_fr hy (fun b j q1 q2 => hf b j ?_), by rw [q_g11, hf 41 7 rfl, h7]⟩
    unfold rq_wS rq_wE
    simp only [Bool.or_eq_false_iff, Bool.and_eq_false_iff, beq_eq_false_iff_ne]
    omega
  refine rq_up (fun i s => s.2.2.1 = (i : Int) ∧ s.1 = (rq_ju ρ Y i).1 ∧ s.2.1 = (rq_ju ρ Y i).2.1 ∧ rq_sc 115 (rq_ju ρ Y i).2.2 s.2.2.2 ∧ rq_fr (rq_wS 115) m s.2.2.2) (Y 0 0).toNat (by omega) ?_ ?_ (by exact ⟨rfl, rfl, rfl, h0, rq_fr.rfl⟩)
  · rintro i ⟨x, y, t, mm⟩ hi ⟨e1, e2, e3, sc, hf⟩
    dsimp only at e1 e2 e3 sc hf
    subst e1 e2 e3
    obtain ⟨hC1, hy1, ht⟩ := loc mm hf
    have hs1 := hC1.1
    have vj := rq_ju_v hv vy i (by omega)
    have y0 := hy1.1
    unfold b_X11_judged_26
    simp only [q_now hs1, q_nye hs1, q_gf10 y52, Option.bind_some, y0, ht, q_tri hs1]
    rw [if_neg (by omega)]
    refine rq_call (q_play hC1 ⟨q_b115, sc, vj.1⟩ hy1 vy (i := i) (by omega)) ?_
    rintro ⟨p, m2⟩ ⟨e, p1, p2⟩
    dsimp only at e p1 p2 ⊢
    subst e
    rw [q_jdC _ _ _ _ _ (by omega)]
    exact rq_some.mpr (rq_inl ⟨rfl, rfl, rfl, p1, hf.trans p2⟩)
  · rintro ⟨x, y, t, mm⟩ ⟨e1, e2, e3, sc, hf⟩
    dsimp only at e1 e2 e3 sc hf
    obtain ⟨hC1, hy1, ht⟩ := loc mm hf
    have hs1 := hC1.1
    have y0 := hy1.1
    unfold b_X11_judged_26
    simp only [q_now hs1, q_nye hs1, q_gf10 y52, Option.bind_some, y0]
    rw [if_pos (by omega)]
    exact rq_some.mpr (rq_inre ⟨e2, e3, sc, hf⟩)
theorem q_rjudge (h : rq_D ρ m) (hy : rq_yr 0 Y m) (vy : rq_vy ρ Y) (h0 : rq_sr rq_S0 m) (a : Int) : rq (rt_it (b_X12_judged_41 248 a) 4000 (-1, -1, 0, m)) (fun e => e.1 = (rq_ju ρ Y (Y 0 0).toNat).1 ∧ e.2.1 = (rq_ju ρ Y (Y 0 0).toNat).2.1 ∧ rq_sr (rq_ju ρ Y (Y 0 0).toNat).2.2 e.2.2 ∧ rq_fr rq_wR m e.2.2) := by
  have hv := h.2.1
  have v1 := vy.1
  have v2 := vy.2.1
  have loc : ∀ mm, rq_fr rq_wR m mm → rq_D ρ mm ∧ rq_yr 0 Y mm := by
    intro mm hf
    refine ⟨rq_D_wR h hf, rq_yr_fr hy (fun b j q1 q2 => hf b j ?_)⟩
    unfold rq_wR rq_wF
    simp only [Bool.or_eq_false_iff, Bool.and_eq_false_iff, beq_eq_false_iff_ne, decide_eq_false_iff_not]
    omega
  refine rq_up (fun i s => s.2.2.1 = (i : Int) ∧ s.1 = (rq_ju ρ Y i).1 ∧ s.2.1 = (rq_ju ρ Y i).2.1 ∧ rq_sr (rq_ju ρ Y i).2.2 s.2.2.2 ∧ rq_fr rq_wR m s.2.2.2) (Y 0 0).toNat (by omega) ?_ ?_ (by exact ⟨rfl, rfl, rfl, h0, rq_fr.rfl⟩)
  · rintro i ⟨x, y, t, mm⟩ hi ⟨e1, e2, e3, sc, hf⟩
    dsimp only at e1 e2 e3 sc hf
    subst e1 e2 e3
    obtain ⟨hD1, hy1⟩ := loc mm hf
    have hs1 := hD1.1
    obtain ⟨vj, vs, vx, vz⟩ := rq_ju_v hv vy i (by omega)
    have pv := rq_pl_v hv vy (i := i) (by omega) vj (by omega)
    have y0 := hy1.1
    have k1 := (hy1.2 i (by omega)).1
    rw [show 40 * 0 + i = i by omega] at k1
    unfold b_X12_judged_41 j_X12_judged_96_41
    simp only [q_gfr, Option.bind_some]
    rw [q_a9 (k := 276) _ 0 6 0 (pt_248_41 hs1) kd_276 ln_276 rfl (by decide), Option.bind_some, y0, if_neg (by omega), q_a8 (k := 277) _ 240 (pt_248_42 hs1) kd_277 ln_277 (by omega), Option.bind_some, k1, rq_n1 (by omega)]
    by_cases z3 : Y 1 i = 3
    · rw [if_pos z3]
      have e : rq_pl ρ Y i (rq_ju ρ Y i).2.2 = (rq_cm ρ (rq_ju ρ Y i).2.2, rq_ps ρ (rq_ju ρ Y i).2.2) := by unfold rq_pl; rw [if_pos z3]
      refine rq_call (q_passes hD1 sc vj) ?_
      rintro ⟨p, m2⟩ ⟨e', p1, p2⟩
      dsimp only at e' p1 p2 ⊢
      have c0 := rq_cm0 (ρ := ρ) (rq_ju ρ Y i).2.2
      have f2 := hf.trans p2
      have f1 : (rq_ju ρ Y (i + 1)).1 = (rq_ju ρ Y i).1 := by
        show (if _ then _ else _) = _
        rw [e, if_neg (show ¬ (rq_cm ρ (rq_ju ρ Y i).2.2 = -1 ∧ (rq_ju ρ Y i).1 = -1) by omega)]
      have g1 : (rq_ju ρ Y (i + 1)).2.1 = if 0 < rq_cm ρ (rq_ju ρ Y i).2.2 ∧ (rq_ju ρ Y i).2.1 = -1 then (i : Int) else (rq_ju ρ Y i).2.1 := by
        show (if _ then _ else _) = _
        rw [e]
      have s1 : (rq_ju ρ Y (i + 1)).2.2 = rq_ps ρ (rq_ju ρ Y i).2.2 := by
        show (rq_pl ρ Y i (rq_ju ρ Y i).2.2).2 = _
        rw [e]
      have p1 : rq_sr (rq_ju ρ Y (i + 1)).2.2 m2 := by rw [s1]; exact p1
      by_cases w1 : p ≤ 0
      · rw [if_pos w1]
        exact rq_some.mpr (rq_inl ⟨rfl, f1.symm, by rw [g1, if_neg (by omega)], p1, f2⟩)
      · rw [if_neg w1]
        by_cases w2 : 0 ≤ (rq_ju ρ Y i).2.1
        · rw [if_pos w2]
          exact rq_some.mpr (rq_inl ⟨rfl, f1.symm, by rw [g1, if_neg (by omega)], p1, f2⟩)
        · rw [if_neg w2]
          exact rq_some.mpr (rq_inl ⟨rfl, f1.symm, by rw [g1, if_pos (by omega)], p1, f2⟩)
    · rw [if_neg z3]
      have c0 := pv.2.2.2.1 z3
      refine rq_call (q_goes hD1 sc vj hy1 vy (i := i) (by omega) z3) ?_
      rintro ⟨p, m2⟩ ⟨e', p1, p2⟩
      dsimp only at e' p1 p2 ⊢
      have f2 := hf.trans p2
      have g1 : (rq_ju ρ Y (i + 1)).2.1 = (rq_ju ρ Y i).2.1 := by
        show (if _ then _ else _) = _
        rw [if_neg (by omega)]
      have f1 : (rq_ju ρ Y (i + 1)).1 = if (rq_pl ρ Y i (rq_ju ρ Y i).2.2).1 = -1 ∧ (rq_ju ρ Y i).1 = -1 then (i : Int) else (rq_ju ρ Y i).1 := rfl
      have p1 : rq_sr (rq_ju ρ Y (i + 1)).2.2 m2 := p1
      by_cases w1 : (rq_pl ρ Y i (rq_ju ρ Y i).2.2).1 = -1
      · rw [if_pos w1] at e'
        rw [if_pos e']
        by_cases w2 : 0 ≤ (rq_ju ρ Y i).1
        · rw [if_pos w2]
          exact rq_some.mpr (rq_inl ⟨rfl, by rw [f1, if_neg (by omega)], g1.symm, p1, f2⟩)
        · rw [if_neg w2]
          exact rq_some.mpr (rq_inl ⟨rfl, by rw [f1, if_pos (by omega)], g1.symm, p1, f2⟩)
      · rw [if_neg w1] at e'
        rw [if_neg (by omega)]
        exact rq_some.mpr (rq_inl ⟨rfl, by rw [f1, if_neg (by omega)], g1.symm, p1, f2⟩)
  · rintro ⟨x, y, t, mm⟩ ⟨e1, e2, e3, sc, hf⟩
    dsimp only at e1 e2 e3 sc hf
    obtain ⟨hD1, hy1⟩ := loc mm hf
    have hs1 := hD1.1
    have y0 := hy1.1
    unfold b_X12_judged_41
    simp only [q_gfr, Option.bind_some]
    rw [q_a9 (k := 276) _ 0 6 0 (pt_248_41 hs1) kd_276 ln_276 rfl (by decide), Option.bind_some, y0, if_pos (by omega)]
    exact rq_some.mpr (rq_inre ⟨e2, e3, sc, hf⟩)
theorem rq_WQ_115 {k j : Nat} (h : rq_WQ k j = false) : rq_wS 115 k j = false := by
  have h := rq_WQ_C h
  unfold rq_WC at h
  unfold rq_wS
  simp only [Bool.or_eq_false_iff] at h ⊢
  obtain ⟨⟨⟨⟨⟨⟨⟨⟨⟨⟨h1, h2⟩, h3⟩, h4⟩, h5⟩, h6⟩, h7⟩, h8⟩, h9⟩, h10⟩, h11⟩ := h
  exact ⟨⟨⟨h1, h3⟩, h4⟩, h5⟩
def rq_vju (ρ : rq_R) (A : rq_A) (a : Int) : Int := if a = 0 then (rq_ju ρ A.2.1 (A.2.1 0 0).toNat).1 else if a = 1 then (rq_ju ρ A.2.1 (A.2.1 0 0).toNat).2.1 else rq_os ρ ((rq_wn ρ (rq_ju ρ A.2.1 (A.2.1 0 0).toNat).2.2 : Nat) : Int)
theorem L_judged (hI : rq_I c m) (a : Int) : rq (f_X11_judged 41 a m) (fun p => rq (f_X12_judged 248 a p.2) (fun q => q.1 = p.1 ∧ rq_I (c + 1) q.2)) := by
  obtain ⟨r, ρ, A, h⟩ := hI
  have vy := h.2.2.2.2.2.1.2.1
  have hv := h.1.2.2.1
  have v1 := vy.1
  have vj := rq_ju_v hv vy (A.2.1 0 0).toNat (by omega)
  by_cases ha : 0 ≤ a ∧ a ≤ 2
  · refine rq_pair (v := rq_vju ρ A a) (o2 := f_X12_judged 248 a) h ?_ (fun m1 h1 => ?_)
    · have hs := h.1.1
      unfold f_X11_judged j_X11_judged_131
      rw [if_neg (by omega), if_pos ha.2, q_tri hs, Option.bind_some, q_gd7 q_b115]
      refine rq_call (q_sclear hs q_b115) ?_
      rintro m2 ⟨sc, f2⟩
      have f2 : rq_fr rq_WQ m m2 := f2.mono (fun _ _ q => rq_wS_B (rq_WQ_115 q))
      have h2 := rq_J_fr h f2 (Nat.le_refl c)
      refine rq_call (q_judge h2.1 h2.2.2.1.1 h2.2.2.2.1.2.1 vy sc a) ?_
      rintro ⟨x1, x2, m3⟩ ⟨e1, e2, sc3, f3⟩
      dsimp only at e1 e2 sc3 f3 ⊢
      have f3 : rq_fr rq_WQ m2 m3 := f3.mono (fun _ _ q => rq_WQ_115 q)
      have h3 := rq_J_fr h2 f3 (Nat.le_refl c)
      unfold rq_vju
      by_cases z0 : a = 0
      · rw [if_pos z0, if_pos z0]
        exact rq_some.mpr ⟨e1, f2.trans f3⟩
      · rw [if_neg z0, if_neg z0]
        by_cases z1 : a = 1
        · rw [if_pos z1, if_pos z1]
          exact rq_some.mpr ⟨e2, f2.trans f3⟩
        · rw [if_neg z1, if_neg z1]
          simp only [q_told h3, Option.bind_some, q_tri h3.1.1, q_gd7 q_b115, q_worn h3.1 ⟨q_b115, sc3, vj.1⟩, q_gd4 h3.1, q_officeOfAll h3.1]
          exact rq_some.mpr ⟨rfl, f2.trans f3⟩
    · obtain ⟨m2, e2, h2, f2⟩ := q_thr h1 0
      unfold f_X12_judged j_X12_judged_144
      rw [e2, Option.bind_some, q_withinT ha.1 ha.2, Option.bind_some, if_neg (by decide), q_gfr, Option.bind_some, q_gfr, Option.bind_some]
      have hs2 := h2.1.1
      refine rq_call (q_copies 285 286 0 0 13 13 _ _ 0 0 (pt_248_50 hs2) (pt_248_51 hs2) rfl rfl kd_285 ln_285 (by decide) kd_286 ln_286 (by decide) (by decide) (by decide) (by decide)) ?_
      rintro m3 ⟨c3, r3⟩
      have f3 : rq_fr rq_WQ m2 m3 := r3.mono (fun k j q => by
        have q := rq_WQ_R q
        unfold rq_WR at q
        unfold rq_row
        simp only [Bool.or_eq_false_iff, Bool.and_eq_false_iff, beq_eq_false_iff_ne, decide_eq_false_iff_not] at q ⊢
        omega)
      have h3 := rq_J_fr h2 f3 (Nat.le_refl c)
      refine rq_call (q_fresh h3.1.1) ?_
      rintro m4 ⟨s4, r4⟩
      have f4 : rq_fr rq_wR m3 m4 := r4.mono (fun k j q => by
        unfold rq_wR at q
        unfold rq_row
        simp only [Bool.or_eq_false_iff, Bool.and_eq_false_iff, beq_eq_false_iff_ne] at q ⊢
        omega)
      have hD4 := rq_D_wR h3.2.1 f4
      have hy4 : rq_yr 0 A.2.1 m4 := rq_yr_fr h3.2.2.2.2.1.2.1 (fun b j q1 q2 => f4 b j (by
        unfold rq_wR rq_wF
        simp only [Bool.or_eq_false_iff, Bool.and_eq_false_iff, beq_eq_false_iff_ne, decide_eq_false_iff_not]
        omega))
      refine rq_call (q_rjudge hD4 hy4 vy s4 a) ?_
      rintro ⟨x1, x2, m5⟩ ⟨e1, e2', sr5, f5⟩
      dsimp only at e1 e2' sr5 f5 ⊢
      have hD5 := rq_D_wR hD4 f5
      have hs5 := hD5.1
      rw [q_onHeads hD5 sr5 vj.1, Option.bind_some, q_rofficeOf hD5, Option.bind_some, q_gfr, Option.bind_some, q_gfr, Option.bind_some]
      refine rq_call (q_copies 286 285 0 0 13 13 _ _ 0 0 (pt_248_51 hs5) (pt_248_50 hs5) rfl rfl kd_286 ln_286 (by decide) kd_285 ln_285 (by decide) (by decide) (by decide) (by decide)) ?_
      rintro m6 ⟨c6, r6⟩
      have ff : rq_fr rq_WQ m1 m6 := by
        refine f2.trans (fun k j q => ?_)
        have q' := rq_WQ_R q
        have q3 := f3 k j q
        by_cases k285 : k = 285
        · subst k285
          have j13 : j < 13 := by
            unfold rq_WR at q'
            simp only [Bool.or_eq_false_iff, Bool.and_eq_false_iff, beq_eq_false_iff_ne, decide_eq_false_iff_not] at q'
            omega
          have a6 := c6 j j13
          have a3 := c3 j j13
          rw [show 0 + j = j by omega] at a6 a3
          rw [a6, f5 286 j rfl, f4 286 j rfl, a3]
        · have w : rq_wR k j = false := by
            unfold rq_WR at q'
            unfold rq_wR
            simp only [Bool.or_eq_false_iff, beq_eq_false_iff_ne] at q' ⊢
            exact ⟨q'.1.1.1.1, k285⟩
          rw [r6 k j ?_, f5 k j w, f4 k j w, q3]
          unfold rq_row
          simp only [Bool.and_eq_false_iff, beq_eq_false_iff_ne]
          exact Or.inl (Or.inl k285)
      unfold rq_vju
      by_cases z0 : a = 0
      · rw [if_pos z0, if_pos z0]
        exact rq_some.mpr ⟨e1, ff⟩
      · rw [if_neg z0, if_neg z0]
        by_cases z1 : a = 1
        · rw [if_pos z1, if_pos z1]
          exact rq_some.mpr ⟨e2', ff⟩
        · rw [if_neg z1, if_neg z1]
          exact rq_some.mpr ⟨rfl, ff⟩
  · refine rq_pair (v := -2) (o2 := f_X12_judged 248 a) h ?_ (fun m1 h1 => ?_)
    · unfold f_X11_judged j_X11_judged_9
      by_cases z : a < 0
      · rw [if_pos z]; exact rq_some.mpr ⟨rfl, rq_fr.rfl⟩
      · rw [if_neg z, if_neg (by omega)]; exact rq_some.mpr ⟨rfl, rq_fr.rfl⟩
    · obtain ⟨m2, e2, h2, f2⟩ := q_thr h1 0
      unfold f_X12_judged
      rw [e2, Option.bind_some, q_withinF ha, Option.bind_some, if_pos rfl]
      exact rq_some.mpr ⟨rfl, f2⟩
end
