/-! Layer 3: put, off, mend, season, undo -/
section
variable {r : Nat} {ρ : rq_R} {A : rq_A} {c : Nat} {m : rt_M}
theorem rq_I0 (h : rq_J r ρ A c m) {m' : rt_M} (f : rq_fr rq_WQ m m') : rq_I (c + 1) m' := ⟨r, ρ, A, rq_J_fr h f (Nat.le_succ c)⟩
theorem L_put (hI : rq_I c m) (hc : c < 800000) (a b : Int) : rq (f_X11_put 41 a b m) (fun p => rq (f_X12_put 248 a b p.2) (fun q => q.1 = p.1 ∧ rq_I (c + 1) q.2)) := by
  obtain ⟨r, ρ, A, h⟩ := hI
  have hC := h.1
  have hs := hC.1
  have hb := hC.2.2.1.1
  have hS := q_Sc h
  by_cases hab : 0 ≤ a ∧ a < ρ.1 0 0 ∧ 0 ≤ b ∧ b < ρ.1 0 1
  · obtain ⟨w, rfl⟩ := Int.eq_ofNat_of_zero_le hab.1
    obtain ⟨k, rfl⟩ := Int.eq_ofNat_of_zero_le hab.2.2.1
    by_cases hcp : rq_cp ρ A.1 w k = 0
    · refine rq_pair (v := 0) (o2 := f_X12_put 248 w k) h ?_ (fun m1 h1 => ?_)
      · unfold f_X11_put
        simp only [q_now hs, q_nst hs, Option.bind_some, q_told h, q_gd7 q_b49]
        refine rq_call (q_canPut hC hS hab.2.1 hab.2.2.2) ?_
        rintro ⟨x, m1⟩ ⟨e, hf⟩
        dsimp only at e hf ⊢
        rw [e, hcp, if_pos rfl]
        exact rq_some.mpr ⟨rfl, rq_frE hf⟩
      · obtain ⟨m2, e2, h2, f2⟩ := q_thr h1 0
        unfold f_X12_put j_X12_put_30
        rw [e2, Option.bind_some, q_riwT h2.2.1 hab.1 hab.2.1, Option.bind_some, if_neg (by decide), q_rihT h2.2.1 hab.2.2.1 hab.2.2.2, Option.bind_some, if_neg (by decide)]
        refine rq_call (q_rcanPut h2.2.1 (q_Sr h2) h.2.2.2.2.2.1.1 hab.2.1 hab.2.2.2) ?_
        rintro ⟨x, m3⟩ ⟨e, hf⟩
        dsimp only at e hf ⊢
        rw [e, hcp, if_pos rfl]
        exact rq_some.mpr ⟨rfl, f2.trans (rq_frF hf)⟩
    · have hcp1 : rq_cp ρ A.1 w k = 1 := by unfold rq_cp at hcp ⊢; split at hcp <;> simp_all
      have h6 : w < 6 := by omega
      obtain ⟨n, p, U, hu1, hu2, hu3⟩ := h.2.2.2.2.2.2.2.2.1
      unfold f_X11_put
      simp only [q_now hs, q_nst hs, Option.bind_some, q_told h, q_gd7 q_b49]
      refine rq_call (q_canPut hC hS hab.2.1 hab.2.2.2) ?_
      rintro ⟨x, m1⟩ ⟨e, hf⟩
      dsimp only at e hf ⊢
      rw [e, if_neg hcp]
      have hJ1 : rq_J r ρ A c m1 := rq_J_fr h (rq_frE hf) (Nat.le_refl c)
      have hu1' : rq_uc U n p m1 := by
        refine rq_uc_fr hu1 (hf _ _ rfl) (hf _ _ rfl) (fun a j q1 q2 => hf a j ?_)
        unfold rq_wE
        simp only [Bool.or_eq_false_iff, beq_eq_false_iff_ne]
        omega
      refine rq_call (q_remember hJ1.1.1 (q_Sc hJ1).2.1 hu1') ?_
      rintro m2 ⟨g1, g2, g3⟩
      have fD2 : rq_fr rq_WD m m2 := (hf.mono (fun _ _ => rq_D_E)).trans (g3.mono (fun _ _ => rq_D_U))
      have hs2 := rq_st_fr hs fD2 rq_WD_st
      rw [q_now hs2, Option.bind_some, q_nst hs2, Option.bind_some, q_gd7 q_b49]
      refine rq_call (q_place hs2 (ρ := ρ) ⟨q_b49, g2, hS.2.2⟩ h6 (k : Int)) ?_
      rintro m3 ⟨p1, p2⟩
      have fD3 : rq_fr rq_WD m m3 := fD2.trans (p2.mono (fun _ _ => rq_D_S))
      have g1' : rq_uc (rq_cons A.1 U) (if n < 16 then n + 1 else 16) ((p + 1) % 16) m3 := by
        refine rq_uc_fr g1 (p2 _ _ (by decide)) (p2 _ _ (by decide)) (fun a j q1 q2 => p2 a j ?_)
        unfold rq_wS rq_wE
        simp only [Bool.or_eq_false_iff, Bool.and_eq_false_iff, beq_eq_false_iff_ne]
        omega
      have t3 : ∀ u, u < 6 → m3 60 u = A.2.2.2 u := by
        intro u hu
        rw [p2 60 u rfl, g3 60 u rfl, hf 60 u rfl]
        exact h.2.2.2.1.2.2.2 u hu
      refine rq_some.mpr ?_
      obtain ⟨hD, hSr, hT, hU⟩ := rq_half h fD3
      unfold f_X12_put
      rw [q_pfr, Option.bind_some]
      have f4 : rq_fr rq_WE m3 (rt_up m3 248 0 0) := rq_fr.rfl.up rfl
      have hD4 : rq_D ρ (rt_up m3 248 0 0) := rq_D_WS hD (rq_frR f4)
      have hS4 : rq_sr A.1 (rt_up m3 248 0 0) := fun i hi => hSr i hi
      rw [q_riwT hD4 hab.1 hab.2.1, Option.bind_some, if_neg (by decide), q_rihT hD4 hab.2.2.1 hab.2.2.2, Option.bind_some, if_neg (by decide)]
      refine rq_call (q_rcanPut hD4 hS4 h.2.2.2.2.2.1.1 hab.2.1 hab.2.2.2) ?_
      rintro ⟨x, m5⟩ ⟨e5, hf5⟩
      dsimp only at e5 hf5 ⊢
      rw [e5, if_neg hcp]
      have f5 : rq_fr rq_WE m3 m5 := f4.trans (hf5.mono (fun _ _ => rq_E_F))
      have hD5 : rq_D ρ m5 := rq_D_WS hD (rq_frR f5)
      refine rq_call (q_holds hD5.1 (rq_sr_wF hS4 hf5) hu1.1 (rq_ur_fr (hU U n hu2) (by rw [hf5 248 55 rfl]; rfl) (fun j => by rw [hf5 288 j rfl]; rfl))) ?_
      rintro m6 ⟨v1, v2, v3⟩
      have f6 : rq_fr rq_WE m3 m6 := f5.trans (v3.mono (fun _ _ => rq_E_V))
      have hs6 := rq_st_fr hD.1 f6 rq_WE_st
      rw [q_gfr, Option.bind_some, rq_1n (by omega), q_s8 (k := 285) _ 13 (pt_248_50 hs6) kd_285 ln_285 (by omega), Option.bind_some]
      refine rq_some.mpr ⟨rfl, ?_⟩
      refine rq_deed h fD3 (f6.up (by unfold rq_WE; simp)) p1 g1' t3 (rq_sr_at v2) (rq_ur_fr v1 rfl (fun j => rfl)) ?_ (rq_vs_at1 hS.2.2 hab.2.1 h6 (by omega) hab.2.2.2) h.2.2.2.2.2.1.2.2.2 ?_ (rq_uv_cons hu3 hS.2.2 h.2.2.2.2.2.2.1)
      · intro u hu
        show m6 284 u = _
        rw [v3 284 u rfl, hf5 284 u rfl]
        exact hT u hu
      · have := h.2.2.2.2.2.2.1
        unfold rq_at
        rw [if_neg (by omega)]
        omega
  · refine rq_pair (v := 0) (o2 := f_X12_put 248 a b) h ?_ (fun m1 h1 => ?_)
    · unfold f_X11_put
      simp only [q_now hs, q_nst hs, Option.bind_some, q_told h, q_gd7 q_b49, q_canPut0 hC hab]
      rw [if_pos trivial]
      exact rq_some.mpr ⟨rfl, rq_fr.rfl⟩
    · obtain ⟨m2, e2, h2, f2⟩ := q_thr h1 0
      unfold f_X12_put j_X12_put_30
      rw [e2, Option.bind_some]
      by_cases ha : 0 ≤ a ∧ a < ρ.1 0 0
      · rw [q_riwT h2.2.1 ha.1 ha.2, Option.bind_some, if_neg (by decide), q_rihF h2.2.1 (by omega), Option.bind_some, if_pos rfl]
        exact rq_some.mpr ⟨rfl, f2⟩
      · rw [q_riwF h2.2.1 ha, Option.bind_some, if_pos rfl]
        exact rq_some.mpr ⟨rfl, f2⟩
theorem L_off (hI : rq_I c m) (a : Int) : rq (f_X11_off 41 a m) (fun p => rq (f_X12_off 248 a p.2) (fun q => q.1 = p.1 ∧ rq_I (c + 1) q.2)) := by
  obtain ⟨r, ρ, A, h⟩ := hI
  have hC := h.1
  have hs := hC.1
  have hb := hC.2.2.1.1
  have hS := q_Sc h
  by_cases ha : 0 ≤ a ∧ a < ρ.1 0 0 ∧ A.1 (1 + a.toNat) ≠ -1
  · obtain ⟨w, rfl⟩ := Int.eq_ofNat_of_zero_le ha.1
    simp only [Int.toNat_natCast] at ha
    have h6 : w < 6 := by omega
    have hw := (hS.2.2.2.2 w h6).1
    obtain ⟨n, p, U, hu1, hu2, hu3⟩ := h.2.2.2.2.2.2.2.2.1
    unfold f_X11_off
    simp only [q_now hs, q_nst hs, Option.bind_some, q_told h, q_gd7 q_b49, q_canTakeOff hC hS, Int.toNat_natCast]
    rw [if_pos ha, if_neg (by decide)]
    refine rq_call (q_remember hs hS.2.1 hu1) ?_
    rintro m2 ⟨g1, g2, g3⟩
    have fD2 : rq_fr rq_WD m m2 := g3.mono (fun _ _ => rq_D_U)
    have hs2 := rq_st_fr hs fD2 rq_WD_st
    have hS2 : rq_Sc 49 ρ A.1 m2 := ⟨q_b49, g2, hS.2.2⟩
    simp only [q_now hs2, q_nst hs2, Option.bind_some, q_gd7 q_b49, q_headUnder hs2 hS2 h6]
    refine rq_call (q_place hs2 hS2 h6 (-1)) ?_
    rintro m3 ⟨p1, p2⟩
    have fD3 : rq_fr rq_WD m m3 := fD2.trans (p2.mono (fun _ _ => rq_D_S))
    have g1' : rq_uc (rq_cons A.1 U) (if n < 16 then n + 1 else 16) ((p + 1) % 16) m3 := by
      refine rq_uc_fr g1 (p2 _ _ (by decide)) (p2 _ _ (by decide)) (fun a j q1 q2 => p2 a j ?_)
      unfold rq_wS rq_wE
      simp only [Bool.or_eq_false_iff, Bool.and_eq_false_iff, beq_eq_false_iff_ne]
      omega
    have t3 : ∀ u, u < 6 → m3 60 u = A.2.2.2 u := by
      intro u hu
      rw [p2 60 u rfl, g3 60 u rfl]
      exact h.2.2.2.1.2.2.2 u hu
    refine rq_some.mpr ?_
    obtain ⟨hD, hSr, hT, hU⟩ := rq_half h fD3
    unfold f_X12_off
    rw [q_pfr, Option.bind_some]
    have f4 : rq_fr rq_WE m3 (rt_up m3 248 0 0) := rq_fr.rfl.up rfl
    have hD4 : rq_D ρ (rt_up m3 248 0 0) := rq_D_WS hD (rq_frR f4)
    have hS4 : rq_sr A.1 (rt_up m3 248 0 0) := fun i hi => hSr i hi
    rw [q_riwT hD4 ha.1 ha.2.1, Option.bind_some, if_neg (by decide), q_gfr, Option.bind_some, q_ron hD4.1 hS4 h6, Option.bind_some, if_pos (by omega)]
    refine rq_call (q_holds hD4.1 hS4 hu1.1 (rq_ur_fr (hU U n hu2) rfl (fun j => rfl))) ?_
    rintro m6 ⟨v1, v2, v3⟩
    have f6 : rq_fr rq_WE m3 m6 := f4.trans (v3.mono (fun _ _ => rq_E_V))
    have hs6 := rq_st_fr hD.1 f6 rq_WE_st
    rw [q_gfr, Option.bind_some, q_ron hs6 v2 h6, Option.bind_some, Option.bind_some, rq_1n (by omega), q_s8 (k := 285) _ 13 (pt_248_50 hs6) kd_285 ln_285 (by omega), Option.bind_some]
    refine rq_some.mpr ⟨rfl, ?_⟩
    refine rq_deed h fD3 (f6.up (by unfold rq_WE; simp)) p1 g1' t3 (rq_sr_at v2) (rq_ur_fr v1 rfl (fun j => rfl)) ?_ (rq_vs_at1 hS.2.2 ha.2.1 h6 (by decide) (by omega)) h.2.2.2.2.2.1.2.2.2 ?_ (rq_uv_cons hu3 hS.2.2 h.2.2.2.2.2.2.1)
    · intro u hu
      show m6 284 u = _
      rw [v3 284 u rfl]
      exact hT u hu
    · have := h.2.2.2.2.2.2.1
      unfold rq_at
      rw [if_neg (by omega)]
      omega
  · refine rq_pair (v := -1) (o2 := f_X12_off 248 a) h ?_ (fun m1 h1 => ?_)
    · unfold f_X11_off
      simp only [q_now hs, q_nst hs, Option.bind_some, q_told h, q_gd7 q_b49, q_canTakeOff hC hS]
      rw [if_neg ha, if_pos rfl]
      exact rq_some.mpr ⟨rfl, rq_fr.rfl⟩
    · obtain ⟨m2, e2, h2, f2⟩ := q_thr h1 0
      unfold f_X12_off j_X12_off_24
      rw [e2, Option.bind_some]
      by_cases ha1 : 0 ≤ a ∧ a < ρ.1 0 0
      · obtain ⟨w, rfl⟩ := Int.eq_ofNat_of_zero_le ha1.1
        simp only [Int.toNat_natCast] at ha
        have e : A.1 (1 + w) = -1 := Classical.byContradiction (fun z => ha ⟨ha1.1, ha1.2, z⟩)
        rw [q_riwT h2.2.1 ha1.1 ha1.2, Option.bind_some, if_neg (by decide), q_gfr, Option.bind_some, q_ron h2.2.1.1 (q_Sr h2) (by omega), Option.bind_some, if_neg (by omega)]
        exact rq_some.mpr ⟨rfl, f2⟩
      · rw [q_riwF h2.2.1 ha1, Option.bind_some, if_pos rfl]
        exact rq_some.mpr ⟨rfl, f2⟩
theorem L_mend (hI : rq_I c m) (a : Int) : rq (f_X11_mend 41 a m) (fun p => rq (f_X12_mend 248 a p.2) (fun q => q.1 = p.1 ∧ rq_I (c + 1) q.2)) := by
  obtain ⟨r, ρ, A, h⟩ := hI
  have hC := h.1
  have hs := hC.1
  have hb := hC.2.2.1.1
  have hS := q_Sc h
  by_cases ha : 0 ≤ a ∧ a < ρ.1 0 0 ∧ A.1 (1 + a.toNat) = -1
  · obtain ⟨w, rfl⟩ := Int.eq_ofNat_of_zero_le ha.1
    simp only [Int.toNat_natCast] at ha
    have h6 : w < 6 := by omega
    obtain ⟨n, p, U, hu1, hu2, hu3⟩ := h.2.2.2.2.2.2.2.2.1
    unfold f_X11_mend
    simp only [q_now hs, q_nst hs, Option.bind_some, q_told h, q_gd7 q_b49, q_canMend hC hS, Int.toNat_natCast]
    rw [if_pos ha, if_neg (by decide)]
    refine rq_call (q_remember hs hS.2.1 hu1) ?_
    rintro m2 ⟨g1, g2, g3⟩
    have fD2 : rq_fr rq_WD m m2 := g3.mono (fun _ _ => rq_D_U)
    have hs2 := rq_st_fr hs fD2 rq_WD_st
    have hS2 : rq_Sc 49 ρ A.1 m2 := ⟨q_b49, g2, hS.2.2⟩
    simp only [q_now hs2, q_nst hs2, Option.bind_some, q_gd7 q_b49, q_wearOf hs2 hS2 h6]
    refine rq_call (q_makeNew hs2 hS2 h6) ?_
    rintro m3 ⟨p1, p2⟩
    have fD3 : rq_fr rq_WD m m3 := fD2.trans (p2.mono (fun _ _ => rq_D_S))
    have g1' : rq_uc (rq_cons A.1 U) (if n < 16 then n + 1 else 16) ((p + 1) % 16) m3 := by
      refine rq_uc_fr g1 (p2 _ _ (by decide)) (p2 _ _ (by decide)) (fun a j q1 q2 => p2 a j ?_)
      unfold rq_wS rq_wE
      simp only [Bool.or_eq_false_iff, Bool.and_eq_false_iff, beq_eq_false_iff_ne]
      omega
    have t3 : ∀ u, u < 6 → m3 60 u = A.2.2.2 u := by
      intro u hu
      rw [p2 60 u rfl, g3 60 u rfl]
      exact h.2.2.2.1.2.2.2 u hu
    refine rq_some.mpr ?_
    obtain ⟨hD, hSr, hT, hU⟩ := rq_half h fD3
    unfold f_X12_mend
    rw [q_pfr, Option.bind_some]
    have f4 : rq_fr rq_WE m3 (rt_up m3 248 0 0) := rq_fr.rfl.up rfl
    have hD4 : rq_D ρ (rt_up m3 248 0 0) := rq_D_WS hD (rq_frR f4)
    have hS4 : rq_sr A.1 (rt_up m3 248 0 0) := fun i hi => hSr i hi
    rw [q_riwT hD4 ha.1 ha.2.1, Option.bind_some, if_neg (by decide), q_gfr, Option.bind_some, q_ron hD4.1 hS4 h6, Option.bind_some, if_pos (by omega)]
    refine rq_call (q_holds hD4.1 hS4 hu1.1 (rq_ur_fr (hU U n hu2) rfl (fun j => rfl))) ?_
    rintro m6 ⟨v1, v2, v3⟩
    have f6 : rq_fr rq_WE m3 m6 := f4.trans (v3.mono (fun _ _ => rq_E_V))
    have hs6 := rq_st_fr hD.1 f6 rq_WE_st
    rw [q_gfr, Option.bind_some, q_rwe hs6 v2 h6, Option.bind_some, Option.bind_some, rq_7n (by omega), q_s8 (k := 285) _ 13 (pt_248_50 hs6) kd_285 ln_285 (by omega), Option.bind_some]
    refine rq_some.mpr ⟨rfl, ?_⟩
    refine rq_deed h fD3 (f6.up (by unfold rq_WE; simp)) p1 g1' t3 (rq_sr_at v2) (rq_ur_fr v1 rfl (fun j => rfl)) ?_ (rq_vs_at7 hS.2.2 ha.2.1 h6) h.2.2.2.2.2.1.2.2.2 ?_ (rq_uv_cons hu3 hS.2.2 h.2.2.2.2.2.2.1)
    · intro u hu
      show m6 284 u = _
      rw [v3 284 u rfl]
      exact hT u hu
    · have := h.2.2.2.2.2.2.1
      unfold rq_at
      rw [if_neg (by omega)]
      omega
  · refine rq_pair (v := -1) (o2 := f_X12_mend 248 a) h ?_ (fun m1 h1 => ?_)
    · unfold f_X11_mend
      simp only [q_now hs, q_nst hs, Option.bind_some, q_told h, q_gd7 q_b49, q_canMend hC hS]
      rw [if_neg ha, if_pos rfl]
      exact rq_some.mpr ⟨rfl, rq_fr.rfl⟩
    · obtain ⟨m2, e2, h2, f2⟩ := q_thr h1 0
      unfold f_X12_mend j_X12_mend_24
      rw [e2, Option.bind_some]
      by_cases ha1 : 0 ≤ a ∧ a < ρ.1 0 0
      · obtain ⟨w, rfl⟩ := Int.eq_ofNat_of_zero_le ha1.1
        simp only [Int.toNat_natCast] at ha
        have e : A.1 (1 + w) ≠ -1 := fun z => ha ⟨ha1.1, ha1.2, z⟩
        have hw := (hS.2.2.2.2 w (by omega)).1
        rw [q_riwT h2.2.1 ha1.1 ha1.2, Option.bind_some, if_neg (by decide), q_gfr, Option.bind_some, q_ron h2.2.1.1 (q_Sr h2) (by omega), Option.bind_some, if_neg (by omega)]
        exact rq_some.mpr ⟨rfl, f2⟩
      · rw [q_riwF h2.2.1 ha1, Option.bind_some, if_pos rfl]
        exact rq_some.mpr ⟨rfl, f2⟩
def rq_D0 : Nat → Int := fun _ => -1
theorem rq_vd0 : rq_vd ρ rq_D0 := fun w _ => ⟨by unfold rq_D0; decide, by unfold rq_D0; decide, fun _ => rfl⟩
theorem L_season (hI : rq_I c m) (hc : c < 800000) : rq (f_X11_season 41 m) (fun p => rq (f_X12_season 248 p.2) (fun q => q.1 = p.1 ∧ rq_I (c + 1) q.2)) := by
  obtain ⟨r, ρ, A, h⟩ := hI
  have hC := h.1
  have hs := hC.1
  have hS := q_Sc h
  have hcc := h.2.2.2.2.2.2.1
  obtain ⟨n, p, U, hu1, hu2, hu3⟩ := h.2.2.2.2.2.2.2.2.1
  unfold f_X11_season
  refine rq_call (q_remember hs hS.2.1 hu1) ?_
  rintro m2 ⟨g1, g2, g3⟩
  have fD2 : rq_fr rq_WD m m2 := g3.mono (fun _ _ => rq_D_U)
  have hs2 := rq_st_fr hs fD2 rq_WD_st
  rw [q_now hs2, Option.bind_some, q_gd0]
  refine rq_call (q_forgets hs2) ?_
  rintro m3 ⟨k1, k2⟩
  have fD3 : rq_fr rq_WD m m3 := fD2.trans (k2.mono (fun _ _ => rq_D_60))
  have hs3 := rq_st_fr hs fD3 rq_WD_st
  have hC3 := rq_C_WS hC (rq_frD fD3)
  have hS3 : rq_Sc 49 ρ A.1 m3 := ⟨q_b49, rq_sc_fr g2 (k2 _ _ rfl) (fun w _ => k2 _ _ rfl) (fun w _ => k2 _ _ rfl), hS.2.2⟩
  have ht3 : rt_gf 11 7 41 m3 = some (r : Int) := by rw [q_g11, fD3 41 7 rfl, h.2.2.1.1]
  rw [q_now hs3, Option.bind_some, q_nst hs3, Option.bind_some, ht3, Option.bind_some, q_gd7 q_b49]
  refine rq_call (q_pass hC3 hS3) ?_
  rintro ⟨x, m4⟩ ⟨e, p1, p2⟩
  dsimp only at e p1 p2 ⊢
  subst e
  have fD4 : rq_fr rq_WD m m4 := fD3.trans (p2.mono (fun _ _ => rq_D_S))
  have g1' : rq_uc (rq_cons A.1 U) (if n < 16 then n + 1 else 16) ((p + 1) % 16) m4 := by
    refine rq_uc_fr g1 (by rw [p2 _ _ (by decide), k2 _ _ rfl]) (by rw [p2 _ _ (by decide), k2 _ _ rfl]) (fun a j q1 q2 => ?_)
    rw [p2 a j ?_, k2 a j ?_]
    · unfold rq_row
      simp only [Bool.and_eq_false_iff, beq_eq_false_iff_ne, decide_eq_false_iff_not]
      omega
    · unfold rq_wS rq_wE
      simp only [Bool.or_eq_false_iff, Bool.and_eq_false_iff, beq_eq_false_iff_ne]
      omega
  refine rq_some.mpr ?_
  obtain ⟨hD, hSr, hT, hU⟩ := rq_half h fD4
  unfold f_X12_season
  rw [q_pfr, Option.bind_some]
  have f5 : rq_fr rq_WE m4 (rt_up m4 248 0 0) := rq_fr.rfl.up rfl
  have hs5 := rq_st_fr hD.1 f5 rq_WE_st
  refine rq_call (q_holds hs5 (S := A.1) (fun i hi => hSr i hi) hu1.1 (rq_ur_fr (hU U n hu2) rfl (fun j => rfl))) ?_
  rintro m6 ⟨v1, v2, v3⟩
  have f6 : rq_fr rq_WE m4 m6 := f5.trans (v3.mono (fun _ _ => rq_E_V))
  refine rq_call (q_rforgets (rq_st_fr hD.1 f6 rq_WE_st)) ?_
  rintro m7 ⟨t1, t2⟩
  have f7 : rq_fr rq_WE m4 m7 := f6.trans (t2.mono (fun _ _ => rq_E_284))
  have hD7 := rq_D_WS hD (rq_frR f7)
  refine rq_call (q_passes hD7 (S := A.1) (fun i hi => by rw [t2 285 i rfl]; exact v2 i hi) hS.2.2) ?_
  rintro ⟨y, m8⟩ ⟨e8, z1, z2⟩
  dsimp only at e8 z1 z2 ⊢
  refine rq_some.mpr ⟨e8, ?_⟩
  refine rq_deed h fD4 (f7.trans (z2.mono (fun _ _ => rq_E_R))) p1 g1' (D' := rq_D0) ?_ z1 (rq_ur_fr v1 ?_ (fun j => ?_)) ?_ (rq_vs_ps hC.2.2.1 hS.2.2 (by omega)) rq_vd0 ?_ (rq_uv_cons hu3 hS.2.2 hcc)
  · intro u hu; rw [p2 60 u rfl]; exact k1 u hu
  · show m8 248 55 = m6 248 55
    rw [z2 248 55 rfl, t2 248 55 rfl]
  · show m8 288 j = m6 288 j
    rw [z2 288 j rfl, t2 288 j rfl]
  · intro u hu
    show m8 284 u = -1
    rw [z2 284 u rfl]; exact t1 u hu
  · show A.1 0 + 1 ≤ _; omega
theorem L_undo (hI : rq_I c m) : rq (f_X11_undo 41 m) (fun p => rq (f_X12_undo 248 p.2) (fun q => q.1 = p.1 ∧ rq_I (c + 1) q.2)) := by
  obtain ⟨r, ρ, A, h⟩ := hI
  have hC := h.1
  have hs := hC.1
  have hS := q_Sc h
  obtain ⟨n, p, U, hu1, hu2, hu3⟩ := h.2.2.2.2.2.2.2.2.1
  obtain ⟨u1, u2, u3, u4, u5⟩ := hu1
  unfold f_X11_undo
  rw [q_g11, Option.bind_some, u3]
  by_cases hn : n = 0
  · subst hn
    rw [if_neg (by decide)]
    refine rq_some.mpr ?_
    obtain ⟨m2, e2, h2, f2⟩ := q_thr h 0
    unfold f_X12_undo
    rw [e2, Option.bind_some, q_gfr, Option.bind_some, f2 248 55 (by decide), hu2.1, if_pos (show ((0 : Nat) : Int) = 0 from rfl)]
    exact rq_some.mpr ⟨rfl, rq_I0 h f2⟩
  · have n0 : 0 < n := by omega
    have hq := u5 0 n0
    have hv0 := hu3 0 n0
    have hpn : ∃ q : Nat, q < 16 ∧ (p + 15 - 0) % 16 = q ∧ f_J9_floorMod_7cf53 ((p : Int) - 1) 16 = fun _ => some (q : Int) := by
      refine ⟨(p + 15) % 16, Nat.mod_lt _ (by decide), by rw [Nat.sub_zero], ?_⟩
      funext m
      by_cases p0 : p = 0
      · subst p0; rfl
      · rw [q_floorMod (by omega) (by omega) (by decide) (by decide)]
        congr 1
        omega
    obtain ⟨q, q16, qe, qf⟩ := hpn
    obtain ⟨b1, b2, b3⟩ := q_base q q16
    rw [qe] at hq
    rw [if_pos (by omega), Option.bind_some, rq_isub (x := (n : Int)) (by omega) (by omega), q_p11, Option.bind_some, q_g11, Option.bind_some, show rt_up m 41 5 ((n : Int) - 1) 41 6 = (p : Int) from u4, rq_isub (x := (p : Int)) (by omega) (by omega), qf, Option.bind_some, q_p11, Option.bind_some]
    generalize hm1 : rt_up (rt_up m 41 5 ((n : Int) - 1)) 41 6 (q : Int) = m1
    have fU : rq_fr rq_wU m m1 := by rw [← hm1]; exact (rq_fr.rfl.up rfl).up rfl
    have fne : ∀ a j, a ≠ 41 → m1 a j = m a j := by
      intro a j z
      rw [← hm1, q_up, if_neg (fun y => z y.1), q_up, if_neg (fun y => z y.1)]
    have e5 : m1 41 5 = ((n - 1 : Nat) : Int) := by rw [← hm1, q_up, if_neg (by omega), q_up, if_pos ⟨rfl, rfl⟩]; omega
    have e6 : m1 41 6 = (q : Int) := by rw [← hm1, q_up, if_pos ⟨rfl, rfl⟩]
    have fD1 : rq_fr rq_WD m m1 := fU.mono (fun _ _ => rq_D_U)
    have hs1 := rq_st_fr hs fD1 rq_WD_st
    have e8 : rt_al 8 62 (q : Int) m1 = some ((200 + 3 * q : Nat) : Int) := by
      have := q_al (m := m1) kd_62 ln_62 q16
      rw [q_pt hs1 b2] at this; exact this
    rw [q_now hs1, Option.bind_some, q_nst hs1, Option.bind_some, q_g11, Option.bind_some, q_g11, Option.bind_some, pt_41_4 hs1, e6, e8, Option.bind_some, q_gd7 q_b49]
    have hq1 : rq_sc (200 + 3 * q) (U 0) m1 := rq_sc_fr hq (fne _ _ (by omega)) (fun w _ => fne _ _ (by omega)) (fun w _ => fne _ _ (by omega))
    refine rq_call (q_scopy hs1 q_b49 b1 (fun z => b3 z.symm) hq1) ?_
    rintro m2 ⟨g1, g2⟩
    have fD2 : rq_fr rq_WD m m2 := fD1.trans (g2.mono (fun a j z => by
      have := rq_D_S z
      unfold rq_wS at this
      unfold rq_wB
      simp only [Bool.or_eq_false_iff] at this ⊢
      exact ⟨⟨this.1.1.2, this.1.2⟩, this.2⟩))
    have hs2 := rq_st_fr hs fD2 rq_WD_st
    rw [q_now hs2, Option.bind_some, q_gd0]
    refine rq_call (q_forgets hs2) ?_
    rintro m3 ⟨k1, k2⟩
    have fD3 : rq_fr rq_WD m m3 := fD2.trans (k2.mono (fun _ _ => rq_D_60))
    have lo3 : ∀ a j, 200 ≤ a → a < 248 → m3 a j = m1 a j := by
      intro a j z1 z2
      rw [k2 a j ?_, g2 a j ?_]
      · unfold rq_wB
        simp only [Bool.or_eq_false_iff, Bool.and_eq_false_iff, beq_eq_false_iff_ne]
        omega
      · unfold rq_row
        simp only [Bool.and_eq_false_iff, beq_eq_false_iff_ne, decide_eq_false_iff_not]
        omega
    refine rq_some.mpr ?_
    obtain ⟨hD, hSr, hT, hU⟩ := rq_half h fD3
    have hur := hU U n hu2
    unfold f_X12_undo
    rw [q_pfr, Option.bind_some, q_gfr, Option.bind_some, show rt_up m3 248 0 0 248 55 = (n : Int) from hur.1, if_neg (by omega), Option.bind_some, rq_isub (by omega) (by omega), q_pfr, Option.bind_some]
    generalize hm4 : rt_up (rt_up m3 248 0 0) 248 55 ((n : Int) - 1) = m4
    have f4 : rq_fr rq_WE m3 m4 := by rw [← hm4]; exact (rq_fr.rfl.up rfl).up rfl
    have hs4 := rq_st_fr hD.1 f4 rq_WE_st
    have f55 : m4 248 55 = ((n - 1 : Nat) : Int) := by rw [← hm4, q_up, if_pos ⟨rfl, rfl⟩]; omega
    have f288 : ∀ j, m4 288 j = m3 288 j := by intro j; rw [← hm4]; rfl
    rw [q_gfr, Option.bind_some, q_gfr, Option.bind_some, q_gfr, Option.bind_some, f55, rq_imul (by omega) (by omega)]
    refine rq_call (q_copies 288 285 (13 * (n - 1)) 0 208 13 _ _ _ 0 (pt_248_53 hs4) (pt_248_50 hs4) (by omega) rfl kd_288 ln_288 (by omega) kd_285 ln_285 (by decide) (by decide) (by decide) (by decide)) ?_
    rintro m5 ⟨y1, y2⟩
    have f5 : rq_fr rq_WE m3 m5 := f4.trans (y2.mono (fun a j z => by
      have := rq_E_285 z
      unfold rq_row
      simp only [Bool.and_eq_false_iff]
      exact Or.inl (Or.inl this)))
    refine rq_call (q_rforgets (rq_st_fr hD.1 f5 rq_WE_st)) ?_
    rintro m6 ⟨t1, t2⟩
    have f6 : rq_fr rq_WE m3 m6 := f5.trans (t2.mono (fun _ _ => rq_E_284))
    refine rq_some.mpr ⟨rfl, ?_⟩
    refine rq_deed h fD3 f6 (S' := U 0) (D' := rq_D0) (U' := fun i => U (i + 1)) (n' := n - 1) (p' := q) ?_ ⟨by omega, q16, ?_, ?_, fun i hi => ?_⟩ k1 (fun i hi => ?_) ⟨?_, fun i hi j hj => ?_⟩ t1 hv0.1 rq_vd0 (by have := hv0.2; omega) (fun i hi => ?_)
    · exact rq_sc_fr g1 (k2 _ _ rfl) (fun w _ => k2 _ _ rfl) (fun w _ => k2 _ _ rfl)
    · rw [k2 _ _ rfl, g2 _ _ rfl]; exact e5
    · rw [k2 _ _ rfl, g2 _ _ rfl]; exact e6
    · have h1 := u5 (i + 1) (by omega)
      have hlt := Nat.mod_lt (q + 15 - i) (show 0 < 16 by decide)
      rw [show (p + 15 - (i + 1)) % 16 = (q + 15 - i) % 16 by omega] at h1
      exact rq_sc_fr h1 (by rw [lo3 _ _ (by omega) (by omega)]; exact fne _ _ (by omega)) (fun w _ => by rw [lo3 _ _ (by omega) (by omega)]; exact fne _ _ (by omega)) (fun w _ => by rw [lo3 _ _ (by omega) (by omega)]; exact fne _ _ (by omega))
    · have := y1 i hi
      rw [show 0 + i = i by omega] at this
      show m6 285 i = _
      rw [t2 285 i rfl, this, f288]
      have := hur.2 0 n0 i hi
      rw [show 13 * (n - 1 - 0) + i = 13 * (n - 1) + i by omega] at this
      exact this
    · show m6 248 55 = _
      rw [t2 248 55 rfl, y2 248 55 rfl]; exact f55
    · show m6 288 (13 * (n - 1 - 1 - i) + j) = U (i + 1) j
      rw [t2 288 _ rfl, y2 288 _ rfl, f288]
      have := hur.2 (i + 1) (by omega) j hj
      rw [show 13 * (n - 1 - 1 - i) + j = 13 * (n - 1 - (i + 1)) + j by omega]
      exact this
    · have := hu3 (i + 1) (by omega)
      refine ⟨this.1, ?_⟩
      show U (i + 1) 0 ≤ _
      have := this.2
      omega
end
