/-! Layer 3: centuries -/
def rq_wG (k j : Nat) : Bool := rq_wR k j || (k == 248 && j == 71)
theorem rq_wG_st : (rq_P.all fun p => !(rq_wG p.1 p.2.1)) = true := by decide +kernel
theorem rq_wG_R {k j : Nat} (h : rq_wG k j = false) : rq_wR k j = false := by
  unfold rq_wG at h
  simp only [Bool.or_eq_false_iff] at h
  exact h.1
section
variable {r : Nat} {ρ : rq_R} {A : rq_A} {c : Nat} {m : rt_M} {S : rq_S} {d : Int}
theorem rq_D_wG {m' : rt_M} (h : rq_D ρ m) (k : rq_fr rq_wG m m') : rq_D ρ m' := by
  obtain ⟨hs, hv, hc⟩ := h
  refine ⟨rq_st_fr hs k rq_wG_st, hv, rq_rr_fr hc (fun a j h1 h2 => k a j ?_)⟩
  unfold rq_wG rq_wR rq_wF
  simp only [Bool.or_eq_false_iff, Bool.and_eq_false_iff, beq_eq_false_iff_ne, decide_eq_false_iff_not]
  omega
def rq_p2 (ρ : rq_R) (d : Int) (S : rq_S) : rq_S := if rq_dw (rq_p1 ρ d S).1 5 = 0 then rq_fv ρ (rq_p1 ρ d S).2 else (rq_p1 ρ d S).2
def rq_ce (ρ : rq_R) (d : Int) (S : rq_S) : Nat → Int × Int × Int × rq_S
  | 0 => (0, 0, d, S)
  | i + 1 => ((rq_ce ρ d S i).1 + rq_os ρ ((rq_wn ρ (rq_ps ρ (rq_p2 ρ (rq_ce ρ d S i).2.2.1 (rq_ce ρ d S i).2.2.2)) : Nat) : Int), (rq_ce ρ d S i).2.1 + rq_cm ρ (rq_p2 ρ (rq_ce ρ d S i).2.2.1 (rq_ce ρ d S i).2.2.2), rq_dx (rq_p1 ρ (rq_ce ρ d S i).2.2.1 (rq_ce ρ d S i).2.2.2).1, rq_ps ρ (rq_p2 ρ (rq_ce ρ d S i).2.2.1 (rq_ce ρ d S i).2.2.2))
theorem rq_p2_v (hv : rq_va ρ) (h : rq_vs ρ S) (h0 : 0 ≤ d) (h1 : d < 2147483648) : rq_vs ρ (rq_p2 ρ d S) ∧ rq_p2 ρ d S 0 = S 0 := by
  obtain ⟨a, b, -⟩ := rq_p1_v hv h h0 h1
  unfold rq_p2
  split
  · obtain ⟨e, f⟩ := rq_fv_v hv.1.2.2.1 a
    exact ⟨e, f.trans b⟩
  · exact ⟨a, b⟩
theorem rq_cm_b (hv : rq_va ρ) (S : rq_S) : 0 ≤ rq_cm ρ S ∧ rq_cm ρ S ≤ 6 := by
  have := rq_sum_b (f := fun w => if rq_fl ρ S w = true then (1 : Int) else 0) (c := 1) (by decide) (ρ.1 0 0).toNat (fun i _ => by split <;> decide)
  have hb := hv.1
  unfold rq_cm
  omega
theorem rq_ce_v (hv : rq_va ρ) (h : rq_vs ρ S) (h0 : 0 ≤ d) (h1 : d < 2147483648) (hs : S 0 < 899000) : ∀ i : Nat, i ≤ 100 → (0 ≤ (rq_ce ρ d S i).1 ∧ (rq_ce ρ d S i).1 ≤ 594 * i) ∧ (0 ≤ (rq_ce ρ d S i).2.1 ∧ (rq_ce ρ d S i).2.1 ≤ 6 * i) ∧ (0 ≤ (rq_ce ρ d S i).2.2.1 ∧ (rq_ce ρ d S i).2.2.1 < 2147483648) ∧ rq_vs ρ (rq_ce ρ d S i).2.2.2 ∧ (rq_ce ρ d S i).2.2.2 0 = S 0 + i
  | 0, _ => ⟨⟨(by show (0 : Int) ≤ 0; decide), (by show (0 : Int) ≤ 0; decide)⟩, ⟨(by show (0 : Int) ≤ 0; decide), (by show (0 : Int) ≤ 0; decide)⟩, ⟨h0, h1⟩, h, (by show S 0 = S 0 + 0; omega)⟩
  | i + 1, hi => by
    obtain ⟨a, b, e, f, g⟩ := rq_ce_v hv h h0 h1 hs i (by omega)
    obtain ⟨k, l⟩ := rq_p2_v hv f e.1 e.2
    have o := rq_os_le hv ((rq_wn ρ (rq_ps ρ (rq_p2 ρ (rq_ce ρ d S i).2.2.1 (rq_ce ρ d S i).2.2.2)) : Nat) : Int)
    have q := rq_cm_b hv (rq_p2 ρ (rq_ce ρ d S i).2.2.1 (rq_ce ρ d S i).2.2.2)
    have n := rq_dx_b (rq_p1 ρ (rq_ce ρ d S i).2.2.1 (rq_ce ρ d S i).2.2.2).1
    unfold rq_ce
    dsimp only
    refine ⟨⟨by omega, by omega⟩, ⟨by omega, by omega⟩, n, rq_vs_ps hv k (by omega), ?_⟩
    show (if 0 = 0 then rq_p2 ρ (rq_ce ρ d S i).2.2.1 (rq_ce ρ d S i).2.2.2 0 + 1 else _) = _
    rw [if_pos rfl]
    omega
theorem q_cent (h : rq_J r ρ A c m) (sc : rq_sc 115 S m) (hS : rq_vs ρ S) (hs0 : S 0 < 899000) (hd : m 41 13 = d) (h0 : 0 ≤ d) (h1 : d < 2147483648) (n : Nat) (hn : n ≤ 99) (a : Int) : rq (rt_it (b_X11_centuries_62 41 (n : Int) a) 4000 (0, 0, 0, m)) (fun e => e.1 = (rq_ce ρ d S n).1 ∧ e.2.1 = (rq_ce ρ d S n).2.1 ∧ rq_sc 115 (rq_ce ρ d S n).2.2.2 e.2.2 ∧ rq_fr rq_WQ m e.2.2) := by
  have hv := h.1.2.2.1
  refine rq_up (fun i s => s.2.2.1 = (i : Int) ∧ s.1 = (rq_ce ρ d S i).1 ∧ s.2.1 = (rq_ce ρ d S i).2.1 ∧ s.2.2.2 41 13 = (rq_ce ρ d S i).2.2.1 ∧ rq_sc 115 (rq_ce ρ d S i).2.2.2 s.2.2.2 ∧ rq_fr rq_WQ m s.2.2.2) n (by omega) ?_ ?_ (by exact ⟨rfl, rfl, rfl, hd, sc, rq_fr.rfl⟩)
  · rintro i ⟨x, y, t, mm⟩ hi ⟨e1, e2, e3, e4, sc1, hf⟩
    dsimp only at e1 e2 e3 e4 sc1 hf
    subst e1 e2 e3
    obtain ⟨v1, v2, v3, v4, v5⟩ := rq_ce_v hv hS h0 h1 hs0 i (by omega)
    have w := rq_p1_v hv v4 v3.1 v3.2
    have w2 := rq_p2_v hv v4 v3.1 v3.2
    have hJ1 := rq_J_fr h hf (Nat.le_refl c)
    have o := rq_os_le hv ((rq_wn ρ (rq_ps ρ (rq_p2 ρ (rq_ce ρ d S i).2.2.1 (rq_ce ρ d S i).2.2.2)) : Nat) : Int)
    have q := rq_cm_b hv (rq_p2 ρ (rq_ce ρ d S i).2.2.1 (rq_ce ρ d S i).2.2.2)
    unfold b_X11_centuries_62
    dsimp only
    rw [if_neg (by omega)]
    refine rq_call (q_dput hJ1 sc1 v4 e4 v3.1 v3.2) ?_
    rintro m1 ⟨d1, s1, f1⟩
    have hJ2 := rq_J_fr hJ1 f1 (Nat.le_refl c)
    refine rq_call (q_dfever hJ2 s1 w.1 d1 w.2.2.1 w.2.2.2) ?_
    rintro m2 ⟨d2, s2, f2⟩
    have hJ3 := rq_J_fr hJ2 f2 (Nat.le_refl c)
    have s2 : rq_sc 115 (rq_p2 ρ (rq_ce ρ d S i).2.2.1 (rq_ce ρ d S i).2.2.2) m2 := s2
    rw [q_tri hJ3.1.1, Option.bind_some, q_told hJ3, Option.bind_some, q_gd7 q_b115]
    refine rq_call (q_pass hJ3.1 ⟨q_b115, s2, w2.1⟩) ?_
    rintro ⟨p, m3⟩ ⟨e, s3, f3⟩
    dsimp only at e s3 f3 ⊢
    subst e
    have g3 : m3 41 13 = rq_dx (rq_p1 ρ (rq_ce ρ d S i).2.2.1 (rq_ce ρ d S i).2.2.2).1 := by rw [f3 41 13 rfl, d2]
    have f3 : rq_fr rq_WQ m2 m3 := f3.mono (fun _ _ => rq_WQ_115)
    have hJ4 := rq_J_fr hJ3 f3 (Nat.le_refl c)
    have vp : rq_vs ρ (rq_ps ρ (rq_p2 ρ (rq_ce ρ d S i).2.2.1 (rq_ce ρ d S i).2.2.2)) := rq_vs_ps hv w2.1 (by omega)
    simp only [q_told hJ4, Option.bind_some, q_tri hJ4.1.1, q_gd7 q_b115, q_worn hJ4.1 ⟨q_b115, s3, vp⟩, q_gd4 hJ4.1, q_officeOfAll hJ4.1]
    rw [rq_iadd (by omega) (by omega), rq_iadd (by omega) (by omega), rq_n1 (by omega)]
    exact rq_some.mpr (rq_inl ⟨rfl, rfl, rfl, g3, s3, ((hf.trans f1).trans f2).trans f3⟩)
  · rintro ⟨x, y, t, mm⟩ ⟨e1, e2, e3, e4, sc1, hf⟩
    dsimp only at e1 e2 e3 e4 sc1 hf
    unfold b_X11_centuries_62
    dsimp only
    rw [if_pos (by omega)]
    exact rq_some.mpr (rq_inre ⟨e2, e3, sc1, hf⟩)
theorem q_rfever (h : rq_D ρ m) (sr : rq_sr S m) (hv : rq_vs ρ S) : rq (f_X12_fever 248 m) (fun m1 => rq_sr (rq_fv ρ S) m1 ∧ rq_fr rq_wR m m1) := by
  have hb := h.2.1.1
  have hs := h.1
  unfold f_X12_fever
  refine rq_call (rq_up (Q := fun e => ∃ m', (e = .inl m' ∨ e = .inr m') ∧ rq_sr (rq_fv ρ S) m' ∧ rq_fr rq_wR m m') (fun i s => s.1 = (i : Int) ∧ s.2 = m ∧ ∀ j, j < i → rq_wo S ((j : Nat) : Int) = -1) (ρ.1 0 1).toNat (by omega) ?_ ?_ (by exact ⟨rfl, rfl, fun j hj => absurd hj (Nat.not_lt_zero _)⟩)) ?_
  · rintro i ⟨x, mm⟩ hi ⟨a1, a2, a3⟩
    dsimp only at a1 a2
    subst a1 a2
    unfold b_X12_fever_2
    simp only [q_gfr, Option.bind_some, q_rn1 h 1 rfl, q_rwigOn h sr hv]
    rw [if_neg (by omega)]
    have b := rq_wo_b S i
    by_cases y : rq_wo S (i : Int) = -1
    · rw [if_neg (by omega), rq_n1 (by omega)]
      refine rq_some.mpr (rq_inl ⟨rfl, rfl, fun j hj => ?_⟩)
      by_cases k : j = i
      · rw [k]; exact y
      · exact a3 j (by omega)
    · obtain ⟨w, hw⟩ := Int.eq_ofNat_of_zero_le (show 0 ≤ rq_wo S i by omega)
      have e : rq_fv ρ S = rq_at S (1 + w) (-1) := by
        unfold rq_fv
        rw [rq_fh_at (by omega) a3 y, if_neg (by omega), hw, Int.toNat_natCast]
      rw [if_pos (by omega), hw]
      refine rq_map.mpr ?_
      rw [q_s9 (k := 285) _ _ 13 (1 + w) (pt_248_50 hs) kd_285 ln_285 (rq_1n (by omega)) (by omega), Option.bind_some]
      refine rq_some.mpr (rq_inr ⟨_, Or.inr rfl, ?_, rq_fr.rfl.up rfl⟩)
      rw [e]
      intro j hj
      rw [q_up]
      unfold rq_at
      by_cases zz : j = 1 + w
      · rw [if_pos ⟨rfl, zz⟩, if_pos zz]
      · rw [if_neg (fun y => zz y.2), if_neg zz]; exact sr j hj
  · rintro ⟨x, mm⟩ ⟨a1, a2, a3⟩
    dsimp only at a1 a2
    subst a1 a2
    unfold b_X12_fever_2
    simp only [q_gfr, Option.bind_some, q_rn1 h 1 rfl]
    rw [if_pos (by omega)]
    refine rq_some.mpr (rq_inre ⟨mm, Or.inl rfl, ?_, rq_fr.rfl⟩)
    have : rq_fh ρ S = -1 := rq_fh_no (fun j hj => a3 j (by omega))
    unfold rq_fv
    rw [if_pos this]; exact sr
  · rintro e ⟨m', e', s', f'⟩
    rcases e' with rfl | rfl
    · exact rq_some.mpr ⟨s', f'⟩
    · exact rq_some.mpr ⟨s', f'⟩
theorem q_l58 (h : rq_D ρ m) (sr : rq_sr S m) (hv : rq_vs ρ S) (hd : m 248 71 = d) (h0 : 0 ≤ d) (h1 : d < 2147483648) : rq (j_X12_livesSeason_58 248 m) (fun p => p.1 = rq_cm ρ (if rq_dw d 5 = 0 then rq_fv ρ S else S) ∧ p.2 248 71 = rq_dx d ∧ rq_sr (rq_ps ρ (if rq_dw d 5 = 0 then rq_fv ρ S else S)) p.2 ∧ rq_fr rq_wG m p.2) := by
  unfold j_X12_livesSeason_58 j_X12_livesSeason_70
  rw [q_draws hd h0 h1 (by decide) (by decide), Option.bind_some]
  dsimp only
  have f1 : rq_fr rq_wG m (rt_up m 248 71 (rq_dx d)) := rq_fr.rfl.up rfl
  have e1 : rt_up m 248 71 (rq_dx d) 248 71 = rq_dx d := by rw [q_up, if_pos ⟨rfl, rfl⟩]
  have s1 : rq_sr S (rt_up m 248 71 (rq_dx d)) := fun j hj => by rw [q_up, if_neg (by omega)]; exact sr j hj
  generalize rt_up m 248 71 (rq_dx d) = m1 at f1 e1 s1 ⊢
  have hD1 := rq_D_wG h f1
  by_cases z : rq_dw d 5 = 0
  · rw [if_pos z, if_pos z]
    refine rq_call (q_rfever hD1 s1 hv) ?_
    rintro m2 ⟨s2, f2⟩
    refine rq_call (q_passes (rq_D_wR hD1 f2) s2 (rq_fv_v h.2.1.1.2.2.1 hv).1) ?_
    rintro ⟨p, m3⟩ ⟨e, s3, f3⟩
    dsimp only at e s3 f3 ⊢
    exact rq_some.mpr ⟨e, by show m3 248 71 = _; rw [f3 248 71 rfl, f2 248 71 rfl, e1], s3, f1.trans ((f2.trans f3).mono (fun _ _ => rq_wG_R))⟩
  · rw [if_neg z, if_neg z]
    refine rq_call (q_passes hD1 s1 hv) ?_
    rintro ⟨p, m3⟩ ⟨e, s3, f3⟩
    dsimp only at e s3 f3 ⊢
    exact rq_some.mpr ⟨e, by show m3 248 71 = _; rw [f3 248 71 rfl, e1], s3, f1.trans (f3.mono (fun _ _ => rq_wG_R))⟩
theorem q_lives (h : rq_D ρ m) (sr : rq_sr S m) (hv : rq_vs ρ S) (hd : m 248 71 = d) (h0 : 0 ≤ d) (h1 : d < 2147483648) : rq (f_X12_livesSeason 248 m) (fun p => p.1 = rq_cm ρ (rq_p2 ρ d S) ∧ p.2 248 71 = rq_dx (rq_p1 ρ d S).1 ∧ rq_sr (rq_ps ρ (rq_p2 ρ d S)) p.2 ∧ rq_fr rq_wG m p.2) := by
  have hb := h.2.1.1
  have pv := rq_p1_v h.2.1 hv h0 h1
  unfold f_X12_livesSeason
  simp only [q_gfr, Option.bind_some, q_rn0 h 0 rfl, q_rn1 h 1 rfl]
  unfold rq_p2
  unfold rq_p1 at pv ⊢
  by_cases z1 : ρ.1 0 0 ≤ 0
  · rw [if_pos z1, if_neg (show ¬ (0 < ρ.1 0 0 ∧ 0 < ρ.1 0 1) by omega)]; exact q_l58 h sr hv hd h0 h1
  · rw [if_neg z1]
    by_cases z2 : ρ.1 0 1 ≤ 0
    · rw [if_pos z2, if_neg (show ¬ (0 < ρ.1 0 0 ∧ 0 < ρ.1 0 1) by omega)]; exact q_l58 h sr hv hd h0 h1
    · have zz : 0 < ρ.1 0 0 ∧ 0 < ρ.1 0 1 := by omega
      rw [if_pos zz] at pv
      rw [if_neg z2, if_pos zz, q_draws hd h0 h1 (by omega) (by omega), Option.bind_some]
      dsimp only at pv ⊢
      have f1 : rq_fr rq_wG m (rt_up m 248 71 (rq_dx d)) := rq_fr.rfl.up rfl
      have e1 : rt_up m 248 71 (rq_dx d) 248 71 = rq_dx d := by rw [q_up, if_pos ⟨rfl, rfl⟩]
      have s1 : rq_sr S (rt_up m 248 71 (rq_dx d)) := fun j hj => by rw [q_up, if_neg (by omega)]; exact sr j hj
      generalize rt_up m 248 71 (rq_dx d) = m1 at f1 e1 s1 ⊢
      have hD1 := rq_D_wG h f1
      have n1 := rq_dx_b d
      rw [q_rn1 hD1 1 rfl, Option.bind_some, q_draws e1 n1.1 n1.2 (by omega) (by omega), Option.bind_some]
      dsimp only
      have f2 : rq_fr rq_wG m (rt_up m1 248 71 (rq_dx (rq_dx d))) := f1.up rfl
      have e2 : rt_up m1 248 71 (rq_dx (rq_dx d)) 248 71 = rq_dx (rq_dx d) := by rw [q_up, if_pos ⟨rfl, rfl⟩]
      have s2 : rq_sr S (rt_up m1 248 71 (rq_dx (rq_dx d))) := fun j hj => by rw [q_up, if_neg (by omega)]; exact s1 j hj
      generalize rt_up m1 248 71 (rq_dx (rq_dx d)) = m2 at f2 e2 s2 ⊢
      have hD2 := rq_D_wG h f2
      have w := rq_dw_b d zz.1
      have k := rq_dw_b (rq_dx d) zz.2
      have n2 := rq_dx_b (rq_dx d)
      obtain ⟨w', hw⟩ := Int.eq_ofNat_of_zero_le w.1
      obtain ⟨k', hk⟩ := Int.eq_ofNat_of_zero_le k.1
      rw [hw] at w
      rw [hk] at k
      rw [hw, hk, Int.toNat_natCast, Int.toNat_natCast] at pv
      rw [hw, hk, Int.toNat_natCast, Int.toNat_natCast]
      refine rq_call (q_rcanPut hD2 s2 hv w.2 k.2) ?_
      rintro ⟨x, m3⟩ ⟨e, hf⟩
      dsimp only at e hf ⊢
      subst e
      have f3 : rq_fr rq_wG m2 m3 := hf.mono (fun a b q => rq_wR_F (rq_wG_R q))
      have s3 : rq_sr S m3 := rq_sr_wF s2 hf
      have hD3 := rq_D_wG hD2 f3
      have g3 : m3 248 71 = rq_dx (rq_dx d) := by rw [hf 248 71 rfl, e2]
      by_cases z : rq_cp ρ S w' k' = 0
      · rw [if_pos z] at pv
        rw [if_pos z, if_pos z]
        refine rq_mono (q_l58 hD3 s3 hv g3 n2.1 n2.2) ?_
        rintro p ⟨a1, a2, a3, a4⟩
        exact ⟨a1, a2, a3, (f2.trans f3).trans a4⟩
      · rw [if_neg z] at pv
        rw [if_neg z, if_neg z, q_s9 (k := 285) _ _ 13 (1 + w') (pt_248_50 hD3.1) kd_285 ln_285 (rq_1n (by omega)) (by omega), Option.bind_some]
        have f4 : rq_fr rq_wG m3 (rt_up m3 285 (1 + w') (k' : Int)) := rq_fr.rfl.up rfl
        have s4 : rq_sr (rq_at S (1 + w') (k' : Int)) (rt_up m3 285 (1 + w') (k' : Int)) := by
          intro j hj
          rw [q_up]
          unfold rq_at
          by_cases zz : j = 1 + w'
          · rw [if_pos ⟨rfl, zz⟩, if_pos zz]
          · rw [if_neg (fun y => zz y.2), if_neg zz]; exact s3 j hj
        refine rq_mono (q_l58 (rq_D_wG hD3 f4) s4 pv.1 (by rw [q_up, if_neg (by omega)]; exact g3) n2.1 n2.2) ?_
        rintro p ⟨a1, a2, a3, a4⟩
        exact ⟨a1, a2, a3, ((f2.trans f3).trans f4).trans a4⟩
theorem q_rcent (h : rq_D ρ m) (sr : rq_sr S m) (hS : rq_vs ρ S) (hs0 : S 0 < 899000) (hd : m 248 71 = d) (h0 : 0 ≤ d) (h1 : d < 2147483648) (n : Nat) (hn : n ≤ 99) (a : Int) : rq (rt_it (b_X12_centuries_65 248 (n : Int) a) 4000 (0, 0, 0, m)) (fun e => e.1 = (rq_ce ρ d S n).1 ∧ e.2.1 = (rq_ce ρ d S n).2.1 ∧ rq_sr (rq_ce ρ d S n).2.2.2 e.2.2 ∧ rq_fr rq_wG m e.2.2) := by
  have hv := h.2.1
  refine rq_up (fun i s => s.2.2.1 = (i : Int) ∧ s.1 = (rq_ce ρ d S i).1 ∧ s.2.1 = (rq_ce ρ d S i).2.1 ∧ s.2.2.2 248 71 = (rq_ce ρ d S i).2.2.1 ∧ rq_sr (rq_ce ρ d S i).2.2.2 s.2.2.2 ∧ rq_fr rq_wG m s.2.2.2) n (by omega) ?_ ?_ (by exact ⟨rfl, rfl, rfl, hd, sr, rq_fr.rfl⟩)
  · rintro i ⟨x, y, t, mm⟩ hi ⟨e1, e2, e3, e4, s1, hf⟩
    dsimp only at e1 e2 e3 e4 s1 hf
    subst e1 e2 e3
    obtain ⟨v1, v2, v3, v4, v5⟩ := rq_ce_v hv hS h0 h1 hs0 i (by omega)
    have w2 := rq_p2_v hv v4 v3.1 v3.2
    have hD1 := rq_D_wG h hf
    have o := rq_os_le hv ((rq_wn ρ (rq_ps ρ (rq_p2 ρ (rq_ce ρ d S i).2.2.1 (rq_ce ρ d S i).2.2.2)) : Nat) : Int)
    have q := rq_cm_b hv (rq_p2 ρ (rq_ce ρ d S i).2.2.1 (rq_ce ρ d S i).2.2.2)
    unfold b_X12_centuries_65
    dsimp only
    rw [if_neg (by omega)]
    refine rq_call (q_lives hD1 s1 v4 e4 v3.1 v3.2) ?_
    rintro ⟨p, m3⟩ ⟨e, g3, s3, f3⟩
    dsimp only at e g3 s3 f3 ⊢
    subst e
    have hD3 := rq_D_wG hD1 f3
    have vp : rq_vs ρ (rq_ps ρ (rq_p2 ρ (rq_ce ρ d S i).2.2.1 (rq_ce ρ d S i).2.2.2)) := rq_vs_ps hv w2.1 (by omega)
    rw [q_onHeads hD3 s3 vp, Option.bind_some, q_rofficeOf hD3, Option.bind_some, rq_iadd (by omega) (by omega), rq_iadd (by omega) (by omega), rq_n1 (by omega)]
    exact rq_some.mpr (rq_inl ⟨rfl, rfl, rfl, g3, s3, hf.trans f3⟩)
  · rintro ⟨x, y, t, mm⟩ ⟨e1, e2, e3, e4, s1, hf⟩
    dsimp only at e1 e2 e3 e4 s1 hf
    unfold b_X12_centuries_65
    dsimp only
    rw [if_pos (by omega)]
    exact rq_some.mpr (rq_inre ⟨e2, e3, s1, hf⟩)
end
