/-! Layer 3: centuries, both -/
section
variable {r : Nat} {ρ : rq_R} {A : rq_A} {c : Nat} {m : rt_M} {S : rq_S} {d : Int}
theorem q_rwearAll (hs : rq_st m) (sr : rq_sr S m) (hv : rq_vs ρ S) (a x y : Int) : rq (rt_it (b_X12_centuries_105 248 a x y) 4000 (0, 0, m)) (fun e => e = (rq_sum (fun w => S (7 + w)) 6, m)) := by
  have sb : ∀ i, i ≤ 6 → 0 ≤ rq_sum (fun w => S (7 + w)) i ∧ rq_sum (fun w => S (7 + w)) i ≤ 9 * i := fun i hi => rq_sum_b (by decide) i (fun j hj => ⟨(hv.2.2 j (by omega)).1.2.2.1, (hv.2.2 j (by omega)).1.2.2.2⟩)
  refine rq_up (fun i s => s.2.1 = (i : Int) ∧ s.1 = rq_sum (fun w => S (7 + w)) i ∧ s.2.2 = m) 6 (by decide) ?_ ?_ (by exact ⟨rfl, rfl, rfl⟩)
  · rintro i ⟨x1, y1, mm⟩ hi ⟨e1, e2, e3⟩
    dsimp only at e1 e2 e3
    subst e1 e2 e3
    have s1 := sb i (by omega)
    have v := (hv.2.2 i hi).1
    unfold b_X12_centuries_105
    dsimp only
    rw [if_neg (by omega), q_gfr, Option.bind_some, q_rwe hs sr hi, Option.bind_some, rq_iadd (by omega) (by omega), rq_n1 (by omega)]
    exact rq_some.mpr (rq_inl ⟨rfl, (rq_sum_s _ _).symm, rfl⟩)
  · rintro ⟨x1, y1, mm⟩ ⟨e1, e2, e3⟩
    dsimp only at e1 e2 e3
    subst e1 e2 e3
    unfold b_X12_centuries_105
    dsimp only
    rw [if_pos (by omega)]
    exact rq_some.mpr (rq_inre rfl)
def rq_vce (ρ : rq_R) (S : rq_S) (d n a : Int) : Int := if a = 0 then (rq_ce ρ d S n.toNat).1 else if a = 1 then (rq_ce ρ d S n.toNat).2.1 else rq_sum (fun w => (rq_ce ρ d S n.toNat).2.2.2 (7 + w)) 6
theorem L_centuries (hI : rq_I c m) (hc : c < 800000) (d n a : Int) : rq (f_X11_centuries 41 d n a m) (fun p => rq (f_X12_centuries 248 d n a p.2) (fun q => q.1 = p.1 ∧ rq_I (c + 1) q.2)) := by
  obtain ⟨r, ρ, A, h⟩ := hI
  have hv := h.1.2.2.1
  have hS := h.2.2.2.2.2.1.1
  have hcc := h.2.2.2.2.2.2.1
  by_cases hd : 0 ≤ d ∧ d ≤ 9999
  · by_cases hn : 1 ≤ n ∧ n ≤ 99
    · by_cases ha : 0 ≤ a ∧ a ≤ 2
      · obtain ⟨n, rfl⟩ := Int.eq_ofNat_of_zero_le (show 0 ≤ n by omega)
        have vj := (rq_ce_v (d := d) hv hS hd.1 (by omega) (by omega) n (by omega)).2.2.2.1
        refine rq_pair (v := rq_vce ρ A.1 d n a) (o2 := f_X12_centuries 248 d n a) h ?_ (fun m1 h1 => ?_)
        · have hs := h.1.1
          unfold f_X11_centuries j_X11_centuries_151
          rw [if_neg (by omega), if_neg (by omega), if_neg (by omega), if_neg (by omega), if_neg (by omega), if_pos ha.2, q_tri hs, Option.bind_some, q_now hs, Option.bind_some, q_nst hs, Option.bind_some, q_gd7 q_b115]
          refine rq_call (q_scopy hs q_b115 q_b49 (by decide) h.2.2.2.1.1) ?_
          rintro m2 ⟨sc, f2⟩
          have f2 : rq_fr rq_WQ m m2 := f2.mono (fun _ _ q => rq_wS_B (rq_WQ_115 q))
          rw [q_p11, Option.bind_some]
          have f3 : rq_fr rq_WQ m (rt_up m2 41 13 d) := f2.up (by decide)
          have e3 : rt_up m2 41 13 d 41 13 = d := by rw [q_up, if_pos ⟨rfl, rfl⟩]
          have sc3 : rq_sc 115 A.1 (rt_up m2 41 13 d) := rq_sc_fr sc (by rw [q_up, if_neg (by omega)]) (fun w _ => by rw [q_up, if_neg (by omega)]) (fun w _ => by rw [q_up, if_neg (by omega)])
          generalize rt_up m2 41 13 d = m3 at f3 e3 sc3 ⊢
          have h3 := rq_J_fr h f3 (Nat.le_refl c)
          refine rq_call (q_cent h3 sc3 hS (by omega) e3 hd.1 (by omega) n (by omega) a) ?_
          rintro ⟨x1, x2, m4⟩ ⟨e1, e2, sc4, f4⟩
          dsimp only at e1 e2 sc4 f4 ⊢
          have h4 := rq_J_fr h3 f4 (Nat.le_refl c)
          unfold rq_vce
          rw [Int.toNat_natCast]
          by_cases z0 : a = 0
          · rw [if_pos z0, if_pos z0]
            exact rq_some.mpr ⟨e1, f3.trans f4⟩
          · rw [if_neg z0, if_neg z0]
            by_cases z1 : a = 1
            · rw [if_pos z1, if_pos z1]
              exact rq_some.mpr ⟨e2, f3.trans f4⟩
            · rw [if_neg z1, if_neg z1]
              simp only [q_told h4, Option.bind_some, q_tri h4.1.1, q_gd7 q_b115, q_wearOfAll h4.1 ⟨q_b115, sc4, vj⟩]
              exact rq_some.mpr ⟨rfl, f3.trans f4⟩
        · obtain ⟨m2, e2, h2, f2⟩ := q_thr h1 0
          unfold f_X12_centuries j_X12_centuries_167
          rw [e2, Option.bind_some, q_withinT hd.1 hd.2, Option.bind_some, if_neg (by decide), q_withinT hn.1 hn.2, Option.bind_some, if_neg (by decide), q_withinT ha.1 ha.2, Option.bind_some, if_neg (by decide), q_pfr, Option.bind_some, q_gfr, Option.bind_some, q_gfr, Option.bind_some]
          have f2' : rq_fr rq_WQ m1 (rt_up m2 248 71 d) := f2.up (by decide)
          have eD : rt_up m2 248 71 d 248 71 = d := by rw [q_up, if_pos ⟨rfl, rfl⟩]
          generalize rt_up m2 248 71 d = m2' at f2' eD ⊢
          have h2' := rq_J_fr h1 f2' (Nat.le_refl c)
          have hs2 := h2'.1.1
          refine rq_call (q_copies 285 286 0 0 13 13 _ _ 0 0 (pt_248_50 hs2) (pt_248_51 hs2) rfl rfl kd_285 ln_285 (by decide) kd_286 ln_286 (by decide) (by decide) (by decide) (by decide)) ?_
          rintro m3 ⟨c3, r3⟩
          have f3 : rq_fr rq_WQ m2' m3 := r3.mono (fun k j q => by
            have q := rq_WQ_R q
            unfold rq_WR at q
            unfold rq_row
            simp only [Bool.or_eq_false_iff, Bool.and_eq_false_iff, beq_eq_false_iff_ne, decide_eq_false_iff_not] at q ⊢
            omega)
          have h3 := rq_J_fr h2' f3 (Nat.le_refl c)
          refine rq_call (q_rcent h3.2.1 (q_Sr h3) hS (by omega) (show m3 248 71 = d by rw [r3 248 71 rfl, eD]) hd.1 (by omega) n (by omega) a) ?_
          rintro ⟨x1, x2, m5⟩ ⟨e1, e2', sr5, f5⟩
          dsimp only at e1 e2' sr5 f5 ⊢
          have hD5 := rq_D_wG h3.2.1 f5
          have hs5 := hD5.1
          refine rq_call (q_rwearAll (ρ := ρ) hs5 sr5 vj a x1 x2) ?_
          rintro e rfl
          dsimp only
          rw [q_gfr, Option.bind_some, q_gfr, Option.bind_some]
          refine rq_call (q_copies 286 285 0 0 13 13 _ _ 0 0 (pt_248_51 hs5) (pt_248_50 hs5) rfl rfl kd_286 ln_286 (by decide) kd_285 ln_285 (by decide) (by decide) (by decide) (by decide)) ?_
          rintro m6 ⟨c6, r6⟩
          have ff : rq_fr rq_WQ m1 m6 := by
            refine f2'.trans (fun k j q => ?_)
            have q' := rq_WQ_R q
            have q3 := f3 k j q
            by_cases k285 : k = 285
            · subst k285
              have j13 : j < 13 := by
                unfold rq_WR at q'
                simp only [Bool.or_eq_false_iff, Bool.and_eq_false_iff, beq_eq_false_iff_ne, decide_eq_false_iff_not] at q'
                omega
              have a6 := c6 j j13
              have a3 := c3 j j13
              rw [show 0 + j = j by omega] at a6 a3
              rw [a6, f5 286 j rfl, a3]
            · have w : rq_wG k j = false := by
                unfold rq_WR at q'
                unfold rq_wG rq_wR
                simp only [Bool.or_eq_false_iff, Bool.and_eq_false_iff, beq_eq_false_iff_ne] at q' ⊢
                exact ⟨⟨q'.1.1.1.1, k285⟩, by omega⟩
              rw [r6 k j ?_, f5 k j w, q3]
              unfold rq_row
              simp only [Bool.and_eq_false_iff, beq_eq_false_iff_ne]
              exact Or.inl (Or.inl k285)
          unfold rq_vce
          rw [Int.toNat_natCast]
          by_cases z0 : a = 0
          · rw [if_pos z0, if_pos z0]
            exact rq_some.mpr ⟨e1, ff⟩
          · rw [if_neg z0, if_neg z0]
            by_cases z1 : a = 1
            · rw [if_pos z1, if_pos z1]
              exact rq_some.mpr ⟨e2', ff⟩
            · rw [if_neg z1, if_neg z1]
              exact rq_some.mpr ⟨rfl, ff⟩
      · refine rq_pair (v := -1) (o2 := f_X12_centuries 248 d n a) h ?_ (fun m1 h1 => ?_)
        · unfold f_X11_centuries j_X11_centuries_31
          rw [if_neg (by omega), if_neg (by omega), if_neg (by omega), if_neg (by omega)]
          by_cases z : a < 0
          · rw [if_pos z]; exact rq_some.mpr ⟨rfl, rq_fr.rfl⟩
          · rw [if_neg z, if_neg (by omega)]; exact rq_some.mpr ⟨rfl, rq_fr.rfl⟩
        · obtain ⟨m2, e2, h2, f2⟩ := q_thr h1 0
          unfold f_X12_centuries j_X12_centuries_35
          rw [e2, Option.bind_some, q_withinT hd.1 hd.2, Option.bind_some, if_neg (by decide), q_withinT hn.1 hn.2, Option.bind_some, if_neg (by decide), q_withinF ha, Option.bind_some, if_pos rfl]
          exact rq_some.mpr ⟨rfl, f2⟩
    · refine rq_pair (v := -1) (o2 := f_X12_centuries 248 d n a) h ?_ (fun m1 h1 => ?_)
      · unfold f_X11_centuries j_X11_centuries_31
        rw [if_neg (by omega), if_neg (by omega)]
        by_cases z : n < 1
        · rw [if_pos z]; exact rq_some.mpr ⟨rfl, rq_fr.rfl⟩
        · rw [if_neg z, if_pos (by omega)]; exact rq_some.mpr ⟨rfl, rq_fr.rfl⟩
      · obtain ⟨m2, e2, h2, f2⟩ := q_thr h1 0
        unfold f_X12_centuries j_X12_centuries_35
        rw [e2, Option.bind_some, q_withinT hd.1 hd.2, Option.bind_some, if_neg (by decide), q_withinF hn, Option.bind_some, if_pos rfl]
        exact rq_some.mpr ⟨rfl, f2⟩
  · refine rq_pair (v := -1) (o2 := f_X12_centuries 248 d n a) h ?_ (fun m1 h1 => ?_)
    · unfold f_X11_centuries j_X11_centuries_31
      by_cases z : d < 0
      · rw [if_pos z]; exact rq_some.mpr ⟨rfl, rq_fr.rfl⟩
      · rw [if_neg z, if_pos (by omega)]; exact rq_some.mpr ⟨rfl, rq_fr.rfl⟩
    · obtain ⟨m2, e2, h2, f2⟩ := q_thr h1 0
      unfold f_X12_centuries j_X12_centuries_35
      rw [e2, Option.bind_some, q_withinF hd, Option.bind_some, if_pos rfl]
      exact rq_some.mpr ⟨rfl, f2⟩
end
