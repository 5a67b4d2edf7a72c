/-! Layer 3: a line of a head, the class reads it (2) -/
section
variable {m : rt_M} {s : Nat → Int} {n b r : Nat} {ρ : rq_R}
theorem rq_hk_v {v : Int} {b' : Nat} (e : rq_hk s n b = .inr (v, b')) : 0 ≤ v ∧ v ≤ 3 ∧ rq_bp s n b' := by
  unfold rq_hk at e
  by_cases z : 14 ≤ rq_kd s n b ∧ rq_kd s n b ≤ 17
  · rw [if_pos z] at e
    cases e
    have hb : b < n := rq_kd_lt (s := s) (by omega)
    exact ⟨by omega, by omega, rq_bp_nx hb⟩
  · rw [if_neg z] at e; cases e
theorem q_headLine (hC : rq_C r ρ m) (hb : rq_nmb ρ) (hok : rq_okT s n) (pc : rq_pc s n b m) (hbn : b < n) : rq (f_X3_headLine ((47 : Nat) : Int) (r : Int) m) (rq_lnR s n r m (rq_hdl ρ s n b) (fun t m' => rq_C r (rq_ah ρ t) m')) := by
  have hn := hok.1
  have hs := hC.1
  have hr := hC.2.1
  have hv := hC.2.2.1.1
  have e0 := hC.2.2.2.1.2.1
  obtain ⟨c, hc⟩ := Int.eq_ofNat_of_zero_le hv.2.2.1
  unfold f_X3_headLine rq_hdl
  rw [q_gf4r hr, Option.bind_some, e0]
  by_cases z6 : ρ.1 0 1 = 6
  · rw [if_neg (by omega), if_pos z6, q_fail hs pc hn (by decide) (by decide), Option.bind_some, q_bz0]
    exact rq_some.mpr ⟨rq_fr.rfl.up rfl, rfl, rq_upE m 47 2 _⟩
  rw [if_pos (by omega), if_neg z6, q_g3, Option.bind_some, q_p3, Option.bind_some]
  have bn := rq_bp_nx (s := s) hbn
  have pc1 := (rq_pc_adv pc hbn).2
  have f1 : rq_fr rq_w47 m (rt_up m 47 1 (rt_iadd (m 47 1) 1)) := rq_fr.rfl.up rfl
  generalize rt_up m 47 1 (rt_iadd (m 47 1) 1) = m1 at pc1 f1 ⊢
  have s1 := rq_st_fr hs f1 rq_w47_st
  have c47 : ∀ {x : rt_M}, rq_fr rq_w47 m x → rq_C r ρ x := fun f => ⟨rq_st_fr hs f rq_w47_st, hr, hC.2.2.1, rq_rc_fr hC.2.2.2 hC.2.2.1 (fun a j h1 h2 h3 h4 => f a j (by
    unfold rq_w47
    simp only [Bool.or_eq_false_iff, Bool.and_eq_false_iff, beq_eq_false_iff_ne]
    clear hC
    rcases hr with h | h <;> omega))⟩
  have w47 : ∀ {x y : rt_M}, rq_fr rq_w47 x y → rq_fr (rq_wDc r) x y := fun f => f.mono (fun _ _ => rq_wDc_47)
  have c6 : c < 6 := by omega
  obtain ⟨ka, la, kb, lb, pp⟩ := q_sh_h r hr c c6
  obtain ⟨-, o2, -, o4, -⟩ := q_sh_o r hr
  obtain ⟨-, -, -, -, -, -, -, -, -, -, -, -, -, -, -, kn, ln, -⟩ := q_sh_o r hr
  rw [q_value s1 pc1, Option.bind_some, q_gf4r hr, Option.bind_some, q_pt s1 o4, hc, q_al ka la c6, Option.bind_some, q_pt s1 pp]
  have bad : ∀ (m2 : rt_M) (q : Int × Nat), rq_fr (rq_wDc r) m m2 → m2 47 2 = q.1 + 16 * (q.2 : Int) → rq (j_X3_headLine_120 (r : Int) (c : Int) (rq_vl s n (rq_nxp s n b)) m2) (rq_lnR s n r m (.inl q) (fun (t : rq_HT) m' => rq_C r (rq_ah ρ t) m')) := by
    intro m2 q f e
    unfold j_X3_headLine_120 j_X3_headLine_121 j_X3_headLine_142
    rw [if_pos rfl, q_bz0]
    exact rq_some.mpr ⟨f, rfl, e⟩
  have wfx : ∀ {x y : rt_M} {i : Nat}, rq_fr (rq_wFx (r + 11 + c) i) x y → rq_fr (rq_wDc r) x y := fun f => f.mono (fun k j q => by
    unfold rq_wDc rq_w47 at q
    unfold rq_wFx rq_w47
    simp only [Bool.or_eq_false_iff, Bool.and_eq_false_iff, beq_eq_false_iff_ne, decide_eq_false_iff_not] at q ⊢
    omega)
  have r48 : 48 ≤ r + 11 + c := by clear hC; rcases hr with h | h <;> omega
  refine rq_call (q_newX (c47 f1) hb hok bn pc1) ?_
  rintro ⟨v2, m2⟩ ⟨f2, h2⟩
  dsimp only at f2 h2 ⊢
  cases ex : rq_nnw ρ s n (rq_nxp s n b) with
  | inl q =>
    rw [ex] at h2
    rw [if_pos h2.1, rq_sbd_l]
    exact bad m2 q (w47 (f1.trans f2)) h2.2
  | inr b2 =>
    rw [ex] at h2
    obtain ⟨eb2, hb1, zc⟩ := rq_nnw_v ex hok bn
    have bp2 : rq_bp s n b2 := by rw [eb2]; exact rq_bp_nx hb1
    rw [rq_sbd_r, if_neg (by rw [h2.1]; decide)]
    have f12 := f1.trans f2
    have s2 := rq_st_fr hs f12 rq_w47_st
    refine rq_call (q_headKindX s2 h2.2 hok kb lb (show 0 < 4 by decide) r48) ?_
    rintro ⟨v0, m0⟩ ⟨f0, h0⟩
    dsimp only at f0 h0 ⊢
    have F0 := (w47 f12).trans (wfx f0)
    cases eh : rq_hk s n b2 with
    | inl q =>
      rw [eh] at h0
      rw [if_pos h0.1, rq_sbd_l]
      exact bad m0 q F0 h0.2
    | inr y =>
      obtain ⟨y0, b20⟩ := y
      rw [eh] at h0
      obtain ⟨g01, g02, bp0⟩ := rq_hk_v eh
      obtain ⟨h0a, pc0, h0c⟩ := h0
      rw [rq_sbd_r, if_neg (by rw [h0a]; decide)]
      have s0 := rq_st_fr hs F0 (rq_wDc_st hr)
      refine rq_call (q_factX (W := 1) s0 pc0 hok bp0 (by decide) (by decide) (by decide) kb lb (show 1 < 4 by decide) r48) ?_
      rintro ⟨v3, m3⟩ ⟨f3, h3⟩
      dsimp only at f3 h3 ⊢
      have F3 := F0.trans (wfx f3)
      show rq _ (rq_lnR s n r m (rq_sbd (rq_fa s n ((1 : Nat) : Int) 40 79 b20) _) _)
      cases ey : rq_fa s n ((1 : Nat) : Int) 40 79 b20 with
      | inl q =>
        rw [ey] at h3
        rw [if_pos h3.1, rq_sbd_l]
        exact bad m3 q F3 h3.2
      | inr y =>
        obtain ⟨y1, b3⟩ := y
        rw [ey] at h3
        obtain ⟨g1, g2, bp3, -⟩ := rq_fa_v hok (by decide) ey
        obtain ⟨h3a, pc3, h3c⟩ := h3
        rw [rq_sbd_r, if_neg (by rw [h3a]; decide)]
        have s3 := rq_st_fr hs F3 (rq_wDc_st hr)
        refine rq_call (q_factX (W := 5) s3 pc3 hok bp3 (by decide) (by decide) (by decide) kb lb (show 2 < 4 by decide) r48) ?_
        rintro ⟨v4, m4⟩ ⟨f4, h4⟩
        dsimp only at f4 h4 ⊢
        have F4 := F3.trans (wfx f4)
        show rq _ (rq_lnR s n r m (rq_sbd (rq_fa s n ((5 : Nat) : Int) 0 99 b3) _) _)
        cases ez : rq_fa s n ((5 : Nat) : Int) 0 99 b3 with
        | inl q =>
          rw [ez] at h4
          rw [if_pos h4.1, rq_sbd_l]
          exact bad m4 q F4 h4.2
        | inr y =>
          obtain ⟨y2, b4⟩ := y
          rw [ez] at h4
          obtain ⟨g3, g4, bp4, -⟩ := rq_fa_v hok (by decide) ez
          obtain ⟨h4a, pc4, h4c⟩ := h4
          rw [rq_sbd_r, if_neg (by rw [h4a]; decide)]
          have s4 := rq_st_fr hs F4 (rq_wDc_st hr)
          refine rq_call (q_factX (W := 3) s4 pc4 hok bp4 (by decide) (by decide) (by decide) kb lb (show 3 < 4 by decide) r48) ?_
          rintro ⟨v5, m5⟩ ⟨f5, h5⟩
          dsimp only at f5 h5 ⊢
          have F5 := F4.trans (wfx f5)
          show rq _ (rq_lnR s n r m (rq_sbd (rq_fa s n ((3 : Nat) : Int) 0 9 b4) _) _)
          cases ew : rq_fa s n ((3 : Nat) : Int) 0 9 b4 with
          | inl q =>
            rw [ew] at h5
            rw [if_pos h5.1, rq_sbd_l]
            exact bad m5 q F5 h5.2
          | inr y =>
            obtain ⟨y3, b5⟩ := y
            rw [ew] at h5
            obtain ⟨g5, g6, bp5, -⟩ := rq_fa_v hok (by decide) ew
            obtain ⟨h5a, pc5, h5c⟩ := h5
            rw [rq_sbd_r, if_neg (by rw [h5a]; decide)]
            have s5 := rq_st_fr hs F5 (rq_wDc_st hr)
            refine rq_call (q_takeX (W := 34) s5 pc5 hok (by decide)) ?_
            rintro ⟨v6, m6⟩ ⟨f6, h6⟩
            dsimp only at f6 h6 ⊢
            rw [show ((34 : Nat) : Int) = 34 from rfl] at h6
            have F6 := F5.trans (w47 f6)
            unfold rq_stp
            by_cases z34 : rq_kd s n b5 = 34
            rotate_left
            · rw [if_neg z34] at h6 ⊢
              rw [if_pos h6.1, rq_sbd_l]
              exact bad m6 (1, b5) F6 h6.2
            rw [if_pos z34] at h6 ⊢
            obtain ⟨h6a, pc6⟩ := h6
            rw [rq_sbd_r, if_neg (by rw [h6a]; decide)]
            unfold j_X3_headLine_121 j_X3_headLine_142
            have s6 := rq_st_fr hs F6 (rq_wDc_st hr)
            rw [if_neg (by decide), q_gf4r hr, Option.bind_some, q_pt s6 o2, q_sa kn ln c6, Option.bind_some, q_pf4r hr, Option.bind_some, q_bz1, rq_n1 (by omega)]
            have F8 : rq_fr (rq_wDc r) m (rt_up (rt_up m6 (r + 2) c (rq_vl s n (rq_nxp s n b))) r 1 ((c + 1 : Nat) : Int)) := (F6.up (by unfold rq_wDc; simp)).up (by unfold rq_wDc; simp)
            have k6 : ∀ a j, a ≠ r → a ≠ r + 2 → rt_up (rt_up m6 (r + 2) c (rq_vl s n (rq_nxp s n b))) r 1 ((c + 1 : Nat) : Int) a j = m6 a j := fun a j q1 q2 => by rw [q_up, if_neg (fun q => q1 q.1), q_up, if_neg (fun q => q2 q.1)]
            have kr : ∀ j, j ≠ 1 → rt_up (rt_up m6 (r + 2) c (rq_vl s n (rq_nxp s n b))) r 1 ((c + 1 : Nat) : Int) r j = m6 r j := fun j q => by rw [q_up, if_neg (fun z => q z.2), q_up, if_neg (by omega)]
            have kr1 : ∀ j, j ≠ c → rt_up (rt_up m6 (r + 2) c (rq_vl s n (rq_nxp s n b))) r 1 ((c + 1 : Nat) : Int) (r + 2) j = m6 (r + 2) j := fun j q => by rw [q_up, if_neg (by omega), q_up, if_neg (fun z => q z.2)]
            have en : rt_up (rt_up m6 (r + 2) c (rq_vl s n (rq_nxp s n b))) r 1 ((c + 1 : Nat) : Int) (r + 2) c = rq_vl s n (rq_nxp s n b) := by rw [q_up, if_neg (by omega), rq_upE]
            have et : rt_up (rt_up m6 (r + 2) c (rq_vl s n (rq_nxp s n b))) r 1 ((c + 1 : Nat) : Int) r 1 = (c : Int) + 1 := by rw [rq_upE]; omega
            generalize rt_up (rt_up m6 (r + 2) c (rq_vl s n (rq_nxp s n b))) r 1 ((c + 1 : Nat) : Int) = m8 at F8 k6 kr kr1 en et ⊢
            have g6' : ∀ {i : Nat} {x y : rt_M}, rq_fr (rq_wFx (r + 11 + c) i) x y → ∀ a j, r ≤ a → ¬ (a = r + 11 + c ∧ j = i) → y a j = x a j := fun {i x y} f a j h1 h2 => f a j (by
              unfold rq_wFx rq_w47
              simp only [Bool.or_eq_false_iff, Bool.and_eq_false_iff, beq_eq_false_iff_ne]
              clear hC
              rcases hr with h | h <;> omega)
            have g47 : ∀ {x y : rt_M}, rq_fr rq_w47 x y → ∀ a j, r ≤ a → y a j = x a j := fun {x y} f a j h1 => f a j (by
              unfold rq_w47
              simp only [Bool.or_eq_false_iff, Bool.and_eq_false_iff, beq_eq_false_iff_ne]
              clear hC
              rcases hr with h | h <;> omega)
            have s8 := rq_st_fr hs F8 (rq_wDc_st hr)
            refine rq_some.mpr ⟨F8, rfl, rq_pc_fr pc6 (fun a j q => k6 a j (by clear hC; rcases hr with h | h <;> omega) (by clear hC; rcases hr with h | h <;> omega)), ?_⟩
            refine rq_ah_C hC z6 ⟨g01, g02⟩ ⟨g1, g2⟩ ⟨g3, g4⟩ ⟨g5, g6⟩ (c := c) (by omega) s8 ?_ ?_ ?_ ?_ en et (fun a j h1 h2 h3 h4 h5' => ?_)
            · show m8 _ _ = _
              rw [k6 _ _ (by omega) (by omega), g47 f6 _ _ (by omega), g6' f5 _ _ (by omega) (by omega), g6' f4 _ _ (by omega) (by omega), g6' f3 _ _ (by omega) (by omega), h0c]
            · show m8 _ _ = _
              rw [k6 _ _ (by omega) (by omega), g47 f6 _ _ (by omega), g6' f5 _ _ (by omega) (by omega), g6' f4 _ _ (by omega) (by omega), h3c]
            · show m8 _ _ = _
              rw [k6 _ _ (by omega) (by omega), g47 f6 _ _ (by omega), g6' f5 _ _ (by omega) (by omega), h4c]
            · show m8 _ _ = _
              rw [k6 _ _ (by omega) (by omega), g47 f6 _ _ (by omega), h5c]
            · have e6 : m8 a j = m6 a j := by
                by_cases y1 : a = r
                · rw [y1]; exact kr j (fun q => h3 ⟨y1, q⟩)
                · by_cases y2 : a = r + 2
                  · rw [y2]; exact kr1 j (fun q => h4 ⟨y2, q⟩)
                  · exact k6 a j y1 y2
              show m8 a j = m a j
              rw [e6, g47 f6 _ _ h1, g6' f5 _ _ h1 (fun q => h5' q.1), g6' f4 _ _ h1 (fun q => h5' q.1), g6' f3 _ _ h1 (fun q => h5' q.1), g6' f0 _ _ h1 (fun q => h5' q.1), g47 f2 _ _ h1, g47 f1 _ _ h1]
end
