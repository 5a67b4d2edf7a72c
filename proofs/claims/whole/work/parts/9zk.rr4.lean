/-! Layer 3: a line of a head, the reference reads it -/
section
variable {m m' : rt_M} {s : Nat → Int} {n b : Nat} {ρ : rq_R}
theorem q_readsHead (hs : rq_st m) (ht : rq_ty s n m) (hok : rq_okT s n) (hb : b < n) (ts : rq_ts s n b m) (hv : rq_va ρ) (hd : rq_dr ρ m) : rq (f_X12_readsHead 248 m) (rq_lnD s n m (rq_hdl ρ s n b) (fun t m' => rq_dr (rq_ah ρ t) m')) := by
  have hn := hok.1
  have hv0 := hv.1
  have e4 := hd.1.2.1
  obtain ⟨c, hc⟩ := Int.eq_ofNat_of_zero_le hv0.2.2.1
  have hc' : ρ.1 0 1 = (c : Int) := hc
  have c6 : c ≤ 6 := by omega
  have bn := rq_bp_nx (s := s) hb
  have i6 : rt_iadd 6 (m 250 5) = ((6 + c : Nat) : Int) := by rw [e4, hc', rq_iadd (by omega) (by omega)]; omega
  unfold f_X12_readsHead rq_hdl
  rw [q_gfr, Option.bind_some, q_a9 (k := 250) _ 5 8 5 (pt_248_10 hs) kd_250 ln_250 rfl (by decide), Option.bind_some, i6]
  by_cases z6 : ρ.1 0 1 = 6
  · rw [if_pos z6, if_pos (show ((6 + c : Nat) : Int) = 12 by omega), q_fails ts hn (by decide) (by decide), Option.bind_some, q_bz0]
    exact rq_some.mpr ⟨rq_fr.rfl.up rfl, rfl, rq_upE m 248 9 _⟩
  have c5 : c < 6 := by omega
  rw [if_neg z6, if_neg (show ¬ ((6 + c : Nat) : Int) = 12 by omega)]
  refine rq_call (q_nextAt hs ht hok ts hb) ?_
  rintro m1 ⟨ts1, f1⟩
  have F1 : rq_fr rq_w40 m m1 := f1.mono (fun _ _ q => rq_w9_N (rq_w40_9 q))
  have s1 := rq_st_fr hs F1 rq_w40_st
  have t1 := rq_ty_9 ht F1
  have d1 : rq_dr ρ m1 := rq_dr_fr hd (fun a j h1 h2 => F1 a j (rq_w40_r (by omega)))
  refine rq_call (q_needsNew s1 t1 hok bn ts1 hv (rq_dr_dn d1)) ?_
  rintro ⟨v2, m2⟩ ⟨f2, h2⟩
  dsimp only at f2 h2 ⊢
  have F2 : rq_fr rq_w40 m m2 := F1.trans f2
  have G2 : rq_fr rq_wGr m m2 := F2.mono (fun _ _ => rq_wGr_40)
  have o2 := rq_nnw_o (ρ := ρ) hok bn
  cases e : rq_nnw ρ s n (rq_nxp s n b) with
  | inl q =>
    rw [e] at h2
    dsimp only at h2
    rw [if_pos h2.1, rq_sbd_l]
    exact rq_some.mpr ⟨G2, rfl, h2.2⟩
  | inr b2 =>
    rw [e] at h2 o2
    dsimp only at h2
    obtain ⟨h2a, ts2, nm2⟩ := h2
    obtain ⟨bp2, -⟩ := o2
    have s2 := rq_st_fr hs F2 rq_w40_st
    have t2 := rq_ty_9 ht F2
    rw [h2a, if_neg (by decide), rq_sbd_r, q_gfr, Option.bind_some]
    have r2 : ∀ a j, 250 ≤ a → m2 a j = m a j := fun a j h1 => F2 a j (rq_w40_r (by omega))
    clear F1 f1 ts1 s1 t1 d1 f2 F2 h2a
    have key : ∀ kv : Int, kv = (if 14 ≤ rq_kd s n b2 ∧ rq_kd s n b2 ≤ 17 then rq_kd s n b2 - 14 else -1) → rq (j_X12_readsHead_97 248 ((6 + c : Nat) : Int) (m2 248 16) ((6 + c : Nat) : Int) kv m2) (rq_lnD s n m (rq_sbd (rq_hk s n b2) fun w => rq_sbd (rq_fa s n 1 40 79 w.2) fun x => rq_sbd (rq_fa s n 5 0 99 x.2) fun y => rq_sbd (rq_fa s n 3 0 9 y.2) fun z => rq_sbd (rq_stp s n z.2) fun b6 => .inr ((w.1, x.1, y.1, z.1, rq_vl s n (rq_nxp s n b)), b6)) (fun t m' => rq_dr (rq_ah ρ t) m')) := by
      intro kv ekv
      unfold j_X12_readsHead_97
      rw [q_s8 (k := 256) _ 12 (pt_248_16 s2) kd_256 ln_256 (show 6 + c < 12 by omega), Option.bind_some]
      have G0 : rq_fr rq_wGr m (rt_up m2 256 (6 + c) kv) := G2.up (by unfold rq_wGr; simp)
      have g0 : ∀ a j, ¬ (a = 256 ∧ j = 6 + c) → rt_up m2 256 (6 + c) kv a j = m2 a j := fun a j q => by rw [q_up, if_neg q]
      have c0 : rt_up m2 256 (6 + c) kv 256 (6 + c) = kv := rq_upE _ _ _ _
      have ts0 : rq_ts s n b2 (rt_up m2 256 (6 + c) kv) := rq_ts_fr ts2 (fun j h1 h2 => g0 _ _ (by omega))
      have t0 : rq_ty s n (rt_up m2 256 (6 + c) kv) := ⟨by rw [g0 _ _ (by omega)]; exact t2.1, fun i hi => by rw [g0 _ _ (by omega)]; exact t2.2 i hi⟩
      generalize rt_up m2 256 (6 + c) kv = m0 at G0 g0 c0 ts0 t0 ⊢
      have s0 := rq_st_fr hs G0 rq_wGr_st
      rw [q_gfr, Option.bind_some, q_a8 (k := 256) _ 12 (pt_248_16 s0) kd_256 ln_256 (show 6 + c < 12 by omega), Option.bind_some, c0]
      have ok := rq_hk_o (s := s) (n := n) (b := b2)
      unfold rq_hk at ok ⊢
      by_cases zk : 14 ≤ rq_kd s n b2 ∧ rq_kd s n b2 ≤ 17
      rotate_left
      · rw [if_neg zk] at ekv ok ⊢
        rw [ekv, if_neg (by decide), q_fails ts0 hn (by decide) (by decide), Option.bind_some, q_bz0, rq_sbd_l]
        exact rq_some.mpr ⟨G0.up rfl, rfl, rq_upE m0 248 9 _⟩
      rw [if_pos zk] at ekv ok ⊢
      obtain ⟨ok1, ok2, ok3, ok4⟩ := ok
      dsimp only at ok1 ok2 ok3 ok4
      rw [if_pos (by omega), rq_sbd_r]
      have hb2 : b2 < n := rq_kd_lt (s := s) (by omega)
      rw [← ekv]
      clear zk
      refine rq_call (q_nextAt s0 t0 hok ts0 hb2) ?_
      rintro m9 ⟨ts9, f9⟩
      have G9 : rq_fr rq_wGr m m9 := G0.trans (f9.mono (fun _ _ q => rq_w9_N (rq_w40_9 (rq_wGr_40 q))))
      have s9 := rq_st_fr hs G9 rq_wGr_st
      have t9 : rq_ty s n m9 := rq_ty_fr t0 f9
      have r9 : ∀ a j, 250 ≤ a → ¬ (a = 256 ∧ j = 6 + c) → m9 a j = m a j := fun a j h1 h2 => by rw [f9 a j (rq_wN2_r (by omega)), g0 a j h2, r2 a j h1]
      have c9 : m9 256 (6 + c) = kv := by rw [f9 256 _ (rq_wN2_r (by omega)), c0]
      have n9 : m9 248 40 = m2 248 40 := by rw [f9 248 40 rfl, g0 _ _ (by omega)]
      refine q_bothK (a := 257) s9 t9 hok ok3 ts9 (W := 1) (by decide) (by decide) (fun x hx => pt_248_17 hx) kd_257 ln_257 (by omega) (by decide) (by decide +kernel) ?_ ?_
      · intro q m3 e3 f3 h3
        have e3' : rq_fa s n 1 40 79 (rq_nxp s n b2) = .inl q := e3
        dsimp only
        rw [e3', rq_sbd_l]
        exact ⟨G9.trans (f3.mono (fun _ _ q => rq_w40_9 (rq_wGr_40 q))), rfl, h3⟩
      intro x b3 m3 e3 ts3 t3 s3 c3 f3
      have e3' : rq_fa s n 1 40 79 (rq_nxp s n b2) = .inr (x, b3) := e3
      have o3 := rq_fa_o (s := s) (n := n) (b := rq_nxp s n b2) (W := 1) (lo := 40) (hi := 79) (by decide)
      dsimp only
      rw [e3'] at o3 ⊢
      rw [rq_sbd_r]
      have G3 := G9.trans (f3.mono (fun k i => rq_wGr_y (by decide) (by omega)))
      have r3 : ∀ a j, 250 ≤ a → ¬ (a = 256 ∧ j = 6 + c) → ¬ (a = 257 ∧ j = 6 + c) → m3 a j = m a j := fun a j h1 h2 h3 => by rw [f3 a j (rq_wFy_r h1 h3), r9 a j h1 h2]
      have n3 : m3 248 40 = m2 248 40 := by rw [f3 248 40 rfl, n9]
      have c39 : m3 256 (6 + c) = kv := by rw [f3 256 _ (rq_wFy_r (by decide) (by omega)), c9]
      refine q_bothK (a := 258) s3 t3 hok o3.2.2.1 ts3 (W := 5) (by decide) (by decide) (fun x hx => pt_248_18 hx) kd_258 ln_258 (by omega) (by decide) (by decide +kernel) ?_ ?_
      · intro q m4 e4 f4 h4
        have e4' : rq_fa s n 5 0 99 b3 = .inl q := e4
        dsimp only
        rw [e4', rq_sbd_l]
        exact ⟨G3.trans (f4.mono (fun _ _ q => rq_w40_9 (rq_wGr_40 q))), rfl, h4⟩
      intro y b4 m4 e4 ts4 t4 s4 c4 f4
      have e4' : rq_fa s n 5 0 99 b3 = .inr (y, b4) := e4
      have o4 := rq_fa_o (s := s) (n := n) (b := b3) (W := 5) (lo := 0) (hi := 99) (by decide)
      dsimp only
      rw [e4'] at o4 ⊢
      rw [rq_sbd_r]
      have G4 := G3.trans (f4.mono (fun k i => rq_wGr_y (by decide) (by omega)))
      have r4 : ∀ a j, 250 ≤ a → ¬ (a = 256 ∧ j = 6 + c) → ¬ (a = 257 ∧ j = 6 + c) → ¬ (a = 258 ∧ j = 6 + c) → m4 a j = m a j := fun a j h1 h2 h3 h4 => by rw [f4 a j (rq_wFy_r h1 h4), r3 a j h1 h2 h3]
      have n4 : m4 248 40 = m2 248 40 := by rw [f4 248 40 rfl, n3]
      have c49 : m4 256 (6 + c) = kv := by rw [f4 256 _ (rq_wFy_r (by decide) (by omega)), c39]
      have c43 : m4 257 (6 + c) = x := by rw [f4 257 _ (rq_wFy_r (by decide) (by omega)), c3]
      refine q_bothK (a := 259) s4 t4 hok o4.2.2.1 ts4 (W := 3) (by decide) (by decide) (fun x hx => pt_248_19 hx) kd_259 ln_259 (by omega) (by decide) (by decide +kernel) ?_ ?_
      · intro q m5 e5 f5 h5
        have e5' : rq_fa s n 3 0 9 b4 = .inl q := e5
        dsimp only
        rw [e5', rq_sbd_l]
        exact ⟨G4.trans (f5.mono (fun _ _ q => rq_w40_9 (rq_wGr_40 q))), rfl, h5⟩
      intro w b5 m5 e5 ts5 t5 s5 c5' f5
      have e5' : rq_fa s n 3 0 9 b4 = .inr (w, b5) := e5
      have o5 := rq_fa_o (s := s) (n := n) (b := b4) (W := 3) (lo := 0) (hi := 9) (by decide)
      dsimp only
      rw [e5'] at o5 ⊢
      rw [rq_sbd_r]
      have G5 := G4.trans (f5.mono (fun k i => rq_wGr_y (by decide) (by omega)))
      have r5 : ∀ a j, 250 ≤ a → ¬ (a = 256 ∧ j = 6 + c) → ¬ (a = 257 ∧ j = 6 + c) → ¬ (a = 258 ∧ j = 6 + c) → ¬ (a = 259 ∧ j = 6 + c) → m5 a j = m a j := fun a j h1 h2 h3 h4 h5 => by rw [f5 a j (rq_wFy_r h1 h5), r4 a j h1 h2 h3 h4]
      have n5 : m5 248 40 = m2 248 40 := by rw [f5 248 40 rfl, n4]
      have c59 : m5 256 (6 + c) = kv := by rw [f5 256 _ (rq_wFy_r (by decide) (by omega)), c49]
      have c53 : m5 257 (6 + c) = x := by rw [f5 257 _ (rq_wFy_r (by decide) (by omega)), c43]
      have c54 : m5 258 (6 + c) = y := by rw [f5 258 _ (rq_wFy_r (by decide) (by omega)), c4]
      clear f3 f4 f5 r3 r4 n3 n4 c3 c4 c43 G3 G4 s3 s4 t3 t4 ts3 ts4 G0 g0 c0 ts0 t0 s0 ts9 f9 G9 s9 t9 r9 c9 n9 c39 c49
      rw [q_gfr, Option.bind_some, q_gfr, Option.bind_some, q_saL (k := 252) _ 12 (pt_248_12 s5) kd_252 ln_252 (show 6 + c < 12 by omega), Option.bind_some]
      have f6 : rq_fr rq_wGr m (rt_up m5 252 (6 + c) (m5 248 40)) := G5.up (by unfold rq_wGr; simp)
      have g6 : ∀ a j, ¬ (a = 252 ∧ j = 6 + c) → rt_up m5 252 (6 + c) (m5 248 40) a j = m5 a j := fun a j q => by rw [q_up, if_neg q]
      have c61 : rt_up m5 252 (6 + c) (m5 248 40) 252 (6 + c) = m2 248 40 := by rw [rq_upE, n5]
      have ts6 : rq_ts s n b5 (rt_up m5 252 (6 + c) (m5 248 40)) := rq_ts_fr ts5 (fun j h1 h2 => g6 _ _ (by omega))
      have t6 : rq_ty s n (rt_up m5 252 (6 + c) (m5 248 40)) := ⟨by rw [g6 _ _ (by omega)]; exact t5.1, fun i hi => by rw [g6 _ _ (by omega)]; exact t5.2 i hi⟩
      generalize rt_up m5 252 (6 + c) (m5 248 40) = m6 at f6 g6 c61 ts6 t6 ⊢
      have s6 := rq_st_fr hs f6 rq_wGr_st
      have e64 : m6 250 5 = (c : Int) := by rw [g6 _ _ (by omega), r5 _ _ (by omega) (by omega) (by omega) (by omega) (by omega), hd.1.2.1, hc']
      rw [q_gfr, Option.bind_some, q_a9 (k := 250) _ 5 8 5 (pt_248_10 s6) kd_250 ln_250 rfl (by decide), Option.bind_some, q_s9 (k := 250) _ 5 8 5 (pt_248_10 s6) kd_250 ln_250 rfl (by decide), Option.bind_some, e64, rq_n1 (by omega)]
      have f7 : rq_fr rq_wGr m (rt_up m6 250 5 ((c + 1 : Nat) : Int)) := f6.up rfl
      have g7 : ∀ a j, ¬ (a = 250 ∧ j = 5) → rt_up m6 250 5 ((c + 1 : Nat) : Int) a j = m6 a j := fun a j q => by rw [q_up, if_neg q]
      have c7 : rt_up m6 250 5 ((c + 1 : Nat) : Int) 250 5 = ((c + 1 : Nat) : Int) := rq_upE _ _ _ _
      generalize rt_up m6 250 5 ((c + 1 : Nat) : Int) = m7 at f7 g7 c7 ⊢
      have s7 := rq_st_fr hs f7 rq_wGr_st
      have ts7 : rq_ts s n b5 m7 := rq_ts_fr ts6 (fun j h1 h2 => g7 _ _ (by omega))
      have t7 : rq_ty s n m7 := ⟨by rw [g7 _ _ (by omega)]; exact t6.1, fun i hi => by rw [g7 _ _ (by omega)]; exact t6.2 i hi⟩
      refine rq_call (q_closesX s7 t7 hok o5.2.2.1 ts7) ?_
      rintro ⟨v8, m8⟩ ⟨f8, h8⟩
      dsimp only at f8 h8 ⊢
      have G8 := f7.trans (f8.mono (fun _ _ q => rq_w40_9 (rq_wGr_40 q)))
      have g8 : ∀ a j, 250 ≤ a → m8 a j = m7 a j := fun a j h => f8 a j (rq_w9_r (by omega))
      cases e8 : rq_stp s n b5 with
      | inl q =>
        rw [e8] at h8
        dsimp only at h8
        rw [h8.1, q_bz0, rq_sbd_l]
        exact rq_some.mpr ⟨G8, rfl, h8.2⟩
      | inr b6 =>
        rw [e8] at h8
        dsimp only at h8
        rw [h8.1, q_bz1, rq_sbd_r]
        refine rq_some.mpr ⟨G8, rfl, h8.2, rq_ah_dr hd hc' ?_ ?_ ?_ ?_ ?_ ?_ ?_⟩
        · show m8 256 (6 + c) = kv
          rw [g8 _ _ (by omega), g7 _ _ (by omega), g6 _ _ (by omega), c59]
        · show m8 257 (6 + c) = x
          rw [g8 _ _ (by omega), g7 _ _ (by omega), g6 _ _ (by omega), c53]
        · show m8 258 (6 + c) = y
          rw [g8 _ _ (by omega), g7 _ _ (by omega), g6 _ _ (by omega), c54]
        · show m8 259 (6 + c) = w
          rw [g8 _ _ (by omega), g7 _ _ (by omega), g6 _ _ (by omega), c5']
        · show rq_nm (rq_vl s n (rq_nxp s n b)) (m8 252 (6 + c))
          rw [g8 _ _ (by omega), g7 _ _ (by omega), c61]
          exact nm2
        · show m8 250 5 = (c : Int) + 1
          rw [g8 _ _ (by omega), c7]; omega
        · intro a j h1 h2 h3 h4
          show m8 a j = m a j
          rw [g8 _ _ h1, g7 _ _ h3, g6 _ _ (by omega), r5 _ _ h1 (by omega) (by omega) (by omega) (by omega)]
    rw [q_isWord hok bp2 ts2 (W := 14) (by decide) (c := 8740238) (by decide), Option.bind_some]
    by_cases z14 : rq_kd s n b2 = ((14 : Nat) : Int)
    · rw [if_pos z14, if_neg (by decide)]
      exact key 0 (by rw [if_pos (by omega)]; omega)
    rw [if_neg z14, if_pos rfl, q_isWord hok bp2 ts2 (W := 15) (by decide) (c := 6257) (by decide), Option.bind_some]
    by_cases z15 : rq_kd s n b2 = ((15 : Nat) : Int)
    · rw [if_pos z15, if_neg (by decide)]
      exact key 1 (by rw [if_pos (by omega)]; omega)
    rw [if_neg z15, if_pos rfl, q_isWord hok bp2 ts2 (W := 16) (by decide) (c := 40423) (by decide), Option.bind_some]
    by_cases z16 : rq_kd s n b2 = ((16 : Nat) : Int)
    · rw [if_pos z16, if_neg (by decide)]
      exact key 2 (by rw [if_pos (by omega)]; omega)
    rw [if_neg z16, if_pos rfl, q_isWord hok bp2 ts2 (W := 17) (by decide) (c := 1888) (by decide), Option.bind_some]
    by_cases z17 : rq_kd s n b2 = ((17 : Nat) : Int)
    · rw [if_pos z17, if_neg (by decide)]
      exact key 3 (by rw [if_pos (by omega)]; omega)
    rw [if_neg z17, if_pos rfl]
    exact key (-1) (by rw [if_neg (by omega)])
end
