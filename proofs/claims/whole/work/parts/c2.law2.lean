/-! Layer 4: the law's cases rests and horsehair, printed by program (wip/whole/genlaw2.py) -/
theorem rq_lcmp_s (x : Int) : rt_lcmp x x = 0 := by
  unfold rt_lcmp lg_cmp
  rw [if_neg (Int64.lt_irrefl)]
  simp
theorem rq_J_300 {r : Nat} {ρ : rq_R} {A : rq_A} {c : Nat} {m m' : rt_M} (h : rq_J r ρ A c m) (z : ∀ a j, a < 300 → m' a j = m a j) : rq_J r ρ A c m' := by
  obtain ⟨hC, hD, h7, hAc, hAr, hv, hcc, htp, hud, hmk⟩ := h
  have k : rq_fr (fun a _ => decide (300 ≤ a)) m m' := fun a j q => z a j (by have := of_decide_eq_false q; omega)
  have hs := rq_st_fr hC.1 k (by decide +kernel)
  refine ⟨⟨hs, hC.2.1, hC.2.2.1, rq_rc_fr hC.2.2.2 hC.2.2.1 (fun a j h1 h2 h3 h4 => z _ _ ?_)⟩, ⟨hs, hD.2.1, rq_rr_fr hD.2.2 (fun a j h1 h2 => z _ _ (by omega))⟩, ⟨by rw [z _ _ (by omega)]; exact h7.1, by rw [z _ _ (by omega)]; exact h7.2⟩, rq_Ac_fr hAc (fun a j h1 h2 => z _ _ (by omega)), rq_Ar_fr hAr (fun a j h1 h2 h3 h4 => z _ _ (by omega)), hv, by omega, rq_tp_fr htp (z _ _ (by omega)) (z _ _ (by omega)) (fun j => z _ _ (by omega)) (fun j => z _ _ (by omega)), rq_ud_fr (Nat.le_refl c) hud (z _ _ (by omega)) (z _ _ (by omega)) (z _ _ (by omega)) (fun a j h1 h2 => z _ _ (by omega)) (fun j => z _ _ (by omega)), rq_mk_fr (Nat.le_refl c) hmk (fun a j h1 h2 => z _ _ (by omega)) (fun j => z _ _ (by omega)) (fun a j h1 _ _ _ _ => z _ _ (by
      rcases h1 with h1 | h1 | h1
      · omega
      · omega
      · omega)) (fun i hi => by rw [z _ _ (by omega)]; exact hmk.2 i (by omega))⟩
  rcases hC.2.1 with rfl | rfl <;> omega
theorem rq_I_300 {c : Nat} {m : rt_M} (h : rq_I c m) (v : Int) : rq_I c (rt_up m 300 0 v) := by
  obtain ⟨r, ρ, A, hJ⟩ := h
  exact ⟨r, ρ, A, rq_J_300 hJ (fun a j ha => rt_up_ne _ _ (by omega))⟩
theorem lc_up {k : Nat} : rt_cells (41, 0) (301, k) + 8 = rt_cells (41, 0) (301, k + 1) ∧ rt_slots (41, 0) (301, k) + 200 = rt_slots (41, 0) (301, k + 1) := by
  refine ⟨?_, ?_⟩
  · show (301 - 41) + 8 * (k - 0) + 8 = (301 - 41) + 8 * (k + 1 - 0)
    omega
  · show (rt_ss 301 - rt_ss 41) + 200 * (k - 0) + 200 = (rt_ss 301 - rt_ss 41) + 200 * (k + 1 - 0)
    omega
abbrev M_L_rests : rt_Mt := (yL_rests, cL_rests, 6, some .int, (8, 200), 1)
theorem mw_L_rests : rx_Mw M_L_rests [(0, 12, 15, 13)] 5 := ⟨(rt_inG (rt_t5 79 (by decide +kernel)) rfl), (rt_inG (rt_t1 0 (by decide +kernel)) rfl), by decide +kernel, ⟨by decide +kernel, by decide +kernel, by decide +kernel⟩, by decide⟩
theorem mk_L_rests : Cond.methodLink RL 137 (rt_y M_L_rests) ∈ rt_mG ∧ Cond.static (rt_y M_L_rests) ∈ rt_mG := ⟨(rt_inG (rt_t5 77 (by decide +kernel)) rfl), (rt_inG (rt_t5 78 (by decide +kernel)) rfl)⟩
theorem mj_L_rests : Cond.methodLink RL 7 (rt_y M_X11_rests) ∈ rt_mG ∧ Cond.instanceMethod (rt_y M_X11_rests) ∈ rt_mG ∧ Cond.selects (rt_R 11) (rt_y M_X11_rests) (rt_y M_X11_rests) ∈ rt_mG := ⟨(rt_inG (rt_t5 81 (by decide +kernel)) rfl), (rt_inG (rt_t5 82 (by decide +kernel)) rfl), (rt_inG (rt_t5 83 (by decide +kernel)) rfl)⟩
theorem ml_L_142 : rt_Ml RL 142 M_X12_rests := Or.inl (rt_inG (rt_t8 58 (by decide +kernel)) rfl)
theorem ml_L_143 : rt_Ml RL 143 M_X12_thrown := Or.inl (rt_inG (rt_t6 162 (by decide +kernel)) rfl)
set_option maxHeartbeats 1000000 in
theorem cL_met_rests {G : rt_G} {d : Nat} {z : Nat × Nat} {mem : rt_M} (hz : 301 ≤ z.1) (hd : 1000 ≤ d) (a1 a2 a3 : Int) (t : Int ⊕ Unit) (h : f_X11_rests 41 a1 a2 a3 mem = some t) : RTh G M_L_rests d z (fun v z' m' => z' = (z.1, z.2 + 1) ∧ ((∃ r, t = .inl r ∧ v = some (0, 0) ∧ m' = rt_up mem 300 0 r) ∨ (t = .inr () ∧ v = some (0, 1) ∧ m' = mem))) [(0, 12, 15, 13)] 0 (rt_entry (rt_n M_L_rests) [(2, 41), (0, a1), (0, a2), (0, a3), (2, 300)]) [] z mem := by
  show RTh G M_L_rests d z _ _ 0 [(2, 41), (0, a1), (0, a2), (0, a3), (2, 300), (9, 0)] [] z mem
  refine RTh.aload (pc := 0) (k := 4) (x := 300) dL_rests_0 rfl ?_
  refine RTh.iconst (pc := 2) (n := 0) dL_rests_2 ⟨by decide, by decide⟩ ?_
  refine RTh.aload_n (pc := 3) (k := 0) (x := 41) dL_rests_3 rfl ?_
  refine RTh.iload_n (pc := 4) (k := 1) (x := a1) dL_rests_4 rfl ?_
  refine RTh.iload_n (pc := 5) (k := 2) (x := a2) dL_rests_5 rfl ?_
  refine RTh.iload_n (pc := 6) (k := 3) (x := a3) dL_rests_6 rfl ?_
  refine RTh.callX (M' := M_X11_rests) (ci := 11) (e1 := 12) (hp := 15) (j := 5) (x := 41) (As := [(0, a1), (0, a2), (0, a3)]) (st := [(0, 0), (2, 300)]) (d' := d - 1) rfl (by decide) rfl dL_rests_7 dL_rests_15 (by decide) mw_X11_rests (by decide +kernel) mj_L_rests.1 mj_L_rests.2.1 mj_L_rests.2.2 cl_X11 rfl rfl (show 41 < z.1 by omega) rfl rfl (Nat.le_of_ble_eq_true rfl) (Nat.le_of_ble_eq_true rfl) (by omega) ?_ ?_ (c_X11_rests (z := z) (by omega) (by omega) 41 a1 a2 a3 mem t rfl h) ?_ ?_
  · rw [rt_cells_0]; decide
  · rw [rt_slots_0]; decide
  · rintro v z' m' ⟨rfl, rfl, r, rfl, rfl⟩
    refine ⟨?_, ?_, ?_⟩
    · refine RT.i2l (pc := 10) dL_rests_10 ?_
      refine RT.last9 (pc := 11) (x := 300) (i := 0) (v := r) (mem1 := rt_up m' 300 0 r) dL_rests_11 (show 300 < z'.1 by omega) rfl ?_
      refine RT.goto (pc := 12) (tgt := 19) dL_rests_12 rfl ?_
      refine RT.iconst (pc := 19) (n := 0) dL_rests_19 ⟨by decide, by decide⟩ ?_
      exact RT.iret (pc := 20) dL_rests_20 rfl (Nat.le_of_eq (rx_cells8 z')) (Nat.le_of_eq (rx_slots8 z')) ⟨rfl, Or.inl ⟨r, rfl, rfl, rfl⟩⟩
    · rw [rx_cells8, rt_cells_0]; decide
    · rw [rx_slots8, rt_slots_0]; decide
  · rintro z' m' ⟨rfl, rfl, rfl⟩
    refine ⟨?_, ?_, ?_⟩
    · refine RT.iconst (pc := 17) (n := 1) dL_rests_17 ⟨by decide, by decide⟩ ?_
      exact RT.iret (pc := 18) dL_rests_18 rfl (Nat.le_of_eq (rx_cells8 z)) (Nat.le_of_eq (rx_slots8 z)) ⟨rfl, Or.inr ⟨rfl, rfl, rfl⟩⟩
    · rw [rx_cells8, rt_cells_0]; decide
    · rw [rx_slots8, rt_slots_0]; decide
set_option maxHeartbeats 1000000 in
theorem lc_1064 {G : rt_G} {Q : rt_P} {d n k : Nat} {mem : rt_M} (hd : 2048 ≤ d) (hk1 : k + 1 ≤ 512) (i : Int) (x : Nat → Int) (hX : lc_X G i x) (hI : rq_I n mem) (K : ∀ mem1, rq_I (n + 1) mem1 → RT G M_law d (41, 0) Q 1363 (lc_L i) [] (301, k + 1) mem1) : RT G M_law d (41, 0) Q 1064 (lc_L i) [] (301, k) mem := by
  obtain ⟨t, ht, hL⟩ := L_rests (x 1) (x 2) (x 3)
  refine RT.aload_n (pc := 1064) (k := 1) (x := 41) dL_law_1064 rfl ?_
  refine RT.aload_n (pc := 1065) (k := 0) (x := 40) dL_law_1065 rfl ?_
  refine RT.iload (pc := 1066) (k := 4) (x := i) dL_law_1066 rfl ?_
  refine RT.iconst (pc := 1068) (n := 1) dL_law_1068 ⟨by decide, by decide⟩ ?_
  refine RT.iadd (pc := 1069) dL_law_1069 ?_
  refine RT.sld (pc := 1070) (v := x 1) dL_law_1070 (hX 1 (by decide)) ?_
  refine RT.aload_n (pc := 1071) (k := 0) (x := 40) dL_law_1071 rfl ?_
  refine RT.iload (pc := 1072) (k := 4) (x := i) dL_law_1072 rfl ?_
  refine RT.iconst (pc := 1074) (n := 2) dL_law_1074 ⟨by decide, by decide⟩ ?_
  refine RT.iadd (pc := 1075) dL_law_1075 ?_
  refine RT.sld (pc := 1076) (v := x 2) dL_law_1076 (hX 2 (by decide)) ?_
  refine RT.aload_n (pc := 1077) (k := 0) (x := 40) dL_law_1077 rfl ?_
  refine RT.iload (pc := 1078) (k := 4) (x := i) dL_law_1078 rfl ?_
  refine RT.iconst (pc := 1080) (n := 3) dL_law_1080 ⟨by decide, by decide⟩ ?_
  refine RT.iadd (pc := 1081) dL_law_1081 ?_
  refine RT.sld (pc := 1082) (v := x 3) dL_law_1082 (hX 3 (by decide)) ?_
  refine RT.aload_n (pc := 1083) (k := 3) (x := 300) dL_law_1083 rfl ?_
  refine RT.callSW (pc := 1084) (M' := M_L_rests) (hh := [(0, 12, 15, 13)]) (As := [(2, 41), (0, x 1), (0, x 2), (0, x 3), (2, 300)]) (st := []) (d' := d - 1) dL_law_1084 mw_L_rests mk_L_rests.1 mk_L_rests.2 rfl rfl (Nat.le_of_ble_eq_true rfl) (Nat.le_of_ble_eq_true rfl) (by omega) ?_ ?_ (cL_met_rests (z := (301, k)) (Nat.le_refl _) (by omega) (x 1) (x 2) (x 3) t (ht mem)) ?_
  · rw [show rt_mc M_L_rests = 8 from rfl, lc_up.1]; exact (lc_room (by omega)).1
  · rw [show rt_ms M_L_rests = 200 from rfl, lc_up.2]; exact (lc_room (by omega)).2
  rintro v z' m' ⟨rfl, hcase⟩
  refine ⟨?_, Nat.le_of_eq lc_up.1, Nat.le_of_eq lc_up.2⟩
  rcases hcase with ⟨r, rfl, rfl, rfl⟩ | ⟨rfl, rfl, rfl⟩
  · obtain ⟨q, hq, hq1, -, hI1, h3⟩ := hL n _ (rq_I_300 hI r)
    obtain ⟨e, e0⟩ := hq1 r rfl
    have h300 : q.2 300 0 = r := h3.trans (rq_upE mem 300 0 r)
    have h0 : f_X12_thrown 248 q.2 = some 0 := by rw [← e0]; rfl
    refine RT.istore (pc := 1087) (k := 5) (x := 0) (L1 := [(2, 40), (2, 41), (2, 248), (2, 300), (0, i), (0, 0), (9, 0)]) dL_law_1087 (Nat.le_of_ble_eq_true rfl) rfl ?_
    refine RT.aload_n (pc := 1089) (k := 2) (x := 248) dL_law_1089 rfl ?_
    refine RT.aload_n (pc := 1090) (k := 0) (x := 40) dL_law_1090 rfl ?_
    refine RT.iload (pc := 1091) (k := 4) (x := i) dL_law_1091 rfl ?_
    refine RT.iconst (pc := 1093) (n := 1) dL_law_1093 ⟨by decide, by decide⟩ ?_
    refine RT.iadd (pc := 1094) dL_law_1094 ?_
    refine RT.sld (pc := 1095) (v := x 1) dL_law_1095 (hX 1 (by decide)) ?_
    refine RT.aload_n (pc := 1096) (k := 0) (x := 40) dL_law_1096 rfl ?_
    refine RT.iload (pc := 1097) (k := 4) (x := i) dL_law_1097 rfl ?_
    refine RT.iconst (pc := 1099) (n := 2) dL_law_1099 ⟨by decide, by decide⟩ ?_
    refine RT.iadd (pc := 1100) dL_law_1100 ?_
    refine RT.sld (pc := 1101) (v := x 2) dL_law_1101 (hX 2 (by decide)) ?_
    refine RT.aload_n (pc := 1102) (k := 0) (x := 40) dL_law_1102 rfl ?_
    refine RT.iload (pc := 1103) (k := 4) (x := i) dL_law_1103 rfl ?_
    refine RT.iconst (pc := 1105) (n := 3) dL_law_1105 ⟨by decide, by decide⟩ ?_
    refine RT.iadd (pc := 1106) dL_law_1106 ?_
    refine RT.sld (pc := 1107) (v := x 3) dL_law_1107 (hX 3 (by decide)) ?_
    refine RT.cV (pc := 1108) (M' := M_X12_rests) (ci := 12) (x := 248) (As := [(0, x 1), (0, x 2), (0, x 3)]) (st := []) (r := some (0, q.1)) (mem1 := q.2) (d' := d - 1) dL_law_1108 mw_X12_rests ml_L_142 mi_X12_rests rfl (Nat.le_of_ble_eq_true rfl) rfl rfl (Nat.le_of_ble_eq_true rfl) (Nat.le_of_ble_eq_true rfl) (by omega) (lc_room hk1).1 (lc_room hk1).2 (c_X12_rests (z := (301, k + 1)) (Nat.le_of_ble_eq_true rfl) (by omega) 248 (x 1) (x 2) (x 3) _ _ rfl hq) ?_
    refine RT.istore (pc := 1111) (k := 6) (x := q.1) (L1 := [(2, 40), (2, 41), (2, 248), (2, 300), (0, i), (0, 0), (0, q.1)]) dL_law_1111 (Nat.le_of_ble_eq_true rfl) rfl ?_
    refine RT.aload_n (pc := 1113) (k := 2) (x := 248) dL_law_1113 rfl ?_
    refine RT.cV (pc := 1114) (M' := M_X12_thrown) (ci := 12) (x := 248) (As := []) (st := []) (r := some (0, 0)) (mem1 := q.2) (d' := d - 1) dL_law_1114 mw_X12_thrown ml_L_143 mi_X12_thrown rfl (Nat.le_of_ble_eq_true rfl) rfl rfl (Nat.le_of_ble_eq_true rfl) (Nat.le_of_ble_eq_true rfl) (by omega) (lc_room hk1).1 (lc_room hk1).2 (c_X12_thrown (z := (301, k + 1)) (Nat.le_of_ble_eq_true rfl) (by omega) 248 _ _ rfl h0) ?_
    refine RT.iload (pc := 1117) (k := 5) (x := 0) dL_law_1117 rfl ?_
    refine RT.icmp_eq (pc := 1119) (tgt := 1124) dL_law_1119 rfl (fun _ => ?_) (fun z => absurd rfl z)
    refine RT.iload (pc := 1124) (k := 5) (x := 0) dL_law_1124 rfl ?_
    refine RT.if_ne (pc := 1126) (tgt := 1141) dL_law_1126 rfl (fun z => absurd rfl z) (fun _ => ?_)
    refine RT.aload_n (pc := 1129) (k := 3) (x := 300) dL_law_1129 rfl ?_
    refine RT.iconst (pc := 1130) (n := 0) dL_law_1130 ⟨by decide, by decide⟩ ?_
    refine RT.lald9 (pc := 1131) (x := 300) (i := 0) (v := q.1) dL_law_1131 (Nat.le_of_ble_eq_true rfl) (show some (q.2 300 0) = some q.1 by rw [h300, e]) ?_
    refine RT.iload (pc := 1132) (k := 6) (x := q.1) dL_law_1132 rfl ?_
    refine RT.i2l (pc := 1134) dL_law_1134 ?_
    refine RT.lcmp (pc := 1135) dL_law_1135 ?_
    refine RT.if_eq (pc := 1136) (tgt := 1141) dL_law_1136 rfl (fun _ => ?_) (fun z => absurd (rq_lcmp_s _) z)
    refine RT.goto (pc := 1141) (tgt := 1363) dL_law_1141 rfl ?_
    refine RT.wk (L1 := lc_L i) (rt_le_s (rt_le_s (rt_le_s (rt_le_s (rt_le_s (rt_le_j (rt_le_j rt_le_n))))))) ?_
    exact K q.2 hI1
  · obtain ⟨q, hq, -, hq1, hI1, -⟩ := hL n _ hI
    have h0 : f_X12_thrown 248 q.2 = some 1 := by rw [← hq1 rfl]; rfl
    refine RT.istore (pc := 1087) (k := 5) (x := 1) (L1 := [(2, 40), (2, 41), (2, 248), (2, 300), (0, i), (0, 1), (9, 0)]) dL_law_1087 (Nat.le_of_ble_eq_true rfl) rfl ?_
    refine RT.aload_n (pc := 1089) (k := 2) (x := 248) dL_law_1089 rfl ?_
    refine RT.aload_n (pc := 1090) (k := 0) (x := 40) dL_law_1090 rfl ?_
    refine RT.iload (pc := 1091) (k := 4) (x := i) dL_law_1091 rfl ?_
    refine RT.iconst (pc := 1093) (n := 1) dL_law_1093 ⟨by decide, by decide⟩ ?_
    refine RT.iadd (pc := 1094) dL_law_1094 ?_
    refine RT.sld (pc := 1095) (v := x 1) dL_law_1095 (hX 1 (by decide)) ?_
    refine RT.aload_n (pc := 1096) (k := 0) (x := 40) dL_law_1096 rfl ?_
    refine RT.iload (pc := 1097) (k := 4) (x := i) dL_law_1097 rfl ?_
    refine RT.iconst (pc := 1099) (n := 2) dL_law_1099 ⟨by decide, by decide⟩ ?_
    refine RT.iadd (pc := 1100) dL_law_1100 ?_
    refine RT.sld (pc := 1101) (v := x 2) dL_law_1101 (hX 2 (by decide)) ?_
    refine RT.aload_n (pc := 1102) (k := 0) (x := 40) dL_law_1102 rfl ?_
    refine RT.iload (pc := 1103) (k := 4) (x := i) dL_law_1103 rfl ?_
    refine RT.iconst (pc := 1105) (n := 3) dL_law_1105 ⟨by decide, by decide⟩ ?_
    refine RT.iadd (pc := 1106) dL_law_1106 ?_
    refine RT.sld (pc := 1107) (v := x 3) dL_law_1107 (hX 3 (by decide)) ?_
    refine RT.cV (pc := 1108) (M' := M_X12_rests) (ci := 12) (x := 248) (As := [(0, x 1), (0, x 2), (0, x 3)]) (st := []) (r := some (0, q.1)) (mem1 := q.2) (d' := d - 1) dL_law_1108 mw_X12_rests ml_L_142 mi_X12_rests rfl (Nat.le_of_ble_eq_true rfl) rfl rfl (Nat.le_of_ble_eq_true rfl) (Nat.le_of_ble_eq_true rfl) (by omega) (lc_room hk1).1 (lc_room hk1).2 (c_X12_rests (z := (301, k + 1)) (Nat.le_of_ble_eq_true rfl) (by omega) 248 (x 1) (x 2) (x 3) _ _ rfl hq) ?_
    refine RT.istore (pc := 1111) (k := 6) (x := q.1) (L1 := [(2, 40), (2, 41), (2, 248), (2, 300), (0, i), (0, 1), (0, q.1)]) dL_law_1111 (Nat.le_of_ble_eq_true rfl) rfl ?_
    refine RT.aload_n (pc := 1113) (k := 2) (x := 248) dL_law_1113 rfl ?_
    refine RT.cV (pc := 1114) (M' := M_X12_thrown) (ci := 12) (x := 248) (As := []) (st := []) (r := some (0, 1)) (mem1 := q.2) (d' := d - 1) dL_law_1114 mw_X12_thrown ml_L_143 mi_X12_thrown rfl (Nat.le_of_ble_eq_true rfl) rfl rfl (Nat.le_of_ble_eq_true rfl) (Nat.le_of_ble_eq_true rfl) (by omega) (lc_room hk1).1 (lc_room hk1).2 (c_X12_thrown (z := (301, k + 1)) (Nat.le_of_ble_eq_true rfl) (by omega) 248 _ _ rfl h0) ?_
    refine RT.iload (pc := 1117) (k := 5) (x := 1) dL_law_1117 rfl ?_
    refine RT.icmp_eq (pc := 1119) (tgt := 1124) dL_law_1119 rfl (fun _ => ?_) (fun z => absurd rfl z)
    refine RT.iload (pc := 1124) (k := 5) (x := 1) dL_law_1124 rfl ?_
    refine RT.if_ne (pc := 1126) (tgt := 1141) dL_law_1126 rfl (fun _ => ?_) (fun z => absurd (by decide) z)
    refine RT.goto (pc := 1141) (tgt := 1363) dL_law_1141 rfl ?_
    refine RT.wk (L1 := lc_L i) (rt_le_s (rt_le_s (rt_le_s (rt_le_s (rt_le_s (rt_le_j (rt_le_j rt_le_n))))))) ?_
    exact K q.2 hI1
abbrev M_L_horsehair : rt_Mt := (yL_horsehair, cL_horsehair, 7, some .int, (8, 200), 1)
theorem mw_L_horsehair : rx_Mw M_L_horsehair [(0, 14, 17, 13)] 6 := ⟨(rt_inG (rt_t5 160 (by decide +kernel)) rfl), (rt_inG (rt_t1 0 (by decide +kernel)) rfl), by decide +kernel, ⟨by decide +kernel, by decide +kernel, by decide +kernel⟩, by decide⟩
theorem mk_L_horsehair : Cond.methodLink RL 146 (rt_y M_L_horsehair) ∈ rt_mG ∧ Cond.static (rt_y M_L_horsehair) ∈ rt_mG := ⟨(rt_inG (rt_t5 158 (by decide +kernel)) rfl), (rt_inG (rt_t5 159 (by decide +kernel)) rfl)⟩
theorem mj_L_horsehair : Cond.methodLink RL 15 (rt_y M_X11_horsehair) ∈ rt_mG ∧ Cond.instanceMethod (rt_y M_X11_horsehair) ∈ rt_mG ∧ Cond.selects (rt_R 11) (rt_y M_X11_horsehair) (rt_y M_X11_horsehair) ∈ rt_mG := ⟨(rt_inG (rt_t5 161 (by decide +kernel)) rfl), (rt_inG (rt_t5 162 (by decide +kernel)) rfl), (rt_inG (rt_t5 163 (by decide +kernel)) rfl)⟩
theorem ml_L_149 : rt_Ml RL 149 M_X12_horsehair := Or.inl (rt_inG (rt_t8 68 (by decide +kernel)) rfl)
set_option maxHeartbeats 1000000 in
theorem cL_met_horsehair {G : rt_G} {d : Nat} {z : Nat × Nat} {mem : rt_M} (hz : 301 ≤ z.1) (hd : 1000 ≤ d) (a1 a2 a3 a4 : Int) (t : Int ⊕ Unit) (h : f_X11_horsehair 41 a1 a2 a3 a4 mem = some t) : RTh G M_L_horsehair d z (fun v z' m' => z' = (z.1, z.2 + 1) ∧ ((∃ r, t = .inl r ∧ v = some (0, 0) ∧ m' = rt_up mem 300 0 r) ∨ (t = .inr () ∧ v = some (0, 1) ∧ m' = mem))) [(0, 14, 17, 13)] 0 (rt_entry (rt_n M_L_horsehair) [(2, 41), (0, a1), (0, a2), (0, a3), (0, a4), (2, 300)]) [] z mem := by
  show RTh G M_L_horsehair d z _ _ 0 [(2, 41), (0, a1), (0, a2), (0, a3), (0, a4), (2, 300), (9, 0)] [] z mem
  refine RTh.aload (pc := 0) (k := 5) (x := 300) dL_horsehair_0 rfl ?_
  refine RTh.iconst (pc := 2) (n := 0) dL_horsehair_2 ⟨by decide, by decide⟩ ?_
  refine RTh.aload_n (pc := 3) (k := 0) (x := 41) dL_horsehair_3 rfl ?_
  refine RTh.iload_n (pc := 4) (k := 1) (x := a1) dL_horsehair_4 rfl ?_
  refine RTh.iload_n (pc := 5) (k := 2) (x := a2) dL_horsehair_5 rfl ?_
  refine RTh.iload_n (pc := 6) (k := 3) (x := a3) dL_horsehair_6 rfl ?_
  refine RTh.iload (pc := 7) (k := 4) (x := a4) dL_horsehair_7 rfl ?_
  refine RTh.callX (M' := M_X11_horsehair) (ci := 11) (e1 := 14) (hp := 17) (j := 6) (x := 41) (As := [(0, a1), (0, a2), (0, a3), (0, a4)]) (st := [(0, 0), (2, 300)]) (d' := d - 1) rfl (by decide) rfl dL_horsehair_9 dL_horsehair_17 (by decide) mw_X11_horsehair (by decide +kernel) mj_L_horsehair.1 mj_L_horsehair.2.1 mj_L_horsehair.2.2 cl_X11 rfl rfl (show 41 < z.1 by omega) rfl rfl (Nat.le_of_ble_eq_true rfl) (Nat.le_of_ble_eq_true rfl) (by omega) ?_ ?_ (c_X11_horsehair (z := z) (by omega) (by omega) 41 a1 a2 a3 a4 mem t rfl h) ?_ ?_
  · rw [rt_cells_0]; decide
  · rw [rt_slots_0]; decide
  · rintro v z' m' ⟨rfl, rfl, r, rfl, rfl⟩
    refine ⟨?_, ?_, ?_⟩
    · refine RT.i2l (pc := 12) dL_horsehair_12 ?_
      refine RT.last9 (pc := 13) (x := 300) (i := 0) (v := r) (mem1 := rt_up m' 300 0 r) dL_horsehair_13 (show 300 < z'.1 by omega) rfl ?_
      refine RT.goto (pc := 14) (tgt := 21) dL_horsehair_14 rfl ?_
      refine RT.iconst (pc := 21) (n := 0) dL_horsehair_21 ⟨by decide, by decide⟩ ?_
      exact RT.iret (pc := 22) dL_horsehair_22 rfl (Nat.le_of_eq (rx_cells8 z')) (Nat.le_of_eq (rx_slots8 z')) ⟨rfl, Or.inl ⟨r, rfl, rfl, rfl⟩⟩
    · rw [rx_cells8, rt_cells_0]; decide
    · rw [rx_slots8, rt_slots_0]; decide
  · rintro z' m' ⟨rfl, rfl, rfl⟩
    refine ⟨?_, ?_, ?_⟩
    · refine RT.iconst (pc := 19) (n := 1) dL_horsehair_19 ⟨by decide, by decide⟩ ?_
      exact RT.iret (pc := 20) dL_horsehair_20 rfl (Nat.le_of_eq (rx_cells8 z)) (Nat.le_of_eq (rx_slots8 z)) ⟨rfl, Or.inr ⟨rfl, rfl, rfl⟩⟩
    · rw [rx_cells8, rt_cells_0]; decide
    · rw [rx_slots8, rt_slots_0]; decide
set_option maxHeartbeats 1000000 in
theorem lc_1144 {G : rt_G} {Q : rt_P} {d n k : Nat} {mem : rt_M} (hd : 2048 ≤ d) (hk1 : k + 1 ≤ 512) (i : Int) (x : Nat → Int) (hX : lc_X G i x) (hI : rq_I n mem) (K : ∀ mem1, rq_I (n + 1) mem1 → RT G M_law d (41, 0) Q 1363 (lc_L i) [] (301, k + 1) mem1) : RT G M_law d (41, 0) Q 1144 (lc_L i) [] (301, k) mem := by
  obtain ⟨t, ht, hL⟩ := L_horsehair (x 1) (x 2) (x 3) (x 4)
  refine RT.aload_n (pc := 1144) (k := 1) (x := 41) dL_law_1144 rfl ?_
  refine RT.aload_n (pc := 1145) (k := 0) (x := 40) dL_law_1145 rfl ?_
  refine RT.iload (pc := 1146) (k := 4) (x := i) dL_law_1146 rfl ?_
  refine RT.iconst (pc := 1148) (n := 1) dL_law_1148 ⟨by decide, by decide⟩ ?_
  refine RT.iadd (pc := 1149) dL_law_1149 ?_
  refine RT.sld (pc := 1150) (v := x 1) dL_law_1150 (hX 1 (by decide)) ?_
  refine RT.aload_n (pc := 1151) (k := 0) (x := 40) dL_law_1151 rfl ?_
  refine RT.iload (pc := 1152) (k := 4) (x := i) dL_law_1152 rfl ?_
  refine RT.iconst (pc := 1154) (n := 2) dL_law_1154 ⟨by decide, by decide⟩ ?_
  refine RT.iadd (pc := 1155) dL_law_1155 ?_
  refine RT.sld (pc := 1156) (v := x 2) dL_law_1156 (hX 2 (by decide)) ?_
  refine RT.aload_n (pc := 1157) (k := 0) (x := 40) dL_law_1157 rfl ?_
  refine RT.iload (pc := 1158) (k := 4) (x := i) dL_law_1158 rfl ?_
  refine RT.iconst (pc := 1160) (n := 3) dL_law_1160 ⟨by decide, by decide⟩ ?_
  refine RT.iadd (pc := 1161) dL_law_1161 ?_
  refine RT.sld (pc := 1162) (v := x 3) dL_law_1162 (hX 3 (by decide)) ?_
  refine RT.aload_n (pc := 1163) (k := 0) (x := 40) dL_law_1163 rfl ?_
  refine RT.iload (pc := 1164) (k := 4) (x := i) dL_law_1164 rfl ?_
  refine RT.iconst (pc := 1166) (n := 4) dL_law_1166 ⟨by decide, by decide⟩ ?_
  refine RT.iadd (pc := 1167) dL_law_1167 ?_
  refine RT.sld (pc := 1168) (v := x 4) dL_law_1168 (hX 4 (by decide)) ?_
  refine RT.aload_n (pc := 1169) (k := 3) (x := 300) dL_law_1169 rfl ?_
  refine RT.callSW (pc := 1170) (M' := M_L_horsehair) (hh := [(0, 14, 17, 13)]) (As := [(2, 41), (0, x 1), (0, x 2), (0, x 3), (0, x 4), (2, 300)]) (st := []) (d' := d - 1) dL_law_1170 mw_L_horsehair mk_L_horsehair.1 mk_L_horsehair.2 rfl rfl (Nat.le_of_ble_eq_true rfl) (Nat.le_of_ble_eq_true rfl) (by omega) ?_ ?_ (cL_met_horsehair (z := (301, k)) (Nat.le_refl _) (by omega) (x 1) (x 2) (x 3) (x 4) t (ht mem)) ?_
  · rw [show rt_mc M_L_horsehair = 8 from rfl, lc_up.1]; exact (lc_room (by omega)).1
  · rw [show rt_ms M_L_horsehair = 200 from rfl, lc_up.2]; exact (lc_room (by omega)).2
  rintro v z' m' ⟨rfl, hcase⟩
  refine ⟨?_, Nat.le_of_eq lc_up.1, Nat.le_of_eq lc_up.2⟩
  rcases hcase with ⟨r, rfl, rfl, rfl⟩ | ⟨rfl, rfl, rfl⟩
  · obtain ⟨q, hq, hq1, -, hI1, h3⟩ := hL n _ (rq_I_300 hI r)
    obtain ⟨e, e0⟩ := hq1 r rfl
    have h300 : q.2 300 0 = r := h3.trans (rq_upE mem 300 0 r)
    have h0 : f_X12_thrown 248 q.2 = some 0 := by rw [← e0]; rfl
    refine RT.istore (pc := 1173) (k := 5) (x := 0) (L1 := [(2, 40), (2, 41), (2, 248), (2, 300), (0, i), (0, 0), (9, 0)]) dL_law_1173 (Nat.le_of_ble_eq_true rfl) rfl ?_
    refine RT.aload_n (pc := 1175) (k := 2) (x := 248) dL_law_1175 rfl ?_
    refine RT.aload_n (pc := 1176) (k := 0) (x := 40) dL_law_1176 rfl ?_
    refine RT.iload (pc := 1177) (k := 4) (x := i) dL_law_1177 rfl ?_
    refine RT.iconst (pc := 1179) (n := 1) dL_law_1179 ⟨by decide, by decide⟩ ?_
    refine RT.iadd (pc := 1180) dL_law_1180 ?_
    refine RT.sld (pc := 1181) (v := x 1) dL_law_1181 (hX 1 (by decide)) ?_
    refine RT.aload_n (pc := 1182) (k := 0) (x := 40) dL_law_1182 rfl ?_
    refine RT.iload (pc := 1183) (k := 4) (x := i) dL_law_1183 rfl ?_
    refine RT.iconst (pc := 1185) (n := 2) dL_law_1185 ⟨by decide, by decide⟩ ?_
    refine RT.iadd (pc := 1186) dL_law_1186 ?_
    refine RT.sld (pc := 1187) (v := x 2) dL_law_1187 (hX 2 (by decide)) ?_
    refine RT.aload_n (pc := 1188) (k := 0) (x := 40) dL_law_1188 rfl ?_
    refine RT.iload (pc := 1189) (k := 4) (x := i) dL_law_1189 rfl ?_
    refine RT.iconst (pc := 1191) (n := 3) dL_law_1191 ⟨by decide, by decide⟩ ?_
    refine RT.iadd (pc := 1192) dL_law_1192 ?_
    refine RT.sld (pc := 1193) (v := x 3) dL_law_1193 (hX 3 (by decide)) ?_
    refine RT.aload_n (pc := 1194) (k := 0) (x := 40) dL_law_1194 rfl ?_
    refine RT.iload (pc := 1195) (k := 4) (x := i) dL_law_1195 rfl ?_
    refine RT.iconst (pc := 1197) (n := 4) dL_law_1197 ⟨by decide, by decide⟩ ?_
    refine RT.iadd (pc := 1198) dL_law_1198 ?_
    refine RT.sld (pc := 1199) (v := x 4) dL_law_1199 (hX 4 (by decide)) ?_
    refine RT.cV (pc := 1200) (M' := M_X12_horsehair) (ci := 12) (x := 248) (As := [(0, x 1), (0, x 2), (0, x 3), (0, x 4)]) (st := []) (r := some (0, q.1)) (mem1 := q.2) (d' := d - 1) dL_law_1200 mw_X12_horsehair ml_L_149 mi_X12_horsehair rfl (Nat.le_of_ble_eq_true rfl) rfl rfl (Nat.le_of_ble_eq_true rfl) (Nat.le_of_ble_eq_true rfl) (by omega) (lc_room hk1).1 (lc_room hk1).2 (c_X12_horsehair (z := (301, k + 1)) (Nat.le_of_ble_eq_true rfl) (by omega) 248 (x 1) (x 2) (x 3) (x 4) _ _ rfl hq) ?_
    refine RT.istore (pc := 1203) (k := 6) (x := q.1) (L1 := [(2, 40), (2, 41), (2, 248), (2, 300), (0, i), (0, 0), (0, q.1)]) dL_law_1203 (Nat.le_of_ble_eq_true rfl) rfl ?_
    refine RT.aload_n (pc := 1205) (k := 2) (x := 248) dL_law_1205 rfl ?_
    refine RT.cV (pc := 1206) (M' := M_X12_thrown) (ci := 12) (x := 248) (As := []) (st := []) (r := some (0, 0)) (mem1 := q.2) (d' := d - 1) dL_law_1206 mw_X12_thrown ml_L_143 mi_X12_thrown rfl (Nat.le_of_ble_eq_true rfl) rfl rfl (Nat.le_of_ble_eq_true rfl) (Nat.le_of_ble_eq_true rfl) (by omega) (lc_room hk1).1 (lc_room hk1).2 (c_X12_thrown (z := (301, k + 1)) (Nat.le_of_ble_eq_true rfl) (by omega) 248 _ _ rfl h0) ?_
    refine RT.iload (pc := 1209) (k := 5) (x := 0) dL_law_1209 rfl ?_
    refine RT.icmp_eq (pc := 1211) (tgt := 1216) dL_law_1211 rfl (fun _ => ?_) (fun z => absurd rfl z)
    refine RT.iload (pc := 1216) (k := 5) (x := 0) dL_law_1216 rfl ?_
    refine RT.if_ne (pc := 1218) (tgt := 1233) dL_law_1218 rfl (fun z => absurd rfl z) (fun _ => ?_)
    refine RT.aload_n (pc := 1221) (k := 3) (x := 300) dL_law_1221 rfl ?_
    refine RT.iconst (pc := 1222) (n := 0) dL_law_1222 ⟨by decide, by decide⟩ ?_
    refine RT.lald9 (pc := 1223) (x := 300) (i := 0) (v := q.1) dL_law_1223 (Nat.le_of_ble_eq_true rfl) (show some (q.2 300 0) = some q.1 by rw [h300, e]) ?_
    refine RT.iload (pc := 1224) (k := 6) (x := q.1) dL_law_1224 rfl ?_
    refine RT.i2l (pc := 1226) dL_law_1226 ?_
    refine RT.lcmp (pc := 1227) dL_law_1227 ?_
    refine RT.if_eq (pc := 1228) (tgt := 1233) dL_law_1228 rfl (fun _ => ?_) (fun z => absurd (rq_lcmp_s _) z)
    refine RT.goto (pc := 1233) (tgt := 1363) dL_law_1233 rfl ?_
    refine RT.wk (L1 := lc_L i) (rt_le_s (rt_le_s (rt_le_s (rt_le_s (rt_le_s (rt_le_j (rt_le_j rt_le_n))))))) ?_
    exact K q.2 hI1
  · obtain ⟨q, hq, -, hq1, hI1, -⟩ := hL n _ hI
    have h0 : f_X12_thrown 248 q.2 = some 1 := by rw [← hq1 rfl]; rfl
    refine RT.istore (pc := 1173) (k := 5) (x := 1) (L1 := [(2, 40), (2, 41), (2, 248), (2, 300), (0, i), (0, 1), (9, 0)]) dL_law_1173 (Nat.le_of_ble_eq_true rfl) rfl ?_
    refine RT.aload_n (pc := 1175) (k := 2) (x := 248) dL_law_1175 rfl ?_
    refine RT.aload_n (pc := 1176) (k := 0) (x := 40) dL_law_1176 rfl ?_
    refine RT.iload (pc := 1177) (k := 4) (x := i) dL_law_1177 rfl ?_
    refine RT.iconst (pc := 1179) (n := 1) dL_law_1179 ⟨by decide, by decide⟩ ?_
    refine RT.iadd (pc := 1180) dL_law_1180 ?_
    refine RT.sld (pc := 1181) (v := x 1) dL_law_1181 (hX 1 (by decide)) ?_
    refine RT.aload_n (pc := 1182) (k := 0) (x := 40) dL_law_1182 rfl ?_
    refine RT.iload (pc := 1183) (k := 4) (x := i) dL_law_1183 rfl ?_
    refine RT.iconst (pc := 1185) (n := 2) dL_law_1185 ⟨by decide, by decide⟩ ?_
    refine RT.iadd (pc := 1186) dL_law_1186 ?_
    refine RT.sld (pc := 1187) (v := x 2) dL_law_1187 (hX 2 (by decide)) ?_
    refine RT.aload_n (pc := 1188) (k := 0) (x := 40) dL_law_1188 rfl ?_
    refine RT.iload (pc := 1189) (k := 4) (x := i) dL_law_1189 rfl ?_
    refine RT.iconst (pc := 1191) (n := 3) dL_law_1191 ⟨by decide, by decide⟩ ?_
    refine RT.iadd (pc := 1192) dL_law_1192 ?_
    refine RT.sld (pc := 1193) (v := x 3) dL_law_1193 (hX 3 (by decide)) ?_
    refine RT.aload_n (pc := 1194) (k := 0) (x := 40) dL_law_1194 rfl ?_
    refine RT.iload (pc := 1195) (k := 4) (x := i) dL_law_1195 rfl ?_
    refine RT.iconst (pc := 1197) (n := 4) dL_law_1197 ⟨by decide, by decide⟩ ?_
    refine RT.iadd (pc := 1198) dL_law_1198 ?_
    refine RT.sld (pc := 1199) (v := x 4) dL_law_1199 (hX 4 (by decide)) ?_
    refine RT.cV (pc := 1200) (M' := M_X12_horsehair) (ci := 12) (x := 248) (As := [(0, x 1), (0, x 2), (0, x 3), (0, x 4)]) (st := []) (r := some (0, q.1)) (mem1 := q.2) (d' := d - 1) dL_law_1200 mw_X12_horsehair ml_L_149 mi_X12_horsehair rfl (Nat.le_of_ble_eq_true rfl) rfl rfl (Nat.le_of_ble_eq_true rfl) (Nat.le_of_ble_eq_true rfl) (by omega) (lc_room hk1).1 (lc_room hk1).2 (c_X12_horsehair (z := (301, k + 1)) (Nat.le_of_ble_eq_true rfl) (by omega) 248 (x 1) (x 2) (x 3) (x 4) _ _ rfl hq) ?_
    refine RT.istore (pc := 1203) (k := 6) (x := q.1) (L1 := [(2, 40), (2, 41), (2, 248), (2, 300), (0, i), (0, 1), (0, q.1)]) dL_law_1203 (Nat.le_of_ble_eq_true rfl) rfl ?_
    refine RT.aload_n (pc := 1205) (k := 2) (x := 248) dL_law_1205 rfl ?_
    refine RT.cV (pc := 1206) (M' := M_X12_thrown) (ci := 12) (x := 248) (As := []) (st := []) (r := some (0, 1)) (mem1 := q.2) (d' := d - 1) dL_law_1206 mw_X12_thrown ml_L_143 mi_X12_thrown rfl (Nat.le_of_ble_eq_true rfl) rfl rfl (Nat.le_of_ble_eq_true rfl) (Nat.le_of_ble_eq_true rfl) (by omega) (lc_room hk1).1 (lc_room hk1).2 (c_X12_thrown (z := (301, k + 1)) (Nat.le_of_ble_eq_true rfl) (by omega) 248 _ _ rfl h0) ?_
    refine RT.iload (pc := 1209) (k := 5) (x := 1) dL_law_1209 rfl ?_
    refine RT.icmp_eq (pc := 1211) (tgt := 1216) dL_law_1211 rfl (fun _ => ?_) (fun z => absurd rfl z)
    refine RT.iload (pc := 1216) (k := 5) (x := 1) dL_law_1216 rfl ?_
    refine RT.if_ne (pc := 1218) (tgt := 1233) dL_law_1218 rfl (fun _ => ?_) (fun z => absurd (by decide) z)
    refine RT.goto (pc := 1233) (tgt := 1363) dL_law_1233 rfl ?_
    refine RT.wk (L1 := lc_L i) (rt_le_s (rt_le_s (rt_le_s (rt_le_s (rt_le_s (rt_le_j (rt_le_j rt_le_n))))))) ?_
    exact K q.2 hI1
