theorem cj_X11_fill_27 {G : rt_G} {d : Nat} {z : Nat × Nat} {Q : rt_P} (hz : 300 ≤ z.1) (hd : 6 ≤ d) {a0 : Int} (ht : rt_kd a0.toNat = 20 + 11) (mem0 : rt_M) (t : Int × rt_M) (h : j_X11_fill_27 mem0 = some t) (hK : Q (some (0, t.1)) z t.2) : RT G M_X11_fill d z Q 27 [(9, 0), (9, 0), (9, 0), (9, 0), (9, 0)] [] z mem0 := by
  unfold j_X11_fill_27 at h
  refine RT.bipush (pc := 27) (n := (-2)) dX11_fill_27 ⟨by decide, by decide⟩ rfl ?_
  obtain rfl := Option.some.inj h
  exact RT.iret (pc := 29) dX11_fill_29 rfl (Nat.le_of_eq (rt_cells_0 z)) (Nat.le_of_eq (rt_slots_0 z)) hK
theorem cj_X11_fill_91_63 {G : rt_G} {d : Nat} {z : Nat × Nat} {Q : rt_P} (hz : 300 ≤ z.1) (hd : 6 ≤ d) {a0 : Int} (ht : rt_kd a0.toNat = 20 + 11) (a1 : Int) (a2 : Int) (a3 : Int) (a4 : Int) (mem0 : rt_M) (t : (Int × rt_M) ⊕ (rt_M)) (h : j_X11_fill_91_63 a0 a1 a2 a3 a4 mem0 = some t) (hK : (∀ s1 : Int × rt_M, t = .inl s1 → RT G M_X11_fill d z Q 63 [(2, a0), (0, a1), (0, a2), (0, a3), (0, s1.1)] [] z s1.2) ∧ (∀ x1 : rt_M, t = .inr x1 → RT G M_X11_fill d z Q 97 [(2, a0), (9, 0), (0, a2), (9, 0), (9, 0)] [] z x1)) : RT G M_X11_fill d z Q 91 [(2, a0), (0, a1), (0, a2), (0, a3), (0, a4)] [] z mem0 := by
  unfold j_X11_fill_91_63 at h
  refine RT.iinc (pc := 91) (x := a4) (L1 := [(2, a0), (0, a1), (0, a2), (0, a3), (0, (rt_iadd a4 1))]) dX11_fill_91 rfl (Nat.le_of_ble_eq_true rfl) ⟨by decide, by decide⟩ rfl ?_
  refine RT.goto (pc := 94) (tgt := 63) dX11_fill_94 rfl ?_
  obtain rfl := Option.some.inj h
  have q1 := hK.1 (((rt_iadd a4 1), mem0)) rfl
  try dsimp only at q1
  exact q1
theorem cb_X11_fill_63 {G : rt_G} {d : Nat} {z : Nat × Nat} {Q : rt_P} (hz : 300 ≤ z.1) (hd : 6 ≤ d) {a0 : Int} (ht : rt_kd a0.toNat = 20 + 11) (a1 : Int) (a2 : Int) (a3 : Int) (s : Int × rt_M) (t : (Int × rt_M) ⊕ (rt_M)) (h : b_X11_fill_63 a0 a1 a2 a3 s = some t) (hK : (∀ s1 : Int × rt_M, t = .inl s1 → RT G M_X11_fill d z Q 63 [(2, a0), (0, a1), (0, a2), (0, a3), (0, s1.1)] [] z s1.2) ∧ (∀ x1 : rt_M, t = .inr x1 → RT G M_X11_fill d z Q 97 [(2, a0), (9, 0), (0, a2), (9, 0), (9, 0)] [] z x1)) : RT G M_X11_fill d z Q 63 [(2, a0), (0, a1), (0, a2), (0, a3), (0, s.1)] [] z s.2 := by
  unfold b_X11_fill_63 at h
  refine RT.iload (pc := 63) (k := 4) (x := s.1) dX11_fill_63 rfl ?_
  refine RT.aload_n (pc := 65) (k := 0) (x := a0) dX11_fill_65 rfl ?_
  obtain ⟨v66, hv66, h⟩ := Option.bind_eq_some_iff.mp h
  refine RT.gf 11 7 2 (pc := 66) (x := a0) (v := v66) hz dX11_fill_66 fl_X11_45 rfl hv66 ?_
  obtain ⟨v69, hv69, h⟩ := Option.bind_eq_some_iff.mp h
  refine RT.gf 4 0 0 (pc := 69) (x := v66) (v := v69) hz dX11_fill_69 fl_X11_217 rfl hv69 ?_
  refine RT.icmp_ge (pc := 72) (tgt := 97) dX11_fill_72 rfl (fun q72 => ?_) (fun q72 => ?_)
  · rw [if_pos q72] at h
    refine RT.wk (L1 := [(2, a0), (9, 0), (0, a2), (9, 0), (9, 0)]) (rt_le_s (rt_le_j (rt_le_s (rt_le_j (rt_le_j rt_le_n))))) ?_
    obtain rfl := Option.some.inj h
    have q1 := hK.2 s.2 rfl
    try dsimp only at q1
    exact q1
  · rw [if_neg q72] at h
    refine RT.iload_n (pc := 75) (k := 3) (x := a3) dX11_fill_75 rfl ?_
    refine RT.iload (pc := 76) (k := 4) (x := s.1) dX11_fill_76 rfl ?_
    refine RT.ishr (pc := 78) dX11_fill_78 ?_
    refine RT.iconst (pc := 79) (n := 1) dX11_fill_79 ⟨by decide, by decide⟩ ?_
    refine RT.iand (pc := 80) dX11_fill_80 ?_
    refine RT.if_ne (pc := 81) (tgt := 91) dX11_fill_81 rfl (fun q81 => ?_) (fun q81 => ?_)
    · rw [if_neg q81] at h
      exact cj_X11_fill_91_63 hz hd ht a1 a2 a3 s.1 s.2 _ h hK
    · rw [if_pos (Classical.not_not.mp q81)] at h
      refine RT.aload_n (pc := 84) (k := 0) (x := a0) dX11_fill_84 rfl ?_
      refine RT.iload (pc := 85) (k := 4) (x := s.1) dX11_fill_85 rfl ?_
      refine RT.iload_n (pc := 87) (k := 1) (x := a1) dX11_fill_87 rfl ?_
      obtain ⟨p88, hp88, h⟩ := Option.bind_eq_some_iff.mp h
      refine RT.cVz (pc := 88) (M' := M_X11_openHeads) (ci := 11) (x := a0) (As := [(0, s.1), (0, a1)]) (st := []) (r := none) (mem1 := p88) (d' := d - 1) hz dX11_fill_88 mw_X11_openHeads ml_X11_230 mi_X11_openHeads ht rfl rfl (Nat.le_of_ble_eq_true rfl) (Nat.le_of_ble_eq_true rfl) (by omega) rfl rfl (c_X11_openHeads hz (by omega) a0 s.1 a1 s.2 _ ht hp88) ?_
      exact cj_X11_fill_91_63 hz hd ht a1 a2 a3 s.1 p88 _ h hK
theorem cj_X11_fill_124 {G : rt_G} {d : Nat} {z : Nat × Nat} {Q : rt_P} (hz : 300 ≤ z.1) (hd : 6 ≤ d) {a0 : Int} (ht : rt_kd a0.toNat = 20 + 11) (s0 : Int) (mem0 : rt_M) (t : Int × rt_M) (h : j_X11_fill_124 s0 mem0 = some t) (hK : Q (some (0, t.1)) z t.2) : RT G M_X11_fill d z Q 124 [(9, 0), (9, 0), (9, 0), (9, 0), (9, 0)] [(0, s0)] z mem0 := by
  unfold j_X11_fill_124 at h
  obtain rfl := Option.some.inj h
  exact RT.iret (pc := 124) dX11_fill_124 rfl (Nat.le_of_eq (rt_cells_0 z)) (Nat.le_of_eq (rt_slots_0 z)) hK
theorem cj_X11_fill_30 {G : rt_G} {d : Nat} {z : Nat × Nat} {Q : rt_P} (hz : 300 ≤ z.1) (hd : 6 ≤ d) {a0 : Int} (ht : rt_kd a0.toNat = 20 + 11) (a1 : Int) (a2 : Int) (mem0 : rt_M) (t : Int × rt_M) (h : j_X11_fill_30 a0 a1 a2 mem0 = some t) (hK : Q (some (0, t.1)) z t.2) : RT G M_X11_fill d z Q 30 [(2, a0), (0, a1), (0, a2), (9, 0), (9, 0)] [] z mem0 := by
  unfold j_X11_fill_30 at h
  refine RT.aload_n (pc := 30) (k := 0) (x := a0) dX11_fill_30 rfl ?_
  obtain ⟨v31, hv31, h⟩ := Option.bind_eq_some_iff.mp h
  refine RT.gf 11 12 2 (pc := 31) (x := a0) (v := v31) hz dX11_fill_31 fl_X11_74 rfl hv31 ?_
  refine RT.aload_n (pc := 34) (k := 0) (x := a0) dX11_fill_34 rfl ?_
  obtain ⟨v35, hv35, h⟩ := Option.bind_eq_some_iff.mp h
  refine RT.gf 11 7 2 (pc := 35) (x := a0) (v := v35) hz dX11_fill_35 fl_X11_45 rfl hv35 ?_
  obtain ⟨v38, hv38, h⟩ := Option.bind_eq_some_iff.mp h
  refine RT.gf 4 0 0 (pc := 38) (x := v35) (v := v38) hz dX11_fill_38 fl_X11_217 rfl hv38 ?_
  refine RT.iconst (pc := 41) (n := 0) dX11_fill_41 ⟨by decide, by decide⟩ ?_
  obtain ⟨p42, hp42, h⟩ := Option.bind_eq_some_iff.mp h
  obtain ⟨hk42, hp42⟩ := rt_gd_some hp42
  refine RT.cVz (pc := 42) (M' := M_X5_begin) (ci := 5) (x := v31) (As := [(0, v38), (0, 0)]) (st := []) (r := none) (mem1 := p42) (d' := d - 1) hz dX11_fill_42 mw_X5_begin ml_X11_223 mi_X5_begin hk42 rfl rfl (Nat.le_of_ble_eq_true rfl) (Nat.le_of_ble_eq_true rfl) (by omega) rfl rfl (c_X5_begin hz (by omega) v31 v38 0 mem0 _ hk42 hp42) ?_
  refine RT.aload_n (pc := 45) (k := 0) (x := a0) dX11_fill_45 rfl ?_
  obtain ⟨v46, hv46, h⟩ := Option.bind_eq_some_iff.mp h
  refine RT.gf 11 2 2 (pc := 46) (x := a0) (v := v46) hz dX11_fill_46 fl_X11_28 rfl hv46 ?_
  obtain ⟨v49, hv49, h⟩ := Option.bind_eq_some_iff.mp h
  refine RT.gf 0 0 2 (pc := 49) (x := v46) (v := v49) hz dX11_fill_49 fl_X11_126 rfl hv49 ?_
  refine RT.aload_n (pc := 52) (k := 0) (x := a0) dX11_fill_52 rfl ?_
  obtain ⟨v53, hv53, h⟩ := Option.bind_eq_some_iff.mp h
  refine RT.gf 11 7 2 (pc := 53) (x := a0) (v := v53) hz dX11_fill_53 fl_X11_45 rfl hv53 ?_
  obtain ⟨p56, hp56, h⟩ := Option.bind_eq_some_iff.mp h
  obtain ⟨hk56, hp56⟩ := rt_gd_some hp56
  refine RT.cVz (pc := 56) (M' := M_X7_wornOut) (ci := 7) (x := v49) (As := [(2, v53)]) (st := []) (r := some (0, p56)) (mem1 := p42) (d' := d - 1) hz dX11_fill_56 mw_X7_wornOut ml_X11_227 mi_X7_wornOut hk56 rfl rfl (Nat.le_of_ble_eq_true rfl) (Nat.le_of_ble_eq_true rfl) (by omega) rfl rfl (c_X7_wornOut hz (by omega) v49 v53 p42 _ hk56 hp56) ?_
  refine RT.istore_n (pc := 59) (k := 3) (x := p56) (L1 := [(2, a0), (0, a1), (0, a2), (0, p56), (9, 0)]) dX11_fill_59 (Nat.le_of_ble_eq_true rfl) rfl ?_
  refine RT.iconst (pc := 60) (n := 0) dX11_fill_60 ⟨by decide, by decide⟩ ?_
  refine RT.istore (pc := 61) (k := 4) (x := 0) (L1 := [(2, a0), (0, a1), (0, a2), (0, p56), (0, 0)]) dX11_fill_61 (Nat.le_of_ble_eq_true rfl) rfl ?_
  obtain ⟨X63, hX63, h⟩ := Option.bind_eq_some_iff.mp h
  refine rt_it_ind (P := (fun s1 : Int × rt_M => RT G M_X11_fill d z Q 63 [(2, a0), (0, a1), (0, a2), (0, p56), (0, s1.1)] [] z s1.2)) (X := (fun x1 : rt_M => RT G M_X11_fill d z Q 97 [(2, a0), (9, 0), (0, a2), (9, 0), (9, 0)] [] z x1)) (fun s1 t1 h1 k1 k2 => cb_X11_fill_63 hz hd ht a1 a2 p56 s1 t1 h1 ⟨k1, k2⟩) 4000 ((0, p42)) X63 hX63 ?_
  refine RT.aload_n (pc := 97) (k := 0) (x := a0) dX11_fill_97 rfl ?_
  obtain ⟨v98, hv98, h⟩ := Option.bind_eq_some_iff.mp h
  refine RT.gf 11 12 2 (pc := 98) (x := a0) (v := v98) hz dX11_fill_98 fl_X11_74 rfl hv98 ?_
  obtain ⟨p101, hp101, h⟩ := Option.bind_eq_some_iff.mp h
  obtain ⟨hk101, hp101⟩ := rt_gd_some hp101
  refine RT.cVz (pc := 101) (M' := M_X5_solve) (ci := 5) (x := v98) (As := []) (st := []) (r := some (0, p101.1)) (mem1 := p101.2) (d' := d - 1) hz dX11_fill_101 mw_X5_solve ml_X11_233 mi_X5_solve hk101 rfl rfl (Nat.le_of_ble_eq_true rfl) (Nat.le_of_ble_eq_true rfl) (by omega) rfl rfl (c_X5_solve hz (by omega) v98 X63 _ hk101 hp101) ?_
  refine RT.istore (pc := 104) (k := 4) (x := p101.1) (L1 := [(2, a0), (9, 0), (0, a2), (9, 0), (0, p101.1)]) dX11_fill_104 (Nat.le_of_ble_eq_true rfl) rfl ?_
  refine RT.iload_n (pc := 106) (k := 2) (x := a2) dX11_fill_106 rfl ?_
  refine RT.iconst (pc := 107) (n := (-1)) dX11_fill_107 ⟨by decide, by decide⟩ ?_
  refine RT.icmp_ne (pc := 108) (tgt := 116) dX11_fill_108 rfl (fun q108 => ?_) (fun q108 => ?_)
  · rw [if_neg q108] at h
    refine RT.aload_n (pc := 116) (k := 0) (x := a0) dX11_fill_116 rfl ?_
    obtain ⟨v117, hv117, h⟩ := Option.bind_eq_some_iff.mp h
    refine RT.gf 11 12 2 (pc := 117) (x := a0) (v := v117) hz dX11_fill_117 fl_X11_74 rfl hv117 ?_
    refine RT.iload_n (pc := 120) (k := 2) (x := a2) dX11_fill_120 rfl ?_
    obtain ⟨p121, hp121, h⟩ := Option.bind_eq_some_iff.mp h
    obtain ⟨hk121, hp121⟩ := rt_gd_some hp121
    refine RT.cVz (pc := 121) (M' := M_X5_chosen) (ci := 5) (x := v117) (As := [(0, a2)]) (st := []) (r := some (0, p121)) (mem1 := p101.2) (d' := d - 1) hz dX11_fill_121 mw_X5_chosen ml_X11_237 mi_X5_chosen hk121 rfl rfl (Nat.le_of_ble_eq_true rfl) (Nat.le_of_ble_eq_true rfl) (by omega) rfl rfl (c_X5_chosen hz (by omega) v117 a2 p101.2 _ hk121 hp121) ?_
    refine RT.wk (L1 := [(9, 0), (9, 0), (9, 0), (9, 0), (9, 0)]) (rt_le_j (rt_le_s (rt_le_j (rt_le_s (rt_le_j rt_le_n))))) ?_
    exact cj_X11_fill_124 hz hd ht p121 p101.2 _ h hK
  · rw [if_pos (Classical.not_not.mp q108)] at h
    refine RT.iload (pc := 111) (k := 4) (x := p101.1) dX11_fill_111 rfl ?_
    refine RT.goto (pc := 113) (tgt := 124) dX11_fill_113 rfl ?_
    refine RT.wk (L1 := [(9, 0), (9, 0), (9, 0), (9, 0), (9, 0)]) (rt_le_j (rt_le_s (rt_le_j (rt_le_s (rt_le_j rt_le_n))))) ?_
    exact cj_X11_fill_124 hz hd ht p101.1 p101.2 _ h hK
theorem c_X11_fill {G : rt_G} {d : Nat} {z : Nat × Nat} (hz : 300 ≤ z.1) (hd : 6 ≤ d) (a0 : Int) (a1 : Int) (a2 : Int) (mem0 : rt_M) (t : Int × rt_M) (ht : rt_kd a0.toNat = 20 + 11) (h : f_X11_fill a0 a1 a2 mem0 = some t) : RM G M_X11_fill d [(2, a0), (0, a1), (0, a2)] z mem0 (some (0, t.1)) t.2 := by
  suffices H : ∀ Q : rt_P, Q (some (0, t.1)) z t.2 → RT G M_X11_fill d z Q 0 [(2, a0), (0, a1), (0, a2), (9, 0), (9, 0)] [] z mem0 from H _ ⟨rfl, rfl, rfl⟩
  intro Q hK
  unfold f_X11_fill at h
  refine RT.iload_n (pc := 0) (k := 1) (x := a1) dX11_fill_0 rfl ?_
  refine RT.iconst (pc := 1) (n := 1) dX11_fill_1 ⟨by decide, by decide⟩ ?_
  refine RT.icmp_lt (pc := 2) (tgt := 27) dX11_fill_2 rfl (fun q2 => ?_) (fun q2 => ?_)
  · rw [if_pos q2] at h
    refine RT.wk (L1 := [(9, 0), (9, 0), (9, 0), (9, 0), (9, 0)]) (rt_le_j (rt_le_j (rt_le_j (rt_le_s (rt_le_s rt_le_n))))) ?_
    exact cj_X11_fill_27 hz hd ht mem0 _ h hK
  · rw [if_neg q2] at h
    refine RT.iload_n (pc := 5) (k := 1) (x := a1) dX11_fill_5 rfl ?_
    refine RT.bipush (pc := 6) (n := 8) dX11_fill_6 ⟨by decide, by decide⟩ rfl ?_
    refine RT.icmp_gt (pc := 8) (tgt := 27) dX11_fill_8 rfl (fun q8 => ?_) (fun q8 => ?_)
    · rw [if_pos q8] at h
      refine RT.wk (L1 := [(9, 0), (9, 0), (9, 0), (9, 0), (9, 0)]) (rt_le_j (rt_le_j (rt_le_j (rt_le_s (rt_le_s rt_le_n))))) ?_
      exact cj_X11_fill_27 hz hd ht mem0 _ h hK
    · rw [if_neg q8] at h
      refine RT.iload_n (pc := 11) (k := 2) (x := a2) dX11_fill_11 rfl ?_
      refine RT.iconst (pc := 12) (n := (-1)) dX11_fill_12 ⟨by decide, by decide⟩ ?_
      refine RT.icmp_eq (pc := 13) (tgt := 30) dX11_fill_13 rfl (fun q13 => ?_) (fun q13 => ?_)
      · rw [if_pos q13] at h
        exact cj_X11_fill_30 hz hd ht a1 a2 mem0 _ h hK
      · rw [if_neg q13] at h
        refine RT.aload_n (pc := 16) (k := 0) (x := a0) dX11_fill_16 rfl ?_
        obtain ⟨v17, hv17, h⟩ := Option.bind_eq_some_iff.mp h
        refine RT.gf 11 7 2 (pc := 17) (x := a0) (v := v17) hz dX11_fill_17 fl_X11_45 rfl hv17 ?_
        refine RT.iload_n (pc := 20) (k := 2) (x := a2) dX11_fill_20 rfl ?_
        obtain ⟨p21, hp21, h⟩ := Option.bind_eq_some_iff.mp h
        obtain ⟨hk21, hp21⟩ := rt_gd_some hp21
        refine RT.cVz (pc := 21) (M' := M_X4_isWig) (ci := 4) (x := v17) (As := [(0, a2)]) (st := []) (r := some (0, p21)) (mem1 := mem0) (d' := d - 1) hz dX11_fill_21 mw_X4_isWig ml_X11_112 mi_X4_isWig hk21 rfl rfl (Nat.le_of_ble_eq_true rfl) (Nat.le_of_ble_eq_true rfl) (by omega) rfl rfl (c_X4_isWig hz (by omega) v17 a2 mem0 _ hk21 hp21) ?_
        refine RT.if_ne (pc := 24) (tgt := 30) dX11_fill_24 rfl (fun q24 => ?_) (fun q24 => ?_)
        · rw [if_neg q24] at h
          exact cj_X11_fill_30 hz hd ht a1 a2 mem0 _ h hK
        · rw [if_pos (Classical.not_not.mp q24)] at h
          refine RT.wk (L1 := [(9, 0), (9, 0), (9, 0), (9, 0), (9, 0)]) (rt_le_j (rt_le_j (rt_le_j (rt_le_s (rt_le_s rt_le_n))))) ?_
          exact cj_X11_fill_27 hz hd ht mem0 _ h hK
theorem cj_X11_say_39 {G : rt_G} {d : Nat} {z : Nat × Nat} {Q : rt_P} (hz : 300 ≤ z.1) (hd : 1 ≤ d) {a0 : Int} (ht : rt_kd a0.toNat = 20 + 11) (s0 : Int) (mem0 : rt_M) (t : Int × rt_M) (h : j_X11_say_39 s0 mem0 = some t) (hK : Q (some (0, t.1)) z t.2) : RT G M_X11_say d z Q 39 [(9, 0), (9, 0), (9, 0), (9, 0)] [(0, s0)] z mem0 := by
  unfold j_X11_say_39 at h
  obtain ⟨w39, hw39, h⟩ := Option.bind_eq_some_iff.mp h
  obtain rfl := Option.some.inj h
  exact RT.zret (pc := 39) dX11_say_39 rfl (rt_bz_ok hw39) (Nat.le_of_eq (rt_cells_0 z)) (Nat.le_of_eq (rt_slots_0 z)) hK
theorem cj_X11_say_38 {G : rt_G} {d : Nat} {z : Nat × Nat} {Q : rt_P} (hz : 300 ≤ z.1) (hd : 1 ≤ d) {a0 : Int} (ht : rt_kd a0.toNat = 20 + 11) (mem0 : rt_M) (t : Int × rt_M) (h : j_X11_say_38 mem0 = some t) (hK : Q (some (0, t.1)) z t.2) : RT G M_X11_say d z Q 38 [(9, 0), (9, 0), (9, 0), (9, 0)] [] z mem0 := by
  unfold j_X11_say_38 at h
  refine RT.iconst (pc := 38) (n := 0) dX11_say_38 ⟨by decide, by decide⟩ ?_
  exact cj_X11_say_39 hz hd ht 0 mem0 _ h hK
theorem c_X11_say {G : rt_G} {d : Nat} {z : Nat × Nat} (hz : 300 ≤ z.1) (hd : 1 ≤ d) (a0 : Int) (a1 : Int) (a2 : Int) (a3 : Int) (mem0 : rt_M) (t : Int × rt_M) (ht : rt_kd a0.toNat = 20 + 11) (h : f_X11_say a0 a1 a2 a3 mem0 = some t) : RM G M_X11_say d [(2, a0), (0, a1), (0, a2), (0, a3)] z mem0 (some (0, t.1)) t.2 := by
  suffices H : ∀ Q : rt_P, Q (some (0, t.1)) z t.2 → RT G M_X11_say d z Q 0 [(2, a0), (0, a1), (0, a2), (0, a3)] [] z mem0 from H _ ⟨rfl, rfl, rfl⟩
  intro Q hK
  unfold f_X11_say at h
  refine RT.aload_n (pc := 0) (k := 0) (x := a0) dX11_say_0 rfl ?_
  obtain ⟨v1, hv1, h⟩ := Option.bind_eq_some_iff.mp h
  refine RT.gf 11 7 2 (pc := 1) (x := a0) (v := v1) hz dX11_say_1 fl_X11_45 rfl hv1 ?_
  refine RT.iload_n (pc := 4) (k := 1) (x := a1) dX11_say_4 rfl ?_
  obtain ⟨p5, hp5, h⟩ := Option.bind_eq_some_iff.mp h
  obtain ⟨hk5, hp5⟩ := rt_gd_some hp5
  refine RT.cVz (pc := 5) (M' := M_X4_isHead) (ci := 4) (x := v1) (As := [(0, a1)]) (st := []) (r := some (0, p5)) (mem1 := mem0) (d' := d - 1) hz dX11_say_5 mw_X4_isHead ml_X11_135 mi_X4_isHead hk5 rfl rfl (Nat.le_of_ble_eq_true rfl) (Nat.le_of_ble_eq_true rfl) (by omega) rfl rfl (c_X4_isHead hz (by omega) v1 a1 mem0 _ hk5 hp5) ?_
  refine RT.if_eq (pc := 8) (tgt := 38) dX11_say_8 rfl (fun q8 => ?_) (fun q8 => ?_)
  · rw [if_pos q8] at h
    refine RT.wk (L1 := [(9, 0), (9, 0), (9, 0), (9, 0)]) (rt_le_j (rt_le_j (rt_le_j (rt_le_j rt_le_n)))) ?_
    exact cj_X11_say_38 hz hd ht mem0 _ h hK
  · rw [if_neg q8] at h
    refine RT.iload_n (pc := 11) (k := 2) (x := a2) dX11_say_11 rfl ?_
    obtain ⟨p12, hp12, h⟩ := Option.bind_eq_some_iff.mp h
    refine RT.cSz (pc := 12) (M' := M_X11_isHardness) (As := [(0, a2)]) (st := []) (r := some (0, p12)) (mem1 := mem0) (d' := d - 1) dX11_say_12 mw_X11_isHardness ml_X11_211 mi_X11_isHardness rfl rfl (Nat.le_of_ble_eq_true rfl) (Nat.le_of_ble_eq_true rfl) (by omega) rfl rfl (c_X11_isHardness hz (by omega) a2 mem0 _ hp12) ?_
    refine RT.if_eq (pc := 15) (tgt := 38) dX11_say_15 rfl (fun q15 => ?_) (fun q15 => ?_)
    · rw [if_pos q15] at h
      refine RT.wk (L1 := [(9, 0), (9, 0), (9, 0), (9, 0)]) (rt_le_j (rt_le_j (rt_le_j (rt_le_j rt_le_n)))) ?_
      exact cj_X11_say_38 hz hd ht mem0 _ h hK
    · rw [if_neg q15] at h
      refine RT.aload_n (pc := 18) (k := 0) (x := a0) dX11_say_18 rfl ?_
      obtain ⟨v19, hv19, h⟩ := Option.bind_eq_some_iff.mp h
      refine RT.gf 11 2 2 (pc := 19) (x := a0) (v := v19) hz dX11_say_19 fl_X11_28 rfl hv19 ?_
      obtain ⟨v22, hv22, h⟩ := Option.bind_eq_some_iff.mp h
      refine RT.gf 0 2 2 (pc := 22) (x := v19) (v := v22) hz dX11_say_22 fl_X11_253 rfl hv22 ?_
      refine RT.iload_n (pc := 25) (k := 1) (x := a1) dX11_say_25 rfl ?_
      refine RT.iload_n (pc := 26) (k := 2) (x := a2) dX11_say_26 rfl ?_
      refine RT.iload_n (pc := 27) (k := 3) (x := a3) dX11_say_27 rfl ?_
      obtain ⟨p28, hp28, h⟩ := Option.bind_eq_some_iff.mp h
      obtain ⟨hk28, hp28⟩ := rt_gd_some hp28
      refine RT.cVz (pc := 28) (M' := M_X6_add) (ci := 6) (x := v22) (As := [(0, a1), (0, a2), (0, a3)]) (st := []) (r := some (0, p28.1)) (mem1 := p28.2) (d' := d - 1) hz dX11_say_28 mw_X6_add ml_X11_257 mi_X6_add hk28 rfl rfl (Nat.le_of_ble_eq_true rfl) (Nat.le_of_ble_eq_true rfl) (by omega) rfl rfl (c_X6_add hz (by omega) v22 a1 a2 a3 mem0 _ hk28 hp28) ?_
      refine RT.if_eq (pc := 31) (tgt := 38) dX11_say_31 rfl (fun q31 => ?_) (fun q31 => ?_)
      · rw [if_pos q31] at h
        refine RT.wk (L1 := [(9, 0), (9, 0), (9, 0), (9, 0)]) (rt_le_j (rt_le_j (rt_le_j (rt_le_j rt_le_n)))) ?_
        exact cj_X11_say_38 hz hd ht p28.2 _ h hK
      · rw [if_neg q31] at h
        refine RT.iconst (pc := 34) (n := 1) dX11_say_34 ⟨by decide, by decide⟩ ?_
        refine RT.goto (pc := 35) (tgt := 39) dX11_say_35 rfl ?_
        refine RT.wk (L1 := [(9, 0), (9, 0), (9, 0), (9, 0)]) (rt_le_j (rt_le_j (rt_le_j (rt_le_j rt_le_n)))) ?_
        exact cj_X11_say_39 hz hd ht 1 p28.2 _ h hK
theorem c_J6_bitCount_0f7a4 {G : rt_G} {d : Nat} {z : Nat × Nat} (hz : 300 ≤ z.1) (hd : 0 ≤ d) (a0 : Int) (mem0 : rt_M) (t : Int) (h : f_J6_bitCount_0f7a4 a0 mem0 = some t) : RM G M_J6_bitCount_0f7a4 d [(0, a0)] z mem0 (some (0, t)) mem0 := by
  suffices H : ∀ Q : rt_P, Q (some (0, t)) z mem0 → RT G M_J6_bitCount_0f7a4 d z Q 0 [(0, a0)] [] z mem0 from H _ ⟨rfl, rfl, rfl⟩
  intro Q hK
  unfold f_J6_bitCount_0f7a4 at h
  refine RT.iload_n (pc := 0) (k := 0) (x := a0) dJ6_bitCount_0f7a4_0 rfl ?_
  refine RT.iload_n (pc := 1) (k := 0) (x := a0) dJ6_bitCount_0f7a4_1 rfl ?_
  refine RT.iconst (pc := 2) (n := 1) dJ6_bitCount_0f7a4_2 ⟨by decide, by decide⟩ ?_
  refine RT.iushr (pc := 3) dJ6_bitCount_0f7a4_3 ?_
  refine RT.ldcw (pc := 4) (v := 1431655765) dJ6_bitCount_0f7a4_4 ki_J6_265 ⟨by decide, by decide⟩ ?_
  refine RT.iand (pc := 7) dJ6_bitCount_0f7a4_7 ?_
  refine RT.isub (pc := 8) dJ6_bitCount_0f7a4_8 ?_
  refine RT.istore_n (pc := 9) (k := 0) (x := (rt_isub a0 (rt_iand (rt_iushr a0 1) 1431655765))) (L1 := [(0, (rt_isub a0 (rt_iand (rt_iushr a0 1) 1431655765)))]) dJ6_bitCount_0f7a4_9 (Nat.le_of_ble_eq_true rfl) rfl ?_
  refine RT.iload_n (pc := 10) (k := 0) (x := (rt_isub a0 (rt_iand (rt_iushr a0 1) 1431655765))) dJ6_bitCount_0f7a4_10 rfl ?_
  refine RT.ldcw (pc := 11) (v := 858993459) dJ6_bitCount_0f7a4_11 ki_J6_266 ⟨by decide, by decide⟩ ?_
  refine RT.iand (pc := 14) dJ6_bitCount_0f7a4_14 ?_
  refine RT.iload_n (pc := 15) (k := 0) (x := (rt_isub a0 (rt_iand (rt_iushr a0 1) 1431655765))) dJ6_bitCount_0f7a4_15 rfl ?_
  refine RT.iconst (pc := 16) (n := 2) dJ6_bitCount_0f7a4_16 ⟨by decide, by decide⟩ ?_
  refine RT.iushr (pc := 17) dJ6_bitCount_0f7a4_17 ?_
  refine RT.ldcw (pc := 18) (v := 858993459) dJ6_bitCount_0f7a4_18 ki_J6_266 ⟨by decide, by decide⟩ ?_
  refine RT.iand (pc := 21) dJ6_bitCount_0f7a4_21 ?_
  refine RT.iadd (pc := 22) dJ6_bitCount_0f7a4_22 ?_
  refine RT.istore_n (pc := 23) (k := 0) (x := (rt_iadd (rt_iand (rt_isub a0 (rt_iand (rt_iushr a0 1) 1431655765)) 858993459) (rt_iand (rt_iushr (rt_isub a0 (rt_iand (rt_iushr a0 1) 1431655765)) 2) 858993459))) (L1 := [(0, (rt_iadd (rt_iand (rt_isub a0 (rt_iand (rt_iushr a0 1) 1431655765)) 858993459) (rt_iand (rt_iushr (rt_isub a0 (rt_iand (rt_iushr a0 1) 1431655765)) 2) 858993459)))]) dJ6_bitCount_0f7a4_23 (Nat.le_of_ble_eq_true rfl) rfl ?_
  refine RT.iload_n (pc := 24) (k := 0) (x := (rt_iadd (rt_iand (rt_isub a0 (rt_iand (rt_iushr a0 1) 1431655765)) 858993459) (rt_iand (rt_iushr (rt_isub a0 (rt_iand (rt_iushr a0 1) 1431655765)) 2) 858993459))) dJ6_bitCount_0f7a4_24 rfl ?_
  refine RT.iload_n (pc := 25) (k := 0) (x := (rt_iadd (rt_iand (rt_isub a0 (rt_iand (rt_iushr a0 1) 1431655765)) 858993459) (rt_iand (rt_iushr (rt_isub a0 (rt_iand (rt_iushr a0 1) 1431655765)) 2) 858993459))) dJ6_bitCount_0f7a4_25 rfl ?_
  refine RT.iconst (pc := 26) (n := 4) dJ6_bitCount_0f7a4_26 ⟨by decide, by decide⟩ ?_
  refine RT.iushr (pc := 27) dJ6_bitCount_0f7a4_27 ?_
  refine RT.iadd (pc := 28) dJ6_bitCount_0f7a4_28 ?_
  refine RT.ldcw (pc := 29) (v := 252645135) dJ6_bitCount_0f7a4_29 ki_J6_267 ⟨by decide, by decide⟩ ?_
  refine RT.iand (pc := 32) dJ6_bitCount_0f7a4_32 ?_
  refine RT.istore_n (pc := 33) (k := 0) (x := (rt_iand (rt_iadd (rt_iadd (rt_iand (rt_isub a0 (rt_iand (rt_iushr a0 1) 1431655765)) 858993459) (rt_iand (rt_iushr (rt_isub a0 (rt_iand (rt_iushr a0 1) 1431655765)) 2) 858993459)) (rt_iushr (rt_iadd (rt_iand (rt_isub a0 (rt_iand (rt_iushr a0 1) 1431655765)) 858993459) (rt_iand (rt_iushr (rt_isub a0 (rt_iand (rt_iushr a0 1) 1431655765)) 2) 858993459)) 4)) 252645135)) (L1 := [(0, (rt_iand (rt_iadd (rt_iadd (rt_iand (rt_isub a0 (rt_iand (rt_iushr a0 1) 1431655765)) 858993459) (rt_iand (rt_iushr (rt_isub a0 (rt_iand (rt_iushr a0 1) 1431655765)) 2) 858993459)) (rt_iushr (rt_iadd (rt_iand (rt_isub a0 (rt_iand (rt_iushr a0 1) 1431655765)) 858993459) (rt_iand (rt_iushr (rt_isub a0 (rt_iand (rt_iushr a0 1) 1431655765)) 2) 858993459)) 4)) 252645135))]) dJ6_bitCount_0f7a4_33 (Nat.le_of_ble_eq_true rfl) rfl ?_
  refine RT.iload_n (pc := 34) (k := 0) (x := (rt_iand (rt_iadd (rt_iadd (rt_iand (rt_isub a0 (rt_iand (rt_iushr a0 1) 1431655765)) 858993459) (rt_iand (rt_iushr (rt_isub a0 (rt_iand (rt_iushr a0 1) 1431655765)) 2) 858993459)) (rt_iushr (rt_iadd (rt_iand (rt_isub a0 (rt_iand (rt_iushr a0 1) 1431655765)) 858993459) (rt_iand (rt_iushr (rt_isub a0 (rt_iand (rt_iushr a0 1) 1431655765)) 2) 858993459)) 4)) 252645135)) dJ6_bitCount_0f7a4_34 rfl ?_
  refine RT.iload_n (pc := 35) (k := 0) (x := (rt_iand (rt_iadd (rt_iadd (rt_iand (rt_isub a0 (rt_iand (rt_iushr a0 1) 1431655765)) 858993459) (rt_iand (rt_iushr (rt_isub a0 (rt_iand (rt_iushr a0 1) 1431655765)) 2) 858993459)) (rt_iushr (rt_iadd (rt_iand (rt_isub a0 (rt_iand (rt_iushr a0 1) 1431655765)) 858993459) (rt_iand (rt_iushr (rt_isub a0 (rt_iand (rt_iushr a0 1) 1431655765)) 2) 858993459)) 4)) 252645135)) dJ6_bitCount_0f7a4_35 rfl ?_
  refine RT.bipush (pc := 36) (n := 8) dJ6_bitCount_0f7a4_36 ⟨by decide, by decide⟩ rfl ?_
  refine RT.iushr (pc := 38) dJ6_bitCount_0f7a4_38 ?_
  refine RT.iadd (pc := 39) dJ6_bitCount_0f7a4_39 ?_
  refine RT.istore_n (pc := 40) (k := 0) (x := (rt_iadd (rt_iand (rt_iadd (rt_iadd (rt_iand (rt_isub a0 (rt_iand (rt_iushr a0 1) 1431655765)) 858993459) (rt_iand (rt_iushr (rt_isub a0 (rt_iand (rt_iushr a0 1) 1431655765)) 2) 858993459)) (rt_iushr (rt_iadd (rt_iand (rt_isub a0 (rt_iand (rt_iushr a0 1) 1431655765)) 858993459) (rt_iand (rt_iushr (rt_isub a0 (rt_iand (rt_iushr a0 1) 1431655765)) 2) 858993459)) 4)) 252645135) (rt_iushr (rt_iand (rt_iadd (rt_iadd (rt_iand (rt_isub a0 (rt_iand (rt_iushr a0 1) 1431655765)) 858993459) (rt_iand (rt_iushr (rt_isub a0 (rt_iand (rt_iushr a0 1) 1431655765)) 2) 858993459)) (rt_iushr (rt_iadd (rt_iand (rt_isub a0 (rt_iand (rt_iushr a0 1) 1431655765)) 858993459) (rt_iand (rt_iushr (rt_isub a0 (rt_iand (rt_iushr a0 1) 1431655765)) 2) 858993459)) 4)) 252645135) 8))) (L1 := [(0, (rt_iadd (rt_iand (rt_iadd (rt_iadd (rt_iand (rt_isub a0 (rt_iand (rt_iushr a0 1) 1431655765)) 858993459) (rt_iand (rt_iushr (rt_isub a0 (rt_iand (rt_iushr a0 1) 1431655765)) 2) 858993459)) (rt_iushr (rt_iadd (rt_iand (rt_isub a0 (rt_iand (rt_iushr a0 1) 1431655765)) 858993459) (rt_iand (rt_iushr (rt_isub a0 (rt_iand (rt_iushr a0 1) 1431655765)) 2) 858993459)) 4)) 252645135) (rt_iushr (rt_iand (rt_iadd (rt_iadd (rt_iand (rt_isub a0 (rt_iand (rt_iushr a0 1) 1431655765)) 858993459) (rt_iand (rt_iushr (rt_isub a0 (rt_iand (rt_iushr a0 1) 1431655765)) 2) 858993459)) (rt_iushr (rt_iadd (rt_iand (rt_isub a0 (rt_iand (rt_iushr a0 1) 1431655765)) 858993459) (rt_iand (rt_iushr (rt_isub a0 (rt_iand (rt_iushr a0 1) 1431655765)) 2) 858993459)) 4)) 252645135) 8)))]) dJ6_bitCount_0f7a4_40 (Nat.le_of_ble_eq_true rfl) rfl ?_
  refine RT.iload_n (pc := 41) (k := 0) (x := (rt_iadd (rt_iand (rt_iadd (rt_iadd (rt_iand (rt_isub a0 (rt_iand (rt_iushr a0 1) 1431655765)) 858993459) (rt_iand (rt_iushr (rt_isub a0 (rt_iand (rt_iushr a0 1) 1431655765)) 2) 858993459)) (rt_iushr (rt_iadd (rt_iand (rt_isub a0 (rt_iand (rt_iushr a0 1) 1431655765)) 858993459) (rt_iand (rt_iushr (rt_isub a0 (rt_iand (rt_iushr a0 1) 1431655765)) 2) 858993459)) 4)) 252645135) (rt_iushr (rt_iand (rt_iadd (rt_iadd (rt_iand (rt_isub a0 (rt_iand (rt_iushr a0 1) 1431655765)) 858993459) (rt_iand (rt_iushr (rt_isub a0 (rt_iand (rt_iushr a0 1) 1431655765)) 2) 858993459)) (rt_iushr (rt_iadd (rt_iand (rt_isub a0 (rt_iand (rt_iushr a0 1) 1431655765)) 858993459) (rt_iand (rt_iushr (rt_isub a0 (rt_iand (rt_iushr a0 1) 1431655765)) 2) 858993459)) 4)) 252645135) 8))) dJ6_bitCount_0f7a4_41 rfl ?_
  refine RT.iload_n (pc := 42) (k := 0) (x := (rt_iadd (rt_iand (rt_iadd (rt_iadd (rt_iand (rt_isub a0 (rt_iand (rt_iushr a0 1) 1431655765)) 858993459) (rt_iand (rt_iushr (rt_isub a0 (rt_iand (rt_iushr a0 1) 1431655765)) 2) 858993459)) (rt_iushr (rt_iadd (rt_iand (rt_isub a0 (rt_iand (rt_iushr a0 1) 1431655765)) 858993459) (rt_iand (rt_iushr (rt_isub a0 (rt_iand (rt_iushr a0 1) 1431655765)) 2) 858993459)) 4)) 252645135) (rt_iushr (rt_iand (rt_iadd (rt_iadd (rt_iand (rt_isub a0 (rt_iand (rt_iushr a0 1) 1431655765)) 858993459) (rt_iand (rt_iushr (rt_isub a0 (rt_iand (rt_iushr a0 1) 1431655765)) 2) 858993459)) (rt_iushr (rt_iadd (rt_iand (rt_isub a0 (rt_iand (rt_iushr a0 1) 1431655765)) 858993459) (rt_iand (rt_iushr (rt_isub a0 (rt_iand (rt_iushr a0 1) 1431655765)) 2) 858993459)) 4)) 252645135) 8))) dJ6_bitCount_0f7a4_42 rfl ?_
  refine RT.bipush (pc := 43) (n := 16) dJ6_bitCount_0f7a4_43 ⟨by decide, by decide⟩ rfl ?_
  refine RT.iushr (pc := 45) dJ6_bitCount_0f7a4_45 ?_
  refine RT.iadd (pc := 46) dJ6_bitCount_0f7a4_46 ?_
  refine RT.istore_n (pc := 47) (k := 0) (x := (rt_iadd (rt_iadd (rt_iand (rt_iadd (rt_iadd (rt_iand (rt_isub a0 (rt_iand (rt_iushr a0 1) 1431655765)) 858993459) (rt_iand (rt_iushr (rt_isub a0 (rt_iand (rt_iushr a0 1) 1431655765)) 2) 858993459)) (rt_iushr (rt_iadd (rt_iand (rt_isub a0 (rt_iand (rt_iushr a0 1) 1431655765)) 858993459) (rt_iand (rt_iushr (rt_isub a0 (rt_iand (rt_iushr a0 1) 1431655765)) 2) 858993459)) 4)) 252645135) (rt_iushr (rt_iand (rt_iadd (rt_iadd (rt_iand (rt_isub a0 (rt_iand (rt_iushr a0 1) 1431655765)) 858993459) (rt_iand (rt_iushr (rt_isub a0 (rt_iand (rt_iushr a0 1) 1431655765)) 2) 858993459)) (rt_iushr (rt_iadd (rt_iand (rt_isub a0 (rt_iand (rt_iushr a0 1) 1431655765)) 858993459) (rt_iand (rt_iushr (rt_isub a0 (rt_iand (rt_iushr a0 1) 1431655765)) 2) 858993459)) 4)) 252645135) 8)) (rt_iushr (rt_iadd (rt_iand (rt_iadd (rt_iadd (rt_iand (rt_isub a0 (rt_iand (rt_iushr a0 1) 1431655765)) 858993459) (rt_iand (rt_iushr (rt_isub a0 (rt_iand (rt_iushr a0 1) 1431655765)) 2) 858993459)) (rt_iushr (rt_iadd (rt_iand (rt_isub a0 (rt_iand (rt_iushr a0 1) 1431655765)) 858993459) (rt_iand (rt_iushr (rt_isub a0 (rt_iand (rt_iushr a0 1) 1431655765)) 2) 858993459)) 4)) 252645135) (rt_iushr (rt_iand (rt_iadd (rt_iadd (rt_iand (rt_isub a0 (rt_iand (rt_iushr a0 1) 1431655765)) 858993459) (rt_iand (rt_iushr (rt_isub a0 (rt_iand (rt_iushr a0 1) 1431655765)) 2) 858993459)) (rt_iushr (rt_iadd (rt_iand (rt_isub a0 (rt_iand (rt_iushr a0 1) 1431655765)) 858993459) (rt_iand (rt_iushr (rt_isub a0 (rt_iand (rt_iushr a0 1) 1431655765)) 2) 858993459)) 4)) 252645135) 8)) 16))) (L1 := [(0, (rt_iadd (rt_iadd (rt_iand (rt_iadd (rt_iadd (rt_iand (rt_isub a0 (rt_iand (rt_iushr a0 1) 1431655765)) 858993459) (rt_iand (rt_iushr (rt_isub a0 (rt_iand (rt_iushr a0 1) 1431655765)) 2) 858993459)) (rt_iushr (rt_iadd (rt_iand (rt_isub a0 (rt_iand (rt_iushr a0 1) 1431655765)) 858993459) (rt_iand (rt_iushr (rt_isub a0 (rt_iand (rt_iushr a0 1) 1431655765)) 2) 858993459)) 4)) 252645135) (rt_iushr (rt_iand (rt_iadd (rt_iadd (rt_iand (rt_isub a0 (rt_iand (rt_iushr a0 1) 1431655765)) 858993459) (rt_iand (rt_iushr (rt_isub a0 (rt_iand (rt_iushr a0 1) 1431655765)) 2) 858993459)) (rt_iushr (rt_iadd (rt_iand (rt_isub a0 (rt_iand (rt_iushr a0 1) 1431655765)) 858993459) (rt_iand (rt_iushr (rt_isub a0 (rt_iand (rt_iushr a0 1) 1431655765)) 2) 858993459)) 4)) 252645135) 8)) (rt_iushr (rt_iadd (rt_iand (rt_iadd (rt_iadd (rt_iand (rt_isub a0 (rt_iand (rt_iushr a0 1) 1431655765)) 858993459) (rt_iand (rt_iushr (rt_isub a0 (rt_iand (rt_iushr a0 1) 1431655765)) 2) 858993459)) (rt_iushr (rt_iadd (rt_iand (rt_isub a0 (rt_iand (rt_iushr a0 1) 1431655765)) 858993459) (rt_iand (rt_iushr (rt_isub a0 (rt_iand (rt_iushr a0 1) 1431655765)) 2) 858993459)) 4)) 252645135) (rt_iushr (rt_iand (rt_iadd (rt_iadd (rt_iand (rt_isub a0 (rt_iand (rt_iushr a0 1) 1431655765)) 858993459) (rt_iand (rt_iushr (rt_isub a0 (rt_iand (rt_iushr a0 1) 1431655765)) 2) 858993459)) (rt_iushr (rt_iadd (rt_iand (rt_isub a0 (rt_iand (rt_iushr a0 1) 1431655765)) 858993459) (rt_iand (rt_iushr (rt_isub a0 (rt_iand (rt_iushr a0 1) 1431655765)) 2) 858993459)) 4)) 252645135) 8)) 16)))]) dJ6_bitCount_0f7a4_47 (Nat.le_of_ble_eq_true rfl) rfl ?_
  refine RT.iload_n (pc := 48) (k := 0) (x := (rt_iadd (rt_iadd (rt_iand (rt_iadd (rt_iadd (rt_iand (rt_isub a0 (rt_iand (rt_iushr a0 1) 1431655765)) 858993459) (rt_iand (rt_iushr (rt_isub a0 (rt_iand (rt_iushr a0 1) 1431655765)) 2) 858993459)) (rt_iushr (rt_iadd (rt_iand (rt_isub a0 (rt_iand (rt_iushr a0 1) 1431655765)) 858993459) (rt_iand (rt_iushr (rt_isub a0 (rt_iand (rt_iushr a0 1) 1431655765)) 2) 858993459)) 4)) 252645135) (rt_iushr (rt_iand (rt_iadd (rt_iadd (rt_iand (rt_isub a0 (rt_iand (rt_iushr a0 1) 1431655765)) 858993459) (rt_iand (rt_iushr (rt_isub a0 (rt_iand (rt_iushr a0 1) 1431655765)) 2) 858993459)) (rt_iushr (rt_iadd (rt_iand (rt_isub a0 (rt_iand (rt_iushr a0 1) 1431655765)) 858993459) (rt_iand (rt_iushr (rt_isub a0 (rt_iand (rt_iushr a0 1) 1431655765)) 2) 858993459)) 4)) 252645135) 8)) (rt_iushr (rt_iadd (rt_iand (rt_iadd (rt_iadd (rt_iand (rt_isub a0 (rt_iand (rt_iushr a0 1) 1431655765)) 858993459) (rt_iand (rt_iushr (rt_isub a0 (rt_iand (rt_iushr a0 1) 1431655765)) 2) 858993459)) (rt_iushr (rt_iadd (rt_iand (rt_isub a0 (rt_iand (rt_iushr a0 1) 1431655765)) 858993459) (rt_iand (rt_iushr (rt_isub a0 (rt_iand (rt_iushr a0 1) 1431655765)) 2) 858993459)) 4)) 252645135) (rt_iushr (rt_iand (rt_iadd (rt_iadd (rt_iand (rt_isub a0 (rt_iand (rt_iushr a0 1) 1431655765)) 858993459) (rt_iand (rt_iushr (rt_isub a0 (rt_iand (rt_iushr a0 1) 1431655765)) 2) 858993459)) (rt_iushr (rt_iadd (rt_iand (rt_isub a0 (rt_iand (rt_iushr a0 1) 1431655765)) 858993459) (rt_iand (rt_iushr (rt_isub a0 (rt_iand (rt_iushr a0 1) 1431655765)) 2) 858993459)) 4)) 252645135) 8)) 16))) dJ6_bitCount_0f7a4_48 rfl ?_
  refine RT.bipush (pc := 49) (n := 63) dJ6_bitCount_0f7a4_49 ⟨by decide, by decide⟩ rfl ?_
  refine RT.iand (pc := 51) dJ6_bitCount_0f7a4_51 ?_
  obtain rfl := Option.some.inj h
  exact RT.iret (pc := 52) dJ6_bitCount_0f7a4_52 rfl (Nat.le_of_eq (rt_cells_0 z)) (Nat.le_of_eq (rt_slots_0 z)) hK
theorem cj_X11_leans_71_41 {G : rt_G} {d : Nat} {z : Nat × Nat} {Q : rt_P} (hz : 300 ≤ z.1) (hd : 4 ≤ d) {a0 : Int} (ht : rt_kd a0.toNat = 20 + 11) (a1 : Int) (a2 : Int) (a3 : Int) (a4 : Int) (mem0 : rt_M) (t : (Int × Int × rt_M) ⊕ (Int × rt_M)) (h : j_X11_leans_71_41 a1 a2 a3 a4 mem0 = some t) (hK : (∀ s1 : Int × Int × rt_M, t = .inl s1 → RT G M_X11_leans d z Q 41 [(9, 0), (0, a1), (0, a2), (0, s1.1), (0, s1.2.1)] [] z s1.2.2) ∧ (∀ x1 : Int × rt_M, t = .inr x1 → RT G M_X11_leans d z Q 77 [(9, 0), (9, 0), (9, 0), (0, x1.1), (9, 0)] [] z x1.2)) : RT G M_X11_leans d z Q 71 [(9, 0), (0, a1), (0, a2), (0, a3), (0, a4)] [] z mem0 := by
  unfold j_X11_leans_71_41 at h
  refine RT.iinc (pc := 71) (x := a4) (L1 := [(9, 0), (0, a1), (0, a2), (0, a3), (0, (rt_iadd a4 1))]) dX11_leans_71 rfl (Nat.le_of_ble_eq_true rfl) ⟨by decide, by decide⟩ rfl ?_
  refine RT.goto (pc := 74) (tgt := 41) dX11_leans_74 rfl ?_
  obtain rfl := Option.some.inj h
  have q1 := hK.1 ((a3, (rt_iadd a4 1), mem0)) rfl
  try dsimp only at q1
  exact q1
theorem cj_X11_leans_68_41 {G : rt_G} {d : Nat} {z : Nat × Nat} {Q : rt_P} (hz : 300 ≤ z.1) (hd : 4 ≤ d) {a0 : Int} (ht : rt_kd a0.toNat = 20 + 11) (a1 : Int) (a2 : Int) (a4 : Int) (mem0 : rt_M) (t : (Int × Int × rt_M) ⊕ (Int × rt_M)) (h : j_X11_leans_68_41 a1 a2 a4 mem0 = some t) (hK : (∀ s1 : Int × Int × rt_M, t = .inl s1 → RT G M_X11_leans d z Q 41 [(9, 0), (0, a1), (0, a2), (0, s1.1), (0, s1.2.1)] [] z s1.2.2) ∧ (∀ x1 : Int × rt_M, t = .inr x1 → RT G M_X11_leans d z Q 77 [(9, 0), (9, 0), (9, 0), (0, x1.1), (9, 0)] [] z x1.2)) : RT G M_X11_leans d z Q 68 [(9, 0), (0, a1), (0, a2), (9, 0), (0, a4)] [] z mem0 := by
  unfold j_X11_leans_68_41 at h
  refine RT.iload (pc := 68) (k := 4) (x := a4) dX11_leans_68 rfl ?_
  refine RT.istore_n (pc := 70) (k := 3) (x := a4) (L1 := [(9, 0), (0, a1), (0, a2), (0, a4), (0, a4)]) dX11_leans_70 (Nat.le_of_ble_eq_true rfl) rfl ?_
  exact cj_X11_leans_71_41 hz hd ht a1 a2 a4 a4 mem0 _ h hK
theorem cb_X11_leans_41 {G : rt_G} {d : Nat} {z : Nat × Nat} {Q : rt_P} (hz : 300 ≤ z.1) (hd : 4 ≤ d) {a0 : Int} (ht : rt_kd a0.toNat = 20 + 11) (a1 : Int) (a2 : Int) (s : Int × Int × rt_M) (t : (Int × Int × rt_M) ⊕ (Int × rt_M)) (h : b_X11_leans_41 a1 a2 s = some t) (hK : (∀ s1 : Int × Int × rt_M, t = .inl s1 → RT G M_X11_leans d z Q 41 [(9, 0), (0, a1), (0, a2), (0, s1.1), (0, s1.2.1)] [] z s1.2.2) ∧ (∀ x1 : Int × rt_M, t = .inr x1 → RT G M_X11_leans d z Q 77 [(9, 0), (9, 0), (9, 0), (0, x1.1), (9, 0)] [] z x1.2)) : RT G M_X11_leans d z Q 41 [(9, 0), (0, a1), (0, a2), (0, s.1), (0, s.2.1)] [] z s.2.2 := by
  unfold b_X11_leans_41 at h
  refine RT.iload (pc := 41) (k := 4) (x := s.2.1) dX11_leans_41 rfl ?_
  refine RT.bipush (pc := 43) (n := 9) dX11_leans_43 ⟨by decide, by decide⟩ rfl ?_
  refine RT.icmp_gt (pc := 45) (tgt := 77) dX11_leans_45 rfl (fun q45 => ?_) (fun q45 => ?_)
  · rw [if_pos q45] at h
    refine RT.wk (L1 := [(9, 0), (9, 0), (9, 0), (0, s.1), (9, 0)]) (rt_le_s (rt_le_j (rt_le_j (rt_le_s (rt_le_j rt_le_n))))) ?_
    obtain rfl := Option.some.inj h
    have q1 := hK.2 ((s.1, s.2.2)) rfl
    try dsimp only at q1
    exact q1
  · rw [if_neg q45] at h
    refine RT.iload_n (pc := 48) (k := 2) (x := a2) dX11_leans_48 rfl ?_
    refine RT.iload (pc := 49) (k := 4) (x := s.2.1) dX11_leans_49 rfl ?_
    refine RT.ishr (pc := 51) dX11_leans_51 ?_
    refine RT.iconst (pc := 52) (n := 1) dX11_leans_52 ⟨by decide, by decide⟩ ?_
    refine RT.iand (pc := 53) dX11_leans_53 ?_
    refine RT.iconst (pc := 54) (n := 1) dX11_leans_54 ⟨by decide, by decide⟩ ?_
    refine RT.icmp_ne (pc := 55) (tgt := 71) dX11_leans_55 rfl (fun q55 => ?_) (fun q55 => ?_)
    · rw [if_neg q55] at h
      exact cj_X11_leans_71_41 hz hd ht a1 a2 s.1 s.2.1 s.2.2 _ h hK
    · rw [if_pos (Classical.not_not.mp q55)] at h
      refine RT.iload_n (pc := 58) (k := 3) (x := s.1) dX11_leans_58 rfl ?_
      refine RT.iconst (pc := 59) (n := (-1)) dX11_leans_59 ⟨by decide, by decide⟩ ?_
      refine RT.icmp_eq (pc := 60) (tgt := 68) dX11_leans_60 rfl (fun q60 => ?_) (fun q60 => ?_)
      · rw [if_pos q60] at h
        refine RT.wk (L1 := [(9, 0), (0, a1), (0, a2), (9, 0), (0, s.2.1)]) (rt_le_s (rt_le_s (rt_le_s (rt_le_j (rt_le_s rt_le_n))))) ?_
        exact cj_X11_leans_68_41 hz hd ht a1 a2 s.2.1 s.2.2 _ h hK
      · rw [if_neg q60] at h
        refine RT.iload_n (pc := 63) (k := 1) (x := a1) dX11_leans_63 rfl ?_
        refine RT.iconst (pc := 64) (n := 2) dX11_leans_64 ⟨by decide, by decide⟩ ?_
        refine RT.icmp_ne (pc := 65) (tgt := 71) dX11_leans_65 rfl (fun q65 => ?_) (fun q65 => ?_)
        · rw [if_neg q65] at h
          exact cj_X11_leans_71_41 hz hd ht a1 a2 s.1 s.2.1 s.2.2 _ h hK
        · rw [if_pos (Classical.not_not.mp q65)] at h
          refine RT.wk (L1 := [(9, 0), (0, a1), (0, a2), (9, 0), (0, s.2.1)]) (rt_le_s (rt_le_s (rt_le_s (rt_le_j (rt_le_s rt_le_n))))) ?_
          exact cj_X11_leans_68_41 hz hd ht a1 a2 s.2.1 s.2.2 _ h hK
theorem cj_X11_leans_36 {G : rt_G} {d : Nat} {z : Nat × Nat} {Q : rt_P} (hz : 300 ≤ z.1) (hd : 4 ≤ d) {a0 : Int} (ht : rt_kd a0.toNat = 20 + 11) (a1 : Int) (a2 : Int) (mem0 : rt_M) (t : Int × rt_M) (h : j_X11_leans_36 a1 a2 mem0 = some t) (hK : Q (some (0, t.1)) z t.2) : RT G M_X11_leans d z Q 36 [(9, 0), (0, a1), (0, a2), (9, 0), (9, 0)] [] z mem0 := by
  unfold j_X11_leans_36 at h
  refine RT.iconst (pc := 36) (n := (-1)) dX11_leans_36 ⟨by decide, by decide⟩ ?_
  refine RT.istore_n (pc := 37) (k := 3) (x := (-1)) (L1 := [(9, 0), (0, a1), (0, a2), (0, (-1)), (9, 0)]) dX11_leans_37 (Nat.le_of_ble_eq_true rfl) rfl ?_
  refine RT.iconst (pc := 38) (n := 0) dX11_leans_38 ⟨by decide, by decide⟩ ?_
  refine RT.istore (pc := 39) (k := 4) (x := 0) (L1 := [(9, 0), (0, a1), (0, a2), (0, (-1)), (0, 0)]) dX11_leans_39 (Nat.le_of_ble_eq_true rfl) rfl ?_
  obtain ⟨X41, hX41, h⟩ := Option.bind_eq_some_iff.mp h
  refine rt_it_ind (P := (fun s1 : Int × Int × rt_M => RT G M_X11_leans d z Q 41 [(9, 0), (0, a1), (0, a2), (0, s1.1), (0, s1.2.1)] [] z s1.2.2)) (X := (fun x1 : Int × rt_M => RT G M_X11_leans d z Q 77 [(9, 0), (9, 0), (9, 0), (0, x1.1), (9, 0)] [] z x1.2)) (fun s1 t1 h1 k1 k2 => cb_X11_leans_41 hz hd ht a1 a2 s1 t1 h1 ⟨k1, k2⟩) 4000 (((-1), 0, mem0)) X41 hX41 ?_
  refine RT.iload_n (pc := 77) (k := 3) (x := X41.1) dX11_leans_77 rfl ?_
  obtain rfl := Option.some.inj h
  exact RT.iret (pc := 78) dX11_leans_78 rfl (Nat.le_of_eq (rt_cells_0 z)) (Nat.le_of_eq (rt_slots_0 z)) hK
theorem c_X11_leans {G : rt_G} {d : Nat} {z : Nat × Nat} (hz : 300 ≤ z.1) (hd : 4 ≤ d) (a0 : Int) (a1 : Int) (mem0 : rt_M) (t : Int × rt_M) (ht : rt_kd a0.toNat = 20 + 11) (h : f_X11_leans a0 a1 mem0 = some t) : RM G M_X11_leans d [(2, a0), (0, a1)] z mem0 (some (0, t.1)) t.2 := by
  suffices H : ∀ Q : rt_P, Q (some (0, t.1)) z t.2 → RT G M_X11_leans d z Q 0 [(2, a0), (0, a1), (9, 0), (9, 0), (9, 0)] [] z mem0 from H _ ⟨rfl, rfl, rfl⟩
  intro Q hK
  unfold f_X11_leans at h
  refine RT.aload_n (pc := 0) (k := 0) (x := a0) dX11_leans_0 rfl ?_
  obtain ⟨v1, hv1, h⟩ := Option.bind_eq_some_iff.mp h
  refine RT.gf 11 2 2 (pc := 1) (x := a0) (v := v1) hz dX11_leans_1 fl_X11_28 rfl hv1 ?_
  obtain ⟨v4, hv4, h⟩ := Option.bind_eq_some_iff.mp h
  refine RT.gf 0 2 2 (pc := 4) (x := v1) (v := v4) hz dX11_leans_4 fl_X11_253 rfl hv4 ?_
  refine RT.aload_n (pc := 7) (k := 0) (x := a0) dX11_leans_7 rfl ?_
  obtain ⟨v8, hv8, h⟩ := Option.bind_eq_some_iff.mp h
  refine RT.gf 11 7 2 (pc := 8) (x := a0) (v := v8) hz dX11_leans_8 fl_X11_45 rfl hv8 ?_
  obtain ⟨p11, hp11, h⟩ := Option.bind_eq_some_iff.mp h
  obtain ⟨hk11, hp11⟩ := rt_gd_some hp11
  refine RT.cVz (pc := 11) (M' := M_X6_possible) (ci := 6) (x := v4) (As := [(2, v8)]) (st := []) (r := some (0, p11.1)) (mem1 := p11.2) (d' := d - 1) hz dX11_leans_11 mw_X6_possible ml_X11_262 mi_X6_possible hk11 rfl rfl (Nat.le_of_ble_eq_true rfl) (Nat.le_of_ble_eq_true rfl) (by omega) rfl rfl (c_X6_possible hz (by omega) v4 v8 mem0 _ hk11 hp11) ?_
  refine RT.istore_n (pc := 14) (k := 2) (x := p11.1) (L1 := [(2, a0), (0, a1), (0, p11.1), (9, 0), (9, 0)]) dX11_leans_14 (Nat.le_of_ble_eq_true rfl) rfl ?_
  refine RT.iload_n (pc := 15) (k := 1) (x := a1) dX11_leans_15 rfl ?_
  refine RT.if_ne (pc := 16) (tgt := 24) dX11_leans_16 rfl (fun q16 => ?_) (fun q16 => ?_)
  · rw [if_neg q16] at h
    refine RT.iload_n (pc := 24) (k := 1) (x := a1) dX11_leans_24 rfl ?_
    refine RT.iconst (pc := 25) (n := 1) dX11_leans_25 ⟨by decide, by decide⟩ ?_
    refine RT.icmp_eq (pc := 26) (tgt := 36) dX11_leans_26 rfl (fun q26 => ?_) (fun q26 => ?_)
    · rw [if_pos q26] at h
      refine RT.wk (L1 := [(9, 0), (0, a1), (0, p11.1), (9, 0), (9, 0)]) (rt_le_j (rt_le_s (rt_le_s (rt_le_s (rt_le_s rt_le_n))))) ?_
      exact cj_X11_leans_36 hz hd ht a1 p11.1 p11.2 _ h hK
    · rw [if_neg q26] at h
      refine RT.iload_n (pc := 29) (k := 1) (x := a1) dX11_leans_29 rfl ?_
      refine RT.iconst (pc := 30) (n := 2) dX11_leans_30 ⟨by decide, by decide⟩ ?_
      refine RT.icmp_eq (pc := 31) (tgt := 36) dX11_leans_31 rfl (fun q31 => ?_) (fun q31 => ?_)
      · rw [if_pos q31] at h
        refine RT.wk (L1 := [(9, 0), (0, a1), (0, p11.1), (9, 0), (9, 0)]) (rt_le_j (rt_le_s (rt_le_s (rt_le_s (rt_le_s rt_le_n))))) ?_
        exact cj_X11_leans_36 hz hd ht a1 p11.1 p11.2 _ h hK
      · rw [if_neg q31] at h
        refine RT.iconst (pc := 34) (n := (-1)) dX11_leans_34 ⟨by decide, by decide⟩ ?_
        obtain rfl := Option.some.inj h
        exact RT.iret (pc := 35) dX11_leans_35 rfl (Nat.le_of_eq (rt_cells_0 z)) (Nat.le_of_eq (rt_slots_0 z)) hK
  · rw [if_pos (Classical.not_not.mp q16)] at h
    refine RT.iload_n (pc := 19) (k := 2) (x := p11.1) dX11_leans_19 rfl ?_
    obtain ⟨p20, hp20, h⟩ := Option.bind_eq_some_iff.mp h
    refine RT.cSz (pc := 20) (M' := M_J6_bitCount_0f7a4) (As := [(0, p11.1)]) (st := []) (r := some (0, p20)) (mem1 := p11.2) (d' := d - 1) dX11_leans_20 mw_J6_bitCount_0f7a4 ml_X11_265 mi_J6_bitCount_0f7a4 rfl rfl (Nat.le_of_ble_eq_true rfl) (Nat.le_of_ble_eq_true rfl) (by omega) rfl rfl (c_J6_bitCount_0f7a4 hz (by omega) p11.1 p11.2 _ hp20) ?_
    obtain rfl := Option.some.inj h
    exact RT.iret (pc := 23) dX11_leans_23 rfl (Nat.le_of_eq (rt_cells_0 z)) (Nat.le_of_eq (rt_slots_0 z)) hK
theorem cj_X11_next_90_55 {G : rt_G} {d : Nat} {z : Nat × Nat} {Q : rt_P} (hz : 300 ≤ z.1) (hd : 4 ≤ d) {a0 : Int} (ht : rt_kd a0.toNat = 20 + 11) (a1 : Int) (a2 : Int) (a3 : Int) (a4 : Int) (a5 : Int) (a6 : Int) (a7 : Int) (a8 : Int) (mem0 : rt_M) (t : (Int × Int × rt_M) ⊕ (Int × rt_M)) (h : j_X11_next_90_55 a0 a1 a2 a3 a4 a5 a6 a7 a8 mem0 = some t) (hK : (∀ s1 : Int × Int × rt_M, t = .inl s1 → RT G M_X11_next d z Q 55 [(2, a0), (0, a1), (0, a2), (0, a3), (0, a4), (0, a5), (0, a6), (0, s1.1), (0, s1.2.1)] [] z s1.2.2) ∧ (∀ x1 : Int × rt_M, t = .inr x1 → RT G M_X11_next d z Q 96 [(2, a0), (0, a1), (0, a2), (0, a3), (0, a4), (0, a5), (0, a6), (0, x1.1), (9, 0)] [] z x1.2)) : RT G M_X11_next d z Q 90 [(2, a0), (0, a1), (0, a2), (0, a3), (0, a4), (0, a5), (0, a6), (0, a7), (0, a8)] [] z mem0 := by
  unfold j_X11_next_90_55 at h
  refine RT.iinc (pc := 90) (x := a8) (L1 := [(2, a0), (0, a1), (0, a2), (0, a3), (0, a4), (0, a5), (0, a6), (0, a7), (0, (rt_iadd a8 1))]) dX11_next_90 rfl (Nat.le_of_ble_eq_true rfl) ⟨by decide, by decide⟩ rfl ?_
  refine RT.goto (pc := 93) (tgt := 55) dX11_next_93 rfl ?_
  obtain rfl := Option.some.inj h
  have q1 := hK.1 ((a7, (rt_iadd a8 1), mem0)) rfl
  try dsimp only at q1
  exact q1
theorem cb_X11_next_55 {G : rt_G} {d : Nat} {z : Nat × Nat} {Q : rt_P} (hz : 300 ≤ z.1) (hd : 4 ≤ d) {a0 : Int} (ht : rt_kd a0.toNat = 20 + 11) (a1 : Int) (a2 : Int) (a3 : Int) (a4 : Int) (a5 : Int) (a6 : Int) (s : Int × Int × rt_M) (t : (Int × Int × rt_M) ⊕ (Int × rt_M)) (h : b_X11_next_55 a0 a1 a2 a3 a4 a5 a6 s = some t) (hK : (∀ s1 : Int × Int × rt_M, t = .inl s1 → RT G M_X11_next d z Q 55 [(2, a0), (0, a1), (0, a2), (0, a3), (0, a4), (0, a5), (0, a6), (0, s1.1), (0, s1.2.1)] [] z s1.2.2) ∧ (∀ x1 : Int × rt_M, t = .inr x1 → RT G M_X11_next d z Q 96 [(2, a0), (0, a1), (0, a2), (0, a3), (0, a4), (0, a5), (0, a6), (0, x1.1), (9, 0)] [] z x1.2)) : RT G M_X11_next d z Q 55 [(2, a0), (0, a1), (0, a2), (0, a3), (0, a4), (0, a5), (0, a6), (0, s.1), (0, s.2.1)] [] z s.2.2 := by
  unfold b_X11_next_55 at h
  refine RT.iload (pc := 55) (k := 8) (x := s.2.1) dX11_next_55 rfl ?_
  refine RT.bipush (pc := 57) (n := 9) dX11_next_57 ⟨by decide, by decide⟩ rfl ?_
  refine RT.icmp_gt (pc := 59) (tgt := 96) dX11_next_59 rfl (fun q59 => ?_) (fun q59 => ?_)
  · rw [if_pos q59] at h
    refine RT.wk (L1 := [(2, a0), (0, a1), (0, a2), (0, a3), (0, a4), (0, a5), (0, a6), (0, s.1), (9, 0)]) (rt_le_s (rt_le_s (rt_le_s (rt_le_s (rt_le_s (rt_le_s (rt_le_s (rt_le_s (rt_le_j rt_le_n))))))))) ?_
    obtain rfl := Option.some.inj h
    have q1 := hK.2 ((s.1, s.2.2)) rfl
    try dsimp only at q1
    exact q1
  · rw [if_neg q59] at h
    refine RT.iload_n (pc := 62) (k := 2) (x := a2) dX11_next_62 rfl ?_
    refine RT.iload (pc := 63) (k := 8) (x := s.2.1) dX11_next_63 rfl ?_
    refine RT.ishr (pc := 65) dX11_next_65 ?_
    refine RT.iconst (pc := 66) (n := 1) dX11_next_66 ⟨by decide, by decide⟩ ?_
    refine RT.iand (pc := 67) dX11_next_67 ?_
    refine RT.iconst (pc := 68) (n := 1) dX11_next_68 ⟨by decide, by decide⟩ ?_
    refine RT.icmp_ne (pc := 69) (tgt := 90) dX11_next_69 rfl (fun q69 => ?_) (fun q69 => ?_)
    · rw [if_neg q69] at h
      exact cj_X11_next_90_55 hz hd ht a1 a2 a3 a4 a5 a6 s.1 s.2.1 s.2.2 _ h hK
    · rw [if_pos (Classical.not_not.mp q69)] at h
      refine RT.aload_n (pc := 72) (k := 0) (x := a0) dX11_next_72 rfl ?_
      obtain ⟨v73, hv73, h⟩ := Option.bind_eq_some_iff.mp h
      refine RT.gf 11 7 2 (pc := 73) (x := a0) (v := v73) hz dX11_next_73 fl_X11_45 rfl hv73 ?_
      refine RT.iload (pc := 76) (k := 8) (x := s.2.1) dX11_next_76 rfl ?_
      refine RT.iload_n (pc := 78) (k := 1) (x := a1) dX11_next_78 rfl ?_
      refine RT.iload (pc := 79) (k := 6) (x := a6) dX11_next_79 rfl ?_
      obtain ⟨p81, hp81, h⟩ := Option.bind_eq_some_iff.mp h
      obtain ⟨hk81, hp81⟩ := rt_gd_some hp81
      refine RT.cVz (pc := 81) (M' := M_X4_isFor) (ci := 4) (x := v73) (As := [(0, s.2.1), (0, a1), (0, a6)]) (st := []) (r := some (0, p81.1)) (mem1 := p81.2) (d' := d - 1) hz dX11_next_81 mw_X4_isFor ml_X11_220 mi_X4_isFor hk81 rfl rfl (Nat.le_of_ble_eq_true rfl) (Nat.le_of_ble_eq_true rfl) (by omega) rfl rfl (c_X4_isFor hz (by omega) v73 s.2.1 a1 a6 s.2.2 _ hk81 hp81) ?_
      refine RT.if_eq (pc := 84) (tgt := 90) dX11_next_84 rfl (fun q84 => ?_) (fun q84 => ?_)
      · rw [if_pos q84] at h
        exact cj_X11_next_90_55 hz hd ht a1 a2 a3 a4 a5 a6 s.1 s.2.1 p81.2 _ h hK
      · rw [if_neg q84] at h
        refine RT.iinc (pc := 87) (x := s.1) (L1 := [(2, a0), (0, a1), (0, a2), (0, a3), (0, a4), (0, a5), (0, a6), (0, (rt_iadd s.1 1)), (0, s.2.1)]) dX11_next_87 rfl (Nat.le_of_ble_eq_true rfl) ⟨by decide, by decide⟩ rfl ?_
        exact cj_X11_next_90_55 hz hd ht a1 a2 a3 a4 a5 a6 ((rt_iadd s.1 1)) s.2.1 p81.2 _ h hK
theorem cj_X11_next_122_42 {G : rt_G} {d : Nat} {z : Nat × Nat} {Q : rt_P} (hz : 300 ≤ z.1) (hd : 4 ≤ d) {a0 : Int} (ht : rt_kd a0.toNat = 20 + 11) (a1 : Int) (a2 : Int) (a3 : Int) (a4 : Int) (a5 : Int) (a6 : Int) (mem0 : rt_M) (t : (Int × Int × Int × rt_M) ⊕ (Int × rt_M)) (h : j_X11_next_122_42 a0 a1 a2 a3 a4 a5 a6 mem0 = some t) (hK : (∀ s1 : Int × Int × Int × rt_M, t = .inl s1 → RT G M_X11_next d z Q 42 [(2, a0), (0, a1), (0, a2), (0, a3), (0, s1.1), (0, s1.2.1), (0, s1.2.2.1), (9, 0), (9, 0)] [] z s1.2.2.2) ∧ (∀ x1 : Int × rt_M, t = .inr x1 → RT G M_X11_next d z Q 128 [(9, 0), (9, 0), (9, 0), (9, 0), (9, 0), (0, x1.1), (9, 0), (9, 0), (9, 0)] [] z x1.2)) : RT G M_X11_next d z Q 122 [(2, a0), (0, a1), (0, a2), (0, a3), (0, a4), (0, a5), (0, a6), (9, 0), (9, 0)] [] z mem0 := by
  unfold j_X11_next_122_42 at h
  refine RT.iinc (pc := 122) (x := a6) (L1 := [(2, a0), (0, a1), (0, a2), (0, a3), (0, a4), (0, a5), (0, (rt_iadd a6 1)), (9, 0), (9, 0)]) dX11_next_122 rfl (Nat.le_of_ble_eq_true rfl) ⟨by decide, by decide⟩ rfl ?_
  refine RT.goto (pc := 125) (tgt := 42) dX11_next_125 rfl ?_
  obtain rfl := Option.some.inj h
  have q1 := hK.1 ((a4, a5, (rt_iadd a6 1), mem0)) rfl
  try dsimp only at q1
  exact q1
theorem cb_X11_next_42 {G : rt_G} {d : Nat} {z : Nat × Nat} {Q : rt_P} (hz : 300 ≤ z.1) (hd : 4 ≤ d) {a0 : Int} (ht : rt_kd a0.toNat = 20 + 11) (a1 : Int) (a2 : Int) (a3 : Int) (s : Int × Int × Int × rt_M) (t : (Int × Int × Int × rt_M) ⊕ (Int × rt_M)) (h : b_X11_next_42 a0 a1 a2 a3 s = some t) (hK : (∀ s1 : Int × Int × Int × rt_M, t = .inl s1 → RT G M_X11_next d z Q 42 [(2, a0), (0, a1), (0, a2), (0, a3), (0, s1.1), (0, s1.2.1), (0, s1.2.2.1), (9, 0), (9, 0)] [] z s1.2.2.2) ∧ (∀ x1 : Int × rt_M, t = .inr x1 → RT G M_X11_next d z Q 128 [(9, 0), (9, 0), (9, 0), (9, 0), (9, 0), (0, x1.1), (9, 0), (9, 0), (9, 0)] [] z x1.2)) : RT G M_X11_next d z Q 42 [(2, a0), (0, a1), (0, a2), (0, a3), (0, s.1), (0, s.2.1), (0, s.2.2.1), (9, 0), (9, 0)] [] z s.2.2.2 := by
  unfold b_X11_next_42 at h
  refine RT.iload (pc := 42) (k := 6) (x := s.2.2.1) dX11_next_42 rfl ?_
  refine RT.bipush (pc := 44) (n := 9) dX11_next_44 ⟨by decide, by decide⟩ rfl ?_
  refine RT.icmp_gt (pc := 46) (tgt := 128) dX11_next_46 rfl (fun q46 => ?_) (fun q46 => ?_)
  · rw [if_pos q46] at h
    refine RT.wk (L1 := [(9, 0), (9, 0), (9, 0), (9, 0), (9, 0), (0, s.2.1), (9, 0), (9, 0), (9, 0)]) (rt_le_j (rt_le_j (rt_le_j (rt_le_j (rt_le_j (rt_le_s (rt_le_j (rt_le_s (rt_le_s rt_le_n))))))))) ?_
    obtain rfl := Option.some.inj h
    have q1 := hK.2 ((s.2.1, s.2.2.2)) rfl
    try dsimp only at q1
    exact q1
  · rw [if_neg q46] at h
    refine RT.iconst (pc := 49) (n := 0) dX11_next_49 ⟨by decide, by decide⟩ ?_
    refine RT.istore (pc := 50) (k := 7) (x := 0) (L1 := [(2, a0), (0, a1), (0, a2), (0, a3), (0, s.1), (0, s.2.1), (0, s.2.2.1), (0, 0), (9, 0)]) dX11_next_50 (Nat.le_of_ble_eq_true rfl) rfl ?_
    refine RT.iconst (pc := 52) (n := 0) dX11_next_52 ⟨by decide, by decide⟩ ?_
    refine RT.istore (pc := 53) (k := 8) (x := 0) (L1 := [(2, a0), (0, a1), (0, a2), (0, a3), (0, s.1), (0, s.2.1), (0, s.2.2.1), (0, 0), (0, 0)]) dX11_next_53 (Nat.le_of_ble_eq_true rfl) rfl ?_
    obtain ⟨X55, hX55, h⟩ := Option.bind_eq_some_iff.mp h
    refine rt_it_ind (P := (fun s1 : Int × Int × rt_M => RT G M_X11_next d z Q 55 [(2, a0), (0, a1), (0, a2), (0, a3), (0, s.1), (0, s.2.1), (0, s.2.2.1), (0, s1.1), (0, s1.2.1)] [] z s1.2.2)) (X := (fun x1 : Int × rt_M => RT G M_X11_next d z Q 96 [(2, a0), (0, a1), (0, a2), (0, a3), (0, s.1), (0, s.2.1), (0, s.2.2.1), (0, x1.1), (9, 0)] [] z x1.2)) (fun s1 t1 h1 k1 k2 => cb_X11_next_55 hz hd ht a1 a2 a3 s.1 s.2.1 s.2.2.1 s1 t1 h1 ⟨k1, k2⟩) 4000 ((0, 0, s.2.2.2)) X55 hX55 ?_
    refine RT.iload (pc := 96) (k := 7) (x := X55.1) dX11_next_96 rfl ?_
    refine RT.iload_n (pc := 98) (k := 3) (x := a3) dX11_next_98 rfl ?_
    refine RT.iload (pc := 99) (k := 7) (x := X55.1) dX11_next_99 rfl ?_
    refine RT.isub (pc := 101) dX11_next_101 ?_
    obtain ⟨p102, hp102, h⟩ := Option.bind_eq_some_iff.mp h
    refine RT.cSz (pc := 102) (M' := M_J9_max_7cf53) (As := [(0, X55.1), (0, (rt_isub a3 X55.1))]) (st := []) (r := some (0, p102)) (mem1 := X55.2) (d' := d - 1) dX11_next_102 mw_J9_max_7cf53 ml_X11_270 mi_J9_max_7cf53 rfl rfl (Nat.le_of_ble_eq_true rfl) (Nat.le_of_ble_eq_true rfl) (by omega) rfl rfl (c_J9_max_7cf53 hz (by omega) X55.1 ((rt_isub a3 X55.1)) X55.2 _ hp102) ?_
    refine RT.istore (pc := 105) (k := 8) (x := p102) (L1 := [(2, a0), (0, a1), (0, a2), (0, a3), (0, s.1), (0, s.2.1), (0, s.2.2.1), (0, X55.1), (0, p102)]) dX11_next_105 (Nat.le_of_ble_eq_true rfl) rfl ?_
    refine RT.iload (pc := 107) (k := 8) (x := p102) dX11_next_107 rfl ?_
    refine RT.iload (pc := 109) (k := 4) (x := s.1) dX11_next_109 rfl ?_
    refine RT.icmp_ge (pc := 111) (tgt := 122) dX11_next_111 rfl (fun q111 => ?_) (fun q111 => ?_)
    · rw [if_pos q111] at h
      refine RT.wk (L1 := [(2, a0), (0, a1), (0, a2), (0, a3), (0, s.1), (0, s.2.1), (0, s.2.2.1), (9, 0), (9, 0)]) (rt_le_s (rt_le_s (rt_le_s (rt_le_s (rt_le_s (rt_le_s (rt_le_s (rt_le_j (rt_le_j rt_le_n))))))))) ?_
      exact cj_X11_next_122_42 hz hd ht a1 a2 a3 s.1 s.2.1 s.2.2.1 X55.2 _ h hK
    · rw [if_neg q111] at h
      refine RT.iload (pc := 114) (k := 8) (x := p102) dX11_next_114 rfl ?_
      refine RT.istore (pc := 116) (k := 4) (x := p102) (L1 := [(2, a0), (0, a1), (0, a2), (0, a3), (0, p102), (0, s.2.1), (0, s.2.2.1), (0, X55.1), (0, p102)]) dX11_next_116 (Nat.le_of_ble_eq_true rfl) rfl ?_
      refine RT.iload (pc := 118) (k := 6) (x := s.2.2.1) dX11_next_118 rfl ?_
      refine RT.istore (pc := 120) (k := 5) (x := s.2.2.1) (L1 := [(2, a0), (0, a1), (0, a2), (0, a3), (0, p102), (0, s.2.2.1), (0, s.2.2.1), (0, X55.1), (0, p102)]) dX11_next_120 (Nat.le_of_ble_eq_true rfl) rfl ?_
      refine RT.wk (L1 := [(2, a0), (0, a1), (0, a2), (0, a3), (0, p102), (0, s.2.2.1), (0, s.2.2.1), (9, 0), (9, 0)]) (rt_le_s (rt_le_s (rt_le_s (rt_le_s (rt_le_s (rt_le_s (rt_le_s (rt_le_j (rt_le_j rt_le_n))))))))) ?_
      exact cj_X11_next_122_42 hz hd ht a1 a2 a3 p102 s.2.2.1 s.2.2.1 X55.2 _ h hK
theorem c_X11_next {G : rt_G} {d : Nat} {z : Nat × Nat} (hz : 300 ≤ z.1) (hd : 4 ≤ d) (a0 : Int) (a1 : Int) (mem0 : rt_M) (t : Int × rt_M) (ht : rt_kd a0.toNat = 20 + 11) (h : f_X11_next a0 a1 mem0 = some t) : RM G M_X11_next d [(2, a0), (0, a1)] z mem0 (some (0, t.1)) t.2 := by
  suffices H : ∀ Q : rt_P, Q (some (0, t.1)) z t.2 → RT G M_X11_next d z Q 0 [(2, a0), (0, a1), (9, 0), (9, 0), (9, 0), (9, 0), (9, 0), (9, 0), (9, 0)] [] z mem0 from H _ ⟨rfl, rfl, rfl⟩
  intro Q hK
  unfold f_X11_next at h
  refine RT.aload_n (pc := 0) (k := 0) (x := a0) dX11_next_0 rfl ?_
  obtain ⟨v1, hv1, h⟩ := Option.bind_eq_some_iff.mp h
  refine RT.gf 11 7 2 (pc := 1) (x := a0) (v := v1) hz dX11_next_1 fl_X11_45 rfl hv1 ?_
  refine RT.iload_n (pc := 4) (k := 1) (x := a1) dX11_next_4 rfl ?_
  obtain ⟨p5, hp5, h⟩ := Option.bind_eq_some_iff.mp h
  obtain ⟨hk5, hp5⟩ := rt_gd_some hp5
  refine RT.cVz (pc := 5) (M' := M_X4_isHead) (ci := 4) (x := v1) (As := [(0, a1)]) (st := []) (r := some (0, p5)) (mem1 := mem0) (d' := d - 1) hz dX11_next_5 mw_X4_isHead ml_X11_135 mi_X4_isHead hk5 rfl rfl (Nat.le_of_ble_eq_true rfl) (Nat.le_of_ble_eq_true rfl) (by omega) rfl rfl (c_X4_isHead hz (by omega) v1 a1 mem0 _ hk5 hp5) ?_
  refine RT.if_ne (pc := 8) (tgt := 13) dX11_next_8 rfl (fun q8 => ?_) (fun q8 => ?_)
  · rw [if_neg q8] at h
    refine RT.aload_n (pc := 13) (k := 0) (x := a0) dX11_next_13 rfl ?_
    obtain ⟨v14, hv14, h⟩ := Option.bind_eq_some_iff.mp h
    refine RT.gf 11 2 2 (pc := 14) (x := a0) (v := v14) hz dX11_next_14 fl_X11_28 rfl hv14 ?_
    obtain ⟨v17, hv17, h⟩ := Option.bind_eq_some_iff.mp h
    refine RT.gf 0 2 2 (pc := 17) (x := v14) (v := v17) hz dX11_next_17 fl_X11_253 rfl hv17 ?_
    refine RT.aload_n (pc := 20) (k := 0) (x := a0) dX11_next_20 rfl ?_
    obtain ⟨v21, hv21, h⟩ := Option.bind_eq_some_iff.mp h
    refine RT.gf 11 7 2 (pc := 21) (x := a0) (v := v21) hz dX11_next_21 fl_X11_45 rfl hv21 ?_
    obtain ⟨p24, hp24, h⟩ := Option.bind_eq_some_iff.mp h
    obtain ⟨hk24, hp24⟩ := rt_gd_some hp24
    refine RT.cVz (pc := 24) (M' := M_X6_possible) (ci := 6) (x := v17) (As := [(2, v21)]) (st := []) (r := some (0, p24.1)) (mem1 := p24.2) (d' := d - 1) hz dX11_next_24 mw_X6_possible ml_X11_262 mi_X6_possible hk24 rfl rfl (Nat.le_of_ble_eq_true rfl) (Nat.le_of_ble_eq_true rfl) (by omega) rfl rfl (c_X6_possible hz (by omega) v17 v21 mem0 _ hk24 hp24) ?_
    refine RT.istore_n (pc := 27) (k := 2) (x := p24.1) (L1 := [(2, a0), (0, a1), (0, p24.1), (9, 0), (9, 0), (9, 0), (9, 0), (9, 0), (9, 0)]) dX11_next_27 (Nat.le_of_ble_eq_true rfl) rfl ?_
    refine RT.iload_n (pc := 28) (k := 2) (x := p24.1) dX11_next_28 rfl ?_
    obtain ⟨p29, hp29, h⟩ := Option.bind_eq_some_iff.mp h
    refine RT.cSz (pc := 29) (M' := M_J6_bitCount_0f7a4) (As := [(0, p24.1)]) (st := []) (r := some (0, p29)) (mem1 := p24.2) (d' := d - 1) dX11_next_29 mw_J6_bitCount_0f7a4 ml_X11_265 mi_J6_bitCount_0f7a4 rfl rfl (Nat.le_of_ble_eq_true rfl) (Nat.le_of_ble_eq_true rfl) (by omega) rfl rfl (c_J6_bitCount_0f7a4 hz (by omega) p24.1 p24.2 _ hp29) ?_
    refine RT.istore_n (pc := 32) (k := 3) (x := p29) (L1 := [(2, a0), (0, a1), (0, p24.1), (0, p29), (9, 0), (9, 0), (9, 0), (9, 0), (9, 0)]) dX11_next_32 (Nat.le_of_ble_eq_true rfl) rfl ?_
    refine RT.iload_n (pc := 33) (k := 3) (x := p29) dX11_next_33 rfl ?_
    refine RT.istore (pc := 34) (k := 4) (x := p29) (L1 := [(2, a0), (0, a1), (0, p24.1), (0, p29), (0, p29), (9, 0), (9, 0), (9, 0), (9, 0)]) dX11_next_34 (Nat.le_of_ble_eq_true rfl) rfl ?_
    refine RT.iconst (pc := 36) (n := (-1)) dX11_next_36 ⟨by decide, by decide⟩ ?_
    refine RT.istore (pc := 37) (k := 5) (x := (-1)) (L1 := [(2, a0), (0, a1), (0, p24.1), (0, p29), (0, p29), (0, (-1)), (9, 0), (9, 0), (9, 0)]) dX11_next_37 (Nat.le_of_ble_eq_true rfl) rfl ?_
    refine RT.iconst (pc := 39) (n := 0) dX11_next_39 ⟨by decide, by decide⟩ ?_
    refine RT.istore (pc := 40) (k := 6) (x := 0) (L1 := [(2, a0), (0, a1), (0, p24.1), (0, p29), (0, p29), (0, (-1)), (0, 0), (9, 0), (9, 0)]) dX11_next_40 (Nat.le_of_ble_eq_true rfl) rfl ?_
    obtain ⟨X42, hX42, h⟩ := Option.bind_eq_some_iff.mp h
    refine rt_it_ind (P := (fun s1 : Int × Int × Int × rt_M => RT G M_X11_next d z Q 42 [(2, a0), (0, a1), (0, p24.1), (0, p29), (0, s1.1), (0, s1.2.1), (0, s1.2.2.1), (9, 0), (9, 0)] [] z s1.2.2.2)) (X := (fun x1 : Int × rt_M => RT G M_X11_next d z Q 128 [(9, 0), (9, 0), (9, 0), (9, 0), (9, 0), (0, x1.1), (9, 0), (9, 0), (9, 0)] [] z x1.2)) (fun s1 t1 h1 k1 k2 => cb_X11_next_42 hz hd ht a1 p24.1 p29 s1 t1 h1 ⟨k1, k2⟩) 4000 ((p29, (-1), 0, p24.2)) X42 hX42 ?_
    refine RT.iload (pc := 128) (k := 5) (x := X42.1) dX11_next_128 rfl ?_
    obtain rfl := Option.some.inj h
    exact RT.iret (pc := 130) dX11_next_130 rfl (Nat.le_of_eq (rt_cells_0 z)) (Nat.le_of_eq (rt_slots_0 z)) hK
  · rw [if_pos (Classical.not_not.mp q8)] at h
    refine RT.iconst (pc := 11) (n := (-1)) dX11_next_11 ⟨by decide, by decide⟩ ?_
    obtain rfl := Option.some.inj h
    exact RT.iret (pc := 12) dX11_next_12 rfl (Nat.le_of_eq (rt_cells_0 z)) (Nat.le_of_eq (rt_slots_0 z)) hK
theorem cj_X11_baths_33 {G : rt_G} {d : Nat} {z : Nat × Nat} {Q : rt_P} (hz : 300 ≤ z.1) (hd : 3 ≤ d) {a0 : Int} (ht : rt_kd a0.toNat = 20 + 11) (mem0 : rt_M) (t : Int × rt_M) (h : j_X11_baths_33 mem0 = some t) (hK : Q (some (0, t.1)) z t.2) : RT G M_X11_baths d z Q 33 [(9, 0), (9, 0), (9, 0), (9, 0), (9, 0), (9, 0), (9, 0)] [] z mem0 := by
  unfold j_X11_baths_33 at h
  refine RT.iconst (pc := 33) (n := (-1)) dX11_baths_33 ⟨by decide, by decide⟩ ?_
  obtain rfl := Option.some.inj h
  exact RT.iret (pc := 34) dX11_baths_34 rfl (Nat.le_of_eq (rt_cells_0 z)) (Nat.le_of_eq (rt_slots_0 z)) hK
theorem cb_X11_baths_41 {G : rt_G} {d : Nat} {z : Nat × Nat} {Q : rt_P} (hz : 300 ≤ z.1) (hd : 3 ≤ d) {a0 : Int} (ht : rt_kd a0.toNat = 20 + 11) (a1 : Int) (a2 : Int) (a3 : Int) (s : Int × Int × rt_M) (t : (Int × Int × rt_M) ⊕ (Int × rt_M)) (h : b_X11_baths_41 a0 a1 a2 a3 s = some t) (hK : (∀ s1 : Int × Int × rt_M, t = .inl s1 → RT G M_X11_baths d z Q 41 [(2, a0), (0, a1), (0, a2), (0, a3), (0, s1.1), (0, s1.2.1), (9, 0)] [] z s1.2.2) ∧ (∀ x1 : Int × rt_M, t = .inr x1 → RT G M_X11_baths d z Q 112 [(9, 0), (9, 0), (9, 0), (9, 0), (0, x1.1), (9, 0), (9, 0)] [] z x1.2)) : RT G M_X11_baths d z Q 41 [(2, a0), (0, a1), (0, a2), (0, a3), (0, s.1), (0, s.2.1), (9, 0)] [] z s.2.2 := by
  unfold b_X11_baths_41 at h
  refine RT.iload (pc := 41) (k := 5) (x := s.2.1) dX11_baths_41 rfl ?_
  refine RT.iload_n (pc := 43) (k := 3) (x := a3) dX11_baths_43 rfl ?_
  refine RT.icmp_ge (pc := 44) (tgt := 112) dX11_baths_44 rfl (fun q44 => ?_) (fun q44 => ?_)
  · rw [if_pos q44] at h
    refine RT.wk (L1 := [(9, 0), (9, 0), (9, 0), (9, 0), (0, s.1), (9, 0), (9, 0)]) (rt_le_j (rt_le_j (rt_le_j (rt_le_j (rt_le_s (rt_le_j (rt_le_s rt_le_n))))))) ?_
    obtain rfl := Option.some.inj h
    have q1 := hK.2 ((s.1, s.2.2)) rfl
    try dsimp only at q1
    exact q1
  · rw [if_neg q44] at h
    refine RT.aload_n (pc := 47) (k := 0) (x := a0) dX11_baths_47 rfl ?_
    obtain ⟨v48, hv48, h⟩ := Option.bind_eq_some_iff.mp h
    refine RT.gf 11 7 2 (pc := 48) (x := a0) (v := v48) hz dX11_baths_48 fl_X11_45 rfl hv48 ?_
    refine RT.iload_n (pc := 51) (k := 2) (x := a2) dX11_baths_51 rfl ?_
    obtain ⟨p52, hp52, h⟩ := Option.bind_eq_some_iff.mp h
    obtain ⟨hk52, hp52⟩ := rt_gd_some hp52
    refine RT.cVz (pc := 52) (M' := M_X4_sizeOfWig) (ci := 4) (x := v48) (As := [(0, a2)]) (st := []) (r := some (0, p52)) (mem1 := s.2.2) (d' := d - 1) hz dX11_baths_52 mw_X4_sizeOfWig ml_X11_116 mi_X4_sizeOfWig hk52 rfl rfl (Nat.le_of_ble_eq_true rfl) (Nat.le_of_ble_eq_true rfl) (by omega) rfl rfl (c_X4_sizeOfWig hz (by omega) v48 a2 s.2.2 _ hk52 hp52) ?_
    refine RT.aload_n (pc := 55) (k := 0) (x := a0) dX11_baths_55 rfl ?_
    obtain ⟨v56, hv56, h⟩ := Option.bind_eq_some_iff.mp h
    refine RT.gf 11 7 2 (pc := 56) (x := a0) (v := v56) hz dX11_baths_56 fl_X11_45 rfl hv56 ?_
    refine RT.iload_n (pc := 59) (k := 1) (x := a1) dX11_baths_59 rfl ?_
    refine RT.aload_n (pc := 60) (k := 0) (x := a0) dX11_baths_60 rfl ?_
    obtain ⟨v61, hv61, h⟩ := Option.bind_eq_some_iff.mp h
    refine RT.gf 11 2 2 (pc := 61) (x := a0) (v := v61) hz dX11_baths_61 fl_X11_28 rfl hv61 ?_
    obtain ⟨v64, hv64, h⟩ := Option.bind_eq_some_iff.mp h
    refine RT.gf 0 0 2 (pc := 64) (x := v61) (v := v64) hz dX11_baths_64 fl_X11_126 rfl hv64 ?_
    obtain ⟨v67, hv67, h⟩ := Option.bind_eq_some_iff.mp h
    refine RT.gf 7 0 0 (pc := 67) (x := v64) (v := v67) hz dX11_baths_67 fl_X11_142 rfl hv67 ?_
    refine RT.iload (pc := 70) (k := 5) (x := s.2.1) dX11_baths_70 rfl ?_
    refine RT.iadd (pc := 72) dX11_baths_72 ?_
    obtain ⟨p73, hp73, h⟩ := Option.bind_eq_some_iff.mp h
    obtain ⟨hk73, hp73⟩ := rt_gd_some hp73
    refine RT.cVz (pc := 73) (M' := M_X4_girth) (ci := 4) (x := v56) (As := [(0, a1), (0, (rt_iadd v67 s.2.1))]) (st := [(0, p52)]) (r := some (0, p73.1)) (mem1 := p73.2) (d' := d - 1) hz dX11_baths_73 mw_X4_girth ml_X11_145 mi_X4_girth hk73 rfl rfl (Nat.le_of_ble_eq_true rfl) (Nat.le_of_ble_eq_true rfl) (by omega) rfl rfl (c_X4_girth hz (by omega) v56 a1 ((rt_iadd v67 s.2.1)) s.2.2 _ hk73 hp73) ?_
    refine RT.isub (pc := 76) dX11_baths_76 ?_
    refine RT.istore (pc := 77) (k := 6) (x := (rt_isub p52 p73.1)) (L1 := [(2, a0), (0, a1), (0, a2), (0, a3), (0, s.1), (0, s.2.1), (0, (rt_isub p52 p73.1))]) dX11_baths_77 (Nat.le_of_ble_eq_true rfl) rfl ?_
    refine RT.iload (pc := 79) (k := 4) (x := s.1) dX11_baths_79 rfl ?_
    refine RT.iconst (pc := 81) (n := 0) dX11_baths_81 ⟨by decide, by decide⟩ ?_
    refine RT.iload (pc := 82) (k := 6) (x := (rt_isub p52 p73.1)) dX11_baths_82 rfl ?_
    refine RT.ineg (pc := 84) dX11_baths_84 ?_
    obtain ⟨p85, hp85, h⟩ := Option.bind_eq_some_iff.mp h
    refine RT.cSz (pc := 85) (M' := M_J9_max_7cf53) (As := [(0, 0), (0, (rt_ineg (rt_isub p52 p73.1)))]) (st := [(0, s.1)]) (r := some (0, p85)) (mem1 := p73.2) (d' := d - 1) dX11_baths_85 mw_J9_max_7cf53 ml_X11_270 mi_J9_max_7cf53 rfl rfl (Nat.le_of_ble_eq_true rfl) (Nat.le_of_ble_eq_true rfl) (by omega) rfl rfl (c_J9_max_7cf53 hz (by omega) 0 ((rt_ineg (rt_isub p52 p73.1))) p73.2 _ hp85) ?_
    refine RT.iconst (pc := 88) (n := 0) dX11_baths_88 ⟨by decide, by decide⟩ ?_
    refine RT.iload (pc := 89) (k := 6) (x := (rt_isub p52 p73.1)) dX11_baths_89 rfl ?_
    refine RT.aload_n (pc := 91) (k := 0) (x := a0) dX11_baths_91 rfl ?_
    obtain ⟨v92, hv92, h⟩ := Option.bind_eq_some_iff.mp h
    refine RT.gf 11 7 2 (pc := 92) (x := a0) (v := v92) hz dX11_baths_92 fl_X11_45 rfl hv92 ?_
    obtain ⟨v95, hv95, h⟩ := Option.bind_eq_some_iff.mp h
    refine RT.gf 4 8 0 (pc := 95) (x := v92) (v := v95) hz dX11_baths_95 fl_X11_273 rfl hv95 ?_
    refine RT.isub (pc := 98) dX11_baths_98 ?_
    obtain ⟨p99, hp99, h⟩ := Option.bind_eq_some_iff.mp h
    refine RT.cSz (pc := 99) (M' := M_J9_max_7cf53) (As := [(0, 0), (0, (rt_isub (rt_isub p52 p73.1) v95))]) (st := [(0, p85), (0, s.1)]) (r := some (0, p99)) (mem1 := p73.2) (d' := d - 1) dX11_baths_99 mw_J9_max_7cf53 ml_X11_270 mi_J9_max_7cf53 rfl rfl (Nat.le_of_ble_eq_true rfl) (Nat.le_of_ble_eq_true rfl) (by omega) rfl rfl (c_J9_max_7cf53 hz (by omega) 0 ((rt_isub (rt_isub p52 p73.1) v95)) p73.2 _ hp99) ?_
    refine RT.iadd (pc := 102) dX11_baths_102 ?_
    refine RT.iadd (pc := 103) dX11_baths_103 ?_
    refine RT.istore (pc := 104) (k := 4) (x := (rt_iadd s.1 (rt_iadd p85 p99))) (L1 := [(2, a0), (0, a1), (0, a2), (0, a3), (0, (rt_iadd s.1 (rt_iadd p85 p99))), (0, s.2.1), (0, (rt_isub p52 p73.1))]) dX11_baths_104 (Nat.le_of_ble_eq_true rfl) rfl ?_
    refine RT.iinc (pc := 106) (x := s.2.1) (L1 := [(2, a0), (0, a1), (0, a2), (0, a3), (0, (rt_iadd s.1 (rt_iadd p85 p99))), (0, (rt_iadd s.2.1 1)), (0, (rt_isub p52 p73.1))]) dX11_baths_106 rfl (Nat.le_of_ble_eq_true rfl) ⟨by decide, by decide⟩ rfl ?_
    refine RT.goto (pc := 109) (tgt := 41) dX11_baths_109 rfl ?_
    refine RT.wk (L1 := [(2, a0), (0, a1), (0, a2), (0, a3), (0, (rt_iadd s.1 (rt_iadd p85 p99))), (0, (rt_iadd s.2.1 1)), (9, 0)]) (rt_le_s (rt_le_s (rt_le_s (rt_le_s (rt_le_s (rt_le_s (rt_le_j rt_le_n))))))) ?_
    obtain rfl := Option.some.inj h
    have q1 := hK.1 (((rt_iadd s.1 (rt_iadd p85 p99)), (rt_iadd s.2.1 1), p73.2)) rfl
    try dsimp only at q1
    exact q1
theorem c_X11_baths {G : rt_G} {d : Nat} {z : Nat × Nat} (hz : 300 ≤ z.1) (hd : 3 ≤ d) (a0 : Int) (a1 : Int) (a2 : Int) (a3 : Int) (mem0 : rt_M) (t : Int × rt_M) (ht : rt_kd a0.toNat = 20 + 11) (h : f_X11_baths a0 a1 a2 a3 mem0 = some t) : RM G M_X11_baths d [(2, a0), (0, a1), (0, a2), (0, a3)] z mem0 (some (0, t.1)) t.2 := by
  suffices H : ∀ Q : rt_P, Q (some (0, t.1)) z t.2 → RT G M_X11_baths d z Q 0 [(2, a0), (0, a1), (0, a2), (0, a3), (9, 0), (9, 0), (9, 0)] [] z mem0 from H _ ⟨rfl, rfl, rfl⟩
  intro Q hK
  unfold f_X11_baths at h
  refine RT.aload_n (pc := 0) (k := 0) (x := a0) dX11_baths_0 rfl ?_
  obtain ⟨v1, hv1, h⟩ := Option.bind_eq_some_iff.mp h
  refine RT.gf 11 7 2 (pc := 1) (x := a0) (v := v1) hz dX11_baths_1 fl_X11_45 rfl hv1 ?_
  refine RT.iload_n (pc := 4) (k := 1) (x := a1) dX11_baths_4 rfl ?_
  obtain ⟨p5, hp5, h⟩ := Option.bind_eq_some_iff.mp h
  obtain ⟨hk5, hp5⟩ := rt_gd_some hp5
  refine RT.cVz (pc := 5) (M' := M_X4_isHead) (ci := 4) (x := v1) (As := [(0, a1)]) (st := []) (r := some (0, p5)) (mem1 := mem0) (d' := d - 1) hz dX11_baths_5 mw_X4_isHead ml_X11_135 mi_X4_isHead hk5 rfl rfl (Nat.le_of_ble_eq_true rfl) (Nat.le_of_ble_eq_true rfl) (by omega) rfl rfl (c_X4_isHead hz (by omega) v1 a1 mem0 _ hk5 hp5) ?_
  refine RT.if_eq (pc := 8) (tgt := 33) dX11_baths_8 rfl (fun q8 => ?_) (fun q8 => ?_)
  · rw [if_pos q8] at h
    refine RT.wk (L1 := [(9, 0), (9, 0), (9, 0), (9, 0), (9, 0), (9, 0), (9, 0)]) (rt_le_j (rt_le_j (rt_le_j (rt_le_j (rt_le_s (rt_le_s (rt_le_s rt_le_n))))))) ?_
    exact cj_X11_baths_33 hz hd ht mem0 _ h hK
  · rw [if_neg q8] at h
    refine RT.aload_n (pc := 11) (k := 0) (x := a0) dX11_baths_11 rfl ?_
    obtain ⟨v12, hv12, h⟩ := Option.bind_eq_some_iff.mp h
    refine RT.gf 11 7 2 (pc := 12) (x := a0) (v := v12) hz dX11_baths_12 fl_X11_45 rfl hv12 ?_
    refine RT.iload_n (pc := 15) (k := 2) (x := a2) dX11_baths_15 rfl ?_
    obtain ⟨p16, hp16, h⟩ := Option.bind_eq_some_iff.mp h
    obtain ⟨hk16, hp16⟩ := rt_gd_some hp16
    refine RT.cVz (pc := 16) (M' := M_X4_isWig) (ci := 4) (x := v12) (As := [(0, a2)]) (st := []) (r := some (0, p16)) (mem1 := mem0) (d' := d - 1) hz dX11_baths_16 mw_X4_isWig ml_X11_112 mi_X4_isWig hk16 rfl rfl (Nat.le_of_ble_eq_true rfl) (Nat.le_of_ble_eq_true rfl) (by omega) rfl rfl (c_X4_isWig hz (by omega) v12 a2 mem0 _ hk16 hp16) ?_
    refine RT.if_eq (pc := 19) (tgt := 33) dX11_baths_19 rfl (fun q19 => ?_) (fun q19 => ?_)
    · rw [if_pos q19] at h
      refine RT.wk (L1 := [(9, 0), (9, 0), (9, 0), (9, 0), (9, 0), (9, 0), (9, 0)]) (rt_le_j (rt_le_j (rt_le_j (rt_le_j (rt_le_s (rt_le_s (rt_le_s rt_le_n))))))) ?_
      exact cj_X11_baths_33 hz hd ht mem0 _ h hK
    · rw [if_neg q19] at h
      refine RT.iload_n (pc := 22) (k := 3) (x := a3) dX11_baths_22 rfl ?_
      refine RT.iconst (pc := 23) (n := 1) dX11_baths_23 ⟨by decide, by decide⟩ ?_
      refine RT.icmp_lt (pc := 24) (tgt := 33) dX11_baths_24 rfl (fun q24 => ?_) (fun q24 => ?_)
      · rw [if_pos q24] at h
        refine RT.wk (L1 := [(9, 0), (9, 0), (9, 0), (9, 0), (9, 0), (9, 0), (9, 0)]) (rt_le_j (rt_le_j (rt_le_j (rt_le_j (rt_le_s (rt_le_s (rt_le_s rt_le_n))))))) ?_
        exact cj_X11_baths_33 hz hd ht mem0 _ h hK
      · rw [if_neg q24] at h
        refine RT.iload_n (pc := 27) (k := 3) (x := a3) dX11_baths_27 rfl ?_
        refine RT.bipush (pc := 28) (n := 40) dX11_baths_28 ⟨by decide, by decide⟩ rfl ?_
        refine RT.icmp_le (pc := 30) (tgt := 35) dX11_baths_30 rfl (fun q30 => ?_) (fun q30 => ?_)
        · rw [if_pos q30] at h
          refine RT.iconst (pc := 35) (n := 0) dX11_baths_35 ⟨by decide, by decide⟩ ?_
          refine RT.istore (pc := 36) (k := 4) (x := 0) (L1 := [(2, a0), (0, a1), (0, a2), (0, a3), (0, 0), (9, 0), (9, 0)]) dX11_baths_36 (Nat.le_of_ble_eq_true rfl) rfl ?_
          refine RT.iconst (pc := 38) (n := 0) dX11_baths_38 ⟨by decide, by decide⟩ ?_
          refine RT.istore (pc := 39) (k := 5) (x := 0) (L1 := [(2, a0), (0, a1), (0, a2), (0, a3), (0, 0), (0, 0), (9, 0)]) dX11_baths_39 (Nat.le_of_ble_eq_true rfl) rfl ?_
          obtain ⟨X41, hX41, h⟩ := Option.bind_eq_some_iff.mp h
          refine rt_it_ind (P := (fun s1 : Int × Int × rt_M => RT G M_X11_baths d z Q 41 [(2, a0), (0, a1), (0, a2), (0, a3), (0, s1.1), (0, s1.2.1), (9, 0)] [] z s1.2.2)) (X := (fun x1 : Int × rt_M => RT G M_X11_baths d z Q 112 [(9, 0), (9, 0), (9, 0), (9, 0), (0, x1.1), (9, 0), (9, 0)] [] z x1.2)) (fun s1 t1 h1 k1 k2 => cb_X11_baths_41 hz hd ht a1 a2 a3 s1 t1 h1 ⟨k1, k2⟩) 4000 ((0, 0, mem0)) X41 hX41 ?_
          refine RT.iload (pc := 112) (k := 4) (x := X41.1) dX11_baths_112 rfl ?_
          obtain rfl := Option.some.inj h
          exact RT.iret (pc := 114) dX11_baths_114 rfl (Nat.le_of_eq (rt_cells_0 z)) (Nat.le_of_eq (rt_slots_0 z)) hK
        · rw [if_neg q30] at h
          refine RT.wk (L1 := [(9, 0), (9, 0), (9, 0), (9, 0), (9, 0), (9, 0), (9, 0)]) (rt_le_j (rt_le_j (rt_le_j (rt_le_j (rt_le_s (rt_le_s (rt_le_s rt_le_n))))))) ?_
          exact cj_X11_baths_33 hz hd ht mem0 _ h hK
theorem cb_X11_keeps_36 {G : rt_G} {d : Nat} {z : Nat × Nat} {Q : rt_P} (hz : 300 ≤ z.1) (hd : 4 ≤ d) {a0 : Int} (ht : rt_kd a0.toNat = 20 + 11) (a1 : Int) (a2 : Int) (s : Int × rt_M) (t : (Int × rt_M) ⊕ ((rt_M) ⊕ (Int × rt_M))) (h : b_X11_keeps_36 a0 a1 a2 s = some t) (hK : (∀ s1 : Int × rt_M, t = .inl s1 → RT G M_X11_keeps d z Q 36 [(2, a0), (0, a1), (0, a2), (0, s1.1)] [] z s1.2) ∧ (∀ x1 : rt_M, t = .inr (.inl x1) → RT G M_X11_keeps d z Q 74 [(9, 0), (9, 0), (9, 0), (9, 0)] [] z x1) ∧ (∀ t1 : Int × rt_M, t = .inr (.inr t1) → Q (some (0, t1.1)) z t1.2)) : RT G M_X11_keeps d z Q 36 [(2, a0), (0, a1), (0, a2), (0, s.1)] [] z s.2 := by
  unfold b_X11_keeps_36 at h
  refine RT.iload_n (pc := 36) (k := 3) (x := s.1) dX11_keeps_36 rfl ?_
  refine RT.bipush (pc := 37) (n := 40) dX11_keeps_37 ⟨by decide, by decide⟩ rfl ?_
  refine RT.icmp_gt (pc := 39) (tgt := 74) dX11_keeps_39 rfl (fun q39 => ?_) (fun q39 => ?_)
  · rw [if_pos q39] at h
    refine RT.wk (L1 := [(9, 0), (9, 0), (9, 0), (9, 0)]) (rt_le_j (rt_le_j (rt_le_j (rt_le_j rt_le_n)))) ?_
    obtain rfl := Option.some.inj h
    have q1 := hK.2.1 s.2 rfl
    try dsimp only at q1
    exact q1
  · rw [if_neg q39] at h
    refine RT.aload_n (pc := 42) (k := 0) (x := a0) dX11_keeps_42 rfl ?_
    obtain ⟨v43, hv43, h⟩ := Option.bind_eq_some_iff.mp h
    refine RT.gf 11 7 2 (pc := 43) (x := a0) (v := v43) hz dX11_keeps_43 fl_X11_45 rfl hv43 ?_
    refine RT.iload_n (pc := 46) (k := 1) (x := a1) dX11_keeps_46 rfl ?_
    refine RT.iload_n (pc := 47) (k := 2) (x := a2) dX11_keeps_47 rfl ?_
    refine RT.aload_n (pc := 48) (k := 0) (x := a0) dX11_keeps_48 rfl ?_
    obtain ⟨v49, hv49, h⟩ := Option.bind_eq_some_iff.mp h
    refine RT.gf 11 2 2 (pc := 49) (x := a0) (v := v49) hz dX11_keeps_49 fl_X11_28 rfl hv49 ?_
    obtain ⟨v52, hv52, h⟩ := Option.bind_eq_some_iff.mp h
    refine RT.gf 0 0 2 (pc := 52) (x := v49) (v := v52) hz dX11_keeps_52 fl_X11_126 rfl hv52 ?_
    obtain ⟨v55, hv55, h⟩ := Option.bind_eq_some_iff.mp h
    refine RT.gf 7 0 0 (pc := 55) (x := v52) (v := v55) hz dX11_keeps_55 fl_X11_142 rfl hv55 ?_
    refine RT.iload_n (pc := 58) (k := 3) (x := s.1) dX11_keeps_58 rfl ?_
    refine RT.iadd (pc := 59) dX11_keeps_59 ?_
    obtain ⟨p60, hp60, h⟩ := Option.bind_eq_some_iff.mp h
    obtain ⟨hk60, hp60⟩ := rt_gd_some hp60
    refine RT.cVz (pc := 60) (M' := M_X4_isFit) (ci := 4) (x := v43) (As := [(0, a1), (0, a2), (0, (rt_iadd v55 s.1))]) (st := []) (r := some (0, p60.1)) (mem1 := p60.2) (d' := d - 1) hz dX11_keeps_60 mw_X4_isFit ml_X11_151 mi_X4_isFit hk60 rfl rfl (Nat.le_of_ble_eq_true rfl) (Nat.le_of_ble_eq_true rfl) (by omega) rfl rfl (c_X4_isFit hz (by omega) v43 a1 a2 ((rt_iadd v55 s.1)) s.2 _ hk60 hp60) ?_
    refine RT.if_ne (pc := 63) (tgt := 68) dX11_keeps_63 rfl (fun q63 => ?_) (fun q63 => ?_)
    · rw [if_neg q63] at h
      refine RT.iinc (pc := 68) (x := s.1) (L1 := [(2, a0), (0, a1), (0, a2), (0, (rt_iadd s.1 1))]) dX11_keeps_68 rfl (Nat.le_of_ble_eq_true rfl) ⟨by decide, by decide⟩ rfl ?_
      refine RT.goto (pc := 71) (tgt := 36) dX11_keeps_71 rfl ?_
      obtain rfl := Option.some.inj h
      have q1 := hK.1 (((rt_iadd s.1 1), p60.2)) rfl
      try dsimp only at q1
      exact q1
    · rw [if_pos (Classical.not_not.mp q63)] at h
      obtain ⟨t2, g2, e2⟩ := Option.map_eq_some_iff.mp h
      subst e2
      replace h := g2
      replace hK := hK.2.2 t2 rfl
      refine RT.iload_n (pc := 66) (k := 3) (x := s.1) dX11_keeps_66 rfl ?_
      obtain rfl := Option.some.inj h
      exact RT.iret (pc := 67) dX11_keeps_67 rfl (Nat.le_of_eq (rt_cells_0 z)) (Nat.le_of_eq (rt_slots_0 z)) hK
theorem cj_X11_keeps_26 {G : rt_G} {d : Nat} {z : Nat × Nat} {Q : rt_P} (hz : 300 ≤ z.1) (hd : 4 ≤ d) {a0 : Int} (ht : rt_kd a0.toNat = 20 + 11) (a1 : Int) (s0 : Int) (mem0 : rt_M) (t : Int × rt_M) (h : j_X11_keeps_26 a0 a1 s0 mem0 = some t) (hK : Q (some (0, t.1)) z t.2) : RT G M_X11_keeps d z Q 26 [(2, a0), (0, a1), (9, 0), (9, 0)] [(0, s0)] z mem0 := by
  unfold j_X11_keeps_26 at h
  refine RT.istore_n (pc := 26) (k := 2) (x := s0) (L1 := [(2, a0), (0, a1), (0, s0), (9, 0)]) dX11_keeps_26 (Nat.le_of_ble_eq_true rfl) rfl ?_
  refine RT.iload_n (pc := 27) (k := 2) (x := s0) dX11_keeps_27 rfl ?_
  refine RT.iconst (pc := 28) (n := (-1)) dX11_keeps_28 ⟨by decide, by decide⟩ ?_
  refine RT.icmp_ne (pc := 29) (tgt := 34) dX11_keeps_29 rfl (fun q29 => ?_) (fun q29 => ?_)
  · rw [if_neg q29] at h
    refine RT.iconst (pc := 34) (n := 1) dX11_keeps_34 ⟨by decide, by decide⟩ ?_
    refine RT.istore_n (pc := 35) (k := 3) (x := 1) (L1 := [(2, a0), (0, a1), (0, s0), (0, 1)]) dX11_keeps_35 (Nat.le_of_ble_eq_true rfl) rfl ?_
    obtain ⟨E36, hE36, h⟩ := Option.bind_eq_some_iff.mp h
    refine rt_it_ind (P := (fun s1 : Int × rt_M => RT G M_X11_keeps d z Q 36 [(2, a0), (0, a1), (0, s0), (0, s1.1)] [] z s1.2)) (X := (fun e1 : (rt_M) ⊕ (Int × rt_M) => (∀ x1 : rt_M, e1 = .inl x1 → RT G M_X11_keeps d z Q 74 [(9, 0), (9, 0), (9, 0), (9, 0)] [] z x1) ∧ (∀ t1 : Int × rt_M, e1 = .inr t1 → Q (some (0, t1.1)) z t1.2))) (fun s1 t1 h1 k1 k2 => cb_X11_keeps_36 hz hd ht a1 s0 s1 t1 h1 ⟨k1, fun x1 q => (k2 _ q).1 x1 rfl, fun t2 q => (k2 _ q).2 t2 rfl⟩) 4000 ((1, mem0)) E36 hE36 ?_
    cases E36 with
    | inr t1 =>
      obtain rfl := Option.some.inj h
      exact ⟨fun x1 q => (by cases q), fun t2 q => (by cases q; exact hK)⟩
    | inl X36 =>
      refine ⟨fun x1 q => ?_, fun t2 q => (by cases q)⟩
      cases q
      refine RT.iconst (pc := 74) (n := (-1)) dX11_keeps_74 ⟨by decide, by decide⟩ ?_
      obtain rfl := Option.some.inj h
      exact RT.iret (pc := 75) dX11_keeps_75 rfl (Nat.le_of_eq (rt_cells_0 z)) (Nat.le_of_eq (rt_slots_0 z)) hK
  · rw [if_pos (Classical.not_not.mp q29)] at h
    refine RT.iconst (pc := 32) (n := (-1)) dX11_keeps_32 ⟨by decide, by decide⟩ ?_
    obtain rfl := Option.some.inj h
    exact RT.iret (pc := 33) dX11_keeps_33 rfl (Nat.le_of_eq (rt_cells_0 z)) (Nat.le_of_eq (rt_slots_0 z)) hK
theorem c_X11_keeps {G : rt_G} {d : Nat} {z : Nat × Nat} (hz : 300 ≤ z.1) (hd : 4 ≤ d) (a0 : Int) (a1 : Int) (mem0 : rt_M) (t : Int × rt_M) (ht : rt_kd a0.toNat = 20 + 11) (h : f_X11_keeps a0 a1 mem0 = some t) : RM G M_X11_keeps d [(2, a0), (0, a1)] z mem0 (some (0, t.1)) t.2 := by
  suffices H : ∀ Q : rt_P, Q (some (0, t.1)) z t.2 → RT G M_X11_keeps d z Q 0 [(2, a0), (0, a1), (9, 0), (9, 0)] [] z mem0 from H _ ⟨rfl, rfl, rfl⟩
  intro Q hK
  unfold f_X11_keeps at h
  refine RT.aload_n (pc := 0) (k := 0) (x := a0) dX11_keeps_0 rfl ?_
  obtain ⟨v1, hv1, h⟩ := Option.bind_eq_some_iff.mp h
  refine RT.gf 11 7 2 (pc := 1) (x := a0) (v := v1) hz dX11_keeps_1 fl_X11_45 rfl hv1 ?_
  refine RT.iload_n (pc := 4) (k := 1) (x := a1) dX11_keeps_4 rfl ?_
  obtain ⟨p5, hp5, h⟩ := Option.bind_eq_some_iff.mp h
  obtain ⟨hk5, hp5⟩ := rt_gd_some hp5
  refine RT.cVz (pc := 5) (M' := M_X4_isWig) (ci := 4) (x := v1) (As := [(0, a1)]) (st := []) (r := some (0, p5)) (mem1 := mem0) (d' := d - 1) hz dX11_keeps_5 mw_X4_isWig ml_X11_112 mi_X4_isWig hk5 rfl rfl (Nat.le_of_ble_eq_true rfl) (Nat.le_of_ble_eq_true rfl) (by omega) rfl rfl (c_X4_isWig hz (by omega) v1 a1 mem0 _ hk5 hp5) ?_
  refine RT.if_eq (pc := 8) (tgt := 25) dX11_keeps_8 rfl (fun q8 => ?_) (fun q8 => ?_)
  · rw [if_pos q8] at h
    refine RT.iconst (pc := 25) (n := (-1)) dX11_keeps_25 ⟨by decide, by decide⟩ ?_
    exact cj_X11_keeps_26 hz hd ht a1 ((-1)) mem0 _ h hK
  · rw [if_neg q8] at h
    refine RT.aload_n (pc := 11) (k := 0) (x := a0) dX11_keeps_11 rfl ?_
    obtain ⟨v12, hv12, h⟩ := Option.bind_eq_some_iff.mp h
    refine RT.gf 11 2 2 (pc := 12) (x := a0) (v := v12) hz dX11_keeps_12 fl_X11_28 rfl hv12 ?_
    obtain ⟨v15, hv15, h⟩ := Option.bind_eq_some_iff.mp h
    refine RT.gf 0 0 2 (pc := 15) (x := v12) (v := v15) hz dX11_keeps_15 fl_X11_126 rfl hv15 ?_
    refine RT.iload_n (pc := 18) (k := 1) (x := a1) dX11_keeps_18 rfl ?_
    obtain ⟨p19, hp19, h⟩ := Option.bind_eq_some_iff.mp h
    obtain ⟨hk19, hp19⟩ := rt_gd_some hp19
    refine RT.cVz (pc := 19) (M' := M_X7_headUnder) (ci := 7) (x := v15) (As := [(0, a1)]) (st := []) (r := some (0, p19)) (mem1 := mem0) (d' := d - 1) hz dX11_keeps_19 mw_X7_headUnder ml_X11_129 mi_X7_headUnder hk19 rfl rfl (Nat.le_of_ble_eq_true rfl) (Nat.le_of_ble_eq_true rfl) (by omega) rfl rfl (c_X7_headUnder hz (by omega) v15 a1 mem0 _ hk19 hp19) ?_
    refine RT.goto (pc := 22) (tgt := 26) dX11_keeps_22 rfl ?_
    exact cj_X11_keeps_26 hz hd ht a1 p19 mem0 _ h hK
theorem cj_X11_openStands_37_2 {G : rt_G} {d : Nat} {z : Nat × Nat} {Q : rt_P} (hz : 300 ≤ z.1) (hd : 2 ≤ d) {a0 : Int} (ht : rt_kd a0.toNat = 20 + 11) (a1 : Int) (a2 : Int) (mem0 : rt_M) (t : (Int × rt_M) ⊕ (rt_M)) (h : j_X11_openStands_37_2 a0 a1 a2 mem0 = some t) (hK : (∀ s1 : Int × rt_M, t = .inl s1 → RT G M_X11_openStands d z Q 2 [(2, a0), (0, a1), (0, s1.1)] [] z s1.2) ∧ (∀ x1 : rt_M, t = .inr x1 → RT G M_X11_openStands d z Q 43 [(9, 0), (9, 0), (9, 0)] [] z x1)) : RT G M_X11_openStands d z Q 37 [(2, a0), (0, a1), (0, a2)] [] z mem0 := by
  unfold j_X11_openStands_37_2 at h
  refine RT.iinc (pc := 37) (x := a2) (L1 := [(2, a0), (0, a1), (0, (rt_iadd a2 1))]) dX11_openStands_37 rfl (Nat.le_of_ble_eq_true rfl) ⟨by decide, by decide⟩ rfl ?_
  refine RT.goto (pc := 40) (tgt := 2) dX11_openStands_40 rfl ?_
  obtain rfl := Option.some.inj h
  have q1 := hK.1 (((rt_iadd a2 1), mem0)) rfl
  try dsimp only at q1
  exact q1
theorem cb_X11_openStands_2 {G : rt_G} {d : Nat} {z : Nat × Nat} {Q : rt_P} (hz : 300 ≤ z.1) (hd : 2 ≤ d) {a0 : Int} (ht : rt_kd a0.toNat = 20 + 11) (a1 : Int) (s : Int × rt_M) (t : (Int × rt_M) ⊕ (rt_M)) (h : b_X11_openStands_2 a0 a1 s = some t) (hK : (∀ s1 : Int × rt_M, t = .inl s1 → RT G M_X11_openStands d z Q 2 [(2, a0), (0, a1), (0, s1.1)] [] z s1.2) ∧ (∀ x1 : rt_M, t = .inr x1 → RT G M_X11_openStands d z Q 43 [(9, 0), (9, 0), (9, 0)] [] z x1)) : RT G M_X11_openStands d z Q 2 [(2, a0), (0, a1), (0, s.1)] [] z s.2 := by
  unfold b_X11_openStands_2 at h
  refine RT.iload_n (pc := 2) (k := 2) (x := s.1) dX11_openStands_2 rfl ?_
  refine RT.aload_n (pc := 3) (k := 0) (x := a0) dX11_openStands_3 rfl ?_
  obtain ⟨v4, hv4, h⟩ := Option.bind_eq_some_iff.mp h
  refine RT.gf 11 7 2 (pc := 4) (x := a0) (v := v4) hz dX11_openStands_4 fl_X11_45 rfl hv4 ?_
  obtain ⟨v7, hv7, h⟩ := Option.bind_eq_some_iff.mp h
  refine RT.gf 4 0 0 (pc := 7) (x := v4) (v := v7) hz dX11_openStands_7 fl_X11_217 rfl hv7 ?_
  refine RT.icmp_ge (pc := 10) (tgt := 43) dX11_openStands_10 rfl (fun q10 => ?_) (fun q10 => ?_)
  · rw [if_pos q10] at h
    refine RT.wk (L1 := [(9, 0), (9, 0), (9, 0)]) (rt_le_j (rt_le_j (rt_le_j rt_le_n))) ?_
    obtain rfl := Option.some.inj h
    have q1 := hK.2 s.2 rfl
    try dsimp only at q1
    exact q1
  · rw [if_neg q10] at h
    refine RT.aload_n (pc := 13) (k := 0) (x := a0) dX11_openStands_13 rfl ?_
    obtain ⟨v14, hv14, h⟩ := Option.bind_eq_some_iff.mp h
    refine RT.gf 11 10 2 (pc := 14) (x := a0) (v := v14) hz dX11_openStands_14 fl_X11_60 rfl hv14 ?_
    refine RT.aload_n (pc := 17) (k := 0) (x := a0) dX11_openStands_17 rfl ?_
    obtain ⟨v18, hv18, h⟩ := Option.bind_eq_some_iff.mp h
    refine RT.gf 11 7 2 (pc := 18) (x := a0) (v := v18) hz dX11_openStands_18 fl_X11_45 rfl hv18 ?_
    refine RT.iload_n (pc := 21) (k := 2) (x := s.1) dX11_openStands_21 rfl ?_
    obtain ⟨p22, hp22, h⟩ := Option.bind_eq_some_iff.mp h
    obtain ⟨hk22, hp22⟩ := rt_gd_some hp22
    refine RT.cVz (pc := 22) (M' := M_X7_canMend) (ci := 7) (x := v14) (As := [(2, v18), (0, s.1)]) (st := []) (r := some (0, p22)) (mem1 := s.2) (d' := d - 1) hz dX11_openStands_22 mw_X7_canMend ml_X11_170 mi_X7_canMend hk22 rfl rfl (Nat.le_of_ble_eq_true rfl) (Nat.le_of_ble_eq_true rfl) (by omega) rfl rfl (c_X7_canMend hz (by omega) v14 v18 s.1 s.2 _ hk22 hp22) ?_
    refine RT.if_eq (pc := 25) (tgt := 37) dX11_openStands_25 rfl (fun q25 => ?_) (fun q25 => ?_)
    · rw [if_pos q25] at h
      exact cj_X11_openStands_37_2 hz hd ht a1 s.1 s.2 _ h hK
    · rw [if_neg q25] at h
      refine RT.aload_n (pc := 28) (k := 0) (x := a0) dX11_openStands_28 rfl ?_
      obtain ⟨v29, hv29, h⟩ := Option.bind_eq_some_iff.mp h
      refine RT.gf 11 12 2 (pc := 29) (x := a0) (v := v29) hz dX11_openStands_29 fl_X11_74 rfl hv29 ?_
      refine RT.iload_n (pc := 32) (k := 1) (x := a1) dX11_openStands_32 rfl ?_
      refine RT.iload_n (pc := 33) (k := 2) (x := s.1) dX11_openStands_33 rfl ?_
      obtain ⟨p34, hp34, h⟩ := Option.bind_eq_some_iff.mp h
      obtain ⟨hk34, hp34⟩ := rt_gd_some hp34
      refine RT.cVz (pc := 34) (M' := M_X5_open) (ci := 5) (x := v29) (As := [(0, a1), (0, s.1)]) (st := []) (r := none) (mem1 := p34) (d' := d - 1) hz dX11_openStands_34 mw_X5_open ml_X11_246 mi_X5_open hk34 rfl rfl (Nat.le_of_ble_eq_true rfl) (Nat.le_of_ble_eq_true rfl) (by omega) rfl rfl (c_X5_open hz (by omega) v29 a1 s.1 s.2 _ hk34 hp34) ?_
      exact cj_X11_openStands_37_2 hz hd ht a1 s.1 p34 _ h hK
theorem c_X11_openStands {G : rt_G} {d : Nat} {z : Nat × Nat} (hz : 300 ≤ z.1) (hd : 2 ≤ d) (a0 : Int) (a1 : Int) (mem0 : rt_M) (t : rt_M) (ht : rt_kd a0.toNat = 20 + 11) (h : f_X11_openStands a0 a1 mem0 = some t) : RM G M_X11_openStands d [(2, a0), (0, a1)] z mem0 none t := by
  suffices H : ∀ Q : rt_P, Q none z t → RT G M_X11_openStands d z Q 0 [(2, a0), (0, a1), (9, 0)] [] z mem0 from H _ ⟨rfl, rfl, rfl⟩
  intro Q hK
  unfold f_X11_openStands at h
  refine RT.iconst (pc := 0) (n := 0) dX11_openStands_0 ⟨by decide, by decide⟩ ?_
  refine RT.istore_n (pc := 1) (k := 2) (x := 0) (L1 := [(2, a0), (0, a1), (0, 0)]) dX11_openStands_1 (Nat.le_of_ble_eq_true rfl) rfl ?_
  obtain ⟨X2, hX2, h⟩ := Option.bind_eq_some_iff.mp h
  refine rt_it_ind (P := (fun s1 : Int × rt_M => RT G M_X11_openStands d z Q 2 [(2, a0), (0, a1), (0, s1.1)] [] z s1.2)) (X := (fun x1 : rt_M => RT G M_X11_openStands d z Q 43 [(9, 0), (9, 0), (9, 0)] [] z x1)) (fun s1 t1 h1 k1 k2 => cb_X11_openStands_2 hz hd ht a1 s1 t1 h1 ⟨k1, k2⟩) 4000 ((0, mem0)) X2 hX2 ?_
  obtain rfl := Option.some.inj h
  exact RT.vret (pc := 43) dX11_openStands_43 rfl (Nat.le_of_eq (rt_cells_0 z)) (Nat.le_of_eq (rt_slots_0 z)) hK
theorem cj_X11_moths_19 {G : rt_G} {d : Nat} {z : Nat × Nat} {Q : rt_P} (hz : 300 ≤ z.1) (hd : 5 ≤ d) {a0 : Int} (ht : rt_kd a0.toNat = 20 + 11) (mem0 : rt_M) (t : Int × rt_M) (h : j_X11_moths_19 mem0 = some t) (hK : Q (some (0, t.1)) z t.2) : RT G M_X11_moths d z Q 19 [(9, 0), (9, 0), (9, 0), (9, 0), (9, 0), (9, 0)] [] z mem0 := by
  unfold j_X11_moths_19 at h
  refine RT.bipush (pc := 19) (n := (-2)) dX11_moths_19 ⟨by decide, by decide⟩ rfl ?_
  obtain rfl := Option.some.inj h
  exact RT.iret (pc := 21) dX11_moths_21 rfl (Nat.le_of_eq (rt_cells_0 z)) (Nat.le_of_eq (rt_slots_0 z)) hK
theorem cb_X11_moths_47 {G : rt_G} {d : Nat} {z : Nat × Nat} {Q : rt_P} (hz : 300 ≤ z.1) (hd : 5 ≤ d) {a0 : Int} (ht : rt_kd a0.toNat = 20 + 11) (a1 : Int) (a2 : Int) (s : Int × rt_M) (t : (Int × rt_M) ⊕ (rt_M)) (h : b_X11_moths_47 a0 a1 a2 s = some t) (hK : (∀ s1 : Int × rt_M, t = .inl s1 → RT G M_X11_moths d z Q 47 [(2, a0), (0, a1), (0, a2), (0, s1.1), (9, 0), (9, 0)] [] z s1.2) ∧ (∀ x1 : rt_M, t = .inr x1 → RT G M_X11_moths d z Q 75 [(2, a0), (0, a1), (0, a2), (9, 0), (9, 0), (9, 0)] [] z x1)) : RT G M_X11_moths d z Q 47 [(2, a0), (0, a1), (0, a2), (0, s.1), (9, 0), (9, 0)] [] z s.2 := by
  unfold b_X11_moths_47 at h
  refine RT.iload_n (pc := 47) (k := 3) (x := s.1) dX11_moths_47 rfl ?_
  refine RT.iload_n (pc := 48) (k := 1) (x := a1) dX11_moths_48 rfl ?_
  refine RT.icmp_ge (pc := 49) (tgt := 75) dX11_moths_49 rfl (fun q49 => ?_) (fun q49 => ?_)
  · rw [if_pos q49] at h
    refine RT.wk (L1 := [(2, a0), (0, a1), (0, a2), (9, 0), (9, 0), (9, 0)]) (rt_le_s (rt_le_s (rt_le_s (rt_le_j (rt_le_s (rt_le_s rt_le_n)))))) ?_
    obtain rfl := Option.some.inj h
    have q1 := hK.2 s.2 rfl
    try dsimp only at q1
    exact q1
  · rw [if_neg q49] at h
    refine RT.aload_n (pc := 52) (k := 0) (x := a0) dX11_moths_52 rfl ?_
    refine RT.iload_n (pc := 53) (k := 3) (x := s.1) dX11_moths_53 rfl ?_
    obtain ⟨p54, hp54, h⟩ := Option.bind_eq_some_iff.mp h
    refine RT.cVz (pc := 54) (M' := M_X11_openStands) (ci := 11) (x := a0) (As := [(0, s.1)]) (st := []) (r := none) (mem1 := p54) (d' := d - 1) hz dX11_moths_54 mw_X11_openStands ml_X11_276 mi_X11_openStands ht rfl rfl (Nat.le_of_ble_eq_true rfl) (Nat.le_of_ble_eq_true rfl) (by omega) rfl rfl (c_X11_openStands hz (by omega) a0 s.1 s.2 _ ht hp54) ?_
    refine RT.aload_n (pc := 57) (k := 0) (x := a0) dX11_moths_57 rfl ?_
    obtain ⟨v58, hv58, h⟩ := Option.bind_eq_some_iff.mp h
    refine RT.gf 11 10 2 (pc := 58) (x := a0) (v := v58) hz dX11_moths_58 fl_X11_60 rfl hv58 ?_
    refine RT.aload_n (pc := 61) (k := 0) (x := a0) dX11_moths_61 rfl ?_
    obtain ⟨v62, hv62, h⟩ := Option.bind_eq_some_iff.mp h
    refine RT.gf 11 7 2 (pc := 62) (x := a0) (v := v62) hz dX11_moths_62 fl_X11_45 rfl hv62 ?_
    obtain ⟨p65, hp65, h⟩ := Option.bind_eq_some_iff.mp h
    obtain ⟨hk65, hp65⟩ := rt_gd_some hp65
    refine RT.cVz (pc := 65) (M' := M_X7_pass) (ci := 7) (x := v58) (As := [(2, v62)]) (st := []) (r := some (0, p65.1)) (mem1 := p65.2) (d' := d - 1) hz dX11_moths_65 mw_X7_pass ml_X11_180 mi_X7_pass hk65 rfl rfl (Nat.le_of_ble_eq_true rfl) (Nat.le_of_ble_eq_true rfl) (by omega) rfl rfl (c_X7_pass hz (by omega) v58 v62 p54 _ hk65 hp65) ?_
    refine RT.pop (pc := 68) dX11_moths_68 (show ¬ ((0 : Nat) = 1) by decide) ?_
    refine RT.iinc (pc := 69) (x := s.1) (L1 := [(2, a0), (0, a1), (0, a2), (0, (rt_iadd s.1 1)), (9, 0), (9, 0)]) dX11_moths_69 rfl (Nat.le_of_ble_eq_true rfl) ⟨by decide, by decide⟩ rfl ?_
    refine RT.goto (pc := 72) (tgt := 47) dX11_moths_72 rfl ?_
    obtain rfl := Option.some.inj h
    have q1 := hK.1 (((rt_iadd s.1 1), p65.2)) rfl
    try dsimp only at q1
    exact q1
theorem cj_X11_moths_142_99 {G : rt_G} {d : Nat} {z : Nat × Nat} {Q : rt_P} (hz : 300 ≤ z.1) (hd : 5 ≤ d) {a0 : Int} (ht : rt_kd a0.toNat = 20 + 11) (a1 : Int) (a2 : Int) (a3 : Int) (a4 : Int) (a5 : Int) (s0 : Int) (s1 : Int) (s2 : Int) (s3 : Int) (mem0 : rt_M) (t : (Int × rt_M) ⊕ (rt_M)) (h : j_X11_moths_142_99 a0 a1 a2 a3 a4 a5 s0 s1 s2 s3 mem0 = some t) (hK : (∀ s1 : Int × rt_M, t = .inl s1 → RT G M_X11_moths d z Q 99 [(2, a0), (0, a1), (0, a2), (0, a3), (0, a4), (0, s1.1)] [] z s1.2) ∧ (∀ x1 : rt_M, t = .inr x1 → RT G M_X11_moths d z Q 151 [(2, a0), (0, a1), (0, a2), (0, a3), (0, a4), (9, 0)] [] z x1)) : RT G M_X11_moths d z Q 142 [(2, a0), (0, a1), (0, a2), (0, a3), (0, a4), (0, a5)] [(0, s3), (0, s2), (0, s1), (2, s0)] z mem0 := by
  unfold j_X11_moths_142_99 at h
  obtain ⟨p142, hp142, h⟩ := Option.bind_eq_some_iff.mp h
  obtain ⟨hk142, hp142⟩ := rt_gd_some hp142
  refine RT.cVz (pc := 142) (M' := M_X5_gains) (ci := 5) (x := s0) (As := [(0, s1), (0, s2), (0, s3)]) (st := []) (r := none) (mem1 := p142) (d' := d - 1) hz dX11_moths_142 mw_X5_gains ml_X11_249 mi_X5_gains hk142 rfl rfl (Nat.le_of_ble_eq_true rfl) (Nat.le_of_ble_eq_true rfl) (by omega) rfl rfl (c_X5_gains hz (by omega) s0 s1 s2 s3 mem0 _ hk142 hp142) ?_
  refine RT.iinc (pc := 145) (x := a5) (L1 := [(2, a0), (0, a1), (0, a2), (0, a3), (0, a4), (0, (rt_iadd a5 1))]) dX11_moths_145 rfl (Nat.le_of_ble_eq_true rfl) ⟨by decide, by decide⟩ rfl ?_
  refine RT.goto (pc := 148) (tgt := 99) dX11_moths_148 rfl ?_
  obtain rfl := Option.some.inj h
  have q1 := hK.1 (((rt_iadd a5 1), p142)) rfl
  try dsimp only at q1
  exact q1
theorem cb_X11_moths_99 {G : rt_G} {d : Nat} {z : Nat × Nat} {Q : rt_P} (hz : 300 ≤ z.1) (hd : 5 ≤ d) {a0 : Int} (ht : rt_kd a0.toNat = 20 + 11) (a1 : Int) (a2 : Int) (a3 : Int) (a4 : Int) (s : Int × rt_M) (t : (Int × rt_M) ⊕ (rt_M)) (h : b_X11_moths_99 a0 a1 a2 a3 a4 s = some t) (hK : (∀ s1 : Int × rt_M, t = .inl s1 → RT G M_X11_moths d z Q 99 [(2, a0), (0, a1), (0, a2), (0, a3), (0, a4), (0, s1.1)] [] z s1.2) ∧ (∀ x1 : rt_M, t = .inr x1 → RT G M_X11_moths d z Q 151 [(2, a0), (0, a1), (0, a2), (0, a3), (0, a4), (9, 0)] [] z x1)) : RT G M_X11_moths d z Q 99 [(2, a0), (0, a1), (0, a2), (0, a3), (0, a4), (0, s.1)] [] z s.2 := by
  unfold b_X11_moths_99 at h
  refine RT.iload (pc := 99) (k := 5) (x := s.1) dX11_moths_99 rfl ?_
  refine RT.aload_n (pc := 101) (k := 0) (x := a0) dX11_moths_101 rfl ?_
  obtain ⟨v102, hv102, h⟩ := Option.bind_eq_some_iff.mp h
  refine RT.gf 11 7 2 (pc := 102) (x := a0) (v := v102) hz dX11_moths_102 fl_X11_45 rfl hv102 ?_
  obtain ⟨v105, hv105, h⟩ := Option.bind_eq_some_iff.mp h
  refine RT.gf 4 0 0 (pc := 105) (x := v102) (v := v105) hz dX11_moths_105 fl_X11_217 rfl hv105 ?_
  refine RT.icmp_ge (pc := 108) (tgt := 151) dX11_moths_108 rfl (fun q108 => ?_) (fun q108 => ?_)
  · rw [if_pos q108] at h
    refine RT.wk (L1 := [(2, a0), (0, a1), (0, a2), (0, a3), (0, a4), (9, 0)]) (rt_le_s (rt_le_s (rt_le_s (rt_le_s (rt_le_s (rt_le_j rt_le_n)))))) ?_
    obtain rfl := Option.some.inj h
    have q1 := hK.2 s.2 rfl
    try dsimp only at q1
    exact q1
  · rw [if_neg q108] at h
    refine RT.aload_n (pc := 111) (k := 0) (x := a0) dX11_moths_111 rfl ?_
    obtain ⟨v112, hv112, h⟩ := Option.bind_eq_some_iff.mp h
    refine RT.gf 11 12 2 (pc := 112) (x := a0) (v := v112) hz dX11_moths_112 fl_X11_74 rfl hv112 ?_
    refine RT.iload (pc := 115) (k := 4) (x := a4) dX11_moths_115 rfl ?_
    refine RT.iload (pc := 117) (k := 5) (x := s.1) dX11_moths_117 rfl ?_
    refine RT.iload_n (pc := 119) (k := 3) (x := a3) dX11_moths_119 rfl ?_
    refine RT.iload (pc := 120) (k := 5) (x := s.1) dX11_moths_120 rfl ?_
    refine RT.ishr (pc := 122) dX11_moths_122 ?_
    refine RT.iconst (pc := 123) (n := 1) dX11_moths_123 ⟨by decide, by decide⟩ ?_
    refine RT.iand (pc := 124) dX11_moths_124 ?_
    refine RT.iconst (pc := 125) (n := 1) dX11_moths_125 ⟨by decide, by decide⟩ ?_
    refine RT.icmp_ne (pc := 126) (tgt := 141) dX11_moths_126 rfl (fun q126 => ?_) (fun q126 => ?_)
    · rw [if_neg q126] at h
      refine RT.iconst (pc := 141) (n := 0) dX11_moths_141 ⟨by decide, by decide⟩ ?_
      exact cj_X11_moths_142_99 hz hd ht a1 a2 a3 a4 s.1 v112 a4 s.1 0 s.2 _ h hK
    · rw [if_pos (Classical.not_not.mp q126)] at h
      refine RT.aload_n (pc := 129) (k := 0) (x := a0) dX11_moths_129 rfl ?_
      obtain ⟨v130, hv130, h⟩ := Option.bind_eq_some_iff.mp h
      refine RT.gf 11 7 2 (pc := 130) (x := a0) (v := v130) hz dX11_moths_130 fl_X11_45 rfl hv130 ?_
      refine RT.iload (pc := 133) (k := 5) (x := s.1) dX11_moths_133 rfl ?_
      obtain ⟨p135, hp135, h⟩ := Option.bind_eq_some_iff.mp h
      obtain ⟨hk135, hp135⟩ := rt_gd_some hp135
      refine RT.cVz (pc := 135) (M' := M_X4_officeOf) (ci := 4) (x := v130) (As := [(0, s.1)]) (st := [(0, s.1), (0, a4), (2, v112)]) (r := some (0, p135)) (mem1 := s.2) (d' := d - 1) hz dX11_moths_135 mw_X4_officeOf ml_X11_120 mi_X4_officeOf hk135 rfl rfl (Nat.le_of_ble_eq_true rfl) (Nat.le_of_ble_eq_true rfl) (by omega) rfl rfl (c_X4_officeOf hz (by omega) v130 s.1 s.2 _ hk135 hp135) ?_
      refine RT.goto (pc := 138) (tgt := 142) dX11_moths_138 rfl ?_
      exact cj_X11_moths_142_99 hz hd ht a1 a2 a3 a4 s.1 v112 a4 s.1 p135 s.2 _ h hK
theorem cb_X11_moths_90 {G : rt_G} {d : Nat} {z : Nat × Nat} {Q : rt_P} (hz : 300 ≤ z.1) (hd : 5 ≤ d) {a0 : Int} (ht : rt_kd a0.toNat = 20 + 11) (a1 : Int) (a2 : Int) (a3 : Int) (s : Int × rt_M) (t : (Int × rt_M) ⊕ (rt_M)) (h : b_X11_moths_90 a0 a1 a2 a3 s = some t) (hK : (∀ s1 : Int × rt_M, t = .inl s1 → RT G M_X11_moths d z Q 90 [(2, a0), (0, a1), (0, a2), (0, a3), (0, s1.1), (9, 0)] [] z s1.2) ∧ (∀ x1 : rt_M, t = .inr x1 → RT G M_X11_moths d z Q 157 [(2, a0), (9, 0), (0, a2), (0, a3), (9, 0), (9, 0)] [] z x1)) : RT G M_X11_moths d z Q 90 [(2, a0), (0, a1), (0, a2), (0, a3), (0, s.1), (9, 0)] [] z s.2 := by
  unfold b_X11_moths_90 at h
  refine RT.iload (pc := 90) (k := 4) (x := s.1) dX11_moths_90 rfl ?_
  refine RT.iload_n (pc := 92) (k := 1) (x := a1) dX11_moths_92 rfl ?_
  refine RT.icmp_ge (pc := 93) (tgt := 157) dX11_moths_93 rfl (fun q93 => ?_) (fun q93 => ?_)
  · rw [if_pos q93] at h
    refine RT.wk (L1 := [(2, a0), (9, 0), (0, a2), (0, a3), (9, 0), (9, 0)]) (rt_le_s (rt_le_j (rt_le_s (rt_le_s (rt_le_j (rt_le_s rt_le_n)))))) ?_
    obtain rfl := Option.some.inj h
    have q1 := hK.2 s.2 rfl
    try dsimp only at q1
    exact q1
  · rw [if_neg q93] at h
    refine RT.iconst (pc := 96) (n := 0) dX11_moths_96 ⟨by decide, by decide⟩ ?_
    refine RT.istore (pc := 97) (k := 5) (x := 0) (L1 := [(2, a0), (0, a1), (0, a2), (0, a3), (0, s.1), (0, 0)]) dX11_moths_97 (Nat.le_of_ble_eq_true rfl) rfl ?_
    obtain ⟨X99, hX99, h⟩ := Option.bind_eq_some_iff.mp h
    refine rt_it_ind (P := (fun s1 : Int × rt_M => RT G M_X11_moths d z Q 99 [(2, a0), (0, a1), (0, a2), (0, a3), (0, s.1), (0, s1.1)] [] z s1.2)) (X := (fun x1 : rt_M => RT G M_X11_moths d z Q 151 [(2, a0), (0, a1), (0, a2), (0, a3), (0, s.1), (9, 0)] [] z x1)) (fun s1 t1 h1 k1 k2 => cb_X11_moths_99 hz hd ht a1 a2 a3 s.1 s1 t1 h1 ⟨k1, k2⟩) 4000 ((0, s.2)) X99 hX99 ?_
    refine RT.iinc (pc := 151) (x := s.1) (L1 := [(2, a0), (0, a1), (0, a2), (0, a3), (0, (rt_iadd s.1 1)), (9, 0)]) dX11_moths_151 rfl (Nat.le_of_ble_eq_true rfl) ⟨by decide, by decide⟩ rfl ?_
    refine RT.goto (pc := 154) (tgt := 90) dX11_moths_154 rfl ?_
    obtain rfl := Option.some.inj h
    have q1 := hK.1 (((rt_iadd s.1 1), X99)) rfl
    try dsimp only at q1
    exact q1
theorem cj_X11_moths_196 {G : rt_G} {d : Nat} {z : Nat × Nat} {Q : rt_P} (hz : 300 ≤ z.1) (hd : 5 ≤ d) {a0 : Int} (ht : rt_kd a0.toNat = 20 + 11) (s0 : Int) (mem0 : rt_M) (t : Int × rt_M) (h : j_X11_moths_196 s0 mem0 = some t) (hK : Q (some (0, t.1)) z t.2) : RT G M_X11_moths d z Q 196 [(9, 0), (9, 0), (9, 0), (9, 0), (9, 0), (9, 0)] [(0, s0)] z mem0 := by
  unfold j_X11_moths_196 at h
  obtain rfl := Option.some.inj h
  exact RT.iret (pc := 196) dX11_moths_196 rfl (Nat.le_of_eq (rt_cells_0 z)) (Nat.le_of_eq (rt_slots_0 z)) hK
theorem c_X11_moths {G : rt_G} {d : Nat} {z : Nat × Nat} (hz : 300 ≤ z.1) (hd : 5 ≤ d) (a0 : Int) (a1 : Int) (a2 : Int) (mem0 : rt_M) (t : Int × rt_M) (ht : rt_kd a0.toNat = 20 + 11) (h : f_X11_moths a0 a1 a2 mem0 = some t) : RM G M_X11_moths d [(2, a0), (0, a1), (0, a2)] z mem0 (some (0, t.1)) t.2 := by
  suffices H : ∀ Q : rt_P, Q (some (0, t.1)) z t.2 → RT G M_X11_moths d z Q 0 [(2, a0), (0, a1), (0, a2), (9, 0), (9, 0), (9, 0)] [] z mem0 from H _ ⟨rfl, rfl, rfl⟩
  intro Q hK
  unfold f_X11_moths at h
  refine RT.iload_n (pc := 0) (k := 1) (x := a1) dX11_moths_0 rfl ?_
  refine RT.iconst (pc := 1) (n := 1) dX11_moths_1 ⟨by decide, by decide⟩ ?_
  refine RT.icmp_lt (pc := 2) (tgt := 19) dX11_moths_2 rfl (fun q2 => ?_) (fun q2 => ?_)
  · rw [if_pos q2] at h
    refine RT.wk (L1 := [(9, 0), (9, 0), (9, 0), (9, 0), (9, 0), (9, 0)]) (rt_le_j (rt_le_j (rt_le_j (rt_le_s (rt_le_s (rt_le_s rt_le_n)))))) ?_
    exact cj_X11_moths_19 hz hd ht mem0 _ h hK
  · rw [if_neg q2] at h
    refine RT.iload_n (pc := 5) (k := 1) (x := a1) dX11_moths_5 rfl ?_
    refine RT.iconst (pc := 6) (n := 4) dX11_moths_6 ⟨by decide, by decide⟩ ?_
    refine RT.icmp_gt (pc := 7) (tgt := 19) dX11_moths_7 rfl (fun q7 => ?_) (fun q7 => ?_)
    · rw [if_pos q7] at h
      refine RT.wk (L1 := [(9, 0), (9, 0), (9, 0), (9, 0), (9, 0), (9, 0)]) (rt_le_j (rt_le_j (rt_le_j (rt_le_s (rt_le_s (rt_le_s rt_le_n)))))) ?_
      exact cj_X11_moths_19 hz hd ht mem0 _ h hK
    · rw [if_neg q7] at h
      refine RT.iload_n (pc := 10) (k := 2) (x := a2) dX11_moths_10 rfl ?_
      refine RT.if_lt (pc := 11) (tgt := 19) dX11_moths_11 rfl (fun q11 => ?_) (fun q11 => ?_)
      · rw [if_pos q11] at h
        refine RT.wk (L1 := [(9, 0), (9, 0), (9, 0), (9, 0), (9, 0), (9, 0)]) (rt_le_j (rt_le_j (rt_le_j (rt_le_s (rt_le_s (rt_le_s rt_le_n)))))) ?_
        exact cj_X11_moths_19 hz hd ht mem0 _ h hK
      · rw [if_neg q11] at h
        refine RT.iload_n (pc := 14) (k := 2) (x := a2) dX11_moths_14 rfl ?_
        refine RT.iload_n (pc := 15) (k := 1) (x := a1) dX11_moths_15 rfl ?_
        refine RT.icmp_le (pc := 16) (tgt := 22) dX11_moths_16 rfl (fun q16 => ?_) (fun q16 => ?_)
        · rw [if_pos q16] at h
          refine RT.aload_n (pc := 22) (k := 0) (x := a0) dX11_moths_22 rfl ?_
          obtain ⟨v23, hv23, h⟩ := Option.bind_eq_some_iff.mp h
          refine RT.gf 11 12 2 (pc := 23) (x := a0) (v := v23) hz dX11_moths_23 fl_X11_74 rfl hv23 ?_
          refine RT.iload_n (pc := 26) (k := 1) (x := a1) dX11_moths_26 rfl ?_
          refine RT.iconst (pc := 27) (n := 1) dX11_moths_27 ⟨by decide, by decide⟩ ?_
          obtain ⟨p28, hp28, h⟩ := Option.bind_eq_some_iff.mp h
          obtain ⟨hk28, hp28⟩ := rt_gd_some hp28
          refine RT.cVz (pc := 28) (M' := M_X5_begin) (ci := 5) (x := v23) (As := [(0, a1), (0, 1)]) (st := []) (r := none) (mem1 := p28) (d' := d - 1) hz dX11_moths_28 mw_X5_begin ml_X11_223 mi_X5_begin hk28 rfl rfl (Nat.le_of_ble_eq_true rfl) (Nat.le_of_ble_eq_true rfl) (by omega) rfl rfl (c_X5_begin hz (by omega) v23 a1 1 mem0 _ hk28 hp28) ?_
          refine RT.aload_n (pc := 31) (k := 0) (x := a0) dX11_moths_31 rfl ?_
          obtain ⟨v32, hv32, h⟩ := Option.bind_eq_some_iff.mp h
          refine RT.gf 11 10 2 (pc := 32) (x := a0) (v := v32) hz dX11_moths_32 fl_X11_60 rfl hv32 ?_
          refine RT.aload_n (pc := 35) (k := 0) (x := a0) dX11_moths_35 rfl ?_
          obtain ⟨v36, hv36, h⟩ := Option.bind_eq_some_iff.mp h
          refine RT.gf 11 2 2 (pc := 36) (x := a0) (v := v36) hz dX11_moths_36 fl_X11_28 rfl hv36 ?_
          obtain ⟨v39, hv39, h⟩ := Option.bind_eq_some_iff.mp h
          refine RT.gf 0 0 2 (pc := 39) (x := v36) (v := v39) hz dX11_moths_39 fl_X11_126 rfl hv39 ?_
          obtain ⟨p42, hp42, h⟩ := Option.bind_eq_some_iff.mp h
          obtain ⟨hk42, hp42⟩ := rt_gd_some hp42
          refine RT.cVz (pc := 42) (M' := M_X7_copy) (ci := 7) (x := v32) (As := [(2, v39)]) (st := []) (r := none) (mem1 := p42) (d' := d - 1) hz dX11_moths_42 mw_X7_copy ml_X11_191 mi_X7_copy hk42 rfl rfl (Nat.le_of_ble_eq_true rfl) (Nat.le_of_ble_eq_true rfl) (by omega) rfl rfl (c_X7_copy hz (by omega) v32 v39 p28 _ hk42 hp42) ?_
          refine RT.iconst (pc := 45) (n := 0) dX11_moths_45 ⟨by decide, by decide⟩ ?_
          refine RT.istore_n (pc := 46) (k := 3) (x := 0) (L1 := [(2, a0), (0, a1), (0, a2), (0, 0), (9, 0), (9, 0)]) dX11_moths_46 (Nat.le_of_ble_eq_true rfl) rfl ?_
          obtain ⟨X47, hX47, h⟩ := Option.bind_eq_some_iff.mp h
          refine rt_it_ind (P := (fun s1 : Int × rt_M => RT G M_X11_moths d z Q 47 [(2, a0), (0, a1), (0, a2), (0, s1.1), (9, 0), (9, 0)] [] z s1.2)) (X := (fun x1 : rt_M => RT G M_X11_moths d z Q 75 [(2, a0), (0, a1), (0, a2), (9, 0), (9, 0), (9, 0)] [] z x1)) (fun s1 t1 h1 k1 k2 => cb_X11_moths_47 hz hd ht a1 a2 s1 t1 h1 ⟨k1, k2⟩) 4000 ((0, p42)) X47 hX47 ?_
          refine RT.aload_n (pc := 75) (k := 0) (x := a0) dX11_moths_75 rfl ?_
          obtain ⟨v76, hv76, h⟩ := Option.bind_eq_some_iff.mp h
          refine RT.gf 11 10 2 (pc := 76) (x := a0) (v := v76) hz dX11_moths_76 fl_X11_60 rfl hv76 ?_
          refine RT.aload_n (pc := 79) (k := 0) (x := a0) dX11_moths_79 rfl ?_
          obtain ⟨v80, hv80, h⟩ := Option.bind_eq_some_iff.mp h
          refine RT.gf 11 7 2 (pc := 80) (x := a0) (v := v80) hz dX11_moths_80 fl_X11_45 rfl hv80 ?_
          obtain ⟨p83, hp83, h⟩ := Option.bind_eq_some_iff.mp h
          obtain ⟨hk83, hp83⟩ := rt_gd_some hp83
          refine RT.cVz (pc := 83) (M' := M_X7_wornOut) (ci := 7) (x := v76) (As := [(2, v80)]) (st := []) (r := some (0, p83)) (mem1 := X47) (d' := d - 1) hz dX11_moths_83 mw_X7_wornOut ml_X11_227 mi_X7_wornOut hk83 rfl rfl (Nat.le_of_ble_eq_true rfl) (Nat.le_of_ble_eq_true rfl) (by omega) rfl rfl (c_X7_wornOut hz (by omega) v76 v80 X47 _ hk83 hp83) ?_
          refine RT.istore_n (pc := 86) (k := 3) (x := p83) (L1 := [(2, a0), (0, a1), (0, a2), (0, p83), (9, 0), (9, 0)]) dX11_moths_86 (Nat.le_of_ble_eq_true rfl) rfl ?_
          refine RT.iconst (pc := 87) (n := 0) dX11_moths_87 ⟨by decide, by decide⟩ ?_
          refine RT.istore (pc := 88) (k := 4) (x := 0) (L1 := [(2, a0), (0, a1), (0, a2), (0, p83), (0, 0), (9, 0)]) dX11_moths_88 (Nat.le_of_ble_eq_true rfl) rfl ?_
          obtain ⟨X90, hX90, h⟩ := Option.bind_eq_some_iff.mp h
          refine rt_it_ind (P := (fun s1 : Int × rt_M => RT G M_X11_moths d z Q 90 [(2, a0), (0, a1), (0, a2), (0, p83), (0, s1.1), (9, 0)] [] z s1.2)) (X := (fun x1 : rt_M => RT G M_X11_moths d z Q 157 [(2, a0), (9, 0), (0, a2), (0, p83), (9, 0), (9, 0)] [] z x1)) (fun s1 t1 h1 k1 k2 => cb_X11_moths_90 hz hd ht a1 a2 p83 s1 t1 h1 ⟨k1, k2⟩) 4000 ((0, X47)) X90 hX90 ?_
          refine RT.aload_n (pc := 157) (k := 0) (x := a0) dX11_moths_157 rfl ?_
          obtain ⟨v158, hv158, h⟩ := Option.bind_eq_some_iff.mp h
          refine RT.gf 11 12 2 (pc := 158) (x := a0) (v := v158) hz dX11_moths_158 fl_X11_74 rfl hv158 ?_
          obtain ⟨p161, hp161, h⟩ := Option.bind_eq_some_iff.mp h
          obtain ⟨hk161, hp161⟩ := rt_gd_some hp161
          refine RT.cVz (pc := 161) (M' := M_X5_solve) (ci := 5) (x := v158) (As := []) (st := []) (r := some (0, p161.1)) (mem1 := p161.2) (d' := d - 1) hz dX11_moths_161 mw_X5_solve ml_X11_233 mi_X5_solve hk161 rfl rfl (Nat.le_of_ble_eq_true rfl) (Nat.le_of_ble_eq_true rfl) (by omega) rfl rfl (c_X5_solve hz (by omega) v158 X90 _ hk161 hp161) ?_
          refine RT.istore (pc := 164) (k := 4) (x := p161.1) (L1 := [(2, a0), (9, 0), (0, a2), (0, p83), (0, p161.1), (9, 0)]) dX11_moths_164 (Nat.le_of_ble_eq_true rfl) rfl ?_
          refine RT.iload_n (pc := 166) (k := 2) (x := a2) dX11_moths_166 rfl ?_
          refine RT.if_ne (pc := 167) (tgt := 186) dX11_moths_167 rfl (fun q167 => ?_) (fun q167 => ?_)
          · rw [if_neg q167] at h
            refine RT.aload_n (pc := 186) (k := 0) (x := a0) dX11_moths_186 rfl ?_
            obtain ⟨v187, hv187, h⟩ := Option.bind_eq_some_iff.mp h
            refine RT.gf 11 12 2 (pc := 187) (x := a0) (v := v187) hz dX11_moths_187 fl_X11_74 rfl hv187 ?_
            refine RT.iload_n (pc := 190) (k := 2) (x := a2) dX11_moths_190 rfl ?_
            refine RT.iconst (pc := 191) (n := 1) dX11_moths_191 ⟨by decide, by decide⟩ ?_
            refine RT.isub (pc := 192) dX11_moths_192 ?_
            obtain ⟨p193, hp193, h⟩ := Option.bind_eq_some_iff.mp h
            obtain ⟨hk193, hp193⟩ := rt_gd_some hp193
            refine RT.cVz (pc := 193) (M' := M_X5_chosen) (ci := 5) (x := v187) (As := [(0, (rt_isub a2 1))]) (st := []) (r := some (0, p193)) (mem1 := p161.2) (d' := d - 1) hz dX11_moths_193 mw_X5_chosen ml_X11_237 mi_X5_chosen hk193 rfl rfl (Nat.le_of_ble_eq_true rfl) (Nat.le_of_ble_eq_true rfl) (by omega) rfl rfl (c_X5_chosen hz (by omega) v187 ((rt_isub a2 1)) p161.2 _ hk193 hp193) ?_
            refine RT.wk (L1 := [(9, 0), (9, 0), (9, 0), (9, 0), (9, 0), (9, 0)]) (rt_le_j (rt_le_s (rt_le_j (rt_le_j (rt_le_j (rt_le_s rt_le_n)))))) ?_
            exact cj_X11_moths_196 hz hd ht p193 p161.2 _ h hK
          · rw [if_pos (Classical.not_not.mp q167)] at h
            refine RT.aload_n (pc := 170) (k := 0) (x := a0) dX11_moths_170 rfl ?_
            obtain ⟨v171, hv171, h⟩ := Option.bind_eq_some_iff.mp h
            refine RT.gf 11 7 2 (pc := 171) (x := a0) (v := v171) hz dX11_moths_171 fl_X11_45 rfl hv171 ?_
            refine RT.iload_n (pc := 174) (k := 3) (x := p83) dX11_moths_174 rfl ?_
            refine RT.iconst (pc := 175) (n := (-1)) dX11_moths_175 ⟨by decide, by decide⟩ ?_
            refine RT.ixor (pc := 176) dX11_moths_176 ?_
            obtain ⟨p177, hp177, h⟩ := Option.bind_eq_some_iff.mp h
            obtain ⟨hk177, hp177⟩ := rt_gd_some hp177
            refine RT.cVz (pc := 177) (M' := M_X4_officeOfAll) (ci := 4) (x := v171) (As := [(0, (rt_ixor p83 (-1)))]) (st := []) (r := some (0, p177)) (mem1 := p161.2) (d' := d - 1) hz dX11_moths_177 mw_X4_officeOfAll ml_X11_208 mi_X4_officeOfAll hk177 rfl rfl (Nat.le_of_ble_eq_true rfl) (Nat.le_of_ble_eq_true rfl) (by omega) rfl rfl (c_X4_officeOfAll hz (by omega) v171 ((rt_ixor p83 (-1))) p161.2 _ hk177 hp177) ?_
            refine RT.iload (pc := 180) (k := 4) (x := p161.1) dX11_moths_180 rfl ?_
            refine RT.iadd (pc := 182) dX11_moths_182 ?_
            refine RT.goto (pc := 183) (tgt := 196) dX11_moths_183 rfl ?_
            refine RT.wk (L1 := [(9, 0), (9, 0), (9, 0), (9, 0), (9, 0), (9, 0)]) (rt_le_j (rt_le_s (rt_le_j (rt_le_j (rt_le_j (rt_le_s rt_le_n)))))) ?_
            exact cj_X11_moths_196 hz hd ht ((rt_iadd p177 p161.1)) p161.2 _ h hK
        · rw [if_neg q16] at h
          refine RT.wk (L1 := [(9, 0), (9, 0), (9, 0), (9, 0), (9, 0), (9, 0)]) (rt_le_j (rt_le_j (rt_le_j (rt_le_s (rt_le_s (rt_le_s rt_le_n)))))) ?_
          exact cj_X11_moths_19 hz hd ht mem0 _ h hK
theorem cj_X11_tell_21 {G : rt_G} {d : Nat} {z : Nat × Nat} {Q : rt_P} (hz : 300 ≤ z.1) (hd : 1 ≤ d) {a0 : Int} (ht : rt_kd a0.toNat = 20 + 11) (mem0 : rt_M) (t : Int × rt_M) (h : j_X11_tell_21 mem0 = some t) (hK : Q (some (0, t.1)) z t.2) : RT G M_X11_tell d z Q 21 [(9, 0), (9, 0), (9, 0)] [] z mem0 := by
  unfold j_X11_tell_21 at h
  refine RT.iconst (pc := 21) (n := 0) dX11_tell_21 ⟨by decide, by decide⟩ ?_
  obtain rfl := Option.some.inj h
  exact RT.zret (pc := 22) dX11_tell_22 rfl (by decide) (Nat.le_of_eq (rt_cells_0 z)) (Nat.le_of_eq (rt_slots_0 z)) hK
theorem c_X11_tell {G : rt_G} {d : Nat} {z : Nat × Nat} (hz : 300 ≤ z.1) (hd : 1 ≤ d) (a0 : Int) (a1 : Int) (a2 : Int) (mem0 : rt_M) (t : Int × rt_M) (ht : rt_kd a0.toNat = 20 + 11) (h : f_X11_tell a0 a1 a2 mem0 = some t) : RM G M_X11_tell d [(2, a0), (0, a1), (0, a2)] z mem0 (some (0, t.1)) t.2 := by
  suffices H : ∀ Q : rt_P, Q (some (0, t.1)) z t.2 → RT G M_X11_tell d z Q 0 [(2, a0), (0, a1), (0, a2)] [] z mem0 from H _ ⟨rfl, rfl, rfl⟩
  intro Q hK
  unfold f_X11_tell at h
  refine RT.aload_n (pc := 0) (k := 0) (x := a0) dX11_tell_0 rfl ?_
  obtain ⟨v1, hv1, h⟩ := Option.bind_eq_some_iff.mp h
  refine RT.gf 11 7 2 (pc := 1) (x := a0) (v := v1) hz dX11_tell_1 fl_X11_45 rfl hv1 ?_
  refine RT.iload_n (pc := 4) (k := 1) (x := a1) dX11_tell_4 rfl ?_
  obtain ⟨p5, hp5, h⟩ := Option.bind_eq_some_iff.mp h
  obtain ⟨hk5, hp5⟩ := rt_gd_some hp5
  refine RT.cVz (pc := 5) (M' := M_X4_isWig) (ci := 4) (x := v1) (As := [(0, a1)]) (st := []) (r := some (0, p5)) (mem1 := mem0) (d' := d - 1) hz dX11_tell_5 mw_X4_isWig ml_X11_112 mi_X4_isWig hk5 rfl rfl (Nat.le_of_ble_eq_true rfl) (Nat.le_of_ble_eq_true rfl) (by omega) rfl rfl (c_X4_isWig hz (by omega) v1 a1 mem0 _ hk5 hp5) ?_
  refine RT.if_eq (pc := 8) (tgt := 21) dX11_tell_8 rfl (fun q8 => ?_) (fun q8 => ?_)
  · rw [if_pos q8] at h
    refine RT.wk (L1 := [(9, 0), (9, 0), (9, 0)]) (rt_le_j (rt_le_j (rt_le_j rt_le_n))) ?_
    exact cj_X11_tell_21 hz hd ht mem0 _ h hK
  · rw [if_neg q8] at h
    refine RT.iload_n (pc := 11) (k := 2) (x := a2) dX11_tell_11 rfl ?_
    refine RT.if_lt (pc := 12) (tgt := 21) dX11_tell_12 rfl (fun q12 => ?_) (fun q12 => ?_)
    · rw [if_pos q12] at h
      refine RT.wk (L1 := [(9, 0), (9, 0), (9, 0)]) (rt_le_j (rt_le_j (rt_le_j rt_le_n))) ?_
      exact cj_X11_tell_21 hz hd ht mem0 _ h hK
    · rw [if_neg q12] at h
      refine RT.iload_n (pc := 15) (k := 2) (x := a2) dX11_tell_15 rfl ?_
      refine RT.bipush (pc := 16) (n := 9) dX11_tell_16 ⟨by decide, by decide⟩ rfl ?_
      refine RT.icmp_le (pc := 18) (tgt := 23) dX11_tell_18 rfl (fun q18 => ?_) (fun q18 => ?_)
      · rw [if_pos q18] at h
        refine RT.aload_n (pc := 23) (k := 0) (x := a0) dX11_tell_23 rfl ?_
        obtain ⟨v24, hv24, h⟩ := Option.bind_eq_some_iff.mp h
        refine RT.gf 11 2 2 (pc := 24) (x := a0) (v := v24) hz dX11_tell_24 fl_X11_28 rfl hv24 ?_
        obtain ⟨v27, hv27, h⟩ := Option.bind_eq_some_iff.mp h
        refine RT.gf 0 3 2 (pc := 27) (x := v24) (v := v27) hz dX11_tell_27 fl_X11_279 rfl hv27 ?_
        refine RT.iload_n (pc := 30) (k := 1) (x := a1) dX11_tell_30 rfl ?_
        refine RT.iload_n (pc := 31) (k := 2) (x := a2) dX11_tell_31 rfl ?_
        obtain ⟨m32, hm32, h⟩ := Option.bind_eq_some_iff.mp h
        refine RT.iast (pc := 32) (x := v27) (i := a1) (v := a2) (mem1 := m32) dX11_tell_32 (rt_lts hz (by decide) (by decide) hm32) hm32 ?_
        refine RT.iconst (pc := 33) (n := 1) dX11_tell_33 ⟨by decide, by decide⟩ ?_
        obtain rfl := Option.some.inj h
        exact RT.zret (pc := 34) dX11_tell_34 rfl (by decide) (Nat.le_of_eq (rt_cells_0 z)) (Nat.le_of_eq (rt_slots_0 z)) hK
      · rw [if_neg q18] at h
        refine RT.wk (L1 := [(9, 0), (9, 0), (9, 0)]) (rt_le_j (rt_le_j (rt_le_j rt_le_n))) ?_
        exact cj_X11_tell_21 hz hd ht mem0 _ h hK
theorem cj_X11_under_88 {G : rt_G} {d : Nat} {z : Nat × Nat} {Q : rt_P} (hz : 300 ≤ z.1) (hd : 4 ≤ d) {a0 : Int} (ht : rt_kd a0.toNat = 20 + 11) (mem0 : rt_M) (t : Int × rt_M) (h : j_X11_under_88 mem0 = some t) (hK : Q (some (0, t.1)) z t.2) : RT G M_X11_under d z Q 88 [(9, 0), (9, 0), (9, 0), (9, 0)] [] z mem0 := by
  unfold j_X11_under_88 at h
  refine RT.iconst (pc := 88) (n := (-1)) dX11_under_88 ⟨by decide, by decide⟩ ?_
  obtain rfl := Option.some.inj h
  exact RT.iret (pc := 89) dX11_under_89 rfl (Nat.le_of_eq (rt_cells_0 z)) (Nat.le_of_eq (rt_slots_0 z)) hK
theorem cj_X11_under_155_107 {G : rt_G} {d : Nat} {z : Nat × Nat} {Q : rt_P} (hz : 300 ≤ z.1) (hd : 4 ≤ d) {a0 : Int} (ht : rt_kd a0.toNat = 20 + 11) (a1 : Int) (a2 : Int) (a3 : Int) (mem0 : rt_M) (t : (Int × rt_M) ⊕ ((rt_M) ⊕ (Int × rt_M))) (h : j_X11_under_155_107 a0 a1 a2 a3 mem0 = some t) (hK : (∀ s1 : Int × rt_M, t = .inl s1 → RT G M_X11_under d z Q 107 [(2, a0), (0, a1), (0, a2), (0, s1.1)] [] z s1.2) ∧ (∀ x1 : rt_M, t = .inr (.inl x1) → RT G M_X11_under d z Q 161 [(9, 0), (9, 0), (9, 0), (9, 0)] [] z x1) ∧ (∀ t1 : Int × rt_M, t = .inr (.inr t1) → Q (some (0, t1.1)) z t1.2)) : RT G M_X11_under d z Q 155 [(2, a0), (0, a1), (0, a2), (0, a3)] [] z mem0 := by
  unfold j_X11_under_155_107 at h
  refine RT.iinc (pc := 155) (x := a3) (L1 := [(2, a0), (0, a1), (0, a2), (0, (rt_iadd a3 1))]) dX11_under_155 rfl (Nat.le_of_ble_eq_true rfl) ⟨by decide, by decide⟩ rfl ?_
  refine RT.goto (pc := 158) (tgt := 107) dX11_under_158 rfl ?_
  obtain rfl := Option.some.inj h
  have q1 := hK.1 (((rt_iadd a3 1), mem0)) rfl
  try dsimp only at q1
  exact q1
theorem cb_X11_under_107 {G : rt_G} {d : Nat} {z : Nat × Nat} {Q : rt_P} (hz : 300 ≤ z.1) (hd : 4 ≤ d) {a0 : Int} (ht : rt_kd a0.toNat = 20 + 11) (a1 : Int) (a2 : Int) (s : Int × rt_M) (t : (Int × rt_M) ⊕ ((rt_M) ⊕ (Int × rt_M))) (h : b_X11_under_107 a0 a1 a2 s = some t) (hK : (∀ s1 : Int × rt_M, t = .inl s1 → RT G M_X11_under d z Q 107 [(2, a0), (0, a1), (0, a2), (0, s1.1)] [] z s1.2) ∧ (∀ x1 : rt_M, t = .inr (.inl x1) → RT G M_X11_under d z Q 161 [(9, 0), (9, 0), (9, 0), (9, 0)] [] z x1) ∧ (∀ t1 : Int × rt_M, t = .inr (.inr t1) → Q (some (0, t1.1)) z t1.2)) : RT G M_X11_under d z Q 107 [(2, a0), (0, a1), (0, a2), (0, s.1)] [] z s.2 := by
  unfold b_X11_under_107 at h
  refine RT.iload_n (pc := 107) (k := 3) (x := s.1) dX11_under_107 rfl ?_
  refine RT.aload_n (pc := 108) (k := 0) (x := a0) dX11_under_108 rfl ?_
  obtain ⟨v109, hv109, h⟩ := Option.bind_eq_some_iff.mp h
  refine RT.gf 11 7 2 (pc := 109) (x := a0) (v := v109) hz dX11_under_109 fl_X11_45 rfl hv109 ?_
  obtain ⟨v112, hv112, h⟩ := Option.bind_eq_some_iff.mp h
  refine RT.gf 4 1 0 (pc := 112) (x := v109) (v := v112) hz dX11_under_112 fl_X11_240 rfl hv112 ?_
  refine RT.icmp_ge (pc := 115) (tgt := 161) dX11_under_115 rfl (fun q115 => ?_) (fun q115 => ?_)
  · rw [if_pos q115] at h
    refine RT.wk (L1 := [(9, 0), (9, 0), (9, 0), (9, 0)]) (rt_le_j (rt_le_j (rt_le_j (rt_le_j rt_le_n)))) ?_
    obtain rfl := Option.some.inj h
    have q1 := hK.2.1 s.2 rfl
    try dsimp only at q1
    exact q1
  · rw [if_neg q115] at h
    refine RT.aload_n (pc := 118) (k := 0) (x := a0) dX11_under_118 rfl ?_
    obtain ⟨v119, hv119, h⟩ := Option.bind_eq_some_iff.mp h
    refine RT.gf 11 11 2 (pc := 119) (x := a0) (v := v119) hz dX11_under_119 fl_X11_67 rfl hv119 ?_
    refine RT.iload_n (pc := 122) (k := 1) (x := a1) dX11_under_122 rfl ?_
    refine RT.iload_n (pc := 123) (k := 3) (x := s.1) dX11_under_123 rfl ?_
    obtain ⟨p124, hp124, h⟩ := Option.bind_eq_some_iff.mp h
    obtain ⟨hk124, hp124⟩ := rt_gd_some hp124
    refine RT.cVz (pc := 124) (M' := M_X1_tiltOf) (ci := 1) (x := v119) (As := [(0, a1), (0, s.1)]) (st := []) (r := some (0, p124)) (mem1 := s.2) (d' := d - 1) hz dX11_under_124 mw_X1_tiltOf ml_X11_294 mi_X1_tiltOf hk124 rfl rfl (Nat.le_of_ble_eq_true rfl) (Nat.le_of_ble_eq_true rfl) (by omega) rfl rfl (c_X1_tiltOf hz (by omega) v119 a1 s.1 s.2 _ hk124 hp124) ?_
    refine RT.aload_n (pc := 127) (k := 0) (x := a0) dX11_under_127 rfl ?_
    obtain ⟨v128, hv128, h⟩ := Option.bind_eq_some_iff.mp h
    refine RT.gf 11 2 2 (pc := 128) (x := a0) (v := v128) hz dX11_under_128 fl_X11_28 rfl hv128 ?_
    obtain ⟨v131, hv131, h⟩ := Option.bind_eq_some_iff.mp h
    refine RT.gf 0 3 2 (pc := 131) (x := v128) (v := v131) hz dX11_under_131 fl_X11_279 rfl hv131 ?_
    refine RT.iload_n (pc := 134) (k := 1) (x := a1) dX11_under_134 rfl ?_
    obtain ⟨v135, hv135, h⟩ := Option.bind_eq_some_iff.mp h
    refine RT.iald (pc := 135) (x := v131) (i := a1) (v := v135) dX11_under_135 (rt_lta hz (by decide) (by decide) hv135) hv135 ?_
    refine RT.icmp_ne (pc := 136) (tgt := 155) dX11_under_136 rfl (fun q136 => ?_) (fun q136 => ?_)
    · rw [if_neg q136] at h
      exact cj_X11_under_155_107 hz hd ht a1 a2 s.1 s.2 _ h hK
    · rw [if_pos (Classical.not_not.mp q136)] at h
      refine RT.aload_n (pc := 139) (k := 0) (x := a0) dX11_under_139 rfl ?_
      obtain ⟨v140, hv140, h⟩ := Option.bind_eq_some_iff.mp h
      refine RT.gf 11 11 2 (pc := 140) (x := a0) (v := v140) hz dX11_under_140 fl_X11_67 rfl hv140 ?_
      refine RT.iconst (pc := 143) (n := 1) dX11_under_143 ⟨by decide, by decide⟩ ?_
      refine RT.iload_n (pc := 144) (k := 3) (x := s.1) dX11_under_144 rfl ?_
      refine RT.ishl (pc := 145) dX11_under_145 ?_
      obtain ⟨p146, hp146, h⟩ := Option.bind_eq_some_iff.mp h
      obtain ⟨hk146, hp146⟩ := rt_gd_some hp146
      refine RT.cVz (pc := 146) (M' := M_X1_waysWithout) (ci := 1) (x := v140) (As := [(0, (rt_ishl 1 s.1))]) (st := []) (r := some (0, p146)) (mem1 := s.2) (d' := d - 1) hz dX11_under_146 mw_X1_waysWithout ml_X11_291 mi_X1_waysWithout hk146 rfl rfl (Nat.le_of_ble_eq_true rfl) (Nat.le_of_ble_eq_true rfl) (by omega) rfl rfl (c_X1_waysWithout hz (by omega) v140 ((rt_ishl 1 s.1)) s.2 _ hk146 hp146) ?_
      refine RT.iload_n (pc := 149) (k := 2) (x := a2) dX11_under_149 rfl ?_
      refine RT.icmp_ne (pc := 150) (tgt := 155) dX11_under_150 rfl (fun q150 => ?_) (fun q150 => ?_)
      · rw [if_neg q150] at h
        exact cj_X11_under_155_107 hz hd ht a1 a2 s.1 s.2 _ h hK
      · rw [if_pos (Classical.not_not.mp q150)] at h
        obtain ⟨t2, g2, e2⟩ := Option.map_eq_some_iff.mp h
        subst e2
        replace h := g2
        replace hK := hK.2.2 t2 rfl
        refine RT.iload_n (pc := 153) (k := 3) (x := s.1) dX11_under_153 rfl ?_
        obtain rfl := Option.some.inj h
        exact RT.iret (pc := 154) dX11_under_154 rfl (Nat.le_of_eq (rt_cells_0 z)) (Nat.le_of_eq (rt_slots_0 z)) hK
theorem cj_X11_under_19 {G : rt_G} {d : Nat} {z : Nat × Nat} {Q : rt_P} (hz : 300 ≤ z.1) (hd : 4 ≤ d) {a0 : Int} (ht : rt_kd a0.toNat = 20 + 11) (a1 : Int) (mem0 : rt_M) (t : Int × rt_M) (h : j_X11_under_19 a0 a1 mem0 = some t) (hK : Q (some (0, t.1)) z t.2) : RT G M_X11_under d z Q 19 [(2, a0), (0, a1), (9, 0), (9, 0)] [] z mem0 := by
  unfold j_X11_under_19 at h
  refine RT.aload_n (pc := 19) (k := 0) (x := a0) dX11_under_19 rfl ?_
  obtain ⟨v20, hv20, h⟩ := Option.bind_eq_some_iff.mp h
  refine RT.gf 11 11 2 (pc := 20) (x := a0) (v := v20) hz dX11_under_20 fl_X11_67 rfl hv20 ?_
  refine RT.aload_n (pc := 23) (k := 0) (x := a0) dX11_under_23 rfl ?_
  obtain ⟨v24, hv24, h⟩ := Option.bind_eq_some_iff.mp h
  refine RT.gf 11 7 2 (pc := 24) (x := a0) (v := v24) hz dX11_under_24 fl_X11_45 rfl hv24 ?_
  refine RT.aload_n (pc := 27) (k := 0) (x := a0) dX11_under_27 rfl ?_
  obtain ⟨v28, hv28, h⟩ := Option.bind_eq_some_iff.mp h
  refine RT.gf 11 2 2 (pc := 28) (x := a0) (v := v28) hz dX11_under_28 fl_X11_28 rfl hv28 ?_
  obtain ⟨v31, hv31, h⟩ := Option.bind_eq_some_iff.mp h
  refine RT.gf 0 0 2 (pc := 31) (x := v28) (v := v31) hz dX11_under_31 fl_X11_126 rfl hv31 ?_
  obtain ⟨v34, hv34, h⟩ := Option.bind_eq_some_iff.mp h
  refine RT.gf 7 0 0 (pc := 34) (x := v31) (v := v34) hz dX11_under_34 fl_X11_142 rfl hv34 ?_
  obtain ⟨p37, hp37, h⟩ := Option.bind_eq_some_iff.mp h
  obtain ⟨hk37, hp37⟩ := rt_gd_some hp37
  refine RT.cVz (pc := 37) (M' := M_X1_measure) (ci := 1) (x := v20) (As := [(2, v24), (0, v34)]) (st := []) (r := none) (mem1 := p37) (d' := d - 1) hz dX11_under_37 mw_X1_measure ml_X11_283 mi_X1_measure hk37 rfl rfl (Nat.le_of_ble_eq_true rfl) (Nat.le_of_ble_eq_true rfl) (by omega) rfl rfl (c_X1_measure hz (by omega) v20 v24 v34 mem0 _ hk37 hp37) ?_
  refine RT.aload_n (pc := 40) (k := 0) (x := a0) dX11_under_40 rfl ?_
  obtain ⟨v41, hv41, h⟩ := Option.bind_eq_some_iff.mp h
  refine RT.gf 11 11 2 (pc := 41) (x := a0) (v := v41) hz dX11_under_41 fl_X11_67 rfl hv41 ?_
  refine RT.aload_n (pc := 44) (k := 0) (x := a0) dX11_under_44 rfl ?_
  obtain ⟨v45, hv45, h⟩ := Option.bind_eq_some_iff.mp h
  refine RT.gf 11 2 2 (pc := 45) (x := a0) (v := v45) hz dX11_under_45 fl_X11_28 rfl hv45 ?_
  obtain ⟨v48, hv48, h⟩ := Option.bind_eq_some_iff.mp h
  refine RT.gf 0 3 2 (pc := 48) (x := v45) (v := v48) hz dX11_under_48 fl_X11_279 rfl hv48 ?_
  refine RT.iconst (pc := 51) (n := (-1)) dX11_under_51 ⟨by decide, by decide⟩ ?_
  obtain ⟨p52, hp52, h⟩ := Option.bind_eq_some_iff.mp h
  obtain ⟨hk52, hp52⟩ := rt_gd_some hp52
  refine RT.cVz (pc := 52) (M' := M_X1_layWays) (ci := 1) (x := v41) (As := [(2, v48), (0, (-1))]) (st := []) (r := none) (mem1 := p52) (d' := d - 1) hz dX11_under_52 mw_X1_layWays ml_X11_287 mi_X1_layWays hk52 rfl rfl (Nat.le_of_ble_eq_true rfl) (Nat.le_of_ble_eq_true rfl) (by omega) rfl rfl (c_X1_layWays hz (by omega) v41 v48 ((-1)) p37 _ hk52 hp52) ?_
  refine RT.aload_n (pc := 55) (k := 0) (x := a0) dX11_under_55 rfl ?_
  obtain ⟨v56, hv56, h⟩ := Option.bind_eq_some_iff.mp h
  refine RT.gf 11 11 2 (pc := 56) (x := a0) (v := v56) hz dX11_under_56 fl_X11_67 rfl hv56 ?_
  refine RT.iconst (pc := 59) (n := 0) dX11_under_59 ⟨by decide, by decide⟩ ?_
  obtain ⟨p60, hp60, h⟩ := Option.bind_eq_some_iff.mp h
  obtain ⟨hk60, hp60⟩ := rt_gd_some hp60
  refine RT.cVz (pc := 60) (M' := M_X1_waysWithout) (ci := 1) (x := v56) (As := [(0, 0)]) (st := []) (r := some (0, p60)) (mem1 := p52) (d' := d - 1) hz dX11_under_60 mw_X1_waysWithout ml_X11_291 mi_X1_waysWithout hk60 rfl rfl (Nat.le_of_ble_eq_true rfl) (Nat.le_of_ble_eq_true rfl) (by omega) rfl rfl (c_X1_waysWithout hz (by omega) v56 0 p52 _ hk60 hp60) ?_
  refine RT.istore_n (pc := 63) (k := 2) (x := p60) (L1 := [(2, a0), (0, a1), (0, p60), (9, 0)]) dX11_under_63 (Nat.le_of_ble_eq_true rfl) rfl ?_
  refine RT.iload_n (pc := 64) (k := 1) (x := a1) dX11_under_64 rfl ?_
  refine RT.iconst (pc := 65) (n := (-1)) dX11_under_65 ⟨by decide, by decide⟩ ?_
  refine RT.icmp_ne (pc := 66) (tgt := 71) dX11_under_66 rfl (fun q66 => ?_) (fun q66 => ?_)
  · rw [if_neg q66] at h
    refine RT.aload_n (pc := 71) (k := 0) (x := a0) dX11_under_71 rfl ?_
    obtain ⟨v72, hv72, h⟩ := Option.bind_eq_some_iff.mp h
    refine RT.gf 11 2 2 (pc := 72) (x := a0) (v := v72) hz dX11_under_72 fl_X11_28 rfl hv72 ?_
    obtain ⟨v75, hv75, h⟩ := Option.bind_eq_some_iff.mp h
    refine RT.gf 0 3 2 (pc := 75) (x := v72) (v := v75) hz dX11_under_75 fl_X11_279 rfl hv75 ?_
    refine RT.iload_n (pc := 78) (k := 1) (x := a1) dX11_under_78 rfl ?_
    obtain ⟨v79, hv79, h⟩ := Option.bind_eq_some_iff.mp h
    refine RT.iald (pc := 79) (x := v75) (i := a1) (v := v79) dX11_under_79 (rt_lta hz (by decide) (by decide) hv79) hv79 ?_
    refine RT.iconst (pc := 80) (n := (-1)) dX11_under_80 ⟨by decide, by decide⟩ ?_
    refine RT.icmp_eq (pc := 81) (tgt := 88) dX11_under_81 rfl (fun q81 => ?_) (fun q81 => ?_)
    · rw [if_pos q81] at h
      refine RT.wk (L1 := [(9, 0), (9, 0), (9, 0), (9, 0)]) (rt_le_j (rt_le_j (rt_le_j (rt_le_s rt_le_n)))) ?_
      exact cj_X11_under_88 hz hd ht p52 _ h hK
    · rw [if_neg q81] at h
      refine RT.iload_n (pc := 84) (k := 2) (x := p60) dX11_under_84 rfl ?_
      refine RT.if_ne (pc := 85) (tgt := 90) dX11_under_85 rfl (fun q85 => ?_) (fun q85 => ?_)
      · rw [if_neg q85] at h
        refine RT.aload_n (pc := 90) (k := 0) (x := a0) dX11_under_90 rfl ?_
        obtain ⟨v91, hv91, h⟩ := Option.bind_eq_some_iff.mp h
        refine RT.gf 11 11 2 (pc := 91) (x := a0) (v := v91) hz dX11_under_91 fl_X11_67 rfl hv91 ?_
        refine RT.aload_n (pc := 94) (k := 0) (x := a0) dX11_under_94 rfl ?_
        obtain ⟨v95, hv95, h⟩ := Option.bind_eq_some_iff.mp h
        refine RT.gf 11 2 2 (pc := 95) (x := a0) (v := v95) hz dX11_under_95 fl_X11_28 rfl hv95 ?_
        obtain ⟨v98, hv98, h⟩ := Option.bind_eq_some_iff.mp h
        refine RT.gf 0 3 2 (pc := 98) (x := v95) (v := v98) hz dX11_under_98 fl_X11_279 rfl hv98 ?_
        refine RT.iload_n (pc := 101) (k := 1) (x := a1) dX11_under_101 rfl ?_
        obtain ⟨p102, hp102, h⟩ := Option.bind_eq_some_iff.mp h
        obtain ⟨hk102, hp102⟩ := rt_gd_some hp102
        refine RT.cVz (pc := 102) (M' := M_X1_layWays) (ci := 1) (x := v91) (As := [(2, v98), (0, a1)]) (st := []) (r := none) (mem1 := p102) (d' := d - 1) hz dX11_under_102 mw_X1_layWays ml_X11_287 mi_X1_layWays hk102 rfl rfl (Nat.le_of_ble_eq_true rfl) (Nat.le_of_ble_eq_true rfl) (by omega) rfl rfl (c_X1_layWays hz (by omega) v91 v98 a1 p52 _ hk102 hp102) ?_
        refine RT.iconst (pc := 105) (n := 0) dX11_under_105 ⟨by decide, by decide⟩ ?_
        refine RT.istore_n (pc := 106) (k := 3) (x := 0) (L1 := [(2, a0), (0, a1), (0, p60), (0, 0)]) dX11_under_106 (Nat.le_of_ble_eq_true rfl) rfl ?_
        obtain ⟨E107, hE107, h⟩ := Option.bind_eq_some_iff.mp h
        refine rt_it_ind (P := (fun s1 : Int × rt_M => RT G M_X11_under d z Q 107 [(2, a0), (0, a1), (0, p60), (0, s1.1)] [] z s1.2)) (X := (fun e1 : (rt_M) ⊕ (Int × rt_M) => (∀ x1 : rt_M, e1 = .inl x1 → RT G M_X11_under d z Q 161 [(9, 0), (9, 0), (9, 0), (9, 0)] [] z x1) ∧ (∀ t1 : Int × rt_M, e1 = .inr t1 → Q (some (0, t1.1)) z t1.2))) (fun s1 t1 h1 k1 k2 => cb_X11_under_107 hz hd ht a1 p60 s1 t1 h1 ⟨k1, fun x1 q => (k2 _ q).1 x1 rfl, fun t2 q => (k2 _ q).2 t2 rfl⟩) 4000 ((0, p102)) E107 hE107 ?_
        cases E107 with
        | inr t1 =>
          obtain rfl := Option.some.inj h
          exact ⟨fun x1 q => (by cases q), fun t2 q => (by cases q; exact hK)⟩
        | inl X107 =>
          refine ⟨fun x1 q => ?_, fun t2 q => (by cases q)⟩
          cases q
          refine RT.iconst (pc := 161) (n := (-1)) dX11_under_161 ⟨by decide, by decide⟩ ?_
          obtain rfl := Option.some.inj h
          exact RT.iret (pc := 162) dX11_under_162 rfl (Nat.le_of_eq (rt_cells_0 z)) (Nat.le_of_eq (rt_slots_0 z)) hK
      · rw [if_pos (Classical.not_not.mp q85)] at h
        refine RT.wk (L1 := [(9, 0), (9, 0), (9, 0), (9, 0)]) (rt_le_j (rt_le_j (rt_le_j (rt_le_s rt_le_n)))) ?_
        exact cj_X11_under_88 hz hd ht p52 _ h hK
  · rw [if_pos (Classical.not_not.mp q66)] at h
    refine RT.iload_n (pc := 69) (k := 2) (x := p60) dX11_under_69 rfl ?_
    obtain rfl := Option.some.inj h
    exact RT.iret (pc := 70) dX11_under_70 rfl (Nat.le_of_eq (rt_cells_0 z)) (Nat.le_of_eq (rt_slots_0 z)) hK
theorem c_X11_under {G : rt_G} {d : Nat} {z : Nat × Nat} (hz : 300 ≤ z.1) (hd : 4 ≤ d) (a0 : Int) (a1 : Int) (mem0 : rt_M) (t : Int × rt_M) (ht : rt_kd a0.toNat = 20 + 11) (h : f_X11_under a0 a1 mem0 = some t) : RM G M_X11_under d [(2, a0), (0, a1)] z mem0 (some (0, t.1)) t.2 := by
  suffices H : ∀ Q : rt_P, Q (some (0, t.1)) z t.2 → RT G M_X11_under d z Q 0 [(2, a0), (0, a1), (9, 0), (9, 0)] [] z mem0 from H _ ⟨rfl, rfl, rfl⟩
  intro Q hK
  unfold f_X11_under at h
  refine RT.iload_n (pc := 0) (k := 1) (x := a1) dX11_under_0 rfl ?_
  refine RT.iconst (pc := 1) (n := (-1)) dX11_under_1 ⟨by decide, by decide⟩ ?_
  refine RT.icmp_eq (pc := 2) (tgt := 19) dX11_under_2 rfl (fun q2 => ?_) (fun q2 => ?_)
  · rw [if_pos q2] at h
    exact cj_X11_under_19 hz hd ht a1 mem0 _ h hK
  · rw [if_neg q2] at h
    refine RT.aload_n (pc := 5) (k := 0) (x := a0) dX11_under_5 rfl ?_
    obtain ⟨v6, hv6, h⟩ := Option.bind_eq_some_iff.mp h
    refine RT.gf 11 7 2 (pc := 6) (x := a0) (v := v6) hz dX11_under_6 fl_X11_45 rfl hv6 ?_
    refine RT.iload_n (pc := 9) (k := 1) (x := a1) dX11_under_9 rfl ?_
    obtain ⟨p10, hp10, h⟩ := Option.bind_eq_some_iff.mp h
    obtain ⟨hk10, hp10⟩ := rt_gd_some hp10
    refine RT.cVz (pc := 10) (M' := M_X4_isWig) (ci := 4) (x := v6) (As := [(0, a1)]) (st := []) (r := some (0, p10)) (mem1 := mem0) (d' := d - 1) hz dX11_under_10 mw_X4_isWig ml_X11_112 mi_X4_isWig hk10 rfl rfl (Nat.le_of_ble_eq_true rfl) (Nat.le_of_ble_eq_true rfl) (by omega) rfl rfl (c_X4_isWig hz (by omega) v6 a1 mem0 _ hk10 hp10) ?_
    refine RT.if_ne (pc := 13) (tgt := 19) dX11_under_13 rfl (fun q13 => ?_) (fun q13 => ?_)
    · rw [if_neg q13] at h
      exact cj_X11_under_19 hz hd ht a1 mem0 _ h hK
    · rw [if_pos (Classical.not_not.mp q13)] at h
      refine RT.bipush (pc := 16) (n := (-2)) dX11_under_16 ⟨by decide, by decide⟩ rfl ?_
      obtain rfl := Option.some.inj h
      exact RT.iret (pc := 18) dX11_under_18 rfl (Nat.le_of_eq (rt_cells_0 z)) (Nat.le_of_eq (rt_slots_0 z)) hK
theorem cj_X11_ask_105_42 {G : rt_G} {d : Nat} {z : Nat × Nat} {Q : rt_P} (hz : 300 ≤ z.1) (hd : 4 ≤ d) {a0 : Int} (ht : rt_kd a0.toNat = 20 + 11) (a1 : Int) (a2 : Int) (a3 : Int) (mem0 : rt_M) (t : (Int × Int × Int × rt_M) ⊕ (Int × rt_M)) (h : j_X11_ask_105_42 a0 a1 a2 a3 mem0 = some t) (hK : (∀ s1 : Int × Int × Int × rt_M, t = .inl s1 → RT G M_X11_ask d z Q 42 [(2, a0), (0, s1.1), (0, s1.2.1), (0, s1.2.2.1), (9, 0)] [] z s1.2.2.2) ∧ (∀ x1 : Int × rt_M, t = .inr x1 → RT G M_X11_ask d z Q 111 [(9, 0), (9, 0), (0, x1.1), (9, 0), (9, 0)] [] z x1.2)) : RT G M_X11_ask d z Q 105 [(2, a0), (0, a1), (0, a2), (0, a3), (9, 0)] [] z mem0 := by
  unfold j_X11_ask_105_42 at h
  refine RT.iinc (pc := 105) (x := a3) (L1 := [(2, a0), (0, a1), (0, a2), (0, (rt_iadd a3 1)), (9, 0)]) dX11_ask_105 rfl (Nat.le_of_ble_eq_true rfl) ⟨by decide, by decide⟩ rfl ?_
  refine RT.goto (pc := 108) (tgt := 42) dX11_ask_108 rfl ?_
  obtain rfl := Option.some.inj h
  have q1 := hK.1 ((a1, a2, (rt_iadd a3 1), mem0)) rfl
  try dsimp only at q1
  exact q1
theorem cj_X11_ask_100_42 {G : rt_G} {d : Nat} {z : Nat × Nat} {Q : rt_P} (hz : 300 ≤ z.1) (hd : 4 ≤ d) {a0 : Int} (ht : rt_kd a0.toNat = 20 + 11) (a3 : Int) (a4 : Int) (mem0 : rt_M) (t : (Int × Int × Int × rt_M) ⊕ (Int × rt_M)) (h : j_X11_ask_100_42 a0 a3 a4 mem0 = some t) (hK : (∀ s1 : Int × Int × Int × rt_M, t = .inl s1 → RT G M_X11_ask d z Q 42 [(2, a0), (0, s1.1), (0, s1.2.1), (0, s1.2.2.1), (9, 0)] [] z s1.2.2.2) ∧ (∀ x1 : Int × rt_M, t = .inr x1 → RT G M_X11_ask d z Q 111 [(9, 0), (9, 0), (0, x1.1), (9, 0), (9, 0)] [] z x1.2)) : RT G M_X11_ask d z Q 100 [(2, a0), (9, 0), (9, 0), (0, a3), (0, a4)] [] z mem0 := by
  unfold j_X11_ask_100_42 at h
  refine RT.iload (pc := 100) (k := 4) (x := a4) dX11_ask_100 rfl ?_
  refine RT.istore_n (pc := 102) (k := 1) (x := a4) (L1 := [(2, a0), (0, a4), (9, 0), (0, a3), (0, a4)]) dX11_ask_102 (Nat.le_of_ble_eq_true rfl) rfl ?_
  refine RT.iload_n (pc := 103) (k := 3) (x := a3) dX11_ask_103 rfl ?_
  refine RT.istore_n (pc := 104) (k := 2) (x := a3) (L1 := [(2, a0), (0, a4), (0, a3), (0, a3), (0, a4)]) dX11_ask_104 (Nat.le_of_ble_eq_true rfl) rfl ?_
  refine RT.wk (L1 := [(2, a0), (0, a4), (0, a3), (0, a3), (9, 0)]) (rt_le_s (rt_le_s (rt_le_s (rt_le_s (rt_le_j rt_le_n))))) ?_
  exact cj_X11_ask_105_42 hz hd ht a4 a3 a3 mem0 _ h hK
theorem cb_X11_ask_42 {G : rt_G} {d : Nat} {z : Nat × Nat} {Q : rt_P} (hz : 300 ≤ z.1) (hd : 4 ≤ d) {a0 : Int} (ht : rt_kd a0.toNat = 20 + 11) (s : Int × Int × Int × rt_M) (t : (Int × Int × Int × rt_M) ⊕ (Int × rt_M)) (h : b_X11_ask_42 a0 s = some t) (hK : (∀ s1 : Int × Int × Int × rt_M, t = .inl s1 → RT G M_X11_ask d z Q 42 [(2, a0), (0, s1.1), (0, s1.2.1), (0, s1.2.2.1), (9, 0)] [] z s1.2.2.2) ∧ (∀ x1 : Int × rt_M, t = .inr x1 → RT G M_X11_ask d z Q 111 [(9, 0), (9, 0), (0, x1.1), (9, 0), (9, 0)] [] z x1.2)) : RT G M_X11_ask d z Q 42 [(2, a0), (0, s.1), (0, s.2.1), (0, s.2.2.1), (9, 0)] [] z s.2.2.2 := by
  unfold b_X11_ask_42 at h
  refine RT.iload_n (pc := 42) (k := 3) (x := s.2.2.1) dX11_ask_42 rfl ?_
  refine RT.aload_n (pc := 43) (k := 0) (x := a0) dX11_ask_43 rfl ?_
  obtain ⟨v44, hv44, h⟩ := Option.bind_eq_some_iff.mp h
  refine RT.gf 11 7 2 (pc := 44) (x := a0) (v := v44) hz dX11_ask_44 fl_X11_45 rfl hv44 ?_
  obtain ⟨v47, hv47, h⟩ := Option.bind_eq_some_iff.mp h
  refine RT.gf 4 0 0 (pc := 47) (x := v44) (v := v47) hz dX11_ask_47 fl_X11_217 rfl hv47 ?_
  refine RT.icmp_ge (pc := 50) (tgt := 111) dX11_ask_50 rfl (fun q50 => ?_) (fun q50 => ?_)
  · rw [if_pos q50] at h
    refine RT.wk (L1 := [(9, 0), (9, 0), (0, s.2.1), (9, 0), (9, 0)]) (rt_le_j (rt_le_j (rt_le_s (rt_le_j (rt_le_s rt_le_n))))) ?_
    obtain rfl := Option.some.inj h
    have q1 := hK.2 ((s.2.1, s.2.2.2)) rfl
    try dsimp only at q1
    exact q1
  · rw [if_neg q50] at h
    refine RT.aload_n (pc := 53) (k := 0) (x := a0) dX11_ask_53 rfl ?_
    obtain ⟨v54, hv54, h⟩ := Option.bind_eq_some_iff.mp h
    refine RT.gf 11 2 2 (pc := 54) (x := a0) (v := v54) hz dX11_ask_54 fl_X11_28 rfl hv54 ?_
    obtain ⟨v57, hv57, h⟩ := Option.bind_eq_some_iff.mp h
    refine RT.gf 0 3 2 (pc := 57) (x := v54) (v := v57) hz dX11_ask_57 fl_X11_279 rfl hv57 ?_
    refine RT.iload_n (pc := 60) (k := 3) (x := s.2.2.1) dX11_ask_60 rfl ?_
    obtain ⟨v61, hv61, h⟩ := Option.bind_eq_some_iff.mp h
    refine RT.iald (pc := 61) (x := v57) (i := s.2.2.1) (v := v61) dX11_ask_61 (rt_lta hz (by decide) (by decide) hv61) hv61 ?_
    refine RT.iconst (pc := 62) (n := (-1)) dX11_ask_62 ⟨by decide, by decide⟩ ?_
    refine RT.icmp_ne (pc := 63) (tgt := 105) dX11_ask_63 rfl (fun q63 => ?_) (fun q63 => ?_)
    · rw [if_neg q63] at h
      exact cj_X11_ask_105_42 hz hd ht s.1 s.2.1 s.2.2.1 s.2.2.2 _ h hK
    · rw [if_pos (Classical.not_not.mp q63)] at h
      refine RT.aload_n (pc := 66) (k := 0) (x := a0) dX11_ask_66 rfl ?_
      obtain ⟨v67, hv67, h⟩ := Option.bind_eq_some_iff.mp h
      refine RT.gf 11 11 2 (pc := 67) (x := a0) (v := v67) hz dX11_ask_67 fl_X11_67 rfl hv67 ?_
      refine RT.iload_n (pc := 70) (k := 3) (x := s.2.2.1) dX11_ask_70 rfl ?_
      obtain ⟨p71, hp71, h⟩ := Option.bind_eq_some_iff.mp h
      obtain ⟨hk71, hp71⟩ := rt_gd_some hp71
      refine RT.cVz (pc := 71) (M' := M_X1_greatestLikeWays) (ci := 1) (x := v67) (As := [(0, s.2.2.1)]) (st := []) (r := some (0, p71.1)) (mem1 := p71.2) (d' := d - 1) hz dX11_ask_71 mw_X1_greatestLikeWays ml_X11_297 mi_X1_greatestLikeWays hk71 rfl rfl (Nat.le_of_ble_eq_true rfl) (Nat.le_of_ble_eq_true rfl) (by omega) rfl rfl (c_X1_greatestLikeWays hz (by omega) v67 s.2.2.1 s.2.2.2 _ hk71 hp71) ?_
      refine RT.istore (pc := 74) (k := 4) (x := p71.1) (L1 := [(2, a0), (0, s.1), (0, s.2.1), (0, s.2.2.1), (0, p71.1)]) dX11_ask_74 (Nat.le_of_ble_eq_true rfl) rfl ?_
      refine RT.iload (pc := 76) (k := 4) (x := p71.1) dX11_ask_76 rfl ?_
      refine RT.aload_n (pc := 78) (k := 0) (x := a0) dX11_ask_78 rfl ?_
      obtain ⟨v79, hv79, h⟩ := Option.bind_eq_some_iff.mp h
      refine RT.gf 11 11 2 (pc := 79) (x := a0) (v := v79) hz dX11_ask_79 fl_X11_67 rfl hv79 ?_
      refine RT.iload_n (pc := 82) (k := 3) (x := s.2.2.1) dX11_ask_82 rfl ?_
      obtain ⟨p83, hp83, h⟩ := Option.bind_eq_some_iff.mp h
      obtain ⟨hk83, hp83⟩ := rt_gd_some hp83
      refine RT.cVz (pc := 83) (M' := M_X1_allWays) (ci := 1) (x := v79) (As := [(0, s.2.2.1)]) (st := [(0, p71.1)]) (r := some (0, p83)) (mem1 := p71.2) (d' := d - 1) hz dX11_ask_83 mw_X1_allWays ml_X11_300 mi_X1_allWays hk83 rfl rfl (Nat.le_of_ble_eq_true rfl) (Nat.le_of_ble_eq_true rfl) (by omega) rfl rfl (c_X1_allWays hz (by omega) v79 s.2.2.1 p71.2 _ hk83 hp83) ?_
      refine RT.icmp_ge (pc := 86) (tgt := 105) dX11_ask_86 rfl (fun q86 => ?_) (fun q86 => ?_)
      · rw [if_pos q86] at h
        refine RT.wk (L1 := [(2, a0), (0, s.1), (0, s.2.1), (0, s.2.2.1), (9, 0)]) (rt_le_s (rt_le_s (rt_le_s (rt_le_s (rt_le_j rt_le_n))))) ?_
        exact cj_X11_ask_105_42 hz hd ht s.1 s.2.1 s.2.2.1 p71.2 _ h hK
      · rw [if_neg q86] at h
        refine RT.iload_n (pc := 89) (k := 2) (x := s.2.1) dX11_ask_89 rfl ?_
        refine RT.iconst (pc := 90) (n := (-1)) dX11_ask_90 ⟨by decide, by decide⟩ ?_
        refine RT.icmp_eq (pc := 91) (tgt := 100) dX11_ask_91 rfl (fun q91 => ?_) (fun q91 => ?_)
        · rw [if_pos q91] at h
          refine RT.wk (L1 := [(2, a0), (9, 0), (9, 0), (0, s.2.2.1), (0, p71.1)]) (rt_le_s (rt_le_j (rt_le_j (rt_le_s (rt_le_s rt_le_n))))) ?_
          exact cj_X11_ask_100_42 hz hd ht s.2.2.1 p71.1 p71.2 _ h hK
        · rw [if_neg q91] at h
          refine RT.iload (pc := 94) (k := 4) (x := p71.1) dX11_ask_94 rfl ?_
          refine RT.iload_n (pc := 96) (k := 1) (x := s.1) dX11_ask_96 rfl ?_
          refine RT.icmp_ge (pc := 97) (tgt := 105) dX11_ask_97 rfl (fun q97 => ?_) (fun q97 => ?_)
          · rw [if_pos q97] at h
            refine RT.wk (L1 := [(2, a0), (0, s.1), (0, s.2.1), (0, s.2.2.1), (9, 0)]) (rt_le_s (rt_le_s (rt_le_s (rt_le_s (rt_le_j rt_le_n))))) ?_
            exact cj_X11_ask_105_42 hz hd ht s.1 s.2.1 s.2.2.1 p71.2 _ h hK
          · rw [if_neg q97] at h
            refine RT.wk (L1 := [(2, a0), (9, 0), (9, 0), (0, s.2.2.1), (0, p71.1)]) (rt_le_s (rt_le_j (rt_le_j (rt_le_s (rt_le_s rt_le_n))))) ?_
            exact cj_X11_ask_100_42 hz hd ht s.2.2.1 p71.1 p71.2 _ h hK
theorem c_X11_ask {G : rt_G} {d : Nat} {z : Nat × Nat} (hz : 300 ≤ z.1) (hd : 4 ≤ d) (a0 : Int) (mem0 : rt_M) (t : Int × rt_M) (ht : rt_kd a0.toNat = 20 + 11) (h : f_X11_ask a0 mem0 = some t) : RM G M_X11_ask d [(2, a0)] z mem0 (some (0, t.1)) t.2 := by
  suffices H : ∀ Q : rt_P, Q (some (0, t.1)) z t.2 → RT G M_X11_ask d z Q 0 [(2, a0), (9, 0), (9, 0), (9, 0), (9, 0)] [] z mem0 from H _ ⟨rfl, rfl, rfl⟩
  intro Q hK
  unfold f_X11_ask at h
  refine RT.aload_n (pc := 0) (k := 0) (x := a0) dX11_ask_0 rfl ?_
  obtain ⟨v1, hv1, h⟩ := Option.bind_eq_some_iff.mp h
  refine RT.gf 11 11 2 (pc := 1) (x := a0) (v := v1) hz dX11_ask_1 fl_X11_67 rfl hv1 ?_
  refine RT.aload_n (pc := 4) (k := 0) (x := a0) dX11_ask_4 rfl ?_
  obtain ⟨v5, hv5, h⟩ := Option.bind_eq_some_iff.mp h
  refine RT.gf 11 7 2 (pc := 5) (x := a0) (v := v5) hz dX11_ask_5 fl_X11_45 rfl hv5 ?_
  refine RT.aload_n (pc := 8) (k := 0) (x := a0) dX11_ask_8 rfl ?_
  obtain ⟨v9, hv9, h⟩ := Option.bind_eq_some_iff.mp h
  refine RT.gf 11 2 2 (pc := 9) (x := a0) (v := v9) hz dX11_ask_9 fl_X11_28 rfl hv9 ?_
  obtain ⟨v12, hv12, h⟩ := Option.bind_eq_some_iff.mp h
  refine RT.gf 0 0 2 (pc := 12) (x := v9) (v := v12) hz dX11_ask_12 fl_X11_126 rfl hv12 ?_
  obtain ⟨v15, hv15, h⟩ := Option.bind_eq_some_iff.mp h
  refine RT.gf 7 0 0 (pc := 15) (x := v12) (v := v15) hz dX11_ask_15 fl_X11_142 rfl hv15 ?_
  obtain ⟨p18, hp18, h⟩ := Option.bind_eq_some_iff.mp h
  obtain ⟨hk18, hp18⟩ := rt_gd_some hp18
  refine RT.cVz (pc := 18) (M' := M_X1_measure) (ci := 1) (x := v1) (As := [(2, v5), (0, v15)]) (st := []) (r := none) (mem1 := p18) (d' := d - 1) hz dX11_ask_18 mw_X1_measure ml_X11_283 mi_X1_measure hk18 rfl rfl (Nat.le_of_ble_eq_true rfl) (Nat.le_of_ble_eq_true rfl) (by omega) rfl rfl (c_X1_measure hz (by omega) v1 v5 v15 mem0 _ hk18 hp18) ?_
  refine RT.aload_n (pc := 21) (k := 0) (x := a0) dX11_ask_21 rfl ?_
  obtain ⟨v22, hv22, h⟩ := Option.bind_eq_some_iff.mp h
  refine RT.gf 11 11 2 (pc := 22) (x := a0) (v := v22) hz dX11_ask_22 fl_X11_67 rfl hv22 ?_
  refine RT.aload_n (pc := 25) (k := 0) (x := a0) dX11_ask_25 rfl ?_
  obtain ⟨v26, hv26, h⟩ := Option.bind_eq_some_iff.mp h
  refine RT.gf 11 2 2 (pc := 26) (x := a0) (v := v26) hz dX11_ask_26 fl_X11_28 rfl hv26 ?_
  obtain ⟨v29, hv29, h⟩ := Option.bind_eq_some_iff.mp h
  refine RT.gf 0 3 2 (pc := 29) (x := v26) (v := v29) hz dX11_ask_29 fl_X11_279 rfl hv29 ?_
  refine RT.iconst (pc := 32) (n := (-1)) dX11_ask_32 ⟨by decide, by decide⟩ ?_
  obtain ⟨p33, hp33, h⟩ := Option.bind_eq_some_iff.mp h
  obtain ⟨hk33, hp33⟩ := rt_gd_some hp33
  refine RT.cVz (pc := 33) (M' := M_X1_layWays) (ci := 1) (x := v22) (As := [(2, v29), (0, (-1))]) (st := []) (r := none) (mem1 := p33) (d' := d - 1) hz dX11_ask_33 mw_X1_layWays ml_X11_287 mi_X1_layWays hk33 rfl rfl (Nat.le_of_ble_eq_true rfl) (Nat.le_of_ble_eq_true rfl) (by omega) rfl rfl (c_X1_layWays hz (by omega) v22 v29 ((-1)) p18 _ hk33 hp33) ?_
  refine RT.iconst (pc := 36) (n := (-1)) dX11_ask_36 ⟨by decide, by decide⟩ ?_
  refine RT.istore_n (pc := 37) (k := 1) (x := (-1)) (L1 := [(2, a0), (0, (-1)), (9, 0), (9, 0), (9, 0)]) dX11_ask_37 (Nat.le_of_ble_eq_true rfl) rfl ?_
  refine RT.iconst (pc := 38) (n := (-1)) dX11_ask_38 ⟨by decide, by decide⟩ ?_
  refine RT.istore_n (pc := 39) (k := 2) (x := (-1)) (L1 := [(2, a0), (0, (-1)), (0, (-1)), (9, 0), (9, 0)]) dX11_ask_39 (Nat.le_of_ble_eq_true rfl) rfl ?_
  refine RT.iconst (pc := 40) (n := 0) dX11_ask_40 ⟨by decide, by decide⟩ ?_
  refine RT.istore_n (pc := 41) (k := 3) (x := 0) (L1 := [(2, a0), (0, (-1)), (0, (-1)), (0, 0), (9, 0)]) dX11_ask_41 (Nat.le_of_ble_eq_true rfl) rfl ?_
  obtain ⟨X42, hX42, h⟩ := Option.bind_eq_some_iff.mp h
  refine rt_it_ind (P := (fun s1 : Int × Int × Int × rt_M => RT G M_X11_ask d z Q 42 [(2, a0), (0, s1.1), (0, s1.2.1), (0, s1.2.2.1), (9, 0)] [] z s1.2.2.2)) (X := (fun x1 : Int × rt_M => RT G M_X11_ask d z Q 111 [(9, 0), (9, 0), (0, x1.1), (9, 0), (9, 0)] [] z x1.2)) (fun s1 t1 h1 k1 k2 => cb_X11_ask_42 hz hd ht s1 t1 h1 ⟨k1, k2⟩) 4000 (((-1), (-1), 0, p33)) X42 hX42 ?_
  refine RT.iload_n (pc := 111) (k := 2) (x := X42.1) dX11_ask_111 rfl ?_
  obtain rfl := Option.some.inj h
  exact RT.iret (pc := 112) dX11_ask_112 rfl (Nat.le_of_eq (rt_cells_0 z)) (Nat.le_of_eq (rt_slots_0 z)) hK
theorem cj_X11_power_37 {G : rt_G} {d : Nat} {z : Nat × Nat} {Q : rt_P} (hz : 300 ≤ z.1) (hd : 4 ≤ d) {a0 : Int} (ht : rt_kd a0.toNat = 20 + 11) (mem0 : rt_M) (t : Int) (h : j_X11_power_37 mem0 = some t) (hK : Q (some (0, t)) z mem0) : RT G M_X11_power d z Q 37 [(9, 0), (9, 0), (9, 0), (9, 0), (9, 0), (9, 0), (9, 0)] [] z mem0 := by
  unfold j_X11_power_37 at h
  refine RT.iconst (pc := 37) (n := (-1)) dX11_power_37 ⟨by decide, by decide⟩ ?_
  obtain rfl := Option.some.inj h
  exact RT.iret (pc := 38) dX11_power_38 rfl (Nat.le_of_eq (rt_cells_0 z)) (Nat.le_of_eq (rt_slots_0 z)) hK
theorem cj_X11_power_117_66 {G : rt_G} {d : Nat} {z : Nat × Nat} {Q : rt_P} (hz : 300 ≤ z.1) (hd : 4 ≤ d) {a0 : Int} (ht : rt_kd a0.toNat = 20 + 11) (a1 : Int) (a2 : Int) (a3 : Int) (a4 : Int) (a5 : Int) (mem0 : rt_M) (t : (Int × Int) ⊕ (Int)) (h : j_X11_power_117_66 a0 a1 a2 a3 a4 a5 mem0 = some t) (hK : (∀ s1 : Int × Int, t = .inl s1 → RT G M_X11_power d z Q 66 [(2, a0), (0, a1), (0, a2), (0, a3), (0, s1.1), (0, s1.2), (9, 0)] [] z mem0) ∧ (∀ x1 : Int, t = .inr x1 → RT G M_X11_power d z Q 123 [(9, 0), (9, 0), (9, 0), (9, 0), (0, x1), (9, 0), (9, 0)] [] z mem0)) : RT G M_X11_power d z Q 117 [(2, a0), (0, a1), (0, a2), (0, a3), (0, a4), (0, a5), (9, 0)] [] z mem0 := by
  unfold j_X11_power_117_66 at h
  refine RT.iinc (pc := 117) (x := a5) (L1 := [(2, a0), (0, a1), (0, a2), (0, a3), (0, a4), (0, (rt_iadd a5 1)), (9, 0)]) dX11_power_117 rfl (Nat.le_of_ble_eq_true rfl) ⟨by decide, by decide⟩ rfl ?_
  refine RT.goto (pc := 120) (tgt := 66) dX11_power_120 rfl ?_
  obtain rfl := Option.some.inj h
  have q1 := hK.1 ((a4, (rt_iadd a5 1))) rfl
  try dsimp only at q1
  exact q1
theorem cb_X11_power_66 {G : rt_G} {d : Nat} {z : Nat × Nat} {Q : rt_P} (hz : 300 ≤ z.1) (hd : 4 ≤ d) {a0 : Int} (ht : rt_kd a0.toNat = 20 + 11) (a1 : Int) (a2 : Int) (a3 : Int) (mem0 : rt_M) (s : Int × Int) (t : (Int × Int) ⊕ (Int)) (h : b_X11_power_66 a0 a1 a2 a3 mem0 s = some t) (hK : (∀ s1 : Int × Int, t = .inl s1 → RT G M_X11_power d z Q 66 [(2, a0), (0, a1), (0, a2), (0, a3), (0, s1.1), (0, s1.2), (9, 0)] [] z mem0) ∧ (∀ x1 : Int, t = .inr x1 → RT G M_X11_power d z Q 123 [(9, 0), (9, 0), (9, 0), (9, 0), (0, x1), (9, 0), (9, 0)] [] z mem0)) : RT G M_X11_power d z Q 66 [(2, a0), (0, a1), (0, a2), (0, a3), (0, s.1), (0, s.2), (9, 0)] [] z mem0 := by
  unfold b_X11_power_66 at h
  refine RT.iload (pc := 66) (k := 5) (x := s.2) dX11_power_66 rfl ?_
  refine RT.bipush (pc := 68) (n := 64) dX11_power_68 ⟨by decide, by decide⟩ rfl ?_
  refine RT.icmp_ge (pc := 70) (tgt := 123) dX11_power_70 rfl (fun q70 => ?_) (fun q70 => ?_)
  · rw [if_pos q70] at h
    refine RT.wk (L1 := [(9, 0), (9, 0), (9, 0), (9, 0), (0, s.1), (9, 0), (9, 0)]) (rt_le_j (rt_le_j (rt_le_j (rt_le_j (rt_le_s (rt_le_j (rt_le_s rt_le_n))))))) ?_
    obtain rfl := Option.some.inj h
    have q1 := hK.2 s.1 rfl
    try dsimp only at q1
    exact q1
  · rw [if_neg q70] at h
    refine RT.iload (pc := 73) (k := 5) (x := s.2) dX11_power_73 rfl ?_
    refine RT.iload_n (pc := 75) (k := 3) (x := a3) dX11_power_75 rfl ?_
    refine RT.iconst (pc := 76) (n := (-1)) dX11_power_76 ⟨by decide, by decide⟩ ?_
    refine RT.ixor (pc := 77) dX11_power_77 ?_
    refine RT.iand (pc := 78) dX11_power_78 ?_
    refine RT.if_ne (pc := 79) (tgt := 117) dX11_power_79 rfl (fun q79 => ?_) (fun q79 => ?_)
    · rw [if_neg q79] at h
      exact cj_X11_power_117_66 hz hd ht a1 a2 a3 s.1 s.2 mem0 _ h hK
    · rw [if_pos (Classical.not_not.mp q79)] at h
      refine RT.aload_n (pc := 82) (k := 0) (x := a0) dX11_power_82 rfl ?_
      obtain ⟨v83, hv83, h⟩ := Option.bind_eq_some_iff.mp h
      refine RT.gf 11 7 2 (pc := 83) (x := a0) (v := v83) hz dX11_power_83 fl_X11_45 rfl hv83 ?_
      refine RT.iload (pc := 86) (k := 5) (x := s.2) dX11_power_86 rfl ?_
      obtain ⟨p88, hp88, h⟩ := Option.bind_eq_some_iff.mp h
      obtain ⟨hk88, hp88⟩ := rt_gd_some hp88
      refine RT.cVz (pc := 88) (M' := M_X4_officeOfAll) (ci := 4) (x := v83) (As := [(0, s.2)]) (st := []) (r := some (0, p88)) (mem1 := mem0) (d' := d - 1) hz dX11_power_88 mw_X4_officeOfAll ml_X11_208 mi_X4_officeOfAll hk88 rfl rfl (Nat.le_of_ble_eq_true rfl) (Nat.le_of_ble_eq_true rfl) (by omega) rfl rfl (c_X4_officeOfAll hz (by omega) v83 s.2 mem0 _ hk88 hp88) ?_
      refine RT.istore (pc := 91) (k := 6) (x := p88) (L1 := [(2, a0), (0, a1), (0, a2), (0, a3), (0, s.1), (0, s.2), (0, p88)]) dX11_power_91 (Nat.le_of_ble_eq_true rfl) rfl ?_
      refine RT.iload (pc := 93) (k := 6) (x := p88) dX11_power_93 rfl ?_
      refine RT.iload_n (pc := 95) (k := 2) (x := a2) dX11_power_95 rfl ?_
      refine RT.icmp_ge (pc := 96) (tgt := 117) dX11_power_96 rfl (fun q96 => ?_) (fun q96 => ?_)
      · rw [if_pos q96] at h
        refine RT.wk (L1 := [(2, a0), (0, a1), (0, a2), (0, a3), (0, s.1), (0, s.2), (9, 0)]) (rt_le_s (rt_le_s (rt_le_s (rt_le_s (rt_le_s (rt_le_s (rt_le_j rt_le_n))))))) ?_
        exact cj_X11_power_117_66 hz hd ht a1 a2 a3 s.1 s.2 mem0 _ h hK
      · rw [if_neg q96] at h
        refine RT.iload (pc := 99) (k := 6) (x := p88) dX11_power_99 rfl ?_
        refine RT.aload_n (pc := 101) (k := 0) (x := a0) dX11_power_101 rfl ?_
        obtain ⟨v102, hv102, h⟩ := Option.bind_eq_some_iff.mp h
        refine RT.gf 11 7 2 (pc := 102) (x := a0) (v := v102) hz dX11_power_102 fl_X11_45 rfl hv102 ?_
        refine RT.iload_n (pc := 105) (k := 1) (x := a1) dX11_power_105 rfl ?_
        obtain ⟨p106, hp106, h⟩ := Option.bind_eq_some_iff.mp h
        obtain ⟨hk106, hp106⟩ := rt_gd_some hp106
        refine RT.cVz (pc := 106) (M' := M_X4_officeOf) (ci := 4) (x := v102) (As := [(0, a1)]) (st := [(0, p88)]) (r := some (0, p106)) (mem1 := mem0) (d' := d - 1) hz dX11_power_106 mw_X4_officeOf ml_X11_120 mi_X4_officeOf hk106 rfl rfl (Nat.le_of_ble_eq_true rfl) (Nat.le_of_ble_eq_true rfl) (by omega) rfl rfl (c_X4_officeOf hz (by omega) v102 a1 mem0 _ hk106 hp106) ?_
        refine RT.iadd (pc := 109) dX11_power_109 ?_
        refine RT.iload_n (pc := 110) (k := 2) (x := a2) dX11_power_110 rfl ?_
        refine RT.icmp_lt (pc := 111) (tgt := 117) dX11_power_111 rfl (fun q111 => ?_) (fun q111 => ?_)
        · rw [if_pos q111] at h
          refine RT.wk (L1 := [(2, a0), (0, a1), (0, a2), (0, a3), (0, s.1), (0, s.2), (9, 0)]) (rt_le_s (rt_le_s (rt_le_s (rt_le_s (rt_le_s (rt_le_s (rt_le_j rt_le_n))))))) ?_
          exact cj_X11_power_117_66 hz hd ht a1 a2 a3 s.1 s.2 mem0 _ h hK
        · rw [if_neg q111] at h
          refine RT.iinc (pc := 114) (x := s.1) (L1 := [(2, a0), (0, a1), (0, a2), (0, a3), (0, (rt_iadd s.1 1)), (0, s.2), (0, p88)]) dX11_power_114 rfl (Nat.le_of_ble_eq_true rfl) ⟨by decide, by decide⟩ rfl ?_
          refine RT.wk (L1 := [(2, a0), (0, a1), (0, a2), (0, a3), (0, (rt_iadd s.1 1)), (0, s.2), (9, 0)]) (rt_le_s (rt_le_s (rt_le_s (rt_le_s (rt_le_s (rt_le_s (rt_le_j rt_le_n))))))) ?_
          exact cj_X11_power_117_66 hz hd ht a1 a2 a3 ((rt_iadd s.1 1)) s.2 mem0 _ h hK
theorem c_X11_power {G : rt_G} {d : Nat} {z : Nat × Nat} (hz : 300 ≤ z.1) (hd : 4 ≤ d) (a0 : Int) (a1 : Int) (a2 : Int) (mem0 : rt_M) (t : Int) (ht : rt_kd a0.toNat = 20 + 11) (h : f_X11_power a0 a1 a2 mem0 = some t) : RM G M_X11_power d [(2, a0), (0, a1), (0, a2)] z mem0 (some (0, t)) mem0 := by
  suffices H : ∀ Q : rt_P, Q (some (0, t)) z mem0 → RT G M_X11_power d z Q 0 [(2, a0), (0, a1), (0, a2), (9, 0), (9, 0), (9, 0), (9, 0)] [] z mem0 from H _ ⟨rfl, rfl, rfl⟩
  intro Q hK
  unfold f_X11_power at h
  refine RT.aload_n (pc := 0) (k := 0) (x := a0) dX11_power_0 rfl ?_
  obtain ⟨v1, hv1, h⟩ := Option.bind_eq_some_iff.mp h
  refine RT.gf 11 7 2 (pc := 1) (x := a0) (v := v1) hz dX11_power_1 fl_X11_45 rfl hv1 ?_
  refine RT.iload_n (pc := 4) (k := 1) (x := a1) dX11_power_4 rfl ?_
  obtain ⟨p5, hp5, h⟩ := Option.bind_eq_some_iff.mp h
  obtain ⟨hk5, hp5⟩ := rt_gd_some hp5
  refine RT.cVz (pc := 5) (M' := M_X4_isWig) (ci := 4) (x := v1) (As := [(0, a1)]) (st := []) (r := some (0, p5)) (mem1 := mem0) (d' := d - 1) hz dX11_power_5 mw_X4_isWig ml_X11_112 mi_X4_isWig hk5 rfl rfl (Nat.le_of_ble_eq_true rfl) (Nat.le_of_ble_eq_true rfl) (by omega) rfl rfl (c_X4_isWig hz (by omega) v1 a1 mem0 _ hk5 hp5) ?_
  refine RT.if_eq (pc := 8) (tgt := 37) dX11_power_8 rfl (fun q8 => ?_) (fun q8 => ?_)
  · rw [if_pos q8] at h
    refine RT.wk (L1 := [(9, 0), (9, 0), (9, 0), (9, 0), (9, 0), (9, 0), (9, 0)]) (rt_le_j (rt_le_j (rt_le_j (rt_le_s (rt_le_s (rt_le_s (rt_le_s rt_le_n))))))) ?_
    exact cj_X11_power_37 hz hd ht mem0 _ h hK
  · rw [if_neg q8] at h
    refine RT.iload_n (pc := 11) (k := 2) (x := a2) dX11_power_11 rfl ?_
    refine RT.if_lt (pc := 12) (tgt := 37) dX11_power_12 rfl (fun q12 => ?_) (fun q12 => ?_)
    · rw [if_pos q12] at h
      refine RT.wk (L1 := [(9, 0), (9, 0), (9, 0), (9, 0), (9, 0), (9, 0), (9, 0)]) (rt_le_j (rt_le_j (rt_le_j (rt_le_s (rt_le_s (rt_le_s (rt_le_s rt_le_n))))))) ?_
      exact cj_X11_power_37 hz hd ht mem0 _ h hK
    · rw [if_neg q12] at h
      refine RT.iload_n (pc := 15) (k := 2) (x := a2) dX11_power_15 rfl ?_
      refine RT.sipush (pc := 16) (n := 999) dX11_power_16 ⟨by decide, by decide⟩ rfl ?_
      refine RT.icmp_gt (pc := 19) (tgt := 37) dX11_power_19 rfl (fun q19 => ?_) (fun q19 => ?_)
      · rw [if_pos q19] at h
        refine RT.wk (L1 := [(9, 0), (9, 0), (9, 0), (9, 0), (9, 0), (9, 0), (9, 0)]) (rt_le_j (rt_le_j (rt_le_j (rt_le_s (rt_le_s (rt_le_s (rt_le_s rt_le_n))))))) ?_
        exact cj_X11_power_37 hz hd ht mem0 _ h hK
      · rw [if_neg q19] at h
        refine RT.aload_n (pc := 22) (k := 0) (x := a0) dX11_power_22 rfl ?_
        obtain ⟨v23, hv23, h⟩ := Option.bind_eq_some_iff.mp h
        refine RT.gf 11 2 2 (pc := 23) (x := a0) (v := v23) hz dX11_power_23 fl_X11_28 rfl hv23 ?_
        obtain ⟨v26, hv26, h⟩ := Option.bind_eq_some_iff.mp h
        refine RT.gf 0 0 2 (pc := 26) (x := v23) (v := v26) hz dX11_power_26 fl_X11_126 rfl hv26 ?_
        refine RT.iload_n (pc := 29) (k := 1) (x := a1) dX11_power_29 rfl ?_
        obtain ⟨p30, hp30, h⟩ := Option.bind_eq_some_iff.mp h
        obtain ⟨hk30, hp30⟩ := rt_gd_some hp30
        refine RT.cVz (pc := 30) (M' := M_X7_headUnder) (ci := 7) (x := v26) (As := [(0, a1)]) (st := []) (r := some (0, p30)) (mem1 := mem0) (d' := d - 1) hz dX11_power_30 mw_X7_headUnder ml_X11_129 mi_X7_headUnder hk30 rfl rfl (Nat.le_of_ble_eq_true rfl) (Nat.le_of_ble_eq_true rfl) (by omega) rfl rfl (c_X7_headUnder hz (by omega) v26 a1 mem0 _ hk30 hp30) ?_
        refine RT.iconst (pc := 33) (n := (-1)) dX11_power_33 ⟨by decide, by decide⟩ ?_
        refine RT.icmp_ne (pc := 34) (tgt := 39) dX11_power_34 rfl (fun q34 => ?_) (fun q34 => ?_)
        · rw [if_neg q34] at h
          refine RT.aload_n (pc := 39) (k := 0) (x := a0) dX11_power_39 rfl ?_
          obtain ⟨v40, hv40, h⟩ := Option.bind_eq_some_iff.mp h
          refine RT.gf 11 2 2 (pc := 40) (x := a0) (v := v40) hz dX11_power_40 fl_X11_28 rfl hv40 ?_
          obtain ⟨v43, hv43, h⟩ := Option.bind_eq_some_iff.mp h
          refine RT.gf 0 0 2 (pc := 43) (x := v40) (v := v43) hz dX11_power_43 fl_X11_126 rfl hv43 ?_
          refine RT.aload_n (pc := 46) (k := 0) (x := a0) dX11_power_46 rfl ?_
          obtain ⟨v47, hv47, h⟩ := Option.bind_eq_some_iff.mp h
          refine RT.gf 11 7 2 (pc := 47) (x := a0) (v := v47) hz dX11_power_47 fl_X11_45 rfl hv47 ?_
          obtain ⟨p50, hp50, h⟩ := Option.bind_eq_some_iff.mp h
          obtain ⟨hk50, hp50⟩ := rt_gd_some hp50
          refine RT.cVz (pc := 50) (M' := M_X7_worn) (ci := 7) (x := v43) (As := [(2, v47)]) (st := []) (r := some (0, p50)) (mem1 := mem0) (d' := d - 1) hz dX11_power_50 mw_X7_worn ml_X11_205 mi_X7_worn hk50 rfl rfl (Nat.le_of_ble_eq_true rfl) (Nat.le_of_ble_eq_true rfl) (by omega) rfl rfl (c_X7_worn hz (by omega) v43 v47 mem0 _ hk50 hp50) ?_
          refine RT.iconst (pc := 53) (n := 1) dX11_power_53 ⟨by decide, by decide⟩ ?_
          refine RT.iload_n (pc := 54) (k := 1) (x := a1) dX11_power_54 rfl ?_
          refine RT.ishl (pc := 55) dX11_power_55 ?_
          refine RT.iconst (pc := 56) (n := (-1)) dX11_power_56 ⟨by decide, by decide⟩ ?_
          refine RT.ixor (pc := 57) dX11_power_57 ?_
          refine RT.iand (pc := 58) dX11_power_58 ?_
          refine RT.istore_n (pc := 59) (k := 3) (x := (rt_iand p50 (rt_ixor (rt_ishl 1 a1) (-1)))) (L1 := [(2, a0), (0, a1), (0, a2), (0, (rt_iand p50 (rt_ixor (rt_ishl 1 a1) (-1)))), (9, 0), (9, 0), (9, 0)]) dX11_power_59 (Nat.le_of_ble_eq_true rfl) rfl ?_
          refine RT.iconst (pc := 60) (n := 0) dX11_power_60 ⟨by decide, by decide⟩ ?_
          refine RT.istore (pc := 61) (k := 4) (x := 0) (L1 := [(2, a0), (0, a1), (0, a2), (0, (rt_iand p50 (rt_ixor (rt_ishl 1 a1) (-1)))), (0, 0), (9, 0), (9, 0)]) dX11_power_61 (Nat.le_of_ble_eq_true rfl) rfl ?_
          refine RT.iconst (pc := 63) (n := 0) dX11_power_63 ⟨by decide, by decide⟩ ?_
          refine RT.istore (pc := 64) (k := 5) (x := 0) (L1 := [(2, a0), (0, a1), (0, a2), (0, (rt_iand p50 (rt_ixor (rt_ishl 1 a1) (-1)))), (0, 0), (0, 0), (9, 0)]) dX11_power_64 (Nat.le_of_ble_eq_true rfl) rfl ?_
          obtain ⟨X66, hX66, h⟩ := Option.bind_eq_some_iff.mp h
          refine rt_it_ind (P := (fun s1 : Int × Int => RT G M_X11_power d z Q 66 [(2, a0), (0, a1), (0, a2), (0, (rt_iand p50 (rt_ixor (rt_ishl 1 a1) (-1)))), (0, s1.1), (0, s1.2), (9, 0)] [] z mem0)) (X := (fun x1 : Int => RT G M_X11_power d z Q 123 [(9, 0), (9, 0), (9, 0), (9, 0), (0, x1), (9, 0), (9, 0)] [] z mem0)) (fun s1 t1 h1 k1 k2 => cb_X11_power_66 hz hd ht a1 a2 ((rt_iand p50 (rt_ixor (rt_ishl 1 a1) (-1)))) mem0 s1 t1 h1 ⟨k1, k2⟩) 4000 ((0, 0)) X66 hX66 ?_
          refine RT.iload (pc := 123) (k := 4) (x := X66) dX11_power_123 rfl ?_
          obtain rfl := Option.some.inj h
          exact RT.iret (pc := 125) dX11_power_125 rfl (Nat.le_of_eq (rt_cells_0 z)) (Nat.le_of_eq (rt_slots_0 z)) hK
        · rw [if_pos (Classical.not_not.mp q34)] at h
          refine RT.wk (L1 := [(9, 0), (9, 0), (9, 0), (9, 0), (9, 0), (9, 0), (9, 0)]) (rt_le_j (rt_le_j (rt_le_j (rt_le_s (rt_le_s (rt_le_s (rt_le_s rt_le_n))))))) ?_
          exact cj_X11_power_37 hz hd ht mem0 _ h hK
theorem c_X11_match {G : rt_G} {d : Nat} {z : Nat × Nat} (hz : 300 ≤ z.1) (hd : 5 ≤ d) (a0 : Int) (a1 : Int) (mem0 : rt_M) (t : Int × rt_M) (ht : rt_kd a0.toNat = 20 + 11) (h : f_X11_match a0 a1 mem0 = some t) : RM G M_X11_match d [(2, a0), (0, a1)] z mem0 (some (0, t.1)) t.2 := by
  suffices H : ∀ Q : rt_P, Q (some (0, t.1)) z t.2 → RT G M_X11_match d z Q 0 [(2, a0), (0, a1)] [] z mem0 from H _ ⟨rfl, rfl, rfl⟩
  intro Q hK
  unfold f_X11_match at h
  refine RT.aload_n (pc := 0) (k := 0) (x := a0) dX11_match_0 rfl ?_
  obtain ⟨v1, hv1, h⟩ := Option.bind_eq_some_iff.mp h
  refine RT.gf 11 7 2 (pc := 1) (x := a0) (v := v1) hz dX11_match_1 fl_X11_45 rfl hv1 ?_
  refine RT.iload_n (pc := 4) (k := 1) (x := a1) dX11_match_4 rfl ?_
  obtain ⟨p5, hp5, h⟩ := Option.bind_eq_some_iff.mp h
  obtain ⟨hk5, hp5⟩ := rt_gd_some hp5
  refine RT.cVz (pc := 5) (M' := M_X4_isHead) (ci := 4) (x := v1) (As := [(0, a1)]) (st := []) (r := some (0, p5)) (mem1 := mem0) (d' := d - 1) hz dX11_match_5 mw_X4_isHead ml_X11_135 mi_X4_isHead hk5 rfl rfl (Nat.le_of_ble_eq_true rfl) (Nat.le_of_ble_eq_true rfl) (by omega) rfl rfl (c_X4_isHead hz (by omega) v1 a1 mem0 _ hk5 hp5) ?_
  refine RT.if_ne (pc := 8) (tgt := 14) dX11_match_8 rfl (fun q8 => ?_) (fun q8 => ?_)
  · rw [if_neg q8] at h
    refine RT.aload_n (pc := 14) (k := 0) (x := a0) dX11_match_14 rfl ?_
    obtain ⟨v15, hv15, h⟩ := Option.bind_eq_some_iff.mp h
    refine RT.gf 11 11 2 (pc := 15) (x := a0) (v := v15) hz dX11_match_15 fl_X11_67 rfl hv15 ?_
    refine RT.aload_n (pc := 18) (k := 0) (x := a0) dX11_match_18 rfl ?_
    obtain ⟨v19, hv19, h⟩ := Option.bind_eq_some_iff.mp h
    refine RT.gf 11 7 2 (pc := 19) (x := a0) (v := v19) hz dX11_match_19 fl_X11_45 rfl hv19 ?_
    refine RT.aload_n (pc := 22) (k := 0) (x := a0) dX11_match_22 rfl ?_
    obtain ⟨v23, hv23, h⟩ := Option.bind_eq_some_iff.mp h
    refine RT.gf 11 2 2 (pc := 23) (x := a0) (v := v23) hz dX11_match_23 fl_X11_28 rfl hv23 ?_
    obtain ⟨v26, hv26, h⟩ := Option.bind_eq_some_iff.mp h
    refine RT.gf 0 0 2 (pc := 26) (x := v23) (v := v26) hz dX11_match_26 fl_X11_126 rfl hv26 ?_
    obtain ⟨v29, hv29, h⟩ := Option.bind_eq_some_iff.mp h
    refine RT.gf 7 0 0 (pc := 29) (x := v26) (v := v29) hz dX11_match_29 fl_X11_142 rfl hv29 ?_
    obtain ⟨p32, hp32, h⟩ := Option.bind_eq_some_iff.mp h
    obtain ⟨hk32, hp32⟩ := rt_gd_some hp32
    refine RT.cVz (pc := 32) (M' := M_X1_measure) (ci := 1) (x := v15) (As := [(2, v19), (0, v29)]) (st := []) (r := none) (mem1 := p32) (d' := d - 1) hz dX11_match_32 mw_X1_measure ml_X11_283 mi_X1_measure hk32 rfl rfl (Nat.le_of_ble_eq_true rfl) (Nat.le_of_ble_eq_true rfl) (by omega) rfl rfl (c_X1_measure hz (by omega) v15 v19 v29 mem0 _ hk32 hp32) ?_
    refine RT.aload_n (pc := 35) (k := 0) (x := a0) dX11_match_35 rfl ?_
    obtain ⟨v36, hv36, h⟩ := Option.bind_eq_some_iff.mp h
    refine RT.gf 11 11 2 (pc := 36) (x := a0) (v := v36) hz dX11_match_36 fl_X11_67 rfl hv36 ?_
    refine RT.aload_n (pc := 39) (k := 0) (x := a0) dX11_match_39 rfl ?_
    obtain ⟨v40, hv40, h⟩ := Option.bind_eq_some_iff.mp h
    refine RT.gf 11 7 2 (pc := 40) (x := a0) (v := v40) hz dX11_match_40 fl_X11_45 rfl hv40 ?_
    refine RT.aload_n (pc := 43) (k := 0) (x := a0) dX11_match_43 rfl ?_
    obtain ⟨v44, hv44, h⟩ := Option.bind_eq_some_iff.mp h
    refine RT.gf 11 2 2 (pc := 44) (x := a0) (v := v44) hz dX11_match_44 fl_X11_28 rfl hv44 ?_
    obtain ⟨v47, hv47, h⟩ := Option.bind_eq_some_iff.mp h
    refine RT.gf 0 0 2 (pc := 47) (x := v44) (v := v47) hz dX11_match_47 fl_X11_126 rfl hv47 ?_
    refine RT.aload_n (pc := 50) (k := 0) (x := a0) dX11_match_50 rfl ?_
    obtain ⟨v51, hv51, h⟩ := Option.bind_eq_some_iff.mp h
    refine RT.gf 11 7 2 (pc := 51) (x := a0) (v := v51) hz dX11_match_51 fl_X11_45 rfl hv51 ?_
    obtain ⟨p54, hp54, h⟩ := Option.bind_eq_some_iff.mp h
    obtain ⟨hk54, hp54⟩ := rt_gd_some hp54
    refine RT.cVz (pc := 54) (M' := M_X7_wornOut) (ci := 7) (x := v47) (As := [(2, v51)]) (st := [(2, v40), (2, v36)]) (r := some (0, p54)) (mem1 := p32) (d' := d - 1) hz dX11_match_54 mw_X7_wornOut ml_X11_227 mi_X7_wornOut hk54 rfl rfl (Nat.le_of_ble_eq_true rfl) (Nat.le_of_ble_eq_true rfl) (by omega) rfl rfl (c_X7_wornOut hz (by omega) v47 v51 p32 _ hk54 hp54) ?_
    refine RT.iload_n (pc := 57) (k := 1) (x := a1) dX11_match_57 rfl ?_
    obtain ⟨p58, hp58, h⟩ := Option.bind_eq_some_iff.mp h
    obtain ⟨hk58, hp58⟩ := rt_gd_some hp58
    refine RT.cVz (pc := 58) (M' := M_X1_matched) (ci := 1) (x := v36) (As := [(2, v40), (0, p54), (0, a1)]) (st := []) (r := some (0, p58.1)) (mem1 := p58.2) (d' := d - 1) hz dX11_match_58 mw_X1_matched ml_X11_303 mi_X1_matched hk58 rfl rfl (Nat.le_of_ble_eq_true rfl) (Nat.le_of_ble_eq_true rfl) (by omega) rfl rfl (c_X1_matched hz (by omega) v36 v40 p54 a1 p32 _ hk58 hp58) ?_
    obtain rfl := Option.some.inj h
    exact RT.iret (pc := 61) dX11_match_61 rfl (Nat.le_of_eq (rt_cells_0 z)) (Nat.le_of_eq (rt_slots_0 z)) hK
  · rw [if_pos (Classical.not_not.mp q8)] at h
    refine RT.bipush (pc := 11) (n := (-2)) dX11_match_11 ⟨by decide, by decide⟩ rfl ?_
    obtain rfl := Option.some.inj h
    exact RT.iret (pc := 13) dX11_match_13 rfl (Nat.le_of_eq (rt_cells_0 z)) (Nat.le_of_eq (rt_slots_0 z)) hK
theorem cj_X11_gainOf_10 {G : rt_G} {d : Nat} {z : Nat × Nat} {Q : rt_P} (hz : 300 ≤ z.1) (hd : 0 ≤ d) (a1 : Int) (a2 : Int) (s0 : Int) (mem0 : rt_M) (t : Int) (h : j_X11_gainOf_10 a1 a2 s0 mem0 = some t) (hK : Q (some (0, t)) z mem0) : RT G M_X11_gainOf d z Q 10 [(9, 0), (0, a1), (0, a2), (9, 0)] [(0, s0)] z mem0 := by
  unfold j_X11_gainOf_10 at h
  refine RT.iload_n (pc := 10) (k := 1) (x := a1) dX11_gainOf_10 rfl ?_
  refine RT.iload_n (pc := 11) (k := 2) (x := a2) dX11_gainOf_11 rfl ?_
  refine RT.imul (pc := 12) dX11_gainOf_12 ?_
  refine RT.isub (pc := 13) dX11_gainOf_13 ?_
  obtain rfl := Option.some.inj h
  exact RT.iret (pc := 14) dX11_gainOf_14 rfl (Nat.le_of_eq (rt_cells_0 z)) (Nat.le_of_eq (rt_slots_0 z)) hK
theorem c_X11_gainOf {G : rt_G} {d : Nat} {z : Nat × Nat} (hz : 300 ≤ z.1) (hd : 0 ≤ d) (a0 : Int) (a1 : Int) (a2 : Int) (a3 : Int) (mem0 : rt_M) (t : Int) (h : f_X11_gainOf a0 a1 a2 a3 mem0 = some t) : RM G M_X11_gainOf d [(0, a0), (0, a1), (0, a2), (0, a3)] z mem0 (some (0, t)) mem0 := by
  suffices H : ∀ Q : rt_P, Q (some (0, t)) z mem0 → RT G M_X11_gainOf d z Q 0 [(0, a0), (0, a1), (0, a2), (0, a3)] [] z mem0 from H _ ⟨rfl, rfl, rfl⟩
  intro Q hK
  unfold f_X11_gainOf at h
  refine RT.iload_n (pc := 0) (k := 2) (x := a2) dX11_gainOf_0 rfl ?_
  refine RT.iload_n (pc := 1) (k := 3) (x := a3) dX11_gainOf_1 rfl ?_
  refine RT.icmp_le (pc := 2) (tgt := 9) dX11_gainOf_2 rfl (fun q2 => ?_) (fun q2 => ?_)
  · rw [if_pos q2] at h
    refine RT.iconst (pc := 9) (n := 0) dX11_gainOf_9 ⟨by decide, by decide⟩ ?_
    refine RT.wk (L1 := [(9, 0), (0, a1), (0, a2), (9, 0)]) (rt_le_j (rt_le_s (rt_le_s (rt_le_j rt_le_n)))) ?_
    exact cj_X11_gainOf_10 hz hd a1 a2 0 mem0 _ h hK
  · rw [if_neg q2] at h
    refine RT.iload_n (pc := 5) (k := 0) (x := a0) dX11_gainOf_5 rfl ?_
    refine RT.goto (pc := 6) (tgt := 10) dX11_gainOf_6 rfl ?_
    refine RT.wk (L1 := [(9, 0), (0, a1), (0, a2), (9, 0)]) (rt_le_j (rt_le_s (rt_le_s (rt_le_j rt_le_n)))) ?_
    exact cj_X11_gainOf_10 hz hd a1 a2 a0 mem0 _ h hK
theorem cb_X11_isBest_12 {G : rt_G} {d : Nat} {z : Nat × Nat} {Q : rt_P} (hz : 300 ≤ z.1) (hd : 1 ≤ d) (a0 : Int) (a1 : Int) (a3 : Int) (a4 : Int) (mem0 : rt_M) (s : Int) (t : (Int) ⊕ ((Unit) ⊕ (Int))) (h : b_X11_isBest_12 a0 a1 a3 a4 mem0 s = some t) (hK : (∀ s1 : Int, t = .inl s1 → RT G M_X11_isBest d z Q 12 [(0, a0), (0, a1), (9, 0), (0, a3), (0, a4), (0, s1)] [] z mem0) ∧ (∀ x1 : Unit, t = .inr (.inl x1) → RT G M_X11_isBest d z Q 39 [(9, 0), (9, 0), (9, 0), (9, 0), (9, 0), (9, 0)] [] z mem0) ∧ (∀ t1 : Int, t = .inr (.inr t1) → Q (some (0, t1)) z mem0)) : RT G M_X11_isBest d z Q 12 [(0, a0), (0, a1), (9, 0), (0, a3), (0, a4), (0, s)] [] z mem0 := by
  unfold b_X11_isBest_12 at h
  refine RT.iload (pc := 12) (k := 5) (x := s) dX11_isBest_12 rfl ?_
  refine RT.iconst (pc := 14) (n := 5) dX11_isBest_14 ⟨by decide, by decide⟩ ?_
  refine RT.icmp_gt (pc := 15) (tgt := 39) dX11_isBest_15 rfl (fun q15 => ?_) (fun q15 => ?_)
  · rw [if_pos q15] at h
    refine RT.wk (L1 := [(9, 0), (9, 0), (9, 0), (9, 0), (9, 0), (9, 0)]) (rt_le_j (rt_le_j (rt_le_s (rt_le_j (rt_le_j (rt_le_j rt_le_n)))))) ?_
    obtain rfl := Option.some.inj h
    have q1 := hK.2.1 () rfl
    try dsimp only at q1
    exact q1
  · rw [if_neg q15] at h
    refine RT.iload_n (pc := 18) (k := 0) (x := a0) dX11_isBest_18 rfl ?_
    refine RT.iload_n (pc := 19) (k := 1) (x := a1) dX11_isBest_19 rfl ?_
    refine RT.iload (pc := 20) (k := 5) (x := s) dX11_isBest_20 rfl ?_
    refine RT.iload_n (pc := 22) (k := 3) (x := a3) dX11_isBest_22 rfl ?_
    obtain ⟨p23, hp23, h⟩ := Option.bind_eq_some_iff.mp h
    refine RT.cSz (pc := 23) (M' := M_X11_gainOf) (As := [(0, a0), (0, a1), (0, s), (0, a3)]) (st := []) (r := some (0, p23)) (mem1 := mem0) (d' := d - 1) dX11_isBest_23 mw_X11_gainOf ml_X11_320 mi_X11_gainOf rfl rfl (Nat.le_of_ble_eq_true rfl) (Nat.le_of_ble_eq_true rfl) (by omega) rfl rfl (c_X11_gainOf hz (by omega) a0 a1 s a3 mem0 _ hp23) ?_
    refine RT.iload (pc := 26) (k := 4) (x := a4) dX11_isBest_26 rfl ?_
    refine RT.icmp_le (pc := 28) (tgt := 33) dX11_isBest_28 rfl (fun q28 => ?_) (fun q28 => ?_)
    · rw [if_pos q28] at h
      refine RT.iinc (pc := 33) (x := s) (L1 := [(0, a0), (0, a1), (9, 0), (0, a3), (0, a4), (0, (rt_iadd s 1))]) dX11_isBest_33 rfl (Nat.le_of_ble_eq_true rfl) ⟨by decide, by decide⟩ rfl ?_
      refine RT.goto (pc := 36) (tgt := 12) dX11_isBest_36 rfl ?_
      obtain rfl := Option.some.inj h
      have q1 := hK.1 ((rt_iadd s 1)) rfl
      try dsimp only at q1
      exact q1
    · rw [if_neg q28] at h
      obtain ⟨t2, g2, e2⟩ := Option.map_eq_some_iff.mp h
      subst e2
      replace h := g2
      replace hK := hK.2.2 t2 rfl
      refine RT.iconst (pc := 31) (n := 0) dX11_isBest_31 ⟨by decide, by decide⟩ ?_
      obtain rfl := Option.some.inj h
      exact RT.zret (pc := 32) dX11_isBest_32 rfl (by decide) (Nat.le_of_eq (rt_cells_0 z)) (Nat.le_of_eq (rt_slots_0 z)) hK
theorem c_X11_isBest {G : rt_G} {d : Nat} {z : Nat × Nat} (hz : 300 ≤ z.1) (hd : 1 ≤ d) (a0 : Int) (a1 : Int) (a2 : Int) (a3 : Int) (mem0 : rt_M) (t : Int) (h : f_X11_isBest a0 a1 a2 a3 mem0 = some t) : RM G M_X11_isBest d [(0, a0), (0, a1), (0, a2), (0, a3)] z mem0 (some (0, t)) mem0 := by
  suffices H : ∀ Q : rt_P, Q (some (0, t)) z mem0 → RT G M_X11_isBest d z Q 0 [(0, a0), (0, a1), (0, a2), (0, a3), (9, 0), (9, 0)] [] z mem0 from H _ ⟨rfl, rfl, rfl⟩
  intro Q hK
  unfold f_X11_isBest at h
  refine RT.iload_n (pc := 0) (k := 0) (x := a0) dX11_isBest_0 rfl ?_
  refine RT.iload_n (pc := 1) (k := 1) (x := a1) dX11_isBest_1 rfl ?_
  refine RT.iload_n (pc := 2) (k := 2) (x := a2) dX11_isBest_2 rfl ?_
  refine RT.iload_n (pc := 3) (k := 3) (x := a3) dX11_isBest_3 rfl ?_
  obtain ⟨p4, hp4, h⟩ := Option.bind_eq_some_iff.mp h
  refine RT.cSz (pc := 4) (M' := M_X11_gainOf) (As := [(0, a0), (0, a1), (0, a2), (0, a3)]) (st := []) (r := some (0, p4)) (mem1 := mem0) (d' := d - 1) dX11_isBest_4 mw_X11_gainOf ml_X11_320 mi_X11_gainOf rfl rfl (Nat.le_of_ble_eq_true rfl) (Nat.le_of_ble_eq_true rfl) (by omega) rfl rfl (c_X11_gainOf hz (by omega) a0 a1 a2 a3 mem0 _ hp4) ?_
  refine RT.istore (pc := 7) (k := 4) (x := p4) (L1 := [(0, a0), (0, a1), (0, a2), (0, a3), (0, p4), (9, 0)]) dX11_isBest_7 (Nat.le_of_ble_eq_true rfl) rfl ?_
  refine RT.iconst (pc := 9) (n := 0) dX11_isBest_9 ⟨by decide, by decide⟩ ?_
  refine RT.istore (pc := 10) (k := 5) (x := 0) (L1 := [(0, a0), (0, a1), (0, a2), (0, a3), (0, p4), (0, 0)]) dX11_isBest_10 (Nat.le_of_ble_eq_true rfl) rfl ?_
  refine RT.wk (L1 := [(0, a0), (0, a1), (9, 0), (0, a3), (0, p4), (0, 0)]) (rt_le_s (rt_le_s (rt_le_j (rt_le_s (rt_le_s (rt_le_s rt_le_n)))))) ?_
  obtain ⟨E12, hE12, h⟩ := Option.bind_eq_some_iff.mp h
  refine rt_it_ind (P := (fun s1 : Int => RT G M_X11_isBest d z Q 12 [(0, a0), (0, a1), (9, 0), (0, a3), (0, p4), (0, s1)] [] z mem0)) (X := (fun e1 : (Unit) ⊕ (Int) => (∀ x1 : Unit, e1 = .inl x1 → RT G M_X11_isBest d z Q 39 [(9, 0), (9, 0), (9, 0), (9, 0), (9, 0), (9, 0)] [] z mem0) ∧ (∀ t1 : Int, e1 = .inr t1 → Q (some (0, t1)) z mem0))) (fun s1 t1 h1 k1 k2 => cb_X11_isBest_12 hz hd a0 a1 a3 p4 mem0 s1 t1 h1 ⟨k1, fun x1 q => (k2 _ q).1 x1 rfl, fun t2 q => (k2 _ q).2 t2 rfl⟩) 4000 0 E12 hE12 ?_
  cases E12 with
  | inr t1 =>
    obtain rfl := Option.some.inj h
    exact ⟨fun x1 q => (by cases q), fun t2 q => (by cases q; exact hK)⟩
  | inl X12 =>
    refine ⟨fun x1 q => ?_, fun t2 q => (by cases q)⟩
    cases q
    refine RT.iconst (pc := 39) (n := 1) dX11_isBest_39 ⟨by decide, by decide⟩ ?_
    obtain rfl := Option.some.inj h
    exact RT.zret (pc := 40) dX11_isBest_40 rfl (by decide) (Nat.le_of_eq (rt_cells_0 z)) (Nat.le_of_eq (rt_slots_0 z)) hK
theorem cj_X11_isOfHundred_15 {G : rt_G} {d : Nat} {z : Nat × Nat} {Q : rt_P} (hz : 300 ≤ z.1) (hd : 0 ≤ d) (s0 : Int) (mem0 : rt_M) (t : Int) (h : j_X11_isOfHundred_15 s0 mem0 = some t) (hK : Q (some (0, t)) z mem0) : RT G M_X11_isOfHundred d z Q 15 [(9, 0)] [(0, s0)] z mem0 := by
  unfold j_X11_isOfHundred_15 at h
  obtain ⟨w15, hw15, h⟩ := Option.bind_eq_some_iff.mp h
  obtain rfl := Option.some.inj h
  exact RT.zret (pc := 15) dX11_isOfHundred_15 rfl (rt_bz_ok hw15) (Nat.le_of_eq (rt_cells_0 z)) (Nat.le_of_eq (rt_slots_0 z)) hK
theorem cj_X11_isOfHundred_14 {G : rt_G} {d : Nat} {z : Nat × Nat} {Q : rt_P} (hz : 300 ≤ z.1) (hd : 0 ≤ d) (mem0 : rt_M) (t : Int) (h : j_X11_isOfHundred_14 mem0 = some t) (hK : Q (some (0, t)) z mem0) : RT G M_X11_isOfHundred d z Q 14 [(9, 0)] [] z mem0 := by
  unfold j_X11_isOfHundred_14 at h
  refine RT.iconst (pc := 14) (n := 0) dX11_isOfHundred_14 ⟨by decide, by decide⟩ ?_
  exact cj_X11_isOfHundred_15 hz hd 0 mem0 _ h hK
theorem c_X11_isOfHundred {G : rt_G} {d : Nat} {z : Nat × Nat} (hz : 300 ≤ z.1) (hd : 0 ≤ d) (a0 : Int) (mem0 : rt_M) (t : Int) (h : f_X11_isOfHundred a0 mem0 = some t) : RM G M_X11_isOfHundred d [(0, a0)] z mem0 (some (0, t)) mem0 := by
  suffices H : ∀ Q : rt_P, Q (some (0, t)) z mem0 → RT G M_X11_isOfHundred d z Q 0 [(0, a0)] [] z mem0 from H _ ⟨rfl, rfl, rfl⟩
  intro Q hK
  unfold f_X11_isOfHundred at h
  refine RT.iload_n (pc := 0) (k := 0) (x := a0) dX11_isOfHundred_0 rfl ?_
  refine RT.if_lt (pc := 1) (tgt := 14) dX11_isOfHundred_1 rfl (fun q1 => ?_) (fun q1 => ?_)
  · rw [if_pos q1] at h
    refine RT.wk (L1 := [(9, 0)]) (rt_le_j rt_le_n) ?_
    exact cj_X11_isOfHundred_14 hz hd mem0 _ h hK
  · rw [if_neg q1] at h
    refine RT.iload_n (pc := 4) (k := 0) (x := a0) dX11_isOfHundred_4 rfl ?_
    refine RT.bipush (pc := 5) (n := 100) dX11_isOfHundred_5 ⟨by decide, by decide⟩ rfl ?_
    refine RT.icmp_gt (pc := 7) (tgt := 14) dX11_isOfHundred_7 rfl (fun q7 => ?_) (fun q7 => ?_)
    · rw [if_pos q7] at h
      refine RT.wk (L1 := [(9, 0)]) (rt_le_j rt_le_n) ?_
      exact cj_X11_isOfHundred_14 hz hd mem0 _ h hK
    · rw [if_neg q7] at h
      refine RT.iconst (pc := 10) (n := 1) dX11_isOfHundred_10 ⟨by decide, by decide⟩ ?_
      refine RT.goto (pc := 11) (tgt := 15) dX11_isOfHundred_11 rfl ?_
      refine RT.wk (L1 := [(9, 0)]) (rt_le_j rt_le_n) ?_
      exact cj_X11_isOfHundred_15 hz hd 1 mem0 _ h hK
theorem cj_X11_draw_40 {G : rt_G} {d : Nat} {z : Nat × Nat} {Q : rt_P} (hz : 300 ≤ z.1) (hd : 0 ≤ d) {a0 : Int} (ht : rt_kd a0.toNat = 20 + 11) (s0 : Int) (mem0 : rt_M) (t : Int × rt_M) (h : j_X11_draw_40 s0 mem0 = some t) (hK : Q (some (0, t.1)) z t.2) : RT G M_X11_draw d z Q 40 [(9, 0), (9, 0)] [(0, s0)] z mem0 := by
  unfold j_X11_draw_40 at h
  obtain rfl := Option.some.inj h
  exact RT.iret (pc := 40) dX11_draw_40 rfl (Nat.le_of_eq (rt_cells_0 z)) (Nat.le_of_eq (rt_slots_0 z)) hK
theorem c_X11_draw {G : rt_G} {d : Nat} {z : Nat × Nat} (hz : 300 ≤ z.1) (hd : 0 ≤ d) (a0 : Int) (a1 : Int) (mem0 : rt_M) (t : Int × rt_M) (ht : rt_kd a0.toNat = 20 + 11) (h : f_X11_draw a0 a1 mem0 = some t) : RM G M_X11_draw d [(2, a0), (0, a1)] z mem0 (some (0, t.1)) t.2 := by
  suffices H : ∀ Q : rt_P, Q (some (0, t.1)) z t.2 → RT G M_X11_draw d z Q 0 [(2, a0), (0, a1)] [] z mem0 from H _ ⟨rfl, rfl, rfl⟩
  intro Q hK
  unfold f_X11_draw at h
  refine RT.aload_n (pc := 0) (k := 0) (x := a0) dX11_draw_0 rfl ?_
  refine RT.aload_n (pc := 1) (k := 0) (x := a0) dX11_draw_1 rfl ?_
  obtain ⟨v2, hv2, h⟩ := Option.bind_eq_some_iff.mp h
  refine RT.gf 11 13 1 (pc := 2) (x := a0) (v := v2) hz dX11_draw_2 fl_X11_333 rfl hv2 ?_
  refine RT.ldc2 (pc := 5) (v := 1103515245) dX11_draw_5 kl_X11_349 ⟨by decide, by decide⟩ ?_
  refine RT.lmul (pc := 8) dX11_draw_8 ?_
  refine RT.ldc2 (pc := 9) (v := 12345) dX11_draw_9 kl_X11_351 ⟨by decide, by decide⟩ ?_
  refine RT.ladd (pc := 12) dX11_draw_12 ?_
  refine RT.ldc2 (pc := 13) (v := 2147483648) dX11_draw_13 kl_X11_353 ⟨by decide, by decide⟩ ?_
  refine RT.lrem (pc := 16) dX11_draw_16 (by decide) ?_
  obtain ⟨m17, hm17, h⟩ := Option.bind_eq_some_iff.mp h
  refine RT.pf_l 11 13 (pc := 17) (mem1 := m17) hz dX11_draw_17 fl_X11_333 rfl rfl rfl hm17 ?_
  refine RT.iload_n (pc := 20) (k := 1) (x := a1) dX11_draw_20 rfl ?_
  refine RT.if_le (pc := 21) (tgt := 39) dX11_draw_21 rfl (fun q21 => ?_) (fun q21 => ?_)
  · rw [if_pos q21] at h
    refine RT.iconst (pc := 39) (n := 0) dX11_draw_39 ⟨by decide, by decide⟩ ?_
    refine RT.wk (L1 := [(9, 0), (9, 0)]) (rt_le_j (rt_le_j rt_le_n)) ?_
    exact cj_X11_draw_40 hz hd ht 0 m17 _ h hK
  · rw [if_neg q21] at h
    refine RT.aload_n (pc := 24) (k := 0) (x := a0) dX11_draw_24 rfl ?_
    obtain ⟨v25, hv25, h⟩ := Option.bind_eq_some_iff.mp h
    refine RT.gf 11 13 1 (pc := 25) (x := a0) (v := v25) hz dX11_draw_25 fl_X11_333 rfl hv25 ?_
    refine RT.ldc2 (pc := 28) (v := 65536) dX11_draw_28 kl_X11_355 ⟨by decide, by decide⟩ ?_
    refine RT.ldiv (pc := 31) dX11_draw_31 (by decide) ?_
    refine RT.iload_n (pc := 32) (k := 1) (x := a1) dX11_draw_32 rfl ?_
    refine RT.i2l (pc := 33) dX11_draw_33 ?_
    by_cases q34 : a1 = 0
    · rw [if_pos q34] at h; cases h
    rw [if_neg q34] at h
    refine RT.lrem (pc := 34) dX11_draw_34 q34 ?_
    refine RT.l2i (pc := 35) dX11_draw_35 ?_
    refine RT.goto (pc := 36) (tgt := 40) dX11_draw_36 rfl ?_
    refine RT.wk (L1 := [(9, 0), (9, 0)]) (rt_le_j (rt_le_j rt_le_n)) ?_
    exact cj_X11_draw_40 hz hd ht ((rt_l2i (rt_lrem (rt_ldiv v25 65536) a1))) m17 _ h hK
theorem cj_X11_drawPut_69 {G : rt_G} {d : Nat} {z : Nat × Nat} {Q : rt_P} (hz : 300 ≤ z.1) (hd : 5 ≤ d) {a0 : Int} (ht : rt_kd a0.toNat = 20 + 11) (mem0 : rt_M) (t : rt_M) (h : j_X11_drawPut_69 mem0 = some t) (hK : Q none z t) : RT G M_X11_drawPut d z Q 69 [(9, 0), (9, 0), (9, 0)] [] z mem0 := by
  unfold j_X11_drawPut_69 at h
  obtain rfl := Option.some.inj h
  exact RT.vret (pc := 69) dX11_drawPut_69 rfl (Nat.le_of_eq (rt_cells_0 z)) (Nat.le_of_eq (rt_slots_0 z)) hK
theorem c_X11_drawPut {G : rt_G} {d : Nat} {z : Nat × Nat} (hz : 300 ≤ z.1) (hd : 5 ≤ d) (a0 : Int) (mem0 : rt_M) (t : rt_M) (ht : rt_kd a0.toNat = 20 + 11) (h : f_X11_drawPut a0 mem0 = some t) : RM G M_X11_drawPut d [(2, a0)] z mem0 none t := by
  suffices H : ∀ Q : rt_P, Q none z t → RT G M_X11_drawPut d z Q 0 [(2, a0), (9, 0), (9, 0)] [] z mem0 from H _ ⟨rfl, rfl, rfl⟩
  intro Q hK
  unfold f_X11_drawPut at h
  refine RT.aload_n (pc := 0) (k := 0) (x := a0) dX11_drawPut_0 rfl ?_
  obtain ⟨v1, hv1, h⟩ := Option.bind_eq_some_iff.mp h
  refine RT.gf 11 7 2 (pc := 1) (x := a0) (v := v1) hz dX11_drawPut_1 fl_X11_45 rfl hv1 ?_
  obtain ⟨v4, hv4, h⟩ := Option.bind_eq_some_iff.mp h
  refine RT.gf 4 0 0 (pc := 4) (x := v1) (v := v4) hz dX11_drawPut_4 fl_X11_217 rfl hv4 ?_
  refine RT.if_le (pc := 7) (tgt := 69) dX11_drawPut_7 rfl (fun q7 => ?_) (fun q7 => ?_)
  · rw [if_pos q7] at h
    refine RT.wk (L1 := [(9, 0), (9, 0), (9, 0)]) (rt_le_j (rt_le_s (rt_le_s rt_le_n))) ?_
    exact cj_X11_drawPut_69 hz hd ht mem0 _ h hK
  · rw [if_neg q7] at h
    refine RT.aload_n (pc := 10) (k := 0) (x := a0) dX11_drawPut_10 rfl ?_
    obtain ⟨v11, hv11, h⟩ := Option.bind_eq_some_iff.mp h
    refine RT.gf 11 7 2 (pc := 11) (x := a0) (v := v11) hz dX11_drawPut_11 fl_X11_45 rfl hv11 ?_
    obtain ⟨v14, hv14, h⟩ := Option.bind_eq_some_iff.mp h
    refine RT.gf 4 1 0 (pc := 14) (x := v11) (v := v14) hz dX11_drawPut_14 fl_X11_240 rfl hv14 ?_
    refine RT.if_le (pc := 17) (tgt := 69) dX11_drawPut_17 rfl (fun q17 => ?_) (fun q17 => ?_)
    · rw [if_pos q17] at h
      refine RT.wk (L1 := [(9, 0), (9, 0), (9, 0)]) (rt_le_j (rt_le_s (rt_le_s rt_le_n))) ?_
      exact cj_X11_drawPut_69 hz hd ht mem0 _ h hK
    · rw [if_neg q17] at h
      refine RT.aload_n (pc := 20) (k := 0) (x := a0) dX11_drawPut_20 rfl ?_
      refine RT.aload_n (pc := 21) (k := 0) (x := a0) dX11_drawPut_21 rfl ?_
      obtain ⟨v22, hv22, h⟩ := Option.bind_eq_some_iff.mp h
      refine RT.gf 11 7 2 (pc := 22) (x := a0) (v := v22) hz dX11_drawPut_22 fl_X11_45 rfl hv22 ?_
      obtain ⟨v25, hv25, h⟩ := Option.bind_eq_some_iff.mp h
      refine RT.gf 4 0 0 (pc := 25) (x := v22) (v := v25) hz dX11_drawPut_25 fl_X11_217 rfl hv25 ?_
      obtain ⟨p28, hp28, h⟩ := Option.bind_eq_some_iff.mp h
      refine RT.cVz (pc := 28) (M' := M_X11_draw) (ci := 11) (x := a0) (As := [(0, v25)]) (st := []) (r := some (0, p28.1)) (mem1 := p28.2) (d' := d - 1) hz dX11_drawPut_28 mw_X11_draw ml_X11_346 mi_X11_draw ht rfl rfl (Nat.le_of_ble_eq_true rfl) (Nat.le_of_ble_eq_true rfl) (by omega) rfl rfl (c_X11_draw hz (by omega) a0 v25 mem0 _ ht hp28) ?_
      refine RT.istore_n (pc := 31) (k := 1) (x := p28.1) (L1 := [(2, a0), (0, p28.1), (9, 0)]) dX11_drawPut_31 (Nat.le_of_ble_eq_true rfl) rfl ?_
      refine RT.aload_n (pc := 32) (k := 0) (x := a0) dX11_drawPut_32 rfl ?_
      refine RT.aload_n (pc := 33) (k := 0) (x := a0) dX11_drawPut_33 rfl ?_
      obtain ⟨v34, hv34, h⟩ := Option.bind_eq_some_iff.mp h
      refine RT.gf 11 7 2 (pc := 34) (x := a0) (v := v34) hz dX11_drawPut_34 fl_X11_45 rfl hv34 ?_
      obtain ⟨v37, hv37, h⟩ := Option.bind_eq_some_iff.mp h
      refine RT.gf 4 1 0 (pc := 37) (x := v34) (v := v37) hz dX11_drawPut_37 fl_X11_240 rfl hv37 ?_
      obtain ⟨p40, hp40, h⟩ := Option.bind_eq_some_iff.mp h
      refine RT.cVz (pc := 40) (M' := M_X11_draw) (ci := 11) (x := a0) (As := [(0, v37)]) (st := []) (r := some (0, p40.1)) (mem1 := p40.2) (d' := d - 1) hz dX11_drawPut_40 mw_X11_draw ml_X11_346 mi_X11_draw ht rfl rfl (Nat.le_of_ble_eq_true rfl) (Nat.le_of_ble_eq_true rfl) (by omega) rfl rfl (c_X11_draw hz (by omega) a0 v37 p28.2 _ ht hp40) ?_
      refine RT.istore_n (pc := 43) (k := 2) (x := p40.1) (L1 := [(2, a0), (0, p28.1), (0, p40.1)]) dX11_drawPut_43 (Nat.le_of_ble_eq_true rfl) rfl ?_
      refine RT.aload_n (pc := 44) (k := 0) (x := a0) dX11_drawPut_44 rfl ?_
      obtain ⟨v45, hv45, h⟩ := Option.bind_eq_some_iff.mp h
      refine RT.gf 11 10 2 (pc := 45) (x := a0) (v := v45) hz dX11_drawPut_45 fl_X11_60 rfl hv45 ?_
      refine RT.aload_n (pc := 48) (k := 0) (x := a0) dX11_drawPut_48 rfl ?_
      obtain ⟨v49, hv49, h⟩ := Option.bind_eq_some_iff.mp h
      refine RT.gf 11 7 2 (pc := 49) (x := a0) (v := v49) hz dX11_drawPut_49 fl_X11_45 rfl hv49 ?_
      refine RT.iload_n (pc := 52) (k := 1) (x := p28.1) dX11_drawPut_52 rfl ?_
      refine RT.iload_n (pc := 53) (k := 2) (x := p40.1) dX11_drawPut_53 rfl ?_
      obtain ⟨p54, hp54, h⟩ := Option.bind_eq_some_iff.mp h
      obtain ⟨hk54, hp54⟩ := rt_gd_some hp54
      refine RT.cVz (pc := 54) (M' := M_X7_canPut) (ci := 7) (x := v45) (As := [(2, v49), (0, p28.1), (0, p40.1)]) (st := []) (r := some (0, p54.1)) (mem1 := p54.2) (d' := d - 1) hz dX11_drawPut_54 mw_X7_canPut ml_X11_155 mi_X7_canPut hk54 rfl rfl (Nat.le_of_ble_eq_true rfl) (Nat.le_of_ble_eq_true rfl) (by omega) rfl rfl (c_X7_canPut hz (by omega) v45 v49 p28.1 p40.1 p40.2 _ hk54 hp54) ?_
      refine RT.if_eq (pc := 57) (tgt := 69) dX11_drawPut_57 rfl (fun q57 => ?_) (fun q57 => ?_)
      · rw [if_pos q57] at h
        refine RT.wk (L1 := [(9, 0), (9, 0), (9, 0)]) (rt_le_j (rt_le_j (rt_le_j rt_le_n))) ?_
        exact cj_X11_drawPut_69 hz hd ht p54.2 _ h hK
      · rw [if_neg q57] at h
        refine RT.aload_n (pc := 60) (k := 0) (x := a0) dX11_drawPut_60 rfl ?_
        obtain ⟨v61, hv61, h⟩ := Option.bind_eq_some_iff.mp h
        refine RT.gf 11 10 2 (pc := 61) (x := a0) (v := v61) hz dX11_drawPut_61 fl_X11_60 rfl hv61 ?_
        refine RT.iload_n (pc := 64) (k := 1) (x := p28.1) dX11_drawPut_64 rfl ?_
        refine RT.iload_n (pc := 65) (k := 2) (x := p40.1) dX11_drawPut_65 rfl ?_
        obtain ⟨p66, hp66, h⟩ := Option.bind_eq_some_iff.mp h
        obtain ⟨hk66, hp66⟩ := rt_gd_some hp66
        refine RT.cVz (pc := 66) (M' := M_X7_place) (ci := 7) (x := v61) (As := [(0, p28.1), (0, p40.1)]) (st := []) (r := none) (mem1 := p66) (d' := d - 1) hz dX11_drawPut_66 mw_X7_place ml_X11_162 mi_X7_place hk66 rfl rfl (Nat.le_of_ble_eq_true rfl) (Nat.le_of_ble_eq_true rfl) (by omega) rfl rfl (c_X7_place hz (by omega) v61 p28.1 p40.1 p54.2 _ hk66 hp66) ?_
        refine RT.wk (L1 := [(9, 0), (9, 0), (9, 0)]) (rt_le_j (rt_le_j (rt_le_j rt_le_n))) ?_
        exact cj_X11_drawPut_69 hz hd ht p66 _ h hK
theorem cb_X11_drawFever_11 {G : rt_G} {d : Nat} {z : Nat × Nat} {Q : rt_P} (hz : 300 ≤ z.1) (hd : 1 ≤ d) {a0 : Int} (ht : rt_kd a0.toNat = 20 + 11) (s : Int × rt_M) (t : (Int × rt_M) ⊕ ((rt_M) ⊕ (rt_M))) (h : b_X11_drawFever_11 a0 s = some t) (hK : (∀ s1 : Int × rt_M, t = .inl s1 → RT G M_X11_drawFever d z Q 11 [(2, a0), (0, s1.1), (9, 0)] [] z s1.2) ∧ (∀ x1 : rt_M, t = .inr (.inl x1) → RT G M_X11_drawFever d z Q 52 [(9, 0), (9, 0), (9, 0)] [] z x1) ∧ (∀ t1 : rt_M, t = .inr (.inr t1) → Q none z t1)) : RT G M_X11_drawFever d z Q 11 [(2, a0), (0, s.1), (9, 0)] [] z s.2 := by
  unfold b_X11_drawFever_11 at h
  refine RT.iload_n (pc := 11) (k := 1) (x := s.1) dX11_drawFever_11 rfl ?_
  refine RT.aload_n (pc := 12) (k := 0) (x := a0) dX11_drawFever_12 rfl ?_
  obtain ⟨v13, hv13, h⟩ := Option.bind_eq_some_iff.mp h
  refine RT.gf 11 7 2 (pc := 13) (x := a0) (v := v13) hz dX11_drawFever_13 fl_X11_45 rfl hv13 ?_
  obtain ⟨v16, hv16, h⟩ := Option.bind_eq_some_iff.mp h
  refine RT.gf 4 1 0 (pc := 16) (x := v13) (v := v16) hz dX11_drawFever_16 fl_X11_240 rfl hv16 ?_
  refine RT.icmp_ge (pc := 19) (tgt := 52) dX11_drawFever_19 rfl (fun q19 => ?_) (fun q19 => ?_)
  · rw [if_pos q19] at h
    refine RT.wk (L1 := [(9, 0), (9, 0), (9, 0)]) (rt_le_j (rt_le_j (rt_le_s rt_le_n))) ?_
    obtain rfl := Option.some.inj h
    have q1 := hK.2.1 s.2 rfl
    try dsimp only at q1
    exact q1
  · rw [if_neg q19] at h
    refine RT.aload_n (pc := 22) (k := 0) (x := a0) dX11_drawFever_22 rfl ?_
    obtain ⟨v23, hv23, h⟩ := Option.bind_eq_some_iff.mp h
    refine RT.gf 11 10 2 (pc := 23) (x := a0) (v := v23) hz dX11_drawFever_23 fl_X11_60 rfl hv23 ?_
    refine RT.iload_n (pc := 26) (k := 1) (x := s.1) dX11_drawFever_26 rfl ?_
    obtain ⟨p27, hp27, h⟩ := Option.bind_eq_some_iff.mp h
    obtain ⟨hk27, hp27⟩ := rt_gd_some hp27
    refine RT.cVz (pc := 27) (M' := M_X7_wigUpon) (ci := 7) (x := v23) (As := [(0, s.1)]) (st := []) (r := some (0, p27)) (mem1 := s.2) (d' := d - 1) hz dX11_drawFever_27 mw_X7_wigUpon ml_X11_148 mi_X7_wigUpon hk27 rfl rfl (Nat.le_of_ble_eq_true rfl) (Nat.le_of_ble_eq_true rfl) (by omega) rfl rfl (c_X7_wigUpon hz (by omega) v23 s.1 s.2 _ hk27 hp27) ?_
    refine RT.istore_n (pc := 30) (k := 2) (x := p27) (L1 := [(2, a0), (0, s.1), (0, p27)]) dX11_drawFever_30 (Nat.le_of_ble_eq_true rfl) rfl ?_
    refine RT.iload_n (pc := 31) (k := 2) (x := p27) dX11_drawFever_31 rfl ?_
    refine RT.iconst (pc := 32) (n := (-1)) dX11_drawFever_32 ⟨by decide, by decide⟩ ?_
    refine RT.icmp_eq (pc := 33) (tgt := 46) dX11_drawFever_33 rfl (fun q33 => ?_) (fun q33 => ?_)
    · rw [if_pos q33] at h
      refine RT.iinc (pc := 46) (x := s.1) (L1 := [(2, a0), (0, (rt_iadd s.1 1)), (0, p27)]) dX11_drawFever_46 rfl (Nat.le_of_ble_eq_true rfl) ⟨by decide, by decide⟩ rfl ?_
      refine RT.goto (pc := 49) (tgt := 11) dX11_drawFever_49 rfl ?_
      refine RT.wk (L1 := [(2, a0), (0, (rt_iadd s.1 1)), (9, 0)]) (rt_le_s (rt_le_s (rt_le_j rt_le_n))) ?_
      obtain rfl := Option.some.inj h
      have q1 := hK.1 (((rt_iadd s.1 1), s.2)) rfl
      try dsimp only at q1
      exact q1
    · rw [if_neg q33] at h
      obtain ⟨t2, g2, e2⟩ := Option.map_eq_some_iff.mp h
      subst e2
      replace h := g2
      replace hK := hK.2.2 t2 rfl
      refine RT.aload_n (pc := 36) (k := 0) (x := a0) dX11_drawFever_36 rfl ?_
      obtain ⟨v37, hv37, h⟩ := Option.bind_eq_some_iff.mp h
      refine RT.gf 11 10 2 (pc := 37) (x := a0) (v := v37) hz dX11_drawFever_37 fl_X11_60 rfl hv37 ?_
      refine RT.iload_n (pc := 40) (k := 2) (x := p27) dX11_drawFever_40 rfl ?_
      refine RT.iconst (pc := 41) (n := (-1)) dX11_drawFever_41 ⟨by decide, by decide⟩ ?_
      obtain ⟨p42, hp42, h⟩ := Option.bind_eq_some_iff.mp h
      obtain ⟨hk42, hp42⟩ := rt_gd_some hp42
      refine RT.cVz (pc := 42) (M' := M_X7_place) (ci := 7) (x := v37) (As := [(0, p27), (0, (-1))]) (st := []) (r := none) (mem1 := p42) (d' := d - 1) hz dX11_drawFever_42 mw_X7_place ml_X11_162 mi_X7_place hk42 rfl rfl (Nat.le_of_ble_eq_true rfl) (Nat.le_of_ble_eq_true rfl) (by omega) rfl rfl (c_X7_place hz (by omega) v37 p27 ((-1)) s.2 _ hk42 hp42) ?_
      obtain rfl := Option.some.inj h
      exact RT.vret (pc := 45) dX11_drawFever_45 rfl (Nat.le_of_eq (rt_cells_0 z)) (Nat.le_of_eq (rt_slots_0 z)) hK
theorem c_X11_drawFever {G : rt_G} {d : Nat} {z : Nat × Nat} (hz : 300 ≤ z.1) (hd : 1 ≤ d) (a0 : Int) (mem0 : rt_M) (t : rt_M) (ht : rt_kd a0.toNat = 20 + 11) (h : f_X11_drawFever a0 mem0 = some t) : RM G M_X11_drawFever d [(2, a0)] z mem0 none t := by
  suffices H : ∀ Q : rt_P, Q none z t → RT G M_X11_drawFever d z Q 0 [(2, a0), (9, 0), (9, 0)] [] z mem0 from H _ ⟨rfl, rfl, rfl⟩
  intro Q hK
  unfold f_X11_drawFever at h
  refine RT.aload_n (pc := 0) (k := 0) (x := a0) dX11_drawFever_0 rfl ?_
  refine RT.iconst (pc := 1) (n := 5) dX11_drawFever_1 ⟨by decide, by decide⟩ ?_
  obtain ⟨p2, hp2, h⟩ := Option.bind_eq_some_iff.mp h
  refine RT.cVz (pc := 2) (M' := M_X11_draw) (ci := 11) (x := a0) (As := [(0, 5)]) (st := []) (r := some (0, p2.1)) (mem1 := p2.2) (d' := d - 1) hz dX11_drawFever_2 mw_X11_draw ml_X11_346 mi_X11_draw ht rfl rfl (Nat.le_of_ble_eq_true rfl) (Nat.le_of_ble_eq_true rfl) (by omega) rfl rfl (c_X11_draw hz (by omega) a0 5 mem0 _ ht hp2) ?_
  refine RT.if_eq (pc := 5) (tgt := 9) dX11_drawFever_5 rfl (fun q5 => ?_) (fun q5 => ?_)
  · rw [if_pos q5] at h
    refine RT.iconst (pc := 9) (n := 0) dX11_drawFever_9 ⟨by decide, by decide⟩ ?_
    refine RT.istore_n (pc := 10) (k := 1) (x := 0) (L1 := [(2, a0), (0, 0), (9, 0)]) dX11_drawFever_10 (Nat.le_of_ble_eq_true rfl) rfl ?_
    obtain ⟨E11, hE11, h⟩ := Option.bind_eq_some_iff.mp h
    refine rt_it_ind (P := (fun s1 : Int × rt_M => RT G M_X11_drawFever d z Q 11 [(2, a0), (0, s1.1), (9, 0)] [] z s1.2)) (X := (fun e1 : (rt_M) ⊕ (rt_M) => (∀ x1 : rt_M, e1 = .inl x1 → RT G M_X11_drawFever d z Q 52 [(9, 0), (9, 0), (9, 0)] [] z x1) ∧ (∀ t1 : rt_M, e1 = .inr t1 → Q none z t1))) (fun s1 t1 h1 k1 k2 => cb_X11_drawFever_11 hz hd ht s1 t1 h1 ⟨k1, fun x1 q => (k2 _ q).1 x1 rfl, fun t2 q => (k2 _ q).2 t2 rfl⟩) 4000 ((0, p2.2)) E11 hE11 ?_
    cases E11 with
    | inr t1 =>
      obtain rfl := Option.some.inj h
      exact ⟨fun x1 q => (by cases q), fun t2 q => (by cases q; exact hK)⟩
    | inl X11 =>
      refine ⟨fun x1 q => ?_, fun t2 q => (by cases q)⟩
      cases q
      obtain rfl := Option.some.inj h
      exact RT.vret (pc := 52) dX11_drawFever_52 rfl (Nat.le_of_eq (rt_cells_0 z)) (Nat.le_of_eq (rt_slots_0 z)) hK
  · rw [if_neg q5] at h
    obtain rfl := Option.some.inj h
    exact RT.vret (pc := 8) dX11_drawFever_8 rfl (Nat.le_of_eq (rt_cells_0 z)) (Nat.le_of_eq (rt_slots_0 z)) hK
