theorem cj_X11_centuries_31 {G : rt_G} {d : Nat} {z : Nat × Nat} {Q : rt_P} (hz : 300 ≤ z.1) (hd : 6 ≤ d) {a0 : Int} (ht : rt_kd a0.toNat = 20 + 11) (mem0 : rt_M) (t : Int × rt_M) (h : j_X11_centuries_31 mem0 = some t) (hK : Q (some (0, t.1)) z t.2) : RT G M_X11_centuries d z Q 31 [(9, 0), (9, 0), (9, 0), (9, 0), (9, 0), (9, 0), (9, 0)] [] z mem0 := by
  unfold j_X11_centuries_31 at h
  refine RT.iconst (pc := 31) (n := (-1)) dX11_centuries_31 ⟨by decide, by decide⟩ ?_
  obtain rfl := Option.some.inj h
  exact RT.iret (pc := 32) dX11_centuries_32 rfl (Nat.le_of_eq (rt_cells_0 z)) (Nat.le_of_eq (rt_slots_0 z)) hK
theorem cb_X11_centuries_62 {G : rt_G} {d : Nat} {z : Nat × Nat} {Q : rt_P} (hz : 300 ≤ z.1) (hd : 6 ≤ d) {a0 : Int} (ht : rt_kd a0.toNat = 20 + 11) (a2 : Int) (a3 : Int) (s : Int × Int × Int × rt_M) (t : (Int × Int × Int × rt_M) ⊕ (Int × Int × rt_M)) (h : b_X11_centuries_62 a0 a2 a3 s = some t) (hK : (∀ s1 : Int × Int × Int × rt_M, t = .inl s1 → RT G M_X11_centuries d z Q 62 [(2, a0), (9, 0), (0, a2), (0, a3), (0, s1.1), (0, s1.2.1), (0, s1.2.2.1)] [] z s1.2.2.2) ∧ (∀ x1 : Int × Int × rt_M, t = .inr x1 → RT G M_X11_centuries d z Q 121 [(2, a0), (9, 0), (9, 0), (0, a3), (0, x1.1), (0, x1.2.1), (9, 0)] [] z x1.2.2)) : RT G M_X11_centuries d z Q 62 [(2, a0), (9, 0), (0, a2), (0, a3), (0, s.1), (0, s.2.1), (0, s.2.2.1)] [] z s.2.2.2 := by
  unfold b_X11_centuries_62 at h
  refine RT.iload (pc := 62) (k := 6) (x := s.2.2.1) dX11_centuries_62 rfl ?_
  refine RT.iload_n (pc := 64) (k := 2) (x := a2) dX11_centuries_64 rfl ?_
  refine RT.icmp_ge (pc := 65) (tgt := 121) dX11_centuries_65 rfl (fun q65 => ?_) (fun q65 => ?_)
  · rw [if_pos q65] at h
    refine RT.wk (L1 := [(2, a0), (9, 0), (9, 0), (0, a3), (0, s.1), (0, s.2.1), (9, 0)]) (rt_le_s (rt_le_s (rt_le_j (rt_le_s (rt_le_s (rt_le_s (rt_le_j rt_le_n))))))) ?_
    obtain rfl := Option.some.inj h
    have q1 := hK.2 ((s.1, s.2.1, s.2.2.2)) rfl
    try dsimp only at q1
    exact q1
  · rw [if_neg q65] at h
    refine RT.aload_n (pc := 68) (k := 0) (x := a0) dX11_centuries_68 rfl ?_
    obtain ⟨p69, hp69, h⟩ := Option.bind_eq_some_iff.mp h
    refine RT.cVz (pc := 69) (M' := M_X11_drawPut) (ci := 11) (x := a0) (As := []) (st := []) (r := none) (mem1 := p69) (d' := d - 1) hz dX11_centuries_69 mw_X11_drawPut ml_X11_337 mi_X11_drawPut ht rfl rfl (Nat.le_of_ble_eq_true rfl) (Nat.le_of_ble_eq_true rfl) (by omega) rfl rfl (c_X11_drawPut hz (by omega) a0 s.2.2.2 _ ht hp69) ?_
    refine RT.aload_n (pc := 72) (k := 0) (x := a0) dX11_centuries_72 rfl ?_
    obtain ⟨p73, hp73, h⟩ := Option.bind_eq_some_iff.mp h
    refine RT.cVz (pc := 73) (M' := M_X11_drawFever) (ci := 11) (x := a0) (As := []) (st := []) (r := none) (mem1 := p73) (d' := d - 1) hz dX11_centuries_73 mw_X11_drawFever ml_X11_340 mi_X11_drawFever ht rfl rfl (Nat.le_of_ble_eq_true rfl) (Nat.le_of_ble_eq_true rfl) (by omega) rfl rfl (c_X11_drawFever hz (by omega) a0 p69 _ ht hp73) ?_
    refine RT.iload (pc := 76) (k := 5) (x := s.2.1) dX11_centuries_76 rfl ?_
    refine RT.aload_n (pc := 78) (k := 0) (x := a0) dX11_centuries_78 rfl ?_
    obtain ⟨v79, hv79, h⟩ := Option.bind_eq_some_iff.mp h
    refine RT.gf 11 10 2 (pc := 79) (x := a0) (v := v79) hz dX11_centuries_79 fl_X11_60 rfl hv79 ?_
    refine RT.aload_n (pc := 82) (k := 0) (x := a0) dX11_centuries_82 rfl ?_
    obtain ⟨v83, hv83, h⟩ := Option.bind_eq_some_iff.mp h
    refine RT.gf 11 7 2 (pc := 83) (x := a0) (v := v83) hz dX11_centuries_83 fl_X11_45 rfl hv83 ?_
    obtain ⟨p86, hp86, h⟩ := Option.bind_eq_some_iff.mp h
    obtain ⟨hk86, hp86⟩ := rt_gd_some hp86
    refine RT.cVz (pc := 86) (M' := M_X7_pass) (ci := 7) (x := v79) (As := [(2, v83)]) (st := [(0, s.2.1)]) (r := some (0, p86.1)) (mem1 := p86.2) (d' := d - 1) hz dX11_centuries_86 mw_X7_pass ml_X11_180 mi_X7_pass hk86 rfl rfl (Nat.le_of_ble_eq_true rfl) (Nat.le_of_ble_eq_true rfl) (by omega) rfl rfl (c_X7_pass hz (by omega) v79 v83 p73 _ hk86 hp86) ?_
    refine RT.iadd (pc := 89) dX11_centuries_89 ?_
    refine RT.istore (pc := 90) (k := 5) (x := (rt_iadd s.2.1 p86.1)) (L1 := [(2, a0), (9, 0), (0, a2), (0, a3), (0, s.1), (0, (rt_iadd s.2.1 p86.1)), (0, s.2.2.1)]) dX11_centuries_90 (Nat.le_of_ble_eq_true rfl) rfl ?_
    refine RT.iload (pc := 92) (k := 4) (x := s.1) dX11_centuries_92 rfl ?_
    refine RT.aload_n (pc := 94) (k := 0) (x := a0) dX11_centuries_94 rfl ?_
    obtain ⟨v95, hv95, h⟩ := Option.bind_eq_some_iff.mp h
    refine RT.gf 11 7 2 (pc := 95) (x := a0) (v := v95) hz dX11_centuries_95 fl_X11_45 rfl hv95 ?_
    refine RT.aload_n (pc := 98) (k := 0) (x := a0) dX11_centuries_98 rfl ?_
    obtain ⟨v99, hv99, h⟩ := Option.bind_eq_some_iff.mp h
    refine RT.gf 11 10 2 (pc := 99) (x := a0) (v := v99) hz dX11_centuries_99 fl_X11_60 rfl hv99 ?_
    refine RT.aload_n (pc := 102) (k := 0) (x := a0) dX11_centuries_102 rfl ?_
    obtain ⟨v103, hv103, h⟩ := Option.bind_eq_some_iff.mp h
    refine RT.gf 11 7 2 (pc := 103) (x := a0) (v := v103) hz dX11_centuries_103 fl_X11_45 rfl hv103 ?_
    obtain ⟨p106, hp106, h⟩ := Option.bind_eq_some_iff.mp h
    obtain ⟨hk106, hp106⟩ := rt_gd_some hp106
    refine RT.cVz (pc := 106) (M' := M_X7_worn) (ci := 7) (x := v99) (As := [(2, v103)]) (st := [(2, v95), (0, s.1)]) (r := some (0, p106)) (mem1 := p86.2) (d' := d - 1) hz dX11_centuries_106 mw_X7_worn ml_X11_205 mi_X7_worn hk106 rfl rfl (Nat.le_of_ble_eq_true rfl) (Nat.le_of_ble_eq_true rfl) (by omega) rfl rfl (c_X7_worn hz (by omega) v99 v103 p86.2 _ hk106 hp106) ?_
    obtain ⟨p109, hp109, h⟩ := Option.bind_eq_some_iff.mp h
    obtain ⟨hk109, hp109⟩ := rt_gd_some hp109
    refine RT.cVz (pc := 109) (M' := M_X4_officeOfAll) (ci := 4) (x := v95) (As := [(0, p106)]) (st := [(0, s.1)]) (r := some (0, p109)) (mem1 := p86.2) (d' := d - 1) hz dX11_centuries_109 mw_X4_officeOfAll ml_X11_208 mi_X4_officeOfAll hk109 rfl rfl (Nat.le_of_ble_eq_true rfl) (Nat.le_of_ble_eq_true rfl) (by omega) rfl rfl (c_X4_officeOfAll hz (by omega) v95 p106 p86.2 _ hk109 hp109) ?_
    refine RT.iadd (pc := 112) dX11_centuries_112 ?_
    refine RT.istore (pc := 113) (k := 4) (x := (rt_iadd s.1 p109)) (L1 := [(2, a0), (9, 0), (0, a2), (0, a3), (0, (rt_iadd s.1 p109)), (0, (rt_iadd s.2.1 p86.1)), (0, s.2.2.1)]) dX11_centuries_113 (Nat.le_of_ble_eq_true rfl) rfl ?_
    refine RT.iinc (pc := 115) (x := s.2.2.1) (L1 := [(2, a0), (9, 0), (0, a2), (0, a3), (0, (rt_iadd s.1 p109)), (0, (rt_iadd s.2.1 p86.1)), (0, (rt_iadd s.2.2.1 1))]) dX11_centuries_115 rfl (Nat.le_of_ble_eq_true rfl) ⟨by decide, by decide⟩ rfl ?_
    refine RT.goto (pc := 118) (tgt := 62) dX11_centuries_118 rfl ?_
    obtain rfl := Option.some.inj h
    have q1 := hK.1 (((rt_iadd s.1 p109), (rt_iadd s.2.1 p86.1), (rt_iadd s.2.2.1 1), p86.2)) rfl
    try dsimp only at q1
    exact q1
theorem cj_X11_centuries_151 {G : rt_G} {d : Nat} {z : Nat × Nat} {Q : rt_P} (hz : 300 ≤ z.1) (hd : 6 ≤ d) {a0 : Int} (ht : rt_kd a0.toNat = 20 + 11) (s0 : Int) (mem0 : rt_M) (t : Int × rt_M) (h : j_X11_centuries_151 s0 mem0 = some t) (hK : Q (some (0, t.1)) z t.2) : RT G M_X11_centuries d z Q 151 [(9, 0), (9, 0), (9, 0), (9, 0), (9, 0), (9, 0), (9, 0)] [(0, s0)] z mem0 := by
  unfold j_X11_centuries_151 at h
  obtain rfl := Option.some.inj h
  exact RT.iret (pc := 151) dX11_centuries_151 rfl (Nat.le_of_eq (rt_cells_0 z)) (Nat.le_of_eq (rt_slots_0 z)) hK
theorem c_X11_centuries {G : rt_G} {d : Nat} {z : Nat × Nat} (hz : 300 ≤ z.1) (hd : 6 ≤ d) (a0 : Int) (a1 : Int) (a2 : Int) (a3 : Int) (mem0 : rt_M) (t : Int × rt_M) (ht : rt_kd a0.toNat = 20 + 11) (h : f_X11_centuries a0 a1 a2 a3 mem0 = some t) : RM G M_X11_centuries d [(2, a0), (0, a1), (0, a2), (0, a3)] z mem0 (some (0, t.1)) t.2 := by
  suffices H : ∀ Q : rt_P, Q (some (0, t.1)) z t.2 → RT G M_X11_centuries d z Q 0 [(2, a0), (0, a1), (0, a2), (0, a3), (9, 0), (9, 0), (9, 0)] [] z mem0 from H _ ⟨rfl, rfl, rfl⟩
  intro Q hK
  unfold f_X11_centuries at h
  refine RT.iload_n (pc := 0) (k := 1) (x := a1) dX11_centuries_0 rfl ?_
  refine RT.if_lt (pc := 1) (tgt := 31) dX11_centuries_1 rfl (fun q1 => ?_) (fun q1 => ?_)
  · rw [if_pos q1] at h
    refine RT.wk (L1 := [(9, 0), (9, 0), (9, 0), (9, 0), (9, 0), (9, 0), (9, 0)]) (rt_le_j (rt_le_j (rt_le_j (rt_le_j (rt_le_s (rt_le_s (rt_le_s rt_le_n))))))) ?_
    exact cj_X11_centuries_31 hz hd ht mem0 _ h hK
  · rw [if_neg q1] at h
    refine RT.iload_n (pc := 4) (k := 1) (x := a1) dX11_centuries_4 rfl ?_
    refine RT.sipush (pc := 5) (n := 9999) dX11_centuries_5 ⟨by decide, by decide⟩ rfl ?_
    refine RT.icmp_gt (pc := 8) (tgt := 31) dX11_centuries_8 rfl (fun q8 => ?_) (fun q8 => ?_)
    · rw [if_pos q8] at h
      refine RT.wk (L1 := [(9, 0), (9, 0), (9, 0), (9, 0), (9, 0), (9, 0), (9, 0)]) (rt_le_j (rt_le_j (rt_le_j (rt_le_j (rt_le_s (rt_le_s (rt_le_s rt_le_n))))))) ?_
      exact cj_X11_centuries_31 hz hd ht mem0 _ h hK
    · rw [if_neg q8] at h
      refine RT.iload_n (pc := 11) (k := 2) (x := a2) dX11_centuries_11 rfl ?_
      refine RT.iconst (pc := 12) (n := 1) dX11_centuries_12 ⟨by decide, by decide⟩ ?_
      refine RT.icmp_lt (pc := 13) (tgt := 31) dX11_centuries_13 rfl (fun q13 => ?_) (fun q13 => ?_)
      · rw [if_pos q13] at h
        refine RT.wk (L1 := [(9, 0), (9, 0), (9, 0), (9, 0), (9, 0), (9, 0), (9, 0)]) (rt_le_j (rt_le_j (rt_le_j (rt_le_j (rt_le_s (rt_le_s (rt_le_s rt_le_n))))))) ?_
        exact cj_X11_centuries_31 hz hd ht mem0 _ h hK
      · rw [if_neg q13] at h
        refine RT.iload_n (pc := 16) (k := 2) (x := a2) dX11_centuries_16 rfl ?_
        refine RT.bipush (pc := 17) (n := 99) dX11_centuries_17 ⟨by decide, by decide⟩ rfl ?_
        refine RT.icmp_gt (pc := 19) (tgt := 31) dX11_centuries_19 rfl (fun q19 => ?_) (fun q19 => ?_)
        · rw [if_pos q19] at h
          refine RT.wk (L1 := [(9, 0), (9, 0), (9, 0), (9, 0), (9, 0), (9, 0), (9, 0)]) (rt_le_j (rt_le_j (rt_le_j (rt_le_j (rt_le_s (rt_le_s (rt_le_s rt_le_n))))))) ?_
          exact cj_X11_centuries_31 hz hd ht mem0 _ h hK
        · rw [if_neg q19] at h
          refine RT.iload_n (pc := 22) (k := 3) (x := a3) dX11_centuries_22 rfl ?_
          refine RT.if_lt (pc := 23) (tgt := 31) dX11_centuries_23 rfl (fun q23 => ?_) (fun q23 => ?_)
          · rw [if_pos q23] at h
            refine RT.wk (L1 := [(9, 0), (9, 0), (9, 0), (9, 0), (9, 0), (9, 0), (9, 0)]) (rt_le_j (rt_le_j (rt_le_j (rt_le_j (rt_le_s (rt_le_s (rt_le_s rt_le_n))))))) ?_
            exact cj_X11_centuries_31 hz hd ht mem0 _ h hK
          · rw [if_neg q23] at h
            refine RT.iload_n (pc := 26) (k := 3) (x := a3) dX11_centuries_26 rfl ?_
            refine RT.iconst (pc := 27) (n := 2) dX11_centuries_27 ⟨by decide, by decide⟩ ?_
            refine RT.icmp_le (pc := 28) (tgt := 33) dX11_centuries_28 rfl (fun q28 => ?_) (fun q28 => ?_)
            · rw [if_pos q28] at h
              refine RT.aload_n (pc := 33) (k := 0) (x := a0) dX11_centuries_33 rfl ?_
              obtain ⟨v34, hv34, h⟩ := Option.bind_eq_some_iff.mp h
              refine RT.gf 11 10 2 (pc := 34) (x := a0) (v := v34) hz dX11_centuries_34 fl_X11_60 rfl hv34 ?_
              refine RT.aload_n (pc := 37) (k := 0) (x := a0) dX11_centuries_37 rfl ?_
              obtain ⟨v38, hv38, h⟩ := Option.bind_eq_some_iff.mp h
              refine RT.gf 11 2 2 (pc := 38) (x := a0) (v := v38) hz dX11_centuries_38 fl_X11_28 rfl hv38 ?_
              obtain ⟨v41, hv41, h⟩ := Option.bind_eq_some_iff.mp h
              refine RT.gf 0 0 2 (pc := 41) (x := v38) (v := v41) hz dX11_centuries_41 fl_X11_126 rfl hv41 ?_
              obtain ⟨p44, hp44, h⟩ := Option.bind_eq_some_iff.mp h
              obtain ⟨hk44, hp44⟩ := rt_gd_some hp44
              refine RT.cVz (pc := 44) (M' := M_X7_copy) (ci := 7) (x := v34) (As := [(2, v41)]) (st := []) (r := none) (mem1 := p44) (d' := d - 1) hz dX11_centuries_44 mw_X7_copy ml_X11_191 mi_X7_copy hk44 rfl rfl (Nat.le_of_ble_eq_true rfl) (Nat.le_of_ble_eq_true rfl) (by omega) rfl rfl (c_X7_copy hz (by omega) v34 v41 mem0 _ hk44 hp44) ?_
              refine RT.aload_n (pc := 47) (k := 0) (x := a0) dX11_centuries_47 rfl ?_
              refine RT.iload_n (pc := 48) (k := 1) (x := a1) dX11_centuries_48 rfl ?_
              refine RT.i2l (pc := 49) dX11_centuries_49 ?_
              obtain ⟨m50, hm50, h⟩ := Option.bind_eq_some_iff.mp h
              refine RT.pf_l 11 13 (pc := 50) (mem1 := m50) hz dX11_centuries_50 fl_X11_333 rfl rfl rfl hm50 ?_
              refine RT.iconst (pc := 53) (n := 0) dX11_centuries_53 ⟨by decide, by decide⟩ ?_
              refine RT.istore (pc := 54) (k := 4) (x := 0) (L1 := [(2, a0), (0, a1), (0, a2), (0, a3), (0, 0), (9, 0), (9, 0)]) dX11_centuries_54 (Nat.le_of_ble_eq_true rfl) rfl ?_
              refine RT.iconst (pc := 56) (n := 0) dX11_centuries_56 ⟨by decide, by decide⟩ ?_
              refine RT.istore (pc := 57) (k := 5) (x := 0) (L1 := [(2, a0), (0, a1), (0, a2), (0, a3), (0, 0), (0, 0), (9, 0)]) dX11_centuries_57 (Nat.le_of_ble_eq_true rfl) rfl ?_
              refine RT.iconst (pc := 59) (n := 0) dX11_centuries_59 ⟨by decide, by decide⟩ ?_
              refine RT.istore (pc := 60) (k := 6) (x := 0) (L1 := [(2, a0), (0, a1), (0, a2), (0, a3), (0, 0), (0, 0), (0, 0)]) dX11_centuries_60 (Nat.le_of_ble_eq_true rfl) rfl ?_
              refine RT.wk (L1 := [(2, a0), (9, 0), (0, a2), (0, a3), (0, 0), (0, 0), (0, 0)]) (rt_le_s (rt_le_j (rt_le_s (rt_le_s (rt_le_s (rt_le_s (rt_le_s rt_le_n))))))) ?_
              obtain ⟨X62, hX62, h⟩ := Option.bind_eq_some_iff.mp h
              refine rt_it_ind (P := (fun s1 : Int × Int × Int × rt_M => RT G M_X11_centuries d z Q 62 [(2, a0), (9, 0), (0, a2), (0, a3), (0, s1.1), (0, s1.2.1), (0, s1.2.2.1)] [] z s1.2.2.2)) (X := (fun x1 : Int × Int × rt_M => RT G M_X11_centuries d z Q 121 [(2, a0), (9, 0), (9, 0), (0, a3), (0, x1.1), (0, x1.2.1), (9, 0)] [] z x1.2.2)) (fun s1 t1 h1 k1 k2 => cb_X11_centuries_62 hz hd ht a2 a3 s1 t1 h1 ⟨k1, k2⟩) 4000 ((0, 0, 0, m50)) X62 hX62 ?_
              refine RT.iload_n (pc := 121) (k := 3) (x := a3) dX11_centuries_121 rfl ?_
              refine RT.if_ne (pc := 122) (tgt := 130) dX11_centuries_122 rfl (fun q122 => ?_) (fun q122 => ?_)
              · rw [if_neg q122] at h
                refine RT.iload_n (pc := 130) (k := 3) (x := a3) dX11_centuries_130 rfl ?_
                refine RT.iconst (pc := 131) (n := 1) dX11_centuries_131 ⟨by decide, by decide⟩ ?_
                refine RT.icmp_ne (pc := 132) (tgt := 140) dX11_centuries_132 rfl (fun q132 => ?_) (fun q132 => ?_)
                · rw [if_neg q132] at h
                  refine RT.aload_n (pc := 140) (k := 0) (x := a0) dX11_centuries_140 rfl ?_
                  obtain ⟨v141, hv141, h⟩ := Option.bind_eq_some_iff.mp h
                  refine RT.gf 11 10 2 (pc := 141) (x := a0) (v := v141) hz dX11_centuries_141 fl_X11_60 rfl hv141 ?_
                  refine RT.aload_n (pc := 144) (k := 0) (x := a0) dX11_centuries_144 rfl ?_
                  obtain ⟨v145, hv145, h⟩ := Option.bind_eq_some_iff.mp h
                  refine RT.gf 11 7 2 (pc := 145) (x := a0) (v := v145) hz dX11_centuries_145 fl_X11_45 rfl hv145 ?_
                  obtain ⟨p148, hp148, h⟩ := Option.bind_eq_some_iff.mp h
                  obtain ⟨hk148, hp148⟩ := rt_gd_some hp148
                  refine RT.cVz (pc := 148) (M' := M_X7_wearOfAll) (ci := 7) (x := v141) (As := [(2, v145)]) (st := []) (r := some (0, p148)) (mem1 := X62.2.2) (d' := d - 1) hz dX11_centuries_148 mw_X7_wearOfAll ml_X11_343 mi_X7_wearOfAll hk148 rfl rfl (Nat.le_of_ble_eq_true rfl) (Nat.le_of_ble_eq_true rfl) (by omega) rfl rfl (c_X7_wearOfAll hz (by omega) v141 v145 X62.2.2 _ hk148 hp148) ?_
                  refine RT.wk (L1 := [(9, 0), (9, 0), (9, 0), (9, 0), (9, 0), (9, 0), (9, 0)]) (rt_le_j (rt_le_s (rt_le_s (rt_le_j (rt_le_j (rt_le_j (rt_le_s rt_le_n))))))) ?_
                  exact cj_X11_centuries_151 hz hd ht p148 X62.2.2 _ h hK
                · rw [if_pos (Classical.not_not.mp q132)] at h
                  refine RT.iload (pc := 135) (k := 5) (x := X62.2.1) dX11_centuries_135 rfl ?_
                  refine RT.goto (pc := 137) (tgt := 151) dX11_centuries_137 rfl ?_
                  refine RT.wk (L1 := [(9, 0), (9, 0), (9, 0), (9, 0), (9, 0), (9, 0), (9, 0)]) (rt_le_j (rt_le_s (rt_le_s (rt_le_j (rt_le_j (rt_le_j (rt_le_s rt_le_n))))))) ?_
                  exact cj_X11_centuries_151 hz hd ht X62.2.1 X62.2.2 _ h hK
              · rw [if_pos (Classical.not_not.mp q122)] at h
                refine RT.iload (pc := 125) (k := 4) (x := X62.1) dX11_centuries_125 rfl ?_
                refine RT.goto (pc := 127) (tgt := 151) dX11_centuries_127 rfl ?_
                refine RT.wk (L1 := [(9, 0), (9, 0), (9, 0), (9, 0), (9, 0), (9, 0), (9, 0)]) (rt_le_j (rt_le_s (rt_le_s (rt_le_j (rt_le_j (rt_le_j (rt_le_s rt_le_n))))))) ?_
                exact cj_X11_centuries_151 hz hd ht X62.1 X62.2.2 _ h hK
            · rw [if_neg q28] at h
              refine RT.wk (L1 := [(9, 0), (9, 0), (9, 0), (9, 0), (9, 0), (9, 0), (9, 0)]) (rt_le_j (rt_le_j (rt_le_j (rt_le_j (rt_le_s (rt_le_s (rt_le_s rt_le_n))))))) ?_
              exact cj_X11_centuries_31 hz hd ht mem0 _ h hK
theorem cj_X11_mark_25 {G : rt_G} {d : Nat} {z : Nat × Nat} {Q : rt_P} (hz : 300 ≤ z.1) (hd : 2 ≤ d) {a0 : Int} (ht : rt_kd a0.toNat = 20 + 11) (mem0 : rt_M) (t : Int × rt_M) (h : j_X11_mark_25 mem0 = some t) (hK : Q (some (0, t.1)) z t.2) : RT G M_X11_mark d z Q 25 [(9, 0), (9, 0), (9, 0)] [] z mem0 := by
  unfold j_X11_mark_25 at h
  refine RT.iconst (pc := 25) (n := 0) dX11_mark_25 ⟨by decide, by decide⟩ ?_
  obtain rfl := Option.some.inj h
  exact RT.zret (pc := 26) dX11_mark_26 rfl (by decide) (Nat.le_of_eq (rt_cells_0 z)) (Nat.le_of_eq (rt_slots_0 z)) hK
theorem cj_X11_mark_75 {G : rt_G} {d : Nat} {z : Nat × Nat} {Q : rt_P} (hz : 300 ≤ z.1) (hd : 2 ≤ d) {a0 : Int} (ht : rt_kd a0.toNat = 20 + 11) (mem0 : rt_M) (t : Int × rt_M) (h : j_X11_mark_75 mem0 = some t) (hK : Q (some (0, t.1)) z t.2) : RT G M_X11_mark d z Q 75 [(9, 0), (9, 0), (9, 0)] [] z mem0 := by
  unfold j_X11_mark_75 at h
  refine RT.iconst (pc := 75) (n := 1) dX11_mark_75 ⟨by decide, by decide⟩ ?_
  obtain rfl := Option.some.inj h
  exact RT.zret (pc := 76) dX11_mark_76 rfl (by decide) (Nat.le_of_eq (rt_cells_0 z)) (Nat.le_of_eq (rt_slots_0 z)) hK
theorem cj_X11_mark_27 {G : rt_G} {d : Nat} {z : Nat × Nat} {Q : rt_P} (hz : 300 ≤ z.1) (hd : 2 ≤ d) {a0 : Int} (ht : rt_kd a0.toNat = 20 + 11) (a1 : Int) (a2 : Int) (mem0 : rt_M) (t : Int × rt_M) (h : j_X11_mark_27 a0 a1 a2 mem0 = some t) (hK : Q (some (0, t.1)) z t.2) : RT G M_X11_mark d z Q 27 [(2, a0), (0, a1), (0, a2)] [] z mem0 := by
  unfold j_X11_mark_27 at h
  refine RT.iload_n (pc := 27) (k := 2) (x := a2) dX11_mark_27 rfl ?_
  refine RT.if_eq (pc := 28) (tgt := 52) dX11_mark_28 rfl (fun q28 => ?_) (fun q28 => ?_)
  · rw [if_pos q28] at h
    refine RT.aload_n (pc := 52) (k := 0) (x := a0) dX11_mark_52 rfl ?_
    obtain ⟨v53, hv53, h⟩ := Option.bind_eq_some_iff.mp h
    refine RT.gf 11 3 2 (pc := 53) (x := a0) (v := v53) hz dX11_mark_53 fl_X11_32 rfl hv53 ?_
    refine RT.iload_n (pc := 56) (k := 1) (x := a1) dX11_mark_56 rfl ?_
    obtain ⟨v57, hv57, h⟩ := Option.bind_eq_some_iff.mp h
    refine RT.aald7 (pc := 57) (x := v53) (i := a1) (v := v57) dX11_mark_57 (rt_lta hz (by decide) (by decide) hv57) hv57 ?_
    refine RT.aload_n (pc := 58) (k := 0) (x := a0) dX11_mark_58 rfl ?_
    obtain ⟨v59, hv59, h⟩ := Option.bind_eq_some_iff.mp h
    refine RT.gf 11 2 2 (pc := 59) (x := a0) (v := v59) hz dX11_mark_59 fl_X11_28 rfl hv59 ?_
    obtain ⟨p62, hp62, h⟩ := Option.bind_eq_some_iff.mp h
    obtain ⟨hk62, hp62⟩ := rt_gd_some hp62
    refine RT.cVz (pc := 62) (M' := M_X0_copy) (ci := 0) (x := v57) (As := [(2, v59)]) (st := []) (r := none) (mem1 := p62) (d' := d - 1) hz dX11_mark_62 mw_X0_copy ml_X11_357 mi_X0_copy hk62 rfl rfl (Nat.le_of_ble_eq_true rfl) (Nat.le_of_ble_eq_true rfl) (by omega) rfl rfl (c_X0_copy hz (by omega) v57 v59 mem0 _ hk62 hp62) ?_
    refine RT.aload_n (pc := 65) (k := 0) (x := a0) dX11_mark_65 rfl ?_
    obtain ⟨v66, hv66, h⟩ := Option.bind_eq_some_iff.mp h
    refine RT.gf 11 3 2 (pc := 66) (x := a0) (v := v66) hz dX11_mark_66 fl_X11_32 rfl hv66 ?_
    refine RT.iload_n (pc := 69) (k := 1) (x := a1) dX11_mark_69 rfl ?_
    obtain ⟨v70, hv70, h⟩ := Option.bind_eq_some_iff.mp h
    refine RT.aald7 (pc := 70) (x := v66) (i := a1) (v := v70) dX11_mark_70 (rt_lta hz (by decide) (by decide) hv70) hv70 ?_
    refine RT.iconst (pc := 71) (n := 1) dX11_mark_71 ⟨by decide, by decide⟩ ?_
    obtain ⟨m72, hm72, h⟩ := Option.bind_eq_some_iff.mp h
    refine RT.pf_z 0 4 (pc := 72) (mem1 := m72) hz dX11_mark_72 fl_X11_97 rfl rfl rfl (by decide) hm72 ?_
    refine RT.wk (L1 := [(9, 0), (9, 0), (9, 0)]) (rt_le_j (rt_le_j (rt_le_j rt_le_n))) ?_
    exact cj_X11_mark_75 hz hd ht m72 _ h hK
  · rw [if_neg q28] at h
    refine RT.aload_n (pc := 31) (k := 0) (x := a0) dX11_mark_31 rfl ?_
    obtain ⟨v32, hv32, h⟩ := Option.bind_eq_some_iff.mp h
    refine RT.gf 11 2 2 (pc := 32) (x := a0) (v := v32) hz dX11_mark_32 fl_X11_28 rfl hv32 ?_
    refine RT.aload_n (pc := 35) (k := 0) (x := a0) dX11_mark_35 rfl ?_
    obtain ⟨v36, hv36, h⟩ := Option.bind_eq_some_iff.mp h
    refine RT.gf 11 3 2 (pc := 36) (x := a0) (v := v36) hz dX11_mark_36 fl_X11_32 rfl hv36 ?_
    refine RT.iload_n (pc := 39) (k := 1) (x := a1) dX11_mark_39 rfl ?_
    obtain ⟨v40, hv40, h⟩ := Option.bind_eq_some_iff.mp h
    refine RT.aald7 (pc := 40) (x := v36) (i := a1) (v := v40) dX11_mark_40 (rt_lta hz (by decide) (by decide) hv40) hv40 ?_
    obtain ⟨p41, hp41, h⟩ := Option.bind_eq_some_iff.mp h
    obtain ⟨hk41, hp41⟩ := rt_gd_some hp41
    refine RT.cVz (pc := 41) (M' := M_X0_copy) (ci := 0) (x := v32) (As := [(2, v40)]) (st := []) (r := none) (mem1 := p41) (d' := d - 1) hz dX11_mark_41 mw_X0_copy ml_X11_357 mi_X0_copy hk41 rfl rfl (Nat.le_of_ble_eq_true rfl) (Nat.le_of_ble_eq_true rfl) (by omega) rfl rfl (c_X0_copy hz (by omega) v32 v40 mem0 _ hk41 hp41) ?_
    refine RT.aload_n (pc := 44) (k := 0) (x := a0) dX11_mark_44 rfl ?_
    refine RT.iconst (pc := 45) (n := 0) dX11_mark_45 ⟨by decide, by decide⟩ ?_
    obtain ⟨m46, hm46, h⟩ := Option.bind_eq_some_iff.mp h
    refine RT.pf_i 11 5 (pc := 46) (mem1 := m46) hz dX11_mark_46 fl_X11_94 rfl rfl rfl hm46 ?_
    refine RT.goto (pc := 49) (tgt := 75) dX11_mark_49 rfl ?_
    refine RT.wk (L1 := [(9, 0), (9, 0), (9, 0)]) (rt_le_j (rt_le_j (rt_le_j rt_le_n))) ?_
    exact cj_X11_mark_75 hz hd ht m46 _ h hK
theorem c_X11_mark {G : rt_G} {d : Nat} {z : Nat × Nat} (hz : 300 ≤ z.1) (hd : 2 ≤ d) (a0 : Int) (a1 : Int) (a2 : Int) (mem0 : rt_M) (t : Int × rt_M) (ht : rt_kd a0.toNat = 20 + 11) (h : f_X11_mark a0 a1 a2 mem0 = some t) : RM G M_X11_mark d [(2, a0), (0, a1), (0, a2)] z mem0 (some (0, t.1)) t.2 := by
  suffices H : ∀ Q : rt_P, Q (some (0, t.1)) z t.2 → RT G M_X11_mark d z Q 0 [(2, a0), (0, a1), (0, a2)] [] z mem0 from H _ ⟨rfl, rfl, rfl⟩
  intro Q hK
  unfold f_X11_mark at h
  refine RT.iload_n (pc := 0) (k := 1) (x := a1) dX11_mark_0 rfl ?_
  refine RT.if_lt (pc := 1) (tgt := 25) dX11_mark_1 rfl (fun q1 => ?_) (fun q1 => ?_)
  · rw [if_pos q1] at h
    refine RT.wk (L1 := [(9, 0), (9, 0), (9, 0)]) (rt_le_j (rt_le_j (rt_le_j rt_le_n))) ?_
    exact cj_X11_mark_25 hz hd ht mem0 _ h hK
  · rw [if_neg q1] at h
    refine RT.iload_n (pc := 4) (k := 1) (x := a1) dX11_mark_4 rfl ?_
    refine RT.iconst (pc := 5) (n := 4) dX11_mark_5 ⟨by decide, by decide⟩ ?_
    refine RT.icmp_ge (pc := 6) (tgt := 25) dX11_mark_6 rfl (fun q6 => ?_) (fun q6 => ?_)
    · rw [if_pos q6] at h
      refine RT.wk (L1 := [(9, 0), (9, 0), (9, 0)]) (rt_le_j (rt_le_j (rt_le_j rt_le_n))) ?_
      exact cj_X11_mark_25 hz hd ht mem0 _ h hK
    · rw [if_neg q6] at h
      refine RT.iload_n (pc := 9) (k := 2) (x := a2) dX11_mark_9 rfl ?_
      refine RT.if_eq (pc := 10) (tgt := 27) dX11_mark_10 rfl (fun q10 => ?_) (fun q10 => ?_)
      · rw [if_pos q10] at h
        exact cj_X11_mark_27 hz hd ht a1 a2 mem0 _ h hK
      · rw [if_neg q10] at h
        refine RT.aload_n (pc := 13) (k := 0) (x := a0) dX11_mark_13 rfl ?_
        obtain ⟨v14, hv14, h⟩ := Option.bind_eq_some_iff.mp h
        refine RT.gf 11 3 2 (pc := 14) (x := a0) (v := v14) hz dX11_mark_14 fl_X11_32 rfl hv14 ?_
        refine RT.iload_n (pc := 17) (k := 1) (x := a1) dX11_mark_17 rfl ?_
        obtain ⟨v18, hv18, h⟩ := Option.bind_eq_some_iff.mp h
        refine RT.aald7 (pc := 18) (x := v14) (i := a1) (v := v18) dX11_mark_18 (rt_lta hz (by decide) (by decide) hv18) hv18 ?_
        obtain ⟨v19, hv19, h⟩ := Option.bind_eq_some_iff.mp h
        refine RT.gf 0 4 0 (pc := 19) (x := v18) (v := v19) hz dX11_mark_19 fl_X11_97 rfl hv19 ?_
        refine RT.if_ne (pc := 22) (tgt := 27) dX11_mark_22 rfl (fun q22 => ?_) (fun q22 => ?_)
        · rw [if_neg q22] at h
          exact cj_X11_mark_27 hz hd ht a1 a2 mem0 _ h hK
        · rw [if_pos (Classical.not_not.mp q22)] at h
          refine RT.wk (L1 := [(9, 0), (9, 0), (9, 0)]) (rt_le_j (rt_le_j (rt_le_j rt_le_n))) ?_
          exact cj_X11_mark_25 hz hd ht mem0 _ h hK
theorem c_X11_count {G : rt_G} {d : Nat} {z : Nat × Nat} (hz : 300 ≤ z.1) (hd : 4 ≤ d) (a0 : Int) (a1 : Int) (mem0 : rt_M) (t : Int) (ht : rt_kd a0.toNat = 20 + 11) (h : f_X11_count a0 a1 mem0 = some t) : RM G M_X11_count d [(2, a0), (0, a1)] z mem0 (some (0, t)) mem0 := by
  suffices H : ∀ Q : rt_P, Q (some (0, t)) z mem0 → RT G M_X11_count d z Q 0 [(2, a0), (0, a1)] [] z mem0 from H _ ⟨rfl, rfl, rfl⟩
  intro Q hK
  unfold f_X11_count at h
  refine RT.iload_n (pc := 0) (k := 1) (x := a1) dX11_count_0 rfl ?_
  by_cases q1_0 : a1 = 0
  · rw [if_pos q1_0] at h
    refine RT.tsIn (pc := 1) (off := 67) (tgt := 68) dX11_count_1 (by omega) (by omega) (by rw [q1_0]; rfl) rfl ?_
    refine RT.aload_n (pc := 68) (k := 0) (x := a0) dX11_count_68 rfl ?_
    obtain ⟨v69, hv69, h⟩ := Option.bind_eq_some_iff.mp h
    refine RT.gf 11 7 2 (pc := 69) (x := a0) (v := v69) hz dX11_count_69 fl_X11_45 rfl hv69 ?_
    obtain ⟨v72, hv72, h⟩ := Option.bind_eq_some_iff.mp h
    refine RT.gf 4 0 0 (pc := 72) (x := v69) (v := v72) hz dX11_count_72 fl_X11_217 rfl hv72 ?_
    obtain rfl := Option.some.inj h
    exact RT.iret (pc := 75) dX11_count_75 rfl (Nat.le_of_eq (rt_cells_0 z)) (Nat.le_of_eq (rt_slots_0 z)) hK
  rw [if_neg q1_0] at h
  by_cases q1_1 : a1 = 1
  · rw [if_pos q1_1] at h
    refine RT.tsIn (pc := 1) (off := 75) (tgt := 76) dX11_count_1 (by omega) (by omega) (by rw [q1_1]; rfl) rfl ?_
    refine RT.aload_n (pc := 76) (k := 0) (x := a0) dX11_count_76 rfl ?_
    obtain ⟨v77, hv77, h⟩ := Option.bind_eq_some_iff.mp h
    refine RT.gf 11 7 2 (pc := 77) (x := a0) (v := v77) hz dX11_count_77 fl_X11_45 rfl hv77 ?_
    obtain ⟨v80, hv80, h⟩ := Option.bind_eq_some_iff.mp h
    refine RT.gf 4 1 0 (pc := 80) (x := v77) (v := v80) hz dX11_count_80 fl_X11_240 rfl hv80 ?_
    obtain rfl := Option.some.inj h
    exact RT.iret (pc := 83) dX11_count_83 rfl (Nat.le_of_eq (rt_cells_0 z)) (Nat.le_of_eq (rt_slots_0 z)) hK
  rw [if_neg q1_1] at h
  by_cases q1_2 : a1 = 2
  · rw [if_pos q1_2] at h
    refine RT.tsIn (pc := 1) (off := 83) (tgt := 84) dX11_count_1 (by omega) (by omega) (by rw [q1_2]; rfl) rfl ?_
    refine RT.aload_n (pc := 84) (k := 0) (x := a0) dX11_count_84 rfl ?_
    obtain ⟨v85, hv85, h⟩ := Option.bind_eq_some_iff.mp h
    refine RT.gf 11 7 2 (pc := 85) (x := a0) (v := v85) hz dX11_count_85 fl_X11_45 rfl hv85 ?_
    obtain ⟨v88, hv88, h⟩ := Option.bind_eq_some_iff.mp h
    refine RT.gf 4 8 0 (pc := 88) (x := v85) (v := v88) hz dX11_count_88 fl_X11_273 rfl hv88 ?_
    obtain rfl := Option.some.inj h
    exact RT.iret (pc := 91) dX11_count_91 rfl (Nat.le_of_eq (rt_cells_0 z)) (Nat.le_of_eq (rt_slots_0 z)) hK
  rw [if_neg q1_2] at h
  by_cases q1_3 : a1 = 3
  · rw [if_pos q1_3] at h
    refine RT.tsIn (pc := 1) (off := 91) (tgt := 92) dX11_count_1 (by omega) (by omega) (by rw [q1_3]; rfl) rfl ?_
    refine RT.aload_n (pc := 92) (k := 0) (x := a0) dX11_count_92 rfl ?_
    obtain ⟨v93, hv93, h⟩ := Option.bind_eq_some_iff.mp h
    refine RT.gf 11 2 2 (pc := 93) (x := a0) (v := v93) hz dX11_count_93 fl_X11_28 rfl hv93 ?_
    obtain ⟨v96, hv96, h⟩ := Option.bind_eq_some_iff.mp h
    refine RT.gf 0 0 2 (pc := 96) (x := v93) (v := v96) hz dX11_count_96 fl_X11_126 rfl hv96 ?_
    obtain ⟨v99, hv99, h⟩ := Option.bind_eq_some_iff.mp h
    refine RT.gf 7 0 0 (pc := 99) (x := v96) (v := v99) hz dX11_count_99 fl_X11_142 rfl hv99 ?_
    obtain rfl := Option.some.inj h
    exact RT.iret (pc := 102) dX11_count_102 rfl (Nat.le_of_eq (rt_cells_0 z)) (Nat.le_of_eq (rt_slots_0 z)) hK
  rw [if_neg q1_3] at h
  by_cases q1_4 : a1 = 4
  · rw [if_pos q1_4] at h
    refine RT.tsIn (pc := 1) (off := 102) (tgt := 103) dX11_count_1 (by omega) (by omega) (by rw [q1_4]; rfl) rfl ?_
    refine RT.aload_n (pc := 103) (k := 0) (x := a0) dX11_count_103 rfl ?_
    obtain ⟨v104, hv104, h⟩ := Option.bind_eq_some_iff.mp h
    refine RT.gf 11 7 2 (pc := 104) (x := a0) (v := v104) hz dX11_count_104 fl_X11_45 rfl hv104 ?_
    refine RT.aload_n (pc := 107) (k := 0) (x := a0) dX11_count_107 rfl ?_
    obtain ⟨v108, hv108, h⟩ := Option.bind_eq_some_iff.mp h
    refine RT.gf 11 2 2 (pc := 108) (x := a0) (v := v108) hz dX11_count_108 fl_X11_28 rfl hv108 ?_
    obtain ⟨v111, hv111, h⟩ := Option.bind_eq_some_iff.mp h
    refine RT.gf 0 0 2 (pc := 111) (x := v108) (v := v111) hz dX11_count_111 fl_X11_126 rfl hv111 ?_
    obtain ⟨v114, hv114, h⟩ := Option.bind_eq_some_iff.mp h
    refine RT.gf 7 0 0 (pc := 114) (x := v111) (v := v114) hz dX11_count_114 fl_X11_142 rfl hv114 ?_
    obtain ⟨p117, hp117, h⟩ := Option.bind_eq_some_iff.mp h
    obtain ⟨hk117, hp117⟩ := rt_gd_some hp117
    refine RT.cVz (pc := 117) (M' := M_X4_heatOf) (ci := 4) (x := v104) (As := [(0, v114)]) (st := []) (r := some (0, p117)) (mem1 := mem0) (d' := d - 1) hz dX11_count_117 mw_X4_heatOf ml_X11_360 mi_X4_heatOf hk117 rfl rfl (Nat.le_of_ble_eq_true rfl) (Nat.le_of_ble_eq_true rfl) (by omega) rfl rfl (c_X4_heatOf hz (by omega) v104 v114 mem0 _ hk117 hp117) ?_
    obtain rfl := Option.some.inj h
    exact RT.iret (pc := 120) dX11_count_120 rfl (Nat.le_of_eq (rt_cells_0 z)) (Nat.le_of_eq (rt_slots_0 z)) hK
  rw [if_neg q1_4] at h
  by_cases q1_5 : a1 = 5
  · rw [if_pos q1_5] at h
    refine RT.tsIn (pc := 1) (off := 120) (tgt := 121) dX11_count_1 (by omega) (by omega) (by rw [q1_5]; rfl) rfl ?_
    refine RT.aload_n (pc := 121) (k := 0) (x := a0) dX11_count_121 rfl ?_
    obtain ⟨v122, hv122, h⟩ := Option.bind_eq_some_iff.mp h
    refine RT.gf 11 2 2 (pc := 122) (x := a0) (v := v122) hz dX11_count_122 fl_X11_28 rfl hv122 ?_
    obtain ⟨v125, hv125, h⟩ := Option.bind_eq_some_iff.mp h
    refine RT.gf 0 0 2 (pc := 125) (x := v122) (v := v125) hz dX11_count_125 fl_X11_126 rfl hv125 ?_
    refine RT.aload_n (pc := 128) (k := 0) (x := a0) dX11_count_128 rfl ?_
    obtain ⟨v129, hv129, h⟩ := Option.bind_eq_some_iff.mp h
    refine RT.gf 11 7 2 (pc := 129) (x := a0) (v := v129) hz dX11_count_129 fl_X11_45 rfl hv129 ?_
    obtain ⟨p132, hp132, h⟩ := Option.bind_eq_some_iff.mp h
    obtain ⟨hk132, hp132⟩ := rt_gd_some hp132
    refine RT.cVz (pc := 132) (M' := M_X7_worn) (ci := 7) (x := v125) (As := [(2, v129)]) (st := []) (r := some (0, p132)) (mem1 := mem0) (d' := d - 1) hz dX11_count_132 mw_X7_worn ml_X11_205 mi_X7_worn hk132 rfl rfl (Nat.le_of_ble_eq_true rfl) (Nat.le_of_ble_eq_true rfl) (by omega) rfl rfl (c_X7_worn hz (by omega) v125 v129 mem0 _ hk132 hp132) ?_
    obtain rfl := Option.some.inj h
    exact RT.iret (pc := 135) dX11_count_135 rfl (Nat.le_of_eq (rt_cells_0 z)) (Nat.le_of_eq (rt_slots_0 z)) hK
  rw [if_neg q1_5] at h
  by_cases q1_6 : a1 = 6
  · rw [if_pos q1_6] at h
    refine RT.tsIn (pc := 1) (off := 135) (tgt := 136) dX11_count_1 (by omega) (by omega) (by rw [q1_6]; rfl) rfl ?_
    refine RT.aload_n (pc := 136) (k := 0) (x := a0) dX11_count_136 rfl ?_
    obtain ⟨v137, hv137, h⟩ := Option.bind_eq_some_iff.mp h
    refine RT.gf 11 2 2 (pc := 137) (x := a0) (v := v137) hz dX11_count_137 fl_X11_28 rfl hv137 ?_
    obtain ⟨v140, hv140, h⟩ := Option.bind_eq_some_iff.mp h
    refine RT.gf 0 0 2 (pc := 140) (x := v137) (v := v140) hz dX11_count_140 fl_X11_126 rfl hv140 ?_
    refine RT.aload_n (pc := 143) (k := 0) (x := a0) dX11_count_143 rfl ?_
    obtain ⟨v144, hv144, h⟩ := Option.bind_eq_some_iff.mp h
    refine RT.gf 11 7 2 (pc := 144) (x := a0) (v := v144) hz dX11_count_144 fl_X11_45 rfl hv144 ?_
    obtain ⟨p147, hp147, h⟩ := Option.bind_eq_some_iff.mp h
    obtain ⟨hk147, hp147⟩ := rt_gd_some hp147
    refine RT.cVz (pc := 147) (M' := M_X7_wornOut) (ci := 7) (x := v140) (As := [(2, v144)]) (st := []) (r := some (0, p147)) (mem1 := mem0) (d' := d - 1) hz dX11_count_147 mw_X7_wornOut ml_X11_227 mi_X7_wornOut hk147 rfl rfl (Nat.le_of_ble_eq_true rfl) (Nat.le_of_ble_eq_true rfl) (by omega) rfl rfl (c_X7_wornOut hz (by omega) v140 v144 mem0 _ hk147 hp147) ?_
    obtain rfl := Option.some.inj h
    exact RT.iret (pc := 150) dX11_count_150 rfl (Nat.le_of_eq (rt_cells_0 z)) (Nat.le_of_eq (rt_slots_0 z)) hK
  rw [if_neg q1_6] at h
  by_cases q1_7 : a1 = 7
  · rw [if_pos q1_7] at h
    refine RT.tsIn (pc := 1) (off := 150) (tgt := 151) dX11_count_1 (by omega) (by omega) (by rw [q1_7]; rfl) rfl ?_
    refine RT.aload_n (pc := 151) (k := 0) (x := a0) dX11_count_151 rfl ?_
    obtain ⟨v152, hv152, h⟩ := Option.bind_eq_some_iff.mp h
    refine RT.gf 11 7 2 (pc := 152) (x := a0) (v := v152) hz dX11_count_152 fl_X11_45 rfl hv152 ?_
    refine RT.aload_n (pc := 155) (k := 0) (x := a0) dX11_count_155 rfl ?_
    obtain ⟨v156, hv156, h⟩ := Option.bind_eq_some_iff.mp h
    refine RT.gf 11 2 2 (pc := 156) (x := a0) (v := v156) hz dX11_count_156 fl_X11_28 rfl hv156 ?_
    obtain ⟨v159, hv159, h⟩ := Option.bind_eq_some_iff.mp h
    refine RT.gf 0 0 2 (pc := 159) (x := v156) (v := v159) hz dX11_count_159 fl_X11_126 rfl hv159 ?_
    refine RT.aload_n (pc := 162) (k := 0) (x := a0) dX11_count_162 rfl ?_
    obtain ⟨v163, hv163, h⟩ := Option.bind_eq_some_iff.mp h
    refine RT.gf 11 7 2 (pc := 163) (x := a0) (v := v163) hz dX11_count_163 fl_X11_45 rfl hv163 ?_
    obtain ⟨p166, hp166, h⟩ := Option.bind_eq_some_iff.mp h
    obtain ⟨hk166, hp166⟩ := rt_gd_some hp166
    refine RT.cVz (pc := 166) (M' := M_X7_worn) (ci := 7) (x := v159) (As := [(2, v163)]) (st := [(2, v152)]) (r := some (0, p166)) (mem1 := mem0) (d' := d - 1) hz dX11_count_166 mw_X7_worn ml_X11_205 mi_X7_worn hk166 rfl rfl (Nat.le_of_ble_eq_true rfl) (Nat.le_of_ble_eq_true rfl) (by omega) rfl rfl (c_X7_worn hz (by omega) v159 v163 mem0 _ hk166 hp166) ?_
    obtain ⟨p169, hp169, h⟩ := Option.bind_eq_some_iff.mp h
    obtain ⟨hk169, hp169⟩ := rt_gd_some hp169
    refine RT.cVz (pc := 169) (M' := M_X4_officeOfAll) (ci := 4) (x := v152) (As := [(0, p166)]) (st := []) (r := some (0, p169)) (mem1 := mem0) (d' := d - 1) hz dX11_count_169 mw_X4_officeOfAll ml_X11_208 mi_X4_officeOfAll hk169 rfl rfl (Nat.le_of_ble_eq_true rfl) (Nat.le_of_ble_eq_true rfl) (by omega) rfl rfl (c_X4_officeOfAll hz (by omega) v152 p166 mem0 _ hk169 hp169) ?_
    obtain rfl := Option.some.inj h
    exact RT.iret (pc := 172) dX11_count_172 rfl (Nat.le_of_eq (rt_cells_0 z)) (Nat.le_of_eq (rt_slots_0 z)) hK
  rw [if_neg q1_7] at h
  by_cases q1_8 : a1 = 8
  · rw [if_pos q1_8] at h
    refine RT.tsIn (pc := 1) (off := 172) (tgt := 173) dX11_count_1 (by omega) (by omega) (by rw [q1_8]; rfl) rfl ?_
    refine RT.aload_n (pc := 173) (k := 0) (x := a0) dX11_count_173 rfl ?_
    obtain ⟨v174, hv174, h⟩ := Option.bind_eq_some_iff.mp h
    refine RT.gf 11 2 2 (pc := 174) (x := a0) (v := v174) hz dX11_count_174 fl_X11_28 rfl hv174 ?_
    obtain ⟨v177, hv177, h⟩ := Option.bind_eq_some_iff.mp h
    refine RT.gf 0 1 2 (pc := 177) (x := v174) (v := v177) hz dX11_count_177 fl_X11_105 rfl hv177 ?_
    obtain ⟨v180, hv180, h⟩ := Option.bind_eq_some_iff.mp h
    refine RT.gf 10 0 0 (pc := 180) (x := v177) (v := v180) hz dX11_count_180 fl_X11_198 rfl hv180 ?_
    obtain rfl := Option.some.inj h
    exact RT.iret (pc := 183) dX11_count_183 rfl (Nat.le_of_eq (rt_cells_0 z)) (Nat.le_of_eq (rt_slots_0 z)) hK
  rw [if_neg q1_8] at h
  by_cases q1_9 : a1 = 9
  · rw [if_pos q1_9] at h
    refine RT.tsIn (pc := 1) (off := 183) (tgt := 184) dX11_count_1 (by omega) (by omega) (by rw [q1_9]; rfl) rfl ?_
    refine RT.aload_n (pc := 184) (k := 0) (x := a0) dX11_count_184 rfl ?_
    obtain ⟨v185, hv185, h⟩ := Option.bind_eq_some_iff.mp h
    refine RT.gf 11 2 2 (pc := 185) (x := a0) (v := v185) hz dX11_count_185 fl_X11_28 rfl hv185 ?_
    obtain ⟨v188, hv188, h⟩ := Option.bind_eq_some_iff.mp h
    refine RT.gf 0 2 2 (pc := 188) (x := v185) (v := v188) hz dX11_count_188 fl_X11_253 rfl hv188 ?_
    obtain ⟨v191, hv191, h⟩ := Option.bind_eq_some_iff.mp h
    refine RT.gf 6 0 0 (pc := 191) (x := v188) (v := v191) hz dX11_count_191 fl_X11_363 rfl hv191 ?_
    obtain rfl := Option.some.inj h
    exact RT.iret (pc := 194) dX11_count_194 rfl (Nat.le_of_eq (rt_cells_0 z)) (Nat.le_of_eq (rt_slots_0 z)) hK
  rw [if_neg q1_9] at h
  by_cases q1_10 : a1 = 10
  · rw [if_pos q1_10] at h
    refine RT.tsIn (pc := 1) (off := 194) (tgt := 195) dX11_count_1 (by omega) (by omega) (by rw [q1_10]; rfl) rfl ?_
    refine RT.aload_n (pc := 195) (k := 0) (x := a0) dX11_count_195 rfl ?_
    obtain ⟨v196, hv196, h⟩ := Option.bind_eq_some_iff.mp h
    refine RT.gf 11 2 2 (pc := 196) (x := a0) (v := v196) hz dX11_count_196 fl_X11_28 rfl hv196 ?_
    obtain ⟨p199, hp199, h⟩ := Option.bind_eq_some_iff.mp h
    obtain ⟨hk199, hp199⟩ := rt_gd_some hp199
    refine RT.cVz (pc := 199) (M' := M_X0_tiltsTold) (ci := 0) (x := v196) (As := []) (st := []) (r := some (0, p199)) (mem1 := mem0) (d' := d - 1) hz dX11_count_199 mw_X0_tiltsTold ml_X11_364 mi_X0_tiltsTold hk199 rfl rfl (Nat.le_of_ble_eq_true rfl) (Nat.le_of_ble_eq_true rfl) (by omega) rfl rfl (c_X0_tiltsTold hz (by omega) v196 mem0 _ hk199 hp199) ?_
    obtain rfl := Option.some.inj h
    exact RT.iret (pc := 202) dX11_count_202 rfl (Nat.le_of_eq (rt_cells_0 z)) (Nat.le_of_eq (rt_slots_0 z)) hK
  rw [if_neg q1_10] at h
  by_cases q1_11 : a1 = 11
  · rw [if_pos q1_11] at h
    refine RT.tsIn (pc := 1) (off := 202) (tgt := 203) dX11_count_1 (by omega) (by omega) (by rw [q1_11]; rfl) rfl ?_
    refine RT.aload_n (pc := 203) (k := 0) (x := a0) dX11_count_203 rfl ?_
    obtain ⟨v204, hv204, h⟩ := Option.bind_eq_some_iff.mp h
    refine RT.gf 11 5 0 (pc := 204) (x := a0) (v := v204) hz dX11_count_204 fl_X11_94 rfl hv204 ?_
    obtain rfl := Option.some.inj h
    exact RT.iret (pc := 207) dX11_count_207 rfl (Nat.le_of_eq (rt_cells_0 z)) (Nat.le_of_eq (rt_slots_0 z)) hK
  rw [if_neg q1_11] at h
  by_cases q1_12 : a1 = 12
  · rw [if_pos q1_12] at h
    refine RT.tsIn (pc := 1) (off := 207) (tgt := 208) dX11_count_1 (by omega) (by omega) (by rw [q1_12]; rfl) rfl ?_
    refine RT.aload_n (pc := 208) (k := 0) (x := a0) dX11_count_208 rfl ?_
    obtain ⟨v209, hv209, h⟩ := Option.bind_eq_some_iff.mp h
    refine RT.gf 11 0 2 (pc := 209) (x := a0) (v := v209) hz dX11_count_209 fl_X11_10 rfl hv209 ?_
    obtain ⟨v212, hv212, h⟩ := Option.bind_eq_some_iff.mp h
    refine RT.gf 8 1 0 (pc := 212) (x := v209) (v := v212) hz dX11_count_212 fl_X11_82 rfl hv212 ?_
    obtain rfl := Option.some.inj h
    exact RT.iret (pc := 215) dX11_count_215 rfl (Nat.le_of_eq (rt_cells_0 z)) (Nat.le_of_eq (rt_slots_0 z)) hK
  rw [if_neg q1_12] at h
  refine RT.tsOut (pc := 1) (tgt := 216) dX11_count_1 (by omega) rfl ?_
  refine RT.iconst (pc := 216) (n := (-1)) dX11_count_216 ⟨by decide, by decide⟩ ?_
  obtain rfl := Option.some.inj h
  exact RT.iret (pc := 217) dX11_count_217 rfl (Nat.le_of_eq (rt_cells_0 z)) (Nat.le_of_eq (rt_slots_0 z)) hK
theorem c_X12_thrown {G : rt_G} {d : Nat} {z : Nat × Nat} (hz : 300 ≤ z.1) (hd : 0 ≤ d) (a0 : Int) (mem0 : rt_M) (t : Int) (ht : rt_kd a0.toNat = 20 + 12) (h : f_X12_thrown a0 mem0 = some t) : RM G M_X12_thrown d [(2, a0)] z mem0 (some (0, t)) mem0 := by
  suffices H : ∀ Q : rt_P, Q (some (0, t)) z mem0 → RT G M_X12_thrown d z Q 0 [(2, a0)] [] z mem0 from H _ ⟨rfl, rfl, rfl⟩
  intro Q hK
  unfold f_X12_thrown at h
  refine RT.aload_n (pc := 0) (k := 0) (x := a0) dX12_thrown_0 rfl ?_
  obtain ⟨v1, hv1, h⟩ := Option.bind_eq_some_iff.mp h
  refine RT.gf 12 0 0 (pc := 1) (x := a0) (v := v1) hz dX12_thrown_1 fl_X12_171 rfl hv1 ?_
  obtain rfl := Option.some.inj h
  exact RT.iret (pc := 4) dX12_thrown_4 rfl (Nat.le_of_eq (rt_cells_0 z)) (Nat.le_of_eq (rt_slots_0 z)) hK
theorem cj_X12_within_15 {G : rt_G} {d : Nat} {z : Nat × Nat} {Q : rt_P} (hz : 300 ≤ z.1) (hd : 0 ≤ d) (s0 : Int) (mem0 : rt_M) (t : Int) (h : j_X12_within_15 s0 mem0 = some t) (hK : Q (some (0, t)) z mem0) : RT G M_X12_within d z Q 15 [(9, 0), (9, 0), (9, 0)] [(0, s0)] z mem0 := by
  unfold j_X12_within_15 at h
  obtain ⟨w15, hw15, h⟩ := Option.bind_eq_some_iff.mp h
  obtain rfl := Option.some.inj h
  exact RT.zret (pc := 15) dX12_within_15 rfl (rt_bz_ok hw15) (Nat.le_of_eq (rt_cells_0 z)) (Nat.le_of_eq (rt_slots_0 z)) hK
theorem cj_X12_within_14 {G : rt_G} {d : Nat} {z : Nat × Nat} {Q : rt_P} (hz : 300 ≤ z.1) (hd : 0 ≤ d) (mem0 : rt_M) (t : Int) (h : j_X12_within_14 mem0 = some t) (hK : Q (some (0, t)) z mem0) : RT G M_X12_within d z Q 14 [(9, 0), (9, 0), (9, 0)] [] z mem0 := by
  unfold j_X12_within_14 at h
  refine RT.iconst (pc := 14) (n := 0) dX12_within_14 ⟨by decide, by decide⟩ ?_
  exact cj_X12_within_15 hz hd 0 mem0 _ h hK
theorem c_X12_within {G : rt_G} {d : Nat} {z : Nat × Nat} (hz : 300 ≤ z.1) (hd : 0 ≤ d) (a0 : Int) (a1 : Int) (a2 : Int) (mem0 : rt_M) (t : Int) (h : f_X12_within a0 a1 a2 mem0 = some t) : RM G M_X12_within d [(0, a0), (0, a1), (0, a2)] z mem0 (some (0, t)) mem0 := by
  suffices H : ∀ Q : rt_P, Q (some (0, t)) z mem0 → RT G M_X12_within d z Q 0 [(0, a0), (0, a1), (0, a2)] [] z mem0 from H _ ⟨rfl, rfl, rfl⟩
  intro Q hK
  unfold f_X12_within at h
  refine RT.iload_n (pc := 0) (k := 0) (x := a0) dX12_within_0 rfl ?_
  refine RT.iload_n (pc := 1) (k := 1) (x := a1) dX12_within_1 rfl ?_
  refine RT.icmp_lt (pc := 2) (tgt := 14) dX12_within_2 rfl (fun q2 => ?_) (fun q2 => ?_)
  · rw [if_pos q2] at h
    refine RT.wk (L1 := [(9, 0), (9, 0), (9, 0)]) (rt_le_j (rt_le_j (rt_le_j rt_le_n))) ?_
    exact cj_X12_within_14 hz hd mem0 _ h hK
  · rw [if_neg q2] at h
    refine RT.iload_n (pc := 5) (k := 0) (x := a0) dX12_within_5 rfl ?_
    refine RT.iload_n (pc := 6) (k := 2) (x := a2) dX12_within_6 rfl ?_
    refine RT.icmp_gt (pc := 7) (tgt := 14) dX12_within_7 rfl (fun q7 => ?_) (fun q7 => ?_)
    · rw [if_pos q7] at h
      refine RT.wk (L1 := [(9, 0), (9, 0), (9, 0)]) (rt_le_j (rt_le_j (rt_le_j rt_le_n))) ?_
      exact cj_X12_within_14 hz hd mem0 _ h hK
    · rw [if_neg q7] at h
      refine RT.iconst (pc := 10) (n := 1) dX12_within_10 ⟨by decide, by decide⟩ ?_
      refine RT.goto (pc := 11) (tgt := 15) dX12_within_11 rfl ?_
      refine RT.wk (L1 := [(9, 0), (9, 0), (9, 0)]) (rt_le_j (rt_le_j (rt_le_j rt_le_n))) ?_
      exact cj_X12_within_15 hz hd 1 mem0 _ h hK
theorem cj_X12_between_19 {G : rt_G} {d : Nat} {z : Nat × Nat} {Q : rt_P} (hz : 300 ≤ z.1) (hd : 0 ≤ d) (s0 : Int) (mem0 : rt_M) (t : Int) (h : j_X12_between_19 s0 mem0 = some t) (hK : Q (some (0, t)) z mem0) : RT G M_X12_between d z Q 19 [(9, 0), (9, 0), (9, 0)] [(0, s0)] z mem0 := by
  unfold j_X12_between_19 at h
  obtain rfl := Option.some.inj h
  exact RT.iret (pc := 19) dX12_between_19 rfl (Nat.le_of_eq (rt_cells_0 z)) (Nat.le_of_eq (rt_slots_0 z)) hK
theorem c_X12_between {G : rt_G} {d : Nat} {z : Nat × Nat} (hz : 300 ≤ z.1) (hd : 0 ≤ d) (a0 : Int) (a1 : Int) (a2 : Int) (mem0 : rt_M) (t : Int) (h : f_X12_between a0 a1 a2 mem0 = some t) : RM G M_X12_between d [(0, a0), (0, a1), (0, a2)] z mem0 (some (0, t)) mem0 := by
  suffices H : ∀ Q : rt_P, Q (some (0, t)) z mem0 → RT G M_X12_between d z Q 0 [(0, a0), (0, a1), (0, a2)] [] z mem0 from H _ ⟨rfl, rfl, rfl⟩
  intro Q hK
  unfold f_X12_between at h
  refine RT.iload_n (pc := 0) (k := 0) (x := a0) dX12_between_0 rfl ?_
  refine RT.iload_n (pc := 1) (k := 1) (x := a1) dX12_between_1 rfl ?_
  refine RT.icmp_ge (pc := 2) (tgt := 9) dX12_between_2 rfl (fun q2 => ?_) (fun q2 => ?_)
  · rw [if_pos q2] at h
    refine RT.iload_n (pc := 9) (k := 0) (x := a0) dX12_between_9 rfl ?_
    refine RT.iload_n (pc := 10) (k := 2) (x := a2) dX12_between_10 rfl ?_
    refine RT.icmp_le (pc := 11) (tgt := 18) dX12_between_11 rfl (fun q11 => ?_) (fun q11 => ?_)
    · rw [if_pos q11] at h
      refine RT.iload_n (pc := 18) (k := 0) (x := a0) dX12_between_18 rfl ?_
      refine RT.wk (L1 := [(9, 0), (9, 0), (9, 0)]) (rt_le_j (rt_le_j (rt_le_j rt_le_n))) ?_
      exact cj_X12_between_19 hz hd a0 mem0 _ h hK
    · rw [if_neg q11] at h
      refine RT.iload_n (pc := 14) (k := 2) (x := a2) dX12_between_14 rfl ?_
      refine RT.goto (pc := 15) (tgt := 19) dX12_between_15 rfl ?_
      refine RT.wk (L1 := [(9, 0), (9, 0), (9, 0)]) (rt_le_j (rt_le_j (rt_le_j rt_le_n))) ?_
      exact cj_X12_between_19 hz hd a2 mem0 _ h hK
  · rw [if_neg q2] at h
    refine RT.iload_n (pc := 5) (k := 1) (x := a1) dX12_between_5 rfl ?_
    refine RT.goto (pc := 6) (tgt := 19) dX12_between_6 rfl ?_
    refine RT.wk (L1 := [(9, 0), (9, 0), (9, 0)]) (rt_le_j (rt_le_j (rt_le_j rt_le_n))) ?_
    exact cj_X12_between_19 hz hd a1 mem0 _ h hK
theorem cj_X12_feed_114_8 {G : rt_G} {d : Nat} {z : Nat × Nat} {Q : rt_P} (hz : 300 ≤ z.1) (hd : 0 ≤ d) {a0 : Int} (ht : rt_kd a0.toNat = 20 + 12) (a1 : Int) (a3 : Int) (a5 : Int) (a7 : Int) (mem0 : rt_M) (t : (Int × rt_M) ⊕ (rt_M)) (h : j_X12_feed_114_8 a0 a1 a3 a5 a7 mem0 = some t) (hK : (∀ s1 : Int × rt_M, t = .inl s1 → RT G M_X12_feed d z Q 8 [(2, a0), (1, a1), (9, 0), (1, a3), (9, 0), (1, a5), (9, 0), (0, s1.1), (9, 0), (9, 0), (9, 0)] [] z s1.2) ∧ (∀ x1 : rt_M, t = .inr x1 → RT G M_X12_feed d z Q 120 [(2, a0), (9, 0), (9, 0), (9, 0), (9, 0), (9, 0), (9, 0), (9, 0), (9, 0), (9, 0), (9, 0)] [] z x1)) : RT G M_X12_feed d z Q 114 [(2, a0), (1, a1), (9, 0), (1, a3), (9, 0), (1, a5), (9, 0), (0, a7), (9, 0), (9, 0), (9, 0)] [] z mem0 := by
  unfold j_X12_feed_114_8 at h
  refine RT.iinc (pc := 114) (x := a7) (L1 := [(2, a0), (1, a1), (9, 0), (1, a3), (9, 0), (1, a5), (9, 0), (0, (rt_iadd a7 1)), (9, 0), (9, 0), (9, 0)]) dX12_feed_114 rfl (Nat.le_of_ble_eq_true rfl) ⟨by decide, by decide⟩ rfl ?_
  refine RT.goto (pc := 117) (tgt := 8) dX12_feed_117 rfl ?_
  obtain rfl := Option.some.inj h
  have q1 := hK.1 (((rt_iadd a7 1), mem0)) rfl
  try dsimp only at q1
  exact q1
theorem cj_X12_feed_93_8 {G : rt_G} {d : Nat} {z : Nat × Nat} {Q : rt_P} (hz : 300 ≤ z.1) (hd : 0 ≤ d) {a0 : Int} (ht : rt_kd a0.toNat = 20 + 12) (a1 : Int) (a3 : Int) (a5 : Int) (a7 : Int) (a10 : Int) (mem0 : rt_M) (t : (Int × rt_M) ⊕ (rt_M)) (h : j_X12_feed_93_8 a0 a1 a3 a5 a7 a10 mem0 = some t) (hK : (∀ s1 : Int × rt_M, t = .inl s1 → RT G M_X12_feed d z Q 8 [(2, a0), (1, a1), (9, 0), (1, a3), (9, 0), (1, a5), (9, 0), (0, s1.1), (9, 0), (9, 0), (9, 0)] [] z s1.2) ∧ (∀ x1 : rt_M, t = .inr x1 → RT G M_X12_feed d z Q 120 [(2, a0), (9, 0), (9, 0), (9, 0), (9, 0), (9, 0), (9, 0), (9, 0), (9, 0), (9, 0), (9, 0)] [] z x1)) : RT G M_X12_feed d z Q 93 [(2, a0), (1, a1), (9, 0), (1, a3), (9, 0), (1, a5), (9, 0), (0, a7), (9, 0), (9, 0), (0, a10)] [] z mem0 := by
  unfold j_X12_feed_93_8 at h
  refine RT.aload_n (pc := 93) (k := 0) (x := a0) dX12_feed_93 rfl ?_
  obtain ⟨v94, hv94, h⟩ := Option.bind_eq_some_iff.mp h
  refine RT.gf 12 2 2 (pc := 94) (x := a0) (v := v94) hz dX12_feed_94 fl_X12_7 rfl hv94 ?_
  refine RT.aload_n (pc := 97) (k := 0) (x := a0) dX12_feed_97 rfl ?_
  obtain ⟨v98, hv98, h⟩ := Option.bind_eq_some_iff.mp h
  refine RT.gf 12 1 0 (pc := 98) (x := a0) (v := v98) hz dX12_feed_98 fl_X12_177 rfl hv98 ?_
  refine RT.iload (pc := 101) (k := 10) (x := a10) dX12_feed_101 rfl ?_
  obtain ⟨m103, hm103, h⟩ := Option.bind_eq_some_iff.mp h
  refine RT.iast (pc := 103) (x := v94) (i := v98) (v := a10) (mem1 := m103) dX12_feed_103 (rt_lts hz (by decide) (by decide) hm103) hm103 ?_
  refine RT.aload_n (pc := 104) (k := 0) (x := a0) dX12_feed_104 rfl ?_
  refine RT.dup (pc := 105) dX12_feed_105 (show ¬ ((2 : Nat) = 1) by decide) ?_
  obtain ⟨v106, hv106, h⟩ := Option.bind_eq_some_iff.mp h
  refine RT.gf 12 1 0 (pc := 106) (x := a0) (v := v106) hz dX12_feed_106 fl_X12_177 rfl hv106 ?_
  refine RT.iconst (pc := 109) (n := 1) dX12_feed_109 ⟨by decide, by decide⟩ ?_
  refine RT.iadd (pc := 110) dX12_feed_110 ?_
  obtain ⟨m111, hm111, h⟩ := Option.bind_eq_some_iff.mp h
  refine RT.pf_i 12 1 (pc := 111) (mem1 := m111) hz dX12_feed_111 fl_X12_177 rfl rfl rfl hm111 ?_
  refine RT.wk (L1 := [(2, a0), (1, a1), (9, 0), (1, a3), (9, 0), (1, a5), (9, 0), (0, a7), (9, 0), (9, 0), (9, 0)]) (rt_le_s (rt_le_s (rt_le_s (rt_le_s (rt_le_s (rt_le_s (rt_le_s (rt_le_s (rt_le_s (rt_le_s (rt_le_j rt_le_n))))))))))) ?_
  exact cj_X12_feed_114_8 hz hd ht a1 a3 a5 a7 m111 _ h hK
theorem cj_X12_feed_39_8 {G : rt_G} {d : Nat} {z : Nat × Nat} {Q : rt_P} (hz : 300 ≤ z.1) (hd : 0 ≤ d) {a0 : Int} (ht : rt_kd a0.toNat = 20 + 12) (a1 : Int) (a3 : Int) (a5 : Int) (a7 : Int) (s0 : Int) (mem0 : rt_M) (t : (Int × rt_M) ⊕ (rt_M)) (h : j_X12_feed_39_8 a0 a1 a3 a5 a7 s0 mem0 = some t) (hK : (∀ s1 : Int × rt_M, t = .inl s1 → RT G M_X12_feed d z Q 8 [(2, a0), (1, a1), (9, 0), (1, a3), (9, 0), (1, a5), (9, 0), (0, s1.1), (9, 0), (9, 0), (9, 0)] [] z s1.2) ∧ (∀ x1 : rt_M, t = .inr x1 → RT G M_X12_feed d z Q 120 [(2, a0), (9, 0), (9, 0), (9, 0), (9, 0), (9, 0), (9, 0), (9, 0), (9, 0), (9, 0), (9, 0)] [] z x1)) : RT G M_X12_feed d z Q 39 [(2, a0), (1, a1), (9, 0), (1, a3), (9, 0), (1, a5), (9, 0), (0, a7), (9, 0), (9, 0), (9, 0)] [(1, s0)] z mem0 := by
  unfold j_X12_feed_39_8 at h
  refine RT.lstore (pc := 39) (k := 8) (x := s0) (L1 := [(2, a0), (1, a1), (9, 0), (1, a3), (9, 0), (1, a5), (9, 0), (0, a7), (1, s0), (9, 0), (9, 0)]) dX12_feed_39 (Nat.le_of_ble_eq_true rfl) rfl ?_
  refine RT.lload (pc := 41) (k := 8) (x := s0) dX12_feed_41 rfl ?_
  refine RT.bipush (pc := 43) (n := 56) dX12_feed_43 ⟨by decide, by decide⟩ rfl ?_
  refine RT.bipush (pc := 45) (n := 8) dX12_feed_45 ⟨by decide, by decide⟩ rfl ?_
  refine RT.iload (pc := 47) (k := 7) (x := a7) dX12_feed_47 rfl ?_
  refine RT.bipush (pc := 49) (n := 7) dX12_feed_49 ⟨by decide, by decide⟩ rfl ?_
  refine RT.iand (pc := 51) dX12_feed_51 ?_
  refine RT.imul (pc := 52) dX12_feed_52 ?_
  refine RT.isub (pc := 53) dX12_feed_53 ?_
  refine RT.lushr (pc := 54) dX12_feed_54 ?_
  refine RT.ldc2 (pc := 55) (v := 255) dX12_feed_55 kl_X12_175 ⟨by decide, by decide⟩ ?_
  refine RT.land (pc := 58) dX12_feed_58 ?_
  refine RT.l2i (pc := 59) dX12_feed_59 ?_
  refine RT.istore (pc := 60) (k := 10) (x := (rt_l2i (rt_land (rt_lushr s0 (rt_isub 56 (rt_imul 8 (rt_iand a7 7)))) 255))) (L1 := [(2, a0), (1, a1), (9, 0), (1, a3), (9, 0), (1, a5), (9, 0), (0, a7), (1, s0), (9, 0), (0, (rt_l2i (rt_land (rt_lushr s0 (rt_isub 56 (rt_imul 8 (rt_iand a7 7)))) 255)))]) dX12_feed_60 (Nat.le_of_ble_eq_true rfl) rfl ?_
  refine RT.aload_n (pc := 62) (k := 0) (x := a0) dX12_feed_62 rfl ?_
  obtain ⟨v63, hv63, h⟩ := Option.bind_eq_some_iff.mp h
  refine RT.gf 12 1 0 (pc := 63) (x := a0) (v := v63) hz dX12_feed_63 fl_X12_177 rfl hv63 ?_
  refine RT.sipush (pc := 66) (n := 1000) dX12_feed_66 ⟨by decide, by decide⟩ rfl ?_
  refine RT.icmp_ge (pc := 69) (tgt := 114) dX12_feed_69 rfl (fun q69 => ?_) (fun q69 => ?_)
  · rw [if_pos q69] at h
    refine RT.wk (L1 := [(2, a0), (1, a1), (9, 0), (1, a3), (9, 0), (1, a5), (9, 0), (0, a7), (9, 0), (9, 0), (9, 0)]) (rt_le_s (rt_le_s (rt_le_s (rt_le_s (rt_le_s (rt_le_s (rt_le_s (rt_le_s (rt_le_j (rt_le_s (rt_le_j rt_le_n))))))))))) ?_
    exact cj_X12_feed_114_8 hz hd ht a1 a3 a5 a7 mem0 _ h hK
  · rw [if_neg q69] at h
    refine RT.iload (pc := 72) (k := 10) (x := (rt_l2i (rt_land (rt_lushr s0 (rt_isub 56 (rt_imul 8 (rt_iand a7 7)))) 255))) dX12_feed_72 rfl ?_
    refine RT.bipush (pc := 74) (n := 10) dX12_feed_74 ⟨by decide, by decide⟩ rfl ?_
    refine RT.icmp_eq (pc := 76) (tgt := 93) dX12_feed_76 rfl (fun q76 => ?_) (fun q76 => ?_)
    · rw [if_pos q76] at h
      refine RT.wk (L1 := [(2, a0), (1, a1), (9, 0), (1, a3), (9, 0), (1, a5), (9, 0), (0, a7), (9, 0), (9, 0), (0, (rt_l2i (rt_land (rt_lushr s0 (rt_isub 56 (rt_imul 8 (rt_iand a7 7)))) 255)))]) (rt_le_s (rt_le_s (rt_le_s (rt_le_s (rt_le_s (rt_le_s (rt_le_s (rt_le_s (rt_le_j (rt_le_s (rt_le_s rt_le_n))))))))))) ?_
      exact cj_X12_feed_93_8 hz hd ht a1 a3 a5 a7 ((rt_l2i (rt_land (rt_lushr s0 (rt_isub 56 (rt_imul 8 (rt_iand a7 7)))) 255))) mem0 _ h hK
    · rw [if_neg q76] at h
      refine RT.iload (pc := 79) (k := 10) (x := (rt_l2i (rt_land (rt_lushr s0 (rt_isub 56 (rt_imul 8 (rt_iand a7 7)))) 255))) dX12_feed_79 rfl ?_
      refine RT.bipush (pc := 81) (n := 32) dX12_feed_81 ⟨by decide, by decide⟩ rfl ?_
      refine RT.icmp_lt (pc := 83) (tgt := 114) dX12_feed_83 rfl (fun q83 => ?_) (fun q83 => ?_)
      · rw [if_pos q83] at h
        refine RT.wk (L1 := [(2, a0), (1, a1), (9, 0), (1, a3), (9, 0), (1, a5), (9, 0), (0, a7), (9, 0), (9, 0), (9, 0)]) (rt_le_s (rt_le_s (rt_le_s (rt_le_s (rt_le_s (rt_le_s (rt_le_s (rt_le_s (rt_le_j (rt_le_s (rt_le_j rt_le_n))))))))))) ?_
        exact cj_X12_feed_114_8 hz hd ht a1 a3 a5 a7 mem0 _ h hK
      · rw [if_neg q83] at h
        refine RT.iload (pc := 86) (k := 10) (x := (rt_l2i (rt_land (rt_lushr s0 (rt_isub 56 (rt_imul 8 (rt_iand a7 7)))) 255))) dX12_feed_86 rfl ?_
        refine RT.bipush (pc := 88) (n := 126) dX12_feed_88 ⟨by decide, by decide⟩ rfl ?_
        refine RT.icmp_gt (pc := 90) (tgt := 114) dX12_feed_90 rfl (fun q90 => ?_) (fun q90 => ?_)
        · rw [if_pos q90] at h
          refine RT.wk (L1 := [(2, a0), (1, a1), (9, 0), (1, a3), (9, 0), (1, a5), (9, 0), (0, a7), (9, 0), (9, 0), (9, 0)]) (rt_le_s (rt_le_s (rt_le_s (rt_le_s (rt_le_s (rt_le_s (rt_le_s (rt_le_s (rt_le_j (rt_le_s (rt_le_j rt_le_n))))))))))) ?_
          exact cj_X12_feed_114_8 hz hd ht a1 a3 a5 a7 mem0 _ h hK
        · rw [if_neg q90] at h
          refine RT.wk (L1 := [(2, a0), (1, a1), (9, 0), (1, a3), (9, 0), (1, a5), (9, 0), (0, a7), (9, 0), (9, 0), (0, (rt_l2i (rt_land (rt_lushr s0 (rt_isub 56 (rt_imul 8 (rt_iand a7 7)))) 255)))]) (rt_le_s (rt_le_s (rt_le_s (rt_le_s (rt_le_s (rt_le_s (rt_le_s (rt_le_s (rt_le_j (rt_le_s (rt_le_s rt_le_n))))))))))) ?_
          exact cj_X12_feed_93_8 hz hd ht a1 a3 a5 a7 ((rt_l2i (rt_land (rt_lushr s0 (rt_isub 56 (rt_imul 8 (rt_iand a7 7)))) 255))) mem0 _ h hK
theorem cb_X12_feed_8 {G : rt_G} {d : Nat} {z : Nat × Nat} {Q : rt_P} (hz : 300 ≤ z.1) (hd : 0 ≤ d) {a0 : Int} (ht : rt_kd a0.toNat = 20 + 12) (a1 : Int) (a3 : Int) (a5 : Int) (s : Int × rt_M) (t : (Int × rt_M) ⊕ (rt_M)) (h : b_X12_feed_8 a0 a1 a3 a5 s = some t) (hK : (∀ s1 : Int × rt_M, t = .inl s1 → RT G M_X12_feed d z Q 8 [(2, a0), (1, a1), (9, 0), (1, a3), (9, 0), (1, a5), (9, 0), (0, s1.1), (9, 0), (9, 0), (9, 0)] [] z s1.2) ∧ (∀ x1 : rt_M, t = .inr x1 → RT G M_X12_feed d z Q 120 [(2, a0), (9, 0), (9, 0), (9, 0), (9, 0), (9, 0), (9, 0), (9, 0), (9, 0), (9, 0), (9, 0)] [] z x1)) : RT G M_X12_feed d z Q 8 [(2, a0), (1, a1), (9, 0), (1, a3), (9, 0), (1, a5), (9, 0), (0, s.1), (9, 0), (9, 0), (9, 0)] [] z s.2 := by
  unfold b_X12_feed_8 at h
  refine RT.iload (pc := 8) (k := 7) (x := s.1) dX12_feed_8 rfl ?_
  refine RT.bipush (pc := 10) (n := 24) dX12_feed_10 ⟨by decide, by decide⟩ rfl ?_
  refine RT.icmp_ge (pc := 12) (tgt := 120) dX12_feed_12 rfl (fun q12 => ?_) (fun q12 => ?_)
  · rw [if_pos q12] at h
    refine RT.wk (L1 := [(2, a0), (9, 0), (9, 0), (9, 0), (9, 0), (9, 0), (9, 0), (9, 0), (9, 0), (9, 0), (9, 0)]) (rt_le_s (rt_le_j (rt_le_s (rt_le_j (rt_le_s (rt_le_j (rt_le_s (rt_le_j (rt_le_s (rt_le_s (rt_le_s rt_le_n))))))))))) ?_
    obtain rfl := Option.some.inj h
    have q1 := hK.2 s.2 rfl
    try dsimp only at q1
    exact q1
  · rw [if_neg q12] at h
    refine RT.iload (pc := 15) (k := 7) (x := s.1) dX12_feed_15 rfl ?_
    refine RT.bipush (pc := 17) (n := 8) dX12_feed_17 ⟨by decide, by decide⟩ rfl ?_
    refine RT.icmp_ge (pc := 19) (tgt := 26) dX12_feed_19 rfl (fun q19 => ?_) (fun q19 => ?_)
    · rw [if_pos q19] at h
      refine RT.iload (pc := 26) (k := 7) (x := s.1) dX12_feed_26 rfl ?_
      refine RT.bipush (pc := 28) (n := 16) dX12_feed_28 ⟨by decide, by decide⟩ rfl ?_
      refine RT.icmp_ge (pc := 30) (tgt := 37) dX12_feed_30 rfl (fun q30 => ?_) (fun q30 => ?_)
      · rw [if_pos q30] at h
        refine RT.lload (pc := 37) (k := 5) (x := a5) dX12_feed_37 rfl ?_
        exact cj_X12_feed_39_8 hz hd ht a1 a3 a5 s.1 a5 s.2 _ h hK
      · rw [if_neg q30] at h
        refine RT.lload_n (pc := 33) (k := 3) (x := a3) dX12_feed_33 rfl ?_
        refine RT.goto (pc := 34) (tgt := 39) dX12_feed_34 rfl ?_
        exact cj_X12_feed_39_8 hz hd ht a1 a3 a5 s.1 a3 s.2 _ h hK
    · rw [if_neg q19] at h
      refine RT.lload_n (pc := 22) (k := 1) (x := a1) dX12_feed_22 rfl ?_
      refine RT.goto (pc := 23) (tgt := 39) dX12_feed_23 rfl ?_
      exact cj_X12_feed_39_8 hz hd ht a1 a3 a5 s.1 a1 s.2 _ h hK
theorem c_X12_feed {G : rt_G} {d : Nat} {z : Nat × Nat} (hz : 300 ≤ z.1) (hd : 0 ≤ d) (a0 : Int) (a1 : Int) (a3 : Int) (a5 : Int) (mem0 : rt_M) (t : Int × rt_M) (ht : rt_kd a0.toNat = 20 + 12) (h : f_X12_feed a0 a1 a3 a5 mem0 = some t) : RM G M_X12_feed d [(2, a0), (1, a1), (1, a3), (1, a5)] z mem0 (some (0, t.1)) t.2 := by
  suffices H : ∀ Q : rt_P, Q (some (0, t.1)) z t.2 → RT G M_X12_feed d z Q 0 [(2, a0), (1, a1), (9, 0), (1, a3), (9, 0), (1, a5), (9, 0), (9, 0), (9, 0), (9, 0), (9, 0)] [] z mem0 from H _ ⟨rfl, rfl, rfl⟩
  intro Q hK
  unfold f_X12_feed at h
  refine RT.aload_n (pc := 0) (k := 0) (x := a0) dX12_feed_0 rfl ?_
  refine RT.iconst (pc := 1) (n := 0) dX12_feed_1 ⟨by decide, by decide⟩ ?_
  obtain ⟨m2, hm2, h⟩ := Option.bind_eq_some_iff.mp h
  refine RT.pf_i 12 0 (pc := 2) (mem1 := m2) hz dX12_feed_2 fl_X12_171 rfl rfl rfl hm2 ?_
  refine RT.iconst (pc := 5) (n := 0) dX12_feed_5 ⟨by decide, by decide⟩ ?_
  refine RT.istore (pc := 6) (k := 7) (x := 0) (L1 := [(2, a0), (1, a1), (9, 0), (1, a3), (9, 0), (1, a5), (9, 0), (0, 0), (9, 0), (9, 0), (9, 0)]) dX12_feed_6 (Nat.le_of_ble_eq_true rfl) rfl ?_
  obtain ⟨X8, hX8, h⟩ := Option.bind_eq_some_iff.mp h
  refine rt_it_ind (P := (fun s1 : Int × rt_M => RT G M_X12_feed d z Q 8 [(2, a0), (1, a1), (9, 0), (1, a3), (9, 0), (1, a5), (9, 0), (0, s1.1), (9, 0), (9, 0), (9, 0)] [] z s1.2)) (X := (fun x1 : rt_M => RT G M_X12_feed d z Q 120 [(2, a0), (9, 0), (9, 0), (9, 0), (9, 0), (9, 0), (9, 0), (9, 0), (9, 0), (9, 0), (9, 0)] [] z x1)) (fun s1 t1 h1 k1 k2 => cb_X12_feed_8 hz hd ht a1 a3 a5 s1 t1 h1 ⟨k1, k2⟩) 4000 ((0, m2)) X8 hX8 ?_
  refine RT.aload_n (pc := 120) (k := 0) (x := a0) dX12_feed_120 rfl ?_
  obtain ⟨v121, hv121, h⟩ := Option.bind_eq_some_iff.mp h
  refine RT.gf 12 1 0 (pc := 121) (x := a0) (v := v121) hz dX12_feed_121 fl_X12_177 rfl hv121 ?_
  obtain rfl := Option.some.inj h
  exact RT.iret (pc := 124) dX12_feed_124 rfl (Nat.le_of_eq (rt_cells_0 z)) (Nat.le_of_eq (rt_slots_0 z)) hK
theorem cj_X12_signAt_18 {G : rt_G} {d : Nat} {z : Nat × Nat} {Q : rt_P} (hz : 300 ≤ z.1) (hd : 0 ≤ d) {a0 : Int} (ht : rt_kd a0.toNat = 20 + 12) (s0 : Int) (mem0 : rt_M) (t : Int) (h : j_X12_signAt_18 s0 mem0 = some t) (hK : Q (some (0, t)) z mem0) : RT G M_X12_signAt d z Q 18 [(9, 0), (9, 0)] [(0, s0)] z mem0 := by
  unfold j_X12_signAt_18 at h
  obtain rfl := Option.some.inj h
  exact RT.iret (pc := 18) dX12_signAt_18 rfl (Nat.le_of_eq (rt_cells_0 z)) (Nat.le_of_eq (rt_slots_0 z)) hK
theorem c_X12_signAt {G : rt_G} {d : Nat} {z : Nat × Nat} (hz : 300 ≤ z.1) (hd : 0 ≤ d) (a0 : Int) (a1 : Int) (mem0 : rt_M) (t : Int) (ht : rt_kd a0.toNat = 20 + 12) (h : f_X12_signAt a0 a1 mem0 = some t) : RM G M_X12_signAt d [(2, a0), (0, a1)] z mem0 (some (0, t)) mem0 := by
  suffices H : ∀ Q : rt_P, Q (some (0, t)) z mem0 → RT G M_X12_signAt d z Q 0 [(2, a0), (0, a1)] [] z mem0 from H _ ⟨rfl, rfl, rfl⟩
  intro Q hK
  unfold f_X12_signAt at h
  refine RT.iload_n (pc := 0) (k := 1) (x := a1) dX12_signAt_0 rfl ?_
  refine RT.aload_n (pc := 1) (k := 0) (x := a0) dX12_signAt_1 rfl ?_
  obtain ⟨v2, hv2, h⟩ := Option.bind_eq_some_iff.mp h
  refine RT.gf 12 3 0 (pc := 2) (x := a0) (v := v2) hz dX12_signAt_2 fl_X12_180 rfl hv2 ?_
  refine RT.icmp_ge (pc := 5) (tgt := 17) dX12_signAt_5 rfl (fun q5 => ?_) (fun q5 => ?_)
  · rw [if_pos q5] at h
    refine RT.iconst (pc := 17) (n := 0) dX12_signAt_17 ⟨by decide, by decide⟩ ?_
    refine RT.wk (L1 := [(9, 0), (9, 0)]) (rt_le_j (rt_le_j rt_le_n)) ?_
    exact cj_X12_signAt_18 hz hd ht 0 mem0 _ h hK
  · rw [if_neg q5] at h
    refine RT.aload_n (pc := 8) (k := 0) (x := a0) dX12_signAt_8 rfl ?_
    obtain ⟨v9, hv9, h⟩ := Option.bind_eq_some_iff.mp h
    refine RT.gf 12 2 2 (pc := 9) (x := a0) (v := v9) hz dX12_signAt_9 fl_X12_7 rfl hv9 ?_
    refine RT.iload_n (pc := 12) (k := 1) (x := a1) dX12_signAt_12 rfl ?_
    obtain ⟨v13, hv13, h⟩ := Option.bind_eq_some_iff.mp h
    refine RT.iald (pc := 13) (x := v9) (i := a1) (v := v13) dX12_signAt_13 (rt_lta hz (by decide) (by decide) hv13) hv13 ?_
    refine RT.goto (pc := 14) (tgt := 18) dX12_signAt_14 rfl ?_
    refine RT.wk (L1 := [(9, 0), (9, 0)]) (rt_le_j (rt_le_j rt_le_n)) ?_
    exact cj_X12_signAt_18 hz hd ht v13 mem0 _ h hK
theorem cj_X12_nextToken_39_0 {G : rt_G} {d : Nat} {z : Nat × Nat} {Q : rt_P} (hz : 300 ≤ z.1) (hd : 1 ≤ d) {a0 : Int} (ht : rt_kd a0.toNat = 20 + 12) (mem0 : rt_M) (t : (rt_M) ⊕ (rt_M)) (h : j_X12_nextToken_39_0 a0 mem0 = some t) (hK : (∀ s1 : rt_M, t = .inl s1 → RT G M_X12_nextToken d z Q 0 [(2, a0), (9, 0)] [] z s1) ∧ (∀ x1 : rt_M, t = .inr x1 → RT G M_X12_nextToken d z Q 52 [(2, a0), (9, 0)] [] z x1)) : RT G M_X12_nextToken d z Q 39 [(2, a0), (9, 0)] [] z mem0 := by
  unfold j_X12_nextToken_39_0 at h
  refine RT.aload_n (pc := 39) (k := 0) (x := a0) dX12_nextToken_39 rfl ?_
  refine RT.dup (pc := 40) dX12_nextToken_40 (show ¬ ((2 : Nat) = 1) by decide) ?_
  obtain ⟨v41, hv41, h⟩ := Option.bind_eq_some_iff.mp h
  refine RT.gf 12 4 0 (pc := 41) (x := a0) (v := v41) hz dX12_nextToken_41 fl_X12_183 rfl hv41 ?_
  refine RT.iconst (pc := 44) (n := 1) dX12_nextToken_44 ⟨by decide, by decide⟩ ?_
  refine RT.iadd (pc := 45) dX12_nextToken_45 ?_
  obtain ⟨m46, hm46, h⟩ := Option.bind_eq_some_iff.mp h
  refine RT.pf_i 12 4 (pc := 46) (mem1 := m46) hz dX12_nextToken_46 fl_X12_183 rfl rfl rfl hm46 ?_
  refine RT.goto (pc := 49) (tgt := 0) dX12_nextToken_49 rfl ?_
  obtain rfl := Option.some.inj h
  have q1 := hK.1 m46 rfl
  try dsimp only at q1
  exact q1
theorem cb_X12_nextToken_0 {G : rt_G} {d : Nat} {z : Nat × Nat} {Q : rt_P} (hz : 300 ≤ z.1) (hd : 1 ≤ d) {a0 : Int} (ht : rt_kd a0.toNat = 20 + 12) (s : rt_M) (t : (rt_M) ⊕ (rt_M)) (h : b_X12_nextToken_0 a0 s = some t) (hK : (∀ s1 : rt_M, t = .inl s1 → RT G M_X12_nextToken d z Q 0 [(2, a0), (9, 0)] [] z s1) ∧ (∀ x1 : rt_M, t = .inr x1 → RT G M_X12_nextToken d z Q 52 [(2, a0), (9, 0)] [] z x1)) : RT G M_X12_nextToken d z Q 0 [(2, a0), (9, 0)] [] z s := by
  unfold b_X12_nextToken_0 at h
  refine RT.aload_n (pc := 0) (k := 0) (x := a0) dX12_nextToken_0 rfl ?_
  obtain ⟨v1, hv1, h⟩ := Option.bind_eq_some_iff.mp h
  refine RT.gf 12 4 0 (pc := 1) (x := a0) (v := v1) hz dX12_nextToken_1 fl_X12_183 rfl hv1 ?_
  refine RT.aload_n (pc := 4) (k := 0) (x := a0) dX12_nextToken_4 rfl ?_
  obtain ⟨v5, hv5, h⟩ := Option.bind_eq_some_iff.mp h
  refine RT.gf 12 3 0 (pc := 5) (x := a0) (v := v5) hz dX12_nextToken_5 fl_X12_180 rfl hv5 ?_
  refine RT.icmp_ge (pc := 8) (tgt := 52) dX12_nextToken_8 rfl (fun q8 => ?_) (fun q8 => ?_)
  · rw [if_pos q8] at h
    obtain rfl := Option.some.inj h
    have q1 := hK.2 s rfl
    try dsimp only at q1
    exact q1
  · rw [if_neg q8] at h
    refine RT.aload_n (pc := 11) (k := 0) (x := a0) dX12_nextToken_11 rfl ?_
    obtain ⟨v12, hv12, h⟩ := Option.bind_eq_some_iff.mp h
    refine RT.gf 12 2 2 (pc := 12) (x := a0) (v := v12) hz dX12_nextToken_12 fl_X12_7 rfl hv12 ?_
    refine RT.aload_n (pc := 15) (k := 0) (x := a0) dX12_nextToken_15 rfl ?_
    obtain ⟨v16, hv16, h⟩ := Option.bind_eq_some_iff.mp h
    refine RT.gf 12 4 0 (pc := 16) (x := a0) (v := v16) hz dX12_nextToken_16 fl_X12_183 rfl hv16 ?_
    obtain ⟨v19, hv19, h⟩ := Option.bind_eq_some_iff.mp h
    refine RT.iald (pc := 19) (x := v12) (i := v16) (v := v19) dX12_nextToken_19 (rt_lta hz (by decide) (by decide) hv19) hv19 ?_
    refine RT.bipush (pc := 20) (n := 32) dX12_nextToken_20 ⟨by decide, by decide⟩ rfl ?_
    refine RT.icmp_eq (pc := 22) (tgt := 39) dX12_nextToken_22 rfl (fun q22 => ?_) (fun q22 => ?_)
    · rw [if_pos q22] at h
      exact cj_X12_nextToken_39_0 hz hd ht s _ h hK
    · rw [if_neg q22] at h
      refine RT.aload_n (pc := 25) (k := 0) (x := a0) dX12_nextToken_25 rfl ?_
      obtain ⟨v26, hv26, h⟩ := Option.bind_eq_some_iff.mp h
      refine RT.gf 12 2 2 (pc := 26) (x := a0) (v := v26) hz dX12_nextToken_26 fl_X12_7 rfl hv26 ?_
      refine RT.aload_n (pc := 29) (k := 0) (x := a0) dX12_nextToken_29 rfl ?_
      obtain ⟨v30, hv30, h⟩ := Option.bind_eq_some_iff.mp h
      refine RT.gf 12 4 0 (pc := 30) (x := a0) (v := v30) hz dX12_nextToken_30 fl_X12_183 rfl hv30 ?_
      obtain ⟨v33, hv33, h⟩ := Option.bind_eq_some_iff.mp h
      refine RT.iald (pc := 33) (x := v26) (i := v30) (v := v33) dX12_nextToken_33 (rt_lta hz (by decide) (by decide) hv33) hv33 ?_
      refine RT.bipush (pc := 34) (n := 10) dX12_nextToken_34 ⟨by decide, by decide⟩ rfl ?_
      refine RT.icmp_ne (pc := 36) (tgt := 52) dX12_nextToken_36 rfl (fun q36 => ?_) (fun q36 => ?_)
      · rw [if_neg q36] at h
        obtain rfl := Option.some.inj h
        have q1 := hK.2 s rfl
        try dsimp only at q1
        exact q1
      · rw [if_pos (Classical.not_not.mp q36)] at h
        exact cj_X12_nextToken_39_0 hz hd ht s _ h hK
theorem cj_X12_nextToken_368 {G : rt_G} {d : Nat} {z : Nat × Nat} {Q : rt_P} (hz : 300 ≤ z.1) (hd : 1 ≤ d) {a0 : Int} (ht : rt_kd a0.toNat = 20 + 12) (s0 : Int) (s1 : Int) (mem0 : rt_M) (t : rt_M) (h : j_X12_nextToken_368 s0 s1 mem0 = some t) (hK : Q none z t) : RT G M_X12_nextToken d z Q 368 [(9, 0), (9, 0)] [(0, s1), (2, s0)] z mem0 := by
  unfold j_X12_nextToken_368 at h
  obtain ⟨m368, hm368, h⟩ := Option.bind_eq_some_iff.mp h
  refine RT.pf_i 12 6 (pc := 368) (mem1 := m368) hz dX12_nextToken_368 fl_X12_196 rfl rfl rfl hm368 ?_
  obtain rfl := Option.some.inj h
  exact RT.vret (pc := 371) dX12_nextToken_371 rfl (Nat.le_of_eq (rt_cells_0 z)) (Nat.le_of_eq (rt_slots_0 z)) hK
theorem cj_X12_nextToken_363 {G : rt_G} {d : Nat} {z : Nat × Nat} {Q : rt_P} (hz : 300 ≤ z.1) (hd : 1 ≤ d) {a0 : Int} (ht : rt_kd a0.toNat = 20 + 12) (s0 : Int) (mem0 : rt_M) (t : rt_M) (h : j_X12_nextToken_363 s0 mem0 = some t) (hK : Q none z t) : RT G M_X12_nextToken d z Q 363 [(9, 0), (9, 0)] [(2, s0)] z mem0 := by
  unfold j_X12_nextToken_363 at h
  refine RT.iconst (pc := 363) (n := 3) dX12_nextToken_363 ⟨by decide, by decide⟩ ?_
  refine RT.goto (pc := 364) (tgt := 368) dX12_nextToken_364 rfl ?_
  exact cj_X12_nextToken_368 hz hd ht s0 3 mem0 _ h hK
theorem cj_X12_nextToken_367 {G : rt_G} {d : Nat} {z : Nat × Nat} {Q : rt_P} (hz : 300 ≤ z.1) (hd : 1 ≤ d) {a0 : Int} (ht : rt_kd a0.toNat = 20 + 12) (s0 : Int) (mem0 : rt_M) (t : rt_M) (h : j_X12_nextToken_367 s0 mem0 = some t) (hK : Q none z t) : RT G M_X12_nextToken d z Q 367 [(9, 0), (9, 0)] [(2, s0)] z mem0 := by
  unfold j_X12_nextToken_367 at h
  refine RT.iconst (pc := 367) (n := 4) dX12_nextToken_367 ⟨by decide, by decide⟩ ?_
  exact cj_X12_nextToken_368 hz hd ht s0 4 mem0 _ h hK
theorem cj_X12_nextToken_345 {G : rt_G} {d : Nat} {z : Nat × Nat} {Q : rt_P} (hz : 300 ≤ z.1) (hd : 1 ≤ d) {a0 : Int} (ht : rt_kd a0.toNat = 20 + 12) (a1 : Int) (s0 : Int) (mem0 : rt_M) (t : rt_M) (h : j_X12_nextToken_345 a1 s0 mem0 = some t) (hK : Q none z t) : RT G M_X12_nextToken d z Q 345 [(9, 0), (0, a1)] [(2, s0)] z mem0 := by
  unfold j_X12_nextToken_345 at h
  refine RT.iload_n (pc := 345) (k := 1) (x := a1) dX12_nextToken_345 rfl ?_
  refine RT.bipush (pc := 346) (n := 45) dX12_nextToken_346 ⟨by decide, by decide⟩ rfl ?_
  refine RT.icmp_eq (pc := 348) (tgt := 363) dX12_nextToken_348 rfl (fun q348 => ?_) (fun q348 => ?_)
  · rw [if_pos q348] at h
    refine RT.wk (L1 := [(9, 0), (9, 0)]) (rt_le_s (rt_le_j rt_le_n)) ?_
    exact cj_X12_nextToken_363 hz hd ht s0 mem0 _ h hK
  · rw [if_neg q348] at h
    refine RT.iload_n (pc := 351) (k := 1) (x := a1) dX12_nextToken_351 rfl ?_
    refine RT.bipush (pc := 352) (n := 59) dX12_nextToken_352 ⟨by decide, by decide⟩ rfl ?_
    refine RT.icmp_lt (pc := 354) (tgt := 367) dX12_nextToken_354 rfl (fun q354 => ?_) (fun q354 => ?_)
    · rw [if_pos q354] at h
      refine RT.wk (L1 := [(9, 0), (9, 0)]) (rt_le_s (rt_le_j rt_le_n)) ?_
      exact cj_X12_nextToken_367 hz hd ht s0 mem0 _ h hK
    · rw [if_neg q354] at h
      refine RT.iload_n (pc := 357) (k := 1) (x := a1) dX12_nextToken_357 rfl ?_
      refine RT.bipush (pc := 358) (n := 61) dX12_nextToken_358 ⟨by decide, by decide⟩ rfl ?_
      refine RT.icmp_gt (pc := 360) (tgt := 367) dX12_nextToken_360 rfl (fun q360 => ?_) (fun q360 => ?_)
      · rw [if_pos q360] at h
        refine RT.wk (L1 := [(9, 0), (9, 0)]) (rt_le_s (rt_le_j rt_le_n)) ?_
        exact cj_X12_nextToken_367 hz hd ht s0 mem0 _ h hK
      · rw [if_neg q360] at h
        refine RT.wk (L1 := [(9, 0), (9, 0)]) (rt_le_s (rt_le_j rt_le_n)) ?_
        exact cj_X12_nextToken_363 hz hd ht s0 mem0 _ h hK
theorem cj_X12_nextToken_322 {G : rt_G} {d : Nat} {z : Nat × Nat} {Q : rt_P} (hz : 300 ≤ z.1) (hd : 1 ≤ d) {a0 : Int} (ht : rt_kd a0.toNat = 20 + 12) (a1 : Int) (mem0 : rt_M) (t : rt_M) (h : j_X12_nextToken_322 a0 a1 mem0 = some t) (hK : Q none z t) : RT G M_X12_nextToken d z Q 322 [(2, a0), (0, a1)] [] z mem0 := by
  unfold j_X12_nextToken_322 at h
  refine RT.aload_n (pc := 322) (k := 0) (x := a0) dX12_nextToken_322 rfl ?_
  refine RT.dup (pc := 323) dX12_nextToken_323 (show ¬ ((2 : Nat) = 1) by decide) ?_
  obtain ⟨v324, hv324, h⟩ := Option.bind_eq_some_iff.mp h
  refine RT.gf 12 4 0 (pc := 324) (x := a0) (v := v324) hz dX12_nextToken_324 fl_X12_183 rfl hv324 ?_
  refine RT.iconst (pc := 327) (n := 1) dX12_nextToken_327 ⟨by decide, by decide⟩ ?_
  refine RT.iadd (pc := 328) dX12_nextToken_328 ?_
  obtain ⟨m329, hm329, h⟩ := Option.bind_eq_some_iff.mp h
  refine RT.pf_i 12 4 (pc := 329) (mem1 := m329) hz dX12_nextToken_329 fl_X12_183 rfl rfl rfl hm329 ?_
  refine RT.aload_n (pc := 332) (k := 0) (x := a0) dX12_nextToken_332 rfl ?_
  refine RT.iload_n (pc := 333) (k := 1) (x := a1) dX12_nextToken_333 rfl ?_
  refine RT.bipush (pc := 334) (n := 40) dX12_nextToken_334 ⟨by decide, by decide⟩ rfl ?_
  refine RT.icmp_lt (pc := 336) (tgt := 345) dX12_nextToken_336 rfl (fun q336 => ?_) (fun q336 => ?_)
  · rw [if_pos q336] at h
    refine RT.wk (L1 := [(9, 0), (0, a1)]) (rt_le_j (rt_le_s rt_le_n)) ?_
    exact cj_X12_nextToken_345 hz hd ht a1 a0 m329 _ h hK
  · rw [if_neg q336] at h
    refine RT.iload_n (pc := 339) (k := 1) (x := a1) dX12_nextToken_339 rfl ?_
    refine RT.bipush (pc := 340) (n := 43) dX12_nextToken_340 ⟨by decide, by decide⟩ rfl ?_
    refine RT.icmp_le (pc := 342) (tgt := 363) dX12_nextToken_342 rfl (fun q342 => ?_) (fun q342 => ?_)
    · rw [if_pos q342] at h
      refine RT.wk (L1 := [(9, 0), (9, 0)]) (rt_le_j (rt_le_j rt_le_n)) ?_
      exact cj_X12_nextToken_363 hz hd ht a0 m329 _ h hK
    · rw [if_neg q342] at h
      refine RT.wk (L1 := [(9, 0), (0, a1)]) (rt_le_j (rt_le_s rt_le_n)) ?_
      exact cj_X12_nextToken_345 hz hd ht a1 a0 m329 _ h hK
theorem cj_X12_nextToken_286_224 {G : rt_G} {d : Nat} {z : Nat × Nat} {Q : rt_P} (hz : 300 ≤ z.1) (hd : 1 ≤ d) {a0 : Int} (ht : rt_kd a0.toNat = 20 + 12) (mem0 : rt_M) (t : (rt_M) ⊕ (rt_M)) (h : j_X12_nextToken_286_224 a0 mem0 = some t) (hK : (∀ s1 : rt_M, t = .inl s1 → RT G M_X12_nextToken d z Q 224 [(2, a0), (9, 0)] [] z s1) ∧ (∀ x1 : rt_M, t = .inr x1 → RT G M_X12_nextToken d z Q 299 [(2, a0), (9, 0)] [] z x1)) : RT G M_X12_nextToken d z Q 286 [(2, a0), (9, 0)] [] z mem0 := by
  unfold j_X12_nextToken_286_224 at h
  refine RT.aload_n (pc := 286) (k := 0) (x := a0) dX12_nextToken_286 rfl ?_
  refine RT.dup (pc := 287) dX12_nextToken_287 (show ¬ ((2 : Nat) = 1) by decide) ?_
  obtain ⟨v288, hv288, h⟩ := Option.bind_eq_some_iff.mp h
  refine RT.gf 12 4 0 (pc := 288) (x := a0) (v := v288) hz dX12_nextToken_288 fl_X12_183 rfl hv288 ?_
  refine RT.iconst (pc := 291) (n := 1) dX12_nextToken_291 ⟨by decide, by decide⟩ ?_
  refine RT.iadd (pc := 292) dX12_nextToken_292 ?_
  obtain ⟨m293, hm293, h⟩ := Option.bind_eq_some_iff.mp h
  refine RT.pf_i 12 4 (pc := 293) (mem1 := m293) hz dX12_nextToken_293 fl_X12_183 rfl rfl rfl hm293 ?_
  refine RT.goto (pc := 296) (tgt := 224) dX12_nextToken_296 rfl ?_
  obtain rfl := Option.some.inj h
  have q1 := hK.1 m293 rfl
  try dsimp only at q1
  exact q1
theorem cb_X12_nextToken_224 {G : rt_G} {d : Nat} {z : Nat × Nat} {Q : rt_P} (hz : 300 ≤ z.1) (hd : 1 ≤ d) {a0 : Int} (ht : rt_kd a0.toNat = 20 + 12) (s : rt_M) (t : (rt_M) ⊕ (rt_M)) (h : b_X12_nextToken_224 a0 s = some t) (hK : (∀ s1 : rt_M, t = .inl s1 → RT G M_X12_nextToken d z Q 224 [(2, a0), (9, 0)] [] z s1) ∧ (∀ x1 : rt_M, t = .inr x1 → RT G M_X12_nextToken d z Q 299 [(2, a0), (9, 0)] [] z x1)) : RT G M_X12_nextToken d z Q 224 [(2, a0), (9, 0)] [] z s := by
  unfold b_X12_nextToken_224 at h
  refine RT.aload_n (pc := 224) (k := 0) (x := a0) dX12_nextToken_224 rfl ?_
  refine RT.aload_n (pc := 225) (k := 0) (x := a0) dX12_nextToken_225 rfl ?_
  obtain ⟨v226, hv226, h⟩ := Option.bind_eq_some_iff.mp h
  refine RT.gf 12 4 0 (pc := 226) (x := a0) (v := v226) hz dX12_nextToken_226 fl_X12_183 rfl hv226 ?_
  obtain ⟨p229, hp229, h⟩ := Option.bind_eq_some_iff.mp h
  refine RT.cVz (pc := 229) (M' := M_X12_signAt) (ci := 12) (x := a0) (As := [(0, v226)]) (st := []) (r := some (0, p229)) (mem1 := s) (d' := d - 1) hz dX12_nextToken_229 mw_X12_signAt ml_X12_199 mi_X12_signAt ht rfl rfl (Nat.le_of_ble_eq_true rfl) (Nat.le_of_ble_eq_true rfl) (by omega) rfl rfl (c_X12_signAt hz (by omega) a0 v226 s _ ht hp229) ?_
  refine RT.bipush (pc := 232) (n := 48) dX12_nextToken_232 ⟨by decide, by decide⟩ rfl ?_
  refine RT.icmp_lt (pc := 234) (tgt := 299) dX12_nextToken_234 rfl (fun q234 => ?_) (fun q234 => ?_)
  · rw [if_pos q234] at h
    obtain rfl := Option.some.inj h
    have q1 := hK.2 s rfl
    try dsimp only at q1
    exact q1
  · rw [if_neg q234] at h
    refine RT.aload_n (pc := 237) (k := 0) (x := a0) dX12_nextToken_237 rfl ?_
    refine RT.aload_n (pc := 238) (k := 0) (x := a0) dX12_nextToken_238 rfl ?_
    obtain ⟨v239, hv239, h⟩ := Option.bind_eq_some_iff.mp h
    refine RT.gf 12 4 0 (pc := 239) (x := a0) (v := v239) hz dX12_nextToken_239 fl_X12_183 rfl hv239 ?_
    obtain ⟨p242, hp242, h⟩ := Option.bind_eq_some_iff.mp h
    refine RT.cVz (pc := 242) (M' := M_X12_signAt) (ci := 12) (x := a0) (As := [(0, v239)]) (st := []) (r := some (0, p242)) (mem1 := s) (d' := d - 1) hz dX12_nextToken_242 mw_X12_signAt ml_X12_199 mi_X12_signAt ht rfl rfl (Nat.le_of_ble_eq_true rfl) (Nat.le_of_ble_eq_true rfl) (by omega) rfl rfl (c_X12_signAt hz (by omega) a0 v239 s _ ht hp242) ?_
    refine RT.bipush (pc := 245) (n := 57) dX12_nextToken_245 ⟨by decide, by decide⟩ rfl ?_
    refine RT.icmp_gt (pc := 247) (tgt := 299) dX12_nextToken_247 rfl (fun q247 => ?_) (fun q247 => ?_)
    · rw [if_pos q247] at h
      obtain rfl := Option.some.inj h
      have q1 := hK.2 s rfl
      try dsimp only at q1
      exact q1
    · rw [if_neg q247] at h
      refine RT.aload_n (pc := 250) (k := 0) (x := a0) dX12_nextToken_250 rfl ?_
      obtain ⟨v251, hv251, h⟩ := Option.bind_eq_some_iff.mp h
      refine RT.gf 12 4 0 (pc := 251) (x := a0) (v := v251) hz dX12_nextToken_251 fl_X12_183 rfl hv251 ?_
      refine RT.aload_n (pc := 254) (k := 0) (x := a0) dX12_nextToken_254 rfl ?_
      obtain ⟨v255, hv255, h⟩ := Option.bind_eq_some_iff.mp h
      refine RT.gf 12 5 0 (pc := 255) (x := a0) (v := v255) hz dX12_nextToken_255 fl_X12_186 rfl hv255 ?_
      refine RT.isub (pc := 258) dX12_nextToken_258 ?_
      refine RT.iconst (pc := 259) (n := 4) dX12_nextToken_259 ⟨by decide, by decide⟩ ?_
      refine RT.icmp_ge (pc := 260) (tgt := 286) dX12_nextToken_260 rfl (fun q260 => ?_) (fun q260 => ?_)
      · rw [if_pos q260] at h
        exact cj_X12_nextToken_286_224 hz hd ht s _ h hK
      · rw [if_neg q260] at h
        refine RT.aload_n (pc := 263) (k := 0) (x := a0) dX12_nextToken_263 rfl ?_
        refine RT.aload_n (pc := 264) (k := 0) (x := a0) dX12_nextToken_264 rfl ?_
        obtain ⟨v265, hv265, h⟩ := Option.bind_eq_some_iff.mp h
        refine RT.gf 12 8 0 (pc := 265) (x := a0) (v := v265) hz dX12_nextToken_265 fl_X12_193 rfl hv265 ?_
        refine RT.bipush (pc := 268) (n := 10) dX12_nextToken_268 ⟨by decide, by decide⟩ rfl ?_
        refine RT.imul (pc := 270) dX12_nextToken_270 ?_
        refine RT.aload_n (pc := 271) (k := 0) (x := a0) dX12_nextToken_271 rfl ?_
        refine RT.aload_n (pc := 272) (k := 0) (x := a0) dX12_nextToken_272 rfl ?_
        obtain ⟨v273, hv273, h⟩ := Option.bind_eq_some_iff.mp h
        refine RT.gf 12 4 0 (pc := 273) (x := a0) (v := v273) hz dX12_nextToken_273 fl_X12_183 rfl hv273 ?_
        obtain ⟨p276, hp276, h⟩ := Option.bind_eq_some_iff.mp h
        refine RT.cVz (pc := 276) (M' := M_X12_signAt) (ci := 12) (x := a0) (As := [(0, v273)]) (st := [(0, (rt_imul v265 10)), (2, a0)]) (r := some (0, p276)) (mem1 := s) (d' := d - 1) hz dX12_nextToken_276 mw_X12_signAt ml_X12_199 mi_X12_signAt ht rfl rfl (Nat.le_of_ble_eq_true rfl) (Nat.le_of_ble_eq_true rfl) (by omega) rfl rfl (c_X12_signAt hz (by omega) a0 v273 s _ ht hp276) ?_
        refine RT.iadd (pc := 279) dX12_nextToken_279 ?_
        refine RT.bipush (pc := 280) (n := 48) dX12_nextToken_280 ⟨by decide, by decide⟩ rfl ?_
        refine RT.isub (pc := 282) dX12_nextToken_282 ?_
        obtain ⟨m283, hm283, h⟩ := Option.bind_eq_some_iff.mp h
        refine RT.pf_i 12 8 (pc := 283) (mem1 := m283) hz dX12_nextToken_283 fl_X12_193 rfl rfl rfl hm283 ?_
        exact cj_X12_nextToken_286_224 hz hd ht m283 _ h hK
theorem cj_X12_nextToken_318 {G : rt_G} {d : Nat} {z : Nat × Nat} {Q : rt_P} (hz : 300 ≤ z.1) (hd : 1 ≤ d) {a0 : Int} (ht : rt_kd a0.toNat = 20 + 12) (s0 : Int) (s1 : Int) (mem0 : rt_M) (t : rt_M) (h : j_X12_nextToken_318 s0 s1 mem0 = some t) (hK : Q none z t) : RT G M_X12_nextToken d z Q 318 [(9, 0), (9, 0)] [(0, s1), (2, s0)] z mem0 := by
  unfold j_X12_nextToken_318 at h
  obtain ⟨m318, hm318, h⟩ := Option.bind_eq_some_iff.mp h
  refine RT.pf_i 12 6 (pc := 318) (mem1 := m318) hz dX12_nextToken_318 fl_X12_196 rfl rfl rfl hm318 ?_
  obtain rfl := Option.some.inj h
  exact RT.vret (pc := 321) dX12_nextToken_321 rfl (Nat.le_of_eq (rt_cells_0 z)) (Nat.le_of_eq (rt_slots_0 z)) hK
theorem cj_X12_nextToken_212 {G : rt_G} {d : Nat} {z : Nat × Nat} {Q : rt_P} (hz : 300 ≤ z.1) (hd : 1 ≤ d) {a0 : Int} (ht : rt_kd a0.toNat = 20 + 12) (a1 : Int) (mem0 : rt_M) (t : rt_M) (h : j_X12_nextToken_212 a0 a1 mem0 = some t) (hK : Q none z t) : RT G M_X12_nextToken d z Q 212 [(2, a0), (0, a1)] [] z mem0 := by
  unfold j_X12_nextToken_212 at h
  refine RT.iload_n (pc := 212) (k := 1) (x := a1) dX12_nextToken_212 rfl ?_
  refine RT.bipush (pc := 213) (n := 48) dX12_nextToken_213 ⟨by decide, by decide⟩ rfl ?_
  refine RT.icmp_lt (pc := 215) (tgt := 322) dX12_nextToken_215 rfl (fun q215 => ?_) (fun q215 => ?_)
  · rw [if_pos q215] at h
    exact cj_X12_nextToken_322 hz hd ht a1 mem0 _ h hK
  · rw [if_neg q215] at h
    refine RT.iload_n (pc := 218) (k := 1) (x := a1) dX12_nextToken_218 rfl ?_
    refine RT.bipush (pc := 219) (n := 57) dX12_nextToken_219 ⟨by decide, by decide⟩ rfl ?_
    refine RT.icmp_gt (pc := 221) (tgt := 322) dX12_nextToken_221 rfl (fun q221 => ?_) (fun q221 => ?_)
    · rw [if_pos q221] at h
      exact cj_X12_nextToken_322 hz hd ht a1 mem0 _ h hK
    · rw [if_neg q221] at h
      refine RT.wk (L1 := [(2, a0), (9, 0)]) (rt_le_s (rt_le_j rt_le_n)) ?_
      obtain ⟨X224, hX224, h⟩ := Option.bind_eq_some_iff.mp h
      refine rt_it_ind (P := (fun s1 : rt_M => RT G M_X12_nextToken d z Q 224 [(2, a0), (9, 0)] [] z s1)) (X := (fun x1 : rt_M => RT G M_X12_nextToken d z Q 299 [(2, a0), (9, 0)] [] z x1)) (fun s1 t1 h1 k1 k2 => cb_X12_nextToken_224 hz hd ht s1 t1 h1 ⟨k1, k2⟩) 4000 mem0 X224 hX224 ?_
      refine RT.aload_n (pc := 299) (k := 0) (x := a0) dX12_nextToken_299 rfl ?_
      refine RT.aload_n (pc := 300) (k := 0) (x := a0) dX12_nextToken_300 rfl ?_
      obtain ⟨v301, hv301, h⟩ := Option.bind_eq_some_iff.mp h
      refine RT.gf 12 4 0 (pc := 301) (x := a0) (v := v301) hz dX12_nextToken_301 fl_X12_183 rfl hv301 ?_
      refine RT.aload_n (pc := 304) (k := 0) (x := a0) dX12_nextToken_304 rfl ?_
      obtain ⟨v305, hv305, h⟩ := Option.bind_eq_some_iff.mp h
      refine RT.gf 12 5 0 (pc := 305) (x := a0) (v := v305) hz dX12_nextToken_305 fl_X12_186 rfl hv305 ?_
      refine RT.isub (pc := 308) dX12_nextToken_308 ?_
      refine RT.iconst (pc := 309) (n := 4) dX12_nextToken_309 ⟨by decide, by decide⟩ ?_
      refine RT.icmp_le (pc := 310) (tgt := 317) dX12_nextToken_310 rfl (fun q310 => ?_) (fun q310 => ?_)
      · rw [if_pos q310] at h
        refine RT.iconst (pc := 317) (n := 2) dX12_nextToken_317 ⟨by decide, by decide⟩ ?_
        refine RT.wk (L1 := [(9, 0), (9, 0)]) (rt_le_j (rt_le_s rt_le_n)) ?_
        exact cj_X12_nextToken_318 hz hd ht a0 2 X224 _ h hK
      · rw [if_neg q310] at h
        refine RT.iconst (pc := 313) (n := 4) dX12_nextToken_313 ⟨by decide, by decide⟩ ?_
        refine RT.goto (pc := 314) (tgt := 318) dX12_nextToken_314 rfl ?_
        refine RT.wk (L1 := [(9, 0), (9, 0)]) (rt_le_j (rt_le_s rt_le_n)) ?_
        exact cj_X12_nextToken_318 hz hd ht a0 4 X224 _ h hK
theorem cj_X12_nextToken_175_109 {G : rt_G} {d : Nat} {z : Nat × Nat} {Q : rt_P} (hz : 300 ≤ z.1) (hd : 1 ≤ d) {a0 : Int} (ht : rt_kd a0.toNat = 20 + 12) (mem0 : rt_M) (t : (rt_M) ⊕ (rt_M)) (h : j_X12_nextToken_175_109 a0 mem0 = some t) (hK : (∀ s1 : rt_M, t = .inl s1 → RT G M_X12_nextToken d z Q 109 [(2, a0), (9, 0)] [] z s1) ∧ (∀ x1 : rt_M, t = .inr x1 → RT G M_X12_nextToken d z Q 188 [(2, a0), (9, 0)] [] z x1)) : RT G M_X12_nextToken d z Q 175 [(2, a0), (9, 0)] [] z mem0 := by
  unfold j_X12_nextToken_175_109 at h
  refine RT.aload_n (pc := 175) (k := 0) (x := a0) dX12_nextToken_175 rfl ?_
  refine RT.dup (pc := 176) dX12_nextToken_176 (show ¬ ((2 : Nat) = 1) by decide) ?_
  obtain ⟨v177, hv177, h⟩ := Option.bind_eq_some_iff.mp h
  refine RT.gf 12 4 0 (pc := 177) (x := a0) (v := v177) hz dX12_nextToken_177 fl_X12_183 rfl hv177 ?_
  refine RT.iconst (pc := 180) (n := 1) dX12_nextToken_180 ⟨by decide, by decide⟩ ?_
  refine RT.iadd (pc := 181) dX12_nextToken_181 ?_
  obtain ⟨m182, hm182, h⟩ := Option.bind_eq_some_iff.mp h
  refine RT.pf_i 12 4 (pc := 182) (mem1 := m182) hz dX12_nextToken_182 fl_X12_183 rfl rfl rfl hm182 ?_
  refine RT.goto (pc := 185) (tgt := 109) dX12_nextToken_185 rfl ?_
  obtain rfl := Option.some.inj h
  have q1 := hK.1 m182 rfl
  try dsimp only at q1
  exact q1
theorem cb_X12_nextToken_109 {G : rt_G} {d : Nat} {z : Nat × Nat} {Q : rt_P} (hz : 300 ≤ z.1) (hd : 1 ≤ d) {a0 : Int} (ht : rt_kd a0.toNat = 20 + 12) (s : rt_M) (t : (rt_M) ⊕ (rt_M)) (h : b_X12_nextToken_109 a0 s = some t) (hK : (∀ s1 : rt_M, t = .inl s1 → RT G M_X12_nextToken d z Q 109 [(2, a0), (9, 0)] [] z s1) ∧ (∀ x1 : rt_M, t = .inr x1 → RT G M_X12_nextToken d z Q 188 [(2, a0), (9, 0)] [] z x1)) : RT G M_X12_nextToken d z Q 109 [(2, a0), (9, 0)] [] z s := by
  unfold b_X12_nextToken_109 at h
  refine RT.aload_n (pc := 109) (k := 0) (x := a0) dX12_nextToken_109 rfl ?_
  refine RT.aload_n (pc := 110) (k := 0) (x := a0) dX12_nextToken_110 rfl ?_
  obtain ⟨v111, hv111, h⟩ := Option.bind_eq_some_iff.mp h
  refine RT.gf 12 4 0 (pc := 111) (x := a0) (v := v111) hz dX12_nextToken_111 fl_X12_183 rfl hv111 ?_
  obtain ⟨p114, hp114, h⟩ := Option.bind_eq_some_iff.mp h
  refine RT.cVz (pc := 114) (M' := M_X12_signAt) (ci := 12) (x := a0) (As := [(0, v111)]) (st := []) (r := some (0, p114)) (mem1 := s) (d' := d - 1) hz dX12_nextToken_114 mw_X12_signAt ml_X12_199 mi_X12_signAt ht rfl rfl (Nat.le_of_ble_eq_true rfl) (Nat.le_of_ble_eq_true rfl) (by omega) rfl rfl (c_X12_signAt hz (by omega) a0 v111 s _ ht hp114) ?_
  refine RT.bipush (pc := 117) (n := 97) dX12_nextToken_117 ⟨by decide, by decide⟩ rfl ?_
  refine RT.icmp_lt (pc := 119) (tgt := 188) dX12_nextToken_119 rfl (fun q119 => ?_) (fun q119 => ?_)
  · rw [if_pos q119] at h
    obtain rfl := Option.some.inj h
    have q1 := hK.2 s rfl
    try dsimp only at q1
    exact q1
  · rw [if_neg q119] at h
    refine RT.aload_n (pc := 122) (k := 0) (x := a0) dX12_nextToken_122 rfl ?_
    refine RT.aload_n (pc := 123) (k := 0) (x := a0) dX12_nextToken_123 rfl ?_
    obtain ⟨v124, hv124, h⟩ := Option.bind_eq_some_iff.mp h
    refine RT.gf 12 4 0 (pc := 124) (x := a0) (v := v124) hz dX12_nextToken_124 fl_X12_183 rfl hv124 ?_
    obtain ⟨p127, hp127, h⟩ := Option.bind_eq_some_iff.mp h
    refine RT.cVz (pc := 127) (M' := M_X12_signAt) (ci := 12) (x := a0) (As := [(0, v124)]) (st := []) (r := some (0, p127)) (mem1 := s) (d' := d - 1) hz dX12_nextToken_127 mw_X12_signAt ml_X12_199 mi_X12_signAt ht rfl rfl (Nat.le_of_ble_eq_true rfl) (Nat.le_of_ble_eq_true rfl) (by omega) rfl rfl (c_X12_signAt hz (by omega) a0 v124 s _ ht hp127) ?_
    refine RT.bipush (pc := 130) (n := 122) dX12_nextToken_130 ⟨by decide, by decide⟩ rfl ?_
    refine RT.icmp_gt (pc := 132) (tgt := 188) dX12_nextToken_132 rfl (fun q132 => ?_) (fun q132 => ?_)
    · rw [if_pos q132] at h
      obtain rfl := Option.some.inj h
      have q1 := hK.2 s rfl
      try dsimp only at q1
      exact q1
    · rw [if_neg q132] at h
      refine RT.aload_n (pc := 135) (k := 0) (x := a0) dX12_nextToken_135 rfl ?_
      obtain ⟨v136, hv136, h⟩ := Option.bind_eq_some_iff.mp h
      refine RT.gf 12 4 0 (pc := 136) (x := a0) (v := v136) hz dX12_nextToken_136 fl_X12_183 rfl hv136 ?_
      refine RT.aload_n (pc := 139) (k := 0) (x := a0) dX12_nextToken_139 rfl ?_
      obtain ⟨v140, hv140, h⟩ := Option.bind_eq_some_iff.mp h
      refine RT.gf 12 5 0 (pc := 140) (x := a0) (v := v140) hz dX12_nextToken_140 fl_X12_186 rfl hv140 ?_
      refine RT.isub (pc := 143) dX12_nextToken_143 ?_
      refine RT.bipush (pc := 144) (n := 8) dX12_nextToken_144 ⟨by decide, by decide⟩ rfl ?_
      refine RT.icmp_ge (pc := 146) (tgt := 175) dX12_nextToken_146 rfl (fun q146 => ?_) (fun q146 => ?_)
      · rw [if_pos q146] at h
        exact cj_X12_nextToken_175_109 hz hd ht s _ h hK
      · rw [if_neg q146] at h
        refine RT.aload_n (pc := 149) (k := 0) (x := a0) dX12_nextToken_149 rfl ?_
        refine RT.aload_n (pc := 150) (k := 0) (x := a0) dX12_nextToken_150 rfl ?_
        obtain ⟨v151, hv151, h⟩ := Option.bind_eq_some_iff.mp h
        refine RT.gf 12 7 1 (pc := 151) (x := a0) (v := v151) hz dX12_nextToken_151 fl_X12_189 rfl hv151 ?_
        refine RT.ldc2 (pc := 154) (v := 27) dX12_nextToken_154 kl_X12_203 ⟨by decide, by decide⟩ ?_
        refine RT.lmul (pc := 157) dX12_nextToken_157 ?_
        refine RT.aload_n (pc := 158) (k := 0) (x := a0) dX12_nextToken_158 rfl ?_
        refine RT.aload_n (pc := 159) (k := 0) (x := a0) dX12_nextToken_159 rfl ?_
        obtain ⟨v160, hv160, h⟩ := Option.bind_eq_some_iff.mp h
        refine RT.gf 12 4 0 (pc := 160) (x := a0) (v := v160) hz dX12_nextToken_160 fl_X12_183 rfl hv160 ?_
        obtain ⟨p163, hp163, h⟩ := Option.bind_eq_some_iff.mp h
        refine RT.cVz (pc := 163) (M' := M_X12_signAt) (ci := 12) (x := a0) (As := [(0, v160)]) (st := [(1, (rt_lmul v151 27)), (2, a0)]) (r := some (0, p163)) (mem1 := s) (d' := d - 1) hz dX12_nextToken_163 mw_X12_signAt ml_X12_199 mi_X12_signAt ht rfl rfl (Nat.le_of_ble_eq_true rfl) (Nat.le_of_ble_eq_true rfl) (by omega) rfl rfl (c_X12_signAt hz (by omega) a0 v160 s _ ht hp163) ?_
        refine RT.i2l (pc := 166) dX12_nextToken_166 ?_
        refine RT.ladd (pc := 167) dX12_nextToken_167 ?_
        refine RT.ldc2 (pc := 168) (v := 96) dX12_nextToken_168 kl_X12_205 ⟨by decide, by decide⟩ ?_
        refine RT.lsub (pc := 171) dX12_nextToken_171 ?_
        obtain ⟨m172, hm172, h⟩ := Option.bind_eq_some_iff.mp h
        refine RT.pf_l 12 7 (pc := 172) (mem1 := m172) hz dX12_nextToken_172 fl_X12_189 rfl rfl rfl hm172 ?_
        exact cj_X12_nextToken_175_109 hz hd ht m172 _ h hK
theorem cj_X12_nextToken_208 {G : rt_G} {d : Nat} {z : Nat × Nat} {Q : rt_P} (hz : 300 ≤ z.1) (hd : 1 ≤ d) {a0 : Int} (ht : rt_kd a0.toNat = 20 + 12) (s0 : Int) (s1 : Int) (mem0 : rt_M) (t : rt_M) (h : j_X12_nextToken_208 s0 s1 mem0 = some t) (hK : Q none z t) : RT G M_X12_nextToken d z Q 208 [(9, 0), (9, 0)] [(0, s1), (2, s0)] z mem0 := by
  unfold j_X12_nextToken_208 at h
  obtain ⟨m208, hm208, h⟩ := Option.bind_eq_some_iff.mp h
  refine RT.pf_i 12 6 (pc := 208) (mem1 := m208) hz dX12_nextToken_208 fl_X12_196 rfl rfl rfl hm208 ?_
  obtain rfl := Option.some.inj h
  exact RT.vret (pc := 211) dX12_nextToken_211 rfl (Nat.le_of_eq (rt_cells_0 z)) (Nat.le_of_eq (rt_slots_0 z)) hK
theorem c_X12_nextToken {G : rt_G} {d : Nat} {z : Nat × Nat} (hz : 300 ≤ z.1) (hd : 1 ≤ d) (a0 : Int) (mem0 : rt_M) (t : rt_M) (ht : rt_kd a0.toNat = 20 + 12) (h : f_X12_nextToken a0 mem0 = some t) : RM G M_X12_nextToken d [(2, a0)] z mem0 none t := by
  suffices H : ∀ Q : rt_P, Q none z t → RT G M_X12_nextToken d z Q 0 [(2, a0), (9, 0)] [] z mem0 from H _ ⟨rfl, rfl, rfl⟩
  intro Q hK
  unfold f_X12_nextToken at h
  obtain ⟨X0, hX0, h⟩ := Option.bind_eq_some_iff.mp h
  refine rt_it_ind (P := (fun s1 : rt_M => RT G M_X12_nextToken d z Q 0 [(2, a0), (9, 0)] [] z s1)) (X := (fun x1 : rt_M => RT G M_X12_nextToken d z Q 52 [(2, a0), (9, 0)] [] z x1)) (fun s1 t1 h1 k1 k2 => cb_X12_nextToken_0 hz hd ht s1 t1 h1 ⟨k1, k2⟩) 4000 mem0 X0 hX0 ?_
  refine RT.aload_n (pc := 52) (k := 0) (x := a0) dX12_nextToken_52 rfl ?_
  refine RT.aload_n (pc := 53) (k := 0) (x := a0) dX12_nextToken_53 rfl ?_
  obtain ⟨v54, hv54, h⟩ := Option.bind_eq_some_iff.mp h
  refine RT.gf 12 4 0 (pc := 54) (x := a0) (v := v54) hz dX12_nextToken_54 fl_X12_183 rfl hv54 ?_
  obtain ⟨m57, hm57, h⟩ := Option.bind_eq_some_iff.mp h
  refine RT.pf_i 12 5 (pc := 57) (mem1 := m57) hz dX12_nextToken_57 fl_X12_186 rfl rfl rfl hm57 ?_
  refine RT.aload_n (pc := 60) (k := 0) (x := a0) dX12_nextToken_60 rfl ?_
  refine RT.lconst (pc := 61) (v := 0) dX12_nextToken_61 rfl ?_
  obtain ⟨m62, hm62, h⟩ := Option.bind_eq_some_iff.mp h
  refine RT.pf_l 12 7 (pc := 62) (mem1 := m62) hz dX12_nextToken_62 fl_X12_189 rfl rfl rfl hm62 ?_
  refine RT.aload_n (pc := 65) (k := 0) (x := a0) dX12_nextToken_65 rfl ?_
  refine RT.iconst (pc := 66) (n := 0) dX12_nextToken_66 ⟨by decide, by decide⟩ ?_
  obtain ⟨m67, hm67, h⟩ := Option.bind_eq_some_iff.mp h
  refine RT.pf_i 12 8 (pc := 67) (mem1 := m67) hz dX12_nextToken_67 fl_X12_193 rfl rfl rfl hm67 ?_
  refine RT.aload_n (pc := 70) (k := 0) (x := a0) dX12_nextToken_70 rfl ?_
  obtain ⟨v71, hv71, h⟩ := Option.bind_eq_some_iff.mp h
  refine RT.gf 12 4 0 (pc := 71) (x := a0) (v := v71) hz dX12_nextToken_71 fl_X12_183 rfl hv71 ?_
  refine RT.aload_n (pc := 74) (k := 0) (x := a0) dX12_nextToken_74 rfl ?_
  obtain ⟨v75, hv75, h⟩ := Option.bind_eq_some_iff.mp h
  refine RT.gf 12 3 0 (pc := 75) (x := a0) (v := v75) hz dX12_nextToken_75 fl_X12_180 rfl hv75 ?_
  refine RT.icmp_ne (pc := 78) (tgt := 87) dX12_nextToken_78 rfl (fun q78 => ?_) (fun q78 => ?_)
  · rw [if_neg q78] at h
    refine RT.aload_n (pc := 87) (k := 0) (x := a0) dX12_nextToken_87 rfl ?_
    obtain ⟨v88, hv88, h⟩ := Option.bind_eq_some_iff.mp h
    refine RT.gf 12 2 2 (pc := 88) (x := a0) (v := v88) hz dX12_nextToken_88 fl_X12_7 rfl hv88 ?_
    refine RT.aload_n (pc := 91) (k := 0) (x := a0) dX12_nextToken_91 rfl ?_
    obtain ⟨v92, hv92, h⟩ := Option.bind_eq_some_iff.mp h
    refine RT.gf 12 4 0 (pc := 92) (x := a0) (v := v92) hz dX12_nextToken_92 fl_X12_183 rfl hv92 ?_
    obtain ⟨v95, hv95, h⟩ := Option.bind_eq_some_iff.mp h
    refine RT.iald (pc := 95) (x := v88) (i := v92) (v := v95) dX12_nextToken_95 (rt_lta hz (by decide) (by decide) hv95) hv95 ?_
    refine RT.istore_n (pc := 96) (k := 1) (x := v95) (L1 := [(2, a0), (0, v95)]) dX12_nextToken_96 (Nat.le_of_ble_eq_true rfl) rfl ?_
    refine RT.iload_n (pc := 97) (k := 1) (x := v95) dX12_nextToken_97 rfl ?_
    refine RT.bipush (pc := 98) (n := 97) dX12_nextToken_98 ⟨by decide, by decide⟩ rfl ?_
    refine RT.icmp_lt (pc := 100) (tgt := 212) dX12_nextToken_100 rfl (fun q100 => ?_) (fun q100 => ?_)
    · rw [if_pos q100] at h
      exact cj_X12_nextToken_212 hz hd ht v95 m67 _ h hK
    · rw [if_neg q100] at h
      refine RT.iload_n (pc := 103) (k := 1) (x := v95) dX12_nextToken_103 rfl ?_
      refine RT.bipush (pc := 104) (n := 122) dX12_nextToken_104 ⟨by decide, by decide⟩ rfl ?_
      refine RT.icmp_gt (pc := 106) (tgt := 212) dX12_nextToken_106 rfl (fun q106 => ?_) (fun q106 => ?_)
      · rw [if_pos q106] at h
        exact cj_X12_nextToken_212 hz hd ht v95 m67 _ h hK
      · rw [if_neg q106] at h
        refine RT.wk (L1 := [(2, a0), (9, 0)]) (rt_le_s (rt_le_j rt_le_n)) ?_
        obtain ⟨X109, hX109, h⟩ := Option.bind_eq_some_iff.mp h
        refine rt_it_ind (P := (fun s1 : rt_M => RT G M_X12_nextToken d z Q 109 [(2, a0), (9, 0)] [] z s1)) (X := (fun x1 : rt_M => RT G M_X12_nextToken d z Q 188 [(2, a0), (9, 0)] [] z x1)) (fun s1 t1 h1 k1 k2 => cb_X12_nextToken_109 hz hd ht s1 t1 h1 ⟨k1, k2⟩) 4000 m67 X109 hX109 ?_
        refine RT.aload_n (pc := 188) (k := 0) (x := a0) dX12_nextToken_188 rfl ?_
        refine RT.aload_n (pc := 189) (k := 0) (x := a0) dX12_nextToken_189 rfl ?_
        obtain ⟨v190, hv190, h⟩ := Option.bind_eq_some_iff.mp h
        refine RT.gf 12 4 0 (pc := 190) (x := a0) (v := v190) hz dX12_nextToken_190 fl_X12_183 rfl hv190 ?_
        refine RT.aload_n (pc := 193) (k := 0) (x := a0) dX12_nextToken_193 rfl ?_
        obtain ⟨v194, hv194, h⟩ := Option.bind_eq_some_iff.mp h
        refine RT.gf 12 5 0 (pc := 194) (x := a0) (v := v194) hz dX12_nextToken_194 fl_X12_186 rfl hv194 ?_
        refine RT.isub (pc := 197) dX12_nextToken_197 ?_
        refine RT.bipush (pc := 198) (n := 8) dX12_nextToken_198 ⟨by decide, by decide⟩ rfl ?_
        refine RT.icmp_le (pc := 200) (tgt := 207) dX12_nextToken_200 rfl (fun q200 => ?_) (fun q200 => ?_)
        · rw [if_pos q200] at h
          refine RT.iconst (pc := 207) (n := 1) dX12_nextToken_207 ⟨by decide, by decide⟩ ?_
          refine RT.wk (L1 := [(9, 0), (9, 0)]) (rt_le_j (rt_le_s rt_le_n)) ?_
          exact cj_X12_nextToken_208 hz hd ht a0 1 X109 _ h hK
        · rw [if_neg q200] at h
          refine RT.iconst (pc := 203) (n := 4) dX12_nextToken_203 ⟨by decide, by decide⟩ ?_
          refine RT.goto (pc := 204) (tgt := 208) dX12_nextToken_204 rfl ?_
          refine RT.wk (L1 := [(9, 0), (9, 0)]) (rt_le_j (rt_le_s rt_le_n)) ?_
          exact cj_X12_nextToken_208 hz hd ht a0 4 X109 _ h hK
  · rw [if_pos (Classical.not_not.mp q78)] at h
    refine RT.aload_n (pc := 81) (k := 0) (x := a0) dX12_nextToken_81 rfl ?_
    refine RT.iconst (pc := 82) (n := 0) dX12_nextToken_82 ⟨by decide, by decide⟩ ?_
    obtain ⟨m83, hm83, h⟩ := Option.bind_eq_some_iff.mp h
    refine RT.pf_i 12 6 (pc := 83) (mem1 := m83) hz dX12_nextToken_83 fl_X12_196 rfl rfl rfl hm83 ?_
    obtain rfl := Option.some.inj h
    exact RT.vret (pc := 86) dX12_nextToken_86 rfl (Nat.le_of_eq (rt_cells_0 z)) (Nat.le_of_eq (rt_slots_0 z)) hK
theorem cj_X12_isWord_22 {G : rt_G} {d : Nat} {z : Nat × Nat} {Q : rt_P} (hz : 300 ≤ z.1) (hd : 0 ≤ d) {a0 : Int} (ht : rt_kd a0.toNat = 20 + 12) (s0 : Int) (mem0 : rt_M) (t : Int) (h : j_X12_isWord_22 s0 mem0 = some t) (hK : Q (some (0, t)) z mem0) : RT G M_X12_isWord d z Q 22 [(9, 0), (9, 0), (9, 0)] [(0, s0)] z mem0 := by
  unfold j_X12_isWord_22 at h
  obtain ⟨w22, hw22, h⟩ := Option.bind_eq_some_iff.mp h
  obtain rfl := Option.some.inj h
  exact RT.zret (pc := 22) dX12_isWord_22 rfl (rt_bz_ok hw22) (Nat.le_of_eq (rt_cells_0 z)) (Nat.le_of_eq (rt_slots_0 z)) hK
theorem cj_X12_isWord_21 {G : rt_G} {d : Nat} {z : Nat × Nat} {Q : rt_P} (hz : 300 ≤ z.1) (hd : 0 ≤ d) {a0 : Int} (ht : rt_kd a0.toNat = 20 + 12) (mem0 : rt_M) (t : Int) (h : j_X12_isWord_21 mem0 = some t) (hK : Q (some (0, t)) z mem0) : RT G M_X12_isWord d z Q 21 [(9, 0), (9, 0), (9, 0)] [] z mem0 := by
  unfold j_X12_isWord_21 at h
  refine RT.iconst (pc := 21) (n := 0) dX12_isWord_21 ⟨by decide, by decide⟩ ?_
  exact cj_X12_isWord_22 hz hd ht 0 mem0 _ h hK
theorem c_X12_isWord {G : rt_G} {d : Nat} {z : Nat × Nat} (hz : 300 ≤ z.1) (hd : 0 ≤ d) (a0 : Int) (a1 : Int) (mem0 : rt_M) (t : Int) (ht : rt_kd a0.toNat = 20 + 12) (h : f_X12_isWord a0 a1 mem0 = some t) : RM G M_X12_isWord d [(2, a0), (1, a1)] z mem0 (some (0, t)) mem0 := by
  suffices H : ∀ Q : rt_P, Q (some (0, t)) z mem0 → RT G M_X12_isWord d z Q 0 [(2, a0), (1, a1), (9, 0)] [] z mem0 from H _ ⟨rfl, rfl, rfl⟩
  intro Q hK
  unfold f_X12_isWord at h
  refine RT.aload_n (pc := 0) (k := 0) (x := a0) dX12_isWord_0 rfl ?_
  obtain ⟨v1, hv1, h⟩ := Option.bind_eq_some_iff.mp h
  refine RT.gf 12 6 0 (pc := 1) (x := a0) (v := v1) hz dX12_isWord_1 fl_X12_196 rfl hv1 ?_
  refine RT.iconst (pc := 4) (n := 1) dX12_isWord_4 ⟨by decide, by decide⟩ ?_
  refine RT.icmp_ne (pc := 5) (tgt := 21) dX12_isWord_5 rfl (fun q5 => ?_) (fun q5 => ?_)
  · rw [if_neg q5] at h
    refine RT.wk (L1 := [(9, 0), (9, 0), (9, 0)]) (rt_le_j (rt_le_j (rt_le_s rt_le_n))) ?_
    exact cj_X12_isWord_21 hz hd ht mem0 _ h hK
  · rw [if_pos (Classical.not_not.mp q5)] at h
    refine RT.aload_n (pc := 8) (k := 0) (x := a0) dX12_isWord_8 rfl ?_
    obtain ⟨v9, hv9, h⟩ := Option.bind_eq_some_iff.mp h
    refine RT.gf 12 7 1 (pc := 9) (x := a0) (v := v9) hz dX12_isWord_9 fl_X12_189 rfl hv9 ?_
    refine RT.lload_n (pc := 12) (k := 1) (x := a1) dX12_isWord_12 rfl ?_
    refine RT.lcmp (pc := 13) dX12_isWord_13 ?_
    refine RT.if_ne (pc := 14) (tgt := 21) dX12_isWord_14 rfl (fun q14 => ?_) (fun q14 => ?_)
    · rw [if_neg q14] at h
      refine RT.wk (L1 := [(9, 0), (9, 0), (9, 0)]) (rt_le_j (rt_le_j (rt_le_s rt_le_n))) ?_
      exact cj_X12_isWord_21 hz hd ht mem0 _ h hK
    · rw [if_pos (Classical.not_not.mp q14)] at h
      refine RT.iconst (pc := 17) (n := 1) dX12_isWord_17 ⟨by decide, by decide⟩ ?_
      refine RT.goto (pc := 18) (tgt := 22) dX12_isWord_18 rfl ?_
      refine RT.wk (L1 := [(9, 0), (9, 0), (9, 0)]) (rt_le_j (rt_le_j (rt_le_s rt_le_n))) ?_
      exact cj_X12_isWord_22 hz hd ht 1 mem0 _ h hK
theorem cj_X12_isSign_26 {G : rt_G} {d : Nat} {z : Nat × Nat} {Q : rt_P} (hz : 300 ≤ z.1) (hd : 0 ≤ d) {a0 : Int} (ht : rt_kd a0.toNat = 20 + 12) (s0 : Int) (mem0 : rt_M) (t : Int) (h : j_X12_isSign_26 s0 mem0 = some t) (hK : Q (some (0, t)) z mem0) : RT G M_X12_isSign d z Q 26 [(9, 0), (9, 0)] [(0, s0)] z mem0 := by
  unfold j_X12_isSign_26 at h
  obtain ⟨w26, hw26, h⟩ := Option.bind_eq_some_iff.mp h
  obtain rfl := Option.some.inj h
  exact RT.zret (pc := 26) dX12_isSign_26 rfl (rt_bz_ok hw26) (Nat.le_of_eq (rt_cells_0 z)) (Nat.le_of_eq (rt_slots_0 z)) hK
theorem cj_X12_isSign_25 {G : rt_G} {d : Nat} {z : Nat × Nat} {Q : rt_P} (hz : 300 ≤ z.1) (hd : 0 ≤ d) {a0 : Int} (ht : rt_kd a0.toNat = 20 + 12) (mem0 : rt_M) (t : Int) (h : j_X12_isSign_25 mem0 = some t) (hK : Q (some (0, t)) z mem0) : RT G M_X12_isSign d z Q 25 [(9, 0), (9, 0)] [] z mem0 := by
  unfold j_X12_isSign_25 at h
  refine RT.iconst (pc := 25) (n := 0) dX12_isSign_25 ⟨by decide, by decide⟩ ?_
  exact cj_X12_isSign_26 hz hd ht 0 mem0 _ h hK
theorem c_X12_isSign {G : rt_G} {d : Nat} {z : Nat × Nat} (hz : 300 ≤ z.1) (hd : 0 ≤ d) (a0 : Int) (a1 : Int) (mem0 : rt_M) (t : Int) (ht : rt_kd a0.toNat = 20 + 12) (h : f_X12_isSign a0 a1 mem0 = some t) : RM G M_X12_isSign d [(2, a0), (0, a1)] z mem0 (some (0, t)) mem0 := by
  suffices H : ∀ Q : rt_P, Q (some (0, t)) z mem0 → RT G M_X12_isSign d z Q 0 [(2, a0), (0, a1)] [] z mem0 from H _ ⟨rfl, rfl, rfl⟩
  intro Q hK
  unfold f_X12_isSign at h
  refine RT.aload_n (pc := 0) (k := 0) (x := a0) dX12_isSign_0 rfl ?_
  obtain ⟨v1, hv1, h⟩ := Option.bind_eq_some_iff.mp h
  refine RT.gf 12 6 0 (pc := 1) (x := a0) (v := v1) hz dX12_isSign_1 fl_X12_196 rfl hv1 ?_
  refine RT.iconst (pc := 4) (n := 3) dX12_isSign_4 ⟨by decide, by decide⟩ ?_
  refine RT.icmp_ne (pc := 5) (tgt := 25) dX12_isSign_5 rfl (fun q5 => ?_) (fun q5 => ?_)
  · rw [if_neg q5] at h
    refine RT.wk (L1 := [(9, 0), (9, 0)]) (rt_le_j (rt_le_j rt_le_n)) ?_
    exact cj_X12_isSign_25 hz hd ht mem0 _ h hK
  · rw [if_pos (Classical.not_not.mp q5)] at h
    refine RT.aload_n (pc := 8) (k := 0) (x := a0) dX12_isSign_8 rfl ?_
    obtain ⟨v9, hv9, h⟩ := Option.bind_eq_some_iff.mp h
    refine RT.gf 12 2 2 (pc := 9) (x := a0) (v := v9) hz dX12_isSign_9 fl_X12_7 rfl hv9 ?_
    refine RT.aload_n (pc := 12) (k := 0) (x := a0) dX12_isSign_12 rfl ?_
    obtain ⟨v13, hv13, h⟩ := Option.bind_eq_some_iff.mp h
    refine RT.gf 12 5 0 (pc := 13) (x := a0) (v := v13) hz dX12_isSign_13 fl_X12_186 rfl hv13 ?_
    obtain ⟨v16, hv16, h⟩ := Option.bind_eq_some_iff.mp h
    refine RT.iald (pc := 16) (x := v9) (i := v13) (v := v16) dX12_isSign_16 (rt_lta hz (by decide) (by decide) hv16) hv16 ?_
    refine RT.iload_n (pc := 17) (k := 1) (x := a1) dX12_isSign_17 rfl ?_
    refine RT.icmp_ne (pc := 18) (tgt := 25) dX12_isSign_18 rfl (fun q18 => ?_) (fun q18 => ?_)
    · rw [if_neg q18] at h
      refine RT.wk (L1 := [(9, 0), (9, 0)]) (rt_le_j (rt_le_j rt_le_n)) ?_
      exact cj_X12_isSign_25 hz hd ht mem0 _ h hK
    · rw [if_pos (Classical.not_not.mp q18)] at h
      refine RT.iconst (pc := 21) (n := 1) dX12_isSign_21 ⟨by decide, by decide⟩ ?_
      refine RT.goto (pc := 22) (tgt := 26) dX12_isSign_22 rfl ?_
      refine RT.wk (L1 := [(9, 0), (9, 0)]) (rt_le_j (rt_le_j rt_le_n)) ?_
      exact cj_X12_isSign_26 hz hd ht 1 mem0 _ h hK
theorem c_X12_fails {G : rt_G} {d : Nat} {z : Nat × Nat} (hz : 300 ≤ z.1) (hd : 0 ≤ d) (a0 : Int) (a1 : Int) (mem0 : rt_M) (t : Int × rt_M) (ht : rt_kd a0.toNat = 20 + 12) (h : f_X12_fails a0 a1 mem0 = some t) : RM G M_X12_fails d [(2, a0), (0, a1)] z mem0 (some (0, t.1)) t.2 := by
  suffices H : ∀ Q : rt_P, Q (some (0, t.1)) z t.2 → RT G M_X12_fails d z Q 0 [(2, a0), (0, a1)] [] z mem0 from H _ ⟨rfl, rfl, rfl⟩
  intro Q hK
  unfold f_X12_fails at h
  refine RT.aload_n (pc := 0) (k := 0) (x := a0) dX12_fails_0 rfl ?_
  refine RT.iload_n (pc := 1) (k := 1) (x := a1) dX12_fails_1 rfl ?_
  refine RT.bipush (pc := 2) (n := 16) dX12_fails_2 ⟨by decide, by decide⟩ rfl ?_
  refine RT.aload_n (pc := 4) (k := 0) (x := a0) dX12_fails_4 rfl ?_
  obtain ⟨v5, hv5, h⟩ := Option.bind_eq_some_iff.mp h
  refine RT.gf 12 5 0 (pc := 5) (x := a0) (v := v5) hz dX12_fails_5 fl_X12_186 rfl hv5 ?_
  refine RT.imul (pc := 8) dX12_fails_8 ?_
  refine RT.iadd (pc := 9) dX12_fails_9 ?_
  obtain ⟨m10, hm10, h⟩ := Option.bind_eq_some_iff.mp h
  refine RT.pf_i 12 9 (pc := 10) (mem1 := m10) hz dX12_fails_10 fl_X12_207 rfl rfl rfl hm10 ?_
  refine RT.iconst (pc := 13) (n := 0) dX12_fails_13 ⟨by decide, by decide⟩ ?_
  obtain rfl := Option.some.inj h
  exact RT.zret (pc := 14) dX12_fails_14 rfl (by decide) (Nat.le_of_eq (rt_cells_0 z)) (Nat.le_of_eq (rt_slots_0 z)) hK
theorem c_X12_puts {G : rt_G} {d : Nat} {z : Nat × Nat} (hz : 300 ≤ z.1) (hd : 0 ≤ d) (a0 : Int) (a1 : Int) (mem0 : rt_M) (t : rt_M) (ht : rt_kd a0.toNat = 20 + 12) (h : f_X12_puts a0 a1 mem0 = some t) : RM G M_X12_puts d [(2, a0), (0, a1)] z mem0 none t := by
  suffices H : ∀ Q : rt_P, Q none z t → RT G M_X12_puts d z Q 0 [(2, a0), (0, a1)] [] z mem0 from H _ ⟨rfl, rfl, rfl⟩
  intro Q hK
  unfold f_X12_puts at h
  refine RT.aload_n (pc := 0) (k := 0) (x := a0) dX12_puts_0 rfl ?_
  obtain ⟨v1, hv1, h⟩ := Option.bind_eq_some_iff.mp h
  refine RT.gf 12 23 2 (pc := 1) (x := a0) (v := v1) hz dX12_puts_1 fl_X12_53 rfl hv1 ?_
  refine RT.aload_n (pc := 4) (k := 0) (x := a0) dX12_puts_4 rfl ?_
  obtain ⟨v5, hv5, h⟩ := Option.bind_eq_some_iff.mp h
  refine RT.gf 12 24 0 (pc := 5) (x := a0) (v := v5) hz dX12_puts_5 fl_X12_210 rfl hv5 ?_
  refine RT.iload_n (pc := 8) (k := 1) (x := a1) dX12_puts_8 rfl ?_
  obtain ⟨m9, hm9, h⟩ := Option.bind_eq_some_iff.mp h
  refine RT.iast (pc := 9) (x := v1) (i := v5) (v := a1) (mem1 := m9) dX12_puts_9 (rt_lts hz (by decide) (by decide) hm9) hm9 ?_
  refine RT.aload_n (pc := 10) (k := 0) (x := a0) dX12_puts_10 rfl ?_
  refine RT.dup (pc := 11) dX12_puts_11 (show ¬ ((2 : Nat) = 1) by decide) ?_
  obtain ⟨v12, hv12, h⟩ := Option.bind_eq_some_iff.mp h
  refine RT.gf 12 24 0 (pc := 12) (x := a0) (v := v12) hz dX12_puts_12 fl_X12_210 rfl hv12 ?_
  refine RT.iconst (pc := 15) (n := 1) dX12_puts_15 ⟨by decide, by decide⟩ ?_
  refine RT.iadd (pc := 16) dX12_puts_16 ?_
  obtain ⟨m17, hm17, h⟩ := Option.bind_eq_some_iff.mp h
  refine RT.pf_i 12 24 (pc := 17) (mem1 := m17) hz dX12_puts_17 fl_X12_210 rfl rfl rfl hm17 ?_
  obtain rfl := Option.some.inj h
  exact RT.vret (pc := 20) dX12_puts_20 rfl (Nat.le_of_eq (rt_cells_0 z)) (Nat.le_of_eq (rt_slots_0 z)) hK
theorem cj_X12_fact_111 {G : rt_G} {d : Nat} {z : Nat × Nat} {Q : rt_P} (hz : 300 ≤ z.1) (hd : 0 ≤ d) {a0 : Int} (ht : rt_kd a0.toNat = 20 + 12) (s0 : Int) (mem0 : rt_M) (t : Int) (h : j_X12_fact_111 s0 mem0 = some t) (hK : Q (some (0, t)) z mem0) : RT G M_X12_fact d z Q 111 [(9, 0)] [(0, s0)] z mem0 := by
  unfold j_X12_fact_111 at h
  obtain rfl := Option.some.inj h
  exact RT.iret (pc := 111) dX12_fact_111 rfl (Nat.le_of_eq (rt_cells_0 z)) (Nat.le_of_eq (rt_slots_0 z)) hK
theorem cj_X12_fact_63 {G : rt_G} {d : Nat} {z : Nat × Nat} {Q : rt_P} (hz : 300 ≤ z.1) (hd : 0 ≤ d) {a0 : Int} (ht : rt_kd a0.toNat = 20 + 12) (s0 : Int) (mem0 : rt_M) (t : Int) (h : j_X12_fact_63 s0 mem0 = some t) (hK : Q (some (0, t)) z mem0) : RT G M_X12_fact d z Q 63 [(9, 0)] [(0, s0)] z mem0 := by
  unfold j_X12_fact_63 at h
  obtain rfl := Option.some.inj h
  exact RT.iret (pc := 63) dX12_fact_63 rfl (Nat.le_of_eq (rt_cells_0 z)) (Nat.le_of_eq (rt_slots_0 z)) hK
theorem c_X12_fact {G : rt_G} {d : Nat} {z : Nat × Nat} (hz : 300 ≤ z.1) (hd : 0 ≤ d) (a0 : Int) (mem0 : rt_M) (t : Int) (ht : rt_kd a0.toNat = 20 + 12) (h : f_X12_fact a0 mem0 = some t) : RM G M_X12_fact d [(2, a0)] z mem0 (some (0, t)) mem0 := by
  suffices H : ∀ Q : rt_P, Q (some (0, t)) z mem0 → RT G M_X12_fact d z Q 0 [(2, a0)] [] z mem0 from H _ ⟨rfl, rfl, rfl⟩
  intro Q hK
  unfold f_X12_fact at h
  refine RT.aload_n (pc := 0) (k := 0) (x := a0) dX12_fact_0 rfl ?_
  obtain ⟨v1, hv1, h⟩ := Option.bind_eq_some_iff.mp h
  refine RT.gf 12 6 0 (pc := 1) (x := a0) (v := v1) hz dX12_fact_1 fl_X12_196 rfl hv1 ?_
  refine RT.iconst (pc := 4) (n := 1) dX12_fact_4 ⟨by decide, by decide⟩ ?_
  refine RT.icmp_eq (pc := 5) (tgt := 10) dX12_fact_5 rfl (fun q5 => ?_) (fun q5 => ?_)
  · rw [if_pos q5] at h
    refine RT.aload_n (pc := 10) (k := 0) (x := a0) dX12_fact_10 rfl ?_
    obtain ⟨v11, hv11, h⟩ := Option.bind_eq_some_iff.mp h
    refine RT.gf 12 25 0 (pc := 11) (x := a0) (v := v11) hz dX12_fact_11 fl_X12_213 rfl hv11 ?_
    refine RT.if_ne (pc := 14) (tgt := 64) dX12_fact_14 rfl (fun q14 => ?_) (fun q14 => ?_)
    · rw [if_neg q14] at h
      refine RT.aload_n (pc := 64) (k := 0) (x := a0) dX12_fact_64 rfl ?_
      obtain ⟨v65, hv65, h⟩ := Option.bind_eq_some_iff.mp h
      refine RT.gf 12 7 1 (pc := 65) (x := a0) (v := v65) hz dX12_fact_65 fl_X12_189 rfl hv65 ?_
      refine RT.ldc2 (pc := 68) (v := 334950853) dX12_fact_68 kl_X12_222 ⟨by decide, by decide⟩ ?_
      refine RT.lcmp (pc := 71) dX12_fact_71 ?_
      refine RT.if_ne (pc := 72) (tgt := 79) dX12_fact_72 rfl (fun q72 => ?_) (fun q72 => ?_)
      · rw [if_neg q72] at h
        refine RT.aload_n (pc := 79) (k := 0) (x := a0) dX12_fact_79 rfl ?_
        obtain ⟨v80, hv80, h⟩ := Option.bind_eq_some_iff.mp h
        refine RT.gf 12 7 1 (pc := 80) (x := a0) (v := v80) hz dX12_fact_80 fl_X12_189 rfl hv80 ?_
        refine RT.ldc2 (pc := 83) (v := 117471199) dX12_fact_83 kl_X12_224 ⟨by decide, by decide⟩ ?_
        refine RT.lcmp (pc := 86) dX12_fact_86 ?_
        refine RT.if_ne (pc := 87) (tgt := 94) dX12_fact_87 rfl (fun q87 => ?_) (fun q87 => ?_)
        · rw [if_neg q87] at h
          refine RT.aload_n (pc := 94) (k := 0) (x := a0) dX12_fact_94 rfl ?_
          obtain ⟨v95, hv95, h⟩ := Option.bind_eq_some_iff.mp h
          refine RT.gf 12 7 1 (pc := 95) (x := a0) (v := v95) hz dX12_fact_95 fl_X12_189 rfl hv95 ?_
          refine RT.ldc2 (pc := 98) (v := 158683) dX12_fact_98 kl_X12_226 ⟨by decide, by decide⟩ ?_
          refine RT.lcmp (pc := 101) dX12_fact_101 ?_
          refine RT.if_ne (pc := 102) (tgt := 110) dX12_fact_102 rfl (fun q102 => ?_) (fun q102 => ?_)
          · rw [if_neg q102] at h
            refine RT.iconst (pc := 110) (n := 0) dX12_fact_110 ⟨by decide, by decide⟩ ?_
            refine RT.wk (L1 := [(9, 0)]) (rt_le_j rt_le_n) ?_
            exact cj_X12_fact_111 hz hd ht 0 mem0 _ h hK
          · rw [if_pos (Classical.not_not.mp q102)] at h
            refine RT.bipush (pc := 105) (n := 6) dX12_fact_105 ⟨by decide, by decide⟩ rfl ?_
            refine RT.goto (pc := 107) (tgt := 111) dX12_fact_107 rfl ?_
            refine RT.wk (L1 := [(9, 0)]) (rt_le_j rt_le_n) ?_
            exact cj_X12_fact_111 hz hd ht 6 mem0 _ h hK
        · rw [if_pos (Classical.not_not.mp q87)] at h
          refine RT.iconst (pc := 90) (n := 5) dX12_fact_90 ⟨by decide, by decide⟩ ?_
          refine RT.goto (pc := 91) (tgt := 111) dX12_fact_91 rfl ?_
          refine RT.wk (L1 := [(9, 0)]) (rt_le_j rt_le_n) ?_
          exact cj_X12_fact_111 hz hd ht 5 mem0 _ h hK
      · rw [if_pos (Classical.not_not.mp q72)] at h
        refine RT.iconst (pc := 75) (n := 4) dX12_fact_75 ⟨by decide, by decide⟩ ?_
        refine RT.goto (pc := 76) (tgt := 111) dX12_fact_76 rfl ?_
        refine RT.wk (L1 := [(9, 0)]) (rt_le_j rt_le_n) ?_
        exact cj_X12_fact_111 hz hd ht 4 mem0 _ h hK
    · rw [if_pos (Classical.not_not.mp q14)] at h
      refine RT.aload_n (pc := 17) (k := 0) (x := a0) dX12_fact_17 rfl ?_
      obtain ⟨v18, hv18, h⟩ := Option.bind_eq_some_iff.mp h
      refine RT.gf 12 7 1 (pc := 18) (x := a0) (v := v18) hz dX12_fact_18 fl_X12_189 rfl hv18 ?_
      refine RT.ldc2 (pc := 21) (v := 161156) dX12_fact_21 kl_X12_216 ⟨by decide, by decide⟩ ?_
      refine RT.lcmp (pc := 24) dX12_fact_24 ?_
      refine RT.if_ne (pc := 25) (tgt := 32) dX12_fact_25 rfl (fun q25 => ?_) (fun q25 => ?_)
      · rw [if_neg q25] at h
        refine RT.aload_n (pc := 32) (k := 0) (x := a0) dX12_fact_32 rfl ?_
        obtain ⟨v33, hv33, h⟩ := Option.bind_eq_some_iff.mp h
        refine RT.gf 12 7 1 (pc := 33) (x := a0) (v := v33) hz dX12_fact_33 fl_X12_189 rfl hv33 ?_
        refine RT.ldc2 (pc := 36) (v := 13385674) dX12_fact_36 kl_X12_218 ⟨by decide, by decide⟩ ?_
        refine RT.lcmp (pc := 39) dX12_fact_39 ?_
        refine RT.if_ne (pc := 40) (tgt := 47) dX12_fact_40 rfl (fun q40 => ?_) (fun q40 => ?_)
        · rw [if_neg q40] at h
          refine RT.aload_n (pc := 47) (k := 0) (x := a0) dX12_fact_47 rfl ?_
          obtain ⟨v48, hv48, h⟩ := Option.bind_eq_some_iff.mp h
          refine RT.gf 12 7 1 (pc := 48) (x := a0) (v := v48) hz dX12_fact_48 fl_X12_189 rfl hv48 ?_
          refine RT.ldc2 (pc := 51) (v := 385418) dX12_fact_51 kl_X12_220 ⟨by decide, by decide⟩ ?_
          refine RT.lcmp (pc := 54) dX12_fact_54 ?_
          refine RT.if_ne (pc := 55) (tgt := 62) dX12_fact_55 rfl (fun q55 => ?_) (fun q55 => ?_)
          · rw [if_neg q55] at h
            refine RT.iconst (pc := 62) (n := 0) dX12_fact_62 ⟨by decide, by decide⟩ ?_
            refine RT.wk (L1 := [(9, 0)]) (rt_le_j rt_le_n) ?_
            exact cj_X12_fact_63 hz hd ht 0 mem0 _ h hK
          · rw [if_pos (Classical.not_not.mp q55)] at h
            refine RT.iconst (pc := 58) (n := 3) dX12_fact_58 ⟨by decide, by decide⟩ ?_
            refine RT.goto (pc := 59) (tgt := 63) dX12_fact_59 rfl ?_
            refine RT.wk (L1 := [(9, 0)]) (rt_le_j rt_le_n) ?_
            exact cj_X12_fact_63 hz hd ht 3 mem0 _ h hK
        · rw [if_pos (Classical.not_not.mp q40)] at h
          refine RT.iconst (pc := 43) (n := 2) dX12_fact_43 ⟨by decide, by decide⟩ ?_
          refine RT.goto (pc := 44) (tgt := 63) dX12_fact_44 rfl ?_
          refine RT.wk (L1 := [(9, 0)]) (rt_le_j rt_le_n) ?_
          exact cj_X12_fact_63 hz hd ht 2 mem0 _ h hK
      · rw [if_pos (Classical.not_not.mp q25)] at h
        refine RT.iconst (pc := 28) (n := 1) dX12_fact_28 ⟨by decide, by decide⟩ ?_
        refine RT.goto (pc := 29) (tgt := 63) dX12_fact_29 rfl ?_
        refine RT.wk (L1 := [(9, 0)]) (rt_le_j rt_le_n) ?_
        exact cj_X12_fact_63 hz hd ht 1 mem0 _ h hK
  · rw [if_neg q5] at h
    refine RT.iconst (pc := 8) (n := 0) dX12_fact_8 ⟨by decide, by decide⟩ ?_
    obtain rfl := Option.some.inj h
    exact RT.iret (pc := 9) dX12_fact_9 rfl (Nat.le_of_eq (rt_cells_0 z)) (Nat.le_of_eq (rt_slots_0 z)) hK
set_option maxRecDepth 20000 in
theorem cj_X12_reads_424_11 {G : rt_G} {d : Nat} {z : Nat × Nat} {Q : rt_P} (hz : 300 ≤ z.1) (hd : 2 ≤ d) {a0 : Int} (ht : rt_kd a0.toNat = 20 + 12) (a1 : Int) (a2 : Int) (mem0 : rt_M) (t : (Int × Int × rt_M) ⊕ (Int × rt_M)) (h : j_X12_reads_424_11 a0 a1 a2 mem0 = some t) (hK : (∀ s1 : Int × Int × rt_M, t = .inl s1 → RT G M_X12_reads d z Q 11 [(2, a0), (0, s1.1), (0, s1.2.1), (9, 0), (9, 0), (9, 0)] [] z s1.2.2) ∧ (∀ t1 : Int × rt_M, t = .inr t1 → Q (some (0, t1.1)) z t1.2)) : RT G M_X12_reads d z Q 424 [(2, a0), (0, a1), (0, a2), (9, 0), (9, 0), (9, 0)] [] z mem0 := by
  unfold j_X12_reads_424_11 at h
  refine RT.aload_n (pc := 424) (k := 0) (x := a0) dX12_reads_424 rfl ?_
  obtain ⟨p425, hp425, h⟩ := Option.bind_eq_some_iff.mp h
  refine RT.cVz (pc := 425) (M' := M_X12_nextToken) (ci := 12) (x := a0) (As := []) (st := []) (r := none) (mem1 := p425) (d' := d - 1) hz dX12_reads_425 mw_X12_nextToken ml_X12_249 mi_X12_nextToken ht rfl rfl (Nat.le_of_ble_eq_true rfl) (Nat.le_of_ble_eq_true rfl) (by omega) rfl rfl (c_X12_nextToken hz (by omega) a0 mem0 _ ht hp425) ?_
  refine RT.goto (pc := 428) (tgt := 11) dX12_reads_428 rfl ?_
  obtain rfl := Option.some.inj h
  have q1 := hK.1 ((a1, a2, p425)) rfl
  try dsimp only at q1
  exact q1
set_option maxRecDepth 20000 in
theorem cj_X12_reads_237_11 {G : rt_G} {d : Nat} {z : Nat × Nat} {Q : rt_P} (hz : 300 ≤ z.1) (hd : 2 ≤ d) {a0 : Int} (ht : rt_kd a0.toNat = 20 + 12) (a1 : Int) (s0 : Int) (s1 : Int) (mem0 : rt_M) (t : (Int × Int × rt_M) ⊕ (Int × rt_M)) (h : j_X12_reads_237_11 a0 a1 s0 s1 mem0 = some t) (hK : (∀ s1 : Int × Int × rt_M, t = .inl s1 → RT G M_X12_reads d z Q 11 [(2, a0), (0, s1.1), (0, s1.2.1), (9, 0), (9, 0), (9, 0)] [] z s1.2.2) ∧ (∀ t1 : Int × rt_M, t = .inr t1 → Q (some (0, t1.1)) z t1.2)) : RT G M_X12_reads d z Q 237 [(2, a0), (0, a1), (9, 0), (9, 0), (9, 0), (9, 0)] [(0, s1), (2, s0)] z mem0 := by
  unfold j_X12_reads_237_11 at h
  obtain ⟨p237, hp237, h⟩ := Option.bind_eq_some_iff.mp h
  obtain ⟨hk237, hp237⟩ := rt_gd_some hp237
  refine RT.cVz (pc := 237) (M' := M_X12_puts) (ci := 12) (x := s0) (As := [(0, s1)]) (st := []) (r := none) (mem1 := p237) (d' := d - 1) hz dX12_reads_237 mw_X12_puts ml_X12_245 mi_X12_puts hk237 rfl rfl (Nat.le_of_ble_eq_true rfl) (Nat.le_of_ble_eq_true rfl) (by omega) rfl rfl (c_X12_puts hz (by omega) s0 s1 mem0 _ hk237 hp237) ?_
  refine RT.iconst (pc := 240) (n := 1) dX12_reads_240 ⟨by decide, by decide⟩ ?_
  refine RT.istore_n (pc := 241) (k := 2) (x := 1) (L1 := [(2, a0), (0, a1), (0, 1), (9, 0), (9, 0), (9, 0)]) dX12_reads_241 (Nat.le_of_ble_eq_true rfl) rfl ?_
  refine RT.goto (pc := 242) (tgt := 424) dX12_reads_242 rfl ?_
  exact cj_X12_reads_424_11 hz hd ht a1 1 p237 _ h hK
set_option maxRecDepth 20000 in
theorem cj_X12_reads_206_11 {G : rt_G} {d : Nat} {z : Nat × Nat} {Q : rt_P} (hz : 300 ≤ z.1) (hd : 2 ≤ d) {a0 : Int} (ht : rt_kd a0.toNat = 20 + 12) (a1 : Int) (mem0 : rt_M) (t : (Int × Int × rt_M) ⊕ (Int × rt_M)) (h : j_X12_reads_206_11 a0 a1 mem0 = some t) (hK : (∀ s1 : Int × Int × rt_M, t = .inl s1 → RT G M_X12_reads d z Q 11 [(2, a0), (0, s1.1), (0, s1.2.1), (9, 0), (9, 0), (9, 0)] [] z s1.2.2) ∧ (∀ t1 : Int × rt_M, t = .inr t1 → Q (some (0, t1.1)) z t1.2)) : RT G M_X12_reads d z Q 206 [(2, a0), (0, a1), (9, 0), (9, 0), (9, 0), (9, 0)] [] z mem0 := by
  unfold j_X12_reads_206_11 at h
  refine RT.aload_n (pc := 206) (k := 0) (x := a0) dX12_reads_206 rfl ?_
  refine RT.aload_n (pc := 207) (k := 0) (x := a0) dX12_reads_207 rfl ?_
  refine RT.bipush (pc := 208) (n := 43) dX12_reads_208 ⟨by decide, by decide⟩ rfl ?_
  obtain ⟨p210, hp210, h⟩ := Option.bind_eq_some_iff.mp h
  refine RT.cVz (pc := 210) (M' := M_X12_isSign) (ci := 12) (x := a0) (As := [(0, 43)]) (st := [(2, a0)]) (r := some (0, p210)) (mem1 := mem0) (d' := d - 1) hz dX12_reads_210 mw_X12_isSign ml_X12_238 mi_X12_isSign ht rfl rfl (Nat.le_of_ble_eq_true rfl) (Nat.le_of_ble_eq_true rfl) (by omega) rfl rfl (c_X12_isSign hz (by omega) a0 43 mem0 _ ht hp210) ?_
  refine RT.if_eq (pc := 213) (tgt := 221) dX12_reads_213 rfl (fun q213 => ?_) (fun q213 => ?_)
  · rw [if_pos q213] at h
    refine RT.aload_n (pc := 221) (k := 0) (x := a0) dX12_reads_221 rfl ?_
    refine RT.bipush (pc := 222) (n := 45) dX12_reads_222 ⟨by decide, by decide⟩ rfl ?_
    obtain ⟨p224, hp224, h⟩ := Option.bind_eq_some_iff.mp h
    refine RT.cVz (pc := 224) (M' := M_X12_isSign) (ci := 12) (x := a0) (As := [(0, 45)]) (st := [(2, a0)]) (r := some (0, p224)) (mem1 := mem0) (d' := d - 1) hz dX12_reads_224 mw_X12_isSign ml_X12_238 mi_X12_isSign ht rfl rfl (Nat.le_of_ble_eq_true rfl) (Nat.le_of_ble_eq_true rfl) (by omega) rfl rfl (c_X12_isSign hz (by omega) a0 45 mem0 _ ht hp224) ?_
    refine RT.if_eq (pc := 227) (tgt := 235) dX12_reads_227 rfl (fun q227 => ?_) (fun q227 => ?_)
    · rw [if_pos q227] at h
      refine RT.bipush (pc := 235) (n := 22) dX12_reads_235 ⟨by decide, by decide⟩ rfl ?_
      exact cj_X12_reads_237_11 hz hd ht a1 a0 22 mem0 _ h hK
    · rw [if_neg q227] at h
      refine RT.bipush (pc := 230) (n := 21) dX12_reads_230 ⟨by decide, by decide⟩ rfl ?_
      refine RT.goto (pc := 232) (tgt := 237) dX12_reads_232 rfl ?_
      exact cj_X12_reads_237_11 hz hd ht a1 a0 21 mem0 _ h hK
  · rw [if_neg q213] at h
    refine RT.bipush (pc := 216) (n := 20) dX12_reads_216 ⟨by decide, by decide⟩ rfl ?_
    refine RT.goto (pc := 218) (tgt := 237) dX12_reads_218 rfl ?_
    exact cj_X12_reads_237_11 hz hd ht a1 a0 20 mem0 _ h hK
set_option maxRecDepth 20000 in
theorem cj_X12_reads_342_11 {G : rt_G} {d : Nat} {z : Nat × Nat} {Q : rt_P} (hz : 300 ≤ z.1) (hd : 2 ≤ d) {a0 : Int} (ht : rt_kd a0.toNat = 20 + 12) (a1 : Int) (s0 : Int) (s1 : Int) (mem0 : rt_M) (t : (Int × Int × rt_M) ⊕ (Int × rt_M)) (h : j_X12_reads_342_11 a0 a1 s0 s1 mem0 = some t) (hK : (∀ s1 : Int × Int × rt_M, t = .inl s1 → RT G M_X12_reads d z Q 11 [(2, a0), (0, s1.1), (0, s1.2.1), (9, 0), (9, 0), (9, 0)] [] z s1.2.2) ∧ (∀ t1 : Int × rt_M, t = .inr t1 → Q (some (0, t1.1)) z t1.2)) : RT G M_X12_reads d z Q 342 [(2, a0), (0, a1), (9, 0), (9, 0), (9, 0), (9, 0)] [(0, s1), (2, s0)] z mem0 := by
  unfold j_X12_reads_342_11 at h
  obtain ⟨p342, hp342, h⟩ := Option.bind_eq_some_iff.mp h
  obtain ⟨hk342, hp342⟩ := rt_gd_some hp342
  refine RT.cVz (pc := 342) (M' := M_X12_puts) (ci := 12) (x := s0) (As := [(0, s1)]) (st := []) (r := none) (mem1 := p342) (d' := d - 1) hz dX12_reads_342 mw_X12_puts ml_X12_245 mi_X12_puts hk342 rfl rfl (Nat.le_of_ble_eq_true rfl) (Nat.le_of_ble_eq_true rfl) (by omega) rfl rfl (c_X12_puts hz (by omega) s0 s1 mem0 _ hk342 hp342) ?_
  refine RT.aload_n (pc := 345) (k := 0) (x := a0) dX12_reads_345 rfl ?_
  obtain ⟨v346, hv346, h⟩ := Option.bind_eq_some_iff.mp h
  refine RT.gf 12 28 2 (pc := 346) (x := a0) (v := v346) hz dX12_reads_346 fl_X12_59 rfl hv346 ?_
  refine RT.iload_n (pc := 349) (k := 1) (x := a1) dX12_reads_349 rfl ?_
  refine RT.iconst (pc := 350) (n := 0) dX12_reads_350 ⟨by decide, by decide⟩ ?_
  obtain ⟨m351, hm351, h⟩ := Option.bind_eq_some_iff.mp h
  refine RT.zast (pc := 351) (x := v346) (i := a1) (v := 0) (mem1 := m351) dX12_reads_351 (by decide) (rt_lts hz (by decide) (by decide) hm351) hm351 ?_
  refine RT.iconst (pc := 352) (n := 1) dX12_reads_352 ⟨by decide, by decide⟩ ?_
  refine RT.istore_n (pc := 353) (k := 2) (x := 1) (L1 := [(2, a0), (0, a1), (0, 1), (9, 0), (9, 0), (9, 0)]) dX12_reads_353 (Nat.le_of_ble_eq_true rfl) rfl ?_
  refine RT.goto (pc := 354) (tgt := 424) dX12_reads_354 rfl ?_
  exact cj_X12_reads_424_11 hz hd ht a1 1 m351 _ h hK
set_option maxRecDepth 20000 in
theorem cj_X12_reads_324_11 {G : rt_G} {d : Nat} {z : Nat × Nat} {Q : rt_P} (hz : 300 ≤ z.1) (hd : 2 ≤ d) {a0 : Int} (ht : rt_kd a0.toNat = 20 + 12) (a1 : Int) (mem0 : rt_M) (t : (Int × Int × rt_M) ⊕ (Int × rt_M)) (h : j_X12_reads_324_11 a0 a1 mem0 = some t) (hK : (∀ s1 : Int × Int × rt_M, t = .inl s1 → RT G M_X12_reads d z Q 11 [(2, a0), (0, s1.1), (0, s1.2.1), (9, 0), (9, 0), (9, 0)] [] z s1.2.2) ∧ (∀ t1 : Int × rt_M, t = .inr t1 → Q (some (0, t1.1)) z t1.2)) : RT G M_X12_reads d z Q 324 [(2, a0), (0, a1), (9, 0), (9, 0), (9, 0), (9, 0)] [] z mem0 := by
  unfold j_X12_reads_324_11 at h
  refine RT.aload_n (pc := 324) (k := 0) (x := a0) dX12_reads_324 rfl ?_
  refine RT.aload_n (pc := 325) (k := 0) (x := a0) dX12_reads_325 rfl ?_
  refine RT.ldc2 (pc := 326) (v := 1111) dX12_reads_326 kl_X12_252 ⟨by decide, by decide⟩ ?_
  obtain ⟨p329, hp329, h⟩ := Option.bind_eq_some_iff.mp h
  refine RT.cVz (pc := 329) (M' := M_X12_isWord) (ci := 12) (x := a0) (As := [(1, 1111)]) (st := [(2, a0)]) (r := some (0, p329)) (mem1 := mem0) (d' := d - 1) hz dX12_reads_329 mw_X12_isWord ml_X12_234 mi_X12_isWord ht rfl rfl (Nat.le_of_ble_eq_true rfl) (Nat.le_of_ble_eq_true rfl) (by omega) rfl rfl (c_X12_isWord hz (by omega) a0 1111 mem0 _ ht hp329) ?_
  refine RT.if_eq (pc := 332) (tgt := 340) dX12_reads_332 rfl (fun q332 => ?_) (fun q332 => ?_)
  · rw [if_pos q332] at h
    refine RT.bipush (pc := 340) (n := 27) dX12_reads_340 ⟨by decide, by decide⟩ rfl ?_
    exact cj_X12_reads_342_11 hz hd ht a1 a0 27 mem0 _ h hK
  · rw [if_neg q332] at h
    refine RT.bipush (pc := 335) (n := 26) dX12_reads_335 ⟨by decide, by decide⟩ rfl ?_
    refine RT.goto (pc := 337) (tgt := 342) dX12_reads_337 rfl ?_
    exact cj_X12_reads_342_11 hz hd ht a1 a0 26 mem0 _ h hK
set_option maxRecDepth 20000 in
theorem cj_X12_reads_418 {G : rt_G} {d : Nat} {z : Nat × Nat} {Q : rt_P} (hz : 300 ≤ z.1) (hd : 2 ≤ d) {a0 : Int} (ht : rt_kd a0.toNat = 20 + 12) (mem0 : rt_M) (t : Int × rt_M) (h : j_X12_reads_418 a0 mem0 = some t) (hK : Q (some (0, t.1)) z t.2) : RT G M_X12_reads d z Q 418 [(2, a0), (9, 0), (9, 0), (9, 0), (9, 0), (9, 0)] [] z mem0 := by
  unfold j_X12_reads_418 at h
  refine RT.aload_n (pc := 418) (k := 0) (x := a0) dX12_reads_418 rfl ?_
  refine RT.iconst (pc := 419) (n := 1) dX12_reads_419 ⟨by decide, by decide⟩ ?_
  obtain ⟨p420, hp420, h⟩ := Option.bind_eq_some_iff.mp h
  refine RT.cVz (pc := 420) (M' := M_X12_fails) (ci := 12) (x := a0) (As := [(0, 1)]) (st := []) (r := some (0, p420.1)) (mem1 := p420.2) (d' := d - 1) hz dX12_reads_420 mw_X12_fails ml_X12_242 mi_X12_fails ht rfl rfl (Nat.le_of_ble_eq_true rfl) (Nat.le_of_ble_eq_true rfl) (by omega) rfl rfl (c_X12_fails hz (by omega) a0 1 mem0 _ ht hp420) ?_
  obtain ⟨w423, hw423, h⟩ := Option.bind_eq_some_iff.mp h
  obtain rfl := Option.some.inj h
  exact RT.zret (pc := 423) dX12_reads_423 rfl (rt_bz_ok hw423) (Nat.le_of_eq (rt_cells_0 z)) (Nat.le_of_eq (rt_slots_0 z)) hK
set_option maxRecDepth 20000 in
theorem cj_X12_reads_399 {G : rt_G} {d : Nat} {z : Nat × Nat} {Q : rt_P} (hz : 300 ≤ z.1) (hd : 2 ≤ d) {a0 : Int} (ht : rt_kd a0.toNat = 20 + 12) (a1 : Int) (mem0 : rt_M) (t : Int × rt_M) (h : j_X12_reads_399 a0 a1 mem0 = some t) (hK : Q (some (0, t.1)) z t.2) : RT G M_X12_reads d z Q 399 [(2, a0), (0, a1), (9, 0), (9, 0), (9, 0), (9, 0)] [] z mem0 := by
  unfold j_X12_reads_399 at h
  refine RT.iload_n (pc := 399) (k := 1) (x := a1) dX12_reads_399 rfl ?_
  refine RT.if_ne (pc := 400) (tgt := 418) dX12_reads_400 rfl (fun q400 => ?_) (fun q400 => ?_)
  · rw [if_neg q400] at h
    refine RT.wk (L1 := [(2, a0), (9, 0), (9, 0), (9, 0), (9, 0), (9, 0)]) (rt_le_s (rt_le_j (rt_le_s (rt_le_s (rt_le_s (rt_le_s rt_le_n)))))) ?_
    exact cj_X12_reads_418 hz hd ht mem0 _ h hK
  · rw [if_pos (Classical.not_not.mp q400)] at h
    refine RT.aload_n (pc := 403) (k := 0) (x := a0) dX12_reads_403 rfl ?_
    refine RT.bipush (pc := 404) (n := 59) dX12_reads_404 ⟨by decide, by decide⟩ rfl ?_
    obtain ⟨p406, hp406, h⟩ := Option.bind_eq_some_iff.mp h
    refine RT.cVz (pc := 406) (M' := M_X12_isSign) (ci := 12) (x := a0) (As := [(0, 59)]) (st := []) (r := some (0, p406)) (mem1 := mem0) (d' := d - 1) hz dX12_reads_406 mw_X12_isSign ml_X12_238 mi_X12_isSign ht rfl rfl (Nat.le_of_ble_eq_true rfl) (Nat.le_of_ble_eq_true rfl) (by omega) rfl rfl (c_X12_isSign hz (by omega) a0 59 mem0 _ ht hp406) ?_
    refine RT.if_eq (pc := 409) (tgt := 418) dX12_reads_409 rfl (fun q409 => ?_) (fun q409 => ?_)
    · rw [if_pos q409] at h
      refine RT.wk (L1 := [(2, a0), (9, 0), (9, 0), (9, 0), (9, 0), (9, 0)]) (rt_le_s (rt_le_j (rt_le_s (rt_le_s (rt_le_s (rt_le_s rt_le_n)))))) ?_
      exact cj_X12_reads_418 hz hd ht mem0 _ h hK
    · rw [if_neg q409] at h
      refine RT.aload_n (pc := 412) (k := 0) (x := a0) dX12_reads_412 rfl ?_
      obtain ⟨p413, hp413, h⟩ := Option.bind_eq_some_iff.mp h
      refine RT.cVz (pc := 413) (M' := M_X12_nextToken) (ci := 12) (x := a0) (As := []) (st := []) (r := none) (mem1 := p413) (d' := d - 1) hz dX12_reads_413 mw_X12_nextToken ml_X12_249 mi_X12_nextToken ht rfl rfl (Nat.le_of_ble_eq_true rfl) (Nat.le_of_ble_eq_true rfl) (by omega) rfl rfl (c_X12_nextToken hz (by omega) a0 mem0 _ ht hp413) ?_
      refine RT.iconst (pc := 416) (n := 1) dX12_reads_416 ⟨by decide, by decide⟩ ?_
      obtain rfl := Option.some.inj h
      exact RT.zret (pc := 417) dX12_reads_417 rfl (by decide) (Nat.le_of_eq (rt_cells_0 z)) (Nat.le_of_eq (rt_slots_0 z)) hK
set_option maxRecDepth 20000 in
theorem cb_X12_reads_379 {G : rt_G} {d : Nat} {z : Nat × Nat} {Q : rt_P} (hz : 300 ≤ z.1) (hd : 2 ≤ d) {a0 : Int} (ht : rt_kd a0.toNat = 20 + 12) (a2 : Int) (s : Int × rt_M) (t : (Int × rt_M) ⊕ (Int × rt_M)) (h : b_X12_reads_379 a0 a2 s = some t) (hK : (∀ s1 : Int × rt_M, t = .inl s1 → RT G M_X12_reads d z Q 379 [(2, a0), (0, s1.1), (0, a2), (9, 0), (9, 0), (9, 0)] [] z s1.2) ∧ (∀ x1 : Int × rt_M, t = .inr x1 → RT G M_X12_reads d z Q 424 [(2, a0), (0, x1.1), (0, a2), (9, 0), (9, 0), (9, 0)] [] z x1.2)) : RT G M_X12_reads d z Q 379 [(2, a0), (0, s.1), (0, a2), (9, 0), (9, 0), (9, 0)] [] z s.2 := by
  unfold b_X12_reads_379 at h
  refine RT.iload_n (pc := 379) (k := 1) (x := s.1) dX12_reads_379 rfl ?_
  refine RT.if_le (pc := 380) (tgt := 424) dX12_reads_380 rfl (fun q380 => ?_) (fun q380 => ?_)
  · rw [if_pos q380] at h
    obtain rfl := Option.some.inj h
    have q1 := hK.2 ((s.1, s.2)) rfl
    try dsimp only at q1
    exact q1
  · rw [if_neg q380] at h
    refine RT.aload_n (pc := 383) (k := 0) (x := a0) dX12_reads_383 rfl ?_
    obtain ⟨v384, hv384, h⟩ := Option.bind_eq_some_iff.mp h
    refine RT.gf 12 27 2 (pc := 384) (x := a0) (v := v384) hz dX12_reads_384 fl_X12_56 rfl hv384 ?_
    refine RT.iload_n (pc := 387) (k := 1) (x := s.1) dX12_reads_387 rfl ?_
    obtain ⟨v388, hv388, h⟩ := Option.bind_eq_some_iff.mp h
    refine RT.iald (pc := 388) (x := v384) (i := s.1) (v := v388) dX12_reads_388 (rt_lta hz (by decide) (by decide) hv388) hv388 ?_
    refine RT.iconst (pc := 389) (n := 1) dX12_reads_389 ⟨by decide, by decide⟩ ?_
    refine RT.icmp_ne (pc := 390) (tgt := 424) dX12_reads_390 rfl (fun q390 => ?_) (fun q390 => ?_)
    · rw [if_neg q390] at h
      obtain rfl := Option.some.inj h
      have q1 := hK.2 ((s.1, s.2)) rfl
      try dsimp only at q1
      exact q1
    · rw [if_pos (Classical.not_not.mp q390)] at h
      refine RT.iinc (pc := 393) (x := s.1) (L1 := [(2, a0), (0, (rt_iadd s.1 (-1))), (0, a2), (9, 0), (9, 0), (9, 0)]) dX12_reads_393 rfl (Nat.le_of_ble_eq_true rfl) ⟨by decide, by decide⟩ rfl ?_
      refine RT.goto (pc := 396) (tgt := 379) dX12_reads_396 rfl ?_
      obtain rfl := Option.some.inj h
      have q1 := hK.1 (((rt_iadd s.1 (-1)), s.2)) rfl
      try dsimp only at q1
      exact q1
set_option maxRecDepth 20000 in
theorem cj_X12_reads_304_11 {G : rt_G} {d : Nat} {z : Nat × Nat} {Q : rt_P} (hz : 300 ≤ z.1) (hd : 2 ≤ d) {a0 : Int} (ht : rt_kd a0.toNat = 20 + 12) (a1 : Int) (a2 : Int) (mem0 : rt_M) (t : (Int × Int × rt_M) ⊕ (Int × rt_M)) (h : j_X12_reads_304_11 a0 a1 a2 mem0 = some t) (hK : (∀ s1 : Int × Int × rt_M, t = .inl s1 → RT G M_X12_reads d z Q 11 [(2, a0), (0, s1.1), (0, s1.2.1), (9, 0), (9, 0), (9, 0)] [] z s1.2.2) ∧ (∀ t1 : Int × rt_M, t = .inr t1 → Q (some (0, t1.1)) z t1.2)) : RT G M_X12_reads d z Q 304 [(2, a0), (0, a1), (0, a2), (9, 0), (9, 0), (9, 0)] [] z mem0 := by
  unfold j_X12_reads_304_11 at h
  refine RT.aload_n (pc := 304) (k := 0) (x := a0) dX12_reads_304 rfl ?_
  refine RT.ldc2 (pc := 305) (v := 1111) dX12_reads_305 kl_X12_252 ⟨by decide, by decide⟩ ?_
  obtain ⟨p308, hp308, h⟩ := Option.bind_eq_some_iff.mp h
  refine RT.cVz (pc := 308) (M' := M_X12_isWord) (ci := 12) (x := a0) (As := [(1, 1111)]) (st := []) (r := some (0, p308)) (mem1 := mem0) (d' := d - 1) hz dX12_reads_308 mw_X12_isWord ml_X12_234 mi_X12_isWord ht rfl rfl (Nat.le_of_ble_eq_true rfl) (Nat.le_of_ble_eq_true rfl) (by omega) rfl rfl (c_X12_isWord hz (by omega) a0 1111 mem0 _ ht hp308) ?_
  refine RT.if_ne (pc := 311) (tgt := 324) dX12_reads_311 rfl (fun q311 => ?_) (fun q311 => ?_)
  · rw [if_neg q311] at h
    refine RT.wk (L1 := [(2, a0), (0, a1), (9, 0), (9, 0), (9, 0), (9, 0)]) (rt_le_s (rt_le_s (rt_le_j (rt_le_s (rt_le_s (rt_le_s rt_le_n)))))) ?_
    exact cj_X12_reads_324_11 hz hd ht a1 mem0 _ h hK
  · rw [if_pos (Classical.not_not.mp q311)] at h
    refine RT.aload_n (pc := 314) (k := 0) (x := a0) dX12_reads_314 rfl ?_
    refine RT.ldc2 (pc := 315) (v := 423) dX12_reads_315 kl_X12_254 ⟨by decide, by decide⟩ ?_
    obtain ⟨p318, hp318, h⟩ := Option.bind_eq_some_iff.mp h
    refine RT.cVz (pc := 318) (M' := M_X12_isWord) (ci := 12) (x := a0) (As := [(1, 423)]) (st := []) (r := some (0, p318)) (mem1 := mem0) (d' := d - 1) hz dX12_reads_318 mw_X12_isWord ml_X12_234 mi_X12_isWord ht rfl rfl (Nat.le_of_ble_eq_true rfl) (Nat.le_of_ble_eq_true rfl) (by omega) rfl rfl (c_X12_isWord hz (by omega) a0 423 mem0 _ ht hp318) ?_
    refine RT.if_eq (pc := 321) (tgt := 357) dX12_reads_321 rfl (fun q321 => ?_) (fun q321 => ?_)
    · rw [if_pos q321] at h
      refine RT.aload_n (pc := 357) (k := 0) (x := a0) dX12_reads_357 rfl ?_
      refine RT.bipush (pc := 358) (n := 41) dX12_reads_358 ⟨by decide, by decide⟩ rfl ?_
      obtain ⟨p360, hp360, h⟩ := Option.bind_eq_some_iff.mp h
      refine RT.cVz (pc := 360) (M' := M_X12_isSign) (ci := 12) (x := a0) (As := [(0, 41)]) (st := []) (r := some (0, p360)) (mem1 := mem0) (d' := d - 1) hz dX12_reads_360 mw_X12_isSign ml_X12_238 mi_X12_isSign ht rfl rfl (Nat.le_of_ble_eq_true rfl) (Nat.le_of_ble_eq_true rfl) (by omega) rfl rfl (c_X12_isSign hz (by omega) a0 41 mem0 _ ht hp360) ?_
      refine RT.if_eq (pc := 363) (tgt := 399) dX12_reads_363 rfl (fun q363 => ?_) (fun q363 => ?_)
      · rw [if_pos q363] at h
        obtain ⟨t2, g2, e2⟩ := Option.map_eq_some_iff.mp h
        subst e2
        replace h := g2
        replace hK := hK.2 t2 rfl
        refine RT.wk (L1 := [(2, a0), (0, a1), (9, 0), (9, 0), (9, 0), (9, 0)]) (rt_le_s (rt_le_s (rt_le_j (rt_le_s (rt_le_s (rt_le_s rt_le_n)))))) ?_
        exact cj_X12_reads_399 hz hd ht a1 mem0 _ h hK
      · rw [if_neg q363] at h
        refine RT.iload_n (pc := 366) (k := 1) (x := a1) dX12_reads_366 rfl ?_
        refine RT.if_le (pc := 367) (tgt := 399) dX12_reads_367 rfl (fun q367 => ?_) (fun q367 => ?_)
        · rw [if_pos q367] at h
          obtain ⟨t2, g2, e2⟩ := Option.map_eq_some_iff.mp h
          subst e2
          replace h := g2
          replace hK := hK.2 t2 rfl
          refine RT.wk (L1 := [(2, a0), (0, a1), (9, 0), (9, 0), (9, 0), (9, 0)]) (rt_le_s (rt_le_s (rt_le_j (rt_le_s (rt_le_s (rt_le_s rt_le_n)))))) ?_
          exact cj_X12_reads_399 hz hd ht a1 mem0 _ h hK
        · rw [if_neg q367] at h
          refine RT.aload_n (pc := 370) (k := 0) (x := a0) dX12_reads_370 rfl ?_
          refine RT.bipush (pc := 371) (n := 29) dX12_reads_371 ⟨by decide, by decide⟩ rfl ?_
          obtain ⟨p373, hp373, h⟩ := Option.bind_eq_some_iff.mp h
          refine RT.cVz (pc := 373) (M' := M_X12_puts) (ci := 12) (x := a0) (As := [(0, 29)]) (st := []) (r := none) (mem1 := p373) (d' := d - 1) hz dX12_reads_373 mw_X12_puts ml_X12_245 mi_X12_puts ht rfl rfl (Nat.le_of_ble_eq_true rfl) (Nat.le_of_ble_eq_true rfl) (by omega) rfl rfl (c_X12_puts hz (by omega) a0 29 mem0 _ ht hp373) ?_
          refine RT.iinc (pc := 376) (x := a1) (L1 := [(2, a0), (0, (rt_iadd a1 (-1))), (0, a2), (9, 0), (9, 0), (9, 0)]) dX12_reads_376 rfl (Nat.le_of_ble_eq_true rfl) ⟨by decide, by decide⟩ rfl ?_
          obtain ⟨X379, hX379, h⟩ := Option.bind_eq_some_iff.mp h
          have I379 := rt_it_ind (P := (fun s1 : Int × rt_M => RT G M_X12_reads d z Q 379 [(2, a0), (0, s1.1), (0, a2), (9, 0), (9, 0), (9, 0)] [] z s1.2)) (X := (fun x1 : Int × rt_M => RT G M_X12_reads d z Q 424 [(2, a0), (0, x1.1), (0, a2), (9, 0), (9, 0), (9, 0)] [] z x1.2)) (fun s1 t1 h1 k1 k2 => cb_X12_reads_379 hz hd ht a2 s1 t1 h1 ⟨k1, k2⟩) 4000 (((rt_iadd a1 (-1)), p373)) X379 hX379
          dsimp only at I379
          refine I379 ?_
          exact cj_X12_reads_424_11 hz hd ht X379.1 a2 X379.2 _ h hK
    · rw [if_neg q321] at h
      refine RT.wk (L1 := [(2, a0), (0, a1), (9, 0), (9, 0), (9, 0), (9, 0)]) (rt_le_s (rt_le_s (rt_le_j (rt_le_s (rt_le_s (rt_le_s rt_le_n)))))) ?_
      exact cj_X12_reads_324_11 hz hd ht a1 mem0 _ h hK
set_option maxRecDepth 20000 in
theorem cj_X12_reads_289_11 {G : rt_G} {d : Nat} {z : Nat × Nat} {Q : rt_P} (hz : 300 ≤ z.1) (hd : 2 ≤ d) {a0 : Int} (ht : rt_kd a0.toNat = 20 + 12) (a1 : Int) (s0 : Int) (s1 : Int) (mem0 : rt_M) (t : (Int × Int × rt_M) ⊕ (Int × rt_M)) (h : j_X12_reads_289_11 a0 a1 s0 s1 mem0 = some t) (hK : (∀ s1 : Int × Int × rt_M, t = .inl s1 → RT G M_X12_reads d z Q 11 [(2, a0), (0, s1.1), (0, s1.2.1), (9, 0), (9, 0), (9, 0)] [] z s1.2.2) ∧ (∀ t1 : Int × rt_M, t = .inr t1 → Q (some (0, t1.1)) z t1.2)) : RT G M_X12_reads d z Q 289 [(2, a0), (0, a1), (9, 0), (9, 0), (9, 0), (9, 0)] [(0, s1), (2, s0)] z mem0 := by
  unfold j_X12_reads_289_11 at h
  obtain ⟨p289, hp289, h⟩ := Option.bind_eq_some_iff.mp h
  obtain ⟨hk289, hp289⟩ := rt_gd_some hp289
  refine RT.cVz (pc := 289) (M' := M_X12_puts) (ci := 12) (x := s0) (As := [(0, s1)]) (st := []) (r := none) (mem1 := p289) (d' := d - 1) hz dX12_reads_289 mw_X12_puts ml_X12_245 mi_X12_puts hk289 rfl rfl (Nat.le_of_ble_eq_true rfl) (Nat.le_of_ble_eq_true rfl) (by omega) rfl rfl (c_X12_puts hz (by omega) s0 s1 mem0 _ hk289 hp289) ?_
  refine RT.aload_n (pc := 292) (k := 0) (x := a0) dX12_reads_292 rfl ?_
  obtain ⟨v293, hv293, h⟩ := Option.bind_eq_some_iff.mp h
  refine RT.gf 12 28 2 (pc := 293) (x := a0) (v := v293) hz dX12_reads_293 fl_X12_59 rfl hv293 ?_
  refine RT.iload_n (pc := 296) (k := 1) (x := a1) dX12_reads_296 rfl ?_
  refine RT.iconst (pc := 297) (n := 1) dX12_reads_297 ⟨by decide, by decide⟩ ?_
  obtain ⟨m298, hm298, h⟩ := Option.bind_eq_some_iff.mp h
  refine RT.zast (pc := 298) (x := v293) (i := a1) (v := 1) (mem1 := m298) dX12_reads_298 (by decide) (rt_lts hz (by decide) (by decide) hm298) hm298 ?_
  refine RT.iconst (pc := 299) (n := 1) dX12_reads_299 ⟨by decide, by decide⟩ ?_
  refine RT.istore_n (pc := 300) (k := 2) (x := 1) (L1 := [(2, a0), (0, a1), (0, 1), (9, 0), (9, 0), (9, 0)]) dX12_reads_300 (Nat.le_of_ble_eq_true rfl) rfl ?_
  refine RT.goto (pc := 301) (tgt := 424) dX12_reads_301 rfl ?_
  exact cj_X12_reads_424_11 hz hd ht a1 1 m298 _ h hK
set_option maxRecDepth 20000 in
theorem cj_X12_reads_263_11 {G : rt_G} {d : Nat} {z : Nat × Nat} {Q : rt_P} (hz : 300 ≤ z.1) (hd : 2 ≤ d) {a0 : Int} (ht : rt_kd a0.toNat = 20 + 12) (a1 : Int) (a2 : Int) (mem0 : rt_M) (t : (Int × Int × rt_M) ⊕ (Int × rt_M)) (h : j_X12_reads_263_11 a0 a1 a2 mem0 = some t) (hK : (∀ s1 : Int × Int × rt_M, t = .inl s1 → RT G M_X12_reads d z Q 11 [(2, a0), (0, s1.1), (0, s1.2.1), (9, 0), (9, 0), (9, 0)] [] z s1.2.2) ∧ (∀ t1 : Int × rt_M, t = .inr t1 → Q (some (0, t1.1)) z t1.2)) : RT G M_X12_reads d z Q 263 [(2, a0), (0, a1), (0, a2), (9, 0), (9, 0), (9, 0)] [] z mem0 := by
  unfold j_X12_reads_263_11 at h
  refine RT.aload_n (pc := 263) (k := 0) (x := a0) dX12_reads_263 rfl ?_
  obtain ⟨v264, hv264, h⟩ := Option.bind_eq_some_iff.mp h
  refine RT.gf 12 28 2 (pc := 264) (x := a0) (v := v264) hz dX12_reads_264 fl_X12_59 rfl hv264 ?_
  refine RT.iload_n (pc := 267) (k := 1) (x := a1) dX12_reads_267 rfl ?_
  obtain ⟨v268, hv268, h⟩ := Option.bind_eq_some_iff.mp h
  refine RT.zald (pc := 268) (x := v264) (i := a1) (v := v268) dX12_reads_268 (rt_lta hz (by decide) (by decide) hv268) hv268 ?_
  refine RT.if_ne (pc := 269) (tgt := 304) dX12_reads_269 rfl (fun q269 => ?_) (fun q269 => ?_)
  · rw [if_neg q269] at h
    exact cj_X12_reads_304_11 hz hd ht a1 a2 mem0 _ h hK
  · rw [if_pos (Classical.not_not.mp q269)] at h
    refine RT.aload_n (pc := 272) (k := 0) (x := a0) dX12_reads_272 rfl ?_
    refine RT.aload_n (pc := 273) (k := 0) (x := a0) dX12_reads_273 rfl ?_
    refine RT.bipush (pc := 274) (n := 60) dX12_reads_274 ⟨by decide, by decide⟩ rfl ?_
    obtain ⟨p276, hp276, h⟩ := Option.bind_eq_some_iff.mp h
    refine RT.cVz (pc := 276) (M' := M_X12_isSign) (ci := 12) (x := a0) (As := [(0, 60)]) (st := [(2, a0)]) (r := some (0, p276)) (mem1 := mem0) (d' := d - 1) hz dX12_reads_276 mw_X12_isSign ml_X12_238 mi_X12_isSign ht rfl rfl (Nat.le_of_ble_eq_true rfl) (Nat.le_of_ble_eq_true rfl) (by omega) rfl rfl (c_X12_isSign hz (by omega) a0 60 mem0 _ ht hp276) ?_
    refine RT.if_eq (pc := 279) (tgt := 287) dX12_reads_279 rfl (fun q279 => ?_) (fun q279 => ?_)
    · rw [if_pos q279] at h
      refine RT.bipush (pc := 287) (n := 25) dX12_reads_287 ⟨by decide, by decide⟩ rfl ?_
      refine RT.wk (L1 := [(2, a0), (0, a1), (9, 0), (9, 0), (9, 0), (9, 0)]) (rt_le_s (rt_le_s (rt_le_j (rt_le_s (rt_le_s (rt_le_s rt_le_n)))))) ?_
      exact cj_X12_reads_289_11 hz hd ht a1 a0 25 mem0 _ h hK
    · rw [if_neg q279] at h
      refine RT.bipush (pc := 282) (n := 24) dX12_reads_282 ⟨by decide, by decide⟩ rfl ?_
      refine RT.goto (pc := 284) (tgt := 289) dX12_reads_284 rfl ?_
      refine RT.wk (L1 := [(2, a0), (0, a1), (9, 0), (9, 0), (9, 0), (9, 0)]) (rt_le_s (rt_le_s (rt_le_j (rt_le_s (rt_le_s (rt_le_s rt_le_n)))))) ?_
      exact cj_X12_reads_289_11 hz hd ht a1 a0 24 mem0 _ h hK
set_option maxRecDepth 20000 in
theorem cj_X12_reads_172_11 {G : rt_G} {d : Nat} {z : Nat × Nat} {Q : rt_P} (hz : 300 ≤ z.1) (hd : 2 ≤ d) {a0 : Int} (ht : rt_kd a0.toNat = 20 + 12) (a1 : Int) (a2 : Int) (mem0 : rt_M) (t : (Int × Int × rt_M) ⊕ (Int × rt_M)) (h : j_X12_reads_172_11 a0 a1 a2 mem0 = some t) (hK : (∀ s1 : Int × Int × rt_M, t = .inl s1 → RT G M_X12_reads d z Q 11 [(2, a0), (0, s1.1), (0, s1.2.1), (9, 0), (9, 0), (9, 0)] [] z s1.2.2) ∧ (∀ t1 : Int × rt_M, t = .inr t1 → Q (some (0, t1.1)) z t1.2)) : RT G M_X12_reads d z Q 172 [(2, a0), (0, a1), (0, a2), (9, 0), (9, 0), (9, 0)] [] z mem0 := by
  unfold j_X12_reads_172_11 at h
  refine RT.aload_n (pc := 172) (k := 0) (x := a0) dX12_reads_172 rfl ?_
  obtain ⟨p173, hp173, h⟩ := Option.bind_eq_some_iff.mp h
  refine RT.cVz (pc := 173) (M' := M_X12_nextToken) (ci := 12) (x := a0) (As := []) (st := []) (r := none) (mem1 := p173) (d' := d - 1) hz dX12_reads_173 mw_X12_nextToken ml_X12_249 mi_X12_nextToken ht rfl rfl (Nat.le_of_ble_eq_true rfl) (Nat.le_of_ble_eq_true rfl) (by omega) rfl rfl (c_X12_nextToken hz (by omega) a0 mem0 _ ht hp173) ?_
  refine RT.goto (pc := 176) (tgt := 11) dX12_reads_176 rfl ?_
  obtain rfl := Option.some.inj h
  have q1 := hK.1 ((a1, a2, p173)) rfl
  try dsimp only at q1
  exact q1
set_option maxRecDepth 20000 in
theorem cj_X12_reads_120_11 {G : rt_G} {d : Nat} {z : Nat × Nat} {Q : rt_P} (hz : 300 ≤ z.1) (hd : 2 ≤ d) {a0 : Int} (ht : rt_kd a0.toNat = 20 + 12) (a1 : Int) (a2 : Int) (s0 : Int) (s1 : Int) (s2 : Int) (mem0 : rt_M) (t : (Int × Int × rt_M) ⊕ (Int × rt_M)) (h : j_X12_reads_120_11 a0 a1 a2 s0 s1 s2 mem0 = some t) (hK : (∀ s1 : Int × Int × rt_M, t = .inl s1 → RT G M_X12_reads d z Q 11 [(2, a0), (0, s1.1), (0, s1.2.1), (9, 0), (9, 0), (9, 0)] [] z s1.2.2) ∧ (∀ t1 : Int × rt_M, t = .inr t1 → Q (some (0, t1.1)) z t1.2)) : RT G M_X12_reads d z Q 120 [(2, a0), (0, a1), (0, a2), (9, 0), (9, 0), (9, 0)] [(0, s2), (0, s1), (2, s0)] z mem0 := by
  unfold j_X12_reads_120_11 at h
  obtain ⟨m120, hm120, h⟩ := Option.bind_eq_some_iff.mp h
  refine RT.iast (pc := 120) (x := s0) (i := s1) (v := s2) (mem1 := m120) dX12_reads_120 (rt_lts hz (by decide) (by decide) hm120) hm120 ?_
  refine RT.aload_n (pc := 121) (k := 0) (x := a0) dX12_reads_121 rfl ?_
  obtain ⟨v122, hv122, h⟩ := Option.bind_eq_some_iff.mp h
  refine RT.gf 12 28 2 (pc := 122) (x := a0) (v := v122) hz dX12_reads_122 fl_X12_59 rfl hv122 ?_
  refine RT.iload_n (pc := 125) (k := 1) (x := a1) dX12_reads_125 rfl ?_
  refine RT.iconst (pc := 126) (n := 0) dX12_reads_126 ⟨by decide, by decide⟩ ?_
  obtain ⟨m127, hm127, h⟩ := Option.bind_eq_some_iff.mp h
  refine RT.zast (pc := 127) (x := v122) (i := a1) (v := 0) (mem1 := m127) dX12_reads_127 (by decide) (rt_lts hz (by decide) (by decide) hm127) hm127 ?_
  refine RT.goto (pc := 128) (tgt := 172) dX12_reads_128 rfl ?_
  exact cj_X12_reads_172_11 hz hd ht a1 a2 m127 _ h hK
set_option maxRecDepth 20000 in
theorem cj_X12_reads_99_11 {G : rt_G} {d : Nat} {z : Nat × Nat} {Q : rt_P} (hz : 300 ≤ z.1) (hd : 2 ≤ d) {a0 : Int} (ht : rt_kd a0.toNat = 20 + 12) (a1 : Int) (a2 : Int) (a4 : Int) (s0 : Int) (s1 : Int) (mem0 : rt_M) (t : (Int × Int × rt_M) ⊕ (Int × rt_M)) (h : j_X12_reads_99_11 a0 a1 a2 a4 s0 s1 mem0 = some t) (hK : (∀ s1 : Int × Int × rt_M, t = .inl s1 → RT G M_X12_reads d z Q 11 [(2, a0), (0, s1.1), (0, s1.2.1), (9, 0), (9, 0), (9, 0)] [] z s1.2.2) ∧ (∀ t1 : Int × rt_M, t = .inr t1 → Q (some (0, t1.1)) z t1.2)) : RT G M_X12_reads d z Q 99 [(2, a0), (0, a1), (0, a2), (9, 0), (0, a4), (9, 0)] [(0, s1), (2, s0)] z mem0 := by
  unfold j_X12_reads_99_11 at h
  obtain ⟨p99, hp99, h⟩ := Option.bind_eq_some_iff.mp h
  obtain ⟨hk99, hp99⟩ := rt_gd_some hp99
  refine RT.cVz (pc := 99) (M' := M_X12_puts) (ci := 12) (x := s0) (As := [(0, s1)]) (st := []) (r := none) (mem1 := p99) (d' := d - 1) hz dX12_reads_99 mw_X12_puts ml_X12_245 mi_X12_puts hk99 rfl rfl (Nat.le_of_ble_eq_true rfl) (Nat.le_of_ble_eq_true rfl) (by omega) rfl rfl (c_X12_puts hz (by omega) s0 s1 mem0 _ hk99 hp99) ?_
  refine RT.iinc (pc := 102) (x := a1) (L1 := [(2, a0), (0, (rt_iadd a1 1)), (0, a2), (9, 0), (0, a4), (9, 0)]) dX12_reads_102 rfl (Nat.le_of_ble_eq_true rfl) ⟨by decide, by decide⟩ rfl ?_
  refine RT.aload_n (pc := 105) (k := 0) (x := a0) dX12_reads_105 rfl ?_
  obtain ⟨v106, hv106, h⟩ := Option.bind_eq_some_iff.mp h
  refine RT.gf 12 27 2 (pc := 106) (x := a0) (v := v106) hz dX12_reads_106 fl_X12_56 rfl hv106 ?_
  refine RT.iload_n (pc := 109) (k := 1) (x := (rt_iadd a1 1)) dX12_reads_109 rfl ?_
  refine RT.iload (pc := 110) (k := 4) (x := a4) dX12_reads_110 rfl ?_
  refine RT.if_eq (pc := 112) (tgt := 119) dX12_reads_112 rfl (fun q112 => ?_) (fun q112 => ?_)
  · rw [if_pos q112] at h
    refine RT.iconst (pc := 119) (n := 2) dX12_reads_119 ⟨by decide, by decide⟩ ?_
    refine RT.wk (L1 := [(2, a0), (0, (rt_iadd a1 1)), (0, a2), (9, 0), (9, 0), (9, 0)]) (rt_le_s (rt_le_s (rt_le_s (rt_le_s (rt_le_j (rt_le_s rt_le_n)))))) ?_
    exact cj_X12_reads_120_11 hz hd ht ((rt_iadd a1 1)) a2 v106 ((rt_iadd a1 1)) 2 p99 _ h hK
  · rw [if_neg q112] at h
    refine RT.iconst (pc := 115) (n := 1) dX12_reads_115 ⟨by decide, by decide⟩ ?_
    refine RT.goto (pc := 116) (tgt := 120) dX12_reads_116 rfl ?_
    refine RT.wk (L1 := [(2, a0), (0, (rt_iadd a1 1)), (0, a2), (9, 0), (9, 0), (9, 0)]) (rt_le_s (rt_le_s (rt_le_s (rt_le_s (rt_le_j (rt_le_s rt_le_n)))))) ?_
    exact cj_X12_reads_120_11 hz hd ht ((rt_iadd a1 1)) a2 v106 ((rt_iadd a1 1)) 1 p99 _ h hK
set_option maxRecDepth 20000 in
theorem cj_X12_reads_86_11 {G : rt_G} {d : Nat} {z : Nat × Nat} {Q : rt_P} (hz : 300 ≤ z.1) (hd : 2 ≤ d) {a0 : Int} (ht : rt_kd a0.toNat = 20 + 12) (a1 : Int) (a2 : Int) (a4 : Int) (mem0 : rt_M) (t : (Int × Int × rt_M) ⊕ (Int × rt_M)) (h : j_X12_reads_86_11 a0 a1 a2 a4 mem0 = some t) (hK : (∀ s1 : Int × Int × rt_M, t = .inl s1 → RT G M_X12_reads d z Q 11 [(2, a0), (0, s1.1), (0, s1.2.1), (9, 0), (9, 0), (9, 0)] [] z s1.2.2) ∧ (∀ t1 : Int × rt_M, t = .inr t1 → Q (some (0, t1.1)) z t1.2)) : RT G M_X12_reads d z Q 86 [(2, a0), (0, a1), (0, a2), (9, 0), (0, a4), (9, 0)] [] z mem0 := by
  unfold j_X12_reads_86_11 at h
  refine RT.aload_n (pc := 86) (k := 0) (x := a0) dX12_reads_86 rfl ?_
  refine RT.iload (pc := 87) (k := 4) (x := a4) dX12_reads_87 rfl ?_
  refine RT.if_eq (pc := 89) (tgt := 97) dX12_reads_89 rfl (fun q89 => ?_) (fun q89 => ?_)
  · rw [if_pos q89] at h
    refine RT.bipush (pc := 97) (n := 28) dX12_reads_97 ⟨by decide, by decide⟩ rfl ?_
    exact cj_X12_reads_99_11 hz hd ht a1 a2 a4 a0 28 mem0 _ h hK
  · rw [if_neg q89] at h
    refine RT.bipush (pc := 92) (n := 30) dX12_reads_92 ⟨by decide, by decide⟩ rfl ?_
    refine RT.goto (pc := 94) (tgt := 99) dX12_reads_94 rfl ?_
    exact cj_X12_reads_99_11 hz hd ht a1 a2 a4 a0 30 mem0 _ h hK
set_option maxRecDepth 20000 in
theorem cb_X12_reads_152 {G : rt_G} {d : Nat} {z : Nat × Nat} {Q : rt_P} (hz : 300 ≤ z.1) (hd : 2 ≤ d) {a0 : Int} (ht : rt_kd a0.toNat = 20 + 12) (a2 : Int) (s : Int × rt_M) (t : (Int × rt_M) ⊕ (Int × rt_M)) (h : b_X12_reads_152 a0 a2 s = some t) (hK : (∀ s1 : Int × rt_M, t = .inl s1 → RT G M_X12_reads d z Q 152 [(2, a0), (0, s1.1), (0, a2), (9, 0), (9, 0), (9, 0)] [] z s1.2) ∧ (∀ x1 : Int × rt_M, t = .inr x1 → RT G M_X12_reads d z Q 172 [(2, a0), (0, x1.1), (0, a2), (9, 0), (9, 0), (9, 0)] [] z x1.2)) : RT G M_X12_reads d z Q 152 [(2, a0), (0, s.1), (0, a2), (9, 0), (9, 0), (9, 0)] [] z s.2 := by
  unfold b_X12_reads_152 at h
  refine RT.iload_n (pc := 152) (k := 1) (x := s.1) dX12_reads_152 rfl ?_
  refine RT.if_le (pc := 153) (tgt := 172) dX12_reads_153 rfl (fun q153 => ?_) (fun q153 => ?_)
  · rw [if_pos q153] at h
    obtain rfl := Option.some.inj h
    have q1 := hK.2 ((s.1, s.2)) rfl
    try dsimp only at q1
    exact q1
  · rw [if_neg q153] at h
    refine RT.aload_n (pc := 156) (k := 0) (x := a0) dX12_reads_156 rfl ?_
    obtain ⟨v157, hv157, h⟩ := Option.bind_eq_some_iff.mp h
    refine RT.gf 12 27 2 (pc := 157) (x := a0) (v := v157) hz dX12_reads_157 fl_X12_56 rfl hv157 ?_
    refine RT.iload_n (pc := 160) (k := 1) (x := s.1) dX12_reads_160 rfl ?_
    obtain ⟨v161, hv161, h⟩ := Option.bind_eq_some_iff.mp h
    refine RT.iald (pc := 161) (x := v157) (i := s.1) (v := v161) dX12_reads_161 (rt_lta hz (by decide) (by decide) hv161) hv161 ?_
    refine RT.iconst (pc := 162) (n := 1) dX12_reads_162 ⟨by decide, by decide⟩ ?_
    refine RT.icmp_ne (pc := 163) (tgt := 172) dX12_reads_163 rfl (fun q163 => ?_) (fun q163 => ?_)
    · rw [if_neg q163] at h
      obtain rfl := Option.some.inj h
      have q1 := hK.2 ((s.1, s.2)) rfl
      try dsimp only at q1
      exact q1
    · rw [if_pos (Classical.not_not.mp q163)] at h
      refine RT.iinc (pc := 166) (x := s.1) (L1 := [(2, a0), (0, (rt_iadd s.1 (-1))), (0, a2), (9, 0), (9, 0), (9, 0)]) dX12_reads_166 rfl (Nat.le_of_ble_eq_true rfl) ⟨by decide, by decide⟩ rfl ?_
      refine RT.goto (pc := 169) (tgt := 152) dX12_reads_169 rfl ?_
      obtain rfl := Option.some.inj h
      have q1 := hK.1 (((rt_iadd s.1 (-1)), s.2)) rfl
      try dsimp only at q1
      exact q1
set_option maxRecDepth 20000 in
theorem cj_X12_reads_147_11 {G : rt_G} {d : Nat} {z : Nat × Nat} {Q : rt_P} (hz : 300 ≤ z.1) (hd : 2 ≤ d) {a0 : Int} (ht : rt_kd a0.toNat = 20 + 12) (a1 : Int) (s0 : Int) (s1 : Int) (mem0 : rt_M) (t : (Int × Int × rt_M) ⊕ (Int × rt_M)) (h : j_X12_reads_147_11 a0 a1 s0 s1 mem0 = some t) (hK : (∀ s1 : Int × Int × rt_M, t = .inl s1 → RT G M_X12_reads d z Q 11 [(2, a0), (0, s1.1), (0, s1.2.1), (9, 0), (9, 0), (9, 0)] [] z s1.2.2) ∧ (∀ t1 : Int × rt_M, t = .inr t1 → Q (some (0, t1.1)) z t1.2)) : RT G M_X12_reads d z Q 147 [(2, a0), (0, a1), (9, 0), (9, 0), (9, 0), (9, 0)] [(0, s1), (2, s0)] z mem0 := by
  unfold j_X12_reads_147_11 at h
  obtain ⟨p147, hp147, h⟩ := Option.bind_eq_some_iff.mp h
  obtain ⟨hk147, hp147⟩ := rt_gd_some hp147
  refine RT.cVz (pc := 147) (M' := M_X12_puts) (ci := 12) (x := s0) (As := [(0, s1)]) (st := []) (r := none) (mem1 := p147) (d' := d - 1) hz dX12_reads_147 mw_X12_puts ml_X12_245 mi_X12_puts hk147 rfl rfl (Nat.le_of_ble_eq_true rfl) (Nat.le_of_ble_eq_true rfl) (by omega) rfl rfl (c_X12_puts hz (by omega) s0 s1 mem0 _ hk147 hp147) ?_
  refine RT.iconst (pc := 150) (n := 0) dX12_reads_150 ⟨by decide, by decide⟩ ?_
  refine RT.istore_n (pc := 151) (k := 2) (x := 0) (L1 := [(2, a0), (0, a1), (0, 0), (9, 0), (9, 0), (9, 0)]) dX12_reads_151 (Nat.le_of_ble_eq_true rfl) rfl ?_
  obtain ⟨X152, hX152, h⟩ := Option.bind_eq_some_iff.mp h
  refine rt_it_ind (P := (fun s1 : Int × rt_M => RT G M_X12_reads d z Q 152 [(2, a0), (0, s1.1), (0, 0), (9, 0), (9, 0), (9, 0)] [] z s1.2)) (X := (fun x1 : Int × rt_M => RT G M_X12_reads d z Q 172 [(2, a0), (0, x1.1), (0, 0), (9, 0), (9, 0), (9, 0)] [] z x1.2)) (fun s1 t1 h1 k1 k2 => cb_X12_reads_152 hz hd ht 0 s1 t1 h1 ⟨k1, k2⟩) 4000 ((a1, p147)) X152 hX152 ?_
  exact cj_X12_reads_172_11 hz hd ht X152.1 0 X152.2 _ h hK
set_option maxRecDepth 20000 in
theorem cj_X12_reads_65_11 {G : rt_G} {d : Nat} {z : Nat × Nat} {Q : rt_P} (hz : 300 ≤ z.1) (hd : 2 ≤ d) {a0 : Int} (ht : rt_kd a0.toNat = 20 + 12) (a1 : Int) (a2 : Int) (a3 : Int) (a4 : Int) (a5 : Int) (mem0 : rt_M) (t : (Int × Int × rt_M) ⊕ (Int × rt_M)) (h : j_X12_reads_65_11 a0 a1 a2 a3 a4 a5 mem0 = some t) (hK : (∀ s1 : Int × Int × rt_M, t = .inl s1 → RT G M_X12_reads d z Q 11 [(2, a0), (0, s1.1), (0, s1.2.1), (9, 0), (9, 0), (9, 0)] [] z s1.2.2) ∧ (∀ t1 : Int × rt_M, t = .inr t1 → Q (some (0, t1.1)) z t1.2)) : RT G M_X12_reads d z Q 65 [(2, a0), (0, a1), (0, a2), (0, a3), (0, a4), (0, a5)] [] z mem0 := by
  unfold j_X12_reads_65_11 at h
  refine RT.iload_n (pc := 65) (k := 1) (x := a1) dX12_reads_65 rfl ?_
  refine RT.iconst (pc := 66) (n := 5) dX12_reads_66 ⟨by decide, by decide⟩ ?_
  refine RT.icmp_ne (pc := 67) (tgt := 76) dX12_reads_67 rfl (fun q67 => ?_) (fun q67 => ?_)
  · rw [if_neg q67] at h
    refine RT.iload (pc := 76) (k := 4) (x := a4) dX12_reads_76 rfl ?_
    refine RT.if_ne (pc := 78) (tgt := 86) dX12_reads_78 rfl (fun q78 => ?_) (fun q78 => ?_)
    · rw [if_neg q78] at h
      refine RT.wk (L1 := [(2, a0), (0, a1), (0, a2), (9, 0), (0, a4), (9, 0)]) (rt_le_s (rt_le_s (rt_le_s (rt_le_j (rt_le_s (rt_le_j rt_le_n)))))) ?_
      exact cj_X12_reads_86_11 hz hd ht a1 a2 a4 mem0 _ h hK
    · rw [if_pos (Classical.not_not.mp q78)] at h
      refine RT.iload (pc := 81) (k := 5) (x := a5) dX12_reads_81 rfl ?_
      refine RT.if_eq (pc := 83) (tgt := 131) dX12_reads_83 rfl (fun q83 => ?_) (fun q83 => ?_)
      · rw [if_pos q83] at h
        refine RT.aload_n (pc := 131) (k := 0) (x := a0) dX12_reads_131 rfl ?_
        refine RT.iload_n (pc := 132) (k := 3) (x := a3) dX12_reads_132 rfl ?_
        refine RT.if_le (pc := 133) (tgt := 140) dX12_reads_133 rfl (fun q133 => ?_) (fun q133 => ?_)
        · rw [if_pos q133] at h
          refine RT.bipush (pc := 140) (n := 100) dX12_reads_140 ⟨by decide, by decide⟩ rfl ?_
          refine RT.aload_n (pc := 142) (k := 0) (x := a0) dX12_reads_142 rfl ?_
          obtain ⟨v143, hv143, h⟩ := Option.bind_eq_some_iff.mp h
          refine RT.gf 12 8 0 (pc := 143) (x := a0) (v := v143) hz dX12_reads_143 fl_X12_193 rfl hv143 ?_
          refine RT.iadd (pc := 146) dX12_reads_146 ?_
          refine RT.wk (L1 := [(2, a0), (0, a1), (9, 0), (9, 0), (9, 0), (9, 0)]) (rt_le_s (rt_le_s (rt_le_j (rt_le_j (rt_le_j (rt_le_j rt_le_n)))))) ?_
          exact cj_X12_reads_147_11 hz hd ht a1 a0 ((rt_iadd 100 v143)) mem0 _ h hK
        · rw [if_neg q133] at h
          refine RT.iload_n (pc := 136) (k := 3) (x := a3) dX12_reads_136 rfl ?_
          refine RT.goto (pc := 137) (tgt := 147) dX12_reads_137 rfl ?_
          refine RT.wk (L1 := [(2, a0), (0, a1), (9, 0), (9, 0), (9, 0), (9, 0)]) (rt_le_s (rt_le_s (rt_le_j (rt_le_j (rt_le_j (rt_le_j rt_le_n)))))) ?_
          exact cj_X12_reads_147_11 hz hd ht a1 a0 a3 mem0 _ h hK
      · rw [if_neg q83] at h
        refine RT.wk (L1 := [(2, a0), (0, a1), (0, a2), (9, 0), (0, a4), (9, 0)]) (rt_le_s (rt_le_s (rt_le_s (rt_le_j (rt_le_s (rt_le_j rt_le_n)))))) ?_
        exact cj_X12_reads_86_11 hz hd ht a1 a2 a4 mem0 _ h hK
  · rw [if_pos (Classical.not_not.mp q67)] at h
    obtain ⟨t2, g2, e2⟩ := Option.map_eq_some_iff.mp h
    subst e2
    replace h := g2
    replace hK := hK.2 t2 rfl
    refine RT.aload_n (pc := 70) (k := 0) (x := a0) dX12_reads_70 rfl ?_
    refine RT.iconst (pc := 71) (n := 5) dX12_reads_71 ⟨by decide, by decide⟩ ?_
    obtain ⟨p72, hp72, h⟩ := Option.bind_eq_some_iff.mp h
    refine RT.cVz (pc := 72) (M' := M_X12_fails) (ci := 12) (x := a0) (As := [(0, 5)]) (st := []) (r := some (0, p72.1)) (mem1 := p72.2) (d' := d - 1) hz dX12_reads_72 mw_X12_fails ml_X12_242 mi_X12_fails ht rfl rfl (Nat.le_of_ble_eq_true rfl) (Nat.le_of_ble_eq_true rfl) (by omega) rfl rfl (c_X12_fails hz (by omega) a0 5 mem0 _ ht hp72) ?_
    obtain ⟨w75, hw75, h⟩ := Option.bind_eq_some_iff.mp h
    obtain rfl := Option.some.inj h
    exact RT.zret (pc := 75) dX12_reads_75 rfl (rt_bz_ok hw75) (Nat.le_of_eq (rt_cells_0 z)) (Nat.le_of_eq (rt_slots_0 z)) hK
set_option maxRecDepth 20000 in
theorem cb_X12_reads_11 {G : rt_G} {d : Nat} {z : Nat × Nat} {Q : rt_P} (hz : 300 ≤ z.1) (hd : 2 ≤ d) {a0 : Int} (ht : rt_kd a0.toNat = 20 + 12) (s : Int × Int × rt_M) (t : (Int × Int × rt_M) ⊕ (Int × rt_M)) (h : b_X12_reads_11 a0 s = some t) (hK : (∀ s1 : Int × Int × rt_M, t = .inl s1 → RT G M_X12_reads d z Q 11 [(2, a0), (0, s1.1), (0, s1.2.1), (9, 0), (9, 0), (9, 0)] [] z s1.2.2) ∧ (∀ t1 : Int × rt_M, t = .inr t1 → Q (some (0, t1.1)) z t1.2)) : RT G M_X12_reads d z Q 11 [(2, a0), (0, s.1), (0, s.2.1), (9, 0), (9, 0), (9, 0)] [] z s.2.2 := by
  unfold b_X12_reads_11 at h
  refine RT.iload_n (pc := 11) (k := 2) (x := s.2.1) dX12_reads_11 rfl ?_
  refine RT.if_eq (pc := 12) (tgt := 179) dX12_reads_12 rfl (fun q12 => ?_) (fun q12 => ?_)
  · rw [if_pos q12] at h
    refine RT.aload_n (pc := 179) (k := 0) (x := a0) dX12_reads_179 rfl ?_
    refine RT.bipush (pc := 180) (n := 43) dX12_reads_180 ⟨by decide, by decide⟩ rfl ?_
    obtain ⟨p182, hp182, h⟩ := Option.bind_eq_some_iff.mp h
    refine RT.cVz (pc := 182) (M' := M_X12_isSign) (ci := 12) (x := a0) (As := [(0, 43)]) (st := []) (r := some (0, p182)) (mem1 := s.2.2) (d' := d - 1) hz dX12_reads_182 mw_X12_isSign ml_X12_238 mi_X12_isSign ht rfl rfl (Nat.le_of_ble_eq_true rfl) (Nat.le_of_ble_eq_true rfl) (by omega) rfl rfl (c_X12_isSign hz (by omega) a0 43 s.2.2 _ ht hp182) ?_
    refine RT.if_ne (pc := 185) (tgt := 206) dX12_reads_185 rfl (fun q185 => ?_) (fun q185 => ?_)
    · rw [if_neg q185] at h
      refine RT.wk (L1 := [(2, a0), (0, s.1), (9, 0), (9, 0), (9, 0), (9, 0)]) (rt_le_s (rt_le_s (rt_le_j (rt_le_s (rt_le_s (rt_le_s rt_le_n)))))) ?_
      exact cj_X12_reads_206_11 hz hd ht s.1 s.2.2 _ h hK
    · rw [if_pos (Classical.not_not.mp q185)] at h
      refine RT.aload_n (pc := 188) (k := 0) (x := a0) dX12_reads_188 rfl ?_
      refine RT.bipush (pc := 189) (n := 45) dX12_reads_189 ⟨by decide, by decide⟩ rfl ?_
      obtain ⟨p191, hp191, h⟩ := Option.bind_eq_some_iff.mp h
      refine RT.cVz (pc := 191) (M' := M_X12_isSign) (ci := 12) (x := a0) (As := [(0, 45)]) (st := []) (r := some (0, p191)) (mem1 := s.2.2) (d' := d - 1) hz dX12_reads_191 mw_X12_isSign ml_X12_238 mi_X12_isSign ht rfl rfl (Nat.le_of_ble_eq_true rfl) (Nat.le_of_ble_eq_true rfl) (by omega) rfl rfl (c_X12_isSign hz (by omega) a0 45 s.2.2 _ ht hp191) ?_
      refine RT.if_ne (pc := 194) (tgt := 206) dX12_reads_194 rfl (fun q194 => ?_) (fun q194 => ?_)
      · rw [if_neg q194] at h
        refine RT.wk (L1 := [(2, a0), (0, s.1), (9, 0), (9, 0), (9, 0), (9, 0)]) (rt_le_s (rt_le_s (rt_le_j (rt_le_s (rt_le_s (rt_le_s rt_le_n)))))) ?_
        exact cj_X12_reads_206_11 hz hd ht s.1 s.2.2 _ h hK
      · rw [if_pos (Classical.not_not.mp q194)] at h
        refine RT.aload_n (pc := 197) (k := 0) (x := a0) dX12_reads_197 rfl ?_
        refine RT.bipush (pc := 198) (n := 42) dX12_reads_198 ⟨by decide, by decide⟩ rfl ?_
        obtain ⟨p200, hp200, h⟩ := Option.bind_eq_some_iff.mp h
        refine RT.cVz (pc := 200) (M' := M_X12_isSign) (ci := 12) (x := a0) (As := [(0, 42)]) (st := []) (r := some (0, p200)) (mem1 := s.2.2) (d' := d - 1) hz dX12_reads_200 mw_X12_isSign ml_X12_238 mi_X12_isSign ht rfl rfl (Nat.le_of_ble_eq_true rfl) (Nat.le_of_ble_eq_true rfl) (by omega) rfl rfl (c_X12_isSign hz (by omega) a0 42 s.2.2 _ ht hp200) ?_
        refine RT.if_eq (pc := 203) (tgt := 245) dX12_reads_203 rfl (fun q203 => ?_) (fun q203 => ?_)
        · rw [if_pos q203] at h
          refine RT.aload_n (pc := 245) (k := 0) (x := a0) dX12_reads_245 rfl ?_
          refine RT.bipush (pc := 246) (n := 60) dX12_reads_246 ⟨by decide, by decide⟩ rfl ?_
          obtain ⟨p248, hp248, h⟩ := Option.bind_eq_some_iff.mp h
          refine RT.cVz (pc := 248) (M' := M_X12_isSign) (ci := 12) (x := a0) (As := [(0, 60)]) (st := []) (r := some (0, p248)) (mem1 := s.2.2) (d' := d - 1) hz dX12_reads_248 mw_X12_isSign ml_X12_238 mi_X12_isSign ht rfl rfl (Nat.le_of_ble_eq_true rfl) (Nat.le_of_ble_eq_true rfl) (by omega) rfl rfl (c_X12_isSign hz (by omega) a0 60 s.2.2 _ ht hp248) ?_
          refine RT.if_ne (pc := 251) (tgt := 263) dX12_reads_251 rfl (fun q251 => ?_) (fun q251 => ?_)
          · rw [if_neg q251] at h
            exact cj_X12_reads_263_11 hz hd ht s.1 s.2.1 s.2.2 _ h hK
          · rw [if_pos (Classical.not_not.mp q251)] at h
            refine RT.aload_n (pc := 254) (k := 0) (x := a0) dX12_reads_254 rfl ?_
            refine RT.bipush (pc := 255) (n := 61) dX12_reads_255 ⟨by decide, by decide⟩ rfl ?_
            obtain ⟨p257, hp257, h⟩ := Option.bind_eq_some_iff.mp h
            refine RT.cVz (pc := 257) (M' := M_X12_isSign) (ci := 12) (x := a0) (As := [(0, 61)]) (st := []) (r := some (0, p257)) (mem1 := s.2.2) (d' := d - 1) hz dX12_reads_257 mw_X12_isSign ml_X12_238 mi_X12_isSign ht rfl rfl (Nat.le_of_ble_eq_true rfl) (Nat.le_of_ble_eq_true rfl) (by omega) rfl rfl (c_X12_isSign hz (by omega) a0 61 s.2.2 _ ht hp257) ?_
            refine RT.if_eq (pc := 260) (tgt := 304) dX12_reads_260 rfl (fun q260 => ?_) (fun q260 => ?_)
            · rw [if_pos q260] at h
              exact cj_X12_reads_304_11 hz hd ht s.1 s.2.1 s.2.2 _ h hK
            · rw [if_neg q260] at h
              exact cj_X12_reads_263_11 hz hd ht s.1 s.2.1 s.2.2 _ h hK
        · rw [if_neg q203] at h
          refine RT.wk (L1 := [(2, a0), (0, s.1), (9, 0), (9, 0), (9, 0), (9, 0)]) (rt_le_s (rt_le_s (rt_le_j (rt_le_s (rt_le_s (rt_le_s rt_le_n)))))) ?_
          exact cj_X12_reads_206_11 hz hd ht s.1 s.2.2 _ h hK
  · rw [if_neg q12] at h
    refine RT.aload_n (pc := 15) (k := 0) (x := a0) dX12_reads_15 rfl ?_
    obtain ⟨p16, hp16, h⟩ := Option.bind_eq_some_iff.mp h
    refine RT.cVz (pc := 16) (M' := M_X12_fact) (ci := 12) (x := a0) (As := []) (st := []) (r := some (0, p16)) (mem1 := s.2.2) (d' := d - 1) hz dX12_reads_16 mw_X12_fact ml_X12_228 mi_X12_fact ht rfl rfl (Nat.le_of_ble_eq_true rfl) (Nat.le_of_ble_eq_true rfl) (by omega) rfl rfl (c_X12_fact hz (by omega) a0 s.2.2 _ ht hp16) ?_
    refine RT.istore_n (pc := 19) (k := 3) (x := p16) (L1 := [(2, a0), (0, s.1), (0, s.2.1), (0, p16), (9, 0), (9, 0)]) dX12_reads_19 (Nat.le_of_ble_eq_true rfl) rfl ?_
    refine RT.aload_n (pc := 20) (k := 0) (x := a0) dX12_reads_20 rfl ?_
    refine RT.ldc2 (pc := 21) (v := 10631) dX12_reads_21 kl_X12_232 ⟨by decide, by decide⟩ ?_
    obtain ⟨p24, hp24, h⟩ := Option.bind_eq_some_iff.mp h
    refine RT.cVz (pc := 24) (M' := M_X12_isWord) (ci := 12) (x := a0) (As := [(1, 10631)]) (st := []) (r := some (0, p24)) (mem1 := s.2.2) (d' := d - 1) hz dX12_reads_24 mw_X12_isWord ml_X12_234 mi_X12_isWord ht rfl rfl (Nat.le_of_ble_eq_true rfl) (Nat.le_of_ble_eq_true rfl) (by omega) rfl rfl (c_X12_isWord hz (by omega) a0 10631 s.2.2 _ ht hp24) ?_
    refine RT.istore (pc := 27) (k := 4) (x := p24) (L1 := [(2, a0), (0, s.1), (0, s.2.1), (0, p16), (0, p24), (9, 0)]) dX12_reads_27 (Nat.le_of_ble_eq_true rfl) rfl ?_
    refine RT.aload_n (pc := 29) (k := 0) (x := a0) dX12_reads_29 rfl ?_
    refine RT.bipush (pc := 30) (n := 40) dX12_reads_30 ⟨by decide, by decide⟩ rfl ?_
    obtain ⟨p32, hp32, h⟩ := Option.bind_eq_some_iff.mp h
    refine RT.cVz (pc := 32) (M' := M_X12_isSign) (ci := 12) (x := a0) (As := [(0, 40)]) (st := []) (r := some (0, p32)) (mem1 := s.2.2) (d' := d - 1) hz dX12_reads_32 mw_X12_isSign ml_X12_238 mi_X12_isSign ht rfl rfl (Nat.le_of_ble_eq_true rfl) (Nat.le_of_ble_eq_true rfl) (by omega) rfl rfl (c_X12_isSign hz (by omega) a0 40 s.2.2 _ ht hp32) ?_
    refine RT.istore (pc := 35) (k := 5) (x := p32) (L1 := [(2, a0), (0, s.1), (0, s.2.1), (0, p16), (0, p24), (0, p32)]) dX12_reads_35 (Nat.le_of_ble_eq_true rfl) rfl ?_
    refine RT.iload_n (pc := 37) (k := 3) (x := p16) dX12_reads_37 rfl ?_
    refine RT.if_ne (pc := 38) (tgt := 65) dX12_reads_38 rfl (fun q38 => ?_) (fun q38 => ?_)
    · rw [if_neg q38] at h
      exact cj_X12_reads_65_11 hz hd ht s.1 s.2.1 p16 p24 p32 s.2.2 _ h hK
    · rw [if_pos (Classical.not_not.mp q38)] at h
      refine RT.iload (pc := 41) (k := 4) (x := p24) dX12_reads_41 rfl ?_
      refine RT.if_ne (pc := 43) (tgt := 65) dX12_reads_43 rfl (fun q43 => ?_) (fun q43 => ?_)
      · rw [if_neg q43] at h
        exact cj_X12_reads_65_11 hz hd ht s.1 s.2.1 p16 p24 p32 s.2.2 _ h hK
      · rw [if_pos (Classical.not_not.mp q43)] at h
        refine RT.iload (pc := 46) (k := 5) (x := p32) dX12_reads_46 rfl ?_
        refine RT.if_ne (pc := 48) (tgt := 65) dX12_reads_48 rfl (fun q48 => ?_) (fun q48 => ?_)
        · rw [if_neg q48] at h
          exact cj_X12_reads_65_11 hz hd ht s.1 s.2.1 p16 p24 p32 s.2.2 _ h hK
        · rw [if_pos (Classical.not_not.mp q48)] at h
          refine RT.aload_n (pc := 51) (k := 0) (x := a0) dX12_reads_51 rfl ?_
          obtain ⟨v52, hv52, h⟩ := Option.bind_eq_some_iff.mp h
          refine RT.gf 12 6 0 (pc := 52) (x := a0) (v := v52) hz dX12_reads_52 fl_X12_196 rfl hv52 ?_
          refine RT.iconst (pc := 55) (n := 2) dX12_reads_55 ⟨by decide, by decide⟩ ?_
          refine RT.icmp_eq (pc := 56) (tgt := 65) dX12_reads_56 rfl (fun q56 => ?_) (fun q56 => ?_)
          · rw [if_pos q56] at h
            exact cj_X12_reads_65_11 hz hd ht s.1 s.2.1 p16 p24 p32 s.2.2 _ h hK
          · rw [if_neg q56] at h
            obtain ⟨t2, g2, e2⟩ := Option.map_eq_some_iff.mp h
            subst e2
            replace h := g2
            replace hK := hK.2 t2 rfl
            refine RT.aload_n (pc := 59) (k := 0) (x := a0) dX12_reads_59 rfl ?_
            refine RT.iconst (pc := 60) (n := 1) dX12_reads_60 ⟨by decide, by decide⟩ ?_
            obtain ⟨p61, hp61, h⟩ := Option.bind_eq_some_iff.mp h
            refine RT.cVz (pc := 61) (M' := M_X12_fails) (ci := 12) (x := a0) (As := [(0, 1)]) (st := []) (r := some (0, p61.1)) (mem1 := p61.2) (d' := d - 1) hz dX12_reads_61 mw_X12_fails ml_X12_242 mi_X12_fails ht rfl rfl (Nat.le_of_ble_eq_true rfl) (Nat.le_of_ble_eq_true rfl) (by omega) rfl rfl (c_X12_fails hz (by omega) a0 1 s.2.2 _ ht hp61) ?_
            obtain ⟨w64, hw64, h⟩ := Option.bind_eq_some_iff.mp h
            obtain rfl := Option.some.inj h
            exact RT.zret (pc := 64) dX12_reads_64 rfl (rt_bz_ok hw64) (Nat.le_of_eq (rt_cells_0 z)) (Nat.le_of_eq (rt_slots_0 z)) hK
set_option maxRecDepth 20000 in
theorem c_X12_reads {G : rt_G} {d : Nat} {z : Nat × Nat} (hz : 300 ≤ z.1) (hd : 2 ≤ d) (a0 : Int) (mem0 : rt_M) (t : Int × rt_M) (ht : rt_kd a0.toNat = 20 + 12) (h : f_X12_reads a0 mem0 = some t) : RM G M_X12_reads d [(2, a0)] z mem0 (some (0, t.1)) t.2 := by
  suffices H : ∀ Q : rt_P, Q (some (0, t.1)) z t.2 → RT G M_X12_reads d z Q 0 [(2, a0), (9, 0), (9, 0), (9, 0), (9, 0), (9, 0)] [] z mem0 from H _ ⟨rfl, rfl, rfl⟩
  intro Q hK
  unfold f_X12_reads at h
  refine RT.iconst (pc := 0) (n := 0) dX12_reads_0 ⟨by decide, by decide⟩ ?_
  refine RT.istore_n (pc := 1) (k := 1) (x := 0) (L1 := [(2, a0), (0, 0), (9, 0), (9, 0), (9, 0), (9, 0)]) dX12_reads_1 (Nat.le_of_ble_eq_true rfl) rfl ?_
  refine RT.iconst (pc := 2) (n := 1) dX12_reads_2 ⟨by decide, by decide⟩ ?_
  refine RT.istore_n (pc := 3) (k := 2) (x := 1) (L1 := [(2, a0), (0, 0), (0, 1), (9, 0), (9, 0), (9, 0)]) dX12_reads_3 (Nat.le_of_ble_eq_true rfl) rfl ?_
  refine RT.aload_n (pc := 4) (k := 0) (x := a0) dX12_reads_4 rfl ?_
  obtain ⟨v5, hv5, h⟩ := Option.bind_eq_some_iff.mp h
  refine RT.gf 12 28 2 (pc := 5) (x := a0) (v := v5) hz dX12_reads_5 fl_X12_59 rfl hv5 ?_
  refine RT.iconst (pc := 8) (n := 0) dX12_reads_8 ⟨by decide, by decide⟩ ?_
  refine RT.iconst (pc := 9) (n := 0) dX12_reads_9 ⟨by decide, by decide⟩ ?_
  obtain ⟨m10, hm10, h⟩ := Option.bind_eq_some_iff.mp h
  refine RT.zast (pc := 10) (x := v5) (i := 0) (v := 0) (mem1 := m10) dX12_reads_10 (by decide) (rt_lts hz (by decide) (by decide) hm10) hm10 ?_
  exact rt_it_ind (P := (fun s1 : Int × Int × rt_M => RT G M_X12_reads d z Q 11 [(2, a0), (0, s1.1), (0, s1.2.1), (9, 0), (9, 0), (9, 0)] [] z s1.2.2)) (X := (fun t1 : Int × rt_M => Q (some (0, t1.1)) z t1.2)) (fun s1 t1 h1 k1 k2 => cb_X12_reads_11 hz hd ht s1 t1 h1 ⟨k1, k2⟩) 4000 ((0, 1, m10)) _ h hK
theorem c_X12_opens {G : rt_G} {d : Nat} {z : Nat × Nat} (hz : 300 ≤ z.1) (hd : 0 ≤ d) (a0 : Int) (a1 : Int) (mem0 : rt_M) (t : rt_M) (ht : rt_kd a0.toNat = 20 + 12) (h : f_X12_opens a0 a1 mem0 = some t) : RM G M_X12_opens d [(2, a0), (0, a1)] z mem0 none t := by
  suffices H : ∀ Q : rt_P, Q none z t → RT G M_X12_opens d z Q 0 [(2, a0), (0, a1)] [] z mem0 from H _ ⟨rfl, rfl, rfl⟩
  intro Q hK
  unfold f_X12_opens at h
  refine RT.aload_n (pc := 0) (k := 0) (x := a0) dX12_opens_0 rfl ?_
  obtain ⟨v1, hv1, h⟩ := Option.bind_eq_some_iff.mp h
  refine RT.gf 12 30 2 (pc := 1) (x := a0) (v := v1) hz dX12_opens_1 fl_X12_66 rfl hv1 ?_
  refine RT.iload_n (pc := 4) (k := 1) (x := a1) dX12_opens_4 rfl ?_
  refine RT.iconst (pc := 5) (n := 0) dX12_opens_5 ⟨by decide, by decide⟩ ?_
  obtain ⟨m6, hm6, h⟩ := Option.bind_eq_some_iff.mp h
  refine RT.iast (pc := 6) (x := v1) (i := a1) (v := 0) (mem1 := m6) dX12_opens_6 (rt_lts hz (by decide) (by decide) hm6) hm6 ?_
  refine RT.aload_n (pc := 7) (k := 0) (x := a0) dX12_opens_7 rfl ?_
  obtain ⟨v8, hv8, h⟩ := Option.bind_eq_some_iff.mp h
  refine RT.gf 12 32 2 (pc := 8) (x := a0) (v := v8) hz dX12_opens_8 fl_X12_72 rfl hv8 ?_
  refine RT.iload_n (pc := 11) (k := 1) (x := a1) dX12_opens_11 rfl ?_
  refine RT.iconst (pc := 12) (n := 0) dX12_opens_12 ⟨by decide, by decide⟩ ?_
  obtain ⟨m13, hm13, h⟩ := Option.bind_eq_some_iff.mp h
  refine RT.iast (pc := 13) (x := v8) (i := a1) (v := 0) (mem1 := m13) dX12_opens_13 (rt_lts hz (by decide) (by decide) hm13) hm13 ?_
  refine RT.aload_n (pc := 14) (k := 0) (x := a0) dX12_opens_14 rfl ?_
  obtain ⟨v15, hv15, h⟩ := Option.bind_eq_some_iff.mp h
  refine RT.gf 12 33 2 (pc := 15) (x := a0) (v := v15) hz dX12_opens_15 fl_X12_75 rfl hv15 ?_
  refine RT.iload_n (pc := 18) (k := 1) (x := a1) dX12_opens_18 rfl ?_
  refine RT.iconst (pc := 19) (n := 0) dX12_opens_19 ⟨by decide, by decide⟩ ?_
  obtain ⟨m20, hm20, h⟩ := Option.bind_eq_some_iff.mp h
  refine RT.iast (pc := 20) (x := v15) (i := a1) (v := 0) (mem1 := m20) dX12_opens_20 (rt_lts hz (by decide) (by decide) hm20) hm20 ?_
  refine RT.aload_n (pc := 21) (k := 0) (x := a0) dX12_opens_21 rfl ?_
  obtain ⟨v22, hv22, h⟩ := Option.bind_eq_some_iff.mp h
  refine RT.gf 12 34 2 (pc := 22) (x := a0) (v := v22) hz dX12_opens_22 fl_X12_78 rfl hv22 ?_
  refine RT.iload_n (pc := 25) (k := 1) (x := a1) dX12_opens_25 rfl ?_
  refine RT.bipush (pc := 26) (n := 20) dX12_opens_26 ⟨by decide, by decide⟩ rfl ?_
  obtain ⟨m28, hm28, h⟩ := Option.bind_eq_some_iff.mp h
  refine RT.iast (pc := 28) (x := v22) (i := a1) (v := 20) (mem1 := m28) dX12_opens_28 (rt_lts hz (by decide) (by decide) hm28) hm28 ?_
  refine RT.aload_n (pc := 29) (k := 0) (x := a0) dX12_opens_29 rfl ?_
  obtain ⟨v30, hv30, h⟩ := Option.bind_eq_some_iff.mp h
  refine RT.gf 12 36 2 (pc := 30) (x := a0) (v := v30) hz dX12_opens_30 fl_X12_84 rfl hv30 ?_
  refine RT.iload_n (pc := 33) (k := 1) (x := a1) dX12_opens_33 rfl ?_
  refine RT.iconst (pc := 34) (n := 0) dX12_opens_34 ⟨by decide, by decide⟩ ?_
  obtain ⟨m35, hm35, h⟩ := Option.bind_eq_some_iff.mp h
  refine RT.iast (pc := 35) (x := v30) (i := a1) (v := 0) (mem1 := m35) dX12_opens_35 (rt_lts hz (by decide) (by decide) hm35) hm35 ?_
  obtain rfl := Option.some.inj h
  exact RT.vret (pc := 36) dX12_opens_36 rfl (Nat.le_of_eq (rt_cells_0 z)) (Nat.le_of_eq (rt_slots_0 z)) hK
theorem cj_X12_sums_45 {G : rt_G} {d : Nat} {z : Nat × Nat} {Q : rt_P} (hz : 300 ≤ z.1) (hd : 0 ≤ d) {a0 : Int} (ht : rt_kd a0.toNat = 20 + 12) (a1 : Int) (s0 : Int) (s1 : Int) (s2 : Int) (mem0 : rt_M) (t : rt_M) (h : j_X12_sums_45 a0 a1 s0 s1 s2 mem0 = some t) (hK : Q none z t) : RT G M_X12_sums d z Q 45 [(2, a0), (0, a1)] [(0, s2), (0, s1), (2, s0)] z mem0 := by
  unfold j_X12_sums_45 at h
  obtain ⟨m45, hm45, h⟩ := Option.bind_eq_some_iff.mp h
  refine RT.iast (pc := 45) (x := s0) (i := s1) (v := s2) (mem1 := m45) dX12_sums_45 (rt_lts hz (by decide) (by decide) hm45) hm45 ?_
  refine RT.aload_n (pc := 46) (k := 0) (x := a0) dX12_sums_46 rfl ?_
  obtain ⟨v47, hv47, h⟩ := Option.bind_eq_some_iff.mp h
  refine RT.gf 12 36 2 (pc := 47) (x := a0) (v := v47) hz dX12_sums_47 fl_X12_84 rfl hv47 ?_
  refine RT.iload_n (pc := 50) (k := 1) (x := a1) dX12_sums_50 rfl ?_
  refine RT.iconst (pc := 51) (n := 0) dX12_sums_51 ⟨by decide, by decide⟩ ?_
  obtain ⟨m52, hm52, h⟩ := Option.bind_eq_some_iff.mp h
  refine RT.iast (pc := 52) (x := v47) (i := a1) (v := 0) (mem1 := m52) dX12_sums_52 (rt_lts hz (by decide) (by decide) hm52) hm52 ?_
  obtain rfl := Option.some.inj h
  exact RT.vret (pc := 53) dX12_sums_53 rfl (Nat.le_of_eq (rt_cells_0 z)) (Nat.le_of_eq (rt_slots_0 z)) hK
theorem c_X12_sums {G : rt_G} {d : Nat} {z : Nat × Nat} (hz : 300 ≤ z.1) (hd : 0 ≤ d) (a0 : Int) (a1 : Int) (mem0 : rt_M) (t : rt_M) (ht : rt_kd a0.toNat = 20 + 12) (h : f_X12_sums a0 a1 mem0 = some t) : RM G M_X12_sums d [(2, a0), (0, a1)] z mem0 none t := by
  suffices H : ∀ Q : rt_P, Q none z t → RT G M_X12_sums d z Q 0 [(2, a0), (0, a1)] [] z mem0 from H _ ⟨rfl, rfl, rfl⟩
  intro Q hK
  unfold f_X12_sums at h
  refine RT.aload_n (pc := 0) (k := 0) (x := a0) dX12_sums_0 rfl ?_
  obtain ⟨v1, hv1, h⟩ := Option.bind_eq_some_iff.mp h
  refine RT.gf 12 33 2 (pc := 1) (x := a0) (v := v1) hz dX12_sums_1 fl_X12_75 rfl hv1 ?_
  refine RT.iload_n (pc := 4) (k := 1) (x := a1) dX12_sums_4 rfl ?_
  refine RT.aload_n (pc := 5) (k := 0) (x := a0) dX12_sums_5 rfl ?_
  obtain ⟨v6, hv6, h⟩ := Option.bind_eq_some_iff.mp h
  refine RT.gf 12 34 2 (pc := 6) (x := a0) (v := v6) hz dX12_sums_6 fl_X12_78 rfl hv6 ?_
  refine RT.iload_n (pc := 9) (k := 1) (x := a1) dX12_sums_9 rfl ?_
  obtain ⟨v10, hv10, h⟩ := Option.bind_eq_some_iff.mp h
  refine RT.iald (pc := 10) (x := v6) (i := a1) (v := v10) dX12_sums_10 (rt_lta hz (by decide) (by decide) hv10) hv10 ?_
  refine RT.bipush (pc := 11) (n := 21) dX12_sums_11 ⟨by decide, by decide⟩ rfl ?_
  refine RT.icmp_ne (pc := 13) (tgt := 32) dX12_sums_13 rfl (fun q13 => ?_) (fun q13 => ?_)
  · rw [if_neg q13] at h
    refine RT.aload_n (pc := 32) (k := 0) (x := a0) dX12_sums_32 rfl ?_
    obtain ⟨v33, hv33, h⟩ := Option.bind_eq_some_iff.mp h
    refine RT.gf 12 33 2 (pc := 33) (x := a0) (v := v33) hz dX12_sums_33 fl_X12_75 rfl hv33 ?_
    refine RT.iload_n (pc := 36) (k := 1) (x := a1) dX12_sums_36 rfl ?_
    obtain ⟨v37, hv37, h⟩ := Option.bind_eq_some_iff.mp h
    refine RT.iald (pc := 37) (x := v33) (i := a1) (v := v37) dX12_sums_37 (rt_lta hz (by decide) (by decide) hv37) hv37 ?_
    refine RT.aload_n (pc := 38) (k := 0) (x := a0) dX12_sums_38 rfl ?_
    obtain ⟨v39, hv39, h⟩ := Option.bind_eq_some_iff.mp h
    refine RT.gf 12 35 2 (pc := 39) (x := a0) (v := v39) hz dX12_sums_39 fl_X12_81 rfl hv39 ?_
    refine RT.iload_n (pc := 42) (k := 1) (x := a1) dX12_sums_42 rfl ?_
    obtain ⟨v43, hv43, h⟩ := Option.bind_eq_some_iff.mp h
    refine RT.iald (pc := 43) (x := v39) (i := a1) (v := v43) dX12_sums_43 (rt_lta hz (by decide) (by decide) hv43) hv43 ?_
    refine RT.iadd (pc := 44) dX12_sums_44 ?_
    exact cj_X12_sums_45 hz hd ht a1 v1 a1 ((rt_iadd v37 v43)) mem0 _ h hK
  · rw [if_pos (Classical.not_not.mp q13)] at h
    refine RT.aload_n (pc := 16) (k := 0) (x := a0) dX12_sums_16 rfl ?_
    obtain ⟨v17, hv17, h⟩ := Option.bind_eq_some_iff.mp h
    refine RT.gf 12 33 2 (pc := 17) (x := a0) (v := v17) hz dX12_sums_17 fl_X12_75 rfl hv17 ?_
    refine RT.iload_n (pc := 20) (k := 1) (x := a1) dX12_sums_20 rfl ?_
    obtain ⟨v21, hv21, h⟩ := Option.bind_eq_some_iff.mp h
    refine RT.iald (pc := 21) (x := v17) (i := a1) (v := v21) dX12_sums_21 (rt_lta hz (by decide) (by decide) hv21) hv21 ?_
    refine RT.aload_n (pc := 22) (k := 0) (x := a0) dX12_sums_22 rfl ?_
    obtain ⟨v23, hv23, h⟩ := Option.bind_eq_some_iff.mp h
    refine RT.gf 12 35 2 (pc := 23) (x := a0) (v := v23) hz dX12_sums_23 fl_X12_81 rfl hv23 ?_
    refine RT.iload_n (pc := 26) (k := 1) (x := a1) dX12_sums_26 rfl ?_
    obtain ⟨v27, hv27, h⟩ := Option.bind_eq_some_iff.mp h
    refine RT.iald (pc := 27) (x := v23) (i := a1) (v := v27) dX12_sums_27 (rt_lta hz (by decide) (by decide) hv27) hv27 ?_
    refine RT.isub (pc := 28) dX12_sums_28 ?_
    refine RT.goto (pc := 29) (tgt := 45) dX12_sums_29 rfl ?_
    exact cj_X12_sums_45 hz hd ht a1 v1 a1 ((rt_isub v21 v27)) mem0 _ h hK
