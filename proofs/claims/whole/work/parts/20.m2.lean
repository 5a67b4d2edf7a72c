theorem cj_X3_part_154 {G : rt_G} {d : Nat} {z : Nat × Nat} {Q : rt_P} (rec_X3_chain : Int → Int → Int → Int → rt_M → Option (Int × rt_M)) (rec_X3_part : Int → Int → Int → rt_M → Option (Int × rt_M)) (hrec_X3_chain : ∀ (a0 a1 a2 a3 : Int) (mem0 : rt_M) (t : Int × rt_M), rt_kd a0.toNat = 20 + 3 → rec_X3_chain a0 a1 a2 a3 mem0 = some t → RM G M_X3_chain (d - 1) [(2, a0), (2, a1), (0, a2), (0, a3)] z mem0 (some (0, t.1)) t.2) (hrec_X3_part : ∀ (a0 a1 a2 : Int) (mem0 : rt_M) (t : Int × rt_M), rt_kd a0.toNat = 20 + 3 → rec_X3_part a0 a1 a2 mem0 = some t → RM G M_X3_part (d - 1) [(2, a0), (2, a1), (0, a2)] z mem0 (some (0, t.1)) t.2) (hz : 300 ≤ z.1) (hd : 2 ≤ d) {a0 : Int} (ht : rt_kd a0.toNat = 20 + 3) (s0 : Int) (s1 : Int) (mem0 : rt_M) (t : Int × rt_M) (h : j_X3_part_154 rec_X3_chain rec_X3_part s0 s1 mem0 = some t) (hK : Q (some (0, t.1)) z t.2) : RT G M_X3_part d z Q 154 [(9, 0), (9, 0), (9, 0), (9, 0), (9, 0), (9, 0)] [(0, s1), (2, s0)] z mem0 := by
  unfold j_X3_part_154 at h
  obtain ⟨p154, hp154, h⟩ := Option.bind_eq_some_iff.mp h
  obtain ⟨hk154, hp154⟩ := rt_gd_some hp154
  refine RT.cVz (pc := 154) (M' := M_X2_add) (ci := 2) (x := s0) (As := [(0, s1)]) (st := []) (r := none) (mem1 := p154) (d' := d - 1) hz dX3_part_154 mw_X2_add ml_X3_229 mi_X2_add hk154 rfl rfl (Nat.le_of_ble_eq_true rfl) (Nat.le_of_ble_eq_true rfl) (by omega) rfl rfl (c_X2_add hz (by omega) s0 s1 mem0 _ hk154 hp154) ?_
  refine RT.iconst (pc := 157) (n := 1) dX3_part_157 ⟨by decide, by decide⟩ ?_
  obtain rfl := Option.some.inj h
  exact RT.zret (pc := 158) dX3_part_158 rfl (by decide) (Nat.le_of_eq (rt_cells_0 z)) (Nat.le_of_eq (rt_slots_0 z)) hK
theorem cj_X3_part_127 {G : rt_G} {d : Nat} {z : Nat × Nat} {Q : rt_P} (rec_X3_chain : Int → Int → Int → Int → rt_M → Option (Int × rt_M)) (rec_X3_part : Int → Int → Int → rt_M → Option (Int × rt_M)) (hrec_X3_chain : ∀ (a0 a1 a2 a3 : Int) (mem0 : rt_M) (t : Int × rt_M), rt_kd a0.toNat = 20 + 3 → rec_X3_chain a0 a1 a2 a3 mem0 = some t → RM G M_X3_chain (d - 1) [(2, a0), (2, a1), (0, a2), (0, a3)] z mem0 (some (0, t.1)) t.2) (hrec_X3_part : ∀ (a0 a1 a2 : Int) (mem0 : rt_M) (t : Int × rt_M), rt_kd a0.toNat = 20 + 3 → rec_X3_part a0 a1 a2 mem0 = some t → RM G M_X3_part (d - 1) [(2, a0), (2, a1), (0, a2)] z mem0 (some (0, t.1)) t.2) (hz : 300 ≤ z.1) (hd : 2 ≤ d) {a0 : Int} (ht : rt_kd a0.toNat = 20 + 3) (a1 : Int) (a3 : Int) (a4 : Int) (a5 : Int) (mem0 : rt_M) (t : Int × rt_M) (h : j_X3_part_127 rec_X3_chain rec_X3_part a1 a3 a4 a5 mem0 = some t) (hK : Q (some (0, t.1)) z t.2) : RT G M_X3_part d z Q 127 [(9, 0), (2, a1), (9, 0), (2, a3), (0, a4), (0, a5)] [] z mem0 := by
  unfold j_X3_part_127 at h
  refine RT.aload_n (pc := 127) (k := 1) (x := a1) dX3_part_127 rfl ?_
  refine RT.aload_n (pc := 128) (k := 3) (x := a3) dX3_part_128 rfl ?_
  refine RT.gets 18 (pc := 129) (x := 18) dX3_part_129 sl_X3_265 rfl ?_
  refine RT.acmp_ne (pc := 132) (tgt := 140) dX3_part_132 rfl (fun q132 => ?_) (fun q132 => ?_)
  · rw [if_neg q132] at h
    refine RT.aload_n (pc := 140) (k := 3) (x := a3) dX3_part_140 rfl ?_
    refine RT.gets 36 (pc := 141) (x := 36) dX3_part_141 sl_X3_198 rfl ?_
    refine RT.acmp_ne (pc := 144) (tgt := 152) dX3_part_144 rfl (fun q144 => ?_) (fun q144 => ?_)
    · rw [if_neg q144] at h
      refine RT.iload (pc := 152) (k := 4) (x := a4) dX3_part_152 rfl ?_
      refine RT.wk (L1 := [(9, 0), (9, 0), (9, 0), (9, 0), (9, 0), (9, 0)]) (rt_le_s (rt_le_j (rt_le_s (rt_le_j (rt_le_j (rt_le_j rt_le_n)))))) ?_
      exact cj_X3_part_154 rec_X3_chain rec_X3_part hrec_X3_chain hrec_X3_part hz hd ht a1 a4 mem0 _ h hK
    · rw [if_pos (Classical.not_not.mp q144)] at h
      refine RT.iload (pc := 147) (k := 5) (x := a5) dX3_part_147 rfl ?_
      refine RT.goto (pc := 149) (tgt := 154) dX3_part_149 rfl ?_
      refine RT.wk (L1 := [(9, 0), (9, 0), (9, 0), (9, 0), (9, 0), (9, 0)]) (rt_le_s (rt_le_j (rt_le_s (rt_le_j (rt_le_j (rt_le_j rt_le_n)))))) ?_
      exact cj_X3_part_154 rec_X3_chain rec_X3_part hrec_X3_chain hrec_X3_part hz hd ht a1 a5 mem0 _ h hK
  · rw [if_pos (Classical.not_not.mp q132)] at h
    refine RT.bipush (pc := 135) (n := (-4)) dX3_part_135 ⟨by decide, by decide⟩ rfl ?_
    refine RT.goto (pc := 137) (tgt := 154) dX3_part_137 rfl ?_
    refine RT.wk (L1 := [(9, 0), (9, 0), (9, 0), (9, 0), (9, 0), (9, 0)]) (rt_le_s (rt_le_j (rt_le_s (rt_le_j (rt_le_j (rt_le_j rt_le_n)))))) ?_
    exact cj_X3_part_154 rec_X3_chain rec_X3_part hrec_X3_chain hrec_X3_part hz hd ht a1 ((-4)) mem0 _ h hK
theorem cj_X3_part_106 {G : rt_G} {d : Nat} {z : Nat × Nat} {Q : rt_P} (rec_X3_chain : Int → Int → Int → Int → rt_M → Option (Int × rt_M)) (rec_X3_part : Int → Int → Int → rt_M → Option (Int × rt_M)) (hrec_X3_chain : ∀ (a0 a1 a2 a3 : Int) (mem0 : rt_M) (t : Int × rt_M), rt_kd a0.toNat = 20 + 3 → rec_X3_chain a0 a1 a2 a3 mem0 = some t → RM G M_X3_chain (d - 1) [(2, a0), (2, a1), (0, a2), (0, a3)] z mem0 (some (0, t.1)) t.2) (hrec_X3_part : ∀ (a0 a1 a2 : Int) (mem0 : rt_M) (t : Int × rt_M), rt_kd a0.toNat = 20 + 3 → rec_X3_part a0 a1 a2 mem0 = some t → RM G M_X3_part (d - 1) [(2, a0), (2, a1), (0, a2)] z mem0 (some (0, t.1)) t.2) (hz : 300 ≤ z.1) (hd : 2 ≤ d) {a0 : Int} (ht : rt_kd a0.toNat = 20 + 3) (s0 : Int) (mem0 : rt_M) (t : Int × rt_M) (h : j_X3_part_106 rec_X3_chain rec_X3_part s0 mem0 = some t) (hK : Q (some (0, t.1)) z t.2) : RT G M_X3_part d z Q 106 [(9, 0), (9, 0), (9, 0), (9, 0), (9, 0), (9, 0)] [(0, s0)] z mem0 := by
  unfold j_X3_part_106 at h
  obtain ⟨w106, hw106, h⟩ := Option.bind_eq_some_iff.mp h
  obtain rfl := Option.some.inj h
  exact RT.zret (pc := 106) dX3_part_106 rfl (rt_bz_ok hw106) (Nat.le_of_eq (rt_cells_0 z)) (Nat.le_of_eq (rt_slots_0 z)) hK
theorem cj_X3_part_105 {G : rt_G} {d : Nat} {z : Nat × Nat} {Q : rt_P} (rec_X3_chain : Int → Int → Int → Int → rt_M → Option (Int × rt_M)) (rec_X3_part : Int → Int → Int → rt_M → Option (Int × rt_M)) (hrec_X3_chain : ∀ (a0 a1 a2 a3 : Int) (mem0 : rt_M) (t : Int × rt_M), rt_kd a0.toNat = 20 + 3 → rec_X3_chain a0 a1 a2 a3 mem0 = some t → RM G M_X3_chain (d - 1) [(2, a0), (2, a1), (0, a2), (0, a3)] z mem0 (some (0, t.1)) t.2) (hrec_X3_part : ∀ (a0 a1 a2 : Int) (mem0 : rt_M) (t : Int × rt_M), rt_kd a0.toNat = 20 + 3 → rec_X3_part a0 a1 a2 mem0 = some t → RM G M_X3_part (d - 1) [(2, a0), (2, a1), (0, a2)] z mem0 (some (0, t.1)) t.2) (hz : 300 ≤ z.1) (hd : 2 ≤ d) {a0 : Int} (ht : rt_kd a0.toNat = 20 + 3) (mem0 : rt_M) (t : Int × rt_M) (h : j_X3_part_105 rec_X3_chain rec_X3_part mem0 = some t) (hK : Q (some (0, t.1)) z t.2) : RT G M_X3_part d z Q 105 [(9, 0), (9, 0), (9, 0), (9, 0), (9, 0), (9, 0)] [] z mem0 := by
  unfold j_X3_part_105 at h
  refine RT.iconst (pc := 105) (n := 0) dX3_part_105 ⟨by decide, by decide⟩ ?_
  exact cj_X3_part_106 rec_X3_chain rec_X3_part hrec_X3_chain hrec_X3_part hz hd ht 0 mem0 _ h hK
theorem cj_X3_part_44 {G : rt_G} {d : Nat} {z : Nat × Nat} {Q : rt_P} (rec_X3_chain : Int → Int → Int → Int → rt_M → Option (Int × rt_M)) (rec_X3_part : Int → Int → Int → rt_M → Option (Int × rt_M)) (hrec_X3_chain : ∀ (a0 a1 a2 a3 : Int) (mem0 : rt_M) (t : Int × rt_M), rt_kd a0.toNat = 20 + 3 → rec_X3_chain a0 a1 a2 a3 mem0 = some t → RM G M_X3_chain (d - 1) [(2, a0), (2, a1), (0, a2), (0, a3)] z mem0 (some (0, t.1)) t.2) (hrec_X3_part : ∀ (a0 a1 a2 : Int) (mem0 : rt_M) (t : Int × rt_M), rt_kd a0.toNat = 20 + 3 → rec_X3_part a0 a1 a2 mem0 = some t → RM G M_X3_part (d - 1) [(2, a0), (2, a1), (0, a2)] z mem0 (some (0, t.1)) t.2) (hz : 300 ≤ z.1) (hd : 2 ≤ d) {a0 : Int} (ht : rt_kd a0.toNat = 20 + 3) (a1 : Int) (a2 : Int) (a3 : Int) (a4 : Int) (mem0 : rt_M) (t : Int × rt_M) (h : j_X3_part_44 rec_X3_chain rec_X3_part a0 a1 a2 a3 a4 mem0 = some t) (hK : Q (some (0, t.1)) z t.2) : RT G M_X3_part d z Q 44 [(2, a0), (2, a1), (0, a2), (2, a3), (0, a4), (9, 0)] [] z mem0 := by
  unfold j_X3_part_44 at h
  refine RT.iload_n (pc := 44) (k := 2) (x := a2) dX3_part_44 rfl ?_
  refine RT.iconst (pc := 45) (n := 4) dX3_part_45 ⟨by decide, by decide⟩ ?_
  refine RT.icmp_le (pc := 46) (tgt := 55) dX3_part_46 rfl (fun q46 => ?_) (fun q46 => ?_)
  · rw [if_pos q46] at h
    refine RT.aload_n (pc := 55) (k := 0) (x := a0) dX3_part_55 rfl ?_
    obtain ⟨p56, hp56, h⟩ := Option.bind_eq_some_iff.mp h
    refine RT.cVz (pc := 56) (M' := M_X3_value) (ci := 3) (x := a0) (As := []) (st := []) (r := some (1, p56)) (mem1 := mem0) (d' := d - 1) hz dX3_part_56 mw_X3_value ml_X3_121 mi_X3_value ht rfl rfl (Nat.le_of_ble_eq_true rfl) (Nat.le_of_ble_eq_true rfl) (by omega) rfl rfl (c_X3_value hz (by omega) a0 mem0 _ ht hp56) ?_
    refine RT.l2i (pc := 59) dX3_part_59 ?_
    refine RT.istore (pc := 60) (k := 5) (x := (rt_l2i p56)) (L1 := [(2, a0), (2, a1), (0, a2), (2, a3), (0, a4), (0, (rt_l2i p56))]) dX3_part_60 (Nat.le_of_ble_eq_true rfl) rfl ?_
    refine RT.aload_n (pc := 62) (k := 0) (x := a0) dX3_part_62 rfl ?_
    refine RT.dup (pc := 63) dX3_part_63 (show ¬ ((2 : Nat) = 1) by decide) ?_
    obtain ⟨v64, hv64, h⟩ := Option.bind_eq_some_iff.mp h
    refine RT.gf 3 1 0 (pc := 64) (x := a0) (v := v64) hz dX3_part_64 fl_X3_55 rfl hv64 ?_
    refine RT.iconst (pc := 67) (n := 1) dX3_part_67 ⟨by decide, by decide⟩ ?_
    refine RT.iadd (pc := 68) dX3_part_68 ?_
    obtain ⟨m69, hm69, h⟩ := Option.bind_eq_some_iff.mp h
    refine RT.pf_i 3 1 (pc := 69) (mem1 := m69) hz dX3_part_69 fl_X3_55 rfl rfl rfl hm69 ?_
    refine RT.aload_n (pc := 72) (k := 3) (x := a3) dX3_part_72 rfl ?_
    refine RT.gets 27 (pc := 73) (x := 27) dX3_part_73 sl_X3_268 rfl ?_
    refine RT.acmp_ne (pc := 76) (tgt := 107) dX3_part_76 rfl (fun q76 => ?_) (fun q76 => ?_)
    · rw [if_neg q76] at h
      refine RT.aload_n (pc := 107) (k := 3) (x := a3) dX3_part_107 rfl ?_
      refine RT.gets 18 (pc := 108) (x := 18) dX3_part_108 sl_X3_265 rfl ?_
      refine RT.acmp_ne (pc := 111) (tgt := 127) dX3_part_111 rfl (fun q111 => ?_) (fun q111 => ?_)
      · rw [if_neg q111] at h
        refine RT.wk (L1 := [(9, 0), (2, a1), (9, 0), (2, a3), (0, a4), (0, (rt_l2i p56))]) (rt_le_j (rt_le_s (rt_le_j (rt_le_s (rt_le_s (rt_le_s rt_le_n)))))) ?_
        exact cj_X3_part_127 rec_X3_chain rec_X3_part hrec_X3_chain hrec_X3_part hz hd ht a1 a3 a4 ((rt_l2i p56)) m69 _ h hK
      · rw [if_pos (Classical.not_not.mp q111)] at h
        refine RT.aload_n (pc := 114) (k := 0) (x := a0) dX3_part_114 rfl ?_
        refine RT.aload_n (pc := 115) (k := 1) (x := a1) dX3_part_115 rfl ?_
        refine RT.iload_n (pc := 116) (k := 2) (x := a2) dX3_part_116 rfl ?_
        refine RT.iconst (pc := 117) (n := 1) dX3_part_117 ⟨by decide, by decide⟩ ?_
        refine RT.iadd (pc := 118) dX3_part_118 ?_
        obtain ⟨p119, hp119, h⟩ := Option.bind_eq_some_iff.mp h
        refine RT.cVz (pc := 119) (M' := M_X3_part) (ci := 3) (x := a0) (As := [(2, a1), (0, (rt_iadd a2 1))]) (st := []) (r := some (0, p119.1)) (mem1 := p119.2) (d' := d - 1) hz dX3_part_119 mw_X3_part ml_X3_237 mi_X3_part ht rfl rfl (Nat.le_of_ble_eq_true rfl) (Nat.le_of_ble_eq_true rfl) (by omega) rfl rfl (hrec_X3_part a0 a1 ((rt_iadd a2 1)) m69 _ ht hp119) ?_
        refine RT.if_ne (pc := 122) (tgt := 127) dX3_part_122 rfl (fun q122 => ?_) (fun q122 => ?_)
        · rw [if_neg q122] at h
          refine RT.wk (L1 := [(9, 0), (2, a1), (9, 0), (2, a3), (0, a4), (0, (rt_l2i p56))]) (rt_le_j (rt_le_s (rt_le_j (rt_le_s (rt_le_s (rt_le_s rt_le_n)))))) ?_
          exact cj_X3_part_127 rec_X3_chain rec_X3_part hrec_X3_chain hrec_X3_part hz hd ht a1 a3 a4 ((rt_l2i p56)) p119.2 _ h hK
        · rw [if_pos (Classical.not_not.mp q122)] at h
          refine RT.iconst (pc := 125) (n := 0) dX3_part_125 ⟨by decide, by decide⟩ ?_
          obtain rfl := Option.some.inj h
          exact RT.zret (pc := 126) dX3_part_126 rfl (by decide) (Nat.le_of_eq (rt_cells_0 z)) (Nat.le_of_eq (rt_slots_0 z)) hK
    · rw [if_pos (Classical.not_not.mp q76)] at h
      refine RT.aload_n (pc := 79) (k := 0) (x := a0) dX3_part_79 rfl ?_
      refine RT.aload_n (pc := 80) (k := 1) (x := a1) dX3_part_80 rfl ?_
      refine RT.iconst (pc := 81) (n := 0) dX3_part_81 ⟨by decide, by decide⟩ ?_
      refine RT.iload_n (pc := 82) (k := 2) (x := a2) dX3_part_82 rfl ?_
      refine RT.iconst (pc := 83) (n := 1) dX3_part_83 ⟨by decide, by decide⟩ ?_
      refine RT.iadd (pc := 84) dX3_part_84 ?_
      obtain ⟨p85, hp85, h⟩ := Option.bind_eq_some_iff.mp h
      refine RT.cVz (pc := 85) (M' := M_X3_chain) (ci := 3) (x := a0) (As := [(2, a1), (0, 0), (0, (rt_iadd a2 1))]) (st := []) (r := some (0, p85.1)) (mem1 := p85.2) (d' := d - 1) hz dX3_part_85 mw_X3_chain ml_X3_218 mi_X3_chain ht rfl rfl (Nat.le_of_ble_eq_true rfl) (Nat.le_of_ble_eq_true rfl) (by omega) rfl rfl (hrec_X3_chain a0 a1 0 ((rt_iadd a2 1)) m69 _ ht hp85) ?_
      refine RT.if_eq (pc := 88) (tgt := 105) dX3_part_88 rfl (fun q88 => ?_) (fun q88 => ?_)
      · rw [if_pos q88] at h
        refine RT.wk (L1 := [(9, 0), (9, 0), (9, 0), (9, 0), (9, 0), (9, 0)]) (rt_le_j (rt_le_j (rt_le_j (rt_le_j (rt_le_j (rt_le_j rt_le_n)))))) ?_
        exact cj_X3_part_105 rec_X3_chain rec_X3_part hrec_X3_chain hrec_X3_part hz hd ht p85.2 _ h hK
      · rw [if_neg q88] at h
        refine RT.aload_n (pc := 91) (k := 0) (x := a0) dX3_part_91 rfl ?_
        refine RT.gets 28 (pc := 92) (x := 28) dX3_part_92 sl_X3_271 rfl ?_
        obtain ⟨p95, hp95, h⟩ := Option.bind_eq_some_iff.mp h
        refine RT.cVz (pc := 95) (M' := M_X3_take) (ci := 3) (x := a0) (As := [(2, 28)]) (st := []) (r := some (0, p95.1)) (mem1 := p95.2) (d' := d - 1) hz dX3_part_95 mw_X3_take ml_X3_148 mi_X3_take ht rfl rfl (Nat.le_of_ble_eq_true rfl) (Nat.le_of_ble_eq_true rfl) (by omega) rfl rfl (c_X3_take hz (by omega) a0 28 p85.2 _ ht hp95) ?_
        refine RT.if_eq (pc := 98) (tgt := 105) dX3_part_98 rfl (fun q98 => ?_) (fun q98 => ?_)
        · rw [if_pos q98] at h
          refine RT.wk (L1 := [(9, 0), (9, 0), (9, 0), (9, 0), (9, 0), (9, 0)]) (rt_le_j (rt_le_j (rt_le_j (rt_le_j (rt_le_j (rt_le_j rt_le_n)))))) ?_
          exact cj_X3_part_105 rec_X3_chain rec_X3_part hrec_X3_chain hrec_X3_part hz hd ht p95.2 _ h hK
        · rw [if_neg q98] at h
          refine RT.iconst (pc := 101) (n := 1) dX3_part_101 ⟨by decide, by decide⟩ ?_
          refine RT.goto (pc := 102) (tgt := 106) dX3_part_102 rfl ?_
          refine RT.wk (L1 := [(9, 0), (9, 0), (9, 0), (9, 0), (9, 0), (9, 0)]) (rt_le_j (rt_le_j (rt_le_j (rt_le_j (rt_le_j (rt_le_j rt_le_n)))))) ?_
          exact cj_X3_part_106 rec_X3_chain rec_X3_part hrec_X3_chain hrec_X3_part hz hd ht 1 p95.2 _ h hK
  · rw [if_neg q46] at h
    refine RT.aload_n (pc := 49) (k := 0) (x := a0) dX3_part_49 rfl ?_
    refine RT.iconst (pc := 50) (n := 5) dX3_part_50 ⟨by decide, by decide⟩ ?_
    obtain ⟨p51, hp51, h⟩ := Option.bind_eq_some_iff.mp h
    refine RT.cVz (pc := 51) (M' := M_X3_fail) (ci := 3) (x := a0) (As := [(0, 5)]) (st := []) (r := some (0, p51.1)) (mem1 := p51.2) (d' := d - 1) hz dX3_part_51 mw_X3_fail ml_X3_73 mi_X3_fail ht rfl rfl (Nat.le_of_ble_eq_true rfl) (Nat.le_of_ble_eq_true rfl) (by omega) rfl rfl (c_X3_fail hz (by omega) a0 5 mem0 _ ht hp51) ?_
    obtain ⟨w54, hw54, h⟩ := Option.bind_eq_some_iff.mp h
    obtain rfl := Option.some.inj h
    exact RT.zret (pc := 54) dX3_part_54 rfl (rt_bz_ok hw54) (Nat.le_of_eq (rt_cells_0 z)) (Nat.le_of_eq (rt_slots_0 z)) hK
theorem c_X3_part {G : rt_G} {d : Nat} {z : Nat × Nat} (rec_X3_chain : Int → Int → Int → Int → rt_M → Option (Int × rt_M)) (rec_X3_part : Int → Int → Int → rt_M → Option (Int × rt_M)) (hrec_X3_chain : ∀ (a0 a1 a2 a3 : Int) (mem0 : rt_M) (t : Int × rt_M), rt_kd a0.toNat = 20 + 3 → rec_X3_chain a0 a1 a2 a3 mem0 = some t → RM G M_X3_chain (d - 1) [(2, a0), (2, a1), (0, a2), (0, a3)] z mem0 (some (0, t.1)) t.2) (hrec_X3_part : ∀ (a0 a1 a2 : Int) (mem0 : rt_M) (t : Int × rt_M), rt_kd a0.toNat = 20 + 3 → rec_X3_part a0 a1 a2 mem0 = some t → RM G M_X3_part (d - 1) [(2, a0), (2, a1), (0, a2)] z mem0 (some (0, t.1)) t.2) (hz : 300 ≤ z.1) (hd : 2 ≤ d) (a0 : Int) (a1 : Int) (a2 : Int) (mem0 : rt_M) (t : Int × rt_M) (ht : rt_kd a0.toNat = 20 + 3) (h : f_X3_part rec_X3_chain rec_X3_part a0 a1 a2 mem0 = some t) : RM G M_X3_part d [(2, a0), (2, a1), (0, a2)] z mem0 (some (0, t.1)) t.2 := by
  suffices H : ∀ Q : rt_P, Q (some (0, t.1)) z t.2 → RT G M_X3_part d z Q 0 [(2, a0), (2, a1), (0, a2), (9, 0), (9, 0), (9, 0)] [] z mem0 from H _ ⟨rfl, rfl, rfl⟩
  intro Q hK
  unfold f_X3_part at h
  refine RT.aload_n (pc := 0) (k := 0) (x := a0) dX3_part_0 rfl ?_
  obtain ⟨p1, hp1, h⟩ := Option.bind_eq_some_iff.mp h
  refine RT.cVz (pc := 1) (M' := M_X3_kind) (ci := 3) (x := a0) (As := []) (st := []) (r := some (2, p1)) (mem1 := mem0) (d' := d - 1) hz dX3_part_1 mw_X3_kind ml_X3_23 mi_X3_kind ht rfl rfl (Nat.le_of_ble_eq_true rfl) (Nat.le_of_ble_eq_true rfl) (by omega) rfl rfl (c_X3_kind hz (by omega) a0 mem0 _ ht hp1) ?_
  refine RT.astore_n (pc := 4) (k := 3) (x := p1) (L1 := [(2, a0), (2, a1), (0, a2), (2, p1), (9, 0), (9, 0)]) dX3_part_4 (Nat.le_of_ble_eq_true rfl) rfl ?_
  refine RT.aload_n (pc := 5) (k := 1) (x := a1) dX3_part_5 rfl ?_
  refine RT.aload_n (pc := 6) (k := 3) (x := p1) dX3_part_6 rfl ?_
  obtain ⟨p7, hp7, h⟩ := Option.bind_eq_some_iff.mp h
  obtain ⟨hk7, hp7⟩ := rt_gd_some hp7
  refine RT.cVz (pc := 7) (M' := M_X2_factOf) (ci := 2) (x := a1) (As := [(2, p1)]) (st := []) (r := some (0, p7)) (mem1 := mem0) (d' := d - 1) hz dX3_part_7 mw_X2_factOf ml_X3_261 mi_X2_factOf hk7 rfl rfl (Nat.le_of_ble_eq_true rfl) (Nat.le_of_ble_eq_true rfl) (by omega) rfl rfl (c_X2_factOf hz (by omega) a1 p1 mem0 _ hk7 hp7) ?_
  refine RT.istore (pc := 10) (k := 4) (x := p7) (L1 := [(2, a0), (2, a1), (0, a2), (2, p1), (0, p7), (9, 0)]) dX3_part_10 (Nat.le_of_ble_eq_true rfl) rfl ?_
  refine RT.iload (pc := 12) (k := 4) (x := p7) dX3_part_12 rfl ?_
  refine RT.if_ne (pc := 14) (tgt := 44) dX3_part_14 rfl (fun q14 => ?_) (fun q14 => ?_)
  · rw [if_neg q14] at h
    exact cj_X3_part_44 rec_X3_chain rec_X3_part hrec_X3_chain hrec_X3_part hz hd ht a1 a2 p1 p7 mem0 _ h hK
  · rw [if_pos (Classical.not_not.mp q14)] at h
    refine RT.aload_n (pc := 17) (k := 3) (x := p1) dX3_part_17 rfl ?_
    refine RT.gets 36 (pc := 18) (x := 36) dX3_part_18 sl_X3_198 rfl ?_
    refine RT.acmp_eq (pc := 21) (tgt := 44) dX3_part_21 rfl (fun q21 => ?_) (fun q21 => ?_)
    · rw [if_pos q21] at h
      exact cj_X3_part_44 rec_X3_chain rec_X3_part hrec_X3_chain hrec_X3_part hz hd ht a1 a2 p1 p7 mem0 _ h hK
    · rw [if_neg q21] at h
      refine RT.aload_n (pc := 24) (k := 3) (x := p1) dX3_part_24 rfl ?_
      refine RT.gets 18 (pc := 25) (x := 18) dX3_part_25 sl_X3_265 rfl ?_
      refine RT.acmp_eq (pc := 28) (tgt := 44) dX3_part_28 rfl (fun q28 => ?_) (fun q28 => ?_)
      · rw [if_pos q28] at h
        exact cj_X3_part_44 rec_X3_chain rec_X3_part hrec_X3_chain hrec_X3_part hz hd ht a1 a2 p1 p7 mem0 _ h hK
      · rw [if_neg q28] at h
        refine RT.aload_n (pc := 31) (k := 3) (x := p1) dX3_part_31 rfl ?_
        refine RT.gets 27 (pc := 32) (x := 27) dX3_part_32 sl_X3_268 rfl ?_
        refine RT.acmp_eq (pc := 35) (tgt := 44) dX3_part_35 rfl (fun q35 => ?_) (fun q35 => ?_)
        · rw [if_pos q35] at h
          exact cj_X3_part_44 rec_X3_chain rec_X3_part hrec_X3_chain hrec_X3_part hz hd ht a1 a2 p1 p7 mem0 _ h hK
        · rw [if_neg q35] at h
          refine RT.aload_n (pc := 38) (k := 0) (x := a0) dX3_part_38 rfl ?_
          refine RT.iconst (pc := 39) (n := 1) dX3_part_39 ⟨by decide, by decide⟩ ?_
          obtain ⟨p40, hp40, h⟩ := Option.bind_eq_some_iff.mp h
          refine RT.cVz (pc := 40) (M' := M_X3_fail) (ci := 3) (x := a0) (As := [(0, 1)]) (st := []) (r := some (0, p40.1)) (mem1 := p40.2) (d' := d - 1) hz dX3_part_40 mw_X3_fail ml_X3_73 mi_X3_fail ht rfl rfl (Nat.le_of_ble_eq_true rfl) (Nat.le_of_ble_eq_true rfl) (by omega) rfl rfl (c_X3_fail hz (by omega) a0 1 mem0 _ ht hp40) ?_
          obtain ⟨w43, hw43, h⟩ := Option.bind_eq_some_iff.mp h
          obtain rfl := Option.some.inj h
          exact RT.zret (pc := 43) dX3_part_43 rfl (rt_bz_ok hw43) (Nat.le_of_eq (rt_cells_0 z)) (Nat.le_of_eq (rt_slots_0 z)) hK
theorem cj_X3_test_70 {G : rt_G} {d : Nat} {z : Nat × Nat} {Q : rt_P} (rec_X3_chain : Int → Int → Int → Int → rt_M → Option (Int × rt_M)) (hrec_X3_chain : ∀ (a0 a1 a2 a3 : Int) (mem0 : rt_M) (t : Int × rt_M), rt_kd a0.toNat = 20 + 3 → rec_X3_chain a0 a1 a2 a3 mem0 = some t → RM G M_X3_chain (d - 1) [(2, a0), (2, a1), (0, a2), (0, a3)] z mem0 (some (0, t.1)) t.2) (hz : 300 ≤ z.1) (hd : 2 ≤ d) {a0 : Int} (ht : rt_kd a0.toNat = 20 + 3) (s0 : Int) (s1 : Int) (mem0 : rt_M) (t : Int × rt_M) (h : j_X3_test_70 rec_X3_chain s0 s1 mem0 = some t) (hK : Q (some (0, t.1)) z t.2) : RT G M_X3_test d z Q 70 [(9, 0), (9, 0), (9, 0), (9, 0)] [(0, s1), (2, s0)] z mem0 := by
  unfold j_X3_test_70 at h
  obtain ⟨p70, hp70, h⟩ := Option.bind_eq_some_iff.mp h
  obtain ⟨hk70, hp70⟩ := rt_gd_some hp70
  refine RT.cVz (pc := 70) (M' := M_X2_add) (ci := 2) (x := s0) (As := [(0, s1)]) (st := []) (r := none) (mem1 := p70) (d' := d - 1) hz dX3_test_70 mw_X2_add ml_X3_229 mi_X2_add hk70 rfl rfl (Nat.le_of_ble_eq_true rfl) (Nat.le_of_ble_eq_true rfl) (by omega) rfl rfl (c_X2_add hz (by omega) s0 s1 mem0 _ hk70 hp70) ?_
  refine RT.iconst (pc := 73) (n := 1) dX3_test_73 ⟨by decide, by decide⟩ ?_
  obtain rfl := Option.some.inj h
  exact RT.zret (pc := 74) dX3_test_74 rfl (by decide) (Nat.le_of_eq (rt_cells_0 z)) (Nat.le_of_eq (rt_slots_0 z)) hK
theorem cj_X3_test_33 {G : rt_G} {d : Nat} {z : Nat × Nat} {Q : rt_P} (rec_X3_chain : Int → Int → Int → Int → rt_M → Option (Int × rt_M)) (hrec_X3_chain : ∀ (a0 a1 a2 a3 : Int) (mem0 : rt_M) (t : Int × rt_M), rt_kd a0.toNat = 20 + 3 → rec_X3_chain a0 a1 a2 a3 mem0 = some t → RM G M_X3_chain (d - 1) [(2, a0), (2, a1), (0, a2), (0, a3)] z mem0 (some (0, t.1)) t.2) (hz : 300 ≤ z.1) (hd : 2 ≤ d) {a0 : Int} (ht : rt_kd a0.toNat = 20 + 3) (a1 : Int) (a2 : Int) (a3 : Int) (mem0 : rt_M) (t : Int × rt_M) (h : j_X3_test_33 rec_X3_chain a0 a1 a2 a3 mem0 = some t) (hK : Q (some (0, t.1)) z t.2) : RT G M_X3_test d z Q 33 [(2, a0), (2, a1), (0, a2), (2, a3)] [] z mem0 := by
  unfold j_X3_test_33 at h
  refine RT.aload_n (pc := 33) (k := 0) (x := a0) dX3_test_33 rfl ?_
  refine RT.dup (pc := 34) dX3_test_34 (show ¬ ((2 : Nat) = 1) by decide) ?_
  obtain ⟨v35, hv35, h⟩ := Option.bind_eq_some_iff.mp h
  refine RT.gf 3 1 0 (pc := 35) (x := a0) (v := v35) hz dX3_test_35 fl_X3_55 rfl hv35 ?_
  refine RT.iconst (pc := 38) (n := 1) dX3_test_38 ⟨by decide, by decide⟩ ?_
  refine RT.iadd (pc := 39) dX3_test_39 ?_
  obtain ⟨m40, hm40, h⟩ := Option.bind_eq_some_iff.mp h
  refine RT.pf_i 3 1 (pc := 40) (mem1 := m40) hz dX3_test_40 fl_X3_55 rfl rfl rfl hm40 ?_
  refine RT.aload_n (pc := 43) (k := 0) (x := a0) dX3_test_43 rfl ?_
  refine RT.aload_n (pc := 44) (k := 1) (x := a1) dX3_test_44 rfl ?_
  refine RT.iconst (pc := 45) (n := 1) dX3_test_45 ⟨by decide, by decide⟩ ?_
  refine RT.iload_n (pc := 46) (k := 2) (x := a2) dX3_test_46 rfl ?_
  obtain ⟨p47, hp47, h⟩ := Option.bind_eq_some_iff.mp h
  refine RT.cVz (pc := 47) (M' := M_X3_chain) (ci := 3) (x := a0) (As := [(2, a1), (0, 1), (0, a2)]) (st := []) (r := some (0, p47.1)) (mem1 := p47.2) (d' := d - 1) hz dX3_test_47 mw_X3_chain ml_X3_218 mi_X3_chain ht rfl rfl (Nat.le_of_ble_eq_true rfl) (Nat.le_of_ble_eq_true rfl) (by omega) rfl rfl (hrec_X3_chain a0 a1 1 a2 m40 _ ht hp47) ?_
  refine RT.if_ne (pc := 50) (tgt := 55) dX3_test_50 rfl (fun q50 => ?_) (fun q50 => ?_)
  · rw [if_neg q50] at h
    refine RT.aload_n (pc := 55) (k := 1) (x := a1) dX3_test_55 rfl ?_
    refine RT.aload_n (pc := 56) (k := 3) (x := a3) dX3_test_56 rfl ?_
    refine RT.gets 29 (pc := 57) (x := 29) dX3_test_57 sl_X3_255 rfl ?_
    refine RT.acmp_ne (pc := 60) (tgt := 68) dX3_test_60 rfl (fun q60 => ?_) (fun q60 => ?_)
    · rw [if_neg q60] at h
      refine RT.bipush (pc := 68) (n := (-8)) dX3_test_68 ⟨by decide, by decide⟩ rfl ?_
      refine RT.wk (L1 := [(9, 0), (9, 0), (9, 0), (9, 0)]) (rt_le_j (rt_le_j (rt_le_j (rt_le_j rt_le_n)))) ?_
      exact cj_X3_test_70 rec_X3_chain hrec_X3_chain hz hd ht a1 ((-8)) p47.2 _ h hK
    · rw [if_pos (Classical.not_not.mp q60)] at h
      refine RT.bipush (pc := 63) (n := (-7)) dX3_test_63 ⟨by decide, by decide⟩ rfl ?_
      refine RT.goto (pc := 65) (tgt := 70) dX3_test_65 rfl ?_
      refine RT.wk (L1 := [(9, 0), (9, 0), (9, 0), (9, 0)]) (rt_le_j (rt_le_j (rt_le_j (rt_le_j rt_le_n)))) ?_
      exact cj_X3_test_70 rec_X3_chain hrec_X3_chain hz hd ht a1 ((-7)) p47.2 _ h hK
  · rw [if_pos (Classical.not_not.mp q50)] at h
    refine RT.iconst (pc := 53) (n := 0) dX3_test_53 ⟨by decide, by decide⟩ ?_
    obtain rfl := Option.some.inj h
    exact RT.zret (pc := 54) dX3_test_54 rfl (by decide) (Nat.le_of_eq (rt_cells_0 z)) (Nat.le_of_eq (rt_slots_0 z)) hK
theorem c_X3_test {G : rt_G} {d : Nat} {z : Nat × Nat} (rec_X3_chain : Int → Int → Int → Int → rt_M → Option (Int × rt_M)) (hrec_X3_chain : ∀ (a0 a1 a2 a3 : Int) (mem0 : rt_M) (t : Int × rt_M), rt_kd a0.toNat = 20 + 3 → rec_X3_chain a0 a1 a2 a3 mem0 = some t → RM G M_X3_chain (d - 1) [(2, a0), (2, a1), (0, a2), (0, a3)] z mem0 (some (0, t.1)) t.2) (hz : 300 ≤ z.1) (hd : 2 ≤ d) (a0 : Int) (a1 : Int) (a2 : Int) (mem0 : rt_M) (t : Int × rt_M) (ht : rt_kd a0.toNat = 20 + 3) (h : f_X3_test rec_X3_chain a0 a1 a2 mem0 = some t) : RM G M_X3_test d [(2, a0), (2, a1), (0, a2)] z mem0 (some (0, t.1)) t.2 := by
  suffices H : ∀ Q : rt_P, Q (some (0, t.1)) z t.2 → RT G M_X3_test d z Q 0 [(2, a0), (2, a1), (0, a2), (9, 0)] [] z mem0 from H _ ⟨rfl, rfl, rfl⟩
  intro Q hK
  unfold f_X3_test at h
  refine RT.aload_n (pc := 0) (k := 0) (x := a0) dX3_test_0 rfl ?_
  refine RT.aload_n (pc := 1) (k := 1) (x := a1) dX3_test_1 rfl ?_
  refine RT.iconst (pc := 2) (n := 1) dX3_test_2 ⟨by decide, by decide⟩ ?_
  refine RT.iload_n (pc := 3) (k := 2) (x := a2) dX3_test_3 rfl ?_
  obtain ⟨p4, hp4, h⟩ := Option.bind_eq_some_iff.mp h
  refine RT.cVz (pc := 4) (M' := M_X3_chain) (ci := 3) (x := a0) (As := [(2, a1), (0, 1), (0, a2)]) (st := []) (r := some (0, p4.1)) (mem1 := p4.2) (d' := d - 1) hz dX3_test_4 mw_X3_chain ml_X3_218 mi_X3_chain ht rfl rfl (Nat.le_of_ble_eq_true rfl) (Nat.le_of_ble_eq_true rfl) (by omega) rfl rfl (hrec_X3_chain a0 a1 1 a2 mem0 _ ht hp4) ?_
  refine RT.if_ne (pc := 7) (tgt := 12) dX3_test_7 rfl (fun q7 => ?_) (fun q7 => ?_)
  · rw [if_neg q7] at h
    refine RT.aload_n (pc := 12) (k := 0) (x := a0) dX3_test_12 rfl ?_
    obtain ⟨p13, hp13, h⟩ := Option.bind_eq_some_iff.mp h
    refine RT.cVz (pc := 13) (M' := M_X3_kind) (ci := 3) (x := a0) (As := []) (st := []) (r := some (2, p13)) (mem1 := p4.2) (d' := d - 1) hz dX3_test_13 mw_X3_kind ml_X3_23 mi_X3_kind ht rfl rfl (Nat.le_of_ble_eq_true rfl) (Nat.le_of_ble_eq_true rfl) (by omega) rfl rfl (c_X3_kind hz (by omega) a0 p4.2 _ ht hp13) ?_
    refine RT.astore_n (pc := 16) (k := 3) (x := p13) (L1 := [(2, a0), (2, a1), (0, a2), (2, p13)]) dX3_test_16 (Nat.le_of_ble_eq_true rfl) rfl ?_
    refine RT.aload_n (pc := 17) (k := 3) (x := p13) dX3_test_17 rfl ?_
    refine RT.gets 29 (pc := 18) (x := 29) dX3_test_18 sl_X3_255 rfl ?_
    refine RT.acmp_eq (pc := 21) (tgt := 33) dX3_test_21 rfl (fun q21 => ?_) (fun q21 => ?_)
    · rw [if_pos q21] at h
      exact cj_X3_test_33 rec_X3_chain hrec_X3_chain hz hd ht a1 a2 p13 p4.2 _ h hK
    · rw [if_neg q21] at h
      refine RT.aload_n (pc := 24) (k := 3) (x := p13) dX3_test_24 rfl ?_
      refine RT.gets 30 (pc := 25) (x := 30) dX3_test_25 sl_X3_258 rfl ?_
      refine RT.acmp_eq (pc := 28) (tgt := 33) dX3_test_28 rfl (fun q28 => ?_) (fun q28 => ?_)
      · rw [if_pos q28] at h
        exact cj_X3_test_33 rec_X3_chain hrec_X3_chain hz hd ht a1 a2 p13 p4.2 _ h hK
      · rw [if_neg q28] at h
        refine RT.iconst (pc := 31) (n := 1) dX3_test_31 ⟨by decide, by decide⟩ ?_
        obtain rfl := Option.some.inj h
        exact RT.zret (pc := 32) dX3_test_32 rfl (by decide) (Nat.le_of_eq (rt_cells_0 z)) (Nat.le_of_eq (rt_slots_0 z)) hK
  · rw [if_pos (Classical.not_not.mp q7)] at h
    refine RT.iconst (pc := 10) (n := 0) dX3_test_10 ⟨by decide, by decide⟩ ?_
    obtain rfl := Option.some.inj h
    exact RT.zret (pc := 11) dX3_test_11 rfl (by decide) (Nat.le_of_eq (rt_cells_0 z)) (Nat.le_of_eq (rt_slots_0 z)) hK
theorem cj_X3_link_32 {G : rt_G} {d : Nat} {z : Nat × Nat} {Q : rt_P} (rec_X3_chain : Int → Int → Int → Int → rt_M → Option (Int × rt_M)) (rec_X3_test : Int → Int → Int → rt_M → Option (Int × rt_M)) (rec_X3_part : Int → Int → Int → rt_M → Option (Int × rt_M)) (hrec_X3_chain : ∀ (a0 a1 a2 a3 : Int) (mem0 : rt_M) (t : Int × rt_M), rt_kd a0.toNat = 20 + 3 → rec_X3_chain a0 a1 a2 a3 mem0 = some t → RM G M_X3_chain (d - 1) [(2, a0), (2, a1), (0, a2), (0, a3)] z mem0 (some (0, t.1)) t.2) (hrec_X3_test : ∀ (a0 a1 a2 : Int) (mem0 : rt_M) (t : Int × rt_M), rt_kd a0.toNat = 20 + 3 → rec_X3_test a0 a1 a2 mem0 = some t → RM G M_X3_test (d - 1) [(2, a0), (2, a1), (0, a2)] z mem0 (some (0, t.1)) t.2) (hrec_X3_part : ∀ (a0 a1 a2 : Int) (mem0 : rt_M) (t : Int × rt_M), rt_kd a0.toNat = 20 + 3 → rec_X3_part a0 a1 a2 mem0 = some t → RM G M_X3_part (d - 1) [(2, a0), (2, a1), (0, a2)] z mem0 (some (0, t.1)) t.2) (hz : 300 ≤ z.1) (hd : 2 ≤ d) {a0 : Int} (ht : rt_kd a0.toNat = 20 + 3) (s0 : Int) (mem0 : rt_M) (t : Int × rt_M) (h : j_X3_link_32 rec_X3_chain rec_X3_test rec_X3_part s0 mem0 = some t) (hK : Q (some (0, t.1)) z t.2) : RT G M_X3_link d z Q 32 [(9, 0), (9, 0), (9, 0), (9, 0)] [(0, s0)] z mem0 := by
  unfold j_X3_link_32 at h
  obtain ⟨w32, hw32, h⟩ := Option.bind_eq_some_iff.mp h
  obtain rfl := Option.some.inj h
  exact RT.zret (pc := 32) dX3_link_32 rfl (rt_bz_ok hw32) (Nat.le_of_eq (rt_cells_0 z)) (Nat.le_of_eq (rt_slots_0 z)) hK
theorem c_X3_link {G : rt_G} {d : Nat} {z : Nat × Nat} (rec_X3_chain : Int → Int → Int → Int → rt_M → Option (Int × rt_M)) (rec_X3_test : Int → Int → Int → rt_M → Option (Int × rt_M)) (rec_X3_part : Int → Int → Int → rt_M → Option (Int × rt_M)) (hrec_X3_chain : ∀ (a0 a1 a2 a3 : Int) (mem0 : rt_M) (t : Int × rt_M), rt_kd a0.toNat = 20 + 3 → rec_X3_chain a0 a1 a2 a3 mem0 = some t → RM G M_X3_chain (d - 1) [(2, a0), (2, a1), (0, a2), (0, a3)] z mem0 (some (0, t.1)) t.2) (hrec_X3_test : ∀ (a0 a1 a2 : Int) (mem0 : rt_M) (t : Int × rt_M), rt_kd a0.toNat = 20 + 3 → rec_X3_test a0 a1 a2 mem0 = some t → RM G M_X3_test (d - 1) [(2, a0), (2, a1), (0, a2)] z mem0 (some (0, t.1)) t.2) (hrec_X3_part : ∀ (a0 a1 a2 : Int) (mem0 : rt_M) (t : Int × rt_M), rt_kd a0.toNat = 20 + 3 → rec_X3_part a0 a1 a2 mem0 = some t → RM G M_X3_part (d - 1) [(2, a0), (2, a1), (0, a2)] z mem0 (some (0, t.1)) t.2) (hz : 300 ≤ z.1) (hd : 2 ≤ d) (a0 : Int) (a1 : Int) (a2 : Int) (a3 : Int) (mem0 : rt_M) (t : Int × rt_M) (ht : rt_kd a0.toNat = 20 + 3) (h : f_X3_link rec_X3_chain rec_X3_test rec_X3_part a0 a1 a2 a3 mem0 = some t) : RM G M_X3_link d [(2, a0), (2, a1), (0, a2), (0, a3)] z mem0 (some (0, t.1)) t.2 := by
  suffices H : ∀ Q : rt_P, Q (some (0, t.1)) z t.2 → RT G M_X3_link d z Q 0 [(2, a0), (2, a1), (0, a2), (0, a3)] [] z mem0 from H _ ⟨rfl, rfl, rfl⟩
  intro Q hK
  unfold f_X3_link at h
  refine RT.iload_n (pc := 0) (k := 2) (x := a2) dX3_link_0 rfl ?_
  refine RT.if_ne (pc := 1) (tgt := 11) dX3_link_1 rfl (fun q1 => ?_) (fun q1 => ?_)
  · rw [if_neg q1] at h
    refine RT.iload_n (pc := 11) (k := 2) (x := a2) dX3_link_11 rfl ?_
    refine RT.iconst (pc := 12) (n := 1) dX3_link_12 ⟨by decide, by decide⟩ ?_
    refine RT.icmp_ne (pc := 13) (tgt := 26) dX3_link_13 rfl (fun q13 => ?_) (fun q13 => ?_)
    · rw [if_neg q13] at h
      refine RT.aload_n (pc := 26) (k := 0) (x := a0) dX3_link_26 rfl ?_
      refine RT.aload_n (pc := 27) (k := 1) (x := a1) dX3_link_27 rfl ?_
      refine RT.iload_n (pc := 28) (k := 3) (x := a3) dX3_link_28 rfl ?_
      obtain ⟨p29, hp29, h⟩ := Option.bind_eq_some_iff.mp h
      refine RT.cVz (pc := 29) (M' := M_X3_part) (ci := 3) (x := a0) (As := [(2, a1), (0, a3)]) (st := []) (r := some (0, p29.1)) (mem1 := p29.2) (d' := d - 1) hz dX3_link_29 mw_X3_part ml_X3_237 mi_X3_part ht rfl rfl (Nat.le_of_ble_eq_true rfl) (Nat.le_of_ble_eq_true rfl) (by omega) rfl rfl (hrec_X3_part a0 a1 a3 mem0 _ ht hp29) ?_
      refine RT.wk (L1 := [(9, 0), (9, 0), (9, 0), (9, 0)]) (rt_le_j (rt_le_j (rt_le_j (rt_le_j rt_le_n)))) ?_
      exact cj_X3_link_32 rec_X3_chain rec_X3_test rec_X3_part hrec_X3_chain hrec_X3_test hrec_X3_part hz hd ht p29.1 p29.2 _ h hK
    · rw [if_pos (Classical.not_not.mp q13)] at h
      refine RT.aload_n (pc := 16) (k := 0) (x := a0) dX3_link_16 rfl ?_
      refine RT.aload_n (pc := 17) (k := 1) (x := a1) dX3_link_17 rfl ?_
      refine RT.iconst (pc := 18) (n := 2) dX3_link_18 ⟨by decide, by decide⟩ ?_
      refine RT.iload_n (pc := 19) (k := 3) (x := a3) dX3_link_19 rfl ?_
      obtain ⟨p20, hp20, h⟩ := Option.bind_eq_some_iff.mp h
      refine RT.cVz (pc := 20) (M' := M_X3_chain) (ci := 3) (x := a0) (As := [(2, a1), (0, 2), (0, a3)]) (st := []) (r := some (0, p20.1)) (mem1 := p20.2) (d' := d - 1) hz dX3_link_20 mw_X3_chain ml_X3_218 mi_X3_chain ht rfl rfl (Nat.le_of_ble_eq_true rfl) (Nat.le_of_ble_eq_true rfl) (by omega) rfl rfl (hrec_X3_chain a0 a1 2 a3 mem0 _ ht hp20) ?_
      refine RT.goto (pc := 23) (tgt := 32) dX3_link_23 rfl ?_
      refine RT.wk (L1 := [(9, 0), (9, 0), (9, 0), (9, 0)]) (rt_le_j (rt_le_j (rt_le_j (rt_le_j rt_le_n)))) ?_
      exact cj_X3_link_32 rec_X3_chain rec_X3_test rec_X3_part hrec_X3_chain hrec_X3_test hrec_X3_part hz hd ht p20.1 p20.2 _ h hK
  · rw [if_pos (Classical.not_not.mp q1)] at h
    refine RT.aload_n (pc := 4) (k := 0) (x := a0) dX3_link_4 rfl ?_
    refine RT.aload_n (pc := 5) (k := 1) (x := a1) dX3_link_5 rfl ?_
    refine RT.iload_n (pc := 6) (k := 3) (x := a3) dX3_link_6 rfl ?_
    obtain ⟨p7, hp7, h⟩ := Option.bind_eq_some_iff.mp h
    refine RT.cVz (pc := 7) (M' := M_X3_test) (ci := 3) (x := a0) (As := [(2, a1), (0, a3)]) (st := []) (r := some (0, p7.1)) (mem1 := p7.2) (d' := d - 1) hz dX3_link_7 mw_X3_test ml_X3_233 mi_X3_test ht rfl rfl (Nat.le_of_ble_eq_true rfl) (Nat.le_of_ble_eq_true rfl) (by omega) rfl rfl (hrec_X3_test a0 a1 a3 mem0 _ ht hp7) ?_
    obtain ⟨w10, hw10, h⟩ := Option.bind_eq_some_iff.mp h
    obtain rfl := Option.some.inj h
    exact RT.zret (pc := 10) dX3_link_10 rfl (rt_bz_ok hw10) (Nat.le_of_eq (rt_cells_0 z)) (Nat.le_of_eq (rt_slots_0 z)) hK
theorem cb_X3_chain_15 {G : rt_G} {d : Nat} {z : Nat × Nat} {Q : rt_P} (rec_X3_link : Int → Int → Int → Int → rt_M → Option (Int × rt_M)) (hrec_X3_link : ∀ (a0 a1 a2 a3 : Int) (mem0 : rt_M) (t : Int × rt_M), rt_kd a0.toNat = 20 + 3 → rec_X3_link a0 a1 a2 a3 mem0 = some t → RM G M_X3_link (d - 1) [(2, a0), (2, a1), (0, a2), (0, a3)] z mem0 (some (0, t.1)) t.2) (hz : 300 ≤ z.1) (hd : 2 ≤ d) {a0 : Int} (ht : rt_kd a0.toNat = 20 + 3) (a1 : Int) (a2 : Int) (a3 : Int) (s : Int × rt_M) (t : (Int × rt_M) ⊕ ((rt_M) ⊕ (Int × rt_M))) (h : b_X3_chain_15 rec_X3_link a0 a1 a2 a3 s = some t) (hK : (∀ s1 : Int × rt_M, t = .inl s1 → RT G M_X3_chain d z Q 15 [(2, a0), (2, a1), (0, a2), (0, a3), (0, s1.1), (9, 0)] [] z s1.2) ∧ (∀ x1 : rt_M, t = .inr (.inl x1) → RT G M_X3_chain d z Q 71 [(9, 0), (9, 0), (9, 0), (9, 0), (9, 0), (9, 0)] [] z x1) ∧ (∀ t1 : Int × rt_M, t = .inr (.inr t1) → Q (some (0, t1.1)) z t1.2)) : RT G M_X3_chain d z Q 15 [(2, a0), (2, a1), (0, a2), (0, a3), (0, s.1), (9, 0)] [] z s.2 := by
  unfold b_X3_chain_15 at h
  refine RT.iload (pc := 15) (k := 4) (x := s.1) dX3_chain_15 rfl ?_
  refine RT.sipush (pc := 17) (n := 1000) dX3_chain_17 ⟨by decide, by decide⟩ rfl ?_
  refine RT.icmp_ge (pc := 20) (tgt := 71) dX3_chain_20 rfl (fun q20 => ?_) (fun q20 => ?_)
  · rw [if_pos q20] at h
    refine RT.wk (L1 := [(9, 0), (9, 0), (9, 0), (9, 0), (9, 0), (9, 0)]) (rt_le_j (rt_le_j (rt_le_j (rt_le_j (rt_le_j (rt_le_s rt_le_n)))))) ?_
    obtain rfl := Option.some.inj h
    have q1 := hK.2.1 s.2 rfl
    try dsimp only at q1
    exact q1
  · rw [if_neg q20] at h
    refine RT.aload_n (pc := 23) (k := 0) (x := a0) dX3_chain_23 rfl ?_
    refine RT.iload_n (pc := 24) (k := 2) (x := a2) dX3_chain_24 rfl ?_
    obtain ⟨p25, hp25, h⟩ := Option.bind_eq_some_iff.mp h
    refine RT.cVz (pc := 25) (M' := M_X3_jointOf) (ci := 3) (x := a0) (As := [(0, a2)]) (st := []) (r := some (0, p25)) (mem1 := s.2) (d' := d - 1) hz dX3_chain_25 mw_X3_jointOf ml_X3_225 mi_X3_jointOf ht rfl rfl (Nat.le_of_ble_eq_true rfl) (Nat.le_of_ble_eq_true rfl) (by omega) rfl rfl (c_X3_jointOf hz (by omega) a0 a2 s.2 _ ht hp25) ?_
    refine RT.istore (pc := 28) (k := 5) (x := p25) (L1 := [(2, a0), (2, a1), (0, a2), (0, a3), (0, s.1), (0, p25)]) dX3_chain_28 (Nat.le_of_ble_eq_true rfl) rfl ?_
    refine RT.iload (pc := 30) (k := 5) (x := p25) dX3_chain_30 rfl ?_
    refine RT.if_ne (pc := 32) (tgt := 37) dX3_chain_32 rfl (fun q32 => ?_) (fun q32 => ?_)
    · rw [if_neg q32] at h
      refine RT.aload_n (pc := 37) (k := 0) (x := a0) dX3_chain_37 rfl ?_
      refine RT.dup (pc := 38) dX3_chain_38 (show ¬ ((2 : Nat) = 1) by decide) ?_
      obtain ⟨v39, hv39, h⟩ := Option.bind_eq_some_iff.mp h
      refine RT.gf 3 1 0 (pc := 39) (x := a0) (v := v39) hz dX3_chain_39 fl_X3_55 rfl hv39 ?_
      refine RT.iconst (pc := 42) (n := 1) dX3_chain_42 ⟨by decide, by decide⟩ ?_
      refine RT.iadd (pc := 43) dX3_chain_43 ?_
      obtain ⟨m44, hm44, h⟩ := Option.bind_eq_some_iff.mp h
      refine RT.pf_i 3 1 (pc := 44) (mem1 := m44) hz dX3_chain_44 fl_X3_55 rfl rfl rfl hm44 ?_
      refine RT.aload_n (pc := 47) (k := 0) (x := a0) dX3_chain_47 rfl ?_
      refine RT.aload_n (pc := 48) (k := 1) (x := a1) dX3_chain_48 rfl ?_
      refine RT.iload_n (pc := 49) (k := 2) (x := a2) dX3_chain_49 rfl ?_
      refine RT.iload_n (pc := 50) (k := 3) (x := a3) dX3_chain_50 rfl ?_
      obtain ⟨p51, hp51, h⟩ := Option.bind_eq_some_iff.mp h
      refine RT.cVz (pc := 51) (M' := M_X3_link) (ci := 3) (x := a0) (As := [(2, a1), (0, a2), (0, a3)]) (st := []) (r := some (0, p51.1)) (mem1 := p51.2) (d' := d - 1) hz dX3_chain_51 mw_X3_link ml_X3_222 mi_X3_link ht rfl rfl (Nat.le_of_ble_eq_true rfl) (Nat.le_of_ble_eq_true rfl) (by omega) rfl rfl (hrec_X3_link a0 a1 a2 a3 m44 _ ht hp51) ?_
      refine RT.if_ne (pc := 54) (tgt := 59) dX3_chain_54 rfl (fun q54 => ?_) (fun q54 => ?_)
      · rw [if_neg q54] at h
        refine RT.aload_n (pc := 59) (k := 1) (x := a1) dX3_chain_59 rfl ?_
        refine RT.iload (pc := 60) (k := 5) (x := p25) dX3_chain_60 rfl ?_
        obtain ⟨p62, hp62, h⟩ := Option.bind_eq_some_iff.mp h
        obtain ⟨hk62, hp62⟩ := rt_gd_some hp62
        refine RT.cVz (pc := 62) (M' := M_X2_add) (ci := 2) (x := a1) (As := [(0, p25)]) (st := []) (r := none) (mem1 := p62) (d' := d - 1) hz dX3_chain_62 mw_X2_add ml_X3_229 mi_X2_add hk62 rfl rfl (Nat.le_of_ble_eq_true rfl) (Nat.le_of_ble_eq_true rfl) (by omega) rfl rfl (c_X2_add hz (by omega) a1 p25 p51.2 _ hk62 hp62) ?_
        refine RT.iinc (pc := 65) (x := s.1) (L1 := [(2, a0), (2, a1), (0, a2), (0, a3), (0, (rt_iadd s.1 1)), (0, p25)]) dX3_chain_65 rfl (Nat.le_of_ble_eq_true rfl) ⟨by decide, by decide⟩ rfl ?_
        refine RT.goto (pc := 68) (tgt := 15) dX3_chain_68 rfl ?_
        refine RT.wk (L1 := [(2, a0), (2, a1), (0, a2), (0, a3), (0, (rt_iadd s.1 1)), (9, 0)]) (rt_le_s (rt_le_s (rt_le_s (rt_le_s (rt_le_s (rt_le_j rt_le_n)))))) ?_
        obtain rfl := Option.some.inj h
        have q1 := hK.1 (((rt_iadd s.1 1), p62)) rfl
        try dsimp only at q1
        exact q1
      · rw [if_pos (Classical.not_not.mp q54)] at h
        obtain ⟨t2, g2, e2⟩ := Option.map_eq_some_iff.mp h
        subst e2
        replace h := g2
        replace hK := hK.2.2 t2 rfl
        refine RT.iconst (pc := 57) (n := 0) dX3_chain_57 ⟨by decide, by decide⟩ ?_
        obtain rfl := Option.some.inj h
        exact RT.zret (pc := 58) dX3_chain_58 rfl (by decide) (Nat.le_of_eq (rt_cells_0 z)) (Nat.le_of_eq (rt_slots_0 z)) hK
    · rw [if_pos (Classical.not_not.mp q32)] at h
      obtain ⟨t2, g2, e2⟩ := Option.map_eq_some_iff.mp h
      subst e2
      replace h := g2
      replace hK := hK.2.2 t2 rfl
      refine RT.iconst (pc := 35) (n := 1) dX3_chain_35 ⟨by decide, by decide⟩ ?_
      obtain rfl := Option.some.inj h
      exact RT.zret (pc := 36) dX3_chain_36 rfl (by decide) (Nat.le_of_eq (rt_cells_0 z)) (Nat.le_of_eq (rt_slots_0 z)) hK
theorem c_X3_chain {G : rt_G} {d : Nat} {z : Nat × Nat} (rec_X3_link : Int → Int → Int → Int → rt_M → Option (Int × rt_M)) (hrec_X3_link : ∀ (a0 a1 a2 a3 : Int) (mem0 : rt_M) (t : Int × rt_M), rt_kd a0.toNat = 20 + 3 → rec_X3_link a0 a1 a2 a3 mem0 = some t → RM G M_X3_link (d - 1) [(2, a0), (2, a1), (0, a2), (0, a3)] z mem0 (some (0, t.1)) t.2) (hz : 300 ≤ z.1) (hd : 2 ≤ d) (a0 : Int) (a1 : Int) (a2 : Int) (a3 : Int) (mem0 : rt_M) (t : Int × rt_M) (ht : rt_kd a0.toNat = 20 + 3) (h : f_X3_chain rec_X3_link a0 a1 a2 a3 mem0 = some t) : RM G M_X3_chain d [(2, a0), (2, a1), (0, a2), (0, a3)] z mem0 (some (0, t.1)) t.2 := by
  suffices H : ∀ Q : rt_P, Q (some (0, t.1)) z t.2 → RT G M_X3_chain d z Q 0 [(2, a0), (2, a1), (0, a2), (0, a3), (9, 0), (9, 0)] [] z mem0 from H _ ⟨rfl, rfl, rfl⟩
  intro Q hK
  unfold f_X3_chain at h
  refine RT.aload_n (pc := 0) (k := 0) (x := a0) dX3_chain_0 rfl ?_
  refine RT.aload_n (pc := 1) (k := 1) (x := a1) dX3_chain_1 rfl ?_
  refine RT.iload_n (pc := 2) (k := 2) (x := a2) dX3_chain_2 rfl ?_
  refine RT.iload_n (pc := 3) (k := 3) (x := a3) dX3_chain_3 rfl ?_
  obtain ⟨p4, hp4, h⟩ := Option.bind_eq_some_iff.mp h
  refine RT.cVz (pc := 4) (M' := M_X3_link) (ci := 3) (x := a0) (As := [(2, a1), (0, a2), (0, a3)]) (st := []) (r := some (0, p4.1)) (mem1 := p4.2) (d' := d - 1) hz dX3_chain_4 mw_X3_link ml_X3_222 mi_X3_link ht rfl rfl (Nat.le_of_ble_eq_true rfl) (Nat.le_of_ble_eq_true rfl) (by omega) rfl rfl (hrec_X3_link a0 a1 a2 a3 mem0 _ ht hp4) ?_
  refine RT.if_ne (pc := 7) (tgt := 12) dX3_chain_7 rfl (fun q7 => ?_) (fun q7 => ?_)
  · rw [if_neg q7] at h
    refine RT.iconst (pc := 12) (n := 0) dX3_chain_12 ⟨by decide, by decide⟩ ?_
    refine RT.istore (pc := 13) (k := 4) (x := 0) (L1 := [(2, a0), (2, a1), (0, a2), (0, a3), (0, 0), (9, 0)]) dX3_chain_13 (Nat.le_of_ble_eq_true rfl) rfl ?_
    obtain ⟨E15, hE15, h⟩ := Option.bind_eq_some_iff.mp h
    refine rt_it_ind (P := (fun s1 : Int × rt_M => RT G M_X3_chain d z Q 15 [(2, a0), (2, a1), (0, a2), (0, a3), (0, s1.1), (9, 0)] [] z s1.2)) (X := (fun e1 : (rt_M) ⊕ (Int × rt_M) => (∀ x1 : rt_M, e1 = .inl x1 → RT G M_X3_chain d z Q 71 [(9, 0), (9, 0), (9, 0), (9, 0), (9, 0), (9, 0)] [] z x1) ∧ (∀ t1 : Int × rt_M, e1 = .inr t1 → Q (some (0, t1.1)) z t1.2))) (fun s1 t1 h1 k1 k2 => cb_X3_chain_15 rec_X3_link hrec_X3_link hz hd ht a1 a2 a3 s1 t1 h1 ⟨k1, fun x1 q => (k2 _ q).1 x1 rfl, fun t2 q => (k2 _ q).2 t2 rfl⟩) 4000 ((0, p4.2)) E15 hE15 ?_
    cases E15 with
    | inr t1 =>
      obtain rfl := Option.some.inj h
      exact ⟨fun x1 q => (by cases q), fun t2 q => (by cases q; exact hK)⟩
    | inl X15 =>
      refine ⟨fun x1 q => ?_, fun t2 q => (by cases q)⟩
      cases q
      refine RT.iconst (pc := 71) (n := 1) dX3_chain_71 ⟨by decide, by decide⟩ ?_
      obtain rfl := Option.some.inj h
      exact RT.zret (pc := 72) dX3_chain_72 rfl (by decide) (Nat.le_of_eq (rt_cells_0 z)) (Nat.le_of_eq (rt_slots_0 z)) hK
  · rw [if_pos (Classical.not_not.mp q7)] at h
    refine RT.iconst (pc := 10) (n := 0) dX3_chain_10 ⟨by decide, by decide⟩ ?_
    obtain rfl := Option.some.inj h
    exact RT.zret (pc := 11) dX3_chain_11 rfl (by decide) (Nat.le_of_eq (rt_cells_0 z)) (Nat.le_of_eq (rt_slots_0 z)) hK
theorem C_E {G : rt_G} {z : Nat × Nat} (hz : 300 ≤ z.1) : ∀ (n d : Nat), 2 + n ≤ d → (∀ (a0 a1 a2 a3 : Int) (mem0 : rt_M) (t : Int × rt_M), rt_kd a0.toNat = 20 + 3 → (F_E n).1 a0 a1 a2 a3 mem0 = some t → RM G M_X3_chain d [(2, a0), (2, a1), (0, a2), (0, a3)] z mem0 (some (0, t.1)) t.2) ∧ (∀ (a0 a1 a2 a3 : Int) (mem0 : rt_M) (t : Int × rt_M), rt_kd a0.toNat = 20 + 3 → (F_E n).2.1 a0 a1 a2 a3 mem0 = some t → RM G M_X3_link d [(2, a0), (2, a1), (0, a2), (0, a3)] z mem0 (some (0, t.1)) t.2) ∧ (∀ (a0 a1 a2 : Int) (mem0 : rt_M) (t : Int × rt_M), rt_kd a0.toNat = 20 + 3 → (F_E n).2.2.1 a0 a1 a2 mem0 = some t → RM G M_X3_test d [(2, a0), (2, a1), (0, a2)] z mem0 (some (0, t.1)) t.2) ∧ (∀ (a0 a1 a2 : Int) (mem0 : rt_M) (t : Int × rt_M), rt_kd a0.toNat = 20 + 3 → (F_E n).2.2.2 a0 a1 a2 mem0 = some t → RM G M_X3_part d [(2, a0), (2, a1), (0, a2)] z mem0 (some (0, t.1)) t.2) := by
  intro n
  induction n with
  | zero => intro d hd; exact ⟨fun a0 a1 a2 a3 mem0 t ht h => (by cases h), fun a0 a1 a2 a3 mem0 t ht h => (by cases h), fun a0 a1 a2 mem0 t ht h => (by cases h), fun a0 a1 a2 mem0 t ht h => (by cases h)⟩
  | succ n ih =>
    intro d hd
    obtain ⟨i0, i1, i2, i3⟩ := ih (d - 1) (by omega)
    exact ⟨fun a0 a1 a2 a3 mem0 t ht h => c_X3_chain (F_E n).2.1 i1 hz (by omega) a0 a1 a2 a3 mem0 t ht h, fun a0 a1 a2 a3 mem0 t ht h => c_X3_link (F_E n).1 (F_E n).2.2.1 (F_E n).2.2.2 i0 i2 i3 hz (by omega) a0 a1 a2 a3 mem0 t ht h, fun a0 a1 a2 mem0 t ht h => c_X3_test (F_E n).1 i0 hz (by omega) a0 a1 a2 mem0 t ht h, fun a0 a1 a2 mem0 t ht h => c_X3_part (F_E n).1 (F_E n).2.2.2 i0 i3 hz (by omega) a0 a1 a2 mem0 t ht h⟩
theorem C_X3_chain {G : rt_G} {z : Nat × Nat} : ∀ (n d : Nat) (hz : 300 ≤ z.1) (hd : 2 + n ≤ d) (a0 a1 a2 a3 : Int) (mem0 : rt_M) (t : Int × rt_M) (ht : rt_kd a0.toNat = 20 + 3) (h : F_X3_chain n a0 a1 a2 a3 mem0 = some t), RM G M_X3_chain d [(2, a0), (2, a1), (0, a2), (0, a3)] z mem0 (some (0, t.1)) t.2 := by
  intro n d hz hd a0 a1 a2 a3 mem0 t ht h
  exact (C_E hz n d hd).1 a0 a1 a2 a3 mem0 t ht h
theorem C_X3_link {G : rt_G} {z : Nat × Nat} : ∀ (n d : Nat) (hz : 300 ≤ z.1) (hd : 2 + n ≤ d) (a0 a1 a2 a3 : Int) (mem0 : rt_M) (t : Int × rt_M) (ht : rt_kd a0.toNat = 20 + 3) (h : F_X3_link n a0 a1 a2 a3 mem0 = some t), RM G M_X3_link d [(2, a0), (2, a1), (0, a2), (0, a3)] z mem0 (some (0, t.1)) t.2 := by
  intro n d hz hd a0 a1 a2 a3 mem0 t ht h
  exact (C_E hz n d hd).2.1 a0 a1 a2 a3 mem0 t ht h
theorem C_X3_test {G : rt_G} {z : Nat × Nat} : ∀ (n d : Nat) (hz : 300 ≤ z.1) (hd : 2 + n ≤ d) (a0 a1 a2 : Int) (mem0 : rt_M) (t : Int × rt_M) (ht : rt_kd a0.toNat = 20 + 3) (h : F_X3_test n a0 a1 a2 mem0 = some t), RM G M_X3_test d [(2, a0), (2, a1), (0, a2)] z mem0 (some (0, t.1)) t.2 := by
  intro n d hz hd a0 a1 a2 mem0 t ht h
  exact (C_E hz n d hd).2.2.1 a0 a1 a2 mem0 t ht h
theorem C_X3_part {G : rt_G} {z : Nat × Nat} : ∀ (n d : Nat) (hz : 300 ≤ z.1) (hd : 2 + n ≤ d) (a0 a1 a2 : Int) (mem0 : rt_M) (t : Int × rt_M) (ht : rt_kd a0.toNat = 20 + 3) (h : F_X3_part n a0 a1 a2 mem0 = some t), RM G M_X3_part d [(2, a0), (2, a1), (0, a2)] z mem0 (some (0, t.1)) t.2 := by
  intro n d hz hd a0 a1 a2 mem0 t ht h
  exact (C_E hz n d hd).2.2.2 a0 a1 a2 mem0 t ht h
theorem cj_X3_lawLine_53 {G : rt_G} {d : Nat} {z : Nat × Nat} {Q : rt_P} (hz : 300 ≤ z.1) (hd : 63 ≤ d) {a0 : Int} (ht : rt_kd a0.toNat = 20 + 3) (s0 : Int) (mem0 : rt_M) (t : Int × rt_M) (h : j_X3_lawLine_53 s0 mem0 = some t) (hK : Q (some (0, t.1)) z t.2) : RT G M_X3_lawLine d z Q 53 [(9, 0), (9, 0)] [(0, s0)] z mem0 := by
  unfold j_X3_lawLine_53 at h
  obtain ⟨w53, hw53, h⟩ := Option.bind_eq_some_iff.mp h
  obtain rfl := Option.some.inj h
  exact RT.zret (pc := 53) dX3_lawLine_53 rfl (rt_bz_ok hw53) (Nat.le_of_eq (rt_cells_0 z)) (Nat.le_of_eq (rt_slots_0 z)) hK
theorem cj_X3_lawLine_52 {G : rt_G} {d : Nat} {z : Nat × Nat} {Q : rt_P} (hz : 300 ≤ z.1) (hd : 63 ≤ d) {a0 : Int} (ht : rt_kd a0.toNat = 20 + 3) (mem0 : rt_M) (t : Int × rt_M) (h : j_X3_lawLine_52 mem0 = some t) (hK : Q (some (0, t.1)) z t.2) : RT G M_X3_lawLine d z Q 52 [(9, 0), (9, 0)] [] z mem0 := by
  unfold j_X3_lawLine_52 at h
  refine RT.iconst (pc := 52) (n := 0) dX3_lawLine_52 ⟨by decide, by decide⟩ ?_
  exact cj_X3_lawLine_53 hz hd ht 0 mem0 _ h hK
theorem c_X3_lawLine {G : rt_G} {d : Nat} {z : Nat × Nat} (hz : 300 ≤ z.1) (hd : 63 ≤ d) (a0 : Int) (a1 : Int) (mem0 : rt_M) (t : Int × rt_M) (ht : rt_kd a0.toNat = 20 + 3) (h : f_X3_lawLine a0 a1 mem0 = some t) : RM G M_X3_lawLine d [(2, a0), (2, a1)] z mem0 (some (0, t.1)) t.2 := by
  suffices H : ∀ Q : rt_P, Q (some (0, t.1)) z t.2 → RT G M_X3_lawLine d z Q 0 [(2, a0), (2, a1)] [] z mem0 from H _ ⟨rfl, rfl, rfl⟩
  intro Q hK
  unfold f_X3_lawLine at h
  refine RT.aload_n (pc := 0) (k := 1) (x := a1) dX3_lawLine_0 rfl ?_
  obtain ⟨v1, hv1, h⟩ := Option.bind_eq_some_iff.mp h
  refine RT.gf 2 6 0 (pc := 1) (x := a1) (v := v1) hz dX3_lawLine_1 fl_X3_213 rfl hv1 ?_
  refine RT.if_eq (pc := 4) (tgt := 13) dX3_lawLine_4 rfl (fun q4 => ?_) (fun q4 => ?_)
  · rw [if_pos q4] at h
    refine RT.aload_n (pc := 13) (k := 0) (x := a0) dX3_lawLine_13 rfl ?_
    refine RT.dup (pc := 14) dX3_lawLine_14 (show ¬ ((2 : Nat) = 1) by decide) ?_
    obtain ⟨v15, hv15, h⟩ := Option.bind_eq_some_iff.mp h
    refine RT.gf 3 1 0 (pc := 15) (x := a0) (v := v15) hz dX3_lawLine_15 fl_X3_55 rfl hv15 ?_
    refine RT.iconst (pc := 18) (n := 1) dX3_lawLine_18 ⟨by decide, by decide⟩ ?_
    refine RT.iadd (pc := 19) dX3_lawLine_19 ?_
    obtain ⟨m20, hm20, h⟩ := Option.bind_eq_some_iff.mp h
    refine RT.pf_i 3 1 (pc := 20) (mem1 := m20) hz dX3_lawLine_20 fl_X3_55 rfl rfl rfl hm20 ?_
    refine RT.aload_n (pc := 23) (k := 1) (x := a1) dX3_lawLine_23 rfl ?_
    refine RT.iconst (pc := 24) (n := 1) dX3_lawLine_24 ⟨by decide, by decide⟩ ?_
    obtain ⟨m25, hm25, h⟩ := Option.bind_eq_some_iff.mp h
    refine RT.pf_z 2 6 (pc := 25) (mem1 := m25) hz dX3_lawLine_25 fl_X3_213 rfl rfl rfl (by decide) hm25 ?_
    refine RT.aload_n (pc := 28) (k := 0) (x := a0) dX3_lawLine_28 rfl ?_
    refine RT.aload_n (pc := 29) (k := 1) (x := a1) dX3_lawLine_29 rfl ?_
    refine RT.iconst (pc := 30) (n := 0) dX3_lawLine_30 ⟨by decide, by decide⟩ ?_
    refine RT.iconst (pc := 31) (n := 0) dX3_lawLine_31 ⟨by decide, by decide⟩ ?_
    obtain ⟨p32, hp32, h⟩ := Option.bind_eq_some_iff.mp h
    refine RT.cVz (pc := 32) (M' := M_X3_chain) (ci := 3) (x := a0) (As := [(2, a1), (0, 0), (0, 0)]) (st := []) (r := some (0, p32.1)) (mem1 := p32.2) (d' := d - 1) hz dX3_lawLine_32 mw_X3_chain ml_X3_218 mi_X3_chain ht rfl rfl (Nat.le_of_ble_eq_true rfl) (Nat.le_of_ble_eq_true rfl) (by omega) rfl rfl (C_X3_chain 60 (d - 1) hz (by omega) a0 a1 0 0 m25 _ ht hp32) ?_
    refine RT.if_eq (pc := 35) (tgt := 52) dX3_lawLine_35 rfl (fun q35 => ?_) (fun q35 => ?_)
    · rw [if_pos q35] at h
      refine RT.wk (L1 := [(9, 0), (9, 0)]) (rt_le_j (rt_le_j rt_le_n)) ?_
      exact cj_X3_lawLine_52 hz hd ht p32.2 _ h hK
    · rw [if_neg q35] at h
      refine RT.aload_n (pc := 38) (k := 0) (x := a0) dX3_lawLine_38 rfl ?_
      refine RT.gets 34 (pc := 39) (x := 34) dX3_lawLine_39 sl_X3_145 rfl ?_
      obtain ⟨p42, hp42, h⟩ := Option.bind_eq_some_iff.mp h
      refine RT.cVz (pc := 42) (M' := M_X3_take) (ci := 3) (x := a0) (As := [(2, 34)]) (st := []) (r := some (0, p42.1)) (mem1 := p42.2) (d' := d - 1) hz dX3_lawLine_42 mw_X3_take ml_X3_148 mi_X3_take ht rfl rfl (Nat.le_of_ble_eq_true rfl) (Nat.le_of_ble_eq_true rfl) (by omega) rfl rfl (c_X3_take hz (by omega) a0 34 p32.2 _ ht hp42) ?_
      refine RT.if_eq (pc := 45) (tgt := 52) dX3_lawLine_45 rfl (fun q45 => ?_) (fun q45 => ?_)
      · rw [if_pos q45] at h
        refine RT.wk (L1 := [(9, 0), (9, 0)]) (rt_le_j (rt_le_j rt_le_n)) ?_
        exact cj_X3_lawLine_52 hz hd ht p42.2 _ h hK
      · rw [if_neg q45] at h
        refine RT.iconst (pc := 48) (n := 1) dX3_lawLine_48 ⟨by decide, by decide⟩ ?_
        refine RT.goto (pc := 49) (tgt := 53) dX3_lawLine_49 rfl ?_
        refine RT.wk (L1 := [(9, 0), (9, 0)]) (rt_le_j (rt_le_j rt_le_n)) ?_
        exact cj_X3_lawLine_53 hz hd ht 1 p42.2 _ h hK
  · rw [if_neg q4] at h
    refine RT.aload_n (pc := 7) (k := 0) (x := a0) dX3_lawLine_7 rfl ?_
    refine RT.iconst (pc := 8) (n := 3) dX3_lawLine_8 ⟨by decide, by decide⟩ ?_
    obtain ⟨p9, hp9, h⟩ := Option.bind_eq_some_iff.mp h
    refine RT.cVz (pc := 9) (M' := M_X3_fail) (ci := 3) (x := a0) (As := [(0, 3)]) (st := []) (r := some (0, p9.1)) (mem1 := p9.2) (d' := d - 1) hz dX3_lawLine_9 mw_X3_fail ml_X3_73 mi_X3_fail ht rfl rfl (Nat.le_of_ble_eq_true rfl) (Nat.le_of_ble_eq_true rfl) (by omega) rfl rfl (c_X3_fail hz (by omega) a0 3 mem0 _ ht hp9) ?_
    obtain ⟨w12, hw12, h⟩ := Option.bind_eq_some_iff.mp h
    obtain rfl := Option.some.inj h
    exact RT.zret (pc := 12) dX3_lawLine_12 rfl (rt_bz_ok hw12) (Nat.le_of_eq (rt_cells_0 z)) (Nat.le_of_eq (rt_slots_0 z)) hK
theorem cj_X3_realmLine_96 {G : rt_G} {d : Nat} {z : Nat × Nat} {Q : rt_P} (hz : 300 ≤ z.1) (hd : 64 ≤ d) {a0 : Int} (ht : rt_kd a0.toNat = 20 + 3) (s0 : Int) (mem0 : rt_M) (t : Int × rt_M) (h : j_X3_realmLine_96 s0 mem0 = some t) (hK : Q (some (0, t.1)) z t.2) : RT G M_X3_realmLine d z Q 96 [(9, 0), (9, 0), (9, 0)] [(0, s0)] z mem0 := by
  unfold j_X3_realmLine_96 at h
  obtain ⟨w96, hw96, h⟩ := Option.bind_eq_some_iff.mp h
  obtain rfl := Option.some.inj h
  exact RT.zret (pc := 96) dX3_realmLine_96 rfl (rt_bz_ok hw96) (Nat.le_of_eq (rt_cells_0 z)) (Nat.le_of_eq (rt_slots_0 z)) hK
theorem c_X3_realmLine {G : rt_G} {d : Nat} {z : Nat × Nat} (hz : 300 ≤ z.1) (hd : 64 ≤ d) (a0 : Int) (a1 : Int) (mem0 : rt_M) (t : Int × rt_M) (ht : rt_kd a0.toNat = 20 + 3) (h : f_X3_realmLine a0 a1 mem0 = some t) : RM G M_X3_realmLine d [(2, a0), (2, a1)] z mem0 (some (0, t.1)) t.2 := by
  suffices H : ∀ Q : rt_P, Q (some (0, t.1)) z t.2 → RT G M_X3_realmLine d z Q 0 [(2, a0), (2, a1), (9, 0)] [] z mem0 from H _ ⟨rfl, rfl, rfl⟩
  intro Q hK
  unfold f_X3_realmLine at h
  refine RT.aload_n (pc := 0) (k := 0) (x := a0) dX3_realmLine_0 rfl ?_
  obtain ⟨p1, hp1, h⟩ := Option.bind_eq_some_iff.mp h
  refine RT.cVz (pc := 1) (M' := M_X3_kind) (ci := 3) (x := a0) (As := []) (st := []) (r := some (2, p1)) (mem1 := mem0) (d' := d - 1) hz dX3_realmLine_1 mw_X3_kind ml_X3_23 mi_X3_kind ht rfl rfl (Nat.le_of_ble_eq_true rfl) (Nat.le_of_ble_eq_true rfl) (by omega) rfl rfl (c_X3_kind hz (by omega) a0 mem0 _ ht hp1) ?_
  refine RT.astore_n (pc := 4) (k := 2) (x := p1) (L1 := [(2, a0), (2, a1), (2, p1)]) dX3_realmLine_4 (Nat.le_of_ble_eq_true rfl) rfl ?_
  refine RT.aload_n (pc := 5) (k := 2) (x := p1) dX3_realmLine_5 rfl ?_
  refine RT.gets 0 (pc := 6) (x := 0) dX3_realmLine_6 sl_X3_77 rfl ?_
  refine RT.acmp_ne (pc := 9) (tgt := 18) dX3_realmLine_9 rfl (fun q9 => ?_) (fun q9 => ?_)
  · rw [if_neg q9] at h
    refine RT.aload_n (pc := 18) (k := 2) (x := p1) dX3_realmLine_18 rfl ?_
    refine RT.gets 4 (pc := 19) (x := 4) dX3_realmLine_19 sl_X3_83 rfl ?_
    refine RT.acmp_ne (pc := 22) (tgt := 31) dX3_realmLine_22 rfl (fun q22 => ?_) (fun q22 => ?_)
    · rw [if_neg q22] at h
      refine RT.aload_n (pc := 31) (k := 2) (x := p1) dX3_realmLine_31 rfl ?_
      refine RT.gets 6 (pc := 32) (x := 6) dX3_realmLine_32 sl_X3_89 rfl ?_
      refine RT.acmp_ne (pc := 35) (tgt := 44) dX3_realmLine_35 rfl (fun q35 => ?_) (fun q35 => ?_)
      · rw [if_neg q35] at h
        refine RT.aload_n (pc := 44) (k := 2) (x := p1) dX3_realmLine_44 rfl ?_
        refine RT.gets 7 (pc := 45) (x := 7) dX3_realmLine_45 sl_X3_95 rfl ?_
        refine RT.acmp_ne (pc := 48) (tgt := 57) dX3_realmLine_48 rfl (fun q48 => ?_) (fun q48 => ?_)
        · rw [if_neg q48] at h
          refine RT.aload_n (pc := 57) (k := 2) (x := p1) dX3_realmLine_57 rfl ?_
          refine RT.gets 8 (pc := 58) (x := 8) dX3_realmLine_58 sl_X3_101 rfl ?_
          refine RT.acmp_ne (pc := 61) (tgt := 73) dX3_realmLine_61 rfl (fun q61 => ?_) (fun q61 => ?_)
          · rw [if_neg q61] at h
            refine RT.aload_n (pc := 73) (k := 2) (x := p1) dX3_realmLine_73 rfl ?_
            refine RT.gets 9 (pc := 74) (x := 9) dX3_realmLine_74 sl_X3_112 rfl ?_
            refine RT.acmp_ne (pc := 77) (tgt := 91) dX3_realmLine_77 rfl (fun q77 => ?_) (fun q77 => ?_)
            · rw [if_neg q77] at h
              refine RT.aload_n (pc := 91) (k := 0) (x := a0) dX3_realmLine_91 rfl ?_
              refine RT.iconst (pc := 92) (n := 1) dX3_realmLine_92 ⟨by decide, by decide⟩ ?_
              obtain ⟨p93, hp93, h⟩ := Option.bind_eq_some_iff.mp h
              refine RT.cVz (pc := 93) (M' := M_X3_fail) (ci := 3) (x := a0) (As := [(0, 1)]) (st := []) (r := some (0, p93.1)) (mem1 := p93.2) (d' := d - 1) hz dX3_realmLine_93 mw_X3_fail ml_X3_73 mi_X3_fail ht rfl rfl (Nat.le_of_ble_eq_true rfl) (Nat.le_of_ble_eq_true rfl) (by omega) rfl rfl (c_X3_fail hz (by omega) a0 1 mem0 _ ht hp93) ?_
              refine RT.wk (L1 := [(9, 0), (9, 0), (9, 0)]) (rt_le_j (rt_le_j (rt_le_j rt_le_n))) ?_
              exact cj_X3_realmLine_96 hz hd ht p93.1 p93.2 _ h hK
            · rw [if_pos (Classical.not_not.mp q77)] at h
              refine RT.aload_n (pc := 80) (k := 0) (x := a0) dX3_realmLine_80 rfl ?_
              refine RT.aload_n (pc := 81) (k := 1) (x := a1) dX3_realmLine_81 rfl ?_
              obtain ⟨v82, hv82, h⟩ := Option.bind_eq_some_iff.mp h
              refine RT.gf 4 11 2 (pc := 82) (x := a1) (v := v82) hz dX3_realmLine_82 fl_X3_115 rfl hv82 ?_
              obtain ⟨p85, hp85, h⟩ := Option.bind_eq_some_iff.mp h
              refine RT.cVz (pc := 85) (M' := M_X3_lawLine) (ci := 3) (x := a0) (As := [(2, v82)]) (st := []) (r := some (0, p85.1)) (mem1 := p85.2) (d' := d - 1) hz dX3_realmLine_85 mw_X3_lawLine ml_X3_108 mi_X3_lawLine ht rfl rfl (Nat.le_of_ble_eq_true rfl) (Nat.le_of_ble_eq_true rfl) (by omega) rfl rfl (c_X3_lawLine hz (by omega) a0 v82 mem0 _ ht hp85) ?_
              refine RT.goto (pc := 88) (tgt := 96) dX3_realmLine_88 rfl ?_
              refine RT.wk (L1 := [(9, 0), (9, 0), (9, 0)]) (rt_le_j (rt_le_j (rt_le_j rt_le_n))) ?_
              exact cj_X3_realmLine_96 hz hd ht p85.1 p85.2 _ h hK
          · rw [if_pos (Classical.not_not.mp q61)] at h
            refine RT.aload_n (pc := 64) (k := 0) (x := a0) dX3_realmLine_64 rfl ?_
            refine RT.aload_n (pc := 65) (k := 1) (x := a1) dX3_realmLine_65 rfl ?_
            obtain ⟨v66, hv66, h⟩ := Option.bind_eq_some_iff.mp h
            refine RT.gf 4 10 2 (pc := 66) (x := a1) (v := v66) hz dX3_realmLine_66 fl_X3_104 rfl hv66 ?_
            obtain ⟨p69, hp69, h⟩ := Option.bind_eq_some_iff.mp h
            refine RT.cVz (pc := 69) (M' := M_X3_lawLine) (ci := 3) (x := a0) (As := [(2, v66)]) (st := []) (r := some (0, p69.1)) (mem1 := p69.2) (d' := d - 1) hz dX3_realmLine_69 mw_X3_lawLine ml_X3_108 mi_X3_lawLine ht rfl rfl (Nat.le_of_ble_eq_true rfl) (Nat.le_of_ble_eq_true rfl) (by omega) rfl rfl (c_X3_lawLine hz (by omega) a0 v66 mem0 _ ht hp69) ?_
            obtain ⟨w72, hw72, h⟩ := Option.bind_eq_some_iff.mp h
            obtain rfl := Option.some.inj h
            exact RT.zret (pc := 72) dX3_realmLine_72 rfl (rt_bz_ok hw72) (Nat.le_of_eq (rt_cells_0 z)) (Nat.le_of_eq (rt_slots_0 z)) hK
        · rw [if_pos (Classical.not_not.mp q48)] at h
          refine RT.aload_n (pc := 51) (k := 0) (x := a0) dX3_realmLine_51 rfl ?_
          refine RT.aload_n (pc := 52) (k := 1) (x := a1) dX3_realmLine_52 rfl ?_
          obtain ⟨p53, hp53, h⟩ := Option.bind_eq_some_iff.mp h
          refine RT.cVz (pc := 53) (M' := M_X3_slackLine) (ci := 3) (x := a0) (As := [(2, a1)]) (st := []) (r := some (0, p53.1)) (mem1 := p53.2) (d' := d - 1) hz dX3_realmLine_53 mw_X3_slackLine ml_X3_98 mi_X3_slackLine ht rfl rfl (Nat.le_of_ble_eq_true rfl) (Nat.le_of_ble_eq_true rfl) (by omega) rfl rfl (c_X3_slackLine hz (by omega) a0 a1 mem0 _ ht hp53) ?_
          obtain ⟨w56, hw56, h⟩ := Option.bind_eq_some_iff.mp h
          obtain rfl := Option.some.inj h
          exact RT.zret (pc := 56) dX3_realmLine_56 rfl (rt_bz_ok hw56) (Nat.le_of_eq (rt_cells_0 z)) (Nat.le_of_eq (rt_slots_0 z)) hK
      · rw [if_pos (Classical.not_not.mp q35)] at h
        refine RT.aload_n (pc := 38) (k := 0) (x := a0) dX3_realmLine_38 rfl ?_
        refine RT.aload_n (pc := 39) (k := 1) (x := a1) dX3_realmLine_39 rfl ?_
        obtain ⟨p40, hp40, h⟩ := Option.bind_eq_some_iff.mp h
        refine RT.cVz (pc := 40) (M' := M_X3_heatsLine) (ci := 3) (x := a0) (As := [(2, a1)]) (st := []) (r := some (0, p40.1)) (mem1 := p40.2) (d' := d - 1) hz dX3_realmLine_40 mw_X3_heatsLine ml_X3_92 mi_X3_heatsLine ht rfl rfl (Nat.le_of_ble_eq_true rfl) (Nat.le_of_ble_eq_true rfl) (by omega) rfl rfl (c_X3_heatsLine hz (by omega) a0 a1 mem0 _ ht hp40) ?_
        obtain ⟨w43, hw43, h⟩ := Option.bind_eq_some_iff.mp h
        obtain rfl := Option.some.inj h
        exact RT.zret (pc := 43) dX3_realmLine_43 rfl (rt_bz_ok hw43) (Nat.le_of_eq (rt_cells_0 z)) (Nat.le_of_eq (rt_slots_0 z)) hK
    · rw [if_pos (Classical.not_not.mp q22)] at h
      refine RT.aload_n (pc := 25) (k := 0) (x := a0) dX3_realmLine_25 rfl ?_
      refine RT.aload_n (pc := 26) (k := 1) (x := a1) dX3_realmLine_26 rfl ?_
      obtain ⟨p27, hp27, h⟩ := Option.bind_eq_some_iff.mp h
      refine RT.cVz (pc := 27) (M' := M_X3_headLine) (ci := 3) (x := a0) (As := [(2, a1)]) (st := []) (r := some (0, p27.1)) (mem1 := p27.2) (d' := d - 1) hz dX3_realmLine_27 mw_X3_headLine ml_X3_86 mi_X3_headLine ht rfl rfl (Nat.le_of_ble_eq_true rfl) (Nat.le_of_ble_eq_true rfl) (by omega) rfl rfl (c_X3_headLine hz (by omega) a0 a1 mem0 _ ht hp27) ?_
      obtain ⟨w30, hw30, h⟩ := Option.bind_eq_some_iff.mp h
      obtain rfl := Option.some.inj h
      exact RT.zret (pc := 30) dX3_realmLine_30 rfl (rt_bz_ok hw30) (Nat.le_of_eq (rt_cells_0 z)) (Nat.le_of_eq (rt_slots_0 z)) hK
  · rw [if_pos (Classical.not_not.mp q9)] at h
    refine RT.aload_n (pc := 12) (k := 0) (x := a0) dX3_realmLine_12 rfl ?_
    refine RT.aload_n (pc := 13) (k := 1) (x := a1) dX3_realmLine_13 rfl ?_
    obtain ⟨p14, hp14, h⟩ := Option.bind_eq_some_iff.mp h
    refine RT.cVz (pc := 14) (M' := M_X3_wigLine) (ci := 3) (x := a0) (As := [(2, a1)]) (st := []) (r := some (0, p14.1)) (mem1 := p14.2) (d' := d - 1) hz dX3_realmLine_14 mw_X3_wigLine ml_X3_80 mi_X3_wigLine ht rfl rfl (Nat.le_of_ble_eq_true rfl) (Nat.le_of_ble_eq_true rfl) (by omega) rfl rfl (c_X3_wigLine hz (by omega) a0 a1 mem0 _ ht hp14) ?_
    obtain ⟨w17, hw17, h⟩ := Option.bind_eq_some_iff.mp h
    obtain rfl := Option.some.inj h
    exact RT.zret (pc := 17) dX3_realmLine_17 rfl (rt_bz_ok hw17) (Nat.le_of_eq (rt_cells_0 z)) (Nat.le_of_eq (rt_slots_0 z)) hK
theorem cb_X3_readRealm_10 {G : rt_G} {d : Nat} {z : Nat × Nat} {Q : rt_P} (hz : 300 ≤ z.1) (hd : 65 ≤ d) {a0 : Int} (ht : rt_kd a0.toNat = 20 + 3) (a1 : Int) (s : Int × rt_M) (t : (Int × rt_M) ⊕ ((rt_M) ⊕ (Int × rt_M))) (h : b_X3_readRealm_10 a0 a1 s = some t) (hK : (∀ s1 : Int × rt_M, t = .inl s1 → RT G M_X3_readRealm d z Q 10 [(2, a0), (2, a1), (0, s1.1)] [] z s1.2) ∧ (∀ x1 : rt_M, t = .inr (.inl x1) → RT G M_X3_readRealm d z Q 46 [(9, 0), (9, 0), (9, 0)] [] z x1) ∧ (∀ t1 : Int × rt_M, t = .inr (.inr t1) → Q (some (0, t1.1)) z t1.2)) : RT G M_X3_readRealm d z Q 10 [(2, a0), (2, a1), (0, s.1)] [] z s.2 := by
  unfold b_X3_readRealm_10 at h
  refine RT.iload_n (pc := 10) (k := 2) (x := s.1) dX3_readRealm_10 rfl ?_
  refine RT.sipush (pc := 11) (n := 1000) dX3_readRealm_11 ⟨by decide, by decide⟩ rfl ?_
  refine RT.icmp_ge (pc := 14) (tgt := 46) dX3_readRealm_14 rfl (fun q14 => ?_) (fun q14 => ?_)
  · rw [if_pos q14] at h
    refine RT.wk (L1 := [(9, 0), (9, 0), (9, 0)]) (rt_le_j (rt_le_j (rt_le_j rt_le_n))) ?_
    obtain rfl := Option.some.inj h
    have q1 := hK.2.1 s.2 rfl
    try dsimp only at q1
    exact q1
  · rw [if_neg q14] at h
    refine RT.aload_n (pc := 17) (k := 0) (x := a0) dX3_readRealm_17 rfl ?_
    obtain ⟨p18, hp18, h⟩ := Option.bind_eq_some_iff.mp h
    refine RT.cVz (pc := 18) (M' := M_X3_kind) (ci := 3) (x := a0) (As := []) (st := []) (r := some (2, p18)) (mem1 := s.2) (d' := d - 1) hz dX3_readRealm_18 mw_X3_kind ml_X3_23 mi_X3_kind ht rfl rfl (Nat.le_of_ble_eq_true rfl) (Nat.le_of_ble_eq_true rfl) (by omega) rfl rfl (c_X3_kind hz (by omega) a0 s.2 _ ht hp18) ?_
    refine RT.gets 37 (pc := 21) (x := 37) dX3_readRealm_21 sl_X3_27 rfl ?_
    refine RT.acmp_eq (pc := 24) (tgt := 46) dX3_readRealm_24 rfl (fun q24 => ?_) (fun q24 => ?_)
    · rw [if_pos q24] at h
      refine RT.wk (L1 := [(9, 0), (9, 0), (9, 0)]) (rt_le_j (rt_le_j (rt_le_j rt_le_n))) ?_
      obtain rfl := Option.some.inj h
      have q1 := hK.2.1 s.2 rfl
      try dsimp only at q1
      exact q1
    · rw [if_neg q24] at h
      refine RT.aload_n (pc := 27) (k := 0) (x := a0) dX3_readRealm_27 rfl ?_
      refine RT.aload_n (pc := 28) (k := 1) (x := a1) dX3_readRealm_28 rfl ?_
      obtain ⟨p29, hp29, h⟩ := Option.bind_eq_some_iff.mp h
      refine RT.cVz (pc := 29) (M' := M_X3_realmLine) (ci := 3) (x := a0) (As := [(2, a1)]) (st := []) (r := some (0, p29.1)) (mem1 := p29.2) (d' := d - 1) hz dX3_readRealm_29 mw_X3_realmLine ml_X3_33 mi_X3_realmLine ht rfl rfl (Nat.le_of_ble_eq_true rfl) (Nat.le_of_ble_eq_true rfl) (by omega) rfl rfl (c_X3_realmLine hz (by omega) a0 a1 s.2 _ ht hp29) ?_
      refine RT.if_ne (pc := 32) (tgt := 40) dX3_readRealm_32 rfl (fun q32 => ?_) (fun q32 => ?_)
      · rw [if_neg q32] at h
        refine RT.iinc (pc := 40) (x := s.1) (L1 := [(2, a0), (2, a1), (0, (rt_iadd s.1 1))]) dX3_readRealm_40 rfl (Nat.le_of_ble_eq_true rfl) ⟨by decide, by decide⟩ rfl ?_
        refine RT.goto (pc := 43) (tgt := 10) dX3_readRealm_43 rfl ?_
        obtain rfl := Option.some.inj h
        have q1 := hK.1 (((rt_iadd s.1 1), p29.2)) rfl
        try dsimp only at q1
        exact q1
      · rw [if_pos (Classical.not_not.mp q32)] at h
        obtain ⟨t2, g2, e2⟩ := Option.map_eq_some_iff.mp h
        subst e2
        replace h := g2
        replace hK := hK.2.2 t2 rfl
        refine RT.aload_n (pc := 35) (k := 0) (x := a0) dX3_readRealm_35 rfl ?_
        obtain ⟨v36, hv36, h⟩ := Option.bind_eq_some_iff.mp h
        refine RT.gf 3 2 0 (pc := 36) (x := a0) (v := v36) hz dX3_readRealm_36 fl_X3_37 rfl hv36 ?_
        obtain rfl := Option.some.inj h
        exact RT.iret (pc := 39) dX3_readRealm_39 rfl (Nat.le_of_eq (rt_cells_0 z)) (Nat.le_of_eq (rt_slots_0 z)) hK
theorem c_X3_readRealm {G : rt_G} {d : Nat} {z : Nat × Nat} (hz : 300 ≤ z.1) (hd : 65 ≤ d) (a0 : Int) (a1 : Int) (mem0 : rt_M) (t : Int × rt_M) (ht : rt_kd a0.toNat = 20 + 3) (h : f_X3_readRealm a0 a1 mem0 = some t) : RM G M_X3_readRealm d [(2, a0), (2, a1)] z mem0 (some (0, t.1)) t.2 := by
  suffices H : ∀ Q : rt_P, Q (some (0, t.1)) z t.2 → RT G M_X3_readRealm d z Q 0 [(2, a0), (2, a1), (9, 0)] [] z mem0 from H _ ⟨rfl, rfl, rfl⟩
  intro Q hK
  unfold f_X3_readRealm at h
  refine RT.aload_n (pc := 0) (k := 0) (x := a0) dX3_readRealm_0 rfl ?_
  obtain ⟨p1, hp1, h⟩ := Option.bind_eq_some_iff.mp h
  refine RT.cVz (pc := 1) (M' := M_X3_start) (ci := 3) (x := a0) (As := []) (st := []) (r := none) (mem1 := p1) (d' := d - 1) hz dX3_readRealm_1 mw_X3_start ml_X3_15 mi_X3_start ht rfl rfl (Nat.le_of_ble_eq_true rfl) (Nat.le_of_ble_eq_true rfl) (by omega) rfl rfl (c_X3_start hz (by omega) a0 mem0 _ ht hp1) ?_
  refine RT.aload_n (pc := 4) (k := 1) (x := a1) dX3_readRealm_4 rfl ?_
  obtain ⟨p5, hp5, h⟩ := Option.bind_eq_some_iff.mp h
  obtain ⟨hk5, hp5⟩ := rt_gd_some hp5
  refine RT.cVz (pc := 5) (M' := M_X4_clear) (ci := 4) (x := a1) (As := []) (st := []) (r := none) (mem1 := p5) (d' := d - 1) hz dX3_readRealm_5 mw_X4_clear ml_X3_18 mi_X4_clear hk5 rfl rfl (Nat.le_of_ble_eq_true rfl) (Nat.le_of_ble_eq_true rfl) (by omega) rfl rfl (c_X4_clear hz (by omega) a1 p1 _ hk5 hp5) ?_
  refine RT.iconst (pc := 8) (n := 0) dX3_readRealm_8 ⟨by decide, by decide⟩ ?_
  refine RT.istore_n (pc := 9) (k := 2) (x := 0) (L1 := [(2, a0), (2, a1), (0, 0)]) dX3_readRealm_9 (Nat.le_of_ble_eq_true rfl) rfl ?_
  obtain ⟨E10, hE10, h⟩ := Option.bind_eq_some_iff.mp h
  refine rt_it_ind (P := (fun s1 : Int × rt_M => RT G M_X3_readRealm d z Q 10 [(2, a0), (2, a1), (0, s1.1)] [] z s1.2)) (X := (fun e1 : (rt_M) ⊕ (Int × rt_M) => (∀ x1 : rt_M, e1 = .inl x1 → RT G M_X3_readRealm d z Q 46 [(9, 0), (9, 0), (9, 0)] [] z x1) ∧ (∀ t1 : Int × rt_M, e1 = .inr t1 → Q (some (0, t1.1)) z t1.2))) (fun s1 t1 h1 k1 k2 => cb_X3_readRealm_10 hz hd ht a1 s1 t1 h1 ⟨k1, fun x1 q => (k2 _ q).1 x1 rfl, fun t2 q => (k2 _ q).2 t2 rfl⟩) 4000 ((0, p5)) E10 hE10 ?_
  cases E10 with
  | inr t1 =>
    obtain rfl := Option.some.inj h
    exact ⟨fun x1 q => (by cases q), fun t2 q => (by cases q; exact hK)⟩
  | inl X10 =>
    refine ⟨fun x1 q => ?_, fun t2 q => (by cases q)⟩
    cases q
    refine RT.iconst (pc := 46) (n := 0) dX3_readRealm_46 ⟨by decide, by decide⟩ ?_
    obtain rfl := Option.some.inj h
    exact RT.iret (pc := 47) dX3_readRealm_47 rfl (Nat.le_of_eq (rt_cells_0 z)) (Nat.le_of_eq (rt_slots_0 z)) hK
theorem c_X3_oldName {G : rt_G} {d : Nat} {z : Nat × Nat} (hz : 300 ≤ z.1) (hd : 1 ≤ d) (a0 : Int) (a1 : Int) (mem0 : rt_M) (t : Int × rt_M) (ht : rt_kd a0.toNat = 20 + 3) (h : f_X3_oldName a0 a1 mem0 = some t) : RM G M_X3_oldName d [(2, a0), (0, a1)] z mem0 (some (0, t.1)) t.2 := by
  suffices H : ∀ Q : rt_P, Q (some (0, t.1)) z t.2 → RT G M_X3_oldName d z Q 0 [(2, a0), (0, a1)] [] z mem0 from H _ ⟨rfl, rfl, rfl⟩
  intro Q hK
  unfold f_X3_oldName at h
  refine RT.aload_n (pc := 0) (k := 0) (x := a0) dX3_oldName_0 rfl ?_
  obtain ⟨p1, hp1, h⟩ := Option.bind_eq_some_iff.mp h
  refine RT.cVz (pc := 1) (M' := M_X3_kind) (ci := 3) (x := a0) (As := []) (st := []) (r := some (2, p1)) (mem1 := mem0) (d' := d - 1) hz dX3_oldName_1 mw_X3_kind ml_X3_23 mi_X3_kind ht rfl rfl (Nat.le_of_ble_eq_true rfl) (Nat.le_of_ble_eq_true rfl) (by omega) rfl rfl (c_X3_kind hz (by omega) a0 mem0 _ ht hp1) ?_
  obtain ⟨v4, hv4, h⟩ := Option.bind_eq_some_iff.mp h
  refine RT.wcn (pc := 4) (x := p1) (v := v4) dX3_oldName_4 wc_X3_171 hv4 ?_
  refine RT.if_ne (pc := 7) (tgt := 16) dX3_oldName_7 rfl (fun q7 => ?_) (fun q7 => ?_)
  · rw [if_neg q7] at h
    refine RT.iload_n (pc := 16) (k := 1) (x := a1) dX3_oldName_16 rfl ?_
    refine RT.iconst (pc := 17) (n := (-1)) dX3_oldName_17 ⟨by decide, by decide⟩ ?_
    refine RT.icmp_ne (pc := 18) (tgt := 27) dX3_oldName_18 rfl (fun q18 => ?_) (fun q18 => ?_)
    · rw [if_neg q18] at h
      refine RT.aload_n (pc := 27) (k := 0) (x := a0) dX3_oldName_27 rfl ?_
      refine RT.dup (pc := 28) dX3_oldName_28 (show ¬ ((2 : Nat) = 1) by decide) ?_
      obtain ⟨v29, hv29, h⟩ := Option.bind_eq_some_iff.mp h
      refine RT.gf 3 1 0 (pc := 29) (x := a0) (v := v29) hz dX3_oldName_29 fl_X3_55 rfl hv29 ?_
      refine RT.iconst (pc := 32) (n := 1) dX3_oldName_32 ⟨by decide, by decide⟩ ?_
      refine RT.iadd (pc := 33) dX3_oldName_33 ?_
      obtain ⟨m34, hm34, h⟩ := Option.bind_eq_some_iff.mp h
      refine RT.pf_i 3 1 (pc := 34) (mem1 := m34) hz dX3_oldName_34 fl_X3_55 rfl rfl rfl hm34 ?_
      refine RT.iconst (pc := 37) (n := 1) dX3_oldName_37 ⟨by decide, by decide⟩ ?_
      obtain rfl := Option.some.inj h
      exact RT.zret (pc := 38) dX3_oldName_38 rfl (by decide) (Nat.le_of_eq (rt_cells_0 z)) (Nat.le_of_eq (rt_slots_0 z)) hK
    · rw [if_pos (Classical.not_not.mp q18)] at h
      refine RT.aload_n (pc := 21) (k := 0) (x := a0) dX3_oldName_21 rfl ?_
      refine RT.iconst (pc := 22) (n := 2) dX3_oldName_22 ⟨by decide, by decide⟩ ?_
      obtain ⟨p23, hp23, h⟩ := Option.bind_eq_some_iff.mp h
      refine RT.cVz (pc := 23) (M' := M_X3_fail) (ci := 3) (x := a0) (As := [(0, 2)]) (st := []) (r := some (0, p23.1)) (mem1 := p23.2) (d' := d - 1) hz dX3_oldName_23 mw_X3_fail ml_X3_73 mi_X3_fail ht rfl rfl (Nat.le_of_ble_eq_true rfl) (Nat.le_of_ble_eq_true rfl) (by omega) rfl rfl (c_X3_fail hz (by omega) a0 2 mem0 _ ht hp23) ?_
      obtain ⟨w26, hw26, h⟩ := Option.bind_eq_some_iff.mp h
      obtain rfl := Option.some.inj h
      exact RT.zret (pc := 26) dX3_oldName_26 rfl (rt_bz_ok hw26) (Nat.le_of_eq (rt_cells_0 z)) (Nat.le_of_eq (rt_slots_0 z)) hK
  · rw [if_pos (Classical.not_not.mp q7)] at h
    refine RT.aload_n (pc := 10) (k := 0) (x := a0) dX3_oldName_10 rfl ?_
    refine RT.iconst (pc := 11) (n := 1) dX3_oldName_11 ⟨by decide, by decide⟩ ?_
    obtain ⟨p12, hp12, h⟩ := Option.bind_eq_some_iff.mp h
    refine RT.cVz (pc := 12) (M' := M_X3_fail) (ci := 3) (x := a0) (As := [(0, 1)]) (st := []) (r := some (0, p12.1)) (mem1 := p12.2) (d' := d - 1) hz dX3_oldName_12 mw_X3_fail ml_X3_73 mi_X3_fail ht rfl rfl (Nat.le_of_ble_eq_true rfl) (Nat.le_of_ble_eq_true rfl) (by omega) rfl rfl (c_X3_fail hz (by omega) a0 1 mem0 _ ht hp12) ?_
    obtain ⟨w15, hw15, h⟩ := Option.bind_eq_some_iff.mp h
    obtain rfl := Option.some.inj h
    exact RT.zret (pc := 15) dX3_oldName_15 rfl (rt_bz_ok hw15) (Nat.le_of_eq (rt_cells_0 z)) (Nat.le_of_eq (rt_slots_0 z)) hK
theorem cj_X10_add_49 {G : rt_G} {d : Nat} {z : Nat × Nat} {Q : rt_P} (hz : 300 ≤ z.1) (hd : 0 ≤ d) {a0 : Int} (ht : rt_kd a0.toNat = 20 + 10) (mem0 : rt_M) (t : rt_M) (h : j_X10_add_49 mem0 = some t) (hK : Q none z t) : RT G M_X10_add d z Q 49 [(9, 0), (9, 0), (9, 0), (9, 0)] [] z mem0 := by
  unfold j_X10_add_49 at h
  obtain rfl := Option.some.inj h
  exact RT.vret (pc := 49) dX10_add_49 rfl (Nat.le_of_eq (rt_cells_0 z)) (Nat.le_of_eq (rt_slots_0 z)) hK
theorem c_X10_add {G : rt_G} {d : Nat} {z : Nat × Nat} (hz : 300 ≤ z.1) (hd : 0 ≤ d) (a0 : Int) (a1 : Int) (a2 : Int) (a3 : Int) (mem0 : rt_M) (t : rt_M) (ht : rt_kd a0.toNat = 20 + 10) (h : f_X10_add a0 a1 a2 a3 mem0 = some t) : RM G M_X10_add d [(2, a0), (2, a1), (0, a2), (0, a3)] z mem0 none t := by
  suffices H : ∀ Q : rt_P, Q none z t → RT G M_X10_add d z Q 0 [(2, a0), (2, a1), (0, a2), (0, a3)] [] z mem0 from H _ ⟨rfl, rfl, rfl⟩
  intro Q hK
  unfold f_X10_add at h
  refine RT.aload_n (pc := 0) (k := 0) (x := a0) dX10_add_0 rfl ?_
  obtain ⟨v1, hv1, h⟩ := Option.bind_eq_some_iff.mp h
  refine RT.gf 10 0 0 (pc := 1) (x := a0) (v := v1) hz dX10_add_1 fl_X10_24 rfl hv1 ?_
  refine RT.bipush (pc := 4) (n := 40) dX10_add_4 ⟨by decide, by decide⟩ rfl ?_
  refine RT.icmp_ge (pc := 6) (tgt := 49) dX10_add_6 rfl (fun q6 => ?_) (fun q6 => ?_)
  · rw [if_pos q6] at h
    refine RT.wk (L1 := [(9, 0), (9, 0), (9, 0), (9, 0)]) (rt_le_j (rt_le_j (rt_le_j (rt_le_j rt_le_n)))) ?_
    exact cj_X10_add_49 hz hd ht mem0 _ h hK
  · rw [if_neg q6] at h
    refine RT.aload_n (pc := 9) (k := 0) (x := a0) dX10_add_9 rfl ?_
    obtain ⟨v10, hv10, h⟩ := Option.bind_eq_some_iff.mp h
    refine RT.gf 10 1 2 (pc := 10) (x := a0) (v := v10) hz dX10_add_10 fl_X10_11 rfl hv10 ?_
    refine RT.aload_n (pc := 13) (k := 0) (x := a0) dX10_add_13 rfl ?_
    obtain ⟨v14, hv14, h⟩ := Option.bind_eq_some_iff.mp h
    refine RT.gf 10 0 0 (pc := 14) (x := a0) (v := v14) hz dX10_add_14 fl_X10_24 rfl hv14 ?_
    refine RT.aload_n (pc := 17) (k := 1) (x := a1) dX10_add_17 rfl ?_
    obtain ⟨m18, hm18, h⟩ := Option.bind_eq_some_iff.mp h
    refine RT.astW (pc := 18) (x := v10) (i := v14) (v := a1) (mem1 := m18) dX10_add_18 (rt_ltw hz hm18) hm18 ?_
    refine RT.aload_n (pc := 19) (k := 0) (x := a0) dX10_add_19 rfl ?_
    obtain ⟨v20, hv20, h⟩ := Option.bind_eq_some_iff.mp h
    refine RT.gf 10 2 2 (pc := 20) (x := a0) (v := v20) hz dX10_add_20 fl_X10_17 rfl hv20 ?_
    refine RT.aload_n (pc := 23) (k := 0) (x := a0) dX10_add_23 rfl ?_
    obtain ⟨v24, hv24, h⟩ := Option.bind_eq_some_iff.mp h
    refine RT.gf 10 0 0 (pc := 24) (x := a0) (v := v24) hz dX10_add_24 fl_X10_24 rfl hv24 ?_
    refine RT.iload_n (pc := 27) (k := 2) (x := a2) dX10_add_27 rfl ?_
    obtain ⟨m28, hm28, h⟩ := Option.bind_eq_some_iff.mp h
    refine RT.iast (pc := 28) (x := v20) (i := v24) (v := a2) (mem1 := m28) dX10_add_28 (rt_lts hz (by decide) (by decide) hm28) hm28 ?_
    refine RT.aload_n (pc := 29) (k := 0) (x := a0) dX10_add_29 rfl ?_
    obtain ⟨v30, hv30, h⟩ := Option.bind_eq_some_iff.mp h
    refine RT.gf 10 3 2 (pc := 30) (x := a0) (v := v30) hz dX10_add_30 fl_X10_21 rfl hv30 ?_
    refine RT.aload_n (pc := 33) (k := 0) (x := a0) dX10_add_33 rfl ?_
    obtain ⟨v34, hv34, h⟩ := Option.bind_eq_some_iff.mp h
    refine RT.gf 10 0 0 (pc := 34) (x := a0) (v := v34) hz dX10_add_34 fl_X10_24 rfl hv34 ?_
    refine RT.iload_n (pc := 37) (k := 3) (x := a3) dX10_add_37 rfl ?_
    obtain ⟨m38, hm38, h⟩ := Option.bind_eq_some_iff.mp h
    refine RT.iast (pc := 38) (x := v30) (i := v34) (v := a3) (mem1 := m38) dX10_add_38 (rt_lts hz (by decide) (by decide) hm38) hm38 ?_
    refine RT.aload_n (pc := 39) (k := 0) (x := a0) dX10_add_39 rfl ?_
    refine RT.dup (pc := 40) dX10_add_40 (show ¬ ((2 : Nat) = 1) by decide) ?_
    obtain ⟨v41, hv41, h⟩ := Option.bind_eq_some_iff.mp h
    refine RT.gf 10 0 0 (pc := 41) (x := a0) (v := v41) hz dX10_add_41 fl_X10_24 rfl hv41 ?_
    refine RT.iconst (pc := 44) (n := 1) dX10_add_44 ⟨by decide, by decide⟩ ?_
    refine RT.iadd (pc := 45) dX10_add_45 ?_
    obtain ⟨m46, hm46, h⟩ := Option.bind_eq_some_iff.mp h
    refine RT.pf_i 10 0 (pc := 46) (mem1 := m46) hz dX10_add_46 fl_X10_24 rfl rfl rfl hm46 ?_
    refine RT.wk (L1 := [(9, 0), (9, 0), (9, 0), (9, 0)]) (rt_le_j (rt_le_j (rt_le_j (rt_le_j rt_le_n)))) ?_
    exact cj_X10_add_49 hz hd ht m46 _ h hK
theorem cj_X3_yearsLine_126 {G : rt_G} {d : Nat} {z : Nat × Nat} {Q : rt_P} (hz : 300 ≤ z.1) (hd : 2 ≤ d) {a0 : Int} (ht : rt_kd a0.toNat = 20 + 3) (a2 : Int) (a3 : Int) (a4 : Int) (a5 : Int) (mem0 : rt_M) (t : Int × rt_M) (h : j_X3_yearsLine_126 a0 a2 a3 a4 a5 mem0 = some t) (hK : Q (some (0, t.1)) z t.2) : RT G M_X3_yearsLine d z Q 126 [(2, a0), (9, 0), (2, a2), (2, a3), (0, a4), (0, a5)] [] z mem0 := by
  unfold j_X3_yearsLine_126 at h
  refine RT.aload_n (pc := 126) (k := 2) (x := a2) dX3_yearsLine_126 rfl ?_
  refine RT.aload_n (pc := 127) (k := 3) (x := a3) dX3_yearsLine_127 rfl ?_
  refine RT.iload (pc := 128) (k := 4) (x := a4) dX3_yearsLine_128 rfl ?_
  refine RT.iload (pc := 130) (k := 5) (x := a5) dX3_yearsLine_130 rfl ?_
  obtain ⟨p132, hp132, h⟩ := Option.bind_eq_some_iff.mp h
  obtain ⟨hk132, hp132⟩ := rt_gd_some hp132
  refine RT.cVz (pc := 132) (M' := M_X10_add) (ci := 10) (x := a2) (As := [(2, a3), (0, a4), (0, a5)]) (st := []) (r := none) (mem1 := p132) (d' := d - 1) hz dX3_yearsLine_132 mw_X10_add ml_X3_289 mi_X10_add hk132 rfl rfl (Nat.le_of_ble_eq_true rfl) (Nat.le_of_ble_eq_true rfl) (by omega) rfl rfl (c_X10_add hz (by omega) a2 a3 a4 a5 mem0 _ hk132 hp132) ?_
  refine RT.aload_n (pc := 135) (k := 0) (x := a0) dX3_yearsLine_135 rfl ?_
  refine RT.gets 34 (pc := 136) (x := 34) dX3_yearsLine_136 sl_X3_145 rfl ?_
  obtain ⟨p139, hp139, h⟩ := Option.bind_eq_some_iff.mp h
  refine RT.cVz (pc := 139) (M' := M_X3_take) (ci := 3) (x := a0) (As := [(2, 34)]) (st := []) (r := some (0, p139.1)) (mem1 := p139.2) (d' := d - 1) hz dX3_yearsLine_139 mw_X3_take ml_X3_148 mi_X3_take ht rfl rfl (Nat.le_of_ble_eq_true rfl) (Nat.le_of_ble_eq_true rfl) (by omega) rfl rfl (c_X3_take hz (by omega) a0 34 p132 _ ht hp139) ?_
  obtain ⟨w142, hw142, h⟩ := Option.bind_eq_some_iff.mp h
  obtain rfl := Option.some.inj h
  exact RT.zret (pc := 142) dX3_yearsLine_142 rfl (rt_bz_ok hw142) (Nat.le_of_eq (rt_cells_0 z)) (Nat.le_of_eq (rt_slots_0 z)) hK
theorem cj_X3_yearsLine_98 {G : rt_G} {d : Nat} {z : Nat × Nat} {Q : rt_P} (hz : 300 ≤ z.1) (hd : 2 ≤ d) {a0 : Int} (ht : rt_kd a0.toNat = 20 + 3) (a1 : Int) (a2 : Int) (a3 : Int) (a4 : Int) (a5 : Int) (mem0 : rt_M) (t : Int × rt_M) (h : j_X3_yearsLine_98 a0 a1 a2 a3 a4 a5 mem0 = some t) (hK : Q (some (0, t.1)) z t.2) : RT G M_X3_yearsLine d z Q 98 [(2, a0), (2, a1), (2, a2), (2, a3), (0, a4), (0, a5)] [] z mem0 := by
  unfold j_X3_yearsLine_98 at h
  refine RT.aload_n (pc := 98) (k := 3) (x := a3) dX3_yearsLine_98 rfl ?_
  refine RT.gets 10 (pc := 99) (x := 10) dX3_yearsLine_99 sl_X3_274 rfl ?_
  refine RT.acmp_ne (pc := 102) (tgt := 126) dX3_yearsLine_102 rfl (fun q102 => ?_) (fun q102 => ?_)
  · rw [if_neg q102] at h
    refine RT.wk (L1 := [(2, a0), (9, 0), (2, a2), (2, a3), (0, a4), (0, a5)]) (rt_le_s (rt_le_j (rt_le_s (rt_le_s (rt_le_s (rt_le_s rt_le_n)))))) ?_
    exact cj_X3_yearsLine_126 hz hd ht a2 a3 a4 a5 mem0 _ h hK
  · rw [if_pos (Classical.not_not.mp q102)] at h
    refine RT.aload_n (pc := 105) (k := 1) (x := a1) dX3_yearsLine_105 rfl ?_
    refine RT.aload_n (pc := 106) (k := 0) (x := a0) dX3_yearsLine_106 rfl ?_
    obtain ⟨p107, hp107, h⟩ := Option.bind_eq_some_iff.mp h
    refine RT.cVz (pc := 107) (M' := M_X3_value) (ci := 3) (x := a0) (As := []) (st := [(2, a1)]) (r := some (1, p107)) (mem1 := mem0) (d' := d - 1) hz dX3_yearsLine_107 mw_X3_value ml_X3_121 mi_X3_value ht rfl rfl (Nat.le_of_ble_eq_true rfl) (Nat.le_of_ble_eq_true rfl) (by omega) rfl rfl (c_X3_value hz (by omega) a0 mem0 _ ht hp107) ?_
    obtain ⟨p110, hp110, h⟩ := Option.bind_eq_some_iff.mp h
    obtain ⟨hk110, hp110⟩ := rt_gd_some hp110
    refine RT.cVz (pc := 110) (M' := M_X4_headNamed) (ci := 4) (x := a1) (As := [(1, p107)]) (st := []) (r := some (0, p110)) (mem1 := mem0) (d' := d - 1) hz dX3_yearsLine_110 mw_X4_headNamed ml_X3_179 mi_X4_headNamed hk110 rfl rfl (Nat.le_of_ble_eq_true rfl) (Nat.le_of_ble_eq_true rfl) (by omega) rfl rfl (c_X4_headNamed hz (by omega) a1 p107 mem0 _ hk110 hp110) ?_
    refine RT.istore (pc := 113) (k := 5) (x := p110) (L1 := [(2, a0), (2, a1), (2, a2), (2, a3), (0, a4), (0, p110)]) dX3_yearsLine_113 (Nat.le_of_ble_eq_true rfl) rfl ?_
    refine RT.aload_n (pc := 115) (k := 0) (x := a0) dX3_yearsLine_115 rfl ?_
    refine RT.iload (pc := 116) (k := 5) (x := p110) dX3_yearsLine_116 rfl ?_
    obtain ⟨p118, hp118, h⟩ := Option.bind_eq_some_iff.mp h
    refine RT.cVz (pc := 118) (M' := M_X3_oldName) (ci := 3) (x := a0) (As := [(0, p110)]) (st := []) (r := some (0, p118.1)) (mem1 := p118.2) (d' := d - 1) hz dX3_yearsLine_118 mw_X3_oldName ml_X3_286 mi_X3_oldName ht rfl rfl (Nat.le_of_ble_eq_true rfl) (Nat.le_of_ble_eq_true rfl) (by omega) rfl rfl (c_X3_oldName hz (by omega) a0 p110 mem0 _ ht hp118) ?_
    refine RT.if_ne (pc := 121) (tgt := 126) dX3_yearsLine_121 rfl (fun q121 => ?_) (fun q121 => ?_)
    · rw [if_neg q121] at h
      refine RT.wk (L1 := [(2, a0), (9, 0), (2, a2), (2, a3), (0, a4), (0, p110)]) (rt_le_s (rt_le_j (rt_le_s (rt_le_s (rt_le_s (rt_le_s rt_le_n)))))) ?_
      exact cj_X3_yearsLine_126 hz hd ht a2 a3 a4 p110 p118.2 _ h hK
    · rw [if_pos (Classical.not_not.mp q121)] at h
      refine RT.iconst (pc := 124) (n := 0) dX3_yearsLine_124 ⟨by decide, by decide⟩ ?_
      obtain rfl := Option.some.inj h
      exact RT.zret (pc := 125) dX3_yearsLine_125 rfl (by decide) (Nat.le_of_eq (rt_cells_0 z)) (Nat.le_of_eq (rt_slots_0 z)) hK
theorem cj_X3_yearsLine_39 {G : rt_G} {d : Nat} {z : Nat × Nat} {Q : rt_P} (hz : 300 ≤ z.1) (hd : 2 ≤ d) {a0 : Int} (ht : rt_kd a0.toNat = 20 + 3) (a1 : Int) (a2 : Int) (a3 : Int) (mem0 : rt_M) (t : Int × rt_M) (h : j_X3_yearsLine_39 a0 a1 a2 a3 mem0 = some t) (hK : Q (some (0, t.1)) z t.2) : RT G M_X3_yearsLine d z Q 39 [(2, a0), (2, a1), (2, a2), (2, a3), (9, 0), (9, 0)] [] z mem0 := by
  unfold j_X3_yearsLine_39 at h
  refine RT.aload_n (pc := 39) (k := 2) (x := a2) dX3_yearsLine_39 rfl ?_
  obtain ⟨v40, hv40, h⟩ := Option.bind_eq_some_iff.mp h
  refine RT.gf 10 0 0 (pc := 40) (x := a2) (v := v40) hz dX3_yearsLine_40 fl_X3_41 rfl hv40 ?_
  refine RT.bipush (pc := 43) (n := 40) dX3_yearsLine_43 ⟨by decide, by decide⟩ rfl ?_
  refine RT.icmp_lt (pc := 45) (tgt := 54) dX3_yearsLine_45 rfl (fun q45 => ?_) (fun q45 => ?_)
  · rw [if_pos q45] at h
    refine RT.aload_n (pc := 54) (k := 0) (x := a0) dX3_yearsLine_54 rfl ?_
    refine RT.dup (pc := 55) dX3_yearsLine_55 (show ¬ ((2 : Nat) = 1) by decide) ?_
    obtain ⟨v56, hv56, h⟩ := Option.bind_eq_some_iff.mp h
    refine RT.gf 3 1 0 (pc := 56) (x := a0) (v := v56) hz dX3_yearsLine_56 fl_X3_55 rfl hv56 ?_
    refine RT.iconst (pc := 59) (n := 1) dX3_yearsLine_59 ⟨by decide, by decide⟩ ?_
    refine RT.iadd (pc := 60) dX3_yearsLine_60 ?_
    obtain ⟨m61, hm61, h⟩ := Option.bind_eq_some_iff.mp h
    refine RT.pf_i 3 1 (pc := 61) (mem1 := m61) hz dX3_yearsLine_61 fl_X3_55 rfl rfl rfl hm61 ?_
    refine RT.iconst (pc := 64) (n := (-1)) dX3_yearsLine_64 ⟨by decide, by decide⟩ ?_
    refine RT.istore (pc := 65) (k := 4) (x := (-1)) (L1 := [(2, a0), (2, a1), (2, a2), (2, a3), (0, (-1)), (9, 0)]) dX3_yearsLine_65 (Nat.le_of_ble_eq_true rfl) rfl ?_
    refine RT.iconst (pc := 67) (n := (-1)) dX3_yearsLine_67 ⟨by decide, by decide⟩ ?_
    refine RT.istore (pc := 68) (k := 5) (x := (-1)) (L1 := [(2, a0), (2, a1), (2, a2), (2, a3), (0, (-1)), (0, (-1))]) dX3_yearsLine_68 (Nat.le_of_ble_eq_true rfl) rfl ?_
    refine RT.aload_n (pc := 70) (k := 3) (x := a3) dX3_yearsLine_70 rfl ?_
    refine RT.gets 13 (pc := 71) (x := 13) dX3_yearsLine_71 sl_X3_283 rfl ?_
    refine RT.acmp_eq (pc := 74) (tgt := 98) dX3_yearsLine_74 rfl (fun q74 => ?_) (fun q74 => ?_)
    · rw [if_pos q74] at h
      exact cj_X3_yearsLine_98 hz hd ht a1 a2 a3 ((-1)) ((-1)) m61 _ h hK
    · rw [if_neg q74] at h
      refine RT.aload_n (pc := 77) (k := 1) (x := a1) dX3_yearsLine_77 rfl ?_
      refine RT.aload_n (pc := 78) (k := 0) (x := a0) dX3_yearsLine_78 rfl ?_
      obtain ⟨p79, hp79, h⟩ := Option.bind_eq_some_iff.mp h
      refine RT.cVz (pc := 79) (M' := M_X3_value) (ci := 3) (x := a0) (As := []) (st := [(2, a1)]) (r := some (1, p79)) (mem1 := m61) (d' := d - 1) hz dX3_yearsLine_79 mw_X3_value ml_X3_121 mi_X3_value ht rfl rfl (Nat.le_of_ble_eq_true rfl) (Nat.le_of_ble_eq_true rfl) (by omega) rfl rfl (c_X3_value hz (by omega) a0 m61 _ ht hp79) ?_
      obtain ⟨p82, hp82, h⟩ := Option.bind_eq_some_iff.mp h
      obtain ⟨hk82, hp82⟩ := rt_gd_some hp82
      refine RT.cVz (pc := 82) (M' := M_X4_wigNamed) (ci := 4) (x := a1) (As := [(1, p79)]) (st := []) (r := some (0, p82)) (mem1 := m61) (d' := d - 1) hz dX3_yearsLine_82 mw_X4_wigNamed ml_X3_175 mi_X4_wigNamed hk82 rfl rfl (Nat.le_of_ble_eq_true rfl) (Nat.le_of_ble_eq_true rfl) (by omega) rfl rfl (c_X4_wigNamed hz (by omega) a1 p79 m61 _ hk82 hp82) ?_
      refine RT.istore (pc := 85) (k := 4) (x := p82) (L1 := [(2, a0), (2, a1), (2, a2), (2, a3), (0, p82), (0, (-1))]) dX3_yearsLine_85 (Nat.le_of_ble_eq_true rfl) rfl ?_
      refine RT.aload_n (pc := 87) (k := 0) (x := a0) dX3_yearsLine_87 rfl ?_
      refine RT.iload (pc := 88) (k := 4) (x := p82) dX3_yearsLine_88 rfl ?_
      obtain ⟨p90, hp90, h⟩ := Option.bind_eq_some_iff.mp h
      refine RT.cVz (pc := 90) (M' := M_X3_oldName) (ci := 3) (x := a0) (As := [(0, p82)]) (st := []) (r := some (0, p90.1)) (mem1 := p90.2) (d' := d - 1) hz dX3_yearsLine_90 mw_X3_oldName ml_X3_286 mi_X3_oldName ht rfl rfl (Nat.le_of_ble_eq_true rfl) (Nat.le_of_ble_eq_true rfl) (by omega) rfl rfl (c_X3_oldName hz (by omega) a0 p82 m61 _ ht hp90) ?_
      refine RT.if_ne (pc := 93) (tgt := 98) dX3_yearsLine_93 rfl (fun q93 => ?_) (fun q93 => ?_)
      · rw [if_neg q93] at h
        exact cj_X3_yearsLine_98 hz hd ht a1 a2 a3 p82 ((-1)) p90.2 _ h hK
      · rw [if_pos (Classical.not_not.mp q93)] at h
        refine RT.iconst (pc := 96) (n := 0) dX3_yearsLine_96 ⟨by decide, by decide⟩ ?_
        obtain rfl := Option.some.inj h
        exact RT.zret (pc := 97) dX3_yearsLine_97 rfl (by decide) (Nat.le_of_eq (rt_cells_0 z)) (Nat.le_of_eq (rt_slots_0 z)) hK
  · rw [if_neg q45] at h
    refine RT.aload_n (pc := 48) (k := 0) (x := a0) dX3_yearsLine_48 rfl ?_
    refine RT.iconst (pc := 49) (n := 5) dX3_yearsLine_49 ⟨by decide, by decide⟩ ?_
    obtain ⟨p50, hp50, h⟩ := Option.bind_eq_some_iff.mp h
    refine RT.cVz (pc := 50) (M' := M_X3_fail) (ci := 3) (x := a0) (As := [(0, 5)]) (st := []) (r := some (0, p50.1)) (mem1 := p50.2) (d' := d - 1) hz dX3_yearsLine_50 mw_X3_fail ml_X3_73 mi_X3_fail ht rfl rfl (Nat.le_of_ble_eq_true rfl) (Nat.le_of_ble_eq_true rfl) (by omega) rfl rfl (c_X3_fail hz (by omega) a0 5 mem0 _ ht hp50) ?_
    obtain ⟨w53, hw53, h⟩ := Option.bind_eq_some_iff.mp h
    obtain rfl := Option.some.inj h
    exact RT.zret (pc := 53) dX3_yearsLine_53 rfl (rt_bz_ok hw53) (Nat.le_of_eq (rt_cells_0 z)) (Nat.le_of_eq (rt_slots_0 z)) hK
theorem c_X3_yearsLine {G : rt_G} {d : Nat} {z : Nat × Nat} (hz : 300 ≤ z.1) (hd : 2 ≤ d) (a0 : Int) (a1 : Int) (a2 : Int) (mem0 : rt_M) (t : Int × rt_M) (ht : rt_kd a0.toNat = 20 + 3) (h : f_X3_yearsLine a0 a1 a2 mem0 = some t) : RM G M_X3_yearsLine d [(2, a0), (2, a1), (2, a2)] z mem0 (some (0, t.1)) t.2 := by
  suffices H : ∀ Q : rt_P, Q (some (0, t.1)) z t.2 → RT G M_X3_yearsLine d z Q 0 [(2, a0), (2, a1), (2, a2), (9, 0), (9, 0), (9, 0)] [] z mem0 from H _ ⟨rfl, rfl, rfl⟩
  intro Q hK
  unfold f_X3_yearsLine at h
  refine RT.aload_n (pc := 0) (k := 0) (x := a0) dX3_yearsLine_0 rfl ?_
  obtain ⟨p1, hp1, h⟩ := Option.bind_eq_some_iff.mp h
  refine RT.cVz (pc := 1) (M' := M_X3_kind) (ci := 3) (x := a0) (As := []) (st := []) (r := some (2, p1)) (mem1 := mem0) (d' := d - 1) hz dX3_yearsLine_1 mw_X3_kind ml_X3_23 mi_X3_kind ht rfl rfl (Nat.le_of_ble_eq_true rfl) (Nat.le_of_ble_eq_true rfl) (by omega) rfl rfl (c_X3_kind hz (by omega) a0 mem0 _ ht hp1) ?_
  refine RT.astore_n (pc := 4) (k := 3) (x := p1) (L1 := [(2, a0), (2, a1), (2, a2), (2, p1), (9, 0), (9, 0)]) dX3_yearsLine_4 (Nat.le_of_ble_eq_true rfl) rfl ?_
  refine RT.aload_n (pc := 5) (k := 3) (x := p1) dX3_yearsLine_5 rfl ?_
  refine RT.gets 10 (pc := 6) (x := 10) dX3_yearsLine_6 sl_X3_274 rfl ?_
  refine RT.acmp_eq (pc := 9) (tgt := 39) dX3_yearsLine_9 rfl (fun q9 => ?_) (fun q9 => ?_)
  · rw [if_pos q9] at h
    exact cj_X3_yearsLine_39 hz hd ht a1 a2 p1 mem0 _ h hK
  · rw [if_neg q9] at h
    refine RT.aload_n (pc := 12) (k := 3) (x := p1) dX3_yearsLine_12 rfl ?_
    refine RT.gets 11 (pc := 13) (x := 11) dX3_yearsLine_13 sl_X3_277 rfl ?_
    refine RT.acmp_eq (pc := 16) (tgt := 39) dX3_yearsLine_16 rfl (fun q16 => ?_) (fun q16 => ?_)
    · rw [if_pos q16] at h
      exact cj_X3_yearsLine_39 hz hd ht a1 a2 p1 mem0 _ h hK
    · rw [if_neg q16] at h
      refine RT.aload_n (pc := 19) (k := 3) (x := p1) dX3_yearsLine_19 rfl ?_
      refine RT.gets 12 (pc := 20) (x := 12) dX3_yearsLine_20 sl_X3_280 rfl ?_
      refine RT.acmp_eq (pc := 23) (tgt := 39) dX3_yearsLine_23 rfl (fun q23 => ?_) (fun q23 => ?_)
      · rw [if_pos q23] at h
        exact cj_X3_yearsLine_39 hz hd ht a1 a2 p1 mem0 _ h hK
      · rw [if_neg q23] at h
        refine RT.aload_n (pc := 26) (k := 3) (x := p1) dX3_yearsLine_26 rfl ?_
        refine RT.gets 13 (pc := 27) (x := 13) dX3_yearsLine_27 sl_X3_283 rfl ?_
        refine RT.acmp_eq (pc := 30) (tgt := 39) dX3_yearsLine_30 rfl (fun q30 => ?_) (fun q30 => ?_)
        · rw [if_pos q30] at h
          exact cj_X3_yearsLine_39 hz hd ht a1 a2 p1 mem0 _ h hK
        · rw [if_neg q30] at h
          refine RT.aload_n (pc := 33) (k := 0) (x := a0) dX3_yearsLine_33 rfl ?_
          refine RT.iconst (pc := 34) (n := 1) dX3_yearsLine_34 ⟨by decide, by decide⟩ ?_
          obtain ⟨p35, hp35, h⟩ := Option.bind_eq_some_iff.mp h
          refine RT.cVz (pc := 35) (M' := M_X3_fail) (ci := 3) (x := a0) (As := [(0, 1)]) (st := []) (r := some (0, p35.1)) (mem1 := p35.2) (d' := d - 1) hz dX3_yearsLine_35 mw_X3_fail ml_X3_73 mi_X3_fail ht rfl rfl (Nat.le_of_ble_eq_true rfl) (Nat.le_of_ble_eq_true rfl) (by omega) rfl rfl (c_X3_fail hz (by omega) a0 1 mem0 _ ht hp35) ?_
          obtain ⟨w38, hw38, h⟩ := Option.bind_eq_some_iff.mp h
          obtain rfl := Option.some.inj h
          exact RT.zret (pc := 38) dX3_yearsLine_38 rfl (rt_bz_ok hw38) (Nat.le_of_eq (rt_cells_0 z)) (Nat.le_of_eq (rt_slots_0 z)) hK
theorem cb_X3_readYears_11 {G : rt_G} {d : Nat} {z : Nat × Nat} {Q : rt_P} (hz : 300 ≤ z.1) (hd : 4 ≤ d) {a0 : Int} (ht : rt_kd a0.toNat = 20 + 3) (a1 : Int) (a2 : Int) (s : Int × rt_M) (t : (Int × rt_M) ⊕ ((rt_M) ⊕ (Int × rt_M))) (h : b_X3_readYears_11 a0 a1 a2 s = some t) (hK : (∀ s1 : Int × rt_M, t = .inl s1 → RT G M_X3_readYears d z Q 11 [(2, a0), (2, a1), (2, a2), (0, s1.1)] [] z s1.2) ∧ (∀ x1 : rt_M, t = .inr (.inl x1) → RT G M_X3_readYears d z Q 48 [(9, 0), (9, 0), (9, 0), (9, 0)] [] z x1) ∧ (∀ t1 : Int × rt_M, t = .inr (.inr t1) → Q (some (0, t1.1)) z t1.2)) : RT G M_X3_readYears d z Q 11 [(2, a0), (2, a1), (2, a2), (0, s.1)] [] z s.2 := by
  unfold b_X3_readYears_11 at h
  refine RT.iload_n (pc := 11) (k := 3) (x := s.1) dX3_readYears_11 rfl ?_
  refine RT.sipush (pc := 12) (n := 1000) dX3_readYears_12 ⟨by decide, by decide⟩ rfl ?_
  refine RT.icmp_ge (pc := 15) (tgt := 48) dX3_readYears_15 rfl (fun q15 => ?_) (fun q15 => ?_)
  · rw [if_pos q15] at h
    refine RT.wk (L1 := [(9, 0), (9, 0), (9, 0), (9, 0)]) (rt_le_j (rt_le_j (rt_le_j (rt_le_j rt_le_n)))) ?_
    obtain rfl := Option.some.inj h
    have q1 := hK.2.1 s.2 rfl
    try dsimp only at q1
    exact q1
  · rw [if_neg q15] at h
    refine RT.aload_n (pc := 18) (k := 0) (x := a0) dX3_readYears_18 rfl ?_
    obtain ⟨p19, hp19, h⟩ := Option.bind_eq_some_iff.mp h
    refine RT.cVz (pc := 19) (M' := M_X3_kind) (ci := 3) (x := a0) (As := []) (st := []) (r := some (2, p19)) (mem1 := s.2) (d' := d - 1) hz dX3_readYears_19 mw_X3_kind ml_X3_23 mi_X3_kind ht rfl rfl (Nat.le_of_ble_eq_true rfl) (Nat.le_of_ble_eq_true rfl) (by omega) rfl rfl (c_X3_kind hz (by omega) a0 s.2 _ ht hp19) ?_
    refine RT.gets 37 (pc := 22) (x := 37) dX3_readYears_22 sl_X3_27 rfl ?_
    refine RT.acmp_eq (pc := 25) (tgt := 48) dX3_readYears_25 rfl (fun q25 => ?_) (fun q25 => ?_)
    · rw [if_pos q25] at h
      refine RT.wk (L1 := [(9, 0), (9, 0), (9, 0), (9, 0)]) (rt_le_j (rt_le_j (rt_le_j (rt_le_j rt_le_n)))) ?_
      obtain rfl := Option.some.inj h
      have q1 := hK.2.1 s.2 rfl
      try dsimp only at q1
      exact q1
    · rw [if_neg q25] at h
      refine RT.aload_n (pc := 28) (k := 0) (x := a0) dX3_readYears_28 rfl ?_
      refine RT.aload_n (pc := 29) (k := 1) (x := a1) dX3_readYears_29 rfl ?_
      refine RT.aload_n (pc := 30) (k := 2) (x := a2) dX3_readYears_30 rfl ?_
      obtain ⟨p31, hp31, h⟩ := Option.bind_eq_some_iff.mp h
      refine RT.cVz (pc := 31) (M' := M_X3_yearsLine) (ci := 3) (x := a0) (As := [(2, a1), (2, a2)]) (st := []) (r := some (0, p31.1)) (mem1 := p31.2) (d' := d - 1) hz dX3_readYears_31 mw_X3_yearsLine ml_X3_46 mi_X3_yearsLine ht rfl rfl (Nat.le_of_ble_eq_true rfl) (Nat.le_of_ble_eq_true rfl) (by omega) rfl rfl (c_X3_yearsLine hz (by omega) a0 a1 a2 s.2 _ ht hp31) ?_
      refine RT.if_ne (pc := 34) (tgt := 42) dX3_readYears_34 rfl (fun q34 => ?_) (fun q34 => ?_)
      · rw [if_neg q34] at h
        refine RT.iinc (pc := 42) (x := s.1) (L1 := [(2, a0), (2, a1), (2, a2), (0, (rt_iadd s.1 1))]) dX3_readYears_42 rfl (Nat.le_of_ble_eq_true rfl) ⟨by decide, by decide⟩ rfl ?_
        refine RT.goto (pc := 45) (tgt := 11) dX3_readYears_45 rfl ?_
        obtain rfl := Option.some.inj h
        have q1 := hK.1 (((rt_iadd s.1 1), p31.2)) rfl
        try dsimp only at q1
        exact q1
      · rw [if_pos (Classical.not_not.mp q34)] at h
        obtain ⟨t2, g2, e2⟩ := Option.map_eq_some_iff.mp h
        subst e2
        replace h := g2
        replace hK := hK.2.2 t2 rfl
        refine RT.aload_n (pc := 37) (k := 0) (x := a0) dX3_readYears_37 rfl ?_
        obtain ⟨v38, hv38, h⟩ := Option.bind_eq_some_iff.mp h
        refine RT.gf 3 2 0 (pc := 38) (x := a0) (v := v38) hz dX3_readYears_38 fl_X3_37 rfl hv38 ?_
        obtain rfl := Option.some.inj h
        exact RT.iret (pc := 41) dX3_readYears_41 rfl (Nat.le_of_eq (rt_cells_0 z)) (Nat.le_of_eq (rt_slots_0 z)) hK
theorem c_X3_readYears {G : rt_G} {d : Nat} {z : Nat × Nat} (hz : 300 ≤ z.1) (hd : 4 ≤ d) (a0 : Int) (a1 : Int) (a2 : Int) (mem0 : rt_M) (t : Int × rt_M) (ht : rt_kd a0.toNat = 20 + 3) (h : f_X3_readYears a0 a1 a2 mem0 = some t) : RM G M_X3_readYears d [(2, a0), (2, a1), (2, a2)] z mem0 (some (0, t.1)) t.2 := by
  suffices H : ∀ Q : rt_P, Q (some (0, t.1)) z t.2 → RT G M_X3_readYears d z Q 0 [(2, a0), (2, a1), (2, a2), (9, 0)] [] z mem0 from H _ ⟨rfl, rfl, rfl⟩
  intro Q hK
  unfold f_X3_readYears at h
  refine RT.aload_n (pc := 0) (k := 0) (x := a0) dX3_readYears_0 rfl ?_
  obtain ⟨p1, hp1, h⟩ := Option.bind_eq_some_iff.mp h
  refine RT.cVz (pc := 1) (M' := M_X3_start) (ci := 3) (x := a0) (As := []) (st := []) (r := none) (mem1 := p1) (d' := d - 1) hz dX3_readYears_1 mw_X3_start ml_X3_15 mi_X3_start ht rfl rfl (Nat.le_of_ble_eq_true rfl) (Nat.le_of_ble_eq_true rfl) (by omega) rfl rfl (c_X3_start hz (by omega) a0 mem0 _ ht hp1) ?_
  refine RT.aload_n (pc := 4) (k := 2) (x := a2) dX3_readYears_4 rfl ?_
  refine RT.iconst (pc := 5) (n := 0) dX3_readYears_5 ⟨by decide, by decide⟩ ?_
  obtain ⟨m6, hm6, h⟩ := Option.bind_eq_some_iff.mp h
  refine RT.pf_i 10 0 (pc := 6) (mem1 := m6) hz dX3_readYears_6 fl_X3_41 rfl rfl rfl hm6 ?_
  refine RT.iconst (pc := 9) (n := 0) dX3_readYears_9 ⟨by decide, by decide⟩ ?_
  refine RT.istore_n (pc := 10) (k := 3) (x := 0) (L1 := [(2, a0), (2, a1), (2, a2), (0, 0)]) dX3_readYears_10 (Nat.le_of_ble_eq_true rfl) rfl ?_
  obtain ⟨E11, hE11, h⟩ := Option.bind_eq_some_iff.mp h
  refine rt_it_ind (P := (fun s1 : Int × rt_M => RT G M_X3_readYears d z Q 11 [(2, a0), (2, a1), (2, a2), (0, s1.1)] [] z s1.2)) (X := (fun e1 : (rt_M) ⊕ (Int × rt_M) => (∀ x1 : rt_M, e1 = .inl x1 → RT G M_X3_readYears d z Q 48 [(9, 0), (9, 0), (9, 0), (9, 0)] [] z x1) ∧ (∀ t1 : Int × rt_M, e1 = .inr t1 → Q (some (0, t1.1)) z t1.2))) (fun s1 t1 h1 k1 k2 => cb_X3_readYears_11 hz hd ht a1 a2 s1 t1 h1 ⟨k1, fun x1 q => (k2 _ q).1 x1 rfl, fun t2 q => (k2 _ q).2 t2 rfl⟩) 4000 ((0, m6)) E11 hE11 ?_
  cases E11 with
  | inr t1 =>
    obtain rfl := Option.some.inj h
    exact ⟨fun x1 q => (by cases q), fun t2 q => (by cases q; exact hK)⟩
  | inl X11 =>
    refine ⟨fun x1 q => ?_, fun t2 q => (by cases q)⟩
    cases q
    refine RT.iconst (pc := 48) (n := 0) dX3_readYears_48 ⟨by decide, by decide⟩ ?_
    obtain rfl := Option.some.inj h
    exact RT.iret (pc := 49) dX3_readYears_49 rfl (Nat.le_of_eq (rt_cells_0 z)) (Nat.le_of_eq (rt_slots_0 z)) hK
theorem c_X4_leanOfWig {G : rt_G} {d : Nat} {z : Nat × Nat} (hz : 300 ≤ z.1) (hd : 2 ≤ d) (a0 : Int) (a1 : Int) (mem0 : rt_M) (t : Int) (ht : rt_kd a0.toNat = 20 + 4) (h : f_X4_leanOfWig a0 a1 mem0 = some t) : RM G M_X4_leanOfWig d [(2, a0), (0, a1)] z mem0 (some (0, t)) mem0 := by
  suffices H : ∀ Q : rt_P, Q (some (0, t)) z mem0 → RT G M_X4_leanOfWig d z Q 0 [(2, a0), (0, a1)] [] z mem0 from H _ ⟨rfl, rfl, rfl⟩
  intro Q hK
  unfold f_X4_leanOfWig at h
  refine RT.aload_n (pc := 0) (k := 0) (x := a0) dX4_leanOfWig_0 rfl ?_
  refine RT.iload_n (pc := 1) (k := 1) (x := a1) dX4_leanOfWig_1 rfl ?_
  refine RT.iconst (pc := 2) (n := 2) dX4_leanOfWig_2 ⟨by decide, by decide⟩ ?_
  obtain ⟨p3, hp3, h⟩ := Option.bind_eq_some_iff.mp h
  refine RT.cVz (pc := 3) (M' := M_X4_ofWig) (ci := 4) (x := a0) (As := [(0, a1), (0, 2)]) (st := []) (r := some (0, p3)) (mem1 := mem0) (d' := d - 1) hz dX4_leanOfWig_3 mw_X4_ofWig ml_X4_94 mi_X4_ofWig ht rfl rfl (Nat.le_of_ble_eq_true rfl) (Nat.le_of_ble_eq_true rfl) (by omega) rfl rfl (c_X4_ofWig hz (by omega) a0 a1 2 mem0 _ ht hp3) ?_
  obtain rfl := Option.some.inj h
  exact RT.iret (pc := 6) dX4_leanOfWig_6 rfl (Nat.le_of_eq (rt_cells_0 z)) (Nat.le_of_eq (rt_slots_0 z)) hK
theorem cj_X4_officeOfAll_29_4 {G : rt_G} {d : Nat} {z : Nat × Nat} {Q : rt_P} (hz : 300 ≤ z.1) (hd : 3 ≤ d) {a0 : Int} (ht : rt_kd a0.toNat = 20 + 4) (a1 : Int) (a2 : Int) (a3 : Int) (mem0 : rt_M) (t : (Int × Int) ⊕ (Int)) (h : j_X4_officeOfAll_29_4 a0 a1 a2 a3 mem0 = some t) (hK : (∀ s1 : Int × Int, t = .inl s1 → RT G M_X4_officeOfAll d z Q 4 [(2, a0), (0, a1), (0, s1.1), (0, s1.2)] [] z mem0) ∧ (∀ x1 : Int, t = .inr x1 → RT G M_X4_officeOfAll d z Q 35 [(9, 0), (9, 0), (0, x1), (9, 0)] [] z mem0)) : RT G M_X4_officeOfAll d z Q 29 [(2, a0), (0, a1), (0, a2), (0, a3)] [] z mem0 := by
  unfold j_X4_officeOfAll_29_4 at h
  refine RT.iinc (pc := 29) (x := a3) (L1 := [(2, a0), (0, a1), (0, a2), (0, (rt_iadd a3 1))]) dX4_officeOfAll_29 rfl (Nat.le_of_ble_eq_true rfl) ⟨by decide, by decide⟩ rfl ?_
  refine RT.goto (pc := 32) (tgt := 4) dX4_officeOfAll_32 rfl ?_
  obtain rfl := Option.some.inj h
  have q1 := hK.1 ((a2, (rt_iadd a3 1))) rfl
  try dsimp only at q1
  exact q1
theorem cb_X4_officeOfAll_4 {G : rt_G} {d : Nat} {z : Nat × Nat} {Q : rt_P} (hz : 300 ≤ z.1) (hd : 3 ≤ d) {a0 : Int} (ht : rt_kd a0.toNat = 20 + 4) (a1 : Int) (mem0 : rt_M) (s : Int × Int) (t : (Int × Int) ⊕ (Int)) (h : b_X4_officeOfAll_4 a0 a1 mem0 s = some t) (hK : (∀ s1 : Int × Int, t = .inl s1 → RT G M_X4_officeOfAll d z Q 4 [(2, a0), (0, a1), (0, s1.1), (0, s1.2)] [] z mem0) ∧ (∀ x1 : Int, t = .inr x1 → RT G M_X4_officeOfAll d z Q 35 [(9, 0), (9, 0), (0, x1), (9, 0)] [] z mem0)) : RT G M_X4_officeOfAll d z Q 4 [(2, a0), (0, a1), (0, s.1), (0, s.2)] [] z mem0 := by
  unfold b_X4_officeOfAll_4 at h
  refine RT.iload_n (pc := 4) (k := 3) (x := s.2) dX4_officeOfAll_4 rfl ?_
  refine RT.aload_n (pc := 5) (k := 0) (x := a0) dX4_officeOfAll_5 rfl ?_
  obtain ⟨v6, hv6, h⟩ := Option.bind_eq_some_iff.mp h
  refine RT.gf 4 0 0 (pc := 6) (x := a0) (v := v6) hz dX4_officeOfAll_6 fl_X4_67 rfl hv6 ?_
  refine RT.icmp_ge (pc := 9) (tgt := 35) dX4_officeOfAll_9 rfl (fun q9 => ?_) (fun q9 => ?_)
  · rw [if_pos q9] at h
    refine RT.wk (L1 := [(9, 0), (9, 0), (0, s.1), (9, 0)]) (rt_le_j (rt_le_j (rt_le_s (rt_le_j rt_le_n)))) ?_
    obtain rfl := Option.some.inj h
    have q1 := hK.2 s.1 rfl
    try dsimp only at q1
    exact q1
  · rw [if_neg q9] at h
    refine RT.iload_n (pc := 12) (k := 1) (x := a1) dX4_officeOfAll_12 rfl ?_
    refine RT.iload_n (pc := 13) (k := 3) (x := s.2) dX4_officeOfAll_13 rfl ?_
    refine RT.ishr (pc := 14) dX4_officeOfAll_14 ?_
    refine RT.iconst (pc := 15) (n := 1) dX4_officeOfAll_15 ⟨by decide, by decide⟩ ?_
    refine RT.iand (pc := 16) dX4_officeOfAll_16 ?_
    refine RT.iconst (pc := 17) (n := 1) dX4_officeOfAll_17 ⟨by decide, by decide⟩ ?_
    refine RT.icmp_ne (pc := 18) (tgt := 29) dX4_officeOfAll_18 rfl (fun q18 => ?_) (fun q18 => ?_)
    · rw [if_neg q18] at h
      exact cj_X4_officeOfAll_29_4 hz hd ht a1 s.1 s.2 mem0 _ h hK
    · rw [if_pos (Classical.not_not.mp q18)] at h
      refine RT.iload_n (pc := 21) (k := 2) (x := s.1) dX4_officeOfAll_21 rfl ?_
      refine RT.aload_n (pc := 22) (k := 0) (x := a0) dX4_officeOfAll_22 rfl ?_
      refine RT.iload_n (pc := 23) (k := 3) (x := s.2) dX4_officeOfAll_23 rfl ?_
      obtain ⟨p24, hp24, h⟩ := Option.bind_eq_some_iff.mp h
      refine RT.cVz (pc := 24) (M' := M_X4_officeOf) (ci := 4) (x := a0) (As := [(0, s.2)]) (st := [(0, s.1)]) (r := some (0, p24)) (mem1 := mem0) (d' := d - 1) hz dX4_officeOfAll_24 mw_X4_officeOf ml_X4_98 mi_X4_officeOf ht rfl rfl (Nat.le_of_ble_eq_true rfl) (Nat.le_of_ble_eq_true rfl) (by omega) rfl rfl (c_X4_officeOf hz (by omega) a0 s.2 mem0 _ ht hp24) ?_
      refine RT.iadd (pc := 27) dX4_officeOfAll_27 ?_
      refine RT.istore_n (pc := 28) (k := 2) (x := (rt_iadd s.1 p24)) (L1 := [(2, a0), (0, a1), (0, (rt_iadd s.1 p24)), (0, s.2)]) dX4_officeOfAll_28 (Nat.le_of_ble_eq_true rfl) rfl ?_
      exact cj_X4_officeOfAll_29_4 hz hd ht a1 ((rt_iadd s.1 p24)) s.2 mem0 _ h hK
theorem c_X4_officeOfAll {G : rt_G} {d : Nat} {z : Nat × Nat} (hz : 300 ≤ z.1) (hd : 3 ≤ d) (a0 : Int) (a1 : Int) (mem0 : rt_M) (t : Int) (ht : rt_kd a0.toNat = 20 + 4) (h : f_X4_officeOfAll a0 a1 mem0 = some t) : RM G M_X4_officeOfAll d [(2, a0), (0, a1)] z mem0 (some (0, t)) mem0 := by
  suffices H : ∀ Q : rt_P, Q (some (0, t)) z mem0 → RT G M_X4_officeOfAll d z Q 0 [(2, a0), (0, a1), (9, 0), (9, 0)] [] z mem0 from H _ ⟨rfl, rfl, rfl⟩
  intro Q hK
  unfold f_X4_officeOfAll at h
  refine RT.iconst (pc := 0) (n := 0) dX4_officeOfAll_0 ⟨by decide, by decide⟩ ?_
  refine RT.istore_n (pc := 1) (k := 2) (x := 0) (L1 := [(2, a0), (0, a1), (0, 0), (9, 0)]) dX4_officeOfAll_1 (Nat.le_of_ble_eq_true rfl) rfl ?_
  refine RT.iconst (pc := 2) (n := 0) dX4_officeOfAll_2 ⟨by decide, by decide⟩ ?_
  refine RT.istore_n (pc := 3) (k := 3) (x := 0) (L1 := [(2, a0), (0, a1), (0, 0), (0, 0)]) dX4_officeOfAll_3 (Nat.le_of_ble_eq_true rfl) rfl ?_
  obtain ⟨X4, hX4, h⟩ := Option.bind_eq_some_iff.mp h
  refine rt_it_ind (P := (fun s1 : Int × Int => RT G M_X4_officeOfAll d z Q 4 [(2, a0), (0, a1), (0, s1.1), (0, s1.2)] [] z mem0)) (X := (fun x1 : Int => RT G M_X4_officeOfAll d z Q 35 [(9, 0), (9, 0), (0, x1), (9, 0)] [] z mem0)) (fun s1 t1 h1 k1 k2 => cb_X4_officeOfAll_4 hz hd ht a1 mem0 s1 t1 h1 ⟨k1, k2⟩) 4000 ((0, 0)) X4 hX4 ?_
  refine RT.iload_n (pc := 35) (k := 2) (x := X4) dX4_officeOfAll_35 rfl ?_
  obtain rfl := Option.some.inj h
  exact RT.iret (pc := 36) dX4_officeOfAll_36 rfl (Nat.le_of_eq (rt_cells_0 z)) (Nat.le_of_eq (rt_slots_0 z)) hK
theorem c_X4_isFit {G : rt_G} {d : Nat} {z : Nat × Nat} (hz : 300 ≤ z.1) (hd : 3 ≤ d) (a0 : Int) (a1 : Int) (a2 : Int) (a3 : Int) (mem0 : rt_M) (t : Int × rt_M) (ht : rt_kd a0.toNat = 20 + 4) (h : f_X4_isFit a0 a1 a2 a3 mem0 = some t) : RM G M_X4_isFit d [(2, a0), (0, a1), (0, a2), (0, a3)] z mem0 (some (0, t.1)) t.2 := by
  suffices H : ∀ Q : rt_P, Q (some (0, t.1)) z t.2 → RT G M_X4_isFit d z Q 0 [(2, a0), (0, a1), (0, a2), (0, a3)] [] z mem0 from H _ ⟨rfl, rfl, rfl⟩
  intro Q hK
  unfold f_X4_isFit at h
  refine RT.aload_n (pc := 0) (k := 0) (x := a0) dX4_isFit_0 rfl ?_
  refine RT.aload_n (pc := 1) (k := 0) (x := a0) dX4_isFit_1 rfl ?_
  refine RT.iload_n (pc := 2) (k := 1) (x := a1) dX4_isFit_2 rfl ?_
  obtain ⟨p3, hp3, h⟩ := Option.bind_eq_some_iff.mp h
  refine RT.cVz (pc := 3) (M' := M_X4_sizeOfWig) (ci := 4) (x := a0) (As := [(0, a1)]) (st := [(2, a0)]) (r := some (0, p3)) (mem1 := mem0) (d' := d - 1) hz dX4_isFit_3 mw_X4_sizeOfWig ml_X4_126 mi_X4_sizeOfWig ht rfl rfl (Nat.le_of_ble_eq_true rfl) (Nat.le_of_ble_eq_true rfl) (by omega) rfl rfl (c_X4_sizeOfWig hz (by omega) a0 a1 mem0 _ ht hp3) ?_
  refine RT.aload_n (pc := 6) (k := 0) (x := a0) dX4_isFit_6 rfl ?_
  refine RT.iload_n (pc := 7) (k := 2) (x := a2) dX4_isFit_7 rfl ?_
  refine RT.iload_n (pc := 8) (k := 3) (x := a3) dX4_isFit_8 rfl ?_
  obtain ⟨p9, hp9, h⟩ := Option.bind_eq_some_iff.mp h
  refine RT.cVz (pc := 9) (M' := M_X4_girth) (ci := 4) (x := a0) (As := [(0, a2), (0, a3)]) (st := [(0, p3), (2, a0)]) (r := some (0, p9.1)) (mem1 := p9.2) (d' := d - 1) hz dX4_isFit_9 mw_X4_girth ml_X4_129 mi_X4_girth ht rfl rfl (Nat.le_of_ble_eq_true rfl) (Nat.le_of_ble_eq_true rfl) (by omega) rfl rfl (c_X4_girth hz (by omega) a0 a2 a3 mem0 _ ht hp9) ?_
  refine RT.isub (pc := 12) dX4_isFit_12 ?_
  obtain ⟨p13, hp13, h⟩ := Option.bind_eq_some_iff.mp h
  refine RT.cVz (pc := 13) (M' := M_X4_isTilt) (ci := 4) (x := a0) (As := [(0, (rt_isub p3 p9.1))]) (st := []) (r := some (0, p13)) (mem1 := p9.2) (d' := d - 1) hz dX4_isFit_13 mw_X4_isTilt ml_X4_132 mi_X4_isTilt ht rfl rfl (Nat.le_of_ble_eq_true rfl) (Nat.le_of_ble_eq_true rfl) (by omega) rfl rfl (c_X4_isTilt hz (by omega) a0 ((rt_isub p3 p9.1)) p9.2 _ ht hp13) ?_
  obtain ⟨w16, hw16, h⟩ := Option.bind_eq_some_iff.mp h
  obtain rfl := Option.some.inj h
  exact RT.zret (pc := 16) dX4_isFit_16 rfl (rt_bz_ok hw16) (Nat.le_of_eq (rt_cells_0 z)) (Nat.le_of_eq (rt_slots_0 z)) hK
theorem cj_X4_isFor_56 {G : rt_G} {d : Nat} {z : Nat × Nat} {Q : rt_P} (hz : 300 ≤ z.1) (hd : 2 ≤ d) {a0 : Int} (ht : rt_kd a0.toNat = 20 + 4) (s0 : Int) (mem0 : rt_M) (t : Int × rt_M) (h : j_X4_isFor_56 s0 mem0 = some t) (hK : Q (some (0, t.1)) z t.2) : RT G M_X4_isFor d z Q 56 [(9, 0), (9, 0), (9, 0), (9, 0), (9, 0)] [(0, s0)] z mem0 := by
  unfold j_X4_isFor_56 at h
  obtain ⟨w56, hw56, h⟩ := Option.bind_eq_some_iff.mp h
  obtain rfl := Option.some.inj h
  exact RT.zret (pc := 56) dX4_isFor_56 rfl (rt_bz_ok hw56) (Nat.le_of_eq (rt_cells_0 z)) (Nat.le_of_eq (rt_slots_0 z)) hK
theorem c_X4_isFor {G : rt_G} {d : Nat} {z : Nat × Nat} (hz : 300 ≤ z.1) (hd : 2 ≤ d) (a0 : Int) (a1 : Int) (a2 : Int) (a3 : Int) (mem0 : rt_M) (t : Int × rt_M) (ht : rt_kd a0.toNat = 20 + 4) (h : f_X4_isFor a0 a1 a2 a3 mem0 = some t) : RM G M_X4_isFor d [(2, a0), (0, a1), (0, a2), (0, a3)] z mem0 (some (0, t.1)) t.2 := by
  suffices H : ∀ Q : rt_P, Q (some (0, t.1)) z t.2 → RT G M_X4_isFor d z Q 0 [(2, a0), (0, a1), (0, a2), (0, a3), (9, 0)] [] z mem0 from H _ ⟨rfl, rfl, rfl⟩
  intro Q hK
  unfold f_X4_isFor at h
  refine RT.aload_n (pc := 0) (k := 0) (x := a0) dX4_isFor_0 rfl ?_
  refine RT.iload_n (pc := 1) (k := 2) (x := a2) dX4_isFor_1 rfl ?_
  refine RT.iconst (pc := 2) (n := 3) dX4_isFor_2 ⟨by decide, by decide⟩ ?_
  obtain ⟨p3, hp3, h⟩ := Option.bind_eq_some_iff.mp h
  refine RT.cVz (pc := 3) (M' := M_X4_ofHead) (ci := 4) (x := a0) (As := [(0, a2), (0, 3)]) (st := []) (r := some (0, p3)) (mem1 := mem0) (d' := d - 1) hz dX4_isFor_3 mw_X4_ofHead ml_X4_107 mi_X4_ofHead ht rfl rfl (Nat.le_of_ble_eq_true rfl) (Nat.le_of_ble_eq_true rfl) (by omega) rfl rfl (c_X4_ofHead hz (by omega) a0 a2 3 mem0 _ ht hp3) ?_
  refine RT.istore (pc := 6) (k := 4) (x := p3) (L1 := [(2, a0), (0, a1), (0, a2), (0, a3), (0, p3)]) dX4_isFor_6 (Nat.le_of_ble_eq_true rfl) rfl ?_
  refine RT.aload_n (pc := 8) (k := 0) (x := a0) dX4_isFor_8 rfl ?_
  obtain ⟨v9, hv9, h⟩ := Option.bind_eq_some_iff.mp h
  refine RT.gf 4 11 2 (pc := 9) (x := a0) (v := v9) hz dX4_isFor_9 fl_X4_64 rfl hv9 ?_
  obtain ⟨v12, hv12, h⟩ := Option.bind_eq_some_iff.mp h
  refine RT.gf 2 6 0 (pc := 12) (x := v9) (v := v12) hz dX4_isFor_12 fl_X4_113 rfl hv12 ?_
  refine RT.if_eq (pc := 15) (tgt := 40) dX4_isFor_15 rfl (fun q15 => ?_) (fun q15 => ?_)
  · rw [if_pos q15] at h
    refine RT.iload_n (pc := 40) (k := 1) (x := a1) dX4_isFor_40 rfl ?_
    refine RT.iload_n (pc := 41) (k := 3) (x := a3) dX4_isFor_41 rfl ?_
    refine RT.imul (pc := 42) dX4_isFor_42 ?_
    refine RT.iload (pc := 43) (k := 4) (x := p3) dX4_isFor_43 rfl ?_
    refine RT.bipush (pc := 45) (n := 9) dX4_isFor_45 ⟨by decide, by decide⟩ rfl ?_
    refine RT.imul (pc := 47) dX4_isFor_47 ?_
    refine RT.icmp_ge (pc := 48) (tgt := 55) dX4_isFor_48 rfl (fun q48 => ?_) (fun q48 => ?_)
    · rw [if_pos q48] at h
      refine RT.iconst (pc := 55) (n := 0) dX4_isFor_55 ⟨by decide, by decide⟩ ?_
      refine RT.wk (L1 := [(9, 0), (9, 0), (9, 0), (9, 0), (9, 0)]) (rt_le_j (rt_le_j (rt_le_j (rt_le_j (rt_le_j rt_le_n))))) ?_
      exact cj_X4_isFor_56 hz hd ht 0 mem0 _ h hK
    · rw [if_neg q48] at h
      refine RT.iconst (pc := 51) (n := 1) dX4_isFor_51 ⟨by decide, by decide⟩ ?_
      refine RT.goto (pc := 52) (tgt := 56) dX4_isFor_52 rfl ?_
      refine RT.wk (L1 := [(9, 0), (9, 0), (9, 0), (9, 0), (9, 0)]) (rt_le_j (rt_le_j (rt_le_j (rt_le_j (rt_le_j rt_le_n))))) ?_
      exact cj_X4_isFor_56 hz hd ht 1 mem0 _ h hK
  · rw [if_neg q15] at h
    refine RT.aload_n (pc := 18) (k := 0) (x := a0) dX4_isFor_18 rfl ?_
    obtain ⟨v19, hv19, h⟩ := Option.bind_eq_some_iff.mp h
    refine RT.gf 4 11 2 (pc := 19) (x := a0) (v := v19) hz dX4_isFor_19 fl_X4_64 rfl hv19 ?_
    refine RT.iload_n (pc := 22) (k := 1) (x := a1) dX4_isFor_22 rfl ?_
    refine RT.iload (pc := 23) (k := 4) (x := p3) dX4_isFor_23 rfl ?_
    refine RT.iload_n (pc := 25) (k := 3) (x := a3) dX4_isFor_25 rfl ?_
    obtain ⟨p26, hp26, h⟩ := Option.bind_eq_some_iff.mp h
    obtain ⟨hk26, hp26⟩ := rt_gd_some hp26
    refine RT.cVz (pc := 26) (M' := M_X2_worth) (ci := 2) (x := v19) (As := [(0, a1), (0, p3), (0, a3)]) (st := []) (r := some (0, p26.1)) (mem1 := p26.2) (d' := d - 1) hz dX4_isFor_26 mw_X2_worth ml_X4_116 mi_X2_worth hk26 rfl rfl (Nat.le_of_ble_eq_true rfl) (Nat.le_of_ble_eq_true rfl) (by omega) rfl rfl (c_X2_worth hz (by omega) v19 a1 p3 a3 mem0 _ hk26 hp26) ?_
    refine RT.if_eq (pc := 29) (tgt := 36) dX4_isFor_29 rfl (fun q29 => ?_) (fun q29 => ?_)
    · rw [if_pos q29] at h
      refine RT.iconst (pc := 36) (n := 0) dX4_isFor_36 ⟨by decide, by decide⟩ ?_
      refine RT.goto (pc := 37) (tgt := 56) dX4_isFor_37 rfl ?_
      refine RT.wk (L1 := [(9, 0), (9, 0), (9, 0), (9, 0), (9, 0)]) (rt_le_j (rt_le_j (rt_le_j (rt_le_j (rt_le_j rt_le_n))))) ?_
      exact cj_X4_isFor_56 hz hd ht 0 p26.2 _ h hK
    · rw [if_neg q29] at h
      refine RT.iconst (pc := 32) (n := 1) dX4_isFor_32 ⟨by decide, by decide⟩ ?_
      refine RT.goto (pc := 33) (tgt := 56) dX4_isFor_33 rfl ?_
      refine RT.wk (L1 := [(9, 0), (9, 0), (9, 0), (9, 0), (9, 0)]) (rt_le_j (rt_le_j (rt_le_j (rt_le_j (rt_le_j rt_le_n))))) ?_
      exact cj_X4_isFor_56 hz hd ht 1 p26.2 _ h hK
theorem cb_X5_begin_21 {G : rt_G} {d : Nat} {z : Nat × Nat} {Q : rt_P} (hz : 300 ≤ z.1) (hd : 1 ≤ d) {a0 : Int} (ht : rt_kd a0.toNat = 20 + 5) (s : Int × rt_M) (t : (Int × rt_M) ⊕ (rt_M)) (h : b_X5_begin_21 a0 s = some t) (hK : (∀ s1 : Int × rt_M, t = .inl s1 → RT G M_X5_begin d z Q 21 [(2, a0), (9, 0), (9, 0), (0, s1.1)] [] z s1.2) ∧ (∀ x1 : rt_M, t = .inr x1 → RT G M_X5_begin d z Q 47 [(9, 0), (9, 0), (9, 0), (9, 0)] [] z x1)) : RT G M_X5_begin d z Q 21 [(2, a0), (9, 0), (9, 0), (0, s.1)] [] z s.2 := by
  unfold b_X5_begin_21 at h
  refine RT.iload_n (pc := 21) (k := 3) (x := s.1) dX5_begin_21 rfl ?_
  refine RT.bipush (pc := 22) (n := 6) dX5_begin_22 ⟨by decide, by decide⟩ rfl ?_
  refine RT.icmp_ge (pc := 24) (tgt := 47) dX5_begin_24 rfl (fun q24 => ?_) (fun q24 => ?_)
  · rw [if_pos q24] at h
    refine RT.wk (L1 := [(9, 0), (9, 0), (9, 0), (9, 0)]) (rt_le_j (rt_le_s (rt_le_s (rt_le_j rt_le_n)))) ?_
    obtain rfl := Option.some.inj h
    have q1 := hK.2 s.2 rfl
    try dsimp only at q1
    exact q1
  · rw [if_neg q24] at h
    refine RT.aload_n (pc := 27) (k := 0) (x := a0) dX5_begin_27 rfl ?_
    obtain ⟨v28, hv28, h⟩ := Option.bind_eq_some_iff.mp h
    refine RT.gf 5 2 2 (pc := 28) (x := a0) (v := v28) hz dX5_begin_28 fl_X5_9 rfl hv28 ?_
    refine RT.iload_n (pc := 31) (k := 3) (x := s.1) dX5_begin_31 rfl ?_
    refine RT.iconst (pc := 32) (n := 0) dX5_begin_32 ⟨by decide, by decide⟩ ?_
    obtain ⟨m33, hm33, h⟩ := Option.bind_eq_some_iff.mp h
    refine RT.iast (pc := 33) (x := v28) (i := s.1) (v := 0) (mem1 := m33) dX5_begin_33 (rt_lts hz (by decide) (by decide) hm33) hm33 ?_
    refine RT.aload_n (pc := 34) (k := 0) (x := a0) dX5_begin_34 rfl ?_
    obtain ⟨v35, hv35, h⟩ := Option.bind_eq_some_iff.mp h
    refine RT.gf 5 5 2 (pc := 35) (x := a0) (v := v35) hz dX5_begin_35 fl_X5_23 rfl hv35 ?_
    refine RT.iload_n (pc := 38) (k := 3) (x := s.1) dX5_begin_38 rfl ?_
    refine RT.iconst (pc := 39) (n := (-1)) dX5_begin_39 ⟨by decide, by decide⟩ ?_
    obtain ⟨m40, hm40, h⟩ := Option.bind_eq_some_iff.mp h
    refine RT.iast (pc := 40) (x := v35) (i := s.1) (v := (-1)) (mem1 := m40) dX5_begin_40 (rt_lts hz (by decide) (by decide) hm40) hm40 ?_
    refine RT.iinc (pc := 41) (x := s.1) (L1 := [(2, a0), (9, 0), (9, 0), (0, (rt_iadd s.1 1))]) dX5_begin_41 rfl (Nat.le_of_ble_eq_true rfl) ⟨by decide, by decide⟩ rfl ?_
    refine RT.goto (pc := 44) (tgt := 21) dX5_begin_44 rfl ?_
    obtain rfl := Option.some.inj h
    have q1 := hK.1 (((rt_iadd s.1 1), m40)) rfl
    try dsimp only at q1
    exact q1
theorem c_X5_begin {G : rt_G} {d : Nat} {z : Nat × Nat} (hz : 300 ≤ z.1) (hd : 1 ≤ d) (a0 : Int) (a1 : Int) (a2 : Int) (mem0 : rt_M) (t : rt_M) (ht : rt_kd a0.toNat = 20 + 5) (h : f_X5_begin a0 a1 a2 mem0 = some t) : RM G M_X5_begin d [(2, a0), (0, a1), (0, a2)] z mem0 none t := by
  suffices H : ∀ Q : rt_P, Q none z t → RT G M_X5_begin d z Q 0 [(2, a0), (0, a1), (0, a2), (9, 0)] [] z mem0 from H _ ⟨rfl, rfl, rfl⟩
  intro Q hK
  unfold f_X5_begin at h
  refine RT.aload_n (pc := 0) (k := 0) (x := a0) dX5_begin_0 rfl ?_
  refine RT.iconst (pc := 1) (n := 0) dX5_begin_1 ⟨by decide, by decide⟩ ?_
  refine RT.bipush (pc := 2) (n := 6) dX5_begin_2 ⟨by decide, by decide⟩ rfl ?_
  refine RT.iload_n (pc := 4) (k := 1) (x := a1) dX5_begin_4 rfl ?_
  obtain ⟨p5, hp5, h⟩ := Option.bind_eq_some_iff.mp h
  refine RT.cSz (pc := 5) (M' := M_J9_min_7cf53) (As := [(0, 6), (0, a1)]) (st := [(0, 0), (2, a0)]) (r := some (0, p5)) (mem1 := mem0) (d' := d - 1) dX5_begin_5 mw_J9_min_7cf53 ml_X5_26 mi_J9_min_7cf53 rfl rfl (Nat.le_of_ble_eq_true rfl) (Nat.le_of_ble_eq_true rfl) (by omega) rfl rfl (c_J9_min_7cf53 hz (by omega) 6 a1 mem0 _ hp5) ?_
  obtain ⟨p8, hp8, h⟩ := Option.bind_eq_some_iff.mp h
  refine RT.cSz (pc := 8) (M' := M_J9_max_7cf53) (As := [(0, 0), (0, p5)]) (st := [(2, a0)]) (r := some (0, p8)) (mem1 := mem0) (d' := d - 1) dX5_begin_8 mw_J9_max_7cf53 ml_X5_32 mi_J9_max_7cf53 rfl rfl (Nat.le_of_ble_eq_true rfl) (Nat.le_of_ble_eq_true rfl) (by omega) rfl rfl (c_J9_max_7cf53 hz (by omega) 0 p5 mem0 _ hp8) ?_
  obtain ⟨m11, hm11, h⟩ := Option.bind_eq_some_iff.mp h
  refine RT.pf_i 5 0 (pc := 11) (mem1 := m11) hz dX5_begin_11 fl_X5_35 rfl rfl rfl hm11 ?_
  refine RT.aload_n (pc := 14) (k := 0) (x := a0) dX5_begin_14 rfl ?_
  refine RT.iload_n (pc := 15) (k := 2) (x := a2) dX5_begin_15 rfl ?_
  obtain ⟨w16, hw16, h⟩ := Option.bind_eq_some_iff.mp h
  obtain ⟨m16, hm16, h⟩ := Option.bind_eq_some_iff.mp h
  refine RT.pf_z 5 1 (pc := 16) (mem1 := m16) hz dX5_begin_16 fl_X5_39 rfl rfl rfl (rt_bz_ok hw16) hm16 ?_
  refine RT.iconst (pc := 19) (n := 0) dX5_begin_19 ⟨by decide, by decide⟩ ?_
  refine RT.istore_n (pc := 20) (k := 3) (x := 0) (L1 := [(2, a0), (0, a1), (0, a2), (0, 0)]) dX5_begin_20 (Nat.le_of_ble_eq_true rfl) rfl ?_
  refine RT.wk (L1 := [(2, a0), (9, 0), (9, 0), (0, 0)]) (rt_le_s (rt_le_j (rt_le_j (rt_le_s rt_le_n)))) ?_
  obtain ⟨X21, hX21, h⟩ := Option.bind_eq_some_iff.mp h
  refine rt_it_ind (P := (fun s1 : Int × rt_M => RT G M_X5_begin d z Q 21 [(2, a0), (9, 0), (9, 0), (0, s1.1)] [] z s1.2)) (X := (fun x1 : rt_M => RT G M_X5_begin d z Q 47 [(9, 0), (9, 0), (9, 0), (9, 0)] [] z x1)) (fun s1 t1 h1 k1 k2 => cb_X5_begin_21 hz hd ht s1 t1 h1 ⟨k1, k2⟩) 4000 ((0, m16)) X21 hX21 ?_
  obtain rfl := Option.some.inj h
  exact RT.vret (pc := 47) dX5_begin_47 rfl (Nat.le_of_eq (rt_cells_0 z)) (Nat.le_of_eq (rt_slots_0 z)) hK
theorem cj_X5_open_22 {G : rt_G} {d : Nat} {z : Nat × Nat} {Q : rt_P} (hz : 300 ≤ z.1) (hd : 0 ≤ d) {a0 : Int} (ht : rt_kd a0.toNat = 20 + 5) (mem0 : rt_M) (t : rt_M) (h : j_X5_open_22 mem0 = some t) (hK : Q none z t) : RT G M_X5_open d z Q 22 [(9, 0), (9, 0), (9, 0)] [] z mem0 := by
  unfold j_X5_open_22 at h
  obtain rfl := Option.some.inj h
  exact RT.vret (pc := 22) dX5_open_22 rfl (Nat.le_of_eq (rt_cells_0 z)) (Nat.le_of_eq (rt_slots_0 z)) hK
theorem c_X5_open {G : rt_G} {d : Nat} {z : Nat × Nat} (hz : 300 ≤ z.1) (hd : 0 ≤ d) (a0 : Int) (a1 : Int) (a2 : Int) (mem0 : rt_M) (t : rt_M) (ht : rt_kd a0.toNat = 20 + 5) (h : f_X5_open a0 a1 a2 mem0 = some t) : RM G M_X5_open d [(2, a0), (0, a1), (0, a2)] z mem0 none t := by
  suffices H : ∀ Q : rt_P, Q none z t → RT G M_X5_open d z Q 0 [(2, a0), (0, a1), (0, a2)] [] z mem0 from H _ ⟨rfl, rfl, rfl⟩
  intro Q hK
  unfold f_X5_open at h
  refine RT.iload_n (pc := 0) (k := 1) (x := a1) dX5_open_0 rfl ?_
  refine RT.if_lt (pc := 1) (tgt := 22) dX5_open_1 rfl (fun q1 => ?_) (fun q1 => ?_)
  · rw [if_pos q1] at h
    refine RT.wk (L1 := [(9, 0), (9, 0), (9, 0)]) (rt_le_j (rt_le_j (rt_le_j rt_le_n))) ?_
    exact cj_X5_open_22 hz hd ht mem0 _ h hK
  · rw [if_neg q1] at h
    refine RT.iload_n (pc := 4) (k := 1) (x := a1) dX5_open_4 rfl ?_
    refine RT.bipush (pc := 5) (n := 6) dX5_open_5 ⟨by decide, by decide⟩ rfl ?_
    refine RT.icmp_ge (pc := 7) (tgt := 22) dX5_open_7 rfl (fun q7 => ?_) (fun q7 => ?_)
    · rw [if_pos q7] at h
      refine RT.wk (L1 := [(9, 0), (9, 0), (9, 0)]) (rt_le_j (rt_le_j (rt_le_j rt_le_n))) ?_
      exact cj_X5_open_22 hz hd ht mem0 _ h hK
    · rw [if_neg q7] at h
      refine RT.aload_n (pc := 10) (k := 0) (x := a0) dX5_open_10 rfl ?_
      obtain ⟨v11, hv11, h⟩ := Option.bind_eq_some_iff.mp h
      refine RT.gf 5 2 2 (pc := 11) (x := a0) (v := v11) hz dX5_open_11 fl_X5_9 rfl hv11 ?_
      refine RT.iload_n (pc := 14) (k := 1) (x := a1) dX5_open_14 rfl ?_
      refine RT.dup2 (pc := 15) dX5_open_15 (show ¬ ((0 : Nat) = 1) by decide) (show ¬ ((2 : Nat) = 1) by decide) ?_
      obtain ⟨v16, hv16, h⟩ := Option.bind_eq_some_iff.mp h
      refine RT.iald (pc := 16) (x := v11) (i := a1) (v := v16) dX5_open_16 (rt_lta hz (by decide) (by decide) hv16) hv16 ?_
      refine RT.iconst (pc := 17) (n := 1) dX5_open_17 ⟨by decide, by decide⟩ ?_
      refine RT.iload_n (pc := 18) (k := 2) (x := a2) dX5_open_18 rfl ?_
      refine RT.ishl (pc := 19) dX5_open_19 ?_
      refine RT.ior (pc := 20) dX5_open_20 ?_
      obtain ⟨m21, hm21, h⟩ := Option.bind_eq_some_iff.mp h
      refine RT.iast (pc := 21) (x := v11) (i := a1) (v := (rt_ior v16 (rt_ishl 1 a2))) (mem1 := m21) dX5_open_21 (rt_lts hz (by decide) (by decide) hm21) hm21 ?_
      refine RT.wk (L1 := [(9, 0), (9, 0), (9, 0)]) (rt_le_j (rt_le_j (rt_le_j rt_le_n))) ?_
      exact cj_X5_open_22 hz hd ht m21 _ h hK
theorem cj_X5_gains_29 {G : rt_G} {d : Nat} {z : Nat × Nat} {Q : rt_P} (hz : 300 ≤ z.1) (hd : 0 ≤ d) {a0 : Int} (ht : rt_kd a0.toNat = 20 + 5) (mem0 : rt_M) (t : rt_M) (h : j_X5_gains_29 mem0 = some t) (hK : Q none z t) : RT G M_X5_gains d z Q 29 [(9, 0), (9, 0), (9, 0), (9, 0)] [] z mem0 := by
  unfold j_X5_gains_29 at h
  obtain rfl := Option.some.inj h
  exact RT.vret (pc := 29) dX5_gains_29 rfl (Nat.le_of_eq (rt_cells_0 z)) (Nat.le_of_eq (rt_slots_0 z)) hK
theorem c_X5_gains {G : rt_G} {d : Nat} {z : Nat × Nat} (hz : 300 ≤ z.1) (hd : 0 ≤ d) (a0 : Int) (a1 : Int) (a2 : Int) (a3 : Int) (mem0 : rt_M) (t : rt_M) (ht : rt_kd a0.toNat = 20 + 5) (h : f_X5_gains a0 a1 a2 a3 mem0 = some t) : RM G M_X5_gains d [(2, a0), (0, a1), (0, a2), (0, a3)] z mem0 none t := by
  suffices H : ∀ Q : rt_P, Q none z t → RT G M_X5_gains d z Q 0 [(2, a0), (0, a1), (0, a2), (0, a3)] [] z mem0 from H _ ⟨rfl, rfl, rfl⟩
  intro Q hK
  unfold f_X5_gains at h
  refine RT.iload_n (pc := 0) (k := 1) (x := a1) dX5_gains_0 rfl ?_
  refine RT.if_lt (pc := 1) (tgt := 29) dX5_gains_1 rfl (fun q1 => ?_) (fun q1 => ?_)
  · rw [if_pos q1] at h
    refine RT.wk (L1 := [(9, 0), (9, 0), (9, 0), (9, 0)]) (rt_le_j (rt_le_j (rt_le_j (rt_le_j rt_le_n)))) ?_
    exact cj_X5_gains_29 hz hd ht mem0 _ h hK
  · rw [if_neg q1] at h
    refine RT.iload_n (pc := 4) (k := 1) (x := a1) dX5_gains_4 rfl ?_
    refine RT.bipush (pc := 5) (n := 6) dX5_gains_5 ⟨by decide, by decide⟩ rfl ?_
    refine RT.icmp_ge (pc := 7) (tgt := 29) dX5_gains_7 rfl (fun q7 => ?_) (fun q7 => ?_)
    · rw [if_pos q7] at h
      refine RT.wk (L1 := [(9, 0), (9, 0), (9, 0), (9, 0)]) (rt_le_j (rt_le_j (rt_le_j (rt_le_j rt_le_n)))) ?_
      exact cj_X5_gains_29 hz hd ht mem0 _ h hK
    · rw [if_neg q7] at h
      refine RT.iload_n (pc := 10) (k := 2) (x := a2) dX5_gains_10 rfl ?_
      refine RT.if_lt (pc := 11) (tgt := 29) dX5_gains_11 rfl (fun q11 => ?_) (fun q11 => ?_)
      · rw [if_pos q11] at h
        refine RT.wk (L1 := [(9, 0), (9, 0), (9, 0), (9, 0)]) (rt_le_j (rt_le_j (rt_le_j (rt_le_j rt_le_n)))) ?_
        exact cj_X5_gains_29 hz hd ht mem0 _ h hK
      · rw [if_neg q11] at h
        refine RT.iload_n (pc := 14) (k := 2) (x := a2) dX5_gains_14 rfl ?_
        refine RT.bipush (pc := 15) (n := 6) dX5_gains_15 ⟨by decide, by decide⟩ rfl ?_
        refine RT.icmp_ge (pc := 17) (tgt := 29) dX5_gains_17 rfl (fun q17 => ?_) (fun q17 => ?_)
        · rw [if_pos q17] at h
          refine RT.wk (L1 := [(9, 0), (9, 0), (9, 0), (9, 0)]) (rt_le_j (rt_le_j (rt_le_j (rt_le_j rt_le_n)))) ?_
          exact cj_X5_gains_29 hz hd ht mem0 _ h hK
        · rw [if_neg q17] at h
          refine RT.aload_n (pc := 20) (k := 0) (x := a0) dX5_gains_20 rfl ?_
          obtain ⟨v21, hv21, h⟩ := Option.bind_eq_some_iff.mp h
          refine RT.gf 5 3 2 (pc := 21) (x := a0) (v := v21) hz dX5_gains_21 fl_X5_17 rfl hv21 ?_
          refine RT.iload_n (pc := 24) (k := 1) (x := a1) dX5_gains_24 rfl ?_
          obtain ⟨v25, hv25, h⟩ := Option.bind_eq_some_iff.mp h
          refine RT.aald6 (pc := 25) (x := v21) (i := a1) (v := v25) dX5_gains_25 (rt_lta hz (by decide) (by decide) hv25) hv25 ?_
          refine RT.iload_n (pc := 26) (k := 2) (x := a2) dX5_gains_26 rfl ?_
          refine RT.iload_n (pc := 27) (k := 3) (x := a3) dX5_gains_27 rfl ?_
          obtain ⟨m28, hm28, h⟩ := Option.bind_eq_some_iff.mp h
          refine RT.iast (pc := 28) (x := v25) (i := a2) (v := a3) (mem1 := m28) dX5_gains_28 (rt_lts hz (by decide) (by decide) hm28) hm28 ?_
          refine RT.wk (L1 := [(9, 0), (9, 0), (9, 0), (9, 0)]) (rt_le_j (rt_le_j (rt_le_j (rt_le_j rt_le_n)))) ?_
          exact cj_X5_gains_29 hz hd ht m28 _ h hK
theorem cj_X5_chosen_20 {G : rt_G} {d : Nat} {z : Nat × Nat} {Q : rt_P} (hz : 300 ≤ z.1) (hd : 0 ≤ d) {a0 : Int} (ht : rt_kd a0.toNat = 20 + 5) (s0 : Int) (mem0 : rt_M) (t : Int) (h : j_X5_chosen_20 s0 mem0 = some t) (hK : Q (some (0, t)) z mem0) : RT G M_X5_chosen d z Q 20 [(9, 0), (9, 0)] [(0, s0)] z mem0 := by
  unfold j_X5_chosen_20 at h
  obtain rfl := Option.some.inj h
  exact RT.iret (pc := 20) dX5_chosen_20 rfl (Nat.le_of_eq (rt_cells_0 z)) (Nat.le_of_eq (rt_slots_0 z)) hK
theorem cj_X5_chosen_19 {G : rt_G} {d : Nat} {z : Nat × Nat} {Q : rt_P} (hz : 300 ≤ z.1) (hd : 0 ≤ d) {a0 : Int} (ht : rt_kd a0.toNat = 20 + 5) (mem0 : rt_M) (t : Int) (h : j_X5_chosen_19 mem0 = some t) (hK : Q (some (0, t)) z mem0) : RT G M_X5_chosen d z Q 19 [(9, 0), (9, 0)] [] z mem0 := by
  unfold j_X5_chosen_19 at h
  refine RT.iconst (pc := 19) (n := (-1)) dX5_chosen_19 ⟨by decide, by decide⟩ ?_
  exact cj_X5_chosen_20 hz hd ht ((-1)) mem0 _ h hK
theorem c_X5_chosen {G : rt_G} {d : Nat} {z : Nat × Nat} (hz : 300 ≤ z.1) (hd : 0 ≤ d) (a0 : Int) (a1 : Int) (mem0 : rt_M) (t : Int) (ht : rt_kd a0.toNat = 20 + 5) (h : f_X5_chosen a0 a1 mem0 = some t) : RM G M_X5_chosen d [(2, a0), (0, a1)] z mem0 (some (0, t)) mem0 := by
  suffices H : ∀ Q : rt_P, Q (some (0, t)) z mem0 → RT G M_X5_chosen d z Q 0 [(2, a0), (0, a1)] [] z mem0 from H _ ⟨rfl, rfl, rfl⟩
  intro Q hK
  unfold f_X5_chosen at h
  refine RT.iload_n (pc := 0) (k := 1) (x := a1) dX5_chosen_0 rfl ?_
  refine RT.if_lt (pc := 1) (tgt := 19) dX5_chosen_1 rfl (fun q1 => ?_) (fun q1 => ?_)
  · rw [if_pos q1] at h
    refine RT.wk (L1 := [(9, 0), (9, 0)]) (rt_le_j (rt_le_j rt_le_n)) ?_
    exact cj_X5_chosen_19 hz hd ht mem0 _ h hK
  · rw [if_neg q1] at h
    refine RT.iload_n (pc := 4) (k := 1) (x := a1) dX5_chosen_4 rfl ?_
    refine RT.bipush (pc := 5) (n := 6) dX5_chosen_5 ⟨by decide, by decide⟩ rfl ?_
    refine RT.icmp_ge (pc := 7) (tgt := 19) dX5_chosen_7 rfl (fun q7 => ?_) (fun q7 => ?_)
    · rw [if_pos q7] at h
      refine RT.wk (L1 := [(9, 0), (9, 0)]) (rt_le_j (rt_le_j rt_le_n)) ?_
      exact cj_X5_chosen_19 hz hd ht mem0 _ h hK
    · rw [if_neg q7] at h
      refine RT.aload_n (pc := 10) (k := 0) (x := a0) dX5_chosen_10 rfl ?_
      obtain ⟨v11, hv11, h⟩ := Option.bind_eq_some_iff.mp h
      refine RT.gf 5 5 2 (pc := 11) (x := a0) (v := v11) hz dX5_chosen_11 fl_X5_23 rfl hv11 ?_
      refine RT.iload_n (pc := 14) (k := 1) (x := a1) dX5_chosen_14 rfl ?_
      obtain ⟨v15, hv15, h⟩ := Option.bind_eq_some_iff.mp h
      refine RT.iald (pc := 15) (x := v11) (i := a1) (v := v15) dX5_chosen_15 (rt_lta hz (by decide) (by decide) hv15) hv15 ?_
      refine RT.goto (pc := 16) (tgt := 20) dX5_chosen_16 rfl ?_
      refine RT.wk (L1 := [(9, 0), (9, 0)]) (rt_le_j (rt_le_j rt_le_n)) ?_
      exact cj_X5_chosen_20 hz hd ht v15 mem0 _ h hK
theorem cj_X5_through_41 {G : rt_G} {d : Nat} {z : Nat × Nat} {Q : rt_P} (hz : 300 ≤ z.1) (hd : 0 ≤ d) {a0 : Int} (ht : rt_kd a0.toNat = 20 + 5) (mem0 : rt_M) (t : Int) (h : j_X5_through_41 mem0 = some t) (hK : Q (some (0, t)) z mem0) : RT G M_X5_through d z Q 41 [(9, 0), (9, 0), (9, 0), (9, 0), (9, 0)] [] z mem0 := by
  unfold j_X5_through_41 at h
  refine RT.iconst (pc := 41) (n := (-1)) dX5_through_41 ⟨by decide, by decide⟩ ?_
  obtain rfl := Option.some.inj h
  exact RT.iret (pc := 42) dX5_through_42 rfl (Nat.le_of_eq (rt_cells_0 z)) (Nat.le_of_eq (rt_slots_0 z)) hK
theorem cj_X5_through_60 {G : rt_G} {d : Nat} {z : Nat × Nat} {Q : rt_P} (hz : 300 ≤ z.1) (hd : 0 ≤ d) {a0 : Int} (ht : rt_kd a0.toNat = 20 + 5) (a1 : Int) (a2 : Int) (a3 : Int) (s0 : Int) (mem0 : rt_M) (t : Int) (h : j_X5_through_60 a0 a1 a2 a3 s0 mem0 = some t) (hK : Q (some (0, t)) z mem0) : RT G M_X5_through d z Q 60 [(2, a0), (0, a1), (0, a2), (0, a3), (9, 0)] [(0, s0)] z mem0 := by
  unfold j_X5_through_60 at h
  refine RT.aload_n (pc := 60) (k := 0) (x := a0) dX5_through_60 rfl ?_
  obtain ⟨v61, hv61, h⟩ := Option.bind_eq_some_iff.mp h
  refine RT.gf 5 4 2 (pc := 61) (x := a0) (v := v61) hz dX5_through_61 fl_X5_20 rfl hv61 ?_
  refine RT.iload_n (pc := 64) (k := 1) (x := a1) dX5_through_64 rfl ?_
  refine RT.iconst (pc := 65) (n := 1) dX5_through_65 ⟨by decide, by decide⟩ ?_
  refine RT.iadd (pc := 66) dX5_through_66 ?_
  obtain ⟨v67, hv67, h⟩ := Option.bind_eq_some_iff.mp h
  refine RT.aald6 (pc := 67) (x := v61) (i := (rt_iadd a1 1)) (v := v67) dX5_through_67 (rt_lta hz (by decide) (by decide) hv67) hv67 ?_
  refine RT.iload_n (pc := 68) (k := 2) (x := a2) dX5_through_68 rfl ?_
  refine RT.iconst (pc := 69) (n := 1) dX5_through_69 ⟨by decide, by decide⟩ ?_
  refine RT.iload_n (pc := 70) (k := 3) (x := a3) dX5_through_70 rfl ?_
  refine RT.ishl (pc := 71) dX5_through_71 ?_
  refine RT.ior (pc := 72) dX5_through_72 ?_
  obtain ⟨v73, hv73, h⟩ := Option.bind_eq_some_iff.mp h
  refine RT.iald (pc := 73) (x := v67) (i := (rt_ior a2 (rt_ishl 1 a3))) (v := v73) dX5_through_73 (rt_lta hz (by decide) (by decide) hv73) hv73 ?_
  refine RT.iadd (pc := 74) dX5_through_74 ?_
  obtain rfl := Option.some.inj h
  exact RT.iret (pc := 75) dX5_through_75 rfl (Nat.le_of_eq (rt_cells_0 z)) (Nat.le_of_eq (rt_slots_0 z)) hK
theorem cj_X5_through_43 {G : rt_G} {d : Nat} {z : Nat × Nat} {Q : rt_P} (hz : 300 ≤ z.1) (hd : 0 ≤ d) {a0 : Int} (ht : rt_kd a0.toNat = 20 + 5) (a1 : Int) (a2 : Int) (a3 : Int) (a4 : Int) (mem0 : rt_M) (t : Int) (h : j_X5_through_43 a0 a1 a2 a3 a4 mem0 = some t) (hK : Q (some (0, t)) z mem0) : RT G M_X5_through d z Q 43 [(2, a0), (0, a1), (0, a2), (0, a3), (0, a4)] [] z mem0 := by
  unfold j_X5_through_43 at h
  refine RT.iload (pc := 43) (k := 4) (x := a4) dX5_through_43 rfl ?_
  refine RT.if_eq (pc := 45) (tgt := 52) dX5_through_45 rfl (fun q45 => ?_) (fun q45 => ?_)
  · rw [if_pos q45] at h
    refine RT.aload_n (pc := 52) (k := 0) (x := a0) dX5_through_52 rfl ?_
    obtain ⟨v53, hv53, h⟩ := Option.bind_eq_some_iff.mp h
    refine RT.gf 5 3 2 (pc := 53) (x := a0) (v := v53) hz dX5_through_53 fl_X5_17 rfl hv53 ?_
    refine RT.iload_n (pc := 56) (k := 1) (x := a1) dX5_through_56 rfl ?_
    obtain ⟨v57, hv57, h⟩ := Option.bind_eq_some_iff.mp h
    refine RT.aald6 (pc := 57) (x := v53) (i := a1) (v := v57) dX5_through_57 (rt_lta hz (by decide) (by decide) hv57) hv57 ?_
    refine RT.iload_n (pc := 58) (k := 3) (x := a3) dX5_through_58 rfl ?_
    obtain ⟨v59, hv59, h⟩ := Option.bind_eq_some_iff.mp h
    refine RT.iald (pc := 59) (x := v57) (i := a3) (v := v59) dX5_through_59 (rt_lta hz (by decide) (by decide) hv59) hv59 ?_
    refine RT.wk (L1 := [(2, a0), (0, a1), (0, a2), (0, a3), (9, 0)]) (rt_le_s (rt_le_s (rt_le_s (rt_le_s (rt_le_j rt_le_n))))) ?_
    exact cj_X5_through_60 hz hd ht a1 a2 a3 v59 mem0 _ h hK
  · rw [if_neg q45] at h
    refine RT.iconst (pc := 48) (n := 0) dX5_through_48 ⟨by decide, by decide⟩ ?_
    refine RT.goto (pc := 49) (tgt := 60) dX5_through_49 rfl ?_
    refine RT.wk (L1 := [(2, a0), (0, a1), (0, a2), (0, a3), (9, 0)]) (rt_le_s (rt_le_s (rt_le_s (rt_le_s (rt_le_j rt_le_n))))) ?_
    exact cj_X5_through_60 hz hd ht a1 a2 a3 0 mem0 _ h hK
theorem cj_X5_through_14 {G : rt_G} {d : Nat} {z : Nat × Nat} {Q : rt_P} (hz : 300 ≤ z.1) (hd : 0 ≤ d) {a0 : Int} (ht : rt_kd a0.toNat = 20 + 5) (a1 : Int) (a2 : Int) (a3 : Int) (s0 : Int) (mem0 : rt_M) (t : Int) (h : j_X5_through_14 a0 a1 a2 a3 s0 mem0 = some t) (hK : Q (some (0, t)) z mem0) : RT G M_X5_through d z Q 14 [(2, a0), (0, a1), (0, a2), (0, a3), (9, 0)] [(0, s0)] z mem0 := by
  unfold j_X5_through_14 at h
  refine RT.istore (pc := 14) (k := 4) (x := s0) (L1 := [(2, a0), (0, a1), (0, a2), (0, a3), (0, s0)]) dX5_through_14 (Nat.le_of_ble_eq_true rfl) rfl ?_
  refine RT.aload_n (pc := 16) (k := 0) (x := a0) dX5_through_16 rfl ?_
  obtain ⟨v17, hv17, h⟩ := Option.bind_eq_some_iff.mp h
  refine RT.gf 5 2 2 (pc := 17) (x := a0) (v := v17) hz dX5_through_17 fl_X5_9 rfl hv17 ?_
  refine RT.iload_n (pc := 20) (k := 1) (x := a1) dX5_through_20 rfl ?_
  obtain ⟨v21, hv21, h⟩ := Option.bind_eq_some_iff.mp h
  refine RT.iald (pc := 21) (x := v17) (i := a1) (v := v21) dX5_through_21 (rt_lta hz (by decide) (by decide) hv21) hv21 ?_
  refine RT.iload_n (pc := 22) (k := 3) (x := a3) dX5_through_22 rfl ?_
  refine RT.ishr (pc := 23) dX5_through_23 ?_
  refine RT.iconst (pc := 24) (n := 1) dX5_through_24 ⟨by decide, by decide⟩ ?_
  refine RT.iand (pc := 25) dX5_through_25 ?_
  refine RT.if_eq (pc := 26) (tgt := 41) dX5_through_26 rfl (fun q26 => ?_) (fun q26 => ?_)
  · rw [if_pos q26] at h
    refine RT.wk (L1 := [(9, 0), (9, 0), (9, 0), (9, 0), (9, 0)]) (rt_le_j (rt_le_j (rt_le_j (rt_le_j (rt_le_j rt_le_n))))) ?_
    exact cj_X5_through_41 hz hd ht mem0 _ h hK
  · rw [if_neg q26] at h
    refine RT.iload (pc := 29) (k := 4) (x := s0) dX5_through_29 rfl ?_
    refine RT.if_eq (pc := 31) (tgt := 43) dX5_through_31 rfl (fun q31 => ?_) (fun q31 => ?_)
    · rw [if_pos q31] at h
      exact cj_X5_through_43 hz hd ht a1 a2 a3 s0 mem0 _ h hK
    · rw [if_neg q31] at h
      refine RT.aload_n (pc := 34) (k := 0) (x := a0) dX5_through_34 rfl ?_
      obtain ⟨v35, hv35, h⟩ := Option.bind_eq_some_iff.mp h
      refine RT.gf 5 1 0 (pc := 35) (x := a0) (v := v35) hz dX5_through_35 fl_X5_39 rfl hv35 ?_
      refine RT.if_ne (pc := 38) (tgt := 43) dX5_through_38 rfl (fun q38 => ?_) (fun q38 => ?_)
      · rw [if_neg q38] at h
        exact cj_X5_through_43 hz hd ht a1 a2 a3 s0 mem0 _ h hK
      · rw [if_pos (Classical.not_not.mp q38)] at h
        refine RT.wk (L1 := [(9, 0), (9, 0), (9, 0), (9, 0), (9, 0)]) (rt_le_j (rt_le_j (rt_le_j (rt_le_j (rt_le_j rt_le_n))))) ?_
        exact cj_X5_through_41 hz hd ht mem0 _ h hK
theorem c_X5_through {G : rt_G} {d : Nat} {z : Nat × Nat} (hz : 300 ≤ z.1) (hd : 0 ≤ d) (a0 : Int) (a1 : Int) (a2 : Int) (a3 : Int) (mem0 : rt_M) (t : Int) (ht : rt_kd a0.toNat = 20 + 5) (h : f_X5_through a0 a1 a2 a3 mem0 = some t) : RM G M_X5_through d [(2, a0), (0, a1), (0, a2), (0, a3)] z mem0 (some (0, t)) mem0 := by
  suffices H : ∀ Q : rt_P, Q (some (0, t)) z mem0 → RT G M_X5_through d z Q 0 [(2, a0), (0, a1), (0, a2), (0, a3), (9, 0)] [] z mem0 from H _ ⟨rfl, rfl, rfl⟩
  intro Q hK
  unfold f_X5_through at h
  refine RT.iload_n (pc := 0) (k := 2) (x := a2) dX5_through_0 rfl ?_
  refine RT.iload_n (pc := 1) (k := 3) (x := a3) dX5_through_1 rfl ?_
  refine RT.ishr (pc := 2) dX5_through_2 ?_
  refine RT.iconst (pc := 3) (n := 1) dX5_through_3 ⟨by decide, by decide⟩ ?_
  refine RT.iand (pc := 4) dX5_through_4 ?_
  refine RT.iconst (pc := 5) (n := 1) dX5_through_5 ⟨by decide, by decide⟩ ?_
  refine RT.icmp_ne (pc := 6) (tgt := 13) dX5_through_6 rfl (fun q6 => ?_) (fun q6 => ?_)
  · rw [if_neg q6] at h
    refine RT.iconst (pc := 13) (n := 0) dX5_through_13 ⟨by decide, by decide⟩ ?_
    exact cj_X5_through_14 hz hd ht a1 a2 a3 0 mem0 _ h hK
  · rw [if_pos (Classical.not_not.mp q6)] at h
    refine RT.iconst (pc := 9) (n := 1) dX5_through_9 ⟨by decide, by decide⟩ ?_
    refine RT.goto (pc := 10) (tgt := 14) dX5_through_10 rfl ?_
    exact cj_X5_through_14 hz hd ht a1 a2 a3 1 mem0 _ h hK
theorem cj_X5_keepFirstRow_68_24 {G : rt_G} {d : Nat} {z : Nat × Nat} {Q : rt_P} (hz : 300 ≤ z.1) (hd : 1 ≤ d) {a0 : Int} (ht : rt_kd a0.toNat = 20 + 5) (a1 : Int) (a2 : Int) (a3 : Int) (a4 : Int) (mem0 : rt_M) (t : (Int × Int × rt_M) ⊕ (Int × rt_M)) (h : j_X5_keepFirstRow_68_24 a0 a1 a2 a3 a4 mem0 = some t) (hK : (∀ s1 : Int × Int × rt_M, t = .inl s1 → RT G M_X5_keepFirstRow d z Q 24 [(2, a0), (0, s1.1), (0, a2), (0, a3), (0, s1.2.1)] [] z s1.2.2) ∧ (∀ x1 : Int × rt_M, t = .inr x1 → RT G M_X5_keepFirstRow d z Q 74 [(2, a0), (0, x1.1), (0, a2), (9, 0), (9, 0)] [] z x1.2)) : RT G M_X5_keepFirstRow d z Q 68 [(2, a0), (0, a1), (0, a2), (0, a3), (0, a4)] [] z mem0 := by
  unfold j_X5_keepFirstRow_68_24 at h
  refine RT.iinc (pc := 68) (x := a4) (L1 := [(2, a0), (0, a1), (0, a2), (0, a3), (0, (rt_iadd a4 1))]) dX5_keepFirstRow_68 rfl (Nat.le_of_ble_eq_true rfl) ⟨by decide, by decide⟩ rfl ?_
  refine RT.goto (pc := 71) (tgt := 24) dX5_keepFirstRow_71 rfl ?_
  obtain rfl := Option.some.inj h
  have q1 := hK.1 ((a1, (rt_iadd a4 1), mem0)) rfl
  try dsimp only at q1
  exact q1
theorem cb_X5_keepFirstRow_24 {G : rt_G} {d : Nat} {z : Nat × Nat} {Q : rt_P} (hz : 300 ≤ z.1) (hd : 1 ≤ d) {a0 : Int} (ht : rt_kd a0.toNat = 20 + 5) (a2 : Int) (a3 : Int) (s : Int × Int × rt_M) (t : (Int × Int × rt_M) ⊕ (Int × rt_M)) (h : b_X5_keepFirstRow_24 a0 a2 a3 s = some t) (hK : (∀ s1 : Int × Int × rt_M, t = .inl s1 → RT G M_X5_keepFirstRow d z Q 24 [(2, a0), (0, s1.1), (0, a2), (0, a3), (0, s1.2.1)] [] z s1.2.2) ∧ (∀ x1 : Int × rt_M, t = .inr x1 → RT G M_X5_keepFirstRow d z Q 74 [(2, a0), (0, x1.1), (0, a2), (9, 0), (9, 0)] [] z x1.2)) : RT G M_X5_keepFirstRow d z Q 24 [(2, a0), (0, s.1), (0, a2), (0, a3), (0, s.2.1)] [] z s.2.2 := by
  unfold b_X5_keepFirstRow_24 at h
  refine RT.iload (pc := 24) (k := 4) (x := s.2.1) dX5_keepFirstRow_24 rfl ?_
  refine RT.bipush (pc := 26) (n := 6) dX5_keepFirstRow_26 ⟨by decide, by decide⟩ rfl ?_
  refine RT.icmp_ge (pc := 28) (tgt := 74) dX5_keepFirstRow_28 rfl (fun q28 => ?_) (fun q28 => ?_)
  · rw [if_pos q28] at h
    refine RT.wk (L1 := [(2, a0), (0, s.1), (0, a2), (9, 0), (9, 0)]) (rt_le_s (rt_le_s (rt_le_s (rt_le_j (rt_le_j rt_le_n))))) ?_
    obtain rfl := Option.some.inj h
    have q1 := hK.2 ((s.1, s.2.2)) rfl
    try dsimp only at q1
    exact q1
  · rw [if_neg q28] at h
    refine RT.aload_n (pc := 31) (k := 0) (x := a0) dX5_keepFirstRow_31 rfl ?_
    obtain ⟨v32, hv32, h⟩ := Option.bind_eq_some_iff.mp h
    refine RT.gf 5 5 2 (pc := 32) (x := a0) (v := v32) hz dX5_keepFirstRow_32 fl_X5_23 rfl hv32 ?_
    refine RT.iload_n (pc := 35) (k := 2) (x := a2) dX5_keepFirstRow_35 rfl ?_
    obtain ⟨v36, hv36, h⟩ := Option.bind_eq_some_iff.mp h
    refine RT.iald (pc := 36) (x := v32) (i := a2) (v := v36) dX5_keepFirstRow_36 (rt_lta hz (by decide) (by decide) hv36) hv36 ?_
    refine RT.iconst (pc := 37) (n := (-1)) dX5_keepFirstRow_37 ⟨by decide, by decide⟩ ?_
    refine RT.icmp_ne (pc := 38) (tgt := 74) dX5_keepFirstRow_38 rfl (fun q38 => ?_) (fun q38 => ?_)
    · rw [if_neg q38] at h
      refine RT.wk (L1 := [(2, a0), (0, s.1), (0, a2), (9, 0), (9, 0)]) (rt_le_s (rt_le_s (rt_le_s (rt_le_j (rt_le_j rt_le_n))))) ?_
      obtain rfl := Option.some.inj h
      have q1 := hK.2 ((s.1, s.2.2)) rfl
      try dsimp only at q1
      exact q1
    · rw [if_pos (Classical.not_not.mp q38)] at h
      refine RT.aload_n (pc := 41) (k := 0) (x := a0) dX5_keepFirstRow_41 rfl ?_
      refine RT.iload_n (pc := 42) (k := 2) (x := a2) dX5_keepFirstRow_42 rfl ?_
      refine RT.iload_n (pc := 43) (k := 1) (x := s.1) dX5_keepFirstRow_43 rfl ?_
      refine RT.iload (pc := 44) (k := 4) (x := s.2.1) dX5_keepFirstRow_44 rfl ?_
      obtain ⟨p46, hp46, h⟩ := Option.bind_eq_some_iff.mp h
      refine RT.cVz (pc := 46) (M' := M_X5_through) (ci := 5) (x := a0) (As := [(0, a2), (0, s.1), (0, s.2.1)]) (st := []) (r := some (0, p46)) (mem1 := s.2.2) (d' := d - 1) hz dX5_keepFirstRow_46 mw_X5_through ml_X5_43 mi_X5_through ht rfl rfl (Nat.le_of_ble_eq_true rfl) (Nat.le_of_ble_eq_true rfl) (by omega) rfl rfl (c_X5_through hz (by omega) a0 a2 s.1 s.2.1 s.2.2 _ ht hp46) ?_
      refine RT.iload_n (pc := 49) (k := 3) (x := a3) dX5_keepFirstRow_49 rfl ?_
      refine RT.icmp_ne (pc := 50) (tgt := 68) dX5_keepFirstRow_50 rfl (fun q50 => ?_) (fun q50 => ?_)
      · rw [if_neg q50] at h
        exact cj_X5_keepFirstRow_68_24 hz hd ht s.1 a2 a3 s.2.1 s.2.2 _ h hK
      · rw [if_pos (Classical.not_not.mp q50)] at h
        refine RT.aload_n (pc := 53) (k := 0) (x := a0) dX5_keepFirstRow_53 rfl ?_
        obtain ⟨v54, hv54, h⟩ := Option.bind_eq_some_iff.mp h
        refine RT.gf 5 5 2 (pc := 54) (x := a0) (v := v54) hz dX5_keepFirstRow_54 fl_X5_23 rfl hv54 ?_
        refine RT.iload_n (pc := 57) (k := 2) (x := a2) dX5_keepFirstRow_57 rfl ?_
        refine RT.iload (pc := 58) (k := 4) (x := s.2.1) dX5_keepFirstRow_58 rfl ?_
        obtain ⟨m60, hm60, h⟩ := Option.bind_eq_some_iff.mp h
        refine RT.iast (pc := 60) (x := v54) (i := a2) (v := s.2.1) (mem1 := m60) dX5_keepFirstRow_60 (rt_lts hz (by decide) (by decide) hm60) hm60 ?_
        refine RT.iload_n (pc := 61) (k := 1) (x := s.1) dX5_keepFirstRow_61 rfl ?_
        refine RT.iconst (pc := 62) (n := 1) dX5_keepFirstRow_62 ⟨by decide, by decide⟩ ?_
        refine RT.iload (pc := 63) (k := 4) (x := s.2.1) dX5_keepFirstRow_63 rfl ?_
        refine RT.ishl (pc := 65) dX5_keepFirstRow_65 ?_
        refine RT.ior (pc := 66) dX5_keepFirstRow_66 ?_
        refine RT.istore_n (pc := 67) (k := 1) (x := (rt_ior s.1 (rt_ishl 1 s.2.1))) (L1 := [(2, a0), (0, (rt_ior s.1 (rt_ishl 1 s.2.1))), (0, a2), (0, a3), (0, s.2.1)]) dX5_keepFirstRow_67 (Nat.le_of_ble_eq_true rfl) rfl ?_
        exact cj_X5_keepFirstRow_68_24 hz hd ht ((rt_ior s.1 (rt_ishl 1 s.2.1))) a2 a3 s.2.1 m60 _ h hK
theorem cb_X5_keepFirstRow_4 {G : rt_G} {d : Nat} {z : Nat × Nat} {Q : rt_P} (hz : 300 ≤ z.1) (hd : 1 ≤ d) {a0 : Int} (ht : rt_kd a0.toNat = 20 + 5) (s : Int × Int × rt_M) (t : (Int × Int × rt_M) ⊕ (rt_M)) (h : b_X5_keepFirstRow_4 a0 s = some t) (hK : (∀ s1 : Int × Int × rt_M, t = .inl s1 → RT G M_X5_keepFirstRow d z Q 4 [(2, a0), (0, s1.1), (0, s1.2.1), (9, 0), (9, 0)] [] z s1.2.2) ∧ (∀ x1 : rt_M, t = .inr x1 → RT G M_X5_keepFirstRow d z Q 80 [(9, 0), (9, 0), (9, 0), (9, 0), (9, 0)] [] z x1)) : RT G M_X5_keepFirstRow d z Q 4 [(2, a0), (0, s.1), (0, s.2.1), (9, 0), (9, 0)] [] z s.2.2 := by
  unfold b_X5_keepFirstRow_4 at h
  refine RT.iload_n (pc := 4) (k := 2) (x := s.2.1) dX5_keepFirstRow_4 rfl ?_
  refine RT.aload_n (pc := 5) (k := 0) (x := a0) dX5_keepFirstRow_5 rfl ?_
  obtain ⟨v6, hv6, h⟩ := Option.bind_eq_some_iff.mp h
  refine RT.gf 5 0 0 (pc := 6) (x := a0) (v := v6) hz dX5_keepFirstRow_6 fl_X5_35 rfl hv6 ?_
  refine RT.icmp_ge (pc := 9) (tgt := 80) dX5_keepFirstRow_9 rfl (fun q9 => ?_) (fun q9 => ?_)
  · rw [if_pos q9] at h
    refine RT.wk (L1 := [(9, 0), (9, 0), (9, 0), (9, 0), (9, 0)]) (rt_le_j (rt_le_j (rt_le_j (rt_le_s (rt_le_s rt_le_n))))) ?_
    obtain rfl := Option.some.inj h
    have q1 := hK.2 s.2.2 rfl
    try dsimp only at q1
    exact q1
  · rw [if_neg q9] at h
    refine RT.aload_n (pc := 12) (k := 0) (x := a0) dX5_keepFirstRow_12 rfl ?_
    obtain ⟨v13, hv13, h⟩ := Option.bind_eq_some_iff.mp h
    refine RT.gf 5 4 2 (pc := 13) (x := a0) (v := v13) hz dX5_keepFirstRow_13 fl_X5_20 rfl hv13 ?_
    refine RT.iload_n (pc := 16) (k := 2) (x := s.2.1) dX5_keepFirstRow_16 rfl ?_
    obtain ⟨v17, hv17, h⟩ := Option.bind_eq_some_iff.mp h
    refine RT.aald6 (pc := 17) (x := v13) (i := s.2.1) (v := v17) dX5_keepFirstRow_17 (rt_lta hz (by decide) (by decide) hv17) hv17 ?_
    refine RT.iload_n (pc := 18) (k := 1) (x := s.1) dX5_keepFirstRow_18 rfl ?_
    obtain ⟨v19, hv19, h⟩ := Option.bind_eq_some_iff.mp h
    refine RT.iald (pc := 19) (x := v17) (i := s.1) (v := v19) dX5_keepFirstRow_19 (rt_lta hz (by decide) (by decide) hv19) hv19 ?_
    refine RT.istore_n (pc := 20) (k := 3) (x := v19) (L1 := [(2, a0), (0, s.1), (0, s.2.1), (0, v19), (9, 0)]) dX5_keepFirstRow_20 (Nat.le_of_ble_eq_true rfl) rfl ?_
    refine RT.iconst (pc := 21) (n := 0) dX5_keepFirstRow_21 ⟨by decide, by decide⟩ ?_
    refine RT.istore (pc := 22) (k := 4) (x := 0) (L1 := [(2, a0), (0, s.1), (0, s.2.1), (0, v19), (0, 0)]) dX5_keepFirstRow_22 (Nat.le_of_ble_eq_true rfl) rfl ?_
    obtain ⟨X24, hX24, h⟩ := Option.bind_eq_some_iff.mp h
    refine rt_it_ind (P := (fun s1 : Int × Int × rt_M => RT G M_X5_keepFirstRow d z Q 24 [(2, a0), (0, s1.1), (0, s.2.1), (0, v19), (0, s1.2.1)] [] z s1.2.2)) (X := (fun x1 : Int × rt_M => RT G M_X5_keepFirstRow d z Q 74 [(2, a0), (0, x1.1), (0, s.2.1), (9, 0), (9, 0)] [] z x1.2)) (fun s1 t1 h1 k1 k2 => cb_X5_keepFirstRow_24 hz hd ht s.2.1 v19 s1 t1 h1 ⟨k1, k2⟩) 4000 ((s.1, 0, s.2.2)) X24 hX24 ?_
    refine RT.iinc (pc := 74) (x := s.2.1) (L1 := [(2, a0), (0, X24.1), (0, (rt_iadd s.2.1 1)), (9, 0), (9, 0)]) dX5_keepFirstRow_74 rfl (Nat.le_of_ble_eq_true rfl) ⟨by decide, by decide⟩ rfl ?_
    refine RT.goto (pc := 77) (tgt := 4) dX5_keepFirstRow_77 rfl ?_
    obtain rfl := Option.some.inj h
    have q1 := hK.1 ((X24.1, (rt_iadd s.2.1 1), X24.2)) rfl
    try dsimp only at q1
    exact q1
theorem c_X5_keepFirstRow {G : rt_G} {d : Nat} {z : Nat × Nat} (hz : 300 ≤ z.1) (hd : 1 ≤ d) (a0 : Int) (mem0 : rt_M) (t : rt_M) (ht : rt_kd a0.toNat = 20 + 5) (h : f_X5_keepFirstRow a0 mem0 = some t) : RM G M_X5_keepFirstRow d [(2, a0)] z mem0 none t := by
  suffices H : ∀ Q : rt_P, Q none z t → RT G M_X5_keepFirstRow d z Q 0 [(2, a0), (9, 0), (9, 0), (9, 0), (9, 0)] [] z mem0 from H _ ⟨rfl, rfl, rfl⟩
  intro Q hK
  unfold f_X5_keepFirstRow at h
  refine RT.iconst (pc := 0) (n := 0) dX5_keepFirstRow_0 ⟨by decide, by decide⟩ ?_
  refine RT.istore_n (pc := 1) (k := 1) (x := 0) (L1 := [(2, a0), (0, 0), (9, 0), (9, 0), (9, 0)]) dX5_keepFirstRow_1 (Nat.le_of_ble_eq_true rfl) rfl ?_
  refine RT.iconst (pc := 2) (n := 0) dX5_keepFirstRow_2 ⟨by decide, by decide⟩ ?_
  refine RT.istore_n (pc := 3) (k := 2) (x := 0) (L1 := [(2, a0), (0, 0), (0, 0), (9, 0), (9, 0)]) dX5_keepFirstRow_3 (Nat.le_of_ble_eq_true rfl) rfl ?_
  obtain ⟨X4, hX4, h⟩ := Option.bind_eq_some_iff.mp h
  refine rt_it_ind (P := (fun s1 : Int × Int × rt_M => RT G M_X5_keepFirstRow d z Q 4 [(2, a0), (0, s1.1), (0, s1.2.1), (9, 0), (9, 0)] [] z s1.2.2)) (X := (fun x1 : rt_M => RT G M_X5_keepFirstRow d z Q 80 [(9, 0), (9, 0), (9, 0), (9, 0), (9, 0)] [] z x1)) (fun s1 t1 h1 k1 k2 => cb_X5_keepFirstRow_4 hz hd ht s1 t1 h1 ⟨k1, k2⟩) 4000 ((0, 0, mem0)) X4 hX4 ?_
  obtain rfl := Option.some.inj h
  exact RT.vret (pc := 80) dX5_keepFirstRow_80 rfl (Nat.le_of_eq (rt_cells_0 z)) (Nat.le_of_eq (rt_slots_0 z)) hK
theorem cb_X5_solve_2 {G : rt_G} {d : Nat} {z : Nat × Nat} {Q : rt_P} (hz : 300 ≤ z.1) (hd : 2 ≤ d) {a0 : Int} (ht : rt_kd a0.toNat = 20 + 5) (s : Int × rt_M) (t : (Int × rt_M) ⊕ (rt_M)) (h : b_X5_solve_2 a0 s = some t) (hK : (∀ s1 : Int × rt_M, t = .inl s1 → RT G M_X5_solve d z Q 2 [(2, a0), (0, s1.1), (9, 0), (9, 0), (9, 0)] [] z s1.2) ∧ (∀ x1 : rt_M, t = .inr x1 → RT G M_X5_solve d z Q 26 [(2, a0), (9, 0), (9, 0), (9, 0), (9, 0)] [] z x1)) : RT G M_X5_solve d z Q 2 [(2, a0), (0, s.1), (9, 0), (9, 0), (9, 0)] [] z s.2 := by
  unfold b_X5_solve_2 at h
  refine RT.iload_n (pc := 2) (k := 1) (x := s.1) dX5_solve_2 rfl ?_
  refine RT.bipush (pc := 3) (n := 64) dX5_solve_3 ⟨by decide, by decide⟩ rfl ?_
  refine RT.icmp_ge (pc := 5) (tgt := 26) dX5_solve_5 rfl (fun q5 => ?_) (fun q5 => ?_)
  · rw [if_pos q5] at h
    refine RT.wk (L1 := [(2, a0), (9, 0), (9, 0), (9, 0), (9, 0)]) (rt_le_s (rt_le_j (rt_le_s (rt_le_s (rt_le_s rt_le_n))))) ?_
    obtain rfl := Option.some.inj h
    have q1 := hK.2 s.2 rfl
    try dsimp only at q1
    exact q1
  · rw [if_neg q5] at h
    refine RT.aload_n (pc := 8) (k := 0) (x := a0) dX5_solve_8 rfl ?_
    obtain ⟨v9, hv9, h⟩ := Option.bind_eq_some_iff.mp h
    refine RT.gf 5 4 2 (pc := 9) (x := a0) (v := v9) hz dX5_solve_9 fl_X5_20 rfl hv9 ?_
    refine RT.aload_n (pc := 12) (k := 0) (x := a0) dX5_solve_12 rfl ?_
    obtain ⟨v13, hv13, h⟩ := Option.bind_eq_some_iff.mp h
    refine RT.gf 5 0 0 (pc := 13) (x := a0) (v := v13) hz dX5_solve_13 fl_X5_35 rfl hv13 ?_
    obtain ⟨v16, hv16, h⟩ := Option.bind_eq_some_iff.mp h
    refine RT.aald6 (pc := 16) (x := v9) (i := v13) (v := v16) dX5_solve_16 (rt_lta hz (by decide) (by decide) hv16) hv16 ?_
    refine RT.iload_n (pc := 17) (k := 1) (x := s.1) dX5_solve_17 rfl ?_
    refine RT.iconst (pc := 18) (n := 0) dX5_solve_18 ⟨by decide, by decide⟩ ?_
    obtain ⟨m19, hm19, h⟩ := Option.bind_eq_some_iff.mp h
    refine RT.iast (pc := 19) (x := v16) (i := s.1) (v := 0) (mem1 := m19) dX5_solve_19 (rt_lts hz (by decide) (by decide) hm19) hm19 ?_
    refine RT.iinc (pc := 20) (x := s.1) (L1 := [(2, a0), (0, (rt_iadd s.1 1)), (9, 0), (9, 0), (9, 0)]) dX5_solve_20 rfl (Nat.le_of_ble_eq_true rfl) ⟨by decide, by decide⟩ rfl ?_
    refine RT.goto (pc := 23) (tgt := 2) dX5_solve_23 rfl ?_
    obtain rfl := Option.some.inj h
    have q1 := hK.1 (((rt_iadd s.1 1), m19)) rfl
    try dsimp only at q1
    exact q1
theorem cb_X5_solve_59 {G : rt_G} {d : Nat} {z : Nat × Nat} {Q : rt_P} (hz : 300 ≤ z.1) (hd : 2 ≤ d) {a0 : Int} (ht : rt_kd a0.toNat = 20 + 5) (a1 : Int) (a2 : Int) (s : Int × Int × rt_M) (t : (Int × Int × rt_M) ⊕ (Int × rt_M)) (h : b_X5_solve_59 a0 a1 a2 s = some t) (hK : (∀ s1 : Int × Int × rt_M, t = .inl s1 → RT G M_X5_solve d z Q 59 [(2, a0), (0, a1), (0, a2), (0, s1.1), (0, s1.2.1)] [] z s1.2.2) ∧ (∀ x1 : Int × rt_M, t = .inr x1 → RT G M_X5_solve d z Q 85 [(2, a0), (0, a1), (0, a2), (0, x1.1), (9, 0)] [] z x1.2)) : RT G M_X5_solve d z Q 59 [(2, a0), (0, a1), (0, a2), (0, s.1), (0, s.2.1)] [] z s.2.2 := by
  unfold b_X5_solve_59 at h
  refine RT.iload (pc := 59) (k := 4) (x := s.2.1) dX5_solve_59 rfl ?_
  refine RT.bipush (pc := 61) (n := 6) dX5_solve_61 ⟨by decide, by decide⟩ rfl ?_
  refine RT.icmp_ge (pc := 63) (tgt := 85) dX5_solve_63 rfl (fun q63 => ?_) (fun q63 => ?_)
  · rw [if_pos q63] at h
    refine RT.wk (L1 := [(2, a0), (0, a1), (0, a2), (0, s.1), (9, 0)]) (rt_le_s (rt_le_s (rt_le_s (rt_le_s (rt_le_j rt_le_n))))) ?_
    obtain rfl := Option.some.inj h
    have q1 := hK.2 ((s.1, s.2.2)) rfl
    try dsimp only at q1
    exact q1
  · rw [if_neg q63] at h
    refine RT.iload_n (pc := 66) (k := 3) (x := s.1) dX5_solve_66 rfl ?_
    refine RT.aload_n (pc := 67) (k := 0) (x := a0) dX5_solve_67 rfl ?_
    refine RT.iload_n (pc := 68) (k := 1) (x := a1) dX5_solve_68 rfl ?_
    refine RT.iload_n (pc := 69) (k := 2) (x := a2) dX5_solve_69 rfl ?_
    refine RT.iload (pc := 70) (k := 4) (x := s.2.1) dX5_solve_70 rfl ?_
    obtain ⟨p72, hp72, h⟩ := Option.bind_eq_some_iff.mp h
    refine RT.cVz (pc := 72) (M' := M_X5_through) (ci := 5) (x := a0) (As := [(0, a1), (0, a2), (0, s.2.1)]) (st := [(0, s.1)]) (r := some (0, p72)) (mem1 := s.2.2) (d' := d - 1) hz dX5_solve_72 mw_X5_through ml_X5_43 mi_X5_through ht rfl rfl (Nat.le_of_ble_eq_true rfl) (Nat.le_of_ble_eq_true rfl) (by omega) rfl rfl (c_X5_through hz (by omega) a0 a1 a2 s.2.1 s.2.2 _ ht hp72) ?_
    obtain ⟨p75, hp75, h⟩ := Option.bind_eq_some_iff.mp h
    refine RT.cSz (pc := 75) (M' := M_J9_max_7cf53) (As := [(0, s.1), (0, p72)]) (st := []) (r := some (0, p75)) (mem1 := s.2.2) (d' := d - 1) dX5_solve_75 mw_J9_max_7cf53 ml_X5_32 mi_J9_max_7cf53 rfl rfl (Nat.le_of_ble_eq_true rfl) (Nat.le_of_ble_eq_true rfl) (by omega) rfl rfl (c_J9_max_7cf53 hz (by omega) s.1 p72 s.2.2 _ hp75) ?_
    refine RT.istore_n (pc := 78) (k := 3) (x := p75) (L1 := [(2, a0), (0, a1), (0, a2), (0, p75), (0, s.2.1)]) dX5_solve_78 (Nat.le_of_ble_eq_true rfl) rfl ?_
    refine RT.iinc (pc := 79) (x := s.2.1) (L1 := [(2, a0), (0, a1), (0, a2), (0, p75), (0, (rt_iadd s.2.1 1))]) dX5_solve_79 rfl (Nat.le_of_ble_eq_true rfl) ⟨by decide, by decide⟩ rfl ?_
    refine RT.goto (pc := 82) (tgt := 59) dX5_solve_82 rfl ?_
    obtain rfl := Option.some.inj h
    have q1 := hK.1 ((p75, (rt_iadd s.2.1 1), s.2.2)) rfl
    try dsimp only at q1
    exact q1
theorem cb_X5_solve_39 {G : rt_G} {d : Nat} {z : Nat × Nat} {Q : rt_P} (hz : 300 ≤ z.1) (hd : 2 ≤ d) {a0 : Int} (ht : rt_kd a0.toNat = 20 + 5) (a1 : Int) (s : Int × rt_M) (t : (Int × rt_M) ⊕ (rt_M)) (h : b_X5_solve_39 a0 a1 s = some t) (hK : (∀ s1 : Int × rt_M, t = .inl s1 → RT G M_X5_solve d z Q 39 [(2, a0), (0, a1), (0, s1.1), (9, 0), (9, 0)] [] z s1.2) ∧ (∀ x1 : rt_M, t = .inr x1 → RT G M_X5_solve d z Q 100 [(2, a0), (0, a1), (9, 0), (9, 0), (9, 0)] [] z x1)) : RT G M_X5_solve d z Q 39 [(2, a0), (0, a1), (0, s.1), (9, 0), (9, 0)] [] z s.2 := by
  unfold b_X5_solve_39 at h
  refine RT.iload_n (pc := 39) (k := 2) (x := s.1) dX5_solve_39 rfl ?_
  refine RT.bipush (pc := 40) (n := 64) dX5_solve_40 ⟨by decide, by decide⟩ rfl ?_
  refine RT.icmp_ge (pc := 42) (tgt := 100) dX5_solve_42 rfl (fun q42 => ?_) (fun q42 => ?_)
  · rw [if_pos q42] at h
    refine RT.wk (L1 := [(2, a0), (0, a1), (9, 0), (9, 0), (9, 0)]) (rt_le_s (rt_le_s (rt_le_j (rt_le_s (rt_le_s rt_le_n))))) ?_
    obtain rfl := Option.some.inj h
    have q1 := hK.2 s.2 rfl
    try dsimp only at q1
    exact q1
  · rw [if_neg q42] at h
    refine RT.aload_n (pc := 45) (k := 0) (x := a0) dX5_solve_45 rfl ?_
    obtain ⟨v46, hv46, h⟩ := Option.bind_eq_some_iff.mp h
    refine RT.gf 5 4 2 (pc := 46) (x := a0) (v := v46) hz dX5_solve_46 fl_X5_20 rfl hv46 ?_
    refine RT.iload_n (pc := 49) (k := 1) (x := a1) dX5_solve_49 rfl ?_
    refine RT.iconst (pc := 50) (n := 1) dX5_solve_50 ⟨by decide, by decide⟩ ?_
    refine RT.iadd (pc := 51) dX5_solve_51 ?_
    obtain ⟨v52, hv52, h⟩ := Option.bind_eq_some_iff.mp h
    refine RT.aald6 (pc := 52) (x := v46) (i := (rt_iadd a1 1)) (v := v52) dX5_solve_52 (rt_lta hz (by decide) (by decide) hv52) hv52 ?_
    refine RT.iload_n (pc := 53) (k := 2) (x := s.1) dX5_solve_53 rfl ?_
    obtain ⟨v54, hv54, h⟩ := Option.bind_eq_some_iff.mp h
    refine RT.iald (pc := 54) (x := v52) (i := s.1) (v := v54) dX5_solve_54 (rt_lta hz (by decide) (by decide) hv54) hv54 ?_
    refine RT.istore_n (pc := 55) (k := 3) (x := v54) (L1 := [(2, a0), (0, a1), (0, s.1), (0, v54), (9, 0)]) dX5_solve_55 (Nat.le_of_ble_eq_true rfl) rfl ?_
    refine RT.iconst (pc := 56) (n := 0) dX5_solve_56 ⟨by decide, by decide⟩ ?_
    refine RT.istore (pc := 57) (k := 4) (x := 0) (L1 := [(2, a0), (0, a1), (0, s.1), (0, v54), (0, 0)]) dX5_solve_57 (Nat.le_of_ble_eq_true rfl) rfl ?_
    obtain ⟨X59, hX59, h⟩ := Option.bind_eq_some_iff.mp h
    refine rt_it_ind (P := (fun s1 : Int × Int × rt_M => RT G M_X5_solve d z Q 59 [(2, a0), (0, a1), (0, s.1), (0, s1.1), (0, s1.2.1)] [] z s1.2.2)) (X := (fun x1 : Int × rt_M => RT G M_X5_solve d z Q 85 [(2, a0), (0, a1), (0, s.1), (0, x1.1), (9, 0)] [] z x1.2)) (fun s1 t1 h1 k1 k2 => cb_X5_solve_59 hz hd ht a1 s.1 s1 t1 h1 ⟨k1, k2⟩) 4000 ((v54, 0, s.2)) X59 hX59 ?_
    refine RT.aload_n (pc := 85) (k := 0) (x := a0) dX5_solve_85 rfl ?_
    obtain ⟨v86, hv86, h⟩ := Option.bind_eq_some_iff.mp h
    refine RT.gf 5 4 2 (pc := 86) (x := a0) (v := v86) hz dX5_solve_86 fl_X5_20 rfl hv86 ?_
    refine RT.iload_n (pc := 89) (k := 1) (x := a1) dX5_solve_89 rfl ?_
    obtain ⟨v90, hv90, h⟩ := Option.bind_eq_some_iff.mp h
    refine RT.aald6 (pc := 90) (x := v86) (i := a1) (v := v90) dX5_solve_90 (rt_lta hz (by decide) (by decide) hv90) hv90 ?_
    refine RT.iload_n (pc := 91) (k := 2) (x := s.1) dX5_solve_91 rfl ?_
    refine RT.iload_n (pc := 92) (k := 3) (x := X59.1) dX5_solve_92 rfl ?_
    obtain ⟨m93, hm93, h⟩ := Option.bind_eq_some_iff.mp h
    refine RT.iast (pc := 93) (x := v90) (i := s.1) (v := X59.1) (mem1 := m93) dX5_solve_93 (rt_lts hz (by decide) (by decide) hm93) hm93 ?_
    refine RT.iinc (pc := 94) (x := s.1) (L1 := [(2, a0), (0, a1), (0, (rt_iadd s.1 1)), (0, X59.1), (9, 0)]) dX5_solve_94 rfl (Nat.le_of_ble_eq_true rfl) ⟨by decide, by decide⟩ rfl ?_
    refine RT.goto (pc := 97) (tgt := 39) dX5_solve_97 rfl ?_
    refine RT.wk (L1 := [(2, a0), (0, a1), (0, (rt_iadd s.1 1)), (9, 0), (9, 0)]) (rt_le_s (rt_le_s (rt_le_s (rt_le_j (rt_le_s rt_le_n))))) ?_
    obtain rfl := Option.some.inj h
    have q1 := hK.1 (((rt_iadd s.1 1), m93)) rfl
    try dsimp only at q1
    exact q1
theorem cb_X5_solve_33 {G : rt_G} {d : Nat} {z : Nat × Nat} {Q : rt_P} (hz : 300 ≤ z.1) (hd : 2 ≤ d) {a0 : Int} (ht : rt_kd a0.toNat = 20 + 5) (s : Int × rt_M) (t : (Int × rt_M) ⊕ (rt_M)) (h : b_X5_solve_33 a0 s = some t) (hK : (∀ s1 : Int × rt_M, t = .inl s1 → RT G M_X5_solve d z Q 33 [(2, a0), (0, s1.1), (9, 0), (9, 0), (9, 0)] [] z s1.2) ∧ (∀ x1 : rt_M, t = .inr x1 → RT G M_X5_solve d z Q 106 [(2, a0), (9, 0), (9, 0), (9, 0), (9, 0)] [] z x1)) : RT G M_X5_solve d z Q 33 [(2, a0), (0, s.1), (9, 0), (9, 0), (9, 0)] [] z s.2 := by
  unfold b_X5_solve_33 at h
  refine RT.iload_n (pc := 33) (k := 1) (x := s.1) dX5_solve_33 rfl ?_
  refine RT.if_lt (pc := 34) (tgt := 106) dX5_solve_34 rfl (fun q34 => ?_) (fun q34 => ?_)
  · rw [if_pos q34] at h
    refine RT.wk (L1 := [(2, a0), (9, 0), (9, 0), (9, 0), (9, 0)]) (rt_le_s (rt_le_j (rt_le_s (rt_le_s (rt_le_s rt_le_n))))) ?_
    obtain rfl := Option.some.inj h
    have q1 := hK.2 s.2 rfl
    try dsimp only at q1
    exact q1
  · rw [if_neg q34] at h
    refine RT.iconst (pc := 37) (n := 0) dX5_solve_37 ⟨by decide, by decide⟩ ?_
    refine RT.istore_n (pc := 38) (k := 2) (x := 0) (L1 := [(2, a0), (0, s.1), (0, 0), (9, 0), (9, 0)]) dX5_solve_38 (Nat.le_of_ble_eq_true rfl) rfl ?_
    obtain ⟨X39, hX39, h⟩ := Option.bind_eq_some_iff.mp h
    refine rt_it_ind (P := (fun s1 : Int × rt_M => RT G M_X5_solve d z Q 39 [(2, a0), (0, s.1), (0, s1.1), (9, 0), (9, 0)] [] z s1.2)) (X := (fun x1 : rt_M => RT G M_X5_solve d z Q 100 [(2, a0), (0, s.1), (9, 0), (9, 0), (9, 0)] [] z x1)) (fun s1 t1 h1 k1 k2 => cb_X5_solve_39 hz hd ht s.1 s1 t1 h1 ⟨k1, k2⟩) 4000 ((0, s.2)) X39 hX39 ?_
    refine RT.iinc (pc := 100) (x := s.1) (L1 := [(2, a0), (0, (rt_iadd s.1 (-1))), (9, 0), (9, 0), (9, 0)]) dX5_solve_100 rfl (Nat.le_of_ble_eq_true rfl) ⟨by decide, by decide⟩ rfl ?_
    refine RT.goto (pc := 103) (tgt := 33) dX5_solve_103 rfl ?_
    obtain rfl := Option.some.inj h
    have q1 := hK.1 (((rt_iadd s.1 (-1)), X39)) rfl
    try dsimp only at q1
    exact q1
theorem c_X5_solve {G : rt_G} {d : Nat} {z : Nat × Nat} (hz : 300 ≤ z.1) (hd : 2 ≤ d) (a0 : Int) (mem0 : rt_M) (t : Int × rt_M) (ht : rt_kd a0.toNat = 20 + 5) (h : f_X5_solve a0 mem0 = some t) : RM G M_X5_solve d [(2, a0)] z mem0 (some (0, t.1)) t.2 := by
  suffices H : ∀ Q : rt_P, Q (some (0, t.1)) z t.2 → RT G M_X5_solve d z Q 0 [(2, a0), (9, 0), (9, 0), (9, 0), (9, 0)] [] z mem0 from H _ ⟨rfl, rfl, rfl⟩
  intro Q hK
  unfold f_X5_solve at h
  refine RT.iconst (pc := 0) (n := 0) dX5_solve_0 ⟨by decide, by decide⟩ ?_
  refine RT.istore_n (pc := 1) (k := 1) (x := 0) (L1 := [(2, a0), (0, 0), (9, 0), (9, 0), (9, 0)]) dX5_solve_1 (Nat.le_of_ble_eq_true rfl) rfl ?_
  obtain ⟨X2, hX2, h⟩ := Option.bind_eq_some_iff.mp h
  refine rt_it_ind (P := (fun s1 : Int × rt_M => RT G M_X5_solve d z Q 2 [(2, a0), (0, s1.1), (9, 0), (9, 0), (9, 0)] [] z s1.2)) (X := (fun x1 : rt_M => RT G M_X5_solve d z Q 26 [(2, a0), (9, 0), (9, 0), (9, 0), (9, 0)] [] z x1)) (fun s1 t1 h1 k1 k2 => cb_X5_solve_2 hz hd ht s1 t1 h1 ⟨k1, k2⟩) 4000 ((0, mem0)) X2 hX2 ?_
  refine RT.aload_n (pc := 26) (k := 0) (x := a0) dX5_solve_26 rfl ?_
  obtain ⟨v27, hv27, h⟩ := Option.bind_eq_some_iff.mp h
  refine RT.gf 5 0 0 (pc := 27) (x := a0) (v := v27) hz dX5_solve_27 fl_X5_35 rfl hv27 ?_
  refine RT.iconst (pc := 30) (n := 1) dX5_solve_30 ⟨by decide, by decide⟩ ?_
  refine RT.isub (pc := 31) dX5_solve_31 ?_
  refine RT.istore_n (pc := 32) (k := 1) (x := (rt_isub v27 1)) (L1 := [(2, a0), (0, (rt_isub v27 1)), (9, 0), (9, 0), (9, 0)]) dX5_solve_32 (Nat.le_of_ble_eq_true rfl) rfl ?_
  obtain ⟨X33, hX33, h⟩ := Option.bind_eq_some_iff.mp h
  refine rt_it_ind (P := (fun s1 : Int × rt_M => RT G M_X5_solve d z Q 33 [(2, a0), (0, s1.1), (9, 0), (9, 0), (9, 0)] [] z s1.2)) (X := (fun x1 : rt_M => RT G M_X5_solve d z Q 106 [(2, a0), (9, 0), (9, 0), (9, 0), (9, 0)] [] z x1)) (fun s1 t1 h1 k1 k2 => cb_X5_solve_33 hz hd ht s1 t1 h1 ⟨k1, k2⟩) 4000 (((rt_isub v27 1), X2)) X33 hX33 ?_
  refine RT.aload_n (pc := 106) (k := 0) (x := a0) dX5_solve_106 rfl ?_
  obtain ⟨p107, hp107, h⟩ := Option.bind_eq_some_iff.mp h
  refine RT.cVz (pc := 107) (M' := M_X5_keepFirstRow) (ci := 5) (x := a0) (As := []) (st := []) (r := none) (mem1 := p107) (d' := d - 1) hz dX5_solve_107 mw_X5_keepFirstRow ml_X5_47 mi_X5_keepFirstRow ht rfl rfl (Nat.le_of_ble_eq_true rfl) (Nat.le_of_ble_eq_true rfl) (by omega) rfl rfl (c_X5_keepFirstRow hz (by omega) a0 X33 _ ht hp107) ?_
  refine RT.aload_n (pc := 110) (k := 0) (x := a0) dX5_solve_110 rfl ?_
  obtain ⟨v111, hv111, h⟩ := Option.bind_eq_some_iff.mp h
  refine RT.gf 5 4 2 (pc := 111) (x := a0) (v := v111) hz dX5_solve_111 fl_X5_20 rfl hv111 ?_
  refine RT.iconst (pc := 114) (n := 0) dX5_solve_114 ⟨by decide, by decide⟩ ?_
  obtain ⟨v115, hv115, h⟩ := Option.bind_eq_some_iff.mp h
  refine RT.aald6 (pc := 115) (x := v111) (i := 0) (v := v115) dX5_solve_115 (rt_lta hz (by decide) (by decide) hv115) hv115 ?_
  refine RT.iconst (pc := 116) (n := 0) dX5_solve_116 ⟨by decide, by decide⟩ ?_
  obtain ⟨v117, hv117, h⟩ := Option.bind_eq_some_iff.mp h
  refine RT.iald (pc := 117) (x := v115) (i := 0) (v := v117) dX5_solve_117 (rt_lta hz (by decide) (by decide) hv117) hv117 ?_
  obtain rfl := Option.some.inj h
  exact RT.iret (pc := 118) dX5_solve_118 rfl (Nat.le_of_eq (rt_cells_0 z)) (Nat.le_of_eq (rt_slots_0 z)) hK
theorem c_X6_add {G : rt_G} {d : Nat} {z : Nat × Nat} (hz : 300 ≤ z.1) (hd : 0 ≤ d) (a0 : Int) (a1 : Int) (a2 : Int) (a3 : Int) (mem0 : rt_M) (t : Int × rt_M) (ht : rt_kd a0.toNat = 20 + 6) (h : f_X6_add a0 a1 a2 a3 mem0 = some t) : RM G M_X6_add d [(2, a0), (0, a1), (0, a2), (0, a3)] z mem0 (some (0, t.1)) t.2 := by
  suffices H : ∀ Q : rt_P, Q (some (0, t.1)) z t.2 → RT G M_X6_add d z Q 0 [(2, a0), (0, a1), (0, a2), (0, a3)] [] z mem0 from H _ ⟨rfl, rfl, rfl⟩
  intro Q hK
  unfold f_X6_add at h
  refine RT.aload_n (pc := 0) (k := 0) (x := a0) dX6_add_0 rfl ?_
  obtain ⟨v1, hv1, h⟩ := Option.bind_eq_some_iff.mp h
  refine RT.gf 6 0 0 (pc := 1) (x := a0) (v := v1) hz dX6_add_1 fl_X6_22 rfl hv1 ?_
  refine RT.bipush (pc := 4) (n := 8) dX6_add_4 ⟨by decide, by decide⟩ rfl ?_
  refine RT.icmp_lt (pc := 6) (tgt := 11) dX6_add_6 rfl (fun q6 => ?_) (fun q6 => ?_)
  · rw [if_pos q6] at h
    refine RT.aload_n (pc := 11) (k := 0) (x := a0) dX6_add_11 rfl ?_
    obtain ⟨v12, hv12, h⟩ := Option.bind_eq_some_iff.mp h
    refine RT.gf 6 1 2 (pc := 12) (x := a0) (v := v12) hz dX6_add_12 fl_X6_9 rfl hv12 ?_
    refine RT.aload_n (pc := 15) (k := 0) (x := a0) dX6_add_15 rfl ?_
    obtain ⟨v16, hv16, h⟩ := Option.bind_eq_some_iff.mp h
    refine RT.gf 6 0 0 (pc := 16) (x := a0) (v := v16) hz dX6_add_16 fl_X6_22 rfl hv16 ?_
    refine RT.iload_n (pc := 19) (k := 1) (x := a1) dX6_add_19 rfl ?_
    obtain ⟨m20, hm20, h⟩ := Option.bind_eq_some_iff.mp h
    refine RT.iast (pc := 20) (x := v12) (i := v16) (v := a1) (mem1 := m20) dX6_add_20 (rt_lts hz (by decide) (by decide) hm20) hm20 ?_
    refine RT.aload_n (pc := 21) (k := 0) (x := a0) dX6_add_21 rfl ?_
    obtain ⟨v22, hv22, h⟩ := Option.bind_eq_some_iff.mp h
    refine RT.gf 6 2 2 (pc := 22) (x := a0) (v := v22) hz dX6_add_22 fl_X6_15 rfl hv22 ?_
    refine RT.aload_n (pc := 25) (k := 0) (x := a0) dX6_add_25 rfl ?_
    obtain ⟨v26, hv26, h⟩ := Option.bind_eq_some_iff.mp h
    refine RT.gf 6 0 0 (pc := 26) (x := a0) (v := v26) hz dX6_add_26 fl_X6_22 rfl hv26 ?_
    refine RT.iload_n (pc := 29) (k := 2) (x := a2) dX6_add_29 rfl ?_
    obtain ⟨m30, hm30, h⟩ := Option.bind_eq_some_iff.mp h
    refine RT.iast (pc := 30) (x := v22) (i := v26) (v := a2) (mem1 := m30) dX6_add_30 (rt_lts hz (by decide) (by decide) hm30) hm30 ?_
    refine RT.aload_n (pc := 31) (k := 0) (x := a0) dX6_add_31 rfl ?_
    obtain ⟨v32, hv32, h⟩ := Option.bind_eq_some_iff.mp h
    refine RT.gf 6 3 2 (pc := 32) (x := a0) (v := v32) hz dX6_add_32 fl_X6_18 rfl hv32 ?_
    refine RT.aload_n (pc := 35) (k := 0) (x := a0) dX6_add_35 rfl ?_
    obtain ⟨v36, hv36, h⟩ := Option.bind_eq_some_iff.mp h
    refine RT.gf 6 0 0 (pc := 36) (x := a0) (v := v36) hz dX6_add_36 fl_X6_22 rfl hv36 ?_
    refine RT.iload_n (pc := 39) (k := 3) (x := a3) dX6_add_39 rfl ?_
    obtain ⟨w40, hw40, h⟩ := Option.bind_eq_some_iff.mp h
    obtain ⟨m40, hm40, h⟩ := Option.bind_eq_some_iff.mp h
    refine RT.zast (pc := 40) (x := v32) (i := v36) (v := a3) (mem1 := m40) dX6_add_40 (rt_bz_ok hw40) (rt_lts hz (by decide) (by decide) hm40) hm40 ?_
    refine RT.aload_n (pc := 41) (k := 0) (x := a0) dX6_add_41 rfl ?_
    refine RT.dup (pc := 42) dX6_add_42 (show ¬ ((2 : Nat) = 1) by decide) ?_
    obtain ⟨v43, hv43, h⟩ := Option.bind_eq_some_iff.mp h
    refine RT.gf 6 0 0 (pc := 43) (x := a0) (v := v43) hz dX6_add_43 fl_X6_22 rfl hv43 ?_
    refine RT.iconst (pc := 46) (n := 1) dX6_add_46 ⟨by decide, by decide⟩ ?_
    refine RT.iadd (pc := 47) dX6_add_47 ?_
    obtain ⟨m48, hm48, h⟩ := Option.bind_eq_some_iff.mp h
    refine RT.pf_i 6 0 (pc := 48) (mem1 := m48) hz dX6_add_48 fl_X6_22 rfl rfl rfl hm48 ?_
    refine RT.iconst (pc := 51) (n := 1) dX6_add_51 ⟨by decide, by decide⟩ ?_
    obtain rfl := Option.some.inj h
    exact RT.zret (pc := 52) dX6_add_52 rfl (by decide) (Nat.le_of_eq (rt_cells_0 z)) (Nat.le_of_eq (rt_slots_0 z)) hK
  · rw [if_neg q6] at h
    refine RT.iconst (pc := 9) (n := 0) dX6_add_9 ⟨by decide, by decide⟩ ?_
    obtain rfl := Option.some.inj h
    exact RT.zret (pc := 10) dX6_add_10 rfl (by decide) (Nat.le_of_eq (rt_cells_0 z)) (Nat.le_of_eq (rt_slots_0 z)) hK
theorem cj_X6_possible_64_16 {G : rt_G} {d : Nat} {z : Nat × Nat} {Q : rt_P} (hz : 300 ≤ z.1) (hd : 3 ≤ d) {a0 : Int} (ht : rt_kd a0.toNat = 20 + 6) (a1 : Int) (a2 : Int) (a3 : Int) (a5 : Int) (s0 : Int) (mem0 : rt_M) (t : (Int × Int × rt_M) ⊕ (Int × rt_M)) (h : j_X6_possible_64_16 a0 a1 a2 a3 a5 s0 mem0 = some t) (hK : (∀ s1 : Int × Int × rt_M, t = .inl s1 → RT G M_X6_possible d z Q 16 [(2, a0), (2, a1), (0, a2), (0, a3), (0, s1.1), (0, s1.2.1)] [] z s1.2.2) ∧ (∀ x1 : Int × rt_M, t = .inr x1 → RT G M_X6_possible d z Q 72 [(2, a0), (2, a1), (0, a2), (0, a3), (0, x1.1), (9, 0)] [] z x1.2)) : RT G M_X6_possible d z Q 64 [(2, a0), (2, a1), (0, a2), (0, a3), (9, 0), (0, a5)] [(0, s0)] z mem0 := by
  unfold j_X6_possible_64_16 at h
  refine RT.istore (pc := 64) (k := 4) (x := s0) (L1 := [(2, a0), (2, a1), (0, a2), (0, a3), (0, s0), (0, a5)]) dX6_possible_64 (Nat.le_of_ble_eq_true rfl) rfl ?_
  refine RT.iinc (pc := 66) (x := a5) (L1 := [(2, a0), (2, a1), (0, a2), (0, a3), (0, s0), (0, (rt_iadd a5 1))]) dX6_possible_66 rfl (Nat.le_of_ble_eq_true rfl) ⟨by decide, by decide⟩ rfl ?_
  refine RT.goto (pc := 69) (tgt := 16) dX6_possible_69 rfl ?_
  obtain rfl := Option.some.inj h
  have q1 := hK.1 ((s0, (rt_iadd a5 1), mem0)) rfl
  try dsimp only at q1
  exact q1
theorem cb_X6_possible_16 {G : rt_G} {d : Nat} {z : Nat × Nat} {Q : rt_P} (hz : 300 ≤ z.1) (hd : 3 ≤ d) {a0 : Int} (ht : rt_kd a0.toNat = 20 + 6) (a1 : Int) (a2 : Int) (a3 : Int) (s : Int × Int × rt_M) (t : (Int × Int × rt_M) ⊕ (Int × rt_M)) (h : b_X6_possible_16 a0 a1 a2 a3 s = some t) (hK : (∀ s1 : Int × Int × rt_M, t = .inl s1 → RT G M_X6_possible d z Q 16 [(2, a0), (2, a1), (0, a2), (0, a3), (0, s1.1), (0, s1.2.1)] [] z s1.2.2) ∧ (∀ x1 : Int × rt_M, t = .inr x1 → RT G M_X6_possible d z Q 72 [(2, a0), (2, a1), (0, a2), (0, a3), (0, x1.1), (9, 0)] [] z x1.2)) : RT G M_X6_possible d z Q 16 [(2, a0), (2, a1), (0, a2), (0, a3), (0, s.1), (0, s.2.1)] [] z s.2.2 := by
  unfold b_X6_possible_16 at h
  refine RT.iload (pc := 16) (k := 5) (x := s.2.1) dX6_possible_16 rfl ?_
  refine RT.aload_n (pc := 18) (k := 0) (x := a0) dX6_possible_18 rfl ?_
  obtain ⟨v19, hv19, h⟩ := Option.bind_eq_some_iff.mp h
  refine RT.gf 6 0 0 (pc := 19) (x := a0) (v := v19) hz dX6_possible_19 fl_X6_22 rfl hv19 ?_
  refine RT.icmp_ge (pc := 22) (tgt := 72) dX6_possible_22 rfl (fun q22 => ?_) (fun q22 => ?_)
  · rw [if_pos q22] at h
    refine RT.wk (L1 := [(2, a0), (2, a1), (0, a2), (0, a3), (0, s.1), (9, 0)]) (rt_le_s (rt_le_s (rt_le_s (rt_le_s (rt_le_s (rt_le_j rt_le_n)))))) ?_
    obtain rfl := Option.some.inj h
    have q1 := hK.2 ((s.1, s.2.2)) rfl
    try dsimp only at q1
    exact q1
  · rw [if_neg q22] at h
    refine RT.iload (pc := 25) (k := 4) (x := s.1) dX6_possible_25 rfl ?_
    refine RT.if_eq (pc := 27) (tgt := 72) dX6_possible_27 rfl (fun q27 => ?_) (fun q27 => ?_)
    · rw [if_pos q27] at h
      refine RT.wk (L1 := [(2, a0), (2, a1), (0, a2), (0, a3), (0, s.1), (9, 0)]) (rt_le_s (rt_le_s (rt_le_s (rt_le_s (rt_le_s (rt_le_j rt_le_n)))))) ?_
      obtain rfl := Option.some.inj h
      have q1 := hK.2 ((s.1, s.2.2)) rfl
      try dsimp only at q1
      exact q1
    · rw [if_neg q27] at h
      refine RT.aload_n (pc := 30) (k := 1) (x := a1) dX6_possible_30 rfl ?_
      refine RT.iload_n (pc := 31) (k := 3) (x := a3) dX6_possible_31 rfl ?_
      refine RT.aload_n (pc := 32) (k := 0) (x := a0) dX6_possible_32 rfl ?_
      obtain ⟨v33, hv33, h⟩ := Option.bind_eq_some_iff.mp h
      refine RT.gf 6 1 2 (pc := 33) (x := a0) (v := v33) hz dX6_possible_33 fl_X6_9 rfl hv33 ?_
      refine RT.iload (pc := 36) (k := 5) (x := s.2.1) dX6_possible_36 rfl ?_
      obtain ⟨v38, hv38, h⟩ := Option.bind_eq_some_iff.mp h
      refine RT.iald (pc := 38) (x := v33) (i := s.2.1) (v := v38) dX6_possible_38 (rt_lta hz (by decide) (by decide) hv38) hv38 ?_
      refine RT.aload_n (pc := 39) (k := 0) (x := a0) dX6_possible_39 rfl ?_
      obtain ⟨v40, hv40, h⟩ := Option.bind_eq_some_iff.mp h
      refine RT.gf 6 2 2 (pc := 40) (x := a0) (v := v40) hz dX6_possible_40 fl_X6_15 rfl hv40 ?_
      refine RT.iload (pc := 43) (k := 5) (x := s.2.1) dX6_possible_43 rfl ?_
      obtain ⟨v45, hv45, h⟩ := Option.bind_eq_some_iff.mp h
      refine RT.iald (pc := 45) (x := v40) (i := s.2.1) (v := v45) dX6_possible_45 (rt_lta hz (by decide) (by decide) hv45) hv45 ?_
      obtain ⟨p46, hp46, h⟩ := Option.bind_eq_some_iff.mp h
      obtain ⟨hk46, hp46⟩ := rt_gd_some hp46
      refine RT.cVz (pc := 46) (M' := M_X4_isFor) (ci := 4) (x := a1) (As := [(0, a3), (0, v38), (0, v45)]) (st := []) (r := some (0, p46.1)) (mem1 := p46.2) (d' := d - 1) hz dX6_possible_46 mw_X4_isFor ml_X6_26 mi_X4_isFor hk46 rfl rfl (Nat.le_of_ble_eq_true rfl) (Nat.le_of_ble_eq_true rfl) (by omega) rfl rfl (c_X4_isFor hz (by omega) a1 a3 v38 v45 s.2.2 _ hk46 hp46) ?_
      refine RT.aload_n (pc := 49) (k := 0) (x := a0) dX6_possible_49 rfl ?_
      obtain ⟨v50, hv50, h⟩ := Option.bind_eq_some_iff.mp h
      refine RT.gf 6 3 2 (pc := 50) (x := a0) (v := v50) hz dX6_possible_50 fl_X6_18 rfl hv50 ?_
      refine RT.iload (pc := 53) (k := 5) (x := s.2.1) dX6_possible_53 rfl ?_
      obtain ⟨v55, hv55, h⟩ := Option.bind_eq_some_iff.mp h
      refine RT.zald (pc := 55) (x := v50) (i := s.2.1) (v := v55) dX6_possible_55 (rt_lta hz (by decide) (by decide) hv55) hv55 ?_
      refine RT.icmp_ne (pc := 56) (tgt := 63) dX6_possible_56 rfl (fun q56 => ?_) (fun q56 => ?_)
      · rw [if_neg q56] at h
        refine RT.iconst (pc := 63) (n := 0) dX6_possible_63 ⟨by decide, by decide⟩ ?_
        refine RT.wk (L1 := [(2, a0), (2, a1), (0, a2), (0, a3), (9, 0), (0, s.2.1)]) (rt_le_s (rt_le_s (rt_le_s (rt_le_s (rt_le_j (rt_le_s rt_le_n)))))) ?_
        exact cj_X6_possible_64_16 hz hd ht a1 a2 a3 s.2.1 0 p46.2 _ h hK
      · rw [if_pos (Classical.not_not.mp q56)] at h
        refine RT.iconst (pc := 59) (n := 1) dX6_possible_59 ⟨by decide, by decide⟩ ?_
        refine RT.goto (pc := 60) (tgt := 64) dX6_possible_60 rfl ?_
        refine RT.wk (L1 := [(2, a0), (2, a1), (0, a2), (0, a3), (9, 0), (0, s.2.1)]) (rt_le_s (rt_le_s (rt_le_s (rt_le_s (rt_le_j (rt_le_s rt_le_n)))))) ?_
        exact cj_X6_possible_64_16 hz hd ht a1 a2 a3 s.2.1 1 p46.2 _ h hK
theorem cj_X6_possible_83_4 {G : rt_G} {d : Nat} {z : Nat × Nat} {Q : rt_P} (hz : 300 ≤ z.1) (hd : 3 ≤ d) {a0 : Int} (ht : rt_kd a0.toNat = 20 + 6) (a1 : Int) (a2 : Int) (a3 : Int) (mem0 : rt_M) (t : (Int × Int × rt_M) ⊕ (Int × rt_M)) (h : j_X6_possible_83_4 a0 a1 a2 a3 mem0 = some t) (hK : (∀ s1 : Int × Int × rt_M, t = .inl s1 → RT G M_X6_possible d z Q 4 [(2, a0), (2, a1), (0, s1.1), (0, s1.2.1), (9, 0), (9, 0)] [] z s1.2.2) ∧ (∀ x1 : Int × rt_M, t = .inr x1 → RT G M_X6_possible d z Q 89 [(9, 0), (9, 0), (0, x1.1), (9, 0), (9, 0), (9, 0)] [] z x1.2)) : RT G M_X6_possible d z Q 83 [(2, a0), (2, a1), (0, a2), (0, a3), (9, 0), (9, 0)] [] z mem0 := by
  unfold j_X6_possible_83_4 at h
  refine RT.iinc (pc := 83) (x := a3) (L1 := [(2, a0), (2, a1), (0, a2), (0, (rt_iadd a3 1)), (9, 0), (9, 0)]) dX6_possible_83 rfl (Nat.le_of_ble_eq_true rfl) ⟨by decide, by decide⟩ rfl ?_
  refine RT.goto (pc := 86) (tgt := 4) dX6_possible_86 rfl ?_
  obtain rfl := Option.some.inj h
  have q1 := hK.1 ((a2, (rt_iadd a3 1), mem0)) rfl
  try dsimp only at q1
  exact q1
theorem cb_X6_possible_4 {G : rt_G} {d : Nat} {z : Nat × Nat} {Q : rt_P} (hz : 300 ≤ z.1) (hd : 3 ≤ d) {a0 : Int} (ht : rt_kd a0.toNat = 20 + 6) (a1 : Int) (s : Int × Int × rt_M) (t : (Int × Int × rt_M) ⊕ (Int × rt_M)) (h : b_X6_possible_4 a0 a1 s = some t) (hK : (∀ s1 : Int × Int × rt_M, t = .inl s1 → RT G M_X6_possible d z Q 4 [(2, a0), (2, a1), (0, s1.1), (0, s1.2.1), (9, 0), (9, 0)] [] z s1.2.2) ∧ (∀ x1 : Int × rt_M, t = .inr x1 → RT G M_X6_possible d z Q 89 [(9, 0), (9, 0), (0, x1.1), (9, 0), (9, 0), (9, 0)] [] z x1.2)) : RT G M_X6_possible d z Q 4 [(2, a0), (2, a1), (0, s.1), (0, s.2.1), (9, 0), (9, 0)] [] z s.2.2 := by
  unfold b_X6_possible_4 at h
  refine RT.iload_n (pc := 4) (k := 3) (x := s.2.1) dX6_possible_4 rfl ?_
  refine RT.bipush (pc := 5) (n := 9) dX6_possible_5 ⟨by decide, by decide⟩ rfl ?_
  refine RT.icmp_gt (pc := 7) (tgt := 89) dX6_possible_7 rfl (fun q7 => ?_) (fun q7 => ?_)
  · rw [if_pos q7] at h
    refine RT.wk (L1 := [(9, 0), (9, 0), (0, s.1), (9, 0), (9, 0), (9, 0)]) (rt_le_j (rt_le_j (rt_le_s (rt_le_j (rt_le_s (rt_le_s rt_le_n)))))) ?_
    obtain rfl := Option.some.inj h
    have q1 := hK.2 ((s.1, s.2.2)) rfl
    try dsimp only at q1
    exact q1
  · rw [if_neg q7] at h
    refine RT.iconst (pc := 10) (n := 1) dX6_possible_10 ⟨by decide, by decide⟩ ?_
    refine RT.istore (pc := 11) (k := 4) (x := 1) (L1 := [(2, a0), (2, a1), (0, s.1), (0, s.2.1), (0, 1), (9, 0)]) dX6_possible_11 (Nat.le_of_ble_eq_true rfl) rfl ?_
    refine RT.iconst (pc := 13) (n := 0) dX6_possible_13 ⟨by decide, by decide⟩ ?_
    refine RT.istore (pc := 14) (k := 5) (x := 0) (L1 := [(2, a0), (2, a1), (0, s.1), (0, s.2.1), (0, 1), (0, 0)]) dX6_possible_14 (Nat.le_of_ble_eq_true rfl) rfl ?_
    obtain ⟨X16, hX16, h⟩ := Option.bind_eq_some_iff.mp h
    refine rt_it_ind (P := (fun s1 : Int × Int × rt_M => RT G M_X6_possible d z Q 16 [(2, a0), (2, a1), (0, s.1), (0, s.2.1), (0, s1.1), (0, s1.2.1)] [] z s1.2.2)) (X := (fun x1 : Int × rt_M => RT G M_X6_possible d z Q 72 [(2, a0), (2, a1), (0, s.1), (0, s.2.1), (0, x1.1), (9, 0)] [] z x1.2)) (fun s1 t1 h1 k1 k2 => cb_X6_possible_16 hz hd ht a1 s.1 s.2.1 s1 t1 h1 ⟨k1, k2⟩) 4000 ((1, 0, s.2.2)) X16 hX16 ?_
    refine RT.iload (pc := 72) (k := 4) (x := X16.1) dX6_possible_72 rfl ?_
    refine RT.if_eq (pc := 74) (tgt := 83) dX6_possible_74 rfl (fun q74 => ?_) (fun q74 => ?_)
    · rw [if_pos q74] at h
      refine RT.wk (L1 := [(2, a0), (2, a1), (0, s.1), (0, s.2.1), (9, 0), (9, 0)]) (rt_le_s (rt_le_s (rt_le_s (rt_le_s (rt_le_j (rt_le_s rt_le_n)))))) ?_
      exact cj_X6_possible_83_4 hz hd ht a1 s.1 s.2.1 X16.2 _ h hK
    · rw [if_neg q74] at h
      refine RT.iload_n (pc := 77) (k := 2) (x := s.1) dX6_possible_77 rfl ?_
      refine RT.iconst (pc := 78) (n := 1) dX6_possible_78 ⟨by decide, by decide⟩ ?_
      refine RT.iload_n (pc := 79) (k := 3) (x := s.2.1) dX6_possible_79 rfl ?_
      refine RT.ishl (pc := 80) dX6_possible_80 ?_
      refine RT.ior (pc := 81) dX6_possible_81 ?_
      refine RT.istore_n (pc := 82) (k := 2) (x := (rt_ior s.1 (rt_ishl 1 s.2.1))) (L1 := [(2, a0), (2, a1), (0, (rt_ior s.1 (rt_ishl 1 s.2.1))), (0, s.2.1), (0, X16.1), (9, 0)]) dX6_possible_82 (Nat.le_of_ble_eq_true rfl) rfl ?_
      refine RT.wk (L1 := [(2, a0), (2, a1), (0, (rt_ior s.1 (rt_ishl 1 s.2.1))), (0, s.2.1), (9, 0), (9, 0)]) (rt_le_s (rt_le_s (rt_le_s (rt_le_s (rt_le_j (rt_le_s rt_le_n)))))) ?_
      exact cj_X6_possible_83_4 hz hd ht a1 ((rt_ior s.1 (rt_ishl 1 s.2.1))) s.2.1 X16.2 _ h hK
theorem c_X6_possible {G : rt_G} {d : Nat} {z : Nat × Nat} (hz : 300 ≤ z.1) (hd : 3 ≤ d) (a0 : Int) (a1 : Int) (mem0 : rt_M) (t : Int × rt_M) (ht : rt_kd a0.toNat = 20 + 6) (h : f_X6_possible a0 a1 mem0 = some t) : RM G M_X6_possible d [(2, a0), (2, a1)] z mem0 (some (0, t.1)) t.2 := by
  suffices H : ∀ Q : rt_P, Q (some (0, t.1)) z t.2 → RT G M_X6_possible d z Q 0 [(2, a0), (2, a1), (9, 0), (9, 0), (9, 0), (9, 0)] [] z mem0 from H _ ⟨rfl, rfl, rfl⟩
  intro Q hK
  unfold f_X6_possible at h
  refine RT.iconst (pc := 0) (n := 0) dX6_possible_0 ⟨by decide, by decide⟩ ?_
  refine RT.istore_n (pc := 1) (k := 2) (x := 0) (L1 := [(2, a0), (2, a1), (0, 0), (9, 0), (9, 0), (9, 0)]) dX6_possible_1 (Nat.le_of_ble_eq_true rfl) rfl ?_
  refine RT.iconst (pc := 2) (n := 0) dX6_possible_2 ⟨by decide, by decide⟩ ?_
  refine RT.istore_n (pc := 3) (k := 3) (x := 0) (L1 := [(2, a0), (2, a1), (0, 0), (0, 0), (9, 0), (9, 0)]) dX6_possible_3 (Nat.le_of_ble_eq_true rfl) rfl ?_
  obtain ⟨X4, hX4, h⟩ := Option.bind_eq_some_iff.mp h
  refine rt_it_ind (P := (fun s1 : Int × Int × rt_M => RT G M_X6_possible d z Q 4 [(2, a0), (2, a1), (0, s1.1), (0, s1.2.1), (9, 0), (9, 0)] [] z s1.2.2)) (X := (fun x1 : Int × rt_M => RT G M_X6_possible d z Q 89 [(9, 0), (9, 0), (0, x1.1), (9, 0), (9, 0), (9, 0)] [] z x1.2)) (fun s1 t1 h1 k1 k2 => cb_X6_possible_4 hz hd ht a1 s1 t1 h1 ⟨k1, k2⟩) 4000 ((0, 0, mem0)) X4 hX4 ?_
  refine RT.iload_n (pc := 89) (k := 2) (x := X4.1) dX6_possible_89 rfl ?_
  obtain rfl := Option.some.inj h
  exact RT.iret (pc := 90) dX6_possible_90 rfl (Nat.le_of_eq (rt_cells_0 z)) (Nat.le_of_eq (rt_slots_0 z)) hK
theorem cj_X7_headUnder_20 {G : rt_G} {d : Nat} {z : Nat × Nat} {Q : rt_P} (hz : 300 ≤ z.1) (hd : 0 ≤ d) {a0 : Int} (ht : rt_kd a0.toNat = 20 + 7) (s0 : Int) (mem0 : rt_M) (t : Int) (h : j_X7_headUnder_20 s0 mem0 = some t) (hK : Q (some (0, t)) z mem0) : RT G M_X7_headUnder d z Q 20 [(9, 0), (9, 0)] [(0, s0)] z mem0 := by
  unfold j_X7_headUnder_20 at h
  obtain rfl := Option.some.inj h
  exact RT.iret (pc := 20) dX7_headUnder_20 rfl (Nat.le_of_eq (rt_cells_0 z)) (Nat.le_of_eq (rt_slots_0 z)) hK
theorem cj_X7_headUnder_19 {G : rt_G} {d : Nat} {z : Nat × Nat} {Q : rt_P} (hz : 300 ≤ z.1) (hd : 0 ≤ d) {a0 : Int} (ht : rt_kd a0.toNat = 20 + 7) (mem0 : rt_M) (t : Int) (h : j_X7_headUnder_19 mem0 = some t) (hK : Q (some (0, t)) z mem0) : RT G M_X7_headUnder d z Q 19 [(9, 0), (9, 0)] [] z mem0 := by
  unfold j_X7_headUnder_19 at h
  refine RT.iconst (pc := 19) (n := (-1)) dX7_headUnder_19 ⟨by decide, by decide⟩ ?_
  exact cj_X7_headUnder_20 hz hd ht ((-1)) mem0 _ h hK
theorem c_X7_headUnder {G : rt_G} {d : Nat} {z : Nat × Nat} (hz : 300 ≤ z.1) (hd : 0 ≤ d) (a0 : Int) (a1 : Int) (mem0 : rt_M) (t : Int) (ht : rt_kd a0.toNat = 20 + 7) (h : f_X7_headUnder a0 a1 mem0 = some t) : RM G M_X7_headUnder d [(2, a0), (0, a1)] z mem0 (some (0, t)) mem0 := by
  suffices H : ∀ Q : rt_P, Q (some (0, t)) z mem0 → RT G M_X7_headUnder d z Q 0 [(2, a0), (0, a1)] [] z mem0 from H _ ⟨rfl, rfl, rfl⟩
  intro Q hK
  unfold f_X7_headUnder at h
  refine RT.iload_n (pc := 0) (k := 1) (x := a1) dX7_headUnder_0 rfl ?_
  refine RT.if_lt (pc := 1) (tgt := 19) dX7_headUnder_1 rfl (fun q1 => ?_) (fun q1 => ?_)
  · rw [if_pos q1] at h
    refine RT.wk (L1 := [(9, 0), (9, 0)]) (rt_le_j (rt_le_j rt_le_n)) ?_
    exact cj_X7_headUnder_19 hz hd ht mem0 _ h hK
  · rw [if_neg q1] at h
    refine RT.iload_n (pc := 4) (k := 1) (x := a1) dX7_headUnder_4 rfl ?_
    refine RT.bipush (pc := 5) (n := 6) dX7_headUnder_5 ⟨by decide, by decide⟩ rfl ?_
    refine RT.icmp_ge (pc := 7) (tgt := 19) dX7_headUnder_7 rfl (fun q7 => ?_) (fun q7 => ?_)
    · rw [if_pos q7] at h
      refine RT.wk (L1 := [(9, 0), (9, 0)]) (rt_le_j (rt_le_j rt_le_n)) ?_
      exact cj_X7_headUnder_19 hz hd ht mem0 _ h hK
    · rw [if_neg q7] at h
      refine RT.aload_n (pc := 10) (k := 0) (x := a0) dX7_headUnder_10 rfl ?_
      obtain ⟨v11, hv11, h⟩ := Option.bind_eq_some_iff.mp h
      refine RT.gf 7 1 2 (pc := 11) (x := a0) (v := v11) hz dX7_headUnder_11 fl_X7_9 rfl hv11 ?_
      refine RT.iload_n (pc := 14) (k := 1) (x := a1) dX7_headUnder_14 rfl ?_
      obtain ⟨v15, hv15, h⟩ := Option.bind_eq_some_iff.mp h
      refine RT.iald (pc := 15) (x := v11) (i := a1) (v := v15) dX7_headUnder_15 (rt_lta hz (by decide) (by decide) hv15) hv15 ?_
      refine RT.goto (pc := 16) (tgt := 20) dX7_headUnder_16 rfl ?_
      refine RT.wk (L1 := [(9, 0), (9, 0)]) (rt_le_j (rt_le_j rt_le_n)) ?_
      exact cj_X7_headUnder_20 hz hd ht v15 mem0 _ h hK
theorem cj_X7_wearOf_20 {G : rt_G} {d : Nat} {z : Nat × Nat} {Q : rt_P} (hz : 300 ≤ z.1) (hd : 0 ≤ d) {a0 : Int} (ht : rt_kd a0.toNat = 20 + 7) (s0 : Int) (mem0 : rt_M) (t : Int) (h : j_X7_wearOf_20 s0 mem0 = some t) (hK : Q (some (0, t)) z mem0) : RT G M_X7_wearOf d z Q 20 [(9, 0), (9, 0)] [(0, s0)] z mem0 := by
  unfold j_X7_wearOf_20 at h
  obtain rfl := Option.some.inj h
  exact RT.iret (pc := 20) dX7_wearOf_20 rfl (Nat.le_of_eq (rt_cells_0 z)) (Nat.le_of_eq (rt_slots_0 z)) hK
theorem cj_X7_wearOf_19 {G : rt_G} {d : Nat} {z : Nat × Nat} {Q : rt_P} (hz : 300 ≤ z.1) (hd : 0 ≤ d) {a0 : Int} (ht : rt_kd a0.toNat = 20 + 7) (mem0 : rt_M) (t : Int) (h : j_X7_wearOf_19 mem0 = some t) (hK : Q (some (0, t)) z mem0) : RT G M_X7_wearOf d z Q 19 [(9, 0), (9, 0)] [] z mem0 := by
  unfold j_X7_wearOf_19 at h
  refine RT.iconst (pc := 19) (n := 0) dX7_wearOf_19 ⟨by decide, by decide⟩ ?_
  exact cj_X7_wearOf_20 hz hd ht 0 mem0 _ h hK
theorem c_X7_wearOf {G : rt_G} {d : Nat} {z : Nat × Nat} (hz : 300 ≤ z.1) (hd : 0 ≤ d) (a0 : Int) (a1 : Int) (mem0 : rt_M) (t : Int) (ht : rt_kd a0.toNat = 20 + 7) (h : f_X7_wearOf a0 a1 mem0 = some t) : RM G M_X7_wearOf d [(2, a0), (0, a1)] z mem0 (some (0, t)) mem0 := by
  suffices H : ∀ Q : rt_P, Q (some (0, t)) z mem0 → RT G M_X7_wearOf d z Q 0 [(2, a0), (0, a1)] [] z mem0 from H _ ⟨rfl, rfl, rfl⟩
  intro Q hK
  unfold f_X7_wearOf at h
  refine RT.iload_n (pc := 0) (k := 1) (x := a1) dX7_wearOf_0 rfl ?_
  refine RT.if_lt (pc := 1) (tgt := 19) dX7_wearOf_1 rfl (fun q1 => ?_) (fun q1 => ?_)
  · rw [if_pos q1] at h
    refine RT.wk (L1 := [(9, 0), (9, 0)]) (rt_le_j (rt_le_j rt_le_n)) ?_
    exact cj_X7_wearOf_19 hz hd ht mem0 _ h hK
  · rw [if_neg q1] at h
    refine RT.iload_n (pc := 4) (k := 1) (x := a1) dX7_wearOf_4 rfl ?_
    refine RT.bipush (pc := 5) (n := 6) dX7_wearOf_5 ⟨by decide, by decide⟩ rfl ?_
    refine RT.icmp_ge (pc := 7) (tgt := 19) dX7_wearOf_7 rfl (fun q7 => ?_) (fun q7 => ?_)
    · rw [if_pos q7] at h
      refine RT.wk (L1 := [(9, 0), (9, 0)]) (rt_le_j (rt_le_j rt_le_n)) ?_
      exact cj_X7_wearOf_19 hz hd ht mem0 _ h hK
    · rw [if_neg q7] at h
      refine RT.aload_n (pc := 10) (k := 0) (x := a0) dX7_wearOf_10 rfl ?_
      obtain ⟨v11, hv11, h⟩ := Option.bind_eq_some_iff.mp h
      refine RT.gf 7 2 2 (pc := 11) (x := a0) (v := v11) hz dX7_wearOf_11 fl_X7_15 rfl hv11 ?_
      refine RT.iload_n (pc := 14) (k := 1) (x := a1) dX7_wearOf_14 rfl ?_
      obtain ⟨v15, hv15, h⟩ := Option.bind_eq_some_iff.mp h
      refine RT.iald (pc := 15) (x := v11) (i := a1) (v := v15) dX7_wearOf_15 (rt_lta hz (by decide) (by decide) hv15) hv15 ?_
      refine RT.goto (pc := 16) (tgt := 20) dX7_wearOf_16 rfl ?_
      refine RT.wk (L1 := [(9, 0), (9, 0)]) (rt_le_j (rt_le_j rt_le_n)) ?_
      exact cj_X7_wearOf_20 hz hd ht v15 mem0 _ h hK
theorem cj_X7_wigUpon_25_2 {G : rt_G} {d : Nat} {z : Nat × Nat} {Q : rt_P} (hz : 300 ≤ z.1) (hd : 0 ≤ d) {a0 : Int} (ht : rt_kd a0.toNat = 20 + 7) (a1 : Int) (a2 : Int) (mem0 : rt_M) (t : (Int) ⊕ ((Unit) ⊕ (Int))) (h : j_X7_wigUpon_25_2 a0 a1 a2 mem0 = some t) (hK : (∀ s1 : Int, t = .inl s1 → RT G M_X7_wigUpon d z Q 2 [(2, a0), (0, a1), (0, s1)] [] z mem0) ∧ (∀ x1 : Unit, t = .inr (.inl x1) → RT G M_X7_wigUpon d z Q 31 [(9, 0), (9, 0), (9, 0)] [] z mem0) ∧ (∀ t1 : Int, t = .inr (.inr t1) → Q (some (0, t1)) z mem0)) : RT G M_X7_wigUpon d z Q 25 [(2, a0), (0, a1), (0, a2)] [] z mem0 := by
  unfold j_X7_wigUpon_25_2 at h
  refine RT.iinc (pc := 25) (x := a2) (L1 := [(2, a0), (0, a1), (0, (rt_iadd a2 1))]) dX7_wigUpon_25 rfl (Nat.le_of_ble_eq_true rfl) ⟨by decide, by decide⟩ rfl ?_
  refine RT.goto (pc := 28) (tgt := 2) dX7_wigUpon_28 rfl ?_
  obtain rfl := Option.some.inj h
  have q1 := hK.1 ((rt_iadd a2 1)) rfl
  try dsimp only at q1
  exact q1
theorem cb_X7_wigUpon_2 {G : rt_G} {d : Nat} {z : Nat × Nat} {Q : rt_P} (hz : 300 ≤ z.1) (hd : 0 ≤ d) {a0 : Int} (ht : rt_kd a0.toNat = 20 + 7) (a1 : Int) (mem0 : rt_M) (s : Int) (t : (Int) ⊕ ((Unit) ⊕ (Int))) (h : b_X7_wigUpon_2 a0 a1 mem0 s = some t) (hK : (∀ s1 : Int, t = .inl s1 → RT G M_X7_wigUpon d z Q 2 [(2, a0), (0, a1), (0, s1)] [] z mem0) ∧ (∀ x1 : Unit, t = .inr (.inl x1) → RT G M_X7_wigUpon d z Q 31 [(9, 0), (9, 0), (9, 0)] [] z mem0) ∧ (∀ t1 : Int, t = .inr (.inr t1) → Q (some (0, t1)) z mem0)) : RT G M_X7_wigUpon d z Q 2 [(2, a0), (0, a1), (0, s)] [] z mem0 := by
  unfold b_X7_wigUpon_2 at h
  refine RT.iload_n (pc := 2) (k := 2) (x := s) dX7_wigUpon_2 rfl ?_
  refine RT.bipush (pc := 3) (n := 6) dX7_wigUpon_3 ⟨by decide, by decide⟩ rfl ?_
  refine RT.icmp_ge (pc := 5) (tgt := 31) dX7_wigUpon_5 rfl (fun q5 => ?_) (fun q5 => ?_)
  · rw [if_pos q5] at h
    refine RT.wk (L1 := [(9, 0), (9, 0), (9, 0)]) (rt_le_j (rt_le_j (rt_le_j rt_le_n))) ?_
    obtain rfl := Option.some.inj h
    have q1 := hK.2.1 () rfl
    try dsimp only at q1
    exact q1
  · rw [if_neg q5] at h
    refine RT.iload_n (pc := 8) (k := 1) (x := a1) dX7_wigUpon_8 rfl ?_
    refine RT.iconst (pc := 9) (n := (-1)) dX7_wigUpon_9 ⟨by decide, by decide⟩ ?_
    refine RT.icmp_eq (pc := 10) (tgt := 25) dX7_wigUpon_10 rfl (fun q10 => ?_) (fun q10 => ?_)
    · rw [if_pos q10] at h
      exact cj_X7_wigUpon_25_2 hz hd ht a1 s mem0 _ h hK
    · rw [if_neg q10] at h
      refine RT.aload_n (pc := 13) (k := 0) (x := a0) dX7_wigUpon_13 rfl ?_
      obtain ⟨v14, hv14, h⟩ := Option.bind_eq_some_iff.mp h
      refine RT.gf 7 1 2 (pc := 14) (x := a0) (v := v14) hz dX7_wigUpon_14 fl_X7_9 rfl hv14 ?_
      refine RT.iload_n (pc := 17) (k := 2) (x := s) dX7_wigUpon_17 rfl ?_
      obtain ⟨v18, hv18, h⟩ := Option.bind_eq_some_iff.mp h
      refine RT.iald (pc := 18) (x := v14) (i := s) (v := v18) dX7_wigUpon_18 (rt_lta hz (by decide) (by decide) hv18) hv18 ?_
      refine RT.iload_n (pc := 19) (k := 1) (x := a1) dX7_wigUpon_19 rfl ?_
      refine RT.icmp_ne (pc := 20) (tgt := 25) dX7_wigUpon_20 rfl (fun q20 => ?_) (fun q20 => ?_)
      · rw [if_neg q20] at h
        exact cj_X7_wigUpon_25_2 hz hd ht a1 s mem0 _ h hK
      · rw [if_pos (Classical.not_not.mp q20)] at h
        obtain ⟨t2, g2, e2⟩ := Option.map_eq_some_iff.mp h
        subst e2
        replace h := g2
        replace hK := hK.2.2 t2 rfl
        refine RT.iload_n (pc := 23) (k := 2) (x := s) dX7_wigUpon_23 rfl ?_
        obtain rfl := Option.some.inj h
        exact RT.iret (pc := 24) dX7_wigUpon_24 rfl (Nat.le_of_eq (rt_cells_0 z)) (Nat.le_of_eq (rt_slots_0 z)) hK
theorem c_X7_wigUpon {G : rt_G} {d : Nat} {z : Nat × Nat} (hz : 300 ≤ z.1) (hd : 0 ≤ d) (a0 : Int) (a1 : Int) (mem0 : rt_M) (t : Int) (ht : rt_kd a0.toNat = 20 + 7) (h : f_X7_wigUpon a0 a1 mem0 = some t) : RM G M_X7_wigUpon d [(2, a0), (0, a1)] z mem0 (some (0, t)) mem0 := by
  suffices H : ∀ Q : rt_P, Q (some (0, t)) z mem0 → RT G M_X7_wigUpon d z Q 0 [(2, a0), (0, a1), (9, 0)] [] z mem0 from H _ ⟨rfl, rfl, rfl⟩
  intro Q hK
  unfold f_X7_wigUpon at h
  refine RT.iconst (pc := 0) (n := 0) dX7_wigUpon_0 ⟨by decide, by decide⟩ ?_
  refine RT.istore_n (pc := 1) (k := 2) (x := 0) (L1 := [(2, a0), (0, a1), (0, 0)]) dX7_wigUpon_1 (Nat.le_of_ble_eq_true rfl) rfl ?_
  obtain ⟨E2, hE2, h⟩ := Option.bind_eq_some_iff.mp h
  refine rt_it_ind (P := (fun s1 : Int => RT G M_X7_wigUpon d z Q 2 [(2, a0), (0, a1), (0, s1)] [] z mem0)) (X := (fun e1 : (Unit) ⊕ (Int) => (∀ x1 : Unit, e1 = .inl x1 → RT G M_X7_wigUpon d z Q 31 [(9, 0), (9, 0), (9, 0)] [] z mem0) ∧ (∀ t1 : Int, e1 = .inr t1 → Q (some (0, t1)) z mem0))) (fun s1 t1 h1 k1 k2 => cb_X7_wigUpon_2 hz hd ht a1 mem0 s1 t1 h1 ⟨k1, fun x1 q => (k2 _ q).1 x1 rfl, fun t2 q => (k2 _ q).2 t2 rfl⟩) 4000 0 E2 hE2 ?_
  cases E2 with
  | inr t1 =>
    obtain rfl := Option.some.inj h
    exact ⟨fun x1 q => (by cases q), fun t2 q => (by cases q; exact hK)⟩
  | inl X2 =>
    refine ⟨fun x1 q => ?_, fun t2 q => (by cases q)⟩
    cases q
    refine RT.iconst (pc := 31) (n := (-1)) dX7_wigUpon_31 ⟨by decide, by decide⟩ ?_
    obtain rfl := Option.some.inj h
    exact RT.iret (pc := 32) dX7_wigUpon_32 rfl (Nat.le_of_eq (rt_cells_0 z)) (Nat.le_of_eq (rt_slots_0 z)) hK
