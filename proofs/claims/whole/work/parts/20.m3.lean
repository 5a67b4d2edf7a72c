theorem cj_X7_canPut_64 {G : rt_G} {d : Nat} {z : Nat × Nat} {Q : rt_P} (hz : 300 ≤ z.1) (hd : 4 ≤ d) {a0 : Int} (ht : rt_kd a0.toNat = 20 + 7) (s0 : Int) (mem0 : rt_M) (t : Int × rt_M) (h : j_X7_canPut_64 s0 mem0 = some t) (hK : Q (some (0, t.1)) z t.2) : RT G M_X7_canPut d z Q 64 [(9, 0), (9, 0), (9, 0), (9, 0)] [(0, s0)] z mem0 := by
  unfold j_X7_canPut_64 at h
  obtain ⟨w64, hw64, h⟩ := Option.bind_eq_some_iff.mp h
  obtain rfl := Option.some.inj h
  exact RT.zret (pc := 64) dX7_canPut_64 rfl (rt_bz_ok hw64) (Nat.le_of_eq (rt_cells_0 z)) (Nat.le_of_eq (rt_slots_0 z)) hK
theorem cj_X7_canPut_63 {G : rt_G} {d : Nat} {z : Nat × Nat} {Q : rt_P} (hz : 300 ≤ z.1) (hd : 4 ≤ d) {a0 : Int} (ht : rt_kd a0.toNat = 20 + 7) (mem0 : rt_M) (t : Int × rt_M) (h : j_X7_canPut_63 mem0 = some t) (hK : Q (some (0, t.1)) z t.2) : RT G M_X7_canPut d z Q 63 [(9, 0), (9, 0), (9, 0), (9, 0)] [] z mem0 := by
  unfold j_X7_canPut_63 at h
  refine RT.iconst (pc := 63) (n := 0) dX7_canPut_63 ⟨by decide, by decide⟩ ?_
  exact cj_X7_canPut_64 hz hd ht 0 mem0 _ h hK
theorem c_X7_canPut {G : rt_G} {d : Nat} {z : Nat × Nat} (hz : 300 ≤ z.1) (hd : 4 ≤ d) (a0 : Int) (a1 : Int) (a2 : Int) (a3 : Int) (mem0 : rt_M) (t : Int × rt_M) (ht : rt_kd a0.toNat = 20 + 7) (h : f_X7_canPut a0 a1 a2 a3 mem0 = some t) : RM G M_X7_canPut d [(2, a0), (2, a1), (0, a2), (0, a3)] z mem0 (some (0, t.1)) t.2 := by
  suffices H : ∀ Q : rt_P, Q (some (0, t.1)) z t.2 → RT G M_X7_canPut d z Q 0 [(2, a0), (2, a1), (0, a2), (0, a3)] [] z mem0 from H _ ⟨rfl, rfl, rfl⟩
  intro Q hK
  unfold f_X7_canPut at h
  refine RT.aload_n (pc := 0) (k := 1) (x := a1) dX7_canPut_0 rfl ?_
  refine RT.iload_n (pc := 1) (k := 2) (x := a2) dX7_canPut_1 rfl ?_
  obtain ⟨p2, hp2, h⟩ := Option.bind_eq_some_iff.mp h
  obtain ⟨hk2, hp2⟩ := rt_gd_some hp2
  refine RT.cVz (pc := 2) (M' := M_X4_isWig) (ci := 4) (x := a1) (As := [(0, a2)]) (st := []) (r := some (0, p2)) (mem1 := mem0) (d' := d - 1) hz dX7_canPut_2 mw_X4_isWig ml_X7_22 mi_X4_isWig hk2 rfl rfl (Nat.le_of_ble_eq_true rfl) (Nat.le_of_ble_eq_true rfl) (by omega) rfl rfl (c_X4_isWig hz (by omega) a1 a2 mem0 _ hk2 hp2) ?_
  refine RT.if_eq (pc := 5) (tgt := 63) dX7_canPut_5 rfl (fun q5 => ?_) (fun q5 => ?_)
  · rw [if_pos q5] at h
    refine RT.wk (L1 := [(9, 0), (9, 0), (9, 0), (9, 0)]) (rt_le_j (rt_le_j (rt_le_j (rt_le_j rt_le_n)))) ?_
    exact cj_X7_canPut_63 hz hd ht mem0 _ h hK
  · rw [if_neg q5] at h
    refine RT.aload_n (pc := 8) (k := 1) (x := a1) dX7_canPut_8 rfl ?_
    refine RT.iload_n (pc := 9) (k := 3) (x := a3) dX7_canPut_9 rfl ?_
    obtain ⟨p10, hp10, h⟩ := Option.bind_eq_some_iff.mp h
    obtain ⟨hk10, hp10⟩ := rt_gd_some hp10
    refine RT.cVz (pc := 10) (M' := M_X4_isHead) (ci := 4) (x := a1) (As := [(0, a3)]) (st := []) (r := some (0, p10)) (mem1 := mem0) (d' := d - 1) hz dX7_canPut_10 mw_X4_isHead ml_X7_28 mi_X4_isHead hk10 rfl rfl (Nat.le_of_ble_eq_true rfl) (Nat.le_of_ble_eq_true rfl) (by omega) rfl rfl (c_X4_isHead hz (by omega) a1 a3 mem0 _ hk10 hp10) ?_
    refine RT.if_eq (pc := 13) (tgt := 63) dX7_canPut_13 rfl (fun q13 => ?_) (fun q13 => ?_)
    · rw [if_pos q13] at h
      refine RT.wk (L1 := [(9, 0), (9, 0), (9, 0), (9, 0)]) (rt_le_j (rt_le_j (rt_le_j (rt_le_j rt_le_n)))) ?_
      exact cj_X7_canPut_63 hz hd ht mem0 _ h hK
    · rw [if_neg q13] at h
      refine RT.aload_n (pc := 16) (k := 0) (x := a0) dX7_canPut_16 rfl ?_
      obtain ⟨v17, hv17, h⟩ := Option.bind_eq_some_iff.mp h
      refine RT.gf 7 1 2 (pc := 17) (x := a0) (v := v17) hz dX7_canPut_17 fl_X7_9 rfl hv17 ?_
      refine RT.iload_n (pc := 20) (k := 2) (x := a2) dX7_canPut_20 rfl ?_
      obtain ⟨v21, hv21, h⟩ := Option.bind_eq_some_iff.mp h
      refine RT.iald (pc := 21) (x := v17) (i := a2) (v := v21) dX7_canPut_21 (rt_lta hz (by decide) (by decide) hv21) hv21 ?_
      refine RT.iconst (pc := 22) (n := (-1)) dX7_canPut_22 ⟨by decide, by decide⟩ ?_
      refine RT.icmp_ne (pc := 23) (tgt := 63) dX7_canPut_23 rfl (fun q23 => ?_) (fun q23 => ?_)
      · rw [if_neg q23] at h
        refine RT.wk (L1 := [(9, 0), (9, 0), (9, 0), (9, 0)]) (rt_le_j (rt_le_j (rt_le_j (rt_le_j rt_le_n)))) ?_
        exact cj_X7_canPut_63 hz hd ht mem0 _ h hK
      · rw [if_pos (Classical.not_not.mp q23)] at h
        refine RT.aload_n (pc := 26) (k := 0) (x := a0) dX7_canPut_26 rfl ?_
        obtain ⟨v27, hv27, h⟩ := Option.bind_eq_some_iff.mp h
        refine RT.gf 7 2 2 (pc := 27) (x := a0) (v := v27) hz dX7_canPut_27 fl_X7_15 rfl hv27 ?_
        refine RT.iload_n (pc := 30) (k := 2) (x := a2) dX7_canPut_30 rfl ?_
        obtain ⟨v31, hv31, h⟩ := Option.bind_eq_some_iff.mp h
        refine RT.iald (pc := 31) (x := v27) (i := a2) (v := v31) dX7_canPut_31 (rt_lta hz (by decide) (by decide) hv31) hv31 ?_
        refine RT.bipush (pc := 32) (n := 9) dX7_canPut_32 ⟨by decide, by decide⟩ rfl ?_
        refine RT.icmp_ge (pc := 34) (tgt := 63) dX7_canPut_34 rfl (fun q34 => ?_) (fun q34 => ?_)
        · rw [if_pos q34] at h
          refine RT.wk (L1 := [(9, 0), (9, 0), (9, 0), (9, 0)]) (rt_le_j (rt_le_j (rt_le_j (rt_le_j rt_le_n)))) ?_
          exact cj_X7_canPut_63 hz hd ht mem0 _ h hK
        · rw [if_neg q34] at h
          refine RT.aload_n (pc := 37) (k := 0) (x := a0) dX7_canPut_37 rfl ?_
          refine RT.iload_n (pc := 38) (k := 3) (x := a3) dX7_canPut_38 rfl ?_
          obtain ⟨p39, hp39, h⟩ := Option.bind_eq_some_iff.mp h
          refine RT.cVz (pc := 39) (M' := M_X7_wigUpon) (ci := 7) (x := a0) (As := [(0, a3)]) (st := []) (r := some (0, p39)) (mem1 := mem0) (d' := d - 1) hz dX7_canPut_39 mw_X7_wigUpon ml_X7_31 mi_X7_wigUpon ht rfl rfl (Nat.le_of_ble_eq_true rfl) (Nat.le_of_ble_eq_true rfl) (by omega) rfl rfl (c_X7_wigUpon hz (by omega) a0 a3 mem0 _ ht hp39) ?_
          refine RT.iconst (pc := 42) (n := (-1)) dX7_canPut_42 ⟨by decide, by decide⟩ ?_
          refine RT.icmp_ne (pc := 43) (tgt := 63) dX7_canPut_43 rfl (fun q43 => ?_) (fun q43 => ?_)
          · rw [if_neg q43] at h
            refine RT.wk (L1 := [(9, 0), (9, 0), (9, 0), (9, 0)]) (rt_le_j (rt_le_j (rt_le_j (rt_le_j rt_le_n)))) ?_
            exact cj_X7_canPut_63 hz hd ht mem0 _ h hK
          · rw [if_pos (Classical.not_not.mp q43)] at h
            refine RT.aload_n (pc := 46) (k := 1) (x := a1) dX7_canPut_46 rfl ?_
            refine RT.iload_n (pc := 47) (k := 2) (x := a2) dX7_canPut_47 rfl ?_
            refine RT.iload_n (pc := 48) (k := 3) (x := a3) dX7_canPut_48 rfl ?_
            refine RT.aload_n (pc := 49) (k := 0) (x := a0) dX7_canPut_49 rfl ?_
            obtain ⟨v50, hv50, h⟩ := Option.bind_eq_some_iff.mp h
            refine RT.gf 7 0 0 (pc := 50) (x := a0) (v := v50) hz dX7_canPut_50 fl_X7_18 rfl hv50 ?_
            obtain ⟨p53, hp53, h⟩ := Option.bind_eq_some_iff.mp h
            obtain ⟨hk53, hp53⟩ := rt_gd_some hp53
            refine RT.cVz (pc := 53) (M' := M_X4_isFit) (ci := 4) (x := a1) (As := [(0, a2), (0, a3), (0, v50)]) (st := []) (r := some (0, p53.1)) (mem1 := p53.2) (d' := d - 1) hz dX7_canPut_53 mw_X4_isFit ml_X7_35 mi_X4_isFit hk53 rfl rfl (Nat.le_of_ble_eq_true rfl) (Nat.le_of_ble_eq_true rfl) (by omega) rfl rfl (c_X4_isFit hz (by omega) a1 a2 a3 v50 mem0 _ hk53 hp53) ?_
            refine RT.if_eq (pc := 56) (tgt := 63) dX7_canPut_56 rfl (fun q56 => ?_) (fun q56 => ?_)
            · rw [if_pos q56] at h
              refine RT.wk (L1 := [(9, 0), (9, 0), (9, 0), (9, 0)]) (rt_le_j (rt_le_j (rt_le_j (rt_le_j rt_le_n)))) ?_
              exact cj_X7_canPut_63 hz hd ht p53.2 _ h hK
            · rw [if_neg q56] at h
              refine RT.iconst (pc := 59) (n := 1) dX7_canPut_59 ⟨by decide, by decide⟩ ?_
              refine RT.goto (pc := 60) (tgt := 64) dX7_canPut_60 rfl ?_
              refine RT.wk (L1 := [(9, 0), (9, 0), (9, 0), (9, 0)]) (rt_le_j (rt_le_j (rt_le_j (rt_le_j rt_le_n)))) ?_
              exact cj_X7_canPut_64 hz hd ht 1 p53.2 _ h hK
theorem cj_X7_canTakeOff_23 {G : rt_G} {d : Nat} {z : Nat × Nat} {Q : rt_P} (hz : 300 ≤ z.1) (hd : 1 ≤ d) {a0 : Int} (ht : rt_kd a0.toNat = 20 + 7) (s0 : Int) (mem0 : rt_M) (t : Int) (h : j_X7_canTakeOff_23 s0 mem0 = some t) (hK : Q (some (0, t)) z mem0) : RT G M_X7_canTakeOff d z Q 23 [(9, 0), (9, 0), (9, 0)] [(0, s0)] z mem0 := by
  unfold j_X7_canTakeOff_23 at h
  obtain ⟨w23, hw23, h⟩ := Option.bind_eq_some_iff.mp h
  obtain rfl := Option.some.inj h
  exact RT.zret (pc := 23) dX7_canTakeOff_23 rfl (rt_bz_ok hw23) (Nat.le_of_eq (rt_cells_0 z)) (Nat.le_of_eq (rt_slots_0 z)) hK
theorem cj_X7_canTakeOff_22 {G : rt_G} {d : Nat} {z : Nat × Nat} {Q : rt_P} (hz : 300 ≤ z.1) (hd : 1 ≤ d) {a0 : Int} (ht : rt_kd a0.toNat = 20 + 7) (mem0 : rt_M) (t : Int) (h : j_X7_canTakeOff_22 mem0 = some t) (hK : Q (some (0, t)) z mem0) : RT G M_X7_canTakeOff d z Q 22 [(9, 0), (9, 0), (9, 0)] [] z mem0 := by
  unfold j_X7_canTakeOff_22 at h
  refine RT.iconst (pc := 22) (n := 0) dX7_canTakeOff_22 ⟨by decide, by decide⟩ ?_
  exact cj_X7_canTakeOff_23 hz hd ht 0 mem0 _ h hK
theorem c_X7_canTakeOff {G : rt_G} {d : Nat} {z : Nat × Nat} (hz : 300 ≤ z.1) (hd : 1 ≤ d) (a0 : Int) (a1 : Int) (a2 : Int) (mem0 : rt_M) (t : Int) (ht : rt_kd a0.toNat = 20 + 7) (h : f_X7_canTakeOff a0 a1 a2 mem0 = some t) : RM G M_X7_canTakeOff d [(2, a0), (2, a1), (0, a2)] z mem0 (some (0, t)) mem0 := by
  suffices H : ∀ Q : rt_P, Q (some (0, t)) z mem0 → RT G M_X7_canTakeOff d z Q 0 [(2, a0), (2, a1), (0, a2)] [] z mem0 from H _ ⟨rfl, rfl, rfl⟩
  intro Q hK
  unfold f_X7_canTakeOff at h
  refine RT.aload_n (pc := 0) (k := 1) (x := a1) dX7_canTakeOff_0 rfl ?_
  refine RT.iload_n (pc := 1) (k := 2) (x := a2) dX7_canTakeOff_1 rfl ?_
  obtain ⟨p2, hp2, h⟩ := Option.bind_eq_some_iff.mp h
  obtain ⟨hk2, hp2⟩ := rt_gd_some hp2
  refine RT.cVz (pc := 2) (M' := M_X4_isWig) (ci := 4) (x := a1) (As := [(0, a2)]) (st := []) (r := some (0, p2)) (mem1 := mem0) (d' := d - 1) hz dX7_canTakeOff_2 mw_X4_isWig ml_X7_22 mi_X4_isWig hk2 rfl rfl (Nat.le_of_ble_eq_true rfl) (Nat.le_of_ble_eq_true rfl) (by omega) rfl rfl (c_X4_isWig hz (by omega) a1 a2 mem0 _ hk2 hp2) ?_
  refine RT.if_eq (pc := 5) (tgt := 22) dX7_canTakeOff_5 rfl (fun q5 => ?_) (fun q5 => ?_)
  · rw [if_pos q5] at h
    refine RT.wk (L1 := [(9, 0), (9, 0), (9, 0)]) (rt_le_j (rt_le_j (rt_le_j rt_le_n))) ?_
    exact cj_X7_canTakeOff_22 hz hd ht mem0 _ h hK
  · rw [if_neg q5] at h
    refine RT.aload_n (pc := 8) (k := 0) (x := a0) dX7_canTakeOff_8 rfl ?_
    obtain ⟨v9, hv9, h⟩ := Option.bind_eq_some_iff.mp h
    refine RT.gf 7 1 2 (pc := 9) (x := a0) (v := v9) hz dX7_canTakeOff_9 fl_X7_9 rfl hv9 ?_
    refine RT.iload_n (pc := 12) (k := 2) (x := a2) dX7_canTakeOff_12 rfl ?_
    obtain ⟨v13, hv13, h⟩ := Option.bind_eq_some_iff.mp h
    refine RT.iald (pc := 13) (x := v9) (i := a2) (v := v13) dX7_canTakeOff_13 (rt_lta hz (by decide) (by decide) hv13) hv13 ?_
    refine RT.iconst (pc := 14) (n := (-1)) dX7_canTakeOff_14 ⟨by decide, by decide⟩ ?_
    refine RT.icmp_eq (pc := 15) (tgt := 22) dX7_canTakeOff_15 rfl (fun q15 => ?_) (fun q15 => ?_)
    · rw [if_pos q15] at h
      refine RT.wk (L1 := [(9, 0), (9, 0), (9, 0)]) (rt_le_j (rt_le_j (rt_le_j rt_le_n))) ?_
      exact cj_X7_canTakeOff_22 hz hd ht mem0 _ h hK
    · rw [if_neg q15] at h
      refine RT.iconst (pc := 18) (n := 1) dX7_canTakeOff_18 ⟨by decide, by decide⟩ ?_
      refine RT.goto (pc := 19) (tgt := 23) dX7_canTakeOff_19 rfl ?_
      refine RT.wk (L1 := [(9, 0), (9, 0), (9, 0)]) (rt_le_j (rt_le_j (rt_le_j rt_le_n))) ?_
      exact cj_X7_canTakeOff_23 hz hd ht 1 mem0 _ h hK
theorem cj_X7_canMend_23 {G : rt_G} {d : Nat} {z : Nat × Nat} {Q : rt_P} (hz : 300 ≤ z.1) (hd : 1 ≤ d) {a0 : Int} (ht : rt_kd a0.toNat = 20 + 7) (s0 : Int) (mem0 : rt_M) (t : Int) (h : j_X7_canMend_23 s0 mem0 = some t) (hK : Q (some (0, t)) z mem0) : RT G M_X7_canMend d z Q 23 [(9, 0), (9, 0), (9, 0)] [(0, s0)] z mem0 := by
  unfold j_X7_canMend_23 at h
  obtain ⟨w23, hw23, h⟩ := Option.bind_eq_some_iff.mp h
  obtain rfl := Option.some.inj h
  exact RT.zret (pc := 23) dX7_canMend_23 rfl (rt_bz_ok hw23) (Nat.le_of_eq (rt_cells_0 z)) (Nat.le_of_eq (rt_slots_0 z)) hK
theorem cj_X7_canMend_22 {G : rt_G} {d : Nat} {z : Nat × Nat} {Q : rt_P} (hz : 300 ≤ z.1) (hd : 1 ≤ d) {a0 : Int} (ht : rt_kd a0.toNat = 20 + 7) (mem0 : rt_M) (t : Int) (h : j_X7_canMend_22 mem0 = some t) (hK : Q (some (0, t)) z mem0) : RT G M_X7_canMend d z Q 22 [(9, 0), (9, 0), (9, 0)] [] z mem0 := by
  unfold j_X7_canMend_22 at h
  refine RT.iconst (pc := 22) (n := 0) dX7_canMend_22 ⟨by decide, by decide⟩ ?_
  exact cj_X7_canMend_23 hz hd ht 0 mem0 _ h hK
theorem c_X7_canMend {G : rt_G} {d : Nat} {z : Nat × Nat} (hz : 300 ≤ z.1) (hd : 1 ≤ d) (a0 : Int) (a1 : Int) (a2 : Int) (mem0 : rt_M) (t : Int) (ht : rt_kd a0.toNat = 20 + 7) (h : f_X7_canMend a0 a1 a2 mem0 = some t) : RM G M_X7_canMend d [(2, a0), (2, a1), (0, a2)] z mem0 (some (0, t)) mem0 := by
  suffices H : ∀ Q : rt_P, Q (some (0, t)) z mem0 → RT G M_X7_canMend d z Q 0 [(2, a0), (2, a1), (0, a2)] [] z mem0 from H _ ⟨rfl, rfl, rfl⟩
  intro Q hK
  unfold f_X7_canMend at h
  refine RT.aload_n (pc := 0) (k := 1) (x := a1) dX7_canMend_0 rfl ?_
  refine RT.iload_n (pc := 1) (k := 2) (x := a2) dX7_canMend_1 rfl ?_
  obtain ⟨p2, hp2, h⟩ := Option.bind_eq_some_iff.mp h
  obtain ⟨hk2, hp2⟩ := rt_gd_some hp2
  refine RT.cVz (pc := 2) (M' := M_X4_isWig) (ci := 4) (x := a1) (As := [(0, a2)]) (st := []) (r := some (0, p2)) (mem1 := mem0) (d' := d - 1) hz dX7_canMend_2 mw_X4_isWig ml_X7_22 mi_X4_isWig hk2 rfl rfl (Nat.le_of_ble_eq_true rfl) (Nat.le_of_ble_eq_true rfl) (by omega) rfl rfl (c_X4_isWig hz (by omega) a1 a2 mem0 _ hk2 hp2) ?_
  refine RT.if_eq (pc := 5) (tgt := 22) dX7_canMend_5 rfl (fun q5 => ?_) (fun q5 => ?_)
  · rw [if_pos q5] at h
    refine RT.wk (L1 := [(9, 0), (9, 0), (9, 0)]) (rt_le_j (rt_le_j (rt_le_j rt_le_n))) ?_
    exact cj_X7_canMend_22 hz hd ht mem0 _ h hK
  · rw [if_neg q5] at h
    refine RT.aload_n (pc := 8) (k := 0) (x := a0) dX7_canMend_8 rfl ?_
    obtain ⟨v9, hv9, h⟩ := Option.bind_eq_some_iff.mp h
    refine RT.gf 7 1 2 (pc := 9) (x := a0) (v := v9) hz dX7_canMend_9 fl_X7_9 rfl hv9 ?_
    refine RT.iload_n (pc := 12) (k := 2) (x := a2) dX7_canMend_12 rfl ?_
    obtain ⟨v13, hv13, h⟩ := Option.bind_eq_some_iff.mp h
    refine RT.iald (pc := 13) (x := v9) (i := a2) (v := v13) dX7_canMend_13 (rt_lta hz (by decide) (by decide) hv13) hv13 ?_
    refine RT.iconst (pc := 14) (n := (-1)) dX7_canMend_14 ⟨by decide, by decide⟩ ?_
    refine RT.icmp_ne (pc := 15) (tgt := 22) dX7_canMend_15 rfl (fun q15 => ?_) (fun q15 => ?_)
    · rw [if_neg q15] at h
      refine RT.wk (L1 := [(9, 0), (9, 0), (9, 0)]) (rt_le_j (rt_le_j (rt_le_j rt_le_n))) ?_
      exact cj_X7_canMend_22 hz hd ht mem0 _ h hK
    · rw [if_pos (Classical.not_not.mp q15)] at h
      refine RT.iconst (pc := 18) (n := 1) dX7_canMend_18 ⟨by decide, by decide⟩ ?_
      refine RT.goto (pc := 19) (tgt := 23) dX7_canMend_19 rfl ?_
      refine RT.wk (L1 := [(9, 0), (9, 0), (9, 0)]) (rt_le_j (rt_le_j (rt_le_j rt_le_n))) ?_
      exact cj_X7_canMend_23 hz hd ht 1 mem0 _ h hK
theorem cj_X7_place_17 {G : rt_G} {d : Nat} {z : Nat × Nat} {Q : rt_P} (hz : 300 ≤ z.1) (hd : 0 ≤ d) {a0 : Int} (ht : rt_kd a0.toNat = 20 + 7) (mem0 : rt_M) (t : rt_M) (h : j_X7_place_17 mem0 = some t) (hK : Q none z t) : RT G M_X7_place d z Q 17 [(9, 0), (9, 0), (9, 0)] [] z mem0 := by
  unfold j_X7_place_17 at h
  obtain rfl := Option.some.inj h
  exact RT.vret (pc := 17) dX7_place_17 rfl (Nat.le_of_eq (rt_cells_0 z)) (Nat.le_of_eq (rt_slots_0 z)) hK
theorem c_X7_place {G : rt_G} {d : Nat} {z : Nat × Nat} (hz : 300 ≤ z.1) (hd : 0 ≤ d) (a0 : Int) (a1 : Int) (a2 : Int) (mem0 : rt_M) (t : rt_M) (ht : rt_kd a0.toNat = 20 + 7) (h : f_X7_place a0 a1 a2 mem0 = some t) : RM G M_X7_place d [(2, a0), (0, a1), (0, a2)] z mem0 none t := by
  suffices H : ∀ Q : rt_P, Q none z t → RT G M_X7_place d z Q 0 [(2, a0), (0, a1), (0, a2)] [] z mem0 from H _ ⟨rfl, rfl, rfl⟩
  intro Q hK
  unfold f_X7_place at h
  refine RT.iload_n (pc := 0) (k := 1) (x := a1) dX7_place_0 rfl ?_
  refine RT.if_lt (pc := 1) (tgt := 17) dX7_place_1 rfl (fun q1 => ?_) (fun q1 => ?_)
  · rw [if_pos q1] at h
    refine RT.wk (L1 := [(9, 0), (9, 0), (9, 0)]) (rt_le_j (rt_le_j (rt_le_j rt_le_n))) ?_
    exact cj_X7_place_17 hz hd ht mem0 _ h hK
  · rw [if_neg q1] at h
    refine RT.iload_n (pc := 4) (k := 1) (x := a1) dX7_place_4 rfl ?_
    refine RT.bipush (pc := 5) (n := 6) dX7_place_5 ⟨by decide, by decide⟩ rfl ?_
    refine RT.icmp_ge (pc := 7) (tgt := 17) dX7_place_7 rfl (fun q7 => ?_) (fun q7 => ?_)
    · rw [if_pos q7] at h
      refine RT.wk (L1 := [(9, 0), (9, 0), (9, 0)]) (rt_le_j (rt_le_j (rt_le_j rt_le_n))) ?_
      exact cj_X7_place_17 hz hd ht mem0 _ h hK
    · rw [if_neg q7] at h
      refine RT.aload_n (pc := 10) (k := 0) (x := a0) dX7_place_10 rfl ?_
      obtain ⟨v11, hv11, h⟩ := Option.bind_eq_some_iff.mp h
      refine RT.gf 7 1 2 (pc := 11) (x := a0) (v := v11) hz dX7_place_11 fl_X7_9 rfl hv11 ?_
      refine RT.iload_n (pc := 14) (k := 1) (x := a1) dX7_place_14 rfl ?_
      refine RT.iload_n (pc := 15) (k := 2) (x := a2) dX7_place_15 rfl ?_
      obtain ⟨m16, hm16, h⟩ := Option.bind_eq_some_iff.mp h
      refine RT.iast (pc := 16) (x := v11) (i := a1) (v := a2) (mem1 := m16) dX7_place_16 (rt_lts hz (by decide) (by decide) hm16) hm16 ?_
      refine RT.wk (L1 := [(9, 0), (9, 0), (9, 0)]) (rt_le_j (rt_le_j (rt_le_j rt_le_n))) ?_
      exact cj_X7_place_17 hz hd ht m16 _ h hK
theorem cj_X7_makeNew_17 {G : rt_G} {d : Nat} {z : Nat × Nat} {Q : rt_P} (hz : 300 ≤ z.1) (hd : 0 ≤ d) {a0 : Int} (ht : rt_kd a0.toNat = 20 + 7) (mem0 : rt_M) (t : rt_M) (h : j_X7_makeNew_17 mem0 = some t) (hK : Q none z t) : RT G M_X7_makeNew d z Q 17 [(9, 0), (9, 0)] [] z mem0 := by
  unfold j_X7_makeNew_17 at h
  obtain rfl := Option.some.inj h
  exact RT.vret (pc := 17) dX7_makeNew_17 rfl (Nat.le_of_eq (rt_cells_0 z)) (Nat.le_of_eq (rt_slots_0 z)) hK
theorem c_X7_makeNew {G : rt_G} {d : Nat} {z : Nat × Nat} (hz : 300 ≤ z.1) (hd : 0 ≤ d) (a0 : Int) (a1 : Int) (mem0 : rt_M) (t : rt_M) (ht : rt_kd a0.toNat = 20 + 7) (h : f_X7_makeNew a0 a1 mem0 = some t) : RM G M_X7_makeNew d [(2, a0), (0, a1)] z mem0 none t := by
  suffices H : ∀ Q : rt_P, Q none z t → RT G M_X7_makeNew d z Q 0 [(2, a0), (0, a1)] [] z mem0 from H _ ⟨rfl, rfl, rfl⟩
  intro Q hK
  unfold f_X7_makeNew at h
  refine RT.iload_n (pc := 0) (k := 1) (x := a1) dX7_makeNew_0 rfl ?_
  refine RT.if_lt (pc := 1) (tgt := 17) dX7_makeNew_1 rfl (fun q1 => ?_) (fun q1 => ?_)
  · rw [if_pos q1] at h
    refine RT.wk (L1 := [(9, 0), (9, 0)]) (rt_le_j (rt_le_j rt_le_n)) ?_
    exact cj_X7_makeNew_17 hz hd ht mem0 _ h hK
  · rw [if_neg q1] at h
    refine RT.iload_n (pc := 4) (k := 1) (x := a1) dX7_makeNew_4 rfl ?_
    refine RT.bipush (pc := 5) (n := 6) dX7_makeNew_5 ⟨by decide, by decide⟩ rfl ?_
    refine RT.icmp_ge (pc := 7) (tgt := 17) dX7_makeNew_7 rfl (fun q7 => ?_) (fun q7 => ?_)
    · rw [if_pos q7] at h
      refine RT.wk (L1 := [(9, 0), (9, 0)]) (rt_le_j (rt_le_j rt_le_n)) ?_
      exact cj_X7_makeNew_17 hz hd ht mem0 _ h hK
    · rw [if_neg q7] at h
      refine RT.aload_n (pc := 10) (k := 0) (x := a0) dX7_makeNew_10 rfl ?_
      obtain ⟨v11, hv11, h⟩ := Option.bind_eq_some_iff.mp h
      refine RT.gf 7 2 2 (pc := 11) (x := a0) (v := v11) hz dX7_makeNew_11 fl_X7_15 rfl hv11 ?_
      refine RT.iload_n (pc := 14) (k := 1) (x := a1) dX7_makeNew_14 rfl ?_
      refine RT.iconst (pc := 15) (n := 0) dX7_makeNew_15 ⟨by decide, by decide⟩ ?_
      obtain ⟨m16, hm16, h⟩ := Option.bind_eq_some_iff.mp h
      refine RT.iast (pc := 16) (x := v11) (i := a1) (v := 0) (mem1 := m16) dX7_makeNew_16 (rt_lts hz (by decide) (by decide) hm16) hm16 ?_
      refine RT.wk (L1 := [(9, 0), (9, 0)]) (rt_le_j (rt_le_j rt_le_n)) ?_
      exact cj_X7_makeNew_17 hz hd ht m16 _ h hK
theorem cj_X7_pass_39_2 {G : rt_G} {d : Nat} {z : Nat × Nat} {Q : rt_P} (hz : 300 ≤ z.1) (hd : 4 ≤ d) {a0 : Int} (ht : rt_kd a0.toNat = 20 + 7) (a1 : Int) (a2 : Int) (mem0 : rt_M) (t : (Int × rt_M) ⊕ (rt_M)) (h : j_X7_pass_39_2 a0 a1 a2 mem0 = some t) (hK : (∀ s1 : Int × rt_M, t = .inl s1 → RT G M_X7_pass d z Q 2 [(2, a0), (2, a1), (0, s1.1), (9, 0)] [] z s1.2) ∧ (∀ x1 : rt_M, t = .inr x1 → RT G M_X7_pass d z Q 45 [(2, a0), (2, a1), (9, 0), (9, 0)] [] z x1)) : RT G M_X7_pass d z Q 39 [(2, a0), (2, a1), (0, a2), (9, 0)] [] z mem0 := by
  unfold j_X7_pass_39_2 at h
  refine RT.iinc (pc := 39) (x := a2) (L1 := [(2, a0), (2, a1), (0, (rt_iadd a2 1)), (9, 0)]) dX7_pass_39 rfl (Nat.le_of_ble_eq_true rfl) ⟨by decide, by decide⟩ rfl ?_
  refine RT.goto (pc := 42) (tgt := 2) dX7_pass_42 rfl ?_
  obtain rfl := Option.some.inj h
  have q1 := hK.1 (((rt_iadd a2 1), mem0)) rfl
  try dsimp only at q1
  exact q1
theorem cb_X7_pass_2 {G : rt_G} {d : Nat} {z : Nat × Nat} {Q : rt_P} (hz : 300 ≤ z.1) (hd : 4 ≤ d) {a0 : Int} (ht : rt_kd a0.toNat = 20 + 7) (a1 : Int) (s : Int × rt_M) (t : (Int × rt_M) ⊕ (rt_M)) (h : b_X7_pass_2 a0 a1 s = some t) (hK : (∀ s1 : Int × rt_M, t = .inl s1 → RT G M_X7_pass d z Q 2 [(2, a0), (2, a1), (0, s1.1), (9, 0)] [] z s1.2) ∧ (∀ x1 : rt_M, t = .inr x1 → RT G M_X7_pass d z Q 45 [(2, a0), (2, a1), (9, 0), (9, 0)] [] z x1)) : RT G M_X7_pass d z Q 2 [(2, a0), (2, a1), (0, s.1), (9, 0)] [] z s.2 := by
  unfold b_X7_pass_2 at h
  refine RT.iload_n (pc := 2) (k := 2) (x := s.1) dX7_pass_2 rfl ?_
  refine RT.aload_n (pc := 3) (k := 1) (x := a1) dX7_pass_3 rfl ?_
  obtain ⟨v4, hv4, h⟩ := Option.bind_eq_some_iff.mp h
  refine RT.gf 4 0 0 (pc := 4) (x := a1) (v := v4) hz dX7_pass_4 fl_X7_39 rfl hv4 ?_
  refine RT.icmp_ge (pc := 7) (tgt := 45) dX7_pass_7 rfl (fun q7 => ?_) (fun q7 => ?_)
  · rw [if_pos q7] at h
    refine RT.wk (L1 := [(2, a0), (2, a1), (9, 0), (9, 0)]) (rt_le_s (rt_le_s (rt_le_j (rt_le_s rt_le_n)))) ?_
    obtain rfl := Option.some.inj h
    have q1 := hK.2 s.2 rfl
    try dsimp only at q1
    exact q1
  · rw [if_neg q7] at h
    refine RT.aload_n (pc := 10) (k := 0) (x := a0) dX7_pass_10 rfl ?_
    obtain ⟨v11, hv11, h⟩ := Option.bind_eq_some_iff.mp h
    refine RT.gf 7 1 2 (pc := 11) (x := a0) (v := v11) hz dX7_pass_11 fl_X7_9 rfl hv11 ?_
    refine RT.iload_n (pc := 14) (k := 2) (x := s.1) dX7_pass_14 rfl ?_
    obtain ⟨v15, hv15, h⟩ := Option.bind_eq_some_iff.mp h
    refine RT.iald (pc := 15) (x := v11) (i := s.1) (v := v15) dX7_pass_15 (rt_lta hz (by decide) (by decide) hv15) hv15 ?_
    refine RT.iconst (pc := 16) (n := (-1)) dX7_pass_16 ⟨by decide, by decide⟩ ?_
    refine RT.icmp_ne (pc := 17) (tgt := 39) dX7_pass_17 rfl (fun q17 => ?_) (fun q17 => ?_)
    · rw [if_neg q17] at h
      exact cj_X7_pass_39_2 hz hd ht a1 s.1 s.2 _ h hK
    · rw [if_pos (Classical.not_not.mp q17)] at h
      refine RT.aload_n (pc := 20) (k := 0) (x := a0) dX7_pass_20 rfl ?_
      obtain ⟨v21, hv21, h⟩ := Option.bind_eq_some_iff.mp h
      refine RT.gf 7 2 2 (pc := 21) (x := a0) (v := v21) hz dX7_pass_21 fl_X7_15 rfl hv21 ?_
      refine RT.iload_n (pc := 24) (k := 2) (x := s.1) dX7_pass_24 rfl ?_
      refine RT.bipush (pc := 25) (n := 9) dX7_pass_25 ⟨by decide, by decide⟩ rfl ?_
      refine RT.aload_n (pc := 27) (k := 0) (x := a0) dX7_pass_27 rfl ?_
      obtain ⟨v28, hv28, h⟩ := Option.bind_eq_some_iff.mp h
      refine RT.gf 7 2 2 (pc := 28) (x := a0) (v := v28) hz dX7_pass_28 fl_X7_15 rfl hv28 ?_
      refine RT.iload_n (pc := 31) (k := 2) (x := s.1) dX7_pass_31 rfl ?_
      obtain ⟨v32, hv32, h⟩ := Option.bind_eq_some_iff.mp h
      refine RT.iald (pc := 32) (x := v28) (i := s.1) (v := v32) dX7_pass_32 (rt_lta hz (by decide) (by decide) hv32) hv32 ?_
      refine RT.iconst (pc := 33) (n := 1) dX7_pass_33 ⟨by decide, by decide⟩ ?_
      refine RT.iadd (pc := 34) dX7_pass_34 ?_
      obtain ⟨p35, hp35, h⟩ := Option.bind_eq_some_iff.mp h
      refine RT.cSz (pc := 35) (M' := M_J9_min_7cf53) (As := [(0, 9), (0, (rt_iadd v32 1))]) (st := [(0, s.1), (2, v21)]) (r := some (0, p35)) (mem1 := s.2) (d' := d - 1) dX7_pass_35 mw_J9_min_7cf53 ml_X7_42 mi_J9_min_7cf53 rfl rfl (Nat.le_of_ble_eq_true rfl) (Nat.le_of_ble_eq_true rfl) (by omega) rfl rfl (c_J9_min_7cf53 hz (by omega) 9 ((rt_iadd v32 1)) s.2 _ hp35) ?_
      obtain ⟨m38, hm38, h⟩ := Option.bind_eq_some_iff.mp h
      refine RT.iast (pc := 38) (x := v21) (i := s.1) (v := p35) (mem1 := m38) dX7_pass_38 (rt_lts hz (by decide) (by decide) hm38) hm38 ?_
      exact cj_X7_pass_39_2 hz hd ht a1 s.1 m38 _ h hK
theorem cj_X7_pass_105_59 {G : rt_G} {d : Nat} {z : Nat × Nat} {Q : rt_P} (hz : 300 ≤ z.1) (hd : 4 ≤ d) {a0 : Int} (ht : rt_kd a0.toNat = 20 + 7) (a1 : Int) (a2 : Int) (a3 : Int) (mem0 : rt_M) (t : (Int × Int × rt_M) ⊕ (Int × rt_M)) (h : j_X7_pass_105_59 a0 a1 a2 a3 mem0 = some t) (hK : (∀ s1 : Int × Int × rt_M, t = .inl s1 → RT G M_X7_pass d z Q 59 [(2, a0), (2, a1), (0, s1.1), (0, s1.2.1)] [] z s1.2.2) ∧ (∀ x1 : Int × rt_M, t = .inr x1 → RT G M_X7_pass d z Q 111 [(9, 0), (9, 0), (0, x1.1), (9, 0)] [] z x1.2)) : RT G M_X7_pass d z Q 105 [(2, a0), (2, a1), (0, a2), (0, a3)] [] z mem0 := by
  unfold j_X7_pass_105_59 at h
  refine RT.iinc (pc := 105) (x := a3) (L1 := [(2, a0), (2, a1), (0, a2), (0, (rt_iadd a3 1))]) dX7_pass_105 rfl (Nat.le_of_ble_eq_true rfl) ⟨by decide, by decide⟩ rfl ?_
  refine RT.goto (pc := 108) (tgt := 59) dX7_pass_108 rfl ?_
  obtain rfl := Option.some.inj h
  have q1 := hK.1 ((a2, (rt_iadd a3 1), mem0)) rfl
  try dsimp only at q1
  exact q1
theorem cb_X7_pass_59 {G : rt_G} {d : Nat} {z : Nat × Nat} {Q : rt_P} (hz : 300 ≤ z.1) (hd : 4 ≤ d) {a0 : Int} (ht : rt_kd a0.toNat = 20 + 7) (a1 : Int) (s : Int × Int × rt_M) (t : (Int × Int × rt_M) ⊕ (Int × rt_M)) (h : b_X7_pass_59 a0 a1 s = some t) (hK : (∀ s1 : Int × Int × rt_M, t = .inl s1 → RT G M_X7_pass d z Q 59 [(2, a0), (2, a1), (0, s1.1), (0, s1.2.1)] [] z s1.2.2) ∧ (∀ x1 : Int × rt_M, t = .inr x1 → RT G M_X7_pass d z Q 111 [(9, 0), (9, 0), (0, x1.1), (9, 0)] [] z x1.2)) : RT G M_X7_pass d z Q 59 [(2, a0), (2, a1), (0, s.1), (0, s.2.1)] [] z s.2.2 := by
  unfold b_X7_pass_59 at h
  refine RT.iload_n (pc := 59) (k := 3) (x := s.2.1) dX7_pass_59 rfl ?_
  refine RT.aload_n (pc := 60) (k := 1) (x := a1) dX7_pass_60 rfl ?_
  obtain ⟨v61, hv61, h⟩ := Option.bind_eq_some_iff.mp h
  refine RT.gf 4 0 0 (pc := 61) (x := a1) (v := v61) hz dX7_pass_61 fl_X7_39 rfl hv61 ?_
  refine RT.icmp_ge (pc := 64) (tgt := 111) dX7_pass_64 rfl (fun q64 => ?_) (fun q64 => ?_)
  · rw [if_pos q64] at h
    refine RT.wk (L1 := [(9, 0), (9, 0), (0, s.1), (9, 0)]) (rt_le_j (rt_le_j (rt_le_s (rt_le_j rt_le_n)))) ?_
    obtain rfl := Option.some.inj h
    have q1 := hK.2 ((s.1, s.2.2)) rfl
    try dsimp only at q1
    exact q1
  · rw [if_neg q64] at h
    refine RT.aload_n (pc := 67) (k := 0) (x := a0) dX7_pass_67 rfl ?_
    obtain ⟨v68, hv68, h⟩ := Option.bind_eq_some_iff.mp h
    refine RT.gf 7 1 2 (pc := 68) (x := a0) (v := v68) hz dX7_pass_68 fl_X7_9 rfl hv68 ?_
    refine RT.iload_n (pc := 71) (k := 3) (x := s.2.1) dX7_pass_71 rfl ?_
    obtain ⟨v72, hv72, h⟩ := Option.bind_eq_some_iff.mp h
    refine RT.iald (pc := 72) (x := v68) (i := s.2.1) (v := v72) dX7_pass_72 (rt_lta hz (by decide) (by decide) hv72) hv72 ?_
    refine RT.iconst (pc := 73) (n := (-1)) dX7_pass_73 ⟨by decide, by decide⟩ ?_
    refine RT.icmp_eq (pc := 74) (tgt := 105) dX7_pass_74 rfl (fun q74 => ?_) (fun q74 => ?_)
    · rw [if_pos q74] at h
      exact cj_X7_pass_105_59 hz hd ht a1 s.1 s.2.1 s.2.2 _ h hK
    · rw [if_neg q74] at h
      refine RT.aload_n (pc := 77) (k := 1) (x := a1) dX7_pass_77 rfl ?_
      refine RT.iload_n (pc := 78) (k := 3) (x := s.2.1) dX7_pass_78 rfl ?_
      refine RT.aload_n (pc := 79) (k := 0) (x := a0) dX7_pass_79 rfl ?_
      obtain ⟨v80, hv80, h⟩ := Option.bind_eq_some_iff.mp h
      refine RT.gf 7 1 2 (pc := 80) (x := a0) (v := v80) hz dX7_pass_80 fl_X7_9 rfl hv80 ?_
      refine RT.iload_n (pc := 83) (k := 3) (x := s.2.1) dX7_pass_83 rfl ?_
      obtain ⟨v84, hv84, h⟩ := Option.bind_eq_some_iff.mp h
      refine RT.iald (pc := 84) (x := v80) (i := s.2.1) (v := v84) dX7_pass_84 (rt_lta hz (by decide) (by decide) hv84) hv84 ?_
      refine RT.aload_n (pc := 85) (k := 0) (x := a0) dX7_pass_85 rfl ?_
      obtain ⟨v86, hv86, h⟩ := Option.bind_eq_some_iff.mp h
      refine RT.gf 7 0 0 (pc := 86) (x := a0) (v := v86) hz dX7_pass_86 fl_X7_18 rfl hv86 ?_
      obtain ⟨p89, hp89, h⟩ := Option.bind_eq_some_iff.mp h
      obtain ⟨hk89, hp89⟩ := rt_gd_some hp89
      refine RT.cVz (pc := 89) (M' := M_X4_isFit) (ci := 4) (x := a1) (As := [(0, s.2.1), (0, v84), (0, v86)]) (st := []) (r := some (0, p89.1)) (mem1 := p89.2) (d' := d - 1) hz dX7_pass_89 mw_X4_isFit ml_X7_35 mi_X4_isFit hk89 rfl rfl (Nat.le_of_ble_eq_true rfl) (Nat.le_of_ble_eq_true rfl) (by omega) rfl rfl (c_X4_isFit hz (by omega) a1 s.2.1 v84 v86 s.2.2 _ hk89 hp89) ?_
      refine RT.if_ne (pc := 92) (tgt := 105) dX7_pass_92 rfl (fun q92 => ?_) (fun q92 => ?_)
      · rw [if_neg q92] at h
        exact cj_X7_pass_105_59 hz hd ht a1 s.1 s.2.1 p89.2 _ h hK
      · rw [if_pos (Classical.not_not.mp q92)] at h
        refine RT.aload_n (pc := 95) (k := 0) (x := a0) dX7_pass_95 rfl ?_
        obtain ⟨v96, hv96, h⟩ := Option.bind_eq_some_iff.mp h
        refine RT.gf 7 1 2 (pc := 96) (x := a0) (v := v96) hz dX7_pass_96 fl_X7_9 rfl hv96 ?_
        refine RT.iload_n (pc := 99) (k := 3) (x := s.2.1) dX7_pass_99 rfl ?_
        refine RT.iconst (pc := 100) (n := (-1)) dX7_pass_100 ⟨by decide, by decide⟩ ?_
        obtain ⟨m101, hm101, h⟩ := Option.bind_eq_some_iff.mp h
        refine RT.iast (pc := 101) (x := v96) (i := s.2.1) (v := (-1)) (mem1 := m101) dX7_pass_101 (rt_lts hz (by decide) (by decide) hm101) hm101 ?_
        refine RT.iinc (pc := 102) (x := s.1) (L1 := [(2, a0), (2, a1), (0, (rt_iadd s.1 1)), (0, s.2.1)]) dX7_pass_102 rfl (Nat.le_of_ble_eq_true rfl) ⟨by decide, by decide⟩ rfl ?_
        exact cj_X7_pass_105_59 hz hd ht a1 ((rt_iadd s.1 1)) s.2.1 m101 _ h hK
theorem c_X7_pass {G : rt_G} {d : Nat} {z : Nat × Nat} (hz : 300 ≤ z.1) (hd : 4 ≤ d) (a0 : Int) (a1 : Int) (mem0 : rt_M) (t : Int × rt_M) (ht : rt_kd a0.toNat = 20 + 7) (h : f_X7_pass a0 a1 mem0 = some t) : RM G M_X7_pass d [(2, a0), (2, a1)] z mem0 (some (0, t.1)) t.2 := by
  suffices H : ∀ Q : rt_P, Q (some (0, t.1)) z t.2 → RT G M_X7_pass d z Q 0 [(2, a0), (2, a1), (9, 0), (9, 0)] [] z mem0 from H _ ⟨rfl, rfl, rfl⟩
  intro Q hK
  unfold f_X7_pass at h
  refine RT.iconst (pc := 0) (n := 0) dX7_pass_0 ⟨by decide, by decide⟩ ?_
  refine RT.istore_n (pc := 1) (k := 2) (x := 0) (L1 := [(2, a0), (2, a1), (0, 0), (9, 0)]) dX7_pass_1 (Nat.le_of_ble_eq_true rfl) rfl ?_
  obtain ⟨X2, hX2, h⟩ := Option.bind_eq_some_iff.mp h
  refine rt_it_ind (P := (fun s1 : Int × rt_M => RT G M_X7_pass d z Q 2 [(2, a0), (2, a1), (0, s1.1), (9, 0)] [] z s1.2)) (X := (fun x1 : rt_M => RT G M_X7_pass d z Q 45 [(2, a0), (2, a1), (9, 0), (9, 0)] [] z x1)) (fun s1 t1 h1 k1 k2 => cb_X7_pass_2 hz hd ht a1 s1 t1 h1 ⟨k1, k2⟩) 4000 ((0, mem0)) X2 hX2 ?_
  refine RT.aload_n (pc := 45) (k := 0) (x := a0) dX7_pass_45 rfl ?_
  refine RT.dup (pc := 46) dX7_pass_46 (show ¬ ((2 : Nat) = 1) by decide) ?_
  obtain ⟨v47, hv47, h⟩ := Option.bind_eq_some_iff.mp h
  refine RT.gf 7 0 0 (pc := 47) (x := a0) (v := v47) hz dX7_pass_47 fl_X7_18 rfl hv47 ?_
  refine RT.iconst (pc := 50) (n := 1) dX7_pass_50 ⟨by decide, by decide⟩ ?_
  refine RT.iadd (pc := 51) dX7_pass_51 ?_
  obtain ⟨m52, hm52, h⟩ := Option.bind_eq_some_iff.mp h
  refine RT.pf_i 7 0 (pc := 52) (mem1 := m52) hz dX7_pass_52 fl_X7_18 rfl rfl rfl hm52 ?_
  refine RT.iconst (pc := 55) (n := 0) dX7_pass_55 ⟨by decide, by decide⟩ ?_
  refine RT.istore_n (pc := 56) (k := 2) (x := 0) (L1 := [(2, a0), (2, a1), (0, 0), (9, 0)]) dX7_pass_56 (Nat.le_of_ble_eq_true rfl) rfl ?_
  refine RT.iconst (pc := 57) (n := 0) dX7_pass_57 ⟨by decide, by decide⟩ ?_
  refine RT.istore_n (pc := 58) (k := 3) (x := 0) (L1 := [(2, a0), (2, a1), (0, 0), (0, 0)]) dX7_pass_58 (Nat.le_of_ble_eq_true rfl) rfl ?_
  obtain ⟨X59, hX59, h⟩ := Option.bind_eq_some_iff.mp h
  refine rt_it_ind (P := (fun s1 : Int × Int × rt_M => RT G M_X7_pass d z Q 59 [(2, a0), (2, a1), (0, s1.1), (0, s1.2.1)] [] z s1.2.2)) (X := (fun x1 : Int × rt_M => RT G M_X7_pass d z Q 111 [(9, 0), (9, 0), (0, x1.1), (9, 0)] [] z x1.2)) (fun s1 t1 h1 k1 k2 => cb_X7_pass_59 hz hd ht a1 s1 t1 h1 ⟨k1, k2⟩) 4000 ((0, 0, m52)) X59 hX59 ?_
  refine RT.iload_n (pc := 111) (k := 2) (x := X59.1) dX7_pass_111 rfl ?_
  obtain rfl := Option.some.inj h
  exact RT.iret (pc := 112) dX7_pass_112 rfl (Nat.le_of_eq (rt_cells_0 z)) (Nat.le_of_eq (rt_slots_0 z)) hK
theorem cj_X7_worn_28_4 {G : rt_G} {d : Nat} {z : Nat × Nat} {Q : rt_P} (hz : 300 ≤ z.1) (hd : 0 ≤ d) {a0 : Int} (ht : rt_kd a0.toNat = 20 + 7) (a1 : Int) (a2 : Int) (a3 : Int) (mem0 : rt_M) (t : (Int × Int) ⊕ (Int)) (h : j_X7_worn_28_4 a0 a1 a2 a3 mem0 = some t) (hK : (∀ s1 : Int × Int, t = .inl s1 → RT G M_X7_worn d z Q 4 [(2, a0), (2, a1), (0, s1.1), (0, s1.2)] [] z mem0) ∧ (∀ x1 : Int, t = .inr x1 → RT G M_X7_worn d z Q 34 [(9, 0), (9, 0), (0, x1), (9, 0)] [] z mem0)) : RT G M_X7_worn d z Q 28 [(2, a0), (2, a1), (0, a2), (0, a3)] [] z mem0 := by
  unfold j_X7_worn_28_4 at h
  refine RT.iinc (pc := 28) (x := a3) (L1 := [(2, a0), (2, a1), (0, a2), (0, (rt_iadd a3 1))]) dX7_worn_28 rfl (Nat.le_of_ble_eq_true rfl) ⟨by decide, by decide⟩ rfl ?_
  refine RT.goto (pc := 31) (tgt := 4) dX7_worn_31 rfl ?_
  obtain rfl := Option.some.inj h
  have q1 := hK.1 ((a2, (rt_iadd a3 1))) rfl
  try dsimp only at q1
  exact q1
theorem cb_X7_worn_4 {G : rt_G} {d : Nat} {z : Nat × Nat} {Q : rt_P} (hz : 300 ≤ z.1) (hd : 0 ≤ d) {a0 : Int} (ht : rt_kd a0.toNat = 20 + 7) (a1 : Int) (mem0 : rt_M) (s : Int × Int) (t : (Int × Int) ⊕ (Int)) (h : b_X7_worn_4 a0 a1 mem0 s = some t) (hK : (∀ s1 : Int × Int, t = .inl s1 → RT G M_X7_worn d z Q 4 [(2, a0), (2, a1), (0, s1.1), (0, s1.2)] [] z mem0) ∧ (∀ x1 : Int, t = .inr x1 → RT G M_X7_worn d z Q 34 [(9, 0), (9, 0), (0, x1), (9, 0)] [] z mem0)) : RT G M_X7_worn d z Q 4 [(2, a0), (2, a1), (0, s.1), (0, s.2)] [] z mem0 := by
  unfold b_X7_worn_4 at h
  refine RT.iload_n (pc := 4) (k := 3) (x := s.2) dX7_worn_4 rfl ?_
  refine RT.aload_n (pc := 5) (k := 1) (x := a1) dX7_worn_5 rfl ?_
  obtain ⟨v6, hv6, h⟩ := Option.bind_eq_some_iff.mp h
  refine RT.gf 4 0 0 (pc := 6) (x := a1) (v := v6) hz dX7_worn_6 fl_X7_39 rfl hv6 ?_
  refine RT.icmp_ge (pc := 9) (tgt := 34) dX7_worn_9 rfl (fun q9 => ?_) (fun q9 => ?_)
  · rw [if_pos q9] at h
    refine RT.wk (L1 := [(9, 0), (9, 0), (0, s.1), (9, 0)]) (rt_le_j (rt_le_j (rt_le_s (rt_le_j rt_le_n)))) ?_
    obtain rfl := Option.some.inj h
    have q1 := hK.2 s.1 rfl
    try dsimp only at q1
    exact q1
  · rw [if_neg q9] at h
    refine RT.aload_n (pc := 12) (k := 0) (x := a0) dX7_worn_12 rfl ?_
    obtain ⟨v13, hv13, h⟩ := Option.bind_eq_some_iff.mp h
    refine RT.gf 7 1 2 (pc := 13) (x := a0) (v := v13) hz dX7_worn_13 fl_X7_9 rfl hv13 ?_
    refine RT.iload_n (pc := 16) (k := 3) (x := s.2) dX7_worn_16 rfl ?_
    obtain ⟨v17, hv17, h⟩ := Option.bind_eq_some_iff.mp h
    refine RT.iald (pc := 17) (x := v13) (i := s.2) (v := v17) dX7_worn_17 (rt_lta hz (by decide) (by decide) hv17) hv17 ?_
    refine RT.iconst (pc := 18) (n := (-1)) dX7_worn_18 ⟨by decide, by decide⟩ ?_
    refine RT.icmp_eq (pc := 19) (tgt := 28) dX7_worn_19 rfl (fun q19 => ?_) (fun q19 => ?_)
    · rw [if_pos q19] at h
      exact cj_X7_worn_28_4 hz hd ht a1 s.1 s.2 mem0 _ h hK
    · rw [if_neg q19] at h
      refine RT.iload_n (pc := 22) (k := 2) (x := s.1) dX7_worn_22 rfl ?_
      refine RT.iconst (pc := 23) (n := 1) dX7_worn_23 ⟨by decide, by decide⟩ ?_
      refine RT.iload_n (pc := 24) (k := 3) (x := s.2) dX7_worn_24 rfl ?_
      refine RT.ishl (pc := 25) dX7_worn_25 ?_
      refine RT.ior (pc := 26) dX7_worn_26 ?_
      refine RT.istore_n (pc := 27) (k := 2) (x := (rt_ior s.1 (rt_ishl 1 s.2))) (L1 := [(2, a0), (2, a1), (0, (rt_ior s.1 (rt_ishl 1 s.2))), (0, s.2)]) dX7_worn_27 (Nat.le_of_ble_eq_true rfl) rfl ?_
      exact cj_X7_worn_28_4 hz hd ht a1 ((rt_ior s.1 (rt_ishl 1 s.2))) s.2 mem0 _ h hK
theorem c_X7_worn {G : rt_G} {d : Nat} {z : Nat × Nat} (hz : 300 ≤ z.1) (hd : 0 ≤ d) (a0 : Int) (a1 : Int) (mem0 : rt_M) (t : Int) (ht : rt_kd a0.toNat = 20 + 7) (h : f_X7_worn a0 a1 mem0 = some t) : RM G M_X7_worn d [(2, a0), (2, a1)] z mem0 (some (0, t)) mem0 := by
  suffices H : ∀ Q : rt_P, Q (some (0, t)) z mem0 → RT G M_X7_worn d z Q 0 [(2, a0), (2, a1), (9, 0), (9, 0)] [] z mem0 from H _ ⟨rfl, rfl, rfl⟩
  intro Q hK
  unfold f_X7_worn at h
  refine RT.iconst (pc := 0) (n := 0) dX7_worn_0 ⟨by decide, by decide⟩ ?_
  refine RT.istore_n (pc := 1) (k := 2) (x := 0) (L1 := [(2, a0), (2, a1), (0, 0), (9, 0)]) dX7_worn_1 (Nat.le_of_ble_eq_true rfl) rfl ?_
  refine RT.iconst (pc := 2) (n := 0) dX7_worn_2 ⟨by decide, by decide⟩ ?_
  refine RT.istore_n (pc := 3) (k := 3) (x := 0) (L1 := [(2, a0), (2, a1), (0, 0), (0, 0)]) dX7_worn_3 (Nat.le_of_ble_eq_true rfl) rfl ?_
  obtain ⟨X4, hX4, h⟩ := Option.bind_eq_some_iff.mp h
  refine rt_it_ind (P := (fun s1 : Int × Int => RT G M_X7_worn d z Q 4 [(2, a0), (2, a1), (0, s1.1), (0, s1.2)] [] z mem0)) (X := (fun x1 : Int => RT G M_X7_worn d z Q 34 [(9, 0), (9, 0), (0, x1), (9, 0)] [] z mem0)) (fun s1 t1 h1 k1 k2 => cb_X7_worn_4 hz hd ht a1 mem0 s1 t1 h1 ⟨k1, k2⟩) 4000 ((0, 0)) X4 hX4 ?_
  refine RT.iload_n (pc := 34) (k := 2) (x := X4) dX7_worn_34 rfl ?_
  obtain rfl := Option.some.inj h
  exact RT.iret (pc := 35) dX7_worn_35 rfl (Nat.le_of_eq (rt_cells_0 z)) (Nat.le_of_eq (rt_slots_0 z)) hK
theorem cj_X7_wornOut_29_4 {G : rt_G} {d : Nat} {z : Nat × Nat} {Q : rt_P} (hz : 300 ≤ z.1) (hd : 0 ≤ d) {a0 : Int} (ht : rt_kd a0.toNat = 20 + 7) (a1 : Int) (a2 : Int) (a3 : Int) (mem0 : rt_M) (t : (Int × Int) ⊕ (Int)) (h : j_X7_wornOut_29_4 a0 a1 a2 a3 mem0 = some t) (hK : (∀ s1 : Int × Int, t = .inl s1 → RT G M_X7_wornOut d z Q 4 [(2, a0), (2, a1), (0, s1.1), (0, s1.2)] [] z mem0) ∧ (∀ x1 : Int, t = .inr x1 → RT G M_X7_wornOut d z Q 35 [(9, 0), (9, 0), (0, x1), (9, 0)] [] z mem0)) : RT G M_X7_wornOut d z Q 29 [(2, a0), (2, a1), (0, a2), (0, a3)] [] z mem0 := by
  unfold j_X7_wornOut_29_4 at h
  refine RT.iinc (pc := 29) (x := a3) (L1 := [(2, a0), (2, a1), (0, a2), (0, (rt_iadd a3 1))]) dX7_wornOut_29 rfl (Nat.le_of_ble_eq_true rfl) ⟨by decide, by decide⟩ rfl ?_
  refine RT.goto (pc := 32) (tgt := 4) dX7_wornOut_32 rfl ?_
  obtain rfl := Option.some.inj h
  have q1 := hK.1 ((a2, (rt_iadd a3 1))) rfl
  try dsimp only at q1
  exact q1
theorem cb_X7_wornOut_4 {G : rt_G} {d : Nat} {z : Nat × Nat} {Q : rt_P} (hz : 300 ≤ z.1) (hd : 0 ≤ d) {a0 : Int} (ht : rt_kd a0.toNat = 20 + 7) (a1 : Int) (mem0 : rt_M) (s : Int × Int) (t : (Int × Int) ⊕ (Int)) (h : b_X7_wornOut_4 a0 a1 mem0 s = some t) (hK : (∀ s1 : Int × Int, t = .inl s1 → RT G M_X7_wornOut d z Q 4 [(2, a0), (2, a1), (0, s1.1), (0, s1.2)] [] z mem0) ∧ (∀ x1 : Int, t = .inr x1 → RT G M_X7_wornOut d z Q 35 [(9, 0), (9, 0), (0, x1), (9, 0)] [] z mem0)) : RT G M_X7_wornOut d z Q 4 [(2, a0), (2, a1), (0, s.1), (0, s.2)] [] z mem0 := by
  unfold b_X7_wornOut_4 at h
  refine RT.iload_n (pc := 4) (k := 3) (x := s.2) dX7_wornOut_4 rfl ?_
  refine RT.aload_n (pc := 5) (k := 1) (x := a1) dX7_wornOut_5 rfl ?_
  obtain ⟨v6, hv6, h⟩ := Option.bind_eq_some_iff.mp h
  refine RT.gf 4 0 0 (pc := 6) (x := a1) (v := v6) hz dX7_wornOut_6 fl_X7_39 rfl hv6 ?_
  refine RT.icmp_ge (pc := 9) (tgt := 35) dX7_wornOut_9 rfl (fun q9 => ?_) (fun q9 => ?_)
  · rw [if_pos q9] at h
    refine RT.wk (L1 := [(9, 0), (9, 0), (0, s.1), (9, 0)]) (rt_le_j (rt_le_j (rt_le_s (rt_le_j rt_le_n)))) ?_
    obtain rfl := Option.some.inj h
    have q1 := hK.2 s.1 rfl
    try dsimp only at q1
    exact q1
  · rw [if_neg q9] at h
    refine RT.aload_n (pc := 12) (k := 0) (x := a0) dX7_wornOut_12 rfl ?_
    obtain ⟨v13, hv13, h⟩ := Option.bind_eq_some_iff.mp h
    refine RT.gf 7 2 2 (pc := 13) (x := a0) (v := v13) hz dX7_wornOut_13 fl_X7_15 rfl hv13 ?_
    refine RT.iload_n (pc := 16) (k := 3) (x := s.2) dX7_wornOut_16 rfl ?_
    obtain ⟨v17, hv17, h⟩ := Option.bind_eq_some_iff.mp h
    refine RT.iald (pc := 17) (x := v13) (i := s.2) (v := v17) dX7_wornOut_17 (rt_lta hz (by decide) (by decide) hv17) hv17 ?_
    refine RT.bipush (pc := 18) (n := 9) dX7_wornOut_18 ⟨by decide, by decide⟩ rfl ?_
    refine RT.icmp_lt (pc := 20) (tgt := 29) dX7_wornOut_20 rfl (fun q20 => ?_) (fun q20 => ?_)
    · rw [if_pos q20] at h
      exact cj_X7_wornOut_29_4 hz hd ht a1 s.1 s.2 mem0 _ h hK
    · rw [if_neg q20] at h
      refine RT.iload_n (pc := 23) (k := 2) (x := s.1) dX7_wornOut_23 rfl ?_
      refine RT.iconst (pc := 24) (n := 1) dX7_wornOut_24 ⟨by decide, by decide⟩ ?_
      refine RT.iload_n (pc := 25) (k := 3) (x := s.2) dX7_wornOut_25 rfl ?_
      refine RT.ishl (pc := 26) dX7_wornOut_26 ?_
      refine RT.ior (pc := 27) dX7_wornOut_27 ?_
      refine RT.istore_n (pc := 28) (k := 2) (x := (rt_ior s.1 (rt_ishl 1 s.2))) (L1 := [(2, a0), (2, a1), (0, (rt_ior s.1 (rt_ishl 1 s.2))), (0, s.2)]) dX7_wornOut_28 (Nat.le_of_ble_eq_true rfl) rfl ?_
      exact cj_X7_wornOut_29_4 hz hd ht a1 ((rt_ior s.1 (rt_ishl 1 s.2))) s.2 mem0 _ h hK
theorem c_X7_wornOut {G : rt_G} {d : Nat} {z : Nat × Nat} (hz : 300 ≤ z.1) (hd : 0 ≤ d) (a0 : Int) (a1 : Int) (mem0 : rt_M) (t : Int) (ht : rt_kd a0.toNat = 20 + 7) (h : f_X7_wornOut a0 a1 mem0 = some t) : RM G M_X7_wornOut d [(2, a0), (2, a1)] z mem0 (some (0, t)) mem0 := by
  suffices H : ∀ Q : rt_P, Q (some (0, t)) z mem0 → RT G M_X7_wornOut d z Q 0 [(2, a0), (2, a1), (9, 0), (9, 0)] [] z mem0 from H _ ⟨rfl, rfl, rfl⟩
  intro Q hK
  unfold f_X7_wornOut at h
  refine RT.iconst (pc := 0) (n := 0) dX7_wornOut_0 ⟨by decide, by decide⟩ ?_
  refine RT.istore_n (pc := 1) (k := 2) (x := 0) (L1 := [(2, a0), (2, a1), (0, 0), (9, 0)]) dX7_wornOut_1 (Nat.le_of_ble_eq_true rfl) rfl ?_
  refine RT.iconst (pc := 2) (n := 0) dX7_wornOut_2 ⟨by decide, by decide⟩ ?_
  refine RT.istore_n (pc := 3) (k := 3) (x := 0) (L1 := [(2, a0), (2, a1), (0, 0), (0, 0)]) dX7_wornOut_3 (Nat.le_of_ble_eq_true rfl) rfl ?_
  obtain ⟨X4, hX4, h⟩ := Option.bind_eq_some_iff.mp h
  refine rt_it_ind (P := (fun s1 : Int × Int => RT G M_X7_wornOut d z Q 4 [(2, a0), (2, a1), (0, s1.1), (0, s1.2)] [] z mem0)) (X := (fun x1 : Int => RT G M_X7_wornOut d z Q 35 [(9, 0), (9, 0), (0, x1), (9, 0)] [] z mem0)) (fun s1 t1 h1 k1 k2 => cb_X7_wornOut_4 hz hd ht a1 mem0 s1 t1 h1 ⟨k1, k2⟩) 4000 ((0, 0)) X4 hX4 ?_
  refine RT.iload_n (pc := 35) (k := 2) (x := X4) dX7_wornOut_35 rfl ?_
  obtain rfl := Option.some.inj h
  exact RT.iret (pc := 36) dX7_wornOut_36 rfl (Nat.le_of_eq (rt_cells_0 z)) (Nat.le_of_eq (rt_slots_0 z)) hK
theorem cb_X7_wearOfAll_4 {G : rt_G} {d : Nat} {z : Nat × Nat} {Q : rt_P} (hz : 300 ≤ z.1) (hd : 0 ≤ d) {a0 : Int} (ht : rt_kd a0.toNat = 20 + 7) (a1 : Int) (mem0 : rt_M) (s : Int × Int) (t : (Int × Int) ⊕ (Int)) (h : b_X7_wearOfAll_4 a0 a1 mem0 s = some t) (hK : (∀ s1 : Int × Int, t = .inl s1 → RT G M_X7_wearOfAll d z Q 4 [(2, a0), (2, a1), (0, s1.1), (0, s1.2)] [] z mem0) ∧ (∀ x1 : Int, t = .inr x1 → RT G M_X7_wearOfAll d z Q 27 [(9, 0), (9, 0), (0, x1), (9, 0)] [] z mem0)) : RT G M_X7_wearOfAll d z Q 4 [(2, a0), (2, a1), (0, s.1), (0, s.2)] [] z mem0 := by
  unfold b_X7_wearOfAll_4 at h
  refine RT.iload_n (pc := 4) (k := 3) (x := s.2) dX7_wearOfAll_4 rfl ?_
  refine RT.aload_n (pc := 5) (k := 1) (x := a1) dX7_wearOfAll_5 rfl ?_
  obtain ⟨v6, hv6, h⟩ := Option.bind_eq_some_iff.mp h
  refine RT.gf 4 0 0 (pc := 6) (x := a1) (v := v6) hz dX7_wearOfAll_6 fl_X7_39 rfl hv6 ?_
  refine RT.icmp_ge (pc := 9) (tgt := 27) dX7_wearOfAll_9 rfl (fun q9 => ?_) (fun q9 => ?_)
  · rw [if_pos q9] at h
    refine RT.wk (L1 := [(9, 0), (9, 0), (0, s.1), (9, 0)]) (rt_le_j (rt_le_j (rt_le_s (rt_le_j rt_le_n)))) ?_
    obtain rfl := Option.some.inj h
    have q1 := hK.2 s.1 rfl
    try dsimp only at q1
    exact q1
  · rw [if_neg q9] at h
    refine RT.iload_n (pc := 12) (k := 2) (x := s.1) dX7_wearOfAll_12 rfl ?_
    refine RT.aload_n (pc := 13) (k := 0) (x := a0) dX7_wearOfAll_13 rfl ?_
    obtain ⟨v14, hv14, h⟩ := Option.bind_eq_some_iff.mp h
    refine RT.gf 7 2 2 (pc := 14) (x := a0) (v := v14) hz dX7_wearOfAll_14 fl_X7_15 rfl hv14 ?_
    refine RT.iload_n (pc := 17) (k := 3) (x := s.2) dX7_wearOfAll_17 rfl ?_
    obtain ⟨v18, hv18, h⟩ := Option.bind_eq_some_iff.mp h
    refine RT.iald (pc := 18) (x := v14) (i := s.2) (v := v18) dX7_wearOfAll_18 (rt_lta hz (by decide) (by decide) hv18) hv18 ?_
    refine RT.iadd (pc := 19) dX7_wearOfAll_19 ?_
    refine RT.istore_n (pc := 20) (k := 2) (x := (rt_iadd s.1 v18)) (L1 := [(2, a0), (2, a1), (0, (rt_iadd s.1 v18)), (0, s.2)]) dX7_wearOfAll_20 (Nat.le_of_ble_eq_true rfl) rfl ?_
    refine RT.iinc (pc := 21) (x := s.2) (L1 := [(2, a0), (2, a1), (0, (rt_iadd s.1 v18)), (0, (rt_iadd s.2 1))]) dX7_wearOfAll_21 rfl (Nat.le_of_ble_eq_true rfl) ⟨by decide, by decide⟩ rfl ?_
    refine RT.goto (pc := 24) (tgt := 4) dX7_wearOfAll_24 rfl ?_
    obtain rfl := Option.some.inj h
    have q1 := hK.1 (((rt_iadd s.1 v18), (rt_iadd s.2 1))) rfl
    try dsimp only at q1
    exact q1
theorem c_X7_wearOfAll {G : rt_G} {d : Nat} {z : Nat × Nat} (hz : 300 ≤ z.1) (hd : 0 ≤ d) (a0 : Int) (a1 : Int) (mem0 : rt_M) (t : Int) (ht : rt_kd a0.toNat = 20 + 7) (h : f_X7_wearOfAll a0 a1 mem0 = some t) : RM G M_X7_wearOfAll d [(2, a0), (2, a1)] z mem0 (some (0, t)) mem0 := by
  suffices H : ∀ Q : rt_P, Q (some (0, t)) z mem0 → RT G M_X7_wearOfAll d z Q 0 [(2, a0), (2, a1), (9, 0), (9, 0)] [] z mem0 from H _ ⟨rfl, rfl, rfl⟩
  intro Q hK
  unfold f_X7_wearOfAll at h
  refine RT.iconst (pc := 0) (n := 0) dX7_wearOfAll_0 ⟨by decide, by decide⟩ ?_
  refine RT.istore_n (pc := 1) (k := 2) (x := 0) (L1 := [(2, a0), (2, a1), (0, 0), (9, 0)]) dX7_wearOfAll_1 (Nat.le_of_ble_eq_true rfl) rfl ?_
  refine RT.iconst (pc := 2) (n := 0) dX7_wearOfAll_2 ⟨by decide, by decide⟩ ?_
  refine RT.istore_n (pc := 3) (k := 3) (x := 0) (L1 := [(2, a0), (2, a1), (0, 0), (0, 0)]) dX7_wearOfAll_3 (Nat.le_of_ble_eq_true rfl) rfl ?_
  obtain ⟨X4, hX4, h⟩ := Option.bind_eq_some_iff.mp h
  refine rt_it_ind (P := (fun s1 : Int × Int => RT G M_X7_wearOfAll d z Q 4 [(2, a0), (2, a1), (0, s1.1), (0, s1.2)] [] z mem0)) (X := (fun x1 : Int => RT G M_X7_wearOfAll d z Q 27 [(9, 0), (9, 0), (0, x1), (9, 0)] [] z mem0)) (fun s1 t1 h1 k1 k2 => cb_X7_wearOfAll_4 hz hd ht a1 mem0 s1 t1 h1 ⟨k1, k2⟩) 4000 ((0, 0)) X4 hX4 ?_
  refine RT.iload_n (pc := 27) (k := 2) (x := X4) dX7_wearOfAll_27 rfl ?_
  obtain rfl := Option.some.inj h
  exact RT.iret (pc := 28) dX7_wearOfAll_28 rfl (Nat.le_of_eq (rt_cells_0 z)) (Nat.le_of_eq (rt_slots_0 z)) hK
theorem c_X8_clear {G : rt_G} {d : Nat} {z : Nat × Nat} (hz : 300 ≤ z.1) (hd : 0 ≤ d) (a0 : Int) (mem0 : rt_M) (t : rt_M) (ht : rt_kd a0.toNat = 20 + 8) (h : f_X8_clear a0 mem0 = some t) : RM G M_X8_clear d [(2, a0)] z mem0 none t := by
  suffices H : ∀ Q : rt_P, Q none z t → RT G M_X8_clear d z Q 0 [(2, a0)] [] z mem0 from H _ ⟨rfl, rfl, rfl⟩
  intro Q hK
  unfold f_X8_clear at h
  refine RT.aload_n (pc := 0) (k := 0) (x := a0) dX8_clear_0 rfl ?_
  refine RT.iconst (pc := 1) (n := 0) dX8_clear_1 ⟨by decide, by decide⟩ ?_
  obtain ⟨m2, hm2, h⟩ := Option.bind_eq_some_iff.mp h
  refine RT.pf_i 8 1 (pc := 2) (mem1 := m2) hz dX8_clear_2 fl_X8_29 rfl rfl rfl hm2 ?_
  obtain rfl := Option.some.inj h
  exact RT.vret (pc := 5) dX8_clear_5 rfl (Nat.le_of_eq (rt_cells_0 z)) (Nat.le_of_eq (rt_slots_0 z)) hK
theorem cj_X8_add_70_3 {G : rt_G} {d : Nat} {z : Nat × Nat} {Q : rt_P} (hz : 300 ≤ z.1) (hd : 0 ≤ d) {a0 : Int} (ht : rt_kd a0.toNat = 20 + 8) (a1 : Int) (a3 : Int) (mem0 : rt_M) (t : (Int × rt_M) ⊕ (rt_M)) (h : j_X8_add_70_3 a0 a1 a3 mem0 = some t) (hK : (∀ s1 : Int × rt_M, t = .inl s1 → RT G M_X8_add d z Q 3 [(2, a0), (1, a1), (9, 0), (0, s1.1), (9, 0)] [] z s1.2) ∧ (∀ x1 : rt_M, t = .inr x1 → RT G M_X8_add d z Q 76 [(9, 0), (9, 0), (9, 0), (9, 0), (9, 0)] [] z x1)) : RT G M_X8_add d z Q 70 [(2, a0), (1, a1), (9, 0), (0, a3), (9, 0)] [] z mem0 := by
  unfold j_X8_add_70_3 at h
  refine RT.iinc (pc := 70) (x := a3) (L1 := [(2, a0), (1, a1), (9, 0), (0, (rt_iadd a3 (-8))), (9, 0)]) dX8_add_70 rfl (Nat.le_of_ble_eq_true rfl) ⟨by decide, by decide⟩ rfl ?_
  refine RT.goto (pc := 73) (tgt := 3) dX8_add_73 rfl ?_
  obtain rfl := Option.some.inj h
  have q1 := hK.1 (((rt_iadd a3 (-8)), mem0)) rfl
  try dsimp only at q1
  exact q1
theorem cj_X8_add_39_3 {G : rt_G} {d : Nat} {z : Nat × Nat} {Q : rt_P} (hz : 300 ≤ z.1) (hd : 0 ≤ d) {a0 : Int} (ht : rt_kd a0.toNat = 20 + 8) (a1 : Int) (a3 : Int) (a4 : Int) (mem0 : rt_M) (t : (Int × rt_M) ⊕ (rt_M)) (h : j_X8_add_39_3 a0 a1 a3 a4 mem0 = some t) (hK : (∀ s1 : Int × rt_M, t = .inl s1 → RT G M_X8_add d z Q 3 [(2, a0), (1, a1), (9, 0), (0, s1.1), (9, 0)] [] z s1.2) ∧ (∀ x1 : rt_M, t = .inr x1 → RT G M_X8_add d z Q 76 [(9, 0), (9, 0), (9, 0), (9, 0), (9, 0)] [] z x1)) : RT G M_X8_add d z Q 39 [(2, a0), (1, a1), (9, 0), (0, a3), (0, a4)] [] z mem0 := by
  unfold j_X8_add_39_3 at h
  refine RT.aload_n (pc := 39) (k := 0) (x := a0) dX8_add_39 rfl ?_
  obtain ⟨v40, hv40, h⟩ := Option.bind_eq_some_iff.mp h
  refine RT.gf 8 1 0 (pc := 40) (x := a0) (v := v40) hz dX8_add_40 fl_X8_29 rfl hv40 ?_
  refine RT.sipush (pc := 43) (n := 1000) dX8_add_43 ⟨by decide, by decide⟩ rfl ?_
  refine RT.icmp_ge (pc := 46) (tgt := 70) dX8_add_46 rfl (fun q46 => ?_) (fun q46 => ?_)
  · rw [if_pos q46] at h
    refine RT.wk (L1 := [(2, a0), (1, a1), (9, 0), (0, a3), (9, 0)]) (rt_le_s (rt_le_s (rt_le_s (rt_le_s (rt_le_j rt_le_n))))) ?_
    exact cj_X8_add_70_3 hz hd ht a1 a3 mem0 _ h hK
  · rw [if_neg q46] at h
    refine RT.aload_n (pc := 49) (k := 0) (x := a0) dX8_add_49 rfl ?_
    obtain ⟨v50, hv50, h⟩ := Option.bind_eq_some_iff.mp h
    refine RT.gf 8 0 2 (pc := 50) (x := a0) (v := v50) hz dX8_add_50 fl_X8_9 rfl hv50 ?_
    refine RT.aload_n (pc := 53) (k := 0) (x := a0) dX8_add_53 rfl ?_
    obtain ⟨v54, hv54, h⟩ := Option.bind_eq_some_iff.mp h
    refine RT.gf 8 1 0 (pc := 54) (x := a0) (v := v54) hz dX8_add_54 fl_X8_29 rfl hv54 ?_
    refine RT.iload (pc := 57) (k := 4) (x := a4) dX8_add_57 rfl ?_
    obtain ⟨w59, hw59, h⟩ := Option.bind_eq_some_iff.mp h
    obtain ⟨m59, hm59, h⟩ := Option.bind_eq_some_iff.mp h
    refine RT.cast (pc := 59) (x := v50) (i := v54) (v := a4) (mem1 := m59) dX8_add_59 (rt_cz_ok hw59) (rt_lts hz (by decide) (by decide) hm59) hm59 ?_
    refine RT.aload_n (pc := 60) (k := 0) (x := a0) dX8_add_60 rfl ?_
    refine RT.dup (pc := 61) dX8_add_61 (show ¬ ((2 : Nat) = 1) by decide) ?_
    obtain ⟨v62, hv62, h⟩ := Option.bind_eq_some_iff.mp h
    refine RT.gf 8 1 0 (pc := 62) (x := a0) (v := v62) hz dX8_add_62 fl_X8_29 rfl hv62 ?_
    refine RT.iconst (pc := 65) (n := 1) dX8_add_65 ⟨by decide, by decide⟩ ?_
    refine RT.iadd (pc := 66) dX8_add_66 ?_
    obtain ⟨m67, hm67, h⟩ := Option.bind_eq_some_iff.mp h
    refine RT.pf_i 8 1 (pc := 67) (mem1 := m67) hz dX8_add_67 fl_X8_29 rfl rfl rfl hm67 ?_
    refine RT.wk (L1 := [(2, a0), (1, a1), (9, 0), (0, a3), (9, 0)]) (rt_le_s (rt_le_s (rt_le_s (rt_le_s (rt_le_j rt_le_n))))) ?_
    exact cj_X8_add_70_3 hz hd ht a1 a3 m67 _ h hK
theorem cb_X8_add_3 {G : rt_G} {d : Nat} {z : Nat × Nat} {Q : rt_P} (hz : 300 ≤ z.1) (hd : 0 ≤ d) {a0 : Int} (ht : rt_kd a0.toNat = 20 + 8) (a1 : Int) (s : Int × rt_M) (t : (Int × rt_M) ⊕ (rt_M)) (h : b_X8_add_3 a0 a1 s = some t) (hK : (∀ s1 : Int × rt_M, t = .inl s1 → RT G M_X8_add d z Q 3 [(2, a0), (1, a1), (9, 0), (0, s1.1), (9, 0)] [] z s1.2) ∧ (∀ x1 : rt_M, t = .inr x1 → RT G M_X8_add d z Q 76 [(9, 0), (9, 0), (9, 0), (9, 0), (9, 0)] [] z x1)) : RT G M_X8_add d z Q 3 [(2, a0), (1, a1), (9, 0), (0, s.1), (9, 0)] [] z s.2 := by
  unfold b_X8_add_3 at h
  refine RT.iload_n (pc := 3) (k := 3) (x := s.1) dX8_add_3 rfl ?_
  refine RT.if_lt (pc := 4) (tgt := 76) dX8_add_4 rfl (fun q4 => ?_) (fun q4 => ?_)
  · rw [if_pos q4] at h
    refine RT.wk (L1 := [(9, 0), (9, 0), (9, 0), (9, 0), (9, 0)]) (rt_le_j (rt_le_j (rt_le_s (rt_le_j (rt_le_s rt_le_n))))) ?_
    obtain rfl := Option.some.inj h
    have q1 := hK.2 s.2 rfl
    try dsimp only at q1
    exact q1
  · rw [if_neg q4] at h
    refine RT.lload_n (pc := 7) (k := 1) (x := a1) dX8_add_7 rfl ?_
    refine RT.iload_n (pc := 8) (k := 3) (x := s.1) dX8_add_8 rfl ?_
    refine RT.lushr (pc := 9) dX8_add_9 ?_
    refine RT.ldc2 (pc := 10) (v := 255) dX8_add_10 kl_X8_33 ⟨by decide, by decide⟩ ?_
    refine RT.land (pc := 13) dX8_add_13 ?_
    refine RT.l2i (pc := 14) dX8_add_14 ?_
    refine RT.i2c (pc := 15) dX8_add_15 ?_
    refine RT.istore (pc := 16) (k := 4) (x := (rt_i2c (rt_l2i (rt_land (rt_lushr a1 s.1) 255)))) (L1 := [(2, a0), (1, a1), (9, 0), (0, s.1), (0, (rt_i2c (rt_l2i (rt_land (rt_lushr a1 s.1) 255))))]) dX8_add_16 (Nat.le_of_ble_eq_true rfl) rfl ?_
    refine RT.iload (pc := 18) (k := 4) (x := (rt_i2c (rt_l2i (rt_land (rt_lushr a1 s.1) 255)))) dX8_add_18 rfl ?_
    refine RT.bipush (pc := 20) (n := 10) dX8_add_20 ⟨by decide, by decide⟩ rfl ?_
    refine RT.icmp_eq (pc := 22) (tgt := 39) dX8_add_22 rfl (fun q22 => ?_) (fun q22 => ?_)
    · rw [if_pos q22] at h
      exact cj_X8_add_39_3 hz hd ht a1 s.1 ((rt_i2c (rt_l2i (rt_land (rt_lushr a1 s.1) 255)))) s.2 _ h hK
    · rw [if_neg q22] at h
      refine RT.iload (pc := 25) (k := 4) (x := (rt_i2c (rt_l2i (rt_land (rt_lushr a1 s.1) 255)))) dX8_add_25 rfl ?_
      refine RT.bipush (pc := 27) (n := 32) dX8_add_27 ⟨by decide, by decide⟩ rfl ?_
      refine RT.icmp_lt (pc := 29) (tgt := 70) dX8_add_29 rfl (fun q29 => ?_) (fun q29 => ?_)
      · rw [if_pos q29] at h
        refine RT.wk (L1 := [(2, a0), (1, a1), (9, 0), (0, s.1), (9, 0)]) (rt_le_s (rt_le_s (rt_le_s (rt_le_s (rt_le_j rt_le_n))))) ?_
        exact cj_X8_add_70_3 hz hd ht a1 s.1 s.2 _ h hK
      · rw [if_neg q29] at h
        refine RT.iload (pc := 32) (k := 4) (x := (rt_i2c (rt_l2i (rt_land (rt_lushr a1 s.1) 255)))) dX8_add_32 rfl ?_
        refine RT.bipush (pc := 34) (n := 126) dX8_add_34 ⟨by decide, by decide⟩ rfl ?_
        refine RT.icmp_gt (pc := 36) (tgt := 70) dX8_add_36 rfl (fun q36 => ?_) (fun q36 => ?_)
        · rw [if_pos q36] at h
          refine RT.wk (L1 := [(2, a0), (1, a1), (9, 0), (0, s.1), (9, 0)]) (rt_le_s (rt_le_s (rt_le_s (rt_le_s (rt_le_j rt_le_n))))) ?_
          exact cj_X8_add_70_3 hz hd ht a1 s.1 s.2 _ h hK
        · rw [if_neg q36] at h
          exact cj_X8_add_39_3 hz hd ht a1 s.1 ((rt_i2c (rt_l2i (rt_land (rt_lushr a1 s.1) 255)))) s.2 _ h hK
theorem c_X8_add {G : rt_G} {d : Nat} {z : Nat × Nat} (hz : 300 ≤ z.1) (hd : 0 ≤ d) (a0 : Int) (a1 : Int) (mem0 : rt_M) (t : rt_M) (ht : rt_kd a0.toNat = 20 + 8) (h : f_X8_add a0 a1 mem0 = some t) : RM G M_X8_add d [(2, a0), (1, a1)] z mem0 none t := by
  suffices H : ∀ Q : rt_P, Q none z t → RT G M_X8_add d z Q 0 [(2, a0), (1, a1), (9, 0), (9, 0), (9, 0)] [] z mem0 from H _ ⟨rfl, rfl, rfl⟩
  intro Q hK
  unfold f_X8_add at h
  refine RT.bipush (pc := 0) (n := 56) dX8_add_0 ⟨by decide, by decide⟩ rfl ?_
  refine RT.istore_n (pc := 2) (k := 3) (x := 56) (L1 := [(2, a0), (1, a1), (9, 0), (0, 56), (9, 0)]) dX8_add_2 (Nat.le_of_ble_eq_true rfl) rfl ?_
  obtain ⟨X3, hX3, h⟩ := Option.bind_eq_some_iff.mp h
  refine rt_it_ind (P := (fun s1 : Int × rt_M => RT G M_X8_add d z Q 3 [(2, a0), (1, a1), (9, 0), (0, s1.1), (9, 0)] [] z s1.2)) (X := (fun x1 : rt_M => RT G M_X8_add d z Q 76 [(9, 0), (9, 0), (9, 0), (9, 0), (9, 0)] [] z x1)) (fun s1 t1 h1 k1 k2 => cb_X8_add_3 hz hd ht a1 s1 t1 h1 ⟨k1, k2⟩) 4000 ((56, mem0)) X3 hX3 ?_
  obtain rfl := Option.some.inj h
  exact RT.vret (pc := 76) dX8_add_76 rfl (Nat.le_of_eq (rt_cells_0 z)) (Nat.le_of_eq (rt_slots_0 z)) hK
theorem cj_X10_play_121 {G : rt_G} {d : Nat} {z : Nat × Nat} {Q : rt_P} (hz : 300 ≤ z.1) (hd : 5 ≤ d) {a0 : Int} (ht : rt_kd a0.toNat = 20 + 10) (mem0 : rt_M) (t : Int × rt_M) (h : j_X10_play_121 mem0 = some t) (hK : Q (some (0, t.1)) z t.2) : RT G M_X10_play d z Q 121 [(9, 0), (9, 0), (9, 0), (9, 0), (9, 0), (9, 0)] [] z mem0 := by
  unfold j_X10_play_121 at h
  refine RT.iconst (pc := 121) (n := (-1)) dX10_play_121 ⟨by decide, by decide⟩ ?_
  obtain rfl := Option.some.inj h
  exact RT.iret (pc := 122) dX10_play_122 rfl (Nat.le_of_eq (rt_cells_0 z)) (Nat.le_of_eq (rt_slots_0 z)) hK
theorem cj_X10_play_95 {G : rt_G} {d : Nat} {z : Nat × Nat} {Q : rt_P} (hz : 300 ≤ z.1) (hd : 5 ≤ d) {a0 : Int} (ht : rt_kd a0.toNat = 20 + 10) (a2 : Int) (a3 : Int) (a4 : Int) (a5 : Int) (mem0 : rt_M) (t : Int × rt_M) (h : j_X10_play_95 a2 a3 a4 a5 mem0 = some t) (hK : Q (some (0, t.1)) z t.2) : RT G M_X10_play d z Q 95 [(9, 0), (9, 0), (2, a2), (2, a3), (2, a4), (0, a5)] [] z mem0 := by
  unfold j_X10_play_95 at h
  refine RT.aload (pc := 95) (k := 4) (x := a4) dX10_play_95 rfl ?_
  refine RT.gets 12 (pc := 97) (x := 12) dX10_play_97 sl_X10_56 rfl ?_
  refine RT.acmp_ne (pc := 100) (tgt := 121) dX10_play_100 rfl (fun q100 => ?_) (fun q100 => ?_)
  · rw [if_neg q100] at h
    refine RT.wk (L1 := [(9, 0), (9, 0), (9, 0), (9, 0), (9, 0), (9, 0)]) (rt_le_s (rt_le_s (rt_le_j (rt_le_j (rt_le_j (rt_le_j rt_le_n)))))) ?_
    exact cj_X10_play_121 hz hd ht mem0 _ h hK
  · rw [if_pos (Classical.not_not.mp q100)] at h
    refine RT.aload_n (pc := 103) (k := 3) (x := a3) dX10_play_103 rfl ?_
    refine RT.aload_n (pc := 104) (k := 2) (x := a2) dX10_play_104 rfl ?_
    refine RT.iload (pc := 105) (k := 5) (x := a5) dX10_play_105 rfl ?_
    obtain ⟨p107, hp107, h⟩ := Option.bind_eq_some_iff.mp h
    obtain ⟨hk107, hp107⟩ := rt_gd_some hp107
    refine RT.cVz (pc := 107) (M' := M_X7_canMend) (ci := 7) (x := a3) (As := [(2, a2), (0, a5)]) (st := []) (r := some (0, p107)) (mem1 := mem0) (d' := d - 1) hz dX10_play_107 mw_X7_canMend ml_X10_59 mi_X7_canMend hk107 rfl rfl (Nat.le_of_ble_eq_true rfl) (Nat.le_of_ble_eq_true rfl) (by omega) rfl rfl (c_X7_canMend hz (by omega) a3 a2 a5 mem0 _ hk107 hp107) ?_
    refine RT.if_eq (pc := 110) (tgt := 121) dX10_play_110 rfl (fun q110 => ?_) (fun q110 => ?_)
    · rw [if_pos q110] at h
      refine RT.wk (L1 := [(9, 0), (9, 0), (9, 0), (9, 0), (9, 0), (9, 0)]) (rt_le_s (rt_le_s (rt_le_j (rt_le_j (rt_le_j (rt_le_j rt_le_n)))))) ?_
      exact cj_X10_play_121 hz hd ht mem0 _ h hK
    · rw [if_neg q110] at h
      refine RT.aload_n (pc := 113) (k := 3) (x := a3) dX10_play_113 rfl ?_
      refine RT.iload (pc := 114) (k := 5) (x := a5) dX10_play_114 rfl ?_
      obtain ⟨p116, hp116, h⟩ := Option.bind_eq_some_iff.mp h
      obtain ⟨hk116, hp116⟩ := rt_gd_some hp116
      refine RT.cVz (pc := 116) (M' := M_X7_makeNew) (ci := 7) (x := a3) (As := [(0, a5)]) (st := []) (r := none) (mem1 := p116) (d' := d - 1) hz dX10_play_116 mw_X7_makeNew ml_X10_62 mi_X7_makeNew hk116 rfl rfl (Nat.le_of_ble_eq_true rfl) (Nat.le_of_ble_eq_true rfl) (by omega) rfl rfl (c_X7_makeNew hz (by omega) a3 a5 mem0 _ hk116 hp116) ?_
      refine RT.iconst (pc := 119) (n := 0) dX10_play_119 ⟨by decide, by decide⟩ ?_
      obtain rfl := Option.some.inj h
      exact RT.iret (pc := 120) dX10_play_120 rfl (Nat.le_of_eq (rt_cells_0 z)) (Nat.le_of_eq (rt_slots_0 z)) hK
theorem cj_X10_play_68 {G : rt_G} {d : Nat} {z : Nat × Nat} {Q : rt_P} (hz : 300 ≤ z.1) (hd : 5 ≤ d) {a0 : Int} (ht : rt_kd a0.toNat = 20 + 10) (a2 : Int) (a3 : Int) (a4 : Int) (a5 : Int) (mem0 : rt_M) (t : Int × rt_M) (h : j_X10_play_68 a2 a3 a4 a5 mem0 = some t) (hK : Q (some (0, t.1)) z t.2) : RT G M_X10_play d z Q 68 [(9, 0), (9, 0), (2, a2), (2, a3), (2, a4), (0, a5)] [] z mem0 := by
  unfold j_X10_play_68 at h
  refine RT.aload (pc := 68) (k := 4) (x := a4) dX10_play_68 rfl ?_
  refine RT.gets 11 (pc := 70) (x := 11) dX10_play_70 sl_X10_49 rfl ?_
  refine RT.acmp_ne (pc := 73) (tgt := 95) dX10_play_73 rfl (fun q73 => ?_) (fun q73 => ?_)
  · rw [if_neg q73] at h
    exact cj_X10_play_95 hz hd ht a2 a3 a4 a5 mem0 _ h hK
  · rw [if_pos (Classical.not_not.mp q73)] at h
    refine RT.aload_n (pc := 76) (k := 3) (x := a3) dX10_play_76 rfl ?_
    refine RT.aload_n (pc := 77) (k := 2) (x := a2) dX10_play_77 rfl ?_
    refine RT.iload (pc := 78) (k := 5) (x := a5) dX10_play_78 rfl ?_
    obtain ⟨p80, hp80, h⟩ := Option.bind_eq_some_iff.mp h
    obtain ⟨hk80, hp80⟩ := rt_gd_some hp80
    refine RT.cVz (pc := 80) (M' := M_X7_canTakeOff) (ci := 7) (x := a3) (As := [(2, a2), (0, a5)]) (st := []) (r := some (0, p80)) (mem1 := mem0) (d' := d - 1) hz dX10_play_80 mw_X7_canTakeOff ml_X10_52 mi_X7_canTakeOff hk80 rfl rfl (Nat.le_of_ble_eq_true rfl) (Nat.le_of_ble_eq_true rfl) (by omega) rfl rfl (c_X7_canTakeOff hz (by omega) a3 a2 a5 mem0 _ hk80 hp80) ?_
    refine RT.if_eq (pc := 83) (tgt := 95) dX10_play_83 rfl (fun q83 => ?_) (fun q83 => ?_)
    · rw [if_pos q83] at h
      exact cj_X10_play_95 hz hd ht a2 a3 a4 a5 mem0 _ h hK
    · rw [if_neg q83] at h
      refine RT.aload_n (pc := 86) (k := 3) (x := a3) dX10_play_86 rfl ?_
      refine RT.iload (pc := 87) (k := 5) (x := a5) dX10_play_87 rfl ?_
      refine RT.iconst (pc := 89) (n := (-1)) dX10_play_89 ⟨by decide, by decide⟩ ?_
      obtain ⟨p90, hp90, h⟩ := Option.bind_eq_some_iff.mp h
      obtain ⟨hk90, hp90⟩ := rt_gd_some hp90
      refine RT.cVz (pc := 90) (M' := M_X7_place) (ci := 7) (x := a3) (As := [(0, a5), (0, (-1))]) (st := []) (r := none) (mem1 := p90) (d' := d - 1) hz dX10_play_90 mw_X7_place ml_X10_45 mi_X7_place hk90 rfl rfl (Nat.le_of_ble_eq_true rfl) (Nat.le_of_ble_eq_true rfl) (by omega) rfl rfl (c_X7_place hz (by omega) a3 a5 ((-1)) mem0 _ hk90 hp90) ?_
      refine RT.iconst (pc := 93) (n := 0) dX10_play_93 ⟨by decide, by decide⟩ ?_
      obtain rfl := Option.some.inj h
      exact RT.iret (pc := 94) dX10_play_94 rfl (Nat.le_of_eq (rt_cells_0 z)) (Nat.le_of_eq (rt_slots_0 z)) hK
theorem c_X10_play {G : rt_G} {d : Nat} {z : Nat × Nat} (hz : 300 ≤ z.1) (hd : 5 ≤ d) (a0 : Int) (a1 : Int) (a2 : Int) (a3 : Int) (mem0 : rt_M) (t : Int × rt_M) (ht : rt_kd a0.toNat = 20 + 10) (h : f_X10_play a0 a1 a2 a3 mem0 = some t) : RM G M_X10_play d [(2, a0), (0, a1), (2, a2), (2, a3)] z mem0 (some (0, t.1)) t.2 := by
  suffices H : ∀ Q : rt_P, Q (some (0, t.1)) z t.2 → RT G M_X10_play d z Q 0 [(2, a0), (0, a1), (2, a2), (2, a3), (9, 0), (9, 0)] [] z mem0 from H _ ⟨rfl, rfl, rfl⟩
  intro Q hK
  unfold f_X10_play at h
  refine RT.aload_n (pc := 0) (k := 0) (x := a0) dX10_play_0 rfl ?_
  obtain ⟨v1, hv1, h⟩ := Option.bind_eq_some_iff.mp h
  refine RT.gf 10 1 2 (pc := 1) (x := a0) (v := v1) hz dX10_play_1 fl_X10_11 rfl hv1 ?_
  refine RT.iload_n (pc := 4) (k := 1) (x := a1) dX10_play_4 rfl ?_
  obtain ⟨v5, hv5, h⟩ := Option.bind_eq_some_iff.mp h
  refine RT.aald5 (pc := 5) (x := v1) (i := a1) (v := v5) dX10_play_5 (rt_lta hz (by decide) (by decide) hv5) hv5 ?_
  refine RT.astore (pc := 6) (k := 4) (x := v5) (L1 := [(2, a0), (0, a1), (2, a2), (2, a3), (2, v5), (9, 0)]) dX10_play_6 (Nat.le_of_ble_eq_true rfl) rfl ?_
  refine RT.aload_n (pc := 8) (k := 0) (x := a0) dX10_play_8 rfl ?_
  obtain ⟨v9, hv9, h⟩ := Option.bind_eq_some_iff.mp h
  refine RT.gf 10 2 2 (pc := 9) (x := a0) (v := v9) hz dX10_play_9 fl_X10_17 rfl hv9 ?_
  refine RT.iload_n (pc := 12) (k := 1) (x := a1) dX10_play_12 rfl ?_
  obtain ⟨v13, hv13, h⟩ := Option.bind_eq_some_iff.mp h
  refine RT.iald (pc := 13) (x := v9) (i := a1) (v := v13) dX10_play_13 (rt_lta hz (by decide) (by decide) hv13) hv13 ?_
  refine RT.istore (pc := 14) (k := 5) (x := v13) (L1 := [(2, a0), (0, a1), (2, a2), (2, a3), (2, v5), (0, v13)]) dX10_play_14 (Nat.le_of_ble_eq_true rfl) rfl ?_
  refine RT.aload (pc := 16) (k := 4) (x := v5) dX10_play_16 rfl ?_
  refine RT.gets 13 (pc := 18) (x := 13) dX10_play_18 sl_X10_28 rfl ?_
  refine RT.acmp_ne (pc := 21) (tgt := 30) dX10_play_21 rfl (fun q21 => ?_) (fun q21 => ?_)
  · rw [if_neg q21] at h
    refine RT.aload (pc := 30) (k := 4) (x := v5) dX10_play_30 rfl ?_
    refine RT.gets 10 (pc := 32) (x := 10) dX10_play_32 sl_X10_38 rfl ?_
    refine RT.acmp_ne (pc := 35) (tgt := 68) dX10_play_35 rfl (fun q35 => ?_) (fun q35 => ?_)
    · rw [if_neg q35] at h
      refine RT.wk (L1 := [(9, 0), (9, 0), (2, a2), (2, a3), (2, v5), (0, v13)]) (rt_le_j (rt_le_j (rt_le_s (rt_le_s (rt_le_s (rt_le_s rt_le_n)))))) ?_
      exact cj_X10_play_68 hz hd ht a2 a3 v5 v13 mem0 _ h hK
    · rw [if_pos (Classical.not_not.mp q35)] at h
      refine RT.aload_n (pc := 38) (k := 3) (x := a3) dX10_play_38 rfl ?_
      refine RT.aload_n (pc := 39) (k := 2) (x := a2) dX10_play_39 rfl ?_
      refine RT.iload (pc := 40) (k := 5) (x := v13) dX10_play_40 rfl ?_
      refine RT.aload_n (pc := 42) (k := 0) (x := a0) dX10_play_42 rfl ?_
      obtain ⟨v43, hv43, h⟩ := Option.bind_eq_some_iff.mp h
      refine RT.gf 10 3 2 (pc := 43) (x := a0) (v := v43) hz dX10_play_43 fl_X10_21 rfl hv43 ?_
      refine RT.iload_n (pc := 46) (k := 1) (x := a1) dX10_play_46 rfl ?_
      obtain ⟨v47, hv47, h⟩ := Option.bind_eq_some_iff.mp h
      refine RT.iald (pc := 47) (x := v43) (i := a1) (v := v47) dX10_play_47 (rt_lta hz (by decide) (by decide) hv47) hv47 ?_
      obtain ⟨p48, hp48, h⟩ := Option.bind_eq_some_iff.mp h
      obtain ⟨hk48, hp48⟩ := rt_gd_some hp48
      refine RT.cVz (pc := 48) (M' := M_X7_canPut) (ci := 7) (x := a3) (As := [(2, a2), (0, v13), (0, v47)]) (st := []) (r := some (0, p48.1)) (mem1 := p48.2) (d' := d - 1) hz dX10_play_48 mw_X7_canPut ml_X10_41 mi_X7_canPut hk48 rfl rfl (Nat.le_of_ble_eq_true rfl) (Nat.le_of_ble_eq_true rfl) (by omega) rfl rfl (c_X7_canPut hz (by omega) a3 a2 v13 v47 mem0 _ hk48 hp48) ?_
      refine RT.if_eq (pc := 51) (tgt := 68) dX10_play_51 rfl (fun q51 => ?_) (fun q51 => ?_)
      · rw [if_pos q51] at h
        refine RT.wk (L1 := [(9, 0), (9, 0), (2, a2), (2, a3), (2, v5), (0, v13)]) (rt_le_j (rt_le_j (rt_le_s (rt_le_s (rt_le_s (rt_le_s rt_le_n)))))) ?_
        exact cj_X10_play_68 hz hd ht a2 a3 v5 v13 p48.2 _ h hK
      · rw [if_neg q51] at h
        refine RT.aload_n (pc := 54) (k := 3) (x := a3) dX10_play_54 rfl ?_
        refine RT.iload (pc := 55) (k := 5) (x := v13) dX10_play_55 rfl ?_
        refine RT.aload_n (pc := 57) (k := 0) (x := a0) dX10_play_57 rfl ?_
        obtain ⟨v58, hv58, h⟩ := Option.bind_eq_some_iff.mp h
        refine RT.gf 10 3 2 (pc := 58) (x := a0) (v := v58) hz dX10_play_58 fl_X10_21 rfl hv58 ?_
        refine RT.iload_n (pc := 61) (k := 1) (x := a1) dX10_play_61 rfl ?_
        obtain ⟨v62, hv62, h⟩ := Option.bind_eq_some_iff.mp h
        refine RT.iald (pc := 62) (x := v58) (i := a1) (v := v62) dX10_play_62 (rt_lta hz (by decide) (by decide) hv62) hv62 ?_
        obtain ⟨p63, hp63, h⟩ := Option.bind_eq_some_iff.mp h
        obtain ⟨hk63, hp63⟩ := rt_gd_some hp63
        refine RT.cVz (pc := 63) (M' := M_X7_place) (ci := 7) (x := a3) (As := [(0, v13), (0, v62)]) (st := []) (r := none) (mem1 := p63) (d' := d - 1) hz dX10_play_63 mw_X7_place ml_X10_45 mi_X7_place hk63 rfl rfl (Nat.le_of_ble_eq_true rfl) (Nat.le_of_ble_eq_true rfl) (by omega) rfl rfl (c_X7_place hz (by omega) a3 v13 v62 p48.2 _ hk63 hp63) ?_
        refine RT.iconst (pc := 66) (n := 0) dX10_play_66 ⟨by decide, by decide⟩ ?_
        obtain rfl := Option.some.inj h
        exact RT.iret (pc := 67) dX10_play_67 rfl (Nat.le_of_eq (rt_cells_0 z)) (Nat.le_of_eq (rt_slots_0 z)) hK
  · rw [if_pos (Classical.not_not.mp q21)] at h
    refine RT.aload_n (pc := 24) (k := 3) (x := a3) dX10_play_24 rfl ?_
    refine RT.aload_n (pc := 25) (k := 2) (x := a2) dX10_play_25 rfl ?_
    obtain ⟨p26, hp26, h⟩ := Option.bind_eq_some_iff.mp h
    obtain ⟨hk26, hp26⟩ := rt_gd_some hp26
    refine RT.cVz (pc := 26) (M' := M_X7_pass) (ci := 7) (x := a3) (As := [(2, a2)]) (st := []) (r := some (0, p26.1)) (mem1 := p26.2) (d' := d - 1) hz dX10_play_26 mw_X7_pass ml_X10_32 mi_X7_pass hk26 rfl rfl (Nat.le_of_ble_eq_true rfl) (Nat.le_of_ble_eq_true rfl) (by omega) rfl rfl (c_X7_pass hz (by omega) a3 a2 mem0 _ hk26 hp26) ?_
    obtain rfl := Option.some.inj h
    exact RT.iret (pc := 29) dX10_play_29 rfl (Nat.le_of_eq (rt_cells_0 z)) (Nat.le_of_eq (rt_slots_0 z)) hK
theorem c_X11_feed {G : rt_G} {d : Nat} {z : Nat × Nat} (hz : 300 ≤ z.1) (hd : 1 ≤ d) (a0 : Int) (a1 : Int) (a3 : Int) (a5 : Int) (mem0 : rt_M) (t : Int × rt_M) (ht : rt_kd a0.toNat = 20 + 11) (h : f_X11_feed a0 a1 a3 a5 mem0 = some t) : RM G M_X11_feed d [(2, a0), (1, a1), (1, a3), (1, a5)] z mem0 (some (0, t.1)) t.2 := by
  suffices H : ∀ Q : rt_P, Q (some (0, t.1)) z t.2 → RT G M_X11_feed d z Q 0 [(2, a0), (1, a1), (9, 0), (1, a3), (9, 0), (1, a5), (9, 0)] [] z mem0 from H _ ⟨rfl, rfl, rfl⟩
  intro Q hK
  unfold f_X11_feed at h
  refine RT.aload_n (pc := 0) (k := 0) (x := a0) dX11_feed_0 rfl ?_
  obtain ⟨v1, hv1, h⟩ := Option.bind_eq_some_iff.mp h
  refine RT.gf 11 0 2 (pc := 1) (x := a0) (v := v1) hz dX11_feed_1 fl_X11_10 rfl hv1 ?_
  refine RT.lload_n (pc := 4) (k := 1) (x := a1) dX11_feed_4 rfl ?_
  obtain ⟨p5, hp5, h⟩ := Option.bind_eq_some_iff.mp h
  obtain ⟨hk5, hp5⟩ := rt_gd_some hp5
  refine RT.cVz (pc := 5) (M' := M_X8_add) (ci := 8) (x := v1) (As := [(1, a1)]) (st := []) (r := none) (mem1 := p5) (d' := d - 1) hz dX11_feed_5 mw_X8_add ml_X11_78 mi_X8_add hk5 rfl rfl (Nat.le_of_ble_eq_true rfl) (Nat.le_of_ble_eq_true rfl) (by omega) rfl rfl (c_X8_add hz (by omega) v1 a1 mem0 _ hk5 hp5) ?_
  refine RT.aload_n (pc := 8) (k := 0) (x := a0) dX11_feed_8 rfl ?_
  obtain ⟨v9, hv9, h⟩ := Option.bind_eq_some_iff.mp h
  refine RT.gf 11 0 2 (pc := 9) (x := a0) (v := v9) hz dX11_feed_9 fl_X11_10 rfl hv9 ?_
  refine RT.lload_n (pc := 12) (k := 3) (x := a3) dX11_feed_12 rfl ?_
  obtain ⟨p13, hp13, h⟩ := Option.bind_eq_some_iff.mp h
  obtain ⟨hk13, hp13⟩ := rt_gd_some hp13
  refine RT.cVz (pc := 13) (M' := M_X8_add) (ci := 8) (x := v9) (As := [(1, a3)]) (st := []) (r := none) (mem1 := p13) (d' := d - 1) hz dX11_feed_13 mw_X8_add ml_X11_78 mi_X8_add hk13 rfl rfl (Nat.le_of_ble_eq_true rfl) (Nat.le_of_ble_eq_true rfl) (by omega) rfl rfl (c_X8_add hz (by omega) v9 a3 p5 _ hk13 hp13) ?_
  refine RT.aload_n (pc := 16) (k := 0) (x := a0) dX11_feed_16 rfl ?_
  obtain ⟨v17, hv17, h⟩ := Option.bind_eq_some_iff.mp h
  refine RT.gf 11 0 2 (pc := 17) (x := a0) (v := v17) hz dX11_feed_17 fl_X11_10 rfl hv17 ?_
  refine RT.lload (pc := 20) (k := 5) (x := a5) dX11_feed_20 rfl ?_
  obtain ⟨p22, hp22, h⟩ := Option.bind_eq_some_iff.mp h
  obtain ⟨hk22, hp22⟩ := rt_gd_some hp22
  refine RT.cVz (pc := 22) (M' := M_X8_add) (ci := 8) (x := v17) (As := [(1, a5)]) (st := []) (r := none) (mem1 := p22) (d' := d - 1) hz dX11_feed_22 mw_X8_add ml_X11_78 mi_X8_add hk22 rfl rfl (Nat.le_of_ble_eq_true rfl) (Nat.le_of_ble_eq_true rfl) (by omega) rfl rfl (c_X8_add hz (by omega) v17 a5 p13 _ hk22 hp22) ?_
  refine RT.aload_n (pc := 25) (k := 0) (x := a0) dX11_feed_25 rfl ?_
  obtain ⟨v26, hv26, h⟩ := Option.bind_eq_some_iff.mp h
  refine RT.gf 11 0 2 (pc := 26) (x := a0) (v := v26) hz dX11_feed_26 fl_X11_10 rfl hv26 ?_
  obtain ⟨v29, hv29, h⟩ := Option.bind_eq_some_iff.mp h
  refine RT.gf 8 1 0 (pc := 29) (x := v26) (v := v29) hz dX11_feed_29 fl_X11_82 rfl hv29 ?_
  obtain rfl := Option.some.inj h
  exact RT.iret (pc := 32) dX11_feed_32 rfl (Nat.le_of_eq (rt_cells_0 z)) (Nat.le_of_eq (rt_slots_0 z)) hK
theorem cb_X11_realm_57 {G : rt_G} {d : Nat} {z : Nat × Nat} {Q : rt_P} (hz : 300 ≤ z.1) (hd : 66 ≤ d) {a0 : Int} (ht : rt_kd a0.toNat = 20 + 11) (s : Int × rt_M) (t : (Int × rt_M) ⊕ (rt_M)) (h : b_X11_realm_57 a0 s = some t) (hK : (∀ s1 : Int × rt_M, t = .inl s1 → RT G M_X11_realm d z Q 57 [(2, a0), (9, 0), (9, 0), (0, s1.1)] [] z s1.2) ∧ (∀ x1 : rt_M, t = .inr x1 → RT G M_X11_realm d z Q 78 [(9, 0), (9, 0), (9, 0), (9, 0)] [] z x1)) : RT G M_X11_realm d z Q 57 [(2, a0), (9, 0), (9, 0), (0, s.1)] [] z s.2 := by
  unfold b_X11_realm_57 at h
  refine RT.iload_n (pc := 57) (k := 3) (x := s.1) dX11_realm_57 rfl ?_
  refine RT.iconst (pc := 58) (n := 4) dX11_realm_58 ⟨by decide, by decide⟩ ?_
  refine RT.icmp_ge (pc := 59) (tgt := 78) dX11_realm_59 rfl (fun q59 => ?_) (fun q59 => ?_)
  · rw [if_pos q59] at h
    refine RT.wk (L1 := [(9, 0), (9, 0), (9, 0), (9, 0)]) (rt_le_j (rt_le_s (rt_le_s (rt_le_j rt_le_n)))) ?_
    obtain rfl := Option.some.inj h
    have q1 := hK.2 s.2 rfl
    try dsimp only at q1
    exact q1
  · rw [if_neg q59] at h
    refine RT.aload_n (pc := 62) (k := 0) (x := a0) dX11_realm_62 rfl ?_
    obtain ⟨v63, hv63, h⟩ := Option.bind_eq_some_iff.mp h
    refine RT.gf 11 3 2 (pc := 63) (x := a0) (v := v63) hz dX11_realm_63 fl_X11_32 rfl hv63 ?_
    refine RT.iload_n (pc := 66) (k := 3) (x := s.1) dX11_realm_66 rfl ?_
    obtain ⟨v67, hv67, h⟩ := Option.bind_eq_some_iff.mp h
    refine RT.aald7 (pc := 67) (x := v63) (i := s.1) (v := v67) dX11_realm_67 (rt_lta hz (by decide) (by decide) hv67) hv67 ?_
    refine RT.iconst (pc := 68) (n := 0) dX11_realm_68 ⟨by decide, by decide⟩ ?_
    obtain ⟨m69, hm69, h⟩ := Option.bind_eq_some_iff.mp h
    refine RT.pf_z 0 4 (pc := 69) (mem1 := m69) hz dX11_realm_69 fl_X11_97 rfl rfl rfl (by decide) hm69 ?_
    refine RT.iinc (pc := 72) (x := s.1) (L1 := [(2, a0), (9, 0), (9, 0), (0, (rt_iadd s.1 1))]) dX11_realm_72 rfl (Nat.le_of_ble_eq_true rfl) ⟨by decide, by decide⟩ rfl ?_
    refine RT.goto (pc := 75) (tgt := 57) dX11_realm_75 rfl ?_
    obtain rfl := Option.some.inj h
    have q1 := hK.1 (((rt_iadd s.1 1), m69)) rfl
    try dsimp only at q1
    exact q1
theorem c_X11_realm {G : rt_G} {d : Nat} {z : Nat × Nat} (hz : 300 ≤ z.1) (hd : 66 ≤ d) (a0 : Int) (mem0 : rt_M) (t : Int × rt_M) (ht : rt_kd a0.toNat = 20 + 11) (h : f_X11_realm a0 mem0 = some t) : RM G M_X11_realm d [(2, a0)] z mem0 (some (0, t.1)) t.2 := by
  suffices H : ∀ Q : rt_P, Q (some (0, t.1)) z t.2 → RT G M_X11_realm d z Q 0 [(2, a0), (9, 0), (9, 0), (9, 0)] [] z mem0 from H _ ⟨rfl, rfl, rfl⟩
  intro Q hK
  unfold f_X11_realm at h
  refine RT.aload_n (pc := 0) (k := 0) (x := a0) dX11_realm_0 rfl ?_
  obtain ⟨v1, hv1, h⟩ := Option.bind_eq_some_iff.mp h
  refine RT.gf 11 1 2 (pc := 1) (x := a0) (v := v1) hz dX11_realm_1 fl_X11_21 rfl hv1 ?_
  refine RT.aload_n (pc := 4) (k := 0) (x := a0) dX11_realm_4 rfl ?_
  obtain ⟨v5, hv5, h⟩ := Option.bind_eq_some_iff.mp h
  refine RT.gf 11 8 2 (pc := 5) (x := a0) (v := v5) hz dX11_realm_5 fl_X11_49 rfl hv5 ?_
  obtain ⟨p8, hp8, h⟩ := Option.bind_eq_some_iff.mp h
  obtain ⟨hk8, hp8⟩ := rt_gd_some hp8
  refine RT.cVz (pc := 8) (M' := M_X3_readRealm) (ci := 3) (x := v1) (As := [(2, v5)]) (st := []) (r := some (0, p8.1)) (mem1 := p8.2) (d' := d - 1) hz dX11_realm_8 mw_X3_readRealm ml_X11_86 mi_X3_readRealm hk8 rfl rfl (Nat.le_of_ble_eq_true rfl) (Nat.le_of_ble_eq_true rfl) (by omega) rfl rfl (c_X3_readRealm hz (by omega) v1 v5 mem0 _ hk8 hp8) ?_
  refine RT.istore_n (pc := 11) (k := 1) (x := p8.1) (L1 := [(2, a0), (0, p8.1), (9, 0), (9, 0)]) dX11_realm_11 (Nat.le_of_ble_eq_true rfl) rfl ?_
  refine RT.aload_n (pc := 12) (k := 0) (x := a0) dX11_realm_12 rfl ?_
  obtain ⟨v13, hv13, h⟩ := Option.bind_eq_some_iff.mp h
  refine RT.gf 11 0 2 (pc := 13) (x := a0) (v := v13) hz dX11_realm_13 fl_X11_10 rfl hv13 ?_
  obtain ⟨p16, hp16, h⟩ := Option.bind_eq_some_iff.mp h
  obtain ⟨hk16, hp16⟩ := rt_gd_some hp16
  refine RT.cVz (pc := 16) (M' := M_X8_clear) (ci := 8) (x := v13) (As := []) (st := []) (r := none) (mem1 := p16) (d' := d - 1) hz dX11_realm_16 mw_X8_clear ml_X11_90 mi_X8_clear hk16 rfl rfl (Nat.le_of_ble_eq_true rfl) (Nat.le_of_ble_eq_true rfl) (by omega) rfl rfl (c_X8_clear hz (by omega) v13 p8.2 _ hk16 hp16) ?_
  refine RT.iload_n (pc := 19) (k := 1) (x := p8.1) dX11_realm_19 rfl ?_
  refine RT.if_eq (pc := 20) (tgt := 25) dX11_realm_20 rfl (fun q20 => ?_) (fun q20 => ?_)
  · rw [if_pos q20] at h
    refine RT.aload_n (pc := 25) (k := 0) (x := a0) dX11_realm_25 rfl ?_
    obtain ⟨v26, hv26, h⟩ := Option.bind_eq_some_iff.mp h
    refine RT.gf 11 7 2 (pc := 26) (x := a0) (v := v26) hz dX11_realm_26 fl_X11_45 rfl hv26 ?_
    refine RT.astore_n (pc := 29) (k := 2) (x := v26) (L1 := [(2, a0), (0, p8.1), (2, v26), (9, 0)]) dX11_realm_29 (Nat.le_of_ble_eq_true rfl) rfl ?_
    refine RT.aload_n (pc := 30) (k := 0) (x := a0) dX11_realm_30 rfl ?_
    refine RT.aload_n (pc := 31) (k := 0) (x := a0) dX11_realm_31 rfl ?_
    obtain ⟨v32, hv32, h⟩ := Option.bind_eq_some_iff.mp h
    refine RT.gf 11 8 2 (pc := 32) (x := a0) (v := v32) hz dX11_realm_32 fl_X11_49 rfl hv32 ?_
    obtain ⟨m35, hm35, h⟩ := Option.bind_eq_some_iff.mp h
    refine RT.pf_r 11 7 (pc := 35) (mem1 := m35) hz dX11_realm_35 fl_X11_45 rfl rfl rfl hm35 ?_
    refine RT.aload_n (pc := 38) (k := 0) (x := a0) dX11_realm_38 rfl ?_
    refine RT.aload_n (pc := 39) (k := 2) (x := v26) dX11_realm_39 rfl ?_
    obtain ⟨m40, hm40, h⟩ := Option.bind_eq_some_iff.mp h
    refine RT.pf_r 11 8 (pc := 40) (mem1 := m40) hz dX11_realm_40 fl_X11_49 rfl rfl rfl hm40 ?_
    refine RT.aload_n (pc := 43) (k := 0) (x := a0) dX11_realm_43 rfl ?_
    obtain ⟨v44, hv44, h⟩ := Option.bind_eq_some_iff.mp h
    refine RT.gf 11 2 2 (pc := 44) (x := a0) (v := v44) hz dX11_realm_44 fl_X11_28 rfl hv44 ?_
    obtain ⟨p47, hp47, h⟩ := Option.bind_eq_some_iff.mp h
    obtain ⟨hk47, hp47⟩ := rt_gd_some hp47
    refine RT.cVz (pc := 47) (M' := M_X0_clear) (ci := 0) (x := v44) (As := []) (st := []) (r := none) (mem1 := p47) (d' := d - 1) hz dX11_realm_47 mw_X0_clear ml_X11_93 mi_X0_clear hk47 rfl rfl (Nat.le_of_ble_eq_true rfl) (Nat.le_of_ble_eq_true rfl) (by omega) rfl rfl (c_X0_clear hz (by omega) v44 m40 _ hk47 hp47) ?_
    refine RT.aload_n (pc := 50) (k := 0) (x := a0) dX11_realm_50 rfl ?_
    refine RT.iconst (pc := 51) (n := 0) dX11_realm_51 ⟨by decide, by decide⟩ ?_
    obtain ⟨m52, hm52, h⟩ := Option.bind_eq_some_iff.mp h
    refine RT.pf_i 11 5 (pc := 52) (mem1 := m52) hz dX11_realm_52 fl_X11_94 rfl rfl rfl hm52 ?_
    refine RT.iconst (pc := 55) (n := 0) dX11_realm_55 ⟨by decide, by decide⟩ ?_
    refine RT.istore_n (pc := 56) (k := 3) (x := 0) (L1 := [(2, a0), (0, p8.1), (2, v26), (0, 0)]) dX11_realm_56 (Nat.le_of_ble_eq_true rfl) rfl ?_
    refine RT.wk (L1 := [(2, a0), (9, 0), (9, 0), (0, 0)]) (rt_le_s (rt_le_j (rt_le_j (rt_le_s rt_le_n)))) ?_
    obtain ⟨X57, hX57, h⟩ := Option.bind_eq_some_iff.mp h
    refine rt_it_ind (P := (fun s1 : Int × rt_M => RT G M_X11_realm d z Q 57 [(2, a0), (9, 0), (9, 0), (0, s1.1)] [] z s1.2)) (X := (fun x1 : rt_M => RT G M_X11_realm d z Q 78 [(9, 0), (9, 0), (9, 0), (9, 0)] [] z x1)) (fun s1 t1 h1 k1 k2 => cb_X11_realm_57 hz hd ht s1 t1 h1 ⟨k1, k2⟩) 4000 ((0, m52)) X57 hX57 ?_
    refine RT.iconst (pc := 78) (n := 0) dX11_realm_78 ⟨by decide, by decide⟩ ?_
    obtain rfl := Option.some.inj h
    exact RT.iret (pc := 79) dX11_realm_79 rfl (Nat.le_of_eq (rt_cells_0 z)) (Nat.le_of_eq (rt_slots_0 z)) hK
  · rw [if_neg q20] at h
    refine RT.iload_n (pc := 23) (k := 1) (x := p8.1) dX11_realm_23 rfl ?_
    obtain rfl := Option.some.inj h
    exact RT.iret (pc := 24) dX11_realm_24 rfl (Nat.le_of_eq (rt_cells_0 z)) (Nat.le_of_eq (rt_slots_0 z)) hK
theorem cj_X11_years_41 {G : rt_G} {d : Nat} {z : Nat × Nat} {Q : rt_P} (hz : 300 ≤ z.1) (hd : 5 ≤ d) {a0 : Int} (ht : rt_kd a0.toNat = 20 + 11) (a1 : Int) (mem0 : rt_M) (t : Int × rt_M) (h : j_X11_years_41 a1 mem0 = some t) (hK : Q (some (0, t.1)) z t.2) : RT G M_X11_years d z Q 41 [(9, 0), (0, a1)] [] z mem0 := by
  unfold j_X11_years_41 at h
  refine RT.iload_n (pc := 41) (k := 1) (x := a1) dX11_years_41 rfl ?_
  obtain rfl := Option.some.inj h
  exact RT.iret (pc := 42) dX11_years_42 rfl (Nat.le_of_eq (rt_cells_0 z)) (Nat.le_of_eq (rt_slots_0 z)) hK
theorem c_X11_years {G : rt_G} {d : Nat} {z : Nat × Nat} (hz : 300 ≤ z.1) (hd : 5 ≤ d) (a0 : Int) (mem0 : rt_M) (t : Int × rt_M) (ht : rt_kd a0.toNat = 20 + 11) (h : f_X11_years a0 mem0 = some t) : RM G M_X11_years d [(2, a0)] z mem0 (some (0, t.1)) t.2 := by
  suffices H : ∀ Q : rt_P, Q (some (0, t.1)) z t.2 → RT G M_X11_years d z Q 0 [(2, a0), (9, 0)] [] z mem0 from H _ ⟨rfl, rfl, rfl⟩
  intro Q hK
  unfold f_X11_years at h
  refine RT.aload_n (pc := 0) (k := 0) (x := a0) dX11_years_0 rfl ?_
  obtain ⟨v1, hv1, h⟩ := Option.bind_eq_some_iff.mp h
  refine RT.gf 11 1 2 (pc := 1) (x := a0) (v := v1) hz dX11_years_1 fl_X11_21 rfl hv1 ?_
  refine RT.aload_n (pc := 4) (k := 0) (x := a0) dX11_years_4 rfl ?_
  obtain ⟨v5, hv5, h⟩ := Option.bind_eq_some_iff.mp h
  refine RT.gf 11 7 2 (pc := 5) (x := a0) (v := v5) hz dX11_years_5 fl_X11_45 rfl hv5 ?_
  refine RT.aload_n (pc := 8) (k := 0) (x := a0) dX11_years_8 rfl ?_
  obtain ⟨v9, hv9, h⟩ := Option.bind_eq_some_iff.mp h
  refine RT.gf 11 9 2 (pc := 9) (x := a0) (v := v9) hz dX11_years_9 fl_X11_55 rfl hv9 ?_
  obtain ⟨p12, hp12, h⟩ := Option.bind_eq_some_iff.mp h
  obtain ⟨hk12, hp12⟩ := rt_gd_some hp12
  refine RT.cVz (pc := 12) (M' := M_X3_readYears) (ci := 3) (x := v1) (As := [(2, v5), (2, v9)]) (st := []) (r := some (0, p12.1)) (mem1 := p12.2) (d' := d - 1) hz dX11_years_12 mw_X3_readYears ml_X11_101 mi_X3_readYears hk12 rfl rfl (Nat.le_of_ble_eq_true rfl) (Nat.le_of_ble_eq_true rfl) (by omega) rfl rfl (c_X3_readYears hz (by omega) v1 v5 v9 mem0 _ hk12 hp12) ?_
  refine RT.istore_n (pc := 15) (k := 1) (x := p12.1) (L1 := [(2, a0), (0, p12.1)]) dX11_years_15 (Nat.le_of_ble_eq_true rfl) rfl ?_
  refine RT.aload_n (pc := 16) (k := 0) (x := a0) dX11_years_16 rfl ?_
  obtain ⟨v17, hv17, h⟩ := Option.bind_eq_some_iff.mp h
  refine RT.gf 11 0 2 (pc := 17) (x := a0) (v := v17) hz dX11_years_17 fl_X11_10 rfl hv17 ?_
  obtain ⟨p20, hp20, h⟩ := Option.bind_eq_some_iff.mp h
  obtain ⟨hk20, hp20⟩ := rt_gd_some hp20
  refine RT.cVz (pc := 20) (M' := M_X8_clear) (ci := 8) (x := v17) (As := []) (st := []) (r := none) (mem1 := p20) (d' := d - 1) hz dX11_years_20 mw_X8_clear ml_X11_90 mi_X8_clear hk20 rfl rfl (Nat.le_of_ble_eq_true rfl) (Nat.le_of_ble_eq_true rfl) (by omega) rfl rfl (c_X8_clear hz (by omega) v17 p12.2 _ hk20 hp20) ?_
  refine RT.iload_n (pc := 23) (k := 1) (x := p12.1) dX11_years_23 rfl ?_
  refine RT.if_ne (pc := 24) (tgt := 41) dX11_years_24 rfl (fun q24 => ?_) (fun q24 => ?_)
  · rw [if_neg q24] at h
    refine RT.wk (L1 := [(9, 0), (0, p12.1)]) (rt_le_j (rt_le_s rt_le_n)) ?_
    exact cj_X11_years_41 hz hd ht p12.1 p20 _ h hK
  · rw [if_pos (Classical.not_not.mp q24)] at h
    refine RT.aload_n (pc := 27) (k := 0) (x := a0) dX11_years_27 rfl ?_
    obtain ⟨v28, hv28, h⟩ := Option.bind_eq_some_iff.mp h
    refine RT.gf 11 2 2 (pc := 28) (x := a0) (v := v28) hz dX11_years_28 fl_X11_28 rfl hv28 ?_
    obtain ⟨v31, hv31, h⟩ := Option.bind_eq_some_iff.mp h
    refine RT.gf 0 1 2 (pc := 31) (x := v28) (v := v31) hz dX11_years_31 fl_X11_105 rfl hv31 ?_
    refine RT.aload_n (pc := 34) (k := 0) (x := a0) dX11_years_34 rfl ?_
    obtain ⟨v35, hv35, h⟩ := Option.bind_eq_some_iff.mp h
    refine RT.gf 11 9 2 (pc := 35) (x := a0) (v := v35) hz dX11_years_35 fl_X11_55 rfl hv35 ?_
    obtain ⟨p38, hp38, h⟩ := Option.bind_eq_some_iff.mp h
    obtain ⟨hk38, hp38⟩ := rt_gd_some hp38
    refine RT.cVz (pc := 38) (M' := M_X10_copy) (ci := 10) (x := v31) (As := [(2, v35)]) (st := []) (r := none) (mem1 := p38) (d' := d - 1) hz dX11_years_38 mw_X10_copy ml_X11_108 mi_X10_copy hk38 rfl rfl (Nat.le_of_ble_eq_true rfl) (Nat.le_of_ble_eq_true rfl) (by omega) rfl rfl (c_X10_copy hz (by omega) v31 v35 p20 _ hk38 hp38) ?_
    refine RT.wk (L1 := [(9, 0), (0, p12.1)]) (rt_le_j (rt_le_s rt_le_n)) ?_
    exact cj_X11_years_41 hz hd ht p12.1 p38 _ h hK
theorem c_X11_wig {G : rt_G} {d : Nat} {z : Nat × Nat} (hz : 300 ≤ z.1) (hd : 3 ≤ d) (a0 : Int) (a1 : Int) (a2 : Int) (mem0 : rt_M) (t : Int) (ht : rt_kd a0.toNat = 20 + 11) (h : f_X11_wig a0 a1 a2 mem0 = some t) : RM G M_X11_wig d [(2, a0), (0, a1), (0, a2)] z mem0 (some (0, t)) mem0 := by
  suffices H : ∀ Q : rt_P, Q (some (0, t)) z mem0 → RT G M_X11_wig d z Q 0 [(2, a0), (0, a1), (0, a2)] [] z mem0 from H _ ⟨rfl, rfl, rfl⟩
  intro Q hK
  unfold f_X11_wig at h
  refine RT.aload_n (pc := 0) (k := 0) (x := a0) dX11_wig_0 rfl ?_
  obtain ⟨v1, hv1, h⟩ := Option.bind_eq_some_iff.mp h
  refine RT.gf 11 7 2 (pc := 1) (x := a0) (v := v1) hz dX11_wig_1 fl_X11_45 rfl hv1 ?_
  refine RT.iload_n (pc := 4) (k := 1) (x := a1) dX11_wig_4 rfl ?_
  obtain ⟨p5, hp5, h⟩ := Option.bind_eq_some_iff.mp h
  obtain ⟨hk5, hp5⟩ := rt_gd_some hp5
  refine RT.cVz (pc := 5) (M' := M_X4_isWig) (ci := 4) (x := v1) (As := [(0, a1)]) (st := []) (r := some (0, p5)) (mem1 := mem0) (d' := d - 1) hz dX11_wig_5 mw_X4_isWig ml_X11_112 mi_X4_isWig hk5 rfl rfl (Nat.le_of_ble_eq_true rfl) (Nat.le_of_ble_eq_true rfl) (by omega) rfl rfl (c_X4_isWig hz (by omega) v1 a1 mem0 _ hk5 hp5) ?_
  refine RT.if_ne (pc := 8) (tgt := 14) dX11_wig_8 rfl (fun q8 => ?_) (fun q8 => ?_)
  · rw [if_neg q8] at h
    refine RT.iload_n (pc := 14) (k := 2) (x := a2) dX11_wig_14 rfl ?_
    by_cases q15_0 : a2 = 0
    · rw [if_pos q15_0] at h
      refine RT.tsIn (pc := 15) (off := 33) (tgt := 48) dX11_wig_15 (by omega) (by omega) (by rw [q15_0]; rfl) rfl ?_
      refine RT.aload_n (pc := 48) (k := 0) (x := a0) dX11_wig_48 rfl ?_
      obtain ⟨v49, hv49, h⟩ := Option.bind_eq_some_iff.mp h
      refine RT.gf 11 7 2 (pc := 49) (x := a0) (v := v49) hz dX11_wig_49 fl_X11_45 rfl hv49 ?_
      refine RT.iload_n (pc := 52) (k := 1) (x := a1) dX11_wig_52 rfl ?_
      obtain ⟨p53, hp53, h⟩ := Option.bind_eq_some_iff.mp h
      obtain ⟨hk53, hp53⟩ := rt_gd_some hp53
      refine RT.cVz (pc := 53) (M' := M_X4_sizeOfWig) (ci := 4) (x := v49) (As := [(0, a1)]) (st := []) (r := some (0, p53)) (mem1 := mem0) (d' := d - 1) hz dX11_wig_53 mw_X4_sizeOfWig ml_X11_116 mi_X4_sizeOfWig hk53 rfl rfl (Nat.le_of_ble_eq_true rfl) (Nat.le_of_ble_eq_true rfl) (by omega) rfl rfl (c_X4_sizeOfWig hz (by omega) v49 a1 mem0 _ hk53 hp53) ?_
      obtain rfl := Option.some.inj h
      exact RT.iret (pc := 56) dX11_wig_56 rfl (Nat.le_of_eq (rt_cells_0 z)) (Nat.le_of_eq (rt_slots_0 z)) hK
    rw [if_neg q15_0] at h
    by_cases q15_1 : a2 = 1
    · rw [if_pos q15_1] at h
      refine RT.tsIn (pc := 15) (off := 42) (tgt := 57) dX11_wig_15 (by omega) (by omega) (by rw [q15_1]; rfl) rfl ?_
      refine RT.aload_n (pc := 57) (k := 0) (x := a0) dX11_wig_57 rfl ?_
      obtain ⟨v58, hv58, h⟩ := Option.bind_eq_some_iff.mp h
      refine RT.gf 11 7 2 (pc := 58) (x := a0) (v := v58) hz dX11_wig_58 fl_X11_45 rfl hv58 ?_
      refine RT.iload_n (pc := 61) (k := 1) (x := a1) dX11_wig_61 rfl ?_
      obtain ⟨p62, hp62, h⟩ := Option.bind_eq_some_iff.mp h
      obtain ⟨hk62, hp62⟩ := rt_gd_some hp62
      refine RT.cVz (pc := 62) (M' := M_X4_officeOf) (ci := 4) (x := v58) (As := [(0, a1)]) (st := []) (r := some (0, p62)) (mem1 := mem0) (d' := d - 1) hz dX11_wig_62 mw_X4_officeOf ml_X11_120 mi_X4_officeOf hk62 rfl rfl (Nat.le_of_ble_eq_true rfl) (Nat.le_of_ble_eq_true rfl) (by omega) rfl rfl (c_X4_officeOf hz (by omega) v58 a1 mem0 _ hk62 hp62) ?_
      obtain rfl := Option.some.inj h
      exact RT.iret (pc := 65) dX11_wig_65 rfl (Nat.le_of_eq (rt_cells_0 z)) (Nat.le_of_eq (rt_slots_0 z)) hK
    rw [if_neg q15_1] at h
    by_cases q15_2 : a2 = 2
    · rw [if_pos q15_2] at h
      refine RT.tsIn (pc := 15) (off := 51) (tgt := 66) dX11_wig_15 (by omega) (by omega) (by rw [q15_2]; rfl) rfl ?_
      refine RT.aload_n (pc := 66) (k := 0) (x := a0) dX11_wig_66 rfl ?_
      obtain ⟨v67, hv67, h⟩ := Option.bind_eq_some_iff.mp h
      refine RT.gf 11 7 2 (pc := 67) (x := a0) (v := v67) hz dX11_wig_67 fl_X11_45 rfl hv67 ?_
      refine RT.iload_n (pc := 70) (k := 1) (x := a1) dX11_wig_70 rfl ?_
      obtain ⟨p71, hp71, h⟩ := Option.bind_eq_some_iff.mp h
      obtain ⟨hk71, hp71⟩ := rt_gd_some hp71
      refine RT.cVz (pc := 71) (M' := M_X4_leanOfWig) (ci := 4) (x := v67) (As := [(0, a1)]) (st := []) (r := some (0, p71)) (mem1 := mem0) (d' := d - 1) hz dX11_wig_71 mw_X4_leanOfWig ml_X11_123 mi_X4_leanOfWig hk71 rfl rfl (Nat.le_of_ble_eq_true rfl) (Nat.le_of_ble_eq_true rfl) (by omega) rfl rfl (c_X4_leanOfWig hz (by omega) v67 a1 mem0 _ hk71 hp71) ?_
      obtain rfl := Option.some.inj h
      exact RT.iret (pc := 74) dX11_wig_74 rfl (Nat.le_of_eq (rt_cells_0 z)) (Nat.le_of_eq (rt_slots_0 z)) hK
    rw [if_neg q15_2] at h
    by_cases q15_3 : a2 = 3
    · rw [if_pos q15_3] at h
      refine RT.tsIn (pc := 15) (off := 60) (tgt := 75) dX11_wig_15 (by omega) (by omega) (by rw [q15_3]; rfl) rfl ?_
      refine RT.aload_n (pc := 75) (k := 0) (x := a0) dX11_wig_75 rfl ?_
      obtain ⟨v76, hv76, h⟩ := Option.bind_eq_some_iff.mp h
      refine RT.gf 11 2 2 (pc := 76) (x := a0) (v := v76) hz dX11_wig_76 fl_X11_28 rfl hv76 ?_
      obtain ⟨v79, hv79, h⟩ := Option.bind_eq_some_iff.mp h
      refine RT.gf 0 0 2 (pc := 79) (x := v76) (v := v79) hz dX11_wig_79 fl_X11_126 rfl hv79 ?_
      refine RT.iload_n (pc := 82) (k := 1) (x := a1) dX11_wig_82 rfl ?_
      obtain ⟨p83, hp83, h⟩ := Option.bind_eq_some_iff.mp h
      obtain ⟨hk83, hp83⟩ := rt_gd_some hp83
      refine RT.cVz (pc := 83) (M' := M_X7_headUnder) (ci := 7) (x := v79) (As := [(0, a1)]) (st := []) (r := some (0, p83)) (mem1 := mem0) (d' := d - 1) hz dX11_wig_83 mw_X7_headUnder ml_X11_129 mi_X7_headUnder hk83 rfl rfl (Nat.le_of_ble_eq_true rfl) (Nat.le_of_ble_eq_true rfl) (by omega) rfl rfl (c_X7_headUnder hz (by omega) v79 a1 mem0 _ hk83 hp83) ?_
      obtain rfl := Option.some.inj h
      exact RT.iret (pc := 86) dX11_wig_86 rfl (Nat.le_of_eq (rt_cells_0 z)) (Nat.le_of_eq (rt_slots_0 z)) hK
    rw [if_neg q15_3] at h
    by_cases q15_4 : a2 = 4
    · rw [if_pos q15_4] at h
      refine RT.tsIn (pc := 15) (off := 72) (tgt := 87) dX11_wig_15 (by omega) (by omega) (by rw [q15_4]; rfl) rfl ?_
      refine RT.aload_n (pc := 87) (k := 0) (x := a0) dX11_wig_87 rfl ?_
      obtain ⟨v88, hv88, h⟩ := Option.bind_eq_some_iff.mp h
      refine RT.gf 11 2 2 (pc := 88) (x := a0) (v := v88) hz dX11_wig_88 fl_X11_28 rfl hv88 ?_
      obtain ⟨v91, hv91, h⟩ := Option.bind_eq_some_iff.mp h
      refine RT.gf 0 0 2 (pc := 91) (x := v88) (v := v91) hz dX11_wig_91 fl_X11_126 rfl hv91 ?_
      refine RT.iload_n (pc := 94) (k := 1) (x := a1) dX11_wig_94 rfl ?_
      obtain ⟨p95, hp95, h⟩ := Option.bind_eq_some_iff.mp h
      obtain ⟨hk95, hp95⟩ := rt_gd_some hp95
      refine RT.cVz (pc := 95) (M' := M_X7_wearOf) (ci := 7) (x := v91) (As := [(0, a1)]) (st := []) (r := some (0, p95)) (mem1 := mem0) (d' := d - 1) hz dX11_wig_95 mw_X7_wearOf ml_X11_132 mi_X7_wearOf hk95 rfl rfl (Nat.le_of_ble_eq_true rfl) (Nat.le_of_ble_eq_true rfl) (by omega) rfl rfl (c_X7_wearOf hz (by omega) v91 a1 mem0 _ hk95 hp95) ?_
      obtain rfl := Option.some.inj h
      exact RT.iret (pc := 98) dX11_wig_98 rfl (Nat.le_of_eq (rt_cells_0 z)) (Nat.le_of_eq (rt_slots_0 z)) hK
    rw [if_neg q15_4] at h
    refine RT.tsOut (pc := 15) (tgt := 99) dX11_wig_15 (by omega) rfl ?_
    refine RT.bipush (pc := 99) (n := (-2)) dX11_wig_99 ⟨by decide, by decide⟩ rfl ?_
    obtain rfl := Option.some.inj h
    exact RT.iret (pc := 101) dX11_wig_101 rfl (Nat.le_of_eq (rt_cells_0 z)) (Nat.le_of_eq (rt_slots_0 z)) hK
  · rw [if_pos (Classical.not_not.mp q8)] at h
    refine RT.bipush (pc := 11) (n := (-2)) dX11_wig_11 ⟨by decide, by decide⟩ rfl ?_
    obtain rfl := Option.some.inj h
    exact RT.iret (pc := 13) dX11_wig_13 rfl (Nat.le_of_eq (rt_cells_0 z)) (Nat.le_of_eq (rt_slots_0 z)) hK
theorem c_X11_head {G : rt_G} {d : Nat} {z : Nat × Nat} (hz : 300 ≤ z.1) (hd : 3 ≤ d) (a0 : Int) (a1 : Int) (a2 : Int) (mem0 : rt_M) (t : Int × rt_M) (ht : rt_kd a0.toNat = 20 + 11) (h : f_X11_head a0 a1 a2 mem0 = some t) : RM G M_X11_head d [(2, a0), (0, a1), (0, a2)] z mem0 (some (0, t.1)) t.2 := by
  suffices H : ∀ Q : rt_P, Q (some (0, t.1)) z t.2 → RT G M_X11_head d z Q 0 [(2, a0), (0, a1), (0, a2)] [] z mem0 from H _ ⟨rfl, rfl, rfl⟩
  intro Q hK
  unfold f_X11_head at h
  refine RT.aload_n (pc := 0) (k := 0) (x := a0) dX11_head_0 rfl ?_
  obtain ⟨v1, hv1, h⟩ := Option.bind_eq_some_iff.mp h
  refine RT.gf 11 7 2 (pc := 1) (x := a0) (v := v1) hz dX11_head_1 fl_X11_45 rfl hv1 ?_
  refine RT.iload_n (pc := 4) (k := 1) (x := a1) dX11_head_4 rfl ?_
  obtain ⟨p5, hp5, h⟩ := Option.bind_eq_some_iff.mp h
  obtain ⟨hk5, hp5⟩ := rt_gd_some hp5
  refine RT.cVz (pc := 5) (M' := M_X4_isHead) (ci := 4) (x := v1) (As := [(0, a1)]) (st := []) (r := some (0, p5)) (mem1 := mem0) (d' := d - 1) hz dX11_head_5 mw_X4_isHead ml_X11_135 mi_X4_isHead hk5 rfl rfl (Nat.le_of_ble_eq_true rfl) (Nat.le_of_ble_eq_true rfl) (by omega) rfl rfl (c_X4_isHead hz (by omega) v1 a1 mem0 _ hk5 hp5) ?_
  refine RT.if_ne (pc := 8) (tgt := 14) dX11_head_8 rfl (fun q8 => ?_) (fun q8 => ?_)
  · rw [if_neg q8] at h
    refine RT.iload_n (pc := 14) (k := 2) (x := a2) dX11_head_14 rfl ?_
    by_cases q15_0 : a2 = 0
    · rw [if_pos q15_0] at h
      refine RT.tsIn (pc := 15) (off := 37) (tgt := 52) dX11_head_15 (by omega) (by omega) (by rw [q15_0]; rfl) rfl ?_
      refine RT.aload_n (pc := 52) (k := 0) (x := a0) dX11_head_52 rfl ?_
      obtain ⟨v53, hv53, h⟩ := Option.bind_eq_some_iff.mp h
      refine RT.gf 11 7 2 (pc := 53) (x := a0) (v := v53) hz dX11_head_53 fl_X11_45 rfl hv53 ?_
      refine RT.iload_n (pc := 56) (k := 1) (x := a1) dX11_head_56 rfl ?_
      refine RT.iconst (pc := 57) (n := 0) dX11_head_57 ⟨by decide, by decide⟩ ?_
      obtain ⟨p58, hp58, h⟩ := Option.bind_eq_some_iff.mp h
      obtain ⟨hk58, hp58⟩ := rt_gd_some hp58
      refine RT.cVz (pc := 58) (M' := M_X4_ofHead) (ci := 4) (x := v53) (As := [(0, a1), (0, 0)]) (st := []) (r := some (0, p58)) (mem1 := mem0) (d' := d - 1) hz dX11_head_58 mw_X4_ofHead ml_X11_138 mi_X4_ofHead hk58 rfl rfl (Nat.le_of_ble_eq_true rfl) (Nat.le_of_ble_eq_true rfl) (by omega) rfl rfl (c_X4_ofHead hz (by omega) v53 a1 0 mem0 _ hk58 hp58) ?_
      obtain rfl := Option.some.inj h
      exact RT.iret (pc := 61) dX11_head_61 rfl (Nat.le_of_eq (rt_cells_0 z)) (Nat.le_of_eq (rt_slots_0 z)) hK
    rw [if_neg q15_0] at h
    by_cases q15_1 : a2 = 1
    · rw [if_pos q15_1] at h
      refine RT.tsIn (pc := 15) (off := 47) (tgt := 62) dX11_head_15 (by omega) (by omega) (by rw [q15_1]; rfl) rfl ?_
      refine RT.aload_n (pc := 62) (k := 0) (x := a0) dX11_head_62 rfl ?_
      obtain ⟨v63, hv63, h⟩ := Option.bind_eq_some_iff.mp h
      refine RT.gf 11 7 2 (pc := 63) (x := a0) (v := v63) hz dX11_head_63 fl_X11_45 rfl hv63 ?_
      refine RT.iload_n (pc := 66) (k := 1) (x := a1) dX11_head_66 rfl ?_
      refine RT.iconst (pc := 67) (n := 1) dX11_head_67 ⟨by decide, by decide⟩ ?_
      obtain ⟨p68, hp68, h⟩ := Option.bind_eq_some_iff.mp h
      obtain ⟨hk68, hp68⟩ := rt_gd_some hp68
      refine RT.cVz (pc := 68) (M' := M_X4_ofHead) (ci := 4) (x := v63) (As := [(0, a1), (0, 1)]) (st := []) (r := some (0, p68)) (mem1 := mem0) (d' := d - 1) hz dX11_head_68 mw_X4_ofHead ml_X11_138 mi_X4_ofHead hk68 rfl rfl (Nat.le_of_ble_eq_true rfl) (Nat.le_of_ble_eq_true rfl) (by omega) rfl rfl (c_X4_ofHead hz (by omega) v63 a1 1 mem0 _ hk68 hp68) ?_
      obtain rfl := Option.some.inj h
      exact RT.iret (pc := 71) dX11_head_71 rfl (Nat.le_of_eq (rt_cells_0 z)) (Nat.le_of_eq (rt_slots_0 z)) hK
    rw [if_neg q15_1] at h
    by_cases q15_2 : a2 = 2
    · rw [if_pos q15_2] at h
      refine RT.tsIn (pc := 15) (off := 57) (tgt := 72) dX11_head_15 (by omega) (by omega) (by rw [q15_2]; rfl) rfl ?_
      refine RT.aload_n (pc := 72) (k := 0) (x := a0) dX11_head_72 rfl ?_
      obtain ⟨v73, hv73, h⟩ := Option.bind_eq_some_iff.mp h
      refine RT.gf 11 7 2 (pc := 73) (x := a0) (v := v73) hz dX11_head_73 fl_X11_45 rfl hv73 ?_
      refine RT.iload_n (pc := 76) (k := 1) (x := a1) dX11_head_76 rfl ?_
      refine RT.iconst (pc := 77) (n := 2) dX11_head_77 ⟨by decide, by decide⟩ ?_
      obtain ⟨p78, hp78, h⟩ := Option.bind_eq_some_iff.mp h
      obtain ⟨hk78, hp78⟩ := rt_gd_some hp78
      refine RT.cVz (pc := 78) (M' := M_X4_ofHead) (ci := 4) (x := v73) (As := [(0, a1), (0, 2)]) (st := []) (r := some (0, p78)) (mem1 := mem0) (d' := d - 1) hz dX11_head_78 mw_X4_ofHead ml_X11_138 mi_X4_ofHead hk78 rfl rfl (Nat.le_of_ble_eq_true rfl) (Nat.le_of_ble_eq_true rfl) (by omega) rfl rfl (c_X4_ofHead hz (by omega) v73 a1 2 mem0 _ hk78 hp78) ?_
      obtain rfl := Option.some.inj h
      exact RT.iret (pc := 81) dX11_head_81 rfl (Nat.le_of_eq (rt_cells_0 z)) (Nat.le_of_eq (rt_slots_0 z)) hK
    rw [if_neg q15_2] at h
    by_cases q15_3 : a2 = 3
    · rw [if_pos q15_3] at h
      refine RT.tsIn (pc := 15) (off := 67) (tgt := 82) dX11_head_15 (by omega) (by omega) (by rw [q15_3]; rfl) rfl ?_
      refine RT.aload_n (pc := 82) (k := 0) (x := a0) dX11_head_82 rfl ?_
      obtain ⟨v83, hv83, h⟩ := Option.bind_eq_some_iff.mp h
      refine RT.gf 11 7 2 (pc := 83) (x := a0) (v := v83) hz dX11_head_83 fl_X11_45 rfl hv83 ?_
      refine RT.iload_n (pc := 86) (k := 1) (x := a1) dX11_head_86 rfl ?_
      refine RT.iconst (pc := 87) (n := 3) dX11_head_87 ⟨by decide, by decide⟩ ?_
      obtain ⟨p88, hp88, h⟩ := Option.bind_eq_some_iff.mp h
      obtain ⟨hk88, hp88⟩ := rt_gd_some hp88
      refine RT.cVz (pc := 88) (M' := M_X4_ofHead) (ci := 4) (x := v83) (As := [(0, a1), (0, 3)]) (st := []) (r := some (0, p88)) (mem1 := mem0) (d' := d - 1) hz dX11_head_88 mw_X4_ofHead ml_X11_138 mi_X4_ofHead hk88 rfl rfl (Nat.le_of_ble_eq_true rfl) (Nat.le_of_ble_eq_true rfl) (by omega) rfl rfl (c_X4_ofHead hz (by omega) v83 a1 3 mem0 _ hk88 hp88) ?_
      obtain rfl := Option.some.inj h
      exact RT.iret (pc := 91) dX11_head_91 rfl (Nat.le_of_eq (rt_cells_0 z)) (Nat.le_of_eq (rt_slots_0 z)) hK
    rw [if_neg q15_3] at h
    by_cases q15_4 : a2 = 4
    · rw [if_pos q15_4] at h
      refine RT.tsIn (pc := 15) (off := 77) (tgt := 92) dX11_head_15 (by omega) (by omega) (by rw [q15_4]; rfl) rfl ?_
      refine RT.aload_n (pc := 92) (k := 0) (x := a0) dX11_head_92 rfl ?_
      obtain ⟨v93, hv93, h⟩ := Option.bind_eq_some_iff.mp h
      refine RT.gf 11 7 2 (pc := 93) (x := a0) (v := v93) hz dX11_head_93 fl_X11_45 rfl hv93 ?_
      refine RT.iload_n (pc := 96) (k := 1) (x := a1) dX11_head_96 rfl ?_
      refine RT.aload_n (pc := 97) (k := 0) (x := a0) dX11_head_97 rfl ?_
      obtain ⟨v98, hv98, h⟩ := Option.bind_eq_some_iff.mp h
      refine RT.gf 11 2 2 (pc := 98) (x := a0) (v := v98) hz dX11_head_98 fl_X11_28 rfl hv98 ?_
      obtain ⟨v101, hv101, h⟩ := Option.bind_eq_some_iff.mp h
      refine RT.gf 0 0 2 (pc := 101) (x := v98) (v := v101) hz dX11_head_101 fl_X11_126 rfl hv101 ?_
      obtain ⟨v104, hv104, h⟩ := Option.bind_eq_some_iff.mp h
      refine RT.gf 7 0 0 (pc := 104) (x := v101) (v := v104) hz dX11_head_104 fl_X11_142 rfl hv104 ?_
      obtain ⟨p107, hp107, h⟩ := Option.bind_eq_some_iff.mp h
      obtain ⟨hk107, hp107⟩ := rt_gd_some hp107
      refine RT.cVz (pc := 107) (M' := M_X4_girth) (ci := 4) (x := v93) (As := [(0, a1), (0, v104)]) (st := []) (r := some (0, p107.1)) (mem1 := p107.2) (d' := d - 1) hz dX11_head_107 mw_X4_girth ml_X11_145 mi_X4_girth hk107 rfl rfl (Nat.le_of_ble_eq_true rfl) (Nat.le_of_ble_eq_true rfl) (by omega) rfl rfl (c_X4_girth hz (by omega) v93 a1 v104 mem0 _ hk107 hp107) ?_
      obtain rfl := Option.some.inj h
      exact RT.iret (pc := 110) dX11_head_110 rfl (Nat.le_of_eq (rt_cells_0 z)) (Nat.le_of_eq (rt_slots_0 z)) hK
    rw [if_neg q15_4] at h
    by_cases q15_5 : a2 = 5
    · rw [if_pos q15_5] at h
      refine RT.tsIn (pc := 15) (off := 96) (tgt := 111) dX11_head_15 (by omega) (by omega) (by rw [q15_5]; rfl) rfl ?_
      refine RT.aload_n (pc := 111) (k := 0) (x := a0) dX11_head_111 rfl ?_
      obtain ⟨v112, hv112, h⟩ := Option.bind_eq_some_iff.mp h
      refine RT.gf 11 2 2 (pc := 112) (x := a0) (v := v112) hz dX11_head_112 fl_X11_28 rfl hv112 ?_
      obtain ⟨v115, hv115, h⟩ := Option.bind_eq_some_iff.mp h
      refine RT.gf 0 0 2 (pc := 115) (x := v112) (v := v115) hz dX11_head_115 fl_X11_126 rfl hv115 ?_
      refine RT.iload_n (pc := 118) (k := 1) (x := a1) dX11_head_118 rfl ?_
      obtain ⟨p119, hp119, h⟩ := Option.bind_eq_some_iff.mp h
      obtain ⟨hk119, hp119⟩ := rt_gd_some hp119
      refine RT.cVz (pc := 119) (M' := M_X7_wigUpon) (ci := 7) (x := v115) (As := [(0, a1)]) (st := []) (r := some (0, p119)) (mem1 := mem0) (d' := d - 1) hz dX11_head_119 mw_X7_wigUpon ml_X11_148 mi_X7_wigUpon hk119 rfl rfl (Nat.le_of_ble_eq_true rfl) (Nat.le_of_ble_eq_true rfl) (by omega) rfl rfl (c_X7_wigUpon hz (by omega) v115 a1 mem0 _ hk119 hp119) ?_
      obtain rfl := Option.some.inj h
      exact RT.iret (pc := 122) dX11_head_122 rfl (Nat.le_of_eq (rt_cells_0 z)) (Nat.le_of_eq (rt_slots_0 z)) hK
    rw [if_neg q15_5] at h
    refine RT.tsOut (pc := 15) (tgt := 123) dX11_head_15 (by omega) rfl ?_
    refine RT.bipush (pc := 123) (n := (-2)) dX11_head_123 ⟨by decide, by decide⟩ rfl ?_
    obtain rfl := Option.some.inj h
    exact RT.iret (pc := 125) dX11_head_125 rfl (Nat.le_of_eq (rt_cells_0 z)) (Nat.le_of_eq (rt_slots_0 z)) hK
  · rw [if_pos (Classical.not_not.mp q8)] at h
    refine RT.bipush (pc := 11) (n := (-2)) dX11_head_11 ⟨by decide, by decide⟩ rfl ?_
    obtain rfl := Option.some.inj h
    exact RT.iret (pc := 13) dX11_head_13 rfl (Nat.le_of_eq (rt_cells_0 z)) (Nat.le_of_eq (rt_slots_0 z)) hK
theorem cj_X11_fits_61 {G : rt_G} {d : Nat} {z : Nat × Nat} {Q : rt_P} (hz : 300 ≤ z.1) (hd : 4 ≤ d) {a0 : Int} (ht : rt_kd a0.toNat = 20 + 11) (s0 : Int) (mem0 : rt_M) (t : Int × rt_M) (h : j_X11_fits_61 s0 mem0 = some t) (hK : Q (some (0, t.1)) z t.2) : RT G M_X11_fits d z Q 61 [(9, 0), (9, 0), (9, 0), (9, 0)] [(0, s0)] z mem0 := by
  unfold j_X11_fits_61 at h
  obtain ⟨w61, hw61, h⟩ := Option.bind_eq_some_iff.mp h
  obtain rfl := Option.some.inj h
  exact RT.zret (pc := 61) dX11_fits_61 rfl (rt_bz_ok hw61) (Nat.le_of_eq (rt_cells_0 z)) (Nat.le_of_eq (rt_slots_0 z)) hK
theorem cj_X11_fits_60 {G : rt_G} {d : Nat} {z : Nat × Nat} {Q : rt_P} (hz : 300 ≤ z.1) (hd : 4 ≤ d) {a0 : Int} (ht : rt_kd a0.toNat = 20 + 11) (mem0 : rt_M) (t : Int × rt_M) (h : j_X11_fits_60 mem0 = some t) (hK : Q (some (0, t.1)) z t.2) : RT G M_X11_fits d z Q 60 [(9, 0), (9, 0), (9, 0), (9, 0)] [] z mem0 := by
  unfold j_X11_fits_60 at h
  refine RT.iconst (pc := 60) (n := 0) dX11_fits_60 ⟨by decide, by decide⟩ ?_
  exact cj_X11_fits_61 hz hd ht 0 mem0 _ h hK
theorem c_X11_fits {G : rt_G} {d : Nat} {z : Nat × Nat} (hz : 300 ≤ z.1) (hd : 4 ≤ d) (a0 : Int) (a1 : Int) (a2 : Int) (a3 : Int) (mem0 : rt_M) (t : Int × rt_M) (ht : rt_kd a0.toNat = 20 + 11) (h : f_X11_fits a0 a1 a2 a3 mem0 = some t) : RM G M_X11_fits d [(2, a0), (0, a1), (0, a2), (0, a3)] z mem0 (some (0, t.1)) t.2 := by
  suffices H : ∀ Q : rt_P, Q (some (0, t.1)) z t.2 → RT G M_X11_fits d z Q 0 [(2, a0), (0, a1), (0, a2), (0, a3)] [] z mem0 from H _ ⟨rfl, rfl, rfl⟩
  intro Q hK
  unfold f_X11_fits at h
  refine RT.aload_n (pc := 0) (k := 0) (x := a0) dX11_fits_0 rfl ?_
  obtain ⟨v1, hv1, h⟩ := Option.bind_eq_some_iff.mp h
  refine RT.gf 11 7 2 (pc := 1) (x := a0) (v := v1) hz dX11_fits_1 fl_X11_45 rfl hv1 ?_
  refine RT.iload_n (pc := 4) (k := 1) (x := a1) dX11_fits_4 rfl ?_
  obtain ⟨p5, hp5, h⟩ := Option.bind_eq_some_iff.mp h
  obtain ⟨hk5, hp5⟩ := rt_gd_some hp5
  refine RT.cVz (pc := 5) (M' := M_X4_isWig) (ci := 4) (x := v1) (As := [(0, a1)]) (st := []) (r := some (0, p5)) (mem1 := mem0) (d' := d - 1) hz dX11_fits_5 mw_X4_isWig ml_X11_112 mi_X4_isWig hk5 rfl rfl (Nat.le_of_ble_eq_true rfl) (Nat.le_of_ble_eq_true rfl) (by omega) rfl rfl (c_X4_isWig hz (by omega) v1 a1 mem0 _ hk5 hp5) ?_
  refine RT.if_eq (pc := 8) (tgt := 60) dX11_fits_8 rfl (fun q8 => ?_) (fun q8 => ?_)
  · rw [if_pos q8] at h
    refine RT.wk (L1 := [(9, 0), (9, 0), (9, 0), (9, 0)]) (rt_le_j (rt_le_j (rt_le_j (rt_le_j rt_le_n)))) ?_
    exact cj_X11_fits_60 hz hd ht mem0 _ h hK
  · rw [if_neg q8] at h
    refine RT.aload_n (pc := 11) (k := 0) (x := a0) dX11_fits_11 rfl ?_
    obtain ⟨v12, hv12, h⟩ := Option.bind_eq_some_iff.mp h
    refine RT.gf 11 7 2 (pc := 12) (x := a0) (v := v12) hz dX11_fits_12 fl_X11_45 rfl hv12 ?_
    refine RT.iload_n (pc := 15) (k := 2) (x := a2) dX11_fits_15 rfl ?_
    obtain ⟨p16, hp16, h⟩ := Option.bind_eq_some_iff.mp h
    obtain ⟨hk16, hp16⟩ := rt_gd_some hp16
    refine RT.cVz (pc := 16) (M' := M_X4_isHead) (ci := 4) (x := v12) (As := [(0, a2)]) (st := []) (r := some (0, p16)) (mem1 := mem0) (d' := d - 1) hz dX11_fits_16 mw_X4_isHead ml_X11_135 mi_X4_isHead hk16 rfl rfl (Nat.le_of_ble_eq_true rfl) (Nat.le_of_ble_eq_true rfl) (by omega) rfl rfl (c_X4_isHead hz (by omega) v12 a2 mem0 _ hk16 hp16) ?_
    refine RT.if_eq (pc := 19) (tgt := 60) dX11_fits_19 rfl (fun q19 => ?_) (fun q19 => ?_)
    · rw [if_pos q19] at h
      refine RT.wk (L1 := [(9, 0), (9, 0), (9, 0), (9, 0)]) (rt_le_j (rt_le_j (rt_le_j (rt_le_j rt_le_n)))) ?_
      exact cj_X11_fits_60 hz hd ht mem0 _ h hK
    · rw [if_neg q19] at h
      refine RT.iload_n (pc := 22) (k := 3) (x := a3) dX11_fits_22 rfl ?_
      refine RT.if_lt (pc := 23) (tgt := 60) dX11_fits_23 rfl (fun q23 => ?_) (fun q23 => ?_)
      · rw [if_pos q23] at h
        refine RT.wk (L1 := [(9, 0), (9, 0), (9, 0), (9, 0)]) (rt_le_j (rt_le_j (rt_le_j (rt_le_j rt_le_n)))) ?_
        exact cj_X11_fits_60 hz hd ht mem0 _ h hK
      · rw [if_neg q23] at h
        refine RT.iload_n (pc := 26) (k := 3) (x := a3) dX11_fits_26 rfl ?_
        refine RT.bipush (pc := 27) (n := 99) dX11_fits_27 ⟨by decide, by decide⟩ rfl ?_
        refine RT.icmp_gt (pc := 29) (tgt := 60) dX11_fits_29 rfl (fun q29 => ?_) (fun q29 => ?_)
        · rw [if_pos q29] at h
          refine RT.wk (L1 := [(9, 0), (9, 0), (9, 0), (9, 0)]) (rt_le_j (rt_le_j (rt_le_j (rt_le_j rt_le_n)))) ?_
          exact cj_X11_fits_60 hz hd ht mem0 _ h hK
        · rw [if_neg q29] at h
          refine RT.aload_n (pc := 32) (k := 0) (x := a0) dX11_fits_32 rfl ?_
          obtain ⟨v33, hv33, h⟩ := Option.bind_eq_some_iff.mp h
          refine RT.gf 11 7 2 (pc := 33) (x := a0) (v := v33) hz dX11_fits_33 fl_X11_45 rfl hv33 ?_
          refine RT.iload_n (pc := 36) (k := 1) (x := a1) dX11_fits_36 rfl ?_
          refine RT.iload_n (pc := 37) (k := 2) (x := a2) dX11_fits_37 rfl ?_
          refine RT.aload_n (pc := 38) (k := 0) (x := a0) dX11_fits_38 rfl ?_
          obtain ⟨v39, hv39, h⟩ := Option.bind_eq_some_iff.mp h
          refine RT.gf 11 2 2 (pc := 39) (x := a0) (v := v39) hz dX11_fits_39 fl_X11_28 rfl hv39 ?_
          obtain ⟨v42, hv42, h⟩ := Option.bind_eq_some_iff.mp h
          refine RT.gf 0 0 2 (pc := 42) (x := v39) (v := v42) hz dX11_fits_42 fl_X11_126 rfl hv42 ?_
          obtain ⟨v45, hv45, h⟩ := Option.bind_eq_some_iff.mp h
          refine RT.gf 7 0 0 (pc := 45) (x := v42) (v := v45) hz dX11_fits_45 fl_X11_142 rfl hv45 ?_
          refine RT.iload_n (pc := 48) (k := 3) (x := a3) dX11_fits_48 rfl ?_
          refine RT.iadd (pc := 49) dX11_fits_49 ?_
          obtain ⟨p50, hp50, h⟩ := Option.bind_eq_some_iff.mp h
          obtain ⟨hk50, hp50⟩ := rt_gd_some hp50
          refine RT.cVz (pc := 50) (M' := M_X4_isFit) (ci := 4) (x := v33) (As := [(0, a1), (0, a2), (0, (rt_iadd v45 a3))]) (st := []) (r := some (0, p50.1)) (mem1 := p50.2) (d' := d - 1) hz dX11_fits_50 mw_X4_isFit ml_X11_151 mi_X4_isFit hk50 rfl rfl (Nat.le_of_ble_eq_true rfl) (Nat.le_of_ble_eq_true rfl) (by omega) rfl rfl (c_X4_isFit hz (by omega) v33 a1 a2 ((rt_iadd v45 a3)) mem0 _ hk50 hp50) ?_
          refine RT.if_eq (pc := 53) (tgt := 60) dX11_fits_53 rfl (fun q53 => ?_) (fun q53 => ?_)
          · rw [if_pos q53] at h
            refine RT.wk (L1 := [(9, 0), (9, 0), (9, 0), (9, 0)]) (rt_le_j (rt_le_j (rt_le_j (rt_le_j rt_le_n)))) ?_
            exact cj_X11_fits_60 hz hd ht p50.2 _ h hK
          · rw [if_neg q53] at h
            refine RT.iconst (pc := 56) (n := 1) dX11_fits_56 ⟨by decide, by decide⟩ ?_
            refine RT.goto (pc := 57) (tgt := 61) dX11_fits_57 rfl ?_
            refine RT.wk (L1 := [(9, 0), (9, 0), (9, 0), (9, 0)]) (rt_le_j (rt_le_j (rt_le_j (rt_le_j rt_le_n)))) ?_
            exact cj_X11_fits_61 hz hd ht 1 p50.2 _ h hK
theorem c_X11_remember {G : rt_G} {d : Nat} {z : Nat × Nat} (hz : 300 ≤ z.1) (hd : 1 ≤ d) (a0 : Int) (mem0 : rt_M) (t : rt_M) (ht : rt_kd a0.toNat = 20 + 11) (h : f_X11_remember a0 mem0 = some t) : RM G M_X11_remember d [(2, a0)] z mem0 none t := by
  suffices H : ∀ Q : rt_P, Q none z t → RT G M_X11_remember d z Q 0 [(2, a0)] [] z mem0 from H _ ⟨rfl, rfl, rfl⟩
  intro Q hK
  unfold f_X11_remember at h
  refine RT.aload_n (pc := 0) (k := 0) (x := a0) dX11_remember_0 rfl ?_
  obtain ⟨v1, hv1, h⟩ := Option.bind_eq_some_iff.mp h
  refine RT.gf 11 4 2 (pc := 1) (x := a0) (v := v1) hz dX11_remember_1 fl_X11_38 rfl hv1 ?_
  refine RT.aload_n (pc := 4) (k := 0) (x := a0) dX11_remember_4 rfl ?_
  obtain ⟨v5, hv5, h⟩ := Option.bind_eq_some_iff.mp h
  refine RT.gf 11 6 0 (pc := 5) (x := a0) (v := v5) hz dX11_remember_5 fl_X11_183 rfl hv5 ?_
  obtain ⟨v8, hv8, h⟩ := Option.bind_eq_some_iff.mp h
  refine RT.aald8 (pc := 8) (x := v1) (i := v5) (v := v8) dX11_remember_8 (rt_lta hz (by decide) (by decide) hv8) hv8 ?_
  refine RT.aload_n (pc := 9) (k := 0) (x := a0) dX11_remember_9 rfl ?_
  obtain ⟨v10, hv10, h⟩ := Option.bind_eq_some_iff.mp h
  refine RT.gf 11 2 2 (pc := 10) (x := a0) (v := v10) hz dX11_remember_10 fl_X11_28 rfl hv10 ?_
  obtain ⟨v13, hv13, h⟩ := Option.bind_eq_some_iff.mp h
  refine RT.gf 0 0 2 (pc := 13) (x := v10) (v := v13) hz dX11_remember_13 fl_X11_126 rfl hv13 ?_
  obtain ⟨p16, hp16, h⟩ := Option.bind_eq_some_iff.mp h
  obtain ⟨hk16, hp16⟩ := rt_gd_some hp16
  refine RT.cVz (pc := 16) (M' := M_X7_copy) (ci := 7) (x := v8) (As := [(2, v13)]) (st := []) (r := none) (mem1 := p16) (d' := d - 1) hz dX11_remember_16 mw_X7_copy ml_X11_191 mi_X7_copy hk16 rfl rfl (Nat.le_of_ble_eq_true rfl) (Nat.le_of_ble_eq_true rfl) (by omega) rfl rfl (c_X7_copy hz (by omega) v8 v13 mem0 _ hk16 hp16) ?_
  refine RT.aload_n (pc := 19) (k := 0) (x := a0) dX11_remember_19 rfl ?_
  refine RT.aload_n (pc := 20) (k := 0) (x := a0) dX11_remember_20 rfl ?_
  obtain ⟨v21, hv21, h⟩ := Option.bind_eq_some_iff.mp h
  refine RT.gf 11 6 0 (pc := 21) (x := a0) (v := v21) hz dX11_remember_21 fl_X11_183 rfl hv21 ?_
  refine RT.iconst (pc := 24) (n := 1) dX11_remember_24 ⟨by decide, by decide⟩ ?_
  refine RT.iadd (pc := 25) dX11_remember_25 ?_
  refine RT.bipush (pc := 26) (n := 16) dX11_remember_26 ⟨by decide, by decide⟩ rfl ?_
  obtain ⟨p28, hp28, h⟩ := Option.bind_eq_some_iff.mp h
  refine RT.cSz (pc := 28) (M' := M_J9_floorMod_7cf53) (As := [(0, (rt_iadd v21 1)), (0, 16)]) (st := [(2, a0)]) (r := some (0, p28)) (mem1 := p16) (d' := d - 1) dX11_remember_28 mw_J9_floorMod_7cf53 ml_X11_186 mi_J9_floorMod_7cf53 rfl rfl (Nat.le_of_ble_eq_true rfl) (Nat.le_of_ble_eq_true rfl) (by omega) rfl rfl (c_J9_floorMod_7cf53 hz (by omega) ((rt_iadd v21 1)) 16 p16 _ hp28) ?_
  obtain ⟨m31, hm31, h⟩ := Option.bind_eq_some_iff.mp h
  refine RT.pf_i 11 6 (pc := 31) (mem1 := m31) hz dX11_remember_31 fl_X11_183 rfl rfl rfl hm31 ?_
  refine RT.aload_n (pc := 34) (k := 0) (x := a0) dX11_remember_34 rfl ?_
  refine RT.aload_n (pc := 35) (k := 0) (x := a0) dX11_remember_35 rfl ?_
  obtain ⟨v36, hv36, h⟩ := Option.bind_eq_some_iff.mp h
  refine RT.gf 11 5 0 (pc := 36) (x := a0) (v := v36) hz dX11_remember_36 fl_X11_94 rfl hv36 ?_
  refine RT.iconst (pc := 39) (n := 1) dX11_remember_39 ⟨by decide, by decide⟩ ?_
  refine RT.iadd (pc := 40) dX11_remember_40 ?_
  refine RT.bipush (pc := 41) (n := 16) dX11_remember_41 ⟨by decide, by decide⟩ rfl ?_
  obtain ⟨p43, hp43, h⟩ := Option.bind_eq_some_iff.mp h
  refine RT.cSz (pc := 43) (M' := M_J9_min_7cf53) (As := [(0, (rt_iadd v36 1)), (0, 16)]) (st := [(2, a0)]) (r := some (0, p43)) (mem1 := m31) (d' := d - 1) dX11_remember_43 mw_J9_min_7cf53 ml_X11_194 mi_J9_min_7cf53 rfl rfl (Nat.le_of_ble_eq_true rfl) (Nat.le_of_ble_eq_true rfl) (by omega) rfl rfl (c_J9_min_7cf53 hz (by omega) ((rt_iadd v36 1)) 16 m31 _ hp43) ?_
  obtain ⟨m46, hm46, h⟩ := Option.bind_eq_some_iff.mp h
  refine RT.pf_i 11 5 (pc := 46) (mem1 := m46) hz dX11_remember_46 fl_X11_94 rfl rfl rfl hm46 ?_
  obtain rfl := Option.some.inj h
  exact RT.vret (pc := 49) dX11_remember_49 rfl (Nat.le_of_eq (rt_cells_0 z)) (Nat.le_of_eq (rt_slots_0 z)) hK
theorem c_X11_put {G : rt_G} {d : Nat} {z : Nat × Nat} (hz : 300 ≤ z.1) (hd : 5 ≤ d) (a0 : Int) (a1 : Int) (a2 : Int) (mem0 : rt_M) (t : Int × rt_M) (ht : rt_kd a0.toNat = 20 + 11) (h : f_X11_put a0 a1 a2 mem0 = some t) : RM G M_X11_put d [(2, a0), (0, a1), (0, a2)] z mem0 (some (0, t.1)) t.2 := by
  suffices H : ∀ Q : rt_P, Q (some (0, t.1)) z t.2 → RT G M_X11_put d z Q 0 [(2, a0), (0, a1), (0, a2)] [] z mem0 from H _ ⟨rfl, rfl, rfl⟩
  intro Q hK
  unfold f_X11_put at h
  refine RT.aload_n (pc := 0) (k := 0) (x := a0) dX11_put_0 rfl ?_
  obtain ⟨v1, hv1, h⟩ := Option.bind_eq_some_iff.mp h
  refine RT.gf 11 2 2 (pc := 1) (x := a0) (v := v1) hz dX11_put_1 fl_X11_28 rfl hv1 ?_
  obtain ⟨v4, hv4, h⟩ := Option.bind_eq_some_iff.mp h
  refine RT.gf 0 0 2 (pc := 4) (x := v1) (v := v4) hz dX11_put_4 fl_X11_126 rfl hv4 ?_
  refine RT.aload_n (pc := 7) (k := 0) (x := a0) dX11_put_7 rfl ?_
  obtain ⟨v8, hv8, h⟩ := Option.bind_eq_some_iff.mp h
  refine RT.gf 11 7 2 (pc := 8) (x := a0) (v := v8) hz dX11_put_8 fl_X11_45 rfl hv8 ?_
  refine RT.iload_n (pc := 11) (k := 1) (x := a1) dX11_put_11 rfl ?_
  refine RT.iload_n (pc := 12) (k := 2) (x := a2) dX11_put_12 rfl ?_
  obtain ⟨p13, hp13, h⟩ := Option.bind_eq_some_iff.mp h
  obtain ⟨hk13, hp13⟩ := rt_gd_some hp13
  refine RT.cVz (pc := 13) (M' := M_X7_canPut) (ci := 7) (x := v4) (As := [(2, v8), (0, a1), (0, a2)]) (st := []) (r := some (0, p13.1)) (mem1 := p13.2) (d' := d - 1) hz dX11_put_13 mw_X7_canPut ml_X11_155 mi_X7_canPut hk13 rfl rfl (Nat.le_of_ble_eq_true rfl) (Nat.le_of_ble_eq_true rfl) (by omega) rfl rfl (c_X7_canPut hz (by omega) v4 v8 a1 a2 mem0 _ hk13 hp13) ?_
  refine RT.if_ne (pc := 16) (tgt := 21) dX11_put_16 rfl (fun q16 => ?_) (fun q16 => ?_)
  · rw [if_neg q16] at h
    refine RT.aload_n (pc := 21) (k := 0) (x := a0) dX11_put_21 rfl ?_
    obtain ⟨p22, hp22, h⟩ := Option.bind_eq_some_iff.mp h
    refine RT.cVz (pc := 22) (M' := M_X11_remember) (ci := 11) (x := a0) (As := []) (st := []) (r := none) (mem1 := p22) (d' := d - 1) hz dX11_put_22 mw_X11_remember ml_X11_159 mi_X11_remember ht rfl rfl (Nat.le_of_ble_eq_true rfl) (Nat.le_of_ble_eq_true rfl) (by omega) rfl rfl (c_X11_remember hz (by omega) a0 p13.2 _ ht hp22) ?_
    refine RT.aload_n (pc := 25) (k := 0) (x := a0) dX11_put_25 rfl ?_
    obtain ⟨v26, hv26, h⟩ := Option.bind_eq_some_iff.mp h
    refine RT.gf 11 2 2 (pc := 26) (x := a0) (v := v26) hz dX11_put_26 fl_X11_28 rfl hv26 ?_
    obtain ⟨v29, hv29, h⟩ := Option.bind_eq_some_iff.mp h
    refine RT.gf 0 0 2 (pc := 29) (x := v26) (v := v29) hz dX11_put_29 fl_X11_126 rfl hv29 ?_
    refine RT.iload_n (pc := 32) (k := 1) (x := a1) dX11_put_32 rfl ?_
    refine RT.iload_n (pc := 33) (k := 2) (x := a2) dX11_put_33 rfl ?_
    obtain ⟨p34, hp34, h⟩ := Option.bind_eq_some_iff.mp h
    obtain ⟨hk34, hp34⟩ := rt_gd_some hp34
    refine RT.cVz (pc := 34) (M' := M_X7_place) (ci := 7) (x := v29) (As := [(0, a1), (0, a2)]) (st := []) (r := none) (mem1 := p34) (d' := d - 1) hz dX11_put_34 mw_X7_place ml_X11_162 mi_X7_place hk34 rfl rfl (Nat.le_of_ble_eq_true rfl) (Nat.le_of_ble_eq_true rfl) (by omega) rfl rfl (c_X7_place hz (by omega) v29 a1 a2 p22 _ hk34 hp34) ?_
    refine RT.iconst (pc := 37) (n := 1) dX11_put_37 ⟨by decide, by decide⟩ ?_
    obtain rfl := Option.some.inj h
    exact RT.zret (pc := 38) dX11_put_38 rfl (by decide) (Nat.le_of_eq (rt_cells_0 z)) (Nat.le_of_eq (rt_slots_0 z)) hK
  · rw [if_pos (Classical.not_not.mp q16)] at h
    refine RT.iconst (pc := 19) (n := 0) dX11_put_19 ⟨by decide, by decide⟩ ?_
    obtain rfl := Option.some.inj h
    exact RT.zret (pc := 20) dX11_put_20 rfl (by decide) (Nat.le_of_eq (rt_cells_0 z)) (Nat.le_of_eq (rt_slots_0 z)) hK
theorem c_X11_off {G : rt_G} {d : Nat} {z : Nat × Nat} (hz : 300 ≤ z.1) (hd : 2 ≤ d) (a0 : Int) (a1 : Int) (mem0 : rt_M) (t : Int × rt_M) (ht : rt_kd a0.toNat = 20 + 11) (h : f_X11_off a0 a1 mem0 = some t) : RM G M_X11_off d [(2, a0), (0, a1)] z mem0 (some (0, t.1)) t.2 := by
  suffices H : ∀ Q : rt_P, Q (some (0, t.1)) z t.2 → RT G M_X11_off d z Q 0 [(2, a0), (0, a1), (9, 0)] [] z mem0 from H _ ⟨rfl, rfl, rfl⟩
  intro Q hK
  unfold f_X11_off at h
  refine RT.aload_n (pc := 0) (k := 0) (x := a0) dX11_off_0 rfl ?_
  obtain ⟨v1, hv1, h⟩ := Option.bind_eq_some_iff.mp h
  refine RT.gf 11 2 2 (pc := 1) (x := a0) (v := v1) hz dX11_off_1 fl_X11_28 rfl hv1 ?_
  obtain ⟨v4, hv4, h⟩ := Option.bind_eq_some_iff.mp h
  refine RT.gf 0 0 2 (pc := 4) (x := v1) (v := v4) hz dX11_off_4 fl_X11_126 rfl hv4 ?_
  refine RT.aload_n (pc := 7) (k := 0) (x := a0) dX11_off_7 rfl ?_
  obtain ⟨v8, hv8, h⟩ := Option.bind_eq_some_iff.mp h
  refine RT.gf 11 7 2 (pc := 8) (x := a0) (v := v8) hz dX11_off_8 fl_X11_45 rfl hv8 ?_
  refine RT.iload_n (pc := 11) (k := 1) (x := a1) dX11_off_11 rfl ?_
  obtain ⟨p12, hp12, h⟩ := Option.bind_eq_some_iff.mp h
  obtain ⟨hk12, hp12⟩ := rt_gd_some hp12
  refine RT.cVz (pc := 12) (M' := M_X7_canTakeOff) (ci := 7) (x := v4) (As := [(2, v8), (0, a1)]) (st := []) (r := some (0, p12)) (mem1 := mem0) (d' := d - 1) hz dX11_off_12 mw_X7_canTakeOff ml_X11_166 mi_X7_canTakeOff hk12 rfl rfl (Nat.le_of_ble_eq_true rfl) (Nat.le_of_ble_eq_true rfl) (by omega) rfl rfl (c_X7_canTakeOff hz (by omega) v4 v8 a1 mem0 _ hk12 hp12) ?_
  refine RT.if_ne (pc := 15) (tgt := 20) dX11_off_15 rfl (fun q15 => ?_) (fun q15 => ?_)
  · rw [if_neg q15] at h
    refine RT.aload_n (pc := 20) (k := 0) (x := a0) dX11_off_20 rfl ?_
    obtain ⟨p21, hp21, h⟩ := Option.bind_eq_some_iff.mp h
    refine RT.cVz (pc := 21) (M' := M_X11_remember) (ci := 11) (x := a0) (As := []) (st := []) (r := none) (mem1 := p21) (d' := d - 1) hz dX11_off_21 mw_X11_remember ml_X11_159 mi_X11_remember ht rfl rfl (Nat.le_of_ble_eq_true rfl) (Nat.le_of_ble_eq_true rfl) (by omega) rfl rfl (c_X11_remember hz (by omega) a0 mem0 _ ht hp21) ?_
    refine RT.aload_n (pc := 24) (k := 0) (x := a0) dX11_off_24 rfl ?_
    obtain ⟨v25, hv25, h⟩ := Option.bind_eq_some_iff.mp h
    refine RT.gf 11 2 2 (pc := 25) (x := a0) (v := v25) hz dX11_off_25 fl_X11_28 rfl hv25 ?_
    obtain ⟨v28, hv28, h⟩ := Option.bind_eq_some_iff.mp h
    refine RT.gf 0 0 2 (pc := 28) (x := v25) (v := v28) hz dX11_off_28 fl_X11_126 rfl hv28 ?_
    refine RT.iload_n (pc := 31) (k := 1) (x := a1) dX11_off_31 rfl ?_
    obtain ⟨p32, hp32, h⟩ := Option.bind_eq_some_iff.mp h
    obtain ⟨hk32, hp32⟩ := rt_gd_some hp32
    refine RT.cVz (pc := 32) (M' := M_X7_headUnder) (ci := 7) (x := v28) (As := [(0, a1)]) (st := []) (r := some (0, p32)) (mem1 := p21) (d' := d - 1) hz dX11_off_32 mw_X7_headUnder ml_X11_129 mi_X7_headUnder hk32 rfl rfl (Nat.le_of_ble_eq_true rfl) (Nat.le_of_ble_eq_true rfl) (by omega) rfl rfl (c_X7_headUnder hz (by omega) v28 a1 p21 _ hk32 hp32) ?_
    refine RT.istore_n (pc := 35) (k := 2) (x := p32) (L1 := [(2, a0), (0, a1), (0, p32)]) dX11_off_35 (Nat.le_of_ble_eq_true rfl) rfl ?_
    refine RT.aload_n (pc := 36) (k := 0) (x := a0) dX11_off_36 rfl ?_
    obtain ⟨v37, hv37, h⟩ := Option.bind_eq_some_iff.mp h
    refine RT.gf 11 2 2 (pc := 37) (x := a0) (v := v37) hz dX11_off_37 fl_X11_28 rfl hv37 ?_
    obtain ⟨v40, hv40, h⟩ := Option.bind_eq_some_iff.mp h
    refine RT.gf 0 0 2 (pc := 40) (x := v37) (v := v40) hz dX11_off_40 fl_X11_126 rfl hv40 ?_
    refine RT.iload_n (pc := 43) (k := 1) (x := a1) dX11_off_43 rfl ?_
    refine RT.iconst (pc := 44) (n := (-1)) dX11_off_44 ⟨by decide, by decide⟩ ?_
    obtain ⟨p45, hp45, h⟩ := Option.bind_eq_some_iff.mp h
    obtain ⟨hk45, hp45⟩ := rt_gd_some hp45
    refine RT.cVz (pc := 45) (M' := M_X7_place) (ci := 7) (x := v40) (As := [(0, a1), (0, (-1))]) (st := []) (r := none) (mem1 := p45) (d' := d - 1) hz dX11_off_45 mw_X7_place ml_X11_162 mi_X7_place hk45 rfl rfl (Nat.le_of_ble_eq_true rfl) (Nat.le_of_ble_eq_true rfl) (by omega) rfl rfl (c_X7_place hz (by omega) v40 a1 ((-1)) p21 _ hk45 hp45) ?_
    refine RT.iload_n (pc := 48) (k := 2) (x := p32) dX11_off_48 rfl ?_
    obtain rfl := Option.some.inj h
    exact RT.iret (pc := 49) dX11_off_49 rfl (Nat.le_of_eq (rt_cells_0 z)) (Nat.le_of_eq (rt_slots_0 z)) hK
  · rw [if_pos (Classical.not_not.mp q15)] at h
    refine RT.iconst (pc := 18) (n := (-1)) dX11_off_18 ⟨by decide, by decide⟩ ?_
    obtain rfl := Option.some.inj h
    exact RT.iret (pc := 19) dX11_off_19 rfl (Nat.le_of_eq (rt_cells_0 z)) (Nat.le_of_eq (rt_slots_0 z)) hK
theorem c_X11_mend {G : rt_G} {d : Nat} {z : Nat × Nat} (hz : 300 ≤ z.1) (hd : 2 ≤ d) (a0 : Int) (a1 : Int) (mem0 : rt_M) (t : Int × rt_M) (ht : rt_kd a0.toNat = 20 + 11) (h : f_X11_mend a0 a1 mem0 = some t) : RM G M_X11_mend d [(2, a0), (0, a1)] z mem0 (some (0, t.1)) t.2 := by
  suffices H : ∀ Q : rt_P, Q (some (0, t.1)) z t.2 → RT G M_X11_mend d z Q 0 [(2, a0), (0, a1), (9, 0)] [] z mem0 from H _ ⟨rfl, rfl, rfl⟩
  intro Q hK
  unfold f_X11_mend at h
  refine RT.aload_n (pc := 0) (k := 0) (x := a0) dX11_mend_0 rfl ?_
  obtain ⟨v1, hv1, h⟩ := Option.bind_eq_some_iff.mp h
  refine RT.gf 11 2 2 (pc := 1) (x := a0) (v := v1) hz dX11_mend_1 fl_X11_28 rfl hv1 ?_
  obtain ⟨v4, hv4, h⟩ := Option.bind_eq_some_iff.mp h
  refine RT.gf 0 0 2 (pc := 4) (x := v1) (v := v4) hz dX11_mend_4 fl_X11_126 rfl hv4 ?_
  refine RT.aload_n (pc := 7) (k := 0) (x := a0) dX11_mend_7 rfl ?_
  obtain ⟨v8, hv8, h⟩ := Option.bind_eq_some_iff.mp h
  refine RT.gf 11 7 2 (pc := 8) (x := a0) (v := v8) hz dX11_mend_8 fl_X11_45 rfl hv8 ?_
  refine RT.iload_n (pc := 11) (k := 1) (x := a1) dX11_mend_11 rfl ?_
  obtain ⟨p12, hp12, h⟩ := Option.bind_eq_some_iff.mp h
  obtain ⟨hk12, hp12⟩ := rt_gd_some hp12
  refine RT.cVz (pc := 12) (M' := M_X7_canMend) (ci := 7) (x := v4) (As := [(2, v8), (0, a1)]) (st := []) (r := some (0, p12)) (mem1 := mem0) (d' := d - 1) hz dX11_mend_12 mw_X7_canMend ml_X11_170 mi_X7_canMend hk12 rfl rfl (Nat.le_of_ble_eq_true rfl) (Nat.le_of_ble_eq_true rfl) (by omega) rfl rfl (c_X7_canMend hz (by omega) v4 v8 a1 mem0 _ hk12 hp12) ?_
  refine RT.if_ne (pc := 15) (tgt := 20) dX11_mend_15 rfl (fun q15 => ?_) (fun q15 => ?_)
  · rw [if_neg q15] at h
    refine RT.aload_n (pc := 20) (k := 0) (x := a0) dX11_mend_20 rfl ?_
    obtain ⟨p21, hp21, h⟩ := Option.bind_eq_some_iff.mp h
    refine RT.cVz (pc := 21) (M' := M_X11_remember) (ci := 11) (x := a0) (As := []) (st := []) (r := none) (mem1 := p21) (d' := d - 1) hz dX11_mend_21 mw_X11_remember ml_X11_159 mi_X11_remember ht rfl rfl (Nat.le_of_ble_eq_true rfl) (Nat.le_of_ble_eq_true rfl) (by omega) rfl rfl (c_X11_remember hz (by omega) a0 mem0 _ ht hp21) ?_
    refine RT.aload_n (pc := 24) (k := 0) (x := a0) dX11_mend_24 rfl ?_
    obtain ⟨v25, hv25, h⟩ := Option.bind_eq_some_iff.mp h
    refine RT.gf 11 2 2 (pc := 25) (x := a0) (v := v25) hz dX11_mend_25 fl_X11_28 rfl hv25 ?_
    obtain ⟨v28, hv28, h⟩ := Option.bind_eq_some_iff.mp h
    refine RT.gf 0 0 2 (pc := 28) (x := v25) (v := v28) hz dX11_mend_28 fl_X11_126 rfl hv28 ?_
    refine RT.iload_n (pc := 31) (k := 1) (x := a1) dX11_mend_31 rfl ?_
    obtain ⟨p32, hp32, h⟩ := Option.bind_eq_some_iff.mp h
    obtain ⟨hk32, hp32⟩ := rt_gd_some hp32
    refine RT.cVz (pc := 32) (M' := M_X7_wearOf) (ci := 7) (x := v28) (As := [(0, a1)]) (st := []) (r := some (0, p32)) (mem1 := p21) (d' := d - 1) hz dX11_mend_32 mw_X7_wearOf ml_X11_132 mi_X7_wearOf hk32 rfl rfl (Nat.le_of_ble_eq_true rfl) (Nat.le_of_ble_eq_true rfl) (by omega) rfl rfl (c_X7_wearOf hz (by omega) v28 a1 p21 _ hk32 hp32) ?_
    refine RT.istore_n (pc := 35) (k := 2) (x := p32) (L1 := [(2, a0), (0, a1), (0, p32)]) dX11_mend_35 (Nat.le_of_ble_eq_true rfl) rfl ?_
    refine RT.aload_n (pc := 36) (k := 0) (x := a0) dX11_mend_36 rfl ?_
    obtain ⟨v37, hv37, h⟩ := Option.bind_eq_some_iff.mp h
    refine RT.gf 11 2 2 (pc := 37) (x := a0) (v := v37) hz dX11_mend_37 fl_X11_28 rfl hv37 ?_
    obtain ⟨v40, hv40, h⟩ := Option.bind_eq_some_iff.mp h
    refine RT.gf 0 0 2 (pc := 40) (x := v37) (v := v40) hz dX11_mend_40 fl_X11_126 rfl hv40 ?_
    refine RT.iload_n (pc := 43) (k := 1) (x := a1) dX11_mend_43 rfl ?_
    obtain ⟨p44, hp44, h⟩ := Option.bind_eq_some_iff.mp h
    obtain ⟨hk44, hp44⟩ := rt_gd_some hp44
    refine RT.cVz (pc := 44) (M' := M_X7_makeNew) (ci := 7) (x := v40) (As := [(0, a1)]) (st := []) (r := none) (mem1 := p44) (d' := d - 1) hz dX11_mend_44 mw_X7_makeNew ml_X11_173 mi_X7_makeNew hk44 rfl rfl (Nat.le_of_ble_eq_true rfl) (Nat.le_of_ble_eq_true rfl) (by omega) rfl rfl (c_X7_makeNew hz (by omega) v40 a1 p21 _ hk44 hp44) ?_
    refine RT.iload_n (pc := 47) (k := 2) (x := p32) dX11_mend_47 rfl ?_
    obtain rfl := Option.some.inj h
    exact RT.iret (pc := 48) dX11_mend_48 rfl (Nat.le_of_eq (rt_cells_0 z)) (Nat.le_of_eq (rt_slots_0 z)) hK
  · rw [if_pos (Classical.not_not.mp q15)] at h
    refine RT.iconst (pc := 18) (n := (-1)) dX11_mend_18 ⟨by decide, by decide⟩ ?_
    obtain rfl := Option.some.inj h
    exact RT.iret (pc := 19) dX11_mend_19 rfl (Nat.le_of_eq (rt_cells_0 z)) (Nat.le_of_eq (rt_slots_0 z)) hK
theorem c_X11_season {G : rt_G} {d : Nat} {z : Nat × Nat} (hz : 300 ≤ z.1) (hd : 5 ≤ d) (a0 : Int) (mem0 : rt_M) (t : Int × rt_M) (ht : rt_kd a0.toNat = 20 + 11) (h : f_X11_season a0 mem0 = some t) : RM G M_X11_season d [(2, a0)] z mem0 (some (0, t.1)) t.2 := by
  suffices H : ∀ Q : rt_P, Q (some (0, t.1)) z t.2 → RT G M_X11_season d z Q 0 [(2, a0)] [] z mem0 from H _ ⟨rfl, rfl, rfl⟩
  intro Q hK
  unfold f_X11_season at h
  refine RT.aload_n (pc := 0) (k := 0) (x := a0) dX11_season_0 rfl ?_
  obtain ⟨p1, hp1, h⟩ := Option.bind_eq_some_iff.mp h
  refine RT.cVz (pc := 1) (M' := M_X11_remember) (ci := 11) (x := a0) (As := []) (st := []) (r := none) (mem1 := p1) (d' := d - 1) hz dX11_season_1 mw_X11_remember ml_X11_159 mi_X11_remember ht rfl rfl (Nat.le_of_ble_eq_true rfl) (Nat.le_of_ble_eq_true rfl) (by omega) rfl rfl (c_X11_remember hz (by omega) a0 mem0 _ ht hp1) ?_
  refine RT.aload_n (pc := 4) (k := 0) (x := a0) dX11_season_4 rfl ?_
  obtain ⟨v5, hv5, h⟩ := Option.bind_eq_some_iff.mp h
  refine RT.gf 11 2 2 (pc := 5) (x := a0) (v := v5) hz dX11_season_5 fl_X11_28 rfl hv5 ?_
  obtain ⟨p8, hp8, h⟩ := Option.bind_eq_some_iff.mp h
  obtain ⟨hk8, hp8⟩ := rt_gd_some hp8
  refine RT.cVz (pc := 8) (M' := M_X0_forgetTilts) (ci := 0) (x := v5) (As := []) (st := []) (r := none) (mem1 := p8) (d' := d - 1) hz dX11_season_8 mw_X0_forgetTilts ml_X11_177 mi_X0_forgetTilts hk8 rfl rfl (Nat.le_of_ble_eq_true rfl) (Nat.le_of_ble_eq_true rfl) (by omega) rfl rfl (c_X0_forgetTilts hz (by omega) v5 p1 _ hk8 hp8) ?_
  refine RT.aload_n (pc := 11) (k := 0) (x := a0) dX11_season_11 rfl ?_
  obtain ⟨v12, hv12, h⟩ := Option.bind_eq_some_iff.mp h
  refine RT.gf 11 2 2 (pc := 12) (x := a0) (v := v12) hz dX11_season_12 fl_X11_28 rfl hv12 ?_
  obtain ⟨v15, hv15, h⟩ := Option.bind_eq_some_iff.mp h
  refine RT.gf 0 0 2 (pc := 15) (x := v12) (v := v15) hz dX11_season_15 fl_X11_126 rfl hv15 ?_
  refine RT.aload_n (pc := 18) (k := 0) (x := a0) dX11_season_18 rfl ?_
  obtain ⟨v19, hv19, h⟩ := Option.bind_eq_some_iff.mp h
  refine RT.gf 11 7 2 (pc := 19) (x := a0) (v := v19) hz dX11_season_19 fl_X11_45 rfl hv19 ?_
  obtain ⟨p22, hp22, h⟩ := Option.bind_eq_some_iff.mp h
  obtain ⟨hk22, hp22⟩ := rt_gd_some hp22
  refine RT.cVz (pc := 22) (M' := M_X7_pass) (ci := 7) (x := v15) (As := [(2, v19)]) (st := []) (r := some (0, p22.1)) (mem1 := p22.2) (d' := d - 1) hz dX11_season_22 mw_X7_pass ml_X11_180 mi_X7_pass hk22 rfl rfl (Nat.le_of_ble_eq_true rfl) (Nat.le_of_ble_eq_true rfl) (by omega) rfl rfl (c_X7_pass hz (by omega) v15 v19 p8 _ hk22 hp22) ?_
  obtain rfl := Option.some.inj h
  exact RT.iret (pc := 25) dX11_season_25 rfl (Nat.le_of_eq (rt_cells_0 z)) (Nat.le_of_eq (rt_slots_0 z)) hK
theorem c_X11_undo {G : rt_G} {d : Nat} {z : Nat × Nat} (hz : 300 ≤ z.1) (hd : 1 ≤ d) (a0 : Int) (mem0 : rt_M) (t : Int × rt_M) (ht : rt_kd a0.toNat = 20 + 11) (h : f_X11_undo a0 mem0 = some t) : RM G M_X11_undo d [(2, a0)] z mem0 (some (0, t.1)) t.2 := by
  suffices H : ∀ Q : rt_P, Q (some (0, t.1)) z t.2 → RT G M_X11_undo d z Q 0 [(2, a0)] [] z mem0 from H _ ⟨rfl, rfl, rfl⟩
  intro Q hK
  unfold f_X11_undo at h
  refine RT.aload_n (pc := 0) (k := 0) (x := a0) dX11_undo_0 rfl ?_
  obtain ⟨v1, hv1, h⟩ := Option.bind_eq_some_iff.mp h
  refine RT.gf 11 5 0 (pc := 1) (x := a0) (v := v1) hz dX11_undo_1 fl_X11_94 rfl hv1 ?_
  refine RT.if_gt (pc := 4) (tgt := 9) dX11_undo_4 rfl (fun q4 => ?_) (fun q4 => ?_)
  · rw [if_pos q4] at h
    refine RT.aload_n (pc := 9) (k := 0) (x := a0) dX11_undo_9 rfl ?_
    refine RT.dup (pc := 10) dX11_undo_10 (show ¬ ((2 : Nat) = 1) by decide) ?_
    obtain ⟨v11, hv11, h⟩ := Option.bind_eq_some_iff.mp h
    refine RT.gf 11 5 0 (pc := 11) (x := a0) (v := v11) hz dX11_undo_11 fl_X11_94 rfl hv11 ?_
    refine RT.iconst (pc := 14) (n := 1) dX11_undo_14 ⟨by decide, by decide⟩ ?_
    refine RT.isub (pc := 15) dX11_undo_15 ?_
    obtain ⟨m16, hm16, h⟩ := Option.bind_eq_some_iff.mp h
    refine RT.pf_i 11 5 (pc := 16) (mem1 := m16) hz dX11_undo_16 fl_X11_94 rfl rfl rfl hm16 ?_
    refine RT.aload_n (pc := 19) (k := 0) (x := a0) dX11_undo_19 rfl ?_
    refine RT.aload_n (pc := 20) (k := 0) (x := a0) dX11_undo_20 rfl ?_
    obtain ⟨v21, hv21, h⟩ := Option.bind_eq_some_iff.mp h
    refine RT.gf 11 6 0 (pc := 21) (x := a0) (v := v21) hz dX11_undo_21 fl_X11_183 rfl hv21 ?_
    refine RT.iconst (pc := 24) (n := 1) dX11_undo_24 ⟨by decide, by decide⟩ ?_
    refine RT.isub (pc := 25) dX11_undo_25 ?_
    refine RT.bipush (pc := 26) (n := 16) dX11_undo_26 ⟨by decide, by decide⟩ rfl ?_
    obtain ⟨p28, hp28, h⟩ := Option.bind_eq_some_iff.mp h
    refine RT.cSz (pc := 28) (M' := M_J9_floorMod_7cf53) (As := [(0, (rt_isub v21 1)), (0, 16)]) (st := [(2, a0)]) (r := some (0, p28)) (mem1 := m16) (d' := d - 1) dX11_undo_28 mw_J9_floorMod_7cf53 ml_X11_186 mi_J9_floorMod_7cf53 rfl rfl (Nat.le_of_ble_eq_true rfl) (Nat.le_of_ble_eq_true rfl) (by omega) rfl rfl (c_J9_floorMod_7cf53 hz (by omega) ((rt_isub v21 1)) 16 m16 _ hp28) ?_
    obtain ⟨m31, hm31, h⟩ := Option.bind_eq_some_iff.mp h
    refine RT.pf_i 11 6 (pc := 31) (mem1 := m31) hz dX11_undo_31 fl_X11_183 rfl rfl rfl hm31 ?_
    refine RT.aload_n (pc := 34) (k := 0) (x := a0) dX11_undo_34 rfl ?_
    obtain ⟨v35, hv35, h⟩ := Option.bind_eq_some_iff.mp h
    refine RT.gf 11 2 2 (pc := 35) (x := a0) (v := v35) hz dX11_undo_35 fl_X11_28 rfl hv35 ?_
    obtain ⟨v38, hv38, h⟩ := Option.bind_eq_some_iff.mp h
    refine RT.gf 0 0 2 (pc := 38) (x := v35) (v := v38) hz dX11_undo_38 fl_X11_126 rfl hv38 ?_
    refine RT.aload_n (pc := 41) (k := 0) (x := a0) dX11_undo_41 rfl ?_
    obtain ⟨v42, hv42, h⟩ := Option.bind_eq_some_iff.mp h
    refine RT.gf 11 4 2 (pc := 42) (x := a0) (v := v42) hz dX11_undo_42 fl_X11_38 rfl hv42 ?_
    refine RT.aload_n (pc := 45) (k := 0) (x := a0) dX11_undo_45 rfl ?_
    obtain ⟨v46, hv46, h⟩ := Option.bind_eq_some_iff.mp h
    refine RT.gf 11 6 0 (pc := 46) (x := a0) (v := v46) hz dX11_undo_46 fl_X11_183 rfl hv46 ?_
    obtain ⟨v49, hv49, h⟩ := Option.bind_eq_some_iff.mp h
    refine RT.aald8 (pc := 49) (x := v42) (i := v46) (v := v49) dX11_undo_49 (rt_lta hz (by decide) (by decide) hv49) hv49 ?_
    obtain ⟨p50, hp50, h⟩ := Option.bind_eq_some_iff.mp h
    obtain ⟨hk50, hp50⟩ := rt_gd_some hp50
    refine RT.cVz (pc := 50) (M' := M_X7_copy) (ci := 7) (x := v38) (As := [(2, v49)]) (st := []) (r := none) (mem1 := p50) (d' := d - 1) hz dX11_undo_50 mw_X7_copy ml_X11_191 mi_X7_copy hk50 rfl rfl (Nat.le_of_ble_eq_true rfl) (Nat.le_of_ble_eq_true rfl) (by omega) rfl rfl (c_X7_copy hz (by omega) v38 v49 m31 _ hk50 hp50) ?_
    refine RT.aload_n (pc := 53) (k := 0) (x := a0) dX11_undo_53 rfl ?_
    obtain ⟨v54, hv54, h⟩ := Option.bind_eq_some_iff.mp h
    refine RT.gf 11 2 2 (pc := 54) (x := a0) (v := v54) hz dX11_undo_54 fl_X11_28 rfl hv54 ?_
    obtain ⟨p57, hp57, h⟩ := Option.bind_eq_some_iff.mp h
    obtain ⟨hk57, hp57⟩ := rt_gd_some hp57
    refine RT.cVz (pc := 57) (M' := M_X0_forgetTilts) (ci := 0) (x := v54) (As := []) (st := []) (r := none) (mem1 := p57) (d' := d - 1) hz dX11_undo_57 mw_X0_forgetTilts ml_X11_177 mi_X0_forgetTilts hk57 rfl rfl (Nat.le_of_ble_eq_true rfl) (Nat.le_of_ble_eq_true rfl) (by omega) rfl rfl (c_X0_forgetTilts hz (by omega) v54 p50 _ hk57 hp57) ?_
    refine RT.iconst (pc := 60) (n := 1) dX11_undo_60 ⟨by decide, by decide⟩ ?_
    obtain rfl := Option.some.inj h
    exact RT.zret (pc := 61) dX11_undo_61 rfl (by decide) (Nat.le_of_eq (rt_cells_0 z)) (Nat.le_of_eq (rt_slots_0 z)) hK
  · rw [if_neg q4] at h
    refine RT.iconst (pc := 7) (n := 0) dX11_undo_7 ⟨by decide, by decide⟩ ?_
    obtain rfl := Option.some.inj h
    exact RT.zret (pc := 8) dX11_undo_8 rfl (by decide) (Nat.le_of_eq (rt_cells_0 z)) (Nat.le_of_eq (rt_slots_0 z)) hK
theorem cj_X11_judged_9 {G : rt_G} {d : Nat} {z : Nat × Nat} {Q : rt_P} (hz : 300 ≤ z.1) (hd : 6 ≤ d) {a0 : Int} (ht : rt_kd a0.toNat = 20 + 11) (mem0 : rt_M) (t : Int × rt_M) (h : j_X11_judged_9 mem0 = some t) (hK : Q (some (0, t.1)) z t.2) : RT G M_X11_judged d z Q 9 [(9, 0), (9, 0), (9, 0), (9, 0), (9, 0), (9, 0)] [] z mem0 := by
  unfold j_X11_judged_9 at h
  refine RT.bipush (pc := 9) (n := (-2)) dX11_judged_9 ⟨by decide, by decide⟩ rfl ?_
  obtain rfl := Option.some.inj h
  exact RT.iret (pc := 11) dX11_judged_11 rfl (Nat.le_of_eq (rt_cells_0 z)) (Nat.le_of_eq (rt_slots_0 z)) hK
theorem cj_X11_judged_90_26 {G : rt_G} {d : Nat} {z : Nat × Nat} {Q : rt_P} (hz : 300 ≤ z.1) (hd : 6 ≤ d) {a0 : Int} (ht : rt_kd a0.toNat = 20 + 11) (a1 : Int) (a2 : Int) (a3 : Int) (a4 : Int) (mem0 : rt_M) (t : (Int × Int × Int × rt_M) ⊕ (Int × Int × rt_M)) (h : j_X11_judged_90_26 a0 a1 a2 a3 a4 mem0 = some t) (hK : (∀ s1 : Int × Int × Int × rt_M, t = .inl s1 → RT G M_X11_judged d z Q 26 [(2, a0), (0, a1), (0, s1.1), (0, s1.2.1), (0, s1.2.2.1), (9, 0)] [] z s1.2.2.2) ∧ (∀ x1 : Int × Int × rt_M, t = .inr x1 → RT G M_X11_judged d z Q 96 [(2, a0), (0, a1), (0, x1.1), (0, x1.2.1), (9, 0), (9, 0)] [] z x1.2.2)) : RT G M_X11_judged d z Q 90 [(2, a0), (0, a1), (0, a2), (0, a3), (0, a4), (9, 0)] [] z mem0 := by
  unfold j_X11_judged_90_26 at h
  refine RT.iinc (pc := 90) (x := a4) (L1 := [(2, a0), (0, a1), (0, a2), (0, a3), (0, (rt_iadd a4 1)), (9, 0)]) dX11_judged_90 rfl (Nat.le_of_ble_eq_true rfl) ⟨by decide, by decide⟩ rfl ?_
  refine RT.goto (pc := 93) (tgt := 26) dX11_judged_93 rfl ?_
  obtain rfl := Option.some.inj h
  have q1 := hK.1 ((a2, a3, (rt_iadd a4 1), mem0)) rfl
  try dsimp only at q1
  exact q1
theorem cj_X11_judged_77_26 {G : rt_G} {d : Nat} {z : Nat × Nat} {Q : rt_P} (hz : 300 ≤ z.1) (hd : 6 ≤ d) {a0 : Int} (ht : rt_kd a0.toNat = 20 + 11) (a1 : Int) (a2 : Int) (a3 : Int) (a4 : Int) (a5 : Int) (mem0 : rt_M) (t : (Int × Int × Int × rt_M) ⊕ (Int × Int × rt_M)) (h : j_X11_judged_77_26 a0 a1 a2 a3 a4 a5 mem0 = some t) (hK : (∀ s1 : Int × Int × Int × rt_M, t = .inl s1 → RT G M_X11_judged d z Q 26 [(2, a0), (0, a1), (0, s1.1), (0, s1.2.1), (0, s1.2.2.1), (9, 0)] [] z s1.2.2.2) ∧ (∀ x1 : Int × Int × rt_M, t = .inr x1 → RT G M_X11_judged d z Q 96 [(2, a0), (0, a1), (0, x1.1), (0, x1.2.1), (9, 0), (9, 0)] [] z x1.2.2)) : RT G M_X11_judged d z Q 77 [(2, a0), (0, a1), (0, a2), (0, a3), (0, a4), (0, a5)] [] z mem0 := by
  unfold j_X11_judged_77_26 at h
  refine RT.iload (pc := 77) (k := 5) (x := a5) dX11_judged_77 rfl ?_
  refine RT.if_le (pc := 79) (tgt := 90) dX11_judged_79 rfl (fun q79 => ?_) (fun q79 => ?_)
  · rw [if_pos q79] at h
    refine RT.wk (L1 := [(2, a0), (0, a1), (0, a2), (0, a3), (0, a4), (9, 0)]) (rt_le_s (rt_le_s (rt_le_s (rt_le_s (rt_le_s (rt_le_j rt_le_n)))))) ?_
    exact cj_X11_judged_90_26 hz hd ht a1 a2 a3 a4 mem0 _ h hK
  · rw [if_neg q79] at h
    refine RT.iload_n (pc := 82) (k := 3) (x := a3) dX11_judged_82 rfl ?_
    refine RT.iconst (pc := 83) (n := (-1)) dX11_judged_83 ⟨by decide, by decide⟩ ?_
    refine RT.icmp_ne (pc := 84) (tgt := 90) dX11_judged_84 rfl (fun q84 => ?_) (fun q84 => ?_)
    · rw [if_neg q84] at h
      refine RT.wk (L1 := [(2, a0), (0, a1), (0, a2), (0, a3), (0, a4), (9, 0)]) (rt_le_s (rt_le_s (rt_le_s (rt_le_s (rt_le_s (rt_le_j rt_le_n)))))) ?_
      exact cj_X11_judged_90_26 hz hd ht a1 a2 a3 a4 mem0 _ h hK
    · rw [if_pos (Classical.not_not.mp q84)] at h
      refine RT.iload (pc := 87) (k := 4) (x := a4) dX11_judged_87 rfl ?_
      refine RT.istore_n (pc := 89) (k := 3) (x := a4) (L1 := [(2, a0), (0, a1), (0, a2), (0, a4), (0, a4), (0, a5)]) dX11_judged_89 (Nat.le_of_ble_eq_true rfl) rfl ?_
      refine RT.wk (L1 := [(2, a0), (0, a1), (0, a2), (0, a4), (0, a4), (9, 0)]) (rt_le_s (rt_le_s (rt_le_s (rt_le_s (rt_le_s (rt_le_j rt_le_n)))))) ?_
      exact cj_X11_judged_90_26 hz hd ht a1 a2 a4 a4 mem0 _ h hK
theorem cb_X11_judged_26 {G : rt_G} {d : Nat} {z : Nat × Nat} {Q : rt_P} (hz : 300 ≤ z.1) (hd : 6 ≤ d) {a0 : Int} (ht : rt_kd a0.toNat = 20 + 11) (a1 : Int) (s : Int × Int × Int × rt_M) (t : (Int × Int × Int × rt_M) ⊕ (Int × Int × rt_M)) (h : b_X11_judged_26 a0 a1 s = some t) (hK : (∀ s1 : Int × Int × Int × rt_M, t = .inl s1 → RT G M_X11_judged d z Q 26 [(2, a0), (0, a1), (0, s1.1), (0, s1.2.1), (0, s1.2.2.1), (9, 0)] [] z s1.2.2.2) ∧ (∀ x1 : Int × Int × rt_M, t = .inr x1 → RT G M_X11_judged d z Q 96 [(2, a0), (0, a1), (0, x1.1), (0, x1.2.1), (9, 0), (9, 0)] [] z x1.2.2)) : RT G M_X11_judged d z Q 26 [(2, a0), (0, a1), (0, s.1), (0, s.2.1), (0, s.2.2.1), (9, 0)] [] z s.2.2.2 := by
  unfold b_X11_judged_26 at h
  refine RT.iload (pc := 26) (k := 4) (x := s.2.2.1) dX11_judged_26 rfl ?_
  refine RT.aload_n (pc := 28) (k := 0) (x := a0) dX11_judged_28 rfl ?_
  obtain ⟨v29, hv29, h⟩ := Option.bind_eq_some_iff.mp h
  refine RT.gf 11 2 2 (pc := 29) (x := a0) (v := v29) hz dX11_judged_29 fl_X11_28 rfl hv29 ?_
  obtain ⟨v32, hv32, h⟩ := Option.bind_eq_some_iff.mp h
  refine RT.gf 0 1 2 (pc := 32) (x := v29) (v := v32) hz dX11_judged_32 fl_X11_105 rfl hv32 ?_
  obtain ⟨v35, hv35, h⟩ := Option.bind_eq_some_iff.mp h
  refine RT.gf 10 0 0 (pc := 35) (x := v32) (v := v35) hz dX11_judged_35 fl_X11_198 rfl hv35 ?_
  refine RT.icmp_ge (pc := 38) (tgt := 96) dX11_judged_38 rfl (fun q38 => ?_) (fun q38 => ?_)
  · rw [if_pos q38] at h
    refine RT.wk (L1 := [(2, a0), (0, a1), (0, s.1), (0, s.2.1), (9, 0), (9, 0)]) (rt_le_s (rt_le_s (rt_le_s (rt_le_s (rt_le_j (rt_le_s rt_le_n)))))) ?_
    obtain rfl := Option.some.inj h
    have q1 := hK.2 ((s.1, s.2.1, s.2.2.2)) rfl
    try dsimp only at q1
    exact q1
  · rw [if_neg q38] at h
    refine RT.aload_n (pc := 41) (k := 0) (x := a0) dX11_judged_41 rfl ?_
    obtain ⟨v42, hv42, h⟩ := Option.bind_eq_some_iff.mp h
    refine RT.gf 11 2 2 (pc := 42) (x := a0) (v := v42) hz dX11_judged_42 fl_X11_28 rfl hv42 ?_
    obtain ⟨v45, hv45, h⟩ := Option.bind_eq_some_iff.mp h
    refine RT.gf 0 1 2 (pc := 45) (x := v42) (v := v45) hz dX11_judged_45 fl_X11_105 rfl hv45 ?_
    refine RT.iload (pc := 48) (k := 4) (x := s.2.2.1) dX11_judged_48 rfl ?_
    refine RT.aload_n (pc := 50) (k := 0) (x := a0) dX11_judged_50 rfl ?_
    obtain ⟨v51, hv51, h⟩ := Option.bind_eq_some_iff.mp h
    refine RT.gf 11 7 2 (pc := 51) (x := a0) (v := v51) hz dX11_judged_51 fl_X11_45 rfl hv51 ?_
    refine RT.aload_n (pc := 54) (k := 0) (x := a0) dX11_judged_54 rfl ?_
    obtain ⟨v55, hv55, h⟩ := Option.bind_eq_some_iff.mp h
    refine RT.gf 11 10 2 (pc := 55) (x := a0) (v := v55) hz dX11_judged_55 fl_X11_60 rfl hv55 ?_
    obtain ⟨p58, hp58, h⟩ := Option.bind_eq_some_iff.mp h
    obtain ⟨hk58, hp58⟩ := rt_gd_some hp58
    refine RT.cVz (pc := 58) (M' := M_X10_play) (ci := 10) (x := v45) (As := [(0, s.2.2.1), (2, v51), (2, v55)]) (st := []) (r := some (0, p58.1)) (mem1 := p58.2) (d' := d - 1) hz dX11_judged_58 mw_X10_play ml_X11_201 mi_X10_play hk58 rfl rfl (Nat.le_of_ble_eq_true rfl) (Nat.le_of_ble_eq_true rfl) (by omega) rfl rfl (c_X10_play hz (by omega) v45 s.2.2.1 v51 v55 s.2.2.2 _ hk58 hp58) ?_
    refine RT.istore (pc := 61) (k := 5) (x := p58.1) (L1 := [(2, a0), (0, a1), (0, s.1), (0, s.2.1), (0, s.2.2.1), (0, p58.1)]) dX11_judged_61 (Nat.le_of_ble_eq_true rfl) rfl ?_
    refine RT.iload (pc := 63) (k := 5) (x := p58.1) dX11_judged_63 rfl ?_
    refine RT.iconst (pc := 65) (n := (-1)) dX11_judged_65 ⟨by decide, by decide⟩ ?_
    refine RT.icmp_ne (pc := 66) (tgt := 77) dX11_judged_66 rfl (fun q66 => ?_) (fun q66 => ?_)
    · rw [if_neg q66] at h
      exact cj_X11_judged_77_26 hz hd ht a1 s.1 s.2.1 s.2.2.1 p58.1 p58.2 _ h hK
    · rw [if_pos (Classical.not_not.mp q66)] at h
      refine RT.iload_n (pc := 69) (k := 2) (x := s.1) dX11_judged_69 rfl ?_
      refine RT.iconst (pc := 70) (n := (-1)) dX11_judged_70 ⟨by decide, by decide⟩ ?_
      refine RT.icmp_ne (pc := 71) (tgt := 77) dX11_judged_71 rfl (fun q71 => ?_) (fun q71 => ?_)
      · rw [if_neg q71] at h
        exact cj_X11_judged_77_26 hz hd ht a1 s.1 s.2.1 s.2.2.1 p58.1 p58.2 _ h hK
      · rw [if_pos (Classical.not_not.mp q71)] at h
        refine RT.iload (pc := 74) (k := 4) (x := s.2.2.1) dX11_judged_74 rfl ?_
        refine RT.istore_n (pc := 76) (k := 2) (x := s.2.2.1) (L1 := [(2, a0), (0, a1), (0, s.2.2.1), (0, s.2.1), (0, s.2.2.1), (0, p58.1)]) dX11_judged_76 (Nat.le_of_ble_eq_true rfl) rfl ?_
        exact cj_X11_judged_77_26 hz hd ht a1 s.2.2.1 s.2.1 s.2.2.1 p58.1 p58.2 _ h hK
theorem cj_X11_judged_131 {G : rt_G} {d : Nat} {z : Nat × Nat} {Q : rt_P} (hz : 300 ≤ z.1) (hd : 6 ≤ d) {a0 : Int} (ht : rt_kd a0.toNat = 20 + 11) (s0 : Int) (mem0 : rt_M) (t : Int × rt_M) (h : j_X11_judged_131 s0 mem0 = some t) (hK : Q (some (0, t.1)) z t.2) : RT G M_X11_judged d z Q 131 [(9, 0), (9, 0), (9, 0), (9, 0), (9, 0), (9, 0)] [(0, s0)] z mem0 := by
  unfold j_X11_judged_131 at h
  obtain rfl := Option.some.inj h
  exact RT.iret (pc := 131) dX11_judged_131 rfl (Nat.le_of_eq (rt_cells_0 z)) (Nat.le_of_eq (rt_slots_0 z)) hK
theorem c_X11_judged {G : rt_G} {d : Nat} {z : Nat × Nat} (hz : 300 ≤ z.1) (hd : 6 ≤ d) (a0 : Int) (a1 : Int) (mem0 : rt_M) (t : Int × rt_M) (ht : rt_kd a0.toNat = 20 + 11) (h : f_X11_judged a0 a1 mem0 = some t) : RM G M_X11_judged d [(2, a0), (0, a1)] z mem0 (some (0, t.1)) t.2 := by
  suffices H : ∀ Q : rt_P, Q (some (0, t.1)) z t.2 → RT G M_X11_judged d z Q 0 [(2, a0), (0, a1), (9, 0), (9, 0), (9, 0), (9, 0)] [] z mem0 from H _ ⟨rfl, rfl, rfl⟩
  intro Q hK
  unfold f_X11_judged at h
  refine RT.iload_n (pc := 0) (k := 1) (x := a1) dX11_judged_0 rfl ?_
  refine RT.if_lt (pc := 1) (tgt := 9) dX11_judged_1 rfl (fun q1 => ?_) (fun q1 => ?_)
  · rw [if_pos q1] at h
    refine RT.wk (L1 := [(9, 0), (9, 0), (9, 0), (9, 0), (9, 0), (9, 0)]) (rt_le_j (rt_le_j (rt_le_s (rt_le_s (rt_le_s (rt_le_s rt_le_n)))))) ?_
    exact cj_X11_judged_9 hz hd ht mem0 _ h hK
  · rw [if_neg q1] at h
    refine RT.iload_n (pc := 4) (k := 1) (x := a1) dX11_judged_4 rfl ?_
    refine RT.iconst (pc := 5) (n := 2) dX11_judged_5 ⟨by decide, by decide⟩ ?_
    refine RT.icmp_le (pc := 6) (tgt := 12) dX11_judged_6 rfl (fun q6 => ?_) (fun q6 => ?_)
    · rw [if_pos q6] at h
      refine RT.aload_n (pc := 12) (k := 0) (x := a0) dX11_judged_12 rfl ?_
      obtain ⟨v13, hv13, h⟩ := Option.bind_eq_some_iff.mp h
      refine RT.gf 11 10 2 (pc := 13) (x := a0) (v := v13) hz dX11_judged_13 fl_X11_60 rfl hv13 ?_
      obtain ⟨p16, hp16, h⟩ := Option.bind_eq_some_iff.mp h
      obtain ⟨hk16, hp16⟩ := rt_gd_some hp16
      refine RT.cVz (pc := 16) (M' := M_X7_clear) (ci := 7) (x := v13) (As := []) (st := []) (r := none) (mem1 := p16) (d' := d - 1) hz dX11_judged_16 mw_X7_clear ml_X11_197 mi_X7_clear hk16 rfl rfl (Nat.le_of_ble_eq_true rfl) (Nat.le_of_ble_eq_true rfl) (by omega) rfl rfl (c_X7_clear hz (by omega) v13 mem0 _ hk16 hp16) ?_
      refine RT.iconst (pc := 19) (n := (-1)) dX11_judged_19 ⟨by decide, by decide⟩ ?_
      refine RT.istore_n (pc := 20) (k := 2) (x := (-1)) (L1 := [(2, a0), (0, a1), (0, (-1)), (9, 0), (9, 0), (9, 0)]) dX11_judged_20 (Nat.le_of_ble_eq_true rfl) rfl ?_
      refine RT.iconst (pc := 21) (n := (-1)) dX11_judged_21 ⟨by decide, by decide⟩ ?_
      refine RT.istore_n (pc := 22) (k := 3) (x := (-1)) (L1 := [(2, a0), (0, a1), (0, (-1)), (0, (-1)), (9, 0), (9, 0)]) dX11_judged_22 (Nat.le_of_ble_eq_true rfl) rfl ?_
      refine RT.iconst (pc := 23) (n := 0) dX11_judged_23 ⟨by decide, by decide⟩ ?_
      refine RT.istore (pc := 24) (k := 4) (x := 0) (L1 := [(2, a0), (0, a1), (0, (-1)), (0, (-1)), (0, 0), (9, 0)]) dX11_judged_24 (Nat.le_of_ble_eq_true rfl) rfl ?_
      obtain ⟨X26, hX26, h⟩ := Option.bind_eq_some_iff.mp h
      refine rt_it_ind (P := (fun s1 : Int × Int × Int × rt_M => RT G M_X11_judged d z Q 26 [(2, a0), (0, a1), (0, s1.1), (0, s1.2.1), (0, s1.2.2.1), (9, 0)] [] z s1.2.2.2)) (X := (fun x1 : Int × Int × rt_M => RT G M_X11_judged d z Q 96 [(2, a0), (0, a1), (0, x1.1), (0, x1.2.1), (9, 0), (9, 0)] [] z x1.2.2)) (fun s1 t1 h1 k1 k2 => cb_X11_judged_26 hz hd ht a1 s1 t1 h1 ⟨k1, k2⟩) 4000 (((-1), (-1), 0, p16)) X26 hX26 ?_
      refine RT.iload_n (pc := 96) (k := 1) (x := a1) dX11_judged_96 rfl ?_
      refine RT.if_ne (pc := 97) (tgt := 104) dX11_judged_97 rfl (fun q97 => ?_) (fun q97 => ?_)
      · rw [if_neg q97] at h
        refine RT.iload_n (pc := 104) (k := 1) (x := a1) dX11_judged_104 rfl ?_
        refine RT.iconst (pc := 105) (n := 1) dX11_judged_105 ⟨by decide, by decide⟩ ?_
        refine RT.icmp_ne (pc := 106) (tgt := 113) dX11_judged_106 rfl (fun q106 => ?_) (fun q106 => ?_)
        · rw [if_neg q106] at h
          refine RT.aload_n (pc := 113) (k := 0) (x := a0) dX11_judged_113 rfl ?_
          obtain ⟨v114, hv114, h⟩ := Option.bind_eq_some_iff.mp h
          refine RT.gf 11 7 2 (pc := 114) (x := a0) (v := v114) hz dX11_judged_114 fl_X11_45 rfl hv114 ?_
          refine RT.aload_n (pc := 117) (k := 0) (x := a0) dX11_judged_117 rfl ?_
          obtain ⟨v118, hv118, h⟩ := Option.bind_eq_some_iff.mp h
          refine RT.gf 11 10 2 (pc := 118) (x := a0) (v := v118) hz dX11_judged_118 fl_X11_60 rfl hv118 ?_
          refine RT.aload_n (pc := 121) (k := 0) (x := a0) dX11_judged_121 rfl ?_
          obtain ⟨v122, hv122, h⟩ := Option.bind_eq_some_iff.mp h
          refine RT.gf 11 7 2 (pc := 122) (x := a0) (v := v122) hz dX11_judged_122 fl_X11_45 rfl hv122 ?_
          obtain ⟨p125, hp125, h⟩ := Option.bind_eq_some_iff.mp h
          obtain ⟨hk125, hp125⟩ := rt_gd_some hp125
          refine RT.cVz (pc := 125) (M' := M_X7_worn) (ci := 7) (x := v118) (As := [(2, v122)]) (st := [(2, v114)]) (r := some (0, p125)) (mem1 := X26.2.2) (d' := d - 1) hz dX11_judged_125 mw_X7_worn ml_X11_205 mi_X7_worn hk125 rfl rfl (Nat.le_of_ble_eq_true rfl) (Nat.le_of_ble_eq_true rfl) (by omega) rfl rfl (c_X7_worn hz (by omega) v118 v122 X26.2.2 _ hk125 hp125) ?_
          obtain ⟨p128, hp128, h⟩ := Option.bind_eq_some_iff.mp h
          obtain ⟨hk128, hp128⟩ := rt_gd_some hp128
          refine RT.cVz (pc := 128) (M' := M_X4_officeOfAll) (ci := 4) (x := v114) (As := [(0, p125)]) (st := []) (r := some (0, p128)) (mem1 := X26.2.2) (d' := d - 1) hz dX11_judged_128 mw_X4_officeOfAll ml_X11_208 mi_X4_officeOfAll hk128 rfl rfl (Nat.le_of_ble_eq_true rfl) (Nat.le_of_ble_eq_true rfl) (by omega) rfl rfl (c_X4_officeOfAll hz (by omega) v114 p125 X26.2.2 _ hk128 hp128) ?_
          refine RT.wk (L1 := [(9, 0), (9, 0), (9, 0), (9, 0), (9, 0), (9, 0)]) (rt_le_j (rt_le_j (rt_le_j (rt_le_j (rt_le_s (rt_le_s rt_le_n)))))) ?_
          exact cj_X11_judged_131 hz hd ht p128 X26.2.2 _ h hK
        · rw [if_pos (Classical.not_not.mp q106)] at h
          refine RT.iload_n (pc := 109) (k := 3) (x := X26.2.1) dX11_judged_109 rfl ?_
          refine RT.goto (pc := 110) (tgt := 131) dX11_judged_110 rfl ?_
          refine RT.wk (L1 := [(9, 0), (9, 0), (9, 0), (9, 0), (9, 0), (9, 0)]) (rt_le_j (rt_le_j (rt_le_j (rt_le_j (rt_le_s (rt_le_s rt_le_n)))))) ?_
          exact cj_X11_judged_131 hz hd ht X26.2.1 X26.2.2 _ h hK
      · rw [if_pos (Classical.not_not.mp q97)] at h
        refine RT.iload_n (pc := 100) (k := 2) (x := X26.1) dX11_judged_100 rfl ?_
        refine RT.goto (pc := 101) (tgt := 131) dX11_judged_101 rfl ?_
        refine RT.wk (L1 := [(9, 0), (9, 0), (9, 0), (9, 0), (9, 0), (9, 0)]) (rt_le_j (rt_le_j (rt_le_j (rt_le_j (rt_le_s (rt_le_s rt_le_n)))))) ?_
        exact cj_X11_judged_131 hz hd ht X26.1 X26.2.2 _ h hK
    · rw [if_neg q6] at h
      refine RT.wk (L1 := [(9, 0), (9, 0), (9, 0), (9, 0), (9, 0), (9, 0)]) (rt_le_j (rt_le_j (rt_le_s (rt_le_s (rt_le_s (rt_le_s rt_le_n)))))) ?_
      exact cj_X11_judged_9 hz hd ht mem0 _ h hK
theorem cj_X11_isHardness_15 {G : rt_G} {d : Nat} {z : Nat × Nat} {Q : rt_P} (hz : 300 ≤ z.1) (hd : 0 ≤ d) (s0 : Int) (mem0 : rt_M) (t : Int) (h : j_X11_isHardness_15 s0 mem0 = some t) (hK : Q (some (0, t)) z mem0) : RT G M_X11_isHardness d z Q 15 [(9, 0)] [(0, s0)] z mem0 := by
  unfold j_X11_isHardness_15 at h
  obtain ⟨w15, hw15, h⟩ := Option.bind_eq_some_iff.mp h
  obtain rfl := Option.some.inj h
  exact RT.zret (pc := 15) dX11_isHardness_15 rfl (rt_bz_ok hw15) (Nat.le_of_eq (rt_cells_0 z)) (Nat.le_of_eq (rt_slots_0 z)) hK
theorem cj_X11_isHardness_14 {G : rt_G} {d : Nat} {z : Nat × Nat} {Q : rt_P} (hz : 300 ≤ z.1) (hd : 0 ≤ d) (mem0 : rt_M) (t : Int) (h : j_X11_isHardness_14 mem0 = some t) (hK : Q (some (0, t)) z mem0) : RT G M_X11_isHardness d z Q 14 [(9, 0)] [] z mem0 := by
  unfold j_X11_isHardness_14 at h
  refine RT.iconst (pc := 14) (n := 0) dX11_isHardness_14 ⟨by decide, by decide⟩ ?_
  exact cj_X11_isHardness_15 hz hd 0 mem0 _ h hK
theorem c_X11_isHardness {G : rt_G} {d : Nat} {z : Nat × Nat} (hz : 300 ≤ z.1) (hd : 0 ≤ d) (a0 : Int) (mem0 : rt_M) (t : Int) (h : f_X11_isHardness a0 mem0 = some t) : RM G M_X11_isHardness d [(0, a0)] z mem0 (some (0, t)) mem0 := by
  suffices H : ∀ Q : rt_P, Q (some (0, t)) z mem0 → RT G M_X11_isHardness d z Q 0 [(0, a0)] [] z mem0 from H _ ⟨rfl, rfl, rfl⟩
  intro Q hK
  unfold f_X11_isHardness at h
  refine RT.iload_n (pc := 0) (k := 0) (x := a0) dX11_isHardness_0 rfl ?_
  refine RT.if_lt (pc := 1) (tgt := 14) dX11_isHardness_1 rfl (fun q1 => ?_) (fun q1 => ?_)
  · rw [if_pos q1] at h
    refine RT.wk (L1 := [(9, 0)]) (rt_le_j rt_le_n) ?_
    exact cj_X11_isHardness_14 hz hd mem0 _ h hK
  · rw [if_neg q1] at h
    refine RT.iload_n (pc := 4) (k := 0) (x := a0) dX11_isHardness_4 rfl ?_
    refine RT.bipush (pc := 5) (n := 9) dX11_isHardness_5 ⟨by decide, by decide⟩ rfl ?_
    refine RT.icmp_gt (pc := 7) (tgt := 14) dX11_isHardness_7 rfl (fun q7 => ?_) (fun q7 => ?_)
    · rw [if_pos q7] at h
      refine RT.wk (L1 := [(9, 0)]) (rt_le_j rt_le_n) ?_
      exact cj_X11_isHardness_14 hz hd mem0 _ h hK
    · rw [if_neg q7] at h
      refine RT.iconst (pc := 10) (n := 1) dX11_isHardness_10 ⟨by decide, by decide⟩ ?_
      refine RT.goto (pc := 11) (tgt := 15) dX11_isHardness_11 rfl ?_
      refine RT.wk (L1 := [(9, 0)]) (rt_le_j rt_le_n) ?_
      exact cj_X11_isHardness_15 hz hd 1 mem0 _ h hK
theorem cj_X11_wigsFor_61_4 {G : rt_G} {d : Nat} {z : Nat × Nat} {Q : rt_P} (hz : 300 ≤ z.1) (hd : 3 ≤ d) {a0 : Int} (ht : rt_kd a0.toNat = 20 + 11) (a1 : Int) (a2 : Int) (a3 : Int) (mem0 : rt_M) (t : (Int × Int × rt_M) ⊕ (Int × rt_M)) (h : j_X11_wigsFor_61_4 a0 a1 a2 a3 mem0 = some t) (hK : (∀ s1 : Int × Int × rt_M, t = .inl s1 → RT G M_X11_wigsFor d z Q 4 [(2, a0), (0, a1), (0, s1.1), (0, s1.2.1), (9, 0)] [] z s1.2.2) ∧ (∀ x1 : Int × rt_M, t = .inr x1 → RT G M_X11_wigsFor d z Q 67 [(9, 0), (9, 0), (0, x1.1), (9, 0), (9, 0)] [] z x1.2)) : RT G M_X11_wigsFor d z Q 61 [(2, a0), (0, a1), (0, a2), (0, a3), (9, 0)] [] z mem0 := by
  unfold j_X11_wigsFor_61_4 at h
  refine RT.iinc (pc := 61) (x := a3) (L1 := [(2, a0), (0, a1), (0, a2), (0, (rt_iadd a3 1)), (9, 0)]) dX11_wigsFor_61 rfl (Nat.le_of_ble_eq_true rfl) ⟨by decide, by decide⟩ rfl ?_
  refine RT.goto (pc := 64) (tgt := 4) dX11_wigsFor_64 rfl ?_
  obtain rfl := Option.some.inj h
  have q1 := hK.1 ((a2, (rt_iadd a3 1), mem0)) rfl
  try dsimp only at q1
  exact q1
theorem cb_X11_wigsFor_4 {G : rt_G} {d : Nat} {z : Nat × Nat} {Q : rt_P} (hz : 300 ≤ z.1) (hd : 3 ≤ d) {a0 : Int} (ht : rt_kd a0.toNat = 20 + 11) (a1 : Int) (s : Int × Int × rt_M) (t : (Int × Int × rt_M) ⊕ (Int × rt_M)) (h : b_X11_wigsFor_4 a0 a1 s = some t) (hK : (∀ s1 : Int × Int × rt_M, t = .inl s1 → RT G M_X11_wigsFor d z Q 4 [(2, a0), (0, a1), (0, s1.1), (0, s1.2.1), (9, 0)] [] z s1.2.2) ∧ (∀ x1 : Int × rt_M, t = .inr x1 → RT G M_X11_wigsFor d z Q 67 [(9, 0), (9, 0), (0, x1.1), (9, 0), (9, 0)] [] z x1.2)) : RT G M_X11_wigsFor d z Q 4 [(2, a0), (0, a1), (0, s.1), (0, s.2.1), (9, 0)] [] z s.2.2 := by
  unfold b_X11_wigsFor_4 at h
  refine RT.iload_n (pc := 4) (k := 3) (x := s.2.1) dX11_wigsFor_4 rfl ?_
  refine RT.aload_n (pc := 5) (k := 0) (x := a0) dX11_wigsFor_5 rfl ?_
  obtain ⟨v6, hv6, h⟩ := Option.bind_eq_some_iff.mp h
  refine RT.gf 11 7 2 (pc := 6) (x := a0) (v := v6) hz dX11_wigsFor_6 fl_X11_45 rfl hv6 ?_
  obtain ⟨v9, hv9, h⟩ := Option.bind_eq_some_iff.mp h
  refine RT.gf 4 0 0 (pc := 9) (x := v6) (v := v9) hz dX11_wigsFor_9 fl_X11_217 rfl hv9 ?_
  refine RT.icmp_ge (pc := 12) (tgt := 67) dX11_wigsFor_12 rfl (fun q12 => ?_) (fun q12 => ?_)
  · rw [if_pos q12] at h
    refine RT.wk (L1 := [(9, 0), (9, 0), (0, s.1), (9, 0), (9, 0)]) (rt_le_j (rt_le_j (rt_le_s (rt_le_j (rt_le_s rt_le_n))))) ?_
    obtain rfl := Option.some.inj h
    have q1 := hK.2 ((s.1, s.2.2)) rfl
    try dsimp only at q1
    exact q1
  · rw [if_neg q12] at h
    refine RT.aload_n (pc := 15) (k := 0) (x := a0) dX11_wigsFor_15 rfl ?_
    obtain ⟨v16, hv16, h⟩ := Option.bind_eq_some_iff.mp h
    refine RT.gf 11 2 2 (pc := 16) (x := a0) (v := v16) hz dX11_wigsFor_16 fl_X11_28 rfl hv16 ?_
    obtain ⟨v19, hv19, h⟩ := Option.bind_eq_some_iff.mp h
    refine RT.gf 0 0 2 (pc := 19) (x := v16) (v := v19) hz dX11_wigsFor_19 fl_X11_126 rfl hv19 ?_
    refine RT.iload_n (pc := 22) (k := 3) (x := s.2.1) dX11_wigsFor_22 rfl ?_
    obtain ⟨p23, hp23, h⟩ := Option.bind_eq_some_iff.mp h
    obtain ⟨hk23, hp23⟩ := rt_gd_some hp23
    refine RT.cVz (pc := 23) (M' := M_X7_headUnder) (ci := 7) (x := v19) (As := [(0, s.2.1)]) (st := []) (r := some (0, p23)) (mem1 := s.2.2) (d' := d - 1) hz dX11_wigsFor_23 mw_X7_headUnder ml_X11_129 mi_X7_headUnder hk23 rfl rfl (Nat.le_of_ble_eq_true rfl) (Nat.le_of_ble_eq_true rfl) (by omega) rfl rfl (c_X7_headUnder hz (by omega) v19 s.2.1 s.2.2 _ hk23 hp23) ?_
    refine RT.istore (pc := 26) (k := 4) (x := p23) (L1 := [(2, a0), (0, a1), (0, s.1), (0, s.2.1), (0, p23)]) dX11_wigsFor_26 (Nat.le_of_ble_eq_true rfl) rfl ?_
    refine RT.iload (pc := 28) (k := 4) (x := p23) dX11_wigsFor_28 rfl ?_
    refine RT.iconst (pc := 30) (n := (-1)) dX11_wigsFor_30 ⟨by decide, by decide⟩ ?_
    refine RT.icmp_eq (pc := 31) (tgt := 61) dX11_wigsFor_31 rfl (fun q31 => ?_) (fun q31 => ?_)
    · rw [if_pos q31] at h
      refine RT.wk (L1 := [(2, a0), (0, a1), (0, s.1), (0, s.2.1), (9, 0)]) (rt_le_s (rt_le_s (rt_le_s (rt_le_s (rt_le_j rt_le_n))))) ?_
      exact cj_X11_wigsFor_61_4 hz hd ht a1 s.1 s.2.1 s.2.2 _ h hK
    · rw [if_neg q31] at h
      refine RT.aload_n (pc := 34) (k := 0) (x := a0) dX11_wigsFor_34 rfl ?_
      obtain ⟨v35, hv35, h⟩ := Option.bind_eq_some_iff.mp h
      refine RT.gf 11 7 2 (pc := 35) (x := a0) (v := v35) hz dX11_wigsFor_35 fl_X11_45 rfl hv35 ?_
      refine RT.aload_n (pc := 38) (k := 0) (x := a0) dX11_wigsFor_38 rfl ?_
      obtain ⟨v39, hv39, h⟩ := Option.bind_eq_some_iff.mp h
      refine RT.gf 11 7 2 (pc := 39) (x := a0) (v := v39) hz dX11_wigsFor_39 fl_X11_45 rfl hv39 ?_
      refine RT.iload_n (pc := 42) (k := 3) (x := s.2.1) dX11_wigsFor_42 rfl ?_
      obtain ⟨p43, hp43, h⟩ := Option.bind_eq_some_iff.mp h
      obtain ⟨hk43, hp43⟩ := rt_gd_some hp43
      refine RT.cVz (pc := 43) (M' := M_X4_leanOfWig) (ci := 4) (x := v39) (As := [(0, s.2.1)]) (st := [(2, v35)]) (r := some (0, p43)) (mem1 := s.2.2) (d' := d - 1) hz dX11_wigsFor_43 mw_X4_leanOfWig ml_X11_123 mi_X4_leanOfWig hk43 rfl rfl (Nat.le_of_ble_eq_true rfl) (Nat.le_of_ble_eq_true rfl) (by omega) rfl rfl (c_X4_leanOfWig hz (by omega) v39 s.2.1 s.2.2 _ hk43 hp43) ?_
      refine RT.iload (pc := 46) (k := 4) (x := p23) dX11_wigsFor_46 rfl ?_
      refine RT.iload_n (pc := 48) (k := 1) (x := a1) dX11_wigsFor_48 rfl ?_
      obtain ⟨p49, hp49, h⟩ := Option.bind_eq_some_iff.mp h
      obtain ⟨hk49, hp49⟩ := rt_gd_some hp49
      refine RT.cVz (pc := 49) (M' := M_X4_isFor) (ci := 4) (x := v35) (As := [(0, p43), (0, p23), (0, a1)]) (st := []) (r := some (0, p49.1)) (mem1 := p49.2) (d' := d - 1) hz dX11_wigsFor_49 mw_X4_isFor ml_X11_220 mi_X4_isFor hk49 rfl rfl (Nat.le_of_ble_eq_true rfl) (Nat.le_of_ble_eq_true rfl) (by omega) rfl rfl (c_X4_isFor hz (by omega) v35 p43 p23 a1 s.2.2 _ hk49 hp49) ?_
      refine RT.if_eq (pc := 52) (tgt := 61) dX11_wigsFor_52 rfl (fun q52 => ?_) (fun q52 => ?_)
      · rw [if_pos q52] at h
        refine RT.wk (L1 := [(2, a0), (0, a1), (0, s.1), (0, s.2.1), (9, 0)]) (rt_le_s (rt_le_s (rt_le_s (rt_le_s (rt_le_j rt_le_n))))) ?_
        exact cj_X11_wigsFor_61_4 hz hd ht a1 s.1 s.2.1 p49.2 _ h hK
      · rw [if_neg q52] at h
        refine RT.iload_n (pc := 55) (k := 2) (x := s.1) dX11_wigsFor_55 rfl ?_
        refine RT.iconst (pc := 56) (n := 1) dX11_wigsFor_56 ⟨by decide, by decide⟩ ?_
        refine RT.iload_n (pc := 57) (k := 3) (x := s.2.1) dX11_wigsFor_57 rfl ?_
        refine RT.ishl (pc := 58) dX11_wigsFor_58 ?_
        refine RT.ior (pc := 59) dX11_wigsFor_59 ?_
        refine RT.istore_n (pc := 60) (k := 2) (x := (rt_ior s.1 (rt_ishl 1 s.2.1))) (L1 := [(2, a0), (0, a1), (0, (rt_ior s.1 (rt_ishl 1 s.2.1))), (0, s.2.1), (0, p23)]) dX11_wigsFor_60 (Nat.le_of_ble_eq_true rfl) rfl ?_
        refine RT.wk (L1 := [(2, a0), (0, a1), (0, (rt_ior s.1 (rt_ishl 1 s.2.1))), (0, s.2.1), (9, 0)]) (rt_le_s (rt_le_s (rt_le_s (rt_le_s (rt_le_j rt_le_n))))) ?_
        exact cj_X11_wigsFor_61_4 hz hd ht a1 ((rt_ior s.1 (rt_ishl 1 s.2.1))) s.2.1 p49.2 _ h hK
theorem c_X11_wigsFor {G : rt_G} {d : Nat} {z : Nat × Nat} (hz : 300 ≤ z.1) (hd : 3 ≤ d) (a0 : Int) (a1 : Int) (mem0 : rt_M) (t : Int × rt_M) (ht : rt_kd a0.toNat = 20 + 11) (h : f_X11_wigsFor a0 a1 mem0 = some t) : RM G M_X11_wigsFor d [(2, a0), (0, a1)] z mem0 (some (0, t.1)) t.2 := by
  suffices H : ∀ Q : rt_P, Q (some (0, t.1)) z t.2 → RT G M_X11_wigsFor d z Q 0 [(2, a0), (0, a1), (9, 0), (9, 0), (9, 0)] [] z mem0 from H _ ⟨rfl, rfl, rfl⟩
  intro Q hK
  unfold f_X11_wigsFor at h
  refine RT.iconst (pc := 0) (n := 0) dX11_wigsFor_0 ⟨by decide, by decide⟩ ?_
  refine RT.istore_n (pc := 1) (k := 2) (x := 0) (L1 := [(2, a0), (0, a1), (0, 0), (9, 0), (9, 0)]) dX11_wigsFor_1 (Nat.le_of_ble_eq_true rfl) rfl ?_
  refine RT.iconst (pc := 2) (n := 0) dX11_wigsFor_2 ⟨by decide, by decide⟩ ?_
  refine RT.istore_n (pc := 3) (k := 3) (x := 0) (L1 := [(2, a0), (0, a1), (0, 0), (0, 0), (9, 0)]) dX11_wigsFor_3 (Nat.le_of_ble_eq_true rfl) rfl ?_
  obtain ⟨X4, hX4, h⟩ := Option.bind_eq_some_iff.mp h
  refine rt_it_ind (P := (fun s1 : Int × Int × rt_M => RT G M_X11_wigsFor d z Q 4 [(2, a0), (0, a1), (0, s1.1), (0, s1.2.1), (9, 0)] [] z s1.2.2)) (X := (fun x1 : Int × rt_M => RT G M_X11_wigsFor d z Q 67 [(9, 0), (9, 0), (0, x1.1), (9, 0), (9, 0)] [] z x1.2)) (fun s1 t1 h1 k1 k2 => cb_X11_wigsFor_4 hz hd ht a1 s1 t1 h1 ⟨k1, k2⟩) 4000 ((0, 0, mem0)) X4 hX4 ?_
  refine RT.iload_n (pc := 67) (k := 2) (x := X4.1) dX11_wigsFor_67 rfl ?_
  obtain rfl := Option.some.inj h
  exact RT.iret (pc := 68) dX11_wigsFor_68 rfl (Nat.le_of_eq (rt_cells_0 z)) (Nat.le_of_eq (rt_slots_0 z)) hK
theorem cj_X11_verdict_16 {G : rt_G} {d : Nat} {z : Nat × Nat} {Q : rt_P} (hz : 300 ≤ z.1) (hd : 4 ≤ d) {a0 : Int} (ht : rt_kd a0.toNat = 20 + 11) (s0 : Int) (mem0 : rt_M) (t : Int × rt_M) (h : j_X11_verdict_16 s0 mem0 = some t) (hK : Q (some (0, t.1)) z t.2) : RT G M_X11_verdict d z Q 16 [(9, 0), (9, 0)] [(0, s0)] z mem0 := by
  unfold j_X11_verdict_16 at h
  obtain rfl := Option.some.inj h
  exact RT.iret (pc := 16) dX11_verdict_16 rfl (Nat.le_of_eq (rt_cells_0 z)) (Nat.le_of_eq (rt_slots_0 z)) hK
theorem c_X11_verdict {G : rt_G} {d : Nat} {z : Nat × Nat} (hz : 300 ≤ z.1) (hd : 4 ≤ d) (a0 : Int) (a1 : Int) (mem0 : rt_M) (t : Int × rt_M) (ht : rt_kd a0.toNat = 20 + 11) (h : f_X11_verdict a0 a1 mem0 = some t) : RM G M_X11_verdict d [(2, a0), (0, a1)] z mem0 (some (0, t.1)) t.2 := by
  suffices H : ∀ Q : rt_P, Q (some (0, t.1)) z t.2 → RT G M_X11_verdict d z Q 0 [(2, a0), (0, a1)] [] z mem0 from H _ ⟨rfl, rfl, rfl⟩
  intro Q hK
  unfold f_X11_verdict at h
  refine RT.iload_n (pc := 0) (k := 1) (x := a1) dX11_verdict_0 rfl ?_
  obtain ⟨p1, hp1, h⟩ := Option.bind_eq_some_iff.mp h
  refine RT.cSz (pc := 1) (M' := M_X11_isHardness) (As := [(0, a1)]) (st := []) (r := some (0, p1)) (mem1 := mem0) (d' := d - 1) dX11_verdict_1 mw_X11_isHardness ml_X11_211 mi_X11_isHardness rfl rfl (Nat.le_of_ble_eq_true rfl) (Nat.le_of_ble_eq_true rfl) (by omega) rfl rfl (c_X11_isHardness hz (by omega) a1 mem0 _ hp1) ?_
  refine RT.if_eq (pc := 4) (tgt := 15) dX11_verdict_4 rfl (fun q4 => ?_) (fun q4 => ?_)
  · rw [if_pos q4] at h
    refine RT.iconst (pc := 15) (n := (-1)) dX11_verdict_15 ⟨by decide, by decide⟩ ?_
    refine RT.wk (L1 := [(9, 0), (9, 0)]) (rt_le_j (rt_le_j rt_le_n)) ?_
    exact cj_X11_verdict_16 hz hd ht ((-1)) mem0 _ h hK
  · rw [if_neg q4] at h
    refine RT.aload_n (pc := 7) (k := 0) (x := a0) dX11_verdict_7 rfl ?_
    refine RT.iload_n (pc := 8) (k := 1) (x := a1) dX11_verdict_8 rfl ?_
    obtain ⟨p9, hp9, h⟩ := Option.bind_eq_some_iff.mp h
    refine RT.cVz (pc := 9) (M' := M_X11_wigsFor) (ci := 11) (x := a0) (As := [(0, a1)]) (st := []) (r := some (0, p9.1)) (mem1 := p9.2) (d' := d - 1) hz dX11_verdict_9 mw_X11_wigsFor ml_X11_214 mi_X11_wigsFor ht rfl rfl (Nat.le_of_ble_eq_true rfl) (Nat.le_of_ble_eq_true rfl) (by omega) rfl rfl (c_X11_wigsFor hz (by omega) a0 a1 mem0 _ ht hp9) ?_
    refine RT.goto (pc := 12) (tgt := 16) dX11_verdict_12 rfl ?_
    refine RT.wk (L1 := [(9, 0), (9, 0)]) (rt_le_j (rt_le_j rt_le_n)) ?_
    exact cj_X11_verdict_16 hz hd ht p9.1 p9.2 _ h hK
theorem cj_X11_votes_23 {G : rt_G} {d : Nat} {z : Nat × Nat} {Q : rt_P} (hz : 300 ≤ z.1) (hd : 4 ≤ d) {a0 : Int} (ht : rt_kd a0.toNat = 20 + 11) (s0 : Int) (mem0 : rt_M) (t : Int × rt_M) (h : j_X11_votes_23 s0 mem0 = some t) (hK : Q (some (0, t.1)) z t.2) : RT G M_X11_votes d z Q 23 [(9, 0), (9, 0)] [(0, s0)] z mem0 := by
  unfold j_X11_votes_23 at h
  obtain rfl := Option.some.inj h
  exact RT.iret (pc := 23) dX11_votes_23 rfl (Nat.le_of_eq (rt_cells_0 z)) (Nat.le_of_eq (rt_slots_0 z)) hK
theorem c_X11_votes {G : rt_G} {d : Nat} {z : Nat × Nat} (hz : 300 ≤ z.1) (hd : 4 ≤ d) (a0 : Int) (a1 : Int) (mem0 : rt_M) (t : Int × rt_M) (ht : rt_kd a0.toNat = 20 + 11) (h : f_X11_votes a0 a1 mem0 = some t) : RM G M_X11_votes d [(2, a0), (0, a1)] z mem0 (some (0, t.1)) t.2 := by
  suffices H : ∀ Q : rt_P, Q (some (0, t.1)) z t.2 → RT G M_X11_votes d z Q 0 [(2, a0), (0, a1)] [] z mem0 from H _ ⟨rfl, rfl, rfl⟩
  intro Q hK
  unfold f_X11_votes at h
  refine RT.iload_n (pc := 0) (k := 1) (x := a1) dX11_votes_0 rfl ?_
  obtain ⟨p1, hp1, h⟩ := Option.bind_eq_some_iff.mp h
  refine RT.cSz (pc := 1) (M' := M_X11_isHardness) (As := [(0, a1)]) (st := []) (r := some (0, p1)) (mem1 := mem0) (d' := d - 1) dX11_votes_1 mw_X11_isHardness ml_X11_211 mi_X11_isHardness rfl rfl (Nat.le_of_ble_eq_true rfl) (Nat.le_of_ble_eq_true rfl) (by omega) rfl rfl (c_X11_isHardness hz (by omega) a1 mem0 _ hp1) ?_
  refine RT.if_eq (pc := 4) (tgt := 22) dX11_votes_4 rfl (fun q4 => ?_) (fun q4 => ?_)
  · rw [if_pos q4] at h
    refine RT.iconst (pc := 22) (n := (-1)) dX11_votes_22 ⟨by decide, by decide⟩ ?_
    refine RT.wk (L1 := [(9, 0), (9, 0)]) (rt_le_j (rt_le_j rt_le_n)) ?_
    exact cj_X11_votes_23 hz hd ht ((-1)) mem0 _ h hK
  · rw [if_neg q4] at h
    refine RT.aload_n (pc := 7) (k := 0) (x := a0) dX11_votes_7 rfl ?_
    obtain ⟨v8, hv8, h⟩ := Option.bind_eq_some_iff.mp h
    refine RT.gf 11 7 2 (pc := 8) (x := a0) (v := v8) hz dX11_votes_8 fl_X11_45 rfl hv8 ?_
    refine RT.aload_n (pc := 11) (k := 0) (x := a0) dX11_votes_11 rfl ?_
    refine RT.iload_n (pc := 12) (k := 1) (x := a1) dX11_votes_12 rfl ?_
    obtain ⟨p13, hp13, h⟩ := Option.bind_eq_some_iff.mp h
    refine RT.cVz (pc := 13) (M' := M_X11_wigsFor) (ci := 11) (x := a0) (As := [(0, a1)]) (st := [(2, v8)]) (r := some (0, p13.1)) (mem1 := p13.2) (d' := d - 1) hz dX11_votes_13 mw_X11_wigsFor ml_X11_214 mi_X11_wigsFor ht rfl rfl (Nat.le_of_ble_eq_true rfl) (Nat.le_of_ble_eq_true rfl) (by omega) rfl rfl (c_X11_wigsFor hz (by omega) a0 a1 mem0 _ ht hp13) ?_
    obtain ⟨p16, hp16, h⟩ := Option.bind_eq_some_iff.mp h
    obtain ⟨hk16, hp16⟩ := rt_gd_some hp16
    refine RT.cVz (pc := 16) (M' := M_X4_officeOfAll) (ci := 4) (x := v8) (As := [(0, p13.1)]) (st := []) (r := some (0, p16)) (mem1 := p13.2) (d' := d - 1) hz dX11_votes_16 mw_X4_officeOfAll ml_X11_208 mi_X4_officeOfAll hk16 rfl rfl (Nat.le_of_ble_eq_true rfl) (Nat.le_of_ble_eq_true rfl) (by omega) rfl rfl (c_X4_officeOfAll hz (by omega) v8 p13.1 p13.2 _ hk16 hp16) ?_
    refine RT.goto (pc := 19) (tgt := 23) dX11_votes_19 rfl ?_
    refine RT.wk (L1 := [(9, 0), (9, 0)]) (rt_le_j (rt_le_j rt_le_n)) ?_
    exact cj_X11_votes_23 hz hd ht p16 p13.2 _ h hK
theorem cb_X11_isFitThrough_3 {G : rt_G} {d : Nat} {z : Nat × Nat} {Q : rt_P} (hz : 300 ≤ z.1) (hd : 4 ≤ d) {a0 : Int} (ht : rt_kd a0.toNat = 20 + 11) (a1 : Int) (a2 : Int) (a3 : Int) (s : Int × rt_M) (t : (Int × rt_M) ⊕ ((rt_M) ⊕ (Int × rt_M))) (h : b_X11_isFitThrough_3 a0 a1 a2 a3 s = some t) (hK : (∀ s1 : Int × rt_M, t = .inl s1 → RT G M_X11_isFitThrough d z Q 3 [(2, a0), (0, a1), (0, a2), (0, a3), (0, s1.1)] [] z s1.2) ∧ (∀ x1 : rt_M, t = .inr (.inl x1) → RT G M_X11_isFitThrough d z Q 42 [(9, 0), (9, 0), (9, 0), (9, 0), (9, 0)] [] z x1) ∧ (∀ t1 : Int × rt_M, t = .inr (.inr t1) → Q (some (0, t1.1)) z t1.2)) : RT G M_X11_isFitThrough d z Q 3 [(2, a0), (0, a1), (0, a2), (0, a3), (0, s.1)] [] z s.2 := by
  unfold b_X11_isFitThrough_3 at h
  refine RT.iload (pc := 3) (k := 4) (x := s.1) dX11_isFitThrough_3 rfl ?_
  refine RT.iload_n (pc := 5) (k := 3) (x := a3) dX11_isFitThrough_5 rfl ?_
  refine RT.icmp_ge (pc := 6) (tgt := 42) dX11_isFitThrough_6 rfl (fun q6 => ?_) (fun q6 => ?_)
  · rw [if_pos q6] at h
    refine RT.wk (L1 := [(9, 0), (9, 0), (9, 0), (9, 0), (9, 0)]) (rt_le_j (rt_le_j (rt_le_j (rt_le_j (rt_le_j rt_le_n))))) ?_
    obtain rfl := Option.some.inj h
    have q1 := hK.2.1 s.2 rfl
    try dsimp only at q1
    exact q1
  · rw [if_neg q6] at h
    refine RT.aload_n (pc := 9) (k := 0) (x := a0) dX11_isFitThrough_9 rfl ?_
    obtain ⟨v10, hv10, h⟩ := Option.bind_eq_some_iff.mp h
    refine RT.gf 11 7 2 (pc := 10) (x := a0) (v := v10) hz dX11_isFitThrough_10 fl_X11_45 rfl hv10 ?_
    refine RT.iload_n (pc := 13) (k := 1) (x := a1) dX11_isFitThrough_13 rfl ?_
    refine RT.iload_n (pc := 14) (k := 2) (x := a2) dX11_isFitThrough_14 rfl ?_
    refine RT.aload_n (pc := 15) (k := 0) (x := a0) dX11_isFitThrough_15 rfl ?_
    obtain ⟨v16, hv16, h⟩ := Option.bind_eq_some_iff.mp h
    refine RT.gf 11 2 2 (pc := 16) (x := a0) (v := v16) hz dX11_isFitThrough_16 fl_X11_28 rfl hv16 ?_
    obtain ⟨v19, hv19, h⟩ := Option.bind_eq_some_iff.mp h
    refine RT.gf 0 0 2 (pc := 19) (x := v16) (v := v19) hz dX11_isFitThrough_19 fl_X11_126 rfl hv19 ?_
    obtain ⟨v22, hv22, h⟩ := Option.bind_eq_some_iff.mp h
    refine RT.gf 7 0 0 (pc := 22) (x := v19) (v := v22) hz dX11_isFitThrough_22 fl_X11_142 rfl hv22 ?_
    refine RT.iload (pc := 25) (k := 4) (x := s.1) dX11_isFitThrough_25 rfl ?_
    refine RT.iadd (pc := 27) dX11_isFitThrough_27 ?_
    obtain ⟨p28, hp28, h⟩ := Option.bind_eq_some_iff.mp h
    obtain ⟨hk28, hp28⟩ := rt_gd_some hp28
    refine RT.cVz (pc := 28) (M' := M_X4_isFit) (ci := 4) (x := v10) (As := [(0, a1), (0, a2), (0, (rt_iadd v22 s.1))]) (st := []) (r := some (0, p28.1)) (mem1 := p28.2) (d' := d - 1) hz dX11_isFitThrough_28 mw_X4_isFit ml_X11_151 mi_X4_isFit hk28 rfl rfl (Nat.le_of_ble_eq_true rfl) (Nat.le_of_ble_eq_true rfl) (by omega) rfl rfl (c_X4_isFit hz (by omega) v10 a1 a2 ((rt_iadd v22 s.1)) s.2 _ hk28 hp28) ?_
    refine RT.if_ne (pc := 31) (tgt := 36) dX11_isFitThrough_31 rfl (fun q31 => ?_) (fun q31 => ?_)
    · rw [if_neg q31] at h
      refine RT.iinc (pc := 36) (x := s.1) (L1 := [(2, a0), (0, a1), (0, a2), (0, a3), (0, (rt_iadd s.1 1))]) dX11_isFitThrough_36 rfl (Nat.le_of_ble_eq_true rfl) ⟨by decide, by decide⟩ rfl ?_
      refine RT.goto (pc := 39) (tgt := 3) dX11_isFitThrough_39 rfl ?_
      obtain rfl := Option.some.inj h
      have q1 := hK.1 (((rt_iadd s.1 1), p28.2)) rfl
      try dsimp only at q1
      exact q1
    · rw [if_pos (Classical.not_not.mp q31)] at h
      obtain ⟨t2, g2, e2⟩ := Option.map_eq_some_iff.mp h
      subst e2
      replace h := g2
      replace hK := hK.2.2 t2 rfl
      refine RT.iconst (pc := 34) (n := 0) dX11_isFitThrough_34 ⟨by decide, by decide⟩ ?_
      obtain rfl := Option.some.inj h
      exact RT.zret (pc := 35) dX11_isFitThrough_35 rfl (by decide) (Nat.le_of_eq (rt_cells_0 z)) (Nat.le_of_eq (rt_slots_0 z)) hK
theorem c_X11_isFitThrough {G : rt_G} {d : Nat} {z : Nat × Nat} (hz : 300 ≤ z.1) (hd : 4 ≤ d) (a0 : Int) (a1 : Int) (a2 : Int) (a3 : Int) (mem0 : rt_M) (t : Int × rt_M) (ht : rt_kd a0.toNat = 20 + 11) (h : f_X11_isFitThrough a0 a1 a2 a3 mem0 = some t) : RM G M_X11_isFitThrough d [(2, a0), (0, a1), (0, a2), (0, a3)] z mem0 (some (0, t.1)) t.2 := by
  suffices H : ∀ Q : rt_P, Q (some (0, t.1)) z t.2 → RT G M_X11_isFitThrough d z Q 0 [(2, a0), (0, a1), (0, a2), (0, a3), (9, 0)] [] z mem0 from H _ ⟨rfl, rfl, rfl⟩
  intro Q hK
  unfold f_X11_isFitThrough at h
  refine RT.iconst (pc := 0) (n := 0) dX11_isFitThrough_0 ⟨by decide, by decide⟩ ?_
  refine RT.istore (pc := 1) (k := 4) (x := 0) (L1 := [(2, a0), (0, a1), (0, a2), (0, a3), (0, 0)]) dX11_isFitThrough_1 (Nat.le_of_ble_eq_true rfl) rfl ?_
  obtain ⟨E3, hE3, h⟩ := Option.bind_eq_some_iff.mp h
  refine rt_it_ind (P := (fun s1 : Int × rt_M => RT G M_X11_isFitThrough d z Q 3 [(2, a0), (0, a1), (0, a2), (0, a3), (0, s1.1)] [] z s1.2)) (X := (fun e1 : (rt_M) ⊕ (Int × rt_M) => (∀ x1 : rt_M, e1 = .inl x1 → RT G M_X11_isFitThrough d z Q 42 [(9, 0), (9, 0), (9, 0), (9, 0), (9, 0)] [] z x1) ∧ (∀ t1 : Int × rt_M, e1 = .inr t1 → Q (some (0, t1.1)) z t1.2))) (fun s1 t1 h1 k1 k2 => cb_X11_isFitThrough_3 hz hd ht a1 a2 a3 s1 t1 h1 ⟨k1, fun x1 q => (k2 _ q).1 x1 rfl, fun t2 q => (k2 _ q).2 t2 rfl⟩) 4000 ((0, mem0)) E3 hE3 ?_
  cases E3 with
  | inr t1 =>
    obtain rfl := Option.some.inj h
    exact ⟨fun x1 q => (by cases q), fun t2 q => (by cases q; exact hK)⟩
  | inl X3 =>
    refine ⟨fun x1 q => ?_, fun t2 q => (by cases q)⟩
    cases q
    refine RT.iconst (pc := 42) (n := 1) dX11_isFitThrough_42 ⟨by decide, by decide⟩ ?_
    obtain rfl := Option.some.inj h
    exact RT.zret (pc := 43) dX11_isFitThrough_43 rfl (by decide) (Nat.le_of_eq (rt_cells_0 z)) (Nat.le_of_eq (rt_slots_0 z)) hK
theorem cj_X11_openHeads_49_2 {G : rt_G} {d : Nat} {z : Nat × Nat} {Q : rt_P} (hz : 300 ≤ z.1) (hd : 5 ≤ d) {a0 : Int} (ht : rt_kd a0.toNat = 20 + 11) (a1 : Int) (a2 : Int) (a3 : Int) (mem0 : rt_M) (t : (Int × rt_M) ⊕ (rt_M)) (h : j_X11_openHeads_49_2 a0 a1 a2 a3 mem0 = some t) (hK : (∀ s1 : Int × rt_M, t = .inl s1 → RT G M_X11_openHeads d z Q 2 [(2, a0), (0, a1), (0, a2), (0, s1.1)] [] z s1.2) ∧ (∀ x1 : rt_M, t = .inr x1 → RT G M_X11_openHeads d z Q 55 [(9, 0), (9, 0), (9, 0), (9, 0)] [] z x1)) : RT G M_X11_openHeads d z Q 49 [(2, a0), (0, a1), (0, a2), (0, a3)] [] z mem0 := by
  unfold j_X11_openHeads_49_2 at h
  refine RT.iinc (pc := 49) (x := a3) (L1 := [(2, a0), (0, a1), (0, a2), (0, (rt_iadd a3 1))]) dX11_openHeads_49 rfl (Nat.le_of_ble_eq_true rfl) ⟨by decide, by decide⟩ rfl ?_
  refine RT.goto (pc := 52) (tgt := 2) dX11_openHeads_52 rfl ?_
  obtain rfl := Option.some.inj h
  have q1 := hK.1 (((rt_iadd a3 1), mem0)) rfl
  try dsimp only at q1
  exact q1
theorem cb_X11_openHeads_2 {G : rt_G} {d : Nat} {z : Nat × Nat} {Q : rt_P} (hz : 300 ≤ z.1) (hd : 5 ≤ d) {a0 : Int} (ht : rt_kd a0.toNat = 20 + 11) (a1 : Int) (a2 : Int) (s : Int × rt_M) (t : (Int × rt_M) ⊕ (rt_M)) (h : b_X11_openHeads_2 a0 a1 a2 s = some t) (hK : (∀ s1 : Int × rt_M, t = .inl s1 → RT G M_X11_openHeads d z Q 2 [(2, a0), (0, a1), (0, a2), (0, s1.1)] [] z s1.2) ∧ (∀ x1 : rt_M, t = .inr x1 → RT G M_X11_openHeads d z Q 55 [(9, 0), (9, 0), (9, 0), (9, 0)] [] z x1)) : RT G M_X11_openHeads d z Q 2 [(2, a0), (0, a1), (0, a2), (0, s.1)] [] z s.2 := by
  unfold b_X11_openHeads_2 at h
  refine RT.iload_n (pc := 2) (k := 3) (x := s.1) dX11_openHeads_2 rfl ?_
  refine RT.aload_n (pc := 3) (k := 0) (x := a0) dX11_openHeads_3 rfl ?_
  obtain ⟨v4, hv4, h⟩ := Option.bind_eq_some_iff.mp h
  refine RT.gf 11 7 2 (pc := 4) (x := a0) (v := v4) hz dX11_openHeads_4 fl_X11_45 rfl hv4 ?_
  obtain ⟨v7, hv7, h⟩ := Option.bind_eq_some_iff.mp h
  refine RT.gf 4 1 0 (pc := 7) (x := v4) (v := v7) hz dX11_openHeads_7 fl_X11_240 rfl hv7 ?_
  refine RT.icmp_ge (pc := 10) (tgt := 55) dX11_openHeads_10 rfl (fun q10 => ?_) (fun q10 => ?_)
  · rw [if_pos q10] at h
    refine RT.wk (L1 := [(9, 0), (9, 0), (9, 0), (9, 0)]) (rt_le_j (rt_le_j (rt_le_j (rt_le_j rt_le_n)))) ?_
    obtain rfl := Option.some.inj h
    have q1 := hK.2 s.2 rfl
    try dsimp only at q1
    exact q1
  · rw [if_neg q10] at h
    refine RT.aload_n (pc := 13) (k := 0) (x := a0) dX11_openHeads_13 rfl ?_
    refine RT.iload_n (pc := 14) (k := 1) (x := a1) dX11_openHeads_14 rfl ?_
    refine RT.iload_n (pc := 15) (k := 3) (x := s.1) dX11_openHeads_15 rfl ?_
    refine RT.iload_n (pc := 16) (k := 2) (x := a2) dX11_openHeads_16 rfl ?_
    obtain ⟨p17, hp17, h⟩ := Option.bind_eq_some_iff.mp h
    refine RT.cVz (pc := 17) (M' := M_X11_isFitThrough) (ci := 11) (x := a0) (As := [(0, a1), (0, s.1), (0, a2)]) (st := []) (r := some (0, p17.1)) (mem1 := p17.2) (d' := d - 1) hz dX11_openHeads_17 mw_X11_isFitThrough ml_X11_243 mi_X11_isFitThrough ht rfl rfl (Nat.le_of_ble_eq_true rfl) (Nat.le_of_ble_eq_true rfl) (by omega) rfl rfl (c_X11_isFitThrough hz (by omega) a0 a1 s.1 a2 s.2 _ ht hp17) ?_
    refine RT.if_eq (pc := 20) (tgt := 49) dX11_openHeads_20 rfl (fun q20 => ?_) (fun q20 => ?_)
    · rw [if_pos q20] at h
      exact cj_X11_openHeads_49_2 hz hd ht a1 a2 s.1 p17.2 _ h hK
    · rw [if_neg q20] at h
      refine RT.aload_n (pc := 23) (k := 0) (x := a0) dX11_openHeads_23 rfl ?_
      obtain ⟨v24, hv24, h⟩ := Option.bind_eq_some_iff.mp h
      refine RT.gf 11 12 2 (pc := 24) (x := a0) (v := v24) hz dX11_openHeads_24 fl_X11_74 rfl hv24 ?_
      refine RT.iload_n (pc := 27) (k := 1) (x := a1) dX11_openHeads_27 rfl ?_
      refine RT.iload_n (pc := 28) (k := 3) (x := s.1) dX11_openHeads_28 rfl ?_
      obtain ⟨p29, hp29, h⟩ := Option.bind_eq_some_iff.mp h
      obtain ⟨hk29, hp29⟩ := rt_gd_some hp29
      refine RT.cVz (pc := 29) (M' := M_X5_open) (ci := 5) (x := v24) (As := [(0, a1), (0, s.1)]) (st := []) (r := none) (mem1 := p29) (d' := d - 1) hz dX11_openHeads_29 mw_X5_open ml_X11_246 mi_X5_open hk29 rfl rfl (Nat.le_of_ble_eq_true rfl) (Nat.le_of_ble_eq_true rfl) (by omega) rfl rfl (c_X5_open hz (by omega) v24 a1 s.1 p17.2 _ hk29 hp29) ?_
      refine RT.aload_n (pc := 32) (k := 0) (x := a0) dX11_openHeads_32 rfl ?_
      obtain ⟨v33, hv33, h⟩ := Option.bind_eq_some_iff.mp h
      refine RT.gf 11 12 2 (pc := 33) (x := a0) (v := v33) hz dX11_openHeads_33 fl_X11_74 rfl hv33 ?_
      refine RT.iload_n (pc := 36) (k := 1) (x := a1) dX11_openHeads_36 rfl ?_
      refine RT.iload_n (pc := 37) (k := 3) (x := s.1) dX11_openHeads_37 rfl ?_
      refine RT.aload_n (pc := 38) (k := 0) (x := a0) dX11_openHeads_38 rfl ?_
      obtain ⟨v39, hv39, h⟩ := Option.bind_eq_some_iff.mp h
      refine RT.gf 11 7 2 (pc := 39) (x := a0) (v := v39) hz dX11_openHeads_39 fl_X11_45 rfl hv39 ?_
      refine RT.iload_n (pc := 42) (k := 1) (x := a1) dX11_openHeads_42 rfl ?_
      obtain ⟨p43, hp43, h⟩ := Option.bind_eq_some_iff.mp h
      obtain ⟨hk43, hp43⟩ := rt_gd_some hp43
      refine RT.cVz (pc := 43) (M' := M_X4_officeOf) (ci := 4) (x := v39) (As := [(0, a1)]) (st := [(0, s.1), (0, a1), (2, v33)]) (r := some (0, p43)) (mem1 := p29) (d' := d - 1) hz dX11_openHeads_43 mw_X4_officeOf ml_X11_120 mi_X4_officeOf hk43 rfl rfl (Nat.le_of_ble_eq_true rfl) (Nat.le_of_ble_eq_true rfl) (by omega) rfl rfl (c_X4_officeOf hz (by omega) v39 a1 p29 _ hk43 hp43) ?_
      obtain ⟨p46, hp46, h⟩ := Option.bind_eq_some_iff.mp h
      obtain ⟨hk46, hp46⟩ := rt_gd_some hp46
      refine RT.cVz (pc := 46) (M' := M_X5_gains) (ci := 5) (x := v33) (As := [(0, a1), (0, s.1), (0, p43)]) (st := []) (r := none) (mem1 := p46) (d' := d - 1) hz dX11_openHeads_46 mw_X5_gains ml_X11_249 mi_X5_gains hk46 rfl rfl (Nat.le_of_ble_eq_true rfl) (Nat.le_of_ble_eq_true rfl) (by omega) rfl rfl (c_X5_gains hz (by omega) v33 a1 s.1 p43 p29 _ hk46 hp46) ?_
      exact cj_X11_openHeads_49_2 hz hd ht a1 a2 s.1 p46 _ h hK
theorem c_X11_openHeads {G : rt_G} {d : Nat} {z : Nat × Nat} (hz : 300 ≤ z.1) (hd : 5 ≤ d) (a0 : Int) (a1 : Int) (a2 : Int) (mem0 : rt_M) (t : rt_M) (ht : rt_kd a0.toNat = 20 + 11) (h : f_X11_openHeads a0 a1 a2 mem0 = some t) : RM G M_X11_openHeads d [(2, a0), (0, a1), (0, a2)] z mem0 none t := by
  suffices H : ∀ Q : rt_P, Q none z t → RT G M_X11_openHeads d z Q 0 [(2, a0), (0, a1), (0, a2), (9, 0)] [] z mem0 from H _ ⟨rfl, rfl, rfl⟩
  intro Q hK
  unfold f_X11_openHeads at h
  refine RT.iconst (pc := 0) (n := 0) dX11_openHeads_0 ⟨by decide, by decide⟩ ?_
  refine RT.istore_n (pc := 1) (k := 3) (x := 0) (L1 := [(2, a0), (0, a1), (0, a2), (0, 0)]) dX11_openHeads_1 (Nat.le_of_ble_eq_true rfl) rfl ?_
  obtain ⟨X2, hX2, h⟩ := Option.bind_eq_some_iff.mp h
  refine rt_it_ind (P := (fun s1 : Int × rt_M => RT G M_X11_openHeads d z Q 2 [(2, a0), (0, a1), (0, a2), (0, s1.1)] [] z s1.2)) (X := (fun x1 : rt_M => RT G M_X11_openHeads d z Q 55 [(9, 0), (9, 0), (9, 0), (9, 0)] [] z x1)) (fun s1 t1 h1 k1 k2 => cb_X11_openHeads_2 hz hd ht a1 a2 s1 t1 h1 ⟨k1, k2⟩) 4000 ((0, mem0)) X2 hX2 ?_
  obtain rfl := Option.some.inj h
  exact RT.vret (pc := 55) dX11_openHeads_55 rfl (Nat.le_of_eq (rt_cells_0 z)) (Nat.le_of_eq (rt_slots_0 z)) hK
