theorem cj_X12_canPut_53 {G : rt_G} {d : Nat} {z : Nat × Nat} {Q : rt_P} (hz : 300 ≤ z.1) (hd : 6 ≤ d) {a0 : Int} (ht : rt_kd a0.toNat = 20 + 12) (s0 : Int) (mem0 : rt_M) (t : Int × rt_M) (h : j_X12_canPut_53 s0 mem0 = some t) (hK : Q (some (0, t.1)) z t.2) : RT G M_X12_canPut d z Q 53 [(9, 0), (9, 0), (9, 0)] [(0, s0)] z mem0 := by
  unfold j_X12_canPut_53 at h
  obtain ⟨w53, hw53, h⟩ := Option.bind_eq_some_iff.mp h
  obtain rfl := Option.some.inj h
  exact RT.zret (pc := 53) dX12_canPut_53 rfl (rt_bz_ok hw53) (Nat.le_of_eq (rt_cells_0 z)) (Nat.le_of_eq (rt_slots_0 z)) hK
theorem cj_X12_canPut_52 {G : rt_G} {d : Nat} {z : Nat × Nat} {Q : rt_P} (hz : 300 ≤ z.1) (hd : 6 ≤ d) {a0 : Int} (ht : rt_kd a0.toNat = 20 + 12) (mem0 : rt_M) (t : Int × rt_M) (h : j_X12_canPut_52 mem0 = some t) (hK : Q (some (0, t.1)) z t.2) : RT G M_X12_canPut d z Q 52 [(9, 0), (9, 0), (9, 0)] [] z mem0 := by
  unfold j_X12_canPut_52 at h
  refine RT.iconst (pc := 52) (n := 0) dX12_canPut_52 ⟨by decide, by decide⟩ ?_
  exact cj_X12_canPut_53 hz hd ht 0 mem0 _ h hK
theorem c_X12_canPut {G : rt_G} {d : Nat} {z : Nat × Nat} (hz : 300 ≤ z.1) (hd : 6 ≤ d) (a0 : Int) (a1 : Int) (a2 : Int) (mem0 : rt_M) (t : Int × rt_M) (ht : rt_kd a0.toNat = 20 + 12) (h : f_X12_canPut a0 a1 a2 mem0 = some t) : RM G M_X12_canPut d [(2, a0), (0, a1), (0, a2)] z mem0 (some (0, t.1)) t.2 := by
  suffices H : ∀ Q : rt_P, Q (some (0, t.1)) z t.2 → RT G M_X12_canPut d z Q 0 [(2, a0), (0, a1), (0, a2)] [] z mem0 from H _ ⟨rfl, rfl, rfl⟩
  intro Q hK
  unfold f_X12_canPut at h
  refine RT.aload_n (pc := 0) (k := 0) (x := a0) dX12_canPut_0 rfl ?_
  obtain ⟨v1, hv1, h⟩ := Option.bind_eq_some_iff.mp h
  refine RT.gf 12 50 2 (pc := 1) (x := a0) (v := v1) hz dX12_canPut_1 fl_X12_120 rfl hv1 ?_
  refine RT.iconst (pc := 4) (n := 1) dX12_canPut_4 ⟨by decide, by decide⟩ ?_
  refine RT.iload_n (pc := 5) (k := 1) (x := a1) dX12_canPut_5 rfl ?_
  refine RT.iadd (pc := 6) dX12_canPut_6 ?_
  obtain ⟨v7, hv7, h⟩ := Option.bind_eq_some_iff.mp h
  refine RT.iald (pc := 7) (x := v1) (i := (rt_iadd 1 a1)) (v := v7) dX12_canPut_7 (rt_lta hz (by decide) (by decide) hv7) hv7 ?_
  refine RT.if_ge (pc := 8) (tgt := 52) dX12_canPut_8 rfl (fun q8 => ?_) (fun q8 => ?_)
  · rw [if_pos q8] at h
    refine RT.wk (L1 := [(9, 0), (9, 0), (9, 0)]) (rt_le_j (rt_le_j (rt_le_j rt_le_n))) ?_
    exact cj_X12_canPut_52 hz hd ht mem0 _ h hK
  · rw [if_neg q8] at h
    refine RT.aload_n (pc := 11) (k := 0) (x := a0) dX12_canPut_11 rfl ?_
    obtain ⟨v12, hv12, h⟩ := Option.bind_eq_some_iff.mp h
    refine RT.gf 12 50 2 (pc := 12) (x := a0) (v := v12) hz dX12_canPut_12 fl_X12_120 rfl hv12 ?_
    refine RT.bipush (pc := 15) (n := 7) dX12_canPut_15 ⟨by decide, by decide⟩ rfl ?_
    refine RT.iload_n (pc := 17) (k := 1) (x := a1) dX12_canPut_17 rfl ?_
    refine RT.iadd (pc := 18) dX12_canPut_18 ?_
    obtain ⟨v19, hv19, h⟩ := Option.bind_eq_some_iff.mp h
    refine RT.iald (pc := 19) (x := v12) (i := (rt_iadd 7 a1)) (v := v19) dX12_canPut_19 (rt_lta hz (by decide) (by decide) hv19) hv19 ?_
    refine RT.bipush (pc := 20) (n := 9) dX12_canPut_20 ⟨by decide, by decide⟩ rfl ?_
    refine RT.icmp_ge (pc := 22) (tgt := 52) dX12_canPut_22 rfl (fun q22 => ?_) (fun q22 => ?_)
    · rw [if_pos q22] at h
      refine RT.wk (L1 := [(9, 0), (9, 0), (9, 0)]) (rt_le_j (rt_le_j (rt_le_j rt_le_n))) ?_
      exact cj_X12_canPut_52 hz hd ht mem0 _ h hK
    · rw [if_neg q22] at h
      refine RT.aload_n (pc := 25) (k := 0) (x := a0) dX12_canPut_25 rfl ?_
      refine RT.iload_n (pc := 26) (k := 2) (x := a2) dX12_canPut_26 rfl ?_
      obtain ⟨p27, hp27, h⟩ := Option.bind_eq_some_iff.mp h
      refine RT.cVz (pc := 27) (M' := M_X12_wigOn) (ci := 12) (x := a0) (As := [(0, a2)]) (st := []) (r := some (0, p27)) (mem1 := mem0) (d' := d - 1) hz dX12_canPut_27 mw_X12_wigOn ml_X12_403 mi_X12_wigOn ht rfl rfl (Nat.le_of_ble_eq_true rfl) (Nat.le_of_ble_eq_true rfl) (by omega) rfl rfl (c_X12_wigOn hz (by omega) a0 a2 mem0 _ ht hp27) ?_
      refine RT.if_ge (pc := 30) (tgt := 52) dX12_canPut_30 rfl (fun q30 => ?_) (fun q30 => ?_)
      · rw [if_pos q30] at h
        refine RT.wk (L1 := [(9, 0), (9, 0), (9, 0)]) (rt_le_j (rt_le_j (rt_le_j rt_le_n))) ?_
        exact cj_X12_canPut_52 hz hd ht mem0 _ h hK
      · rw [if_neg q30] at h
        refine RT.aload_n (pc := 33) (k := 0) (x := a0) dX12_canPut_33 rfl ?_
        refine RT.iload_n (pc := 34) (k := 1) (x := a1) dX12_canPut_34 rfl ?_
        refine RT.iload_n (pc := 35) (k := 2) (x := a2) dX12_canPut_35 rfl ?_
        refine RT.aload_n (pc := 36) (k := 0) (x := a0) dX12_canPut_36 rfl ?_
        obtain ⟨v37, hv37, h⟩ := Option.bind_eq_some_iff.mp h
        refine RT.gf 12 50 2 (pc := 37) (x := a0) (v := v37) hz dX12_canPut_37 fl_X12_120 rfl hv37 ?_
        refine RT.iconst (pc := 40) (n := 0) dX12_canPut_40 ⟨by decide, by decide⟩ ?_
        obtain ⟨v41, hv41, h⟩ := Option.bind_eq_some_iff.mp h
        refine RT.iald (pc := 41) (x := v37) (i := 0) (v := v41) dX12_canPut_41 (rt_lta hz (by decide) (by decide) hv41) hv41 ?_
        obtain ⟨p42, hp42, h⟩ := Option.bind_eq_some_iff.mp h
        refine RT.cVz (pc := 42) (M' := M_X12_fitsIn) (ci := 12) (x := a0) (As := [(0, a1), (0, a2), (0, v41)]) (st := []) (r := some (0, p42.1)) (mem1 := p42.2) (d' := d - 1) hz dX12_canPut_42 mw_X12_fitsIn ml_X12_406 mi_X12_fitsIn ht rfl rfl (Nat.le_of_ble_eq_true rfl) (Nat.le_of_ble_eq_true rfl) (by omega) rfl rfl (c_X12_fitsIn hz (by omega) a0 a1 a2 v41 mem0 _ ht hp42) ?_
        refine RT.if_eq (pc := 45) (tgt := 52) dX12_canPut_45 rfl (fun q45 => ?_) (fun q45 => ?_)
        · rw [if_pos q45] at h
          refine RT.wk (L1 := [(9, 0), (9, 0), (9, 0)]) (rt_le_j (rt_le_j (rt_le_j rt_le_n))) ?_
          exact cj_X12_canPut_52 hz hd ht p42.2 _ h hK
        · rw [if_neg q45] at h
          refine RT.iconst (pc := 48) (n := 1) dX12_canPut_48 ⟨by decide, by decide⟩ ?_
          refine RT.goto (pc := 49) (tgt := 53) dX12_canPut_49 rfl ?_
          refine RT.wk (L1 := [(9, 0), (9, 0), (9, 0)]) (rt_le_j (rt_le_j (rt_le_j rt_le_n))) ?_
          exact cj_X12_canPut_53 hz hd ht 1 p42.2 _ h hK
theorem cj_X12_passes_48_2 {G : rt_G} {d : Nat} {z : Nat × Nat} {Q : rt_P} (hz : 300 ≤ z.1) (hd : 6 ≤ d) {a0 : Int} (ht : rt_kd a0.toNat = 20 + 12) (a1 : Int) (mem0 : rt_M) (t : (Int × rt_M) ⊕ (rt_M)) (h : j_X12_passes_48_2 a0 a1 mem0 = some t) (hK : (∀ s1 : Int × rt_M, t = .inl s1 → RT G M_X12_passes d z Q 2 [(2, a0), (0, s1.1), (9, 0)] [] z s1.2) ∧ (∀ x1 : rt_M, t = .inr x1 → RT G M_X12_passes d z Q 54 [(2, a0), (9, 0), (9, 0)] [] z x1)) : RT G M_X12_passes d z Q 48 [(2, a0), (0, a1), (9, 0)] [] z mem0 := by
  unfold j_X12_passes_48_2 at h
  refine RT.iinc (pc := 48) (x := a1) (L1 := [(2, a0), (0, (rt_iadd a1 1)), (9, 0)]) dX12_passes_48 rfl (Nat.le_of_ble_eq_true rfl) ⟨by decide, by decide⟩ rfl ?_
  refine RT.goto (pc := 51) (tgt := 2) dX12_passes_51 rfl ?_
  obtain rfl := Option.some.inj h
  have q1 := hK.1 (((rt_iadd a1 1), mem0)) rfl
  try dsimp only at q1
  exact q1
theorem cb_X12_passes_2 {G : rt_G} {d : Nat} {z : Nat × Nat} {Q : rt_P} (hz : 300 ≤ z.1) (hd : 6 ≤ d) {a0 : Int} (ht : rt_kd a0.toNat = 20 + 12) (s : Int × rt_M) (t : (Int × rt_M) ⊕ (rt_M)) (h : b_X12_passes_2 a0 s = some t) (hK : (∀ s1 : Int × rt_M, t = .inl s1 → RT G M_X12_passes d z Q 2 [(2, a0), (0, s1.1), (9, 0)] [] z s1.2) ∧ (∀ x1 : rt_M, t = .inr x1 → RT G M_X12_passes d z Q 54 [(2, a0), (9, 0), (9, 0)] [] z x1)) : RT G M_X12_passes d z Q 2 [(2, a0), (0, s.1), (9, 0)] [] z s.2 := by
  unfold b_X12_passes_2 at h
  refine RT.iload_n (pc := 2) (k := 1) (x := s.1) dX12_passes_2 rfl ?_
  refine RT.aload_n (pc := 3) (k := 0) (x := a0) dX12_passes_3 rfl ?_
  obtain ⟨v4, hv4, h⟩ := Option.bind_eq_some_iff.mp h
  refine RT.gf 12 10 2 (pc := 4) (x := a0) (v := v4) hz dX12_passes_4 fl_X12_13 rfl hv4 ?_
  refine RT.iconst (pc := 7) (n := 0) dX12_passes_7 ⟨by decide, by decide⟩ ?_
  obtain ⟨v8, hv8, h⟩ := Option.bind_eq_some_iff.mp h
  refine RT.iald (pc := 8) (x := v4) (i := 0) (v := v8) dX12_passes_8 (rt_lta hz (by decide) (by decide) hv8) hv8 ?_
  refine RT.icmp_ge (pc := 9) (tgt := 54) dX12_passes_9 rfl (fun q9 => ?_) (fun q9 => ?_)
  · rw [if_pos q9] at h
    refine RT.wk (L1 := [(2, a0), (9, 0), (9, 0)]) (rt_le_s (rt_le_j (rt_le_s rt_le_n))) ?_
    obtain rfl := Option.some.inj h
    have q1 := hK.2 s.2 rfl
    try dsimp only at q1
    exact q1
  · rw [if_neg q9] at h
    refine RT.aload_n (pc := 12) (k := 0) (x := a0) dX12_passes_12 rfl ?_
    obtain ⟨v13, hv13, h⟩ := Option.bind_eq_some_iff.mp h
    refine RT.gf 12 50 2 (pc := 13) (x := a0) (v := v13) hz dX12_passes_13 fl_X12_120 rfl hv13 ?_
    refine RT.iconst (pc := 16) (n := 1) dX12_passes_16 ⟨by decide, by decide⟩ ?_
    refine RT.iload_n (pc := 17) (k := 1) (x := s.1) dX12_passes_17 rfl ?_
    refine RT.iadd (pc := 18) dX12_passes_18 ?_
    obtain ⟨v19, hv19, h⟩ := Option.bind_eq_some_iff.mp h
    refine RT.iald (pc := 19) (x := v13) (i := (rt_iadd 1 s.1)) (v := v19) dX12_passes_19 (rt_lta hz (by decide) (by decide) hv19) hv19 ?_
    refine RT.if_ge (pc := 20) (tgt := 48) dX12_passes_20 rfl (fun q20 => ?_) (fun q20 => ?_)
    · rw [if_pos q20] at h
      exact cj_X12_passes_48_2 hz hd ht s.1 s.2 _ h hK
    · rw [if_neg q20] at h
      refine RT.aload_n (pc := 23) (k := 0) (x := a0) dX12_passes_23 rfl ?_
      obtain ⟨v24, hv24, h⟩ := Option.bind_eq_some_iff.mp h
      refine RT.gf 12 50 2 (pc := 24) (x := a0) (v := v24) hz dX12_passes_24 fl_X12_120 rfl hv24 ?_
      refine RT.bipush (pc := 27) (n := 7) dX12_passes_27 ⟨by decide, by decide⟩ rfl ?_
      refine RT.iload_n (pc := 29) (k := 1) (x := s.1) dX12_passes_29 rfl ?_
      refine RT.iadd (pc := 30) dX12_passes_30 ?_
      refine RT.bipush (pc := 31) (n := 9) dX12_passes_31 ⟨by decide, by decide⟩ rfl ?_
      refine RT.aload_n (pc := 33) (k := 0) (x := a0) dX12_passes_33 rfl ?_
      obtain ⟨v34, hv34, h⟩ := Option.bind_eq_some_iff.mp h
      refine RT.gf 12 50 2 (pc := 34) (x := a0) (v := v34) hz dX12_passes_34 fl_X12_120 rfl hv34 ?_
      refine RT.bipush (pc := 37) (n := 7) dX12_passes_37 ⟨by decide, by decide⟩ rfl ?_
      refine RT.iload_n (pc := 39) (k := 1) (x := s.1) dX12_passes_39 rfl ?_
      refine RT.iadd (pc := 40) dX12_passes_40 ?_
      obtain ⟨v41, hv41, h⟩ := Option.bind_eq_some_iff.mp h
      refine RT.iald (pc := 41) (x := v34) (i := (rt_iadd 7 s.1)) (v := v41) dX12_passes_41 (rt_lta hz (by decide) (by decide) hv41) hv41 ?_
      refine RT.iconst (pc := 42) (n := 1) dX12_passes_42 ⟨by decide, by decide⟩ ?_
      refine RT.iadd (pc := 43) dX12_passes_43 ?_
      obtain ⟨p44, hp44, h⟩ := Option.bind_eq_some_iff.mp h
      refine RT.cSz (pc := 44) (M' := M_J9_min_7cf53) (As := [(0, 9), (0, (rt_iadd v41 1))]) (st := [(0, (rt_iadd 7 s.1)), (2, v24)]) (r := some (0, p44)) (mem1 := s.2) (d' := d - 1) dX12_passes_44 mw_J9_min_7cf53 ml_X12_409 mi_J9_min_7cf53 rfl rfl (Nat.le_of_ble_eq_true rfl) (Nat.le_of_ble_eq_true rfl) (by omega) rfl rfl (c_J9_min_7cf53 hz (by omega) 9 ((rt_iadd v41 1)) s.2 _ hp44) ?_
      obtain ⟨m47, hm47, h⟩ := Option.bind_eq_some_iff.mp h
      refine RT.iast (pc := 47) (x := v24) (i := (rt_iadd 7 s.1)) (v := p44) (mem1 := m47) dX12_passes_47 (rt_lts hz (by decide) (by decide) hm47) hm47 ?_
      exact cj_X12_passes_48_2 hz hd ht s.1 m47 _ h hK
theorem cj_X12_passes_126_68 {G : rt_G} {d : Nat} {z : Nat × Nat} {Q : rt_P} (hz : 300 ≤ z.1) (hd : 6 ≤ d) {a0 : Int} (ht : rt_kd a0.toNat = 20 + 12) (a1 : Int) (a2 : Int) (mem0 : rt_M) (t : (Int × Int × rt_M) ⊕ (Int × rt_M)) (h : j_X12_passes_126_68 a0 a1 a2 mem0 = some t) (hK : (∀ s1 : Int × Int × rt_M, t = .inl s1 → RT G M_X12_passes d z Q 68 [(2, a0), (0, s1.1), (0, s1.2.1)] [] z s1.2.2) ∧ (∀ x1 : Int × rt_M, t = .inr x1 → RT G M_X12_passes d z Q 132 [(9, 0), (0, x1.1), (9, 0)] [] z x1.2)) : RT G M_X12_passes d z Q 126 [(2, a0), (0, a1), (0, a2)] [] z mem0 := by
  unfold j_X12_passes_126_68 at h
  refine RT.iinc (pc := 126) (x := a2) (L1 := [(2, a0), (0, a1), (0, (rt_iadd a2 1))]) dX12_passes_126 rfl (Nat.le_of_ble_eq_true rfl) ⟨by decide, by decide⟩ rfl ?_
  refine RT.goto (pc := 129) (tgt := 68) dX12_passes_129 rfl ?_
  obtain rfl := Option.some.inj h
  have q1 := hK.1 ((a1, (rt_iadd a2 1), mem0)) rfl
  try dsimp only at q1
  exact q1
theorem cb_X12_passes_68 {G : rt_G} {d : Nat} {z : Nat × Nat} {Q : rt_P} (hz : 300 ≤ z.1) (hd : 6 ≤ d) {a0 : Int} (ht : rt_kd a0.toNat = 20 + 12) (s : Int × Int × rt_M) (t : (Int × Int × rt_M) ⊕ (Int × rt_M)) (h : b_X12_passes_68 a0 s = some t) (hK : (∀ s1 : Int × Int × rt_M, t = .inl s1 → RT G M_X12_passes d z Q 68 [(2, a0), (0, s1.1), (0, s1.2.1)] [] z s1.2.2) ∧ (∀ x1 : Int × rt_M, t = .inr x1 → RT G M_X12_passes d z Q 132 [(9, 0), (0, x1.1), (9, 0)] [] z x1.2)) : RT G M_X12_passes d z Q 68 [(2, a0), (0, s.1), (0, s.2.1)] [] z s.2.2 := by
  unfold b_X12_passes_68 at h
  refine RT.iload_n (pc := 68) (k := 2) (x := s.2.1) dX12_passes_68 rfl ?_
  refine RT.aload_n (pc := 69) (k := 0) (x := a0) dX12_passes_69 rfl ?_
  obtain ⟨v70, hv70, h⟩ := Option.bind_eq_some_iff.mp h
  refine RT.gf 12 10 2 (pc := 70) (x := a0) (v := v70) hz dX12_passes_70 fl_X12_13 rfl hv70 ?_
  refine RT.iconst (pc := 73) (n := 0) dX12_passes_73 ⟨by decide, by decide⟩ ?_
  obtain ⟨v74, hv74, h⟩ := Option.bind_eq_some_iff.mp h
  refine RT.iald (pc := 74) (x := v70) (i := 0) (v := v74) dX12_passes_74 (rt_lta hz (by decide) (by decide) hv74) hv74 ?_
  refine RT.icmp_ge (pc := 75) (tgt := 132) dX12_passes_75 rfl (fun q75 => ?_) (fun q75 => ?_)
  · rw [if_pos q75] at h
    refine RT.wk (L1 := [(9, 0), (0, s.1), (9, 0)]) (rt_le_j (rt_le_s (rt_le_j rt_le_n))) ?_
    obtain rfl := Option.some.inj h
    have q1 := hK.2 ((s.1, s.2.2)) rfl
    try dsimp only at q1
    exact q1
  · rw [if_neg q75] at h
    refine RT.aload_n (pc := 78) (k := 0) (x := a0) dX12_passes_78 rfl ?_
    obtain ⟨v79, hv79, h⟩ := Option.bind_eq_some_iff.mp h
    refine RT.gf 12 50 2 (pc := 79) (x := a0) (v := v79) hz dX12_passes_79 fl_X12_120 rfl hv79 ?_
    refine RT.iconst (pc := 82) (n := 1) dX12_passes_82 ⟨by decide, by decide⟩ ?_
    refine RT.iload_n (pc := 83) (k := 2) (x := s.2.1) dX12_passes_83 rfl ?_
    refine RT.iadd (pc := 84) dX12_passes_84 ?_
    obtain ⟨v85, hv85, h⟩ := Option.bind_eq_some_iff.mp h
    refine RT.iald (pc := 85) (x := v79) (i := (rt_iadd 1 s.2.1)) (v := v85) dX12_passes_85 (rt_lta hz (by decide) (by decide) hv85) hv85 ?_
    refine RT.if_lt (pc := 86) (tgt := 126) dX12_passes_86 rfl (fun q86 => ?_) (fun q86 => ?_)
    · rw [if_pos q86] at h
      exact cj_X12_passes_126_68 hz hd ht s.1 s.2.1 s.2.2 _ h hK
    · rw [if_neg q86] at h
      refine RT.aload_n (pc := 89) (k := 0) (x := a0) dX12_passes_89 rfl ?_
      refine RT.iload_n (pc := 90) (k := 2) (x := s.2.1) dX12_passes_90 rfl ?_
      refine RT.aload_n (pc := 91) (k := 0) (x := a0) dX12_passes_91 rfl ?_
      obtain ⟨v92, hv92, h⟩ := Option.bind_eq_some_iff.mp h
      refine RT.gf 12 50 2 (pc := 92) (x := a0) (v := v92) hz dX12_passes_92 fl_X12_120 rfl hv92 ?_
      refine RT.iconst (pc := 95) (n := 1) dX12_passes_95 ⟨by decide, by decide⟩ ?_
      refine RT.iload_n (pc := 96) (k := 2) (x := s.2.1) dX12_passes_96 rfl ?_
      refine RT.iadd (pc := 97) dX12_passes_97 ?_
      obtain ⟨v98, hv98, h⟩ := Option.bind_eq_some_iff.mp h
      refine RT.iald (pc := 98) (x := v92) (i := (rt_iadd 1 s.2.1)) (v := v98) dX12_passes_98 (rt_lta hz (by decide) (by decide) hv98) hv98 ?_
      refine RT.aload_n (pc := 99) (k := 0) (x := a0) dX12_passes_99 rfl ?_
      obtain ⟨v100, hv100, h⟩ := Option.bind_eq_some_iff.mp h
      refine RT.gf 12 50 2 (pc := 100) (x := a0) (v := v100) hz dX12_passes_100 fl_X12_120 rfl hv100 ?_
      refine RT.iconst (pc := 103) (n := 0) dX12_passes_103 ⟨by decide, by decide⟩ ?_
      obtain ⟨v104, hv104, h⟩ := Option.bind_eq_some_iff.mp h
      refine RT.iald (pc := 104) (x := v100) (i := 0) (v := v104) dX12_passes_104 (rt_lta hz (by decide) (by decide) hv104) hv104 ?_
      obtain ⟨p105, hp105, h⟩ := Option.bind_eq_some_iff.mp h
      refine RT.cVz (pc := 105) (M' := M_X12_fitsIn) (ci := 12) (x := a0) (As := [(0, s.2.1), (0, v98), (0, v104)]) (st := []) (r := some (0, p105.1)) (mem1 := p105.2) (d' := d - 1) hz dX12_passes_105 mw_X12_fitsIn ml_X12_406 mi_X12_fitsIn ht rfl rfl (Nat.le_of_ble_eq_true rfl) (Nat.le_of_ble_eq_true rfl) (by omega) rfl rfl (c_X12_fitsIn hz (by omega) a0 s.2.1 v98 v104 s.2.2 _ ht hp105) ?_
      refine RT.if_eq (pc := 108) (tgt := 114) dX12_passes_108 rfl (fun q108 => ?_) (fun q108 => ?_)
      · rw [if_pos q108] at h
        refine RT.aload_n (pc := 114) (k := 0) (x := a0) dX12_passes_114 rfl ?_
        obtain ⟨v115, hv115, h⟩ := Option.bind_eq_some_iff.mp h
        refine RT.gf 12 50 2 (pc := 115) (x := a0) (v := v115) hz dX12_passes_115 fl_X12_120 rfl hv115 ?_
        refine RT.iconst (pc := 118) (n := 1) dX12_passes_118 ⟨by decide, by decide⟩ ?_
        refine RT.iload_n (pc := 119) (k := 2) (x := s.2.1) dX12_passes_119 rfl ?_
        refine RT.iadd (pc := 120) dX12_passes_120 ?_
        refine RT.iconst (pc := 121) (n := (-1)) dX12_passes_121 ⟨by decide, by decide⟩ ?_
        obtain ⟨m122, hm122, h⟩ := Option.bind_eq_some_iff.mp h
        refine RT.iast (pc := 122) (x := v115) (i := (rt_iadd 1 s.2.1)) (v := (-1)) (mem1 := m122) dX12_passes_122 (rt_lts hz (by decide) (by decide) hm122) hm122 ?_
        refine RT.iinc (pc := 123) (x := s.1) (L1 := [(2, a0), (0, (rt_iadd s.1 1)), (0, s.2.1)]) dX12_passes_123 rfl (Nat.le_of_ble_eq_true rfl) ⟨by decide, by decide⟩ rfl ?_
        exact cj_X12_passes_126_68 hz hd ht ((rt_iadd s.1 1)) s.2.1 m122 _ h hK
      · rw [if_neg q108] at h
        refine RT.goto (pc := 111) (tgt := 126) dX12_passes_111 rfl ?_
        exact cj_X12_passes_126_68 hz hd ht s.1 s.2.1 p105.2 _ h hK
theorem c_X12_passes {G : rt_G} {d : Nat} {z : Nat × Nat} (hz : 300 ≤ z.1) (hd : 6 ≤ d) (a0 : Int) (mem0 : rt_M) (t : Int × rt_M) (ht : rt_kd a0.toNat = 20 + 12) (h : f_X12_passes a0 mem0 = some t) : RM G M_X12_passes d [(2, a0)] z mem0 (some (0, t.1)) t.2 := by
  suffices H : ∀ Q : rt_P, Q (some (0, t.1)) z t.2 → RT G M_X12_passes d z Q 0 [(2, a0), (9, 0), (9, 0)] [] z mem0 from H _ ⟨rfl, rfl, rfl⟩
  intro Q hK
  unfold f_X12_passes at h
  refine RT.iconst (pc := 0) (n := 0) dX12_passes_0 ⟨by decide, by decide⟩ ?_
  refine RT.istore_n (pc := 1) (k := 1) (x := 0) (L1 := [(2, a0), (0, 0), (9, 0)]) dX12_passes_1 (Nat.le_of_ble_eq_true rfl) rfl ?_
  obtain ⟨X2, hX2, h⟩ := Option.bind_eq_some_iff.mp h
  refine rt_it_ind (P := (fun s1 : Int × rt_M => RT G M_X12_passes d z Q 2 [(2, a0), (0, s1.1), (9, 0)] [] z s1.2)) (X := (fun x1 : rt_M => RT G M_X12_passes d z Q 54 [(2, a0), (9, 0), (9, 0)] [] z x1)) (fun s1 t1 h1 k1 k2 => cb_X12_passes_2 hz hd ht s1 t1 h1 ⟨k1, k2⟩) 4000 ((0, mem0)) X2 hX2 ?_
  refine RT.aload_n (pc := 54) (k := 0) (x := a0) dX12_passes_54 rfl ?_
  obtain ⟨v55, hv55, h⟩ := Option.bind_eq_some_iff.mp h
  refine RT.gf 12 50 2 (pc := 55) (x := a0) (v := v55) hz dX12_passes_55 fl_X12_120 rfl hv55 ?_
  refine RT.iconst (pc := 58) (n := 0) dX12_passes_58 ⟨by decide, by decide⟩ ?_
  refine RT.dup2 (pc := 59) dX12_passes_59 (show ¬ ((0 : Nat) = 1) by decide) (show ¬ ((2 : Nat) = 1) by decide) ?_
  obtain ⟨v60, hv60, h⟩ := Option.bind_eq_some_iff.mp h
  refine RT.iald (pc := 60) (x := v55) (i := 0) (v := v60) dX12_passes_60 (rt_lta hz (by decide) (by decide) hv60) hv60 ?_
  refine RT.iconst (pc := 61) (n := 1) dX12_passes_61 ⟨by decide, by decide⟩ ?_
  refine RT.iadd (pc := 62) dX12_passes_62 ?_
  obtain ⟨m63, hm63, h⟩ := Option.bind_eq_some_iff.mp h
  refine RT.iast (pc := 63) (x := v55) (i := 0) (v := (rt_iadd v60 1)) (mem1 := m63) dX12_passes_63 (rt_lts hz (by decide) (by decide) hm63) hm63 ?_
  refine RT.iconst (pc := 64) (n := 0) dX12_passes_64 ⟨by decide, by decide⟩ ?_
  refine RT.istore_n (pc := 65) (k := 1) (x := 0) (L1 := [(2, a0), (0, 0), (9, 0)]) dX12_passes_65 (Nat.le_of_ble_eq_true rfl) rfl ?_
  refine RT.iconst (pc := 66) (n := 0) dX12_passes_66 ⟨by decide, by decide⟩ ?_
  refine RT.istore_n (pc := 67) (k := 2) (x := 0) (L1 := [(2, a0), (0, 0), (0, 0)]) dX12_passes_67 (Nat.le_of_ble_eq_true rfl) rfl ?_
  obtain ⟨X68, hX68, h⟩ := Option.bind_eq_some_iff.mp h
  refine rt_it_ind (P := (fun s1 : Int × Int × rt_M => RT G M_X12_passes d z Q 68 [(2, a0), (0, s1.1), (0, s1.2.1)] [] z s1.2.2)) (X := (fun x1 : Int × rt_M => RT G M_X12_passes d z Q 132 [(9, 0), (0, x1.1), (9, 0)] [] z x1.2)) (fun s1 t1 h1 k1 k2 => cb_X12_passes_68 hz hd ht s1 t1 h1 ⟨k1, k2⟩) 4000 ((0, 0, m63)) X68 hX68 ?_
  refine RT.iload_n (pc := 132) (k := 1) (x := X68.1) dX12_passes_132 rfl ?_
  obtain rfl := Option.some.inj h
  exact RT.iret (pc := 133) dX12_passes_133 rfl (Nat.le_of_eq (rt_cells_0 z)) (Nat.le_of_eq (rt_slots_0 z)) hK
theorem cj_X12_wig_22 {G : rt_G} {d : Nat} {z : Nat × Nat} {Q : rt_P} (hz : 300 ≤ z.1) (hd : 1 ≤ d) {a0 : Int} (ht : rt_kd a0.toNat = 20 + 12) (mem0 : rt_M) (t : Int × rt_M) (h : j_X12_wig_22 mem0 = some t) (hK : Q (some (0, t.1)) z t.2) : RT G M_X12_wig d z Q 22 [(9, 0), (9, 0), (9, 0)] [] z mem0 := by
  unfold j_X12_wig_22 at h
  refine RT.bipush (pc := 22) (n := (-2)) dX12_wig_22 ⟨by decide, by decide⟩ rfl ?_
  obtain rfl := Option.some.inj h
  exact RT.iret (pc := 24) dX12_wig_24 rfl (Nat.le_of_eq (rt_cells_0 z)) (Nat.le_of_eq (rt_slots_0 z)) hK
theorem cj_X12_wig_89 {G : rt_G} {d : Nat} {z : Nat × Nat} {Q : rt_P} (hz : 300 ≤ z.1) (hd : 1 ≤ d) {a0 : Int} (ht : rt_kd a0.toNat = 20 + 12) (s0 : Int) (mem0 : rt_M) (t : Int × rt_M) (h : j_X12_wig_89 s0 mem0 = some t) (hK : Q (some (0, t.1)) z t.2) : RT G M_X12_wig d z Q 89 [(9, 0), (9, 0), (9, 0)] [(0, s0)] z mem0 := by
  unfold j_X12_wig_89 at h
  obtain rfl := Option.some.inj h
  exact RT.iret (pc := 89) dX12_wig_89 rfl (Nat.le_of_eq (rt_cells_0 z)) (Nat.le_of_eq (rt_slots_0 z)) hK
theorem cj_X12_wig_63 {G : rt_G} {d : Nat} {z : Nat × Nat} {Q : rt_P} (hz : 300 ≤ z.1) (hd : 1 ≤ d) {a0 : Int} (ht : rt_kd a0.toNat = 20 + 12) (s0 : Int) (mem0 : rt_M) (t : Int × rt_M) (h : j_X12_wig_63 s0 mem0 = some t) (hK : Q (some (0, t.1)) z t.2) : RT G M_X12_wig d z Q 63 [(9, 0), (9, 0), (9, 0)] [(0, s0)] z mem0 := by
  unfold j_X12_wig_63 at h
  obtain rfl := Option.some.inj h
  exact RT.iret (pc := 63) dX12_wig_63 rfl (Nat.le_of_eq (rt_cells_0 z)) (Nat.le_of_eq (rt_slots_0 z)) hK
theorem c_X12_wig {G : rt_G} {d : Nat} {z : Nat × Nat} (hz : 300 ≤ z.1) (hd : 1 ≤ d) (a0 : Int) (a1 : Int) (a2 : Int) (mem0 : rt_M) (t : Int × rt_M) (ht : rt_kd a0.toNat = 20 + 12) (h : f_X12_wig a0 a1 a2 mem0 = some t) : RM G M_X12_wig d [(2, a0), (0, a1), (0, a2)] z mem0 (some (0, t.1)) t.2 := by
  suffices H : ∀ Q : rt_P, Q (some (0, t.1)) z t.2 → RT G M_X12_wig d z Q 0 [(2, a0), (0, a1), (0, a2)] [] z mem0 from H _ ⟨rfl, rfl, rfl⟩
  intro Q hK
  unfold f_X12_wig at h
  refine RT.aload_n (pc := 0) (k := 0) (x := a0) dX12_wig_0 rfl ?_
  refine RT.iconst (pc := 1) (n := 0) dX12_wig_1 ⟨by decide, by decide⟩ ?_
  obtain ⟨m2, hm2, h⟩ := Option.bind_eq_some_iff.mp h
  refine RT.pf_i 12 0 (pc := 2) (mem1 := m2) hz dX12_wig_2 fl_X12_171 rfl rfl rfl hm2 ?_
  refine RT.aload_n (pc := 5) (k := 0) (x := a0) dX12_wig_5 rfl ?_
  refine RT.iload_n (pc := 6) (k := 1) (x := a1) dX12_wig_6 rfl ?_
  obtain ⟨p7, hp7, h⟩ := Option.bind_eq_some_iff.mp h
  refine RT.cVz (pc := 7) (M' := M_X12_isWig) (ci := 12) (x := a0) (As := [(0, a1)]) (st := []) (r := some (0, p7)) (mem1 := m2) (d' := d - 1) hz dX12_wig_7 mw_X12_isWig ml_X12_414 mi_X12_isWig ht rfl rfl (Nat.le_of_ble_eq_true rfl) (Nat.le_of_ble_eq_true rfl) (by omega) rfl rfl (c_X12_isWig hz (by omega) a0 a1 m2 _ ht hp7) ?_
  refine RT.if_eq (pc := 10) (tgt := 22) dX12_wig_10 rfl (fun q10 => ?_) (fun q10 => ?_)
  · rw [if_pos q10] at h
    refine RT.wk (L1 := [(9, 0), (9, 0), (9, 0)]) (rt_le_j (rt_le_j (rt_le_j rt_le_n))) ?_
    exact cj_X12_wig_22 hz hd ht m2 _ h hK
  · rw [if_neg q10] at h
    refine RT.iload_n (pc := 13) (k := 2) (x := a2) dX12_wig_13 rfl ?_
    refine RT.iconst (pc := 14) (n := 0) dX12_wig_14 ⟨by decide, by decide⟩ ?_
    refine RT.iconst (pc := 15) (n := 4) dX12_wig_15 ⟨by decide, by decide⟩ ?_
    obtain ⟨p16, hp16, h⟩ := Option.bind_eq_some_iff.mp h
    refine RT.cSz (pc := 16) (M' := M_X12_within) (As := [(0, a2), (0, 0), (0, 4)]) (st := []) (r := some (0, p16)) (mem1 := m2) (d' := d - 1) dX12_wig_16 mw_X12_within ml_X12_301 mi_X12_within rfl rfl (Nat.le_of_ble_eq_true rfl) (Nat.le_of_ble_eq_true rfl) (by omega) rfl rfl (c_X12_within hz (by omega) a2 0 4 m2 _ hp16) ?_
    refine RT.if_ne (pc := 19) (tgt := 25) dX12_wig_19 rfl (fun q19 => ?_) (fun q19 => ?_)
    · rw [if_neg q19] at h
      refine RT.iload_n (pc := 25) (k := 2) (x := a2) dX12_wig_25 rfl ?_
      refine RT.iconst (pc := 26) (n := 3) dX12_wig_26 ⟨by decide, by decide⟩ ?_
      refine RT.icmp_ge (pc := 27) (tgt := 64) dX12_wig_27 rfl (fun q27 => ?_) (fun q27 => ?_)
      · rw [if_pos q27] at h
        refine RT.iload_n (pc := 64) (k := 2) (x := a2) dX12_wig_64 rfl ?_
        refine RT.iconst (pc := 65) (n := 3) dX12_wig_65 ⟨by decide, by decide⟩ ?_
        refine RT.icmp_ne (pc := 66) (tgt := 80) dX12_wig_66 rfl (fun q66 => ?_) (fun q66 => ?_)
        · rw [if_neg q66] at h
          refine RT.aload_n (pc := 80) (k := 0) (x := a0) dX12_wig_80 rfl ?_
          obtain ⟨v81, hv81, h⟩ := Option.bind_eq_some_iff.mp h
          refine RT.gf 12 50 2 (pc := 81) (x := a0) (v := v81) hz dX12_wig_81 fl_X12_120 rfl hv81 ?_
          refine RT.bipush (pc := 84) (n := 7) dX12_wig_84 ⟨by decide, by decide⟩ rfl ?_
          refine RT.iload_n (pc := 86) (k := 1) (x := a1) dX12_wig_86 rfl ?_
          refine RT.iadd (pc := 87) dX12_wig_87 ?_
          obtain ⟨v88, hv88, h⟩ := Option.bind_eq_some_iff.mp h
          refine RT.iald (pc := 88) (x := v81) (i := (rt_iadd 7 a1)) (v := v88) dX12_wig_88 (rt_lta hz (by decide) (by decide) hv88) hv88 ?_
          refine RT.wk (L1 := [(9, 0), (9, 0), (9, 0)]) (rt_le_j (rt_le_j (rt_le_j rt_le_n))) ?_
          exact cj_X12_wig_89 hz hd ht v88 m2 _ h hK
        · rw [if_pos (Classical.not_not.mp q66)] at h
          refine RT.aload_n (pc := 69) (k := 0) (x := a0) dX12_wig_69 rfl ?_
          obtain ⟨v70, hv70, h⟩ := Option.bind_eq_some_iff.mp h
          refine RT.gf 12 50 2 (pc := 70) (x := a0) (v := v70) hz dX12_wig_70 fl_X12_120 rfl hv70 ?_
          refine RT.iconst (pc := 73) (n := 1) dX12_wig_73 ⟨by decide, by decide⟩ ?_
          refine RT.iload_n (pc := 74) (k := 1) (x := a1) dX12_wig_74 rfl ?_
          refine RT.iadd (pc := 75) dX12_wig_75 ?_
          obtain ⟨v76, hv76, h⟩ := Option.bind_eq_some_iff.mp h
          refine RT.iald (pc := 76) (x := v70) (i := (rt_iadd 1 a1)) (v := v76) dX12_wig_76 (rt_lta hz (by decide) (by decide) hv76) hv76 ?_
          refine RT.goto (pc := 77) (tgt := 89) dX12_wig_77 rfl ?_
          refine RT.wk (L1 := [(9, 0), (9, 0), (9, 0)]) (rt_le_j (rt_le_j (rt_le_j rt_le_n))) ?_
          exact cj_X12_wig_89 hz hd ht v76 m2 _ h hK
      · rw [if_neg q27] at h
        refine RT.iload_n (pc := 30) (k := 2) (x := a2) dX12_wig_30 rfl ?_
        refine RT.if_ne (pc := 31) (tgt := 43) dX12_wig_31 rfl (fun q31 => ?_) (fun q31 => ?_)
        · rw [if_neg q31] at h
          refine RT.iload_n (pc := 43) (k := 2) (x := a2) dX12_wig_43 rfl ?_
          refine RT.iconst (pc := 44) (n := 1) dX12_wig_44 ⟨by decide, by decide⟩ ?_
          refine RT.icmp_ne (pc := 45) (tgt := 57) dX12_wig_45 rfl (fun q45 => ?_) (fun q45 => ?_)
          · rw [if_neg q45] at h
            refine RT.aload_n (pc := 57) (k := 0) (x := a0) dX12_wig_57 rfl ?_
            obtain ⟨v58, hv58, h⟩ := Option.bind_eq_some_iff.mp h
            refine RT.gf 12 15 2 (pc := 58) (x := a0) (v := v58) hz dX12_wig_58 fl_X12_29 rfl hv58 ?_
            refine RT.iload_n (pc := 61) (k := 1) (x := a1) dX12_wig_61 rfl ?_
            obtain ⟨v62, hv62, h⟩ := Option.bind_eq_some_iff.mp h
            refine RT.iald (pc := 62) (x := v58) (i := a1) (v := v62) dX12_wig_62 (rt_lta hz (by decide) (by decide) hv62) hv62 ?_
            refine RT.wk (L1 := [(9, 0), (9, 0), (9, 0)]) (rt_le_j (rt_le_j (rt_le_j rt_le_n))) ?_
            exact cj_X12_wig_63 hz hd ht v62 m2 _ h hK
          · rw [if_pos (Classical.not_not.mp q45)] at h
            refine RT.aload_n (pc := 48) (k := 0) (x := a0) dX12_wig_48 rfl ?_
            obtain ⟨v49, hv49, h⟩ := Option.bind_eq_some_iff.mp h
            refine RT.gf 12 14 2 (pc := 49) (x := a0) (v := v49) hz dX12_wig_49 fl_X12_26 rfl hv49 ?_
            refine RT.iload_n (pc := 52) (k := 1) (x := a1) dX12_wig_52 rfl ?_
            obtain ⟨v53, hv53, h⟩ := Option.bind_eq_some_iff.mp h
            refine RT.iald (pc := 53) (x := v49) (i := a1) (v := v53) dX12_wig_53 (rt_lta hz (by decide) (by decide) hv53) hv53 ?_
            refine RT.goto (pc := 54) (tgt := 63) dX12_wig_54 rfl ?_
            refine RT.wk (L1 := [(9, 0), (9, 0), (9, 0)]) (rt_le_j (rt_le_j (rt_le_j rt_le_n))) ?_
            exact cj_X12_wig_63 hz hd ht v53 m2 _ h hK
        · rw [if_pos (Classical.not_not.mp q31)] at h
          refine RT.aload_n (pc := 34) (k := 0) (x := a0) dX12_wig_34 rfl ?_
          obtain ⟨v35, hv35, h⟩ := Option.bind_eq_some_iff.mp h
          refine RT.gf 12 13 2 (pc := 35) (x := a0) (v := v35) hz dX12_wig_35 fl_X12_23 rfl hv35 ?_
          refine RT.iload_n (pc := 38) (k := 1) (x := a1) dX12_wig_38 rfl ?_
          obtain ⟨v39, hv39, h⟩ := Option.bind_eq_some_iff.mp h
          refine RT.iald (pc := 39) (x := v35) (i := a1) (v := v39) dX12_wig_39 (rt_lta hz (by decide) (by decide) hv39) hv39 ?_
          refine RT.goto (pc := 40) (tgt := 63) dX12_wig_40 rfl ?_
          refine RT.wk (L1 := [(9, 0), (9, 0), (9, 0)]) (rt_le_j (rt_le_j (rt_le_j rt_le_n))) ?_
          exact cj_X12_wig_63 hz hd ht v39 m2 _ h hK
    · rw [if_pos (Classical.not_not.mp q19)] at h
      refine RT.wk (L1 := [(9, 0), (9, 0), (9, 0)]) (rt_le_j (rt_le_j (rt_le_j rt_le_n))) ?_
      exact cj_X12_wig_22 hz hd ht m2 _ h hK
theorem cj_X12_head_22 {G : rt_G} {d : Nat} {z : Nat × Nat} {Q : rt_P} (hz : 300 ≤ z.1) (hd : 4 ≤ d) {a0 : Int} (ht : rt_kd a0.toNat = 20 + 12) (mem0 : rt_M) (t : Int × rt_M) (h : j_X12_head_22 mem0 = some t) (hK : Q (some (0, t.1)) z t.2) : RT G M_X12_head d z Q 22 [(9, 0), (9, 0), (9, 0)] [] z mem0 := by
  unfold j_X12_head_22 at h
  refine RT.bipush (pc := 22) (n := (-2)) dX12_head_22 ⟨by decide, by decide⟩ rfl ?_
  obtain rfl := Option.some.inj h
  exact RT.iret (pc := 24) dX12_head_24 rfl (Nat.le_of_eq (rt_cells_0 z)) (Nat.le_of_eq (rt_slots_0 z)) hK
theorem cj_X12_head_100 {G : rt_G} {d : Nat} {z : Nat × Nat} {Q : rt_P} (hz : 300 ≤ z.1) (hd : 4 ≤ d) {a0 : Int} (ht : rt_kd a0.toNat = 20 + 12) (s0 : Int) (mem0 : rt_M) (t : Int × rt_M) (h : j_X12_head_100 s0 mem0 = some t) (hK : Q (some (0, t.1)) z t.2) : RT G M_X12_head d z Q 100 [(9, 0), (9, 0), (9, 0)] [(0, s0)] z mem0 := by
  unfold j_X12_head_100 at h
  obtain rfl := Option.some.inj h
  exact RT.iret (pc := 100) dX12_head_100 rfl (Nat.le_of_eq (rt_cells_0 z)) (Nat.le_of_eq (rt_slots_0 z)) hK
theorem cj_X12_head_75 {G : rt_G} {d : Nat} {z : Nat × Nat} {Q : rt_P} (hz : 300 ≤ z.1) (hd : 4 ≤ d) {a0 : Int} (ht : rt_kd a0.toNat = 20 + 12) (s0 : Int) (mem0 : rt_M) (t : Int × rt_M) (h : j_X12_head_75 s0 mem0 = some t) (hK : Q (some (0, t.1)) z t.2) : RT G M_X12_head d z Q 75 [(9, 0), (9, 0), (9, 0)] [(0, s0)] z mem0 := by
  unfold j_X12_head_75 at h
  obtain rfl := Option.some.inj h
  exact RT.iret (pc := 75) dX12_head_75 rfl (Nat.le_of_eq (rt_cells_0 z)) (Nat.le_of_eq (rt_slots_0 z)) hK
theorem cj_X12_head_49 {G : rt_G} {d : Nat} {z : Nat × Nat} {Q : rt_P} (hz : 300 ≤ z.1) (hd : 4 ≤ d) {a0 : Int} (ht : rt_kd a0.toNat = 20 + 12) (s0 : Int) (mem0 : rt_M) (t : Int × rt_M) (h : j_X12_head_49 s0 mem0 = some t) (hK : Q (some (0, t.1)) z t.2) : RT G M_X12_head d z Q 49 [(9, 0), (9, 0), (9, 0)] [(0, s0)] z mem0 := by
  unfold j_X12_head_49 at h
  obtain rfl := Option.some.inj h
  exact RT.iret (pc := 49) dX12_head_49 rfl (Nat.le_of_eq (rt_cells_0 z)) (Nat.le_of_eq (rt_slots_0 z)) hK
theorem c_X12_head {G : rt_G} {d : Nat} {z : Nat × Nat} (hz : 300 ≤ z.1) (hd : 4 ≤ d) (a0 : Int) (a1 : Int) (a2 : Int) (mem0 : rt_M) (t : Int × rt_M) (ht : rt_kd a0.toNat = 20 + 12) (h : f_X12_head a0 a1 a2 mem0 = some t) : RM G M_X12_head d [(2, a0), (0, a1), (0, a2)] z mem0 (some (0, t.1)) t.2 := by
  suffices H : ∀ Q : rt_P, Q (some (0, t.1)) z t.2 → RT G M_X12_head d z Q 0 [(2, a0), (0, a1), (0, a2)] [] z mem0 from H _ ⟨rfl, rfl, rfl⟩
  intro Q hK
  unfold f_X12_head at h
  refine RT.aload_n (pc := 0) (k := 0) (x := a0) dX12_head_0 rfl ?_
  refine RT.iconst (pc := 1) (n := 0) dX12_head_1 ⟨by decide, by decide⟩ ?_
  obtain ⟨m2, hm2, h⟩ := Option.bind_eq_some_iff.mp h
  refine RT.pf_i 12 0 (pc := 2) (mem1 := m2) hz dX12_head_2 fl_X12_171 rfl rfl rfl hm2 ?_
  refine RT.aload_n (pc := 5) (k := 0) (x := a0) dX12_head_5 rfl ?_
  refine RT.iload_n (pc := 6) (k := 1) (x := a1) dX12_head_6 rfl ?_
  obtain ⟨p7, hp7, h⟩ := Option.bind_eq_some_iff.mp h
  refine RT.cVz (pc := 7) (M' := M_X12_isHead) (ci := 12) (x := a0) (As := [(0, a1)]) (st := []) (r := some (0, p7)) (mem1 := m2) (d' := d - 1) hz dX12_head_7 mw_X12_isHead ml_X12_417 mi_X12_isHead ht rfl rfl (Nat.le_of_ble_eq_true rfl) (Nat.le_of_ble_eq_true rfl) (by omega) rfl rfl (c_X12_isHead hz (by omega) a0 a1 m2 _ ht hp7) ?_
  refine RT.if_eq (pc := 10) (tgt := 22) dX12_head_10 rfl (fun q10 => ?_) (fun q10 => ?_)
  · rw [if_pos q10] at h
    refine RT.wk (L1 := [(9, 0), (9, 0), (9, 0)]) (rt_le_j (rt_le_j (rt_le_j rt_le_n))) ?_
    exact cj_X12_head_22 hz hd ht m2 _ h hK
  · rw [if_neg q10] at h
    refine RT.iload_n (pc := 13) (k := 2) (x := a2) dX12_head_13 rfl ?_
    refine RT.iconst (pc := 14) (n := 0) dX12_head_14 ⟨by decide, by decide⟩ ?_
    refine RT.iconst (pc := 15) (n := 5) dX12_head_15 ⟨by decide, by decide⟩ ?_
    obtain ⟨p16, hp16, h⟩ := Option.bind_eq_some_iff.mp h
    refine RT.cSz (pc := 16) (M' := M_X12_within) (As := [(0, a2), (0, 0), (0, 5)]) (st := []) (r := some (0, p16)) (mem1 := m2) (d' := d - 1) dX12_head_16 mw_X12_within ml_X12_301 mi_X12_within rfl rfl (Nat.le_of_ble_eq_true rfl) (Nat.le_of_ble_eq_true rfl) (by omega) rfl rfl (c_X12_within hz (by omega) a2 0 5 m2 _ hp16) ?_
    refine RT.if_ne (pc := 19) (tgt := 25) dX12_head_19 rfl (fun q19 => ?_) (fun q19 => ?_)
    · rw [if_neg q19] at h
      refine RT.iload_n (pc := 25) (k := 2) (x := a2) dX12_head_25 rfl ?_
      refine RT.iconst (pc := 26) (n := 2) dX12_head_26 ⟨by decide, by decide⟩ ?_
      refine RT.icmp_ge (pc := 27) (tgt := 50) dX12_head_27 rfl (fun q27 => ?_) (fun q27 => ?_)
      · rw [if_pos q27] at h
        refine RT.iload_n (pc := 50) (k := 2) (x := a2) dX12_head_50 rfl ?_
        refine RT.iconst (pc := 51) (n := 4) dX12_head_51 ⟨by decide, by decide⟩ ?_
        refine RT.icmp_ge (pc := 52) (tgt := 76) dX12_head_52 rfl (fun q52 => ?_) (fun q52 => ?_)
        · rw [if_pos q52] at h
          refine RT.iload_n (pc := 76) (k := 2) (x := a2) dX12_head_76 rfl ?_
          refine RT.iconst (pc := 77) (n := 4) dX12_head_77 ⟨by decide, by decide⟩ ?_
          refine RT.icmp_ne (pc := 78) (tgt := 95) dX12_head_78 rfl (fun q78 => ?_) (fun q78 => ?_)
          · rw [if_neg q78] at h
            refine RT.aload_n (pc := 95) (k := 0) (x := a0) dX12_head_95 rfl ?_
            refine RT.iload_n (pc := 96) (k := 1) (x := a1) dX12_head_96 rfl ?_
            obtain ⟨p97, hp97, h⟩ := Option.bind_eq_some_iff.mp h
            refine RT.cVz (pc := 97) (M' := M_X12_wigOn) (ci := 12) (x := a0) (As := [(0, a1)]) (st := []) (r := some (0, p97)) (mem1 := m2) (d' := d - 1) hz dX12_head_97 mw_X12_wigOn ml_X12_403 mi_X12_wigOn ht rfl rfl (Nat.le_of_ble_eq_true rfl) (Nat.le_of_ble_eq_true rfl) (by omega) rfl rfl (c_X12_wigOn hz (by omega) a0 a1 m2 _ ht hp97) ?_
            refine RT.wk (L1 := [(9, 0), (9, 0), (9, 0)]) (rt_le_j (rt_le_j (rt_le_j rt_le_n))) ?_
            exact cj_X12_head_100 hz hd ht p97 m2 _ h hK
          · rw [if_pos (Classical.not_not.mp q78)] at h
            refine RT.aload_n (pc := 81) (k := 0) (x := a0) dX12_head_81 rfl ?_
            refine RT.iload_n (pc := 82) (k := 1) (x := a1) dX12_head_82 rfl ?_
            refine RT.aload_n (pc := 83) (k := 0) (x := a0) dX12_head_83 rfl ?_
            obtain ⟨v84, hv84, h⟩ := Option.bind_eq_some_iff.mp h
            refine RT.gf 12 50 2 (pc := 84) (x := a0) (v := v84) hz dX12_head_84 fl_X12_120 rfl hv84 ?_
            refine RT.iconst (pc := 87) (n := 0) dX12_head_87 ⟨by decide, by decide⟩ ?_
            obtain ⟨v88, hv88, h⟩ := Option.bind_eq_some_iff.mp h
            refine RT.iald (pc := 88) (x := v84) (i := 0) (v := v88) dX12_head_88 (rt_lta hz (by decide) (by decide) hv88) hv88 ?_
            obtain ⟨p89, hp89, h⟩ := Option.bind_eq_some_iff.mp h
            refine RT.cVz (pc := 89) (M' := M_X12_girthIn) (ci := 12) (x := a0) (As := [(0, a1), (0, v88)]) (st := []) (r := some (0, p89.1)) (mem1 := p89.2) (d' := d - 1) hz dX12_head_89 mw_X12_girthIn ml_X12_396 mi_X12_girthIn ht rfl rfl (Nat.le_of_ble_eq_true rfl) (Nat.le_of_ble_eq_true rfl) (by omega) rfl rfl (c_X12_girthIn hz (by omega) a0 a1 v88 m2 _ ht hp89) ?_
            refine RT.goto (pc := 92) (tgt := 100) dX12_head_92 rfl ?_
            refine RT.wk (L1 := [(9, 0), (9, 0), (9, 0)]) (rt_le_j (rt_le_j (rt_le_j rt_le_n))) ?_
            exact cj_X12_head_100 hz hd ht p89.1 p89.2 _ h hK
        · rw [if_neg q52] at h
          refine RT.iload_n (pc := 55) (k := 2) (x := a2) dX12_head_55 rfl ?_
          refine RT.iconst (pc := 56) (n := 2) dX12_head_56 ⟨by decide, by decide⟩ ?_
          refine RT.icmp_ne (pc := 57) (tgt := 69) dX12_head_57 rfl (fun q57 => ?_) (fun q57 => ?_)
          · rw [if_neg q57] at h
            refine RT.aload_n (pc := 69) (k := 0) (x := a0) dX12_head_69 rfl ?_
            obtain ⟨v70, hv70, h⟩ := Option.bind_eq_some_iff.mp h
            refine RT.gf 12 19 2 (pc := 70) (x := a0) (v := v70) hz dX12_head_70 fl_X12_41 rfl hv70 ?_
            refine RT.iload_n (pc := 73) (k := 1) (x := a1) dX12_head_73 rfl ?_
            obtain ⟨v74, hv74, h⟩ := Option.bind_eq_some_iff.mp h
            refine RT.iald (pc := 74) (x := v70) (i := a1) (v := v74) dX12_head_74 (rt_lta hz (by decide) (by decide) hv74) hv74 ?_
            refine RT.wk (L1 := [(9, 0), (9, 0), (9, 0)]) (rt_le_j (rt_le_j (rt_le_j rt_le_n))) ?_
            exact cj_X12_head_75 hz hd ht v74 m2 _ h hK
          · rw [if_pos (Classical.not_not.mp q57)] at h
            refine RT.aload_n (pc := 60) (k := 0) (x := a0) dX12_head_60 rfl ?_
            obtain ⟨v61, hv61, h⟩ := Option.bind_eq_some_iff.mp h
            refine RT.gf 12 18 2 (pc := 61) (x := a0) (v := v61) hz dX12_head_61 fl_X12_38 rfl hv61 ?_
            refine RT.iload_n (pc := 64) (k := 1) (x := a1) dX12_head_64 rfl ?_
            obtain ⟨v65, hv65, h⟩ := Option.bind_eq_some_iff.mp h
            refine RT.iald (pc := 65) (x := v61) (i := a1) (v := v65) dX12_head_65 (rt_lta hz (by decide) (by decide) hv65) hv65 ?_
            refine RT.goto (pc := 66) (tgt := 75) dX12_head_66 rfl ?_
            refine RT.wk (L1 := [(9, 0), (9, 0), (9, 0)]) (rt_le_j (rt_le_j (rt_le_j rt_le_n))) ?_
            exact cj_X12_head_75 hz hd ht v65 m2 _ h hK
      · rw [if_neg q27] at h
        refine RT.iload_n (pc := 30) (k := 2) (x := a2) dX12_head_30 rfl ?_
        refine RT.if_ne (pc := 31) (tgt := 43) dX12_head_31 rfl (fun q31 => ?_) (fun q31 => ?_)
        · rw [if_neg q31] at h
          refine RT.aload_n (pc := 43) (k := 0) (x := a0) dX12_head_43 rfl ?_
          obtain ⟨v44, hv44, h⟩ := Option.bind_eq_some_iff.mp h
          refine RT.gf 12 17 2 (pc := 44) (x := a0) (v := v44) hz dX12_head_44 fl_X12_35 rfl hv44 ?_
          refine RT.iload_n (pc := 47) (k := 1) (x := a1) dX12_head_47 rfl ?_
          obtain ⟨v48, hv48, h⟩ := Option.bind_eq_some_iff.mp h
          refine RT.iald (pc := 48) (x := v44) (i := a1) (v := v48) dX12_head_48 (rt_lta hz (by decide) (by decide) hv48) hv48 ?_
          refine RT.wk (L1 := [(9, 0), (9, 0), (9, 0)]) (rt_le_j (rt_le_j (rt_le_j rt_le_n))) ?_
          exact cj_X12_head_49 hz hd ht v48 m2 _ h hK
        · rw [if_pos (Classical.not_not.mp q31)] at h
          refine RT.aload_n (pc := 34) (k := 0) (x := a0) dX12_head_34 rfl ?_
          obtain ⟨v35, hv35, h⟩ := Option.bind_eq_some_iff.mp h
          refine RT.gf 12 16 2 (pc := 35) (x := a0) (v := v35) hz dX12_head_35 fl_X12_32 rfl hv35 ?_
          refine RT.iload_n (pc := 38) (k := 1) (x := a1) dX12_head_38 rfl ?_
          obtain ⟨v39, hv39, h⟩ := Option.bind_eq_some_iff.mp h
          refine RT.iald (pc := 39) (x := v35) (i := a1) (v := v39) dX12_head_39 (rt_lta hz (by decide) (by decide) hv39) hv39 ?_
          refine RT.goto (pc := 40) (tgt := 49) dX12_head_40 rfl ?_
          refine RT.wk (L1 := [(9, 0), (9, 0), (9, 0)]) (rt_le_j (rt_le_j (rt_le_j rt_le_n))) ?_
          exact cj_X12_head_49 hz hd ht v39 m2 _ h hK
    · rw [if_pos (Classical.not_not.mp q19)] at h
      refine RT.wk (L1 := [(9, 0), (9, 0), (9, 0)]) (rt_le_j (rt_le_j (rt_le_j rt_le_n))) ?_
      exact cj_X12_head_22 hz hd ht m2 _ h hK
theorem cj_X12_fits_53 {G : rt_G} {d : Nat} {z : Nat × Nat} {Q : rt_P} (hz : 300 ≤ z.1) (hd : 6 ≤ d) {a0 : Int} (ht : rt_kd a0.toNat = 20 + 12) (s0 : Int) (mem0 : rt_M) (t : Int × rt_M) (h : j_X12_fits_53 s0 mem0 = some t) (hK : Q (some (0, t.1)) z t.2) : RT G M_X12_fits d z Q 53 [(9, 0), (9, 0), (9, 0), (9, 0)] [(0, s0)] z mem0 := by
  unfold j_X12_fits_53 at h
  obtain ⟨w53, hw53, h⟩ := Option.bind_eq_some_iff.mp h
  obtain rfl := Option.some.inj h
  exact RT.zret (pc := 53) dX12_fits_53 rfl (rt_bz_ok hw53) (Nat.le_of_eq (rt_cells_0 z)) (Nat.le_of_eq (rt_slots_0 z)) hK
theorem cj_X12_fits_52 {G : rt_G} {d : Nat} {z : Nat × Nat} {Q : rt_P} (hz : 300 ≤ z.1) (hd : 6 ≤ d) {a0 : Int} (ht : rt_kd a0.toNat = 20 + 12) (mem0 : rt_M) (t : Int × rt_M) (h : j_X12_fits_52 mem0 = some t) (hK : Q (some (0, t.1)) z t.2) : RT G M_X12_fits d z Q 52 [(9, 0), (9, 0), (9, 0), (9, 0)] [] z mem0 := by
  unfold j_X12_fits_52 at h
  refine RT.iconst (pc := 52) (n := 0) dX12_fits_52 ⟨by decide, by decide⟩ ?_
  exact cj_X12_fits_53 hz hd ht 0 mem0 _ h hK
theorem c_X12_fits {G : rt_G} {d : Nat} {z : Nat × Nat} (hz : 300 ≤ z.1) (hd : 6 ≤ d) (a0 : Int) (a1 : Int) (a2 : Int) (a3 : Int) (mem0 : rt_M) (t : Int × rt_M) (ht : rt_kd a0.toNat = 20 + 12) (h : f_X12_fits a0 a1 a2 a3 mem0 = some t) : RM G M_X12_fits d [(2, a0), (0, a1), (0, a2), (0, a3)] z mem0 (some (0, t.1)) t.2 := by
  suffices H : ∀ Q : rt_P, Q (some (0, t.1)) z t.2 → RT G M_X12_fits d z Q 0 [(2, a0), (0, a1), (0, a2), (0, a3)] [] z mem0 from H _ ⟨rfl, rfl, rfl⟩
  intro Q hK
  unfold f_X12_fits at h
  refine RT.aload_n (pc := 0) (k := 0) (x := a0) dX12_fits_0 rfl ?_
  refine RT.iconst (pc := 1) (n := 0) dX12_fits_1 ⟨by decide, by decide⟩ ?_
  obtain ⟨m2, hm2, h⟩ := Option.bind_eq_some_iff.mp h
  refine RT.pf_i 12 0 (pc := 2) (mem1 := m2) hz dX12_fits_2 fl_X12_171 rfl rfl rfl hm2 ?_
  refine RT.aload_n (pc := 5) (k := 0) (x := a0) dX12_fits_5 rfl ?_
  refine RT.iload_n (pc := 6) (k := 1) (x := a1) dX12_fits_6 rfl ?_
  obtain ⟨p7, hp7, h⟩ := Option.bind_eq_some_iff.mp h
  refine RT.cVz (pc := 7) (M' := M_X12_isWig) (ci := 12) (x := a0) (As := [(0, a1)]) (st := []) (r := some (0, p7)) (mem1 := m2) (d' := d - 1) hz dX12_fits_7 mw_X12_isWig ml_X12_414 mi_X12_isWig ht rfl rfl (Nat.le_of_ble_eq_true rfl) (Nat.le_of_ble_eq_true rfl) (by omega) rfl rfl (c_X12_isWig hz (by omega) a0 a1 m2 _ ht hp7) ?_
  refine RT.if_eq (pc := 10) (tgt := 52) dX12_fits_10 rfl (fun q10 => ?_) (fun q10 => ?_)
  · rw [if_pos q10] at h
    refine RT.wk (L1 := [(9, 0), (9, 0), (9, 0), (9, 0)]) (rt_le_j (rt_le_j (rt_le_j (rt_le_j rt_le_n)))) ?_
    exact cj_X12_fits_52 hz hd ht m2 _ h hK
  · rw [if_neg q10] at h
    refine RT.aload_n (pc := 13) (k := 0) (x := a0) dX12_fits_13 rfl ?_
    refine RT.iload_n (pc := 14) (k := 2) (x := a2) dX12_fits_14 rfl ?_
    obtain ⟨p15, hp15, h⟩ := Option.bind_eq_some_iff.mp h
    refine RT.cVz (pc := 15) (M' := M_X12_isHead) (ci := 12) (x := a0) (As := [(0, a2)]) (st := []) (r := some (0, p15)) (mem1 := m2) (d' := d - 1) hz dX12_fits_15 mw_X12_isHead ml_X12_417 mi_X12_isHead ht rfl rfl (Nat.le_of_ble_eq_true rfl) (Nat.le_of_ble_eq_true rfl) (by omega) rfl rfl (c_X12_isHead hz (by omega) a0 a2 m2 _ ht hp15) ?_
    refine RT.if_eq (pc := 18) (tgt := 52) dX12_fits_18 rfl (fun q18 => ?_) (fun q18 => ?_)
    · rw [if_pos q18] at h
      refine RT.wk (L1 := [(9, 0), (9, 0), (9, 0), (9, 0)]) (rt_le_j (rt_le_j (rt_le_j (rt_le_j rt_le_n)))) ?_
      exact cj_X12_fits_52 hz hd ht m2 _ h hK
    · rw [if_neg q18] at h
      refine RT.iload_n (pc := 21) (k := 3) (x := a3) dX12_fits_21 rfl ?_
      refine RT.iconst (pc := 22) (n := 0) dX12_fits_22 ⟨by decide, by decide⟩ ?_
      refine RT.bipush (pc := 23) (n := 99) dX12_fits_23 ⟨by decide, by decide⟩ rfl ?_
      obtain ⟨p25, hp25, h⟩ := Option.bind_eq_some_iff.mp h
      refine RT.cSz (pc := 25) (M' := M_X12_within) (As := [(0, a3), (0, 0), (0, 99)]) (st := []) (r := some (0, p25)) (mem1 := m2) (d' := d - 1) dX12_fits_25 mw_X12_within ml_X12_301 mi_X12_within rfl rfl (Nat.le_of_ble_eq_true rfl) (Nat.le_of_ble_eq_true rfl) (by omega) rfl rfl (c_X12_within hz (by omega) a3 0 99 m2 _ hp25) ?_
      refine RT.if_eq (pc := 28) (tgt := 52) dX12_fits_28 rfl (fun q28 => ?_) (fun q28 => ?_)
      · rw [if_pos q28] at h
        refine RT.wk (L1 := [(9, 0), (9, 0), (9, 0), (9, 0)]) (rt_le_j (rt_le_j (rt_le_j (rt_le_j rt_le_n)))) ?_
        exact cj_X12_fits_52 hz hd ht m2 _ h hK
      · rw [if_neg q28] at h
        refine RT.aload_n (pc := 31) (k := 0) (x := a0) dX12_fits_31 rfl ?_
        refine RT.iload_n (pc := 32) (k := 1) (x := a1) dX12_fits_32 rfl ?_
        refine RT.iload_n (pc := 33) (k := 2) (x := a2) dX12_fits_33 rfl ?_
        refine RT.aload_n (pc := 34) (k := 0) (x := a0) dX12_fits_34 rfl ?_
        obtain ⟨v35, hv35, h⟩ := Option.bind_eq_some_iff.mp h
        refine RT.gf 12 50 2 (pc := 35) (x := a0) (v := v35) hz dX12_fits_35 fl_X12_120 rfl hv35 ?_
        refine RT.iconst (pc := 38) (n := 0) dX12_fits_38 ⟨by decide, by decide⟩ ?_
        obtain ⟨v39, hv39, h⟩ := Option.bind_eq_some_iff.mp h
        refine RT.iald (pc := 39) (x := v35) (i := 0) (v := v39) dX12_fits_39 (rt_lta hz (by decide) (by decide) hv39) hv39 ?_
        refine RT.iload_n (pc := 40) (k := 3) (x := a3) dX12_fits_40 rfl ?_
        refine RT.iadd (pc := 41) dX12_fits_41 ?_
        obtain ⟨p42, hp42, h⟩ := Option.bind_eq_some_iff.mp h
        refine RT.cVz (pc := 42) (M' := M_X12_fitsIn) (ci := 12) (x := a0) (As := [(0, a1), (0, a2), (0, (rt_iadd v39 a3))]) (st := []) (r := some (0, p42.1)) (mem1 := p42.2) (d' := d - 1) hz dX12_fits_42 mw_X12_fitsIn ml_X12_406 mi_X12_fitsIn ht rfl rfl (Nat.le_of_ble_eq_true rfl) (Nat.le_of_ble_eq_true rfl) (by omega) rfl rfl (c_X12_fitsIn hz (by omega) a0 a1 a2 ((rt_iadd v39 a3)) m2 _ ht hp42) ?_
        refine RT.if_eq (pc := 45) (tgt := 52) dX12_fits_45 rfl (fun q45 => ?_) (fun q45 => ?_)
        · rw [if_pos q45] at h
          refine RT.wk (L1 := [(9, 0), (9, 0), (9, 0), (9, 0)]) (rt_le_j (rt_le_j (rt_le_j (rt_le_j rt_le_n)))) ?_
          exact cj_X12_fits_52 hz hd ht p42.2 _ h hK
        · rw [if_neg q45] at h
          refine RT.iconst (pc := 48) (n := 1) dX12_fits_48 ⟨by decide, by decide⟩ ?_
          refine RT.goto (pc := 49) (tgt := 53) dX12_fits_49 rfl ?_
          refine RT.wk (L1 := [(9, 0), (9, 0), (9, 0), (9, 0)]) (rt_le_j (rt_le_j (rt_le_j (rt_le_j rt_le_n)))) ?_
          exact cj_X12_fits_53 hz hd ht 1 p42.2 _ h hK
theorem cj_X12_holds_49 {G : rt_G} {d : Nat} {z : Nat × Nat} {Q : rt_P} (hz : 300 ≤ z.1) (hd : 1 ≤ d) {a0 : Int} (ht : rt_kd a0.toNat = 20 + 12) (mem0 : rt_M) (t : rt_M) (h : j_X12_holds_49 a0 mem0 = some t) (hK : Q none z t) : RT G M_X12_holds d z Q 49 [(2, a0), (9, 0)] [] z mem0 := by
  unfold j_X12_holds_49 at h
  refine RT.aload_n (pc := 49) (k := 0) (x := a0) dX12_holds_49 rfl ?_
  obtain ⟨v50, hv50, h⟩ := Option.bind_eq_some_iff.mp h
  refine RT.gf 12 50 2 (pc := 50) (x := a0) (v := v50) hz dX12_holds_50 fl_X12_120 rfl hv50 ?_
  refine RT.iconst (pc := 53) (n := 0) dX12_holds_53 ⟨by decide, by decide⟩ ?_
  refine RT.aload_n (pc := 54) (k := 0) (x := a0) dX12_holds_54 rfl ?_
  obtain ⟨v55, hv55, h⟩ := Option.bind_eq_some_iff.mp h
  refine RT.gf 12 53 2 (pc := 55) (x := a0) (v := v55) hz dX12_holds_55 fl_X12_129 rfl hv55 ?_
  refine RT.bipush (pc := 58) (n := 13) dX12_holds_58 ⟨by decide, by decide⟩ rfl ?_
  refine RT.aload_n (pc := 60) (k := 0) (x := a0) dX12_holds_60 rfl ?_
  obtain ⟨v61, hv61, h⟩ := Option.bind_eq_some_iff.mp h
  refine RT.gf 12 55 0 (pc := 61) (x := a0) (v := v61) hz dX12_holds_61 fl_X12_376 rfl hv61 ?_
  refine RT.imul (pc := 64) dX12_holds_64 ?_
  obtain ⟨p65, hp65, h⟩ := Option.bind_eq_some_iff.mp h
  refine RT.cSz (pc := 65) (M' := M_X12_copies) (As := [(2, v50), (0, 0), (2, v55), (0, (rt_imul 13 v61))]) (st := []) (r := none) (mem1 := p65) (d' := d - 1) dX12_holds_65 mw_X12_copies ml_X12_420 mi_X12_copies rfl rfl (Nat.le_of_ble_eq_true rfl) (Nat.le_of_ble_eq_true rfl) (by omega) rfl rfl (c_X12_copies hz (by omega) v50 0 v55 ((rt_imul 13 v61)) mem0 _ hp65) ?_
  refine RT.aload_n (pc := 68) (k := 0) (x := a0) dX12_holds_68 rfl ?_
  refine RT.dup (pc := 69) dX12_holds_69 (show ¬ ((2 : Nat) = 1) by decide) ?_
  obtain ⟨v70, hv70, h⟩ := Option.bind_eq_some_iff.mp h
  refine RT.gf 12 55 0 (pc := 70) (x := a0) (v := v70) hz dX12_holds_70 fl_X12_376 rfl hv70 ?_
  refine RT.iconst (pc := 73) (n := 1) dX12_holds_73 ⟨by decide, by decide⟩ ?_
  refine RT.iadd (pc := 74) dX12_holds_74 ?_
  obtain ⟨m75, hm75, h⟩ := Option.bind_eq_some_iff.mp h
  refine RT.pf_i 12 55 (pc := 75) (mem1 := m75) hz dX12_holds_75 fl_X12_376 rfl rfl rfl hm75 ?_
  obtain rfl := Option.some.inj h
  exact RT.vret (pc := 78) dX12_holds_78 rfl (Nat.le_of_eq (rt_cells_0 z)) (Nat.le_of_eq (rt_slots_0 z)) hK
theorem cb_X12_holds_11 {G : rt_G} {d : Nat} {z : Nat × Nat} {Q : rt_P} (hz : 300 ≤ z.1) (hd : 1 ≤ d) {a0 : Int} (ht : rt_kd a0.toNat = 20 + 12) (s : Int × rt_M) (t : (Int × rt_M) ⊕ (rt_M)) (h : b_X12_holds_11 a0 s = some t) (hK : (∀ s1 : Int × rt_M, t = .inl s1 → RT G M_X12_holds d z Q 11 [(2, a0), (0, s1.1)] [] z s1.2) ∧ (∀ x1 : rt_M, t = .inr x1 → RT G M_X12_holds d z Q 39 [(2, a0), (9, 0)] [] z x1)) : RT G M_X12_holds d z Q 11 [(2, a0), (0, s.1)] [] z s.2 := by
  unfold b_X12_holds_11 at h
  refine RT.iload_n (pc := 11) (k := 1) (x := s.1) dX12_holds_11 rfl ?_
  refine RT.sipush (pc := 12) (n := 195) dX12_holds_12 ⟨by decide, by decide⟩ rfl ?_
  refine RT.icmp_ge (pc := 15) (tgt := 39) dX12_holds_15 rfl (fun q15 => ?_) (fun q15 => ?_)
  · rw [if_pos q15] at h
    refine RT.wk (L1 := [(2, a0), (9, 0)]) (rt_le_s (rt_le_j rt_le_n)) ?_
    obtain rfl := Option.some.inj h
    have q1 := hK.2 s.2 rfl
    try dsimp only at q1
    exact q1
  · rw [if_neg q15] at h
    refine RT.aload_n (pc := 18) (k := 0) (x := a0) dX12_holds_18 rfl ?_
    obtain ⟨v19, hv19, h⟩ := Option.bind_eq_some_iff.mp h
    refine RT.gf 12 53 2 (pc := 19) (x := a0) (v := v19) hz dX12_holds_19 fl_X12_129 rfl hv19 ?_
    refine RT.iload_n (pc := 22) (k := 1) (x := s.1) dX12_holds_22 rfl ?_
    refine RT.aload_n (pc := 23) (k := 0) (x := a0) dX12_holds_23 rfl ?_
    obtain ⟨v24, hv24, h⟩ := Option.bind_eq_some_iff.mp h
    refine RT.gf 12 53 2 (pc := 24) (x := a0) (v := v24) hz dX12_holds_24 fl_X12_129 rfl hv24 ?_
    refine RT.iload_n (pc := 27) (k := 1) (x := s.1) dX12_holds_27 rfl ?_
    refine RT.bipush (pc := 28) (n := 13) dX12_holds_28 ⟨by decide, by decide⟩ rfl ?_
    refine RT.iadd (pc := 30) dX12_holds_30 ?_
    obtain ⟨v31, hv31, h⟩ := Option.bind_eq_some_iff.mp h
    refine RT.iald (pc := 31) (x := v24) (i := (rt_iadd s.1 13)) (v := v31) dX12_holds_31 (rt_lta hz (by decide) (by decide) hv31) hv31 ?_
    obtain ⟨m32, hm32, h⟩ := Option.bind_eq_some_iff.mp h
    refine RT.iast (pc := 32) (x := v19) (i := s.1) (v := v31) (mem1 := m32) dX12_holds_32 (rt_lts hz (by decide) (by decide) hm32) hm32 ?_
    refine RT.iinc (pc := 33) (x := s.1) (L1 := [(2, a0), (0, (rt_iadd s.1 1))]) dX12_holds_33 rfl (Nat.le_of_ble_eq_true rfl) ⟨by decide, by decide⟩ rfl ?_
    refine RT.goto (pc := 36) (tgt := 11) dX12_holds_36 rfl ?_
    obtain rfl := Option.some.inj h
    have q1 := hK.1 (((rt_iadd s.1 1), m32)) rfl
    try dsimp only at q1
    exact q1
theorem c_X12_holds {G : rt_G} {d : Nat} {z : Nat × Nat} (hz : 300 ≤ z.1) (hd : 1 ≤ d) (a0 : Int) (mem0 : rt_M) (t : rt_M) (ht : rt_kd a0.toNat = 20 + 12) (h : f_X12_holds a0 mem0 = some t) : RM G M_X12_holds d [(2, a0)] z mem0 none t := by
  suffices H : ∀ Q : rt_P, Q none z t → RT G M_X12_holds d z Q 0 [(2, a0), (9, 0)] [] z mem0 from H _ ⟨rfl, rfl, rfl⟩
  intro Q hK
  unfold f_X12_holds at h
  refine RT.aload_n (pc := 0) (k := 0) (x := a0) dX12_holds_0 rfl ?_
  obtain ⟨v1, hv1, h⟩ := Option.bind_eq_some_iff.mp h
  refine RT.gf 12 55 0 (pc := 1) (x := a0) (v := v1) hz dX12_holds_1 fl_X12_376 rfl hv1 ?_
  refine RT.bipush (pc := 4) (n := 16) dX12_holds_4 ⟨by decide, by decide⟩ rfl ?_
  refine RT.icmp_ne (pc := 6) (tgt := 49) dX12_holds_6 rfl (fun q6 => ?_) (fun q6 => ?_)
  · rw [if_neg q6] at h
    exact cj_X12_holds_49 hz hd ht mem0 _ h hK
  · rw [if_pos (Classical.not_not.mp q6)] at h
    refine RT.iconst (pc := 9) (n := 0) dX12_holds_9 ⟨by decide, by decide⟩ ?_
    refine RT.istore_n (pc := 10) (k := 1) (x := 0) (L1 := [(2, a0), (0, 0)]) dX12_holds_10 (Nat.le_of_ble_eq_true rfl) rfl ?_
    obtain ⟨X11, hX11, h⟩ := Option.bind_eq_some_iff.mp h
    refine rt_it_ind (P := (fun s1 : Int × rt_M => RT G M_X12_holds d z Q 11 [(2, a0), (0, s1.1)] [] z s1.2)) (X := (fun x1 : rt_M => RT G M_X12_holds d z Q 39 [(2, a0), (9, 0)] [] z x1)) (fun s1 t1 h1 k1 k2 => cb_X12_holds_11 hz hd ht s1 t1 h1 ⟨k1, k2⟩) 4000 ((0, mem0)) X11 hX11 ?_
    refine RT.aload_n (pc := 39) (k := 0) (x := a0) dX12_holds_39 rfl ?_
    refine RT.dup (pc := 40) dX12_holds_40 (show ¬ ((2 : Nat) = 1) by decide) ?_
    obtain ⟨v41, hv41, h⟩ := Option.bind_eq_some_iff.mp h
    refine RT.gf 12 55 0 (pc := 41) (x := a0) (v := v41) hz dX12_holds_41 fl_X12_376 rfl hv41 ?_
    refine RT.iconst (pc := 44) (n := 1) dX12_holds_44 ⟨by decide, by decide⟩ ?_
    refine RT.isub (pc := 45) dX12_holds_45 ?_
    obtain ⟨m46, hm46, h⟩ := Option.bind_eq_some_iff.mp h
    refine RT.pf_i 12 55 (pc := 46) (mem1 := m46) hz dX12_holds_46 fl_X12_376 rfl rfl rfl hm46 ?_
    exact cj_X12_holds_49 hz hd ht m46 _ h hK
theorem cj_X12_put_30 {G : rt_G} {d : Nat} {z : Nat × Nat} {Q : rt_P} (hz : 300 ≤ z.1) (hd : 7 ≤ d) {a0 : Int} (ht : rt_kd a0.toNat = 20 + 12) (mem0 : rt_M) (t : Int × rt_M) (h : j_X12_put_30 mem0 = some t) (hK : Q (some (0, t.1)) z t.2) : RT G M_X12_put d z Q 30 [(9, 0), (9, 0), (9, 0)] [] z mem0 := by
  unfold j_X12_put_30 at h
  refine RT.iconst (pc := 30) (n := 0) dX12_put_30 ⟨by decide, by decide⟩ ?_
  obtain rfl := Option.some.inj h
  exact RT.zret (pc := 31) dX12_put_31 rfl (by decide) (Nat.le_of_eq (rt_cells_0 z)) (Nat.le_of_eq (rt_slots_0 z)) hK
theorem c_X12_put {G : rt_G} {d : Nat} {z : Nat × Nat} (hz : 300 ≤ z.1) (hd : 7 ≤ d) (a0 : Int) (a1 : Int) (a2 : Int) (mem0 : rt_M) (t : Int × rt_M) (ht : rt_kd a0.toNat = 20 + 12) (h : f_X12_put a0 a1 a2 mem0 = some t) : RM G M_X12_put d [(2, a0), (0, a1), (0, a2)] z mem0 (some (0, t.1)) t.2 := by
  suffices H : ∀ Q : rt_P, Q (some (0, t.1)) z t.2 → RT G M_X12_put d z Q 0 [(2, a0), (0, a1), (0, a2)] [] z mem0 from H _ ⟨rfl, rfl, rfl⟩
  intro Q hK
  unfold f_X12_put at h
  refine RT.aload_n (pc := 0) (k := 0) (x := a0) dX12_put_0 rfl ?_
  refine RT.iconst (pc := 1) (n := 0) dX12_put_1 ⟨by decide, by decide⟩ ?_
  obtain ⟨m2, hm2, h⟩ := Option.bind_eq_some_iff.mp h
  refine RT.pf_i 12 0 (pc := 2) (mem1 := m2) hz dX12_put_2 fl_X12_171 rfl rfl rfl hm2 ?_
  refine RT.aload_n (pc := 5) (k := 0) (x := a0) dX12_put_5 rfl ?_
  refine RT.iload_n (pc := 6) (k := 1) (x := a1) dX12_put_6 rfl ?_
  obtain ⟨p7, hp7, h⟩ := Option.bind_eq_some_iff.mp h
  refine RT.cVz (pc := 7) (M' := M_X12_isWig) (ci := 12) (x := a0) (As := [(0, a1)]) (st := []) (r := some (0, p7)) (mem1 := m2) (d' := d - 1) hz dX12_put_7 mw_X12_isWig ml_X12_414 mi_X12_isWig ht rfl rfl (Nat.le_of_ble_eq_true rfl) (Nat.le_of_ble_eq_true rfl) (by omega) rfl rfl (c_X12_isWig hz (by omega) a0 a1 m2 _ ht hp7) ?_
  refine RT.if_eq (pc := 10) (tgt := 30) dX12_put_10 rfl (fun q10 => ?_) (fun q10 => ?_)
  · rw [if_pos q10] at h
    refine RT.wk (L1 := [(9, 0), (9, 0), (9, 0)]) (rt_le_j (rt_le_j (rt_le_j rt_le_n))) ?_
    exact cj_X12_put_30 hz hd ht m2 _ h hK
  · rw [if_neg q10] at h
    refine RT.aload_n (pc := 13) (k := 0) (x := a0) dX12_put_13 rfl ?_
    refine RT.iload_n (pc := 14) (k := 2) (x := a2) dX12_put_14 rfl ?_
    obtain ⟨p15, hp15, h⟩ := Option.bind_eq_some_iff.mp h
    refine RT.cVz (pc := 15) (M' := M_X12_isHead) (ci := 12) (x := a0) (As := [(0, a2)]) (st := []) (r := some (0, p15)) (mem1 := m2) (d' := d - 1) hz dX12_put_15 mw_X12_isHead ml_X12_417 mi_X12_isHead ht rfl rfl (Nat.le_of_ble_eq_true rfl) (Nat.le_of_ble_eq_true rfl) (by omega) rfl rfl (c_X12_isHead hz (by omega) a0 a2 m2 _ ht hp15) ?_
    refine RT.if_eq (pc := 18) (tgt := 30) dX12_put_18 rfl (fun q18 => ?_) (fun q18 => ?_)
    · rw [if_pos q18] at h
      refine RT.wk (L1 := [(9, 0), (9, 0), (9, 0)]) (rt_le_j (rt_le_j (rt_le_j rt_le_n))) ?_
      exact cj_X12_put_30 hz hd ht m2 _ h hK
    · rw [if_neg q18] at h
      refine RT.aload_n (pc := 21) (k := 0) (x := a0) dX12_put_21 rfl ?_
      refine RT.iload_n (pc := 22) (k := 1) (x := a1) dX12_put_22 rfl ?_
      refine RT.iload_n (pc := 23) (k := 2) (x := a2) dX12_put_23 rfl ?_
      obtain ⟨p24, hp24, h⟩ := Option.bind_eq_some_iff.mp h
      refine RT.cVz (pc := 24) (M' := M_X12_canPut) (ci := 12) (x := a0) (As := [(0, a1), (0, a2)]) (st := []) (r := some (0, p24.1)) (mem1 := p24.2) (d' := d - 1) hz dX12_put_24 mw_X12_canPut ml_X12_424 mi_X12_canPut ht rfl rfl (Nat.le_of_ble_eq_true rfl) (Nat.le_of_ble_eq_true rfl) (by omega) rfl rfl (c_X12_canPut hz (by omega) a0 a1 a2 m2 _ ht hp24) ?_
      refine RT.if_ne (pc := 27) (tgt := 32) dX12_put_27 rfl (fun q27 => ?_) (fun q27 => ?_)
      · rw [if_neg q27] at h
        refine RT.aload_n (pc := 32) (k := 0) (x := a0) dX12_put_32 rfl ?_
        obtain ⟨p33, hp33, h⟩ := Option.bind_eq_some_iff.mp h
        refine RT.cVz (pc := 33) (M' := M_X12_holds) (ci := 12) (x := a0) (As := []) (st := []) (r := none) (mem1 := p33) (d' := d - 1) hz dX12_put_33 mw_X12_holds ml_X12_427 mi_X12_holds ht rfl rfl (Nat.le_of_ble_eq_true rfl) (Nat.le_of_ble_eq_true rfl) (by omega) rfl rfl (c_X12_holds hz (by omega) a0 p24.2 _ ht hp33) ?_
        refine RT.aload_n (pc := 36) (k := 0) (x := a0) dX12_put_36 rfl ?_
        obtain ⟨v37, hv37, h⟩ := Option.bind_eq_some_iff.mp h
        refine RT.gf 12 50 2 (pc := 37) (x := a0) (v := v37) hz dX12_put_37 fl_X12_120 rfl hv37 ?_
        refine RT.iconst (pc := 40) (n := 1) dX12_put_40 ⟨by decide, by decide⟩ ?_
        refine RT.iload_n (pc := 41) (k := 1) (x := a1) dX12_put_41 rfl ?_
        refine RT.iadd (pc := 42) dX12_put_42 ?_
        refine RT.iload_n (pc := 43) (k := 2) (x := a2) dX12_put_43 rfl ?_
        obtain ⟨m44, hm44, h⟩ := Option.bind_eq_some_iff.mp h
        refine RT.iast (pc := 44) (x := v37) (i := (rt_iadd 1 a1)) (v := a2) (mem1 := m44) dX12_put_44 (rt_lts hz (by decide) (by decide) hm44) hm44 ?_
        refine RT.iconst (pc := 45) (n := 1) dX12_put_45 ⟨by decide, by decide⟩ ?_
        obtain rfl := Option.some.inj h
        exact RT.zret (pc := 46) dX12_put_46 rfl (by decide) (Nat.le_of_eq (rt_cells_0 z)) (Nat.le_of_eq (rt_slots_0 z)) hK
      · rw [if_pos (Classical.not_not.mp q27)] at h
        refine RT.wk (L1 := [(9, 0), (9, 0), (9, 0)]) (rt_le_j (rt_le_j (rt_le_j rt_le_n))) ?_
        exact cj_X12_put_30 hz hd ht p24.2 _ h hK
theorem cj_X12_off_24 {G : rt_G} {d : Nat} {z : Nat × Nat} {Q : rt_P} (hz : 300 ≤ z.1) (hd : 2 ≤ d) {a0 : Int} (ht : rt_kd a0.toNat = 20 + 12) (mem0 : rt_M) (t : Int × rt_M) (h : j_X12_off_24 mem0 = some t) (hK : Q (some (0, t.1)) z t.2) : RT G M_X12_off d z Q 24 [(9, 0), (9, 0), (9, 0)] [] z mem0 := by
  unfold j_X12_off_24 at h
  refine RT.iconst (pc := 24) (n := (-1)) dX12_off_24 ⟨by decide, by decide⟩ ?_
  obtain rfl := Option.some.inj h
  exact RT.iret (pc := 25) dX12_off_25 rfl (Nat.le_of_eq (rt_cells_0 z)) (Nat.le_of_eq (rt_slots_0 z)) hK
theorem c_X12_off {G : rt_G} {d : Nat} {z : Nat × Nat} (hz : 300 ≤ z.1) (hd : 2 ≤ d) (a0 : Int) (a1 : Int) (mem0 : rt_M) (t : Int × rt_M) (ht : rt_kd a0.toNat = 20 + 12) (h : f_X12_off a0 a1 mem0 = some t) : RM G M_X12_off d [(2, a0), (0, a1)] z mem0 (some (0, t.1)) t.2 := by
  suffices H : ∀ Q : rt_P, Q (some (0, t.1)) z t.2 → RT G M_X12_off d z Q 0 [(2, a0), (0, a1), (9, 0)] [] z mem0 from H _ ⟨rfl, rfl, rfl⟩
  intro Q hK
  unfold f_X12_off at h
  refine RT.aload_n (pc := 0) (k := 0) (x := a0) dX12_off_0 rfl ?_
  refine RT.iconst (pc := 1) (n := 0) dX12_off_1 ⟨by decide, by decide⟩ ?_
  obtain ⟨m2, hm2, h⟩ := Option.bind_eq_some_iff.mp h
  refine RT.pf_i 12 0 (pc := 2) (mem1 := m2) hz dX12_off_2 fl_X12_171 rfl rfl rfl hm2 ?_
  refine RT.aload_n (pc := 5) (k := 0) (x := a0) dX12_off_5 rfl ?_
  refine RT.iload_n (pc := 6) (k := 1) (x := a1) dX12_off_6 rfl ?_
  obtain ⟨p7, hp7, h⟩ := Option.bind_eq_some_iff.mp h
  refine RT.cVz (pc := 7) (M' := M_X12_isWig) (ci := 12) (x := a0) (As := [(0, a1)]) (st := []) (r := some (0, p7)) (mem1 := m2) (d' := d - 1) hz dX12_off_7 mw_X12_isWig ml_X12_414 mi_X12_isWig ht rfl rfl (Nat.le_of_ble_eq_true rfl) (Nat.le_of_ble_eq_true rfl) (by omega) rfl rfl (c_X12_isWig hz (by omega) a0 a1 m2 _ ht hp7) ?_
  refine RT.if_eq (pc := 10) (tgt := 24) dX12_off_10 rfl (fun q10 => ?_) (fun q10 => ?_)
  · rw [if_pos q10] at h
    refine RT.wk (L1 := [(9, 0), (9, 0), (9, 0)]) (rt_le_j (rt_le_j (rt_le_s rt_le_n))) ?_
    exact cj_X12_off_24 hz hd ht m2 _ h hK
  · rw [if_neg q10] at h
    refine RT.aload_n (pc := 13) (k := 0) (x := a0) dX12_off_13 rfl ?_
    obtain ⟨v14, hv14, h⟩ := Option.bind_eq_some_iff.mp h
    refine RT.gf 12 50 2 (pc := 14) (x := a0) (v := v14) hz dX12_off_14 fl_X12_120 rfl hv14 ?_
    refine RT.iconst (pc := 17) (n := 1) dX12_off_17 ⟨by decide, by decide⟩ ?_
    refine RT.iload_n (pc := 18) (k := 1) (x := a1) dX12_off_18 rfl ?_
    refine RT.iadd (pc := 19) dX12_off_19 ?_
    obtain ⟨v20, hv20, h⟩ := Option.bind_eq_some_iff.mp h
    refine RT.iald (pc := 20) (x := v14) (i := (rt_iadd 1 a1)) (v := v20) dX12_off_20 (rt_lta hz (by decide) (by decide) hv20) hv20 ?_
    refine RT.if_ge (pc := 21) (tgt := 26) dX12_off_21 rfl (fun q21 => ?_) (fun q21 => ?_)
    · rw [if_pos q21] at h
      refine RT.aload_n (pc := 26) (k := 0) (x := a0) dX12_off_26 rfl ?_
      obtain ⟨p27, hp27, h⟩ := Option.bind_eq_some_iff.mp h
      refine RT.cVz (pc := 27) (M' := M_X12_holds) (ci := 12) (x := a0) (As := []) (st := []) (r := none) (mem1 := p27) (d' := d - 1) hz dX12_off_27 mw_X12_holds ml_X12_427 mi_X12_holds ht rfl rfl (Nat.le_of_ble_eq_true rfl) (Nat.le_of_ble_eq_true rfl) (by omega) rfl rfl (c_X12_holds hz (by omega) a0 m2 _ ht hp27) ?_
      refine RT.aload_n (pc := 30) (k := 0) (x := a0) dX12_off_30 rfl ?_
      obtain ⟨v31, hv31, h⟩ := Option.bind_eq_some_iff.mp h
      refine RT.gf 12 50 2 (pc := 31) (x := a0) (v := v31) hz dX12_off_31 fl_X12_120 rfl hv31 ?_
      refine RT.iconst (pc := 34) (n := 1) dX12_off_34 ⟨by decide, by decide⟩ ?_
      refine RT.iload_n (pc := 35) (k := 1) (x := a1) dX12_off_35 rfl ?_
      refine RT.iadd (pc := 36) dX12_off_36 ?_
      obtain ⟨v37, hv37, h⟩ := Option.bind_eq_some_iff.mp h
      refine RT.iald (pc := 37) (x := v31) (i := (rt_iadd 1 a1)) (v := v37) dX12_off_37 (rt_lta hz (by decide) (by decide) hv37) hv37 ?_
      refine RT.istore_n (pc := 38) (k := 2) (x := v37) (L1 := [(2, a0), (0, a1), (0, v37)]) dX12_off_38 (Nat.le_of_ble_eq_true rfl) rfl ?_
      refine RT.aload_n (pc := 39) (k := 0) (x := a0) dX12_off_39 rfl ?_
      obtain ⟨v40, hv40, h⟩ := Option.bind_eq_some_iff.mp h
      refine RT.gf 12 50 2 (pc := 40) (x := a0) (v := v40) hz dX12_off_40 fl_X12_120 rfl hv40 ?_
      refine RT.iconst (pc := 43) (n := 1) dX12_off_43 ⟨by decide, by decide⟩ ?_
      refine RT.iload_n (pc := 44) (k := 1) (x := a1) dX12_off_44 rfl ?_
      refine RT.iadd (pc := 45) dX12_off_45 ?_
      refine RT.iconst (pc := 46) (n := (-1)) dX12_off_46 ⟨by decide, by decide⟩ ?_
      obtain ⟨m47, hm47, h⟩ := Option.bind_eq_some_iff.mp h
      refine RT.iast (pc := 47) (x := v40) (i := (rt_iadd 1 a1)) (v := (-1)) (mem1 := m47) dX12_off_47 (rt_lts hz (by decide) (by decide) hm47) hm47 ?_
      refine RT.iload_n (pc := 48) (k := 2) (x := v37) dX12_off_48 rfl ?_
      obtain rfl := Option.some.inj h
      exact RT.iret (pc := 49) dX12_off_49 rfl (Nat.le_of_eq (rt_cells_0 z)) (Nat.le_of_eq (rt_slots_0 z)) hK
    · rw [if_neg q21] at h
      refine RT.wk (L1 := [(9, 0), (9, 0), (9, 0)]) (rt_le_j (rt_le_j (rt_le_s rt_le_n))) ?_
      exact cj_X12_off_24 hz hd ht m2 _ h hK
theorem cj_X12_mend_24 {G : rt_G} {d : Nat} {z : Nat × Nat} {Q : rt_P} (hz : 300 ≤ z.1) (hd : 2 ≤ d) {a0 : Int} (ht : rt_kd a0.toNat = 20 + 12) (mem0 : rt_M) (t : Int × rt_M) (h : j_X12_mend_24 mem0 = some t) (hK : Q (some (0, t.1)) z t.2) : RT G M_X12_mend d z Q 24 [(9, 0), (9, 0), (9, 0)] [] z mem0 := by
  unfold j_X12_mend_24 at h
  refine RT.iconst (pc := 24) (n := (-1)) dX12_mend_24 ⟨by decide, by decide⟩ ?_
  obtain rfl := Option.some.inj h
  exact RT.iret (pc := 25) dX12_mend_25 rfl (Nat.le_of_eq (rt_cells_0 z)) (Nat.le_of_eq (rt_slots_0 z)) hK
theorem c_X12_mend {G : rt_G} {d : Nat} {z : Nat × Nat} (hz : 300 ≤ z.1) (hd : 2 ≤ d) (a0 : Int) (a1 : Int) (mem0 : rt_M) (t : Int × rt_M) (ht : rt_kd a0.toNat = 20 + 12) (h : f_X12_mend a0 a1 mem0 = some t) : RM G M_X12_mend d [(2, a0), (0, a1)] z mem0 (some (0, t.1)) t.2 := by
  suffices H : ∀ Q : rt_P, Q (some (0, t.1)) z t.2 → RT G M_X12_mend d z Q 0 [(2, a0), (0, a1), (9, 0)] [] z mem0 from H _ ⟨rfl, rfl, rfl⟩
  intro Q hK
  unfold f_X12_mend at h
  refine RT.aload_n (pc := 0) (k := 0) (x := a0) dX12_mend_0 rfl ?_
  refine RT.iconst (pc := 1) (n := 0) dX12_mend_1 ⟨by decide, by decide⟩ ?_
  obtain ⟨m2, hm2, h⟩ := Option.bind_eq_some_iff.mp h
  refine RT.pf_i 12 0 (pc := 2) (mem1 := m2) hz dX12_mend_2 fl_X12_171 rfl rfl rfl hm2 ?_
  refine RT.aload_n (pc := 5) (k := 0) (x := a0) dX12_mend_5 rfl ?_
  refine RT.iload_n (pc := 6) (k := 1) (x := a1) dX12_mend_6 rfl ?_
  obtain ⟨p7, hp7, h⟩ := Option.bind_eq_some_iff.mp h
  refine RT.cVz (pc := 7) (M' := M_X12_isWig) (ci := 12) (x := a0) (As := [(0, a1)]) (st := []) (r := some (0, p7)) (mem1 := m2) (d' := d - 1) hz dX12_mend_7 mw_X12_isWig ml_X12_414 mi_X12_isWig ht rfl rfl (Nat.le_of_ble_eq_true rfl) (Nat.le_of_ble_eq_true rfl) (by omega) rfl rfl (c_X12_isWig hz (by omega) a0 a1 m2 _ ht hp7) ?_
  refine RT.if_eq (pc := 10) (tgt := 24) dX12_mend_10 rfl (fun q10 => ?_) (fun q10 => ?_)
  · rw [if_pos q10] at h
    refine RT.wk (L1 := [(9, 0), (9, 0), (9, 0)]) (rt_le_j (rt_le_j (rt_le_s rt_le_n))) ?_
    exact cj_X12_mend_24 hz hd ht m2 _ h hK
  · rw [if_neg q10] at h
    refine RT.aload_n (pc := 13) (k := 0) (x := a0) dX12_mend_13 rfl ?_
    obtain ⟨v14, hv14, h⟩ := Option.bind_eq_some_iff.mp h
    refine RT.gf 12 50 2 (pc := 14) (x := a0) (v := v14) hz dX12_mend_14 fl_X12_120 rfl hv14 ?_
    refine RT.iconst (pc := 17) (n := 1) dX12_mend_17 ⟨by decide, by decide⟩ ?_
    refine RT.iload_n (pc := 18) (k := 1) (x := a1) dX12_mend_18 rfl ?_
    refine RT.iadd (pc := 19) dX12_mend_19 ?_
    obtain ⟨v20, hv20, h⟩ := Option.bind_eq_some_iff.mp h
    refine RT.iald (pc := 20) (x := v14) (i := (rt_iadd 1 a1)) (v := v20) dX12_mend_20 (rt_lta hz (by decide) (by decide) hv20) hv20 ?_
    refine RT.if_lt (pc := 21) (tgt := 26) dX12_mend_21 rfl (fun q21 => ?_) (fun q21 => ?_)
    · rw [if_pos q21] at h
      refine RT.aload_n (pc := 26) (k := 0) (x := a0) dX12_mend_26 rfl ?_
      obtain ⟨p27, hp27, h⟩ := Option.bind_eq_some_iff.mp h
      refine RT.cVz (pc := 27) (M' := M_X12_holds) (ci := 12) (x := a0) (As := []) (st := []) (r := none) (mem1 := p27) (d' := d - 1) hz dX12_mend_27 mw_X12_holds ml_X12_427 mi_X12_holds ht rfl rfl (Nat.le_of_ble_eq_true rfl) (Nat.le_of_ble_eq_true rfl) (by omega) rfl rfl (c_X12_holds hz (by omega) a0 m2 _ ht hp27) ?_
      refine RT.aload_n (pc := 30) (k := 0) (x := a0) dX12_mend_30 rfl ?_
      obtain ⟨v31, hv31, h⟩ := Option.bind_eq_some_iff.mp h
      refine RT.gf 12 50 2 (pc := 31) (x := a0) (v := v31) hz dX12_mend_31 fl_X12_120 rfl hv31 ?_
      refine RT.bipush (pc := 34) (n := 7) dX12_mend_34 ⟨by decide, by decide⟩ rfl ?_
      refine RT.iload_n (pc := 36) (k := 1) (x := a1) dX12_mend_36 rfl ?_
      refine RT.iadd (pc := 37) dX12_mend_37 ?_
      obtain ⟨v38, hv38, h⟩ := Option.bind_eq_some_iff.mp h
      refine RT.iald (pc := 38) (x := v31) (i := (rt_iadd 7 a1)) (v := v38) dX12_mend_38 (rt_lta hz (by decide) (by decide) hv38) hv38 ?_
      refine RT.istore_n (pc := 39) (k := 2) (x := v38) (L1 := [(2, a0), (0, a1), (0, v38)]) dX12_mend_39 (Nat.le_of_ble_eq_true rfl) rfl ?_
      refine RT.aload_n (pc := 40) (k := 0) (x := a0) dX12_mend_40 rfl ?_
      obtain ⟨v41, hv41, h⟩ := Option.bind_eq_some_iff.mp h
      refine RT.gf 12 50 2 (pc := 41) (x := a0) (v := v41) hz dX12_mend_41 fl_X12_120 rfl hv41 ?_
      refine RT.bipush (pc := 44) (n := 7) dX12_mend_44 ⟨by decide, by decide⟩ rfl ?_
      refine RT.iload_n (pc := 46) (k := 1) (x := a1) dX12_mend_46 rfl ?_
      refine RT.iadd (pc := 47) dX12_mend_47 ?_
      refine RT.iconst (pc := 48) (n := 0) dX12_mend_48 ⟨by decide, by decide⟩ ?_
      obtain ⟨m49, hm49, h⟩ := Option.bind_eq_some_iff.mp h
      refine RT.iast (pc := 49) (x := v41) (i := (rt_iadd 7 a1)) (v := 0) (mem1 := m49) dX12_mend_49 (rt_lts hz (by decide) (by decide) hm49) hm49 ?_
      refine RT.iload_n (pc := 50) (k := 2) (x := v38) dX12_mend_50 rfl ?_
      obtain rfl := Option.some.inj h
      exact RT.iret (pc := 51) dX12_mend_51 rfl (Nat.le_of_eq (rt_cells_0 z)) (Nat.le_of_eq (rt_slots_0 z)) hK
    · rw [if_neg q21] at h
      refine RT.wk (L1 := [(9, 0), (9, 0), (9, 0)]) (rt_le_j (rt_le_j (rt_le_s rt_le_n))) ?_
      exact cj_X12_mend_24 hz hd ht m2 _ h hK
theorem c_X12_season {G : rt_G} {d : Nat} {z : Nat × Nat} (hz : 300 ≤ z.1) (hd : 7 ≤ d) (a0 : Int) (mem0 : rt_M) (t : Int × rt_M) (ht : rt_kd a0.toNat = 20 + 12) (h : f_X12_season a0 mem0 = some t) : RM G M_X12_season d [(2, a0)] z mem0 (some (0, t.1)) t.2 := by
  suffices H : ∀ Q : rt_P, Q (some (0, t.1)) z t.2 → RT G M_X12_season d z Q 0 [(2, a0)] [] z mem0 from H _ ⟨rfl, rfl, rfl⟩
  intro Q hK
  unfold f_X12_season at h
  refine RT.aload_n (pc := 0) (k := 0) (x := a0) dX12_season_0 rfl ?_
  refine RT.iconst (pc := 1) (n := 0) dX12_season_1 ⟨by decide, by decide⟩ ?_
  obtain ⟨m2, hm2, h⟩ := Option.bind_eq_some_iff.mp h
  refine RT.pf_i 12 0 (pc := 2) (mem1 := m2) hz dX12_season_2 fl_X12_171 rfl rfl rfl hm2 ?_
  refine RT.aload_n (pc := 5) (k := 0) (x := a0) dX12_season_5 rfl ?_
  obtain ⟨p6, hp6, h⟩ := Option.bind_eq_some_iff.mp h
  refine RT.cVz (pc := 6) (M' := M_X12_holds) (ci := 12) (x := a0) (As := []) (st := []) (r := none) (mem1 := p6) (d' := d - 1) hz dX12_season_6 mw_X12_holds ml_X12_427 mi_X12_holds ht rfl rfl (Nat.le_of_ble_eq_true rfl) (Nat.le_of_ble_eq_true rfl) (by omega) rfl rfl (c_X12_holds hz (by omega) a0 m2 _ ht hp6) ?_
  refine RT.aload_n (pc := 9) (k := 0) (x := a0) dX12_season_9 rfl ?_
  obtain ⟨p10, hp10, h⟩ := Option.bind_eq_some_iff.mp h
  refine RT.cVz (pc := 10) (M' := M_X12_forgets) (ci := 12) (x := a0) (As := []) (st := []) (r := none) (mem1 := p10) (d' := d - 1) hz dX12_season_10 mw_X12_forgets ml_X12_168 mi_X12_forgets ht rfl rfl (Nat.le_of_ble_eq_true rfl) (Nat.le_of_ble_eq_true rfl) (by omega) rfl rfl (c_X12_forgets hz (by omega) a0 p6 _ ht hp10) ?_
  refine RT.aload_n (pc := 13) (k := 0) (x := a0) dX12_season_13 rfl ?_
  obtain ⟨p14, hp14, h⟩ := Option.bind_eq_some_iff.mp h
  refine RT.cVz (pc := 14) (M' := M_X12_passes) (ci := 12) (x := a0) (As := []) (st := []) (r := some (0, p14.1)) (mem1 := p14.2) (d' := d - 1) hz dX12_season_14 mw_X12_passes ml_X12_430 mi_X12_passes ht rfl rfl (Nat.le_of_ble_eq_true rfl) (Nat.le_of_ble_eq_true rfl) (by omega) rfl rfl (c_X12_passes hz (by omega) a0 p10 _ ht hp14) ?_
  obtain rfl := Option.some.inj h
  exact RT.iret (pc := 17) dX12_season_17 rfl (Nat.le_of_eq (rt_cells_0 z)) (Nat.le_of_eq (rt_slots_0 z)) hK
theorem c_X12_undo {G : rt_G} {d : Nat} {z : Nat × Nat} (hz : 300 ≤ z.1) (hd : 1 ≤ d) (a0 : Int) (mem0 : rt_M) (t : Int × rt_M) (ht : rt_kd a0.toNat = 20 + 12) (h : f_X12_undo a0 mem0 = some t) : RM G M_X12_undo d [(2, a0)] z mem0 (some (0, t.1)) t.2 := by
  suffices H : ∀ Q : rt_P, Q (some (0, t.1)) z t.2 → RT G M_X12_undo d z Q 0 [(2, a0)] [] z mem0 from H _ ⟨rfl, rfl, rfl⟩
  intro Q hK
  unfold f_X12_undo at h
  refine RT.aload_n (pc := 0) (k := 0) (x := a0) dX12_undo_0 rfl ?_
  refine RT.iconst (pc := 1) (n := 0) dX12_undo_1 ⟨by decide, by decide⟩ ?_
  obtain ⟨m2, hm2, h⟩ := Option.bind_eq_some_iff.mp h
  refine RT.pf_i 12 0 (pc := 2) (mem1 := m2) hz dX12_undo_2 fl_X12_171 rfl rfl rfl hm2 ?_
  refine RT.aload_n (pc := 5) (k := 0) (x := a0) dX12_undo_5 rfl ?_
  obtain ⟨v6, hv6, h⟩ := Option.bind_eq_some_iff.mp h
  refine RT.gf 12 55 0 (pc := 6) (x := a0) (v := v6) hz dX12_undo_6 fl_X12_376 rfl hv6 ?_
  refine RT.if_ne (pc := 9) (tgt := 14) dX12_undo_9 rfl (fun q9 => ?_) (fun q9 => ?_)
  · rw [if_neg q9] at h
    refine RT.aload_n (pc := 14) (k := 0) (x := a0) dX12_undo_14 rfl ?_
    refine RT.dup (pc := 15) dX12_undo_15 (show ¬ ((2 : Nat) = 1) by decide) ?_
    obtain ⟨v16, hv16, h⟩ := Option.bind_eq_some_iff.mp h
    refine RT.gf 12 55 0 (pc := 16) (x := a0) (v := v16) hz dX12_undo_16 fl_X12_376 rfl hv16 ?_
    refine RT.iconst (pc := 19) (n := 1) dX12_undo_19 ⟨by decide, by decide⟩ ?_
    refine RT.isub (pc := 20) dX12_undo_20 ?_
    obtain ⟨m21, hm21, h⟩ := Option.bind_eq_some_iff.mp h
    refine RT.pf_i 12 55 (pc := 21) (mem1 := m21) hz dX12_undo_21 fl_X12_376 rfl rfl rfl hm21 ?_
    refine RT.aload_n (pc := 24) (k := 0) (x := a0) dX12_undo_24 rfl ?_
    obtain ⟨v25, hv25, h⟩ := Option.bind_eq_some_iff.mp h
    refine RT.gf 12 53 2 (pc := 25) (x := a0) (v := v25) hz dX12_undo_25 fl_X12_129 rfl hv25 ?_
    refine RT.bipush (pc := 28) (n := 13) dX12_undo_28 ⟨by decide, by decide⟩ rfl ?_
    refine RT.aload_n (pc := 30) (k := 0) (x := a0) dX12_undo_30 rfl ?_
    obtain ⟨v31, hv31, h⟩ := Option.bind_eq_some_iff.mp h
    refine RT.gf 12 55 0 (pc := 31) (x := a0) (v := v31) hz dX12_undo_31 fl_X12_376 rfl hv31 ?_
    refine RT.imul (pc := 34) dX12_undo_34 ?_
    refine RT.aload_n (pc := 35) (k := 0) (x := a0) dX12_undo_35 rfl ?_
    obtain ⟨v36, hv36, h⟩ := Option.bind_eq_some_iff.mp h
    refine RT.gf 12 50 2 (pc := 36) (x := a0) (v := v36) hz dX12_undo_36 fl_X12_120 rfl hv36 ?_
    refine RT.iconst (pc := 39) (n := 0) dX12_undo_39 ⟨by decide, by decide⟩ ?_
    obtain ⟨p40, hp40, h⟩ := Option.bind_eq_some_iff.mp h
    refine RT.cSz (pc := 40) (M' := M_X12_copies) (As := [(2, v25), (0, (rt_imul 13 v31)), (2, v36), (0, 0)]) (st := []) (r := none) (mem1 := p40) (d' := d - 1) dX12_undo_40 mw_X12_copies ml_X12_420 mi_X12_copies rfl rfl (Nat.le_of_ble_eq_true rfl) (Nat.le_of_ble_eq_true rfl) (by omega) rfl rfl (c_X12_copies hz (by omega) v25 ((rt_imul 13 v31)) v36 0 m21 _ hp40) ?_
    refine RT.aload_n (pc := 43) (k := 0) (x := a0) dX12_undo_43 rfl ?_
    obtain ⟨p44, hp44, h⟩ := Option.bind_eq_some_iff.mp h
    refine RT.cVz (pc := 44) (M' := M_X12_forgets) (ci := 12) (x := a0) (As := []) (st := []) (r := none) (mem1 := p44) (d' := d - 1) hz dX12_undo_44 mw_X12_forgets ml_X12_168 mi_X12_forgets ht rfl rfl (Nat.le_of_ble_eq_true rfl) (Nat.le_of_ble_eq_true rfl) (by omega) rfl rfl (c_X12_forgets hz (by omega) a0 p40 _ ht hp44) ?_
    refine RT.iconst (pc := 47) (n := 1) dX12_undo_47 ⟨by decide, by decide⟩ ?_
    obtain rfl := Option.some.inj h
    exact RT.zret (pc := 48) dX12_undo_48 rfl (by decide) (Nat.le_of_eq (rt_cells_0 z)) (Nat.le_of_eq (rt_slots_0 z)) hK
  · rw [if_pos (Classical.not_not.mp q9)] at h
    refine RT.iconst (pc := 12) (n := 0) dX12_undo_12 ⟨by decide, by decide⟩ ?_
    obtain rfl := Option.some.inj h
    exact RT.zret (pc := 13) dX12_undo_13 rfl (by decide) (Nat.le_of_eq (rt_cells_0 z)) (Nat.le_of_eq (rt_slots_0 z)) hK
theorem cj_X12_goes_107 {G : rt_G} {d : Nat} {z : Nat × Nat} {Q : rt_P} (hz : 300 ≤ z.1) (hd : 7 ≤ d) {a0 : Int} (ht : rt_kd a0.toNat = 20 + 12) (mem0 : rt_M) (t : Int × rt_M) (h : j_X12_goes_107 mem0 = some t) (hK : Q (some (0, t.1)) z t.2) : RT G M_X12_goes d z Q 107 [(9, 0), (9, 0), (9, 0)] [] z mem0 := by
  unfold j_X12_goes_107 at h
  refine RT.iconst (pc := 107) (n := 1) dX12_goes_107 ⟨by decide, by decide⟩ ?_
  obtain rfl := Option.some.inj h
  exact RT.zret (pc := 108) dX12_goes_108 rfl (by decide) (Nat.le_of_eq (rt_cells_0 z)) (Nat.le_of_eq (rt_slots_0 z)) hK
theorem c_X12_goes {G : rt_G} {d : Nat} {z : Nat × Nat} (hz : 300 ≤ z.1) (hd : 7 ≤ d) (a0 : Int) (a1 : Int) (mem0 : rt_M) (t : Int × rt_M) (ht : rt_kd a0.toNat = 20 + 12) (h : f_X12_goes a0 a1 mem0 = some t) : RM G M_X12_goes d [(2, a0), (0, a1)] z mem0 (some (0, t.1)) t.2 := by
  suffices H : ∀ Q : rt_P, Q (some (0, t.1)) z t.2 → RT G M_X12_goes d z Q 0 [(2, a0), (0, a1), (9, 0)] [] z mem0 from H _ ⟨rfl, rfl, rfl⟩
  intro Q hK
  unfold f_X12_goes at h
  refine RT.aload_n (pc := 0) (k := 0) (x := a0) dX12_goes_0 rfl ?_
  obtain ⟨v1, hv1, h⟩ := Option.bind_eq_some_iff.mp h
  refine RT.gf 12 43 2 (pc := 1) (x := a0) (v := v1) hz dX12_goes_1 fl_X12_99 rfl hv1 ?_
  refine RT.iload_n (pc := 4) (k := 1) (x := a1) dX12_goes_4 rfl ?_
  obtain ⟨v5, hv5, h⟩ := Option.bind_eq_some_iff.mp h
  refine RT.iald (pc := 5) (x := v1) (i := a1) (v := v5) dX12_goes_5 (rt_lta hz (by decide) (by decide) hv5) hv5 ?_
  refine RT.istore_n (pc := 6) (k := 2) (x := v5) (L1 := [(2, a0), (0, a1), (0, v5)]) dX12_goes_6 (Nat.le_of_ble_eq_true rfl) rfl ?_
  refine RT.aload_n (pc := 7) (k := 0) (x := a0) dX12_goes_7 rfl ?_
  obtain ⟨v8, hv8, h⟩ := Option.bind_eq_some_iff.mp h
  refine RT.gf 12 42 2 (pc := 8) (x := a0) (v := v8) hz dX12_goes_8 fl_X12_96 rfl hv8 ?_
  refine RT.iload_n (pc := 11) (k := 1) (x := a1) dX12_goes_11 rfl ?_
  obtain ⟨v12, hv12, h⟩ := Option.bind_eq_some_iff.mp h
  refine RT.iald (pc := 12) (x := v8) (i := a1) (v := v12) dX12_goes_12 (rt_lta hz (by decide) (by decide) hv12) hv12 ?_
  refine RT.if_ne (pc := 13) (tgt := 49) dX12_goes_13 rfl (fun q13 => ?_) (fun q13 => ?_)
  · rw [if_neg q13] at h
    refine RT.aload_n (pc := 49) (k := 0) (x := a0) dX12_goes_49 rfl ?_
    obtain ⟨v50, hv50, h⟩ := Option.bind_eq_some_iff.mp h
    refine RT.gf 12 42 2 (pc := 50) (x := a0) (v := v50) hz dX12_goes_50 fl_X12_96 rfl hv50 ?_
    refine RT.iload_n (pc := 53) (k := 1) (x := a1) dX12_goes_53 rfl ?_
    obtain ⟨v54, hv54, h⟩ := Option.bind_eq_some_iff.mp h
    refine RT.iald (pc := 54) (x := v50) (i := a1) (v := v54) dX12_goes_54 (rt_lta hz (by decide) (by decide) hv54) hv54 ?_
    refine RT.iconst (pc := 55) (n := 1) dX12_goes_55 ⟨by decide, by decide⟩ ?_
    refine RT.icmp_ne (pc := 56) (tgt := 84) dX12_goes_56 rfl (fun q56 => ?_) (fun q56 => ?_)
    · rw [if_neg q56] at h
      refine RT.aload_n (pc := 84) (k := 0) (x := a0) dX12_goes_84 rfl ?_
      obtain ⟨v85, hv85, h⟩ := Option.bind_eq_some_iff.mp h
      refine RT.gf 12 50 2 (pc := 85) (x := a0) (v := v85) hz dX12_goes_85 fl_X12_120 rfl hv85 ?_
      refine RT.iconst (pc := 88) (n := 1) dX12_goes_88 ⟨by decide, by decide⟩ ?_
      refine RT.iload_n (pc := 89) (k := 2) (x := v5) dX12_goes_89 rfl ?_
      refine RT.iadd (pc := 90) dX12_goes_90 ?_
      obtain ⟨v91, hv91, h⟩ := Option.bind_eq_some_iff.mp h
      refine RT.iald (pc := 91) (x := v85) (i := (rt_iadd 1 v5)) (v := v91) dX12_goes_91 (rt_lta hz (by decide) (by decide) hv91) hv91 ?_
      refine RT.if_lt (pc := 92) (tgt := 97) dX12_goes_92 rfl (fun q92 => ?_) (fun q92 => ?_)
      · rw [if_pos q92] at h
        refine RT.aload_n (pc := 97) (k := 0) (x := a0) dX12_goes_97 rfl ?_
        obtain ⟨v98, hv98, h⟩ := Option.bind_eq_some_iff.mp h
        refine RT.gf 12 50 2 (pc := 98) (x := a0) (v := v98) hz dX12_goes_98 fl_X12_120 rfl hv98 ?_
        refine RT.bipush (pc := 101) (n := 7) dX12_goes_101 ⟨by decide, by decide⟩ rfl ?_
        refine RT.iload_n (pc := 103) (k := 2) (x := v5) dX12_goes_103 rfl ?_
        refine RT.iadd (pc := 104) dX12_goes_104 ?_
        refine RT.iconst (pc := 105) (n := 0) dX12_goes_105 ⟨by decide, by decide⟩ ?_
        obtain ⟨m106, hm106, h⟩ := Option.bind_eq_some_iff.mp h
        refine RT.iast (pc := 106) (x := v98) (i := (rt_iadd 7 v5)) (v := 0) (mem1 := m106) dX12_goes_106 (rt_lts hz (by decide) (by decide) hm106) hm106 ?_
        refine RT.wk (L1 := [(9, 0), (9, 0), (9, 0)]) (rt_le_j (rt_le_j (rt_le_j rt_le_n))) ?_
        exact cj_X12_goes_107 hz hd ht m106 _ h hK
      · rw [if_neg q92] at h
        refine RT.iconst (pc := 95) (n := 0) dX12_goes_95 ⟨by decide, by decide⟩ ?_
        obtain rfl := Option.some.inj h
        exact RT.zret (pc := 96) dX12_goes_96 rfl (by decide) (Nat.le_of_eq (rt_cells_0 z)) (Nat.le_of_eq (rt_slots_0 z)) hK
    · rw [if_pos (Classical.not_not.mp q56)] at h
      refine RT.aload_n (pc := 59) (k := 0) (x := a0) dX12_goes_59 rfl ?_
      obtain ⟨v60, hv60, h⟩ := Option.bind_eq_some_iff.mp h
      refine RT.gf 12 50 2 (pc := 60) (x := a0) (v := v60) hz dX12_goes_60 fl_X12_120 rfl hv60 ?_
      refine RT.iconst (pc := 63) (n := 1) dX12_goes_63 ⟨by decide, by decide⟩ ?_
      refine RT.iload_n (pc := 64) (k := 2) (x := v5) dX12_goes_64 rfl ?_
      refine RT.iadd (pc := 65) dX12_goes_65 ?_
      obtain ⟨v66, hv66, h⟩ := Option.bind_eq_some_iff.mp h
      refine RT.iald (pc := 66) (x := v60) (i := (rt_iadd 1 v5)) (v := v66) dX12_goes_66 (rt_lta hz (by decide) (by decide) hv66) hv66 ?_
      refine RT.if_ge (pc := 67) (tgt := 72) dX12_goes_67 rfl (fun q67 => ?_) (fun q67 => ?_)
      · rw [if_pos q67] at h
        refine RT.aload_n (pc := 72) (k := 0) (x := a0) dX12_goes_72 rfl ?_
        obtain ⟨v73, hv73, h⟩ := Option.bind_eq_some_iff.mp h
        refine RT.gf 12 50 2 (pc := 73) (x := a0) (v := v73) hz dX12_goes_73 fl_X12_120 rfl hv73 ?_
        refine RT.iconst (pc := 76) (n := 1) dX12_goes_76 ⟨by decide, by decide⟩ ?_
        refine RT.iload_n (pc := 77) (k := 2) (x := v5) dX12_goes_77 rfl ?_
        refine RT.iadd (pc := 78) dX12_goes_78 ?_
        refine RT.iconst (pc := 79) (n := (-1)) dX12_goes_79 ⟨by decide, by decide⟩ ?_
        obtain ⟨m80, hm80, h⟩ := Option.bind_eq_some_iff.mp h
        refine RT.iast (pc := 80) (x := v73) (i := (rt_iadd 1 v5)) (v := (-1)) (mem1 := m80) dX12_goes_80 (rt_lts hz (by decide) (by decide) hm80) hm80 ?_
        refine RT.goto (pc := 81) (tgt := 107) dX12_goes_81 rfl ?_
        refine RT.wk (L1 := [(9, 0), (9, 0), (9, 0)]) (rt_le_j (rt_le_j (rt_le_j rt_le_n))) ?_
        exact cj_X12_goes_107 hz hd ht m80 _ h hK
      · rw [if_neg q67] at h
        refine RT.iconst (pc := 70) (n := 0) dX12_goes_70 ⟨by decide, by decide⟩ ?_
        obtain rfl := Option.some.inj h
        exact RT.zret (pc := 71) dX12_goes_71 rfl (by decide) (Nat.le_of_eq (rt_cells_0 z)) (Nat.le_of_eq (rt_slots_0 z)) hK
  · rw [if_pos (Classical.not_not.mp q13)] at h
    refine RT.aload_n (pc := 16) (k := 0) (x := a0) dX12_goes_16 rfl ?_
    refine RT.iload_n (pc := 17) (k := 2) (x := v5) dX12_goes_17 rfl ?_
    refine RT.aload_n (pc := 18) (k := 0) (x := a0) dX12_goes_18 rfl ?_
    obtain ⟨v19, hv19, h⟩ := Option.bind_eq_some_iff.mp h
    refine RT.gf 12 44 2 (pc := 19) (x := a0) (v := v19) hz dX12_goes_19 fl_X12_102 rfl hv19 ?_
    refine RT.iload_n (pc := 22) (k := 1) (x := a1) dX12_goes_22 rfl ?_
    obtain ⟨v23, hv23, h⟩ := Option.bind_eq_some_iff.mp h
    refine RT.iald (pc := 23) (x := v19) (i := a1) (v := v23) dX12_goes_23 (rt_lta hz (by decide) (by decide) hv23) hv23 ?_
    obtain ⟨p24, hp24, h⟩ := Option.bind_eq_some_iff.mp h
    refine RT.cVz (pc := 24) (M' := M_X12_canPut) (ci := 12) (x := a0) (As := [(0, v5), (0, v23)]) (st := []) (r := some (0, p24.1)) (mem1 := p24.2) (d' := d - 1) hz dX12_goes_24 mw_X12_canPut ml_X12_424 mi_X12_canPut ht rfl rfl (Nat.le_of_ble_eq_true rfl) (Nat.le_of_ble_eq_true rfl) (by omega) rfl rfl (c_X12_canPut hz (by omega) a0 v5 v23 mem0 _ ht hp24) ?_
    refine RT.if_ne (pc := 27) (tgt := 32) dX12_goes_27 rfl (fun q27 => ?_) (fun q27 => ?_)
    · rw [if_neg q27] at h
      refine RT.aload_n (pc := 32) (k := 0) (x := a0) dX12_goes_32 rfl ?_
      obtain ⟨v33, hv33, h⟩ := Option.bind_eq_some_iff.mp h
      refine RT.gf 12 50 2 (pc := 33) (x := a0) (v := v33) hz dX12_goes_33 fl_X12_120 rfl hv33 ?_
      refine RT.iconst (pc := 36) (n := 1) dX12_goes_36 ⟨by decide, by decide⟩ ?_
      refine RT.iload_n (pc := 37) (k := 2) (x := v5) dX12_goes_37 rfl ?_
      refine RT.iadd (pc := 38) dX12_goes_38 ?_
      refine RT.aload_n (pc := 39) (k := 0) (x := a0) dX12_goes_39 rfl ?_
      obtain ⟨v40, hv40, h⟩ := Option.bind_eq_some_iff.mp h
      refine RT.gf 12 44 2 (pc := 40) (x := a0) (v := v40) hz dX12_goes_40 fl_X12_102 rfl hv40 ?_
      refine RT.iload_n (pc := 43) (k := 1) (x := a1) dX12_goes_43 rfl ?_
      obtain ⟨v44, hv44, h⟩ := Option.bind_eq_some_iff.mp h
      refine RT.iald (pc := 44) (x := v40) (i := a1) (v := v44) dX12_goes_44 (rt_lta hz (by decide) (by decide) hv44) hv44 ?_
      obtain ⟨m45, hm45, h⟩ := Option.bind_eq_some_iff.mp h
      refine RT.iast (pc := 45) (x := v33) (i := (rt_iadd 1 v5)) (v := v44) (mem1 := m45) dX12_goes_45 (rt_lts hz (by decide) (by decide) hm45) hm45 ?_
      refine RT.goto (pc := 46) (tgt := 107) dX12_goes_46 rfl ?_
      refine RT.wk (L1 := [(9, 0), (9, 0), (9, 0)]) (rt_le_j (rt_le_j (rt_le_j rt_le_n))) ?_
      exact cj_X12_goes_107 hz hd ht m45 _ h hK
    · rw [if_pos (Classical.not_not.mp q27)] at h
      refine RT.iconst (pc := 30) (n := 0) dX12_goes_30 ⟨by decide, by decide⟩ ?_
      obtain rfl := Option.some.inj h
      exact RT.zret (pc := 31) dX12_goes_31 rfl (by decide) (Nat.le_of_eq (rt_cells_0 z)) (Nat.le_of_eq (rt_slots_0 z)) hK
theorem cj_X12_judged_96_41 {G : rt_G} {d : Nat} {z : Nat × Nat} {Q : rt_P} (hz : 300 ≤ z.1) (hd : 8 ≤ d) {a0 : Int} (ht : rt_kd a0.toNat = 20 + 12) (a1 : Int) (a2 : Int) (a3 : Int) (a4 : Int) (mem0 : rt_M) (t : (Int × Int × Int × rt_M) ⊕ (Int × Int × rt_M)) (h : j_X12_judged_96_41 a0 a1 a2 a3 a4 mem0 = some t) (hK : (∀ s1 : Int × Int × Int × rt_M, t = .inl s1 → RT G M_X12_judged d z Q 41 [(2, a0), (0, a1), (0, s1.1), (0, s1.2.1), (0, s1.2.2.1)] [] z s1.2.2.2) ∧ (∀ x1 : Int × Int × rt_M, t = .inr x1 → RT G M_X12_judged d z Q 102 [(2, a0), (0, a1), (0, x1.1), (0, x1.2.1), (9, 0)] [] z x1.2.2)) : RT G M_X12_judged d z Q 96 [(2, a0), (0, a1), (0, a2), (0, a3), (0, a4)] [] z mem0 := by
  unfold j_X12_judged_96_41 at h
  refine RT.iinc (pc := 96) (x := a4) (L1 := [(2, a0), (0, a1), (0, a2), (0, a3), (0, (rt_iadd a4 1))]) dX12_judged_96 rfl (Nat.le_of_ble_eq_true rfl) ⟨by decide, by decide⟩ rfl ?_
  refine RT.goto (pc := 99) (tgt := 41) dX12_judged_99 rfl ?_
  obtain rfl := Option.some.inj h
  have q1 := hK.1 ((a2, a3, (rt_iadd a4 1), mem0)) rfl
  try dsimp only at q1
  exact q1
theorem cb_X12_judged_41 {G : rt_G} {d : Nat} {z : Nat × Nat} {Q : rt_P} (hz : 300 ≤ z.1) (hd : 8 ≤ d) {a0 : Int} (ht : rt_kd a0.toNat = 20 + 12) (a1 : Int) (s : Int × Int × Int × rt_M) (t : (Int × Int × Int × rt_M) ⊕ (Int × Int × rt_M)) (h : b_X12_judged_41 a0 a1 s = some t) (hK : (∀ s1 : Int × Int × Int × rt_M, t = .inl s1 → RT G M_X12_judged d z Q 41 [(2, a0), (0, a1), (0, s1.1), (0, s1.2.1), (0, s1.2.2.1)] [] z s1.2.2.2) ∧ (∀ x1 : Int × Int × rt_M, t = .inr x1 → RT G M_X12_judged d z Q 102 [(2, a0), (0, a1), (0, x1.1), (0, x1.2.1), (9, 0)] [] z x1.2.2)) : RT G M_X12_judged d z Q 41 [(2, a0), (0, a1), (0, s.1), (0, s.2.1), (0, s.2.2.1)] [] z s.2.2.2 := by
  unfold b_X12_judged_41 at h
  refine RT.iload (pc := 41) (k := 4) (x := s.2.2.1) dX12_judged_41 rfl ?_
  refine RT.aload_n (pc := 43) (k := 0) (x := a0) dX12_judged_43 rfl ?_
  obtain ⟨v44, hv44, h⟩ := Option.bind_eq_some_iff.mp h
  refine RT.gf 12 41 2 (pc := 44) (x := a0) (v := v44) hz dX12_judged_44 fl_X12_93 rfl hv44 ?_
  refine RT.iconst (pc := 47) (n := 0) dX12_judged_47 ⟨by decide, by decide⟩ ?_
  obtain ⟨v48, hv48, h⟩ := Option.bind_eq_some_iff.mp h
  refine RT.iald (pc := 48) (x := v44) (i := 0) (v := v48) dX12_judged_48 (rt_lta hz (by decide) (by decide) hv48) hv48 ?_
  refine RT.icmp_ge (pc := 49) (tgt := 102) dX12_judged_49 rfl (fun q49 => ?_) (fun q49 => ?_)
  · rw [if_pos q49] at h
    refine RT.wk (L1 := [(2, a0), (0, a1), (0, s.1), (0, s.2.1), (9, 0)]) (rt_le_s (rt_le_s (rt_le_s (rt_le_s (rt_le_j rt_le_n))))) ?_
    obtain rfl := Option.some.inj h
    have q1 := hK.2 ((s.1, s.2.1, s.2.2.2)) rfl
    try dsimp only at q1
    exact q1
  · rw [if_neg q49] at h
    refine RT.aload_n (pc := 52) (k := 0) (x := a0) dX12_judged_52 rfl ?_
    obtain ⟨v53, hv53, h⟩ := Option.bind_eq_some_iff.mp h
    refine RT.gf 12 42 2 (pc := 53) (x := a0) (v := v53) hz dX12_judged_53 fl_X12_96 rfl hv53 ?_
    refine RT.iload (pc := 56) (k := 4) (x := s.2.2.1) dX12_judged_56 rfl ?_
    obtain ⟨v58, hv58, h⟩ := Option.bind_eq_some_iff.mp h
    refine RT.iald (pc := 58) (x := v53) (i := s.2.2.1) (v := v58) dX12_judged_58 (rt_lta hz (by decide) (by decide) hv58) hv58 ?_
    refine RT.iconst (pc := 59) (n := 3) dX12_judged_59 ⟨by decide, by decide⟩ ?_
    refine RT.icmp_ne (pc := 60) (tgt := 80) dX12_judged_60 rfl (fun q60 => ?_) (fun q60 => ?_)
    · rw [if_neg q60] at h
      refine RT.aload_n (pc := 80) (k := 0) (x := a0) dX12_judged_80 rfl ?_
      refine RT.iload (pc := 81) (k := 4) (x := s.2.2.1) dX12_judged_81 rfl ?_
      obtain ⟨p83, hp83, h⟩ := Option.bind_eq_some_iff.mp h
      refine RT.cVz (pc := 83) (M' := M_X12_goes) (ci := 12) (x := a0) (As := [(0, s.2.2.1)]) (st := []) (r := some (0, p83.1)) (mem1 := p83.2) (d' := d - 1) hz dX12_judged_83 mw_X12_goes ml_X12_433 mi_X12_goes ht rfl rfl (Nat.le_of_ble_eq_true rfl) (Nat.le_of_ble_eq_true rfl) (by omega) rfl rfl (c_X12_goes hz (by omega) a0 s.2.2.1 s.2.2.2 _ ht hp83) ?_
      refine RT.if_ne (pc := 86) (tgt := 96) dX12_judged_86 rfl (fun q86 => ?_) (fun q86 => ?_)
      · rw [if_neg q86] at h
        exact cj_X12_judged_96_41 hz hd ht a1 s.1 s.2.1 s.2.2.1 p83.2 _ h hK
      · rw [if_pos (Classical.not_not.mp q86)] at h
        refine RT.iload_n (pc := 89) (k := 2) (x := s.1) dX12_judged_89 rfl ?_
        refine RT.if_ge (pc := 90) (tgt := 96) dX12_judged_90 rfl (fun q90 => ?_) (fun q90 => ?_)
        · rw [if_pos q90] at h
          exact cj_X12_judged_96_41 hz hd ht a1 s.1 s.2.1 s.2.2.1 p83.2 _ h hK
        · rw [if_neg q90] at h
          refine RT.iload (pc := 93) (k := 4) (x := s.2.2.1) dX12_judged_93 rfl ?_
          refine RT.istore_n (pc := 95) (k := 2) (x := s.2.2.1) (L1 := [(2, a0), (0, a1), (0, s.2.2.1), (0, s.2.1), (0, s.2.2.1)]) dX12_judged_95 (Nat.le_of_ble_eq_true rfl) rfl ?_
          exact cj_X12_judged_96_41 hz hd ht a1 s.2.2.1 s.2.1 s.2.2.1 p83.2 _ h hK
    · rw [if_pos (Classical.not_not.mp q60)] at h
      refine RT.aload_n (pc := 63) (k := 0) (x := a0) dX12_judged_63 rfl ?_
      obtain ⟨p64, hp64, h⟩ := Option.bind_eq_some_iff.mp h
      refine RT.cVz (pc := 64) (M' := M_X12_passes) (ci := 12) (x := a0) (As := []) (st := []) (r := some (0, p64.1)) (mem1 := p64.2) (d' := d - 1) hz dX12_judged_64 mw_X12_passes ml_X12_430 mi_X12_passes ht rfl rfl (Nat.le_of_ble_eq_true rfl) (Nat.le_of_ble_eq_true rfl) (by omega) rfl rfl (c_X12_passes hz (by omega) a0 s.2.2.2 _ ht hp64) ?_
      refine RT.if_le (pc := 67) (tgt := 96) dX12_judged_67 rfl (fun q67 => ?_) (fun q67 => ?_)
      · rw [if_pos q67] at h
        exact cj_X12_judged_96_41 hz hd ht a1 s.1 s.2.1 s.2.2.1 p64.2 _ h hK
      · rw [if_neg q67] at h
        refine RT.iload_n (pc := 70) (k := 3) (x := s.2.1) dX12_judged_70 rfl ?_
        refine RT.if_ge (pc := 71) (tgt := 96) dX12_judged_71 rfl (fun q71 => ?_) (fun q71 => ?_)
        · rw [if_pos q71] at h
          exact cj_X12_judged_96_41 hz hd ht a1 s.1 s.2.1 s.2.2.1 p64.2 _ h hK
        · rw [if_neg q71] at h
          refine RT.iload (pc := 74) (k := 4) (x := s.2.2.1) dX12_judged_74 rfl ?_
          refine RT.istore_n (pc := 76) (k := 3) (x := s.2.2.1) (L1 := [(2, a0), (0, a1), (0, s.1), (0, s.2.2.1), (0, s.2.2.1)]) dX12_judged_76 (Nat.le_of_ble_eq_true rfl) rfl ?_
          refine RT.goto (pc := 77) (tgt := 96) dX12_judged_77 rfl ?_
          exact cj_X12_judged_96_41 hz hd ht a1 s.1 s.2.2.1 s.2.2.1 p64.2 _ h hK
theorem cj_X12_judged_144 {G : rt_G} {d : Nat} {z : Nat × Nat} {Q : rt_P} (hz : 300 ≤ z.1) (hd : 8 ≤ d) {a0 : Int} (ht : rt_kd a0.toNat = 20 + 12) (s0 : Int) (mem0 : rt_M) (t : Int × rt_M) (h : j_X12_judged_144 s0 mem0 = some t) (hK : Q (some (0, t.1)) z t.2) : RT G M_X12_judged d z Q 144 [(9, 0), (9, 0), (9, 0), (9, 0), (9, 0)] [(0, s0)] z mem0 := by
  unfold j_X12_judged_144 at h
  obtain rfl := Option.some.inj h
  exact RT.iret (pc := 144) dX12_judged_144 rfl (Nat.le_of_eq (rt_cells_0 z)) (Nat.le_of_eq (rt_slots_0 z)) hK
theorem c_X12_judged {G : rt_G} {d : Nat} {z : Nat × Nat} (hz : 300 ≤ z.1) (hd : 8 ≤ d) (a0 : Int) (a1 : Int) (mem0 : rt_M) (t : Int × rt_M) (ht : rt_kd a0.toNat = 20 + 12) (h : f_X12_judged a0 a1 mem0 = some t) : RM G M_X12_judged d [(2, a0), (0, a1)] z mem0 (some (0, t.1)) t.2 := by
  suffices H : ∀ Q : rt_P, Q (some (0, t.1)) z t.2 → RT G M_X12_judged d z Q 0 [(2, a0), (0, a1), (9, 0), (9, 0), (9, 0)] [] z mem0 from H _ ⟨rfl, rfl, rfl⟩
  intro Q hK
  unfold f_X12_judged at h
  refine RT.aload_n (pc := 0) (k := 0) (x := a0) dX12_judged_0 rfl ?_
  refine RT.iconst (pc := 1) (n := 0) dX12_judged_1 ⟨by decide, by decide⟩ ?_
  obtain ⟨m2, hm2, h⟩ := Option.bind_eq_some_iff.mp h
  refine RT.pf_i 12 0 (pc := 2) (mem1 := m2) hz dX12_judged_2 fl_X12_171 rfl rfl rfl hm2 ?_
  refine RT.iload_n (pc := 5) (k := 1) (x := a1) dX12_judged_5 rfl ?_
  refine RT.iconst (pc := 6) (n := 0) dX12_judged_6 ⟨by decide, by decide⟩ ?_
  refine RT.iconst (pc := 7) (n := 2) dX12_judged_7 ⟨by decide, by decide⟩ ?_
  obtain ⟨p8, hp8, h⟩ := Option.bind_eq_some_iff.mp h
  refine RT.cSz (pc := 8) (M' := M_X12_within) (As := [(0, a1), (0, 0), (0, 2)]) (st := []) (r := some (0, p8)) (mem1 := m2) (d' := d - 1) dX12_judged_8 mw_X12_within ml_X12_301 mi_X12_within rfl rfl (Nat.le_of_ble_eq_true rfl) (Nat.le_of_ble_eq_true rfl) (by omega) rfl rfl (c_X12_within hz (by omega) a1 0 2 m2 _ hp8) ?_
  refine RT.if_ne (pc := 11) (tgt := 17) dX12_judged_11 rfl (fun q11 => ?_) (fun q11 => ?_)
  · rw [if_neg q11] at h
    refine RT.aload_n (pc := 17) (k := 0) (x := a0) dX12_judged_17 rfl ?_
    obtain ⟨v18, hv18, h⟩ := Option.bind_eq_some_iff.mp h
    refine RT.gf 12 50 2 (pc := 18) (x := a0) (v := v18) hz dX12_judged_18 fl_X12_120 rfl hv18 ?_
    refine RT.iconst (pc := 21) (n := 0) dX12_judged_21 ⟨by decide, by decide⟩ ?_
    refine RT.aload_n (pc := 22) (k := 0) (x := a0) dX12_judged_22 rfl ?_
    obtain ⟨v23, hv23, h⟩ := Option.bind_eq_some_iff.mp h
    refine RT.gf 12 51 2 (pc := 23) (x := a0) (v := v23) hz dX12_judged_23 fl_X12_123 rfl hv23 ?_
    refine RT.iconst (pc := 26) (n := 0) dX12_judged_26 ⟨by decide, by decide⟩ ?_
    obtain ⟨p27, hp27, h⟩ := Option.bind_eq_some_iff.mp h
    refine RT.cSz (pc := 27) (M' := M_X12_copies) (As := [(2, v18), (0, 0), (2, v23), (0, 0)]) (st := []) (r := none) (mem1 := p27) (d' := d - 1) dX12_judged_27 mw_X12_copies ml_X12_420 mi_X12_copies rfl rfl (Nat.le_of_ble_eq_true rfl) (Nat.le_of_ble_eq_true rfl) (by omega) rfl rfl (c_X12_copies hz (by omega) v18 0 v23 0 m2 _ hp27) ?_
    refine RT.aload_n (pc := 30) (k := 0) (x := a0) dX12_judged_30 rfl ?_
    obtain ⟨p31, hp31, h⟩ := Option.bind_eq_some_iff.mp h
    refine RT.cVz (pc := 31) (M' := M_X12_fresh) (ci := 12) (x := a0) (As := []) (st := []) (r := none) (mem1 := p31) (d' := d - 1) hz dX12_judged_31 mw_X12_fresh ml_X12_165 mi_X12_fresh ht rfl rfl (Nat.le_of_ble_eq_true rfl) (Nat.le_of_ble_eq_true rfl) (by omega) rfl rfl (c_X12_fresh hz (by omega) a0 p27 _ ht hp31) ?_
    refine RT.iconst (pc := 34) (n := (-1)) dX12_judged_34 ⟨by decide, by decide⟩ ?_
    refine RT.istore_n (pc := 35) (k := 2) (x := (-1)) (L1 := [(2, a0), (0, a1), (0, (-1)), (9, 0), (9, 0)]) dX12_judged_35 (Nat.le_of_ble_eq_true rfl) rfl ?_
    refine RT.iconst (pc := 36) (n := (-1)) dX12_judged_36 ⟨by decide, by decide⟩ ?_
    refine RT.istore_n (pc := 37) (k := 3) (x := (-1)) (L1 := [(2, a0), (0, a1), (0, (-1)), (0, (-1)), (9, 0)]) dX12_judged_37 (Nat.le_of_ble_eq_true rfl) rfl ?_
    refine RT.iconst (pc := 38) (n := 0) dX12_judged_38 ⟨by decide, by decide⟩ ?_
    refine RT.istore (pc := 39) (k := 4) (x := 0) (L1 := [(2, a0), (0, a1), (0, (-1)), (0, (-1)), (0, 0)]) dX12_judged_39 (Nat.le_of_ble_eq_true rfl) rfl ?_
    obtain ⟨X41, hX41, h⟩ := Option.bind_eq_some_iff.mp h
    refine rt_it_ind (P := (fun s1 : Int × Int × Int × rt_M => RT G M_X12_judged d z Q 41 [(2, a0), (0, a1), (0, s1.1), (0, s1.2.1), (0, s1.2.2.1)] [] z s1.2.2.2)) (X := (fun x1 : Int × Int × rt_M => RT G M_X12_judged d z Q 102 [(2, a0), (0, a1), (0, x1.1), (0, x1.2.1), (9, 0)] [] z x1.2.2)) (fun s1 t1 h1 k1 k2 => cb_X12_judged_41 hz hd ht a1 s1 t1 h1 ⟨k1, k2⟩) 4000 (((-1), (-1), 0, p31)) X41 hX41 ?_
    refine RT.aload_n (pc := 102) (k := 0) (x := a0) dX12_judged_102 rfl ?_
    refine RT.aload_n (pc := 103) (k := 0) (x := a0) dX12_judged_103 rfl ?_
    obtain ⟨p104, hp104, h⟩ := Option.bind_eq_some_iff.mp h
    refine RT.cVz (pc := 104) (M' := M_X12_onHeads) (ci := 12) (x := a0) (As := []) (st := [(2, a0)]) (r := some (0, p104)) (mem1 := X41.2.2) (d' := d - 1) hz dX12_judged_104 mw_X12_onHeads ml_X12_436 mi_X12_onHeads ht rfl rfl (Nat.le_of_ble_eq_true rfl) (Nat.le_of_ble_eq_true rfl) (by omega) rfl rfl (c_X12_onHeads hz (by omega) a0 X41.2.2 _ ht hp104) ?_
    obtain ⟨p107, hp107, h⟩ := Option.bind_eq_some_iff.mp h
    refine RT.cVz (pc := 107) (M' := M_X12_officeOf) (ci := 12) (x := a0) (As := [(0, p104)]) (st := []) (r := some (0, p107)) (mem1 := X41.2.2) (d' := d - 1) hz dX12_judged_107 mw_X12_officeOf ml_X12_439 mi_X12_officeOf ht rfl rfl (Nat.le_of_ble_eq_true rfl) (Nat.le_of_ble_eq_true rfl) (by omega) rfl rfl (c_X12_officeOf hz (by omega) a0 p104 X41.2.2 _ ht hp107) ?_
    refine RT.istore (pc := 110) (k := 4) (x := p107) (L1 := [(2, a0), (0, a1), (0, X41.1), (0, X41.2.1), (0, p107)]) dX12_judged_110 (Nat.le_of_ble_eq_true rfl) rfl ?_
    refine RT.aload_n (pc := 112) (k := 0) (x := a0) dX12_judged_112 rfl ?_
    obtain ⟨v113, hv113, h⟩ := Option.bind_eq_some_iff.mp h
    refine RT.gf 12 51 2 (pc := 113) (x := a0) (v := v113) hz dX12_judged_113 fl_X12_123 rfl hv113 ?_
    refine RT.iconst (pc := 116) (n := 0) dX12_judged_116 ⟨by decide, by decide⟩ ?_
    refine RT.aload_n (pc := 117) (k := 0) (x := a0) dX12_judged_117 rfl ?_
    obtain ⟨v118, hv118, h⟩ := Option.bind_eq_some_iff.mp h
    refine RT.gf 12 50 2 (pc := 118) (x := a0) (v := v118) hz dX12_judged_118 fl_X12_120 rfl hv118 ?_
    refine RT.iconst (pc := 121) (n := 0) dX12_judged_121 ⟨by decide, by decide⟩ ?_
    obtain ⟨p122, hp122, h⟩ := Option.bind_eq_some_iff.mp h
    refine RT.cSz (pc := 122) (M' := M_X12_copies) (As := [(2, v113), (0, 0), (2, v118), (0, 0)]) (st := []) (r := none) (mem1 := p122) (d' := d - 1) dX12_judged_122 mw_X12_copies ml_X12_420 mi_X12_copies rfl rfl (Nat.le_of_ble_eq_true rfl) (Nat.le_of_ble_eq_true rfl) (by omega) rfl rfl (c_X12_copies hz (by omega) v113 0 v118 0 X41.2.2 _ hp122) ?_
    refine RT.iload_n (pc := 125) (k := 1) (x := a1) dX12_judged_125 rfl ?_
    refine RT.if_ne (pc := 126) (tgt := 133) dX12_judged_126 rfl (fun q126 => ?_) (fun q126 => ?_)
    · rw [if_neg q126] at h
      refine RT.iload_n (pc := 133) (k := 1) (x := a1) dX12_judged_133 rfl ?_
      refine RT.iconst (pc := 134) (n := 1) dX12_judged_134 ⟨by decide, by decide⟩ ?_
      refine RT.icmp_ne (pc := 135) (tgt := 142) dX12_judged_135 rfl (fun q135 => ?_) (fun q135 => ?_)
      · rw [if_neg q135] at h
        refine RT.iload (pc := 142) (k := 4) (x := p107) dX12_judged_142 rfl ?_
        refine RT.wk (L1 := [(9, 0), (9, 0), (9, 0), (9, 0), (9, 0)]) (rt_le_j (rt_le_j (rt_le_j (rt_le_j (rt_le_j rt_le_n))))) ?_
        exact cj_X12_judged_144 hz hd ht p107 p122 _ h hK
      · rw [if_pos (Classical.not_not.mp q135)] at h
        refine RT.iload_n (pc := 138) (k := 3) (x := X41.2.1) dX12_judged_138 rfl ?_
        refine RT.goto (pc := 139) (tgt := 144) dX12_judged_139 rfl ?_
        refine RT.wk (L1 := [(9, 0), (9, 0), (9, 0), (9, 0), (9, 0)]) (rt_le_j (rt_le_j (rt_le_j (rt_le_j (rt_le_j rt_le_n))))) ?_
        exact cj_X12_judged_144 hz hd ht X41.2.1 p122 _ h hK
    · rw [if_pos (Classical.not_not.mp q126)] at h
      refine RT.iload_n (pc := 129) (k := 2) (x := X41.1) dX12_judged_129 rfl ?_
      refine RT.goto (pc := 130) (tgt := 144) dX12_judged_130 rfl ?_
      refine RT.wk (L1 := [(9, 0), (9, 0), (9, 0), (9, 0), (9, 0)]) (rt_le_j (rt_le_j (rt_le_j (rt_le_j (rt_le_j rt_le_n))))) ?_
      exact cj_X12_judged_144 hz hd ht X41.1 p122 _ h hK
  · rw [if_pos (Classical.not_not.mp q11)] at h
    refine RT.bipush (pc := 14) (n := (-2)) dX12_judged_14 ⟨by decide, by decide⟩ rfl ?_
    obtain rfl := Option.some.inj h
    exact RT.iret (pc := 16) dX12_judged_16 rfl (Nat.le_of_eq (rt_cells_0 z)) (Nat.le_of_eq (rt_slots_0 z)) hK
theorem cj_X12_isFor_81 {G : rt_G} {d : Nat} {z : Nat × Nat} {Q : rt_P} (hz : 300 ≤ z.1) (hd : 3 ≤ d) {a0 : Int} (ht : rt_kd a0.toNat = 20 + 12) (s0 : Int) (mem0 : rt_M) (t : Int × rt_M) (h : j_X12_isFor_81 s0 mem0 = some t) (hK : Q (some (0, t.1)) z t.2) : RT G M_X12_isFor d z Q 81 [(9, 0), (9, 0), (9, 0), (9, 0), (9, 0)] [(0, s0)] z mem0 := by
  unfold j_X12_isFor_81 at h
  obtain ⟨w81, hw81, h⟩ := Option.bind_eq_some_iff.mp h
  obtain rfl := Option.some.inj h
  exact RT.zret (pc := 81) dX12_isFor_81 rfl (rt_bz_ok hw81) (Nat.le_of_eq (rt_cells_0 z)) (Nat.le_of_eq (rt_slots_0 z)) hK
theorem cj_X12_isFor_71 {G : rt_G} {d : Nat} {z : Nat × Nat} {Q : rt_P} (hz : 300 ≤ z.1) (hd : 3 ≤ d) {a0 : Int} (ht : rt_kd a0.toNat = 20 + 12) (a4 : Int) (mem0 : rt_M) (t : Int × rt_M) (h : j_X12_isFor_71 a4 mem0 = some t) (hK : Q (some (0, t.1)) z t.2) : RT G M_X12_isFor d z Q 71 [(9, 0), (9, 0), (9, 0), (9, 0), (0, a4)] [] z mem0 := by
  unfold j_X12_isFor_71 at h
  refine RT.iload (pc := 71) (k := 4) (x := a4) dX12_isFor_71 rfl ?_
  refine RT.if_eq (pc := 73) (tgt := 80) dX12_isFor_73 rfl (fun q73 => ?_) (fun q73 => ?_)
  · rw [if_pos q73] at h
    refine RT.iconst (pc := 80) (n := 0) dX12_isFor_80 ⟨by decide, by decide⟩ ?_
    refine RT.wk (L1 := [(9, 0), (9, 0), (9, 0), (9, 0), (9, 0)]) (rt_le_s (rt_le_s (rt_le_s (rt_le_s (rt_le_j rt_le_n))))) ?_
    exact cj_X12_isFor_81 hz hd ht 0 mem0 _ h hK
  · rw [if_neg q73] at h
    refine RT.iconst (pc := 76) (n := 1) dX12_isFor_76 ⟨by decide, by decide⟩ ?_
    refine RT.goto (pc := 77) (tgt := 81) dX12_isFor_77 rfl ?_
    refine RT.wk (L1 := [(9, 0), (9, 0), (9, 0), (9, 0), (9, 0)]) (rt_le_s (rt_le_s (rt_le_s (rt_le_s (rt_le_j rt_le_n))))) ?_
    exact cj_X12_isFor_81 hz hd ht 1 mem0 _ h hK
theorem cj_X12_isFor_20 {G : rt_G} {d : Nat} {z : Nat × Nat} {Q : rt_P} (hz : 300 ≤ z.1) (hd : 3 ≤ d) {a0 : Int} (ht : rt_kd a0.toNat = 20 + 12) (a1 : Int) (a2 : Int) (a3 : Int) (s0 : Int) (mem0 : rt_M) (t : Int × rt_M) (h : j_X12_isFor_20 a0 a1 a2 a3 s0 mem0 = some t) (hK : Q (some (0, t.1)) z t.2) : RT G M_X12_isFor d z Q 20 [(2, a0), (0, a1), (0, a2), (0, a3), (9, 0)] [(0, s0)] z mem0 := by
  unfold j_X12_isFor_20 at h
  refine RT.istore (pc := 20) (k := 4) (x := s0) (L1 := [(2, a0), (0, a1), (0, a2), (0, a3), (0, s0)]) dX12_isFor_20 (Nat.le_of_ble_eq_true rfl) rfl ?_
  refine RT.aload_n (pc := 22) (k := 0) (x := a0) dX12_isFor_22 rfl ?_
  obtain ⟨v23, hv23, h⟩ := Option.bind_eq_some_iff.mp h
  refine RT.gf 12 22 2 (pc := 23) (x := a0) (v := v23) hz dX12_isFor_23 fl_X12_50 rfl hv23 ?_
  refine RT.iconst (pc := 26) (n := 1) dX12_isFor_26 ⟨by decide, by decide⟩ ?_
  obtain ⟨v27, hv27, h⟩ := Option.bind_eq_some_iff.mp h
  refine RT.iald (pc := 27) (x := v23) (i := 1) (v := v27) dX12_isFor_27 (rt_lta hz (by decide) (by decide) hv27) hv27 ?_
  refine RT.aload_n (pc := 28) (k := 0) (x := a0) dX12_isFor_28 rfl ?_
  obtain ⟨v29, hv29, h⟩ := Option.bind_eq_some_iff.mp h
  refine RT.gf 12 21 2 (pc := 29) (x := a0) (v := v29) hz dX12_isFor_29 fl_X12_47 rfl hv29 ?_
  refine RT.iconst (pc := 32) (n := 1) dX12_isFor_32 ⟨by decide, by decide⟩ ?_
  obtain ⟨v33, hv33, h⟩ := Option.bind_eq_some_iff.mp h
  refine RT.iald (pc := 33) (x := v29) (i := 1) (v := v33) dX12_isFor_33 (rt_lta hz (by decide) (by decide) hv33) hv33 ?_
  refine RT.icmp_le (pc := 34) (tgt := 71) dX12_isFor_34 rfl (fun q34 => ?_) (fun q34 => ?_)
  · rw [if_pos q34] at h
    refine RT.wk (L1 := [(9, 0), (9, 0), (9, 0), (9, 0), (0, s0)]) (rt_le_j (rt_le_j (rt_le_j (rt_le_j (rt_le_s rt_le_n))))) ?_
    exact cj_X12_isFor_71 hz hd ht s0 mem0 _ h hK
  · rw [if_neg q34] at h
    refine RT.aload_n (pc := 37) (k := 0) (x := a0) dX12_isFor_37 rfl ?_
    obtain ⟨v38, hv38, h⟩ := Option.bind_eq_some_iff.mp h
    refine RT.gf 12 38 2 (pc := 38) (x := a0) (v := v38) hz dX12_isFor_38 fl_X12_90 rfl hv38 ?_
    refine RT.iconst (pc := 41) (n := 4) dX12_isFor_41 ⟨by decide, by decide⟩ ?_
    refine RT.iload_n (pc := 42) (k := 1) (x := a1) dX12_isFor_42 rfl ?_
    obtain ⟨m43, hm43, h⟩ := Option.bind_eq_some_iff.mp h
    refine RT.iast (pc := 43) (x := v38) (i := 4) (v := a1) (mem1 := m43) dX12_isFor_43 (rt_lts hz (by decide) (by decide) hm43) hm43 ?_
    refine RT.aload_n (pc := 44) (k := 0) (x := a0) dX12_isFor_44 rfl ?_
    obtain ⟨v45, hv45, h⟩ := Option.bind_eq_some_iff.mp h
    refine RT.gf 12 38 2 (pc := 45) (x := a0) (v := v45) hz dX12_isFor_45 fl_X12_90 rfl hv45 ?_
    refine RT.iconst (pc := 48) (n := 5) dX12_isFor_48 ⟨by decide, by decide⟩ ?_
    refine RT.aload_n (pc := 49) (k := 0) (x := a0) dX12_isFor_49 rfl ?_
    obtain ⟨v50, hv50, h⟩ := Option.bind_eq_some_iff.mp h
    refine RT.gf 12 19 2 (pc := 50) (x := a0) (v := v50) hz dX12_isFor_50 fl_X12_41 rfl hv50 ?_
    refine RT.iload_n (pc := 53) (k := 2) (x := a2) dX12_isFor_53 rfl ?_
    obtain ⟨v54, hv54, h⟩ := Option.bind_eq_some_iff.mp h
    refine RT.iald (pc := 54) (x := v50) (i := a2) (v := v54) dX12_isFor_54 (rt_lta hz (by decide) (by decide) hv54) hv54 ?_
    obtain ⟨m55, hm55, h⟩ := Option.bind_eq_some_iff.mp h
    refine RT.iast (pc := 55) (x := v45) (i := 5) (v := v54) (mem1 := m55) dX12_isFor_55 (rt_lts hz (by decide) (by decide) hm55) hm55 ?_
    refine RT.aload_n (pc := 56) (k := 0) (x := a0) dX12_isFor_56 rfl ?_
    obtain ⟨v57, hv57, h⟩ := Option.bind_eq_some_iff.mp h
    refine RT.gf 12 38 2 (pc := 57) (x := a0) (v := v57) hz dX12_isFor_57 fl_X12_90 rfl hv57 ?_
    refine RT.bipush (pc := 60) (n := 6) dX12_isFor_60 ⟨by decide, by decide⟩ rfl ?_
    refine RT.iload_n (pc := 62) (k := 3) (x := a3) dX12_isFor_62 rfl ?_
    obtain ⟨m63, hm63, h⟩ := Option.bind_eq_some_iff.mp h
    refine RT.iast (pc := 63) (x := v57) (i := 6) (v := a3) (mem1 := m63) dX12_isFor_63 (rt_lts hz (by decide) (by decide) hm63) hm63 ?_
    refine RT.aload_n (pc := 64) (k := 0) (x := a0) dX12_isFor_64 rfl ?_
    refine RT.iconst (pc := 65) (n := 1) dX12_isFor_65 ⟨by decide, by decide⟩ ?_
    obtain ⟨p66, hp66, h⟩ := Option.bind_eq_some_iff.mp h
    refine RT.cVz (pc := 66) (M' := M_X12_worked) (ci := 12) (x := a0) (As := [(0, 1)]) (st := []) (r := some (0, p66.1)) (mem1 := p66.2) (d' := d - 1) hz dX12_isFor_66 mw_X12_worked ml_X12_389 mi_X12_worked ht rfl rfl (Nat.le_of_ble_eq_true rfl) (Nat.le_of_ble_eq_true rfl) (by omega) rfl rfl (c_X12_worked hz (by omega) a0 1 m63 _ ht hp66) ?_
    refine RT.istore (pc := 69) (k := 4) (x := p66.1) (L1 := [(2, a0), (0, a1), (0, a2), (0, a3), (0, p66.1)]) dX12_isFor_69 (Nat.le_of_ble_eq_true rfl) rfl ?_
    refine RT.wk (L1 := [(9, 0), (9, 0), (9, 0), (9, 0), (0, p66.1)]) (rt_le_j (rt_le_j (rt_le_j (rt_le_j (rt_le_s rt_le_n))))) ?_
    exact cj_X12_isFor_71 hz hd ht p66.1 p66.2 _ h hK
theorem c_X12_isFor {G : rt_G} {d : Nat} {z : Nat × Nat} (hz : 300 ≤ z.1) (hd : 3 ≤ d) (a0 : Int) (a1 : Int) (a2 : Int) (a3 : Int) (mem0 : rt_M) (t : Int × rt_M) (ht : rt_kd a0.toNat = 20 + 12) (h : f_X12_isFor a0 a1 a2 a3 mem0 = some t) : RM G M_X12_isFor d [(2, a0), (0, a1), (0, a2), (0, a3)] z mem0 (some (0, t.1)) t.2 := by
  suffices H : ∀ Q : rt_P, Q (some (0, t.1)) z t.2 → RT G M_X12_isFor d z Q 0 [(2, a0), (0, a1), (0, a2), (0, a3), (9, 0)] [] z mem0 from H _ ⟨rfl, rfl, rfl⟩
  intro Q hK
  unfold f_X12_isFor at h
  refine RT.iload_n (pc := 0) (k := 1) (x := a1) dX12_isFor_0 rfl ?_
  refine RT.iload_n (pc := 1) (k := 3) (x := a3) dX12_isFor_1 rfl ?_
  refine RT.imul (pc := 2) dX12_isFor_2 ?_
  refine RT.aload_n (pc := 3) (k := 0) (x := a0) dX12_isFor_3 rfl ?_
  obtain ⟨v4, hv4, h⟩ := Option.bind_eq_some_iff.mp h
  refine RT.gf 12 19 2 (pc := 4) (x := a0) (v := v4) hz dX12_isFor_4 fl_X12_41 rfl hv4 ?_
  refine RT.iload_n (pc := 7) (k := 2) (x := a2) dX12_isFor_7 rfl ?_
  obtain ⟨v8, hv8, h⟩ := Option.bind_eq_some_iff.mp h
  refine RT.iald (pc := 8) (x := v4) (i := a2) (v := v8) dX12_isFor_8 (rt_lta hz (by decide) (by decide) hv8) hv8 ?_
  refine RT.bipush (pc := 9) (n := 9) dX12_isFor_9 ⟨by decide, by decide⟩ rfl ?_
  refine RT.imul (pc := 11) dX12_isFor_11 ?_
  refine RT.icmp_ge (pc := 12) (tgt := 19) dX12_isFor_12 rfl (fun q12 => ?_) (fun q12 => ?_)
  · rw [if_pos q12] at h
    refine RT.iconst (pc := 19) (n := 0) dX12_isFor_19 ⟨by decide, by decide⟩ ?_
    exact cj_X12_isFor_20 hz hd ht a1 a2 a3 0 mem0 _ h hK
  · rw [if_neg q12] at h
    refine RT.iconst (pc := 15) (n := 1) dX12_isFor_15 ⟨by decide, by decide⟩ ?_
    refine RT.goto (pc := 16) (tgt := 20) dX12_isFor_16 rfl ?_
    exact cj_X12_isFor_20 hz hd ht a1 a2 a3 1 mem0 _ h hK
theorem cj_X12_judgedFor_55_4 {G : rt_G} {d : Nat} {z : Nat × Nat} {Q : rt_P} (hz : 300 ≤ z.1) (hd : 4 ≤ d) {a0 : Int} (ht : rt_kd a0.toNat = 20 + 12) (a1 : Int) (a3 : Int) (s0 : Int) (s1 : Int) (mem0 : rt_M) (t : (Int × Int × rt_M) ⊕ (Int × rt_M)) (h : j_X12_judgedFor_55_4 a0 a1 a3 s0 s1 mem0 = some t) (hK : (∀ s1 : Int × Int × rt_M, t = .inl s1 → RT G M_X12_judgedFor d z Q 4 [(2, a0), (0, a1), (0, s1.1), (0, s1.2.1)] [] z s1.2.2) ∧ (∀ x1 : Int × rt_M, t = .inr x1 → RT G M_X12_judgedFor d z Q 63 [(9, 0), (9, 0), (0, x1.1), (9, 0)] [] z x1.2)) : RT G M_X12_judgedFor d z Q 55 [(2, a0), (0, a1), (9, 0), (0, a3)] [(0, s1), (0, s0)] z mem0 := by
  unfold j_X12_judgedFor_55_4 at h
  refine RT.ior (pc := 55) dX12_judgedFor_55 ?_
  refine RT.istore_n (pc := 56) (k := 2) (x := (rt_ior s0 s1)) (L1 := [(2, a0), (0, a1), (0, (rt_ior s0 s1)), (0, a3)]) dX12_judgedFor_56 (Nat.le_of_ble_eq_true rfl) rfl ?_
  refine RT.iinc (pc := 57) (x := a3) (L1 := [(2, a0), (0, a1), (0, (rt_ior s0 s1)), (0, (rt_iadd a3 1))]) dX12_judgedFor_57 rfl (Nat.le_of_ble_eq_true rfl) ⟨by decide, by decide⟩ rfl ?_
  refine RT.goto (pc := 60) (tgt := 4) dX12_judgedFor_60 rfl ?_
  obtain rfl := Option.some.inj h
  have q1 := hK.1 (((rt_ior s0 s1), (rt_iadd a3 1), mem0)) rfl
  try dsimp only at q1
  exact q1
theorem cj_X12_judgedFor_54_4 {G : rt_G} {d : Nat} {z : Nat × Nat} {Q : rt_P} (hz : 300 ≤ z.1) (hd : 4 ≤ d) {a0 : Int} (ht : rt_kd a0.toNat = 20 + 12) (a1 : Int) (a3 : Int) (s0 : Int) (mem0 : rt_M) (t : (Int × Int × rt_M) ⊕ (Int × rt_M)) (h : j_X12_judgedFor_54_4 a0 a1 a3 s0 mem0 = some t) (hK : (∀ s1 : Int × Int × rt_M, t = .inl s1 → RT G M_X12_judgedFor d z Q 4 [(2, a0), (0, a1), (0, s1.1), (0, s1.2.1)] [] z s1.2.2) ∧ (∀ x1 : Int × rt_M, t = .inr x1 → RT G M_X12_judgedFor d z Q 63 [(9, 0), (9, 0), (0, x1.1), (9, 0)] [] z x1.2)) : RT G M_X12_judgedFor d z Q 54 [(2, a0), (0, a1), (9, 0), (0, a3)] [(0, s0)] z mem0 := by
  unfold j_X12_judgedFor_54_4 at h
  refine RT.iconst (pc := 54) (n := 0) dX12_judgedFor_54 ⟨by decide, by decide⟩ ?_
  exact cj_X12_judgedFor_55_4 hz hd ht a1 a3 s0 0 mem0 _ h hK
theorem cb_X12_judgedFor_4 {G : rt_G} {d : Nat} {z : Nat × Nat} {Q : rt_P} (hz : 300 ≤ z.1) (hd : 4 ≤ d) {a0 : Int} (ht : rt_kd a0.toNat = 20 + 12) (a1 : Int) (s : Int × Int × rt_M) (t : (Int × Int × rt_M) ⊕ (Int × rt_M)) (h : b_X12_judgedFor_4 a0 a1 s = some t) (hK : (∀ s1 : Int × Int × rt_M, t = .inl s1 → RT G M_X12_judgedFor d z Q 4 [(2, a0), (0, a1), (0, s1.1), (0, s1.2.1)] [] z s1.2.2) ∧ (∀ x1 : Int × rt_M, t = .inr x1 → RT G M_X12_judgedFor d z Q 63 [(9, 0), (9, 0), (0, x1.1), (9, 0)] [] z x1.2)) : RT G M_X12_judgedFor d z Q 4 [(2, a0), (0, a1), (0, s.1), (0, s.2.1)] [] z s.2.2 := by
  unfold b_X12_judgedFor_4 at h
  refine RT.iload_n (pc := 4) (k := 3) (x := s.2.1) dX12_judgedFor_4 rfl ?_
  refine RT.aload_n (pc := 5) (k := 0) (x := a0) dX12_judgedFor_5 rfl ?_
  obtain ⟨v6, hv6, h⟩ := Option.bind_eq_some_iff.mp h
  refine RT.gf 12 10 2 (pc := 6) (x := a0) (v := v6) hz dX12_judgedFor_6 fl_X12_13 rfl hv6 ?_
  refine RT.iconst (pc := 9) (n := 0) dX12_judgedFor_9 ⟨by decide, by decide⟩ ?_
  obtain ⟨v10, hv10, h⟩ := Option.bind_eq_some_iff.mp h
  refine RT.iald (pc := 10) (x := v6) (i := 0) (v := v10) dX12_judgedFor_10 (rt_lta hz (by decide) (by decide) hv10) hv10 ?_
  refine RT.icmp_ge (pc := 11) (tgt := 63) dX12_judgedFor_11 rfl (fun q11 => ?_) (fun q11 => ?_)
  · rw [if_pos q11] at h
    refine RT.wk (L1 := [(9, 0), (9, 0), (0, s.1), (9, 0)]) (rt_le_j (rt_le_j (rt_le_s (rt_le_j rt_le_n)))) ?_
    obtain rfl := Option.some.inj h
    have q1 := hK.2 ((s.1, s.2.2)) rfl
    try dsimp only at q1
    exact q1
  · rw [if_neg q11] at h
    refine RT.iload_n (pc := 14) (k := 2) (x := s.1) dX12_judgedFor_14 rfl ?_
    refine RT.aload_n (pc := 15) (k := 0) (x := a0) dX12_judgedFor_15 rfl ?_
    obtain ⟨v16, hv16, h⟩ := Option.bind_eq_some_iff.mp h
    refine RT.gf 12 50 2 (pc := 16) (x := a0) (v := v16) hz dX12_judgedFor_16 fl_X12_120 rfl hv16 ?_
    refine RT.iconst (pc := 19) (n := 1) dX12_judgedFor_19 ⟨by decide, by decide⟩ ?_
    refine RT.iload_n (pc := 20) (k := 3) (x := s.2.1) dX12_judgedFor_20 rfl ?_
    refine RT.iadd (pc := 21) dX12_judgedFor_21 ?_
    obtain ⟨v22, hv22, h⟩ := Option.bind_eq_some_iff.mp h
    refine RT.iald (pc := 22) (x := v16) (i := (rt_iadd 1 s.2.1)) (v := v22) dX12_judgedFor_22 (rt_lta hz (by decide) (by decide) hv22) hv22 ?_
    refine RT.if_lt (pc := 23) (tgt := 54) dX12_judgedFor_23 rfl (fun q23 => ?_) (fun q23 => ?_)
    · rw [if_pos q23] at h
      refine RT.wk (L1 := [(2, a0), (0, a1), (9, 0), (0, s.2.1)]) (rt_le_s (rt_le_s (rt_le_j (rt_le_s rt_le_n)))) ?_
      exact cj_X12_judgedFor_54_4 hz hd ht a1 s.2.1 s.1 s.2.2 _ h hK
    · rw [if_neg q23] at h
      refine RT.aload_n (pc := 26) (k := 0) (x := a0) dX12_judgedFor_26 rfl ?_
      refine RT.aload_n (pc := 27) (k := 0) (x := a0) dX12_judgedFor_27 rfl ?_
      obtain ⟨v28, hv28, h⟩ := Option.bind_eq_some_iff.mp h
      refine RT.gf 12 15 2 (pc := 28) (x := a0) (v := v28) hz dX12_judgedFor_28 fl_X12_29 rfl hv28 ?_
      refine RT.iload_n (pc := 31) (k := 3) (x := s.2.1) dX12_judgedFor_31 rfl ?_
      obtain ⟨v32, hv32, h⟩ := Option.bind_eq_some_iff.mp h
      refine RT.iald (pc := 32) (x := v28) (i := s.2.1) (v := v32) dX12_judgedFor_32 (rt_lta hz (by decide) (by decide) hv32) hv32 ?_
      refine RT.aload_n (pc := 33) (k := 0) (x := a0) dX12_judgedFor_33 rfl ?_
      obtain ⟨v34, hv34, h⟩ := Option.bind_eq_some_iff.mp h
      refine RT.gf 12 50 2 (pc := 34) (x := a0) (v := v34) hz dX12_judgedFor_34 fl_X12_120 rfl hv34 ?_
      refine RT.iconst (pc := 37) (n := 1) dX12_judgedFor_37 ⟨by decide, by decide⟩ ?_
      refine RT.iload_n (pc := 38) (k := 3) (x := s.2.1) dX12_judgedFor_38 rfl ?_
      refine RT.iadd (pc := 39) dX12_judgedFor_39 ?_
      obtain ⟨v40, hv40, h⟩ := Option.bind_eq_some_iff.mp h
      refine RT.iald (pc := 40) (x := v34) (i := (rt_iadd 1 s.2.1)) (v := v40) dX12_judgedFor_40 (rt_lta hz (by decide) (by decide) hv40) hv40 ?_
      refine RT.iload_n (pc := 41) (k := 1) (x := a1) dX12_judgedFor_41 rfl ?_
      obtain ⟨p42, hp42, h⟩ := Option.bind_eq_some_iff.mp h
      refine RT.cVz (pc := 42) (M' := M_X12_isFor) (ci := 12) (x := a0) (As := [(0, v32), (0, v40), (0, a1)]) (st := [(0, s.1)]) (r := some (0, p42.1)) (mem1 := p42.2) (d' := d - 1) hz dX12_judgedFor_42 mw_X12_isFor ml_X12_442 mi_X12_isFor ht rfl rfl (Nat.le_of_ble_eq_true rfl) (Nat.le_of_ble_eq_true rfl) (by omega) rfl rfl (c_X12_isFor hz (by omega) a0 v32 v40 a1 s.2.2 _ ht hp42) ?_
      refine RT.if_eq (pc := 45) (tgt := 54) dX12_judgedFor_45 rfl (fun q45 => ?_) (fun q45 => ?_)
      · rw [if_pos q45] at h
        refine RT.wk (L1 := [(2, a0), (0, a1), (9, 0), (0, s.2.1)]) (rt_le_s (rt_le_s (rt_le_j (rt_le_s rt_le_n)))) ?_
        exact cj_X12_judgedFor_54_4 hz hd ht a1 s.2.1 s.1 p42.2 _ h hK
      · rw [if_neg q45] at h
        refine RT.iconst (pc := 48) (n := 1) dX12_judgedFor_48 ⟨by decide, by decide⟩ ?_
        refine RT.iload_n (pc := 49) (k := 3) (x := s.2.1) dX12_judgedFor_49 rfl ?_
        refine RT.ishl (pc := 50) dX12_judgedFor_50 ?_
        refine RT.goto (pc := 51) (tgt := 55) dX12_judgedFor_51 rfl ?_
        refine RT.wk (L1 := [(2, a0), (0, a1), (9, 0), (0, s.2.1)]) (rt_le_s (rt_le_s (rt_le_j (rt_le_s rt_le_n)))) ?_
        exact cj_X12_judgedFor_55_4 hz hd ht a1 s.2.1 s.1 ((rt_ishl 1 s.2.1)) p42.2 _ h hK
theorem c_X12_judgedFor {G : rt_G} {d : Nat} {z : Nat × Nat} (hz : 300 ≤ z.1) (hd : 4 ≤ d) (a0 : Int) (a1 : Int) (mem0 : rt_M) (t : Int × rt_M) (ht : rt_kd a0.toNat = 20 + 12) (h : f_X12_judgedFor a0 a1 mem0 = some t) : RM G M_X12_judgedFor d [(2, a0), (0, a1)] z mem0 (some (0, t.1)) t.2 := by
  suffices H : ∀ Q : rt_P, Q (some (0, t.1)) z t.2 → RT G M_X12_judgedFor d z Q 0 [(2, a0), (0, a1), (9, 0), (9, 0)] [] z mem0 from H _ ⟨rfl, rfl, rfl⟩
  intro Q hK
  unfold f_X12_judgedFor at h
  refine RT.iconst (pc := 0) (n := 0) dX12_judgedFor_0 ⟨by decide, by decide⟩ ?_
  refine RT.istore_n (pc := 1) (k := 2) (x := 0) (L1 := [(2, a0), (0, a1), (0, 0), (9, 0)]) dX12_judgedFor_1 (Nat.le_of_ble_eq_true rfl) rfl ?_
  refine RT.iconst (pc := 2) (n := 0) dX12_judgedFor_2 ⟨by decide, by decide⟩ ?_
  refine RT.istore_n (pc := 3) (k := 3) (x := 0) (L1 := [(2, a0), (0, a1), (0, 0), (0, 0)]) dX12_judgedFor_3 (Nat.le_of_ble_eq_true rfl) rfl ?_
  obtain ⟨X4, hX4, h⟩ := Option.bind_eq_some_iff.mp h
  refine rt_it_ind (P := (fun s1 : Int × Int × rt_M => RT G M_X12_judgedFor d z Q 4 [(2, a0), (0, a1), (0, s1.1), (0, s1.2.1)] [] z s1.2.2)) (X := (fun x1 : Int × rt_M => RT G M_X12_judgedFor d z Q 63 [(9, 0), (9, 0), (0, x1.1), (9, 0)] [] z x1.2)) (fun s1 t1 h1 k1 k2 => cb_X12_judgedFor_4 hz hd ht a1 s1 t1 h1 ⟨k1, k2⟩) 4000 ((0, 0, mem0)) X4 hX4 ?_
  refine RT.iload_n (pc := 63) (k := 2) (x := X4.1) dX12_judgedFor_63 rfl ?_
  obtain rfl := Option.some.inj h
  exact RT.iret (pc := 64) dX12_judgedFor_64 rfl (Nat.le_of_eq (rt_cells_0 z)) (Nat.le_of_eq (rt_slots_0 z)) hK
theorem cj_X12_verdict_24 {G : rt_G} {d : Nat} {z : Nat × Nat} {Q : rt_P} (hz : 300 ≤ z.1) (hd : 5 ≤ d) {a0 : Int} (ht : rt_kd a0.toNat = 20 + 12) (s0 : Int) (mem0 : rt_M) (t : Int × rt_M) (h : j_X12_verdict_24 s0 mem0 = some t) (hK : Q (some (0, t.1)) z t.2) : RT G M_X12_verdict d z Q 24 [(9, 0), (9, 0)] [(0, s0)] z mem0 := by
  unfold j_X12_verdict_24 at h
  obtain rfl := Option.some.inj h
  exact RT.iret (pc := 24) dX12_verdict_24 rfl (Nat.le_of_eq (rt_cells_0 z)) (Nat.le_of_eq (rt_slots_0 z)) hK
theorem c_X12_verdict {G : rt_G} {d : Nat} {z : Nat × Nat} (hz : 300 ≤ z.1) (hd : 5 ≤ d) (a0 : Int) (a1 : Int) (mem0 : rt_M) (t : Int × rt_M) (ht : rt_kd a0.toNat = 20 + 12) (h : f_X12_verdict a0 a1 mem0 = some t) : RM G M_X12_verdict d [(2, a0), (0, a1)] z mem0 (some (0, t.1)) t.2 := by
  suffices H : ∀ Q : rt_P, Q (some (0, t.1)) z t.2 → RT G M_X12_verdict d z Q 0 [(2, a0), (0, a1)] [] z mem0 from H _ ⟨rfl, rfl, rfl⟩
  intro Q hK
  unfold f_X12_verdict at h
  refine RT.aload_n (pc := 0) (k := 0) (x := a0) dX12_verdict_0 rfl ?_
  refine RT.iconst (pc := 1) (n := 0) dX12_verdict_1 ⟨by decide, by decide⟩ ?_
  obtain ⟨m2, hm2, h⟩ := Option.bind_eq_some_iff.mp h
  refine RT.pf_i 12 0 (pc := 2) (mem1 := m2) hz dX12_verdict_2 fl_X12_171 rfl rfl rfl hm2 ?_
  refine RT.iload_n (pc := 5) (k := 1) (x := a1) dX12_verdict_5 rfl ?_
  refine RT.iconst (pc := 6) (n := 0) dX12_verdict_6 ⟨by decide, by decide⟩ ?_
  refine RT.bipush (pc := 7) (n := 9) dX12_verdict_7 ⟨by decide, by decide⟩ rfl ?_
  obtain ⟨p9, hp9, h⟩ := Option.bind_eq_some_iff.mp h
  refine RT.cSz (pc := 9) (M' := M_X12_within) (As := [(0, a1), (0, 0), (0, 9)]) (st := []) (r := some (0, p9)) (mem1 := m2) (d' := d - 1) dX12_verdict_9 mw_X12_within ml_X12_301 mi_X12_within rfl rfl (Nat.le_of_ble_eq_true rfl) (Nat.le_of_ble_eq_true rfl) (by omega) rfl rfl (c_X12_within hz (by omega) a1 0 9 m2 _ hp9) ?_
  refine RT.if_eq (pc := 12) (tgt := 23) dX12_verdict_12 rfl (fun q12 => ?_) (fun q12 => ?_)
  · rw [if_pos q12] at h
    refine RT.iconst (pc := 23) (n := (-1)) dX12_verdict_23 ⟨by decide, by decide⟩ ?_
    refine RT.wk (L1 := [(9, 0), (9, 0)]) (rt_le_j (rt_le_j rt_le_n)) ?_
    exact cj_X12_verdict_24 hz hd ht ((-1)) m2 _ h hK
  · rw [if_neg q12] at h
    refine RT.aload_n (pc := 15) (k := 0) (x := a0) dX12_verdict_15 rfl ?_
    refine RT.iload_n (pc := 16) (k := 1) (x := a1) dX12_verdict_16 rfl ?_
    obtain ⟨p17, hp17, h⟩ := Option.bind_eq_some_iff.mp h
    refine RT.cVz (pc := 17) (M' := M_X12_judgedFor) (ci := 12) (x := a0) (As := [(0, a1)]) (st := []) (r := some (0, p17.1)) (mem1 := p17.2) (d' := d - 1) hz dX12_verdict_17 mw_X12_judgedFor ml_X12_445 mi_X12_judgedFor ht rfl rfl (Nat.le_of_ble_eq_true rfl) (Nat.le_of_ble_eq_true rfl) (by omega) rfl rfl (c_X12_judgedFor hz (by omega) a0 a1 m2 _ ht hp17) ?_
    refine RT.goto (pc := 20) (tgt := 24) dX12_verdict_20 rfl ?_
    refine RT.wk (L1 := [(9, 0), (9, 0)]) (rt_le_j (rt_le_j rt_le_n)) ?_
    exact cj_X12_verdict_24 hz hd ht p17.1 p17.2 _ h hK
theorem cj_X12_votes_28 {G : rt_G} {d : Nat} {z : Nat × Nat} {Q : rt_P} (hz : 300 ≤ z.1) (hd : 5 ≤ d) {a0 : Int} (ht : rt_kd a0.toNat = 20 + 12) (s0 : Int) (mem0 : rt_M) (t : Int × rt_M) (h : j_X12_votes_28 s0 mem0 = some t) (hK : Q (some (0, t.1)) z t.2) : RT G M_X12_votes d z Q 28 [(9, 0), (9, 0)] [(0, s0)] z mem0 := by
  unfold j_X12_votes_28 at h
  obtain rfl := Option.some.inj h
  exact RT.iret (pc := 28) dX12_votes_28 rfl (Nat.le_of_eq (rt_cells_0 z)) (Nat.le_of_eq (rt_slots_0 z)) hK
theorem c_X12_votes {G : rt_G} {d : Nat} {z : Nat × Nat} (hz : 300 ≤ z.1) (hd : 5 ≤ d) (a0 : Int) (a1 : Int) (mem0 : rt_M) (t : Int × rt_M) (ht : rt_kd a0.toNat = 20 + 12) (h : f_X12_votes a0 a1 mem0 = some t) : RM G M_X12_votes d [(2, a0), (0, a1)] z mem0 (some (0, t.1)) t.2 := by
  suffices H : ∀ Q : rt_P, Q (some (0, t.1)) z t.2 → RT G M_X12_votes d z Q 0 [(2, a0), (0, a1)] [] z mem0 from H _ ⟨rfl, rfl, rfl⟩
  intro Q hK
  unfold f_X12_votes at h
  refine RT.aload_n (pc := 0) (k := 0) (x := a0) dX12_votes_0 rfl ?_
  refine RT.iconst (pc := 1) (n := 0) dX12_votes_1 ⟨by decide, by decide⟩ ?_
  obtain ⟨m2, hm2, h⟩ := Option.bind_eq_some_iff.mp h
  refine RT.pf_i 12 0 (pc := 2) (mem1 := m2) hz dX12_votes_2 fl_X12_171 rfl rfl rfl hm2 ?_
  refine RT.iload_n (pc := 5) (k := 1) (x := a1) dX12_votes_5 rfl ?_
  refine RT.iconst (pc := 6) (n := 0) dX12_votes_6 ⟨by decide, by decide⟩ ?_
  refine RT.bipush (pc := 7) (n := 9) dX12_votes_7 ⟨by decide, by decide⟩ rfl ?_
  obtain ⟨p9, hp9, h⟩ := Option.bind_eq_some_iff.mp h
  refine RT.cSz (pc := 9) (M' := M_X12_within) (As := [(0, a1), (0, 0), (0, 9)]) (st := []) (r := some (0, p9)) (mem1 := m2) (d' := d - 1) dX12_votes_9 mw_X12_within ml_X12_301 mi_X12_within rfl rfl (Nat.le_of_ble_eq_true rfl) (Nat.le_of_ble_eq_true rfl) (by omega) rfl rfl (c_X12_within hz (by omega) a1 0 9 m2 _ hp9) ?_
  refine RT.if_eq (pc := 12) (tgt := 27) dX12_votes_12 rfl (fun q12 => ?_) (fun q12 => ?_)
  · rw [if_pos q12] at h
    refine RT.iconst (pc := 27) (n := (-1)) dX12_votes_27 ⟨by decide, by decide⟩ ?_
    refine RT.wk (L1 := [(9, 0), (9, 0)]) (rt_le_j (rt_le_j rt_le_n)) ?_
    exact cj_X12_votes_28 hz hd ht ((-1)) m2 _ h hK
  · rw [if_neg q12] at h
    refine RT.aload_n (pc := 15) (k := 0) (x := a0) dX12_votes_15 rfl ?_
    refine RT.aload_n (pc := 16) (k := 0) (x := a0) dX12_votes_16 rfl ?_
    refine RT.iload_n (pc := 17) (k := 1) (x := a1) dX12_votes_17 rfl ?_
    obtain ⟨p18, hp18, h⟩ := Option.bind_eq_some_iff.mp h
    refine RT.cVz (pc := 18) (M' := M_X12_judgedFor) (ci := 12) (x := a0) (As := [(0, a1)]) (st := [(2, a0)]) (r := some (0, p18.1)) (mem1 := p18.2) (d' := d - 1) hz dX12_votes_18 mw_X12_judgedFor ml_X12_445 mi_X12_judgedFor ht rfl rfl (Nat.le_of_ble_eq_true rfl) (Nat.le_of_ble_eq_true rfl) (by omega) rfl rfl (c_X12_judgedFor hz (by omega) a0 a1 m2 _ ht hp18) ?_
    obtain ⟨p21, hp21, h⟩ := Option.bind_eq_some_iff.mp h
    refine RT.cVz (pc := 21) (M' := M_X12_officeOf) (ci := 12) (x := a0) (As := [(0, p18.1)]) (st := []) (r := some (0, p21)) (mem1 := p18.2) (d' := d - 1) hz dX12_votes_21 mw_X12_officeOf ml_X12_439 mi_X12_officeOf ht rfl rfl (Nat.le_of_ble_eq_true rfl) (Nat.le_of_ble_eq_true rfl) (by omega) rfl rfl (c_X12_officeOf hz (by omega) a0 p18.1 p18.2 _ ht hp21) ?_
    refine RT.goto (pc := 24) (tgt := 28) dX12_votes_24 rfl ?_
    refine RT.wk (L1 := [(9, 0), (9, 0)]) (rt_le_j (rt_le_j rt_le_n)) ?_
    exact cj_X12_votes_28 hz hd ht p21 p18.2 _ h hK
theorem cj_X12_power_35 {G : rt_G} {d : Nat} {z : Nat × Nat} {Q : rt_P} (hz : 300 ≤ z.1) (hd : 1 ≤ d) {a0 : Int} (ht : rt_kd a0.toNat = 20 + 12) (mem0 : rt_M) (t : Int × rt_M) (h : j_X12_power_35 mem0 = some t) (hK : Q (some (0, t.1)) z t.2) : RT G M_X12_power d z Q 35 [(9, 0), (9, 0), (9, 0), (9, 0), (9, 0), (9, 0), (9, 0)] [] z mem0 := by
  unfold j_X12_power_35 at h
  refine RT.iconst (pc := 35) (n := (-1)) dX12_power_35 ⟨by decide, by decide⟩ ?_
  obtain rfl := Option.some.inj h
  exact RT.iret (pc := 36) dX12_power_36 rfl (Nat.le_of_eq (rt_cells_0 z)) (Nat.le_of_eq (rt_slots_0 z)) hK
theorem cj_X12_power_110_54 {G : rt_G} {d : Nat} {z : Nat × Nat} {Q : rt_P} (hz : 300 ≤ z.1) (hd : 1 ≤ d) {a0 : Int} (ht : rt_kd a0.toNat = 20 + 12) (a1 : Int) (a2 : Int) (a3 : Int) (a4 : Int) (a5 : Int) (mem0 : rt_M) (t : (Int × Int × rt_M) ⊕ (Int × rt_M)) (h : j_X12_power_110_54 a0 a1 a2 a3 a4 a5 mem0 = some t) (hK : (∀ s1 : Int × Int × rt_M, t = .inl s1 → RT G M_X12_power d z Q 54 [(2, a0), (0, a1), (0, a2), (0, a3), (0, s1.1), (0, s1.2.1), (9, 0)] [] z s1.2.2) ∧ (∀ x1 : Int × rt_M, t = .inr x1 → RT G M_X12_power d z Q 116 [(9, 0), (9, 0), (9, 0), (9, 0), (0, x1.1), (9, 0), (9, 0)] [] z x1.2)) : RT G M_X12_power d z Q 110 [(2, a0), (0, a1), (0, a2), (0, a3), (0, a4), (0, a5), (9, 0)] [] z mem0 := by
  unfold j_X12_power_110_54 at h
  refine RT.iinc (pc := 110) (x := a5) (L1 := [(2, a0), (0, a1), (0, a2), (0, a3), (0, a4), (0, (rt_iadd a5 1)), (9, 0)]) dX12_power_110 rfl (Nat.le_of_ble_eq_true rfl) ⟨by decide, by decide⟩ rfl ?_
  refine RT.goto (pc := 113) (tgt := 54) dX12_power_113 rfl ?_
  obtain rfl := Option.some.inj h
  have q1 := hK.1 ((a4, (rt_iadd a5 1), mem0)) rfl
  try dsimp only at q1
  exact q1
theorem cj_X12_power_107_54 {G : rt_G} {d : Nat} {z : Nat × Nat} {Q : rt_P} (hz : 300 ≤ z.1) (hd : 1 ≤ d) {a0 : Int} (ht : rt_kd a0.toNat = 20 + 12) (a1 : Int) (a2 : Int) (a3 : Int) (a5 : Int) (s0 : Int) (s1 : Int) (mem0 : rt_M) (t : (Int × Int × rt_M) ⊕ (Int × rt_M)) (h : j_X12_power_107_54 a0 a1 a2 a3 a5 s0 s1 mem0 = some t) (hK : (∀ s1 : Int × Int × rt_M, t = .inl s1 → RT G M_X12_power d z Q 54 [(2, a0), (0, a1), (0, a2), (0, a3), (0, s1.1), (0, s1.2.1), (9, 0)] [] z s1.2.2) ∧ (∀ x1 : Int × rt_M, t = .inr x1 → RT G M_X12_power d z Q 116 [(9, 0), (9, 0), (9, 0), (9, 0), (0, x1.1), (9, 0), (9, 0)] [] z x1.2)) : RT G M_X12_power d z Q 107 [(2, a0), (0, a1), (0, a2), (0, a3), (9, 0), (0, a5), (9, 0)] [(0, s1), (0, s0)] z mem0 := by
  unfold j_X12_power_107_54 at h
  refine RT.iadd (pc := 107) dX12_power_107 ?_
  refine RT.istore (pc := 108) (k := 4) (x := (rt_iadd s0 s1)) (L1 := [(2, a0), (0, a1), (0, a2), (0, a3), (0, (rt_iadd s0 s1)), (0, a5), (9, 0)]) dX12_power_108 (Nat.le_of_ble_eq_true rfl) rfl ?_
  exact cj_X12_power_110_54 hz hd ht a1 a2 a3 ((rt_iadd s0 s1)) a5 mem0 _ h hK
theorem cj_X12_power_106_54 {G : rt_G} {d : Nat} {z : Nat × Nat} {Q : rt_P} (hz : 300 ≤ z.1) (hd : 1 ≤ d) {a0 : Int} (ht : rt_kd a0.toNat = 20 + 12) (a1 : Int) (a2 : Int) (a3 : Int) (a5 : Int) (s0 : Int) (mem0 : rt_M) (t : (Int × Int × rt_M) ⊕ (Int × rt_M)) (h : j_X12_power_106_54 a0 a1 a2 a3 a5 s0 mem0 = some t) (hK : (∀ s1 : Int × Int × rt_M, t = .inl s1 → RT G M_X12_power d z Q 54 [(2, a0), (0, a1), (0, a2), (0, a3), (0, s1.1), (0, s1.2.1), (9, 0)] [] z s1.2.2) ∧ (∀ x1 : Int × rt_M, t = .inr x1 → RT G M_X12_power d z Q 116 [(9, 0), (9, 0), (9, 0), (9, 0), (0, x1.1), (9, 0), (9, 0)] [] z x1.2)) : RT G M_X12_power d z Q 106 [(2, a0), (0, a1), (0, a2), (0, a3), (9, 0), (0, a5), (9, 0)] [(0, s0)] z mem0 := by
  unfold j_X12_power_106_54 at h
  refine RT.iconst (pc := 106) (n := 0) dX12_power_106 ⟨by decide, by decide⟩ ?_
  exact cj_X12_power_107_54 hz hd ht a1 a2 a3 a5 s0 0 mem0 _ h hK
theorem cb_X12_power_54 {G : rt_G} {d : Nat} {z : Nat × Nat} {Q : rt_P} (hz : 300 ≤ z.1) (hd : 1 ≤ d) {a0 : Int} (ht : rt_kd a0.toNat = 20 + 12) (a1 : Int) (a2 : Int) (a3 : Int) (s : Int × Int × rt_M) (t : (Int × Int × rt_M) ⊕ (Int × rt_M)) (h : b_X12_power_54 a0 a1 a2 a3 s = some t) (hK : (∀ s1 : Int × Int × rt_M, t = .inl s1 → RT G M_X12_power d z Q 54 [(2, a0), (0, a1), (0, a2), (0, a3), (0, s1.1), (0, s1.2.1), (9, 0)] [] z s1.2.2) ∧ (∀ x1 : Int × rt_M, t = .inr x1 → RT G M_X12_power d z Q 116 [(9, 0), (9, 0), (9, 0), (9, 0), (0, x1.1), (9, 0), (9, 0)] [] z x1.2)) : RT G M_X12_power d z Q 54 [(2, a0), (0, a1), (0, a2), (0, a3), (0, s.1), (0, s.2.1), (9, 0)] [] z s.2.2 := by
  unfold b_X12_power_54 at h
  refine RT.iload (pc := 54) (k := 5) (x := s.2.1) dX12_power_54 rfl ?_
  refine RT.bipush (pc := 56) (n := 64) dX12_power_56 ⟨by decide, by decide⟩ rfl ?_
  refine RT.icmp_ge (pc := 58) (tgt := 116) dX12_power_58 rfl (fun q58 => ?_) (fun q58 => ?_)
  · rw [if_pos q58] at h
    refine RT.wk (L1 := [(9, 0), (9, 0), (9, 0), (9, 0), (0, s.1), (9, 0), (9, 0)]) (rt_le_j (rt_le_j (rt_le_j (rt_le_j (rt_le_s (rt_le_j (rt_le_s rt_le_n))))))) ?_
    obtain rfl := Option.some.inj h
    have q1 := hK.2 ((s.1, s.2.2)) rfl
    try dsimp only at q1
    exact q1
  · rw [if_neg q58] at h
    refine RT.iload (pc := 61) (k := 5) (x := s.2.1) dX12_power_61 rfl ?_
    refine RT.iload_n (pc := 63) (k := 3) (x := a3) dX12_power_63 rfl ?_
    refine RT.iconst (pc := 64) (n := (-1)) dX12_power_64 ⟨by decide, by decide⟩ ?_
    refine RT.ixor (pc := 65) dX12_power_65 ?_
    refine RT.iand (pc := 66) dX12_power_66 ?_
    refine RT.if_eq (pc := 67) (tgt := 73) dX12_power_67 rfl (fun q67 => ?_) (fun q67 => ?_)
    · rw [if_pos q67] at h
      refine RT.aload_n (pc := 73) (k := 0) (x := a0) dX12_power_73 rfl ?_
      refine RT.iload (pc := 74) (k := 5) (x := s.2.1) dX12_power_74 rfl ?_
      obtain ⟨p76, hp76, h⟩ := Option.bind_eq_some_iff.mp h
      refine RT.cVz (pc := 76) (M' := M_X12_officeOf) (ci := 12) (x := a0) (As := [(0, s.2.1)]) (st := []) (r := some (0, p76)) (mem1 := s.2.2) (d' := d - 1) hz dX12_power_76 mw_X12_officeOf ml_X12_439 mi_X12_officeOf ht rfl rfl (Nat.le_of_ble_eq_true rfl) (Nat.le_of_ble_eq_true rfl) (by omega) rfl rfl (c_X12_officeOf hz (by omega) a0 s.2.1 s.2.2 _ ht hp76) ?_
      refine RT.istore (pc := 79) (k := 6) (x := p76) (L1 := [(2, a0), (0, a1), (0, a2), (0, a3), (0, s.1), (0, s.2.1), (0, p76)]) dX12_power_79 (Nat.le_of_ble_eq_true rfl) rfl ?_
      refine RT.iload (pc := 81) (k := 4) (x := s.1) dX12_power_81 rfl ?_
      refine RT.iload (pc := 83) (k := 6) (x := p76) dX12_power_83 rfl ?_
      refine RT.iload_n (pc := 85) (k := 2) (x := a2) dX12_power_85 rfl ?_
      refine RT.icmp_ge (pc := 86) (tgt := 106) dX12_power_86 rfl (fun q86 => ?_) (fun q86 => ?_)
      · rw [if_pos q86] at h
        refine RT.wk (L1 := [(2, a0), (0, a1), (0, a2), (0, a3), (9, 0), (0, s.2.1), (9, 0)]) (rt_le_s (rt_le_s (rt_le_s (rt_le_s (rt_le_j (rt_le_s (rt_le_j rt_le_n))))))) ?_
        exact cj_X12_power_106_54 hz hd ht a1 a2 a3 s.2.1 s.1 s.2.2 _ h hK
      · rw [if_neg q86] at h
        refine RT.iload (pc := 89) (k := 6) (x := p76) dX12_power_89 rfl ?_
        refine RT.aload_n (pc := 91) (k := 0) (x := a0) dX12_power_91 rfl ?_
        obtain ⟨v92, hv92, h⟩ := Option.bind_eq_some_iff.mp h
        refine RT.gf 12 14 2 (pc := 92) (x := a0) (v := v92) hz dX12_power_92 fl_X12_26 rfl hv92 ?_
        refine RT.iload_n (pc := 95) (k := 1) (x := a1) dX12_power_95 rfl ?_
        obtain ⟨v96, hv96, h⟩ := Option.bind_eq_some_iff.mp h
        refine RT.iald (pc := 96) (x := v92) (i := a1) (v := v96) dX12_power_96 (rt_lta hz (by decide) (by decide) hv96) hv96 ?_
        refine RT.iadd (pc := 97) dX12_power_97 ?_
        refine RT.iload_n (pc := 98) (k := 2) (x := a2) dX12_power_98 rfl ?_
        refine RT.icmp_lt (pc := 99) (tgt := 106) dX12_power_99 rfl (fun q99 => ?_) (fun q99 => ?_)
        · rw [if_pos q99] at h
          refine RT.wk (L1 := [(2, a0), (0, a1), (0, a2), (0, a3), (9, 0), (0, s.2.1), (9, 0)]) (rt_le_s (rt_le_s (rt_le_s (rt_le_s (rt_le_j (rt_le_s (rt_le_j rt_le_n))))))) ?_
          exact cj_X12_power_106_54 hz hd ht a1 a2 a3 s.2.1 s.1 s.2.2 _ h hK
        · rw [if_neg q99] at h
          refine RT.iconst (pc := 102) (n := 1) dX12_power_102 ⟨by decide, by decide⟩ ?_
          refine RT.goto (pc := 103) (tgt := 107) dX12_power_103 rfl ?_
          refine RT.wk (L1 := [(2, a0), (0, a1), (0, a2), (0, a3), (9, 0), (0, s.2.1), (9, 0)]) (rt_le_s (rt_le_s (rt_le_s (rt_le_s (rt_le_j (rt_le_s (rt_le_j rt_le_n))))))) ?_
          exact cj_X12_power_107_54 hz hd ht a1 a2 a3 s.2.1 s.1 1 s.2.2 _ h hK
    · rw [if_neg q67] at h
      refine RT.goto (pc := 70) (tgt := 110) dX12_power_70 rfl ?_
      exact cj_X12_power_110_54 hz hd ht a1 a2 a3 s.1 s.2.1 s.2.2 _ h hK
theorem c_X12_power {G : rt_G} {d : Nat} {z : Nat × Nat} (hz : 300 ≤ z.1) (hd : 1 ≤ d) (a0 : Int) (a1 : Int) (a2 : Int) (mem0 : rt_M) (t : Int × rt_M) (ht : rt_kd a0.toNat = 20 + 12) (h : f_X12_power a0 a1 a2 mem0 = some t) : RM G M_X12_power d [(2, a0), (0, a1), (0, a2)] z mem0 (some (0, t.1)) t.2 := by
  suffices H : ∀ Q : rt_P, Q (some (0, t.1)) z t.2 → RT G M_X12_power d z Q 0 [(2, a0), (0, a1), (0, a2), (9, 0), (9, 0), (9, 0), (9, 0)] [] z mem0 from H _ ⟨rfl, rfl, rfl⟩
  intro Q hK
  unfold f_X12_power at h
  refine RT.aload_n (pc := 0) (k := 0) (x := a0) dX12_power_0 rfl ?_
  refine RT.iconst (pc := 1) (n := 0) dX12_power_1 ⟨by decide, by decide⟩ ?_
  obtain ⟨m2, hm2, h⟩ := Option.bind_eq_some_iff.mp h
  refine RT.pf_i 12 0 (pc := 2) (mem1 := m2) hz dX12_power_2 fl_X12_171 rfl rfl rfl hm2 ?_
  refine RT.aload_n (pc := 5) (k := 0) (x := a0) dX12_power_5 rfl ?_
  refine RT.iload_n (pc := 6) (k := 1) (x := a1) dX12_power_6 rfl ?_
  obtain ⟨p7, hp7, h⟩ := Option.bind_eq_some_iff.mp h
  refine RT.cVz (pc := 7) (M' := M_X12_isWig) (ci := 12) (x := a0) (As := [(0, a1)]) (st := []) (r := some (0, p7)) (mem1 := m2) (d' := d - 1) hz dX12_power_7 mw_X12_isWig ml_X12_414 mi_X12_isWig ht rfl rfl (Nat.le_of_ble_eq_true rfl) (Nat.le_of_ble_eq_true rfl) (by omega) rfl rfl (c_X12_isWig hz (by omega) a0 a1 m2 _ ht hp7) ?_
  refine RT.if_eq (pc := 10) (tgt := 35) dX12_power_10 rfl (fun q10 => ?_) (fun q10 => ?_)
  · rw [if_pos q10] at h
    refine RT.wk (L1 := [(9, 0), (9, 0), (9, 0), (9, 0), (9, 0), (9, 0), (9, 0)]) (rt_le_j (rt_le_j (rt_le_j (rt_le_s (rt_le_s (rt_le_s (rt_le_s rt_le_n))))))) ?_
    exact cj_X12_power_35 hz hd ht m2 _ h hK
  · rw [if_neg q10] at h
    refine RT.iload_n (pc := 13) (k := 2) (x := a2) dX12_power_13 rfl ?_
    refine RT.iconst (pc := 14) (n := 0) dX12_power_14 ⟨by decide, by decide⟩ ?_
    refine RT.sipush (pc := 15) (n := 999) dX12_power_15 ⟨by decide, by decide⟩ rfl ?_
    obtain ⟨p18, hp18, h⟩ := Option.bind_eq_some_iff.mp h
    refine RT.cSz (pc := 18) (M' := M_X12_within) (As := [(0, a2), (0, 0), (0, 999)]) (st := []) (r := some (0, p18)) (mem1 := m2) (d' := d - 1) dX12_power_18 mw_X12_within ml_X12_301 mi_X12_within rfl rfl (Nat.le_of_ble_eq_true rfl) (Nat.le_of_ble_eq_true rfl) (by omega) rfl rfl (c_X12_within hz (by omega) a2 0 999 m2 _ hp18) ?_
    refine RT.if_eq (pc := 21) (tgt := 35) dX12_power_21 rfl (fun q21 => ?_) (fun q21 => ?_)
    · rw [if_pos q21] at h
      refine RT.wk (L1 := [(9, 0), (9, 0), (9, 0), (9, 0), (9, 0), (9, 0), (9, 0)]) (rt_le_j (rt_le_j (rt_le_j (rt_le_s (rt_le_s (rt_le_s (rt_le_s rt_le_n))))))) ?_
      exact cj_X12_power_35 hz hd ht m2 _ h hK
    · rw [if_neg q21] at h
      refine RT.aload_n (pc := 24) (k := 0) (x := a0) dX12_power_24 rfl ?_
      obtain ⟨v25, hv25, h⟩ := Option.bind_eq_some_iff.mp h
      refine RT.gf 12 50 2 (pc := 25) (x := a0) (v := v25) hz dX12_power_25 fl_X12_120 rfl hv25 ?_
      refine RT.iconst (pc := 28) (n := 1) dX12_power_28 ⟨by decide, by decide⟩ ?_
      refine RT.iload_n (pc := 29) (k := 1) (x := a1) dX12_power_29 rfl ?_
      refine RT.iadd (pc := 30) dX12_power_30 ?_
      obtain ⟨v31, hv31, h⟩ := Option.bind_eq_some_iff.mp h
      refine RT.iald (pc := 31) (x := v25) (i := (rt_iadd 1 a1)) (v := v31) dX12_power_31 (rt_lta hz (by decide) (by decide) hv31) hv31 ?_
      refine RT.if_ge (pc := 32) (tgt := 37) dX12_power_32 rfl (fun q32 => ?_) (fun q32 => ?_)
      · rw [if_pos q32] at h
        refine RT.aload_n (pc := 37) (k := 0) (x := a0) dX12_power_37 rfl ?_
        obtain ⟨p38, hp38, h⟩ := Option.bind_eq_some_iff.mp h
        refine RT.cVz (pc := 38) (M' := M_X12_onHeads) (ci := 12) (x := a0) (As := []) (st := []) (r := some (0, p38)) (mem1 := m2) (d' := d - 1) hz dX12_power_38 mw_X12_onHeads ml_X12_436 mi_X12_onHeads ht rfl rfl (Nat.le_of_ble_eq_true rfl) (Nat.le_of_ble_eq_true rfl) (by omega) rfl rfl (c_X12_onHeads hz (by omega) a0 m2 _ ht hp38) ?_
        refine RT.iconst (pc := 41) (n := 1) dX12_power_41 ⟨by decide, by decide⟩ ?_
        refine RT.iload_n (pc := 42) (k := 1) (x := a1) dX12_power_42 rfl ?_
        refine RT.ishl (pc := 43) dX12_power_43 ?_
        refine RT.iconst (pc := 44) (n := (-1)) dX12_power_44 ⟨by decide, by decide⟩ ?_
        refine RT.ixor (pc := 45) dX12_power_45 ?_
        refine RT.iand (pc := 46) dX12_power_46 ?_
        refine RT.istore_n (pc := 47) (k := 3) (x := (rt_iand p38 (rt_ixor (rt_ishl 1 a1) (-1)))) (L1 := [(2, a0), (0, a1), (0, a2), (0, (rt_iand p38 (rt_ixor (rt_ishl 1 a1) (-1)))), (9, 0), (9, 0), (9, 0)]) dX12_power_47 (Nat.le_of_ble_eq_true rfl) rfl ?_
        refine RT.iconst (pc := 48) (n := 0) dX12_power_48 ⟨by decide, by decide⟩ ?_
        refine RT.istore (pc := 49) (k := 4) (x := 0) (L1 := [(2, a0), (0, a1), (0, a2), (0, (rt_iand p38 (rt_ixor (rt_ishl 1 a1) (-1)))), (0, 0), (9, 0), (9, 0)]) dX12_power_49 (Nat.le_of_ble_eq_true rfl) rfl ?_
        refine RT.iconst (pc := 51) (n := 0) dX12_power_51 ⟨by decide, by decide⟩ ?_
        refine RT.istore (pc := 52) (k := 5) (x := 0) (L1 := [(2, a0), (0, a1), (0, a2), (0, (rt_iand p38 (rt_ixor (rt_ishl 1 a1) (-1)))), (0, 0), (0, 0), (9, 0)]) dX12_power_52 (Nat.le_of_ble_eq_true rfl) rfl ?_
        obtain ⟨X54, hX54, h⟩ := Option.bind_eq_some_iff.mp h
        refine rt_it_ind (P := (fun s1 : Int × Int × rt_M => RT G M_X12_power d z Q 54 [(2, a0), (0, a1), (0, a2), (0, (rt_iand p38 (rt_ixor (rt_ishl 1 a1) (-1)))), (0, s1.1), (0, s1.2.1), (9, 0)] [] z s1.2.2)) (X := (fun x1 : Int × rt_M => RT G M_X12_power d z Q 116 [(9, 0), (9, 0), (9, 0), (9, 0), (0, x1.1), (9, 0), (9, 0)] [] z x1.2)) (fun s1 t1 h1 k1 k2 => cb_X12_power_54 hz hd ht a1 a2 ((rt_iand p38 (rt_ixor (rt_ishl 1 a1) (-1)))) s1 t1 h1 ⟨k1, k2⟩) 4000 ((0, 0, m2)) X54 hX54 ?_
        refine RT.iload (pc := 116) (k := 4) (x := X54.1) dX12_power_116 rfl ?_
        obtain rfl := Option.some.inj h
        exact RT.iret (pc := 118) dX12_power_118 rfl (Nat.le_of_eq (rt_cells_0 z)) (Nat.le_of_eq (rt_slots_0 z)) hK
      · rw [if_neg q32] at h
        refine RT.wk (L1 := [(9, 0), (9, 0), (9, 0), (9, 0), (9, 0), (9, 0), (9, 0)]) (rt_le_j (rt_le_j (rt_le_j (rt_le_s (rt_le_s (rt_le_s (rt_le_s rt_le_n))))))) ?_
        exact cj_X12_power_35 hz hd ht m2 _ h hK
theorem cb_X12_fitsAll_2 {G : rt_G} {d : Nat} {z : Nat × Nat} {Q : rt_P} (hz : 300 ≤ z.1) (hd : 6 ≤ d) {a0 : Int} (ht : rt_kd a0.toNat = 20 + 12) (a1 : Int) (a2 : Int) (s : Int × rt_M) (t : (Int × rt_M) ⊕ ((rt_M) ⊕ (Int × rt_M))) (h : b_X12_fitsAll_2 a0 a1 a2 s = some t) (hK : (∀ s1 : Int × rt_M, t = .inl s1 → RT G M_X12_fitsAll d z Q 2 [(2, a0), (0, a1), (0, a2), (0, s1.1)] [] z s1.2) ∧ (∀ x1 : rt_M, t = .inr (.inl x1) → RT G M_X12_fitsAll d z Q 35 [(9, 0), (9, 0), (9, 0), (9, 0)] [] z x1) ∧ (∀ t1 : Int × rt_M, t = .inr (.inr t1) → Q (some (0, t1.1)) z t1.2)) : RT G M_X12_fitsAll d z Q 2 [(2, a0), (0, a1), (0, a2), (0, s.1)] [] z s.2 := by
  unfold b_X12_fitsAll_2 at h
  refine RT.iload_n (pc := 2) (k := 3) (x := s.1) dX12_fitsAll_2 rfl ?_
  refine RT.aload_n (pc := 3) (k := 0) (x := a0) dX12_fitsAll_3 rfl ?_
  obtain ⟨v4, hv4, h⟩ := Option.bind_eq_some_iff.mp h
  refine RT.gf 12 59 0 (pc := 4) (x := a0) (v := v4) hz dX12_fitsAll_4 fl_X12_448 rfl hv4 ?_
  refine RT.icmp_ge (pc := 7) (tgt := 35) dX12_fitsAll_7 rfl (fun q7 => ?_) (fun q7 => ?_)
  · rw [if_pos q7] at h
    refine RT.wk (L1 := [(9, 0), (9, 0), (9, 0), (9, 0)]) (rt_le_j (rt_le_j (rt_le_j (rt_le_j rt_le_n)))) ?_
    obtain rfl := Option.some.inj h
    have q1 := hK.2.1 s.2 rfl
    try dsimp only at q1
    exact q1
  · rw [if_neg q7] at h
    refine RT.aload_n (pc := 10) (k := 0) (x := a0) dX12_fitsAll_10 rfl ?_
    refine RT.iload_n (pc := 11) (k := 1) (x := a1) dX12_fitsAll_11 rfl ?_
    refine RT.iload_n (pc := 12) (k := 2) (x := a2) dX12_fitsAll_12 rfl ?_
    refine RT.aload_n (pc := 13) (k := 0) (x := a0) dX12_fitsAll_13 rfl ?_
    obtain ⟨v14, hv14, h⟩ := Option.bind_eq_some_iff.mp h
    refine RT.gf 12 50 2 (pc := 14) (x := a0) (v := v14) hz dX12_fitsAll_14 fl_X12_120 rfl hv14 ?_
    refine RT.iconst (pc := 17) (n := 0) dX12_fitsAll_17 ⟨by decide, by decide⟩ ?_
    obtain ⟨v18, hv18, h⟩ := Option.bind_eq_some_iff.mp h
    refine RT.iald (pc := 18) (x := v14) (i := 0) (v := v18) dX12_fitsAll_18 (rt_lta hz (by decide) (by decide) hv18) hv18 ?_
    refine RT.iload_n (pc := 19) (k := 3) (x := s.1) dX12_fitsAll_19 rfl ?_
    refine RT.iadd (pc := 20) dX12_fitsAll_20 ?_
    obtain ⟨p21, hp21, h⟩ := Option.bind_eq_some_iff.mp h
    refine RT.cVz (pc := 21) (M' := M_X12_fitsIn) (ci := 12) (x := a0) (As := [(0, a1), (0, a2), (0, (rt_iadd v18 s.1))]) (st := []) (r := some (0, p21.1)) (mem1 := p21.2) (d' := d - 1) hz dX12_fitsAll_21 mw_X12_fitsIn ml_X12_406 mi_X12_fitsIn ht rfl rfl (Nat.le_of_ble_eq_true rfl) (Nat.le_of_ble_eq_true rfl) (by omega) rfl rfl (c_X12_fitsIn hz (by omega) a0 a1 a2 ((rt_iadd v18 s.1)) s.2 _ ht hp21) ?_
    refine RT.if_ne (pc := 24) (tgt := 29) dX12_fitsAll_24 rfl (fun q24 => ?_) (fun q24 => ?_)
    · rw [if_neg q24] at h
      refine RT.iinc (pc := 29) (x := s.1) (L1 := [(2, a0), (0, a1), (0, a2), (0, (rt_iadd s.1 1))]) dX12_fitsAll_29 rfl (Nat.le_of_ble_eq_true rfl) ⟨by decide, by decide⟩ rfl ?_
      refine RT.goto (pc := 32) (tgt := 2) dX12_fitsAll_32 rfl ?_
      obtain rfl := Option.some.inj h
      have q1 := hK.1 (((rt_iadd s.1 1), p21.2)) rfl
      try dsimp only at q1
      exact q1
    · rw [if_pos (Classical.not_not.mp q24)] at h
      obtain ⟨t2, g2, e2⟩ := Option.map_eq_some_iff.mp h
      subst e2
      replace h := g2
      replace hK := hK.2.2 t2 rfl
      refine RT.iconst (pc := 27) (n := 0) dX12_fitsAll_27 ⟨by decide, by decide⟩ ?_
      obtain rfl := Option.some.inj h
      exact RT.zret (pc := 28) dX12_fitsAll_28 rfl (by decide) (Nat.le_of_eq (rt_cells_0 z)) (Nat.le_of_eq (rt_slots_0 z)) hK
theorem c_X12_fitsAll {G : rt_G} {d : Nat} {z : Nat × Nat} (hz : 300 ≤ z.1) (hd : 6 ≤ d) (a0 : Int) (a1 : Int) (a2 : Int) (mem0 : rt_M) (t : Int × rt_M) (ht : rt_kd a0.toNat = 20 + 12) (h : f_X12_fitsAll a0 a1 a2 mem0 = some t) : RM G M_X12_fitsAll d [(2, a0), (0, a1), (0, a2)] z mem0 (some (0, t.1)) t.2 := by
  suffices H : ∀ Q : rt_P, Q (some (0, t.1)) z t.2 → RT G M_X12_fitsAll d z Q 0 [(2, a0), (0, a1), (0, a2), (9, 0)] [] z mem0 from H _ ⟨rfl, rfl, rfl⟩
  intro Q hK
  unfold f_X12_fitsAll at h
  refine RT.iconst (pc := 0) (n := 0) dX12_fitsAll_0 ⟨by decide, by decide⟩ ?_
  refine RT.istore_n (pc := 1) (k := 3) (x := 0) (L1 := [(2, a0), (0, a1), (0, a2), (0, 0)]) dX12_fitsAll_1 (Nat.le_of_ble_eq_true rfl) rfl ?_
  obtain ⟨E2, hE2, h⟩ := Option.bind_eq_some_iff.mp h
  refine rt_it_ind (P := (fun s1 : Int × rt_M => RT G M_X12_fitsAll d z Q 2 [(2, a0), (0, a1), (0, a2), (0, s1.1)] [] z s1.2)) (X := (fun e1 : (rt_M) ⊕ (Int × rt_M) => (∀ x1 : rt_M, e1 = .inl x1 → RT G M_X12_fitsAll d z Q 35 [(9, 0), (9, 0), (9, 0), (9, 0)] [] z x1) ∧ (∀ t1 : Int × rt_M, e1 = .inr t1 → Q (some (0, t1.1)) z t1.2))) (fun s1 t1 h1 k1 k2 => cb_X12_fitsAll_2 hz hd ht a1 a2 s1 t1 h1 ⟨k1, fun x1 q => (k2 _ q).1 x1 rfl, fun t2 q => (k2 _ q).2 t2 rfl⟩) 4000 ((0, mem0)) E2 hE2 ?_
  cases E2 with
  | inr t1 =>
    obtain rfl := Option.some.inj h
    exact ⟨fun x1 q => (by cases q), fun t2 q => (by cases q; exact hK)⟩
  | inl X2 =>
    refine ⟨fun x1 q => ?_, fun t2 q => (by cases q)⟩
    cases q
    refine RT.iconst (pc := 35) (n := 1) dX12_fitsAll_35 ⟨by decide, by decide⟩ ?_
    obtain rfl := Option.some.inj h
    exact RT.zret (pc := 36) dX12_fitsAll_36 rfl (by decide) (Nat.le_of_eq (rt_cells_0 z)) (Nat.le_of_eq (rt_slots_0 z)) hK
theorem cj_X12_fillsFrom_126_58 {G : rt_G} {d : Nat} {z : Nat × Nat} {Q : rt_P} (rec_X12_fillsFrom : Int → Int → Int → Int → rt_M → Option (rt_M)) (hrec_X12_fillsFrom : ∀ (a0 a1 a2 a3 : Int) (mem0 : rt_M) (t : rt_M), rt_kd a0.toNat = 20 + 12 → rec_X12_fillsFrom a0 a1 a2 a3 mem0 = some t → RM G M_X12_fillsFrom (d - 1) [(2, a0), (0, a1), (0, a2), (0, a3)] z mem0 none t) (hz : 300 ≤ z.1) (hd : 1 ≤ d) {a0 : Int} (ht : rt_kd a0.toNat = 20 + 12) (a1 : Int) (a2 : Int) (a3 : Int) (a4 : Int) (mem0 : rt_M) (t : (Int × rt_M) ⊕ (rt_M)) (h : j_X12_fillsFrom_126_58 rec_X12_fillsFrom a0 a1 a2 a3 a4 mem0 = some t) (hK : (∀ s1 : Int × rt_M, t = .inl s1 → RT G M_X12_fillsFrom d z Q 58 [(2, a0), (0, a1), (0, a2), (0, a3), (0, s1.1)] [] z s1.2) ∧ (∀ x1 : rt_M, t = .inr x1 → RT G M_X12_fillsFrom d z Q 132 [(2, a0), (0, a1), (0, a2), (0, a3), (9, 0)] [] z x1)) : RT G M_X12_fillsFrom d z Q 126 [(2, a0), (0, a1), (0, a2), (0, a3), (0, a4)] [] z mem0 := by
  unfold j_X12_fillsFrom_126_58 at h
  refine RT.iinc (pc := 126) (x := a4) (L1 := [(2, a0), (0, a1), (0, a2), (0, a3), (0, (rt_iadd a4 1))]) dX12_fillsFrom_126 rfl (Nat.le_of_ble_eq_true rfl) ⟨by decide, by decide⟩ rfl ?_
  refine RT.goto (pc := 129) (tgt := 58) dX12_fillsFrom_129 rfl ?_
  obtain rfl := Option.some.inj h
  have q1 := hK.1 (((rt_iadd a4 1), mem0)) rfl
  try dsimp only at q1
  exact q1
theorem cb_X12_fillsFrom_58 {G : rt_G} {d : Nat} {z : Nat × Nat} {Q : rt_P} (rec_X12_fillsFrom : Int → Int → Int → Int → rt_M → Option (rt_M)) (hrec_X12_fillsFrom : ∀ (a0 a1 a2 a3 : Int) (mem0 : rt_M) (t : rt_M), rt_kd a0.toNat = 20 + 12 → rec_X12_fillsFrom a0 a1 a2 a3 mem0 = some t → RM G M_X12_fillsFrom (d - 1) [(2, a0), (0, a1), (0, a2), (0, a3)] z mem0 none t) (hz : 300 ≤ z.1) (hd : 1 ≤ d) {a0 : Int} (ht : rt_kd a0.toNat = 20 + 12) (a1 : Int) (a2 : Int) (a3 : Int) (s : Int × rt_M) (t : (Int × rt_M) ⊕ (rt_M)) (h : b_X12_fillsFrom_58 rec_X12_fillsFrom a0 a1 a2 a3 s = some t) (hK : (∀ s1 : Int × rt_M, t = .inl s1 → RT G M_X12_fillsFrom d z Q 58 [(2, a0), (0, a1), (0, a2), (0, a3), (0, s1.1)] [] z s1.2) ∧ (∀ x1 : rt_M, t = .inr x1 → RT G M_X12_fillsFrom d z Q 132 [(2, a0), (0, a1), (0, a2), (0, a3), (9, 0)] [] z x1)) : RT G M_X12_fillsFrom d z Q 58 [(2, a0), (0, a1), (0, a2), (0, a3), (0, s.1)] [] z s.2 := by
  unfold b_X12_fillsFrom_58 at h
  refine RT.iload (pc := 58) (k := 4) (x := s.1) dX12_fillsFrom_58 rfl ?_
  refine RT.aload_n (pc := 60) (k := 0) (x := a0) dX12_fillsFrom_60 rfl ?_
  obtain ⟨v61, hv61, h⟩ := Option.bind_eq_some_iff.mp h
  refine RT.gf 12 10 2 (pc := 61) (x := a0) (v := v61) hz dX12_fillsFrom_61 fl_X12_13 rfl hv61 ?_
  refine RT.iconst (pc := 64) (n := 1) dX12_fillsFrom_64 ⟨by decide, by decide⟩ ?_
  obtain ⟨v65, hv65, h⟩ := Option.bind_eq_some_iff.mp h
  refine RT.iald (pc := 65) (x := v61) (i := 1) (v := v65) dX12_fillsFrom_65 (rt_lta hz (by decide) (by decide) hv65) hv65 ?_
  refine RT.icmp_ge (pc := 66) (tgt := 132) dX12_fillsFrom_66 rfl (fun q66 => ?_) (fun q66 => ?_)
  · rw [if_pos q66] at h
    refine RT.wk (L1 := [(2, a0), (0, a1), (0, a2), (0, a3), (9, 0)]) (rt_le_s (rt_le_s (rt_le_s (rt_le_s (rt_le_j rt_le_n))))) ?_
    obtain rfl := Option.some.inj h
    have q1 := hK.2 s.2 rfl
    try dsimp only at q1
    exact q1
  · rw [if_neg q66] at h
    refine RT.iload_n (pc := 69) (k := 2) (x := a2) dX12_fillsFrom_69 rfl ?_
    refine RT.iload (pc := 70) (k := 4) (x := s.1) dX12_fillsFrom_70 rfl ?_
    refine RT.ishr (pc := 72) dX12_fillsFrom_72 ?_
    refine RT.iconst (pc := 73) (n := 1) dX12_fillsFrom_73 ⟨by decide, by decide⟩ ?_
    refine RT.iand (pc := 74) dX12_fillsFrom_74 ?_
    refine RT.iconst (pc := 75) (n := 1) dX12_fillsFrom_75 ⟨by decide, by decide⟩ ?_
    refine RT.icmp_eq (pc := 76) (tgt := 126) dX12_fillsFrom_76 rfl (fun q76 => ?_) (fun q76 => ?_)
    · rw [if_pos q76] at h
      exact cj_X12_fillsFrom_126_58 rec_X12_fillsFrom hrec_X12_fillsFrom hz hd ht a1 a2 a3 s.1 s.2 _ h hK
    · rw [if_neg q76] at h
      refine RT.aload_n (pc := 79) (k := 0) (x := a0) dX12_fillsFrom_79 rfl ?_
      obtain ⟨v80, hv80, h⟩ := Option.bind_eq_some_iff.mp h
      refine RT.gf 12 60 2 (pc := 80) (x := a0) (v := v80) hz dX12_fillsFrom_80 fl_X12_141 rfl hv80 ?_
      refine RT.bipush (pc := 83) (n := 6) dX12_fillsFrom_83 ⟨by decide, by decide⟩ rfl ?_
      refine RT.iload_n (pc := 85) (k := 1) (x := a1) dX12_fillsFrom_85 rfl ?_
      refine RT.imul (pc := 86) dX12_fillsFrom_86 ?_
      refine RT.iload (pc := 87) (k := 4) (x := s.1) dX12_fillsFrom_87 rfl ?_
      refine RT.iadd (pc := 89) dX12_fillsFrom_89 ?_
      obtain ⟨v90, hv90, h⟩ := Option.bind_eq_some_iff.mp h
      refine RT.zald (pc := 90) (x := v80) (i := (rt_iadd (rt_imul 6 a1) s.1)) (v := v90) dX12_fillsFrom_90 (rt_lta hz (by decide) (by decide) hv90) hv90 ?_
      refine RT.if_ne (pc := 91) (tgt := 97) dX12_fillsFrom_91 rfl (fun q91 => ?_) (fun q91 => ?_)
      · rw [if_neg q91] at h
        refine RT.aload_n (pc := 97) (k := 0) (x := a0) dX12_fillsFrom_97 rfl ?_
        obtain ⟨v98, hv98, h⟩ := Option.bind_eq_some_iff.mp h
        refine RT.gf 12 56 2 (pc := 98) (x := a0) (v := v98) hz dX12_fillsFrom_98 fl_X12_135 rfl hv98 ?_
        refine RT.iload_n (pc := 101) (k := 1) (x := a1) dX12_fillsFrom_101 rfl ?_
        refine RT.iload (pc := 102) (k := 4) (x := s.1) dX12_fillsFrom_102 rfl ?_
        obtain ⟨m104, hm104, h⟩ := Option.bind_eq_some_iff.mp h
        refine RT.iast (pc := 104) (x := v98) (i := a1) (v := s.1) (mem1 := m104) dX12_fillsFrom_104 (rt_lts hz (by decide) (by decide) hm104) hm104 ?_
        refine RT.aload_n (pc := 105) (k := 0) (x := a0) dX12_fillsFrom_105 rfl ?_
        refine RT.iload_n (pc := 106) (k := 1) (x := a1) dX12_fillsFrom_106 rfl ?_
        refine RT.iconst (pc := 107) (n := 1) dX12_fillsFrom_107 ⟨by decide, by decide⟩ ?_
        refine RT.iadd (pc := 108) dX12_fillsFrom_108 ?_
        refine RT.iload_n (pc := 109) (k := 2) (x := a2) dX12_fillsFrom_109 rfl ?_
        refine RT.iconst (pc := 110) (n := 1) dX12_fillsFrom_110 ⟨by decide, by decide⟩ ?_
        refine RT.iload (pc := 111) (k := 4) (x := s.1) dX12_fillsFrom_111 rfl ?_
        refine RT.ishl (pc := 113) dX12_fillsFrom_113 ?_
        refine RT.ior (pc := 114) dX12_fillsFrom_114 ?_
        refine RT.iload_n (pc := 115) (k := 3) (x := a3) dX12_fillsFrom_115 rfl ?_
        refine RT.aload_n (pc := 116) (k := 0) (x := a0) dX12_fillsFrom_116 rfl ?_
        obtain ⟨v117, hv117, h⟩ := Option.bind_eq_some_iff.mp h
        refine RT.gf 12 14 2 (pc := 117) (x := a0) (v := v117) hz dX12_fillsFrom_117 fl_X12_26 rfl hv117 ?_
        refine RT.iload_n (pc := 120) (k := 1) (x := a1) dX12_fillsFrom_120 rfl ?_
        obtain ⟨v121, hv121, h⟩ := Option.bind_eq_some_iff.mp h
        refine RT.iald (pc := 121) (x := v117) (i := a1) (v := v121) dX12_fillsFrom_121 (rt_lta hz (by decide) (by decide) hv121) hv121 ?_
        refine RT.iadd (pc := 122) dX12_fillsFrom_122 ?_
        obtain ⟨p123, hp123, h⟩ := Option.bind_eq_some_iff.mp h
        refine RT.cVz (pc := 123) (M' := M_X12_fillsFrom) (ci := 12) (x := a0) (As := [(0, (rt_iadd a1 1)), (0, (rt_ior a2 (rt_ishl 1 s.1))), (0, (rt_iadd a3 v121))]) (st := []) (r := none) (mem1 := p123) (d' := d - 1) hz dX12_fillsFrom_123 mw_X12_fillsFrom ml_X12_454 mi_X12_fillsFrom ht rfl rfl (Nat.le_of_ble_eq_true rfl) (Nat.le_of_ble_eq_true rfl) (by omega) rfl rfl (hrec_X12_fillsFrom a0 ((rt_iadd a1 1)) ((rt_ior a2 (rt_ishl 1 s.1))) ((rt_iadd a3 v121)) m104 _ ht hp123) ?_
        exact cj_X12_fillsFrom_126_58 rec_X12_fillsFrom hrec_X12_fillsFrom hz hd ht a1 a2 a3 s.1 p123 _ h hK
      · rw [if_pos (Classical.not_not.mp q91)] at h
        refine RT.goto (pc := 94) (tgt := 126) dX12_fillsFrom_94 rfl ?_
        exact cj_X12_fillsFrom_126_58 rec_X12_fillsFrom hrec_X12_fillsFrom hz hd ht a1 a2 a3 s.1 s.2 _ h hK
theorem cb_X12_fillsFrom_27 {G : rt_G} {d : Nat} {z : Nat × Nat} {Q : rt_P} (rec_X12_fillsFrom : Int → Int → Int → Int → rt_M → Option (rt_M)) (hrec_X12_fillsFrom : ∀ (a0 a1 a2 a3 : Int) (mem0 : rt_M) (t : rt_M), rt_kd a0.toNat = 20 + 12 → rec_X12_fillsFrom a0 a1 a2 a3 mem0 = some t → RM G M_X12_fillsFrom (d - 1) [(2, a0), (0, a1), (0, a2), (0, a3)] z mem0 none t) (hz : 300 ≤ z.1) (hd : 1 ≤ d) {a0 : Int} (ht : rt_kd a0.toNat = 20 + 12) (s : Int × rt_M) (t : (Int × rt_M) ⊕ (rt_M)) (h : b_X12_fillsFrom_27 rec_X12_fillsFrom a0 s = some t) (hK : (∀ s1 : Int × rt_M, t = .inl s1 → RT G M_X12_fillsFrom d z Q 27 [(2, a0), (9, 0), (9, 0), (9, 0), (0, s1.1)] [] z s1.2) ∧ (∀ x1 : rt_M, t = .inr x1 → RT G M_X12_fillsFrom d z Q 54 [(9, 0), (9, 0), (9, 0), (9, 0), (9, 0)] [] z x1)) : RT G M_X12_fillsFrom d z Q 27 [(2, a0), (9, 0), (9, 0), (9, 0), (0, s.1)] [] z s.2 := by
  unfold b_X12_fillsFrom_27 at h
  refine RT.iload (pc := 27) (k := 4) (x := s.1) dX12_fillsFrom_27 rfl ?_
  refine RT.bipush (pc := 29) (n := 6) dX12_fillsFrom_29 ⟨by decide, by decide⟩ rfl ?_
  refine RT.icmp_ge (pc := 31) (tgt := 54) dX12_fillsFrom_31 rfl (fun q31 => ?_) (fun q31 => ?_)
  · rw [if_pos q31] at h
    refine RT.wk (L1 := [(9, 0), (9, 0), (9, 0), (9, 0), (9, 0)]) (rt_le_j (rt_le_s (rt_le_s (rt_le_s (rt_le_j rt_le_n))))) ?_
    obtain rfl := Option.some.inj h
    have q1 := hK.2 s.2 rfl
    try dsimp only at q1
    exact q1
  · rw [if_neg q31] at h
    refine RT.aload_n (pc := 34) (k := 0) (x := a0) dX12_fillsFrom_34 rfl ?_
    obtain ⟨v35, hv35, h⟩ := Option.bind_eq_some_iff.mp h
    refine RT.gf 12 57 2 (pc := 35) (x := a0) (v := v35) hz dX12_fillsFrom_35 fl_X12_138 rfl hv35 ?_
    refine RT.iload (pc := 38) (k := 4) (x := s.1) dX12_fillsFrom_38 rfl ?_
    refine RT.aload_n (pc := 40) (k := 0) (x := a0) dX12_fillsFrom_40 rfl ?_
    obtain ⟨v41, hv41, h⟩ := Option.bind_eq_some_iff.mp h
    refine RT.gf 12 56 2 (pc := 41) (x := a0) (v := v41) hz dX12_fillsFrom_41 fl_X12_135 rfl hv41 ?_
    refine RT.iload (pc := 44) (k := 4) (x := s.1) dX12_fillsFrom_44 rfl ?_
    obtain ⟨v46, hv46, h⟩ := Option.bind_eq_some_iff.mp h
    refine RT.iald (pc := 46) (x := v41) (i := s.1) (v := v46) dX12_fillsFrom_46 (rt_lta hz (by decide) (by decide) hv46) hv46 ?_
    obtain ⟨m47, hm47, h⟩ := Option.bind_eq_some_iff.mp h
    refine RT.iast (pc := 47) (x := v35) (i := s.1) (v := v46) (mem1 := m47) dX12_fillsFrom_47 (rt_lts hz (by decide) (by decide) hm47) hm47 ?_
    refine RT.iinc (pc := 48) (x := s.1) (L1 := [(2, a0), (9, 0), (9, 0), (9, 0), (0, (rt_iadd s.1 1))]) dX12_fillsFrom_48 rfl (Nat.le_of_ble_eq_true rfl) ⟨by decide, by decide⟩ rfl ?_
    refine RT.goto (pc := 51) (tgt := 27) dX12_fillsFrom_51 rfl ?_
    obtain rfl := Option.some.inj h
    have q1 := hK.1 (((rt_iadd s.1 1), m47)) rfl
    try dsimp only at q1
    exact q1
theorem c_X12_fillsFrom {G : rt_G} {d : Nat} {z : Nat × Nat} (rec_X12_fillsFrom : Int → Int → Int → Int → rt_M → Option (rt_M)) (hrec_X12_fillsFrom : ∀ (a0 a1 a2 a3 : Int) (mem0 : rt_M) (t : rt_M), rt_kd a0.toNat = 20 + 12 → rec_X12_fillsFrom a0 a1 a2 a3 mem0 = some t → RM G M_X12_fillsFrom (d - 1) [(2, a0), (0, a1), (0, a2), (0, a3)] z mem0 none t) (hz : 300 ≤ z.1) (hd : 1 ≤ d) (a0 : Int) (a1 : Int) (a2 : Int) (a3 : Int) (mem0 : rt_M) (t : rt_M) (ht : rt_kd a0.toNat = 20 + 12) (h : f_X12_fillsFrom rec_X12_fillsFrom a0 a1 a2 a3 mem0 = some t) : RM G M_X12_fillsFrom d [(2, a0), (0, a1), (0, a2), (0, a3)] z mem0 none t := by
  suffices H : ∀ Q : rt_P, Q none z t → RT G M_X12_fillsFrom d z Q 0 [(2, a0), (0, a1), (0, a2), (0, a3), (9, 0)] [] z mem0 from H _ ⟨rfl, rfl, rfl⟩
  intro Q hK
  unfold f_X12_fillsFrom at h
  refine RT.iload_n (pc := 0) (k := 1) (x := a1) dX12_fillsFrom_0 rfl ?_
  refine RT.aload_n (pc := 1) (k := 0) (x := a0) dX12_fillsFrom_1 rfl ?_
  obtain ⟨v2, hv2, h⟩ := Option.bind_eq_some_iff.mp h
  refine RT.gf 12 10 2 (pc := 2) (x := a0) (v := v2) hz dX12_fillsFrom_2 fl_X12_13 rfl hv2 ?_
  refine RT.iconst (pc := 5) (n := 0) dX12_fillsFrom_5 ⟨by decide, by decide⟩ ?_
  obtain ⟨v6, hv6, h⟩ := Option.bind_eq_some_iff.mp h
  refine RT.iald (pc := 6) (x := v2) (i := 0) (v := v6) dX12_fillsFrom_6 (rt_lta hz (by decide) (by decide) hv6) hv6 ?_
  refine RT.icmp_ne (pc := 7) (tgt := 55) dX12_fillsFrom_7 rfl (fun q7 => ?_) (fun q7 => ?_)
  · rw [if_neg q7] at h
    refine RT.iconst (pc := 55) (n := 0) dX12_fillsFrom_55 ⟨by decide, by decide⟩ ?_
    refine RT.istore (pc := 56) (k := 4) (x := 0) (L1 := [(2, a0), (0, a1), (0, a2), (0, a3), (0, 0)]) dX12_fillsFrom_56 (Nat.le_of_ble_eq_true rfl) rfl ?_
    obtain ⟨X58, hX58, h⟩ := Option.bind_eq_some_iff.mp h
    refine rt_it_ind (P := (fun s1 : Int × rt_M => RT G M_X12_fillsFrom d z Q 58 [(2, a0), (0, a1), (0, a2), (0, a3), (0, s1.1)] [] z s1.2)) (X := (fun x1 : rt_M => RT G M_X12_fillsFrom d z Q 132 [(2, a0), (0, a1), (0, a2), (0, a3), (9, 0)] [] z x1)) (fun s1 t1 h1 k1 k2 => cb_X12_fillsFrom_58 rec_X12_fillsFrom hrec_X12_fillsFrom hz hd ht a1 a2 a3 s1 t1 h1 ⟨k1, k2⟩) 4000 ((0, mem0)) X58 hX58 ?_
    refine RT.aload_n (pc := 132) (k := 0) (x := a0) dX12_fillsFrom_132 rfl ?_
    obtain ⟨v133, hv133, h⟩ := Option.bind_eq_some_iff.mp h
    refine RT.gf 12 56 2 (pc := 133) (x := a0) (v := v133) hz dX12_fillsFrom_133 fl_X12_135 rfl hv133 ?_
    refine RT.iload_n (pc := 136) (k := 1) (x := a1) dX12_fillsFrom_136 rfl ?_
    refine RT.iconst (pc := 137) (n := (-1)) dX12_fillsFrom_137 ⟨by decide, by decide⟩ ?_
    obtain ⟨m138, hm138, h⟩ := Option.bind_eq_some_iff.mp h
    refine RT.iast (pc := 138) (x := v133) (i := a1) (v := (-1)) (mem1 := m138) dX12_fillsFrom_138 (rt_lts hz (by decide) (by decide) hm138) hm138 ?_
    refine RT.aload_n (pc := 139) (k := 0) (x := a0) dX12_fillsFrom_139 rfl ?_
    refine RT.iload_n (pc := 140) (k := 1) (x := a1) dX12_fillsFrom_140 rfl ?_
    refine RT.iconst (pc := 141) (n := 1) dX12_fillsFrom_141 ⟨by decide, by decide⟩ ?_
    refine RT.iadd (pc := 142) dX12_fillsFrom_142 ?_
    refine RT.iload_n (pc := 143) (k := 2) (x := a2) dX12_fillsFrom_143 rfl ?_
    refine RT.iload_n (pc := 144) (k := 3) (x := a3) dX12_fillsFrom_144 rfl ?_
    obtain ⟨p145, hp145, h⟩ := Option.bind_eq_some_iff.mp h
    refine RT.cVz (pc := 145) (M' := M_X12_fillsFrom) (ci := 12) (x := a0) (As := [(0, (rt_iadd a1 1)), (0, a2), (0, a3)]) (st := []) (r := none) (mem1 := p145) (d' := d - 1) hz dX12_fillsFrom_145 mw_X12_fillsFrom ml_X12_454 mi_X12_fillsFrom ht rfl rfl (Nat.le_of_ble_eq_true rfl) (Nat.le_of_ble_eq_true rfl) (by omega) rfl rfl (hrec_X12_fillsFrom a0 ((rt_iadd a1 1)) a2 a3 m138 _ ht hp145) ?_
    obtain rfl := Option.some.inj h
    exact RT.vret (pc := 148) dX12_fillsFrom_148 rfl (Nat.le_of_eq (rt_cells_0 z)) (Nat.le_of_eq (rt_slots_0 z)) hK
  · rw [if_pos (Classical.not_not.mp q7)] at h
    refine RT.iload_n (pc := 10) (k := 3) (x := a3) dX12_fillsFrom_10 rfl ?_
    refine RT.aload_n (pc := 11) (k := 0) (x := a0) dX12_fillsFrom_11 rfl ?_
    obtain ⟨v12, hv12, h⟩ := Option.bind_eq_some_iff.mp h
    refine RT.gf 12 58 0 (pc := 12) (x := a0) (v := v12) hz dX12_fillsFrom_12 fl_X12_451 rfl hv12 ?_
    refine RT.icmp_gt (pc := 15) (tgt := 19) dX12_fillsFrom_15 rfl (fun q15 => ?_) (fun q15 => ?_)
    · rw [if_pos q15] at h
      refine RT.aload_n (pc := 19) (k := 0) (x := a0) dX12_fillsFrom_19 rfl ?_
      refine RT.iload_n (pc := 20) (k := 3) (x := a3) dX12_fillsFrom_20 rfl ?_
      obtain ⟨m21, hm21, h⟩ := Option.bind_eq_some_iff.mp h
      refine RT.pf_i 12 58 (pc := 21) (mem1 := m21) hz dX12_fillsFrom_21 fl_X12_451 rfl rfl rfl hm21 ?_
      refine RT.iconst (pc := 24) (n := 0) dX12_fillsFrom_24 ⟨by decide, by decide⟩ ?_
      refine RT.istore (pc := 25) (k := 4) (x := 0) (L1 := [(2, a0), (0, a1), (0, a2), (0, a3), (0, 0)]) dX12_fillsFrom_25 (Nat.le_of_ble_eq_true rfl) rfl ?_
      refine RT.wk (L1 := [(2, a0), (9, 0), (9, 0), (9, 0), (0, 0)]) (rt_le_s (rt_le_j (rt_le_j (rt_le_j (rt_le_s rt_le_n))))) ?_
      obtain ⟨X27, hX27, h⟩ := Option.bind_eq_some_iff.mp h
      refine rt_it_ind (P := (fun s1 : Int × rt_M => RT G M_X12_fillsFrom d z Q 27 [(2, a0), (9, 0), (9, 0), (9, 0), (0, s1.1)] [] z s1.2)) (X := (fun x1 : rt_M => RT G M_X12_fillsFrom d z Q 54 [(9, 0), (9, 0), (9, 0), (9, 0), (9, 0)] [] z x1)) (fun s1 t1 h1 k1 k2 => cb_X12_fillsFrom_27 rec_X12_fillsFrom hrec_X12_fillsFrom hz hd ht s1 t1 h1 ⟨k1, k2⟩) 4000 ((0, m21)) X27 hX27 ?_
      obtain rfl := Option.some.inj h
      exact RT.vret (pc := 54) dX12_fillsFrom_54 rfl (Nat.le_of_eq (rt_cells_0 z)) (Nat.le_of_eq (rt_slots_0 z)) hK
    · rw [if_neg q15] at h
      obtain rfl := Option.some.inj h
      exact RT.vret (pc := 18) dX12_fillsFrom_18 rfl (Nat.le_of_eq (rt_cells_0 z)) (Nat.le_of_eq (rt_slots_0 z)) hK
