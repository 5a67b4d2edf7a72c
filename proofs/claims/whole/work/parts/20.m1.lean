theorem cb_X1_matched_3 {G : rt_G} {d : Nat} {z : Nat × Nat} {Q : rt_P} (hz : 300 ≤ z.1) (hd : 4 ≤ d) {a0 : Int} (ht : rt_kd a0.toNat = 20 + 1) (a1 : Int) (a2 : Int) (a3 : Int) (s : Int × rt_M) (t : (Int × rt_M) ⊕ (rt_M)) (h : b_X1_matched_3 a0 a1 a2 a3 s = some t) (hK : (∀ s1 : Int × rt_M, t = .inl s1 → RT G M_X1_matched d z Q 3 [(2, a0), (2, a1), (0, a2), (0, a3), (0, s1.1), (9, 0)] [] z s1.2) ∧ (∀ x1 : rt_M, t = .inr x1 → RT G M_X1_matched d z Q 32 [(2, a0), (2, a1), (9, 0), (0, a3), (9, 0), (9, 0)] [] z x1)) : RT G M_X1_matched d z Q 3 [(2, a0), (2, a1), (0, a2), (0, a3), (0, s.1), (9, 0)] [] z s.2 := by
  unfold b_X1_matched_3 at h
  refine RT.iload (pc := 3) (k := 4) (x := s.1) dX1_matched_3 rfl ?_
  refine RT.bipush (pc := 5) (n := 6) dX1_matched_5 ⟨by decide, by decide⟩ rfl ?_
  refine RT.icmp_ge (pc := 7) (tgt := 32) dX1_matched_7 rfl (fun q7 => ?_) (fun q7 => ?_)
  · rw [if_pos q7] at h
    refine RT.wk (L1 := [(2, a0), (2, a1), (9, 0), (0, a3), (9, 0), (9, 0)]) (rt_le_s (rt_le_s (rt_le_j (rt_le_s (rt_le_j (rt_le_s rt_le_n)))))) ?_
    obtain rfl := Option.some.inj h
    have q1 := hK.2 s.2 rfl
    try dsimp only at q1
    exact q1
  · rw [if_neg q7] at h
    refine RT.aload_n (pc := 10) (k := 0) (x := a0) dX1_matched_10 rfl ?_
    obtain ⟨v11, hv11, h⟩ := Option.bind_eq_some_iff.mp h
    refine RT.gf 1 5 2 (pc := 11) (x := a0) (v := v11) hz dX1_matched_11 fl_X1_23 rfl hv11 ?_
    refine RT.iload (pc := 14) (k := 4) (x := s.1) dX1_matched_14 rfl ?_
    refine RT.iconst (pc := 16) (n := (-1)) dX1_matched_16 ⟨by decide, by decide⟩ ?_
    obtain ⟨m17, hm17, h⟩ := Option.bind_eq_some_iff.mp h
    refine RT.iast (pc := 17) (x := v11) (i := s.1) (v := (-1)) (mem1 := m17) dX1_matched_17 (rt_lts hz (by decide) (by decide) hm17) hm17 ?_
    refine RT.aload_n (pc := 18) (k := 0) (x := a0) dX1_matched_18 rfl ?_
    obtain ⟨v19, hv19, h⟩ := Option.bind_eq_some_iff.mp h
    refine RT.gf 1 6 2 (pc := 19) (x := a0) (v := v19) hz dX1_matched_19 fl_X1_26 rfl hv19 ?_
    refine RT.iload (pc := 22) (k := 4) (x := s.1) dX1_matched_22 rfl ?_
    refine RT.iload_n (pc := 24) (k := 2) (x := a2) dX1_matched_24 rfl ?_
    obtain ⟨m25, hm25, h⟩ := Option.bind_eq_some_iff.mp h
    refine RT.iast (pc := 25) (x := v19) (i := s.1) (v := a2) (mem1 := m25) dX1_matched_25 (rt_lts hz (by decide) (by decide) hm25) hm25 ?_
    refine RT.iinc (pc := 26) (x := s.1) (L1 := [(2, a0), (2, a1), (0, a2), (0, a3), (0, (rt_iadd s.1 1)), (9, 0)]) dX1_matched_26 rfl (Nat.le_of_ble_eq_true rfl) ⟨by decide, by decide⟩ rfl ?_
    refine RT.goto (pc := 29) (tgt := 3) dX1_matched_29 rfl ?_
    obtain rfl := Option.some.inj h
    have q1 := hK.1 (((rt_iadd s.1 1), m25)) rfl
    try dsimp only at q1
    exact q1
theorem cj_X1_matched_71_45 {G : rt_G} {d : Nat} {z : Nat × Nat} {Q : rt_P} (hz : 300 ≤ z.1) (hd : 4 ≤ d) {a0 : Int} (ht : rt_kd a0.toNat = 20 + 1) (a1 : Int) (a3 : Int) (a4 : Int) (a5 : Int) (mem0 : rt_M) (t : (Int × rt_M) ⊕ (rt_M)) (h : j_X1_matched_71_45 a0 a1 a3 a4 a5 mem0 = some t) (hK : (∀ s1 : Int × rt_M, t = .inl s1 → RT G M_X1_matched d z Q 45 [(2, a0), (2, a1), (9, 0), (0, a3), (0, a4), (0, s1.1)] [] z s1.2) ∧ (∀ x1 : rt_M, t = .inr x1 → RT G M_X1_matched d z Q 77 [(2, a0), (2, a1), (9, 0), (0, a3), (0, a4), (9, 0)] [] z x1)) : RT G M_X1_matched d z Q 71 [(2, a0), (2, a1), (9, 0), (0, a3), (0, a4), (0, a5)] [] z mem0 := by
  unfold j_X1_matched_71_45 at h
  refine RT.iinc (pc := 71) (x := a5) (L1 := [(2, a0), (2, a1), (9, 0), (0, a3), (0, a4), (0, (rt_iadd a5 1))]) dX1_matched_71 rfl (Nat.le_of_ble_eq_true rfl) ⟨by decide, by decide⟩ rfl ?_
  refine RT.goto (pc := 74) (tgt := 45) dX1_matched_74 rfl ?_
  obtain rfl := Option.some.inj h
  have q1 := hK.1 (((rt_iadd a5 1), mem0)) rfl
  try dsimp only at q1
  exact q1
theorem cb_X1_matched_45 {G : rt_G} {d : Nat} {z : Nat × Nat} {Q : rt_P} (hz : 300 ≤ z.1) (hd : 4 ≤ d) {a0 : Int} (ht : rt_kd a0.toNat = 20 + 1) (a1 : Int) (a3 : Int) (a4 : Int) (s : Int × rt_M) (t : (Int × rt_M) ⊕ (rt_M)) (h : b_X1_matched_45 a0 a1 a3 a4 s = some t) (hK : (∀ s1 : Int × rt_M, t = .inl s1 → RT G M_X1_matched d z Q 45 [(2, a0), (2, a1), (9, 0), (0, a3), (0, a4), (0, s1.1)] [] z s1.2) ∧ (∀ x1 : rt_M, t = .inr x1 → RT G M_X1_matched d z Q 77 [(2, a0), (2, a1), (9, 0), (0, a3), (0, a4), (9, 0)] [] z x1)) : RT G M_X1_matched d z Q 45 [(2, a0), (2, a1), (9, 0), (0, a3), (0, a4), (0, s.1)] [] z s.2 := by
  unfold b_X1_matched_45 at h
  refine RT.iload (pc := 45) (k := 5) (x := s.1) dX1_matched_45 rfl ?_
  refine RT.aload_n (pc := 47) (k := 0) (x := a0) dX1_matched_47 rfl ?_
  obtain ⟨v48, hv48, h⟩ := Option.bind_eq_some_iff.mp h
  refine RT.gf 1 1 0 (pc := 48) (x := a0) (v := v48) hz dX1_matched_48 fl_X1_39 rfl hv48 ?_
  refine RT.icmp_ge (pc := 51) (tgt := 77) dX1_matched_51 rfl (fun q51 => ?_) (fun q51 => ?_)
  · rw [if_pos q51] at h
    refine RT.wk (L1 := [(2, a0), (2, a1), (9, 0), (0, a3), (0, a4), (9, 0)]) (rt_le_s (rt_le_s (rt_le_s (rt_le_s (rt_le_s (rt_le_j rt_le_n)))))) ?_
    obtain rfl := Option.some.inj h
    have q1 := hK.2 s.2 rfl
    try dsimp only at q1
    exact q1
  · rw [if_neg q51] at h
    refine RT.aload_n (pc := 54) (k := 0) (x := a0) dX1_matched_54 rfl ?_
    refine RT.iload (pc := 55) (k := 5) (x := s.1) dX1_matched_55 rfl ?_
    obtain ⟨p57, hp57, h⟩ := Option.bind_eq_some_iff.mp h
    refine RT.cVz (pc := 57) (M' := M_X1_wigKeeping) (ci := 1) (x := a0) (As := [(0, s.1)]) (st := []) (r := some (0, p57)) (mem1 := s.2) (d' := d - 1) hz dX1_matched_57 mw_X1_wigKeeping ml_X1_67 mi_X1_wigKeeping ht rfl rfl (Nat.le_of_ble_eq_true rfl) (Nat.le_of_ble_eq_true rfl) (by omega) rfl rfl (c_X1_wigKeeping hz (by omega) a0 s.1 s.2 _ ht hp57) ?_
    refine RT.iconst (pc := 60) (n := (-1)) dX1_matched_60 ⟨by decide, by decide⟩ ?_
    refine RT.icmp_ne (pc := 61) (tgt := 71) dX1_matched_61 rfl (fun q61 => ?_) (fun q61 => ?_)
    · rw [if_neg q61] at h
      exact cj_X1_matched_71_45 hz hd ht a1 a3 a4 s.1 s.2 _ h hK
    · rw [if_pos (Classical.not_not.mp q61)] at h
      refine RT.aload_n (pc := 64) (k := 0) (x := a0) dX1_matched_64 rfl ?_
      refine RT.aload_n (pc := 65) (k := 1) (x := a1) dX1_matched_65 rfl ?_
      refine RT.iload (pc := 66) (k := 5) (x := s.1) dX1_matched_66 rfl ?_
      obtain ⟨p68, hp68, h⟩ := Option.bind_eq_some_iff.mp h
      refine RT.cVz (pc := 68) (M' := M_X1_askNext) (ci := 1) (x := a0) (As := [(2, a1), (0, s.1)]) (st := []) (r := none) (mem1 := p68) (d' := d - 1) hz dX1_matched_68 mw_X1_askNext ml_X1_70 mi_X1_askNext ht rfl rfl (Nat.le_of_ble_eq_true rfl) (Nat.le_of_ble_eq_true rfl) (by omega) rfl rfl (c_X1_askNext hz (by omega) a0 a1 s.1 s.2 _ ht hp68) ?_
      exact cj_X1_matched_71_45 hz hd ht a1 a3 a4 s.1 p68 _ h hK
theorem cb_X1_matched_35 {G : rt_G} {d : Nat} {z : Nat × Nat} {Q : rt_P} (hz : 300 ≤ z.1) (hd : 4 ≤ d) {a0 : Int} (ht : rt_kd a0.toNat = 20 + 1) (a1 : Int) (a3 : Int) (s : Int × rt_M) (t : (Int × rt_M) ⊕ (rt_M)) (h : b_X1_matched_35 a0 a1 a3 s = some t) (hK : (∀ s1 : Int × rt_M, t = .inl s1 → RT G M_X1_matched d z Q 35 [(2, a0), (2, a1), (9, 0), (0, a3), (0, s1.1), (9, 0)] [] z s1.2) ∧ (∀ x1 : rt_M, t = .inr x1 → RT G M_X1_matched d z Q 83 [(2, a0), (9, 0), (9, 0), (0, a3), (9, 0), (9, 0)] [] z x1)) : RT G M_X1_matched d z Q 35 [(2, a0), (2, a1), (9, 0), (0, a3), (0, s.1), (9, 0)] [] z s.2 := by
  unfold b_X1_matched_35 at h
  refine RT.iload (pc := 35) (k := 4) (x := s.1) dX1_matched_35 rfl ?_
  refine RT.bipush (pc := 37) (n := 36) dX1_matched_37 ⟨by decide, by decide⟩ rfl ?_
  refine RT.icmp_ge (pc := 39) (tgt := 83) dX1_matched_39 rfl (fun q39 => ?_) (fun q39 => ?_)
  · rw [if_pos q39] at h
    refine RT.wk (L1 := [(2, a0), (9, 0), (9, 0), (0, a3), (9, 0), (9, 0)]) (rt_le_s (rt_le_j (rt_le_s (rt_le_s (rt_le_j (rt_le_s rt_le_n)))))) ?_
    obtain rfl := Option.some.inj h
    have q1 := hK.2 s.2 rfl
    try dsimp only at q1
    exact q1
  · rw [if_neg q39] at h
    refine RT.iconst (pc := 42) (n := 0) dX1_matched_42 ⟨by decide, by decide⟩ ?_
    refine RT.istore (pc := 43) (k := 5) (x := 0) (L1 := [(2, a0), (2, a1), (9, 0), (0, a3), (0, s.1), (0, 0)]) dX1_matched_43 (Nat.le_of_ble_eq_true rfl) rfl ?_
    obtain ⟨X45, hX45, h⟩ := Option.bind_eq_some_iff.mp h
    refine rt_it_ind (P := (fun s1 : Int × rt_M => RT G M_X1_matched d z Q 45 [(2, a0), (2, a1), (9, 0), (0, a3), (0, s.1), (0, s1.1)] [] z s1.2)) (X := (fun x1 : rt_M => RT G M_X1_matched d z Q 77 [(2, a0), (2, a1), (9, 0), (0, a3), (0, s.1), (9, 0)] [] z x1)) (fun s1 t1 h1 k1 k2 => cb_X1_matched_45 hz hd ht a1 a3 s.1 s1 t1 h1 ⟨k1, k2⟩) 4000 ((0, s.2)) X45 hX45 ?_
    refine RT.iinc (pc := 77) (x := s.1) (L1 := [(2, a0), (2, a1), (9, 0), (0, a3), (0, (rt_iadd s.1 1)), (9, 0)]) dX1_matched_77 rfl (Nat.le_of_ble_eq_true rfl) ⟨by decide, by decide⟩ rfl ?_
    refine RT.goto (pc := 80) (tgt := 35) dX1_matched_80 rfl ?_
    obtain rfl := Option.some.inj h
    have q1 := hK.1 (((rt_iadd s.1 1), X45)) rfl
    try dsimp only at q1
    exact q1
theorem c_X1_matched {G : rt_G} {d : Nat} {z : Nat × Nat} (hz : 300 ≤ z.1) (hd : 4 ≤ d) (a0 : Int) (a1 : Int) (a2 : Int) (a3 : Int) (mem0 : rt_M) (t : Int × rt_M) (ht : rt_kd a0.toNat = 20 + 1) (h : f_X1_matched a0 a1 a2 a3 mem0 = some t) : RM G M_X1_matched d [(2, a0), (2, a1), (0, a2), (0, a3)] z mem0 (some (0, t.1)) t.2 := by
  suffices H : ∀ Q : rt_P, Q (some (0, t.1)) z t.2 → RT G M_X1_matched d z Q 0 [(2, a0), (2, a1), (0, a2), (0, a3), (9, 0), (9, 0)] [] z mem0 from H _ ⟨rfl, rfl, rfl⟩
  intro Q hK
  unfold f_X1_matched at h
  refine RT.iconst (pc := 0) (n := 0) dX1_matched_0 ⟨by decide, by decide⟩ ?_
  refine RT.istore (pc := 1) (k := 4) (x := 0) (L1 := [(2, a0), (2, a1), (0, a2), (0, a3), (0, 0), (9, 0)]) dX1_matched_1 (Nat.le_of_ble_eq_true rfl) rfl ?_
  obtain ⟨X3, hX3, h⟩ := Option.bind_eq_some_iff.mp h
  refine rt_it_ind (P := (fun s1 : Int × rt_M => RT G M_X1_matched d z Q 3 [(2, a0), (2, a1), (0, a2), (0, a3), (0, s1.1), (9, 0)] [] z s1.2)) (X := (fun x1 : rt_M => RT G M_X1_matched d z Q 32 [(2, a0), (2, a1), (9, 0), (0, a3), (9, 0), (9, 0)] [] z x1)) (fun s1 t1 h1 k1 k2 => cb_X1_matched_3 hz hd ht a1 a2 a3 s1 t1 h1 ⟨k1, k2⟩) 4000 ((0, mem0)) X3 hX3 ?_
  refine RT.iconst (pc := 32) (n := 0) dX1_matched_32 ⟨by decide, by decide⟩ ?_
  refine RT.istore (pc := 33) (k := 4) (x := 0) (L1 := [(2, a0), (2, a1), (9, 0), (0, a3), (0, 0), (9, 0)]) dX1_matched_33 (Nat.le_of_ble_eq_true rfl) rfl ?_
  obtain ⟨X35, hX35, h⟩ := Option.bind_eq_some_iff.mp h
  refine rt_it_ind (P := (fun s1 : Int × rt_M => RT G M_X1_matched d z Q 35 [(2, a0), (2, a1), (9, 0), (0, a3), (0, s1.1), (9, 0)] [] z s1.2)) (X := (fun x1 : rt_M => RT G M_X1_matched d z Q 83 [(2, a0), (9, 0), (9, 0), (0, a3), (9, 0), (9, 0)] [] z x1)) (fun s1 t1 h1 k1 k2 => cb_X1_matched_35 hz hd ht a1 a3 s1 t1 h1 ⟨k1, k2⟩) 4000 ((0, X3)) X35 hX35 ?_
  refine RT.aload_n (pc := 83) (k := 0) (x := a0) dX1_matched_83 rfl ?_
  refine RT.iload_n (pc := 84) (k := 3) (x := a3) dX1_matched_84 rfl ?_
  obtain ⟨p85, hp85, h⟩ := Option.bind_eq_some_iff.mp h
  refine RT.cVz (pc := 85) (M' := M_X1_wigKeeping) (ci := 1) (x := a0) (As := [(0, a3)]) (st := []) (r := some (0, p85)) (mem1 := X35) (d' := d - 1) hz dX1_matched_85 mw_X1_wigKeeping ml_X1_67 mi_X1_wigKeeping ht rfl rfl (Nat.le_of_ble_eq_true rfl) (Nat.le_of_ble_eq_true rfl) (by omega) rfl rfl (c_X1_wigKeeping hz (by omega) a0 a3 X35 _ ht hp85) ?_
  obtain rfl := Option.some.inj h
  exact RT.iret (pc := 88) dX1_matched_88 rfl (Nat.le_of_eq (rt_cells_0 z)) (Nat.le_of_eq (rt_slots_0 z)) hK
theorem c_X2_clear {G : rt_G} {d : Nat} {z : Nat × Nat} (hz : 300 ≤ z.1) (hd : 0 ≤ d) (a0 : Int) (mem0 : rt_M) (t : rt_M) (ht : rt_kd a0.toNat = 20 + 2) (h : f_X2_clear a0 mem0 = some t) : RM G M_X2_clear d [(2, a0)] z mem0 none t := by
  suffices H : ∀ Q : rt_P, Q none z t → RT G M_X2_clear d z Q 0 [(2, a0)] [] z mem0 from H _ ⟨rfl, rfl, rfl⟩
  intro Q hK
  unfold f_X2_clear at h
  refine RT.aload_n (pc := 0) (k := 0) (x := a0) dX2_clear_0 rfl ?_
  refine RT.iconst (pc := 1) (n := 0) dX2_clear_1 ⟨by decide, by decide⟩ ?_
  obtain ⟨m2, hm2, h⟩ := Option.bind_eq_some_iff.mp h
  refine RT.pf_i 2 5 (pc := 2) (mem1 := m2) hz dX2_clear_2 fl_X2_28 rfl rfl rfl hm2 ?_
  refine RT.aload_n (pc := 5) (k := 0) (x := a0) dX2_clear_5 rfl ?_
  refine RT.iconst (pc := 6) (n := 0) dX2_clear_6 ⟨by decide, by decide⟩ ?_
  obtain ⟨m7, hm7, h⟩ := Option.bind_eq_some_iff.mp h
  refine RT.pf_z 2 6 (pc := 7) (mem1 := m7) hz dX2_clear_7 fl_X2_32 rfl rfl rfl (by decide) hm7 ?_
  obtain rfl := Option.some.inj h
  exact RT.vret (pc := 10) dX2_clear_10 rfl (Nat.le_of_eq (rt_cells_0 z)) (Nat.le_of_eq (rt_slots_0 z)) hK
theorem cj_X2_add_32 {G : rt_G} {d : Nat} {z : Nat × Nat} {Q : rt_P} (hz : 300 ≤ z.1) (hd : 0 ≤ d) {a0 : Int} (ht : rt_kd a0.toNat = 20 + 2) (mem0 : rt_M) (t : rt_M) (h : j_X2_add_32 mem0 = some t) (hK : Q none z t) : RT G M_X2_add d z Q 32 [(9, 0), (9, 0)] [] z mem0 := by
  unfold j_X2_add_32 at h
  obtain rfl := Option.some.inj h
  exact RT.vret (pc := 32) dX2_add_32 rfl (Nat.le_of_eq (rt_cells_0 z)) (Nat.le_of_eq (rt_slots_0 z)) hK
theorem c_X2_add {G : rt_G} {d : Nat} {z : Nat × Nat} (hz : 300 ≤ z.1) (hd : 0 ≤ d) (a0 : Int) (a1 : Int) (mem0 : rt_M) (t : rt_M) (ht : rt_kd a0.toNat = 20 + 2) (h : f_X2_add a0 a1 mem0 = some t) : RM G M_X2_add d [(2, a0), (0, a1)] z mem0 none t := by
  suffices H : ∀ Q : rt_P, Q none z t → RT G M_X2_add d z Q 0 [(2, a0), (0, a1)] [] z mem0 from H _ ⟨rfl, rfl, rfl⟩
  intro Q hK
  unfold f_X2_add at h
  refine RT.aload_n (pc := 0) (k := 0) (x := a0) dX2_add_0 rfl ?_
  obtain ⟨v1, hv1, h⟩ := Option.bind_eq_some_iff.mp h
  refine RT.gf 2 5 0 (pc := 1) (x := a0) (v := v1) hz dX2_add_1 fl_X2_28 rfl hv1 ?_
  refine RT.aload_n (pc := 4) (k := 0) (x := a0) dX2_add_4 rfl ?_
  obtain ⟨v5, hv5, h⟩ := Option.bind_eq_some_iff.mp h
  refine RT.gf 2 3 2 (pc := 5) (x := a0) (v := v5) hz dX2_add_5 fl_X2_9 rfl hv5 ?_
  obtain ⟨v8, hv8, h⟩ := Option.bind_eq_some_iff.mp h
  refine RT.alen 1 (pc := 8) (x := v5) (v := v8) dX2_add_8 ⟨by decide, by decide⟩ (rt_ltl hz (by decide) (by decide) hv8) hv8 ?_
  refine RT.icmp_ge (pc := 9) (tgt := 32) dX2_add_9 rfl (fun q9 => ?_) (fun q9 => ?_)
  · rw [if_pos q9] at h
    refine RT.wk (L1 := [(9, 0), (9, 0)]) (rt_le_j (rt_le_j rt_le_n)) ?_
    exact cj_X2_add_32 hz hd ht mem0 _ h hK
  · rw [if_neg q9] at h
    refine RT.aload_n (pc := 12) (k := 0) (x := a0) dX2_add_12 rfl ?_
    obtain ⟨v13, hv13, h⟩ := Option.bind_eq_some_iff.mp h
    refine RT.gf 2 3 2 (pc := 13) (x := a0) (v := v13) hz dX2_add_13 fl_X2_9 rfl hv13 ?_
    refine RT.aload_n (pc := 16) (k := 0) (x := a0) dX2_add_16 rfl ?_
    obtain ⟨v17, hv17, h⟩ := Option.bind_eq_some_iff.mp h
    refine RT.gf 2 5 0 (pc := 17) (x := a0) (v := v17) hz dX2_add_17 fl_X2_28 rfl hv17 ?_
    refine RT.iload_n (pc := 20) (k := 1) (x := a1) dX2_add_20 rfl ?_
    obtain ⟨m21, hm21, h⟩ := Option.bind_eq_some_iff.mp h
    refine RT.iast (pc := 21) (x := v13) (i := v17) (v := a1) (mem1 := m21) dX2_add_21 (rt_lts hz (by decide) (by decide) hm21) hm21 ?_
    refine RT.aload_n (pc := 22) (k := 0) (x := a0) dX2_add_22 rfl ?_
    refine RT.dup (pc := 23) dX2_add_23 (show ¬ ((2 : Nat) = 1) by decide) ?_
    obtain ⟨v24, hv24, h⟩ := Option.bind_eq_some_iff.mp h
    refine RT.gf 2 5 0 (pc := 24) (x := a0) (v := v24) hz dX2_add_24 fl_X2_28 rfl hv24 ?_
    refine RT.iconst (pc := 27) (n := 1) dX2_add_27 ⟨by decide, by decide⟩ ?_
    refine RT.iadd (pc := 28) dX2_add_28 ?_
    obtain ⟨m29, hm29, h⟩ := Option.bind_eq_some_iff.mp h
    refine RT.pf_i 2 5 (pc := 29) (mem1 := m29) hz dX2_add_29 fl_X2_28 rfl rfl rfl hm29 ?_
    refine RT.wk (L1 := [(9, 0), (9, 0)]) (rt_le_j (rt_le_j rt_le_n)) ?_
    exact cj_X2_add_32 hz hd ht m29 _ h hK
theorem cj_X2_factOf_39 {G : rt_G} {d : Nat} {z : Nat × Nat} {Q : rt_P} (hz : 300 ≤ z.1) (hd : 0 ≤ d) {a0 : Int} (ht : rt_kd a0.toNat = 20 + 2) (s0 : Int) (mem0 : rt_M) (t : Int) (h : j_X2_factOf_39 s0 mem0 = some t) (hK : Q (some (0, t)) z mem0) : RT G M_X2_factOf d z Q 39 [(9, 0), (9, 0)] [(0, s0)] z mem0 := by
  unfold j_X2_factOf_39 at h
  obtain rfl := Option.some.inj h
  exact RT.iret (pc := 39) dX2_factOf_39 rfl (Nat.le_of_eq (rt_cells_0 z)) (Nat.le_of_eq (rt_slots_0 z)) hK
theorem c_X2_factOf {G : rt_G} {d : Nat} {z : Nat × Nat} (hz : 300 ≤ z.1) (hd : 0 ≤ d) (a0 : Int) (a1 : Int) (mem0 : rt_M) (t : Int) (ht : rt_kd a0.toNat = 20 + 2) (h : f_X2_factOf a0 a1 mem0 = some t) : RM G M_X2_factOf d [(2, a0), (2, a1)] z mem0 (some (0, t)) mem0 := by
  suffices H : ∀ Q : rt_P, Q (some (0, t)) z mem0 → RT G M_X2_factOf d z Q 0 [(2, a0), (2, a1)] [] z mem0 from H _ ⟨rfl, rfl, rfl⟩
  intro Q hK
  unfold f_X2_factOf at h
  refine RT.aload_n (pc := 0) (k := 1) (x := a1) dX2_factOf_0 rfl ?_
  refine RT.aload_n (pc := 1) (k := 0) (x := a0) dX2_factOf_1 rfl ?_
  obtain ⟨v2, hv2, h⟩ := Option.bind_eq_some_iff.mp h
  refine RT.gf 2 0 2 (pc := 2) (x := a0) (v := v2) hz dX2_factOf_2 fl_X2_18 rfl hv2 ?_
  refine RT.acmp_ne (pc := 5) (tgt := 12) dX2_factOf_5 rfl (fun q5 => ?_) (fun q5 => ?_)
  · rw [if_neg q5] at h
    refine RT.aload_n (pc := 12) (k := 1) (x := a1) dX2_factOf_12 rfl ?_
    refine RT.aload_n (pc := 13) (k := 0) (x := a0) dX2_factOf_13 rfl ?_
    obtain ⟨v14, hv14, h⟩ := Option.bind_eq_some_iff.mp h
    refine RT.gf 2 1 2 (pc := 14) (x := a0) (v := v14) hz dX2_factOf_14 fl_X2_22 rfl hv14 ?_
    refine RT.acmp_ne (pc := 17) (tgt := 25) dX2_factOf_17 rfl (fun q17 => ?_) (fun q17 => ?_)
    · rw [if_neg q17] at h
      refine RT.aload_n (pc := 25) (k := 1) (x := a1) dX2_factOf_25 rfl ?_
      refine RT.aload_n (pc := 26) (k := 0) (x := a0) dX2_factOf_26 rfl ?_
      obtain ⟨v27, hv27, h⟩ := Option.bind_eq_some_iff.mp h
      refine RT.gf 2 2 2 (pc := 27) (x := a0) (v := v27) hz dX2_factOf_27 fl_X2_25 rfl hv27 ?_
      refine RT.acmp_ne (pc := 30) (tgt := 38) dX2_factOf_30 rfl (fun q30 => ?_) (fun q30 => ?_)
      · rw [if_neg q30] at h
        refine RT.iconst (pc := 38) (n := 0) dX2_factOf_38 ⟨by decide, by decide⟩ ?_
        refine RT.wk (L1 := [(9, 0), (9, 0)]) (rt_le_j (rt_le_j rt_le_n)) ?_
        exact cj_X2_factOf_39 hz hd ht 0 mem0 _ h hK
      · rw [if_pos (Classical.not_not.mp q30)] at h
        refine RT.bipush (pc := 33) (n := (-3)) dX2_factOf_33 ⟨by decide, by decide⟩ rfl ?_
        refine RT.goto (pc := 35) (tgt := 39) dX2_factOf_35 rfl ?_
        refine RT.wk (L1 := [(9, 0), (9, 0)]) (rt_le_j (rt_le_j rt_le_n)) ?_
        exact cj_X2_factOf_39 hz hd ht ((-3)) mem0 _ h hK
    · rw [if_pos (Classical.not_not.mp q17)] at h
      refine RT.bipush (pc := 20) (n := (-2)) dX2_factOf_20 ⟨by decide, by decide⟩ rfl ?_
      refine RT.goto (pc := 22) (tgt := 39) dX2_factOf_22 rfl ?_
      refine RT.wk (L1 := [(9, 0), (9, 0)]) (rt_le_j (rt_le_j rt_le_n)) ?_
      exact cj_X2_factOf_39 hz hd ht ((-2)) mem0 _ h hK
  · rw [if_pos (Classical.not_not.mp q5)] at h
    refine RT.iconst (pc := 8) (n := (-1)) dX2_factOf_8 ⟨by decide, by decide⟩ ?_
    refine RT.goto (pc := 9) (tgt := 39) dX2_factOf_9 rfl ?_
    refine RT.wk (L1 := [(9, 0), (9, 0)]) (rt_le_j (rt_le_j rt_le_n)) ?_
    exact cj_X2_factOf_39 hz hd ht ((-1)) mem0 _ h hK
theorem cj_X8_isLetter_17 {G : rt_G} {d : Nat} {z : Nat × Nat} {Q : rt_P} (hz : 300 ≤ z.1) (hd : 0 ≤ d) (s0 : Int) (mem0 : rt_M) (t : Int) (h : j_X8_isLetter_17 s0 mem0 = some t) (hK : Q (some (0, t)) z mem0) : RT G M_X8_isLetter d z Q 17 [(9, 0)] [(0, s0)] z mem0 := by
  unfold j_X8_isLetter_17 at h
  obtain ⟨w17, hw17, h⟩ := Option.bind_eq_some_iff.mp h
  obtain rfl := Option.some.inj h
  exact RT.zret (pc := 17) dX8_isLetter_17 rfl (rt_bz_ok hw17) (Nat.le_of_eq (rt_cells_0 z)) (Nat.le_of_eq (rt_slots_0 z)) hK
theorem cj_X8_isLetter_16 {G : rt_G} {d : Nat} {z : Nat × Nat} {Q : rt_P} (hz : 300 ≤ z.1) (hd : 0 ≤ d) (mem0 : rt_M) (t : Int) (h : j_X8_isLetter_16 mem0 = some t) (hK : Q (some (0, t)) z mem0) : RT G M_X8_isLetter d z Q 16 [(9, 0)] [] z mem0 := by
  unfold j_X8_isLetter_16 at h
  refine RT.iconst (pc := 16) (n := 0) dX8_isLetter_16 ⟨by decide, by decide⟩ ?_
  exact cj_X8_isLetter_17 hz hd 0 mem0 _ h hK
theorem c_X8_isLetter {G : rt_G} {d : Nat} {z : Nat × Nat} (hz : 300 ≤ z.1) (hd : 0 ≤ d) (a0 : Int) (mem0 : rt_M) (t : Int) (h : f_X8_isLetter a0 mem0 = some t) : RM G M_X8_isLetter d [(0, a0)] z mem0 (some (0, t)) mem0 := by
  suffices H : ∀ Q : rt_P, Q (some (0, t)) z mem0 → RT G M_X8_isLetter d z Q 0 [(0, a0)] [] z mem0 from H _ ⟨rfl, rfl, rfl⟩
  intro Q hK
  unfold f_X8_isLetter at h
  refine RT.iload_n (pc := 0) (k := 0) (x := a0) dX8_isLetter_0 rfl ?_
  refine RT.bipush (pc := 1) (n := 97) dX8_isLetter_1 ⟨by decide, by decide⟩ rfl ?_
  refine RT.icmp_lt (pc := 3) (tgt := 16) dX8_isLetter_3 rfl (fun q3 => ?_) (fun q3 => ?_)
  · rw [if_pos q3] at h
    refine RT.wk (L1 := [(9, 0)]) (rt_le_j rt_le_n) ?_
    exact cj_X8_isLetter_16 hz hd mem0 _ h hK
  · rw [if_neg q3] at h
    refine RT.iload_n (pc := 6) (k := 0) (x := a0) dX8_isLetter_6 rfl ?_
    refine RT.bipush (pc := 7) (n := 122) dX8_isLetter_7 ⟨by decide, by decide⟩ rfl ?_
    refine RT.icmp_gt (pc := 9) (tgt := 16) dX8_isLetter_9 rfl (fun q9 => ?_) (fun q9 => ?_)
    · rw [if_pos q9] at h
      refine RT.wk (L1 := [(9, 0)]) (rt_le_j rt_le_n) ?_
      exact cj_X8_isLetter_16 hz hd mem0 _ h hK
    · rw [if_neg q9] at h
      refine RT.iconst (pc := 12) (n := 1) dX8_isLetter_12 ⟨by decide, by decide⟩ ?_
      refine RT.goto (pc := 13) (tgt := 17) dX8_isLetter_13 rfl ?_
      refine RT.wk (L1 := [(9, 0)]) (rt_le_j rt_le_n) ?_
      exact cj_X8_isLetter_17 hz hd 1 mem0 _ h hK
theorem cj_X8_isDigit_17 {G : rt_G} {d : Nat} {z : Nat × Nat} {Q : rt_P} (hz : 300 ≤ z.1) (hd : 0 ≤ d) (s0 : Int) (mem0 : rt_M) (t : Int) (h : j_X8_isDigit_17 s0 mem0 = some t) (hK : Q (some (0, t)) z mem0) : RT G M_X8_isDigit d z Q 17 [(9, 0)] [(0, s0)] z mem0 := by
  unfold j_X8_isDigit_17 at h
  obtain ⟨w17, hw17, h⟩ := Option.bind_eq_some_iff.mp h
  obtain rfl := Option.some.inj h
  exact RT.zret (pc := 17) dX8_isDigit_17 rfl (rt_bz_ok hw17) (Nat.le_of_eq (rt_cells_0 z)) (Nat.le_of_eq (rt_slots_0 z)) hK
theorem cj_X8_isDigit_16 {G : rt_G} {d : Nat} {z : Nat × Nat} {Q : rt_P} (hz : 300 ≤ z.1) (hd : 0 ≤ d) (mem0 : rt_M) (t : Int) (h : j_X8_isDigit_16 mem0 = some t) (hK : Q (some (0, t)) z mem0) : RT G M_X8_isDigit d z Q 16 [(9, 0)] [] z mem0 := by
  unfold j_X8_isDigit_16 at h
  refine RT.iconst (pc := 16) (n := 0) dX8_isDigit_16 ⟨by decide, by decide⟩ ?_
  exact cj_X8_isDigit_17 hz hd 0 mem0 _ h hK
theorem c_X8_isDigit {G : rt_G} {d : Nat} {z : Nat × Nat} (hz : 300 ≤ z.1) (hd : 0 ≤ d) (a0 : Int) (mem0 : rt_M) (t : Int) (h : f_X8_isDigit a0 mem0 = some t) : RM G M_X8_isDigit d [(0, a0)] z mem0 (some (0, t)) mem0 := by
  suffices H : ∀ Q : rt_P, Q (some (0, t)) z mem0 → RT G M_X8_isDigit d z Q 0 [(0, a0)] [] z mem0 from H _ ⟨rfl, rfl, rfl⟩
  intro Q hK
  unfold f_X8_isDigit at h
  refine RT.iload_n (pc := 0) (k := 0) (x := a0) dX8_isDigit_0 rfl ?_
  refine RT.bipush (pc := 1) (n := 48) dX8_isDigit_1 ⟨by decide, by decide⟩ rfl ?_
  refine RT.icmp_lt (pc := 3) (tgt := 16) dX8_isDigit_3 rfl (fun q3 => ?_) (fun q3 => ?_)
  · rw [if_pos q3] at h
    refine RT.wk (L1 := [(9, 0)]) (rt_le_j rt_le_n) ?_
    exact cj_X8_isDigit_16 hz hd mem0 _ h hK
  · rw [if_neg q3] at h
    refine RT.iload_n (pc := 6) (k := 0) (x := a0) dX8_isDigit_6 rfl ?_
    refine RT.bipush (pc := 7) (n := 57) dX8_isDigit_7 ⟨by decide, by decide⟩ rfl ?_
    refine RT.icmp_gt (pc := 9) (tgt := 16) dX8_isDigit_9 rfl (fun q9 => ?_) (fun q9 => ?_)
    · rw [if_pos q9] at h
      refine RT.wk (L1 := [(9, 0)]) (rt_le_j rt_le_n) ?_
      exact cj_X8_isDigit_16 hz hd mem0 _ h hK
    · rw [if_neg q9] at h
      refine RT.iconst (pc := 12) (n := 1) dX8_isDigit_12 ⟨by decide, by decide⟩ ?_
      refine RT.goto (pc := 13) (tgt := 17) dX8_isDigit_13 rfl ?_
      refine RT.wk (L1 := [(9, 0)]) (rt_le_j rt_le_n) ?_
      exact cj_X8_isDigit_17 hz hd 1 mem0 _ h hK
theorem cj_X8_endOf_80 {G : rt_G} {d : Nat} {z : Nat × Nat} {Q : rt_P} (hz : 300 ≤ z.1) (hd : 1 ≤ d) {a0 : Int} (ht : rt_kd a0.toNat = 20 + 8) (a2 : Int) (mem0 : rt_M) (t : Int) (h : j_X8_endOf_80 a2 mem0 = some t) (hK : Q (some (0, t)) z mem0) : RT G M_X8_endOf d z Q 80 [(9, 0), (9, 0), (0, a2)] [] z mem0 := by
  unfold j_X8_endOf_80 at h
  refine RT.iload_n (pc := 80) (k := 2) (x := a2) dX8_endOf_80 rfl ?_
  obtain rfl := Option.some.inj h
  exact RT.iret (pc := 81) dX8_endOf_81 rfl (Nat.le_of_eq (rt_cells_0 z)) (Nat.le_of_eq (rt_slots_0 z)) hK
theorem cb_X8_endOf_54 {G : rt_G} {d : Nat} {z : Nat × Nat} {Q : rt_P} (hz : 300 ≤ z.1) (hd : 1 ≤ d) {a0 : Int} (ht : rt_kd a0.toNat = 20 + 8) (mem0 : rt_M) (s : Int) (t : (Int) ⊕ (Int)) (h : b_X8_endOf_54 a0 mem0 s = some t) (hK : (∀ s1 : Int, t = .inl s1 → RT G M_X8_endOf d z Q 54 [(2, a0), (9, 0), (0, s1)] [] z mem0) ∧ (∀ x1 : Int, t = .inr x1 → RT G M_X8_endOf d z Q 80 [(9, 0), (9, 0), (0, x1)] [] z mem0)) : RT G M_X8_endOf d z Q 54 [(2, a0), (9, 0), (0, s)] [] z mem0 := by
  unfold b_X8_endOf_54 at h
  refine RT.iload_n (pc := 54) (k := 2) (x := s) dX8_endOf_54 rfl ?_
  refine RT.aload_n (pc := 55) (k := 0) (x := a0) dX8_endOf_55 rfl ?_
  obtain ⟨v56, hv56, h⟩ := Option.bind_eq_some_iff.mp h
  refine RT.gf 8 1 0 (pc := 56) (x := a0) (v := v56) hz dX8_endOf_56 fl_X8_29 rfl hv56 ?_
  refine RT.icmp_ge (pc := 59) (tgt := 80) dX8_endOf_59 rfl (fun q59 => ?_) (fun q59 => ?_)
  · rw [if_pos q59] at h
    refine RT.wk (L1 := [(9, 0), (9, 0), (0, s)]) (rt_le_j (rt_le_s (rt_le_s rt_le_n))) ?_
    obtain rfl := Option.some.inj h
    have q1 := hK.2 s rfl
    try dsimp only at q1
    exact q1
  · rw [if_neg q59] at h
    refine RT.aload_n (pc := 62) (k := 0) (x := a0) dX8_endOf_62 rfl ?_
    obtain ⟨v63, hv63, h⟩ := Option.bind_eq_some_iff.mp h
    refine RT.gf 8 0 2 (pc := 63) (x := a0) (v := v63) hz dX8_endOf_63 fl_X8_9 rfl hv63 ?_
    refine RT.iload_n (pc := 66) (k := 2) (x := s) dX8_endOf_66 rfl ?_
    obtain ⟨v67, hv67, h⟩ := Option.bind_eq_some_iff.mp h
    refine RT.cald (pc := 67) (x := v63) (i := s) (v := v67) dX8_endOf_67 (rt_lta hz (by decide) (by decide) hv67) hv67 ?_
    obtain ⟨p68, hp68, h⟩ := Option.bind_eq_some_iff.mp h
    refine RT.cSz (pc := 68) (M' := M_X8_isDigit) (As := [(0, v67)]) (st := []) (r := some (0, p68)) (mem1 := mem0) (d' := d - 1) dX8_endOf_68 mw_X8_isDigit ml_X8_57 mi_X8_isDigit rfl rfl (Nat.le_of_ble_eq_true rfl) (Nat.le_of_ble_eq_true rfl) (by omega) rfl rfl (c_X8_isDigit hz (by omega) v67 mem0 _ hp68) ?_
    refine RT.if_eq (pc := 71) (tgt := 80) dX8_endOf_71 rfl (fun q71 => ?_) (fun q71 => ?_)
    · rw [if_pos q71] at h
      refine RT.wk (L1 := [(9, 0), (9, 0), (0, s)]) (rt_le_j (rt_le_s (rt_le_s rt_le_n))) ?_
      obtain rfl := Option.some.inj h
      have q1 := hK.2 s rfl
      try dsimp only at q1
      exact q1
    · rw [if_neg q71] at h
      refine RT.iinc (pc := 74) (x := s) (L1 := [(2, a0), (9, 0), (0, (rt_iadd s 1))]) dX8_endOf_74 rfl (Nat.le_of_ble_eq_true rfl) ⟨by decide, by decide⟩ rfl ?_
      refine RT.goto (pc := 77) (tgt := 54) dX8_endOf_77 rfl ?_
      obtain rfl := Option.some.inj h
      have q1 := hK.1 ((rt_iadd s 1)) rfl
      try dsimp only at q1
      exact q1
theorem cb_X8_endOf_16 {G : rt_G} {d : Nat} {z : Nat × Nat} {Q : rt_P} (hz : 300 ≤ z.1) (hd : 1 ≤ d) {a0 : Int} (ht : rt_kd a0.toNat = 20 + 8) (mem0 : rt_M) (s : Int) (t : (Int) ⊕ (Int)) (h : b_X8_endOf_16 a0 mem0 s = some t) (hK : (∀ s1 : Int, t = .inl s1 → RT G M_X8_endOf d z Q 16 [(2, a0), (9, 0), (0, s1)] [] z mem0) ∧ (∀ x1 : Int, t = .inr x1 → RT G M_X8_endOf d z Q 80 [(9, 0), (9, 0), (0, x1)] [] z mem0)) : RT G M_X8_endOf d z Q 16 [(2, a0), (9, 0), (0, s)] [] z mem0 := by
  unfold b_X8_endOf_16 at h
  refine RT.iload_n (pc := 16) (k := 2) (x := s) dX8_endOf_16 rfl ?_
  refine RT.aload_n (pc := 17) (k := 0) (x := a0) dX8_endOf_17 rfl ?_
  obtain ⟨v18, hv18, h⟩ := Option.bind_eq_some_iff.mp h
  refine RT.gf 8 1 0 (pc := 18) (x := a0) (v := v18) hz dX8_endOf_18 fl_X8_29 rfl hv18 ?_
  refine RT.icmp_ge (pc := 21) (tgt := 80) dX8_endOf_21 rfl (fun q21 => ?_) (fun q21 => ?_)
  · rw [if_pos q21] at h
    refine RT.wk (L1 := [(9, 0), (9, 0), (0, s)]) (rt_le_j (rt_le_s (rt_le_s rt_le_n))) ?_
    obtain rfl := Option.some.inj h
    have q1 := hK.2 s rfl
    try dsimp only at q1
    exact q1
  · rw [if_neg q21] at h
    refine RT.aload_n (pc := 24) (k := 0) (x := a0) dX8_endOf_24 rfl ?_
    obtain ⟨v25, hv25, h⟩ := Option.bind_eq_some_iff.mp h
    refine RT.gf 8 0 2 (pc := 25) (x := a0) (v := v25) hz dX8_endOf_25 fl_X8_9 rfl hv25 ?_
    refine RT.iload_n (pc := 28) (k := 2) (x := s) dX8_endOf_28 rfl ?_
    obtain ⟨v29, hv29, h⟩ := Option.bind_eq_some_iff.mp h
    refine RT.cald (pc := 29) (x := v25) (i := s) (v := v29) dX8_endOf_29 (rt_lta hz (by decide) (by decide) hv29) hv29 ?_
    obtain ⟨p30, hp30, h⟩ := Option.bind_eq_some_iff.mp h
    refine RT.cSz (pc := 30) (M' := M_X8_isLetter) (As := [(0, v29)]) (st := []) (r := some (0, p30)) (mem1 := mem0) (d' := d - 1) dX8_endOf_30 mw_X8_isLetter ml_X8_53 mi_X8_isLetter rfl rfl (Nat.le_of_ble_eq_true rfl) (Nat.le_of_ble_eq_true rfl) (by omega) rfl rfl (c_X8_isLetter hz (by omega) v29 mem0 _ hp30) ?_
    refine RT.if_eq (pc := 33) (tgt := 80) dX8_endOf_33 rfl (fun q33 => ?_) (fun q33 => ?_)
    · rw [if_pos q33] at h
      refine RT.wk (L1 := [(9, 0), (9, 0), (0, s)]) (rt_le_j (rt_le_s (rt_le_s rt_le_n))) ?_
      obtain rfl := Option.some.inj h
      have q1 := hK.2 s rfl
      try dsimp only at q1
      exact q1
    · rw [if_neg q33] at h
      refine RT.iinc (pc := 36) (x := s) (L1 := [(2, a0), (9, 0), (0, (rt_iadd s 1))]) dX8_endOf_36 rfl (Nat.le_of_ble_eq_true rfl) ⟨by decide, by decide⟩ rfl ?_
      refine RT.goto (pc := 39) (tgt := 16) dX8_endOf_39 rfl ?_
      obtain rfl := Option.some.inj h
      have q1 := hK.1 ((rt_iadd s 1)) rfl
      try dsimp only at q1
      exact q1
theorem c_X8_endOf {G : rt_G} {d : Nat} {z : Nat × Nat} (hz : 300 ≤ z.1) (hd : 1 ≤ d) (a0 : Int) (a1 : Int) (mem0 : rt_M) (t : Int) (ht : rt_kd a0.toNat = 20 + 8) (h : f_X8_endOf a0 a1 mem0 = some t) : RM G M_X8_endOf d [(2, a0), (0, a1)] z mem0 (some (0, t)) mem0 := by
  suffices H : ∀ Q : rt_P, Q (some (0, t)) z mem0 → RT G M_X8_endOf d z Q 0 [(2, a0), (0, a1), (9, 0)] [] z mem0 from H _ ⟨rfl, rfl, rfl⟩
  intro Q hK
  unfold f_X8_endOf at h
  refine RT.iload_n (pc := 0) (k := 1) (x := a1) dX8_endOf_0 rfl ?_
  refine RT.iconst (pc := 1) (n := 1) dX8_endOf_1 ⟨by decide, by decide⟩ ?_
  refine RT.iadd (pc := 2) dX8_endOf_2 ?_
  refine RT.istore_n (pc := 3) (k := 2) (x := (rt_iadd a1 1)) (L1 := [(2, a0), (0, a1), (0, (rt_iadd a1 1))]) dX8_endOf_3 (Nat.le_of_ble_eq_true rfl) rfl ?_
  refine RT.aload_n (pc := 4) (k := 0) (x := a0) dX8_endOf_4 rfl ?_
  obtain ⟨v5, hv5, h⟩ := Option.bind_eq_some_iff.mp h
  refine RT.gf 8 0 2 (pc := 5) (x := a0) (v := v5) hz dX8_endOf_5 fl_X8_9 rfl hv5 ?_
  refine RT.iload_n (pc := 8) (k := 1) (x := a1) dX8_endOf_8 rfl ?_
  obtain ⟨v9, hv9, h⟩ := Option.bind_eq_some_iff.mp h
  refine RT.cald (pc := 9) (x := v5) (i := a1) (v := v9) dX8_endOf_9 (rt_lta hz (by decide) (by decide) hv9) hv9 ?_
  obtain ⟨p10, hp10, h⟩ := Option.bind_eq_some_iff.mp h
  refine RT.cSz (pc := 10) (M' := M_X8_isLetter) (As := [(0, v9)]) (st := []) (r := some (0, p10)) (mem1 := mem0) (d' := d - 1) dX8_endOf_10 mw_X8_isLetter ml_X8_53 mi_X8_isLetter rfl rfl (Nat.le_of_ble_eq_true rfl) (Nat.le_of_ble_eq_true rfl) (by omega) rfl rfl (c_X8_isLetter hz (by omega) v9 mem0 _ hp10) ?_
  refine RT.if_eq (pc := 13) (tgt := 42) dX8_endOf_13 rfl (fun q13 => ?_) (fun q13 => ?_)
  · rw [if_pos q13] at h
    refine RT.aload_n (pc := 42) (k := 0) (x := a0) dX8_endOf_42 rfl ?_
    obtain ⟨v43, hv43, h⟩ := Option.bind_eq_some_iff.mp h
    refine RT.gf 8 0 2 (pc := 43) (x := a0) (v := v43) hz dX8_endOf_43 fl_X8_9 rfl hv43 ?_
    refine RT.iload_n (pc := 46) (k := 1) (x := a1) dX8_endOf_46 rfl ?_
    obtain ⟨v47, hv47, h⟩ := Option.bind_eq_some_iff.mp h
    refine RT.cald (pc := 47) (x := v43) (i := a1) (v := v47) dX8_endOf_47 (rt_lta hz (by decide) (by decide) hv47) hv47 ?_
    obtain ⟨p48, hp48, h⟩ := Option.bind_eq_some_iff.mp h
    refine RT.cSz (pc := 48) (M' := M_X8_isDigit) (As := [(0, v47)]) (st := []) (r := some (0, p48)) (mem1 := mem0) (d' := d - 1) dX8_endOf_48 mw_X8_isDigit ml_X8_57 mi_X8_isDigit rfl rfl (Nat.le_of_ble_eq_true rfl) (Nat.le_of_ble_eq_true rfl) (by omega) rfl rfl (c_X8_isDigit hz (by omega) v47 mem0 _ hp48) ?_
    refine RT.if_eq (pc := 51) (tgt := 80) dX8_endOf_51 rfl (fun q51 => ?_) (fun q51 => ?_)
    · rw [if_pos q51] at h
      refine RT.wk (L1 := [(9, 0), (9, 0), (0, (rt_iadd a1 1))]) (rt_le_j (rt_le_j (rt_le_s rt_le_n))) ?_
      exact cj_X8_endOf_80 hz hd ht ((rt_iadd a1 1)) mem0 _ h hK
    · rw [if_neg q51] at h
      refine RT.wk (L1 := [(2, a0), (9, 0), (0, (rt_iadd a1 1))]) (rt_le_s (rt_le_j (rt_le_s rt_le_n))) ?_
      obtain ⟨X54, hX54, h⟩ := Option.bind_eq_some_iff.mp h
      refine rt_it_ind (P := (fun s1 : Int => RT G M_X8_endOf d z Q 54 [(2, a0), (9, 0), (0, s1)] [] z mem0)) (X := (fun x1 : Int => RT G M_X8_endOf d z Q 80 [(9, 0), (9, 0), (0, x1)] [] z mem0)) (fun s1 t1 h1 k1 k2 => cb_X8_endOf_54 hz hd ht mem0 s1 t1 h1 ⟨k1, k2⟩) 4000 ((rt_iadd a1 1)) X54 hX54 ?_
      exact cj_X8_endOf_80 hz hd ht X54 mem0 _ h hK
  · rw [if_neg q13] at h
    refine RT.wk (L1 := [(2, a0), (9, 0), (0, (rt_iadd a1 1))]) (rt_le_s (rt_le_j (rt_le_s rt_le_n))) ?_
    obtain ⟨X16, hX16, h⟩ := Option.bind_eq_some_iff.mp h
    refine rt_it_ind (P := (fun s1 : Int => RT G M_X8_endOf d z Q 16 [(2, a0), (9, 0), (0, s1)] [] z mem0)) (X := (fun x1 : Int => RT G M_X8_endOf d z Q 80 [(9, 0), (9, 0), (0, x1)] [] z mem0)) (fun s1 t1 h1 k1 k2 => cb_X8_endOf_16 hz hd ht mem0 s1 t1 h1 ⟨k1, k2⟩) 4000 ((rt_iadd a1 1)) X16 hX16 ?_
    exact cj_X8_endOf_80 hz hd ht X16 mem0 _ h hK
theorem cj_X8_addToken__52 {G : rt_G} {d : Nat} {z : Nat × Nat} {Q : rt_P} (hz : 300 ≤ z.1) (hd : 0 ≤ d) {a0 : Int} (ht : rt_kd a0.toNat = 20 + 8) (mem0 : rt_M) (t : rt_M) (h : j_X8_addToken__52 mem0 = some t) (hK : Q none z t) : RT G M_X8_addToken_ d z Q 52 [(9, 0), (9, 0), (9, 0), (9, 0), (9, 0)] [] z mem0 := by
  unfold j_X8_addToken__52 at h
  obtain rfl := Option.some.inj h
  exact RT.vret (pc := 52) dX8_addToken__52 rfl (Nat.le_of_eq (rt_cells_0 z)) (Nat.le_of_eq (rt_slots_0 z)) hK
theorem c_X8_addToken_ {G : rt_G} {d : Nat} {z : Nat × Nat} (hz : 300 ≤ z.1) (hd : 0 ≤ d) (a0 : Int) (a1 : Int) (a2 : Int) (a3 : Int) (mem0 : rt_M) (t : rt_M) (ht : rt_kd a0.toNat = 20 + 8) (h : f_X8_addToken_ a0 a1 a2 a3 mem0 = some t) : RM G M_X8_addToken_ d [(2, a0), (2, a1), (0, a2), (1, a3)] z mem0 none t := by
  suffices H : ∀ Q : rt_P, Q none z t → RT G M_X8_addToken_ d z Q 0 [(2, a0), (2, a1), (0, a2), (1, a3), (9, 0)] [] z mem0 from H _ ⟨rfl, rfl, rfl⟩
  intro Q hK
  unfold f_X8_addToken_ at h
  refine RT.aload_n (pc := 0) (k := 0) (x := a0) dX8_addToken__0 rfl ?_
  obtain ⟨v1, hv1, h⟩ := Option.bind_eq_some_iff.mp h
  refine RT.gf 8 5 0 (pc := 1) (x := a0) (v := v1) hz dX8_addToken__1 fl_X8_35 rfl hv1 ?_
  refine RT.aload_n (pc := 4) (k := 0) (x := a0) dX8_addToken__4 rfl ?_
  obtain ⟨v5, hv5, h⟩ := Option.bind_eq_some_iff.mp h
  refine RT.gf 8 2 2 (pc := 5) (x := a0) (v := v5) hz dX8_addToken__5 fl_X8_17 rfl hv5 ?_
  obtain ⟨v8, hv8, h⟩ := Option.bind_eq_some_iff.mp h
  refine RT.alen 5 (pc := 8) (x := v5) (v := v8) dX8_addToken__8 ⟨by decide, by decide⟩ (rt_ltl hz (by decide) (by decide) hv8) hv8 ?_
  refine RT.icmp_ge (pc := 9) (tgt := 52) dX8_addToken__9 rfl (fun q9 => ?_) (fun q9 => ?_)
  · rw [if_pos q9] at h
    refine RT.wk (L1 := [(9, 0), (9, 0), (9, 0), (9, 0), (9, 0)]) (rt_le_j (rt_le_j (rt_le_j (rt_le_j (rt_le_s rt_le_n))))) ?_
    exact cj_X8_addToken__52 hz hd ht mem0 _ h hK
  · rw [if_neg q9] at h
    refine RT.aload_n (pc := 12) (k := 0) (x := a0) dX8_addToken__12 rfl ?_
    obtain ⟨v13, hv13, h⟩ := Option.bind_eq_some_iff.mp h
    refine RT.gf 8 2 2 (pc := 13) (x := a0) (v := v13) hz dX8_addToken__13 fl_X8_17 rfl hv13 ?_
    refine RT.aload_n (pc := 16) (k := 0) (x := a0) dX8_addToken__16 rfl ?_
    obtain ⟨v17, hv17, h⟩ := Option.bind_eq_some_iff.mp h
    refine RT.gf 8 5 0 (pc := 17) (x := a0) (v := v17) hz dX8_addToken__17 fl_X8_35 rfl hv17 ?_
    refine RT.aload_n (pc := 20) (k := 1) (x := a1) dX8_addToken__20 rfl ?_
    obtain ⟨m21, hm21, h⟩ := Option.bind_eq_some_iff.mp h
    refine RT.astW (pc := 21) (x := v13) (i := v17) (v := a1) (mem1 := m21) dX8_addToken__21 (rt_ltw hz hm21) hm21 ?_
    refine RT.aload_n (pc := 22) (k := 0) (x := a0) dX8_addToken__22 rfl ?_
    obtain ⟨v23, hv23, h⟩ := Option.bind_eq_some_iff.mp h
    refine RT.gf 8 3 2 (pc := 23) (x := a0) (v := v23) hz dX8_addToken__23 fl_X8_21 rfl hv23 ?_
    refine RT.aload_n (pc := 26) (k := 0) (x := a0) dX8_addToken__26 rfl ?_
    obtain ⟨v27, hv27, h⟩ := Option.bind_eq_some_iff.mp h
    refine RT.gf 8 5 0 (pc := 27) (x := a0) (v := v27) hz dX8_addToken__27 fl_X8_35 rfl hv27 ?_
    refine RT.iload_n (pc := 30) (k := 2) (x := a2) dX8_addToken__30 rfl ?_
    obtain ⟨m31, hm31, h⟩ := Option.bind_eq_some_iff.mp h
    refine RT.iast (pc := 31) (x := v23) (i := v27) (v := a2) (mem1 := m31) dX8_addToken__31 (rt_lts hz (by decide) (by decide) hm31) hm31 ?_
    refine RT.aload_n (pc := 32) (k := 0) (x := a0) dX8_addToken__32 rfl ?_
    obtain ⟨v33, hv33, h⟩ := Option.bind_eq_some_iff.mp h
    refine RT.gf 8 4 2 (pc := 33) (x := a0) (v := v33) hz dX8_addToken__33 fl_X8_25 rfl hv33 ?_
    refine RT.aload_n (pc := 36) (k := 0) (x := a0) dX8_addToken__36 rfl ?_
    obtain ⟨v37, hv37, h⟩ := Option.bind_eq_some_iff.mp h
    refine RT.gf 8 5 0 (pc := 37) (x := a0) (v := v37) hz dX8_addToken__37 fl_X8_35 rfl hv37 ?_
    refine RT.lload_n (pc := 40) (k := 3) (x := a3) dX8_addToken__40 rfl ?_
    obtain ⟨m41, hm41, h⟩ := Option.bind_eq_some_iff.mp h
    refine RT.last (pc := 41) (x := v33) (i := v37) (v := a3) (mem1 := m41) dX8_addToken__41 (rt_lts hz (by decide) (by decide) hm41) hm41 ?_
    refine RT.aload_n (pc := 42) (k := 0) (x := a0) dX8_addToken__42 rfl ?_
    refine RT.dup (pc := 43) dX8_addToken__43 (show ¬ ((2 : Nat) = 1) by decide) ?_
    obtain ⟨v44, hv44, h⟩ := Option.bind_eq_some_iff.mp h
    refine RT.gf 8 5 0 (pc := 44) (x := a0) (v := v44) hz dX8_addToken__44 fl_X8_35 rfl hv44 ?_
    refine RT.iconst (pc := 47) (n := 1) dX8_addToken__47 ⟨by decide, by decide⟩ ?_
    refine RT.iadd (pc := 48) dX8_addToken__48 ?_
    obtain ⟨m49, hm49, h⟩ := Option.bind_eq_some_iff.mp h
    refine RT.pf_i 8 5 (pc := 49) (mem1 := m49) hz dX8_addToken__49 fl_X8_35 rfl rfl rfl hm49 ?_
    refine RT.wk (L1 := [(9, 0), (9, 0), (9, 0), (9, 0), (9, 0)]) (rt_le_j (rt_le_j (rt_le_j (rt_le_j (rt_le_s rt_le_n))))) ?_
    exact cj_X8_addToken__52 hz hd ht m49 _ h hK
theorem cj_X9_spelled_35_2 {G : rt_G} {d : Nat} {z : Nat × Nat} {Q : rt_P} (hz : 300 ≤ z.1) (hd : 0 ≤ d) (a0 : Int) (a2 : Int) (a3 : Int) (mem0 : rt_M) (t : (Int) ⊕ ((Unit) ⊕ (Int))) (h : j_X9_spelled_35_2 a0 a2 a3 mem0 = some t) (hK : (∀ s1 : Int, t = .inl s1 → RT G M_X9_spelled d z Q 2 [(1, a0), (9, 0), (2, a2), (0, s1)] [] z mem0) ∧ (∀ x1 : Unit, t = .inr (.inl x1) → RT G M_X9_spelled d z Q 41 [(9, 0), (9, 0), (2, a2), (9, 0)] [] z mem0) ∧ (∀ t1 : Int, t = .inr (.inr t1) → Q (some (2, t1)) z mem0)) : RT G M_X9_spelled d z Q 35 [(1, a0), (9, 0), (2, a2), (0, a3)] [] z mem0 := by
  unfold j_X9_spelled_35_2 at h
  refine RT.iinc (pc := 35) (x := a3) (L1 := [(1, a0), (9, 0), (2, a2), (0, (rt_iadd a3 1))]) dX9_spelled_35 rfl (Nat.le_of_ble_eq_true rfl) ⟨by decide, by decide⟩ rfl ?_
  refine RT.goto (pc := 38) (tgt := 2) dX9_spelled_38 rfl ?_
  obtain rfl := Option.some.inj h
  have q1 := hK.1 ((rt_iadd a3 1)) rfl
  try dsimp only at q1
  exact q1
theorem cb_X9_spelled_2 {G : rt_G} {d : Nat} {z : Nat × Nat} {Q : rt_P} (hz : 300 ≤ z.1) (hd : 0 ≤ d) (a0 : Int) (a2 : Int) (mem0 : rt_M) (s : Int) (t : (Int) ⊕ ((Unit) ⊕ (Int))) (h : b_X9_spelled_2 a0 a2 mem0 s = some t) (hK : (∀ s1 : Int, t = .inl s1 → RT G M_X9_spelled d z Q 2 [(1, a0), (9, 0), (2, a2), (0, s1)] [] z mem0) ∧ (∀ x1 : Unit, t = .inr (.inl x1) → RT G M_X9_spelled d z Q 41 [(9, 0), (9, 0), (2, a2), (9, 0)] [] z mem0) ∧ (∀ t1 : Int, t = .inr (.inr t1) → Q (some (2, t1)) z mem0)) : RT G M_X9_spelled d z Q 2 [(1, a0), (9, 0), (2, a2), (0, s)] [] z mem0 := by
  unfold b_X9_spelled_2 at h
  refine RT.iload_n (pc := 2) (k := 3) (x := s) dX9_spelled_2 rfl ?_
  refine RT.getsAll (pc := 3) dX9_spelled_3 sa_X9_158 ?_
  refine RT.alenW (pc := 6) dX9_spelled_6 ?_
  refine RT.icmp_ge (pc := 7) (tgt := 41) dX9_spelled_7 rfl (fun q7 => ?_) (fun q7 => ?_)
  · rw [if_pos q7] at h
    refine RT.wk (L1 := [(9, 0), (9, 0), (2, a2), (9, 0)]) (rt_le_j (rt_le_s (rt_le_s (rt_le_j rt_le_n)))) ?_
    obtain rfl := Option.some.inj h
    have q1 := hK.2.1 () rfl
    try dsimp only at q1
    exact q1
  · rw [if_neg q7] at h
    refine RT.getsAll (pc := 10) dX9_spelled_10 sa_X9_158 ?_
    refine RT.iload_n (pc := 13) (k := 3) (x := s) dX9_spelled_13 rfl ?_
    obtain ⟨v14, hv14, h⟩ := Option.bind_eq_some_iff.mp h
    refine RT.aldW (pc := 14) (x := 39) (i := s) (v := v14) dX9_spelled_14 hv14 ?_
    obtain ⟨v15, hv15, h⟩ := Option.bind_eq_some_iff.mp h
    refine RT.wpk (pc := 15) (x := v14) (v := v15) dX9_spelled_15 wp_X9_150 hv15 ?_
    refine RT.lload_n (pc := 18) (k := 0) (x := a0) dX9_spelled_18 rfl ?_
    refine RT.lcmp (pc := 19) dX9_spelled_19 ?_
    refine RT.if_ne (pc := 20) (tgt := 35) dX9_spelled_20 rfl (fun q20 => ?_) (fun q20 => ?_)
    · rw [if_neg q20] at h
      exact cj_X9_spelled_35_2 hz hd a0 a2 s mem0 _ h hK
    · rw [if_pos (Classical.not_not.mp q20)] at h
      refine RT.lload_n (pc := 23) (k := 0) (x := a0) dX9_spelled_23 rfl ?_
      refine RT.lconst (pc := 24) (v := 0) dX9_spelled_24 rfl ?_
      refine RT.lcmp (pc := 25) dX9_spelled_25 ?_
      refine RT.if_eq (pc := 26) (tgt := 35) dX9_spelled_26 rfl (fun q26 => ?_) (fun q26 => ?_)
      · rw [if_pos q26] at h
        exact cj_X9_spelled_35_2 hz hd a0 a2 s mem0 _ h hK
      · rw [if_neg q26] at h
        obtain ⟨t2, g2, e2⟩ := Option.map_eq_some_iff.mp h
        subst e2
        replace h := g2
        replace hK := hK.2.2 t2 rfl
        refine RT.getsAll (pc := 29) dX9_spelled_29 sa_X9_158 ?_
        refine RT.iload_n (pc := 32) (k := 3) (x := s) dX9_spelled_32 rfl ?_
        obtain ⟨v33, hv33, h⟩ := Option.bind_eq_some_iff.mp h
        refine RT.aldW (pc := 33) (x := 39) (i := s) (v := v33) dX9_spelled_33 hv33 ?_
        obtain rfl := Option.some.inj h
        exact RT.aret (pc := 34) dX9_spelled_34 rfl (Nat.le_of_eq (rt_cells_0 z)) (Nat.le_of_eq (rt_slots_0 z)) hK
theorem c_X9_spelled {G : rt_G} {d : Nat} {z : Nat × Nat} (hz : 300 ≤ z.1) (hd : 0 ≤ d) (a0 : Int) (a2 : Int) (mem0 : rt_M) (t : Int) (h : f_X9_spelled a0 a2 mem0 = some t) : RM G M_X9_spelled d [(1, a0), (2, a2)] z mem0 (some (2, t)) mem0 := by
  suffices H : ∀ Q : rt_P, Q (some (2, t)) z mem0 → RT G M_X9_spelled d z Q 0 [(1, a0), (9, 0), (2, a2), (9, 0)] [] z mem0 from H _ ⟨rfl, rfl, rfl⟩
  intro Q hK
  unfold f_X9_spelled at h
  refine RT.iconst (pc := 0) (n := 0) dX9_spelled_0 ⟨by decide, by decide⟩ ?_
  refine RT.istore_n (pc := 1) (k := 3) (x := 0) (L1 := [(1, a0), (9, 0), (2, a2), (0, 0)]) dX9_spelled_1 (Nat.le_of_ble_eq_true rfl) rfl ?_
  obtain ⟨E2, hE2, h⟩ := Option.bind_eq_some_iff.mp h
  refine rt_it_ind (P := (fun s1 : Int => RT G M_X9_spelled d z Q 2 [(1, a0), (9, 0), (2, a2), (0, s1)] [] z mem0)) (X := (fun e1 : (Unit) ⊕ (Int) => (∀ x1 : Unit, e1 = .inl x1 → RT G M_X9_spelled d z Q 41 [(9, 0), (9, 0), (2, a2), (9, 0)] [] z mem0) ∧ (∀ t1 : Int, e1 = .inr t1 → Q (some (2, t1)) z mem0))) (fun s1 t1 h1 k1 k2 => cb_X9_spelled_2 hz hd a0 a2 mem0 s1 t1 h1 ⟨k1, fun x1 q => (k2 _ q).1 x1 rfl, fun t2 q => (k2 _ q).2 t2 rfl⟩) 4000 0 E2 hE2 ?_
  cases E2 with
  | inr t1 =>
    obtain rfl := Option.some.inj h
    exact ⟨fun x1 q => (by cases q), fun t2 q => (by cases q; exact hK)⟩
  | inl X2 =>
    refine ⟨fun x1 q => ?_, fun t2 q => (by cases q)⟩
    cases q
    refine RT.aload_n (pc := 41) (k := 2) (x := a2) dX9_spelled_41 rfl ?_
    obtain rfl := Option.some.inj h
    exact RT.aret (pc := 42) dX9_spelled_42 rfl (Nat.le_of_eq (rt_cells_0 z)) (Nat.le_of_eq (rt_slots_0 z)) hK
theorem cj_X8_addToken_87_42 {G : rt_G} {d : Nat} {z : Nat × Nat} {Q : rt_P} (hz : 300 ≤ z.1) (hd : 1 ≤ d) {a0 : Int} (ht : rt_kd a0.toNat = 20 + 8) (a1 : Int) (a2 : Int) (a3 : Int) (a6 : Int) (s0 : Int) (mem0 : rt_M) (t : (Int × Int × rt_M) ⊕ (Int × rt_M)) (h : j_X8_addToken_87_42 a0 a1 a2 a3 a6 s0 mem0 = some t) (hK : (∀ s1 : Int × Int × rt_M, t = .inl s1 → RT G M_X8_addToken d z Q 42 [(2, a0), (0, a1), (0, a2), (0, a3), (1, s1.1), (9, 0), (0, s1.2.1)] [] z s1.2.2) ∧ (∀ x1 : Int × rt_M, t = .inr x1 → RT G M_X8_addToken d z Q 95 [(2, a0), (0, a1), (9, 0), (0, a3), (1, x1.1), (9, 0), (9, 0)] [] z x1.2)) : RT G M_X8_addToken d z Q 87 [(2, a0), (0, a1), (0, a2), (0, a3), (9, 0), (9, 0), (0, a6)] [(1, s0)] z mem0 := by
  unfold j_X8_addToken_87_42 at h
  refine RT.lstore (pc := 87) (k := 4) (x := s0) (L1 := [(2, a0), (0, a1), (0, a2), (0, a3), (1, s0), (9, 0), (0, a6)]) dX8_addToken_87 (Nat.le_of_ble_eq_true rfl) rfl ?_
  refine RT.iinc (pc := 89) (x := a6) (L1 := [(2, a0), (0, a1), (0, a2), (0, a3), (1, s0), (9, 0), (0, (rt_iadd a6 1))]) dX8_addToken_89 rfl (Nat.le_of_ble_eq_true rfl) ⟨by decide, by decide⟩ rfl ?_
  refine RT.goto (pc := 92) (tgt := 42) dX8_addToken_92 rfl ?_
  obtain rfl := Option.some.inj h
  have q1 := hK.1 ((s0, (rt_iadd a6 1), mem0)) rfl
  try dsimp only at q1
  exact q1
theorem cb_X8_addToken_42 {G : rt_G} {d : Nat} {z : Nat × Nat} {Q : rt_P} (hz : 300 ≤ z.1) (hd : 1 ≤ d) {a0 : Int} (ht : rt_kd a0.toNat = 20 + 8) (a1 : Int) (a2 : Int) (a3 : Int) (s : Int × Int × rt_M) (t : (Int × Int × rt_M) ⊕ (Int × rt_M)) (h : b_X8_addToken_42 a0 a1 a2 a3 s = some t) (hK : (∀ s1 : Int × Int × rt_M, t = .inl s1 → RT G M_X8_addToken d z Q 42 [(2, a0), (0, a1), (0, a2), (0, a3), (1, s1.1), (9, 0), (0, s1.2.1)] [] z s1.2.2) ∧ (∀ x1 : Int × rt_M, t = .inr x1 → RT G M_X8_addToken d z Q 95 [(2, a0), (0, a1), (9, 0), (0, a3), (1, x1.1), (9, 0), (9, 0)] [] z x1.2)) : RT G M_X8_addToken d z Q 42 [(2, a0), (0, a1), (0, a2), (0, a3), (1, s.1), (9, 0), (0, s.2.1)] [] z s.2.2 := by
  unfold b_X8_addToken_42 at h
  refine RT.iload (pc := 42) (k := 6) (x := s.2.1) dX8_addToken_42 rfl ?_
  refine RT.iload_n (pc := 44) (k := 2) (x := a2) dX8_addToken_44 rfl ?_
  refine RT.icmp_ge (pc := 45) (tgt := 95) dX8_addToken_45 rfl (fun q45 => ?_) (fun q45 => ?_)
  · rw [if_pos q45] at h
    refine RT.wk (L1 := [(2, a0), (0, a1), (9, 0), (0, a3), (1, s.1), (9, 0), (9, 0)]) (rt_le_s (rt_le_s (rt_le_j (rt_le_s (rt_le_s (rt_le_s (rt_le_j rt_le_n))))))) ?_
    obtain rfl := Option.some.inj h
    have q1 := hK.2 ((s.1, s.2.2)) rfl
    try dsimp only at q1
    exact q1
  · rw [if_neg q45] at h
    refine RT.iload_n (pc := 48) (k := 3) (x := a3) dX8_addToken_48 rfl ?_
    refine RT.if_eq (pc := 49) (tgt := 73) dX8_addToken_49 rfl (fun q49 => ?_) (fun q49 => ?_)
    · rw [if_pos q49] at h
      refine RT.lload (pc := 73) (k := 4) (x := s.1) dX8_addToken_73 rfl ?_
      refine RT.bipush (pc := 75) (n := 7) dX8_addToken_75 ⟨by decide, by decide⟩ rfl ?_
      refine RT.lshl (pc := 77) dX8_addToken_77 ?_
      refine RT.aload_n (pc := 78) (k := 0) (x := a0) dX8_addToken_78 rfl ?_
      obtain ⟨v79, hv79, h⟩ := Option.bind_eq_some_iff.mp h
      refine RT.gf 8 0 2 (pc := 79) (x := a0) (v := v79) hz dX8_addToken_79 fl_X8_9 rfl hv79 ?_
      refine RT.iload (pc := 82) (k := 6) (x := s.2.1) dX8_addToken_82 rfl ?_
      obtain ⟨v84, hv84, h⟩ := Option.bind_eq_some_iff.mp h
      refine RT.cald (pc := 84) (x := v79) (i := s.2.1) (v := v84) dX8_addToken_84 (rt_lta hz (by decide) (by decide) hv84) hv84 ?_
      refine RT.i2l (pc := 85) dX8_addToken_85 ?_
      refine RT.lor (pc := 86) dX8_addToken_86 ?_
      refine RT.wk (L1 := [(2, a0), (0, a1), (0, a2), (0, a3), (9, 0), (9, 0), (0, s.2.1)]) (rt_le_s (rt_le_s (rt_le_s (rt_le_s (rt_le_j (rt_le_s (rt_le_s rt_le_n))))))) ?_
      exact cj_X8_addToken_87_42 hz hd ht a1 a2 a3 s.2.1 ((rt_lor (rt_lshl s.1 7) v84)) s.2.2 _ h hK
    · rw [if_neg q49] at h
      refine RT.lload (pc := 52) (k := 4) (x := s.1) dX8_addToken_52 rfl ?_
      refine RT.ldc2 (pc := 54) (v := 10) dX8_addToken_54 kl_X8_63 ⟨by decide, by decide⟩ ?_
      refine RT.lmul (pc := 57) dX8_addToken_57 ?_
      refine RT.aload_n (pc := 58) (k := 0) (x := a0) dX8_addToken_58 rfl ?_
      obtain ⟨v59, hv59, h⟩ := Option.bind_eq_some_iff.mp h
      refine RT.gf 8 0 2 (pc := 59) (x := a0) (v := v59) hz dX8_addToken_59 fl_X8_9 rfl hv59 ?_
      refine RT.iload (pc := 62) (k := 6) (x := s.2.1) dX8_addToken_62 rfl ?_
      obtain ⟨v64, hv64, h⟩ := Option.bind_eq_some_iff.mp h
      refine RT.cald (pc := 64) (x := v59) (i := s.2.1) (v := v64) dX8_addToken_64 (rt_lta hz (by decide) (by decide) hv64) hv64 ?_
      refine RT.bipush (pc := 65) (n := 48) dX8_addToken_65 ⟨by decide, by decide⟩ rfl ?_
      refine RT.isub (pc := 67) dX8_addToken_67 ?_
      refine RT.i2l (pc := 68) dX8_addToken_68 ?_
      refine RT.ladd (pc := 69) dX8_addToken_69 ?_
      refine RT.goto (pc := 70) (tgt := 87) dX8_addToken_70 rfl ?_
      refine RT.wk (L1 := [(2, a0), (0, a1), (0, a2), (0, a3), (9, 0), (9, 0), (0, s.2.1)]) (rt_le_s (rt_le_s (rt_le_s (rt_le_s (rt_le_j (rt_le_s (rt_le_s rt_le_n))))))) ?_
      exact cj_X8_addToken_87_42 hz hd ht a1 a2 a3 s.2.1 ((rt_ladd (rt_lmul s.1 10) (rt_isub v64 48))) s.2.2 _ h hK
theorem cj_X8_addToken_136 {G : rt_G} {d : Nat} {z : Nat × Nat} {Q : rt_P} (hz : 300 ≤ z.1) (hd : 1 ≤ d) {a0 : Int} (ht : rt_kd a0.toNat = 20 + 8) (a1 : Int) (a4 : Int) (s0 : Int) (s1 : Int) (mem0 : rt_M) (t : rt_M) (h : j_X8_addToken_136 a1 a4 s0 s1 mem0 = some t) (hK : Q none z t) : RT G M_X8_addToken d z Q 136 [(9, 0), (0, a1), (9, 0), (9, 0), (1, a4), (9, 0), (9, 0)] [(2, s1), (2, s0)] z mem0 := by
  unfold j_X8_addToken_136 at h
  refine RT.iload_n (pc := 136) (k := 1) (x := a1) dX8_addToken_136 rfl ?_
  refine RT.lload (pc := 137) (k := 4) (x := a4) dX8_addToken_137 rfl ?_
  obtain ⟨p139, hp139, h⟩ := Option.bind_eq_some_iff.mp h
  obtain ⟨hk139, hp139⟩ := rt_gd_some hp139
  refine RT.cVz (pc := 139) (M' := M_X8_addToken_) (ci := 8) (x := s0) (As := [(2, s1), (0, a1), (1, a4)]) (st := []) (r := none) (mem1 := p139) (d' := d - 1) hz dX8_addToken_139 mw_X8_addToken_ ml_X8_50 mi_X8_addToken_ hk139 rfl rfl (Nat.le_of_ble_eq_true rfl) (Nat.le_of_ble_eq_true rfl) (by omega) rfl rfl (c_X8_addToken_ hz (by omega) s0 s1 a1 a4 mem0 _ hk139 hp139) ?_
  obtain rfl := Option.some.inj h
  exact RT.vret (pc := 142) dX8_addToken_142 rfl (Nat.le_of_eq (rt_cells_0 z)) (Nat.le_of_eq (rt_slots_0 z)) hK
theorem cj_X8_addToken_116 {G : rt_G} {d : Nat} {z : Nat × Nat} {Q : rt_P} (hz : 300 ≤ z.1) (hd : 1 ≤ d) {a0 : Int} (ht : rt_kd a0.toNat = 20 + 8) (a1 : Int) (a3 : Int) (a4 : Int) (s0 : Int) (mem0 : rt_M) (t : rt_M) (h : j_X8_addToken_116 a0 a1 a3 a4 s0 mem0 = some t) (hK : Q none z t) : RT G M_X8_addToken d z Q 116 [(2, a0), (0, a1), (9, 0), (0, a3), (1, a4), (9, 0), (9, 0)] [(2, s0)] z mem0 := by
  unfold j_X8_addToken_116 at h
  refine RT.astore (pc := 116) (k := 6) (x := s0) (L1 := [(2, a0), (0, a1), (9, 0), (0, a3), (1, a4), (9, 0), (2, s0)]) dX8_addToken_116 (Nat.le_of_ble_eq_true rfl) rfl ?_
  refine RT.aload_n (pc := 118) (k := 0) (x := a0) dX8_addToken_118 rfl ?_
  refine RT.iload_n (pc := 119) (k := 3) (x := a3) dX8_addToken_119 rfl ?_
  refine RT.if_eq (pc := 120) (tgt := 129) dX8_addToken_120 rfl (fun q120 => ?_) (fun q120 => ?_)
  · rw [if_pos q120] at h
    refine RT.lload (pc := 129) (k := 4) (x := a4) dX8_addToken_129 rfl ?_
    refine RT.aload (pc := 131) (k := 6) (x := s0) dX8_addToken_131 rfl ?_
    obtain ⟨p133, hp133, h⟩ := Option.bind_eq_some_iff.mp h
    refine RT.cSz (pc := 133) (M' := M_X9_spelled) (As := [(1, a4), (2, s0)]) (st := [(2, a0)]) (r := some (2, p133)) (mem1 := mem0) (d' := d - 1) dX8_addToken_133 mw_X9_spelled ml_X8_71 mi_X9_spelled rfl rfl (Nat.le_of_ble_eq_true rfl) (Nat.le_of_ble_eq_true rfl) (by omega) rfl rfl (c_X9_spelled hz (by omega) a4 s0 mem0 _ hp133) ?_
    refine RT.wk (L1 := [(9, 0), (0, a1), (9, 0), (9, 0), (1, a4), (9, 0), (9, 0)]) (rt_le_j (rt_le_s (rt_le_s (rt_le_j (rt_le_s (rt_le_s (rt_le_j rt_le_n))))))) ?_
    exact cj_X8_addToken_136 hz hd ht a1 a4 a0 p133 mem0 _ h hK
  · rw [if_neg q120] at h
    refine RT.gets 36 (pc := 123) (x := 36) dX8_addToken_123 sl_X8_68 rfl ?_
    refine RT.goto (pc := 126) (tgt := 136) dX8_addToken_126 rfl ?_
    refine RT.wk (L1 := [(9, 0), (0, a1), (9, 0), (9, 0), (1, a4), (9, 0), (9, 0)]) (rt_le_j (rt_le_s (rt_le_s (rt_le_j (rt_le_s (rt_le_s (rt_le_j rt_le_n))))))) ?_
    exact cj_X8_addToken_136 hz hd ht a1 a4 a0 36 mem0 _ h hK
theorem cj_X8_addToken_23 {G : rt_G} {d : Nat} {z : Nat × Nat} {Q : rt_P} (hz : 300 ≤ z.1) (hd : 1 ≤ d) {a0 : Int} (ht : rt_kd a0.toNat = 20 + 8) (a1 : Int) (a2 : Int) (a3 : Int) (s0 : Int) (s1 : Int) (mem0 : rt_M) (t : rt_M) (h : j_X8_addToken_23 a0 a1 a2 a3 s0 s1 mem0 = some t) (hK : Q none z t) : RT G M_X8_addToken d z Q 23 [(2, a0), (0, a1), (0, a2), (0, a3), (9, 0), (9, 0), (9, 0)] [(0, s1), (0, s0)] z mem0 := by
  unfold j_X8_addToken_23 at h
  refine RT.icmp_le (pc := 23) (tgt := 36) dX8_addToken_23 rfl (fun q23 => ?_) (fun q23 => ?_)
  · rw [if_pos q23] at h
    refine RT.lconst (pc := 36) (v := 0) dX8_addToken_36 rfl ?_
    refine RT.lstore (pc := 37) (k := 4) (x := 0) (L1 := [(2, a0), (0, a1), (0, a2), (0, a3), (1, 0), (9, 0), (9, 0)]) dX8_addToken_37 (Nat.le_of_ble_eq_true rfl) rfl ?_
    refine RT.iload_n (pc := 39) (k := 1) (x := a1) dX8_addToken_39 rfl ?_
    refine RT.istore (pc := 40) (k := 6) (x := a1) (L1 := [(2, a0), (0, a1), (0, a2), (0, a3), (1, 0), (9, 0), (0, a1)]) dX8_addToken_40 (Nat.le_of_ble_eq_true rfl) rfl ?_
    obtain ⟨X42, hX42, h⟩ := Option.bind_eq_some_iff.mp h
    refine rt_it_ind (P := (fun s1 : Int × Int × rt_M => RT G M_X8_addToken d z Q 42 [(2, a0), (0, a1), (0, a2), (0, a3), (1, s1.1), (9, 0), (0, s1.2.1)] [] z s1.2.2)) (X := (fun x1 : Int × rt_M => RT G M_X8_addToken d z Q 95 [(2, a0), (0, a1), (9, 0), (0, a3), (1, x1.1), (9, 0), (9, 0)] [] z x1.2)) (fun s1 t1 h1 k1 k2 => cb_X8_addToken_42 hz hd ht a1 a2 a3 s1 t1 h1 ⟨k1, k2⟩) 4000 ((0, a1, mem0)) X42 hX42 ?_
    refine RT.aload_n (pc := 95) (k := 0) (x := a0) dX8_addToken_95 rfl ?_
    obtain ⟨v96, hv96, h⟩ := Option.bind_eq_some_iff.mp h
    refine RT.gf 8 0 2 (pc := 96) (x := a0) (v := v96) hz dX8_addToken_96 fl_X8_9 rfl hv96 ?_
    refine RT.iload_n (pc := 99) (k := 1) (x := a1) dX8_addToken_99 rfl ?_
    obtain ⟨v100, hv100, h⟩ := Option.bind_eq_some_iff.mp h
    refine RT.cald (pc := 100) (x := v96) (i := a1) (v := v100) dX8_addToken_100 (rt_lta hz (by decide) (by decide) hv100) hv100 ?_
    obtain ⟨p101, hp101, h⟩ := Option.bind_eq_some_iff.mp h
    refine RT.cSz (pc := 101) (M' := M_X8_isLetter) (As := [(0, v100)]) (st := []) (r := some (0, p101)) (mem1 := X42.2) (d' := d - 1) dX8_addToken_101 mw_X8_isLetter ml_X8_53 mi_X8_isLetter rfl rfl (Nat.le_of_ble_eq_true rfl) (Nat.le_of_ble_eq_true rfl) (by omega) rfl rfl (c_X8_isLetter hz (by omega) v100 X42.2 _ hp101) ?_
    refine RT.if_eq (pc := 104) (tgt := 113) dX8_addToken_104 rfl (fun q104 => ?_) (fun q104 => ?_)
    · rw [if_pos q104] at h
      refine RT.gets 38 (pc := 113) (x := 38) dX8_addToken_113 sl_X8_60 rfl ?_
      exact cj_X8_addToken_116 hz hd ht a1 a3 X42.1 38 X42.2 _ h hK
    · rw [if_neg q104] at h
      refine RT.gets 35 (pc := 107) (x := 35) dX8_addToken_107 sl_X8_65 rfl ?_
      refine RT.goto (pc := 110) (tgt := 116) dX8_addToken_110 rfl ?_
      exact cj_X8_addToken_116 hz hd ht a1 a3 X42.1 35 X42.2 _ h hK
  · rw [if_neg q23] at h
    refine RT.aload_n (pc := 26) (k := 0) (x := a0) dX8_addToken_26 rfl ?_
    refine RT.gets 38 (pc := 27) (x := 38) dX8_addToken_27 sl_X8_60 rfl ?_
    refine RT.iload_n (pc := 30) (k := 1) (x := a1) dX8_addToken_30 rfl ?_
    refine RT.lconst (pc := 31) (v := 0) dX8_addToken_31 rfl ?_
    obtain ⟨p32, hp32, h⟩ := Option.bind_eq_some_iff.mp h
    refine RT.cVz (pc := 32) (M' := M_X8_addToken_) (ci := 8) (x := a0) (As := [(2, 38), (0, a1), (1, 0)]) (st := []) (r := none) (mem1 := p32) (d' := d - 1) hz dX8_addToken_32 mw_X8_addToken_ ml_X8_50 mi_X8_addToken_ ht rfl rfl (Nat.le_of_ble_eq_true rfl) (Nat.le_of_ble_eq_true rfl) (by omega) rfl rfl (c_X8_addToken_ hz (by omega) a0 38 a1 0 mem0 _ ht hp32) ?_
    obtain rfl := Option.some.inj h
    exact RT.vret (pc := 35) dX8_addToken_35 rfl (Nat.le_of_eq (rt_cells_0 z)) (Nat.le_of_eq (rt_slots_0 z)) hK
theorem c_X8_addToken {G : rt_G} {d : Nat} {z : Nat × Nat} (hz : 300 ≤ z.1) (hd : 1 ≤ d) (a0 : Int) (a1 : Int) (a2 : Int) (mem0 : rt_M) (t : rt_M) (ht : rt_kd a0.toNat = 20 + 8) (h : f_X8_addToken a0 a1 a2 mem0 = some t) : RM G M_X8_addToken d [(2, a0), (0, a1), (0, a2)] z mem0 none t := by
  suffices H : ∀ Q : rt_P, Q none z t → RT G M_X8_addToken d z Q 0 [(2, a0), (0, a1), (0, a2), (9, 0), (9, 0), (9, 0), (9, 0)] [] z mem0 from H _ ⟨rfl, rfl, rfl⟩
  intro Q hK
  unfold f_X8_addToken at h
  refine RT.aload_n (pc := 0) (k := 0) (x := a0) dX8_addToken_0 rfl ?_
  obtain ⟨v1, hv1, h⟩ := Option.bind_eq_some_iff.mp h
  refine RT.gf 8 0 2 (pc := 1) (x := a0) (v := v1) hz dX8_addToken_1 fl_X8_9 rfl hv1 ?_
  refine RT.iload_n (pc := 4) (k := 1) (x := a1) dX8_addToken_4 rfl ?_
  obtain ⟨v5, hv5, h⟩ := Option.bind_eq_some_iff.mp h
  refine RT.cald (pc := 5) (x := v1) (i := a1) (v := v5) dX8_addToken_5 (rt_lta hz (by decide) (by decide) hv5) hv5 ?_
  obtain ⟨p6, hp6, h⟩ := Option.bind_eq_some_iff.mp h
  refine RT.cSz (pc := 6) (M' := M_X8_isDigit) (As := [(0, v5)]) (st := []) (r := some (0, p6)) (mem1 := mem0) (d' := d - 1) dX8_addToken_6 mw_X8_isDigit ml_X8_57 mi_X8_isDigit rfl rfl (Nat.le_of_ble_eq_true rfl) (Nat.le_of_ble_eq_true rfl) (by omega) rfl rfl (c_X8_isDigit hz (by omega) v5 mem0 _ hp6) ?_
  refine RT.istore_n (pc := 9) (k := 3) (x := p6) (L1 := [(2, a0), (0, a1), (0, a2), (0, p6), (9, 0), (9, 0), (9, 0)]) dX8_addToken_9 (Nat.le_of_ble_eq_true rfl) rfl ?_
  refine RT.iload_n (pc := 10) (k := 2) (x := a2) dX8_addToken_10 rfl ?_
  refine RT.iload_n (pc := 11) (k := 1) (x := a1) dX8_addToken_11 rfl ?_
  refine RT.isub (pc := 12) dX8_addToken_12 ?_
  refine RT.iload_n (pc := 13) (k := 3) (x := p6) dX8_addToken_13 rfl ?_
  refine RT.if_eq (pc := 14) (tgt := 21) dX8_addToken_14 rfl (fun q14 => ?_) (fun q14 => ?_)
  · rw [if_pos q14] at h
    refine RT.bipush (pc := 21) (n := 8) dX8_addToken_21 ⟨by decide, by decide⟩ rfl ?_
    exact cj_X8_addToken_23 hz hd ht a1 a2 p6 ((rt_isub a2 a1)) 8 mem0 _ h hK
  · rw [if_neg q14] at h
    refine RT.iconst (pc := 17) (n := 4) dX8_addToken_17 ⟨by decide, by decide⟩ ?_
    refine RT.goto (pc := 18) (tgt := 23) dX8_addToken_18 rfl ?_
    exact cj_X8_addToken_23 hz hd ht a1 a2 p6 ((rt_isub a2 a1)) 4 mem0 _ h hK
theorem cj_X8_split_58_9 {G : rt_G} {d : Nat} {z : Nat × Nat} {Q : rt_P} (hz : 300 ≤ z.1) (hd : 2 ≤ d) {a0 : Int} (ht : rt_kd a0.toNat = 20 + 8) (a2 : Int) (a3 : Int) (mem0 : rt_M) (t : (Int × Int × rt_M) ⊕ (rt_M)) (h : j_X8_split_58_9 a0 a2 a3 mem0 = some t) (hK : (∀ s1 : Int × Int × rt_M, t = .inl s1 → RT G M_X8_split d z Q 9 [(2, a0), (0, s1.1), (0, s1.2.1), (9, 0)] [] z s1.2.2) ∧ (∀ x1 : rt_M, t = .inr x1 → RT G M_X8_split d z Q 66 [(2, a0), (9, 0), (9, 0), (9, 0)] [] z x1)) : RT G M_X8_split d z Q 58 [(2, a0), (9, 0), (0, a2), (0, a3)] [] z mem0 := by
  unfold j_X8_split_58_9 at h
  refine RT.iload_n (pc := 58) (k := 3) (x := a3) dX8_split_58 rfl ?_
  refine RT.istore_n (pc := 59) (k := 1) (x := a3) (L1 := [(2, a0), (0, a3), (0, a2), (0, a3)]) dX8_split_59 (Nat.le_of_ble_eq_true rfl) rfl ?_
  refine RT.iinc (pc := 60) (x := a2) (L1 := [(2, a0), (0, a3), (0, (rt_iadd a2 1)), (0, a3)]) dX8_split_60 rfl (Nat.le_of_ble_eq_true rfl) ⟨by decide, by decide⟩ rfl ?_
  refine RT.goto (pc := 63) (tgt := 9) dX8_split_63 rfl ?_
  refine RT.wk (L1 := [(2, a0), (0, a3), (0, (rt_iadd a2 1)), (9, 0)]) (rt_le_s (rt_le_s (rt_le_s (rt_le_j rt_le_n)))) ?_
  obtain rfl := Option.some.inj h
  have q1 := hK.1 ((a3, (rt_iadd a2 1), mem0)) rfl
  try dsimp only at q1
  exact q1
theorem cb_X8_split_9 {G : rt_G} {d : Nat} {z : Nat × Nat} {Q : rt_P} (hz : 300 ≤ z.1) (hd : 2 ≤ d) {a0 : Int} (ht : rt_kd a0.toNat = 20 + 8) (s : Int × Int × rt_M) (t : (Int × Int × rt_M) ⊕ (rt_M)) (h : b_X8_split_9 a0 s = some t) (hK : (∀ s1 : Int × Int × rt_M, t = .inl s1 → RT G M_X8_split d z Q 9 [(2, a0), (0, s1.1), (0, s1.2.1), (9, 0)] [] z s1.2.2) ∧ (∀ x1 : rt_M, t = .inr x1 → RT G M_X8_split d z Q 66 [(2, a0), (9, 0), (9, 0), (9, 0)] [] z x1)) : RT G M_X8_split d z Q 9 [(2, a0), (0, s.1), (0, s.2.1), (9, 0)] [] z s.2.2 := by
  unfold b_X8_split_9 at h
  refine RT.iload_n (pc := 9) (k := 2) (x := s.2.1) dX8_split_9 rfl ?_
  refine RT.sipush (pc := 10) (n := 1000) dX8_split_10 ⟨by decide, by decide⟩ rfl ?_
  refine RT.icmp_ge (pc := 13) (tgt := 66) dX8_split_13 rfl (fun q13 => ?_) (fun q13 => ?_)
  · rw [if_pos q13] at h
    refine RT.wk (L1 := [(2, a0), (9, 0), (9, 0), (9, 0)]) (rt_le_s (rt_le_j (rt_le_j (rt_le_s rt_le_n)))) ?_
    obtain rfl := Option.some.inj h
    have q1 := hK.2 s.2.2 rfl
    try dsimp only at q1
    exact q1
  · rw [if_neg q13] at h
    refine RT.iload_n (pc := 16) (k := 1) (x := s.1) dX8_split_16 rfl ?_
    refine RT.aload_n (pc := 17) (k := 0) (x := a0) dX8_split_17 rfl ?_
    obtain ⟨v18, hv18, h⟩ := Option.bind_eq_some_iff.mp h
    refine RT.gf 8 1 0 (pc := 18) (x := a0) (v := v18) hz dX8_split_18 fl_X8_29 rfl hv18 ?_
    refine RT.icmp_ge (pc := 21) (tgt := 66) dX8_split_21 rfl (fun q21 => ?_) (fun q21 => ?_)
    · rw [if_pos q21] at h
      refine RT.wk (L1 := [(2, a0), (9, 0), (9, 0), (9, 0)]) (rt_le_s (rt_le_j (rt_le_j (rt_le_s rt_le_n)))) ?_
      obtain rfl := Option.some.inj h
      have q1 := hK.2 s.2.2 rfl
      try dsimp only at q1
      exact q1
    · rw [if_neg q21] at h
      refine RT.aload_n (pc := 24) (k := 0) (x := a0) dX8_split_24 rfl ?_
      refine RT.iload_n (pc := 25) (k := 1) (x := s.1) dX8_split_25 rfl ?_
      obtain ⟨p26, hp26, h⟩ := Option.bind_eq_some_iff.mp h
      refine RT.cVz (pc := 26) (M' := M_X8_endOf) (ci := 8) (x := a0) (As := [(0, s.1)]) (st := []) (r := some (0, p26)) (mem1 := s.2.2) (d' := d - 1) hz dX8_split_26 mw_X8_endOf ml_X8_38 mi_X8_endOf ht rfl rfl (Nat.le_of_ble_eq_true rfl) (Nat.le_of_ble_eq_true rfl) (by omega) rfl rfl (c_X8_endOf hz (by omega) a0 s.1 s.2.2 _ ht hp26) ?_
      refine RT.istore_n (pc := 29) (k := 3) (x := p26) (L1 := [(2, a0), (0, s.1), (0, s.2.1), (0, p26)]) dX8_split_29 (Nat.le_of_ble_eq_true rfl) rfl ?_
      refine RT.aload_n (pc := 30) (k := 0) (x := a0) dX8_split_30 rfl ?_
      obtain ⟨v31, hv31, h⟩ := Option.bind_eq_some_iff.mp h
      refine RT.gf 8 0 2 (pc := 31) (x := a0) (v := v31) hz dX8_split_31 fl_X8_9 rfl hv31 ?_
      refine RT.iload_n (pc := 34) (k := 1) (x := s.1) dX8_split_34 rfl ?_
      obtain ⟨v35, hv35, h⟩ := Option.bind_eq_some_iff.mp h
      refine RT.cald (pc := 35) (x := v31) (i := s.1) (v := v35) dX8_split_35 (rt_lta hz (by decide) (by decide) hv35) hv35 ?_
      refine RT.bipush (pc := 36) (n := 10) dX8_split_36 ⟨by decide, by decide⟩ rfl ?_
      refine RT.icmp_eq (pc := 38) (tgt := 58) dX8_split_38 rfl (fun q38 => ?_) (fun q38 => ?_)
      · rw [if_pos q38] at h
        refine RT.wk (L1 := [(2, a0), (9, 0), (0, s.2.1), (0, p26)]) (rt_le_s (rt_le_j (rt_le_s (rt_le_s rt_le_n)))) ?_
        exact cj_X8_split_58_9 hz hd ht s.2.1 p26 s.2.2 _ h hK
      · rw [if_neg q38] at h
        refine RT.aload_n (pc := 41) (k := 0) (x := a0) dX8_split_41 rfl ?_
        obtain ⟨v42, hv42, h⟩ := Option.bind_eq_some_iff.mp h
        refine RT.gf 8 0 2 (pc := 42) (x := a0) (v := v42) hz dX8_split_42 fl_X8_9 rfl hv42 ?_
        refine RT.iload_n (pc := 45) (k := 1) (x := s.1) dX8_split_45 rfl ?_
        obtain ⟨v46, hv46, h⟩ := Option.bind_eq_some_iff.mp h
        refine RT.cald (pc := 46) (x := v42) (i := s.1) (v := v46) dX8_split_46 (rt_lta hz (by decide) (by decide) hv46) hv46 ?_
        refine RT.bipush (pc := 47) (n := 32) dX8_split_47 ⟨by decide, by decide⟩ rfl ?_
        refine RT.icmp_eq (pc := 49) (tgt := 58) dX8_split_49 rfl (fun q49 => ?_) (fun q49 => ?_)
        · rw [if_pos q49] at h
          refine RT.wk (L1 := [(2, a0), (9, 0), (0, s.2.1), (0, p26)]) (rt_le_s (rt_le_j (rt_le_s (rt_le_s rt_le_n)))) ?_
          exact cj_X8_split_58_9 hz hd ht s.2.1 p26 s.2.2 _ h hK
        · rw [if_neg q49] at h
          refine RT.aload_n (pc := 52) (k := 0) (x := a0) dX8_split_52 rfl ?_
          refine RT.iload_n (pc := 53) (k := 1) (x := s.1) dX8_split_53 rfl ?_
          refine RT.iload_n (pc := 54) (k := 3) (x := p26) dX8_split_54 rfl ?_
          obtain ⟨p55, hp55, h⟩ := Option.bind_eq_some_iff.mp h
          refine RT.cVz (pc := 55) (M' := M_X8_addToken) (ci := 8) (x := a0) (As := [(0, s.1), (0, p26)]) (st := []) (r := none) (mem1 := p55) (d' := d - 1) hz dX8_split_55 mw_X8_addToken ml_X8_42 mi_X8_addToken ht rfl rfl (Nat.le_of_ble_eq_true rfl) (Nat.le_of_ble_eq_true rfl) (by omega) rfl rfl (c_X8_addToken hz (by omega) a0 s.1 p26 s.2.2 _ ht hp55) ?_
          refine RT.wk (L1 := [(2, a0), (9, 0), (0, s.2.1), (0, p26)]) (rt_le_s (rt_le_j (rt_le_s (rt_le_s rt_le_n)))) ?_
          exact cj_X8_split_58_9 hz hd ht s.2.1 p26 p55 _ h hK
theorem c_X8_split {G : rt_G} {d : Nat} {z : Nat × Nat} (hz : 300 ≤ z.1) (hd : 2 ≤ d) (a0 : Int) (mem0 : rt_M) (t : rt_M) (ht : rt_kd a0.toNat = 20 + 8) (h : f_X8_split a0 mem0 = some t) : RM G M_X8_split d [(2, a0)] z mem0 none t := by
  suffices H : ∀ Q : rt_P, Q none z t → RT G M_X8_split d z Q 0 [(2, a0), (9, 0), (9, 0), (9, 0)] [] z mem0 from H _ ⟨rfl, rfl, rfl⟩
  intro Q hK
  unfold f_X8_split at h
  refine RT.aload_n (pc := 0) (k := 0) (x := a0) dX8_split_0 rfl ?_
  refine RT.iconst (pc := 1) (n := 0) dX8_split_1 ⟨by decide, by decide⟩ ?_
  obtain ⟨m2, hm2, h⟩ := Option.bind_eq_some_iff.mp h
  refine RT.pf_i 8 5 (pc := 2) (mem1 := m2) hz dX8_split_2 fl_X8_35 rfl rfl rfl hm2 ?_
  refine RT.iconst (pc := 5) (n := 0) dX8_split_5 ⟨by decide, by decide⟩ ?_
  refine RT.istore_n (pc := 6) (k := 1) (x := 0) (L1 := [(2, a0), (0, 0), (9, 0), (9, 0)]) dX8_split_6 (Nat.le_of_ble_eq_true rfl) rfl ?_
  refine RT.iconst (pc := 7) (n := 0) dX8_split_7 ⟨by decide, by decide⟩ ?_
  refine RT.istore_n (pc := 8) (k := 2) (x := 0) (L1 := [(2, a0), (0, 0), (0, 0), (9, 0)]) dX8_split_8 (Nat.le_of_ble_eq_true rfl) rfl ?_
  obtain ⟨X9, hX9, h⟩ := Option.bind_eq_some_iff.mp h
  refine rt_it_ind (P := (fun s1 : Int × Int × rt_M => RT G M_X8_split d z Q 9 [(2, a0), (0, s1.1), (0, s1.2.1), (9, 0)] [] z s1.2.2)) (X := (fun x1 : rt_M => RT G M_X8_split d z Q 66 [(2, a0), (9, 0), (9, 0), (9, 0)] [] z x1)) (fun s1 t1 h1 k1 k2 => cb_X8_split_9 hz hd ht s1 t1 h1 ⟨k1, k2⟩) 4000 ((0, 0, m2)) X9 hX9 ?_
  refine RT.aload_n (pc := 66) (k := 0) (x := a0) dX8_split_66 rfl ?_
  refine RT.gets 37 (pc := 67) (x := 37) dX8_split_67 sl_X8_46 rfl ?_
  refine RT.aload_n (pc := 70) (k := 0) (x := a0) dX8_split_70 rfl ?_
  obtain ⟨v71, hv71, h⟩ := Option.bind_eq_some_iff.mp h
  refine RT.gf 8 1 0 (pc := 71) (x := a0) (v := v71) hz dX8_split_71 fl_X8_29 rfl hv71 ?_
  refine RT.lconst (pc := 74) (v := 0) dX8_split_74 rfl ?_
  obtain ⟨p75, hp75, h⟩ := Option.bind_eq_some_iff.mp h
  refine RT.cVz (pc := 75) (M' := M_X8_addToken_) (ci := 8) (x := a0) (As := [(2, 37), (0, v71), (1, 0)]) (st := []) (r := none) (mem1 := p75) (d' := d - 1) hz dX8_split_75 mw_X8_addToken_ ml_X8_50 mi_X8_addToken_ ht rfl rfl (Nat.le_of_ble_eq_true rfl) (Nat.le_of_ble_eq_true rfl) (by omega) rfl rfl (c_X8_addToken_ hz (by omega) a0 37 v71 0 X9 _ ht hp75) ?_
  obtain rfl := Option.some.inj h
  exact RT.vret (pc := 78) dX8_split_78 rfl (Nat.le_of_eq (rt_cells_0 z)) (Nat.le_of_eq (rt_slots_0 z)) hK
theorem c_X3_start {G : rt_G} {d : Nat} {z : Nat × Nat} (hz : 300 ≤ z.1) (hd : 3 ≤ d) (a0 : Int) (mem0 : rt_M) (t : rt_M) (ht : rt_kd a0.toNat = 20 + 3) (h : f_X3_start a0 mem0 = some t) : RM G M_X3_start d [(2, a0)] z mem0 none t := by
  suffices H : ∀ Q : rt_P, Q none z t → RT G M_X3_start d z Q 0 [(2, a0)] [] z mem0 from H _ ⟨rfl, rfl, rfl⟩
  intro Q hK
  unfold f_X3_start at h
  refine RT.aload_n (pc := 0) (k := 0) (x := a0) dX3_start_0 rfl ?_
  obtain ⟨v1, hv1, h⟩ := Option.bind_eq_some_iff.mp h
  refine RT.gf 3 0 2 (pc := 1) (x := a0) (v := v1) hz dX3_start_1 fl_X3_9 rfl hv1 ?_
  obtain ⟨p4, hp4, h⟩ := Option.bind_eq_some_iff.mp h
  obtain ⟨hk4, hp4⟩ := rt_gd_some hp4
  refine RT.cVz (pc := 4) (M' := M_X8_split) (ci := 8) (x := v1) (As := []) (st := []) (r := none) (mem1 := p4) (d' := d - 1) hz dX3_start_4 mw_X8_split ml_X3_50 mi_X8_split hk4 rfl rfl (Nat.le_of_ble_eq_true rfl) (Nat.le_of_ble_eq_true rfl) (by omega) rfl rfl (c_X8_split hz (by omega) v1 mem0 _ hk4 hp4) ?_
  refine RT.aload_n (pc := 7) (k := 0) (x := a0) dX3_start_7 rfl ?_
  refine RT.iconst (pc := 8) (n := 0) dX3_start_8 ⟨by decide, by decide⟩ ?_
  obtain ⟨m9, hm9, h⟩ := Option.bind_eq_some_iff.mp h
  refine RT.pf_i 3 1 (pc := 9) (mem1 := m9) hz dX3_start_9 fl_X3_55 rfl rfl rfl hm9 ?_
  refine RT.aload_n (pc := 12) (k := 0) (x := a0) dX3_start_12 rfl ?_
  refine RT.iconst (pc := 13) (n := 0) dX3_start_13 ⟨by decide, by decide⟩ ?_
  obtain ⟨m14, hm14, h⟩ := Option.bind_eq_some_iff.mp h
  refine RT.pf_i 3 2 (pc := 14) (mem1 := m14) hz dX3_start_14 fl_X3_37 rfl rfl rfl hm14 ?_
  obtain rfl := Option.some.inj h
  exact RT.vret (pc := 17) dX3_start_17 rfl (Nat.le_of_eq (rt_cells_0 z)) (Nat.le_of_eq (rt_slots_0 z)) hK
theorem c_X4_clear {G : rt_G} {d : Nat} {z : Nat × Nat} (hz : 300 ≤ z.1) (hd : 1 ≤ d) (a0 : Int) (mem0 : rt_M) (t : rt_M) (ht : rt_kd a0.toNat = 20 + 4) (h : f_X4_clear a0 mem0 = some t) : RM G M_X4_clear d [(2, a0)] z mem0 none t := by
  suffices H : ∀ Q : rt_P, Q none z t → RT G M_X4_clear d z Q 0 [(2, a0)] [] z mem0 from H _ ⟨rfl, rfl, rfl⟩
  intro Q hK
  unfold f_X4_clear at h
  refine RT.aload_n (pc := 0) (k := 0) (x := a0) dX4_clear_0 rfl ?_
  refine RT.iconst (pc := 1) (n := 0) dX4_clear_1 ⟨by decide, by decide⟩ ?_
  obtain ⟨m2, hm2, h⟩ := Option.bind_eq_some_iff.mp h
  refine RT.pf_i 4 0 (pc := 2) (mem1 := m2) hz dX4_clear_2 fl_X4_67 rfl rfl rfl hm2 ?_
  refine RT.aload_n (pc := 5) (k := 0) (x := a0) dX4_clear_5 rfl ?_
  refine RT.iconst (pc := 6) (n := 0) dX4_clear_6 ⟨by decide, by decide⟩ ?_
  obtain ⟨m7, hm7, h⟩ := Option.bind_eq_some_iff.mp h
  refine RT.pf_i 4 1 (pc := 7) (mem1 := m7) hz dX4_clear_7 fl_X4_70 rfl rfl rfl hm7 ?_
  refine RT.aload_n (pc := 10) (k := 0) (x := a0) dX4_clear_10 rfl ?_
  refine RT.iconst (pc := 11) (n := 0) dX4_clear_11 ⟨by decide, by decide⟩ ?_
  obtain ⟨m12, hm12, h⟩ := Option.bind_eq_some_iff.mp h
  refine RT.pf_i 4 7 (pc := 12) (mem1 := m12) hz dX4_clear_12 fl_X4_73 rfl rfl rfl hm12 ?_
  refine RT.aload_n (pc := 15) (k := 0) (x := a0) dX4_clear_15 rfl ?_
  refine RT.iconst (pc := 16) (n := 1) dX4_clear_16 ⟨by decide, by decide⟩ ?_
  obtain ⟨m17, hm17, h⟩ := Option.bind_eq_some_iff.mp h
  refine RT.pf_i 4 8 (pc := 17) (mem1 := m17) hz dX4_clear_17 fl_X4_30 rfl rfl rfl hm17 ?_
  refine RT.aload_n (pc := 20) (k := 0) (x := a0) dX4_clear_20 rfl ?_
  refine RT.iconst (pc := 21) (n := 0) dX4_clear_21 ⟨by decide, by decide⟩ ?_
  obtain ⟨m22, hm22, h⟩ := Option.bind_eq_some_iff.mp h
  refine RT.pf_z 4 9 (pc := 22) (mem1 := m22) hz dX4_clear_22 fl_X4_76 rfl rfl rfl (by decide) hm22 ?_
  refine RT.aload_n (pc := 25) (k := 0) (x := a0) dX4_clear_25 rfl ?_
  obtain ⟨v26, hv26, h⟩ := Option.bind_eq_some_iff.mp h
  refine RT.gf 4 10 2 (pc := 26) (x := a0) (v := v26) hz dX4_clear_26 fl_X4_51 rfl hv26 ?_
  obtain ⟨p29, hp29, h⟩ := Option.bind_eq_some_iff.mp h
  obtain ⟨hk29, hp29⟩ := rt_gd_some hp29
  refine RT.cVz (pc := 29) (M' := M_X2_clear) (ci := 2) (x := v26) (As := []) (st := []) (r := none) (mem1 := p29) (d' := d - 1) hz dX4_clear_29 mw_X2_clear ml_X4_80 mi_X2_clear hk29 rfl rfl (Nat.le_of_ble_eq_true rfl) (Nat.le_of_ble_eq_true rfl) (by omega) rfl rfl (c_X2_clear hz (by omega) v26 m22 _ hk29 hp29) ?_
  refine RT.aload_n (pc := 32) (k := 0) (x := a0) dX4_clear_32 rfl ?_
  obtain ⟨v33, hv33, h⟩ := Option.bind_eq_some_iff.mp h
  refine RT.gf 4 11 2 (pc := 33) (x := a0) (v := v33) hz dX4_clear_33 fl_X4_64 rfl hv33 ?_
  obtain ⟨p36, hp36, h⟩ := Option.bind_eq_some_iff.mp h
  obtain ⟨hk36, hp36⟩ := rt_gd_some hp36
  refine RT.cVz (pc := 36) (M' := M_X2_clear) (ci := 2) (x := v33) (As := []) (st := []) (r := none) (mem1 := p36) (d' := d - 1) hz dX4_clear_36 mw_X2_clear ml_X4_80 mi_X2_clear hk36 rfl rfl (Nat.le_of_ble_eq_true rfl) (Nat.le_of_ble_eq_true rfl) (by omega) rfl rfl (c_X2_clear hz (by omega) v33 p29 _ hk36 hp36) ?_
  obtain rfl := Option.some.inj h
  exact RT.vret (pc := 39) dX4_clear_39 rfl (Nat.le_of_eq (rt_cells_0 z)) (Nat.le_of_eq (rt_slots_0 z)) hK
theorem cj_X3_kind_32 {G : rt_G} {d : Nat} {z : Nat × Nat} {Q : rt_P} (hz : 300 ≤ z.1) (hd : 0 ≤ d) {a0 : Int} (ht : rt_kd a0.toNat = 20 + 3) (s0 : Int) (mem0 : rt_M) (t : Int) (h : j_X3_kind_32 s0 mem0 = some t) (hK : Q (some (2, t)) z mem0) : RT G M_X3_kind d z Q 32 [(9, 0)] [(2, s0)] z mem0 := by
  unfold j_X3_kind_32 at h
  obtain rfl := Option.some.inj h
  exact RT.aret (pc := 32) dX3_kind_32 rfl (Nat.le_of_eq (rt_cells_0 z)) (Nat.le_of_eq (rt_slots_0 z)) hK
theorem c_X3_kind {G : rt_G} {d : Nat} {z : Nat × Nat} (hz : 300 ≤ z.1) (hd : 0 ≤ d) (a0 : Int) (mem0 : rt_M) (t : Int) (ht : rt_kd a0.toNat = 20 + 3) (h : f_X3_kind a0 mem0 = some t) : RM G M_X3_kind d [(2, a0)] z mem0 (some (2, t)) mem0 := by
  suffices H : ∀ Q : rt_P, Q (some (2, t)) z mem0 → RT G M_X3_kind d z Q 0 [(2, a0)] [] z mem0 from H _ ⟨rfl, rfl, rfl⟩
  intro Q hK
  unfold f_X3_kind at h
  refine RT.aload_n (pc := 0) (k := 0) (x := a0) dX3_kind_0 rfl ?_
  obtain ⟨v1, hv1, h⟩ := Option.bind_eq_some_iff.mp h
  refine RT.gf 3 1 0 (pc := 1) (x := a0) (v := v1) hz dX3_kind_1 fl_X3_55 rfl hv1 ?_
  refine RT.aload_n (pc := 4) (k := 0) (x := a0) dX3_kind_4 rfl ?_
  obtain ⟨v5, hv5, h⟩ := Option.bind_eq_some_iff.mp h
  refine RT.gf 3 0 2 (pc := 5) (x := a0) (v := v5) hz dX3_kind_5 fl_X3_9 rfl hv5 ?_
  obtain ⟨v8, hv8, h⟩ := Option.bind_eq_some_iff.mp h
  refine RT.gf 8 5 0 (pc := 8) (x := v5) (v := v8) hz dX3_kind_8 fl_X3_58 rfl hv8 ?_
  refine RT.icmp_ge (pc := 11) (tgt := 29) dX3_kind_11 rfl (fun q11 => ?_) (fun q11 => ?_)
  · rw [if_pos q11] at h
    refine RT.gets 37 (pc := 29) (x := 37) dX3_kind_29 sl_X3_27 rfl ?_
    refine RT.wk (L1 := [(9, 0)]) (rt_le_j rt_le_n) ?_
    exact cj_X3_kind_32 hz hd ht 37 mem0 _ h hK
  · rw [if_neg q11] at h
    refine RT.aload_n (pc := 14) (k := 0) (x := a0) dX3_kind_14 rfl ?_
    obtain ⟨v15, hv15, h⟩ := Option.bind_eq_some_iff.mp h
    refine RT.gf 3 0 2 (pc := 15) (x := a0) (v := v15) hz dX3_kind_15 fl_X3_9 rfl hv15 ?_
    obtain ⟨v18, hv18, h⟩ := Option.bind_eq_some_iff.mp h
    refine RT.gf 8 2 2 (pc := 18) (x := v15) (v := v18) hz dX3_kind_18 fl_X3_61 rfl hv18 ?_
    refine RT.aload_n (pc := 21) (k := 0) (x := a0) dX3_kind_21 rfl ?_
    obtain ⟨v22, hv22, h⟩ := Option.bind_eq_some_iff.mp h
    refine RT.gf 3 1 0 (pc := 22) (x := a0) (v := v22) hz dX3_kind_22 fl_X3_55 rfl hv22 ?_
    obtain ⟨v25, hv25, h⟩ := Option.bind_eq_some_iff.mp h
    refine RT.aald5 (pc := 25) (x := v18) (i := v22) (v := v25) dX3_kind_25 (rt_lta hz (by decide) (by decide) hv25) hv25 ?_
    refine RT.goto (pc := 26) (tgt := 32) dX3_kind_26 rfl ?_
    refine RT.wk (L1 := [(9, 0)]) (rt_le_j rt_le_n) ?_
    exact cj_X3_kind_32 hz hd ht v25 mem0 _ h hK
theorem cj_X3_fail_30 {G : rt_G} {d : Nat} {z : Nat × Nat} {Q : rt_P} (hz : 300 ≤ z.1) (hd : 0 ≤ d) {a0 : Int} (ht : rt_kd a0.toNat = 20 + 3) (a1 : Int) (s0 : Int) (mem0 : rt_M) (t : Int × rt_M) (h : j_X3_fail_30 a0 a1 s0 mem0 = some t) (hK : Q (some (0, t.1)) z t.2) : RT G M_X3_fail d z Q 30 [(2, a0), (0, a1), (9, 0)] [(0, s0)] z mem0 := by
  unfold j_X3_fail_30 at h
  refine RT.istore_n (pc := 30) (k := 2) (x := s0) (L1 := [(2, a0), (0, a1), (0, s0)]) dX3_fail_30 (Nat.le_of_ble_eq_true rfl) rfl ?_
  refine RT.aload_n (pc := 31) (k := 0) (x := a0) dX3_fail_31 rfl ?_
  refine RT.iload_n (pc := 32) (k := 1) (x := a1) dX3_fail_32 rfl ?_
  refine RT.bipush (pc := 33) (n := 16) dX3_fail_33 ⟨by decide, by decide⟩ rfl ?_
  refine RT.iload_n (pc := 35) (k := 2) (x := s0) dX3_fail_35 rfl ?_
  refine RT.imul (pc := 36) dX3_fail_36 ?_
  refine RT.iadd (pc := 37) dX3_fail_37 ?_
  obtain ⟨m38, hm38, h⟩ := Option.bind_eq_some_iff.mp h
  refine RT.pf_i 3 2 (pc := 38) (mem1 := m38) hz dX3_fail_38 fl_X3_37 rfl rfl rfl hm38 ?_
  refine RT.iconst (pc := 41) (n := 0) dX3_fail_41 ⟨by decide, by decide⟩ ?_
  obtain rfl := Option.some.inj h
  exact RT.zret (pc := 42) dX3_fail_42 rfl (by decide) (Nat.le_of_eq (rt_cells_0 z)) (Nat.le_of_eq (rt_slots_0 z)) hK
theorem c_X3_fail {G : rt_G} {d : Nat} {z : Nat × Nat} (hz : 300 ≤ z.1) (hd : 0 ≤ d) (a0 : Int) (a1 : Int) (mem0 : rt_M) (t : Int × rt_M) (ht : rt_kd a0.toNat = 20 + 3) (h : f_X3_fail a0 a1 mem0 = some t) : RM G M_X3_fail d [(2, a0), (0, a1)] z mem0 (some (0, t.1)) t.2 := by
  suffices H : ∀ Q : rt_P, Q (some (0, t.1)) z t.2 → RT G M_X3_fail d z Q 0 [(2, a0), (0, a1), (9, 0)] [] z mem0 from H _ ⟨rfl, rfl, rfl⟩
  intro Q hK
  unfold f_X3_fail at h
  refine RT.aload_n (pc := 0) (k := 0) (x := a0) dX3_fail_0 rfl ?_
  obtain ⟨v1, hv1, h⟩ := Option.bind_eq_some_iff.mp h
  refine RT.gf 3 1 0 (pc := 1) (x := a0) (v := v1) hz dX3_fail_1 fl_X3_55 rfl hv1 ?_
  refine RT.aload_n (pc := 4) (k := 0) (x := a0) dX3_fail_4 rfl ?_
  obtain ⟨v5, hv5, h⟩ := Option.bind_eq_some_iff.mp h
  refine RT.gf 3 0 2 (pc := 5) (x := a0) (v := v5) hz dX3_fail_5 fl_X3_9 rfl hv5 ?_
  obtain ⟨v8, hv8, h⟩ := Option.bind_eq_some_iff.mp h
  refine RT.gf 8 5 0 (pc := 8) (x := v5) (v := v8) hz dX3_fail_8 fl_X3_58 rfl hv8 ?_
  refine RT.icmp_ge (pc := 11) (tgt := 29) dX3_fail_11 rfl (fun q11 => ?_) (fun q11 => ?_)
  · rw [if_pos q11] at h
    refine RT.iconst (pc := 29) (n := 0) dX3_fail_29 ⟨by decide, by decide⟩ ?_
    exact cj_X3_fail_30 hz hd ht a1 0 mem0 _ h hK
  · rw [if_neg q11] at h
    refine RT.aload_n (pc := 14) (k := 0) (x := a0) dX3_fail_14 rfl ?_
    obtain ⟨v15, hv15, h⟩ := Option.bind_eq_some_iff.mp h
    refine RT.gf 3 0 2 (pc := 15) (x := a0) (v := v15) hz dX3_fail_15 fl_X3_9 rfl hv15 ?_
    obtain ⟨v18, hv18, h⟩ := Option.bind_eq_some_iff.mp h
    refine RT.gf 8 3 2 (pc := 18) (x := v15) (v := v18) hz dX3_fail_18 fl_X3_69 rfl hv18 ?_
    refine RT.aload_n (pc := 21) (k := 0) (x := a0) dX3_fail_21 rfl ?_
    obtain ⟨v22, hv22, h⟩ := Option.bind_eq_some_iff.mp h
    refine RT.gf 3 1 0 (pc := 22) (x := a0) (v := v22) hz dX3_fail_22 fl_X3_55 rfl hv22 ?_
    obtain ⟨v25, hv25, h⟩ := Option.bind_eq_some_iff.mp h
    refine RT.iald (pc := 25) (x := v18) (i := v22) (v := v25) dX3_fail_25 (rt_lta hz (by decide) (by decide) hv25) hv25 ?_
    refine RT.goto (pc := 26) (tgt := 30) dX3_fail_26 rfl ?_
    exact cj_X3_fail_30 hz hd ht a1 v25 mem0 _ h hK
theorem cj_X3_value_30 {G : rt_G} {d : Nat} {z : Nat × Nat} {Q : rt_P} (hz : 300 ≤ z.1) (hd : 0 ≤ d) {a0 : Int} (ht : rt_kd a0.toNat = 20 + 3) (s0 : Int) (mem0 : rt_M) (t : Int) (h : j_X3_value_30 s0 mem0 = some t) (hK : Q (some (1, t)) z mem0) : RT G M_X3_value d z Q 30 [(9, 0)] [(1, s0)] z mem0 := by
  unfold j_X3_value_30 at h
  obtain rfl := Option.some.inj h
  exact RT.lret (pc := 30) dX3_value_30 rfl (Nat.le_of_eq (rt_cells_0 z)) (Nat.le_of_eq (rt_slots_0 z)) hK
theorem c_X3_value {G : rt_G} {d : Nat} {z : Nat × Nat} (hz : 300 ≤ z.1) (hd : 0 ≤ d) (a0 : Int) (mem0 : rt_M) (t : Int) (ht : rt_kd a0.toNat = 20 + 3) (h : f_X3_value a0 mem0 = some t) : RM G M_X3_value d [(2, a0)] z mem0 (some (1, t)) mem0 := by
  suffices H : ∀ Q : rt_P, Q (some (1, t)) z mem0 → RT G M_X3_value d z Q 0 [(2, a0)] [] z mem0 from H _ ⟨rfl, rfl, rfl⟩
  intro Q hK
  unfold f_X3_value at h
  refine RT.aload_n (pc := 0) (k := 0) (x := a0) dX3_value_0 rfl ?_
  obtain ⟨v1, hv1, h⟩ := Option.bind_eq_some_iff.mp h
  refine RT.gf 3 1 0 (pc := 1) (x := a0) (v := v1) hz dX3_value_1 fl_X3_55 rfl hv1 ?_
  refine RT.aload_n (pc := 4) (k := 0) (x := a0) dX3_value_4 rfl ?_
  obtain ⟨v5, hv5, h⟩ := Option.bind_eq_some_iff.mp h
  refine RT.gf 3 0 2 (pc := 5) (x := a0) (v := v5) hz dX3_value_5 fl_X3_9 rfl hv5 ?_
  obtain ⟨v8, hv8, h⟩ := Option.bind_eq_some_iff.mp h
  refine RT.gf 8 5 0 (pc := 8) (x := v5) (v := v8) hz dX3_value_8 fl_X3_58 rfl hv8 ?_
  refine RT.icmp_ge (pc := 11) (tgt := 29) dX3_value_11 rfl (fun q11 => ?_) (fun q11 => ?_)
  · rw [if_pos q11] at h
    refine RT.lconst (pc := 29) (v := 0) dX3_value_29 rfl ?_
    refine RT.wk (L1 := [(9, 0)]) (rt_le_j rt_le_n) ?_
    exact cj_X3_value_30 hz hd ht 0 mem0 _ h hK
  · rw [if_neg q11] at h
    refine RT.aload_n (pc := 14) (k := 0) (x := a0) dX3_value_14 rfl ?_
    obtain ⟨v15, hv15, h⟩ := Option.bind_eq_some_iff.mp h
    refine RT.gf 3 0 2 (pc := 15) (x := a0) (v := v15) hz dX3_value_15 fl_X3_9 rfl hv15 ?_
    obtain ⟨v18, hv18, h⟩ := Option.bind_eq_some_iff.mp h
    refine RT.gf 8 4 2 (pc := 18) (x := v15) (v := v18) hz dX3_value_18 fl_X3_65 rfl hv18 ?_
    refine RT.aload_n (pc := 21) (k := 0) (x := a0) dX3_value_21 rfl ?_
    obtain ⟨v22, hv22, h⟩ := Option.bind_eq_some_iff.mp h
    refine RT.gf 3 1 0 (pc := 22) (x := a0) (v := v22) hz dX3_value_22 fl_X3_55 rfl hv22 ?_
    obtain ⟨v25, hv25, h⟩ := Option.bind_eq_some_iff.mp h
    refine RT.lald (pc := 25) (x := v18) (i := v22) (v := v25) dX3_value_25 (rt_lta hz (by decide) (by decide) hv25) hv25 ?_
    refine RT.goto (pc := 26) (tgt := 30) dX3_value_26 rfl ?_
    refine RT.wk (L1 := [(9, 0)]) (rt_le_j rt_le_n) ?_
    exact cj_X3_value_30 hz hd ht v25 mem0 _ h hK
theorem cb_X4_placeOf_3 {G : rt_G} {d : Nat} {z : Nat × Nat} {Q : rt_P} (hz : 300 ≤ z.1) (hd : 0 ≤ d) (a0 : Int) (a2 : Int) (a3 : Int) (mem0 : rt_M) (s : Int) (t : (Int) ⊕ ((Unit) ⊕ (Int))) (h : b_X4_placeOf_3 a0 a2 a3 mem0 s = some t) (hK : (∀ s1 : Int, t = .inl s1 → RT G M_X4_placeOf d z Q 3 [(1, a0), (9, 0), (2, a2), (0, a3), (0, s1)] [] z mem0) ∧ (∀ x1 : Unit, t = .inr (.inl x1) → RT G M_X4_placeOf d z Q 34 [(9, 0), (9, 0), (9, 0), (9, 0), (9, 0)] [] z mem0) ∧ (∀ t1 : Int, t = .inr (.inr t1) → Q (some (0, t1)) z mem0)) : RT G M_X4_placeOf d z Q 3 [(1, a0), (9, 0), (2, a2), (0, a3), (0, s)] [] z mem0 := by
  unfold b_X4_placeOf_3 at h
  refine RT.iload (pc := 3) (k := 4) (x := s) dX4_placeOf_3 rfl ?_
  refine RT.iload_n (pc := 5) (k := 3) (x := a3) dX4_placeOf_5 rfl ?_
  refine RT.icmp_ge (pc := 6) (tgt := 34) dX4_placeOf_6 rfl (fun q6 => ?_) (fun q6 => ?_)
  · rw [if_pos q6] at h
    refine RT.wk (L1 := [(9, 0), (9, 0), (9, 0), (9, 0), (9, 0)]) (rt_le_j (rt_le_s (rt_le_j (rt_le_j (rt_le_j rt_le_n))))) ?_
    obtain rfl := Option.some.inj h
    have q1 := hK.2.1 () rfl
    try dsimp only at q1
    exact q1
  · rw [if_neg q6] at h
    refine RT.iload (pc := 9) (k := 4) (x := s) dX4_placeOf_9 rfl ?_
    refine RT.aload_n (pc := 11) (k := 2) (x := a2) dX4_placeOf_11 rfl ?_
    obtain ⟨v12, hv12, h⟩ := Option.bind_eq_some_iff.mp h
    refine RT.alen 2 (pc := 12) (x := a2) (v := v12) dX4_placeOf_12 ⟨by decide, by decide⟩ (rt_ltl hz (by decide) (by decide) hv12) hv12 ?_
    refine RT.icmp_ge (pc := 13) (tgt := 34) dX4_placeOf_13 rfl (fun q13 => ?_) (fun q13 => ?_)
    · rw [if_pos q13] at h
      refine RT.wk (L1 := [(9, 0), (9, 0), (9, 0), (9, 0), (9, 0)]) (rt_le_j (rt_le_s (rt_le_j (rt_le_j (rt_le_j rt_le_n))))) ?_
      obtain rfl := Option.some.inj h
      have q1 := hK.2.1 () rfl
      try dsimp only at q1
      exact q1
    · rw [if_neg q13] at h
      refine RT.aload_n (pc := 16) (k := 2) (x := a2) dX4_placeOf_16 rfl ?_
      refine RT.iload (pc := 17) (k := 4) (x := s) dX4_placeOf_17 rfl ?_
      obtain ⟨v19, hv19, h⟩ := Option.bind_eq_some_iff.mp h
      refine RT.lald (pc := 19) (x := a2) (i := s) (v := v19) dX4_placeOf_19 (rt_lta hz (by decide) (by decide) hv19) hv19 ?_
      refine RT.lload_n (pc := 20) (k := 0) (x := a0) dX4_placeOf_20 rfl ?_
      refine RT.lcmp (pc := 21) dX4_placeOf_21 ?_
      refine RT.if_ne (pc := 22) (tgt := 28) dX4_placeOf_22 rfl (fun q22 => ?_) (fun q22 => ?_)
      · rw [if_neg q22] at h
        refine RT.iinc (pc := 28) (x := s) (L1 := [(1, a0), (9, 0), (2, a2), (0, a3), (0, (rt_iadd s 1))]) dX4_placeOf_28 rfl (Nat.le_of_ble_eq_true rfl) ⟨by decide, by decide⟩ rfl ?_
        refine RT.goto (pc := 31) (tgt := 3) dX4_placeOf_31 rfl ?_
        obtain rfl := Option.some.inj h
        have q1 := hK.1 ((rt_iadd s 1)) rfl
        try dsimp only at q1
        exact q1
      · rw [if_pos (Classical.not_not.mp q22)] at h
        obtain ⟨t2, g2, e2⟩ := Option.map_eq_some_iff.mp h
        subst e2
        replace h := g2
        replace hK := hK.2.2 t2 rfl
        refine RT.iload (pc := 25) (k := 4) (x := s) dX4_placeOf_25 rfl ?_
        obtain rfl := Option.some.inj h
        exact RT.iret (pc := 27) dX4_placeOf_27 rfl (Nat.le_of_eq (rt_cells_0 z)) (Nat.le_of_eq (rt_slots_0 z)) hK
theorem c_X4_placeOf {G : rt_G} {d : Nat} {z : Nat × Nat} (hz : 300 ≤ z.1) (hd : 0 ≤ d) (a0 : Int) (a2 : Int) (a3 : Int) (mem0 : rt_M) (t : Int) (h : f_X4_placeOf a0 a2 a3 mem0 = some t) : RM G M_X4_placeOf d [(1, a0), (2, a2), (0, a3)] z mem0 (some (0, t)) mem0 := by
  suffices H : ∀ Q : rt_P, Q (some (0, t)) z mem0 → RT G M_X4_placeOf d z Q 0 [(1, a0), (9, 0), (2, a2), (0, a3), (9, 0)] [] z mem0 from H _ ⟨rfl, rfl, rfl⟩
  intro Q hK
  unfold f_X4_placeOf at h
  refine RT.iconst (pc := 0) (n := 0) dX4_placeOf_0 ⟨by decide, by decide⟩ ?_
  refine RT.istore (pc := 1) (k := 4) (x := 0) (L1 := [(1, a0), (9, 0), (2, a2), (0, a3), (0, 0)]) dX4_placeOf_1 (Nat.le_of_ble_eq_true rfl) rfl ?_
  obtain ⟨E3, hE3, h⟩ := Option.bind_eq_some_iff.mp h
  refine rt_it_ind (P := (fun s1 : Int => RT G M_X4_placeOf d z Q 3 [(1, a0), (9, 0), (2, a2), (0, a3), (0, s1)] [] z mem0)) (X := (fun e1 : (Unit) ⊕ (Int) => (∀ x1 : Unit, e1 = .inl x1 → RT G M_X4_placeOf d z Q 34 [(9, 0), (9, 0), (9, 0), (9, 0), (9, 0)] [] z mem0) ∧ (∀ t1 : Int, e1 = .inr t1 → Q (some (0, t1)) z mem0))) (fun s1 t1 h1 k1 k2 => cb_X4_placeOf_3 hz hd a0 a2 a3 mem0 s1 t1 h1 ⟨k1, fun x1 q => (k2 _ q).1 x1 rfl, fun t2 q => (k2 _ q).2 t2 rfl⟩) 4000 0 E3 hE3 ?_
  cases E3 with
  | inr t1 =>
    obtain rfl := Option.some.inj h
    exact ⟨fun x1 q => (by cases q), fun t2 q => (by cases q; exact hK)⟩
  | inl X3 =>
    refine ⟨fun x1 q => ?_, fun t2 q => (by cases q)⟩
    cases q
    refine RT.iconst (pc := 34) (n := (-1)) dX4_placeOf_34 ⟨by decide, by decide⟩ ?_
    obtain rfl := Option.some.inj h
    exact RT.iret (pc := 35) dX4_placeOf_35 rfl (Nat.le_of_eq (rt_cells_0 z)) (Nat.le_of_eq (rt_slots_0 z)) hK
theorem c_X4_wigNamed {G : rt_G} {d : Nat} {z : Nat × Nat} (hz : 300 ≤ z.1) (hd : 1 ≤ d) (a0 : Int) (a1 : Int) (mem0 : rt_M) (t : Int) (ht : rt_kd a0.toNat = 20 + 4) (h : f_X4_wigNamed a0 a1 mem0 = some t) : RM G M_X4_wigNamed d [(2, a0), (1, a1)] z mem0 (some (0, t)) mem0 := by
  suffices H : ∀ Q : rt_P, Q (some (0, t)) z mem0 → RT G M_X4_wigNamed d z Q 0 [(2, a0), (1, a1), (9, 0)] [] z mem0 from H _ ⟨rfl, rfl, rfl⟩
  intro Q hK
  unfold f_X4_wigNamed at h
  refine RT.lload_n (pc := 0) (k := 1) (x := a1) dX4_wigNamed_0 rfl ?_
  refine RT.aload_n (pc := 1) (k := 0) (x := a0) dX4_wigNamed_1 rfl ?_
  obtain ⟨v2, hv2, h⟩ := Option.bind_eq_some_iff.mp h
  refine RT.gf 4 2 2 (pc := 2) (x := a0) (v := v2) hz dX4_wigNamed_2 fl_X4_9 rfl hv2 ?_
  refine RT.aload_n (pc := 5) (k := 0) (x := a0) dX4_wigNamed_5 rfl ?_
  obtain ⟨v6, hv6, h⟩ := Option.bind_eq_some_iff.mp h
  refine RT.gf 4 0 0 (pc := 6) (x := a0) (v := v6) hz dX4_wigNamed_6 fl_X4_67 rfl hv6 ?_
  obtain ⟨p9, hp9, h⟩ := Option.bind_eq_some_iff.mp h
  refine RT.cSz (pc := 9) (M' := M_X4_placeOf) (As := [(1, a1), (2, v2), (0, v6)]) (st := []) (r := some (0, p9)) (mem1 := mem0) (d' := d - 1) dX4_wigNamed_9 mw_X4_placeOf ml_X4_83 mi_X4_placeOf rfl rfl (Nat.le_of_ble_eq_true rfl) (Nat.le_of_ble_eq_true rfl) (by omega) rfl rfl (c_X4_placeOf hz (by omega) a1 v2 v6 mem0 _ hp9) ?_
  obtain rfl := Option.some.inj h
  exact RT.iret (pc := 12) dX4_wigNamed_12 rfl (Nat.le_of_eq (rt_cells_0 z)) (Nat.le_of_eq (rt_slots_0 z)) hK
theorem c_X4_headNamed {G : rt_G} {d : Nat} {z : Nat × Nat} (hz : 300 ≤ z.1) (hd : 1 ≤ d) (a0 : Int) (a1 : Int) (mem0 : rt_M) (t : Int) (ht : rt_kd a0.toNat = 20 + 4) (h : f_X4_headNamed a0 a1 mem0 = some t) : RM G M_X4_headNamed d [(2, a0), (1, a1)] z mem0 (some (0, t)) mem0 := by
  suffices H : ∀ Q : rt_P, Q (some (0, t)) z mem0 → RT G M_X4_headNamed d z Q 0 [(2, a0), (1, a1), (9, 0)] [] z mem0 from H _ ⟨rfl, rfl, rfl⟩
  intro Q hK
  unfold f_X4_headNamed at h
  refine RT.lload_n (pc := 0) (k := 1) (x := a1) dX4_headNamed_0 rfl ?_
  refine RT.aload_n (pc := 1) (k := 0) (x := a0) dX4_headNamed_1 rfl ?_
  obtain ⟨v2, hv2, h⟩ := Option.bind_eq_some_iff.mp h
  refine RT.gf 4 3 2 (pc := 2) (x := a0) (v := v2) hz dX4_headNamed_2 fl_X4_15 rfl hv2 ?_
  refine RT.aload_n (pc := 5) (k := 0) (x := a0) dX4_headNamed_5 rfl ?_
  obtain ⟨v6, hv6, h⟩ := Option.bind_eq_some_iff.mp h
  refine RT.gf 4 1 0 (pc := 6) (x := a0) (v := v6) hz dX4_headNamed_6 fl_X4_70 rfl hv6 ?_
  obtain ⟨p9, hp9, h⟩ := Option.bind_eq_some_iff.mp h
  refine RT.cSz (pc := 9) (M' := M_X4_placeOf) (As := [(1, a1), (2, v2), (0, v6)]) (st := []) (r := some (0, p9)) (mem1 := mem0) (d' := d - 1) dX4_headNamed_9 mw_X4_placeOf ml_X4_83 mi_X4_placeOf rfl rfl (Nat.le_of_ble_eq_true rfl) (Nat.le_of_ble_eq_true rfl) (by omega) rfl rfl (c_X4_placeOf hz (by omega) a1 v2 v6 mem0 _ hp9) ?_
  obtain rfl := Option.some.inj h
  exact RT.iret (pc := 12) dX4_headNamed_12 rfl (Nat.le_of_eq (rt_cells_0 z)) (Nat.le_of_eq (rt_slots_0 z)) hK
theorem cj_X3_newName_40 {G : rt_G} {d : Nat} {z : Nat × Nat} {Q : rt_P} (hz : 300 ≤ z.1) (hd : 2 ≤ d) {a0 : Int} (ht : rt_kd a0.toNat = 20 + 3) (mem0 : rt_M) (t : Int × rt_M) (h : j_X3_newName_40 a0 mem0 = some t) (hK : Q (some (0, t.1)) z t.2) : RT G M_X3_newName d z Q 40 [(2, a0), (9, 0)] [] z mem0 := by
  unfold j_X3_newName_40 at h
  refine RT.aload_n (pc := 40) (k := 0) (x := a0) dX3_newName_40 rfl ?_
  refine RT.iconst (pc := 41) (n := 3) dX3_newName_41 ⟨by decide, by decide⟩ ?_
  obtain ⟨p42, hp42, h⟩ := Option.bind_eq_some_iff.mp h
  refine RT.cVz (pc := 42) (M' := M_X3_fail) (ci := 3) (x := a0) (As := [(0, 3)]) (st := []) (r := some (0, p42.1)) (mem1 := p42.2) (d' := d - 1) hz dX3_newName_42 mw_X3_fail ml_X3_73 mi_X3_fail ht rfl rfl (Nat.le_of_ble_eq_true rfl) (Nat.le_of_ble_eq_true rfl) (by omega) rfl rfl (c_X3_fail hz (by omega) a0 3 mem0 _ ht hp42) ?_
  obtain ⟨w45, hw45, h⟩ := Option.bind_eq_some_iff.mp h
  obtain rfl := Option.some.inj h
  exact RT.zret (pc := 45) dX3_newName_45 rfl (rt_bz_ok hw45) (Nat.le_of_eq (rt_cells_0 z)) (Nat.le_of_eq (rt_slots_0 z)) hK
theorem c_X3_newName {G : rt_G} {d : Nat} {z : Nat × Nat} (hz : 300 ≤ z.1) (hd : 2 ≤ d) (a0 : Int) (a1 : Int) (mem0 : rt_M) (t : Int × rt_M) (ht : rt_kd a0.toNat = 20 + 3) (h : f_X3_newName a0 a1 mem0 = some t) : RM G M_X3_newName d [(2, a0), (2, a1)] z mem0 (some (0, t.1)) t.2 := by
  suffices H : ∀ Q : rt_P, Q (some (0, t.1)) z t.2 → RT G M_X3_newName d z Q 0 [(2, a0), (2, a1)] [] z mem0 from H _ ⟨rfl, rfl, rfl⟩
  intro Q hK
  unfold f_X3_newName at h
  refine RT.aload_n (pc := 0) (k := 0) (x := a0) dX3_newName_0 rfl ?_
  obtain ⟨p1, hp1, h⟩ := Option.bind_eq_some_iff.mp h
  refine RT.cVz (pc := 1) (M' := M_X3_kind) (ci := 3) (x := a0) (As := []) (st := []) (r := some (2, p1)) (mem1 := mem0) (d' := d - 1) hz dX3_newName_1 mw_X3_kind ml_X3_23 mi_X3_kind ht rfl rfl (Nat.le_of_ble_eq_true rfl) (Nat.le_of_ble_eq_true rfl) (by omega) rfl rfl (c_X3_kind hz (by omega) a0 mem0 _ ht hp1) ?_
  obtain ⟨v4, hv4, h⟩ := Option.bind_eq_some_iff.mp h
  refine RT.wcn (pc := 4) (x := p1) (v := v4) dX3_newName_4 wc_X3_171 hv4 ?_
  refine RT.if_ne (pc := 7) (tgt := 16) dX3_newName_7 rfl (fun q7 => ?_) (fun q7 => ?_)
  · rw [if_neg q7] at h
    refine RT.aload_n (pc := 16) (k := 1) (x := a1) dX3_newName_16 rfl ?_
    refine RT.aload_n (pc := 17) (k := 0) (x := a0) dX3_newName_17 rfl ?_
    obtain ⟨p18, hp18, h⟩ := Option.bind_eq_some_iff.mp h
    refine RT.cVz (pc := 18) (M' := M_X3_value) (ci := 3) (x := a0) (As := []) (st := [(2, a1)]) (r := some (1, p18)) (mem1 := mem0) (d' := d - 1) hz dX3_newName_18 mw_X3_value ml_X3_121 mi_X3_value ht rfl rfl (Nat.le_of_ble_eq_true rfl) (Nat.le_of_ble_eq_true rfl) (by omega) rfl rfl (c_X3_value hz (by omega) a0 mem0 _ ht hp18) ?_
    obtain ⟨p21, hp21, h⟩ := Option.bind_eq_some_iff.mp h
    obtain ⟨hk21, hp21⟩ := rt_gd_some hp21
    refine RT.cVz (pc := 21) (M' := M_X4_wigNamed) (ci := 4) (x := a1) (As := [(1, p18)]) (st := []) (r := some (0, p21)) (mem1 := mem0) (d' := d - 1) hz dX3_newName_21 mw_X4_wigNamed ml_X3_175 mi_X4_wigNamed hk21 rfl rfl (Nat.le_of_ble_eq_true rfl) (Nat.le_of_ble_eq_true rfl) (by omega) rfl rfl (c_X4_wigNamed hz (by omega) a1 p18 mem0 _ hk21 hp21) ?_
    refine RT.iconst (pc := 24) (n := (-1)) dX3_newName_24 ⟨by decide, by decide⟩ ?_
    refine RT.icmp_ne (pc := 25) (tgt := 40) dX3_newName_25 rfl (fun q25 => ?_) (fun q25 => ?_)
    · rw [if_neg q25] at h
      refine RT.wk (L1 := [(2, a0), (9, 0)]) (rt_le_s (rt_le_j rt_le_n)) ?_
      exact cj_X3_newName_40 hz hd ht mem0 _ h hK
    · rw [if_pos (Classical.not_not.mp q25)] at h
      refine RT.aload_n (pc := 28) (k := 1) (x := a1) dX3_newName_28 rfl ?_
      refine RT.aload_n (pc := 29) (k := 0) (x := a0) dX3_newName_29 rfl ?_
      obtain ⟨p30, hp30, h⟩ := Option.bind_eq_some_iff.mp h
      refine RT.cVz (pc := 30) (M' := M_X3_value) (ci := 3) (x := a0) (As := []) (st := [(2, a1)]) (r := some (1, p30)) (mem1 := mem0) (d' := d - 1) hz dX3_newName_30 mw_X3_value ml_X3_121 mi_X3_value ht rfl rfl (Nat.le_of_ble_eq_true rfl) (Nat.le_of_ble_eq_true rfl) (by omega) rfl rfl (c_X3_value hz (by omega) a0 mem0 _ ht hp30) ?_
      obtain ⟨p33, hp33, h⟩ := Option.bind_eq_some_iff.mp h
      obtain ⟨hk33, hp33⟩ := rt_gd_some hp33
      refine RT.cVz (pc := 33) (M' := M_X4_headNamed) (ci := 4) (x := a1) (As := [(1, p30)]) (st := []) (r := some (0, p33)) (mem1 := mem0) (d' := d - 1) hz dX3_newName_33 mw_X4_headNamed ml_X3_179 mi_X4_headNamed hk33 rfl rfl (Nat.le_of_ble_eq_true rfl) (Nat.le_of_ble_eq_true rfl) (by omega) rfl rfl (c_X4_headNamed hz (by omega) a1 p30 mem0 _ hk33 hp33) ?_
      refine RT.iconst (pc := 36) (n := (-1)) dX3_newName_36 ⟨by decide, by decide⟩ ?_
      refine RT.icmp_eq (pc := 37) (tgt := 46) dX3_newName_37 rfl (fun q37 => ?_) (fun q37 => ?_)
      · rw [if_pos q37] at h
        refine RT.aload_n (pc := 46) (k := 0) (x := a0) dX3_newName_46 rfl ?_
        refine RT.dup (pc := 47) dX3_newName_47 (show ¬ ((2 : Nat) = 1) by decide) ?_
        obtain ⟨v48, hv48, h⟩ := Option.bind_eq_some_iff.mp h
        refine RT.gf 3 1 0 (pc := 48) (x := a0) (v := v48) hz dX3_newName_48 fl_X3_55 rfl hv48 ?_
        refine RT.iconst (pc := 51) (n := 1) dX3_newName_51 ⟨by decide, by decide⟩ ?_
        refine RT.iadd (pc := 52) dX3_newName_52 ?_
        obtain ⟨m53, hm53, h⟩ := Option.bind_eq_some_iff.mp h
        refine RT.pf_i 3 1 (pc := 53) (mem1 := m53) hz dX3_newName_53 fl_X3_55 rfl rfl rfl hm53 ?_
        refine RT.iconst (pc := 56) (n := 1) dX3_newName_56 ⟨by decide, by decide⟩ ?_
        obtain rfl := Option.some.inj h
        exact RT.zret (pc := 57) dX3_newName_57 rfl (by decide) (Nat.le_of_eq (rt_cells_0 z)) (Nat.le_of_eq (rt_slots_0 z)) hK
      · rw [if_neg q37] at h
        refine RT.wk (L1 := [(2, a0), (9, 0)]) (rt_le_s (rt_le_j rt_le_n)) ?_
        exact cj_X3_newName_40 hz hd ht mem0 _ h hK
  · rw [if_pos (Classical.not_not.mp q7)] at h
    refine RT.aload_n (pc := 10) (k := 0) (x := a0) dX3_newName_10 rfl ?_
    refine RT.iconst (pc := 11) (n := 1) dX3_newName_11 ⟨by decide, by decide⟩ ?_
    obtain ⟨p12, hp12, h⟩ := Option.bind_eq_some_iff.mp h
    refine RT.cVz (pc := 12) (M' := M_X3_fail) (ci := 3) (x := a0) (As := [(0, 1)]) (st := []) (r := some (0, p12.1)) (mem1 := p12.2) (d' := d - 1) hz dX3_newName_12 mw_X3_fail ml_X3_73 mi_X3_fail ht rfl rfl (Nat.le_of_ble_eq_true rfl) (Nat.le_of_ble_eq_true rfl) (by omega) rfl rfl (c_X3_fail hz (by omega) a0 1 mem0 _ ht hp12) ?_
    obtain ⟨w15, hw15, h⟩ := Option.bind_eq_some_iff.mp h
    obtain rfl := Option.some.inj h
    exact RT.zret (pc := 15) dX3_newName_15 rfl (rt_bz_ok hw15) (Nat.le_of_eq (rt_cells_0 z)) (Nat.le_of_eq (rt_slots_0 z)) hK
theorem c_X3_take {G : rt_G} {d : Nat} {z : Nat × Nat} (hz : 300 ≤ z.1) (hd : 1 ≤ d) (a0 : Int) (a1 : Int) (mem0 : rt_M) (t : Int × rt_M) (ht : rt_kd a0.toNat = 20 + 3) (h : f_X3_take a0 a1 mem0 = some t) : RM G M_X3_take d [(2, a0), (2, a1)] z mem0 (some (0, t.1)) t.2 := by
  suffices H : ∀ Q : rt_P, Q (some (0, t.1)) z t.2 → RT G M_X3_take d z Q 0 [(2, a0), (2, a1)] [] z mem0 from H _ ⟨rfl, rfl, rfl⟩
  intro Q hK
  unfold f_X3_take at h
  refine RT.aload_n (pc := 0) (k := 0) (x := a0) dX3_take_0 rfl ?_
  obtain ⟨p1, hp1, h⟩ := Option.bind_eq_some_iff.mp h
  refine RT.cVz (pc := 1) (M' := M_X3_kind) (ci := 3) (x := a0) (As := []) (st := []) (r := some (2, p1)) (mem1 := mem0) (d' := d - 1) hz dX3_take_1 mw_X3_kind ml_X3_23 mi_X3_kind ht rfl rfl (Nat.le_of_ble_eq_true rfl) (Nat.le_of_ble_eq_true rfl) (by omega) rfl rfl (c_X3_kind hz (by omega) a0 mem0 _ ht hp1) ?_
  refine RT.aload_n (pc := 4) (k := 1) (x := a1) dX3_take_4 rfl ?_
  refine RT.acmp_eq (pc := 5) (tgt := 14) dX3_take_5 rfl (fun q5 => ?_) (fun q5 => ?_)
  · rw [if_pos q5] at h
    refine RT.aload_n (pc := 14) (k := 0) (x := a0) dX3_take_14 rfl ?_
    refine RT.dup (pc := 15) dX3_take_15 (show ¬ ((2 : Nat) = 1) by decide) ?_
    obtain ⟨v16, hv16, h⟩ := Option.bind_eq_some_iff.mp h
    refine RT.gf 3 1 0 (pc := 16) (x := a0) (v := v16) hz dX3_take_16 fl_X3_55 rfl hv16 ?_
    refine RT.iconst (pc := 19) (n := 1) dX3_take_19 ⟨by decide, by decide⟩ ?_
    refine RT.iadd (pc := 20) dX3_take_20 ?_
    obtain ⟨m21, hm21, h⟩ := Option.bind_eq_some_iff.mp h
    refine RT.pf_i 3 1 (pc := 21) (mem1 := m21) hz dX3_take_21 fl_X3_55 rfl rfl rfl hm21 ?_
    refine RT.iconst (pc := 24) (n := 1) dX3_take_24 ⟨by decide, by decide⟩ ?_
    obtain rfl := Option.some.inj h
    exact RT.zret (pc := 25) dX3_take_25 rfl (by decide) (Nat.le_of_eq (rt_cells_0 z)) (Nat.le_of_eq (rt_slots_0 z)) hK
  · rw [if_neg q5] at h
    refine RT.aload_n (pc := 8) (k := 0) (x := a0) dX3_take_8 rfl ?_
    refine RT.iconst (pc := 9) (n := 1) dX3_take_9 ⟨by decide, by decide⟩ ?_
    obtain ⟨p10, hp10, h⟩ := Option.bind_eq_some_iff.mp h
    refine RT.cVz (pc := 10) (M' := M_X3_fail) (ci := 3) (x := a0) (As := [(0, 1)]) (st := []) (r := some (0, p10.1)) (mem1 := p10.2) (d' := d - 1) hz dX3_take_10 mw_X3_fail ml_X3_73 mi_X3_fail ht rfl rfl (Nat.le_of_ble_eq_true rfl) (Nat.le_of_ble_eq_true rfl) (by omega) rfl rfl (c_X3_fail hz (by omega) a0 1 mem0 _ ht hp10) ?_
    obtain ⟨w13, hw13, h⟩ := Option.bind_eq_some_iff.mp h
    obtain rfl := Option.some.inj h
    exact RT.zret (pc := 13) dX3_take_13 rfl (rt_bz_ok hw13) (Nat.le_of_eq (rt_cells_0 z)) (Nat.le_of_eq (rt_slots_0 z)) hK
theorem cj_X3_isNumber_49 {G : rt_G} {d : Nat} {z : Nat × Nat} {Q : rt_P} (hz : 300 ≤ z.1) (hd : 1 ≤ d) {a0 : Int} (ht : rt_kd a0.toNat = 20 + 3) (s0 : Int) (mem0 : rt_M) (t : Int × rt_M) (h : j_X3_isNumber_49 s0 mem0 = some t) (hK : Q (some (0, t.1)) z t.2) : RT G M_X3_isNumber d z Q 49 [(9, 0), (9, 0), (9, 0)] [(0, s0)] z mem0 := by
  unfold j_X3_isNumber_49 at h
  obtain ⟨w49, hw49, h⟩ := Option.bind_eq_some_iff.mp h
  obtain rfl := Option.some.inj h
  exact RT.zret (pc := 49) dX3_isNumber_49 rfl (rt_bz_ok hw49) (Nat.le_of_eq (rt_cells_0 z)) (Nat.le_of_eq (rt_slots_0 z)) hK
theorem cj_X3_isNumber_44 {G : rt_G} {d : Nat} {z : Nat × Nat} {Q : rt_P} (hz : 300 ≤ z.1) (hd : 1 ≤ d) {a0 : Int} (ht : rt_kd a0.toNat = 20 + 3) (mem0 : rt_M) (t : Int × rt_M) (h : j_X3_isNumber_44 mem0 = some t) (hK : Q (some (0, t.1)) z t.2) : RT G M_X3_isNumber d z Q 44 [(9, 0), (9, 0), (9, 0)] [] z mem0 := by
  unfold j_X3_isNumber_44 at h
  refine RT.iconst (pc := 44) (n := 1) dX3_isNumber_44 ⟨by decide, by decide⟩ ?_
  refine RT.goto (pc := 45) (tgt := 49) dX3_isNumber_45 rfl ?_
  exact cj_X3_isNumber_49 hz hd ht 1 mem0 _ h hK
theorem cj_X3_isNumber_36 {G : rt_G} {d : Nat} {z : Nat × Nat} {Q : rt_P} (hz : 300 ≤ z.1) (hd : 1 ≤ d) {a0 : Int} (ht : rt_kd a0.toNat = 20 + 3) (mem0 : rt_M) (t : Int × rt_M) (h : j_X3_isNumber_36 a0 mem0 = some t) (hK : Q (some (0, t.1)) z t.2) : RT G M_X3_isNumber d z Q 36 [(2, a0), (9, 0), (9, 0)] [] z mem0 := by
  unfold j_X3_isNumber_36 at h
  refine RT.aload_n (pc := 36) (k := 0) (x := a0) dX3_isNumber_36 rfl ?_
  refine RT.iconst (pc := 37) (n := 4) dX3_isNumber_37 ⟨by decide, by decide⟩ ?_
  obtain ⟨p38, hp38, h⟩ := Option.bind_eq_some_iff.mp h
  refine RT.cVz (pc := 38) (M' := M_X3_fail) (ci := 3) (x := a0) (As := [(0, 4)]) (st := []) (r := some (0, p38.1)) (mem1 := p38.2) (d' := d - 1) hz dX3_isNumber_38 mw_X3_fail ml_X3_73 mi_X3_fail ht rfl rfl (Nat.le_of_ble_eq_true rfl) (Nat.le_of_ble_eq_true rfl) (by omega) rfl rfl (c_X3_fail hz (by omega) a0 4 mem0 _ ht hp38) ?_
  refine RT.if_eq (pc := 41) (tgt := 48) dX3_isNumber_41 rfl (fun q41 => ?_) (fun q41 => ?_)
  · rw [if_pos q41] at h
    refine RT.iconst (pc := 48) (n := 0) dX3_isNumber_48 ⟨by decide, by decide⟩ ?_
    refine RT.wk (L1 := [(9, 0), (9, 0), (9, 0)]) (rt_le_j (rt_le_s (rt_le_s rt_le_n))) ?_
    exact cj_X3_isNumber_49 hz hd ht 0 p38.2 _ h hK
  · rw [if_neg q41] at h
    refine RT.wk (L1 := [(9, 0), (9, 0), (9, 0)]) (rt_le_j (rt_le_s (rt_le_s rt_le_n))) ?_
    exact cj_X3_isNumber_44 hz hd ht p38.2 _ h hK
theorem c_X3_isNumber {G : rt_G} {d : Nat} {z : Nat × Nat} (hz : 300 ≤ z.1) (hd : 1 ≤ d) (a0 : Int) (a1 : Int) (a2 : Int) (mem0 : rt_M) (t : Int × rt_M) (ht : rt_kd a0.toNat = 20 + 3) (h : f_X3_isNumber a0 a1 a2 mem0 = some t) : RM G M_X3_isNumber d [(2, a0), (0, a1), (0, a2)] z mem0 (some (0, t.1)) t.2 := by
  suffices H : ∀ Q : rt_P, Q (some (0, t.1)) z t.2 → RT G M_X3_isNumber d z Q 0 [(2, a0), (0, a1), (0, a2)] [] z mem0 from H _ ⟨rfl, rfl, rfl⟩
  intro Q hK
  unfold f_X3_isNumber at h
  refine RT.aload_n (pc := 0) (k := 0) (x := a0) dX3_isNumber_0 rfl ?_
  obtain ⟨p1, hp1, h⟩ := Option.bind_eq_some_iff.mp h
  refine RT.cVz (pc := 1) (M' := M_X3_kind) (ci := 3) (x := a0) (As := []) (st := []) (r := some (2, p1)) (mem1 := mem0) (d' := d - 1) hz dX3_isNumber_1 mw_X3_kind ml_X3_23 mi_X3_kind ht rfl rfl (Nat.le_of_ble_eq_true rfl) (Nat.le_of_ble_eq_true rfl) (by omega) rfl rfl (c_X3_kind hz (by omega) a0 mem0 _ ht hp1) ?_
  refine RT.gets 36 (pc := 4) (x := 36) dX3_isNumber_4 sl_X3_198 rfl ?_
  refine RT.acmp_eq (pc := 7) (tgt := 16) dX3_isNumber_7 rfl (fun q7 => ?_) (fun q7 => ?_)
  · rw [if_pos q7] at h
    refine RT.aload_n (pc := 16) (k := 0) (x := a0) dX3_isNumber_16 rfl ?_
    obtain ⟨p17, hp17, h⟩ := Option.bind_eq_some_iff.mp h
    refine RT.cVz (pc := 17) (M' := M_X3_value) (ci := 3) (x := a0) (As := []) (st := []) (r := some (1, p17)) (mem1 := mem0) (d' := d - 1) hz dX3_isNumber_17 mw_X3_value ml_X3_121 mi_X3_value ht rfl rfl (Nat.le_of_ble_eq_true rfl) (Nat.le_of_ble_eq_true rfl) (by omega) rfl rfl (c_X3_value hz (by omega) a0 mem0 _ ht hp17) ?_
    refine RT.iload_n (pc := 20) (k := 1) (x := a1) dX3_isNumber_20 rfl ?_
    refine RT.i2l (pc := 21) dX3_isNumber_21 ?_
    refine RT.lcmp (pc := 22) dX3_isNumber_22 ?_
    refine RT.if_lt (pc := 23) (tgt := 36) dX3_isNumber_23 rfl (fun q23 => ?_) (fun q23 => ?_)
    · rw [if_pos q23] at h
      refine RT.wk (L1 := [(2, a0), (9, 0), (9, 0)]) (rt_le_s (rt_le_j (rt_le_j rt_le_n))) ?_
      exact cj_X3_isNumber_36 hz hd ht mem0 _ h hK
    · rw [if_neg q23] at h
      refine RT.aload_n (pc := 26) (k := 0) (x := a0) dX3_isNumber_26 rfl ?_
      obtain ⟨p27, hp27, h⟩ := Option.bind_eq_some_iff.mp h
      refine RT.cVz (pc := 27) (M' := M_X3_value) (ci := 3) (x := a0) (As := []) (st := []) (r := some (1, p27)) (mem1 := mem0) (d' := d - 1) hz dX3_isNumber_27 mw_X3_value ml_X3_121 mi_X3_value ht rfl rfl (Nat.le_of_ble_eq_true rfl) (Nat.le_of_ble_eq_true rfl) (by omega) rfl rfl (c_X3_value hz (by omega) a0 mem0 _ ht hp27) ?_
      refine RT.iload_n (pc := 30) (k := 2) (x := a2) dX3_isNumber_30 rfl ?_
      refine RT.i2l (pc := 31) dX3_isNumber_31 ?_
      refine RT.lcmp (pc := 32) dX3_isNumber_32 ?_
      refine RT.if_le (pc := 33) (tgt := 44) dX3_isNumber_33 rfl (fun q33 => ?_) (fun q33 => ?_)
      · rw [if_pos q33] at h
        refine RT.wk (L1 := [(9, 0), (9, 0), (9, 0)]) (rt_le_j (rt_le_j (rt_le_j rt_le_n))) ?_
        exact cj_X3_isNumber_44 hz hd ht mem0 _ h hK
      · rw [if_neg q33] at h
        refine RT.wk (L1 := [(2, a0), (9, 0), (9, 0)]) (rt_le_s (rt_le_j (rt_le_j rt_le_n))) ?_
        exact cj_X3_isNumber_36 hz hd ht mem0 _ h hK
  · rw [if_neg q7] at h
    refine RT.aload_n (pc := 10) (k := 0) (x := a0) dX3_isNumber_10 rfl ?_
    refine RT.iconst (pc := 11) (n := 1) dX3_isNumber_11 ⟨by decide, by decide⟩ ?_
    obtain ⟨p12, hp12, h⟩ := Option.bind_eq_some_iff.mp h
    refine RT.cVz (pc := 12) (M' := M_X3_fail) (ci := 3) (x := a0) (As := [(0, 1)]) (st := []) (r := some (0, p12.1)) (mem1 := p12.2) (d' := d - 1) hz dX3_isNumber_12 mw_X3_fail ml_X3_73 mi_X3_fail ht rfl rfl (Nat.le_of_ble_eq_true rfl) (Nat.le_of_ble_eq_true rfl) (by omega) rfl rfl (c_X3_fail hz (by omega) a0 1 mem0 _ ht hp12) ?_
    obtain ⟨w15, hw15, h⟩ := Option.bind_eq_some_iff.mp h
    obtain rfl := Option.some.inj h
    exact RT.zret (pc := 15) dX3_isNumber_15 rfl (rt_bz_ok hw15) (Nat.le_of_eq (rt_cells_0 z)) (Nat.le_of_eq (rt_slots_0 z)) hK
theorem cj_X3_fact_17 {G : rt_G} {d : Nat} {z : Nat × Nat} {Q : rt_P} (hz : 300 ≤ z.1) (hd : 2 ≤ d) {a0 : Int} (ht : rt_kd a0.toNat = 20 + 3) (mem0 : rt_M) (t : Int × rt_M) (h : j_X3_fact_17 mem0 = some t) (hK : Q (some (0, t.1)) z t.2) : RT G M_X3_fact d z Q 17 [(9, 0), (9, 0), (9, 0), (9, 0), (9, 0), (9, 0)] [] z mem0 := by
  unfold j_X3_fact_17 at h
  refine RT.iconst (pc := 17) (n := 0) dX3_fact_17 ⟨by decide, by decide⟩ ?_
  obtain rfl := Option.some.inj h
  exact RT.zret (pc := 18) dX3_fact_18 rfl (by decide) (Nat.le_of_eq (rt_cells_0 z)) (Nat.le_of_eq (rt_slots_0 z)) hK
theorem c_X3_fact {G : rt_G} {d : Nat} {z : Nat × Nat} (hz : 300 ≤ z.1) (hd : 2 ≤ d) (a0 : Int) (a1 : Int) (a2 : Int) (a3 : Int) (a4 : Int) (a5 : Int) (mem0 : rt_M) (t : Int × rt_M) (ht : rt_kd a0.toNat = 20 + 3) (h : f_X3_fact a0 a1 a2 a3 a4 a5 mem0 = some t) : RM G M_X3_fact d [(2, a0), (2, a1), (0, a2), (0, a3), (2, a4), (0, a5)] z mem0 (some (0, t.1)) t.2 := by
  suffices H : ∀ Q : rt_P, Q (some (0, t.1)) z t.2 → RT G M_X3_fact d z Q 0 [(2, a0), (2, a1), (0, a2), (0, a3), (2, a4), (0, a5)] [] z mem0 from H _ ⟨rfl, rfl, rfl⟩
  intro Q hK
  unfold f_X3_fact at h
  refine RT.aload_n (pc := 0) (k := 0) (x := a0) dX3_fact_0 rfl ?_
  refine RT.aload_n (pc := 1) (k := 1) (x := a1) dX3_fact_1 rfl ?_
  obtain ⟨p2, hp2, h⟩ := Option.bind_eq_some_iff.mp h
  refine RT.cVz (pc := 2) (M' := M_X3_take) (ci := 3) (x := a0) (As := [(2, a1)]) (st := []) (r := some (0, p2.1)) (mem1 := p2.2) (d' := d - 1) hz dX3_fact_2 mw_X3_take ml_X3_148 mi_X3_take ht rfl rfl (Nat.le_of_ble_eq_true rfl) (Nat.le_of_ble_eq_true rfl) (by omega) rfl rfl (c_X3_take hz (by omega) a0 a1 mem0 _ ht hp2) ?_
  refine RT.if_eq (pc := 5) (tgt := 17) dX3_fact_5 rfl (fun q5 => ?_) (fun q5 => ?_)
  · rw [if_pos q5] at h
    refine RT.wk (L1 := [(9, 0), (9, 0), (9, 0), (9, 0), (9, 0), (9, 0)]) (rt_le_j (rt_le_j (rt_le_j (rt_le_j (rt_le_j (rt_le_j rt_le_n)))))) ?_
    exact cj_X3_fact_17 hz hd ht p2.2 _ h hK
  · rw [if_neg q5] at h
    refine RT.aload_n (pc := 8) (k := 0) (x := a0) dX3_fact_8 rfl ?_
    refine RT.iload_n (pc := 9) (k := 2) (x := a2) dX3_fact_9 rfl ?_
    refine RT.iload_n (pc := 10) (k := 3) (x := a3) dX3_fact_10 rfl ?_
    obtain ⟨p11, hp11, h⟩ := Option.bind_eq_some_iff.mp h
    refine RT.cVz (pc := 11) (M' := M_X3_isNumber) (ci := 3) (x := a0) (As := [(0, a2), (0, a3)]) (st := []) (r := some (0, p11.1)) (mem1 := p11.2) (d' := d - 1) hz dX3_fact_11 mw_X3_isNumber ml_X3_194 mi_X3_isNumber ht rfl rfl (Nat.le_of_ble_eq_true rfl) (Nat.le_of_ble_eq_true rfl) (by omega) rfl rfl (c_X3_isNumber hz (by omega) a0 a2 a3 p2.2 _ ht hp11) ?_
    refine RT.if_ne (pc := 14) (tgt := 19) dX3_fact_14 rfl (fun q14 => ?_) (fun q14 => ?_)
    · rw [if_neg q14] at h
      refine RT.aload (pc := 19) (k := 4) (x := a4) dX3_fact_19 rfl ?_
      refine RT.iload (pc := 21) (k := 5) (x := a5) dX3_fact_21 rfl ?_
      refine RT.aload_n (pc := 23) (k := 0) (x := a0) dX3_fact_23 rfl ?_
      obtain ⟨p24, hp24, h⟩ := Option.bind_eq_some_iff.mp h
      refine RT.cVz (pc := 24) (M' := M_X3_value) (ci := 3) (x := a0) (As := []) (st := [(0, a5), (2, a4)]) (r := some (1, p24)) (mem1 := p11.2) (d' := d - 1) hz dX3_fact_24 mw_X3_value ml_X3_121 mi_X3_value ht rfl rfl (Nat.le_of_ble_eq_true rfl) (Nat.le_of_ble_eq_true rfl) (by omega) rfl rfl (c_X3_value hz (by omega) a0 p11.2 _ ht hp24) ?_
      refine RT.l2i (pc := 27) dX3_fact_27 ?_
      obtain ⟨m28, hm28, h⟩ := Option.bind_eq_some_iff.mp h
      refine RT.iast (pc := 28) (x := a4) (i := a5) (v := (rt_l2i p24)) (mem1 := m28) dX3_fact_28 (rt_lts hz (by decide) (by decide) hm28) hm28 ?_
      refine RT.aload_n (pc := 29) (k := 0) (x := a0) dX3_fact_29 rfl ?_
      refine RT.dup (pc := 30) dX3_fact_30 (show ¬ ((2 : Nat) = 1) by decide) ?_
      obtain ⟨v31, hv31, h⟩ := Option.bind_eq_some_iff.mp h
      refine RT.gf 3 1 0 (pc := 31) (x := a0) (v := v31) hz dX3_fact_31 fl_X3_55 rfl hv31 ?_
      refine RT.iconst (pc := 34) (n := 1) dX3_fact_34 ⟨by decide, by decide⟩ ?_
      refine RT.iadd (pc := 35) dX3_fact_35 ?_
      obtain ⟨m36, hm36, h⟩ := Option.bind_eq_some_iff.mp h
      refine RT.pf_i 3 1 (pc := 36) (mem1 := m36) hz dX3_fact_36 fl_X3_55 rfl rfl rfl hm36 ?_
      refine RT.iconst (pc := 39) (n := 1) dX3_fact_39 ⟨by decide, by decide⟩ ?_
      obtain rfl := Option.some.inj h
      exact RT.zret (pc := 40) dX3_fact_40 rfl (by decide) (Nat.le_of_eq (rt_cells_0 z)) (Nat.le_of_eq (rt_slots_0 z)) hK
    · rw [if_pos (Classical.not_not.mp q14)] at h
      refine RT.wk (L1 := [(9, 0), (9, 0), (9, 0), (9, 0), (9, 0), (9, 0)]) (rt_le_j (rt_le_j (rt_le_j (rt_le_j (rt_le_j (rt_le_j rt_le_n)))))) ?_
      exact cj_X3_fact_17 hz hd ht p11.2 _ h hK
theorem cj_X3_wigLine_133 {G : rt_G} {d : Nat} {z : Nat × Nat} {Q : rt_P} (hz : 300 ≤ z.1) (hd : 3 ≤ d) {a0 : Int} (ht : rt_kd a0.toNat = 20 + 3) (a6 : Int) (mem0 : rt_M) (t : Int × rt_M) (h : j_X3_wigLine_133 a6 mem0 = some t) (hK : Q (some (0, t.1)) z t.2) : RT G M_X3_wigLine d z Q 133 [(9, 0), (9, 0), (9, 0), (9, 0), (9, 0), (9, 0), (0, a6)] [] z mem0 := by
  unfold j_X3_wigLine_133 at h
  refine RT.iload (pc := 133) (k := 6) (x := a6) dX3_wigLine_133 rfl ?_
  obtain ⟨w135, hw135, h⟩ := Option.bind_eq_some_iff.mp h
  obtain rfl := Option.some.inj h
  exact RT.zret (pc := 135) dX3_wigLine_135 rfl (rt_bz_ok hw135) (Nat.le_of_eq (rt_cells_0 z)) (Nat.le_of_eq (rt_slots_0 z)) hK
theorem cj_X3_wigLine_112 {G : rt_G} {d : Nat} {z : Nat × Nat} {Q : rt_P} (hz : 300 ≤ z.1) (hd : 3 ≤ d) {a0 : Int} (ht : rt_kd a0.toNat = 20 + 3) (a1 : Int) (a2 : Int) (a3 : Int) (s0 : Int) (mem0 : rt_M) (t : Int × rt_M) (h : j_X3_wigLine_112 a1 a2 a3 s0 mem0 = some t) (hK : Q (some (0, t.1)) z t.2) : RT G M_X3_wigLine d z Q 112 [(9, 0), (2, a1), (0, a2), (1, a3), (9, 0), (9, 0), (9, 0)] [(0, s0)] z mem0 := by
  unfold j_X3_wigLine_112 at h
  refine RT.istore (pc := 112) (k := 6) (x := s0) (L1 := [(9, 0), (2, a1), (0, a2), (1, a3), (9, 0), (9, 0), (0, s0)]) dX3_wigLine_112 (Nat.le_of_ble_eq_true rfl) rfl ?_
  refine RT.iload (pc := 114) (k := 6) (x := s0) dX3_wigLine_114 rfl ?_
  refine RT.if_eq (pc := 116) (tgt := 133) dX3_wigLine_116 rfl (fun q116 => ?_) (fun q116 => ?_)
  · rw [if_pos q116] at h
    refine RT.wk (L1 := [(9, 0), (9, 0), (9, 0), (9, 0), (9, 0), (9, 0), (0, s0)]) (rt_le_s (rt_le_j (rt_le_j (rt_le_j (rt_le_s (rt_le_s (rt_le_s rt_le_n))))))) ?_
    exact cj_X3_wigLine_133 hz hd ht s0 mem0 _ h hK
  · rw [if_neg q116] at h
    refine RT.aload_n (pc := 119) (k := 1) (x := a1) dX3_wigLine_119 rfl ?_
    obtain ⟨v120, hv120, h⟩ := Option.bind_eq_some_iff.mp h
    refine RT.gf 4 2 2 (pc := 120) (x := a1) (v := v120) hz dX3_wigLine_120 fl_X3_152 rfl hv120 ?_
    refine RT.iload_n (pc := 123) (k := 2) (x := a2) dX3_wigLine_123 rfl ?_
    refine RT.lload_n (pc := 124) (k := 3) (x := a3) dX3_wigLine_124 rfl ?_
    obtain ⟨m125, hm125, h⟩ := Option.bind_eq_some_iff.mp h
    refine RT.last (pc := 125) (x := v120) (i := a2) (v := a3) (mem1 := m125) dX3_wigLine_125 (rt_lts hz (by decide) (by decide) hm125) hm125 ?_
    refine RT.aload_n (pc := 126) (k := 1) (x := a1) dX3_wigLine_126 rfl ?_
    refine RT.iload_n (pc := 127) (k := 2) (x := a2) dX3_wigLine_127 rfl ?_
    refine RT.iconst (pc := 128) (n := 1) dX3_wigLine_128 ⟨by decide, by decide⟩ ?_
    refine RT.iadd (pc := 129) dX3_wigLine_129 ?_
    obtain ⟨m130, hm130, h⟩ := Option.bind_eq_some_iff.mp h
    refine RT.pf_i 4 0 (pc := 130) (mem1 := m130) hz dX3_wigLine_130 fl_X3_118 rfl rfl rfl hm130 ?_
    refine RT.wk (L1 := [(9, 0), (9, 0), (9, 0), (9, 0), (9, 0), (9, 0), (0, s0)]) (rt_le_s (rt_le_j (rt_le_j (rt_le_j (rt_le_s (rt_le_s (rt_le_s rt_le_n))))))) ?_
    exact cj_X3_wigLine_133 hz hd ht s0 m130 _ h hK
theorem cj_X3_wigLine_111 {G : rt_G} {d : Nat} {z : Nat × Nat} {Q : rt_P} (hz : 300 ≤ z.1) (hd : 3 ≤ d) {a0 : Int} (ht : rt_kd a0.toNat = 20 + 3) (a1 : Int) (a2 : Int) (a3 : Int) (mem0 : rt_M) (t : Int × rt_M) (h : j_X3_wigLine_111 a1 a2 a3 mem0 = some t) (hK : Q (some (0, t.1)) z t.2) : RT G M_X3_wigLine d z Q 111 [(9, 0), (2, a1), (0, a2), (1, a3), (9, 0), (9, 0), (9, 0)] [] z mem0 := by
  unfold j_X3_wigLine_111 at h
  refine RT.iconst (pc := 111) (n := 0) dX3_wigLine_111 ⟨by decide, by decide⟩ ?_
  exact cj_X3_wigLine_112 hz hd ht a1 a2 a3 0 mem0 _ h hK
theorem c_X3_wigLine {G : rt_G} {d : Nat} {z : Nat × Nat} (hz : 300 ≤ z.1) (hd : 3 ≤ d) (a0 : Int) (a1 : Int) (mem0 : rt_M) (t : Int × rt_M) (ht : rt_kd a0.toNat = 20 + 3) (h : f_X3_wigLine a0 a1 mem0 = some t) : RM G M_X3_wigLine d [(2, a0), (2, a1)] z mem0 (some (0, t.1)) t.2 := by
  suffices H : ∀ Q : rt_P, Q (some (0, t.1)) z t.2 → RT G M_X3_wigLine d z Q 0 [(2, a0), (2, a1), (9, 0), (9, 0), (9, 0), (9, 0), (9, 0)] [] z mem0 from H _ ⟨rfl, rfl, rfl⟩
  intro Q hK
  unfold f_X3_wigLine at h
  refine RT.aload_n (pc := 0) (k := 1) (x := a1) dX3_wigLine_0 rfl ?_
  obtain ⟨v1, hv1, h⟩ := Option.bind_eq_some_iff.mp h
  refine RT.gf 4 0 0 (pc := 1) (x := a1) (v := v1) hz dX3_wigLine_1 fl_X3_118 rfl hv1 ?_
  refine RT.istore_n (pc := 4) (k := 2) (x := v1) (L1 := [(2, a0), (2, a1), (0, v1), (9, 0), (9, 0), (9, 0), (9, 0)]) dX3_wigLine_4 (Nat.le_of_ble_eq_true rfl) rfl ?_
  refine RT.iload_n (pc := 5) (k := 2) (x := v1) dX3_wigLine_5 rfl ?_
  refine RT.bipush (pc := 6) (n := 6) dX3_wigLine_6 ⟨by decide, by decide⟩ rfl ?_
  refine RT.icmp_lt (pc := 8) (tgt := 17) dX3_wigLine_8 rfl (fun q8 => ?_) (fun q8 => ?_)
  · rw [if_pos q8] at h
    refine RT.aload_n (pc := 17) (k := 0) (x := a0) dX3_wigLine_17 rfl ?_
    refine RT.dup (pc := 18) dX3_wigLine_18 (show ¬ ((2 : Nat) = 1) by decide) ?_
    obtain ⟨v19, hv19, h⟩ := Option.bind_eq_some_iff.mp h
    refine RT.gf 3 1 0 (pc := 19) (x := a0) (v := v19) hz dX3_wigLine_19 fl_X3_55 rfl hv19 ?_
    refine RT.iconst (pc := 22) (n := 1) dX3_wigLine_22 ⟨by decide, by decide⟩ ?_
    refine RT.iadd (pc := 23) dX3_wigLine_23 ?_
    obtain ⟨m24, hm24, h⟩ := Option.bind_eq_some_iff.mp h
    refine RT.pf_i 3 1 (pc := 24) (mem1 := m24) hz dX3_wigLine_24 fl_X3_55 rfl rfl rfl hm24 ?_
    refine RT.aload_n (pc := 27) (k := 0) (x := a0) dX3_wigLine_27 rfl ?_
    obtain ⟨p28, hp28, h⟩ := Option.bind_eq_some_iff.mp h
    refine RT.cVz (pc := 28) (M' := M_X3_value) (ci := 3) (x := a0) (As := []) (st := []) (r := some (1, p28)) (mem1 := m24) (d' := d - 1) hz dX3_wigLine_28 mw_X3_value ml_X3_121 mi_X3_value ht rfl rfl (Nat.le_of_ble_eq_true rfl) (Nat.le_of_ble_eq_true rfl) (by omega) rfl rfl (c_X3_value hz (by omega) a0 m24 _ ht hp28) ?_
    refine RT.lstore_n (pc := 31) (k := 3) (x := p28) (L1 := [(2, a0), (2, a1), (0, v1), (1, p28), (9, 0), (9, 0), (9, 0)]) dX3_wigLine_31 (Nat.le_of_ble_eq_true rfl) rfl ?_
    refine RT.aload_n (pc := 32) (k := 1) (x := a1) dX3_wigLine_32 rfl ?_
    obtain ⟨v33, hv33, h⟩ := Option.bind_eq_some_iff.mp h
    refine RT.gf 4 4 2 (pc := 33) (x := a1) (v := v33) hz dX3_wigLine_33 fl_X3_125 rfl hv33 ?_
    refine RT.iload_n (pc := 36) (k := 2) (x := v1) dX3_wigLine_36 rfl ?_
    obtain ⟨v37, hv37, h⟩ := Option.bind_eq_some_iff.mp h
    refine RT.aald6 (pc := 37) (x := v33) (i := v1) (v := v37) dX3_wigLine_37 (rt_lta hz (by decide) (by decide) hv37) hv37 ?_
    refine RT.astore (pc := 38) (k := 5) (x := v37) (L1 := [(2, a0), (2, a1), (0, v1), (1, p28), (9, 0), (2, v37), (9, 0)]) dX3_wigLine_38 (Nat.le_of_ble_eq_true rfl) rfl ?_
    refine RT.aload_n (pc := 40) (k := 0) (x := a0) dX3_wigLine_40 rfl ?_
    refine RT.aload_n (pc := 41) (k := 1) (x := a1) dX3_wigLine_41 rfl ?_
    obtain ⟨p42, hp42, h⟩ := Option.bind_eq_some_iff.mp h
    refine RT.cVz (pc := 42) (M' := M_X3_newName) (ci := 3) (x := a0) (As := [(2, a1)]) (st := []) (r := some (0, p42.1)) (mem1 := p42.2) (d' := d - 1) hz dX3_wigLine_42 mw_X3_newName ml_X3_129 mi_X3_newName ht rfl rfl (Nat.le_of_ble_eq_true rfl) (Nat.le_of_ble_eq_true rfl) (by omega) rfl rfl (c_X3_newName hz (by omega) a0 a1 m24 _ ht hp42) ?_
    refine RT.if_eq (pc := 45) (tgt := 111) dX3_wigLine_45 rfl (fun q45 => ?_) (fun q45 => ?_)
    · rw [if_pos q45] at h
      refine RT.wk (L1 := [(9, 0), (2, a1), (0, v1), (1, p28), (9, 0), (9, 0), (9, 0)]) (rt_le_j (rt_le_s (rt_le_s (rt_le_s (rt_le_s (rt_le_j (rt_le_s rt_le_n))))))) ?_
      exact cj_X3_wigLine_111 hz hd ht a1 v1 p28 p42.2 _ h hK
    · rw [if_neg q45] at h
      refine RT.aload_n (pc := 48) (k := 0) (x := a0) dX3_wigLine_48 rfl ?_
      refine RT.gets 1 (pc := 49) (x := 1) dX3_wigLine_49 sl_X3_132 rfl ?_
      refine RT.bipush (pc := 52) (n := 40) dX3_wigLine_52 ⟨by decide, by decide⟩ rfl ?_
      refine RT.bipush (pc := 54) (n := 79) dX3_wigLine_54 ⟨by decide, by decide⟩ rfl ?_
      refine RT.aload (pc := 56) (k := 5) (x := v37) dX3_wigLine_56 rfl ?_
      refine RT.iconst (pc := 58) (n := 0) dX3_wigLine_58 ⟨by decide, by decide⟩ ?_
      obtain ⟨p59, hp59, h⟩ := Option.bind_eq_some_iff.mp h
      refine RT.cVz (pc := 59) (M' := M_X3_fact) (ci := 3) (x := a0) (As := [(2, 1), (0, 40), (0, 79), (2, v37), (0, 0)]) (st := []) (r := some (0, p59.1)) (mem1 := p59.2) (d' := d - 1) hz dX3_wigLine_59 mw_X3_fact ml_X3_135 mi_X3_fact ht rfl rfl (Nat.le_of_ble_eq_true rfl) (Nat.le_of_ble_eq_true rfl) (by omega) rfl rfl (c_X3_fact hz (by omega) a0 1 40 79 v37 0 p42.2 _ ht hp59) ?_
      refine RT.if_eq (pc := 62) (tgt := 111) dX3_wigLine_62 rfl (fun q62 => ?_) (fun q62 => ?_)
      · rw [if_pos q62] at h
        refine RT.wk (L1 := [(9, 0), (2, a1), (0, v1), (1, p28), (9, 0), (9, 0), (9, 0)]) (rt_le_j (rt_le_s (rt_le_s (rt_le_s (rt_le_s (rt_le_j (rt_le_s rt_le_n))))))) ?_
        exact cj_X3_wigLine_111 hz hd ht a1 v1 p28 p59.2 _ h hK
      · rw [if_neg q62] at h
        refine RT.aload_n (pc := 65) (k := 0) (x := a0) dX3_wigLine_65 rfl ?_
        refine RT.gets 2 (pc := 66) (x := 2) dX3_wigLine_66 sl_X3_139 rfl ?_
        refine RT.iconst (pc := 69) (n := 0) dX3_wigLine_69 ⟨by decide, by decide⟩ ?_
        refine RT.bipush (pc := 70) (n := 99) dX3_wigLine_70 ⟨by decide, by decide⟩ rfl ?_
        refine RT.aload (pc := 72) (k := 5) (x := v37) dX3_wigLine_72 rfl ?_
        refine RT.iconst (pc := 74) (n := 1) dX3_wigLine_74 ⟨by decide, by decide⟩ ?_
        obtain ⟨p75, hp75, h⟩ := Option.bind_eq_some_iff.mp h
        refine RT.cVz (pc := 75) (M' := M_X3_fact) (ci := 3) (x := a0) (As := [(2, 2), (0, 0), (0, 99), (2, v37), (0, 1)]) (st := []) (r := some (0, p75.1)) (mem1 := p75.2) (d' := d - 1) hz dX3_wigLine_75 mw_X3_fact ml_X3_135 mi_X3_fact ht rfl rfl (Nat.le_of_ble_eq_true rfl) (Nat.le_of_ble_eq_true rfl) (by omega) rfl rfl (c_X3_fact hz (by omega) a0 2 0 99 v37 1 p59.2 _ ht hp75) ?_
        refine RT.if_eq (pc := 78) (tgt := 111) dX3_wigLine_78 rfl (fun q78 => ?_) (fun q78 => ?_)
        · rw [if_pos q78] at h
          refine RT.wk (L1 := [(9, 0), (2, a1), (0, v1), (1, p28), (9, 0), (9, 0), (9, 0)]) (rt_le_j (rt_le_s (rt_le_s (rt_le_s (rt_le_s (rt_le_j (rt_le_s rt_le_n))))))) ?_
          exact cj_X3_wigLine_111 hz hd ht a1 v1 p28 p75.2 _ h hK
        · rw [if_neg q78] at h
          refine RT.aload_n (pc := 81) (k := 0) (x := a0) dX3_wigLine_81 rfl ?_
          refine RT.gets 3 (pc := 82) (x := 3) dX3_wigLine_82 sl_X3_142 rfl ?_
          refine RT.iconst (pc := 85) (n := 0) dX3_wigLine_85 ⟨by decide, by decide⟩ ?_
          refine RT.bipush (pc := 86) (n := 9) dX3_wigLine_86 ⟨by decide, by decide⟩ rfl ?_
          refine RT.aload (pc := 88) (k := 5) (x := v37) dX3_wigLine_88 rfl ?_
          refine RT.iconst (pc := 90) (n := 2) dX3_wigLine_90 ⟨by decide, by decide⟩ ?_
          obtain ⟨p91, hp91, h⟩ := Option.bind_eq_some_iff.mp h
          refine RT.cVz (pc := 91) (M' := M_X3_fact) (ci := 3) (x := a0) (As := [(2, 3), (0, 0), (0, 9), (2, v37), (0, 2)]) (st := []) (r := some (0, p91.1)) (mem1 := p91.2) (d' := d - 1) hz dX3_wigLine_91 mw_X3_fact ml_X3_135 mi_X3_fact ht rfl rfl (Nat.le_of_ble_eq_true rfl) (Nat.le_of_ble_eq_true rfl) (by omega) rfl rfl (c_X3_fact hz (by omega) a0 3 0 9 v37 2 p75.2 _ ht hp91) ?_
          refine RT.if_eq (pc := 94) (tgt := 111) dX3_wigLine_94 rfl (fun q94 => ?_) (fun q94 => ?_)
          · rw [if_pos q94] at h
            refine RT.wk (L1 := [(9, 0), (2, a1), (0, v1), (1, p28), (9, 0), (9, 0), (9, 0)]) (rt_le_j (rt_le_s (rt_le_s (rt_le_s (rt_le_s (rt_le_j (rt_le_s rt_le_n))))))) ?_
            exact cj_X3_wigLine_111 hz hd ht a1 v1 p28 p91.2 _ h hK
          · rw [if_neg q94] at h
            refine RT.aload_n (pc := 97) (k := 0) (x := a0) dX3_wigLine_97 rfl ?_
            refine RT.gets 34 (pc := 98) (x := 34) dX3_wigLine_98 sl_X3_145 rfl ?_
            obtain ⟨p101, hp101, h⟩ := Option.bind_eq_some_iff.mp h
            refine RT.cVz (pc := 101) (M' := M_X3_take) (ci := 3) (x := a0) (As := [(2, 34)]) (st := []) (r := some (0, p101.1)) (mem1 := p101.2) (d' := d - 1) hz dX3_wigLine_101 mw_X3_take ml_X3_148 mi_X3_take ht rfl rfl (Nat.le_of_ble_eq_true rfl) (Nat.le_of_ble_eq_true rfl) (by omega) rfl rfl (c_X3_take hz (by omega) a0 34 p91.2 _ ht hp101) ?_
            refine RT.if_eq (pc := 104) (tgt := 111) dX3_wigLine_104 rfl (fun q104 => ?_) (fun q104 => ?_)
            · rw [if_pos q104] at h
              refine RT.wk (L1 := [(9, 0), (2, a1), (0, v1), (1, p28), (9, 0), (9, 0), (9, 0)]) (rt_le_j (rt_le_s (rt_le_s (rt_le_s (rt_le_s (rt_le_j (rt_le_s rt_le_n))))))) ?_
              exact cj_X3_wigLine_111 hz hd ht a1 v1 p28 p101.2 _ h hK
            · rw [if_neg q104] at h
              refine RT.iconst (pc := 107) (n := 1) dX3_wigLine_107 ⟨by decide, by decide⟩ ?_
              refine RT.goto (pc := 108) (tgt := 112) dX3_wigLine_108 rfl ?_
              refine RT.wk (L1 := [(9, 0), (2, a1), (0, v1), (1, p28), (9, 0), (9, 0), (9, 0)]) (rt_le_j (rt_le_s (rt_le_s (rt_le_s (rt_le_s (rt_le_j (rt_le_s rt_le_n))))))) ?_
              exact cj_X3_wigLine_112 hz hd ht a1 v1 p28 1 p101.2 _ h hK
  · rw [if_neg q8] at h
    refine RT.aload_n (pc := 11) (k := 0) (x := a0) dX3_wigLine_11 rfl ?_
    refine RT.iconst (pc := 12) (n := 5) dX3_wigLine_12 ⟨by decide, by decide⟩ ?_
    obtain ⟨p13, hp13, h⟩ := Option.bind_eq_some_iff.mp h
    refine RT.cVz (pc := 13) (M' := M_X3_fail) (ci := 3) (x := a0) (As := [(0, 5)]) (st := []) (r := some (0, p13.1)) (mem1 := p13.2) (d' := d - 1) hz dX3_wigLine_13 mw_X3_fail ml_X3_73 mi_X3_fail ht rfl rfl (Nat.le_of_ble_eq_true rfl) (Nat.le_of_ble_eq_true rfl) (by omega) rfl rfl (c_X3_fail hz (by omega) a0 5 mem0 _ ht hp13) ?_
    obtain ⟨w16, hw16, h⟩ := Option.bind_eq_some_iff.mp h
    obtain rfl := Option.some.inj h
    exact RT.zret (pc := 16) dX3_wigLine_16 rfl (rt_bz_ok hw16) (Nat.le_of_eq (rt_cells_0 z)) (Nat.le_of_eq (rt_slots_0 z)) hK
theorem cj_X3_headKind_75 {G : rt_G} {d : Nat} {z : Nat × Nat} {Q : rt_P} (hz : 300 ≤ z.1) (hd : 1 ≤ d) {a0 : Int} (ht : rt_kd a0.toNat = 20 + 3) (s0 : Int) (s1 : Int) (s2 : Int) (mem0 : rt_M) (t : Int × rt_M) (h : j_X3_headKind_75 a0 s0 s1 s2 mem0 = some t) (hK : Q (some (0, t.1)) z t.2) : RT G M_X3_headKind d z Q 75 [(2, a0), (9, 0), (9, 0)] [(0, s2), (0, s1), (2, s0)] z mem0 := by
  unfold j_X3_headKind_75 at h
  obtain ⟨m75, hm75, h⟩ := Option.bind_eq_some_iff.mp h
  refine RT.iast (pc := 75) (x := s0) (i := s1) (v := s2) (mem1 := m75) dX3_headKind_75 (rt_lts hz (by decide) (by decide) hm75) hm75 ?_
  refine RT.aload_n (pc := 76) (k := 0) (x := a0) dX3_headKind_76 rfl ?_
  refine RT.dup (pc := 77) dX3_headKind_77 (show ¬ ((2 : Nat) = 1) by decide) ?_
  obtain ⟨v78, hv78, h⟩ := Option.bind_eq_some_iff.mp h
  refine RT.gf 3 1 0 (pc := 78) (x := a0) (v := v78) hz dX3_headKind_78 fl_X3_55 rfl hv78 ?_
  refine RT.iconst (pc := 81) (n := 1) dX3_headKind_81 ⟨by decide, by decide⟩ ?_
  refine RT.iadd (pc := 82) dX3_headKind_82 ?_
  obtain ⟨m83, hm83, h⟩ := Option.bind_eq_some_iff.mp h
  refine RT.pf_i 3 1 (pc := 83) (mem1 := m83) hz dX3_headKind_83 fl_X3_55 rfl rfl rfl hm83 ?_
  refine RT.iconst (pc := 86) (n := 1) dX3_headKind_86 ⟨by decide, by decide⟩ ?_
  obtain rfl := Option.some.inj h
  exact RT.zret (pc := 87) dX3_headKind_87 rfl (by decide) (Nat.le_of_eq (rt_cells_0 z)) (Nat.le_of_eq (rt_slots_0 z)) hK
theorem cj_X3_headKind_39 {G : rt_G} {d : Nat} {z : Nat × Nat} {Q : rt_P} (hz : 300 ≤ z.1) (hd : 1 ≤ d) {a0 : Int} (ht : rt_kd a0.toNat = 20 + 3) (a1 : Int) (a2 : Int) (mem0 : rt_M) (t : Int × rt_M) (h : j_X3_headKind_39 a0 a1 a2 mem0 = some t) (hK : Q (some (0, t.1)) z t.2) : RT G M_X3_headKind d z Q 39 [(2, a0), (2, a1), (2, a2)] [] z mem0 := by
  unfold j_X3_headKind_39 at h
  refine RT.aload_n (pc := 39) (k := 1) (x := a1) dX3_headKind_39 rfl ?_
  refine RT.iconst (pc := 40) (n := 0) dX3_headKind_40 ⟨by decide, by decide⟩ ?_
  refine RT.aload_n (pc := 41) (k := 2) (x := a2) dX3_headKind_41 rfl ?_
  refine RT.gets 15 (pc := 42) (x := 15) dX3_headKind_42 sl_X3_185 rfl ?_
  refine RT.acmp_ne (pc := 45) (tgt := 52) dX3_headKind_45 rfl (fun q45 => ?_) (fun q45 => ?_)
  · rw [if_neg q45] at h
    refine RT.aload_n (pc := 52) (k := 2) (x := a2) dX3_headKind_52 rfl ?_
    refine RT.gets 16 (pc := 53) (x := 16) dX3_headKind_53 sl_X3_188 rfl ?_
    refine RT.acmp_ne (pc := 56) (tgt := 63) dX3_headKind_56 rfl (fun q56 => ?_) (fun q56 => ?_)
    · rw [if_neg q56] at h
      refine RT.aload_n (pc := 63) (k := 2) (x := a2) dX3_headKind_63 rfl ?_
      refine RT.gets 17 (pc := 64) (x := 17) dX3_headKind_64 sl_X3_191 rfl ?_
      refine RT.acmp_ne (pc := 67) (tgt := 74) dX3_headKind_67 rfl (fun q67 => ?_) (fun q67 => ?_)
      · rw [if_neg q67] at h
        refine RT.iconst (pc := 74) (n := 0) dX3_headKind_74 ⟨by decide, by decide⟩ ?_
        refine RT.wk (L1 := [(2, a0), (9, 0), (9, 0)]) (rt_le_s (rt_le_j (rt_le_j rt_le_n))) ?_
        exact cj_X3_headKind_75 hz hd ht a1 0 0 mem0 _ h hK
      · rw [if_pos (Classical.not_not.mp q67)] at h
        refine RT.iconst (pc := 70) (n := 3) dX3_headKind_70 ⟨by decide, by decide⟩ ?_
        refine RT.goto (pc := 71) (tgt := 75) dX3_headKind_71 rfl ?_
        refine RT.wk (L1 := [(2, a0), (9, 0), (9, 0)]) (rt_le_s (rt_le_j (rt_le_j rt_le_n))) ?_
        exact cj_X3_headKind_75 hz hd ht a1 0 3 mem0 _ h hK
    · rw [if_pos (Classical.not_not.mp q56)] at h
      refine RT.iconst (pc := 59) (n := 2) dX3_headKind_59 ⟨by decide, by decide⟩ ?_
      refine RT.goto (pc := 60) (tgt := 75) dX3_headKind_60 rfl ?_
      refine RT.wk (L1 := [(2, a0), (9, 0), (9, 0)]) (rt_le_s (rt_le_j (rt_le_j rt_le_n))) ?_
      exact cj_X3_headKind_75 hz hd ht a1 0 2 mem0 _ h hK
  · rw [if_pos (Classical.not_not.mp q45)] at h
    refine RT.iconst (pc := 48) (n := 1) dX3_headKind_48 ⟨by decide, by decide⟩ ?_
    refine RT.goto (pc := 49) (tgt := 75) dX3_headKind_49 rfl ?_
    refine RT.wk (L1 := [(2, a0), (9, 0), (9, 0)]) (rt_le_s (rt_le_j (rt_le_j rt_le_n))) ?_
    exact cj_X3_headKind_75 hz hd ht a1 0 1 mem0 _ h hK
theorem c_X3_headKind {G : rt_G} {d : Nat} {z : Nat × Nat} (hz : 300 ≤ z.1) (hd : 1 ≤ d) (a0 : Int) (a1 : Int) (mem0 : rt_M) (t : Int × rt_M) (ht : rt_kd a0.toNat = 20 + 3) (h : f_X3_headKind a0 a1 mem0 = some t) : RM G M_X3_headKind d [(2, a0), (2, a1)] z mem0 (some (0, t.1)) t.2 := by
  suffices H : ∀ Q : rt_P, Q (some (0, t.1)) z t.2 → RT G M_X3_headKind d z Q 0 [(2, a0), (2, a1), (9, 0)] [] z mem0 from H _ ⟨rfl, rfl, rfl⟩
  intro Q hK
  unfold f_X3_headKind at h
  refine RT.aload_n (pc := 0) (k := 0) (x := a0) dX3_headKind_0 rfl ?_
  obtain ⟨p1, hp1, h⟩ := Option.bind_eq_some_iff.mp h
  refine RT.cVz (pc := 1) (M' := M_X3_kind) (ci := 3) (x := a0) (As := []) (st := []) (r := some (2, p1)) (mem1 := mem0) (d' := d - 1) hz dX3_headKind_1 mw_X3_kind ml_X3_23 mi_X3_kind ht rfl rfl (Nat.le_of_ble_eq_true rfl) (Nat.le_of_ble_eq_true rfl) (by omega) rfl rfl (c_X3_kind hz (by omega) a0 mem0 _ ht hp1) ?_
  refine RT.astore_n (pc := 4) (k := 2) (x := p1) (L1 := [(2, a0), (2, a1), (2, p1)]) dX3_headKind_4 (Nat.le_of_ble_eq_true rfl) rfl ?_
  refine RT.aload_n (pc := 5) (k := 2) (x := p1) dX3_headKind_5 rfl ?_
  refine RT.gets 14 (pc := 6) (x := 14) dX3_headKind_6 sl_X3_182 rfl ?_
  refine RT.acmp_eq (pc := 9) (tgt := 39) dX3_headKind_9 rfl (fun q9 => ?_) (fun q9 => ?_)
  · rw [if_pos q9] at h
    exact cj_X3_headKind_39 hz hd ht a1 p1 mem0 _ h hK
  · rw [if_neg q9] at h
    refine RT.aload_n (pc := 12) (k := 2) (x := p1) dX3_headKind_12 rfl ?_
    refine RT.gets 15 (pc := 13) (x := 15) dX3_headKind_13 sl_X3_185 rfl ?_
    refine RT.acmp_eq (pc := 16) (tgt := 39) dX3_headKind_16 rfl (fun q16 => ?_) (fun q16 => ?_)
    · rw [if_pos q16] at h
      exact cj_X3_headKind_39 hz hd ht a1 p1 mem0 _ h hK
    · rw [if_neg q16] at h
      refine RT.aload_n (pc := 19) (k := 2) (x := p1) dX3_headKind_19 rfl ?_
      refine RT.gets 16 (pc := 20) (x := 16) dX3_headKind_20 sl_X3_188 rfl ?_
      refine RT.acmp_eq (pc := 23) (tgt := 39) dX3_headKind_23 rfl (fun q23 => ?_) (fun q23 => ?_)
      · rw [if_pos q23] at h
        exact cj_X3_headKind_39 hz hd ht a1 p1 mem0 _ h hK
      · rw [if_neg q23] at h
        refine RT.aload_n (pc := 26) (k := 2) (x := p1) dX3_headKind_26 rfl ?_
        refine RT.gets 17 (pc := 27) (x := 17) dX3_headKind_27 sl_X3_191 rfl ?_
        refine RT.acmp_eq (pc := 30) (tgt := 39) dX3_headKind_30 rfl (fun q30 => ?_) (fun q30 => ?_)
        · rw [if_pos q30] at h
          exact cj_X3_headKind_39 hz hd ht a1 p1 mem0 _ h hK
        · rw [if_neg q30] at h
          refine RT.aload_n (pc := 33) (k := 0) (x := a0) dX3_headKind_33 rfl ?_
          refine RT.iconst (pc := 34) (n := 1) dX3_headKind_34 ⟨by decide, by decide⟩ ?_
          obtain ⟨p35, hp35, h⟩ := Option.bind_eq_some_iff.mp h
          refine RT.cVz (pc := 35) (M' := M_X3_fail) (ci := 3) (x := a0) (As := [(0, 1)]) (st := []) (r := some (0, p35.1)) (mem1 := p35.2) (d' := d - 1) hz dX3_headKind_35 mw_X3_fail ml_X3_73 mi_X3_fail ht rfl rfl (Nat.le_of_ble_eq_true rfl) (Nat.le_of_ble_eq_true rfl) (by omega) rfl rfl (c_X3_fail hz (by omega) a0 1 mem0 _ ht hp35) ?_
          obtain ⟨w38, hw38, h⟩ := Option.bind_eq_some_iff.mp h
          obtain rfl := Option.some.inj h
          exact RT.zret (pc := 38) dX3_headKind_38 rfl (rt_bz_ok hw38) (Nat.le_of_eq (rt_cells_0 z)) (Nat.le_of_eq (rt_slots_0 z)) hK
theorem cj_X3_headLine_142 {G : rt_G} {d : Nat} {z : Nat × Nat} {Q : rt_P} (hz : 300 ≤ z.1) (hd : 3 ≤ d) {a0 : Int} (ht : rt_kd a0.toNat = 20 + 3) (a6 : Int) (mem0 : rt_M) (t : Int × rt_M) (h : j_X3_headLine_142 a6 mem0 = some t) (hK : Q (some (0, t.1)) z t.2) : RT G M_X3_headLine d z Q 142 [(9, 0), (9, 0), (9, 0), (9, 0), (9, 0), (9, 0), (0, a6)] [] z mem0 := by
  unfold j_X3_headLine_142 at h
  refine RT.iload (pc := 142) (k := 6) (x := a6) dX3_headLine_142 rfl ?_
  obtain ⟨w144, hw144, h⟩ := Option.bind_eq_some_iff.mp h
  obtain rfl := Option.some.inj h
  exact RT.zret (pc := 144) dX3_headLine_144 rfl (rt_bz_ok hw144) (Nat.le_of_eq (rt_cells_0 z)) (Nat.le_of_eq (rt_slots_0 z)) hK
theorem cj_X3_headLine_121 {G : rt_G} {d : Nat} {z : Nat × Nat} {Q : rt_P} (hz : 300 ≤ z.1) (hd : 3 ≤ d) {a0 : Int} (ht : rt_kd a0.toNat = 20 + 3) (a1 : Int) (a2 : Int) (a3 : Int) (s0 : Int) (mem0 : rt_M) (t : Int × rt_M) (h : j_X3_headLine_121 a1 a2 a3 s0 mem0 = some t) (hK : Q (some (0, t.1)) z t.2) : RT G M_X3_headLine d z Q 121 [(9, 0), (2, a1), (0, a2), (1, a3), (9, 0), (9, 0), (9, 0)] [(0, s0)] z mem0 := by
  unfold j_X3_headLine_121 at h
  refine RT.istore (pc := 121) (k := 6) (x := s0) (L1 := [(9, 0), (2, a1), (0, a2), (1, a3), (9, 0), (9, 0), (0, s0)]) dX3_headLine_121 (Nat.le_of_ble_eq_true rfl) rfl ?_
  refine RT.iload (pc := 123) (k := 6) (x := s0) dX3_headLine_123 rfl ?_
  refine RT.if_eq (pc := 125) (tgt := 142) dX3_headLine_125 rfl (fun q125 => ?_) (fun q125 => ?_)
  · rw [if_pos q125] at h
    refine RT.wk (L1 := [(9, 0), (9, 0), (9, 0), (9, 0), (9, 0), (9, 0), (0, s0)]) (rt_le_s (rt_le_j (rt_le_j (rt_le_j (rt_le_s (rt_le_s (rt_le_s rt_le_n))))))) ?_
    exact cj_X3_headLine_142 hz hd ht s0 mem0 _ h hK
  · rw [if_neg q125] at h
    refine RT.aload_n (pc := 128) (k := 1) (x := a1) dX3_headLine_128 rfl ?_
    obtain ⟨v129, hv129, h⟩ := Option.bind_eq_some_iff.mp h
    refine RT.gf 4 3 2 (pc := 129) (x := a1) (v := v129) hz dX3_headLine_129 fl_X3_168 rfl hv129 ?_
    refine RT.iload_n (pc := 132) (k := 2) (x := a2) dX3_headLine_132 rfl ?_
    refine RT.lload_n (pc := 133) (k := 3) (x := a3) dX3_headLine_133 rfl ?_
    obtain ⟨m134, hm134, h⟩ := Option.bind_eq_some_iff.mp h
    refine RT.last (pc := 134) (x := v129) (i := a2) (v := a3) (mem1 := m134) dX3_headLine_134 (rt_lts hz (by decide) (by decide) hm134) hm134 ?_
    refine RT.aload_n (pc := 135) (k := 1) (x := a1) dX3_headLine_135 rfl ?_
    refine RT.iload_n (pc := 136) (k := 2) (x := a2) dX3_headLine_136 rfl ?_
    refine RT.iconst (pc := 137) (n := 1) dX3_headLine_137 ⟨by decide, by decide⟩ ?_
    refine RT.iadd (pc := 138) dX3_headLine_138 ?_
    obtain ⟨m139, hm139, h⟩ := Option.bind_eq_some_iff.mp h
    refine RT.pf_i 4 1 (pc := 139) (mem1 := m139) hz dX3_headLine_139 fl_X3_155 rfl rfl rfl hm139 ?_
    refine RT.wk (L1 := [(9, 0), (9, 0), (9, 0), (9, 0), (9, 0), (9, 0), (0, s0)]) (rt_le_s (rt_le_j (rt_le_j (rt_le_j (rt_le_s (rt_le_s (rt_le_s rt_le_n))))))) ?_
    exact cj_X3_headLine_142 hz hd ht s0 m139 _ h hK
theorem cj_X3_headLine_120 {G : rt_G} {d : Nat} {z : Nat × Nat} {Q : rt_P} (hz : 300 ≤ z.1) (hd : 3 ≤ d) {a0 : Int} (ht : rt_kd a0.toNat = 20 + 3) (a1 : Int) (a2 : Int) (a3 : Int) (mem0 : rt_M) (t : Int × rt_M) (h : j_X3_headLine_120 a1 a2 a3 mem0 = some t) (hK : Q (some (0, t.1)) z t.2) : RT G M_X3_headLine d z Q 120 [(9, 0), (2, a1), (0, a2), (1, a3), (9, 0), (9, 0), (9, 0)] [] z mem0 := by
  unfold j_X3_headLine_120 at h
  refine RT.iconst (pc := 120) (n := 0) dX3_headLine_120 ⟨by decide, by decide⟩ ?_
  exact cj_X3_headLine_121 hz hd ht a1 a2 a3 0 mem0 _ h hK
theorem c_X3_headLine {G : rt_G} {d : Nat} {z : Nat × Nat} (hz : 300 ≤ z.1) (hd : 3 ≤ d) (a0 : Int) (a1 : Int) (mem0 : rt_M) (t : Int × rt_M) (ht : rt_kd a0.toNat = 20 + 3) (h : f_X3_headLine a0 a1 mem0 = some t) : RM G M_X3_headLine d [(2, a0), (2, a1)] z mem0 (some (0, t.1)) t.2 := by
  suffices H : ∀ Q : rt_P, Q (some (0, t.1)) z t.2 → RT G M_X3_headLine d z Q 0 [(2, a0), (2, a1), (9, 0), (9, 0), (9, 0), (9, 0), (9, 0)] [] z mem0 from H _ ⟨rfl, rfl, rfl⟩
  intro Q hK
  unfold f_X3_headLine at h
  refine RT.aload_n (pc := 0) (k := 1) (x := a1) dX3_headLine_0 rfl ?_
  obtain ⟨v1, hv1, h⟩ := Option.bind_eq_some_iff.mp h
  refine RT.gf 4 1 0 (pc := 1) (x := a1) (v := v1) hz dX3_headLine_1 fl_X3_155 rfl hv1 ?_
  refine RT.istore_n (pc := 4) (k := 2) (x := v1) (L1 := [(2, a0), (2, a1), (0, v1), (9, 0), (9, 0), (9, 0), (9, 0)]) dX3_headLine_4 (Nat.le_of_ble_eq_true rfl) rfl ?_
  refine RT.iload_n (pc := 5) (k := 2) (x := v1) dX3_headLine_5 rfl ?_
  refine RT.bipush (pc := 6) (n := 6) dX3_headLine_6 ⟨by decide, by decide⟩ rfl ?_
  refine RT.icmp_lt (pc := 8) (tgt := 17) dX3_headLine_8 rfl (fun q8 => ?_) (fun q8 => ?_)
  · rw [if_pos q8] at h
    refine RT.aload_n (pc := 17) (k := 0) (x := a0) dX3_headLine_17 rfl ?_
    refine RT.dup (pc := 18) dX3_headLine_18 (show ¬ ((2 : Nat) = 1) by decide) ?_
    obtain ⟨v19, hv19, h⟩ := Option.bind_eq_some_iff.mp h
    refine RT.gf 3 1 0 (pc := 19) (x := a0) (v := v19) hz dX3_headLine_19 fl_X3_55 rfl hv19 ?_
    refine RT.iconst (pc := 22) (n := 1) dX3_headLine_22 ⟨by decide, by decide⟩ ?_
    refine RT.iadd (pc := 23) dX3_headLine_23 ?_
    obtain ⟨m24, hm24, h⟩ := Option.bind_eq_some_iff.mp h
    refine RT.pf_i 3 1 (pc := 24) (mem1 := m24) hz dX3_headLine_24 fl_X3_55 rfl rfl rfl hm24 ?_
    refine RT.aload_n (pc := 27) (k := 0) (x := a0) dX3_headLine_27 rfl ?_
    obtain ⟨p28, hp28, h⟩ := Option.bind_eq_some_iff.mp h
    refine RT.cVz (pc := 28) (M' := M_X3_value) (ci := 3) (x := a0) (As := []) (st := []) (r := some (1, p28)) (mem1 := m24) (d' := d - 1) hz dX3_headLine_28 mw_X3_value ml_X3_121 mi_X3_value ht rfl rfl (Nat.le_of_ble_eq_true rfl) (Nat.le_of_ble_eq_true rfl) (by omega) rfl rfl (c_X3_value hz (by omega) a0 m24 _ ht hp28) ?_
    refine RT.lstore_n (pc := 31) (k := 3) (x := p28) (L1 := [(2, a0), (2, a1), (0, v1), (1, p28), (9, 0), (9, 0), (9, 0)]) dX3_headLine_31 (Nat.le_of_ble_eq_true rfl) rfl ?_
    refine RT.aload_n (pc := 32) (k := 1) (x := a1) dX3_headLine_32 rfl ?_
    obtain ⟨v33, hv33, h⟩ := Option.bind_eq_some_iff.mp h
    refine RT.gf 4 5 2 (pc := 33) (x := a1) (v := v33) hz dX3_headLine_33 fl_X3_158 rfl hv33 ?_
    refine RT.iload_n (pc := 36) (k := 2) (x := v1) dX3_headLine_36 rfl ?_
    obtain ⟨v37, hv37, h⟩ := Option.bind_eq_some_iff.mp h
    refine RT.aald6 (pc := 37) (x := v33) (i := v1) (v := v37) dX3_headLine_37 (rt_lta hz (by decide) (by decide) hv37) hv37 ?_
    refine RT.astore (pc := 38) (k := 5) (x := v37) (L1 := [(2, a0), (2, a1), (0, v1), (1, p28), (9, 0), (2, v37), (9, 0)]) dX3_headLine_38 (Nat.le_of_ble_eq_true rfl) rfl ?_
    refine RT.aload_n (pc := 40) (k := 0) (x := a0) dX3_headLine_40 rfl ?_
    refine RT.aload_n (pc := 41) (k := 1) (x := a1) dX3_headLine_41 rfl ?_
    obtain ⟨p42, hp42, h⟩ := Option.bind_eq_some_iff.mp h
    refine RT.cVz (pc := 42) (M' := M_X3_newName) (ci := 3) (x := a0) (As := [(2, a1)]) (st := []) (r := some (0, p42.1)) (mem1 := p42.2) (d' := d - 1) hz dX3_headLine_42 mw_X3_newName ml_X3_129 mi_X3_newName ht rfl rfl (Nat.le_of_ble_eq_true rfl) (Nat.le_of_ble_eq_true rfl) (by omega) rfl rfl (c_X3_newName hz (by omega) a0 a1 m24 _ ht hp42) ?_
    refine RT.if_eq (pc := 45) (tgt := 120) dX3_headLine_45 rfl (fun q45 => ?_) (fun q45 => ?_)
    · rw [if_pos q45] at h
      refine RT.wk (L1 := [(9, 0), (2, a1), (0, v1), (1, p28), (9, 0), (9, 0), (9, 0)]) (rt_le_j (rt_le_s (rt_le_s (rt_le_s (rt_le_s (rt_le_j (rt_le_s rt_le_n))))))) ?_
      exact cj_X3_headLine_120 hz hd ht a1 v1 p28 p42.2 _ h hK
    · rw [if_neg q45] at h
      refine RT.aload_n (pc := 48) (k := 0) (x := a0) dX3_headLine_48 rfl ?_
      refine RT.aload (pc := 49) (k := 5) (x := v37) dX3_headLine_49 rfl ?_
      obtain ⟨p51, hp51, h⟩ := Option.bind_eq_some_iff.mp h
      refine RT.cVz (pc := 51) (M' := M_X3_headKind) (ci := 3) (x := a0) (As := [(2, v37)]) (st := []) (r := some (0, p51.1)) (mem1 := p51.2) (d' := d - 1) hz dX3_headLine_51 mw_X3_headKind ml_X3_161 mi_X3_headKind ht rfl rfl (Nat.le_of_ble_eq_true rfl) (Nat.le_of_ble_eq_true rfl) (by omega) rfl rfl (c_X3_headKind hz (by omega) a0 v37 p42.2 _ ht hp51) ?_
      refine RT.if_eq (pc := 54) (tgt := 120) dX3_headLine_54 rfl (fun q54 => ?_) (fun q54 => ?_)
      · rw [if_pos q54] at h
        refine RT.wk (L1 := [(9, 0), (2, a1), (0, v1), (1, p28), (9, 0), (9, 0), (9, 0)]) (rt_le_j (rt_le_s (rt_le_s (rt_le_s (rt_le_s (rt_le_j (rt_le_s rt_le_n))))))) ?_
        exact cj_X3_headLine_120 hz hd ht a1 v1 p28 p51.2 _ h hK
      · rw [if_neg q54] at h
        refine RT.aload_n (pc := 57) (k := 0) (x := a0) dX3_headLine_57 rfl ?_
        refine RT.gets 1 (pc := 58) (x := 1) dX3_headLine_58 sl_X3_132 rfl ?_
        refine RT.bipush (pc := 61) (n := 40) dX3_headLine_61 ⟨by decide, by decide⟩ rfl ?_
        refine RT.bipush (pc := 63) (n := 79) dX3_headLine_63 ⟨by decide, by decide⟩ rfl ?_
        refine RT.aload (pc := 65) (k := 5) (x := v37) dX3_headLine_65 rfl ?_
        refine RT.iconst (pc := 67) (n := 1) dX3_headLine_67 ⟨by decide, by decide⟩ ?_
        obtain ⟨p68, hp68, h⟩ := Option.bind_eq_some_iff.mp h
        refine RT.cVz (pc := 68) (M' := M_X3_fact) (ci := 3) (x := a0) (As := [(2, 1), (0, 40), (0, 79), (2, v37), (0, 1)]) (st := []) (r := some (0, p68.1)) (mem1 := p68.2) (d' := d - 1) hz dX3_headLine_68 mw_X3_fact ml_X3_135 mi_X3_fact ht rfl rfl (Nat.le_of_ble_eq_true rfl) (Nat.le_of_ble_eq_true rfl) (by omega) rfl rfl (c_X3_fact hz (by omega) a0 1 40 79 v37 1 p51.2 _ ht hp68) ?_
        refine RT.if_eq (pc := 71) (tgt := 120) dX3_headLine_71 rfl (fun q71 => ?_) (fun q71 => ?_)
        · rw [if_pos q71] at h
          refine RT.wk (L1 := [(9, 0), (2, a1), (0, v1), (1, p28), (9, 0), (9, 0), (9, 0)]) (rt_le_j (rt_le_s (rt_le_s (rt_le_s (rt_le_s (rt_le_j (rt_le_s rt_le_n))))))) ?_
          exact cj_X3_headLine_120 hz hd ht a1 v1 p28 p68.2 _ h hK
        · rw [if_neg q71] at h
          refine RT.aload_n (pc := 74) (k := 0) (x := a0) dX3_headLine_74 rfl ?_
          refine RT.gets 5 (pc := 75) (x := 5) dX3_headLine_75 sl_X3_165 rfl ?_
          refine RT.iconst (pc := 78) (n := 0) dX3_headLine_78 ⟨by decide, by decide⟩ ?_
          refine RT.bipush (pc := 79) (n := 99) dX3_headLine_79 ⟨by decide, by decide⟩ rfl ?_
          refine RT.aload (pc := 81) (k := 5) (x := v37) dX3_headLine_81 rfl ?_
          refine RT.iconst (pc := 83) (n := 2) dX3_headLine_83 ⟨by decide, by decide⟩ ?_
          obtain ⟨p84, hp84, h⟩ := Option.bind_eq_some_iff.mp h
          refine RT.cVz (pc := 84) (M' := M_X3_fact) (ci := 3) (x := a0) (As := [(2, 5), (0, 0), (0, 99), (2, v37), (0, 2)]) (st := []) (r := some (0, p84.1)) (mem1 := p84.2) (d' := d - 1) hz dX3_headLine_84 mw_X3_fact ml_X3_135 mi_X3_fact ht rfl rfl (Nat.le_of_ble_eq_true rfl) (Nat.le_of_ble_eq_true rfl) (by omega) rfl rfl (c_X3_fact hz (by omega) a0 5 0 99 v37 2 p68.2 _ ht hp84) ?_
          refine RT.if_eq (pc := 87) (tgt := 120) dX3_headLine_87 rfl (fun q87 => ?_) (fun q87 => ?_)
          · rw [if_pos q87] at h
            refine RT.wk (L1 := [(9, 0), (2, a1), (0, v1), (1, p28), (9, 0), (9, 0), (9, 0)]) (rt_le_j (rt_le_s (rt_le_s (rt_le_s (rt_le_s (rt_le_j (rt_le_s rt_le_n))))))) ?_
            exact cj_X3_headLine_120 hz hd ht a1 v1 p28 p84.2 _ h hK
          · rw [if_neg q87] at h
            refine RT.aload_n (pc := 90) (k := 0) (x := a0) dX3_headLine_90 rfl ?_
            refine RT.gets 3 (pc := 91) (x := 3) dX3_headLine_91 sl_X3_142 rfl ?_
            refine RT.iconst (pc := 94) (n := 0) dX3_headLine_94 ⟨by decide, by decide⟩ ?_
            refine RT.bipush (pc := 95) (n := 9) dX3_headLine_95 ⟨by decide, by decide⟩ rfl ?_
            refine RT.aload (pc := 97) (k := 5) (x := v37) dX3_headLine_97 rfl ?_
            refine RT.iconst (pc := 99) (n := 3) dX3_headLine_99 ⟨by decide, by decide⟩ ?_
            obtain ⟨p100, hp100, h⟩ := Option.bind_eq_some_iff.mp h
            refine RT.cVz (pc := 100) (M' := M_X3_fact) (ci := 3) (x := a0) (As := [(2, 3), (0, 0), (0, 9), (2, v37), (0, 3)]) (st := []) (r := some (0, p100.1)) (mem1 := p100.2) (d' := d - 1) hz dX3_headLine_100 mw_X3_fact ml_X3_135 mi_X3_fact ht rfl rfl (Nat.le_of_ble_eq_true rfl) (Nat.le_of_ble_eq_true rfl) (by omega) rfl rfl (c_X3_fact hz (by omega) a0 3 0 9 v37 3 p84.2 _ ht hp100) ?_
            refine RT.if_eq (pc := 103) (tgt := 120) dX3_headLine_103 rfl (fun q103 => ?_) (fun q103 => ?_)
            · rw [if_pos q103] at h
              refine RT.wk (L1 := [(9, 0), (2, a1), (0, v1), (1, p28), (9, 0), (9, 0), (9, 0)]) (rt_le_j (rt_le_s (rt_le_s (rt_le_s (rt_le_s (rt_le_j (rt_le_s rt_le_n))))))) ?_
              exact cj_X3_headLine_120 hz hd ht a1 v1 p28 p100.2 _ h hK
            · rw [if_neg q103] at h
              refine RT.aload_n (pc := 106) (k := 0) (x := a0) dX3_headLine_106 rfl ?_
              refine RT.gets 34 (pc := 107) (x := 34) dX3_headLine_107 sl_X3_145 rfl ?_
              obtain ⟨p110, hp110, h⟩ := Option.bind_eq_some_iff.mp h
              refine RT.cVz (pc := 110) (M' := M_X3_take) (ci := 3) (x := a0) (As := [(2, 34)]) (st := []) (r := some (0, p110.1)) (mem1 := p110.2) (d' := d - 1) hz dX3_headLine_110 mw_X3_take ml_X3_148 mi_X3_take ht rfl rfl (Nat.le_of_ble_eq_true rfl) (Nat.le_of_ble_eq_true rfl) (by omega) rfl rfl (c_X3_take hz (by omega) a0 34 p100.2 _ ht hp110) ?_
              refine RT.if_eq (pc := 113) (tgt := 120) dX3_headLine_113 rfl (fun q113 => ?_) (fun q113 => ?_)
              · rw [if_pos q113] at h
                refine RT.wk (L1 := [(9, 0), (2, a1), (0, v1), (1, p28), (9, 0), (9, 0), (9, 0)]) (rt_le_j (rt_le_s (rt_le_s (rt_le_s (rt_le_s (rt_le_j (rt_le_s rt_le_n))))))) ?_
                exact cj_X3_headLine_120 hz hd ht a1 v1 p28 p110.2 _ h hK
              · rw [if_neg q113] at h
                refine RT.iconst (pc := 116) (n := 1) dX3_headLine_116 ⟨by decide, by decide⟩ ?_
                refine RT.goto (pc := 117) (tgt := 121) dX3_headLine_117 rfl ?_
                refine RT.wk (L1 := [(9, 0), (2, a1), (0, v1), (1, p28), (9, 0), (9, 0), (9, 0)]) (rt_le_j (rt_le_s (rt_le_s (rt_le_s (rt_le_s (rt_le_j (rt_le_s rt_le_n))))))) ?_
                exact cj_X3_headLine_121 hz hd ht a1 v1 p28 1 p110.2 _ h hK
  · rw [if_neg q8] at h
    refine RT.aload_n (pc := 11) (k := 0) (x := a0) dX3_headLine_11 rfl ?_
    refine RT.iconst (pc := 12) (n := 5) dX3_headLine_12 ⟨by decide, by decide⟩ ?_
    obtain ⟨p13, hp13, h⟩ := Option.bind_eq_some_iff.mp h
    refine RT.cVz (pc := 13) (M' := M_X3_fail) (ci := 3) (x := a0) (As := [(0, 5)]) (st := []) (r := some (0, p13.1)) (mem1 := p13.2) (d' := d - 1) hz dX3_headLine_13 mw_X3_fail ml_X3_73 mi_X3_fail ht rfl rfl (Nat.le_of_ble_eq_true rfl) (Nat.le_of_ble_eq_true rfl) (by omega) rfl rfl (c_X3_fail hz (by omega) a0 5 mem0 _ ht hp13) ?_
    obtain ⟨w16, hw16, h⟩ := Option.bind_eq_some_iff.mp h
    obtain rfl := Option.some.inj h
    exact RT.zret (pc := 16) dX3_headLine_16 rfl (rt_bz_ok hw16) (Nat.le_of_eq (rt_cells_0 z)) (Nat.le_of_eq (rt_slots_0 z)) hK
theorem cj_X3_heatsLine_45_25 {G : rt_G} {d : Nat} {z : Nat × Nat} {Q : rt_P} (hz : 300 ≤ z.1) (hd : 2 ≤ d) {a0 : Int} (ht : rt_kd a0.toNat = 20 + 3) (a1 : Int) (a2 : Int) (mem0 : rt_M) (t : (Int × rt_M) ⊕ ((rt_M) ⊕ (Int × rt_M))) (h : j_X3_heatsLine_45_25 a0 a1 a2 mem0 = some t) (hK : (∀ s1 : Int × rt_M, t = .inl s1 → RT G M_X3_heatsLine d z Q 25 [(2, a0), (2, a1), (0, s1.1)] [] z s1.2) ∧ (∀ x1 : rt_M, t = .inr (.inl x1) → RT G M_X3_heatsLine d z Q 91 [(2, a0), (9, 0), (9, 0)] [] z x1) ∧ (∀ t1 : Int × rt_M, t = .inr (.inr t1) → Q (some (0, t1.1)) z t1.2)) : RT G M_X3_heatsLine d z Q 45 [(2, a0), (2, a1), (0, a2)] [] z mem0 := by
  unfold j_X3_heatsLine_45_25 at h
  refine RT.aload_n (pc := 45) (k := 0) (x := a0) dX3_heatsLine_45 rfl ?_
  refine RT.iconst (pc := 46) (n := 0) dX3_heatsLine_46 ⟨by decide, by decide⟩ ?_
  refine RT.bipush (pc := 47) (n := 9) dX3_heatsLine_47 ⟨by decide, by decide⟩ rfl ?_
  obtain ⟨p49, hp49, h⟩ := Option.bind_eq_some_iff.mp h
  refine RT.cVz (pc := 49) (M' := M_X3_isNumber) (ci := 3) (x := a0) (As := [(0, 0), (0, 9)]) (st := []) (r := some (0, p49.1)) (mem1 := p49.2) (d' := d - 1) hz dX3_heatsLine_49 mw_X3_isNumber ml_X3_194 mi_X3_isNumber ht rfl rfl (Nat.le_of_ble_eq_true rfl) (Nat.le_of_ble_eq_true rfl) (by omega) rfl rfl (c_X3_isNumber hz (by omega) a0 0 9 mem0 _ ht hp49) ?_
  refine RT.if_ne (pc := 52) (tgt := 57) dX3_heatsLine_52 rfl (fun q52 => ?_) (fun q52 => ?_)
  · rw [if_neg q52] at h
    refine RT.aload_n (pc := 57) (k := 1) (x := a1) dX3_heatsLine_57 rfl ?_
    obtain ⟨v58, hv58, h⟩ := Option.bind_eq_some_iff.mp h
    refine RT.gf 4 6 2 (pc := 58) (x := a1) (v := v58) hz dX3_heatsLine_58 fl_X3_204 rfl hv58 ?_
    refine RT.iload_n (pc := 61) (k := 2) (x := a2) dX3_heatsLine_61 rfl ?_
    refine RT.aload_n (pc := 62) (k := 0) (x := a0) dX3_heatsLine_62 rfl ?_
    obtain ⟨p63, hp63, h⟩ := Option.bind_eq_some_iff.mp h
    refine RT.cVz (pc := 63) (M' := M_X3_value) (ci := 3) (x := a0) (As := []) (st := [(0, a2), (2, v58)]) (r := some (1, p63)) (mem1 := p49.2) (d' := d - 1) hz dX3_heatsLine_63 mw_X3_value ml_X3_121 mi_X3_value ht rfl rfl (Nat.le_of_ble_eq_true rfl) (Nat.le_of_ble_eq_true rfl) (by omega) rfl rfl (c_X3_value hz (by omega) a0 p49.2 _ ht hp63) ?_
    refine RT.l2i (pc := 66) dX3_heatsLine_66 ?_
    obtain ⟨m67, hm67, h⟩ := Option.bind_eq_some_iff.mp h
    refine RT.iast (pc := 67) (x := v58) (i := a2) (v := (rt_l2i p63)) (mem1 := m67) dX3_heatsLine_67 (rt_lts hz (by decide) (by decide) hm67) hm67 ?_
    refine RT.aload_n (pc := 68) (k := 1) (x := a1) dX3_heatsLine_68 rfl ?_
    refine RT.iload_n (pc := 69) (k := 2) (x := a2) dX3_heatsLine_69 rfl ?_
    refine RT.iconst (pc := 70) (n := 1) dX3_heatsLine_70 ⟨by decide, by decide⟩ ?_
    refine RT.iadd (pc := 71) dX3_heatsLine_71 ?_
    obtain ⟨m72, hm72, h⟩ := Option.bind_eq_some_iff.mp h
    refine RT.pf_i 4 7 (pc := 72) (mem1 := m72) hz dX3_heatsLine_72 fl_X3_201 rfl rfl rfl hm72 ?_
    refine RT.aload_n (pc := 75) (k := 0) (x := a0) dX3_heatsLine_75 rfl ?_
    refine RT.dup (pc := 76) dX3_heatsLine_76 (show ¬ ((2 : Nat) = 1) by decide) ?_
    obtain ⟨v77, hv77, h⟩ := Option.bind_eq_some_iff.mp h
    refine RT.gf 3 1 0 (pc := 77) (x := a0) (v := v77) hz dX3_heatsLine_77 fl_X3_55 rfl hv77 ?_
    refine RT.iconst (pc := 80) (n := 1) dX3_heatsLine_80 ⟨by decide, by decide⟩ ?_
    refine RT.iadd (pc := 81) dX3_heatsLine_81 ?_
    obtain ⟨m82, hm82, h⟩ := Option.bind_eq_some_iff.mp h
    refine RT.pf_i 3 1 (pc := 82) (mem1 := m82) hz dX3_heatsLine_82 fl_X3_55 rfl rfl rfl hm82 ?_
    refine RT.iinc (pc := 85) (x := a2) (L1 := [(2, a0), (2, a1), (0, (rt_iadd a2 1))]) dX3_heatsLine_85 rfl (Nat.le_of_ble_eq_true rfl) ⟨by decide, by decide⟩ rfl ?_
    refine RT.goto (pc := 88) (tgt := 25) dX3_heatsLine_88 rfl ?_
    obtain rfl := Option.some.inj h
    have q1 := hK.1 (((rt_iadd a2 1), m82)) rfl
    try dsimp only at q1
    exact q1
  · rw [if_pos (Classical.not_not.mp q52)] at h
    obtain ⟨t2, g2, e2⟩ := Option.map_eq_some_iff.mp h
    subst e2
    replace h := g2
    replace hK := hK.2.2 t2 rfl
    refine RT.iconst (pc := 55) (n := 0) dX3_heatsLine_55 ⟨by decide, by decide⟩ ?_
    obtain rfl := Option.some.inj h
    exact RT.zret (pc := 56) dX3_heatsLine_56 rfl (by decide) (Nat.le_of_eq (rt_cells_0 z)) (Nat.le_of_eq (rt_slots_0 z)) hK
theorem cb_X3_heatsLine_25 {G : rt_G} {d : Nat} {z : Nat × Nat} {Q : rt_P} (hz : 300 ≤ z.1) (hd : 2 ≤ d) {a0 : Int} (ht : rt_kd a0.toNat = 20 + 3) (a1 : Int) (s : Int × rt_M) (t : (Int × rt_M) ⊕ ((rt_M) ⊕ (Int × rt_M))) (h : b_X3_heatsLine_25 a0 a1 s = some t) (hK : (∀ s1 : Int × rt_M, t = .inl s1 → RT G M_X3_heatsLine d z Q 25 [(2, a0), (2, a1), (0, s1.1)] [] z s1.2) ∧ (∀ x1 : rt_M, t = .inr (.inl x1) → RT G M_X3_heatsLine d z Q 91 [(2, a0), (9, 0), (9, 0)] [] z x1) ∧ (∀ t1 : Int × rt_M, t = .inr (.inr t1) → Q (some (0, t1.1)) z t1.2)) : RT G M_X3_heatsLine d z Q 25 [(2, a0), (2, a1), (0, s.1)] [] z s.2 := by
  unfold b_X3_heatsLine_25 at h
  refine RT.iload_n (pc := 25) (k := 2) (x := s.1) dX3_heatsLine_25 rfl ?_
  refine RT.bipush (pc := 26) (n := 12) dX3_heatsLine_26 ⟨by decide, by decide⟩ rfl ?_
  refine RT.icmp_ge (pc := 28) (tgt := 91) dX3_heatsLine_28 rfl (fun q28 => ?_) (fun q28 => ?_)
  · rw [if_pos q28] at h
    refine RT.wk (L1 := [(2, a0), (9, 0), (9, 0)]) (rt_le_s (rt_le_j (rt_le_j rt_le_n))) ?_
    obtain rfl := Option.some.inj h
    have q1 := hK.2.1 s.2 rfl
    try dsimp only at q1
    exact q1
  · rw [if_neg q28] at h
    refine RT.iload_n (pc := 31) (k := 2) (x := s.1) dX3_heatsLine_31 rfl ?_
    refine RT.if_eq (pc := 32) (tgt := 45) dX3_heatsLine_32 rfl (fun q32 => ?_) (fun q32 => ?_)
    · rw [if_pos q32] at h
      exact cj_X3_heatsLine_45_25 hz hd ht a1 s.1 s.2 _ h hK
    · rw [if_neg q32] at h
      refine RT.aload_n (pc := 35) (k := 0) (x := a0) dX3_heatsLine_35 rfl ?_
      obtain ⟨p36, hp36, h⟩ := Option.bind_eq_some_iff.mp h
      refine RT.cVz (pc := 36) (M' := M_X3_kind) (ci := 3) (x := a0) (As := []) (st := []) (r := some (2, p36)) (mem1 := s.2) (d' := d - 1) hz dX3_heatsLine_36 mw_X3_kind ml_X3_23 mi_X3_kind ht rfl rfl (Nat.le_of_ble_eq_true rfl) (Nat.le_of_ble_eq_true rfl) (by omega) rfl rfl (c_X3_kind hz (by omega) a0 s.2 _ ht hp36) ?_
      refine RT.gets 36 (pc := 39) (x := 36) dX3_heatsLine_39 sl_X3_198 rfl ?_
      refine RT.acmp_ne (pc := 42) (tgt := 91) dX3_heatsLine_42 rfl (fun q42 => ?_) (fun q42 => ?_)
      · rw [if_neg q42] at h
        refine RT.wk (L1 := [(2, a0), (9, 0), (9, 0)]) (rt_le_s (rt_le_j (rt_le_j rt_le_n))) ?_
        obtain rfl := Option.some.inj h
        have q1 := hK.2.1 s.2 rfl
        try dsimp only at q1
        exact q1
      · rw [if_pos (Classical.not_not.mp q42)] at h
        exact cj_X3_heatsLine_45_25 hz hd ht a1 s.1 s.2 _ h hK
theorem cj_X3_heatsLine_124 {G : rt_G} {d : Nat} {z : Nat × Nat} {Q : rt_P} (hz : 300 ≤ z.1) (hd : 2 ≤ d) {a0 : Int} (ht : rt_kd a0.toNat = 20 + 3) (s0 : Int) (mem0 : rt_M) (t : Int × rt_M) (h : j_X3_heatsLine_124 s0 mem0 = some t) (hK : Q (some (0, t.1)) z t.2) : RT G M_X3_heatsLine d z Q 124 [(9, 0), (9, 0), (9, 0)] [(0, s0)] z mem0 := by
  unfold j_X3_heatsLine_124 at h
  obtain ⟨w124, hw124, h⟩ := Option.bind_eq_some_iff.mp h
  obtain rfl := Option.some.inj h
  exact RT.zret (pc := 124) dX3_heatsLine_124 rfl (rt_bz_ok hw124) (Nat.le_of_eq (rt_cells_0 z)) (Nat.le_of_eq (rt_slots_0 z)) hK
theorem cj_X3_heatsLine_123 {G : rt_G} {d : Nat} {z : Nat × Nat} {Q : rt_P} (hz : 300 ≤ z.1) (hd : 2 ≤ d) {a0 : Int} (ht : rt_kd a0.toNat = 20 + 3) (mem0 : rt_M) (t : Int × rt_M) (h : j_X3_heatsLine_123 mem0 = some t) (hK : Q (some (0, t.1)) z t.2) : RT G M_X3_heatsLine d z Q 123 [(9, 0), (9, 0), (9, 0)] [] z mem0 := by
  unfold j_X3_heatsLine_123 at h
  refine RT.iconst (pc := 123) (n := 0) dX3_heatsLine_123 ⟨by decide, by decide⟩ ?_
  exact cj_X3_heatsLine_124 hz hd ht 0 mem0 _ h hK
theorem c_X3_heatsLine {G : rt_G} {d : Nat} {z : Nat × Nat} (hz : 300 ≤ z.1) (hd : 2 ≤ d) (a0 : Int) (a1 : Int) (mem0 : rt_M) (t : Int × rt_M) (ht : rt_kd a0.toNat = 20 + 3) (h : f_X3_heatsLine a0 a1 mem0 = some t) : RM G M_X3_heatsLine d [(2, a0), (2, a1)] z mem0 (some (0, t.1)) t.2 := by
  suffices H : ∀ Q : rt_P, Q (some (0, t.1)) z t.2 → RT G M_X3_heatsLine d z Q 0 [(2, a0), (2, a1), (9, 0)] [] z mem0 from H _ ⟨rfl, rfl, rfl⟩
  intro Q hK
  unfold f_X3_heatsLine at h
  refine RT.aload_n (pc := 0) (k := 1) (x := a1) dX3_heatsLine_0 rfl ?_
  obtain ⟨v1, hv1, h⟩ := Option.bind_eq_some_iff.mp h
  refine RT.gf 4 7 0 (pc := 1) (x := a1) (v := v1) hz dX3_heatsLine_1 fl_X3_201 rfl hv1 ?_
  refine RT.if_le (pc := 4) (tgt := 13) dX3_heatsLine_4 rfl (fun q4 => ?_) (fun q4 => ?_)
  · rw [if_pos q4] at h
    refine RT.aload_n (pc := 13) (k := 0) (x := a0) dX3_heatsLine_13 rfl ?_
    refine RT.dup (pc := 14) dX3_heatsLine_14 (show ¬ ((2 : Nat) = 1) by decide) ?_
    obtain ⟨v15, hv15, h⟩ := Option.bind_eq_some_iff.mp h
    refine RT.gf 3 1 0 (pc := 15) (x := a0) (v := v15) hz dX3_heatsLine_15 fl_X3_55 rfl hv15 ?_
    refine RT.iconst (pc := 18) (n := 1) dX3_heatsLine_18 ⟨by decide, by decide⟩ ?_
    refine RT.iadd (pc := 19) dX3_heatsLine_19 ?_
    obtain ⟨m20, hm20, h⟩ := Option.bind_eq_some_iff.mp h
    refine RT.pf_i 3 1 (pc := 20) (mem1 := m20) hz dX3_heatsLine_20 fl_X3_55 rfl rfl rfl hm20 ?_
    refine RT.iconst (pc := 23) (n := 0) dX3_heatsLine_23 ⟨by decide, by decide⟩ ?_
    refine RT.istore_n (pc := 24) (k := 2) (x := 0) (L1 := [(2, a0), (2, a1), (0, 0)]) dX3_heatsLine_24 (Nat.le_of_ble_eq_true rfl) rfl ?_
    obtain ⟨E25, hE25, h⟩ := Option.bind_eq_some_iff.mp h
    refine rt_it_ind (P := (fun s1 : Int × rt_M => RT G M_X3_heatsLine d z Q 25 [(2, a0), (2, a1), (0, s1.1)] [] z s1.2)) (X := (fun e1 : (rt_M) ⊕ (Int × rt_M) => (∀ x1 : rt_M, e1 = .inl x1 → RT G M_X3_heatsLine d z Q 91 [(2, a0), (9, 0), (9, 0)] [] z x1) ∧ (∀ t1 : Int × rt_M, e1 = .inr t1 → Q (some (0, t1.1)) z t1.2))) (fun s1 t1 h1 k1 k2 => cb_X3_heatsLine_25 hz hd ht a1 s1 t1 h1 ⟨k1, fun x1 q => (k2 _ q).1 x1 rfl, fun t2 q => (k2 _ q).2 t2 rfl⟩) 4000 ((0, m20)) E25 hE25 ?_
    cases E25 with
    | inr t1 =>
      obtain rfl := Option.some.inj h
      exact ⟨fun x1 q => (by cases q), fun t2 q => (by cases q; exact hK)⟩
    | inl X25 =>
      refine ⟨fun x1 q => ?_, fun t2 q => (by cases q)⟩
      cases q
      refine RT.aload_n (pc := 91) (k := 0) (x := a0) dX3_heatsLine_91 rfl ?_
      obtain ⟨p92, hp92, h⟩ := Option.bind_eq_some_iff.mp h
      refine RT.cVz (pc := 92) (M' := M_X3_kind) (ci := 3) (x := a0) (As := []) (st := []) (r := some (2, p92)) (mem1 := X25) (d' := d - 1) hz dX3_heatsLine_92 mw_X3_kind ml_X3_23 mi_X3_kind ht rfl rfl (Nat.le_of_ble_eq_true rfl) (Nat.le_of_ble_eq_true rfl) (by omega) rfl rfl (c_X3_kind hz (by omega) a0 X25 _ ht hp92) ?_
      refine RT.gets 36 (pc := 95) (x := 36) dX3_heatsLine_95 sl_X3_198 rfl ?_
      refine RT.acmp_ne (pc := 98) (tgt := 125) dX3_heatsLine_98 rfl (fun q98 => ?_) (fun q98 => ?_)
      · rw [if_neg q98] at h
        refine RT.aload_n (pc := 125) (k := 0) (x := a0) dX3_heatsLine_125 rfl ?_
        refine RT.gets 34 (pc := 126) (x := 34) dX3_heatsLine_126 sl_X3_145 rfl ?_
        obtain ⟨p129, hp129, h⟩ := Option.bind_eq_some_iff.mp h
        refine RT.cVz (pc := 129) (M' := M_X3_take) (ci := 3) (x := a0) (As := [(2, 34)]) (st := []) (r := some (0, p129.1)) (mem1 := p129.2) (d' := d - 1) hz dX3_heatsLine_129 mw_X3_take ml_X3_148 mi_X3_take ht rfl rfl (Nat.le_of_ble_eq_true rfl) (Nat.le_of_ble_eq_true rfl) (by omega) rfl rfl (c_X3_take hz (by omega) a0 34 X25 _ ht hp129) ?_
        obtain ⟨w132, hw132, h⟩ := Option.bind_eq_some_iff.mp h
        obtain rfl := Option.some.inj h
        exact RT.zret (pc := 132) dX3_heatsLine_132 rfl (rt_bz_ok hw132) (Nat.le_of_eq (rt_cells_0 z)) (Nat.le_of_eq (rt_slots_0 z)) hK
      · rw [if_pos (Classical.not_not.mp q98)] at h
        refine RT.aload_n (pc := 101) (k := 0) (x := a0) dX3_heatsLine_101 rfl ?_
        refine RT.iconst (pc := 102) (n := 0) dX3_heatsLine_102 ⟨by decide, by decide⟩ ?_
        refine RT.bipush (pc := 103) (n := 9) dX3_heatsLine_103 ⟨by decide, by decide⟩ rfl ?_
        obtain ⟨p105, hp105, h⟩ := Option.bind_eq_some_iff.mp h
        refine RT.cVz (pc := 105) (M' := M_X3_isNumber) (ci := 3) (x := a0) (As := [(0, 0), (0, 9)]) (st := []) (r := some (0, p105.1)) (mem1 := p105.2) (d' := d - 1) hz dX3_heatsLine_105 mw_X3_isNumber ml_X3_194 mi_X3_isNumber ht rfl rfl (Nat.le_of_ble_eq_true rfl) (Nat.le_of_ble_eq_true rfl) (by omega) rfl rfl (c_X3_isNumber hz (by omega) a0 0 9 X25 _ ht hp105) ?_
        refine RT.if_eq (pc := 108) (tgt := 123) dX3_heatsLine_108 rfl (fun q108 => ?_) (fun q108 => ?_)
        · rw [if_pos q108] at h
          refine RT.wk (L1 := [(9, 0), (9, 0), (9, 0)]) (rt_le_j (rt_le_s (rt_le_s rt_le_n))) ?_
          exact cj_X3_heatsLine_123 hz hd ht p105.2 _ h hK
        · rw [if_neg q108] at h
          refine RT.aload_n (pc := 111) (k := 0) (x := a0) dX3_heatsLine_111 rfl ?_
          refine RT.iconst (pc := 112) (n := 5) dX3_heatsLine_112 ⟨by decide, by decide⟩ ?_
          obtain ⟨p113, hp113, h⟩ := Option.bind_eq_some_iff.mp h
          refine RT.cVz (pc := 113) (M' := M_X3_fail) (ci := 3) (x := a0) (As := [(0, 5)]) (st := []) (r := some (0, p113.1)) (mem1 := p113.2) (d' := d - 1) hz dX3_heatsLine_113 mw_X3_fail ml_X3_73 mi_X3_fail ht rfl rfl (Nat.le_of_ble_eq_true rfl) (Nat.le_of_ble_eq_true rfl) (by omega) rfl rfl (c_X3_fail hz (by omega) a0 5 p105.2 _ ht hp113) ?_
          refine RT.if_eq (pc := 116) (tgt := 123) dX3_heatsLine_116 rfl (fun q116 => ?_) (fun q116 => ?_)
          · rw [if_pos q116] at h
            refine RT.wk (L1 := [(9, 0), (9, 0), (9, 0)]) (rt_le_j (rt_le_s (rt_le_s rt_le_n))) ?_
            exact cj_X3_heatsLine_123 hz hd ht p113.2 _ h hK
          · rw [if_neg q116] at h
            refine RT.iconst (pc := 119) (n := 1) dX3_heatsLine_119 ⟨by decide, by decide⟩ ?_
            refine RT.goto (pc := 120) (tgt := 124) dX3_heatsLine_120 rfl ?_
            refine RT.wk (L1 := [(9, 0), (9, 0), (9, 0)]) (rt_le_j (rt_le_s (rt_le_s rt_le_n))) ?_
            exact cj_X3_heatsLine_124 hz hd ht 1 p113.2 _ h hK
  · rw [if_neg q4] at h
    refine RT.aload_n (pc := 7) (k := 0) (x := a0) dX3_heatsLine_7 rfl ?_
    refine RT.iconst (pc := 8) (n := 3) dX3_heatsLine_8 ⟨by decide, by decide⟩ ?_
    obtain ⟨p9, hp9, h⟩ := Option.bind_eq_some_iff.mp h
    refine RT.cVz (pc := 9) (M' := M_X3_fail) (ci := 3) (x := a0) (As := [(0, 3)]) (st := []) (r := some (0, p9.1)) (mem1 := p9.2) (d' := d - 1) hz dX3_heatsLine_9 mw_X3_fail ml_X3_73 mi_X3_fail ht rfl rfl (Nat.le_of_ble_eq_true rfl) (Nat.le_of_ble_eq_true rfl) (by omega) rfl rfl (c_X3_fail hz (by omega) a0 3 mem0 _ ht hp9) ?_
    obtain ⟨w12, hw12, h⟩ := Option.bind_eq_some_iff.mp h
    obtain rfl := Option.some.inj h
    exact RT.zret (pc := 12) dX3_heatsLine_12 rfl (rt_bz_ok hw12) (Nat.le_of_eq (rt_cells_0 z)) (Nat.le_of_eq (rt_slots_0 z)) hK
theorem c_X3_slackLine {G : rt_G} {d : Nat} {z : Nat × Nat} (hz : 300 ≤ z.1) (hd : 2 ≤ d) (a0 : Int) (a1 : Int) (mem0 : rt_M) (t : Int × rt_M) (ht : rt_kd a0.toNat = 20 + 3) (h : f_X3_slackLine a0 a1 mem0 = some t) : RM G M_X3_slackLine d [(2, a0), (2, a1)] z mem0 (some (0, t.1)) t.2 := by
  suffices H : ∀ Q : rt_P, Q (some (0, t.1)) z t.2 → RT G M_X3_slackLine d z Q 0 [(2, a0), (2, a1)] [] z mem0 from H _ ⟨rfl, rfl, rfl⟩
  intro Q hK
  unfold f_X3_slackLine at h
  refine RT.aload_n (pc := 0) (k := 1) (x := a1) dX3_slackLine_0 rfl ?_
  obtain ⟨v1, hv1, h⟩ := Option.bind_eq_some_iff.mp h
  refine RT.gf 4 9 0 (pc := 1) (x := a1) (v := v1) hz dX3_slackLine_1 fl_X3_207 rfl hv1 ?_
  refine RT.if_eq (pc := 4) (tgt := 13) dX3_slackLine_4 rfl (fun q4 => ?_) (fun q4 => ?_)
  · rw [if_pos q4] at h
    refine RT.aload_n (pc := 13) (k := 0) (x := a0) dX3_slackLine_13 rfl ?_
    refine RT.dup (pc := 14) dX3_slackLine_14 (show ¬ ((2 : Nat) = 1) by decide) ?_
    obtain ⟨v15, hv15, h⟩ := Option.bind_eq_some_iff.mp h
    refine RT.gf 3 1 0 (pc := 15) (x := a0) (v := v15) hz dX3_slackLine_15 fl_X3_55 rfl hv15 ?_
    refine RT.iconst (pc := 18) (n := 1) dX3_slackLine_18 ⟨by decide, by decide⟩ ?_
    refine RT.iadd (pc := 19) dX3_slackLine_19 ?_
    obtain ⟨m20, hm20, h⟩ := Option.bind_eq_some_iff.mp h
    refine RT.pf_i 3 1 (pc := 20) (mem1 := m20) hz dX3_slackLine_20 fl_X3_55 rfl rfl rfl hm20 ?_
    refine RT.aload_n (pc := 23) (k := 0) (x := a0) dX3_slackLine_23 rfl ?_
    refine RT.iconst (pc := 24) (n := 0) dX3_slackLine_24 ⟨by decide, by decide⟩ ?_
    refine RT.bipush (pc := 25) (n := 9) dX3_slackLine_25 ⟨by decide, by decide⟩ rfl ?_
    obtain ⟨p27, hp27, h⟩ := Option.bind_eq_some_iff.mp h
    refine RT.cVz (pc := 27) (M' := M_X3_isNumber) (ci := 3) (x := a0) (As := [(0, 0), (0, 9)]) (st := []) (r := some (0, p27.1)) (mem1 := p27.2) (d' := d - 1) hz dX3_slackLine_27 mw_X3_isNumber ml_X3_194 mi_X3_isNumber ht rfl rfl (Nat.le_of_ble_eq_true rfl) (Nat.le_of_ble_eq_true rfl) (by omega) rfl rfl (c_X3_isNumber hz (by omega) a0 0 9 m20 _ ht hp27) ?_
    refine RT.if_ne (pc := 30) (tgt := 35) dX3_slackLine_30 rfl (fun q30 => ?_) (fun q30 => ?_)
    · rw [if_neg q30] at h
      refine RT.aload_n (pc := 35) (k := 1) (x := a1) dX3_slackLine_35 rfl ?_
      refine RT.aload_n (pc := 36) (k := 0) (x := a0) dX3_slackLine_36 rfl ?_
      obtain ⟨p37, hp37, h⟩ := Option.bind_eq_some_iff.mp h
      refine RT.cVz (pc := 37) (M' := M_X3_value) (ci := 3) (x := a0) (As := []) (st := [(2, a1)]) (r := some (1, p37)) (mem1 := p27.2) (d' := d - 1) hz dX3_slackLine_37 mw_X3_value ml_X3_121 mi_X3_value ht rfl rfl (Nat.le_of_ble_eq_true rfl) (Nat.le_of_ble_eq_true rfl) (by omega) rfl rfl (c_X3_value hz (by omega) a0 p27.2 _ ht hp37) ?_
      refine RT.l2i (pc := 40) dX3_slackLine_40 ?_
      obtain ⟨m41, hm41, h⟩ := Option.bind_eq_some_iff.mp h
      refine RT.pf_i 4 8 (pc := 41) (mem1 := m41) hz dX3_slackLine_41 fl_X3_210 rfl rfl rfl hm41 ?_
      refine RT.aload_n (pc := 44) (k := 1) (x := a1) dX3_slackLine_44 rfl ?_
      refine RT.iconst (pc := 45) (n := 1) dX3_slackLine_45 ⟨by decide, by decide⟩ ?_
      obtain ⟨m46, hm46, h⟩ := Option.bind_eq_some_iff.mp h
      refine RT.pf_z 4 9 (pc := 46) (mem1 := m46) hz dX3_slackLine_46 fl_X3_207 rfl rfl rfl (by decide) hm46 ?_
      refine RT.aload_n (pc := 49) (k := 0) (x := a0) dX3_slackLine_49 rfl ?_
      refine RT.dup (pc := 50) dX3_slackLine_50 (show ¬ ((2 : Nat) = 1) by decide) ?_
      obtain ⟨v51, hv51, h⟩ := Option.bind_eq_some_iff.mp h
      refine RT.gf 3 1 0 (pc := 51) (x := a0) (v := v51) hz dX3_slackLine_51 fl_X3_55 rfl hv51 ?_
      refine RT.iconst (pc := 54) (n := 1) dX3_slackLine_54 ⟨by decide, by decide⟩ ?_
      refine RT.iadd (pc := 55) dX3_slackLine_55 ?_
      obtain ⟨m56, hm56, h⟩ := Option.bind_eq_some_iff.mp h
      refine RT.pf_i 3 1 (pc := 56) (mem1 := m56) hz dX3_slackLine_56 fl_X3_55 rfl rfl rfl hm56 ?_
      refine RT.aload_n (pc := 59) (k := 0) (x := a0) dX3_slackLine_59 rfl ?_
      refine RT.gets 34 (pc := 60) (x := 34) dX3_slackLine_60 sl_X3_145 rfl ?_
      obtain ⟨p63, hp63, h⟩ := Option.bind_eq_some_iff.mp h
      refine RT.cVz (pc := 63) (M' := M_X3_take) (ci := 3) (x := a0) (As := [(2, 34)]) (st := []) (r := some (0, p63.1)) (mem1 := p63.2) (d' := d - 1) hz dX3_slackLine_63 mw_X3_take ml_X3_148 mi_X3_take ht rfl rfl (Nat.le_of_ble_eq_true rfl) (Nat.le_of_ble_eq_true rfl) (by omega) rfl rfl (c_X3_take hz (by omega) a0 34 m56 _ ht hp63) ?_
      obtain ⟨w66, hw66, h⟩ := Option.bind_eq_some_iff.mp h
      obtain rfl := Option.some.inj h
      exact RT.zret (pc := 66) dX3_slackLine_66 rfl (rt_bz_ok hw66) (Nat.le_of_eq (rt_cells_0 z)) (Nat.le_of_eq (rt_slots_0 z)) hK
    · rw [if_pos (Classical.not_not.mp q30)] at h
      refine RT.iconst (pc := 33) (n := 0) dX3_slackLine_33 ⟨by decide, by decide⟩ ?_
      obtain rfl := Option.some.inj h
      exact RT.zret (pc := 34) dX3_slackLine_34 rfl (by decide) (Nat.le_of_eq (rt_cells_0 z)) (Nat.le_of_eq (rt_slots_0 z)) hK
  · rw [if_neg q4] at h
    refine RT.aload_n (pc := 7) (k := 0) (x := a0) dX3_slackLine_7 rfl ?_
    refine RT.iconst (pc := 8) (n := 3) dX3_slackLine_8 ⟨by decide, by decide⟩ ?_
    obtain ⟨p9, hp9, h⟩ := Option.bind_eq_some_iff.mp h
    refine RT.cVz (pc := 9) (M' := M_X3_fail) (ci := 3) (x := a0) (As := [(0, 3)]) (st := []) (r := some (0, p9.1)) (mem1 := p9.2) (d' := d - 1) hz dX3_slackLine_9 mw_X3_fail ml_X3_73 mi_X3_fail ht rfl rfl (Nat.le_of_ble_eq_true rfl) (Nat.le_of_ble_eq_true rfl) (by omega) rfl rfl (c_X3_fail hz (by omega) a0 3 mem0 _ ht hp9) ?_
    obtain ⟨w12, hw12, h⟩ := Option.bind_eq_some_iff.mp h
    obtain rfl := Option.some.inj h
    exact RT.zret (pc := 12) dX3_slackLine_12 rfl (rt_bz_ok hw12) (Nat.le_of_eq (rt_cells_0 z)) (Nat.le_of_eq (rt_slots_0 z)) hK
theorem cj_X3_jointOf_79 {G : rt_G} {d : Nat} {z : Nat × Nat} {Q : rt_P} (hz : 300 ≤ z.1) (hd : 1 ≤ d) {a0 : Int} (ht : rt_kd a0.toNat = 20 + 3) (s0 : Int) (mem0 : rt_M) (t : Int) (h : j_X3_jointOf_79 s0 mem0 = some t) (hK : Q (some (0, t)) z mem0) : RT G M_X3_jointOf d z Q 79 [(9, 0), (9, 0), (9, 0)] [(0, s0)] z mem0 := by
  unfold j_X3_jointOf_79 at h
  obtain rfl := Option.some.inj h
  exact RT.iret (pc := 79) dX3_jointOf_79 rfl (Nat.le_of_eq (rt_cells_0 z)) (Nat.le_of_eq (rt_slots_0 z)) hK
theorem cj_X3_jointOf_65 {G : rt_G} {d : Nat} {z : Nat × Nat} {Q : rt_P} (hz : 300 ≤ z.1) (hd : 1 ≤ d) {a0 : Int} (ht : rt_kd a0.toNat = 20 + 3) (s0 : Int) (mem0 : rt_M) (t : Int) (h : j_X3_jointOf_65 s0 mem0 = some t) (hK : Q (some (0, t)) z mem0) : RT G M_X3_jointOf d z Q 65 [(9, 0), (9, 0), (9, 0)] [(0, s0)] z mem0 := by
  unfold j_X3_jointOf_65 at h
  obtain rfl := Option.some.inj h
  exact RT.iret (pc := 65) dX3_jointOf_65 rfl (Nat.le_of_eq (rt_cells_0 z)) (Nat.le_of_eq (rt_slots_0 z)) hK
theorem cj_X3_jointOf_34 {G : rt_G} {d : Nat} {z : Nat × Nat} {Q : rt_P} (hz : 300 ≤ z.1) (hd : 1 ≤ d) {a0 : Int} (ht : rt_kd a0.toNat = 20 + 3) (s0 : Int) (mem0 : rt_M) (t : Int) (h : j_X3_jointOf_34 s0 mem0 = some t) (hK : Q (some (0, t)) z mem0) : RT G M_X3_jointOf d z Q 34 [(9, 0), (9, 0), (9, 0)] [(0, s0)] z mem0 := by
  unfold j_X3_jointOf_34 at h
  obtain rfl := Option.some.inj h
  exact RT.iret (pc := 34) dX3_jointOf_34 rfl (Nat.le_of_eq (rt_cells_0 z)) (Nat.le_of_eq (rt_slots_0 z)) hK
theorem c_X3_jointOf {G : rt_G} {d : Nat} {z : Nat × Nat} (hz : 300 ≤ z.1) (hd : 1 ≤ d) (a0 : Int) (a1 : Int) (mem0 : rt_M) (t : Int) (ht : rt_kd a0.toNat = 20 + 3) (h : f_X3_jointOf a0 a1 mem0 = some t) : RM G M_X3_jointOf d [(2, a0), (0, a1)] z mem0 (some (0, t)) mem0 := by
  suffices H : ∀ Q : rt_P, Q (some (0, t)) z mem0 → RT G M_X3_jointOf d z Q 0 [(2, a0), (0, a1), (9, 0)] [] z mem0 from H _ ⟨rfl, rfl, rfl⟩
  intro Q hK
  unfold f_X3_jointOf at h
  refine RT.aload_n (pc := 0) (k := 0) (x := a0) dX3_jointOf_0 rfl ?_
  obtain ⟨p1, hp1, h⟩ := Option.bind_eq_some_iff.mp h
  refine RT.cVz (pc := 1) (M' := M_X3_kind) (ci := 3) (x := a0) (As := []) (st := []) (r := some (2, p1)) (mem1 := mem0) (d' := d - 1) hz dX3_jointOf_1 mw_X3_kind ml_X3_23 mi_X3_kind ht rfl rfl (Nat.le_of_ble_eq_true rfl) (Nat.le_of_ble_eq_true rfl) (by omega) rfl rfl (c_X3_kind hz (by omega) a0 mem0 _ ht hp1) ?_
  refine RT.astore_n (pc := 4) (k := 2) (x := p1) (L1 := [(2, a0), (0, a1), (2, p1)]) dX3_jointOf_4 (Nat.le_of_ble_eq_true rfl) rfl ?_
  refine RT.iload_n (pc := 5) (k := 1) (x := a1) dX3_jointOf_5 rfl ?_
  refine RT.if_ne (pc := 6) (tgt := 35) dX3_jointOf_6 rfl (fun q6 => ?_) (fun q6 => ?_)
  · rw [if_neg q6] at h
    refine RT.iload_n (pc := 35) (k := 1) (x := a1) dX3_jointOf_35 rfl ?_
    refine RT.iconst (pc := 36) (n := 1) dX3_jointOf_36 ⟨by decide, by decide⟩ ?_
    refine RT.icmp_ne (pc := 37) (tgt := 66) dX3_jointOf_37 rfl (fun q37 => ?_) (fun q37 => ?_)
    · rw [if_neg q37] at h
      refine RT.aload_n (pc := 66) (k := 2) (x := p1) dX3_jointOf_66 rfl ?_
      refine RT.gets 33 (pc := 67) (x := 33) dX3_jointOf_67 sl_X3_252 rfl ?_
      refine RT.acmp_ne (pc := 70) (tgt := 78) dX3_jointOf_70 rfl (fun q70 => ?_) (fun q70 => ?_)
      · rw [if_neg q70] at h
        refine RT.iconst (pc := 78) (n := 0) dX3_jointOf_78 ⟨by decide, by decide⟩ ?_
        refine RT.wk (L1 := [(9, 0), (9, 0), (9, 0)]) (rt_le_j (rt_le_j (rt_le_j rt_le_n))) ?_
        exact cj_X3_jointOf_79 hz hd ht 0 mem0 _ h hK
      · rw [if_pos (Classical.not_not.mp q70)] at h
        refine RT.bipush (pc := 73) (n := (-11)) dX3_jointOf_73 ⟨by decide, by decide⟩ rfl ?_
        refine RT.goto (pc := 75) (tgt := 79) dX3_jointOf_75 rfl ?_
        refine RT.wk (L1 := [(9, 0), (9, 0), (9, 0)]) (rt_le_j (rt_le_j (rt_le_j rt_le_n))) ?_
        exact cj_X3_jointOf_79 hz hd ht ((-11)) mem0 _ h hK
    · rw [if_pos (Classical.not_not.mp q37)] at h
      refine RT.aload_n (pc := 40) (k := 2) (x := p1) dX3_jointOf_40 rfl ?_
      refine RT.gets 31 (pc := 41) (x := 31) dX3_jointOf_41 sl_X3_246 rfl ?_
      refine RT.acmp_ne (pc := 44) (tgt := 52) dX3_jointOf_44 rfl (fun q44 => ?_) (fun q44 => ?_)
      · rw [if_neg q44] at h
        refine RT.aload_n (pc := 52) (k := 2) (x := p1) dX3_jointOf_52 rfl ?_
        refine RT.gets 32 (pc := 53) (x := 32) dX3_jointOf_53 sl_X3_249 rfl ?_
        refine RT.acmp_ne (pc := 56) (tgt := 64) dX3_jointOf_56 rfl (fun q56 => ?_) (fun q56 => ?_)
        · rw [if_neg q56] at h
          refine RT.iconst (pc := 64) (n := 0) dX3_jointOf_64 ⟨by decide, by decide⟩ ?_
          refine RT.wk (L1 := [(9, 0), (9, 0), (9, 0)]) (rt_le_j (rt_le_j (rt_le_j rt_le_n))) ?_
          exact cj_X3_jointOf_65 hz hd ht 0 mem0 _ h hK
        · rw [if_pos (Classical.not_not.mp q56)] at h
          refine RT.bipush (pc := 59) (n := (-10)) dX3_jointOf_59 ⟨by decide, by decide⟩ rfl ?_
          refine RT.goto (pc := 61) (tgt := 65) dX3_jointOf_61 rfl ?_
          refine RT.wk (L1 := [(9, 0), (9, 0), (9, 0)]) (rt_le_j (rt_le_j (rt_le_j rt_le_n))) ?_
          exact cj_X3_jointOf_65 hz hd ht ((-10)) mem0 _ h hK
      · rw [if_pos (Classical.not_not.mp q44)] at h
        refine RT.bipush (pc := 47) (n := (-9)) dX3_jointOf_47 ⟨by decide, by decide⟩ rfl ?_
        refine RT.goto (pc := 49) (tgt := 65) dX3_jointOf_49 rfl ?_
        refine RT.wk (L1 := [(9, 0), (9, 0), (9, 0)]) (rt_le_j (rt_le_j (rt_le_j rt_le_n))) ?_
        exact cj_X3_jointOf_65 hz hd ht ((-9)) mem0 _ h hK
  · rw [if_pos (Classical.not_not.mp q6)] at h
    refine RT.aload_n (pc := 9) (k := 2) (x := p1) dX3_jointOf_9 rfl ?_
    refine RT.gets 19 (pc := 10) (x := 19) dX3_jointOf_10 sl_X3_240 rfl ?_
    refine RT.acmp_ne (pc := 13) (tgt := 21) dX3_jointOf_13 rfl (fun q13 => ?_) (fun q13 => ?_)
    · rw [if_neg q13] at h
      refine RT.aload_n (pc := 21) (k := 2) (x := p1) dX3_jointOf_21 rfl ?_
      refine RT.gets 20 (pc := 22) (x := 20) dX3_jointOf_22 sl_X3_243 rfl ?_
      refine RT.acmp_ne (pc := 25) (tgt := 33) dX3_jointOf_25 rfl (fun q25 => ?_) (fun q25 => ?_)
      · rw [if_neg q25] at h
        refine RT.iconst (pc := 33) (n := 0) dX3_jointOf_33 ⟨by decide, by decide⟩ ?_
        refine RT.wk (L1 := [(9, 0), (9, 0), (9, 0)]) (rt_le_j (rt_le_j (rt_le_j rt_le_n))) ?_
        exact cj_X3_jointOf_34 hz hd ht 0 mem0 _ h hK
      · rw [if_pos (Classical.not_not.mp q25)] at h
        refine RT.bipush (pc := 28) (n := (-6)) dX3_jointOf_28 ⟨by decide, by decide⟩ rfl ?_
        refine RT.goto (pc := 30) (tgt := 34) dX3_jointOf_30 rfl ?_
        refine RT.wk (L1 := [(9, 0), (9, 0), (9, 0)]) (rt_le_j (rt_le_j (rt_le_j rt_le_n))) ?_
        exact cj_X3_jointOf_34 hz hd ht ((-6)) mem0 _ h hK
    · rw [if_pos (Classical.not_not.mp q13)] at h
      refine RT.bipush (pc := 16) (n := (-5)) dX3_jointOf_16 ⟨by decide, by decide⟩ rfl ?_
      refine RT.goto (pc := 18) (tgt := 34) dX3_jointOf_18 rfl ?_
      refine RT.wk (L1 := [(9, 0), (9, 0), (9, 0)]) (rt_le_j (rt_le_j (rt_le_j rt_le_n))) ?_
      exact cj_X3_jointOf_34 hz hd ht ((-5)) mem0 _ h hK
