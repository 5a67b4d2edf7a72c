theorem cb_X7_clear_7 {G : rt_G} {d : Nat} {z : Nat × Nat} {Q : rt_P} (hz : 300 ≤ z.1) (hd : 0 ≤ d) {a0 : Int} (ht : rt_kd a0.toNat = 20 + 7) (s : Int × rt_M) (t : (Int × rt_M) ⊕ (rt_M)) (h : b_X7_clear_7 a0 s = some t) (hK : (∀ s1 : Int × rt_M, t = .inl s1 → RT G M_X7_clear d z Q 7 [(2, a0), (0, s1.1)] [] z s1.2) ∧ (∀ x1 : rt_M, t = .inr x1 → RT G M_X7_clear d z Q 33 [(9, 0), (9, 0)] [] z x1)) : RT G M_X7_clear d z Q 7 [(2, a0), (0, s.1)] [] z s.2 := by
  unfold b_X7_clear_7 at h
  refine RT.iload_n (pc := 7) (k := 1) (x := s.1) dX7_clear_7 rfl ?_
  refine RT.bipush (pc := 8) (n := 6) dX7_clear_8 ⟨by decide, by decide⟩ rfl ?_
  refine RT.icmp_ge (pc := 10) (tgt := 33) dX7_clear_10 rfl (fun q10 => ?_) (fun q10 => ?_)
  · rw [if_pos q10] at h
    refine RT.wk (L1 := [(9, 0), (9, 0)]) (rt_le_j (rt_le_j rt_le_n)) ?_
    obtain rfl := Option.some.inj h
    have q1 := hK.2 s.2 rfl
    try dsimp only at q1
    exact q1
  · rw [if_neg q10] at h
    refine RT.aload_n (pc := 13) (k := 0) (x := a0) dX7_clear_13 rfl ?_
    obtain ⟨v14, hv14, h⟩ := Option.bind_eq_some_iff.mp h
    refine RT.gf 7 1 2 (pc := 14) (x := a0) (v := v14) hz dX7_clear_14 fl_X7_9 rfl hv14 ?_
    refine RT.iload_n (pc := 17) (k := 1) (x := s.1) dX7_clear_17 rfl ?_
    refine RT.iconst (pc := 18) (n := (-1)) dX7_clear_18 ⟨by decide, by decide⟩ ?_
    obtain ⟨m19, hm19, h⟩ := Option.bind_eq_some_iff.mp h
    refine RT.iast (pc := 19) (x := v14) (i := s.1) (v := (-1)) (mem1 := m19) dX7_clear_19 (rt_lts hz (by decide) (by decide) hm19) hm19 ?_
    refine RT.aload_n (pc := 20) (k := 0) (x := a0) dX7_clear_20 rfl ?_
    obtain ⟨v21, hv21, h⟩ := Option.bind_eq_some_iff.mp h
    refine RT.gf 7 2 2 (pc := 21) (x := a0) (v := v21) hz dX7_clear_21 fl_X7_15 rfl hv21 ?_
    refine RT.iload_n (pc := 24) (k := 1) (x := s.1) dX7_clear_24 rfl ?_
    refine RT.iconst (pc := 25) (n := 0) dX7_clear_25 ⟨by decide, by decide⟩ ?_
    obtain ⟨m26, hm26, h⟩ := Option.bind_eq_some_iff.mp h
    refine RT.iast (pc := 26) (x := v21) (i := s.1) (v := 0) (mem1 := m26) dX7_clear_26 (rt_lts hz (by decide) (by decide) hm26) hm26 ?_
    refine RT.iinc (pc := 27) (x := s.1) (L1 := [(2, a0), (0, (rt_iadd s.1 1))]) dX7_clear_27 rfl (Nat.le_of_ble_eq_true rfl) ⟨by decide, by decide⟩ rfl ?_
    refine RT.goto (pc := 30) (tgt := 7) dX7_clear_30 rfl ?_
    obtain rfl := Option.some.inj h
    have q1 := hK.1 (((rt_iadd s.1 1), m26)) rfl
    try dsimp only at q1
    exact q1
theorem c_X7_clear {G : rt_G} {d : Nat} {z : Nat × Nat} (hz : 300 ≤ z.1) (hd : 0 ≤ d) (a0 : Int) (mem0 : rt_M) (t : rt_M) (ht : rt_kd a0.toNat = 20 + 7) (h : f_X7_clear a0 mem0 = some t) : RM G M_X7_clear d [(2, a0)] z mem0 none t := by
  suffices H : ∀ Q : rt_P, Q none z t → RT G M_X7_clear d z Q 0 [(2, a0), (9, 0)] [] z mem0 from H _ ⟨rfl, rfl, rfl⟩
  intro Q hK
  unfold f_X7_clear at h
  refine RT.aload_n (pc := 0) (k := 0) (x := a0) dX7_clear_0 rfl ?_
  refine RT.iconst (pc := 1) (n := 0) dX7_clear_1 ⟨by decide, by decide⟩ ?_
  obtain ⟨m2, hm2, h⟩ := Option.bind_eq_some_iff.mp h
  refine RT.pf_i 7 0 (pc := 2) (mem1 := m2) hz dX7_clear_2 fl_X7_18 rfl rfl rfl hm2 ?_
  refine RT.iconst (pc := 5) (n := 0) dX7_clear_5 ⟨by decide, by decide⟩ ?_
  refine RT.istore_n (pc := 6) (k := 1) (x := 0) (L1 := [(2, a0), (0, 0)]) dX7_clear_6 (Nat.le_of_ble_eq_true rfl) rfl ?_
  obtain ⟨X7, hX7, h⟩ := Option.bind_eq_some_iff.mp h
  refine rt_it_ind (P := (fun s1 : Int × rt_M => RT G M_X7_clear d z Q 7 [(2, a0), (0, s1.1)] [] z s1.2)) (X := (fun x1 : rt_M => RT G M_X7_clear d z Q 33 [(9, 0), (9, 0)] [] z x1)) (fun s1 t1 h1 k1 k2 => cb_X7_clear_7 hz hd ht s1 t1 h1 ⟨k1, k2⟩) 4000 ((0, m2)) X7 hX7 ?_
  obtain rfl := Option.some.inj h
  exact RT.vret (pc := 33) dX7_clear_33 rfl (Nat.le_of_eq (rt_cells_0 z)) (Nat.le_of_eq (rt_slots_0 z)) hK
theorem cb_X0_forgetTilts_2 {G : rt_G} {d : Nat} {z : Nat × Nat} {Q : rt_P} (hz : 300 ≤ z.1) (hd : 0 ≤ d) {a0 : Int} (ht : rt_kd a0.toNat = 20 + 0) (s : Int × rt_M) (t : (Int × rt_M) ⊕ (rt_M)) (h : b_X0_forgetTilts_2 a0 s = some t) (hK : (∀ s1 : Int × rt_M, t = .inl s1 → RT G M_X0_forgetTilts d z Q 2 [(2, a0), (0, s1.1)] [] z s1.2) ∧ (∀ x1 : rt_M, t = .inr x1 → RT G M_X0_forgetTilts d z Q 21 [(9, 0), (9, 0)] [] z x1)) : RT G M_X0_forgetTilts d z Q 2 [(2, a0), (0, s.1)] [] z s.2 := by
  unfold b_X0_forgetTilts_2 at h
  refine RT.iload_n (pc := 2) (k := 1) (x := s.1) dX0_forgetTilts_2 rfl ?_
  refine RT.bipush (pc := 3) (n := 6) dX0_forgetTilts_3 ⟨by decide, by decide⟩ rfl ?_
  refine RT.icmp_ge (pc := 5) (tgt := 21) dX0_forgetTilts_5 rfl (fun q5 => ?_) (fun q5 => ?_)
  · rw [if_pos q5] at h
    refine RT.wk (L1 := [(9, 0), (9, 0)]) (rt_le_j (rt_le_j rt_le_n)) ?_
    obtain rfl := Option.some.inj h
    have q1 := hK.2 s.2 rfl
    try dsimp only at q1
    exact q1
  · rw [if_neg q5] at h
    refine RT.aload_n (pc := 8) (k := 0) (x := a0) dX0_forgetTilts_8 rfl ?_
    obtain ⟨v9, hv9, h⟩ := Option.bind_eq_some_iff.mp h
    refine RT.gf 0 3 2 (pc := 9) (x := a0) (v := v9) hz dX0_forgetTilts_9 fl_X0_32 rfl hv9 ?_
    refine RT.iload_n (pc := 12) (k := 1) (x := s.1) dX0_forgetTilts_12 rfl ?_
    refine RT.iconst (pc := 13) (n := (-1)) dX0_forgetTilts_13 ⟨by decide, by decide⟩ ?_
    obtain ⟨m14, hm14, h⟩ := Option.bind_eq_some_iff.mp h
    refine RT.iast (pc := 14) (x := v9) (i := s.1) (v := (-1)) (mem1 := m14) dX0_forgetTilts_14 (rt_lts hz (by decide) (by decide) hm14) hm14 ?_
    refine RT.iinc (pc := 15) (x := s.1) (L1 := [(2, a0), (0, (rt_iadd s.1 1))]) dX0_forgetTilts_15 rfl (Nat.le_of_ble_eq_true rfl) ⟨by decide, by decide⟩ rfl ?_
    refine RT.goto (pc := 18) (tgt := 2) dX0_forgetTilts_18 rfl ?_
    obtain rfl := Option.some.inj h
    have q1 := hK.1 (((rt_iadd s.1 1), m14)) rfl
    try dsimp only at q1
    exact q1
theorem c_X0_forgetTilts {G : rt_G} {d : Nat} {z : Nat × Nat} (hz : 300 ≤ z.1) (hd : 0 ≤ d) (a0 : Int) (mem0 : rt_M) (t : rt_M) (ht : rt_kd a0.toNat = 20 + 0) (h : f_X0_forgetTilts a0 mem0 = some t) : RM G M_X0_forgetTilts d [(2, a0)] z mem0 none t := by
  suffices H : ∀ Q : rt_P, Q none z t → RT G M_X0_forgetTilts d z Q 0 [(2, a0), (9, 0)] [] z mem0 from H _ ⟨rfl, rfl, rfl⟩
  intro Q hK
  unfold f_X0_forgetTilts at h
  refine RT.iconst (pc := 0) (n := 0) dX0_forgetTilts_0 ⟨by decide, by decide⟩ ?_
  refine RT.istore_n (pc := 1) (k := 1) (x := 0) (L1 := [(2, a0), (0, 0)]) dX0_forgetTilts_1 (Nat.le_of_ble_eq_true rfl) rfl ?_
  obtain ⟨X2, hX2, h⟩ := Option.bind_eq_some_iff.mp h
  refine rt_it_ind (P := (fun s1 : Int × rt_M => RT G M_X0_forgetTilts d z Q 2 [(2, a0), (0, s1.1)] [] z s1.2)) (X := (fun x1 : rt_M => RT G M_X0_forgetTilts d z Q 21 [(9, 0), (9, 0)] [] z x1)) (fun s1 t1 h1 k1 k2 => cb_X0_forgetTilts_2 hz hd ht s1 t1 h1 ⟨k1, k2⟩) 4000 ((0, mem0)) X2 hX2 ?_
  obtain rfl := Option.some.inj h
  exact RT.vret (pc := 21) dX0_forgetTilts_21 rfl (Nat.le_of_eq (rt_cells_0 z)) (Nat.le_of_eq (rt_slots_0 z)) hK
theorem c_X0_clear {G : rt_G} {d : Nat} {z : Nat × Nat} (hz : 300 ≤ z.1) (hd : 1 ≤ d) (a0 : Int) (mem0 : rt_M) (t : rt_M) (ht : rt_kd a0.toNat = 20 + 0) (h : f_X0_clear a0 mem0 = some t) : RM G M_X0_clear d [(2, a0)] z mem0 none t := by
  suffices H : ∀ Q : rt_P, Q none z t → RT G M_X0_clear d z Q 0 [(2, a0)] [] z mem0 from H _ ⟨rfl, rfl, rfl⟩
  intro Q hK
  unfold f_X0_clear at h
  refine RT.aload_n (pc := 0) (k := 0) (x := a0) dX0_clear_0 rfl ?_
  obtain ⟨v1, hv1, h⟩ := Option.bind_eq_some_iff.mp h
  refine RT.gf 0 0 2 (pc := 1) (x := a0) (v := v1) hz dX0_clear_1 fl_X0_12 rfl hv1 ?_
  obtain ⟨p4, hp4, h⟩ := Option.bind_eq_some_iff.mp h
  obtain ⟨hk4, hp4⟩ := rt_gd_some hp4
  refine RT.cVz (pc := 4) (M' := M_X7_clear) (ci := 7) (x := v1) (As := []) (st := []) (r := none) (mem1 := p4) (d' := d - 1) hz dX0_clear_4 mw_X7_clear ml_X0_36 mi_X7_clear hk4 rfl rfl (Nat.le_of_ble_eq_true rfl) (Nat.le_of_ble_eq_true rfl) (by omega) rfl rfl (c_X7_clear hz (by omega) v1 mem0 _ hk4 hp4) ?_
  refine RT.aload_n (pc := 7) (k := 0) (x := a0) dX0_clear_7 rfl ?_
  obtain ⟨v8, hv8, h⟩ := Option.bind_eq_some_iff.mp h
  refine RT.gf 0 1 2 (pc := 8) (x := a0) (v := v8) hz dX0_clear_8 fl_X0_21 rfl hv8 ?_
  refine RT.iconst (pc := 11) (n := 0) dX0_clear_11 ⟨by decide, by decide⟩ ?_
  obtain ⟨m12, hm12, h⟩ := Option.bind_eq_some_iff.mp h
  refine RT.pf_i 10 0 (pc := 12) (mem1 := m12) hz dX0_clear_12 fl_X0_39 rfl rfl rfl hm12 ?_
  refine RT.aload_n (pc := 15) (k := 0) (x := a0) dX0_clear_15 rfl ?_
  obtain ⟨v16, hv16, h⟩ := Option.bind_eq_some_iff.mp h
  refine RT.gf 0 2 2 (pc := 16) (x := a0) (v := v16) hz dX0_clear_16 fl_X0_28 rfl hv16 ?_
  refine RT.iconst (pc := 19) (n := 0) dX0_clear_19 ⟨by decide, by decide⟩ ?_
  obtain ⟨m20, hm20, h⟩ := Option.bind_eq_some_iff.mp h
  refine RT.pf_i 6 0 (pc := 20) (mem1 := m20) hz dX0_clear_20 fl_X0_43 rfl rfl rfl hm20 ?_
  refine RT.aload_n (pc := 23) (k := 0) (x := a0) dX0_clear_23 rfl ?_
  obtain ⟨p24, hp24, h⟩ := Option.bind_eq_some_iff.mp h
  refine RT.cVz (pc := 24) (M' := M_X0_forgetTilts) (ci := 0) (x := a0) (As := []) (st := []) (r := none) (mem1 := p24) (d' := d - 1) hz dX0_clear_24 mw_X0_forgetTilts ml_X0_44 mi_X0_forgetTilts ht rfl rfl (Nat.le_of_ble_eq_true rfl) (Nat.le_of_ble_eq_true rfl) (by omega) rfl rfl (c_X0_forgetTilts hz (by omega) a0 m20 _ ht hp24) ?_
  obtain rfl := Option.some.inj h
  exact RT.vret (pc := 27) dX0_clear_27 rfl (Nat.le_of_eq (rt_cells_0 z)) (Nat.le_of_eq (rt_slots_0 z)) hK
theorem cj_X0_tiltsTold_23_4 {G : rt_G} {d : Nat} {z : Nat × Nat} {Q : rt_P} (hz : 300 ≤ z.1) (hd : 0 ≤ d) {a0 : Int} (ht : rt_kd a0.toNat = 20 + 0) (a1 : Int) (a2 : Int) (mem0 : rt_M) (t : (Int × Int) ⊕ (Int)) (h : j_X0_tiltsTold_23_4 a0 a1 a2 mem0 = some t) (hK : (∀ s1 : Int × Int, t = .inl s1 → RT G M_X0_tiltsTold d z Q 4 [(2, a0), (0, s1.1), (0, s1.2)] [] z mem0) ∧ (∀ x1 : Int, t = .inr x1 → RT G M_X0_tiltsTold d z Q 29 [(9, 0), (0, x1), (9, 0)] [] z mem0)) : RT G M_X0_tiltsTold d z Q 23 [(2, a0), (0, a1), (0, a2)] [] z mem0 := by
  unfold j_X0_tiltsTold_23_4 at h
  refine RT.iinc (pc := 23) (x := a2) (L1 := [(2, a0), (0, a1), (0, (rt_iadd a2 1))]) dX0_tiltsTold_23 rfl (Nat.le_of_ble_eq_true rfl) ⟨by decide, by decide⟩ rfl ?_
  refine RT.goto (pc := 26) (tgt := 4) dX0_tiltsTold_26 rfl ?_
  obtain rfl := Option.some.inj h
  have q1 := hK.1 ((a1, (rt_iadd a2 1))) rfl
  try dsimp only at q1
  exact q1
theorem cb_X0_tiltsTold_4 {G : rt_G} {d : Nat} {z : Nat × Nat} {Q : rt_P} (hz : 300 ≤ z.1) (hd : 0 ≤ d) {a0 : Int} (ht : rt_kd a0.toNat = 20 + 0) (mem0 : rt_M) (s : Int × Int) (t : (Int × Int) ⊕ (Int)) (h : b_X0_tiltsTold_4 a0 mem0 s = some t) (hK : (∀ s1 : Int × Int, t = .inl s1 → RT G M_X0_tiltsTold d z Q 4 [(2, a0), (0, s1.1), (0, s1.2)] [] z mem0) ∧ (∀ x1 : Int, t = .inr x1 → RT G M_X0_tiltsTold d z Q 29 [(9, 0), (0, x1), (9, 0)] [] z mem0)) : RT G M_X0_tiltsTold d z Q 4 [(2, a0), (0, s.1), (0, s.2)] [] z mem0 := by
  unfold b_X0_tiltsTold_4 at h
  refine RT.iload_n (pc := 4) (k := 2) (x := s.2) dX0_tiltsTold_4 rfl ?_
  refine RT.bipush (pc := 5) (n := 6) dX0_tiltsTold_5 ⟨by decide, by decide⟩ rfl ?_
  refine RT.icmp_ge (pc := 7) (tgt := 29) dX0_tiltsTold_7 rfl (fun q7 => ?_) (fun q7 => ?_)
  · rw [if_pos q7] at h
    refine RT.wk (L1 := [(9, 0), (0, s.1), (9, 0)]) (rt_le_j (rt_le_s (rt_le_j rt_le_n))) ?_
    obtain rfl := Option.some.inj h
    have q1 := hK.2 s.1 rfl
    try dsimp only at q1
    exact q1
  · rw [if_neg q7] at h
    refine RT.aload_n (pc := 10) (k := 0) (x := a0) dX0_tiltsTold_10 rfl ?_
    obtain ⟨v11, hv11, h⟩ := Option.bind_eq_some_iff.mp h
    refine RT.gf 0 3 2 (pc := 11) (x := a0) (v := v11) hz dX0_tiltsTold_11 fl_X0_32 rfl hv11 ?_
    refine RT.iload_n (pc := 14) (k := 2) (x := s.2) dX0_tiltsTold_14 rfl ?_
    obtain ⟨v15, hv15, h⟩ := Option.bind_eq_some_iff.mp h
    refine RT.iald (pc := 15) (x := v11) (i := s.2) (v := v15) dX0_tiltsTold_15 (rt_lta hz (by decide) (by decide) hv15) hv15 ?_
    refine RT.iconst (pc := 16) (n := (-1)) dX0_tiltsTold_16 ⟨by decide, by decide⟩ ?_
    refine RT.icmp_eq (pc := 17) (tgt := 23) dX0_tiltsTold_17 rfl (fun q17 => ?_) (fun q17 => ?_)
    · rw [if_pos q17] at h
      exact cj_X0_tiltsTold_23_4 hz hd ht s.1 s.2 mem0 _ h hK
    · rw [if_neg q17] at h
      refine RT.iinc (pc := 20) (x := s.1) (L1 := [(2, a0), (0, (rt_iadd s.1 1)), (0, s.2)]) dX0_tiltsTold_20 rfl (Nat.le_of_ble_eq_true rfl) ⟨by decide, by decide⟩ rfl ?_
      exact cj_X0_tiltsTold_23_4 hz hd ht ((rt_iadd s.1 1)) s.2 mem0 _ h hK
theorem c_X0_tiltsTold {G : rt_G} {d : Nat} {z : Nat × Nat} (hz : 300 ≤ z.1) (hd : 0 ≤ d) (a0 : Int) (mem0 : rt_M) (t : Int) (ht : rt_kd a0.toNat = 20 + 0) (h : f_X0_tiltsTold a0 mem0 = some t) : RM G M_X0_tiltsTold d [(2, a0)] z mem0 (some (0, t)) mem0 := by
  suffices H : ∀ Q : rt_P, Q (some (0, t)) z mem0 → RT G M_X0_tiltsTold d z Q 0 [(2, a0), (9, 0), (9, 0)] [] z mem0 from H _ ⟨rfl, rfl, rfl⟩
  intro Q hK
  unfold f_X0_tiltsTold at h
  refine RT.iconst (pc := 0) (n := 0) dX0_tiltsTold_0 ⟨by decide, by decide⟩ ?_
  refine RT.istore_n (pc := 1) (k := 1) (x := 0) (L1 := [(2, a0), (0, 0), (9, 0)]) dX0_tiltsTold_1 (Nat.le_of_ble_eq_true rfl) rfl ?_
  refine RT.iconst (pc := 2) (n := 0) dX0_tiltsTold_2 ⟨by decide, by decide⟩ ?_
  refine RT.istore_n (pc := 3) (k := 2) (x := 0) (L1 := [(2, a0), (0, 0), (0, 0)]) dX0_tiltsTold_3 (Nat.le_of_ble_eq_true rfl) rfl ?_
  obtain ⟨X4, hX4, h⟩ := Option.bind_eq_some_iff.mp h
  refine rt_it_ind (P := (fun s1 : Int × Int => RT G M_X0_tiltsTold d z Q 4 [(2, a0), (0, s1.1), (0, s1.2)] [] z mem0)) (X := (fun x1 : Int => RT G M_X0_tiltsTold d z Q 29 [(9, 0), (0, x1), (9, 0)] [] z mem0)) (fun s1 t1 h1 k1 k2 => cb_X0_tiltsTold_4 hz hd ht mem0 s1 t1 h1 ⟨k1, k2⟩) 4000 ((0, 0)) X4 hX4 ?_
  refine RT.iload_n (pc := 29) (k := 1) (x := X4) dX0_tiltsTold_29 rfl ?_
  obtain rfl := Option.some.inj h
  exact RT.iret (pc := 30) dX0_tiltsTold_30 rfl (Nat.le_of_eq (rt_cells_0 z)) (Nat.le_of_eq (rt_slots_0 z)) hK
theorem cb_X7_copy_10 {G : rt_G} {d : Nat} {z : Nat × Nat} {Q : rt_P} (hz : 300 ≤ z.1) (hd : 0 ≤ d) {a0 : Int} (ht : rt_kd a0.toNat = 20 + 7) (a1 : Int) (s : Int × rt_M) (t : (Int × rt_M) ⊕ (rt_M)) (h : b_X7_copy_10 a0 a1 s = some t) (hK : (∀ s1 : Int × rt_M, t = .inl s1 → RT G M_X7_copy d z Q 10 [(2, a0), (2, a1), (0, s1.1)] [] z s1.2) ∧ (∀ x1 : rt_M, t = .inr x1 → RT G M_X7_copy d z Q 46 [(9, 0), (9, 0), (9, 0)] [] z x1)) : RT G M_X7_copy d z Q 10 [(2, a0), (2, a1), (0, s.1)] [] z s.2 := by
  unfold b_X7_copy_10 at h
  refine RT.iload_n (pc := 10) (k := 2) (x := s.1) dX7_copy_10 rfl ?_
  refine RT.bipush (pc := 11) (n := 6) dX7_copy_11 ⟨by decide, by decide⟩ rfl ?_
  refine RT.icmp_ge (pc := 13) (tgt := 46) dX7_copy_13 rfl (fun q13 => ?_) (fun q13 => ?_)
  · rw [if_pos q13] at h
    refine RT.wk (L1 := [(9, 0), (9, 0), (9, 0)]) (rt_le_j (rt_le_j (rt_le_j rt_le_n))) ?_
    obtain rfl := Option.some.inj h
    have q1 := hK.2 s.2 rfl
    try dsimp only at q1
    exact q1
  · rw [if_neg q13] at h
    refine RT.aload_n (pc := 16) (k := 0) (x := a0) dX7_copy_16 rfl ?_
    obtain ⟨v17, hv17, h⟩ := Option.bind_eq_some_iff.mp h
    refine RT.gf 7 1 2 (pc := 17) (x := a0) (v := v17) hz dX7_copy_17 fl_X7_9 rfl hv17 ?_
    refine RT.iload_n (pc := 20) (k := 2) (x := s.1) dX7_copy_20 rfl ?_
    refine RT.aload_n (pc := 21) (k := 1) (x := a1) dX7_copy_21 rfl ?_
    obtain ⟨v22, hv22, h⟩ := Option.bind_eq_some_iff.mp h
    refine RT.gf 7 1 2 (pc := 22) (x := a1) (v := v22) hz dX7_copy_22 fl_X7_9 rfl hv22 ?_
    refine RT.iload_n (pc := 25) (k := 2) (x := s.1) dX7_copy_25 rfl ?_
    obtain ⟨v26, hv26, h⟩ := Option.bind_eq_some_iff.mp h
    refine RT.iald (pc := 26) (x := v22) (i := s.1) (v := v26) dX7_copy_26 (rt_lta hz (by decide) (by decide) hv26) hv26 ?_
    obtain ⟨m27, hm27, h⟩ := Option.bind_eq_some_iff.mp h
    refine RT.iast (pc := 27) (x := v17) (i := s.1) (v := v26) (mem1 := m27) dX7_copy_27 (rt_lts hz (by decide) (by decide) hm27) hm27 ?_
    refine RT.aload_n (pc := 28) (k := 0) (x := a0) dX7_copy_28 rfl ?_
    obtain ⟨v29, hv29, h⟩ := Option.bind_eq_some_iff.mp h
    refine RT.gf 7 2 2 (pc := 29) (x := a0) (v := v29) hz dX7_copy_29 fl_X7_15 rfl hv29 ?_
    refine RT.iload_n (pc := 32) (k := 2) (x := s.1) dX7_copy_32 rfl ?_
    refine RT.aload_n (pc := 33) (k := 1) (x := a1) dX7_copy_33 rfl ?_
    obtain ⟨v34, hv34, h⟩ := Option.bind_eq_some_iff.mp h
    refine RT.gf 7 2 2 (pc := 34) (x := a1) (v := v34) hz dX7_copy_34 fl_X7_15 rfl hv34 ?_
    refine RT.iload_n (pc := 37) (k := 2) (x := s.1) dX7_copy_37 rfl ?_
    obtain ⟨v38, hv38, h⟩ := Option.bind_eq_some_iff.mp h
    refine RT.iald (pc := 38) (x := v34) (i := s.1) (v := v38) dX7_copy_38 (rt_lta hz (by decide) (by decide) hv38) hv38 ?_
    obtain ⟨m39, hm39, h⟩ := Option.bind_eq_some_iff.mp h
    refine RT.iast (pc := 39) (x := v29) (i := s.1) (v := v38) (mem1 := m39) dX7_copy_39 (rt_lts hz (by decide) (by decide) hm39) hm39 ?_
    refine RT.iinc (pc := 40) (x := s.1) (L1 := [(2, a0), (2, a1), (0, (rt_iadd s.1 1))]) dX7_copy_40 rfl (Nat.le_of_ble_eq_true rfl) ⟨by decide, by decide⟩ rfl ?_
    refine RT.goto (pc := 43) (tgt := 10) dX7_copy_43 rfl ?_
    obtain rfl := Option.some.inj h
    have q1 := hK.1 (((rt_iadd s.1 1), m39)) rfl
    try dsimp only at q1
    exact q1
theorem c_X7_copy {G : rt_G} {d : Nat} {z : Nat × Nat} (hz : 300 ≤ z.1) (hd : 0 ≤ d) (a0 : Int) (a1 : Int) (mem0 : rt_M) (t : rt_M) (ht : rt_kd a0.toNat = 20 + 7) (h : f_X7_copy a0 a1 mem0 = some t) : RM G M_X7_copy d [(2, a0), (2, a1)] z mem0 none t := by
  suffices H : ∀ Q : rt_P, Q none z t → RT G M_X7_copy d z Q 0 [(2, a0), (2, a1), (9, 0)] [] z mem0 from H _ ⟨rfl, rfl, rfl⟩
  intro Q hK
  unfold f_X7_copy at h
  refine RT.aload_n (pc := 0) (k := 0) (x := a0) dX7_copy_0 rfl ?_
  refine RT.aload_n (pc := 1) (k := 1) (x := a1) dX7_copy_1 rfl ?_
  obtain ⟨v2, hv2, h⟩ := Option.bind_eq_some_iff.mp h
  refine RT.gf 7 0 0 (pc := 2) (x := a1) (v := v2) hz dX7_copy_2 fl_X7_18 rfl hv2 ?_
  obtain ⟨m5, hm5, h⟩ := Option.bind_eq_some_iff.mp h
  refine RT.pf_i 7 0 (pc := 5) (mem1 := m5) hz dX7_copy_5 fl_X7_18 rfl rfl rfl hm5 ?_
  refine RT.iconst (pc := 8) (n := 0) dX7_copy_8 ⟨by decide, by decide⟩ ?_
  refine RT.istore_n (pc := 9) (k := 2) (x := 0) (L1 := [(2, a0), (2, a1), (0, 0)]) dX7_copy_9 (Nat.le_of_ble_eq_true rfl) rfl ?_
  obtain ⟨X10, hX10, h⟩ := Option.bind_eq_some_iff.mp h
  refine rt_it_ind (P := (fun s1 : Int × rt_M => RT G M_X7_copy d z Q 10 [(2, a0), (2, a1), (0, s1.1)] [] z s1.2)) (X := (fun x1 : rt_M => RT G M_X7_copy d z Q 46 [(9, 0), (9, 0), (9, 0)] [] z x1)) (fun s1 t1 h1 k1 k2 => cb_X7_copy_10 hz hd ht a1 s1 t1 h1 ⟨k1, k2⟩) 4000 ((0, m5)) X10 hX10 ?_
  obtain rfl := Option.some.inj h
  exact RT.vret (pc := 46) dX7_copy_46 rfl (Nat.le_of_eq (rt_cells_0 z)) (Nat.le_of_eq (rt_slots_0 z)) hK
theorem cb_X10_copy_10 {G : rt_G} {d : Nat} {z : Nat × Nat} {Q : rt_P} (hz : 300 ≤ z.1) (hd : 0 ≤ d) {a0 : Int} (ht : rt_kd a0.toNat = 20 + 10) (a1 : Int) (s : Int × rt_M) (t : (Int × rt_M) ⊕ (rt_M)) (h : b_X10_copy_10 a0 a1 s = some t) (hK : (∀ s1 : Int × rt_M, t = .inl s1 → RT G M_X10_copy d z Q 10 [(2, a0), (2, a1), (0, s1.1)] [] z s1.2) ∧ (∀ x1 : rt_M, t = .inr x1 → RT G M_X10_copy d z Q 60 [(9, 0), (9, 0), (9, 0)] [] z x1)) : RT G M_X10_copy d z Q 10 [(2, a0), (2, a1), (0, s.1)] [] z s.2 := by
  unfold b_X10_copy_10 at h
  refine RT.iload_n (pc := 10) (k := 2) (x := s.1) dX10_copy_10 rfl ?_
  refine RT.aload_n (pc := 11) (k := 0) (x := a0) dX10_copy_11 rfl ?_
  obtain ⟨v12, hv12, h⟩ := Option.bind_eq_some_iff.mp h
  refine RT.gf 10 0 0 (pc := 12) (x := a0) (v := v12) hz dX10_copy_12 fl_X10_24 rfl hv12 ?_
  refine RT.icmp_ge (pc := 15) (tgt := 60) dX10_copy_15 rfl (fun q15 => ?_) (fun q15 => ?_)
  · rw [if_pos q15] at h
    refine RT.wk (L1 := [(9, 0), (9, 0), (9, 0)]) (rt_le_j (rt_le_j (rt_le_j rt_le_n))) ?_
    obtain rfl := Option.some.inj h
    have q1 := hK.2 s.2 rfl
    try dsimp only at q1
    exact q1
  · rw [if_neg q15] at h
    refine RT.aload_n (pc := 18) (k := 0) (x := a0) dX10_copy_18 rfl ?_
    obtain ⟨v19, hv19, h⟩ := Option.bind_eq_some_iff.mp h
    refine RT.gf 10 1 2 (pc := 19) (x := a0) (v := v19) hz dX10_copy_19 fl_X10_11 rfl hv19 ?_
    refine RT.iload_n (pc := 22) (k := 2) (x := s.1) dX10_copy_22 rfl ?_
    refine RT.aload_n (pc := 23) (k := 1) (x := a1) dX10_copy_23 rfl ?_
    obtain ⟨v24, hv24, h⟩ := Option.bind_eq_some_iff.mp h
    refine RT.gf 10 1 2 (pc := 24) (x := a1) (v := v24) hz dX10_copy_24 fl_X10_11 rfl hv24 ?_
    refine RT.iload_n (pc := 27) (k := 2) (x := s.1) dX10_copy_27 rfl ?_
    obtain ⟨v28, hv28, h⟩ := Option.bind_eq_some_iff.mp h
    refine RT.aald5 (pc := 28) (x := v24) (i := s.1) (v := v28) dX10_copy_28 (rt_lta hz (by decide) (by decide) hv28) hv28 ?_
    obtain ⟨m29, hm29, h⟩ := Option.bind_eq_some_iff.mp h
    refine RT.astW (pc := 29) (x := v19) (i := s.1) (v := v28) (mem1 := m29) dX10_copy_29 (rt_ltw hz hm29) hm29 ?_
    refine RT.aload_n (pc := 30) (k := 0) (x := a0) dX10_copy_30 rfl ?_
    obtain ⟨v31, hv31, h⟩ := Option.bind_eq_some_iff.mp h
    refine RT.gf 10 2 2 (pc := 31) (x := a0) (v := v31) hz dX10_copy_31 fl_X10_17 rfl hv31 ?_
    refine RT.iload_n (pc := 34) (k := 2) (x := s.1) dX10_copy_34 rfl ?_
    refine RT.aload_n (pc := 35) (k := 1) (x := a1) dX10_copy_35 rfl ?_
    obtain ⟨v36, hv36, h⟩ := Option.bind_eq_some_iff.mp h
    refine RT.gf 10 2 2 (pc := 36) (x := a1) (v := v36) hz dX10_copy_36 fl_X10_17 rfl hv36 ?_
    refine RT.iload_n (pc := 39) (k := 2) (x := s.1) dX10_copy_39 rfl ?_
    obtain ⟨v40, hv40, h⟩ := Option.bind_eq_some_iff.mp h
    refine RT.iald (pc := 40) (x := v36) (i := s.1) (v := v40) dX10_copy_40 (rt_lta hz (by decide) (by decide) hv40) hv40 ?_
    obtain ⟨m41, hm41, h⟩ := Option.bind_eq_some_iff.mp h
    refine RT.iast (pc := 41) (x := v31) (i := s.1) (v := v40) (mem1 := m41) dX10_copy_41 (rt_lts hz (by decide) (by decide) hm41) hm41 ?_
    refine RT.aload_n (pc := 42) (k := 0) (x := a0) dX10_copy_42 rfl ?_
    obtain ⟨v43, hv43, h⟩ := Option.bind_eq_some_iff.mp h
    refine RT.gf 10 3 2 (pc := 43) (x := a0) (v := v43) hz dX10_copy_43 fl_X10_21 rfl hv43 ?_
    refine RT.iload_n (pc := 46) (k := 2) (x := s.1) dX10_copy_46 rfl ?_
    refine RT.aload_n (pc := 47) (k := 1) (x := a1) dX10_copy_47 rfl ?_
    obtain ⟨v48, hv48, h⟩ := Option.bind_eq_some_iff.mp h
    refine RT.gf 10 3 2 (pc := 48) (x := a1) (v := v48) hz dX10_copy_48 fl_X10_21 rfl hv48 ?_
    refine RT.iload_n (pc := 51) (k := 2) (x := s.1) dX10_copy_51 rfl ?_
    obtain ⟨v52, hv52, h⟩ := Option.bind_eq_some_iff.mp h
    refine RT.iald (pc := 52) (x := v48) (i := s.1) (v := v52) dX10_copy_52 (rt_lta hz (by decide) (by decide) hv52) hv52 ?_
    obtain ⟨m53, hm53, h⟩ := Option.bind_eq_some_iff.mp h
    refine RT.iast (pc := 53) (x := v43) (i := s.1) (v := v52) (mem1 := m53) dX10_copy_53 (rt_lts hz (by decide) (by decide) hm53) hm53 ?_
    refine RT.iinc (pc := 54) (x := s.1) (L1 := [(2, a0), (2, a1), (0, (rt_iadd s.1 1))]) dX10_copy_54 rfl (Nat.le_of_ble_eq_true rfl) ⟨by decide, by decide⟩ rfl ?_
    refine RT.goto (pc := 57) (tgt := 10) dX10_copy_57 rfl ?_
    obtain rfl := Option.some.inj h
    have q1 := hK.1 (((rt_iadd s.1 1), m53)) rfl
    try dsimp only at q1
    exact q1
theorem c_X10_copy {G : rt_G} {d : Nat} {z : Nat × Nat} (hz : 300 ≤ z.1) (hd : 0 ≤ d) (a0 : Int) (a1 : Int) (mem0 : rt_M) (t : rt_M) (ht : rt_kd a0.toNat = 20 + 10) (h : f_X10_copy a0 a1 mem0 = some t) : RM G M_X10_copy d [(2, a0), (2, a1)] z mem0 none t := by
  suffices H : ∀ Q : rt_P, Q none z t → RT G M_X10_copy d z Q 0 [(2, a0), (2, a1), (9, 0)] [] z mem0 from H _ ⟨rfl, rfl, rfl⟩
  intro Q hK
  unfold f_X10_copy at h
  refine RT.aload_n (pc := 0) (k := 0) (x := a0) dX10_copy_0 rfl ?_
  refine RT.aload_n (pc := 1) (k := 1) (x := a1) dX10_copy_1 rfl ?_
  obtain ⟨v2, hv2, h⟩ := Option.bind_eq_some_iff.mp h
  refine RT.gf 10 0 0 (pc := 2) (x := a1) (v := v2) hz dX10_copy_2 fl_X10_24 rfl hv2 ?_
  obtain ⟨m5, hm5, h⟩ := Option.bind_eq_some_iff.mp h
  refine RT.pf_i 10 0 (pc := 5) (mem1 := m5) hz dX10_copy_5 fl_X10_24 rfl rfl rfl hm5 ?_
  refine RT.iconst (pc := 8) (n := 0) dX10_copy_8 ⟨by decide, by decide⟩ ?_
  refine RT.istore_n (pc := 9) (k := 2) (x := 0) (L1 := [(2, a0), (2, a1), (0, 0)]) dX10_copy_9 (Nat.le_of_ble_eq_true rfl) rfl ?_
  obtain ⟨X10, hX10, h⟩ := Option.bind_eq_some_iff.mp h
  refine rt_it_ind (P := (fun s1 : Int × rt_M => RT G M_X10_copy d z Q 10 [(2, a0), (2, a1), (0, s1.1)] [] z s1.2)) (X := (fun x1 : rt_M => RT G M_X10_copy d z Q 60 [(9, 0), (9, 0), (9, 0)] [] z x1)) (fun s1 t1 h1 k1 k2 => cb_X10_copy_10 hz hd ht a1 s1 t1 h1 ⟨k1, k2⟩) 4000 ((0, m5)) X10 hX10 ?_
  obtain rfl := Option.some.inj h
  exact RT.vret (pc := 60) dX10_copy_60 rfl (Nat.le_of_eq (rt_cells_0 z)) (Nat.le_of_eq (rt_slots_0 z)) hK
theorem cb_X6_copy_10 {G : rt_G} {d : Nat} {z : Nat × Nat} {Q : rt_P} (hz : 300 ≤ z.1) (hd : 0 ≤ d) {a0 : Int} (ht : rt_kd a0.toNat = 20 + 6) (a1 : Int) (s : Int × rt_M) (t : (Int × rt_M) ⊕ (rt_M)) (h : b_X6_copy_10 a0 a1 s = some t) (hK : (∀ s1 : Int × rt_M, t = .inl s1 → RT G M_X6_copy d z Q 10 [(2, a0), (2, a1), (0, s1.1)] [] z s1.2) ∧ (∀ x1 : rt_M, t = .inr x1 → RT G M_X6_copy d z Q 60 [(9, 0), (9, 0), (9, 0)] [] z x1)) : RT G M_X6_copy d z Q 10 [(2, a0), (2, a1), (0, s.1)] [] z s.2 := by
  unfold b_X6_copy_10 at h
  refine RT.iload_n (pc := 10) (k := 2) (x := s.1) dX6_copy_10 rfl ?_
  refine RT.aload_n (pc := 11) (k := 0) (x := a0) dX6_copy_11 rfl ?_
  obtain ⟨v12, hv12, h⟩ := Option.bind_eq_some_iff.mp h
  refine RT.gf 6 0 0 (pc := 12) (x := a0) (v := v12) hz dX6_copy_12 fl_X6_22 rfl hv12 ?_
  refine RT.icmp_ge (pc := 15) (tgt := 60) dX6_copy_15 rfl (fun q15 => ?_) (fun q15 => ?_)
  · rw [if_pos q15] at h
    refine RT.wk (L1 := [(9, 0), (9, 0), (9, 0)]) (rt_le_j (rt_le_j (rt_le_j rt_le_n))) ?_
    obtain rfl := Option.some.inj h
    have q1 := hK.2 s.2 rfl
    try dsimp only at q1
    exact q1
  · rw [if_neg q15] at h
    refine RT.aload_n (pc := 18) (k := 0) (x := a0) dX6_copy_18 rfl ?_
    obtain ⟨v19, hv19, h⟩ := Option.bind_eq_some_iff.mp h
    refine RT.gf 6 1 2 (pc := 19) (x := a0) (v := v19) hz dX6_copy_19 fl_X6_9 rfl hv19 ?_
    refine RT.iload_n (pc := 22) (k := 2) (x := s.1) dX6_copy_22 rfl ?_
    refine RT.aload_n (pc := 23) (k := 1) (x := a1) dX6_copy_23 rfl ?_
    obtain ⟨v24, hv24, h⟩ := Option.bind_eq_some_iff.mp h
    refine RT.gf 6 1 2 (pc := 24) (x := a1) (v := v24) hz dX6_copy_24 fl_X6_9 rfl hv24 ?_
    refine RT.iload_n (pc := 27) (k := 2) (x := s.1) dX6_copy_27 rfl ?_
    obtain ⟨v28, hv28, h⟩ := Option.bind_eq_some_iff.mp h
    refine RT.iald (pc := 28) (x := v24) (i := s.1) (v := v28) dX6_copy_28 (rt_lta hz (by decide) (by decide) hv28) hv28 ?_
    obtain ⟨m29, hm29, h⟩ := Option.bind_eq_some_iff.mp h
    refine RT.iast (pc := 29) (x := v19) (i := s.1) (v := v28) (mem1 := m29) dX6_copy_29 (rt_lts hz (by decide) (by decide) hm29) hm29 ?_
    refine RT.aload_n (pc := 30) (k := 0) (x := a0) dX6_copy_30 rfl ?_
    obtain ⟨v31, hv31, h⟩ := Option.bind_eq_some_iff.mp h
    refine RT.gf 6 2 2 (pc := 31) (x := a0) (v := v31) hz dX6_copy_31 fl_X6_15 rfl hv31 ?_
    refine RT.iload_n (pc := 34) (k := 2) (x := s.1) dX6_copy_34 rfl ?_
    refine RT.aload_n (pc := 35) (k := 1) (x := a1) dX6_copy_35 rfl ?_
    obtain ⟨v36, hv36, h⟩ := Option.bind_eq_some_iff.mp h
    refine RT.gf 6 2 2 (pc := 36) (x := a1) (v := v36) hz dX6_copy_36 fl_X6_15 rfl hv36 ?_
    refine RT.iload_n (pc := 39) (k := 2) (x := s.1) dX6_copy_39 rfl ?_
    obtain ⟨v40, hv40, h⟩ := Option.bind_eq_some_iff.mp h
    refine RT.iald (pc := 40) (x := v36) (i := s.1) (v := v40) dX6_copy_40 (rt_lta hz (by decide) (by decide) hv40) hv40 ?_
    obtain ⟨m41, hm41, h⟩ := Option.bind_eq_some_iff.mp h
    refine RT.iast (pc := 41) (x := v31) (i := s.1) (v := v40) (mem1 := m41) dX6_copy_41 (rt_lts hz (by decide) (by decide) hm41) hm41 ?_
    refine RT.aload_n (pc := 42) (k := 0) (x := a0) dX6_copy_42 rfl ?_
    obtain ⟨v43, hv43, h⟩ := Option.bind_eq_some_iff.mp h
    refine RT.gf 6 3 2 (pc := 43) (x := a0) (v := v43) hz dX6_copy_43 fl_X6_18 rfl hv43 ?_
    refine RT.iload_n (pc := 46) (k := 2) (x := s.1) dX6_copy_46 rfl ?_
    refine RT.aload_n (pc := 47) (k := 1) (x := a1) dX6_copy_47 rfl ?_
    obtain ⟨v48, hv48, h⟩ := Option.bind_eq_some_iff.mp h
    refine RT.gf 6 3 2 (pc := 48) (x := a1) (v := v48) hz dX6_copy_48 fl_X6_18 rfl hv48 ?_
    refine RT.iload_n (pc := 51) (k := 2) (x := s.1) dX6_copy_51 rfl ?_
    obtain ⟨v52, hv52, h⟩ := Option.bind_eq_some_iff.mp h
    refine RT.zald (pc := 52) (x := v48) (i := s.1) (v := v52) dX6_copy_52 (rt_lta hz (by decide) (by decide) hv52) hv52 ?_
    obtain ⟨w53, hw53, h⟩ := Option.bind_eq_some_iff.mp h
    obtain ⟨m53, hm53, h⟩ := Option.bind_eq_some_iff.mp h
    refine RT.zast (pc := 53) (x := v43) (i := s.1) (v := v52) (mem1 := m53) dX6_copy_53 (rt_bz_ok hw53) (rt_lts hz (by decide) (by decide) hm53) hm53 ?_
    refine RT.iinc (pc := 54) (x := s.1) (L1 := [(2, a0), (2, a1), (0, (rt_iadd s.1 1))]) dX6_copy_54 rfl (Nat.le_of_ble_eq_true rfl) ⟨by decide, by decide⟩ rfl ?_
    refine RT.goto (pc := 57) (tgt := 10) dX6_copy_57 rfl ?_
    obtain rfl := Option.some.inj h
    have q1 := hK.1 (((rt_iadd s.1 1), m53)) rfl
    try dsimp only at q1
    exact q1
theorem c_X6_copy {G : rt_G} {d : Nat} {z : Nat × Nat} (hz : 300 ≤ z.1) (hd : 0 ≤ d) (a0 : Int) (a1 : Int) (mem0 : rt_M) (t : rt_M) (ht : rt_kd a0.toNat = 20 + 6) (h : f_X6_copy a0 a1 mem0 = some t) : RM G M_X6_copy d [(2, a0), (2, a1)] z mem0 none t := by
  suffices H : ∀ Q : rt_P, Q none z t → RT G M_X6_copy d z Q 0 [(2, a0), (2, a1), (9, 0)] [] z mem0 from H _ ⟨rfl, rfl, rfl⟩
  intro Q hK
  unfold f_X6_copy at h
  refine RT.aload_n (pc := 0) (k := 0) (x := a0) dX6_copy_0 rfl ?_
  refine RT.aload_n (pc := 1) (k := 1) (x := a1) dX6_copy_1 rfl ?_
  obtain ⟨v2, hv2, h⟩ := Option.bind_eq_some_iff.mp h
  refine RT.gf 6 0 0 (pc := 2) (x := a1) (v := v2) hz dX6_copy_2 fl_X6_22 rfl hv2 ?_
  obtain ⟨m5, hm5, h⟩ := Option.bind_eq_some_iff.mp h
  refine RT.pf_i 6 0 (pc := 5) (mem1 := m5) hz dX6_copy_5 fl_X6_22 rfl rfl rfl hm5 ?_
  refine RT.iconst (pc := 8) (n := 0) dX6_copy_8 ⟨by decide, by decide⟩ ?_
  refine RT.istore_n (pc := 9) (k := 2) (x := 0) (L1 := [(2, a0), (2, a1), (0, 0)]) dX6_copy_9 (Nat.le_of_ble_eq_true rfl) rfl ?_
  obtain ⟨X10, hX10, h⟩ := Option.bind_eq_some_iff.mp h
  refine rt_it_ind (P := (fun s1 : Int × rt_M => RT G M_X6_copy d z Q 10 [(2, a0), (2, a1), (0, s1.1)] [] z s1.2)) (X := (fun x1 : rt_M => RT G M_X6_copy d z Q 60 [(9, 0), (9, 0), (9, 0)] [] z x1)) (fun s1 t1 h1 k1 k2 => cb_X6_copy_10 hz hd ht a1 s1 t1 h1 ⟨k1, k2⟩) 4000 ((0, m5)) X10 hX10 ?_
  obtain rfl := Option.some.inj h
  exact RT.vret (pc := 60) dX6_copy_60 rfl (Nat.le_of_eq (rt_cells_0 z)) (Nat.le_of_eq (rt_slots_0 z)) hK
theorem cb_X0_copy_35 {G : rt_G} {d : Nat} {z : Nat × Nat} {Q : rt_P} (hz : 300 ≤ z.1) (hd : 1 ≤ d) {a0 : Int} (ht : rt_kd a0.toNat = 20 + 0) (a1 : Int) (s : Int × rt_M) (t : (Int × rt_M) ⊕ (rt_M)) (h : b_X0_copy_35 a0 a1 s = some t) (hK : (∀ s1 : Int × rt_M, t = .inl s1 → RT G M_X0_copy d z Q 35 [(2, a0), (2, a1), (0, s1.1)] [] z s1.2) ∧ (∀ x1 : rt_M, t = .inr x1 → RT G M_X0_copy d z Q 59 [(9, 0), (9, 0), (9, 0)] [] z x1)) : RT G M_X0_copy d z Q 35 [(2, a0), (2, a1), (0, s.1)] [] z s.2 := by
  unfold b_X0_copy_35 at h
  refine RT.iload_n (pc := 35) (k := 2) (x := s.1) dX0_copy_35 rfl ?_
  refine RT.bipush (pc := 36) (n := 6) dX0_copy_36 ⟨by decide, by decide⟩ rfl ?_
  refine RT.icmp_ge (pc := 38) (tgt := 59) dX0_copy_38 rfl (fun q38 => ?_) (fun q38 => ?_)
  · rw [if_pos q38] at h
    refine RT.wk (L1 := [(9, 0), (9, 0), (9, 0)]) (rt_le_j (rt_le_j (rt_le_j rt_le_n))) ?_
    obtain rfl := Option.some.inj h
    have q1 := hK.2 s.2 rfl
    try dsimp only at q1
    exact q1
  · rw [if_neg q38] at h
    refine RT.aload_n (pc := 41) (k := 0) (x := a0) dX0_copy_41 rfl ?_
    obtain ⟨v42, hv42, h⟩ := Option.bind_eq_some_iff.mp h
    refine RT.gf 0 3 2 (pc := 42) (x := a0) (v := v42) hz dX0_copy_42 fl_X0_32 rfl hv42 ?_
    refine RT.iload_n (pc := 45) (k := 2) (x := s.1) dX0_copy_45 rfl ?_
    refine RT.aload_n (pc := 46) (k := 1) (x := a1) dX0_copy_46 rfl ?_
    obtain ⟨v47, hv47, h⟩ := Option.bind_eq_some_iff.mp h
    refine RT.gf 0 3 2 (pc := 47) (x := a1) (v := v47) hz dX0_copy_47 fl_X0_32 rfl hv47 ?_
    refine RT.iload_n (pc := 50) (k := 2) (x := s.1) dX0_copy_50 rfl ?_
    obtain ⟨v51, hv51, h⟩ := Option.bind_eq_some_iff.mp h
    refine RT.iald (pc := 51) (x := v47) (i := s.1) (v := v51) dX0_copy_51 (rt_lta hz (by decide) (by decide) hv51) hv51 ?_
    obtain ⟨m52, hm52, h⟩ := Option.bind_eq_some_iff.mp h
    refine RT.iast (pc := 52) (x := v42) (i := s.1) (v := v51) (mem1 := m52) dX0_copy_52 (rt_lts hz (by decide) (by decide) hm52) hm52 ?_
    refine RT.iinc (pc := 53) (x := s.1) (L1 := [(2, a0), (2, a1), (0, (rt_iadd s.1 1))]) dX0_copy_53 rfl (Nat.le_of_ble_eq_true rfl) ⟨by decide, by decide⟩ rfl ?_
    refine RT.goto (pc := 56) (tgt := 35) dX0_copy_56 rfl ?_
    obtain rfl := Option.some.inj h
    have q1 := hK.1 (((rt_iadd s.1 1), m52)) rfl
    try dsimp only at q1
    exact q1
theorem c_X0_copy {G : rt_G} {d : Nat} {z : Nat × Nat} (hz : 300 ≤ z.1) (hd : 1 ≤ d) (a0 : Int) (a1 : Int) (mem0 : rt_M) (t : rt_M) (ht : rt_kd a0.toNat = 20 + 0) (h : f_X0_copy a0 a1 mem0 = some t) : RM G M_X0_copy d [(2, a0), (2, a1)] z mem0 none t := by
  suffices H : ∀ Q : rt_P, Q none z t → RT G M_X0_copy d z Q 0 [(2, a0), (2, a1), (9, 0)] [] z mem0 from H _ ⟨rfl, rfl, rfl⟩
  intro Q hK
  unfold f_X0_copy at h
  refine RT.aload_n (pc := 0) (k := 0) (x := a0) dX0_copy_0 rfl ?_
  obtain ⟨v1, hv1, h⟩ := Option.bind_eq_some_iff.mp h
  refine RT.gf 0 0 2 (pc := 1) (x := a0) (v := v1) hz dX0_copy_1 fl_X0_12 rfl hv1 ?_
  refine RT.aload_n (pc := 4) (k := 1) (x := a1) dX0_copy_4 rfl ?_
  obtain ⟨v5, hv5, h⟩ := Option.bind_eq_some_iff.mp h
  refine RT.gf 0 0 2 (pc := 5) (x := a1) (v := v5) hz dX0_copy_5 fl_X0_12 rfl hv5 ?_
  obtain ⟨p8, hp8, h⟩ := Option.bind_eq_some_iff.mp h
  obtain ⟨hk8, hp8⟩ := rt_gd_some hp8
  refine RT.cVz (pc := 8) (M' := M_X7_copy) (ci := 7) (x := v1) (As := [(2, v5)]) (st := []) (r := none) (mem1 := p8) (d' := d - 1) hz dX0_copy_8 mw_X7_copy ml_X0_47 mi_X7_copy hk8 rfl rfl (Nat.le_of_ble_eq_true rfl) (Nat.le_of_ble_eq_true rfl) (by omega) rfl rfl (c_X7_copy hz (by omega) v1 v5 mem0 _ hk8 hp8) ?_
  refine RT.aload_n (pc := 11) (k := 0) (x := a0) dX0_copy_11 rfl ?_
  obtain ⟨v12, hv12, h⟩ := Option.bind_eq_some_iff.mp h
  refine RT.gf 0 1 2 (pc := 12) (x := a0) (v := v12) hz dX0_copy_12 fl_X0_21 rfl hv12 ?_
  refine RT.aload_n (pc := 15) (k := 1) (x := a1) dX0_copy_15 rfl ?_
  obtain ⟨v16, hv16, h⟩ := Option.bind_eq_some_iff.mp h
  refine RT.gf 0 1 2 (pc := 16) (x := a1) (v := v16) hz dX0_copy_16 fl_X0_21 rfl hv16 ?_
  obtain ⟨p19, hp19, h⟩ := Option.bind_eq_some_iff.mp h
  obtain ⟨hk19, hp19⟩ := rt_gd_some hp19
  refine RT.cVz (pc := 19) (M' := M_X10_copy) (ci := 10) (x := v12) (As := [(2, v16)]) (st := []) (r := none) (mem1 := p19) (d' := d - 1) hz dX0_copy_19 mw_X10_copy ml_X0_51 mi_X10_copy hk19 rfl rfl (Nat.le_of_ble_eq_true rfl) (Nat.le_of_ble_eq_true rfl) (by omega) rfl rfl (c_X10_copy hz (by omega) v12 v16 p8 _ hk19 hp19) ?_
  refine RT.aload_n (pc := 22) (k := 0) (x := a0) dX0_copy_22 rfl ?_
  obtain ⟨v23, hv23, h⟩ := Option.bind_eq_some_iff.mp h
  refine RT.gf 0 2 2 (pc := 23) (x := a0) (v := v23) hz dX0_copy_23 fl_X0_28 rfl hv23 ?_
  refine RT.aload_n (pc := 26) (k := 1) (x := a1) dX0_copy_26 rfl ?_
  obtain ⟨v27, hv27, h⟩ := Option.bind_eq_some_iff.mp h
  refine RT.gf 0 2 2 (pc := 27) (x := a1) (v := v27) hz dX0_copy_27 fl_X0_28 rfl hv27 ?_
  obtain ⟨p30, hp30, h⟩ := Option.bind_eq_some_iff.mp h
  obtain ⟨hk30, hp30⟩ := rt_gd_some hp30
  refine RT.cVz (pc := 30) (M' := M_X6_copy) (ci := 6) (x := v23) (As := [(2, v27)]) (st := []) (r := none) (mem1 := p30) (d' := d - 1) hz dX0_copy_30 mw_X6_copy ml_X0_54 mi_X6_copy hk30 rfl rfl (Nat.le_of_ble_eq_true rfl) (Nat.le_of_ble_eq_true rfl) (by omega) rfl rfl (c_X6_copy hz (by omega) v23 v27 p19 _ hk30 hp30) ?_
  refine RT.iconst (pc := 33) (n := 0) dX0_copy_33 ⟨by decide, by decide⟩ ?_
  refine RT.istore_n (pc := 34) (k := 2) (x := 0) (L1 := [(2, a0), (2, a1), (0, 0)]) dX0_copy_34 (Nat.le_of_ble_eq_true rfl) rfl ?_
  obtain ⟨X35, hX35, h⟩ := Option.bind_eq_some_iff.mp h
  refine rt_it_ind (P := (fun s1 : Int × rt_M => RT G M_X0_copy d z Q 35 [(2, a0), (2, a1), (0, s1.1)] [] z s1.2)) (X := (fun x1 : rt_M => RT G M_X0_copy d z Q 59 [(9, 0), (9, 0), (9, 0)] [] z x1)) (fun s1 t1 h1 k1 k2 => cb_X0_copy_35 hz hd ht a1 s1 t1 h1 ⟨k1, k2⟩) 4000 ((0, p30)) X35 hX35 ?_
  obtain rfl := Option.some.inj h
  exact RT.vret (pc := 59) dX0_copy_59 rfl (Nat.le_of_eq (rt_cells_0 z)) (Nat.le_of_eq (rt_slots_0 z)) hK
theorem cj_X4_isHead_17 {G : rt_G} {d : Nat} {z : Nat × Nat} {Q : rt_P} (hz : 300 ≤ z.1) (hd : 0 ≤ d) {a0 : Int} (ht : rt_kd a0.toNat = 20 + 4) (s0 : Int) (mem0 : rt_M) (t : Int) (h : j_X4_isHead_17 s0 mem0 = some t) (hK : Q (some (0, t)) z mem0) : RT G M_X4_isHead d z Q 17 [(9, 0), (9, 0)] [(0, s0)] z mem0 := by
  unfold j_X4_isHead_17 at h
  obtain ⟨w17, hw17, h⟩ := Option.bind_eq_some_iff.mp h
  obtain rfl := Option.some.inj h
  exact RT.zret (pc := 17) dX4_isHead_17 rfl (rt_bz_ok hw17) (Nat.le_of_eq (rt_cells_0 z)) (Nat.le_of_eq (rt_slots_0 z)) hK
theorem cj_X4_isHead_16 {G : rt_G} {d : Nat} {z : Nat × Nat} {Q : rt_P} (hz : 300 ≤ z.1) (hd : 0 ≤ d) {a0 : Int} (ht : rt_kd a0.toNat = 20 + 4) (mem0 : rt_M) (t : Int) (h : j_X4_isHead_16 mem0 = some t) (hK : Q (some (0, t)) z mem0) : RT G M_X4_isHead d z Q 16 [(9, 0), (9, 0)] [] z mem0 := by
  unfold j_X4_isHead_16 at h
  refine RT.iconst (pc := 16) (n := 0) dX4_isHead_16 ⟨by decide, by decide⟩ ?_
  exact cj_X4_isHead_17 hz hd ht 0 mem0 _ h hK
theorem c_X4_isHead {G : rt_G} {d : Nat} {z : Nat × Nat} (hz : 300 ≤ z.1) (hd : 0 ≤ d) (a0 : Int) (a1 : Int) (mem0 : rt_M) (t : Int) (ht : rt_kd a0.toNat = 20 + 4) (h : f_X4_isHead a0 a1 mem0 = some t) : RM G M_X4_isHead d [(2, a0), (0, a1)] z mem0 (some (0, t)) mem0 := by
  suffices H : ∀ Q : rt_P, Q (some (0, t)) z mem0 → RT G M_X4_isHead d z Q 0 [(2, a0), (0, a1)] [] z mem0 from H _ ⟨rfl, rfl, rfl⟩
  intro Q hK
  unfold f_X4_isHead at h
  refine RT.iload_n (pc := 0) (k := 1) (x := a1) dX4_isHead_0 rfl ?_
  refine RT.if_lt (pc := 1) (tgt := 16) dX4_isHead_1 rfl (fun q1 => ?_) (fun q1 => ?_)
  · rw [if_pos q1] at h
    refine RT.wk (L1 := [(9, 0), (9, 0)]) (rt_le_j (rt_le_j rt_le_n)) ?_
    exact cj_X4_isHead_16 hz hd ht mem0 _ h hK
  · rw [if_neg q1] at h
    refine RT.iload_n (pc := 4) (k := 1) (x := a1) dX4_isHead_4 rfl ?_
    refine RT.aload_n (pc := 5) (k := 0) (x := a0) dX4_isHead_5 rfl ?_
    obtain ⟨v6, hv6, h⟩ := Option.bind_eq_some_iff.mp h
    refine RT.gf 4 1 0 (pc := 6) (x := a0) (v := v6) hz dX4_isHead_6 fl_X4_70 rfl hv6 ?_
    refine RT.icmp_ge (pc := 9) (tgt := 16) dX4_isHead_9 rfl (fun q9 => ?_) (fun q9 => ?_)
    · rw [if_pos q9] at h
      refine RT.wk (L1 := [(9, 0), (9, 0)]) (rt_le_j (rt_le_j rt_le_n)) ?_
      exact cj_X4_isHead_16 hz hd ht mem0 _ h hK
    · rw [if_neg q9] at h
      refine RT.iconst (pc := 12) (n := 1) dX4_isHead_12 ⟨by decide, by decide⟩ ?_
      refine RT.goto (pc := 13) (tgt := 17) dX4_isHead_13 rfl ?_
      refine RT.wk (L1 := [(9, 0), (9, 0)]) (rt_le_j (rt_le_j rt_le_n)) ?_
      exact cj_X4_isHead_17 hz hd ht 1 mem0 _ h hK
theorem cj_X4_ofHead_20 {G : rt_G} {d : Nat} {z : Nat × Nat} {Q : rt_P} (hz : 300 ≤ z.1) (hd : 1 ≤ d) {a0 : Int} (ht : rt_kd a0.toNat = 20 + 4) (s0 : Int) (mem0 : rt_M) (t : Int) (h : j_X4_ofHead_20 s0 mem0 = some t) (hK : Q (some (0, t)) z mem0) : RT G M_X4_ofHead d z Q 20 [(9, 0), (9, 0), (9, 0)] [(0, s0)] z mem0 := by
  unfold j_X4_ofHead_20 at h
  obtain rfl := Option.some.inj h
  exact RT.iret (pc := 20) dX4_ofHead_20 rfl (Nat.le_of_eq (rt_cells_0 z)) (Nat.le_of_eq (rt_slots_0 z)) hK
theorem c_X4_ofHead {G : rt_G} {d : Nat} {z : Nat × Nat} (hz : 300 ≤ z.1) (hd : 1 ≤ d) (a0 : Int) (a1 : Int) (a2 : Int) (mem0 : rt_M) (t : Int) (ht : rt_kd a0.toNat = 20 + 4) (h : f_X4_ofHead a0 a1 a2 mem0 = some t) : RM G M_X4_ofHead d [(2, a0), (0, a1), (0, a2)] z mem0 (some (0, t)) mem0 := by
  suffices H : ∀ Q : rt_P, Q (some (0, t)) z mem0 → RT G M_X4_ofHead d z Q 0 [(2, a0), (0, a1), (0, a2)] [] z mem0 from H _ ⟨rfl, rfl, rfl⟩
  intro Q hK
  unfold f_X4_ofHead at h
  refine RT.aload_n (pc := 0) (k := 0) (x := a0) dX4_ofHead_0 rfl ?_
  refine RT.iload_n (pc := 1) (k := 1) (x := a1) dX4_ofHead_1 rfl ?_
  obtain ⟨p2, hp2, h⟩ := Option.bind_eq_some_iff.mp h
  refine RT.cVz (pc := 2) (M' := M_X4_isHead) (ci := 4) (x := a0) (As := [(0, a1)]) (st := []) (r := some (0, p2)) (mem1 := mem0) (d' := d - 1) hz dX4_ofHead_2 mw_X4_isHead ml_X4_91 mi_X4_isHead ht rfl rfl (Nat.le_of_ble_eq_true rfl) (Nat.le_of_ble_eq_true rfl) (by omega) rfl rfl (c_X4_isHead hz (by omega) a0 a1 mem0 _ ht hp2) ?_
  refine RT.if_eq (pc := 5) (tgt := 19) dX4_ofHead_5 rfl (fun q5 => ?_) (fun q5 => ?_)
  · rw [if_pos q5] at h
    refine RT.iconst (pc := 19) (n := 0) dX4_ofHead_19 ⟨by decide, by decide⟩ ?_
    refine RT.wk (L1 := [(9, 0), (9, 0), (9, 0)]) (rt_le_j (rt_le_j (rt_le_j rt_le_n))) ?_
    exact cj_X4_ofHead_20 hz hd ht 0 mem0 _ h hK
  · rw [if_neg q5] at h
    refine RT.aload_n (pc := 8) (k := 0) (x := a0) dX4_ofHead_8 rfl ?_
    obtain ⟨v9, hv9, h⟩ := Option.bind_eq_some_iff.mp h
    refine RT.gf 4 5 2 (pc := 9) (x := a0) (v := v9) hz dX4_ofHead_9 fl_X4_23 rfl hv9 ?_
    refine RT.iload_n (pc := 12) (k := 1) (x := a1) dX4_ofHead_12 rfl ?_
    obtain ⟨v13, hv13, h⟩ := Option.bind_eq_some_iff.mp h
    refine RT.aald6 (pc := 13) (x := v9) (i := a1) (v := v13) dX4_ofHead_13 (rt_lta hz (by decide) (by decide) hv13) hv13 ?_
    refine RT.iload_n (pc := 14) (k := 2) (x := a2) dX4_ofHead_14 rfl ?_
    obtain ⟨v15, hv15, h⟩ := Option.bind_eq_some_iff.mp h
    refine RT.iald (pc := 15) (x := v13) (i := a2) (v := v15) dX4_ofHead_15 (rt_lta hz (by decide) (by decide) hv15) hv15 ?_
    refine RT.goto (pc := 16) (tgt := 20) dX4_ofHead_16 rfl ?_
    refine RT.wk (L1 := [(9, 0), (9, 0), (9, 0)]) (rt_le_j (rt_le_j (rt_le_j rt_le_n))) ?_
    exact cj_X4_ofHead_20 hz hd ht v15 mem0 _ h hK
theorem cj_J9_floorMod_7cf53_18 {G : rt_G} {d : Nat} {z : Nat × Nat} {Q : rt_P} (hz : 300 ≤ z.1) (hd : 0 ≤ d) (a2 : Int) (mem0 : rt_M) (t : Int) (h : j_J9_floorMod_7cf53_18 a2 mem0 = some t) (hK : Q (some (0, t)) z mem0) : RT G M_J9_floorMod_7cf53 d z Q 18 [(9, 0), (9, 0), (0, a2)] [] z mem0 := by
  unfold j_J9_floorMod_7cf53_18 at h
  refine RT.iload_n (pc := 18) (k := 2) (x := a2) dJ9_floorMod_7cf53_18 rfl ?_
  obtain rfl := Option.some.inj h
  exact RT.iret (pc := 19) dJ9_floorMod_7cf53_19 rfl (Nat.le_of_eq (rt_cells_0 z)) (Nat.le_of_eq (rt_slots_0 z)) hK
theorem c_J9_floorMod_7cf53 {G : rt_G} {d : Nat} {z : Nat × Nat} (hz : 300 ≤ z.1) (hd : 0 ≤ d) (a0 : Int) (a1 : Int) (mem0 : rt_M) (t : Int) (h : f_J9_floorMod_7cf53 a0 a1 mem0 = some t) : RM G M_J9_floorMod_7cf53 d [(0, a0), (0, a1)] z mem0 (some (0, t)) mem0 := by
  suffices H : ∀ Q : rt_P, Q (some (0, t)) z mem0 → RT G M_J9_floorMod_7cf53 d z Q 0 [(0, a0), (0, a1), (9, 0)] [] z mem0 from H _ ⟨rfl, rfl, rfl⟩
  intro Q hK
  unfold f_J9_floorMod_7cf53 at h
  refine RT.iload_n (pc := 0) (k := 0) (x := a0) dJ9_floorMod_7cf53_0 rfl ?_
  refine RT.iload_n (pc := 1) (k := 1) (x := a1) dJ9_floorMod_7cf53_1 rfl ?_
  by_cases q2 : a1 = 0
  · rw [if_pos q2] at h; cases h
  rw [if_neg q2] at h
  refine RT.irem (pc := 2) dJ9_floorMod_7cf53_2 q2 ?_
  refine RT.istore_n (pc := 3) (k := 2) (x := (rt_irem a0 a1)) (L1 := [(0, a0), (0, a1), (0, (rt_irem a0 a1))]) dJ9_floorMod_7cf53_3 (Nat.le_of_ble_eq_true rfl) rfl ?_
  refine RT.iload_n (pc := 4) (k := 0) (x := a0) dJ9_floorMod_7cf53_4 rfl ?_
  refine RT.iload_n (pc := 5) (k := 1) (x := a1) dJ9_floorMod_7cf53_5 rfl ?_
  refine RT.ixor (pc := 6) dJ9_floorMod_7cf53_6 ?_
  refine RT.if_ge (pc := 7) (tgt := 18) dJ9_floorMod_7cf53_7 rfl (fun q7 => ?_) (fun q7 => ?_)
  · rw [if_pos q7] at h
    refine RT.wk (L1 := [(9, 0), (9, 0), (0, (rt_irem a0 a1))]) (rt_le_j (rt_le_j (rt_le_s rt_le_n))) ?_
    exact cj_J9_floorMod_7cf53_18 hz hd ((rt_irem a0 a1)) mem0 _ h hK
  · rw [if_neg q7] at h
    refine RT.iload_n (pc := 10) (k := 2) (x := (rt_irem a0 a1)) dJ9_floorMod_7cf53_10 rfl ?_
    refine RT.if_eq (pc := 11) (tgt := 18) dJ9_floorMod_7cf53_11 rfl (fun q11 => ?_) (fun q11 => ?_)
    · rw [if_pos q11] at h
      refine RT.wk (L1 := [(9, 0), (9, 0), (0, (rt_irem a0 a1))]) (rt_le_j (rt_le_j (rt_le_s rt_le_n))) ?_
      exact cj_J9_floorMod_7cf53_18 hz hd ((rt_irem a0 a1)) mem0 _ h hK
    · rw [if_neg q11] at h
      refine RT.iload_n (pc := 14) (k := 2) (x := (rt_irem a0 a1)) dJ9_floorMod_7cf53_14 rfl ?_
      refine RT.iload_n (pc := 15) (k := 1) (x := a1) dJ9_floorMod_7cf53_15 rfl ?_
      refine RT.iadd (pc := 16) dJ9_floorMod_7cf53_16 ?_
      obtain rfl := Option.some.inj h
      exact RT.iret (pc := 17) dJ9_floorMod_7cf53_17 rfl (Nat.le_of_eq (rt_cells_0 z)) (Nat.le_of_eq (rt_slots_0 z)) hK
theorem cj_X4_heatOf_24 {G : rt_G} {d : Nat} {z : Nat × Nat} {Q : rt_P} (hz : 300 ≤ z.1) (hd : 1 ≤ d) {a0 : Int} (ht : rt_kd a0.toNat = 20 + 4) (s0 : Int) (mem0 : rt_M) (t : Int) (h : j_X4_heatOf_24 s0 mem0 = some t) (hK : Q (some (0, t)) z mem0) : RT G M_X4_heatOf d z Q 24 [(9, 0), (9, 0)] [(0, s0)] z mem0 := by
  unfold j_X4_heatOf_24 at h
  obtain rfl := Option.some.inj h
  exact RT.iret (pc := 24) dX4_heatOf_24 rfl (Nat.le_of_eq (rt_cells_0 z)) (Nat.le_of_eq (rt_slots_0 z)) hK
theorem c_X4_heatOf {G : rt_G} {d : Nat} {z : Nat × Nat} (hz : 300 ≤ z.1) (hd : 1 ≤ d) (a0 : Int) (a1 : Int) (mem0 : rt_M) (t : Int) (ht : rt_kd a0.toNat = 20 + 4) (h : f_X4_heatOf a0 a1 mem0 = some t) : RM G M_X4_heatOf d [(2, a0), (0, a1)] z mem0 (some (0, t)) mem0 := by
  suffices H : ∀ Q : rt_P, Q (some (0, t)) z mem0 → RT G M_X4_heatOf d z Q 0 [(2, a0), (0, a1)] [] z mem0 from H _ ⟨rfl, rfl, rfl⟩
  intro Q hK
  unfold f_X4_heatOf at h
  refine RT.aload_n (pc := 0) (k := 0) (x := a0) dX4_heatOf_0 rfl ?_
  obtain ⟨v1, hv1, h⟩ := Option.bind_eq_some_iff.mp h
  refine RT.gf 4 7 0 (pc := 1) (x := a0) (v := v1) hz dX4_heatOf_1 fl_X4_73 rfl hv1 ?_
  refine RT.if_le (pc := 4) (tgt := 23) dX4_heatOf_4 rfl (fun q4 => ?_) (fun q4 => ?_)
  · rw [if_pos q4] at h
    refine RT.iconst (pc := 23) (n := 0) dX4_heatOf_23 ⟨by decide, by decide⟩ ?_
    refine RT.wk (L1 := [(9, 0), (9, 0)]) (rt_le_j (rt_le_j rt_le_n)) ?_
    exact cj_X4_heatOf_24 hz hd ht 0 mem0 _ h hK
  · rw [if_neg q4] at h
    refine RT.aload_n (pc := 7) (k := 0) (x := a0) dX4_heatOf_7 rfl ?_
    obtain ⟨v8, hv8, h⟩ := Option.bind_eq_some_iff.mp h
    refine RT.gf 4 6 2 (pc := 8) (x := a0) (v := v8) hz dX4_heatOf_8 fl_X4_26 rfl hv8 ?_
    refine RT.iload_n (pc := 11) (k := 1) (x := a1) dX4_heatOf_11 rfl ?_
    refine RT.aload_n (pc := 12) (k := 0) (x := a0) dX4_heatOf_12 rfl ?_
    obtain ⟨v13, hv13, h⟩ := Option.bind_eq_some_iff.mp h
    refine RT.gf 4 7 0 (pc := 13) (x := a0) (v := v13) hz dX4_heatOf_13 fl_X4_73 rfl hv13 ?_
    obtain ⟨p16, hp16, h⟩ := Option.bind_eq_some_iff.mp h
    refine RT.cSz (pc := 16) (M' := M_J9_floorMod_7cf53) (As := [(0, a1), (0, v13)]) (st := [(2, v8)]) (r := some (0, p16)) (mem1 := mem0) (d' := d - 1) dX4_heatOf_16 mw_J9_floorMod_7cf53 ml_X4_102 mi_J9_floorMod_7cf53 rfl rfl (Nat.le_of_ble_eq_true rfl) (Nat.le_of_ble_eq_true rfl) (by omega) rfl rfl (c_J9_floorMod_7cf53 hz (by omega) a1 v13 mem0 _ hp16) ?_
    obtain ⟨v19, hv19, h⟩ := Option.bind_eq_some_iff.mp h
    refine RT.iald (pc := 19) (x := v8) (i := p16) (v := v19) dX4_heatOf_19 (rt_lta hz (by decide) (by decide) hv19) hv19 ?_
    refine RT.goto (pc := 20) (tgt := 24) dX4_heatOf_20 rfl ?_
    refine RT.wk (L1 := [(9, 0), (9, 0)]) (rt_le_j (rt_le_j rt_le_n)) ?_
    exact cj_X4_heatOf_24 hz hd ht v19 mem0 _ h hK
theorem cj_X2_joined_53 {G : rt_G} {d : Nat} {z : Nat × Nat} {Q : rt_P} (hz : 300 ≤ z.1) (hd : 0 ≤ d) (s0 : Int) (mem0 : rt_M) (t : Int) (h : j_X2_joined_53 s0 mem0 = some t) (hK : Q (some (0, t)) z mem0) : RT G M_X2_joined d z Q 53 [(9, 0), (9, 0), (9, 0)] [(0, s0)] z mem0 := by
  unfold j_X2_joined_53 at h
  obtain rfl := Option.some.inj h
  exact RT.iret (pc := 53) dX2_joined_53 rfl (Nat.le_of_eq (rt_cells_0 z)) (Nat.le_of_eq (rt_slots_0 z)) hK
theorem cj_X2_joined_52 {G : rt_G} {d : Nat} {z : Nat × Nat} {Q : rt_P} (hz : 300 ≤ z.1) (hd : 0 ≤ d) (mem0 : rt_M) (t : Int) (h : j_X2_joined_52 mem0 = some t) (hK : Q (some (0, t)) z mem0) : RT G M_X2_joined d z Q 52 [(9, 0), (9, 0), (9, 0)] [] z mem0 := by
  unfold j_X2_joined_52 at h
  refine RT.iconst (pc := 52) (n := 0) dX2_joined_52 ⟨by decide, by decide⟩ ?_
  exact cj_X2_joined_53 hz hd 0 mem0 _ h hK
theorem cj_X2_joined_67 {G : rt_G} {d : Nat} {z : Nat × Nat} {Q : rt_P} (hz : 300 ≤ z.1) (hd : 0 ≤ d) (s0 : Int) (mem0 : rt_M) (t : Int) (h : j_X2_joined_67 s0 mem0 = some t) (hK : Q (some (0, t)) z mem0) : RT G M_X2_joined d z Q 67 [(9, 0), (9, 0), (9, 0)] [(0, s0)] z mem0 := by
  unfold j_X2_joined_67 at h
  obtain rfl := Option.some.inj h
  exact RT.iret (pc := 67) dX2_joined_67 rfl (Nat.le_of_eq (rt_cells_0 z)) (Nat.le_of_eq (rt_slots_0 z)) hK
theorem cj_X2_joined_62 {G : rt_G} {d : Nat} {z : Nat × Nat} {Q : rt_P} (hz : 300 ≤ z.1) (hd : 0 ≤ d) (mem0 : rt_M) (t : Int) (h : j_X2_joined_62 mem0 = some t) (hK : Q (some (0, t)) z mem0) : RT G M_X2_joined d z Q 62 [(9, 0), (9, 0), (9, 0)] [] z mem0 := by
  unfold j_X2_joined_62 at h
  refine RT.iconst (pc := 62) (n := 1) dX2_joined_62 ⟨by decide, by decide⟩ ?_
  refine RT.goto (pc := 63) (tgt := 67) dX2_joined_63 rfl ?_
  exact cj_X2_joined_67 hz hd 1 mem0 _ h hK
theorem cj_X2_joined_78 {G : rt_G} {d : Nat} {z : Nat × Nat} {Q : rt_P} (hz : 300 ≤ z.1) (hd : 0 ≤ d) (s0 : Int) (mem0 : rt_M) (t : Int) (h : j_X2_joined_78 s0 mem0 = some t) (hK : Q (some (0, t)) z mem0) : RT G M_X2_joined d z Q 78 [(9, 0), (9, 0), (9, 0)] [(0, s0)] z mem0 := by
  unfold j_X2_joined_78 at h
  obtain rfl := Option.some.inj h
  exact RT.iret (pc := 78) dX2_joined_78 rfl (Nat.le_of_eq (rt_cells_0 z)) (Nat.le_of_eq (rt_slots_0 z)) hK
theorem cj_X2_joined_89 {G : rt_G} {d : Nat} {z : Nat × Nat} {Q : rt_P} (hz : 300 ≤ z.1) (hd : 0 ≤ d) (s0 : Int) (mem0 : rt_M) (t : Int) (h : j_X2_joined_89 s0 mem0 = some t) (hK : Q (some (0, t)) z mem0) : RT G M_X2_joined d z Q 89 [(9, 0), (9, 0), (9, 0)] [(0, s0)] z mem0 := by
  unfold j_X2_joined_89 at h
  obtain rfl := Option.some.inj h
  exact RT.iret (pc := 89) dX2_joined_89 rfl (Nat.le_of_eq (rt_cells_0 z)) (Nat.le_of_eq (rt_slots_0 z)) hK
theorem c_X2_joined {G : rt_G} {d : Nat} {z : Nat × Nat} (hz : 300 ≤ z.1) (hd : 0 ≤ d) (a0 : Int) (a1 : Int) (a2 : Int) (mem0 : rt_M) (t : Int) (h : f_X2_joined a0 a1 a2 mem0 = some t) : RM G M_X2_joined d [(0, a0), (0, a1), (0, a2)] z mem0 (some (0, t)) mem0 := by
  suffices H : ∀ Q : rt_P, Q (some (0, t)) z mem0 → RT G M_X2_joined d z Q 0 [(0, a0), (0, a1), (0, a2)] [] z mem0 from H _ ⟨rfl, rfl, rfl⟩
  intro Q hK
  unfold f_X2_joined at h
  refine RT.iload_n (pc := 0) (k := 0) (x := a0) dX2_joined_0 rfl ?_
  by_cases q1_0 : a0 = -10
  · rw [if_pos q1_0] at h
    refine RT.tsIn (pc := 1) (off := 93) (tgt := 94) dX2_joined_1 (by omega) (by omega) (by rw [q1_0]; rfl) rfl ?_
    refine RT.iload_n (pc := 94) (k := 1) (x := a1) dX2_joined_94 rfl ?_
    refine RT.iload_n (pc := 95) (k := 2) (x := a2) dX2_joined_95 rfl ?_
    refine RT.isub (pc := 96) dX2_joined_96 ?_
    obtain rfl := Option.some.inj h
    exact RT.iret (pc := 97) dX2_joined_97 rfl (Nat.le_of_eq (rt_cells_0 z)) (Nat.le_of_eq (rt_slots_0 z)) hK
  rw [if_neg q1_0] at h
  by_cases q1_1 : a0 = -9
  · rw [if_pos q1_1] at h
    refine RT.tsIn (pc := 1) (off := 89) (tgt := 90) dX2_joined_1 (by omega) (by omega) (by rw [q1_1]; rfl) rfl ?_
    refine RT.iload_n (pc := 90) (k := 1) (x := a1) dX2_joined_90 rfl ?_
    refine RT.iload_n (pc := 91) (k := 2) (x := a2) dX2_joined_91 rfl ?_
    refine RT.iadd (pc := 92) dX2_joined_92 ?_
    obtain rfl := Option.some.inj h
    exact RT.iret (pc := 93) dX2_joined_93 rfl (Nat.le_of_eq (rt_cells_0 z)) (Nat.le_of_eq (rt_slots_0 z)) hK
  rw [if_neg q1_1] at h
  by_cases q1_2 : a0 = -8
  · rw [if_pos q1_2] at h
    refine RT.tsIn (pc := 1) (off := 78) (tgt := 79) dX2_joined_1 (by omega) (by omega) (by rw [q1_2]; rfl) rfl ?_
    refine RT.iload_n (pc := 79) (k := 1) (x := a1) dX2_joined_79 rfl ?_
    refine RT.iload_n (pc := 80) (k := 2) (x := a2) dX2_joined_80 rfl ?_
    refine RT.icmp_ne (pc := 81) (tgt := 88) dX2_joined_81 rfl (fun q81 => ?_) (fun q81 => ?_)
    · rw [if_neg q81] at h
      refine RT.iconst (pc := 88) (n := 0) dX2_joined_88 ⟨by decide, by decide⟩ ?_
      refine RT.wk (L1 := [(9, 0), (9, 0), (9, 0)]) (rt_le_j (rt_le_j (rt_le_j rt_le_n))) ?_
      exact cj_X2_joined_89 hz hd 0 mem0 _ h hK
    · rw [if_pos (Classical.not_not.mp q81)] at h
      refine RT.iconst (pc := 84) (n := 1) dX2_joined_84 ⟨by decide, by decide⟩ ?_
      refine RT.goto (pc := 85) (tgt := 89) dX2_joined_85 rfl ?_
      refine RT.wk (L1 := [(9, 0), (9, 0), (9, 0)]) (rt_le_j (rt_le_j (rt_le_j rt_le_n))) ?_
      exact cj_X2_joined_89 hz hd 1 mem0 _ h hK
  rw [if_neg q1_2] at h
  by_cases q1_3 : a0 = -7
  · rw [if_pos q1_3] at h
    refine RT.tsIn (pc := 1) (off := 67) (tgt := 68) dX2_joined_1 (by omega) (by omega) (by rw [q1_3]; rfl) rfl ?_
    refine RT.iload_n (pc := 68) (k := 1) (x := a1) dX2_joined_68 rfl ?_
    refine RT.iload_n (pc := 69) (k := 2) (x := a2) dX2_joined_69 rfl ?_
    refine RT.icmp_ge (pc := 70) (tgt := 77) dX2_joined_70 rfl (fun q70 => ?_) (fun q70 => ?_)
    · rw [if_pos q70] at h
      refine RT.iconst (pc := 77) (n := 0) dX2_joined_77 ⟨by decide, by decide⟩ ?_
      refine RT.wk (L1 := [(9, 0), (9, 0), (9, 0)]) (rt_le_j (rt_le_j (rt_le_j rt_le_n))) ?_
      exact cj_X2_joined_78 hz hd 0 mem0 _ h hK
    · rw [if_neg q70] at h
      refine RT.iconst (pc := 73) (n := 1) dX2_joined_73 ⟨by decide, by decide⟩ ?_
      refine RT.goto (pc := 74) (tgt := 78) dX2_joined_74 rfl ?_
      refine RT.wk (L1 := [(9, 0), (9, 0), (9, 0)]) (rt_le_j (rt_le_j (rt_le_j rt_le_n))) ?_
      exact cj_X2_joined_78 hz hd 1 mem0 _ h hK
  rw [if_neg q1_3] at h
  by_cases q1_4 : a0 = -6
  · rw [if_pos q1_4] at h
    refine RT.tsIn (pc := 1) (off := 53) (tgt := 54) dX2_joined_1 (by omega) (by omega) (by rw [q1_4]; rfl) rfl ?_
    refine RT.iload_n (pc := 54) (k := 1) (x := a1) dX2_joined_54 rfl ?_
    refine RT.if_ne (pc := 55) (tgt := 62) dX2_joined_55 rfl (fun q55 => ?_) (fun q55 => ?_)
    · rw [if_neg q55] at h
      refine RT.wk (L1 := [(9, 0), (9, 0), (9, 0)]) (rt_le_j (rt_le_j (rt_le_j rt_le_n))) ?_
      exact cj_X2_joined_62 hz hd mem0 _ h hK
    · rw [if_pos (Classical.not_not.mp q55)] at h
      refine RT.iload_n (pc := 58) (k := 2) (x := a2) dX2_joined_58 rfl ?_
      refine RT.if_eq (pc := 59) (tgt := 66) dX2_joined_59 rfl (fun q59 => ?_) (fun q59 => ?_)
      · rw [if_pos q59] at h
        refine RT.iconst (pc := 66) (n := 0) dX2_joined_66 ⟨by decide, by decide⟩ ?_
        refine RT.wk (L1 := [(9, 0), (9, 0), (9, 0)]) (rt_le_j (rt_le_j (rt_le_j rt_le_n))) ?_
        exact cj_X2_joined_67 hz hd 0 mem0 _ h hK
      · rw [if_neg q59] at h
        refine RT.wk (L1 := [(9, 0), (9, 0), (9, 0)]) (rt_le_j (rt_le_j (rt_le_j rt_le_n))) ?_
        exact cj_X2_joined_62 hz hd mem0 _ h hK
  rw [if_neg q1_4] at h
  by_cases q1_5 : a0 = -5
  · rw [if_pos q1_5] at h
    refine RT.tsIn (pc := 1) (off := 39) (tgt := 40) dX2_joined_1 (by omega) (by omega) (by rw [q1_5]; rfl) rfl ?_
    refine RT.iload_n (pc := 40) (k := 1) (x := a1) dX2_joined_40 rfl ?_
    refine RT.if_eq (pc := 41) (tgt := 52) dX2_joined_41 rfl (fun q41 => ?_) (fun q41 => ?_)
    · rw [if_pos q41] at h
      refine RT.wk (L1 := [(9, 0), (9, 0), (9, 0)]) (rt_le_j (rt_le_j (rt_le_j rt_le_n))) ?_
      exact cj_X2_joined_52 hz hd mem0 _ h hK
    · rw [if_neg q41] at h
      refine RT.iload_n (pc := 44) (k := 2) (x := a2) dX2_joined_44 rfl ?_
      refine RT.if_eq (pc := 45) (tgt := 52) dX2_joined_45 rfl (fun q45 => ?_) (fun q45 => ?_)
      · rw [if_pos q45] at h
        refine RT.wk (L1 := [(9, 0), (9, 0), (9, 0)]) (rt_le_j (rt_le_j (rt_le_j rt_le_n))) ?_
        exact cj_X2_joined_52 hz hd mem0 _ h hK
      · rw [if_neg q45] at h
        refine RT.iconst (pc := 48) (n := 1) dX2_joined_48 ⟨by decide, by decide⟩ ?_
        refine RT.goto (pc := 49) (tgt := 53) dX2_joined_49 rfl ?_
        refine RT.wk (L1 := [(9, 0), (9, 0), (9, 0)]) (rt_le_j (rt_le_j (rt_le_j rt_le_n))) ?_
        exact cj_X2_joined_53 hz hd 1 mem0 _ h hK
  rw [if_neg q1_5] at h
  refine RT.tsOut (pc := 1) (tgt := 98) dX2_joined_1 (by omega) rfl ?_
  refine RT.iload_n (pc := 98) (k := 1) (x := a1) dX2_joined_98 rfl ?_
  refine RT.iload_n (pc := 99) (k := 2) (x := a2) dX2_joined_99 rfl ?_
  refine RT.imul (pc := 100) dX2_joined_100 ?_
  obtain rfl := Option.some.inj h
  exact RT.iret (pc := 101) dX2_joined_101 rfl (Nat.le_of_eq (rt_cells_0 z)) (Nat.le_of_eq (rt_slots_0 z)) hK
theorem cj_X2_worth_174_6 {G : rt_G} {d : Nat} {z : Nat × Nat} {Q : rt_P} (hz : 300 ≤ z.1) (hd : 1 ≤ d) {a0 : Int} (ht : rt_kd a0.toNat = 20 + 2) (a1 : Int) (a2 : Int) (a3 : Int) (a4 : Int) (a5 : Int) (mem0 : rt_M) (t : (Int × Int × rt_M) ⊕ (rt_M)) (h : j_X2_worth_174_6 a0 a1 a2 a3 a4 a5 mem0 = some t) (hK : (∀ s1 : Int × Int × rt_M, t = .inl s1 → RT G M_X2_worth d z Q 6 [(2, a0), (0, a1), (0, a2), (0, a3), (0, s1.1), (0, s1.2.1), (9, 0)] [] z s1.2.2) ∧ (∀ x1 : rt_M, t = .inr x1 → RT G M_X2_worth d z Q 180 [(2, a0), (9, 0), (9, 0), (9, 0), (9, 0), (9, 0), (9, 0)] [] z x1)) : RT G M_X2_worth d z Q 174 [(2, a0), (0, a1), (0, a2), (0, a3), (0, a4), (0, a5), (9, 0)] [] z mem0 := by
  unfold j_X2_worth_174_6 at h
  refine RT.iinc (pc := 174) (x := a5) (L1 := [(2, a0), (0, a1), (0, a2), (0, a3), (0, a4), (0, (rt_iadd a5 1)), (9, 0)]) dX2_worth_174 rfl (Nat.le_of_ble_eq_true rfl) ⟨by decide, by decide⟩ rfl ?_
  refine RT.goto (pc := 177) (tgt := 6) dX2_worth_177 rfl ?_
  obtain rfl := Option.some.inj h
  have q1 := hK.1 ((a4, (rt_iadd a5 1), mem0)) rfl
  try dsimp only at q1
  exact q1
theorem cj_X2_worth_128_6 {G : rt_G} {d : Nat} {z : Nat × Nat} {Q : rt_P} (hz : 300 ≤ z.1) (hd : 1 ≤ d) {a0 : Int} (ht : rt_kd a0.toNat = 20 + 2) (a1 : Int) (a2 : Int) (a3 : Int) (a4 : Int) (a5 : Int) (a6 : Int) (mem0 : rt_M) (t : (Int × Int × rt_M) ⊕ (rt_M)) (h : j_X2_worth_128_6 a0 a1 a2 a3 a4 a5 a6 mem0 = some t) (hK : (∀ s1 : Int × Int × rt_M, t = .inl s1 → RT G M_X2_worth d z Q 6 [(2, a0), (0, a1), (0, a2), (0, a3), (0, s1.1), (0, s1.2.1), (9, 0)] [] z s1.2.2) ∧ (∀ x1 : rt_M, t = .inr x1 → RT G M_X2_worth d z Q 180 [(2, a0), (9, 0), (9, 0), (9, 0), (9, 0), (9, 0), (9, 0)] [] z x1)) : RT G M_X2_worth d z Q 128 [(2, a0), (0, a1), (0, a2), (0, a3), (0, a4), (0, a5), (0, a6)] [] z mem0 := by
  unfold j_X2_worth_128_6 at h
  refine RT.iload (pc := 128) (k := 6) (x := a6) dX2_worth_128 rfl ?_
  refine RT.bipush (pc := 130) (n := (-4)) dX2_worth_130 ⟨by decide, by decide⟩ rfl ?_
  refine RT.icmp_ge (pc := 132) (tgt := 174) dX2_worth_132 rfl (fun q132 => ?_) (fun q132 => ?_)
  · rw [if_pos q132] at h
    refine RT.wk (L1 := [(2, a0), (0, a1), (0, a2), (0, a3), (0, a4), (0, a5), (9, 0)]) (rt_le_s (rt_le_s (rt_le_s (rt_le_s (rt_le_s (rt_le_s (rt_le_j rt_le_n))))))) ?_
    exact cj_X2_worth_174_6 hz hd ht a1 a2 a3 a4 a5 mem0 _ h hK
  · rw [if_neg q132] at h
    refine RT.iload (pc := 135) (k := 4) (x := a4) dX2_worth_135 rfl ?_
    refine RT.iconst (pc := 137) (n := 2) dX2_worth_137 ⟨by decide, by decide⟩ ?_
    refine RT.icmp_lt (pc := 138) (tgt := 174) dX2_worth_138 rfl (fun q138 => ?_) (fun q138 => ?_)
    · rw [if_pos q138] at h
      refine RT.wk (L1 := [(2, a0), (0, a1), (0, a2), (0, a3), (0, a4), (0, a5), (9, 0)]) (rt_le_s (rt_le_s (rt_le_s (rt_le_s (rt_le_s (rt_le_s (rt_le_j rt_le_n))))))) ?_
      exact cj_X2_worth_174_6 hz hd ht a1 a2 a3 a4 a5 mem0 _ h hK
    · rw [if_neg q138] at h
      refine RT.iinc (pc := 141) (x := a4) (L1 := [(2, a0), (0, a1), (0, a2), (0, a3), (0, (rt_iadd a4 (-1))), (0, a5), (0, a6)]) dX2_worth_141 rfl (Nat.le_of_ble_eq_true rfl) ⟨by decide, by decide⟩ rfl ?_
      refine RT.aload_n (pc := 144) (k := 0) (x := a0) dX2_worth_144 rfl ?_
      obtain ⟨v145, hv145, h⟩ := Option.bind_eq_some_iff.mp h
      refine RT.gf 2 4 2 (pc := 145) (x := a0) (v := v145) hz dX2_worth_145 fl_X2_15 rfl hv145 ?_
      refine RT.iload (pc := 148) (k := 4) (x := (rt_iadd a4 (-1))) dX2_worth_148 rfl ?_
      refine RT.iconst (pc := 150) (n := 1) dX2_worth_150 ⟨by decide, by decide⟩ ?_
      refine RT.isub (pc := 151) dX2_worth_151 ?_
      refine RT.iload (pc := 152) (k := 6) (x := a6) dX2_worth_152 rfl ?_
      refine RT.aload_n (pc := 154) (k := 0) (x := a0) dX2_worth_154 rfl ?_
      obtain ⟨v155, hv155, h⟩ := Option.bind_eq_some_iff.mp h
      refine RT.gf 2 4 2 (pc := 155) (x := a0) (v := v155) hz dX2_worth_155 fl_X2_15 rfl hv155 ?_
      refine RT.iload (pc := 158) (k := 4) (x := (rt_iadd a4 (-1))) dX2_worth_158 rfl ?_
      refine RT.iconst (pc := 160) (n := 1) dX2_worth_160 ⟨by decide, by decide⟩ ?_
      refine RT.isub (pc := 161) dX2_worth_161 ?_
      obtain ⟨v162, hv162, h⟩ := Option.bind_eq_some_iff.mp h
      refine RT.iald (pc := 162) (x := v155) (i := (rt_isub (rt_iadd a4 (-1)) 1)) (v := v162) dX2_worth_162 (rt_lta hz (by decide) (by decide) hv162) hv162 ?_
      refine RT.aload_n (pc := 163) (k := 0) (x := a0) dX2_worth_163 rfl ?_
      obtain ⟨v164, hv164, h⟩ := Option.bind_eq_some_iff.mp h
      refine RT.gf 2 4 2 (pc := 164) (x := a0) (v := v164) hz dX2_worth_164 fl_X2_15 rfl hv164 ?_
      refine RT.iload (pc := 167) (k := 4) (x := (rt_iadd a4 (-1))) dX2_worth_167 rfl ?_
      obtain ⟨v169, hv169, h⟩ := Option.bind_eq_some_iff.mp h
      refine RT.iald (pc := 169) (x := v164) (i := (rt_iadd a4 (-1))) (v := v169) dX2_worth_169 (rt_lta hz (by decide) (by decide) hv169) hv169 ?_
      obtain ⟨p170, hp170, h⟩ := Option.bind_eq_some_iff.mp h
      refine RT.cSz (pc := 170) (M' := M_X2_joined) (As := [(0, a6), (0, v162), (0, v169)]) (st := [(0, (rt_isub (rt_iadd a4 (-1)) 1)), (2, v145)]) (r := some (0, p170)) (mem1 := mem0) (d' := d - 1) dX2_worth_170 mw_X2_joined ml_X2_36 mi_X2_joined rfl rfl (Nat.le_of_ble_eq_true rfl) (Nat.le_of_ble_eq_true rfl) (by omega) rfl rfl (c_X2_joined hz (by omega) a6 v162 v169 mem0 _ hp170) ?_
      obtain ⟨m173, hm173, h⟩ := Option.bind_eq_some_iff.mp h
      refine RT.iast (pc := 173) (x := v145) (i := (rt_isub (rt_iadd a4 (-1)) 1)) (v := p170) (mem1 := m173) dX2_worth_173 (rt_lts hz (by decide) (by decide) hm173) hm173 ?_
      refine RT.wk (L1 := [(2, a0), (0, a1), (0, a2), (0, a3), (0, (rt_iadd a4 (-1))), (0, a5), (9, 0)]) (rt_le_s (rt_le_s (rt_le_s (rt_le_s (rt_le_s (rt_le_s (rt_le_j rt_le_n))))))) ?_
      exact cj_X2_worth_174_6 hz hd ht a1 a2 a3 ((rt_iadd a4 (-1))) a5 m173 _ h hK
theorem cj_X2_worth_124_6 {G : rt_G} {d : Nat} {z : Nat × Nat} {Q : rt_P} (hz : 300 ≤ z.1) (hd : 1 ≤ d) {a0 : Int} (ht : rt_kd a0.toNat = 20 + 2) (a1 : Int) (a2 : Int) (a3 : Int) (a4 : Int) (a5 : Int) (s0 : Int) (s1 : Int) (s2 : Int) (mem0 : rt_M) (t : (Int × Int × rt_M) ⊕ (rt_M)) (h : j_X2_worth_124_6 a0 a1 a2 a3 a4 a5 s0 s1 s2 mem0 = some t) (hK : (∀ s1 : Int × Int × rt_M, t = .inl s1 → RT G M_X2_worth d z Q 6 [(2, a0), (0, a1), (0, a2), (0, a3), (0, s1.1), (0, s1.2.1), (9, 0)] [] z s1.2.2) ∧ (∀ x1 : rt_M, t = .inr x1 → RT G M_X2_worth d z Q 180 [(2, a0), (9, 0), (9, 0), (9, 0), (9, 0), (9, 0), (9, 0)] [] z x1)) : RT G M_X2_worth d z Q 124 [(2, a0), (0, a1), (0, a2), (0, a3), (0, a4), (0, a5), (9, 0)] [(0, s2), (0, s1), (2, s0)] z mem0 := by
  unfold j_X2_worth_124_6 at h
  obtain ⟨m124, hm124, h⟩ := Option.bind_eq_some_iff.mp h
  refine RT.iast (pc := 124) (x := s0) (i := s1) (v := s2) (mem1 := m124) dX2_worth_124 (rt_lts hz (by decide) (by decide) hm124) hm124 ?_
  refine RT.goto (pc := 125) (tgt := 174) dX2_worth_125 rfl ?_
  exact cj_X2_worth_174_6 hz hd ht a1 a2 a3 a4 a5 m124 _ h hK
theorem cj_X2_worth_86_6 {G : rt_G} {d : Nat} {z : Nat × Nat} {Q : rt_P} (hz : 300 ≤ z.1) (hd : 1 ≤ d) {a0 : Int} (ht : rt_kd a0.toNat = 20 + 2) (a1 : Int) (a2 : Int) (a3 : Int) (a4 : Int) (a5 : Int) (a6 : Int) (mem0 : rt_M) (t : (Int × Int × rt_M) ⊕ (rt_M)) (h : j_X2_worth_86_6 a0 a1 a2 a3 a4 a5 a6 mem0 = some t) (hK : (∀ s1 : Int × Int × rt_M, t = .inl s1 → RT G M_X2_worth d z Q 6 [(2, a0), (0, a1), (0, a2), (0, a3), (0, s1.1), (0, s1.2.1), (9, 0)] [] z s1.2.2) ∧ (∀ x1 : rt_M, t = .inr x1 → RT G M_X2_worth d z Q 180 [(2, a0), (9, 0), (9, 0), (9, 0), (9, 0), (9, 0), (9, 0)] [] z x1)) : RT G M_X2_worth d z Q 86 [(2, a0), (0, a1), (0, a2), (0, a3), (0, a4), (0, a5), (0, a6)] [] z mem0 := by
  unfold j_X2_worth_86_6 at h
  refine RT.iload (pc := 86) (k := 6) (x := a6) dX2_worth_86 rfl ?_
  refine RT.bipush (pc := 88) (n := (-4)) dX2_worth_88 ⟨by decide, by decide⟩ rfl ?_
  refine RT.icmp_ne (pc := 90) (tgt := 128) dX2_worth_90 rfl (fun q90 => ?_) (fun q90 => ?_)
  · rw [if_neg q90] at h
    exact cj_X2_worth_128_6 hz hd ht a1 a2 a3 a4 a5 a6 mem0 _ h hK
  · rw [if_pos (Classical.not_not.mp q90)] at h
    refine RT.iload (pc := 93) (k := 4) (x := a4) dX2_worth_93 rfl ?_
    refine RT.iconst (pc := 95) (n := 1) dX2_worth_95 ⟨by decide, by decide⟩ ?_
    refine RT.icmp_lt (pc := 96) (tgt := 128) dX2_worth_96 rfl (fun q96 => ?_) (fun q96 => ?_)
    · rw [if_pos q96] at h
      exact cj_X2_worth_128_6 hz hd ht a1 a2 a3 a4 a5 a6 mem0 _ h hK
    · rw [if_neg q96] at h
      refine RT.aload_n (pc := 99) (k := 0) (x := a0) dX2_worth_99 rfl ?_
      obtain ⟨v100, hv100, h⟩ := Option.bind_eq_some_iff.mp h
      refine RT.gf 2 4 2 (pc := 100) (x := a0) (v := v100) hz dX2_worth_100 fl_X2_15 rfl hv100 ?_
      refine RT.iload (pc := 103) (k := 4) (x := a4) dX2_worth_103 rfl ?_
      refine RT.iconst (pc := 105) (n := 1) dX2_worth_105 ⟨by decide, by decide⟩ ?_
      refine RT.isub (pc := 106) dX2_worth_106 ?_
      refine RT.aload_n (pc := 107) (k := 0) (x := a0) dX2_worth_107 rfl ?_
      obtain ⟨v108, hv108, h⟩ := Option.bind_eq_some_iff.mp h
      refine RT.gf 2 4 2 (pc := 108) (x := a0) (v := v108) hz dX2_worth_108 fl_X2_15 rfl hv108 ?_
      refine RT.iload (pc := 111) (k := 4) (x := a4) dX2_worth_111 rfl ?_
      refine RT.iconst (pc := 113) (n := 1) dX2_worth_113 ⟨by decide, by decide⟩ ?_
      refine RT.isub (pc := 114) dX2_worth_114 ?_
      obtain ⟨v115, hv115, h⟩ := Option.bind_eq_some_iff.mp h
      refine RT.iald (pc := 115) (x := v108) (i := (rt_isub a4 1)) (v := v115) dX2_worth_115 (rt_lta hz (by decide) (by decide) hv115) hv115 ?_
      refine RT.if_ne (pc := 116) (tgt := 123) dX2_worth_116 rfl (fun q116 => ?_) (fun q116 => ?_)
      · rw [if_neg q116] at h
        refine RT.iconst (pc := 123) (n := 0) dX2_worth_123 ⟨by decide, by decide⟩ ?_
        refine RT.wk (L1 := [(2, a0), (0, a1), (0, a2), (0, a3), (0, a4), (0, a5), (9, 0)]) (rt_le_s (rt_le_s (rt_le_s (rt_le_s (rt_le_s (rt_le_s (rt_le_j rt_le_n))))))) ?_
        exact cj_X2_worth_124_6 hz hd ht a1 a2 a3 a4 a5 v100 ((rt_isub a4 1)) 0 mem0 _ h hK
      · rw [if_pos (Classical.not_not.mp q116)] at h
        refine RT.iconst (pc := 119) (n := 1) dX2_worth_119 ⟨by decide, by decide⟩ ?_
        refine RT.goto (pc := 120) (tgt := 124) dX2_worth_120 rfl ?_
        refine RT.wk (L1 := [(2, a0), (0, a1), (0, a2), (0, a3), (0, a4), (0, a5), (9, 0)]) (rt_le_s (rt_le_s (rt_le_s (rt_le_s (rt_le_s (rt_le_s (rt_le_j rt_le_n))))))) ?_
        exact cj_X2_worth_124_6 hz hd ht a1 a2 a3 a4 a5 v100 ((rt_isub a4 1)) 1 mem0 _ h hK
theorem cj_X2_worth_79_6 {G : rt_G} {d : Nat} {z : Nat × Nat} {Q : rt_P} (hz : 300 ≤ z.1) (hd : 1 ≤ d) {a0 : Int} (ht : rt_kd a0.toNat = 20 + 2) (a1 : Int) (a2 : Int) (a3 : Int) (a4 : Int) (a5 : Int) (s0 : Int) (s1 : Int) (s2 : Int) (mem0 : rt_M) (t : (Int × Int × rt_M) ⊕ (rt_M)) (h : j_X2_worth_79_6 a0 a1 a2 a3 a4 a5 s0 s1 s2 mem0 = some t) (hK : (∀ s1 : Int × Int × rt_M, t = .inl s1 → RT G M_X2_worth d z Q 6 [(2, a0), (0, a1), (0, a2), (0, a3), (0, s1.1), (0, s1.2.1), (9, 0)] [] z s1.2.2) ∧ (∀ x1 : rt_M, t = .inr x1 → RT G M_X2_worth d z Q 180 [(2, a0), (9, 0), (9, 0), (9, 0), (9, 0), (9, 0), (9, 0)] [] z x1)) : RT G M_X2_worth d z Q 79 [(2, a0), (0, a1), (0, a2), (0, a3), (0, a4), (0, a5), (9, 0)] [(0, s2), (0, s1), (2, s0)] z mem0 := by
  unfold j_X2_worth_79_6 at h
  obtain ⟨m79, hm79, h⟩ := Option.bind_eq_some_iff.mp h
  refine RT.iast (pc := 79) (x := s0) (i := s1) (v := s2) (mem1 := m79) dX2_worth_79 (rt_lts hz (by decide) (by decide) hm79) hm79 ?_
  refine RT.iinc (pc := 80) (x := a4) (L1 := [(2, a0), (0, a1), (0, a2), (0, a3), (0, (rt_iadd a4 1)), (0, a5), (9, 0)]) dX2_worth_80 rfl (Nat.le_of_ble_eq_true rfl) ⟨by decide, by decide⟩ rfl ?_
  refine RT.goto (pc := 83) (tgt := 174) dX2_worth_83 rfl ?_
  exact cj_X2_worth_174_6 hz hd ht a1 a2 a3 ((rt_iadd a4 1)) a5 m79 _ h hK
theorem cb_X2_worth_6 {G : rt_G} {d : Nat} {z : Nat × Nat} {Q : rt_P} (hz : 300 ≤ z.1) (hd : 1 ≤ d) {a0 : Int} (ht : rt_kd a0.toNat = 20 + 2) (a1 : Int) (a2 : Int) (a3 : Int) (s : Int × Int × rt_M) (t : (Int × Int × rt_M) ⊕ (rt_M)) (h : b_X2_worth_6 a0 a1 a2 a3 s = some t) (hK : (∀ s1 : Int × Int × rt_M, t = .inl s1 → RT G M_X2_worth d z Q 6 [(2, a0), (0, a1), (0, a2), (0, a3), (0, s1.1), (0, s1.2.1), (9, 0)] [] z s1.2.2) ∧ (∀ x1 : rt_M, t = .inr x1 → RT G M_X2_worth d z Q 180 [(2, a0), (9, 0), (9, 0), (9, 0), (9, 0), (9, 0), (9, 0)] [] z x1)) : RT G M_X2_worth d z Q 6 [(2, a0), (0, a1), (0, a2), (0, a3), (0, s.1), (0, s.2.1), (9, 0)] [] z s.2.2 := by
  unfold b_X2_worth_6 at h
  refine RT.iload (pc := 6) (k := 5) (x := s.2.1) dX2_worth_6 rfl ?_
  refine RT.aload_n (pc := 8) (k := 0) (x := a0) dX2_worth_8 rfl ?_
  obtain ⟨v9, hv9, h⟩ := Option.bind_eq_some_iff.mp h
  refine RT.gf 2 5 0 (pc := 9) (x := a0) (v := v9) hz dX2_worth_9 fl_X2_28 rfl hv9 ?_
  refine RT.icmp_ge (pc := 12) (tgt := 180) dX2_worth_12 rfl (fun q12 => ?_) (fun q12 => ?_)
  · rw [if_pos q12] at h
    refine RT.wk (L1 := [(2, a0), (9, 0), (9, 0), (9, 0), (9, 0), (9, 0), (9, 0)]) (rt_le_s (rt_le_j (rt_le_j (rt_le_j (rt_le_j (rt_le_j (rt_le_s rt_le_n))))))) ?_
    obtain rfl := Option.some.inj h
    have q1 := hK.2 s.2.2 rfl
    try dsimp only at q1
    exact q1
  · rw [if_neg q12] at h
    refine RT.aload_n (pc := 15) (k := 0) (x := a0) dX2_worth_15 rfl ?_
    obtain ⟨v16, hv16, h⟩ := Option.bind_eq_some_iff.mp h
    refine RT.gf 2 3 2 (pc := 16) (x := a0) (v := v16) hz dX2_worth_16 fl_X2_9 rfl hv16 ?_
    refine RT.iload (pc := 19) (k := 5) (x := s.2.1) dX2_worth_19 rfl ?_
    obtain ⟨v21, hv21, h⟩ := Option.bind_eq_some_iff.mp h
    refine RT.iald (pc := 21) (x := v16) (i := s.2.1) (v := v21) dX2_worth_21 (rt_lta hz (by decide) (by decide) hv21) hv21 ?_
    refine RT.istore (pc := 22) (k := 6) (x := v21) (L1 := [(2, a0), (0, a1), (0, a2), (0, a3), (0, s.1), (0, s.2.1), (0, v21)]) dX2_worth_22 (Nat.le_of_ble_eq_true rfl) rfl ?_
    refine RT.iload (pc := 24) (k := 6) (x := v21) dX2_worth_24 rfl ?_
    refine RT.bipush (pc := 26) (n := (-3)) dX2_worth_26 ⟨by decide, by decide⟩ rfl ?_
    refine RT.icmp_lt (pc := 28) (tgt := 86) dX2_worth_28 rfl (fun q28 => ?_) (fun q28 => ?_)
    · rw [if_pos q28] at h
      exact cj_X2_worth_86_6 hz hd ht a1 a2 a3 s.1 s.2.1 v21 s.2.2 _ h hK
    · rw [if_neg q28] at h
      refine RT.iload (pc := 31) (k := 4) (x := s.1) dX2_worth_31 rfl ?_
      refine RT.aload_n (pc := 33) (k := 0) (x := a0) dX2_worth_33 rfl ?_
      obtain ⟨v34, hv34, h⟩ := Option.bind_eq_some_iff.mp h
      refine RT.gf 2 4 2 (pc := 34) (x := a0) (v := v34) hz dX2_worth_34 fl_X2_15 rfl hv34 ?_
      obtain ⟨v37, hv37, h⟩ := Option.bind_eq_some_iff.mp h
      refine RT.alen 1 (pc := 37) (x := v34) (v := v37) dX2_worth_37 ⟨by decide, by decide⟩ (rt_ltl hz (by decide) (by decide) hv37) hv37 ?_
      refine RT.icmp_ge (pc := 38) (tgt := 86) dX2_worth_38 rfl (fun q38 => ?_) (fun q38 => ?_)
      · rw [if_pos q38] at h
        exact cj_X2_worth_86_6 hz hd ht a1 a2 a3 s.1 s.2.1 v21 s.2.2 _ h hK
      · rw [if_neg q38] at h
        refine RT.aload_n (pc := 41) (k := 0) (x := a0) dX2_worth_41 rfl ?_
        obtain ⟨v42, hv42, h⟩ := Option.bind_eq_some_iff.mp h
        refine RT.gf 2 4 2 (pc := 42) (x := a0) (v := v42) hz dX2_worth_42 fl_X2_15 rfl hv42 ?_
        refine RT.iload (pc := 45) (k := 4) (x := s.1) dX2_worth_45 rfl ?_
        refine RT.iload (pc := 47) (k := 6) (x := v21) dX2_worth_47 rfl ?_
        refine RT.if_lt (pc := 49) (tgt := 57) dX2_worth_49 rfl (fun q49 => ?_) (fun q49 => ?_)
        · rw [if_pos q49] at h
          refine RT.iload (pc := 57) (k := 6) (x := v21) dX2_worth_57 rfl ?_
          refine RT.iconst (pc := 59) (n := (-1)) dX2_worth_59 ⟨by decide, by decide⟩ ?_
          refine RT.icmp_ne (pc := 60) (tgt := 67) dX2_worth_60 rfl (fun q60 => ?_) (fun q60 => ?_)
          · rw [if_neg q60] at h
            refine RT.iload (pc := 67) (k := 6) (x := v21) dX2_worth_67 rfl ?_
            refine RT.bipush (pc := 69) (n := (-2)) dX2_worth_69 ⟨by decide, by decide⟩ rfl ?_
            refine RT.icmp_ne (pc := 71) (tgt := 78) dX2_worth_71 rfl (fun q71 => ?_) (fun q71 => ?_)
            · rw [if_neg q71] at h
              refine RT.iload_n (pc := 78) (k := 3) (x := a3) dX2_worth_78 rfl ?_
              refine RT.wk (L1 := [(2, a0), (0, a1), (0, a2), (0, a3), (0, s.1), (0, s.2.1), (9, 0)]) (rt_le_s (rt_le_s (rt_le_s (rt_le_s (rt_le_s (rt_le_s (rt_le_j rt_le_n))))))) ?_
              exact cj_X2_worth_79_6 hz hd ht a1 a2 a3 s.1 s.2.1 v42 s.1 a3 s.2.2 _ h hK
            · rw [if_pos (Classical.not_not.mp q71)] at h
              refine RT.iload_n (pc := 74) (k := 2) (x := a2) dX2_worth_74 rfl ?_
              refine RT.goto (pc := 75) (tgt := 79) dX2_worth_75 rfl ?_
              refine RT.wk (L1 := [(2, a0), (0, a1), (0, a2), (0, a3), (0, s.1), (0, s.2.1), (9, 0)]) (rt_le_s (rt_le_s (rt_le_s (rt_le_s (rt_le_s (rt_le_s (rt_le_j rt_le_n))))))) ?_
              exact cj_X2_worth_79_6 hz hd ht a1 a2 a3 s.1 s.2.1 v42 s.1 a2 s.2.2 _ h hK
          · rw [if_pos (Classical.not_not.mp q60)] at h
            refine RT.iload_n (pc := 63) (k := 1) (x := a1) dX2_worth_63 rfl ?_
            refine RT.goto (pc := 64) (tgt := 79) dX2_worth_64 rfl ?_
            refine RT.wk (L1 := [(2, a0), (0, a1), (0, a2), (0, a3), (0, s.1), (0, s.2.1), (9, 0)]) (rt_le_s (rt_le_s (rt_le_s (rt_le_s (rt_le_s (rt_le_s (rt_le_j rt_le_n))))))) ?_
            exact cj_X2_worth_79_6 hz hd ht a1 a2 a3 s.1 s.2.1 v42 s.1 a1 s.2.2 _ h hK
        · rw [if_neg q49] at h
          refine RT.iload (pc := 52) (k := 6) (x := v21) dX2_worth_52 rfl ?_
          refine RT.goto (pc := 54) (tgt := 79) dX2_worth_54 rfl ?_
          refine RT.wk (L1 := [(2, a0), (0, a1), (0, a2), (0, a3), (0, s.1), (0, s.2.1), (9, 0)]) (rt_le_s (rt_le_s (rt_le_s (rt_le_s (rt_le_s (rt_le_s (rt_le_j rt_le_n))))))) ?_
          exact cj_X2_worth_79_6 hz hd ht a1 a2 a3 s.1 s.2.1 v42 s.1 v21 s.2.2 _ h hK
theorem c_X2_worth {G : rt_G} {d : Nat} {z : Nat × Nat} (hz : 300 ≤ z.1) (hd : 1 ≤ d) (a0 : Int) (a1 : Int) (a2 : Int) (a3 : Int) (mem0 : rt_M) (t : Int × rt_M) (ht : rt_kd a0.toNat = 20 + 2) (h : f_X2_worth a0 a1 a2 a3 mem0 = some t) : RM G M_X2_worth d [(2, a0), (0, a1), (0, a2), (0, a3)] z mem0 (some (0, t.1)) t.2 := by
  suffices H : ∀ Q : rt_P, Q (some (0, t.1)) z t.2 → RT G M_X2_worth d z Q 0 [(2, a0), (0, a1), (0, a2), (0, a3), (9, 0), (9, 0), (9, 0)] [] z mem0 from H _ ⟨rfl, rfl, rfl⟩
  intro Q hK
  unfold f_X2_worth at h
  refine RT.iconst (pc := 0) (n := 0) dX2_worth_0 ⟨by decide, by decide⟩ ?_
  refine RT.istore (pc := 1) (k := 4) (x := 0) (L1 := [(2, a0), (0, a1), (0, a2), (0, a3), (0, 0), (9, 0), (9, 0)]) dX2_worth_1 (Nat.le_of_ble_eq_true rfl) rfl ?_
  refine RT.iconst (pc := 3) (n := 0) dX2_worth_3 ⟨by decide, by decide⟩ ?_
  refine RT.istore (pc := 4) (k := 5) (x := 0) (L1 := [(2, a0), (0, a1), (0, a2), (0, a3), (0, 0), (0, 0), (9, 0)]) dX2_worth_4 (Nat.le_of_ble_eq_true rfl) rfl ?_
  obtain ⟨X6, hX6, h⟩ := Option.bind_eq_some_iff.mp h
  refine rt_it_ind (P := (fun s1 : Int × Int × rt_M => RT G M_X2_worth d z Q 6 [(2, a0), (0, a1), (0, a2), (0, a3), (0, s1.1), (0, s1.2.1), (9, 0)] [] z s1.2.2)) (X := (fun x1 : rt_M => RT G M_X2_worth d z Q 180 [(2, a0), (9, 0), (9, 0), (9, 0), (9, 0), (9, 0), (9, 0)] [] z x1)) (fun s1 t1 h1 k1 k2 => cb_X2_worth_6 hz hd ht a1 a2 a3 s1 t1 h1 ⟨k1, k2⟩) 4000 ((0, 0, mem0)) X6 hX6 ?_
  refine RT.aload_n (pc := 180) (k := 0) (x := a0) dX2_worth_180 rfl ?_
  obtain ⟨v181, hv181, h⟩ := Option.bind_eq_some_iff.mp h
  refine RT.gf 2 4 2 (pc := 181) (x := a0) (v := v181) hz dX2_worth_181 fl_X2_15 rfl hv181 ?_
  refine RT.iconst (pc := 184) (n := 0) dX2_worth_184 ⟨by decide, by decide⟩ ?_
  obtain ⟨v185, hv185, h⟩ := Option.bind_eq_some_iff.mp h
  refine RT.iald (pc := 185) (x := v181) (i := 0) (v := v185) dX2_worth_185 (rt_lta hz (by decide) (by decide) hv185) hv185 ?_
  obtain rfl := Option.some.inj h
  exact RT.iret (pc := 186) dX2_worth_186 rfl (Nat.le_of_eq (rt_cells_0 z)) (Nat.le_of_eq (rt_slots_0 z)) hK
theorem cj_J9_min_7cf53_10 {G : rt_G} {d : Nat} {z : Nat × Nat} {Q : rt_P} (hz : 300 ≤ z.1) (hd : 0 ≤ d) (s0 : Int) (mem0 : rt_M) (t : Int) (h : j_J9_min_7cf53_10 s0 mem0 = some t) (hK : Q (some (0, t)) z mem0) : RT G M_J9_min_7cf53 d z Q 10 [(9, 0), (9, 0)] [(0, s0)] z mem0 := by
  unfold j_J9_min_7cf53_10 at h
  obtain rfl := Option.some.inj h
  exact RT.iret (pc := 10) dJ9_min_7cf53_10 rfl (Nat.le_of_eq (rt_cells_0 z)) (Nat.le_of_eq (rt_slots_0 z)) hK
theorem c_J9_min_7cf53 {G : rt_G} {d : Nat} {z : Nat × Nat} (hz : 300 ≤ z.1) (hd : 0 ≤ d) (a0 : Int) (a1 : Int) (mem0 : rt_M) (t : Int) (h : f_J9_min_7cf53 a0 a1 mem0 = some t) : RM G M_J9_min_7cf53 d [(0, a0), (0, a1)] z mem0 (some (0, t)) mem0 := by
  suffices H : ∀ Q : rt_P, Q (some (0, t)) z mem0 → RT G M_J9_min_7cf53 d z Q 0 [(0, a0), (0, a1)] [] z mem0 from H _ ⟨rfl, rfl, rfl⟩
  intro Q hK
  unfold f_J9_min_7cf53 at h
  refine RT.iload_n (pc := 0) (k := 0) (x := a0) dJ9_min_7cf53_0 rfl ?_
  refine RT.iload_n (pc := 1) (k := 1) (x := a1) dJ9_min_7cf53_1 rfl ?_
  refine RT.icmp_gt (pc := 2) (tgt := 9) dJ9_min_7cf53_2 rfl (fun q2 => ?_) (fun q2 => ?_)
  · rw [if_pos q2] at h
    refine RT.iload_n (pc := 9) (k := 1) (x := a1) dJ9_min_7cf53_9 rfl ?_
    refine RT.wk (L1 := [(9, 0), (9, 0)]) (rt_le_j (rt_le_j rt_le_n)) ?_
    exact cj_J9_min_7cf53_10 hz hd a1 mem0 _ h hK
  · rw [if_neg q2] at h
    refine RT.iload_n (pc := 5) (k := 0) (x := a0) dJ9_min_7cf53_5 rfl ?_
    refine RT.goto (pc := 6) (tgt := 10) dJ9_min_7cf53_6 rfl ?_
    refine RT.wk (L1 := [(9, 0), (9, 0)]) (rt_le_j (rt_le_j rt_le_n)) ?_
    exact cj_J9_min_7cf53_10 hz hd a0 mem0 _ h hK
theorem cj_J9_max_7cf53_10 {G : rt_G} {d : Nat} {z : Nat × Nat} {Q : rt_P} (hz : 300 ≤ z.1) (hd : 0 ≤ d) (s0 : Int) (mem0 : rt_M) (t : Int) (h : j_J9_max_7cf53_10 s0 mem0 = some t) (hK : Q (some (0, t)) z mem0) : RT G M_J9_max_7cf53 d z Q 10 [(9, 0), (9, 0)] [(0, s0)] z mem0 := by
  unfold j_J9_max_7cf53_10 at h
  obtain rfl := Option.some.inj h
  exact RT.iret (pc := 10) dJ9_max_7cf53_10 rfl (Nat.le_of_eq (rt_cells_0 z)) (Nat.le_of_eq (rt_slots_0 z)) hK
theorem c_J9_max_7cf53 {G : rt_G} {d : Nat} {z : Nat × Nat} (hz : 300 ≤ z.1) (hd : 0 ≤ d) (a0 : Int) (a1 : Int) (mem0 : rt_M) (t : Int) (h : f_J9_max_7cf53 a0 a1 mem0 = some t) : RM G M_J9_max_7cf53 d [(0, a0), (0, a1)] z mem0 (some (0, t)) mem0 := by
  suffices H : ∀ Q : rt_P, Q (some (0, t)) z mem0 → RT G M_J9_max_7cf53 d z Q 0 [(0, a0), (0, a1)] [] z mem0 from H _ ⟨rfl, rfl, rfl⟩
  intro Q hK
  unfold f_J9_max_7cf53 at h
  refine RT.iload_n (pc := 0) (k := 0) (x := a0) dJ9_max_7cf53_0 rfl ?_
  refine RT.iload_n (pc := 1) (k := 1) (x := a1) dJ9_max_7cf53_1 rfl ?_
  refine RT.icmp_lt (pc := 2) (tgt := 9) dJ9_max_7cf53_2 rfl (fun q2 => ?_) (fun q2 => ?_)
  · rw [if_pos q2] at h
    refine RT.iload_n (pc := 9) (k := 1) (x := a1) dJ9_max_7cf53_9 rfl ?_
    refine RT.wk (L1 := [(9, 0), (9, 0)]) (rt_le_j (rt_le_j rt_le_n)) ?_
    exact cj_J9_max_7cf53_10 hz hd a1 mem0 _ h hK
  · rw [if_neg q2] at h
    refine RT.iload_n (pc := 5) (k := 0) (x := a0) dJ9_max_7cf53_5 rfl ?_
    refine RT.goto (pc := 6) (tgt := 10) dJ9_max_7cf53_6 rfl ?_
    refine RT.wk (L1 := [(9, 0), (9, 0)]) (rt_le_j (rt_le_j rt_le_n)) ?_
    exact cj_J9_max_7cf53_10 hz hd a0 mem0 _ h hK
theorem cj_X4_girth_114 {G : rt_G} {d : Nat} {z : Nat × Nat} {Q : rt_P} (hz : 300 ≤ z.1) (hd : 2 ≤ d) {a0 : Int} (ht : rt_kd a0.toNat = 20 + 4) (s0 : Int) (mem0 : rt_M) (t : Int × rt_M) (h : j_X4_girth_114 s0 mem0 = some t) (hK : Q (some (0, t.1)) z t.2) : RT G M_X4_girth d z Q 114 [(9, 0), (9, 0), (9, 0), (9, 0), (9, 0), (9, 0), (9, 0), (9, 0)] [(0, s0)] z mem0 := by
  unfold j_X4_girth_114 at h
  obtain rfl := Option.some.inj h
  exact RT.iret (pc := 114) dX4_girth_114 rfl (Nat.le_of_eq (rt_cells_0 z)) (Nat.le_of_eq (rt_slots_0 z)) hK
theorem cj_X4_girth_66 {G : rt_G} {d : Nat} {z : Nat × Nat} {Q : rt_P} (hz : 300 ≤ z.1) (hd : 2 ≤ d) {a0 : Int} (ht : rt_kd a0.toNat = 20 + 4) (a1 : Int) (a3 : Int) (a5 : Int) (a6 : Int) (mem0 : rt_M) (t : Int × rt_M) (h : j_X4_girth_66 a0 a1 a3 a5 a6 mem0 = some t) (hK : Q (some (0, t.1)) z t.2) : RT G M_X4_girth d z Q 66 [(2, a0), (0, a1), (9, 0), (0, a3), (9, 0), (0, a5), (0, a6), (9, 0)] [] z mem0 := by
  unfold j_X4_girth_66 at h
  refine RT.aload_n (pc := 66) (k := 0) (x := a0) dX4_girth_66 rfl ?_
  refine RT.iload_n (pc := 67) (k := 1) (x := a1) dX4_girth_67 rfl ?_
  refine RT.iconst (pc := 68) (n := 1) dX4_girth_68 ⟨by decide, by decide⟩ ?_
  obtain ⟨p69, hp69, h⟩ := Option.bind_eq_some_iff.mp h
  refine RT.cVz (pc := 69) (M' := M_X4_ofHead) (ci := 4) (x := a0) (As := [(0, a1), (0, 1)]) (st := []) (r := some (0, p69)) (mem1 := mem0) (d' := d - 1) hz dX4_girth_69 mw_X4_ofHead ml_X4_107 mi_X4_ofHead ht rfl rfl (Nat.le_of_ble_eq_true rfl) (Nat.le_of_ble_eq_true rfl) (by omega) rfl rfl (c_X4_ofHead hz (by omega) a0 a1 1 mem0 _ ht hp69) ?_
  refine RT.bipush (pc := 72) (n := (-9)) dX4_girth_72 ⟨by decide, by decide⟩ rfl ?_
  refine RT.bipush (pc := 74) (n := 9) dX4_girth_74 ⟨by decide, by decide⟩ rfl ?_
  refine RT.iload (pc := 76) (k := 6) (x := a6) dX4_girth_76 rfl ?_
  obtain ⟨p78, hp78, h⟩ := Option.bind_eq_some_iff.mp h
  refine RT.cSz (pc := 78) (M' := M_J9_min_7cf53) (As := [(0, 9), (0, a6)]) (st := [(0, (-9)), (0, p69)]) (r := some (0, p78)) (mem1 := mem0) (d' := d - 1) dX4_girth_78 mw_J9_min_7cf53 ml_X4_120 mi_J9_min_7cf53 rfl rfl (Nat.le_of_ble_eq_true rfl) (Nat.le_of_ble_eq_true rfl) (by omega) rfl rfl (c_J9_min_7cf53 hz (by omega) 9 a6 mem0 _ hp78) ?_
  obtain ⟨p81, hp81, h⟩ := Option.bind_eq_some_iff.mp h
  refine RT.cSz (pc := 81) (M' := M_J9_max_7cf53) (As := [(0, (-9)), (0, p78)]) (st := [(0, p69)]) (r := some (0, p81)) (mem1 := mem0) (d' := d - 1) dX4_girth_81 mw_J9_max_7cf53 ml_X4_123 mi_J9_max_7cf53 rfl rfl (Nat.le_of_ble_eq_true rfl) (Nat.le_of_ble_eq_true rfl) (by omega) rfl rfl (c_J9_max_7cf53 hz (by omega) ((-9)) p78 mem0 _ hp81) ?_
  refine RT.iadd (pc := 84) dX4_girth_84 ?_
  refine RT.istore (pc := 85) (k := 7) (x := (rt_iadd p69 p81)) (L1 := [(2, a0), (0, a1), (9, 0), (0, a3), (9, 0), (0, a5), (0, a6), (0, (rt_iadd p69 p81))]) dX4_girth_85 (Nat.le_of_ble_eq_true rfl) rfl ?_
  refine RT.iload_n (pc := 87) (k := 3) (x := a3) dX4_girth_87 rfl ?_
  refine RT.iconst (pc := 88) (n := 3) dX4_girth_88 ⟨by decide, by decide⟩ ?_
  refine RT.icmp_ne (pc := 89) (tgt := 100) dX4_girth_89 rfl (fun q89 => ?_) (fun q89 => ?_)
  · rw [if_neg q89] at h
    refine RT.iload_n (pc := 100) (k := 3) (x := a3) dX4_girth_100 rfl ?_
    refine RT.iconst (pc := 101) (n := 2) dX4_girth_101 ⟨by decide, by decide⟩ ?_
    refine RT.icmp_ne (pc := 102) (tgt := 112) dX4_girth_102 rfl (fun q102 => ?_) (fun q102 => ?_)
    · rw [if_neg q102] at h
      refine RT.iload (pc := 112) (k := 7) (x := (rt_iadd p69 p81)) dX4_girth_112 rfl ?_
      refine RT.wk (L1 := [(9, 0), (9, 0), (9, 0), (9, 0), (9, 0), (9, 0), (9, 0), (9, 0)]) (rt_le_j (rt_le_j (rt_le_s (rt_le_j (rt_le_s (rt_le_j (rt_le_j (rt_le_j rt_le_n)))))))) ?_
      exact cj_X4_girth_114 hz hd ht ((rt_iadd p69 p81)) mem0 _ h hK
    · rw [if_pos (Classical.not_not.mp q102)] at h
      refine RT.iload (pc := 105) (k := 7) (x := (rt_iadd p69 p81)) dX4_girth_105 rfl ?_
      refine RT.iconst (pc := 107) (n := 1) dX4_girth_107 ⟨by decide, by decide⟩ ?_
      refine RT.isub (pc := 108) dX4_girth_108 ?_
      refine RT.goto (pc := 109) (tgt := 114) dX4_girth_109 rfl ?_
      refine RT.wk (L1 := [(9, 0), (9, 0), (9, 0), (9, 0), (9, 0), (9, 0), (9, 0), (9, 0)]) (rt_le_j (rt_le_j (rt_le_s (rt_le_j (rt_le_s (rt_le_j (rt_le_j (rt_le_j rt_le_n)))))))) ?_
      exact cj_X4_girth_114 hz hd ht ((rt_isub (rt_iadd p69 p81) 1)) mem0 _ h hK
  · rw [if_pos (Classical.not_not.mp q89)] at h
    refine RT.iload (pc := 92) (k := 7) (x := (rt_iadd p69 p81)) dX4_girth_92 rfl ?_
    refine RT.iload (pc := 94) (k := 5) (x := a5) dX4_girth_94 rfl ?_
    refine RT.iadd (pc := 96) dX4_girth_96 ?_
    refine RT.goto (pc := 97) (tgt := 114) dX4_girth_97 rfl ?_
    refine RT.wk (L1 := [(9, 0), (9, 0), (9, 0), (9, 0), (9, 0), (9, 0), (9, 0), (9, 0)]) (rt_le_j (rt_le_j (rt_le_s (rt_le_j (rt_le_s (rt_le_j (rt_le_j (rt_le_j rt_le_n)))))))) ?_
    exact cj_X4_girth_114 hz hd ht ((rt_iadd (rt_iadd p69 p81) a5)) mem0 _ h hK
theorem cj_X4_girth_33 {G : rt_G} {d : Nat} {z : Nat × Nat} {Q : rt_P} (hz : 300 ≤ z.1) (hd : 2 ≤ d) {a0 : Int} (ht : rt_kd a0.toNat = 20 + 4) (a1 : Int) (a3 : Int) (a4 : Int) (a5 : Int) (s0 : Int) (mem0 : rt_M) (t : Int × rt_M) (h : j_X4_girth_33 a0 a1 a3 a4 a5 s0 mem0 = some t) (hK : Q (some (0, t.1)) z t.2) : RT G M_X4_girth d z Q 33 [(2, a0), (0, a1), (9, 0), (0, a3), (0, a4), (0, a5), (9, 0), (9, 0)] [(0, s0)] z mem0 := by
  unfold j_X4_girth_33 at h
  refine RT.istore (pc := 33) (k := 6) (x := s0) (L1 := [(2, a0), (0, a1), (9, 0), (0, a3), (0, a4), (0, a5), (0, s0), (9, 0)]) dX4_girth_33 (Nat.le_of_ble_eq_true rfl) rfl ?_
  refine RT.aload_n (pc := 35) (k := 0) (x := a0) dX4_girth_35 rfl ?_
  obtain ⟨v36, hv36, h⟩ := Option.bind_eq_some_iff.mp h
  refine RT.gf 4 10 2 (pc := 36) (x := a0) (v := v36) hz dX4_girth_36 fl_X4_51 rfl hv36 ?_
  obtain ⟨v39, hv39, h⟩ := Option.bind_eq_some_iff.mp h
  refine RT.gf 2 6 0 (pc := 39) (x := v36) (v := v39) hz dX4_girth_39 fl_X4_113 rfl hv39 ?_
  refine RT.if_eq (pc := 42) (tgt := 66) dX4_girth_42 rfl (fun q42 => ?_) (fun q42 => ?_)
  · rw [if_pos q42] at h
    refine RT.wk (L1 := [(2, a0), (0, a1), (9, 0), (0, a3), (9, 0), (0, a5), (0, s0), (9, 0)]) (rt_le_s (rt_le_s (rt_le_s (rt_le_s (rt_le_j (rt_le_s (rt_le_s (rt_le_s rt_le_n)))))))) ?_
    exact cj_X4_girth_66 hz hd ht a1 a3 a5 s0 mem0 _ h hK
  · rw [if_neg q42] at h
    refine RT.aload_n (pc := 45) (k := 0) (x := a0) dX4_girth_45 rfl ?_
    obtain ⟨v46, hv46, h⟩ := Option.bind_eq_some_iff.mp h
    refine RT.gf 4 10 2 (pc := 46) (x := a0) (v := v46) hz dX4_girth_46 fl_X4_51 rfl hv46 ?_
    refine RT.iload (pc := 49) (k := 4) (x := a4) dX4_girth_49 rfl ?_
    refine RT.aload_n (pc := 51) (k := 0) (x := a0) dX4_girth_51 rfl ?_
    refine RT.iload_n (pc := 52) (k := 1) (x := a1) dX4_girth_52 rfl ?_
    refine RT.iconst (pc := 53) (n := 2) dX4_girth_53 ⟨by decide, by decide⟩ ?_
    obtain ⟨p54, hp54, h⟩ := Option.bind_eq_some_iff.mp h
    refine RT.cVz (pc := 54) (M' := M_X4_ofHead) (ci := 4) (x := a0) (As := [(0, a1), (0, 2)]) (st := [(0, a4), (2, v46)]) (r := some (0, p54)) (mem1 := mem0) (d' := d - 1) hz dX4_girth_54 mw_X4_ofHead ml_X4_107 mi_X4_ofHead ht rfl rfl (Nat.le_of_ble_eq_true rfl) (Nat.le_of_ble_eq_true rfl) (by omega) rfl rfl (c_X4_ofHead hz (by omega) a0 a1 2 mem0 _ ht hp54) ?_
    refine RT.iload (pc := 57) (k := 5) (x := a5) dX4_girth_57 rfl ?_
    refine RT.iadd (pc := 59) dX4_girth_59 ?_
    refine RT.iload_n (pc := 60) (k := 3) (x := a3) dX4_girth_60 rfl ?_
    obtain ⟨p61, hp61, h⟩ := Option.bind_eq_some_iff.mp h
    obtain ⟨hk61, hp61⟩ := rt_gd_some hp61
    refine RT.cVz (pc := 61) (M' := M_X2_worth) (ci := 2) (x := v46) (As := [(0, a4), (0, (rt_iadd p54 a5)), (0, a3)]) (st := []) (r := some (0, p61.1)) (mem1 := p61.2) (d' := d - 1) hz dX4_girth_61 mw_X2_worth ml_X4_116 mi_X2_worth hk61 rfl rfl (Nat.le_of_ble_eq_true rfl) (Nat.le_of_ble_eq_true rfl) (by omega) rfl rfl (c_X2_worth hz (by omega) v46 a4 ((rt_iadd p54 a5)) a3 mem0 _ hk61 hp61) ?_
    refine RT.istore (pc := 64) (k := 6) (x := p61.1) (L1 := [(2, a0), (0, a1), (9, 0), (0, a3), (0, a4), (0, a5), (0, p61.1), (9, 0)]) dX4_girth_64 (Nat.le_of_ble_eq_true rfl) rfl ?_
    refine RT.wk (L1 := [(2, a0), (0, a1), (9, 0), (0, a3), (9, 0), (0, a5), (0, p61.1), (9, 0)]) (rt_le_s (rt_le_s (rt_le_s (rt_le_s (rt_le_j (rt_le_s (rt_le_s (rt_le_s rt_le_n)))))))) ?_
    exact cj_X4_girth_66 hz hd ht a1 a3 a5 p61.1 p61.2 _ h hK
theorem c_X4_girth {G : rt_G} {d : Nat} {z : Nat × Nat} (hz : 300 ≤ z.1) (hd : 2 ≤ d) (a0 : Int) (a1 : Int) (a2 : Int) (mem0 : rt_M) (t : Int × rt_M) (ht : rt_kd a0.toNat = 20 + 4) (h : f_X4_girth a0 a1 a2 mem0 = some t) : RM G M_X4_girth d [(2, a0), (0, a1), (0, a2)] z mem0 (some (0, t.1)) t.2 := by
  suffices H : ∀ Q : rt_P, Q (some (0, t.1)) z t.2 → RT G M_X4_girth d z Q 0 [(2, a0), (0, a1), (0, a2), (9, 0), (9, 0), (9, 0), (9, 0), (9, 0)] [] z mem0 from H _ ⟨rfl, rfl, rfl⟩
  intro Q hK
  unfold f_X4_girth at h
  refine RT.aload_n (pc := 0) (k := 0) (x := a0) dX4_girth_0 rfl ?_
  refine RT.iload_n (pc := 1) (k := 1) (x := a1) dX4_girth_1 rfl ?_
  refine RT.iconst (pc := 2) (n := 0) dX4_girth_2 ⟨by decide, by decide⟩ ?_
  obtain ⟨p3, hp3, h⟩ := Option.bind_eq_some_iff.mp h
  refine RT.cVz (pc := 3) (M' := M_X4_ofHead) (ci := 4) (x := a0) (As := [(0, a1), (0, 0)]) (st := []) (r := some (0, p3)) (mem1 := mem0) (d' := d - 1) hz dX4_girth_3 mw_X4_ofHead ml_X4_107 mi_X4_ofHead ht rfl rfl (Nat.le_of_ble_eq_true rfl) (Nat.le_of_ble_eq_true rfl) (by omega) rfl rfl (c_X4_ofHead hz (by omega) a0 a1 0 mem0 _ ht hp3) ?_
  refine RT.istore_n (pc := 6) (k := 3) (x := p3) (L1 := [(2, a0), (0, a1), (0, a2), (0, p3), (9, 0), (9, 0), (9, 0), (9, 0)]) dX4_girth_6 (Nat.le_of_ble_eq_true rfl) rfl ?_
  refine RT.aload_n (pc := 7) (k := 0) (x := a0) dX4_girth_7 rfl ?_
  refine RT.iload_n (pc := 8) (k := 2) (x := a2) dX4_girth_8 rfl ?_
  obtain ⟨p9, hp9, h⟩ := Option.bind_eq_some_iff.mp h
  refine RT.cVz (pc := 9) (M' := M_X4_heatOf) (ci := 4) (x := a0) (As := [(0, a2)]) (st := []) (r := some (0, p9)) (mem1 := mem0) (d' := d - 1) hz dX4_girth_9 mw_X4_heatOf ml_X4_110 mi_X4_heatOf ht rfl rfl (Nat.le_of_ble_eq_true rfl) (Nat.le_of_ble_eq_true rfl) (by omega) rfl rfl (c_X4_heatOf hz (by omega) a0 a2 mem0 _ ht hp9) ?_
  refine RT.istore (pc := 12) (k := 4) (x := p9) (L1 := [(2, a0), (0, a1), (0, a2), (0, p3), (0, p9), (9, 0), (9, 0), (9, 0)]) dX4_girth_12 (Nat.le_of_ble_eq_true rfl) rfl ?_
  refine RT.iload_n (pc := 14) (k := 2) (x := a2) dX4_girth_14 rfl ?_
  refine RT.iconst (pc := 15) (n := 4) dX4_girth_15 ⟨by decide, by decide⟩ ?_
  refine RT.idiv (pc := 16) dX4_girth_16 (by decide) ?_
  refine RT.istore (pc := 17) (k := 5) (x := (rt_idiv a2 4)) (L1 := [(2, a0), (0, a1), (0, a2), (0, p3), (0, p9), (0, (rt_idiv a2 4)), (9, 0), (9, 0)]) dX4_girth_17 (Nat.le_of_ble_eq_true rfl) rfl ?_
  refine RT.iload_n (pc := 19) (k := 3) (x := p3) dX4_girth_19 rfl ?_
  refine RT.iconst (pc := 20) (n := 1) dX4_girth_20 ⟨by decide, by decide⟩ ?_
  refine RT.icmp_ne (pc := 21) (tgt := 31) dX4_girth_21 rfl (fun q21 => ?_) (fun q21 => ?_)
  · rw [if_neg q21] at h
    refine RT.iload (pc := 31) (k := 4) (x := p9) dX4_girth_31 rfl ?_
    refine RT.wk (L1 := [(2, a0), (0, a1), (9, 0), (0, p3), (0, p9), (0, (rt_idiv a2 4)), (9, 0), (9, 0)]) (rt_le_s (rt_le_s (rt_le_j (rt_le_s (rt_le_s (rt_le_s (rt_le_s (rt_le_s rt_le_n)))))))) ?_
    exact cj_X4_girth_33 hz hd ht a1 p3 p9 ((rt_idiv a2 4)) p9 mem0 _ h hK
  · rw [if_pos (Classical.not_not.mp q21)] at h
    refine RT.iconst (pc := 24) (n := 2) dX4_girth_24 ⟨by decide, by decide⟩ ?_
    refine RT.iload (pc := 25) (k := 4) (x := p9) dX4_girth_25 rfl ?_
    refine RT.imul (pc := 27) dX4_girth_27 ?_
    refine RT.goto (pc := 28) (tgt := 33) dX4_girth_28 rfl ?_
    refine RT.wk (L1 := [(2, a0), (0, a1), (9, 0), (0, p3), (0, p9), (0, (rt_idiv a2 4)), (9, 0), (9, 0)]) (rt_le_s (rt_le_s (rt_le_j (rt_le_s (rt_le_s (rt_le_s (rt_le_s (rt_le_s rt_le_n)))))))) ?_
    exact cj_X4_girth_33 hz hd ht a1 p3 p9 ((rt_idiv a2 4)) ((rt_imul 2 p9)) mem0 _ h hK
theorem cj_X4_isWig_17 {G : rt_G} {d : Nat} {z : Nat × Nat} {Q : rt_P} (hz : 300 ≤ z.1) (hd : 0 ≤ d) {a0 : Int} (ht : rt_kd a0.toNat = 20 + 4) (s0 : Int) (mem0 : rt_M) (t : Int) (h : j_X4_isWig_17 s0 mem0 = some t) (hK : Q (some (0, t)) z mem0) : RT G M_X4_isWig d z Q 17 [(9, 0), (9, 0)] [(0, s0)] z mem0 := by
  unfold j_X4_isWig_17 at h
  obtain ⟨w17, hw17, h⟩ := Option.bind_eq_some_iff.mp h
  obtain rfl := Option.some.inj h
  exact RT.zret (pc := 17) dX4_isWig_17 rfl (rt_bz_ok hw17) (Nat.le_of_eq (rt_cells_0 z)) (Nat.le_of_eq (rt_slots_0 z)) hK
theorem cj_X4_isWig_16 {G : rt_G} {d : Nat} {z : Nat × Nat} {Q : rt_P} (hz : 300 ≤ z.1) (hd : 0 ≤ d) {a0 : Int} (ht : rt_kd a0.toNat = 20 + 4) (mem0 : rt_M) (t : Int) (h : j_X4_isWig_16 mem0 = some t) (hK : Q (some (0, t)) z mem0) : RT G M_X4_isWig d z Q 16 [(9, 0), (9, 0)] [] z mem0 := by
  unfold j_X4_isWig_16 at h
  refine RT.iconst (pc := 16) (n := 0) dX4_isWig_16 ⟨by decide, by decide⟩ ?_
  exact cj_X4_isWig_17 hz hd ht 0 mem0 _ h hK
theorem c_X4_isWig {G : rt_G} {d : Nat} {z : Nat × Nat} (hz : 300 ≤ z.1) (hd : 0 ≤ d) (a0 : Int) (a1 : Int) (mem0 : rt_M) (t : Int) (ht : rt_kd a0.toNat = 20 + 4) (h : f_X4_isWig a0 a1 mem0 = some t) : RM G M_X4_isWig d [(2, a0), (0, a1)] z mem0 (some (0, t)) mem0 := by
  suffices H : ∀ Q : rt_P, Q (some (0, t)) z mem0 → RT G M_X4_isWig d z Q 0 [(2, a0), (0, a1)] [] z mem0 from H _ ⟨rfl, rfl, rfl⟩
  intro Q hK
  unfold f_X4_isWig at h
  refine RT.iload_n (pc := 0) (k := 1) (x := a1) dX4_isWig_0 rfl ?_
  refine RT.if_lt (pc := 1) (tgt := 16) dX4_isWig_1 rfl (fun q1 => ?_) (fun q1 => ?_)
  · rw [if_pos q1] at h
    refine RT.wk (L1 := [(9, 0), (9, 0)]) (rt_le_j (rt_le_j rt_le_n)) ?_
    exact cj_X4_isWig_16 hz hd ht mem0 _ h hK
  · rw [if_neg q1] at h
    refine RT.iload_n (pc := 4) (k := 1) (x := a1) dX4_isWig_4 rfl ?_
    refine RT.aload_n (pc := 5) (k := 0) (x := a0) dX4_isWig_5 rfl ?_
    obtain ⟨v6, hv6, h⟩ := Option.bind_eq_some_iff.mp h
    refine RT.gf 4 0 0 (pc := 6) (x := a0) (v := v6) hz dX4_isWig_6 fl_X4_67 rfl hv6 ?_
    refine RT.icmp_ge (pc := 9) (tgt := 16) dX4_isWig_9 rfl (fun q9 => ?_) (fun q9 => ?_)
    · rw [if_pos q9] at h
      refine RT.wk (L1 := [(9, 0), (9, 0)]) (rt_le_j (rt_le_j rt_le_n)) ?_
      exact cj_X4_isWig_16 hz hd ht mem0 _ h hK
    · rw [if_neg q9] at h
      refine RT.iconst (pc := 12) (n := 1) dX4_isWig_12 ⟨by decide, by decide⟩ ?_
      refine RT.goto (pc := 13) (tgt := 17) dX4_isWig_13 rfl ?_
      refine RT.wk (L1 := [(9, 0), (9, 0)]) (rt_le_j (rt_le_j rt_le_n)) ?_
      exact cj_X4_isWig_17 hz hd ht 1 mem0 _ h hK
theorem cj_X4_ofWig_20 {G : rt_G} {d : Nat} {z : Nat × Nat} {Q : rt_P} (hz : 300 ≤ z.1) (hd : 1 ≤ d) {a0 : Int} (ht : rt_kd a0.toNat = 20 + 4) (s0 : Int) (mem0 : rt_M) (t : Int) (h : j_X4_ofWig_20 s0 mem0 = some t) (hK : Q (some (0, t)) z mem0) : RT G M_X4_ofWig d z Q 20 [(9, 0), (9, 0), (9, 0)] [(0, s0)] z mem0 := by
  unfold j_X4_ofWig_20 at h
  obtain rfl := Option.some.inj h
  exact RT.iret (pc := 20) dX4_ofWig_20 rfl (Nat.le_of_eq (rt_cells_0 z)) (Nat.le_of_eq (rt_slots_0 z)) hK
theorem c_X4_ofWig {G : rt_G} {d : Nat} {z : Nat × Nat} (hz : 300 ≤ z.1) (hd : 1 ≤ d) (a0 : Int) (a1 : Int) (a2 : Int) (mem0 : rt_M) (t : Int) (ht : rt_kd a0.toNat = 20 + 4) (h : f_X4_ofWig a0 a1 a2 mem0 = some t) : RM G M_X4_ofWig d [(2, a0), (0, a1), (0, a2)] z mem0 (some (0, t)) mem0 := by
  suffices H : ∀ Q : rt_P, Q (some (0, t)) z mem0 → RT G M_X4_ofWig d z Q 0 [(2, a0), (0, a1), (0, a2)] [] z mem0 from H _ ⟨rfl, rfl, rfl⟩
  intro Q hK
  unfold f_X4_ofWig at h
  refine RT.aload_n (pc := 0) (k := 0) (x := a0) dX4_ofWig_0 rfl ?_
  refine RT.iload_n (pc := 1) (k := 1) (x := a1) dX4_ofWig_1 rfl ?_
  obtain ⟨p2, hp2, h⟩ := Option.bind_eq_some_iff.mp h
  refine RT.cVz (pc := 2) (M' := M_X4_isWig) (ci := 4) (x := a0) (As := [(0, a1)]) (st := []) (r := some (0, p2)) (mem1 := mem0) (d' := d - 1) hz dX4_ofWig_2 mw_X4_isWig ml_X4_87 mi_X4_isWig ht rfl rfl (Nat.le_of_ble_eq_true rfl) (Nat.le_of_ble_eq_true rfl) (by omega) rfl rfl (c_X4_isWig hz (by omega) a0 a1 mem0 _ ht hp2) ?_
  refine RT.if_eq (pc := 5) (tgt := 19) dX4_ofWig_5 rfl (fun q5 => ?_) (fun q5 => ?_)
  · rw [if_pos q5] at h
    refine RT.iconst (pc := 19) (n := 0) dX4_ofWig_19 ⟨by decide, by decide⟩ ?_
    refine RT.wk (L1 := [(9, 0), (9, 0), (9, 0)]) (rt_le_j (rt_le_j (rt_le_j rt_le_n))) ?_
    exact cj_X4_ofWig_20 hz hd ht 0 mem0 _ h hK
  · rw [if_neg q5] at h
    refine RT.aload_n (pc := 8) (k := 0) (x := a0) dX4_ofWig_8 rfl ?_
    obtain ⟨v9, hv9, h⟩ := Option.bind_eq_some_iff.mp h
    refine RT.gf 4 4 2 (pc := 9) (x := a0) (v := v9) hz dX4_ofWig_9 fl_X4_20 rfl hv9 ?_
    refine RT.iload_n (pc := 12) (k := 1) (x := a1) dX4_ofWig_12 rfl ?_
    obtain ⟨v13, hv13, h⟩ := Option.bind_eq_some_iff.mp h
    refine RT.aald6 (pc := 13) (x := v9) (i := a1) (v := v13) dX4_ofWig_13 (rt_lta hz (by decide) (by decide) hv13) hv13 ?_
    refine RT.iload_n (pc := 14) (k := 2) (x := a2) dX4_ofWig_14 rfl ?_
    obtain ⟨v15, hv15, h⟩ := Option.bind_eq_some_iff.mp h
    refine RT.iald (pc := 15) (x := v13) (i := a2) (v := v15) dX4_ofWig_15 (rt_lta hz (by decide) (by decide) hv15) hv15 ?_
    refine RT.goto (pc := 16) (tgt := 20) dX4_ofWig_16 rfl ?_
    refine RT.wk (L1 := [(9, 0), (9, 0), (9, 0)]) (rt_le_j (rt_le_j (rt_le_j rt_le_n))) ?_
    exact cj_X4_ofWig_20 hz hd ht v15 mem0 _ h hK
theorem c_X4_sizeOfWig {G : rt_G} {d : Nat} {z : Nat × Nat} (hz : 300 ≤ z.1) (hd : 2 ≤ d) (a0 : Int) (a1 : Int) (mem0 : rt_M) (t : Int) (ht : rt_kd a0.toNat = 20 + 4) (h : f_X4_sizeOfWig a0 a1 mem0 = some t) : RM G M_X4_sizeOfWig d [(2, a0), (0, a1)] z mem0 (some (0, t)) mem0 := by
  suffices H : ∀ Q : rt_P, Q (some (0, t)) z mem0 → RT G M_X4_sizeOfWig d z Q 0 [(2, a0), (0, a1)] [] z mem0 from H _ ⟨rfl, rfl, rfl⟩
  intro Q hK
  unfold f_X4_sizeOfWig at h
  refine RT.aload_n (pc := 0) (k := 0) (x := a0) dX4_sizeOfWig_0 rfl ?_
  refine RT.iload_n (pc := 1) (k := 1) (x := a1) dX4_sizeOfWig_1 rfl ?_
  refine RT.iconst (pc := 2) (n := 0) dX4_sizeOfWig_2 ⟨by decide, by decide⟩ ?_
  obtain ⟨p3, hp3, h⟩ := Option.bind_eq_some_iff.mp h
  refine RT.cVz (pc := 3) (M' := M_X4_ofWig) (ci := 4) (x := a0) (As := [(0, a1), (0, 0)]) (st := []) (r := some (0, p3)) (mem1 := mem0) (d' := d - 1) hz dX4_sizeOfWig_3 mw_X4_ofWig ml_X4_94 mi_X4_ofWig ht rfl rfl (Nat.le_of_ble_eq_true rfl) (Nat.le_of_ble_eq_true rfl) (by omega) rfl rfl (c_X4_ofWig hz (by omega) a0 a1 0 mem0 _ ht hp3) ?_
  obtain rfl := Option.some.inj h
  exact RT.iret (pc := 6) dX4_sizeOfWig_6 rfl (Nat.le_of_eq (rt_cells_0 z)) (Nat.le_of_eq (rt_slots_0 z)) hK
theorem cj_X4_isTilt_17 {G : rt_G} {d : Nat} {z : Nat × Nat} {Q : rt_P} (hz : 300 ≤ z.1) (hd : 0 ≤ d) {a0 : Int} (ht : rt_kd a0.toNat = 20 + 4) (s0 : Int) (mem0 : rt_M) (t : Int) (h : j_X4_isTilt_17 s0 mem0 = some t) (hK : Q (some (0, t)) z mem0) : RT G M_X4_isTilt d z Q 17 [(9, 0), (9, 0)] [(0, s0)] z mem0 := by
  unfold j_X4_isTilt_17 at h
  obtain ⟨w17, hw17, h⟩ := Option.bind_eq_some_iff.mp h
  obtain rfl := Option.some.inj h
  exact RT.zret (pc := 17) dX4_isTilt_17 rfl (rt_bz_ok hw17) (Nat.le_of_eq (rt_cells_0 z)) (Nat.le_of_eq (rt_slots_0 z)) hK
theorem cj_X4_isTilt_16 {G : rt_G} {d : Nat} {z : Nat × Nat} {Q : rt_P} (hz : 300 ≤ z.1) (hd : 0 ≤ d) {a0 : Int} (ht : rt_kd a0.toNat = 20 + 4) (mem0 : rt_M) (t : Int) (h : j_X4_isTilt_16 mem0 = some t) (hK : Q (some (0, t)) z mem0) : RT G M_X4_isTilt d z Q 16 [(9, 0), (9, 0)] [] z mem0 := by
  unfold j_X4_isTilt_16 at h
  refine RT.iconst (pc := 16) (n := 0) dX4_isTilt_16 ⟨by decide, by decide⟩ ?_
  exact cj_X4_isTilt_17 hz hd ht 0 mem0 _ h hK
theorem c_X4_isTilt {G : rt_G} {d : Nat} {z : Nat × Nat} (hz : 300 ≤ z.1) (hd : 0 ≤ d) (a0 : Int) (a1 : Int) (mem0 : rt_M) (t : Int) (ht : rt_kd a0.toNat = 20 + 4) (h : f_X4_isTilt a0 a1 mem0 = some t) : RM G M_X4_isTilt d [(2, a0), (0, a1)] z mem0 (some (0, t)) mem0 := by
  suffices H : ∀ Q : rt_P, Q (some (0, t)) z mem0 → RT G M_X4_isTilt d z Q 0 [(2, a0), (0, a1)] [] z mem0 from H _ ⟨rfl, rfl, rfl⟩
  intro Q hK
  unfold f_X4_isTilt at h
  refine RT.iload_n (pc := 0) (k := 1) (x := a1) dX4_isTilt_0 rfl ?_
  refine RT.if_lt (pc := 1) (tgt := 16) dX4_isTilt_1 rfl (fun q1 => ?_) (fun q1 => ?_)
  · rw [if_pos q1] at h
    refine RT.wk (L1 := [(9, 0), (9, 0)]) (rt_le_j (rt_le_j rt_le_n)) ?_
    exact cj_X4_isTilt_16 hz hd ht mem0 _ h hK
  · rw [if_neg q1] at h
    refine RT.iload_n (pc := 4) (k := 1) (x := a1) dX4_isTilt_4 rfl ?_
    refine RT.aload_n (pc := 5) (k := 0) (x := a0) dX4_isTilt_5 rfl ?_
    obtain ⟨v6, hv6, h⟩ := Option.bind_eq_some_iff.mp h
    refine RT.gf 4 8 0 (pc := 6) (x := a0) (v := v6) hz dX4_isTilt_6 fl_X4_30 rfl hv6 ?_
    refine RT.icmp_gt (pc := 9) (tgt := 16) dX4_isTilt_9 rfl (fun q9 => ?_) (fun q9 => ?_)
    · rw [if_pos q9] at h
      refine RT.wk (L1 := [(9, 0), (9, 0)]) (rt_le_j (rt_le_j rt_le_n)) ?_
      exact cj_X4_isTilt_16 hz hd ht mem0 _ h hK
    · rw [if_neg q9] at h
      refine RT.iconst (pc := 12) (n := 1) dX4_isTilt_12 ⟨by decide, by decide⟩ ?_
      refine RT.goto (pc := 13) (tgt := 17) dX4_isTilt_13 rfl ?_
      refine RT.wk (L1 := [(9, 0), (9, 0)]) (rt_le_j (rt_le_j rt_le_n)) ?_
      exact cj_X4_isTilt_17 hz hd ht 1 mem0 _ h hK
theorem cj_X1_measure_80_37 {G : rt_G} {d : Nat} {z : Nat × Nat} {Q : rt_P} (hz : 300 ≤ z.1) (hd : 3 ≤ d) {a0 : Int} (ht : rt_kd a0.toNat = 20 + 1) (a1 : Int) (a2 : Int) (a3 : Int) (a4 : Int) (a5 : Int) (s0 : Int) (s1 : Int) (s2 : Int) (mem0 : rt_M) (t : (Int × rt_M) ⊕ (rt_M)) (h : j_X1_measure_80_37 a0 a1 a2 a3 a4 a5 s0 s1 s2 mem0 = some t) (hK : (∀ s1 : Int × rt_M, t = .inl s1 → RT G M_X1_measure d z Q 37 [(2, a0), (2, a1), (0, a2), (0, a3), (0, a4), (0, s1.1), (9, 0)] [] z s1.2) ∧ (∀ x1 : rt_M, t = .inr x1 → RT G M_X1_measure d z Q 87 [(2, a0), (2, a1), (0, a2), (0, a3), (9, 0), (9, 0), (9, 0)] [] z x1)) : RT G M_X1_measure d z Q 80 [(2, a0), (2, a1), (0, a2), (0, a3), (0, a4), (0, a5), (9, 0)] [(0, s2), (0, s1), (2, s0)] z mem0 := by
  unfold j_X1_measure_80_37 at h
  obtain ⟨m80, hm80, h⟩ := Option.bind_eq_some_iff.mp h
  refine RT.iast (pc := 80) (x := s0) (i := s1) (v := s2) (mem1 := m80) dX1_measure_80 (rt_lts hz (by decide) (by decide) hm80) hm80 ?_
  refine RT.iinc (pc := 81) (x := a5) (L1 := [(2, a0), (2, a1), (0, a2), (0, a3), (0, a4), (0, (rt_iadd a5 1)), (9, 0)]) dX1_measure_81 rfl (Nat.le_of_ble_eq_true rfl) ⟨by decide, by decide⟩ rfl ?_
  refine RT.goto (pc := 84) (tgt := 37) dX1_measure_84 rfl ?_
  obtain rfl := Option.some.inj h
  have q1 := hK.1 (((rt_iadd a5 1), m80)) rfl
  try dsimp only at q1
  exact q1
theorem cb_X1_measure_37 {G : rt_G} {d : Nat} {z : Nat × Nat} {Q : rt_P} (hz : 300 ≤ z.1) (hd : 3 ≤ d) {a0 : Int} (ht : rt_kd a0.toNat = 20 + 1) (a1 : Int) (a2 : Int) (a3 : Int) (a4 : Int) (s : Int × rt_M) (t : (Int × rt_M) ⊕ (rt_M)) (h : b_X1_measure_37 a0 a1 a2 a3 a4 s = some t) (hK : (∀ s1 : Int × rt_M, t = .inl s1 → RT G M_X1_measure d z Q 37 [(2, a0), (2, a1), (0, a2), (0, a3), (0, a4), (0, s1.1), (9, 0)] [] z s1.2) ∧ (∀ x1 : rt_M, t = .inr x1 → RT G M_X1_measure d z Q 87 [(2, a0), (2, a1), (0, a2), (0, a3), (9, 0), (9, 0), (9, 0)] [] z x1)) : RT G M_X1_measure d z Q 37 [(2, a0), (2, a1), (0, a2), (0, a3), (0, a4), (0, s.1), (9, 0)] [] z s.2 := by
  unfold b_X1_measure_37 at h
  refine RT.iload (pc := 37) (k := 5) (x := s.1) dX1_measure_37 rfl ?_
  refine RT.aload_n (pc := 39) (k := 0) (x := a0) dX1_measure_39 rfl ?_
  obtain ⟨v40, hv40, h⟩ := Option.bind_eq_some_iff.mp h
  refine RT.gf 1 0 0 (pc := 40) (x := a0) (v := v40) hz dX1_measure_40 fl_X1_35 rfl hv40 ?_
  refine RT.icmp_ge (pc := 43) (tgt := 87) dX1_measure_43 rfl (fun q43 => ?_) (fun q43 => ?_)
  · rw [if_pos q43] at h
    refine RT.wk (L1 := [(2, a0), (2, a1), (0, a2), (0, a3), (9, 0), (9, 0), (9, 0)]) (rt_le_s (rt_le_s (rt_le_s (rt_le_s (rt_le_j (rt_le_j (rt_le_s rt_le_n))))))) ?_
    obtain rfl := Option.some.inj h
    have q1 := hK.2 s.2 rfl
    try dsimp only at q1
    exact q1
  · rw [if_neg q43] at h
    refine RT.aload_n (pc := 46) (k := 1) (x := a1) dX1_measure_46 rfl ?_
    refine RT.iload (pc := 47) (k := 5) (x := s.1) dX1_measure_47 rfl ?_
    obtain ⟨p49, hp49, h⟩ := Option.bind_eq_some_iff.mp h
    obtain ⟨hk49, hp49⟩ := rt_gd_some hp49
    refine RT.cVz (pc := 49) (M' := M_X4_sizeOfWig) (ci := 4) (x := a1) (As := [(0, s.1)]) (st := []) (r := some (0, p49)) (mem1 := s.2) (d' := d - 1) hz dX1_measure_49 mw_X4_sizeOfWig ml_X1_44 mi_X4_sizeOfWig hk49 rfl rfl (Nat.le_of_ble_eq_true rfl) (Nat.le_of_ble_eq_true rfl) (by omega) rfl rfl (c_X4_sizeOfWig hz (by omega) a1 s.1 s.2 _ hk49 hp49) ?_
    refine RT.iload (pc := 52) (k := 4) (x := a4) dX1_measure_52 rfl ?_
    refine RT.isub (pc := 54) dX1_measure_54 ?_
    refine RT.istore (pc := 55) (k := 6) (x := (rt_isub p49 a4)) (L1 := [(2, a0), (2, a1), (0, a2), (0, a3), (0, a4), (0, s.1), (0, (rt_isub p49 a4))]) dX1_measure_55 (Nat.le_of_ble_eq_true rfl) rfl ?_
    refine RT.aload_n (pc := 57) (k := 0) (x := a0) dX1_measure_57 rfl ?_
    obtain ⟨v58, hv58, h⟩ := Option.bind_eq_some_iff.mp h
    refine RT.gf 1 2 2 (pc := 58) (x := a0) (v := v58) hz dX1_measure_58 fl_X1_11 rfl hv58 ?_
    refine RT.iload (pc := 61) (k := 5) (x := s.1) dX1_measure_61 rfl ?_
    obtain ⟨v63, hv63, h⟩ := Option.bind_eq_some_iff.mp h
    refine RT.aald6 (pc := 63) (x := v58) (i := s.1) (v := v63) dX1_measure_63 (rt_lta hz (by decide) (by decide) hv63) hv63 ?_
    refine RT.iload_n (pc := 64) (k := 3) (x := a3) dX1_measure_64 rfl ?_
    refine RT.aload_n (pc := 65) (k := 1) (x := a1) dX1_measure_65 rfl ?_
    refine RT.iload (pc := 66) (k := 6) (x := (rt_isub p49 a4)) dX1_measure_66 rfl ?_
    obtain ⟨p68, hp68, h⟩ := Option.bind_eq_some_iff.mp h
    obtain ⟨hk68, hp68⟩ := rt_gd_some hp68
    refine RT.cVz (pc := 68) (M' := M_X4_isTilt) (ci := 4) (x := a1) (As := [(0, (rt_isub p49 a4))]) (st := [(0, a3), (2, v63)]) (r := some (0, p68)) (mem1 := s.2) (d' := d - 1) hz dX1_measure_68 mw_X4_isTilt ml_X1_48 mi_X4_isTilt hk68 rfl rfl (Nat.le_of_ble_eq_true rfl) (Nat.le_of_ble_eq_true rfl) (by omega) rfl rfl (c_X4_isTilt hz (by omega) a1 ((rt_isub p49 a4)) s.2 _ hk68 hp68) ?_
    refine RT.if_eq (pc := 71) (tgt := 79) dX1_measure_71 rfl (fun q71 => ?_) (fun q71 => ?_)
    · rw [if_pos q71] at h
      refine RT.iconst (pc := 79) (n := (-1)) dX1_measure_79 ⟨by decide, by decide⟩ ?_
      refine RT.wk (L1 := [(2, a0), (2, a1), (0, a2), (0, a3), (0, a4), (0, s.1), (9, 0)]) (rt_le_s (rt_le_s (rt_le_s (rt_le_s (rt_le_s (rt_le_s (rt_le_j rt_le_n))))))) ?_
      exact cj_X1_measure_80_37 hz hd ht a1 a2 a3 a4 s.1 v63 a3 ((-1)) s.2 _ h hK
    · rw [if_neg q71] at h
      refine RT.iload (pc := 74) (k := 6) (x := (rt_isub p49 a4)) dX1_measure_74 rfl ?_
      refine RT.goto (pc := 76) (tgt := 80) dX1_measure_76 rfl ?_
      refine RT.wk (L1 := [(2, a0), (2, a1), (0, a2), (0, a3), (0, a4), (0, s.1), (9, 0)]) (rt_le_s (rt_le_s (rt_le_s (rt_le_s (rt_le_s (rt_le_s (rt_le_j rt_le_n))))))) ?_
      exact cj_X1_measure_80_37 hz hd ht a1 a2 a3 a4 s.1 v63 a3 ((rt_isub p49 a4)) s.2 _ h hK
theorem cb_X1_measure_18 {G : rt_G} {d : Nat} {z : Nat × Nat} {Q : rt_P} (hz : 300 ≤ z.1) (hd : 3 ≤ d) {a0 : Int} (ht : rt_kd a0.toNat = 20 + 1) (a1 : Int) (a2 : Int) (s : Int × rt_M) (t : (Int × rt_M) ⊕ (rt_M)) (h : b_X1_measure_18 a0 a1 a2 s = some t) (hK : (∀ s1 : Int × rt_M, t = .inl s1 → RT G M_X1_measure d z Q 18 [(2, a0), (2, a1), (0, a2), (0, s1.1), (9, 0), (9, 0), (9, 0)] [] z s1.2) ∧ (∀ x1 : rt_M, t = .inr x1 → RT G M_X1_measure d z Q 93 [(9, 0), (9, 0), (9, 0), (9, 0), (9, 0), (9, 0), (9, 0)] [] z x1)) : RT G M_X1_measure d z Q 18 [(2, a0), (2, a1), (0, a2), (0, s.1), (9, 0), (9, 0), (9, 0)] [] z s.2 := by
  unfold b_X1_measure_18 at h
  refine RT.iload_n (pc := 18) (k := 3) (x := s.1) dX1_measure_18 rfl ?_
  refine RT.aload_n (pc := 19) (k := 0) (x := a0) dX1_measure_19 rfl ?_
  obtain ⟨v20, hv20, h⟩ := Option.bind_eq_some_iff.mp h
  refine RT.gf 1 1 0 (pc := 20) (x := a0) (v := v20) hz dX1_measure_20 fl_X1_39 rfl hv20 ?_
  refine RT.icmp_ge (pc := 23) (tgt := 93) dX1_measure_23 rfl (fun q23 => ?_) (fun q23 => ?_)
  · rw [if_pos q23] at h
    refine RT.wk (L1 := [(9, 0), (9, 0), (9, 0), (9, 0), (9, 0), (9, 0), (9, 0)]) (rt_le_j (rt_le_j (rt_le_j (rt_le_j (rt_le_s (rt_le_s (rt_le_s rt_le_n))))))) ?_
    obtain rfl := Option.some.inj h
    have q1 := hK.2 s.2 rfl
    try dsimp only at q1
    exact q1
  · rw [if_neg q23] at h
    refine RT.aload_n (pc := 26) (k := 1) (x := a1) dX1_measure_26 rfl ?_
    refine RT.iload_n (pc := 27) (k := 3) (x := s.1) dX1_measure_27 rfl ?_
    refine RT.iload_n (pc := 28) (k := 2) (x := a2) dX1_measure_28 rfl ?_
    obtain ⟨p29, hp29, h⟩ := Option.bind_eq_some_iff.mp h
    obtain ⟨hk29, hp29⟩ := rt_gd_some hp29
    refine RT.cVz (pc := 29) (M' := M_X4_girth) (ci := 4) (x := a1) (As := [(0, s.1), (0, a2)]) (st := []) (r := some (0, p29.1)) (mem1 := p29.2) (d' := d - 1) hz dX1_measure_29 mw_X4_girth ml_X1_40 mi_X4_girth hk29 rfl rfl (Nat.le_of_ble_eq_true rfl) (Nat.le_of_ble_eq_true rfl) (by omega) rfl rfl (c_X4_girth hz (by omega) a1 s.1 a2 s.2 _ hk29 hp29) ?_
    refine RT.istore (pc := 32) (k := 4) (x := p29.1) (L1 := [(2, a0), (2, a1), (0, a2), (0, s.1), (0, p29.1), (9, 0), (9, 0)]) dX1_measure_32 (Nat.le_of_ble_eq_true rfl) rfl ?_
    refine RT.iconst (pc := 34) (n := 0) dX1_measure_34 ⟨by decide, by decide⟩ ?_
    refine RT.istore (pc := 35) (k := 5) (x := 0) (L1 := [(2, a0), (2, a1), (0, a2), (0, s.1), (0, p29.1), (0, 0), (9, 0)]) dX1_measure_35 (Nat.le_of_ble_eq_true rfl) rfl ?_
    obtain ⟨X37, hX37, h⟩ := Option.bind_eq_some_iff.mp h
    refine rt_it_ind (P := (fun s1 : Int × rt_M => RT G M_X1_measure d z Q 37 [(2, a0), (2, a1), (0, a2), (0, s.1), (0, p29.1), (0, s1.1), (9, 0)] [] z s1.2)) (X := (fun x1 : rt_M => RT G M_X1_measure d z Q 87 [(2, a0), (2, a1), (0, a2), (0, s.1), (9, 0), (9, 0), (9, 0)] [] z x1)) (fun s1 t1 h1 k1 k2 => cb_X1_measure_37 hz hd ht a1 a2 s.1 p29.1 s1 t1 h1 ⟨k1, k2⟩) 4000 ((0, p29.2)) X37 hX37 ?_
    refine RT.iinc (pc := 87) (x := s.1) (L1 := [(2, a0), (2, a1), (0, a2), (0, (rt_iadd s.1 1)), (9, 0), (9, 0), (9, 0)]) dX1_measure_87 rfl (Nat.le_of_ble_eq_true rfl) ⟨by decide, by decide⟩ rfl ?_
    refine RT.goto (pc := 90) (tgt := 18) dX1_measure_90 rfl ?_
    obtain rfl := Option.some.inj h
    have q1 := hK.1 (((rt_iadd s.1 1), X37)) rfl
    try dsimp only at q1
    exact q1
theorem c_X1_measure {G : rt_G} {d : Nat} {z : Nat × Nat} (hz : 300 ≤ z.1) (hd : 3 ≤ d) (a0 : Int) (a1 : Int) (a2 : Int) (mem0 : rt_M) (t : rt_M) (ht : rt_kd a0.toNat = 20 + 1) (h : f_X1_measure a0 a1 a2 mem0 = some t) : RM G M_X1_measure d [(2, a0), (2, a1), (0, a2)] z mem0 none t := by
  suffices H : ∀ Q : rt_P, Q none z t → RT G M_X1_measure d z Q 0 [(2, a0), (2, a1), (0, a2), (9, 0), (9, 0), (9, 0), (9, 0)] [] z mem0 from H _ ⟨rfl, rfl, rfl⟩
  intro Q hK
  unfold f_X1_measure at h
  refine RT.aload_n (pc := 0) (k := 0) (x := a0) dX1_measure_0 rfl ?_
  refine RT.aload_n (pc := 1) (k := 1) (x := a1) dX1_measure_1 rfl ?_
  obtain ⟨v2, hv2, h⟩ := Option.bind_eq_some_iff.mp h
  refine RT.gf 4 0 0 (pc := 2) (x := a1) (v := v2) hz dX1_measure_2 fl_X1_29 rfl hv2 ?_
  obtain ⟨m5, hm5, h⟩ := Option.bind_eq_some_iff.mp h
  refine RT.pf_i 1 0 (pc := 5) (mem1 := m5) hz dX1_measure_5 fl_X1_35 rfl rfl rfl hm5 ?_
  refine RT.aload_n (pc := 8) (k := 0) (x := a0) dX1_measure_8 rfl ?_
  refine RT.aload_n (pc := 9) (k := 1) (x := a1) dX1_measure_9 rfl ?_
  obtain ⟨v10, hv10, h⟩ := Option.bind_eq_some_iff.mp h
  refine RT.gf 4 1 0 (pc := 10) (x := a1) (v := v10) hz dX1_measure_10 fl_X1_36 rfl hv10 ?_
  obtain ⟨m13, hm13, h⟩ := Option.bind_eq_some_iff.mp h
  refine RT.pf_i 1 1 (pc := 13) (mem1 := m13) hz dX1_measure_13 fl_X1_39 rfl rfl rfl hm13 ?_
  refine RT.iconst (pc := 16) (n := 0) dX1_measure_16 ⟨by decide, by decide⟩ ?_
  refine RT.istore_n (pc := 17) (k := 3) (x := 0) (L1 := [(2, a0), (2, a1), (0, a2), (0, 0), (9, 0), (9, 0), (9, 0)]) dX1_measure_17 (Nat.le_of_ble_eq_true rfl) rfl ?_
  obtain ⟨X18, hX18, h⟩ := Option.bind_eq_some_iff.mp h
  refine rt_it_ind (P := (fun s1 : Int × rt_M => RT G M_X1_measure d z Q 18 [(2, a0), (2, a1), (0, a2), (0, s1.1), (9, 0), (9, 0), (9, 0)] [] z s1.2)) (X := (fun x1 : rt_M => RT G M_X1_measure d z Q 93 [(9, 0), (9, 0), (9, 0), (9, 0), (9, 0), (9, 0), (9, 0)] [] z x1)) (fun s1 t1 h1 k1 k2 => cb_X1_measure_18 hz hd ht a1 a2 s1 t1 h1 ⟨k1, k2⟩) 4000 ((0, m13)) X18 hX18 ?_
  obtain rfl := Option.some.inj h
  exact RT.vret (pc := 93) dX1_measure_93 rfl (Nat.le_of_eq (rt_cells_0 z)) (Nat.le_of_eq (rt_slots_0 z)) hK
theorem cj_X1_tiltOf_36 {G : rt_G} {d : Nat} {z : Nat × Nat} {Q : rt_P} (hz : 300 ≤ z.1) (hd : 0 ≤ d) {a0 : Int} (ht : rt_kd a0.toNat = 20 + 1) (s0 : Int) (mem0 : rt_M) (t : Int) (h : j_X1_tiltOf_36 s0 mem0 = some t) (hK : Q (some (0, t)) z mem0) : RT G M_X1_tiltOf d z Q 36 [(9, 0), (9, 0), (9, 0)] [(0, s0)] z mem0 := by
  unfold j_X1_tiltOf_36 at h
  obtain rfl := Option.some.inj h
  exact RT.iret (pc := 36) dX1_tiltOf_36 rfl (Nat.le_of_eq (rt_cells_0 z)) (Nat.le_of_eq (rt_slots_0 z)) hK
theorem cj_X1_tiltOf_35 {G : rt_G} {d : Nat} {z : Nat × Nat} {Q : rt_P} (hz : 300 ≤ z.1) (hd : 0 ≤ d) {a0 : Int} (ht : rt_kd a0.toNat = 20 + 1) (mem0 : rt_M) (t : Int) (h : j_X1_tiltOf_35 mem0 = some t) (hK : Q (some (0, t)) z mem0) : RT G M_X1_tiltOf d z Q 35 [(9, 0), (9, 0), (9, 0)] [] z mem0 := by
  unfold j_X1_tiltOf_35 at h
  refine RT.iconst (pc := 35) (n := (-1)) dX1_tiltOf_35 ⟨by decide, by decide⟩ ?_
  exact cj_X1_tiltOf_36 hz hd ht ((-1)) mem0 _ h hK
theorem c_X1_tiltOf {G : rt_G} {d : Nat} {z : Nat × Nat} (hz : 300 ≤ z.1) (hd : 0 ≤ d) (a0 : Int) (a1 : Int) (a2 : Int) (mem0 : rt_M) (t : Int) (ht : rt_kd a0.toNat = 20 + 1) (h : f_X1_tiltOf a0 a1 a2 mem0 = some t) : RM G M_X1_tiltOf d [(2, a0), (0, a1), (0, a2)] z mem0 (some (0, t)) mem0 := by
  suffices H : ∀ Q : rt_P, Q (some (0, t)) z mem0 → RT G M_X1_tiltOf d z Q 0 [(2, a0), (0, a1), (0, a2)] [] z mem0 from H _ ⟨rfl, rfl, rfl⟩
  intro Q hK
  unfold f_X1_tiltOf at h
  refine RT.iload_n (pc := 0) (k := 1) (x := a1) dX1_tiltOf_0 rfl ?_
  refine RT.if_lt (pc := 1) (tgt := 35) dX1_tiltOf_1 rfl (fun q1 => ?_) (fun q1 => ?_)
  · rw [if_pos q1] at h
    refine RT.wk (L1 := [(9, 0), (9, 0), (9, 0)]) (rt_le_j (rt_le_j (rt_le_j rt_le_n))) ?_
    exact cj_X1_tiltOf_35 hz hd ht mem0 _ h hK
  · rw [if_neg q1] at h
    refine RT.iload_n (pc := 4) (k := 1) (x := a1) dX1_tiltOf_4 rfl ?_
    refine RT.aload_n (pc := 5) (k := 0) (x := a0) dX1_tiltOf_5 rfl ?_
    obtain ⟨v6, hv6, h⟩ := Option.bind_eq_some_iff.mp h
    refine RT.gf 1 0 0 (pc := 6) (x := a0) (v := v6) hz dX1_tiltOf_6 fl_X1_35 rfl hv6 ?_
    refine RT.icmp_ge (pc := 9) (tgt := 35) dX1_tiltOf_9 rfl (fun q9 => ?_) (fun q9 => ?_)
    · rw [if_pos q9] at h
      refine RT.wk (L1 := [(9, 0), (9, 0), (9, 0)]) (rt_le_j (rt_le_j (rt_le_j rt_le_n))) ?_
      exact cj_X1_tiltOf_35 hz hd ht mem0 _ h hK
    · rw [if_neg q9] at h
      refine RT.iload_n (pc := 12) (k := 2) (x := a2) dX1_tiltOf_12 rfl ?_
      refine RT.if_lt (pc := 13) (tgt := 35) dX1_tiltOf_13 rfl (fun q13 => ?_) (fun q13 => ?_)
      · rw [if_pos q13] at h
        refine RT.wk (L1 := [(9, 0), (9, 0), (9, 0)]) (rt_le_j (rt_le_j (rt_le_j rt_le_n))) ?_
        exact cj_X1_tiltOf_35 hz hd ht mem0 _ h hK
      · rw [if_neg q13] at h
        refine RT.iload_n (pc := 16) (k := 2) (x := a2) dX1_tiltOf_16 rfl ?_
        refine RT.aload_n (pc := 17) (k := 0) (x := a0) dX1_tiltOf_17 rfl ?_
        obtain ⟨v18, hv18, h⟩ := Option.bind_eq_some_iff.mp h
        refine RT.gf 1 1 0 (pc := 18) (x := a0) (v := v18) hz dX1_tiltOf_18 fl_X1_39 rfl hv18 ?_
        refine RT.icmp_ge (pc := 21) (tgt := 35) dX1_tiltOf_21 rfl (fun q21 => ?_) (fun q21 => ?_)
        · rw [if_pos q21] at h
          refine RT.wk (L1 := [(9, 0), (9, 0), (9, 0)]) (rt_le_j (rt_le_j (rt_le_j rt_le_n))) ?_
          exact cj_X1_tiltOf_35 hz hd ht mem0 _ h hK
        · rw [if_neg q21] at h
          refine RT.aload_n (pc := 24) (k := 0) (x := a0) dX1_tiltOf_24 rfl ?_
          obtain ⟨v25, hv25, h⟩ := Option.bind_eq_some_iff.mp h
          refine RT.gf 1 2 2 (pc := 25) (x := a0) (v := v25) hz dX1_tiltOf_25 fl_X1_11 rfl hv25 ?_
          refine RT.iload_n (pc := 28) (k := 1) (x := a1) dX1_tiltOf_28 rfl ?_
          obtain ⟨v29, hv29, h⟩ := Option.bind_eq_some_iff.mp h
          refine RT.aald6 (pc := 29) (x := v25) (i := a1) (v := v29) dX1_tiltOf_29 (rt_lta hz (by decide) (by decide) hv29) hv29 ?_
          refine RT.iload_n (pc := 30) (k := 2) (x := a2) dX1_tiltOf_30 rfl ?_
          obtain ⟨v31, hv31, h⟩ := Option.bind_eq_some_iff.mp h
          refine RT.iald (pc := 31) (x := v29) (i := a2) (v := v31) dX1_tiltOf_31 (rt_lta hz (by decide) (by decide) hv31) hv31 ?_
          refine RT.goto (pc := 32) (tgt := 36) dX1_tiltOf_32 rfl ?_
          refine RT.wk (L1 := [(9, 0), (9, 0), (9, 0)]) (rt_le_j (rt_le_j (rt_le_j rt_le_n))) ?_
          exact cj_X1_tiltOf_36 hz hd ht v31 mem0 _ h hK
theorem cj_X1_layUnder_61_13 {G : rt_G} {d : Nat} {z : Nat × Nat} {Q : rt_P} (hz : 300 ≤ z.1) (hd : 0 ≤ d) {a0 : Int} (ht : rt_kd a0.toNat = 20 + 1) (a1 : Int) (a2 : Int) (a3 : Int) (a4 : Int) (a5 : Int) (mem0 : rt_M) (t : (Int × Int × rt_M) ⊕ (Int × rt_M)) (h : j_X1_layUnder_61_13 a0 a1 a2 a3 a4 a5 mem0 = some t) (hK : (∀ s1 : Int × Int × rt_M, t = .inl s1 → RT G M_X1_layUnder d z Q 13 [(2, a0), (0, a1), (0, a2), (0, a3), (0, s1.1), (0, s1.2.1)] [] z s1.2.2) ∧ (∀ x1 : Int × rt_M, t = .inr x1 → RT G M_X1_layUnder d z Q 67 [(2, a0), (0, a1), (0, a2), (0, a3), (0, x1.1), (9, 0)] [] z x1.2)) : RT G M_X1_layUnder d z Q 61 [(2, a0), (0, a1), (0, a2), (0, a3), (0, a4), (0, a5)] [] z mem0 := by
  unfold j_X1_layUnder_61_13 at h
  refine RT.iinc (pc := 61) (x := a5) (L1 := [(2, a0), (0, a1), (0, a2), (0, a3), (0, a4), (0, (rt_iadd a5 1))]) dX1_layUnder_61 rfl (Nat.le_of_ble_eq_true rfl) ⟨by decide, by decide⟩ rfl ?_
  refine RT.goto (pc := 64) (tgt := 13) dX1_layUnder_64 rfl ?_
  obtain rfl := Option.some.inj h
  have q1 := hK.1 ((a4, (rt_iadd a5 1), mem0)) rfl
  try dsimp only at q1
  exact q1
theorem cb_X1_layUnder_13 {G : rt_G} {d : Nat} {z : Nat × Nat} {Q : rt_P} (hz : 300 ≤ z.1) (hd : 0 ≤ d) {a0 : Int} (ht : rt_kd a0.toNat = 20 + 1) (a1 : Int) (a2 : Int) (a3 : Int) (s : Int × Int × rt_M) (t : (Int × Int × rt_M) ⊕ (Int × rt_M)) (h : b_X1_layUnder_13 a0 a1 a2 a3 s = some t) (hK : (∀ s1 : Int × Int × rt_M, t = .inl s1 → RT G M_X1_layUnder d z Q 13 [(2, a0), (0, a1), (0, a2), (0, a3), (0, s1.1), (0, s1.2.1)] [] z s1.2.2) ∧ (∀ x1 : Int × rt_M, t = .inr x1 → RT G M_X1_layUnder d z Q 67 [(2, a0), (0, a1), (0, a2), (0, a3), (0, x1.1), (9, 0)] [] z x1.2)) : RT G M_X1_layUnder d z Q 13 [(2, a0), (0, a1), (0, a2), (0, a3), (0, s.1), (0, s.2.1)] [] z s.2.2 := by
  unfold b_X1_layUnder_13 at h
  refine RT.iload (pc := 13) (k := 5) (x := s.2.1) dX1_layUnder_13 rfl ?_
  refine RT.aload_n (pc := 15) (k := 0) (x := a0) dX1_layUnder_15 rfl ?_
  obtain ⟨v16, hv16, h⟩ := Option.bind_eq_some_iff.mp h
  refine RT.gf 1 1 0 (pc := 16) (x := a0) (v := v16) hz dX1_layUnder_16 fl_X1_39 rfl hv16 ?_
  refine RT.icmp_ge (pc := 19) (tgt := 67) dX1_layUnder_19 rfl (fun q19 => ?_) (fun q19 => ?_)
  · rw [if_pos q19] at h
    refine RT.wk (L1 := [(2, a0), (0, a1), (0, a2), (0, a3), (0, s.1), (9, 0)]) (rt_le_s (rt_le_s (rt_le_s (rt_le_s (rt_le_s (rt_le_j rt_le_n)))))) ?_
    obtain rfl := Option.some.inj h
    have q1 := hK.2 ((s.1, s.2.2)) rfl
    try dsimp only at q1
    exact q1
  · rw [if_neg q19] at h
    refine RT.iload_n (pc := 22) (k := 3) (x := a3) dX1_layUnder_22 rfl ?_
    refine RT.iload (pc := 23) (k := 5) (x := s.2.1) dX1_layUnder_23 rfl ?_
    refine RT.ishr (pc := 25) dX1_layUnder_25 ?_
    refine RT.iconst (pc := 26) (n := 1) dX1_layUnder_26 ⟨by decide, by decide⟩ ?_
    refine RT.iand (pc := 27) dX1_layUnder_27 ?_
    refine RT.iconst (pc := 28) (n := 1) dX1_layUnder_28 ⟨by decide, by decide⟩ ?_
    refine RT.icmp_ne (pc := 29) (tgt := 61) dX1_layUnder_29 rfl (fun q29 => ?_) (fun q29 => ?_)
    · rw [if_neg q29] at h
      exact cj_X1_layUnder_61_13 hz hd ht a1 a2 a3 s.1 s.2.1 s.2.2 _ h hK
    · rw [if_pos (Classical.not_not.mp q29)] at h
      refine RT.aload_n (pc := 32) (k := 0) (x := a0) dX1_layUnder_32 rfl ?_
      obtain ⟨v33, hv33, h⟩ := Option.bind_eq_some_iff.mp h
      refine RT.gf 1 2 2 (pc := 33) (x := a0) (v := v33) hz dX1_layUnder_33 fl_X1_11 rfl hv33 ?_
      refine RT.iload_n (pc := 36) (k := 1) (x := a1) dX1_layUnder_36 rfl ?_
      obtain ⟨v37, hv37, h⟩ := Option.bind_eq_some_iff.mp h
      refine RT.aald6 (pc := 37) (x := v33) (i := a1) (v := v37) dX1_layUnder_37 (rt_lta hz (by decide) (by decide) hv37) hv37 ?_
      refine RT.iload (pc := 38) (k := 5) (x := s.2.1) dX1_layUnder_38 rfl ?_
      obtain ⟨v40, hv40, h⟩ := Option.bind_eq_some_iff.mp h
      refine RT.iald (pc := 40) (x := v37) (i := s.2.1) (v := v40) dX1_layUnder_40 (rt_lta hz (by decide) (by decide) hv40) hv40 ?_
      refine RT.iload_n (pc := 41) (k := 2) (x := a2) dX1_layUnder_41 rfl ?_
      refine RT.icmp_ne (pc := 42) (tgt := 61) dX1_layUnder_42 rfl (fun q42 => ?_) (fun q42 => ?_)
      · rw [if_neg q42] at h
        exact cj_X1_layUnder_61_13 hz hd ht a1 a2 a3 s.1 s.2.1 s.2.2 _ h hK
      · rw [if_pos (Classical.not_not.mp q42)] at h
        refine RT.iload (pc := 45) (k := 4) (x := s.1) dX1_layUnder_45 rfl ?_
        refine RT.aload_n (pc := 47) (k := 0) (x := a0) dX1_layUnder_47 rfl ?_
        obtain ⟨v48, hv48, h⟩ := Option.bind_eq_some_iff.mp h
        refine RT.gf 1 3 2 (pc := 48) (x := a0) (v := v48) hz dX1_layUnder_48 fl_X1_16 rfl hv48 ?_
        refine RT.iload_n (pc := 51) (k := 3) (x := a3) dX1_layUnder_51 rfl ?_
        refine RT.iconst (pc := 52) (n := 1) dX1_layUnder_52 ⟨by decide, by decide⟩ ?_
        refine RT.iload (pc := 53) (k := 5) (x := s.2.1) dX1_layUnder_53 rfl ?_
        refine RT.ishl (pc := 55) dX1_layUnder_55 ?_
        refine RT.ixor (pc := 56) dX1_layUnder_56 ?_
        obtain ⟨v57, hv57, h⟩ := Option.bind_eq_some_iff.mp h
        refine RT.iald (pc := 57) (x := v48) (i := (rt_ixor a3 (rt_ishl 1 s.2.1))) (v := v57) dX1_layUnder_57 (rt_lta hz (by decide) (by decide) hv57) hv57 ?_
        refine RT.iadd (pc := 58) dX1_layUnder_58 ?_
        refine RT.istore (pc := 59) (k := 4) (x := (rt_iadd s.1 v57)) (L1 := [(2, a0), (0, a1), (0, a2), (0, a3), (0, (rt_iadd s.1 v57)), (0, s.2.1)]) dX1_layUnder_59 (Nat.le_of_ble_eq_true rfl) rfl ?_
        exact cj_X1_layUnder_61_13 hz hd ht a1 a2 a3 ((rt_iadd s.1 v57)) s.2.1 s.2.2 _ h hK
theorem cb_X1_layUnder_3 {G : rt_G} {d : Nat} {z : Nat × Nat} {Q : rt_P} (hz : 300 ≤ z.1) (hd : 0 ≤ d) {a0 : Int} (ht : rt_kd a0.toNat = 20 + 1) (a1 : Int) (a2 : Int) (s : Int × rt_M) (t : (Int × rt_M) ⊕ (rt_M)) (h : b_X1_layUnder_3 a0 a1 a2 s = some t) (hK : (∀ s1 : Int × rt_M, t = .inl s1 → RT G M_X1_layUnder d z Q 3 [(2, a0), (0, a1), (0, a2), (0, s1.1), (9, 0), (9, 0)] [] z s1.2) ∧ (∀ x1 : rt_M, t = .inr x1 → RT G M_X1_layUnder d z Q 81 [(9, 0), (9, 0), (9, 0), (9, 0), (9, 0), (9, 0)] [] z x1)) : RT G M_X1_layUnder d z Q 3 [(2, a0), (0, a1), (0, a2), (0, s.1), (9, 0), (9, 0)] [] z s.2 := by
  unfold b_X1_layUnder_3 at h
  refine RT.iload_n (pc := 3) (k := 3) (x := s.1) dX1_layUnder_3 rfl ?_
  refine RT.if_lt (pc := 4) (tgt := 81) dX1_layUnder_4 rfl (fun q4 => ?_) (fun q4 => ?_)
  · rw [if_pos q4] at h
    refine RT.wk (L1 := [(9, 0), (9, 0), (9, 0), (9, 0), (9, 0), (9, 0)]) (rt_le_j (rt_le_j (rt_le_j (rt_le_j (rt_le_s (rt_le_s rt_le_n)))))) ?_
    obtain rfl := Option.some.inj h
    have q1 := hK.2 s.2 rfl
    try dsimp only at q1
    exact q1
  · rw [if_neg q4] at h
    refine RT.iconst (pc := 7) (n := 0) dX1_layUnder_7 ⟨by decide, by decide⟩ ?_
    refine RT.istore (pc := 8) (k := 4) (x := 0) (L1 := [(2, a0), (0, a1), (0, a2), (0, s.1), (0, 0), (9, 0)]) dX1_layUnder_8 (Nat.le_of_ble_eq_true rfl) rfl ?_
    refine RT.iconst (pc := 10) (n := 0) dX1_layUnder_10 ⟨by decide, by decide⟩ ?_
    refine RT.istore (pc := 11) (k := 5) (x := 0) (L1 := [(2, a0), (0, a1), (0, a2), (0, s.1), (0, 0), (0, 0)]) dX1_layUnder_11 (Nat.le_of_ble_eq_true rfl) rfl ?_
    obtain ⟨X13, hX13, h⟩ := Option.bind_eq_some_iff.mp h
    refine rt_it_ind (P := (fun s1 : Int × Int × rt_M => RT G M_X1_layUnder d z Q 13 [(2, a0), (0, a1), (0, a2), (0, s.1), (0, s1.1), (0, s1.2.1)] [] z s1.2.2)) (X := (fun x1 : Int × rt_M => RT G M_X1_layUnder d z Q 67 [(2, a0), (0, a1), (0, a2), (0, s.1), (0, x1.1), (9, 0)] [] z x1.2)) (fun s1 t1 h1 k1 k2 => cb_X1_layUnder_13 hz hd ht a1 a2 s.1 s1 t1 h1 ⟨k1, k2⟩) 4000 ((0, 0, s.2)) X13 hX13 ?_
    refine RT.aload_n (pc := 67) (k := 0) (x := a0) dX1_layUnder_67 rfl ?_
    obtain ⟨v68, hv68, h⟩ := Option.bind_eq_some_iff.mp h
    refine RT.gf 1 3 2 (pc := 68) (x := a0) (v := v68) hz dX1_layUnder_68 fl_X1_16 rfl hv68 ?_
    refine RT.iload_n (pc := 71) (k := 3) (x := s.1) dX1_layUnder_71 rfl ?_
    refine RT.iload (pc := 72) (k := 4) (x := X13.1) dX1_layUnder_72 rfl ?_
    obtain ⟨m74, hm74, h⟩ := Option.bind_eq_some_iff.mp h
    refine RT.iast (pc := 74) (x := v68) (i := s.1) (v := X13.1) (mem1 := m74) dX1_layUnder_74 (rt_lts hz (by decide) (by decide) hm74) hm74 ?_
    refine RT.iinc (pc := 75) (x := s.1) (L1 := [(2, a0), (0, a1), (0, a2), (0, (rt_iadd s.1 (-1))), (0, X13.1), (9, 0)]) dX1_layUnder_75 rfl (Nat.le_of_ble_eq_true rfl) ⟨by decide, by decide⟩ rfl ?_
    refine RT.goto (pc := 78) (tgt := 3) dX1_layUnder_78 rfl ?_
    refine RT.wk (L1 := [(2, a0), (0, a1), (0, a2), (0, (rt_iadd s.1 (-1))), (9, 0), (9, 0)]) (rt_le_s (rt_le_s (rt_le_s (rt_le_s (rt_le_j (rt_le_s rt_le_n)))))) ?_
    obtain rfl := Option.some.inj h
    have q1 := hK.1 (((rt_iadd s.1 (-1)), m74)) rfl
    try dsimp only at q1
    exact q1
theorem c_X1_layUnder {G : rt_G} {d : Nat} {z : Nat × Nat} (hz : 300 ≤ z.1) (hd : 0 ≤ d) (a0 : Int) (a1 : Int) (a2 : Int) (mem0 : rt_M) (t : rt_M) (ht : rt_kd a0.toNat = 20 + 1) (h : f_X1_layUnder a0 a1 a2 mem0 = some t) : RM G M_X1_layUnder d [(2, a0), (0, a1), (0, a2)] z mem0 none t := by
  suffices H : ∀ Q : rt_P, Q none z t → RT G M_X1_layUnder d z Q 0 [(2, a0), (0, a1), (0, a2), (9, 0), (9, 0), (9, 0)] [] z mem0 from H _ ⟨rfl, rfl, rfl⟩
  intro Q hK
  unfold f_X1_layUnder at h
  refine RT.bipush (pc := 0) (n := 63) dX1_layUnder_0 ⟨by decide, by decide⟩ rfl ?_
  refine RT.istore_n (pc := 2) (k := 3) (x := 63) (L1 := [(2, a0), (0, a1), (0, a2), (0, 63), (9, 0), (9, 0)]) dX1_layUnder_2 (Nat.le_of_ble_eq_true rfl) rfl ?_
  obtain ⟨X3, hX3, h⟩ := Option.bind_eq_some_iff.mp h
  refine rt_it_ind (P := (fun s1 : Int × rt_M => RT G M_X1_layUnder d z Q 3 [(2, a0), (0, a1), (0, a2), (0, s1.1), (9, 0), (9, 0)] [] z s1.2)) (X := (fun x1 : rt_M => RT G M_X1_layUnder d z Q 81 [(9, 0), (9, 0), (9, 0), (9, 0), (9, 0), (9, 0)] [] z x1)) (fun s1 t1 h1 k1 k2 => cb_X1_layUnder_3 hz hd ht a1 a2 s1 t1 h1 ⟨k1, k2⟩) 4000 ((63, mem0)) X3 hX3 ?_
  obtain rfl := Option.some.inj h
  exact RT.vret (pc := 81) dX1_layUnder_81 rfl (Nat.le_of_eq (rt_cells_0 z)) (Nat.le_of_eq (rt_slots_0 z)) hK
theorem cj_X1_layWays_22_2 {G : rt_G} {d : Nat} {z : Nat × Nat} {Q : rt_P} (hz : 300 ≤ z.1) (hd : 1 ≤ d) {a0 : Int} (ht : rt_kd a0.toNat = 20 + 1) (a1 : Int) (a2 : Int) (a3 : Int) (s0 : Int) (s1 : Int) (s2 : Int) (mem0 : rt_M) (t : (Int × rt_M) ⊕ (rt_M)) (h : j_X1_layWays_22_2 a0 a1 a2 a3 s0 s1 s2 mem0 = some t) (hK : (∀ s1 : Int × rt_M, t = .inl s1 → RT G M_X1_layWays d z Q 2 [(2, a0), (2, a1), (0, a2), (0, s1.1)] [] z s1.2) ∧ (∀ x1 : rt_M, t = .inr x1 → RT G M_X1_layWays d z Q 29 [(2, a0), (2, a1), (0, a2), (9, 0)] [] z x1)) : RT G M_X1_layWays d z Q 22 [(2, a0), (2, a1), (0, a2), (0, a3)] [(0, s2), (0, s1), (2, s0)] z mem0 := by
  unfold j_X1_layWays_22_2 at h
  obtain ⟨m22, hm22, h⟩ := Option.bind_eq_some_iff.mp h
  refine RT.iast (pc := 22) (x := s0) (i := s1) (v := s2) (mem1 := m22) dX1_layWays_22 (rt_lts hz (by decide) (by decide) hm22) hm22 ?_
  refine RT.iinc (pc := 23) (x := a3) (L1 := [(2, a0), (2, a1), (0, a2), (0, (rt_iadd a3 1))]) dX1_layWays_23 rfl (Nat.le_of_ble_eq_true rfl) ⟨by decide, by decide⟩ rfl ?_
  refine RT.goto (pc := 26) (tgt := 2) dX1_layWays_26 rfl ?_
  obtain rfl := Option.some.inj h
  have q1 := hK.1 (((rt_iadd a3 1), m22)) rfl
  try dsimp only at q1
  exact q1
theorem cb_X1_layWays_2 {G : rt_G} {d : Nat} {z : Nat × Nat} {Q : rt_P} (hz : 300 ≤ z.1) (hd : 1 ≤ d) {a0 : Int} (ht : rt_kd a0.toNat = 20 + 1) (a1 : Int) (a2 : Int) (s : Int × rt_M) (t : (Int × rt_M) ⊕ (rt_M)) (h : b_X1_layWays_2 a0 a1 a2 s = some t) (hK : (∀ s1 : Int × rt_M, t = .inl s1 → RT G M_X1_layWays d z Q 2 [(2, a0), (2, a1), (0, a2), (0, s1.1)] [] z s1.2) ∧ (∀ x1 : rt_M, t = .inr x1 → RT G M_X1_layWays d z Q 29 [(2, a0), (2, a1), (0, a2), (9, 0)] [] z x1)) : RT G M_X1_layWays d z Q 2 [(2, a0), (2, a1), (0, a2), (0, s.1)] [] z s.2 := by
  unfold b_X1_layWays_2 at h
  refine RT.iload_n (pc := 2) (k := 3) (x := s.1) dX1_layWays_2 rfl ?_
  refine RT.bipush (pc := 3) (n := 64) dX1_layWays_3 ⟨by decide, by decide⟩ rfl ?_
  refine RT.icmp_ge (pc := 5) (tgt := 29) dX1_layWays_5 rfl (fun q5 => ?_) (fun q5 => ?_)
  · rw [if_pos q5] at h
    refine RT.wk (L1 := [(2, a0), (2, a1), (0, a2), (9, 0)]) (rt_le_s (rt_le_s (rt_le_s (rt_le_j rt_le_n)))) ?_
    obtain rfl := Option.some.inj h
    have q1 := hK.2 s.2 rfl
    try dsimp only at q1
    exact q1
  · rw [if_neg q5] at h
    refine RT.aload_n (pc := 8) (k := 0) (x := a0) dX1_layWays_8 rfl ?_
    obtain ⟨v9, hv9, h⟩ := Option.bind_eq_some_iff.mp h
    refine RT.gf 1 3 2 (pc := 9) (x := a0) (v := v9) hz dX1_layWays_9 fl_X1_16 rfl hv9 ?_
    refine RT.iload_n (pc := 12) (k := 3) (x := s.1) dX1_layWays_12 rfl ?_
    refine RT.iload_n (pc := 13) (k := 3) (x := s.1) dX1_layWays_13 rfl ?_
    refine RT.if_ne (pc := 14) (tgt := 21) dX1_layWays_14 rfl (fun q14 => ?_) (fun q14 => ?_)
    · rw [if_neg q14] at h
      refine RT.iconst (pc := 21) (n := 0) dX1_layWays_21 ⟨by decide, by decide⟩ ?_
      exact cj_X1_layWays_22_2 hz hd ht a1 a2 s.1 v9 s.1 0 s.2 _ h hK
    · rw [if_pos (Classical.not_not.mp q14)] at h
      refine RT.iconst (pc := 17) (n := 1) dX1_layWays_17 ⟨by decide, by decide⟩ ?_
      refine RT.goto (pc := 18) (tgt := 22) dX1_layWays_18 rfl ?_
      exact cj_X1_layWays_22_2 hz hd ht a1 a2 s.1 v9 s.1 1 s.2 _ h hK
theorem cj_X1_layWays_59_31 {G : rt_G} {d : Nat} {z : Nat × Nat} {Q : rt_P} (hz : 300 ≤ z.1) (hd : 1 ≤ d) {a0 : Int} (ht : rt_kd a0.toNat = 20 + 1) (a1 : Int) (a2 : Int) (a3 : Int) (mem0 : rt_M) (t : (Int × rt_M) ⊕ (rt_M)) (h : j_X1_layWays_59_31 a0 a1 a2 a3 mem0 = some t) (hK : (∀ s1 : Int × rt_M, t = .inl s1 → RT G M_X1_layWays d z Q 31 [(2, a0), (2, a1), (0, a2), (0, s1.1)] [] z s1.2) ∧ (∀ x1 : rt_M, t = .inr x1 → RT G M_X1_layWays d z Q 65 [(9, 0), (9, 0), (9, 0), (9, 0)] [] z x1)) : RT G M_X1_layWays d z Q 59 [(2, a0), (2, a1), (0, a2), (0, a3)] [] z mem0 := by
  unfold j_X1_layWays_59_31 at h
  refine RT.iinc (pc := 59) (x := a3) (L1 := [(2, a0), (2, a1), (0, a2), (0, (rt_iadd a3 1))]) dX1_layWays_59 rfl (Nat.le_of_ble_eq_true rfl) ⟨by decide, by decide⟩ rfl ?_
  refine RT.goto (pc := 62) (tgt := 31) dX1_layWays_62 rfl ?_
  obtain rfl := Option.some.inj h
  have q1 := hK.1 (((rt_iadd a3 1), mem0)) rfl
  try dsimp only at q1
  exact q1
theorem cb_X1_layWays_31 {G : rt_G} {d : Nat} {z : Nat × Nat} {Q : rt_P} (hz : 300 ≤ z.1) (hd : 1 ≤ d) {a0 : Int} (ht : rt_kd a0.toNat = 20 + 1) (a1 : Int) (a2 : Int) (s : Int × rt_M) (t : (Int × rt_M) ⊕ (rt_M)) (h : b_X1_layWays_31 a0 a1 a2 s = some t) (hK : (∀ s1 : Int × rt_M, t = .inl s1 → RT G M_X1_layWays d z Q 31 [(2, a0), (2, a1), (0, a2), (0, s1.1)] [] z s1.2) ∧ (∀ x1 : rt_M, t = .inr x1 → RT G M_X1_layWays d z Q 65 [(9, 0), (9, 0), (9, 0), (9, 0)] [] z x1)) : RT G M_X1_layWays d z Q 31 [(2, a0), (2, a1), (0, a2), (0, s.1)] [] z s.2 := by
  unfold b_X1_layWays_31 at h
  refine RT.iload_n (pc := 31) (k := 3) (x := s.1) dX1_layWays_31 rfl ?_
  refine RT.aload_n (pc := 32) (k := 0) (x := a0) dX1_layWays_32 rfl ?_
  obtain ⟨v33, hv33, h⟩ := Option.bind_eq_some_iff.mp h
  refine RT.gf 1 0 0 (pc := 33) (x := a0) (v := v33) hz dX1_layWays_33 fl_X1_35 rfl hv33 ?_
  refine RT.icmp_ge (pc := 36) (tgt := 65) dX1_layWays_36 rfl (fun q36 => ?_) (fun q36 => ?_)
  · rw [if_pos q36] at h
    refine RT.wk (L1 := [(9, 0), (9, 0), (9, 0), (9, 0)]) (rt_le_j (rt_le_j (rt_le_j (rt_le_j rt_le_n)))) ?_
    obtain rfl := Option.some.inj h
    have q1 := hK.2 s.2 rfl
    try dsimp only at q1
    exact q1
  · rw [if_neg q36] at h
    refine RT.aload_n (pc := 39) (k := 1) (x := a1) dX1_layWays_39 rfl ?_
    refine RT.iload_n (pc := 40) (k := 3) (x := s.1) dX1_layWays_40 rfl ?_
    obtain ⟨v41, hv41, h⟩ := Option.bind_eq_some_iff.mp h
    refine RT.iald (pc := 41) (x := a1) (i := s.1) (v := v41) dX1_layWays_41 (rt_lta hz (by decide) (by decide) hv41) hv41 ?_
    refine RT.iconst (pc := 42) (n := (-1)) dX1_layWays_42 ⟨by decide, by decide⟩ ?_
    refine RT.icmp_eq (pc := 43) (tgt := 59) dX1_layWays_43 rfl (fun q43 => ?_) (fun q43 => ?_)
    · rw [if_pos q43] at h
      exact cj_X1_layWays_59_31 hz hd ht a1 a2 s.1 s.2 _ h hK
    · rw [if_neg q43] at h
      refine RT.iload_n (pc := 46) (k := 3) (x := s.1) dX1_layWays_46 rfl ?_
      refine RT.iload_n (pc := 47) (k := 2) (x := a2) dX1_layWays_47 rfl ?_
      refine RT.icmp_eq (pc := 48) (tgt := 59) dX1_layWays_48 rfl (fun q48 => ?_) (fun q48 => ?_)
      · rw [if_pos q48] at h
        exact cj_X1_layWays_59_31 hz hd ht a1 a2 s.1 s.2 _ h hK
      · rw [if_neg q48] at h
        refine RT.aload_n (pc := 51) (k := 0) (x := a0) dX1_layWays_51 rfl ?_
        refine RT.iload_n (pc := 52) (k := 3) (x := s.1) dX1_layWays_52 rfl ?_
        refine RT.aload_n (pc := 53) (k := 1) (x := a1) dX1_layWays_53 rfl ?_
        refine RT.iload_n (pc := 54) (k := 3) (x := s.1) dX1_layWays_54 rfl ?_
        obtain ⟨v55, hv55, h⟩ := Option.bind_eq_some_iff.mp h
        refine RT.iald (pc := 55) (x := a1) (i := s.1) (v := v55) dX1_layWays_55 (rt_lta hz (by decide) (by decide) hv55) hv55 ?_
        obtain ⟨p56, hp56, h⟩ := Option.bind_eq_some_iff.mp h
        refine RT.cVz (pc := 56) (M' := M_X1_layUnder) (ci := 1) (x := a0) (As := [(0, s.1), (0, v55)]) (st := []) (r := none) (mem1 := p56) (d' := d - 1) hz dX1_layWays_56 mw_X1_layUnder ml_X1_52 mi_X1_layUnder ht rfl rfl (Nat.le_of_ble_eq_true rfl) (Nat.le_of_ble_eq_true rfl) (by omega) rfl rfl (c_X1_layUnder hz (by omega) a0 s.1 v55 s.2 _ ht hp56) ?_
        exact cj_X1_layWays_59_31 hz hd ht a1 a2 s.1 p56 _ h hK
theorem c_X1_layWays {G : rt_G} {d : Nat} {z : Nat × Nat} (hz : 300 ≤ z.1) (hd : 1 ≤ d) (a0 : Int) (a1 : Int) (a2 : Int) (mem0 : rt_M) (t : rt_M) (ht : rt_kd a0.toNat = 20 + 1) (h : f_X1_layWays a0 a1 a2 mem0 = some t) : RM G M_X1_layWays d [(2, a0), (2, a1), (0, a2)] z mem0 none t := by
  suffices H : ∀ Q : rt_P, Q none z t → RT G M_X1_layWays d z Q 0 [(2, a0), (2, a1), (0, a2), (9, 0)] [] z mem0 from H _ ⟨rfl, rfl, rfl⟩
  intro Q hK
  unfold f_X1_layWays at h
  refine RT.iconst (pc := 0) (n := 0) dX1_layWays_0 ⟨by decide, by decide⟩ ?_
  refine RT.istore_n (pc := 1) (k := 3) (x := 0) (L1 := [(2, a0), (2, a1), (0, a2), (0, 0)]) dX1_layWays_1 (Nat.le_of_ble_eq_true rfl) rfl ?_
  obtain ⟨X2, hX2, h⟩ := Option.bind_eq_some_iff.mp h
  refine rt_it_ind (P := (fun s1 : Int × rt_M => RT G M_X1_layWays d z Q 2 [(2, a0), (2, a1), (0, a2), (0, s1.1)] [] z s1.2)) (X := (fun x1 : rt_M => RT G M_X1_layWays d z Q 29 [(2, a0), (2, a1), (0, a2), (9, 0)] [] z x1)) (fun s1 t1 h1 k1 k2 => cb_X1_layWays_2 hz hd ht a1 a2 s1 t1 h1 ⟨k1, k2⟩) 4000 ((0, mem0)) X2 hX2 ?_
  refine RT.iconst (pc := 29) (n := 0) dX1_layWays_29 ⟨by decide, by decide⟩ ?_
  refine RT.istore_n (pc := 30) (k := 3) (x := 0) (L1 := [(2, a0), (2, a1), (0, a2), (0, 0)]) dX1_layWays_30 (Nat.le_of_ble_eq_true rfl) rfl ?_
  obtain ⟨X31, hX31, h⟩ := Option.bind_eq_some_iff.mp h
  refine rt_it_ind (P := (fun s1 : Int × rt_M => RT G M_X1_layWays d z Q 31 [(2, a0), (2, a1), (0, a2), (0, s1.1)] [] z s1.2)) (X := (fun x1 : rt_M => RT G M_X1_layWays d z Q 65 [(9, 0), (9, 0), (9, 0), (9, 0)] [] z x1)) (fun s1 t1 h1 k1 k2 => cb_X1_layWays_31 hz hd ht a1 a2 s1 t1 h1 ⟨k1, k2⟩) 4000 ((0, X2)) X31 hX31 ?_
  obtain rfl := Option.some.inj h
  exact RT.vret (pc := 65) dX1_layWays_65 rfl (Nat.le_of_eq (rt_cells_0 z)) (Nat.le_of_eq (rt_slots_0 z)) hK
theorem cj_X1_waysWithout_25_4 {G : rt_G} {d : Nat} {z : Nat × Nat} {Q : rt_P} (hz : 300 ≤ z.1) (hd : 0 ≤ d) {a0 : Int} (ht : rt_kd a0.toNat = 20 + 1) (a1 : Int) (a2 : Int) (a3 : Int) (mem0 : rt_M) (t : (Int × Int) ⊕ (Int)) (h : j_X1_waysWithout_25_4 a0 a1 a2 a3 mem0 = some t) (hK : (∀ s1 : Int × Int, t = .inl s1 → RT G M_X1_waysWithout d z Q 4 [(2, a0), (0, a1), (0, s1.1), (0, s1.2)] [] z mem0) ∧ (∀ x1 : Int, t = .inr x1 → RT G M_X1_waysWithout d z Q 31 [(9, 0), (9, 0), (0, x1), (9, 0)] [] z mem0)) : RT G M_X1_waysWithout d z Q 25 [(2, a0), (0, a1), (0, a2), (0, a3)] [] z mem0 := by
  unfold j_X1_waysWithout_25_4 at h
  refine RT.iinc (pc := 25) (x := a3) (L1 := [(2, a0), (0, a1), (0, a2), (0, (rt_iadd a3 1))]) dX1_waysWithout_25 rfl (Nat.le_of_ble_eq_true rfl) ⟨by decide, by decide⟩ rfl ?_
  refine RT.goto (pc := 28) (tgt := 4) dX1_waysWithout_28 rfl ?_
  obtain rfl := Option.some.inj h
  have q1 := hK.1 ((a2, (rt_iadd a3 1))) rfl
  try dsimp only at q1
  exact q1
theorem cb_X1_waysWithout_4 {G : rt_G} {d : Nat} {z : Nat × Nat} {Q : rt_P} (hz : 300 ≤ z.1) (hd : 0 ≤ d) {a0 : Int} (ht : rt_kd a0.toNat = 20 + 1) (a1 : Int) (mem0 : rt_M) (s : Int × Int) (t : (Int × Int) ⊕ (Int)) (h : b_X1_waysWithout_4 a0 a1 mem0 s = some t) (hK : (∀ s1 : Int × Int, t = .inl s1 → RT G M_X1_waysWithout d z Q 4 [(2, a0), (0, a1), (0, s1.1), (0, s1.2)] [] z mem0) ∧ (∀ x1 : Int, t = .inr x1 → RT G M_X1_waysWithout d z Q 31 [(9, 0), (9, 0), (0, x1), (9, 0)] [] z mem0)) : RT G M_X1_waysWithout d z Q 4 [(2, a0), (0, a1), (0, s.1), (0, s.2)] [] z mem0 := by
  unfold b_X1_waysWithout_4 at h
  refine RT.iload_n (pc := 4) (k := 3) (x := s.2) dX1_waysWithout_4 rfl ?_
  refine RT.bipush (pc := 5) (n := 64) dX1_waysWithout_5 ⟨by decide, by decide⟩ rfl ?_
  refine RT.icmp_ge (pc := 7) (tgt := 31) dX1_waysWithout_7 rfl (fun q7 => ?_) (fun q7 => ?_)
  · rw [if_pos q7] at h
    refine RT.wk (L1 := [(9, 0), (9, 0), (0, s.1), (9, 0)]) (rt_le_j (rt_le_j (rt_le_s (rt_le_j rt_le_n)))) ?_
    obtain rfl := Option.some.inj h
    have q1 := hK.2 s.1 rfl
    try dsimp only at q1
    exact q1
  · rw [if_neg q7] at h
    refine RT.iload_n (pc := 10) (k := 3) (x := s.2) dX1_waysWithout_10 rfl ?_
    refine RT.iload_n (pc := 11) (k := 1) (x := a1) dX1_waysWithout_11 rfl ?_
    refine RT.iand (pc := 12) dX1_waysWithout_12 ?_
    refine RT.if_ne (pc := 13) (tgt := 25) dX1_waysWithout_13 rfl (fun q13 => ?_) (fun q13 => ?_)
    · rw [if_neg q13] at h
      exact cj_X1_waysWithout_25_4 hz hd ht a1 s.1 s.2 mem0 _ h hK
    · rw [if_pos (Classical.not_not.mp q13)] at h
      refine RT.iload_n (pc := 16) (k := 2) (x := s.1) dX1_waysWithout_16 rfl ?_
      refine RT.aload_n (pc := 17) (k := 0) (x := a0) dX1_waysWithout_17 rfl ?_
      obtain ⟨v18, hv18, h⟩ := Option.bind_eq_some_iff.mp h
      refine RT.gf 1 3 2 (pc := 18) (x := a0) (v := v18) hz dX1_waysWithout_18 fl_X1_16 rfl hv18 ?_
      refine RT.iload_n (pc := 21) (k := 3) (x := s.2) dX1_waysWithout_21 rfl ?_
      obtain ⟨v22, hv22, h⟩ := Option.bind_eq_some_iff.mp h
      refine RT.iald (pc := 22) (x := v18) (i := s.2) (v := v22) dX1_waysWithout_22 (rt_lta hz (by decide) (by decide) hv22) hv22 ?_
      refine RT.iadd (pc := 23) dX1_waysWithout_23 ?_
      refine RT.istore_n (pc := 24) (k := 2) (x := (rt_iadd s.1 v22)) (L1 := [(2, a0), (0, a1), (0, (rt_iadd s.1 v22)), (0, s.2)]) dX1_waysWithout_24 (Nat.le_of_ble_eq_true rfl) rfl ?_
      exact cj_X1_waysWithout_25_4 hz hd ht a1 ((rt_iadd s.1 v22)) s.2 mem0 _ h hK
theorem c_X1_waysWithout {G : rt_G} {d : Nat} {z : Nat × Nat} (hz : 300 ≤ z.1) (hd : 0 ≤ d) (a0 : Int) (a1 : Int) (mem0 : rt_M) (t : Int) (ht : rt_kd a0.toNat = 20 + 1) (h : f_X1_waysWithout a0 a1 mem0 = some t) : RM G M_X1_waysWithout d [(2, a0), (0, a1)] z mem0 (some (0, t)) mem0 := by
  suffices H : ∀ Q : rt_P, Q (some (0, t)) z mem0 → RT G M_X1_waysWithout d z Q 0 [(2, a0), (0, a1), (9, 0), (9, 0)] [] z mem0 from H _ ⟨rfl, rfl, rfl⟩
  intro Q hK
  unfold f_X1_waysWithout at h
  refine RT.iconst (pc := 0) (n := 0) dX1_waysWithout_0 ⟨by decide, by decide⟩ ?_
  refine RT.istore_n (pc := 1) (k := 2) (x := 0) (L1 := [(2, a0), (0, a1), (0, 0), (9, 0)]) dX1_waysWithout_1 (Nat.le_of_ble_eq_true rfl) rfl ?_
  refine RT.iconst (pc := 2) (n := 0) dX1_waysWithout_2 ⟨by decide, by decide⟩ ?_
  refine RT.istore_n (pc := 3) (k := 3) (x := 0) (L1 := [(2, a0), (0, a1), (0, 0), (0, 0)]) dX1_waysWithout_3 (Nat.le_of_ble_eq_true rfl) rfl ?_
  obtain ⟨X4, hX4, h⟩ := Option.bind_eq_some_iff.mp h
  refine rt_it_ind (P := (fun s1 : Int × Int => RT G M_X1_waysWithout d z Q 4 [(2, a0), (0, a1), (0, s1.1), (0, s1.2)] [] z mem0)) (X := (fun x1 : Int => RT G M_X1_waysWithout d z Q 31 [(9, 0), (9, 0), (0, x1), (9, 0)] [] z mem0)) (fun s1 t1 h1 k1 k2 => cb_X1_waysWithout_4 hz hd ht a1 mem0 s1 t1 h1 ⟨k1, k2⟩) 4000 ((0, 0)) X4 hX4 ?_
  refine RT.iload_n (pc := 31) (k := 2) (x := X4) dX1_waysWithout_31 rfl ?_
  obtain rfl := Option.some.inj h
  exact RT.iret (pc := 32) dX1_waysWithout_32 rfl (Nat.le_of_eq (rt_cells_0 z)) (Nat.le_of_eq (rt_slots_0 z)) hK
theorem cj_X1_allWays_32_4 {G : rt_G} {d : Nat} {z : Nat × Nat} {Q : rt_P} (hz : 300 ≤ z.1) (hd : 1 ≤ d) {a0 : Int} (ht : rt_kd a0.toNat = 20 + 1) (a1 : Int) (a2 : Int) (a3 : Int) (mem0 : rt_M) (t : (Int × Int) ⊕ (Int)) (h : j_X1_allWays_32_4 a0 a1 a2 a3 mem0 = some t) (hK : (∀ s1 : Int × Int, t = .inl s1 → RT G M_X1_allWays d z Q 4 [(2, a0), (0, a1), (0, s1.1), (0, s1.2)] [] z mem0) ∧ (∀ x1 : Int, t = .inr x1 → RT G M_X1_allWays d z Q 38 [(9, 0), (9, 0), (0, x1), (9, 0)] [] z mem0)) : RT G M_X1_allWays d z Q 32 [(2, a0), (0, a1), (0, a2), (0, a3)] [] z mem0 := by
  unfold j_X1_allWays_32_4 at h
  refine RT.iinc (pc := 32) (x := a3) (L1 := [(2, a0), (0, a1), (0, a2), (0, (rt_iadd a3 1))]) dX1_allWays_32 rfl (Nat.le_of_ble_eq_true rfl) ⟨by decide, by decide⟩ rfl ?_
  refine RT.goto (pc := 35) (tgt := 4) dX1_allWays_35 rfl ?_
  obtain rfl := Option.some.inj h
  have q1 := hK.1 ((a2, (rt_iadd a3 1))) rfl
  try dsimp only at q1
  exact q1
theorem cb_X1_allWays_4 {G : rt_G} {d : Nat} {z : Nat × Nat} {Q : rt_P} (hz : 300 ≤ z.1) (hd : 1 ≤ d) {a0 : Int} (ht : rt_kd a0.toNat = 20 + 1) (a1 : Int) (mem0 : rt_M) (s : Int × Int) (t : (Int × Int) ⊕ (Int)) (h : b_X1_allWays_4 a0 a1 mem0 s = some t) (hK : (∀ s1 : Int × Int, t = .inl s1 → RT G M_X1_allWays d z Q 4 [(2, a0), (0, a1), (0, s1.1), (0, s1.2)] [] z mem0) ∧ (∀ x1 : Int, t = .inr x1 → RT G M_X1_allWays d z Q 38 [(9, 0), (9, 0), (0, x1), (9, 0)] [] z mem0)) : RT G M_X1_allWays d z Q 4 [(2, a0), (0, a1), (0, s.1), (0, s.2)] [] z mem0 := by
  unfold b_X1_allWays_4 at h
  refine RT.iload_n (pc := 4) (k := 3) (x := s.2) dX1_allWays_4 rfl ?_
  refine RT.aload_n (pc := 5) (k := 0) (x := a0) dX1_allWays_5 rfl ?_
  obtain ⟨v6, hv6, h⟩ := Option.bind_eq_some_iff.mp h
  refine RT.gf 1 1 0 (pc := 6) (x := a0) (v := v6) hz dX1_allWays_6 fl_X1_39 rfl hv6 ?_
  refine RT.icmp_ge (pc := 9) (tgt := 38) dX1_allWays_9 rfl (fun q9 => ?_) (fun q9 => ?_)
  · rw [if_pos q9] at h
    refine RT.wk (L1 := [(9, 0), (9, 0), (0, s.1), (9, 0)]) (rt_le_j (rt_le_j (rt_le_s (rt_le_j rt_le_n)))) ?_
    obtain rfl := Option.some.inj h
    have q1 := hK.2 s.1 rfl
    try dsimp only at q1
    exact q1
  · rw [if_neg q9] at h
    refine RT.aload_n (pc := 12) (k := 0) (x := a0) dX1_allWays_12 rfl ?_
    refine RT.iload_n (pc := 13) (k := 1) (x := a1) dX1_allWays_13 rfl ?_
    refine RT.iload_n (pc := 14) (k := 3) (x := s.2) dX1_allWays_14 rfl ?_
    obtain ⟨p15, hp15, h⟩ := Option.bind_eq_some_iff.mp h
    refine RT.cVz (pc := 15) (M' := M_X1_tiltOf) (ci := 1) (x := a0) (As := [(0, a1), (0, s.2)]) (st := []) (r := some (0, p15)) (mem1 := mem0) (d' := d - 1) hz dX1_allWays_15 mw_X1_tiltOf ml_X1_56 mi_X1_tiltOf ht rfl rfl (Nat.le_of_ble_eq_true rfl) (Nat.le_of_ble_eq_true rfl) (by omega) rfl rfl (c_X1_tiltOf hz (by omega) a0 a1 s.2 mem0 _ ht hp15) ?_
    refine RT.iconst (pc := 18) (n := (-1)) dX1_allWays_18 ⟨by decide, by decide⟩ ?_
    refine RT.icmp_eq (pc := 19) (tgt := 32) dX1_allWays_19 rfl (fun q19 => ?_) (fun q19 => ?_)
    · rw [if_pos q19] at h
      exact cj_X1_allWays_32_4 hz hd ht a1 s.1 s.2 mem0 _ h hK
    · rw [if_neg q19] at h
      refine RT.iload_n (pc := 22) (k := 2) (x := s.1) dX1_allWays_22 rfl ?_
      refine RT.aload_n (pc := 23) (k := 0) (x := a0) dX1_allWays_23 rfl ?_
      refine RT.iconst (pc := 24) (n := 1) dX1_allWays_24 ⟨by decide, by decide⟩ ?_
      refine RT.iload_n (pc := 25) (k := 3) (x := s.2) dX1_allWays_25 rfl ?_
      refine RT.ishl (pc := 26) dX1_allWays_26 ?_
      obtain ⟨p27, hp27, h⟩ := Option.bind_eq_some_iff.mp h
      refine RT.cVz (pc := 27) (M' := M_X1_waysWithout) (ci := 1) (x := a0) (As := [(0, (rt_ishl 1 s.2))]) (st := [(0, s.1)]) (r := some (0, p27)) (mem1 := mem0) (d' := d - 1) hz dX1_allWays_27 mw_X1_waysWithout ml_X1_59 mi_X1_waysWithout ht rfl rfl (Nat.le_of_ble_eq_true rfl) (Nat.le_of_ble_eq_true rfl) (by omega) rfl rfl (c_X1_waysWithout hz (by omega) a0 ((rt_ishl 1 s.2)) mem0 _ ht hp27) ?_
      refine RT.iadd (pc := 30) dX1_allWays_30 ?_
      refine RT.istore_n (pc := 31) (k := 2) (x := (rt_iadd s.1 p27)) (L1 := [(2, a0), (0, a1), (0, (rt_iadd s.1 p27)), (0, s.2)]) dX1_allWays_31 (Nat.le_of_ble_eq_true rfl) rfl ?_
      exact cj_X1_allWays_32_4 hz hd ht a1 ((rt_iadd s.1 p27)) s.2 mem0 _ h hK
theorem c_X1_allWays {G : rt_G} {d : Nat} {z : Nat × Nat} (hz : 300 ≤ z.1) (hd : 1 ≤ d) (a0 : Int) (a1 : Int) (mem0 : rt_M) (t : Int) (ht : rt_kd a0.toNat = 20 + 1) (h : f_X1_allWays a0 a1 mem0 = some t) : RM G M_X1_allWays d [(2, a0), (0, a1)] z mem0 (some (0, t)) mem0 := by
  suffices H : ∀ Q : rt_P, Q (some (0, t)) z mem0 → RT G M_X1_allWays d z Q 0 [(2, a0), (0, a1), (9, 0), (9, 0)] [] z mem0 from H _ ⟨rfl, rfl, rfl⟩
  intro Q hK
  unfold f_X1_allWays at h
  refine RT.iconst (pc := 0) (n := 0) dX1_allWays_0 ⟨by decide, by decide⟩ ?_
  refine RT.istore_n (pc := 1) (k := 2) (x := 0) (L1 := [(2, a0), (0, a1), (0, 0), (9, 0)]) dX1_allWays_1 (Nat.le_of_ble_eq_true rfl) rfl ?_
  refine RT.iconst (pc := 2) (n := 0) dX1_allWays_2 ⟨by decide, by decide⟩ ?_
  refine RT.istore_n (pc := 3) (k := 3) (x := 0) (L1 := [(2, a0), (0, a1), (0, 0), (0, 0)]) dX1_allWays_3 (Nat.le_of_ble_eq_true rfl) rfl ?_
  obtain ⟨X4, hX4, h⟩ := Option.bind_eq_some_iff.mp h
  refine rt_it_ind (P := (fun s1 : Int × Int => RT G M_X1_allWays d z Q 4 [(2, a0), (0, a1), (0, s1.1), (0, s1.2)] [] z mem0)) (X := (fun x1 : Int => RT G M_X1_allWays d z Q 38 [(9, 0), (9, 0), (0, x1), (9, 0)] [] z mem0)) (fun s1 t1 h1 k1 k2 => cb_X1_allWays_4 hz hd ht a1 mem0 s1 t1 h1 ⟨k1, k2⟩) 4000 ((0, 0)) X4 hX4 ?_
  refine RT.iload_n (pc := 38) (k := 2) (x := X4) dX1_allWays_38 rfl ?_
  obtain rfl := Option.some.inj h
  exact RT.iret (pc := 39) dX1_allWays_39 rfl (Nat.le_of_eq (rt_cells_0 z)) (Nat.le_of_eq (rt_slots_0 z)) hK
theorem cb_X1_greatestLikeWays_2 {G : rt_G} {d : Nat} {z : Nat × Nat} {Q : rt_P} (hz : 300 ≤ z.1) (hd : 1 ≤ d) {a0 : Int} (ht : rt_kd a0.toNat = 20 + 1) (a1 : Int) (s : Int × rt_M) (t : (Int × rt_M) ⊕ (rt_M)) (h : b_X1_greatestLikeWays_2 a0 a1 s = some t) (hK : (∀ s1 : Int × rt_M, t = .inl s1 → RT G M_X1_greatestLikeWays d z Q 2 [(2, a0), (0, a1), (0, s1.1), (9, 0), (9, 0)] [] z s1.2) ∧ (∀ x1 : rt_M, t = .inr x1 → RT G M_X1_greatestLikeWays d z Q 24 [(2, a0), (0, a1), (9, 0), (9, 0), (9, 0)] [] z x1)) : RT G M_X1_greatestLikeWays d z Q 2 [(2, a0), (0, a1), (0, s.1), (9, 0), (9, 0)] [] z s.2 := by
  unfold b_X1_greatestLikeWays_2 at h
  refine RT.iload_n (pc := 2) (k := 2) (x := s.1) dX1_greatestLikeWays_2 rfl ?_
  refine RT.aload_n (pc := 3) (k := 0) (x := a0) dX1_greatestLikeWays_3 rfl ?_
  obtain ⟨v4, hv4, h⟩ := Option.bind_eq_some_iff.mp h
  refine RT.gf 1 4 2 (pc := 4) (x := a0) (v := v4) hz dX1_greatestLikeWays_4 fl_X1_20 rfl hv4 ?_
  obtain ⟨v7, hv7, h⟩ := Option.bind_eq_some_iff.mp h
  refine RT.alen 1 (pc := 7) (x := v4) (v := v7) dX1_greatestLikeWays_7 ⟨by decide, by decide⟩ (rt_ltl hz (by decide) (by decide) hv7) hv7 ?_
  refine RT.icmp_ge (pc := 8) (tgt := 24) dX1_greatestLikeWays_8 rfl (fun q8 => ?_) (fun q8 => ?_)
  · rw [if_pos q8] at h
    refine RT.wk (L1 := [(2, a0), (0, a1), (9, 0), (9, 0), (9, 0)]) (rt_le_s (rt_le_s (rt_le_j (rt_le_s (rt_le_s rt_le_n))))) ?_
    obtain rfl := Option.some.inj h
    have q1 := hK.2 s.2 rfl
    try dsimp only at q1
    exact q1
  · rw [if_neg q8] at h
    refine RT.aload_n (pc := 11) (k := 0) (x := a0) dX1_greatestLikeWays_11 rfl ?_
    obtain ⟨v12, hv12, h⟩ := Option.bind_eq_some_iff.mp h
    refine RT.gf 1 4 2 (pc := 12) (x := a0) (v := v12) hz dX1_greatestLikeWays_12 fl_X1_20 rfl hv12 ?_
    refine RT.iload_n (pc := 15) (k := 2) (x := s.1) dX1_greatestLikeWays_15 rfl ?_
    refine RT.iconst (pc := 16) (n := 0) dX1_greatestLikeWays_16 ⟨by decide, by decide⟩ ?_
    obtain ⟨m17, hm17, h⟩ := Option.bind_eq_some_iff.mp h
    refine RT.iast (pc := 17) (x := v12) (i := s.1) (v := 0) (mem1 := m17) dX1_greatestLikeWays_17 (rt_lts hz (by decide) (by decide) hm17) hm17 ?_
    refine RT.iinc (pc := 18) (x := s.1) (L1 := [(2, a0), (0, a1), (0, (rt_iadd s.1 1)), (9, 0), (9, 0)]) dX1_greatestLikeWays_18 rfl (Nat.le_of_ble_eq_true rfl) ⟨by decide, by decide⟩ rfl ?_
    refine RT.goto (pc := 21) (tgt := 2) dX1_greatestLikeWays_21 rfl ?_
    obtain rfl := Option.some.inj h
    have q1 := hK.1 (((rt_iadd s.1 1), m17)) rfl
    try dsimp only at q1
    exact q1
theorem cj_X1_greatestLikeWays_88_28 {G : rt_G} {d : Nat} {z : Nat × Nat} {Q : rt_P} (hz : 300 ≤ z.1) (hd : 1 ≤ d) {a0 : Int} (ht : rt_kd a0.toNat = 20 + 1) (a1 : Int) (a2 : Int) (a3 : Int) (mem0 : rt_M) (t : (Int × Int × rt_M) ⊕ (Int × rt_M)) (h : j_X1_greatestLikeWays_88_28 a0 a1 a2 a3 mem0 = some t) (hK : (∀ s1 : Int × Int × rt_M, t = .inl s1 → RT G M_X1_greatestLikeWays d z Q 28 [(2, a0), (0, a1), (0, s1.1), (0, s1.2.1), (9, 0)] [] z s1.2.2) ∧ (∀ x1 : Int × rt_M, t = .inr x1 → RT G M_X1_greatestLikeWays d z Q 94 [(9, 0), (9, 0), (0, x1.1), (9, 0), (9, 0)] [] z x1.2)) : RT G M_X1_greatestLikeWays d z Q 88 [(2, a0), (0, a1), (0, a2), (0, a3), (9, 0)] [] z mem0 := by
  unfold j_X1_greatestLikeWays_88_28 at h
  refine RT.iinc (pc := 88) (x := a3) (L1 := [(2, a0), (0, a1), (0, a2), (0, (rt_iadd a3 1)), (9, 0)]) dX1_greatestLikeWays_88 rfl (Nat.le_of_ble_eq_true rfl) ⟨by decide, by decide⟩ rfl ?_
  refine RT.goto (pc := 91) (tgt := 28) dX1_greatestLikeWays_91 rfl ?_
  obtain rfl := Option.some.inj h
  have q1 := hK.1 ((a2, (rt_iadd a3 1), mem0)) rfl
  try dsimp only at q1
  exact q1
theorem cb_X1_greatestLikeWays_28 {G : rt_G} {d : Nat} {z : Nat × Nat} {Q : rt_P} (hz : 300 ≤ z.1) (hd : 1 ≤ d) {a0 : Int} (ht : rt_kd a0.toNat = 20 + 1) (a1 : Int) (s : Int × Int × rt_M) (t : (Int × Int × rt_M) ⊕ (Int × rt_M)) (h : b_X1_greatestLikeWays_28 a0 a1 s = some t) (hK : (∀ s1 : Int × Int × rt_M, t = .inl s1 → RT G M_X1_greatestLikeWays d z Q 28 [(2, a0), (0, a1), (0, s1.1), (0, s1.2.1), (9, 0)] [] z s1.2.2) ∧ (∀ x1 : Int × rt_M, t = .inr x1 → RT G M_X1_greatestLikeWays d z Q 94 [(9, 0), (9, 0), (0, x1.1), (9, 0), (9, 0)] [] z x1.2)) : RT G M_X1_greatestLikeWays d z Q 28 [(2, a0), (0, a1), (0, s.1), (0, s.2.1), (9, 0)] [] z s.2.2 := by
  unfold b_X1_greatestLikeWays_28 at h
  refine RT.iload_n (pc := 28) (k := 3) (x := s.2.1) dX1_greatestLikeWays_28 rfl ?_
  refine RT.aload_n (pc := 29) (k := 0) (x := a0) dX1_greatestLikeWays_29 rfl ?_
  obtain ⟨v30, hv30, h⟩ := Option.bind_eq_some_iff.mp h
  refine RT.gf 1 1 0 (pc := 30) (x := a0) (v := v30) hz dX1_greatestLikeWays_30 fl_X1_39 rfl hv30 ?_
  refine RT.icmp_ge (pc := 33) (tgt := 94) dX1_greatestLikeWays_33 rfl (fun q33 => ?_) (fun q33 => ?_)
  · rw [if_pos q33] at h
    refine RT.wk (L1 := [(9, 0), (9, 0), (0, s.1), (9, 0), (9, 0)]) (rt_le_j (rt_le_j (rt_le_s (rt_le_j (rt_le_s rt_le_n))))) ?_
    obtain rfl := Option.some.inj h
    have q1 := hK.2 ((s.1, s.2.2)) rfl
    try dsimp only at q1
    exact q1
  · rw [if_neg q33] at h
    refine RT.aload_n (pc := 36) (k := 0) (x := a0) dX1_greatestLikeWays_36 rfl ?_
    refine RT.iload_n (pc := 37) (k := 1) (x := a1) dX1_greatestLikeWays_37 rfl ?_
    refine RT.iload_n (pc := 38) (k := 3) (x := s.2.1) dX1_greatestLikeWays_38 rfl ?_
    obtain ⟨p39, hp39, h⟩ := Option.bind_eq_some_iff.mp h
    refine RT.cVz (pc := 39) (M' := M_X1_tiltOf) (ci := 1) (x := a0) (As := [(0, a1), (0, s.2.1)]) (st := []) (r := some (0, p39)) (mem1 := s.2.2) (d' := d - 1) hz dX1_greatestLikeWays_39 mw_X1_tiltOf ml_X1_56 mi_X1_tiltOf ht rfl rfl (Nat.le_of_ble_eq_true rfl) (Nat.le_of_ble_eq_true rfl) (by omega) rfl rfl (c_X1_tiltOf hz (by omega) a0 a1 s.2.1 s.2.2 _ ht hp39) ?_
    refine RT.istore (pc := 42) (k := 4) (x := p39) (L1 := [(2, a0), (0, a1), (0, s.1), (0, s.2.1), (0, p39)]) dX1_greatestLikeWays_42 (Nat.le_of_ble_eq_true rfl) rfl ?_
    refine RT.iload (pc := 44) (k := 4) (x := p39) dX1_greatestLikeWays_44 rfl ?_
    refine RT.if_lt (pc := 46) (tgt := 88) dX1_greatestLikeWays_46 rfl (fun q46 => ?_) (fun q46 => ?_)
    · rw [if_pos q46] at h
      refine RT.wk (L1 := [(2, a0), (0, a1), (0, s.1), (0, s.2.1), (9, 0)]) (rt_le_s (rt_le_s (rt_le_s (rt_le_s (rt_le_j rt_le_n))))) ?_
      exact cj_X1_greatestLikeWays_88_28 hz hd ht a1 s.1 s.2.1 s.2.2 _ h hK
    · rw [if_neg q46] at h
      refine RT.iload (pc := 49) (k := 4) (x := p39) dX1_greatestLikeWays_49 rfl ?_
      refine RT.aload_n (pc := 51) (k := 0) (x := a0) dX1_greatestLikeWays_51 rfl ?_
      obtain ⟨v52, hv52, h⟩ := Option.bind_eq_some_iff.mp h
      refine RT.gf 1 4 2 (pc := 52) (x := a0) (v := v52) hz dX1_greatestLikeWays_52 fl_X1_20 rfl hv52 ?_
      obtain ⟨v55, hv55, h⟩ := Option.bind_eq_some_iff.mp h
      refine RT.alen 1 (pc := 55) (x := v52) (v := v55) dX1_greatestLikeWays_55 ⟨by decide, by decide⟩ (rt_ltl hz (by decide) (by decide) hv55) hv55 ?_
      refine RT.icmp_ge (pc := 56) (tgt := 88) dX1_greatestLikeWays_56 rfl (fun q56 => ?_) (fun q56 => ?_)
      · rw [if_pos q56] at h
        refine RT.wk (L1 := [(2, a0), (0, a1), (0, s.1), (0, s.2.1), (9, 0)]) (rt_le_s (rt_le_s (rt_le_s (rt_le_s (rt_le_j rt_le_n))))) ?_
        exact cj_X1_greatestLikeWays_88_28 hz hd ht a1 s.1 s.2.1 s.2.2 _ h hK
      · rw [if_neg q56] at h
        refine RT.aload_n (pc := 59) (k := 0) (x := a0) dX1_greatestLikeWays_59 rfl ?_
        obtain ⟨v60, hv60, h⟩ := Option.bind_eq_some_iff.mp h
        refine RT.gf 1 4 2 (pc := 60) (x := a0) (v := v60) hz dX1_greatestLikeWays_60 fl_X1_20 rfl hv60 ?_
        refine RT.iload (pc := 63) (k := 4) (x := p39) dX1_greatestLikeWays_63 rfl ?_
        refine RT.dup2 (pc := 65) dX1_greatestLikeWays_65 (show ¬ ((0 : Nat) = 1) by decide) (show ¬ ((2 : Nat) = 1) by decide) ?_
        obtain ⟨v66, hv66, h⟩ := Option.bind_eq_some_iff.mp h
        refine RT.iald (pc := 66) (x := v60) (i := p39) (v := v66) dX1_greatestLikeWays_66 (rt_lta hz (by decide) (by decide) hv66) hv66 ?_
        refine RT.aload_n (pc := 67) (k := 0) (x := a0) dX1_greatestLikeWays_67 rfl ?_
        refine RT.iconst (pc := 68) (n := 1) dX1_greatestLikeWays_68 ⟨by decide, by decide⟩ ?_
        refine RT.iload_n (pc := 69) (k := 3) (x := s.2.1) dX1_greatestLikeWays_69 rfl ?_
        refine RT.ishl (pc := 70) dX1_greatestLikeWays_70 ?_
        obtain ⟨p71, hp71, h⟩ := Option.bind_eq_some_iff.mp h
        refine RT.cVz (pc := 71) (M' := M_X1_waysWithout) (ci := 1) (x := a0) (As := [(0, (rt_ishl 1 s.2.1))]) (st := [(0, v66), (0, p39), (2, v60)]) (r := some (0, p71)) (mem1 := s.2.2) (d' := d - 1) hz dX1_greatestLikeWays_71 mw_X1_waysWithout ml_X1_59 mi_X1_waysWithout ht rfl rfl (Nat.le_of_ble_eq_true rfl) (Nat.le_of_ble_eq_true rfl) (by omega) rfl rfl (c_X1_waysWithout hz (by omega) a0 ((rt_ishl 1 s.2.1)) s.2.2 _ ht hp71) ?_
        refine RT.iadd (pc := 74) dX1_greatestLikeWays_74 ?_
        obtain ⟨m75, hm75, h⟩ := Option.bind_eq_some_iff.mp h
        refine RT.iast (pc := 75) (x := v60) (i := p39) (v := (rt_iadd v66 p71)) (mem1 := m75) dX1_greatestLikeWays_75 (rt_lts hz (by decide) (by decide) hm75) hm75 ?_
        refine RT.iload_n (pc := 76) (k := 2) (x := s.1) dX1_greatestLikeWays_76 rfl ?_
        refine RT.aload_n (pc := 77) (k := 0) (x := a0) dX1_greatestLikeWays_77 rfl ?_
        obtain ⟨v78, hv78, h⟩ := Option.bind_eq_some_iff.mp h
        refine RT.gf 1 4 2 (pc := 78) (x := a0) (v := v78) hz dX1_greatestLikeWays_78 fl_X1_20 rfl hv78 ?_
        refine RT.iload (pc := 81) (k := 4) (x := p39) dX1_greatestLikeWays_81 rfl ?_
        obtain ⟨v83, hv83, h⟩ := Option.bind_eq_some_iff.mp h
        refine RT.iald (pc := 83) (x := v78) (i := p39) (v := v83) dX1_greatestLikeWays_83 (rt_lta hz (by decide) (by decide) hv83) hv83 ?_
        obtain ⟨p84, hp84, h⟩ := Option.bind_eq_some_iff.mp h
        refine RT.cSz (pc := 84) (M' := M_J9_max_7cf53) (As := [(0, s.1), (0, v83)]) (st := []) (r := some (0, p84)) (mem1 := m75) (d' := d - 1) dX1_greatestLikeWays_84 mw_J9_max_7cf53 ml_X1_62 mi_J9_max_7cf53 rfl rfl (Nat.le_of_ble_eq_true rfl) (Nat.le_of_ble_eq_true rfl) (by omega) rfl rfl (c_J9_max_7cf53 hz (by omega) s.1 v83 m75 _ hp84) ?_
        refine RT.istore_n (pc := 87) (k := 2) (x := p84) (L1 := [(2, a0), (0, a1), (0, p84), (0, s.2.1), (0, p39)]) dX1_greatestLikeWays_87 (Nat.le_of_ble_eq_true rfl) rfl ?_
        refine RT.wk (L1 := [(2, a0), (0, a1), (0, p84), (0, s.2.1), (9, 0)]) (rt_le_s (rt_le_s (rt_le_s (rt_le_s (rt_le_j rt_le_n))))) ?_
        exact cj_X1_greatestLikeWays_88_28 hz hd ht a1 p84 s.2.1 m75 _ h hK
theorem c_X1_greatestLikeWays {G : rt_G} {d : Nat} {z : Nat × Nat} (hz : 300 ≤ z.1) (hd : 1 ≤ d) (a0 : Int) (a1 : Int) (mem0 : rt_M) (t : Int × rt_M) (ht : rt_kd a0.toNat = 20 + 1) (h : f_X1_greatestLikeWays a0 a1 mem0 = some t) : RM G M_X1_greatestLikeWays d [(2, a0), (0, a1)] z mem0 (some (0, t.1)) t.2 := by
  suffices H : ∀ Q : rt_P, Q (some (0, t.1)) z t.2 → RT G M_X1_greatestLikeWays d z Q 0 [(2, a0), (0, a1), (9, 0), (9, 0), (9, 0)] [] z mem0 from H _ ⟨rfl, rfl, rfl⟩
  intro Q hK
  unfold f_X1_greatestLikeWays at h
  refine RT.iconst (pc := 0) (n := 0) dX1_greatestLikeWays_0 ⟨by decide, by decide⟩ ?_
  refine RT.istore_n (pc := 1) (k := 2) (x := 0) (L1 := [(2, a0), (0, a1), (0, 0), (9, 0), (9, 0)]) dX1_greatestLikeWays_1 (Nat.le_of_ble_eq_true rfl) rfl ?_
  obtain ⟨X2, hX2, h⟩ := Option.bind_eq_some_iff.mp h
  refine rt_it_ind (P := (fun s1 : Int × rt_M => RT G M_X1_greatestLikeWays d z Q 2 [(2, a0), (0, a1), (0, s1.1), (9, 0), (9, 0)] [] z s1.2)) (X := (fun x1 : rt_M => RT G M_X1_greatestLikeWays d z Q 24 [(2, a0), (0, a1), (9, 0), (9, 0), (9, 0)] [] z x1)) (fun s1 t1 h1 k1 k2 => cb_X1_greatestLikeWays_2 hz hd ht a1 s1 t1 h1 ⟨k1, k2⟩) 4000 ((0, mem0)) X2 hX2 ?_
  refine RT.iconst (pc := 24) (n := 0) dX1_greatestLikeWays_24 ⟨by decide, by decide⟩ ?_
  refine RT.istore_n (pc := 25) (k := 2) (x := 0) (L1 := [(2, a0), (0, a1), (0, 0), (9, 0), (9, 0)]) dX1_greatestLikeWays_25 (Nat.le_of_ble_eq_true rfl) rfl ?_
  refine RT.iconst (pc := 26) (n := 0) dX1_greatestLikeWays_26 ⟨by decide, by decide⟩ ?_
  refine RT.istore_n (pc := 27) (k := 3) (x := 0) (L1 := [(2, a0), (0, a1), (0, 0), (0, 0), (9, 0)]) dX1_greatestLikeWays_27 (Nat.le_of_ble_eq_true rfl) rfl ?_
  obtain ⟨X28, hX28, h⟩ := Option.bind_eq_some_iff.mp h
  refine rt_it_ind (P := (fun s1 : Int × Int × rt_M => RT G M_X1_greatestLikeWays d z Q 28 [(2, a0), (0, a1), (0, s1.1), (0, s1.2.1), (9, 0)] [] z s1.2.2)) (X := (fun x1 : Int × rt_M => RT G M_X1_greatestLikeWays d z Q 94 [(9, 0), (9, 0), (0, x1.1), (9, 0), (9, 0)] [] z x1.2)) (fun s1 t1 h1 k1 k2 => cb_X1_greatestLikeWays_28 hz hd ht a1 s1 t1 h1 ⟨k1, k2⟩) 4000 ((0, 0, X2)) X28 hX28 ?_
  refine RT.iload_n (pc := 94) (k := 2) (x := X28.1) dX1_greatestLikeWays_94 rfl ?_
  obtain rfl := Option.some.inj h
  exact RT.iret (pc := 95) dX1_greatestLikeWays_95 rfl (Nat.le_of_eq (rt_cells_0 z)) (Nat.le_of_eq (rt_slots_0 z)) hK
theorem cb_X1_wigKeeping_2 {G : rt_G} {d : Nat} {z : Nat × Nat} {Q : rt_P} (hz : 300 ≤ z.1) (hd : 0 ≤ d) {a0 : Int} (ht : rt_kd a0.toNat = 20 + 1) (a1 : Int) (mem0 : rt_M) (s : Int) (t : (Int) ⊕ ((Unit) ⊕ (Int))) (h : b_X1_wigKeeping_2 a0 a1 mem0 s = some t) (hK : (∀ s1 : Int, t = .inl s1 → RT G M_X1_wigKeeping d z Q 2 [(2, a0), (0, a1), (0, s1)] [] z mem0) ∧ (∀ x1 : Unit, t = .inr (.inl x1) → RT G M_X1_wigKeeping d z Q 28 [(9, 0), (9, 0), (9, 0)] [] z mem0) ∧ (∀ t1 : Int, t = .inr (.inr t1) → Q (some (0, t1)) z mem0)) : RT G M_X1_wigKeeping d z Q 2 [(2, a0), (0, a1), (0, s)] [] z mem0 := by
  unfold b_X1_wigKeeping_2 at h
  refine RT.iload_n (pc := 2) (k := 2) (x := s) dX1_wigKeeping_2 rfl ?_
  refine RT.aload_n (pc := 3) (k := 0) (x := a0) dX1_wigKeeping_3 rfl ?_
  obtain ⟨v4, hv4, h⟩ := Option.bind_eq_some_iff.mp h
  refine RT.gf 1 0 0 (pc := 4) (x := a0) (v := v4) hz dX1_wigKeeping_4 fl_X1_35 rfl hv4 ?_
  refine RT.icmp_ge (pc := 7) (tgt := 28) dX1_wigKeeping_7 rfl (fun q7 => ?_) (fun q7 => ?_)
  · rw [if_pos q7] at h
    refine RT.wk (L1 := [(9, 0), (9, 0), (9, 0)]) (rt_le_j (rt_le_j (rt_le_j rt_le_n))) ?_
    obtain rfl := Option.some.inj h
    have q1 := hK.2.1 () rfl
    try dsimp only at q1
    exact q1
  · rw [if_neg q7] at h
    refine RT.aload_n (pc := 10) (k := 0) (x := a0) dX1_wigKeeping_10 rfl ?_
    obtain ⟨v11, hv11, h⟩ := Option.bind_eq_some_iff.mp h
    refine RT.gf 1 5 2 (pc := 11) (x := a0) (v := v11) hz dX1_wigKeeping_11 fl_X1_23 rfl hv11 ?_
    refine RT.iload_n (pc := 14) (k := 2) (x := s) dX1_wigKeeping_14 rfl ?_
    obtain ⟨v15, hv15, h⟩ := Option.bind_eq_some_iff.mp h
    refine RT.iald (pc := 15) (x := v11) (i := s) (v := v15) dX1_wigKeeping_15 (rt_lta hz (by decide) (by decide) hv15) hv15 ?_
    refine RT.iload_n (pc := 16) (k := 1) (x := a1) dX1_wigKeeping_16 rfl ?_
    refine RT.icmp_ne (pc := 17) (tgt := 22) dX1_wigKeeping_17 rfl (fun q17 => ?_) (fun q17 => ?_)
    · rw [if_neg q17] at h
      refine RT.iinc (pc := 22) (x := s) (L1 := [(2, a0), (0, a1), (0, (rt_iadd s 1))]) dX1_wigKeeping_22 rfl (Nat.le_of_ble_eq_true rfl) ⟨by decide, by decide⟩ rfl ?_
      refine RT.goto (pc := 25) (tgt := 2) dX1_wigKeeping_25 rfl ?_
      obtain rfl := Option.some.inj h
      have q1 := hK.1 ((rt_iadd s 1)) rfl
      try dsimp only at q1
      exact q1
    · rw [if_pos (Classical.not_not.mp q17)] at h
      obtain ⟨t2, g2, e2⟩ := Option.map_eq_some_iff.mp h
      subst e2
      replace h := g2
      replace hK := hK.2.2 t2 rfl
      refine RT.iload_n (pc := 20) (k := 2) (x := s) dX1_wigKeeping_20 rfl ?_
      obtain rfl := Option.some.inj h
      exact RT.iret (pc := 21) dX1_wigKeeping_21 rfl (Nat.le_of_eq (rt_cells_0 z)) (Nat.le_of_eq (rt_slots_0 z)) hK
theorem c_X1_wigKeeping {G : rt_G} {d : Nat} {z : Nat × Nat} (hz : 300 ≤ z.1) (hd : 0 ≤ d) (a0 : Int) (a1 : Int) (mem0 : rt_M) (t : Int) (ht : rt_kd a0.toNat = 20 + 1) (h : f_X1_wigKeeping a0 a1 mem0 = some t) : RM G M_X1_wigKeeping d [(2, a0), (0, a1)] z mem0 (some (0, t)) mem0 := by
  suffices H : ∀ Q : rt_P, Q (some (0, t)) z mem0 → RT G M_X1_wigKeeping d z Q 0 [(2, a0), (0, a1), (9, 0)] [] z mem0 from H _ ⟨rfl, rfl, rfl⟩
  intro Q hK
  unfold f_X1_wigKeeping at h
  refine RT.iconst (pc := 0) (n := 0) dX1_wigKeeping_0 ⟨by decide, by decide⟩ ?_
  refine RT.istore_n (pc := 1) (k := 2) (x := 0) (L1 := [(2, a0), (0, a1), (0, 0)]) dX1_wigKeeping_1 (Nat.le_of_ble_eq_true rfl) rfl ?_
  obtain ⟨E2, hE2, h⟩ := Option.bind_eq_some_iff.mp h
  refine rt_it_ind (P := (fun s1 : Int => RT G M_X1_wigKeeping d z Q 2 [(2, a0), (0, a1), (0, s1)] [] z mem0)) (X := (fun e1 : (Unit) ⊕ (Int) => (∀ x1 : Unit, e1 = .inl x1 → RT G M_X1_wigKeeping d z Q 28 [(9, 0), (9, 0), (9, 0)] [] z mem0) ∧ (∀ t1 : Int, e1 = .inr t1 → Q (some (0, t1)) z mem0))) (fun s1 t1 h1 k1 k2 => cb_X1_wigKeeping_2 hz hd ht a1 mem0 s1 t1 h1 ⟨k1, fun x1 q => (k2 _ q).1 x1 rfl, fun t2 q => (k2 _ q).2 t2 rfl⟩) 4000 0 E2 hE2 ?_
  cases E2 with
  | inr t1 =>
    obtain rfl := Option.some.inj h
    exact ⟨fun x1 q => (by cases q), fun t2 q => (by cases q; exact hK)⟩
  | inl X2 =>
    refine ⟨fun x1 q => ?_, fun t2 q => (by cases q)⟩
    cases q
    refine RT.iconst (pc := 28) (n := (-1)) dX1_wigKeeping_28 ⟨by decide, by decide⟩ ?_
    obtain rfl := Option.some.inj h
    exact RT.iret (pc := 29) dX1_wigKeeping_29 rfl (Nat.le_of_eq (rt_cells_0 z)) (Nat.le_of_eq (rt_slots_0 z)) hK
theorem c_X4_officeOf {G : rt_G} {d : Nat} {z : Nat × Nat} (hz : 300 ≤ z.1) (hd : 2 ≤ d) (a0 : Int) (a1 : Int) (mem0 : rt_M) (t : Int) (ht : rt_kd a0.toNat = 20 + 4) (h : f_X4_officeOf a0 a1 mem0 = some t) : RM G M_X4_officeOf d [(2, a0), (0, a1)] z mem0 (some (0, t)) mem0 := by
  suffices H : ∀ Q : rt_P, Q (some (0, t)) z mem0 → RT G M_X4_officeOf d z Q 0 [(2, a0), (0, a1)] [] z mem0 from H _ ⟨rfl, rfl, rfl⟩
  intro Q hK
  unfold f_X4_officeOf at h
  refine RT.aload_n (pc := 0) (k := 0) (x := a0) dX4_officeOf_0 rfl ?_
  refine RT.iload_n (pc := 1) (k := 1) (x := a1) dX4_officeOf_1 rfl ?_
  refine RT.iconst (pc := 2) (n := 1) dX4_officeOf_2 ⟨by decide, by decide⟩ ?_
  obtain ⟨p3, hp3, h⟩ := Option.bind_eq_some_iff.mp h
  refine RT.cVz (pc := 3) (M' := M_X4_ofWig) (ci := 4) (x := a0) (As := [(0, a1), (0, 1)]) (st := []) (r := some (0, p3)) (mem1 := mem0) (d' := d - 1) hz dX4_officeOf_3 mw_X4_ofWig ml_X4_94 mi_X4_ofWig ht rfl rfl (Nat.le_of_ble_eq_true rfl) (Nat.le_of_ble_eq_true rfl) (by omega) rfl rfl (c_X4_ofWig hz (by omega) a0 a1 1 mem0 _ ht hp3) ?_
  obtain rfl := Option.some.inj h
  exact RT.iret (pc := 6) dX4_officeOf_6 rfl (Nat.le_of_eq (rt_cells_0 z)) (Nat.le_of_eq (rt_slots_0 z)) hK
theorem cj_X1_askNext_63_5 {G : rt_G} {d : Nat} {z : Nat × Nat} {Q : rt_P} (hz : 300 ≤ z.1) (hd : 3 ≤ d) {a0 : Int} (ht : rt_kd a0.toNat = 20 + 1) (a1 : Int) (a2 : Int) (a3 : Int) (a4 : Int) (mem0 : rt_M) (t : (Int × Int × rt_M) ⊕ (Int × rt_M)) (h : j_X1_askNext_63_5 a0 a1 a2 a3 a4 mem0 = some t) (hK : (∀ s1 : Int × Int × rt_M, t = .inl s1 → RT G M_X1_askNext d z Q 5 [(2, a0), (2, a1), (0, a2), (0, s1.1), (0, s1.2.1)] [] z s1.2.2) ∧ (∀ x1 : Int × rt_M, t = .inr x1 → RT G M_X1_askNext d z Q 69 [(2, a0), (9, 0), (0, a2), (0, x1.1), (9, 0)] [] z x1.2)) : RT G M_X1_askNext d z Q 63 [(2, a0), (2, a1), (0, a2), (0, a3), (0, a4)] [] z mem0 := by
  unfold j_X1_askNext_63_5 at h
  refine RT.iinc (pc := 63) (x := a4) (L1 := [(2, a0), (2, a1), (0, a2), (0, a3), (0, (rt_iadd a4 1))]) dX1_askNext_63 rfl (Nat.le_of_ble_eq_true rfl) ⟨by decide, by decide⟩ rfl ?_
  refine RT.goto (pc := 66) (tgt := 5) dX1_askNext_66 rfl ?_
  obtain rfl := Option.some.inj h
  have q1 := hK.1 ((a3, (rt_iadd a4 1), mem0)) rfl
  try dsimp only at q1
  exact q1
theorem cj_X1_askNext_60_5 {G : rt_G} {d : Nat} {z : Nat × Nat} {Q : rt_P} (hz : 300 ≤ z.1) (hd : 3 ≤ d) {a0 : Int} (ht : rt_kd a0.toNat = 20 + 1) (a1 : Int) (a2 : Int) (a4 : Int) (mem0 : rt_M) (t : (Int × Int × rt_M) ⊕ (Int × rt_M)) (h : j_X1_askNext_60_5 a0 a1 a2 a4 mem0 = some t) (hK : (∀ s1 : Int × Int × rt_M, t = .inl s1 → RT G M_X1_askNext d z Q 5 [(2, a0), (2, a1), (0, a2), (0, s1.1), (0, s1.2.1)] [] z s1.2.2) ∧ (∀ x1 : Int × rt_M, t = .inr x1 → RT G M_X1_askNext d z Q 69 [(2, a0), (9, 0), (0, a2), (0, x1.1), (9, 0)] [] z x1.2)) : RT G M_X1_askNext d z Q 60 [(2, a0), (2, a1), (0, a2), (9, 0), (0, a4)] [] z mem0 := by
  unfold j_X1_askNext_60_5 at h
  refine RT.iload (pc := 60) (k := 4) (x := a4) dX1_askNext_60 rfl ?_
  refine RT.istore_n (pc := 62) (k := 3) (x := a4) (L1 := [(2, a0), (2, a1), (0, a2), (0, a4), (0, a4)]) dX1_askNext_62 (Nat.le_of_ble_eq_true rfl) rfl ?_
  exact cj_X1_askNext_63_5 hz hd ht a1 a2 a4 a4 mem0 _ h hK
theorem cb_X1_askNext_5 {G : rt_G} {d : Nat} {z : Nat × Nat} {Q : rt_P} (hz : 300 ≤ z.1) (hd : 3 ≤ d) {a0 : Int} (ht : rt_kd a0.toNat = 20 + 1) (a1 : Int) (a2 : Int) (s : Int × Int × rt_M) (t : (Int × Int × rt_M) ⊕ (Int × rt_M)) (h : b_X1_askNext_5 a0 a1 a2 s = some t) (hK : (∀ s1 : Int × Int × rt_M, t = .inl s1 → RT G M_X1_askNext d z Q 5 [(2, a0), (2, a1), (0, a2), (0, s1.1), (0, s1.2.1)] [] z s1.2.2) ∧ (∀ x1 : Int × rt_M, t = .inr x1 → RT G M_X1_askNext d z Q 69 [(2, a0), (9, 0), (0, a2), (0, x1.1), (9, 0)] [] z x1.2)) : RT G M_X1_askNext d z Q 5 [(2, a0), (2, a1), (0, a2), (0, s.1), (0, s.2.1)] [] z s.2.2 := by
  unfold b_X1_askNext_5 at h
  refine RT.iload (pc := 5) (k := 4) (x := s.2.1) dX1_askNext_5 rfl ?_
  refine RT.aload_n (pc := 7) (k := 0) (x := a0) dX1_askNext_7 rfl ?_
  obtain ⟨v8, hv8, h⟩ := Option.bind_eq_some_iff.mp h
  refine RT.gf 1 0 0 (pc := 8) (x := a0) (v := v8) hz dX1_askNext_8 fl_X1_35 rfl hv8 ?_
  refine RT.icmp_ge (pc := 11) (tgt := 69) dX1_askNext_11 rfl (fun q11 => ?_) (fun q11 => ?_)
  · rw [if_pos q11] at h
    refine RT.wk (L1 := [(2, a0), (9, 0), (0, a2), (0, s.1), (9, 0)]) (rt_le_s (rt_le_j (rt_le_s (rt_le_s (rt_le_j rt_le_n))))) ?_
    obtain rfl := Option.some.inj h
    have q1 := hK.2 ((s.1, s.2.2)) rfl
    try dsimp only at q1
    exact q1
  · rw [if_neg q11] at h
    refine RT.aload_n (pc := 14) (k := 0) (x := a0) dX1_askNext_14 rfl ?_
    obtain ⟨v15, hv15, h⟩ := Option.bind_eq_some_iff.mp h
    refine RT.gf 1 6 2 (pc := 15) (x := a0) (v := v15) hz dX1_askNext_15 fl_X1_26 rfl hv15 ?_
    refine RT.iload_n (pc := 18) (k := 2) (x := a2) dX1_askNext_18 rfl ?_
    obtain ⟨v19, hv19, h⟩ := Option.bind_eq_some_iff.mp h
    refine RT.iald (pc := 19) (x := v15) (i := a2) (v := v19) dX1_askNext_19 (rt_lta hz (by decide) (by decide) hv19) hv19 ?_
    refine RT.iload (pc := 20) (k := 4) (x := s.2.1) dX1_askNext_20 rfl ?_
    refine RT.ishr (pc := 22) dX1_askNext_22 ?_
    refine RT.iconst (pc := 23) (n := 1) dX1_askNext_23 ⟨by decide, by decide⟩ ?_
    refine RT.iand (pc := 24) dX1_askNext_24 ?_
    refine RT.if_ne (pc := 25) (tgt := 63) dX1_askNext_25 rfl (fun q25 => ?_) (fun q25 => ?_)
    · rw [if_neg q25] at h
      exact cj_X1_askNext_63_5 hz hd ht a1 a2 s.1 s.2.1 s.2.2 _ h hK
    · rw [if_pos (Classical.not_not.mp q25)] at h
      refine RT.aload_n (pc := 28) (k := 0) (x := a0) dX1_askNext_28 rfl ?_
      obtain ⟨v29, hv29, h⟩ := Option.bind_eq_some_iff.mp h
      refine RT.gf 1 2 2 (pc := 29) (x := a0) (v := v29) hz dX1_askNext_29 fl_X1_11 rfl hv29 ?_
      refine RT.iload (pc := 32) (k := 4) (x := s.2.1) dX1_askNext_32 rfl ?_
      obtain ⟨v34, hv34, h⟩ := Option.bind_eq_some_iff.mp h
      refine RT.aald6 (pc := 34) (x := v29) (i := s.2.1) (v := v34) dX1_askNext_34 (rt_lta hz (by decide) (by decide) hv34) hv34 ?_
      refine RT.iload_n (pc := 35) (k := 2) (x := a2) dX1_askNext_35 rfl ?_
      obtain ⟨v36, hv36, h⟩ := Option.bind_eq_some_iff.mp h
      refine RT.iald (pc := 36) (x := v34) (i := a2) (v := v36) dX1_askNext_36 (rt_lta hz (by decide) (by decide) hv36) hv36 ?_
      refine RT.iconst (pc := 37) (n := (-1)) dX1_askNext_37 ⟨by decide, by decide⟩ ?_
      refine RT.icmp_eq (pc := 38) (tgt := 63) dX1_askNext_38 rfl (fun q38 => ?_) (fun q38 => ?_)
      · rw [if_pos q38] at h
        exact cj_X1_askNext_63_5 hz hd ht a1 a2 s.1 s.2.1 s.2.2 _ h hK
      · rw [if_neg q38] at h
        refine RT.iload_n (pc := 41) (k := 3) (x := s.1) dX1_askNext_41 rfl ?_
        refine RT.iconst (pc := 42) (n := (-1)) dX1_askNext_42 ⟨by decide, by decide⟩ ?_
        refine RT.icmp_eq (pc := 43) (tgt := 60) dX1_askNext_43 rfl (fun q43 => ?_) (fun q43 => ?_)
        · rw [if_pos q43] at h
          refine RT.wk (L1 := [(2, a0), (2, a1), (0, a2), (9, 0), (0, s.2.1)]) (rt_le_s (rt_le_s (rt_le_s (rt_le_j (rt_le_s rt_le_n))))) ?_
          exact cj_X1_askNext_60_5 hz hd ht a1 a2 s.2.1 s.2.2 _ h hK
        · rw [if_neg q43] at h
          refine RT.aload_n (pc := 46) (k := 1) (x := a1) dX1_askNext_46 rfl ?_
          refine RT.iload (pc := 47) (k := 4) (x := s.2.1) dX1_askNext_47 rfl ?_
          obtain ⟨p49, hp49, h⟩ := Option.bind_eq_some_iff.mp h
          obtain ⟨hk49, hp49⟩ := rt_gd_some hp49
          refine RT.cVz (pc := 49) (M' := M_X4_officeOf) (ci := 4) (x := a1) (As := [(0, s.2.1)]) (st := []) (r := some (0, p49)) (mem1 := s.2.2) (d' := d - 1) hz dX1_askNext_49 mw_X4_officeOf ml_X1_74 mi_X4_officeOf hk49 rfl rfl (Nat.le_of_ble_eq_true rfl) (Nat.le_of_ble_eq_true rfl) (by omega) rfl rfl (c_X4_officeOf hz (by omega) a1 s.2.1 s.2.2 _ hk49 hp49) ?_
          refine RT.aload_n (pc := 52) (k := 1) (x := a1) dX1_askNext_52 rfl ?_
          refine RT.iload_n (pc := 53) (k := 3) (x := s.1) dX1_askNext_53 rfl ?_
          obtain ⟨p54, hp54, h⟩ := Option.bind_eq_some_iff.mp h
          obtain ⟨hk54, hp54⟩ := rt_gd_some hp54
          refine RT.cVz (pc := 54) (M' := M_X4_officeOf) (ci := 4) (x := a1) (As := [(0, s.1)]) (st := [(0, p49)]) (r := some (0, p54)) (mem1 := s.2.2) (d' := d - 1) hz dX1_askNext_54 mw_X4_officeOf ml_X1_74 mi_X4_officeOf hk54 rfl rfl (Nat.le_of_ble_eq_true rfl) (Nat.le_of_ble_eq_true rfl) (by omega) rfl rfl (c_X4_officeOf hz (by omega) a1 s.1 s.2.2 _ hk54 hp54) ?_
          refine RT.icmp_le (pc := 57) (tgt := 63) dX1_askNext_57 rfl (fun q57 => ?_) (fun q57 => ?_)
          · rw [if_pos q57] at h
            exact cj_X1_askNext_63_5 hz hd ht a1 a2 s.1 s.2.1 s.2.2 _ h hK
          · rw [if_neg q57] at h
            refine RT.wk (L1 := [(2, a0), (2, a1), (0, a2), (9, 0), (0, s.2.1)]) (rt_le_s (rt_le_s (rt_le_s (rt_le_j (rt_le_s rt_le_n))))) ?_
            exact cj_X1_askNext_60_5 hz hd ht a1 a2 s.2.1 s.2.2 _ h hK
theorem cj_X1_askNext_154 {G : rt_G} {d : Nat} {z : Nat × Nat} {Q : rt_P} (hz : 300 ≤ z.1) (hd : 3 ≤ d) {a0 : Int} (ht : rt_kd a0.toNat = 20 + 1) (mem0 : rt_M) (t : rt_M) (h : j_X1_askNext_154 mem0 = some t) (hK : Q none z t) : RT G M_X1_askNext d z Q 154 [(9, 0), (9, 0), (9, 0), (9, 0), (9, 0)] [] z mem0 := by
  unfold j_X1_askNext_154 at h
  obtain rfl := Option.some.inj h
  exact RT.vret (pc := 154) dX1_askNext_154 rfl (Nat.le_of_eq (rt_cells_0 z)) (Nat.le_of_eq (rt_slots_0 z)) hK
theorem cj_X1_askNext_147 {G : rt_G} {d : Nat} {z : Nat × Nat} {Q : rt_P} (hz : 300 ≤ z.1) (hd : 3 ≤ d) {a0 : Int} (ht : rt_kd a0.toNat = 20 + 1) (a2 : Int) (a3 : Int) (mem0 : rt_M) (t : rt_M) (h : j_X1_askNext_147 a0 a2 a3 mem0 = some t) (hK : Q none z t) : RT G M_X1_askNext d z Q 147 [(2, a0), (9, 0), (0, a2), (0, a3), (9, 0)] [] z mem0 := by
  unfold j_X1_askNext_147 at h
  refine RT.aload_n (pc := 147) (k := 0) (x := a0) dX1_askNext_147 rfl ?_
  obtain ⟨v148, hv148, h⟩ := Option.bind_eq_some_iff.mp h
  refine RT.gf 1 5 2 (pc := 148) (x := a0) (v := v148) hz dX1_askNext_148 fl_X1_23 rfl hv148 ?_
  refine RT.iload_n (pc := 151) (k := 3) (x := a3) dX1_askNext_151 rfl ?_
  refine RT.iload_n (pc := 152) (k := 2) (x := a2) dX1_askNext_152 rfl ?_
  obtain ⟨m153, hm153, h⟩ := Option.bind_eq_some_iff.mp h
  refine RT.iast (pc := 153) (x := v148) (i := a3) (v := a2) (mem1 := m153) dX1_askNext_153 (rt_lts hz (by decide) (by decide) hm153) hm153 ?_
  refine RT.wk (L1 := [(9, 0), (9, 0), (9, 0), (9, 0), (9, 0)]) (rt_le_j (rt_le_s (rt_le_j (rt_le_j (rt_le_s rt_le_n))))) ?_
  exact cj_X1_askNext_154 hz hd ht m153 _ h hK
theorem c_X1_askNext {G : rt_G} {d : Nat} {z : Nat × Nat} (hz : 300 ≤ z.1) (hd : 3 ≤ d) (a0 : Int) (a1 : Int) (a2 : Int) (mem0 : rt_M) (t : rt_M) (ht : rt_kd a0.toNat = 20 + 1) (h : f_X1_askNext a0 a1 a2 mem0 = some t) : RM G M_X1_askNext d [(2, a0), (2, a1), (0, a2)] z mem0 none t := by
  suffices H : ∀ Q : rt_P, Q none z t → RT G M_X1_askNext d z Q 0 [(2, a0), (2, a1), (0, a2), (9, 0), (9, 0)] [] z mem0 from H _ ⟨rfl, rfl, rfl⟩
  intro Q hK
  unfold f_X1_askNext at h
  refine RT.iconst (pc := 0) (n := (-1)) dX1_askNext_0 ⟨by decide, by decide⟩ ?_
  refine RT.istore_n (pc := 1) (k := 3) (x := (-1)) (L1 := [(2, a0), (2, a1), (0, a2), (0, (-1)), (9, 0)]) dX1_askNext_1 (Nat.le_of_ble_eq_true rfl) rfl ?_
  refine RT.iconst (pc := 2) (n := 0) dX1_askNext_2 ⟨by decide, by decide⟩ ?_
  refine RT.istore (pc := 3) (k := 4) (x := 0) (L1 := [(2, a0), (2, a1), (0, a2), (0, (-1)), (0, 0)]) dX1_askNext_3 (Nat.le_of_ble_eq_true rfl) rfl ?_
  obtain ⟨X5, hX5, h⟩ := Option.bind_eq_some_iff.mp h
  refine rt_it_ind (P := (fun s1 : Int × Int × rt_M => RT G M_X1_askNext d z Q 5 [(2, a0), (2, a1), (0, a2), (0, s1.1), (0, s1.2.1)] [] z s1.2.2)) (X := (fun x1 : Int × rt_M => RT G M_X1_askNext d z Q 69 [(2, a0), (9, 0), (0, a2), (0, x1.1), (9, 0)] [] z x1.2)) (fun s1 t1 h1 k1 k2 => cb_X1_askNext_5 hz hd ht a1 a2 s1 t1 h1 ⟨k1, k2⟩) 4000 (((-1), 0, mem0)) X5 hX5 ?_
  refine RT.iload_n (pc := 69) (k := 3) (x := X5.1) dX1_askNext_69 rfl ?_
  refine RT.iconst (pc := 70) (n := (-1)) dX1_askNext_70 ⟨by decide, by decide⟩ ?_
  refine RT.icmp_ne (pc := 71) (tgt := 75) dX1_askNext_71 rfl (fun q71 => ?_) (fun q71 => ?_)
  · rw [if_neg q71] at h
    refine RT.aload_n (pc := 75) (k := 0) (x := a0) dX1_askNext_75 rfl ?_
    obtain ⟨v76, hv76, h⟩ := Option.bind_eq_some_iff.mp h
    refine RT.gf 1 6 2 (pc := 76) (x := a0) (v := v76) hz dX1_askNext_76 fl_X1_26 rfl hv76 ?_
    refine RT.iload_n (pc := 79) (k := 2) (x := a2) dX1_askNext_79 rfl ?_
    refine RT.dup2 (pc := 80) dX1_askNext_80 (show ¬ ((0 : Nat) = 1) by decide) (show ¬ ((2 : Nat) = 1) by decide) ?_
    obtain ⟨v81, hv81, h⟩ := Option.bind_eq_some_iff.mp h
    refine RT.iald (pc := 81) (x := v76) (i := a2) (v := v81) dX1_askNext_81 (rt_lta hz (by decide) (by decide) hv81) hv81 ?_
    refine RT.iconst (pc := 82) (n := 1) dX1_askNext_82 ⟨by decide, by decide⟩ ?_
    refine RT.iload_n (pc := 83) (k := 3) (x := X5.1) dX1_askNext_83 rfl ?_
    refine RT.ishl (pc := 84) dX1_askNext_84 ?_
    refine RT.ior (pc := 85) dX1_askNext_85 ?_
    obtain ⟨m86, hm86, h⟩ := Option.bind_eq_some_iff.mp h
    refine RT.iast (pc := 86) (x := v76) (i := a2) (v := (rt_ior v81 (rt_ishl 1 X5.1))) (mem1 := m86) dX1_askNext_86 (rt_lts hz (by decide) (by decide) hm86) hm86 ?_
    refine RT.aload_n (pc := 87) (k := 0) (x := a0) dX1_askNext_87 rfl ?_
    obtain ⟨v88, hv88, h⟩ := Option.bind_eq_some_iff.mp h
    refine RT.gf 1 5 2 (pc := 88) (x := a0) (v := v88) hz dX1_askNext_88 fl_X1_23 rfl hv88 ?_
    refine RT.iload_n (pc := 91) (k := 3) (x := X5.1) dX1_askNext_91 rfl ?_
    obtain ⟨v92, hv92, h⟩ := Option.bind_eq_some_iff.mp h
    refine RT.iald (pc := 92) (x := v88) (i := X5.1) (v := v92) dX1_askNext_92 (rt_lta hz (by decide) (by decide) hv92) hv92 ?_
    refine RT.istore (pc := 93) (k := 4) (x := v92) (L1 := [(2, a0), (9, 0), (0, a2), (0, X5.1), (0, v92)]) dX1_askNext_93 (Nat.le_of_ble_eq_true rfl) rfl ?_
    refine RT.iload (pc := 95) (k := 4) (x := v92) dX1_askNext_95 rfl ?_
    refine RT.iconst (pc := 97) (n := (-1)) dX1_askNext_97 ⟨by decide, by decide⟩ ?_
    refine RT.icmp_eq (pc := 98) (tgt := 147) dX1_askNext_98 rfl (fun q98 => ?_) (fun q98 => ?_)
    · rw [if_pos q98] at h
      refine RT.wk (L1 := [(2, a0), (9, 0), (0, a2), (0, X5.1), (9, 0)]) (rt_le_s (rt_le_s (rt_le_s (rt_le_s (rt_le_j rt_le_n))))) ?_
      exact cj_X1_askNext_147 hz hd ht a2 X5.1 m86 _ h hK
    · rw [if_neg q98] at h
      refine RT.aload_n (pc := 101) (k := 0) (x := a0) dX1_askNext_101 rfl ?_
      obtain ⟨v102, hv102, h⟩ := Option.bind_eq_some_iff.mp h
      refine RT.gf 1 2 2 (pc := 102) (x := a0) (v := v102) hz dX1_askNext_102 fl_X1_11 rfl hv102 ?_
      refine RT.iload_n (pc := 105) (k := 3) (x := X5.1) dX1_askNext_105 rfl ?_
      obtain ⟨v106, hv106, h⟩ := Option.bind_eq_some_iff.mp h
      refine RT.aald6 (pc := 106) (x := v102) (i := X5.1) (v := v106) dX1_askNext_106 (rt_lta hz (by decide) (by decide) hv106) hv106 ?_
      refine RT.iload_n (pc := 107) (k := 2) (x := a2) dX1_askNext_107 rfl ?_
      obtain ⟨v108, hv108, h⟩ := Option.bind_eq_some_iff.mp h
      refine RT.iald (pc := 108) (x := v106) (i := a2) (v := v108) dX1_askNext_108 (rt_lta hz (by decide) (by decide) hv108) hv108 ?_
      refine RT.aload_n (pc := 109) (k := 0) (x := a0) dX1_askNext_109 rfl ?_
      obtain ⟨v110, hv110, h⟩ := Option.bind_eq_some_iff.mp h
      refine RT.gf 1 2 2 (pc := 110) (x := a0) (v := v110) hz dX1_askNext_110 fl_X1_11 rfl hv110 ?_
      refine RT.iload_n (pc := 113) (k := 3) (x := X5.1) dX1_askNext_113 rfl ?_
      obtain ⟨v114, hv114, h⟩ := Option.bind_eq_some_iff.mp h
      refine RT.aald6 (pc := 114) (x := v110) (i := X5.1) (v := v114) dX1_askNext_114 (rt_lta hz (by decide) (by decide) hv114) hv114 ?_
      refine RT.iload (pc := 115) (k := 4) (x := v92) dX1_askNext_115 rfl ?_
      obtain ⟨v117, hv117, h⟩ := Option.bind_eq_some_iff.mp h
      refine RT.iald (pc := 117) (x := v114) (i := v92) (v := v117) dX1_askNext_117 (rt_lta hz (by decide) (by decide) hv117) hv117 ?_
      refine RT.icmp_lt (pc := 118) (tgt := 147) dX1_askNext_118 rfl (fun q118 => ?_) (fun q118 => ?_)
      · rw [if_pos q118] at h
        refine RT.wk (L1 := [(2, a0), (9, 0), (0, a2), (0, X5.1), (9, 0)]) (rt_le_s (rt_le_s (rt_le_s (rt_le_s (rt_le_j rt_le_n))))) ?_
        exact cj_X1_askNext_147 hz hd ht a2 X5.1 m86 _ h hK
      · rw [if_neg q118] at h
        refine RT.aload_n (pc := 121) (k := 0) (x := a0) dX1_askNext_121 rfl ?_
        obtain ⟨v122, hv122, h⟩ := Option.bind_eq_some_iff.mp h
        refine RT.gf 1 2 2 (pc := 122) (x := a0) (v := v122) hz dX1_askNext_122 fl_X1_11 rfl hv122 ?_
        refine RT.iload_n (pc := 125) (k := 3) (x := X5.1) dX1_askNext_125 rfl ?_
        obtain ⟨v126, hv126, h⟩ := Option.bind_eq_some_iff.mp h
        refine RT.aald6 (pc := 126) (x := v122) (i := X5.1) (v := v126) dX1_askNext_126 (rt_lta hz (by decide) (by decide) hv126) hv126 ?_
        refine RT.iload_n (pc := 127) (k := 2) (x := a2) dX1_askNext_127 rfl ?_
        obtain ⟨v128, hv128, h⟩ := Option.bind_eq_some_iff.mp h
        refine RT.iald (pc := 128) (x := v126) (i := a2) (v := v128) dX1_askNext_128 (rt_lta hz (by decide) (by decide) hv128) hv128 ?_
        refine RT.aload_n (pc := 129) (k := 0) (x := a0) dX1_askNext_129 rfl ?_
        obtain ⟨v130, hv130, h⟩ := Option.bind_eq_some_iff.mp h
        refine RT.gf 1 2 2 (pc := 130) (x := a0) (v := v130) hz dX1_askNext_130 fl_X1_11 rfl hv130 ?_
        refine RT.iload_n (pc := 133) (k := 3) (x := X5.1) dX1_askNext_133 rfl ?_
        obtain ⟨v134, hv134, h⟩ := Option.bind_eq_some_iff.mp h
        refine RT.aald6 (pc := 134) (x := v130) (i := X5.1) (v := v134) dX1_askNext_134 (rt_lta hz (by decide) (by decide) hv134) hv134 ?_
        refine RT.iload (pc := 135) (k := 4) (x := v92) dX1_askNext_135 rfl ?_
        obtain ⟨v137, hv137, h⟩ := Option.bind_eq_some_iff.mp h
        refine RT.iald (pc := 137) (x := v134) (i := v92) (v := v137) dX1_askNext_137 (rt_lta hz (by decide) (by decide) hv137) hv137 ?_
        refine RT.icmp_ne (pc := 138) (tgt := 154) dX1_askNext_138 rfl (fun q138 => ?_) (fun q138 => ?_)
        · rw [if_neg q138] at h
          refine RT.wk (L1 := [(9, 0), (9, 0), (9, 0), (9, 0), (9, 0)]) (rt_le_j (rt_le_s (rt_le_j (rt_le_j (rt_le_j rt_le_n))))) ?_
          exact cj_X1_askNext_154 hz hd ht m86 _ h hK
        · rw [if_pos (Classical.not_not.mp q138)] at h
          refine RT.iload_n (pc := 141) (k := 2) (x := a2) dX1_askNext_141 rfl ?_
          refine RT.iload (pc := 142) (k := 4) (x := v92) dX1_askNext_142 rfl ?_
          refine RT.icmp_ge (pc := 144) (tgt := 154) dX1_askNext_144 rfl (fun q144 => ?_) (fun q144 => ?_)
          · rw [if_pos q144] at h
            refine RT.wk (L1 := [(9, 0), (9, 0), (9, 0), (9, 0), (9, 0)]) (rt_le_j (rt_le_s (rt_le_j (rt_le_j (rt_le_j rt_le_n))))) ?_
            exact cj_X1_askNext_154 hz hd ht m86 _ h hK
          · rw [if_neg q144] at h
            refine RT.wk (L1 := [(2, a0), (9, 0), (0, a2), (0, X5.1), (9, 0)]) (rt_le_s (rt_le_s (rt_le_s (rt_le_s (rt_le_j rt_le_n))))) ?_
            exact cj_X1_askNext_147 hz hd ht a2 X5.1 m86 _ h hK
  · rw [if_pos (Classical.not_not.mp q71)] at h
    obtain rfl := Option.some.inj h
    exact RT.vret (pc := 74) dX1_askNext_74 rfl (Nat.le_of_eq (rt_cells_0 z)) (Nat.le_of_eq (rt_slots_0 z)) hK
