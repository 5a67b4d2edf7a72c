theorem cj_X12_wishes_77_4 {G : rt_G} {d : Nat} {z : Nat × Nat} {Q : rt_P} (hz : 300 ≤ z.1) (hd : 6 ≤ d) {a0 : Int} (ht : rt_kd a0.toNat = 20 + 12) (a1 : Int) (a2 : Int) (a3 : Int) (mem0 : rt_M) (t : (Int × Int × rt_M) ⊕ (Int × rt_M)) (h : j_X12_wishes_77_4 a0 a1 a2 a3 mem0 = some t) (hK : (∀ s1 : Int × Int × rt_M, t = .inl s1 → RT G M_X12_wishes d z Q 4 [(2, a0), (0, a1), (0, s1.1), (0, s1.2.1)] [] z s1.2.2) ∧ (∀ x1 : Int × rt_M, t = .inr x1 → RT G M_X12_wishes d z Q 83 [(9, 0), (9, 0), (0, x1.1), (9, 0)] [] z x1.2)) : RT G M_X12_wishes d z Q 77 [(2, a0), (0, a1), (0, a2), (0, a3)] [] z mem0 := by
  unfold j_X12_wishes_77_4 at h
  refine RT.iinc (pc := 77) (x := a3) (L1 := [(2, a0), (0, a1), (0, a2), (0, (rt_iadd a3 1))]) dX12_wishes_77 rfl (Nat.le_of_ble_eq_true rfl) ⟨by decide, by decide⟩ rfl ?_
  refine RT.goto (pc := 80) (tgt := 4) dX12_wishes_80 rfl ?_
  obtain rfl := Option.some.inj h
  have q1 := hK.1 ((a2, (rt_iadd a3 1), mem0)) rfl
  try dsimp only at q1
  exact q1
theorem cj_X12_wishes_75_4 {G : rt_G} {d : Nat} {z : Nat × Nat} {Q : rt_P} (hz : 300 ≤ z.1) (hd : 6 ≤ d) {a0 : Int} (ht : rt_kd a0.toNat = 20 + 12) (a1 : Int) (a3 : Int) (mem0 : rt_M) (t : (Int × Int × rt_M) ⊕ (Int × rt_M)) (h : j_X12_wishes_75_4 a0 a1 a3 mem0 = some t) (hK : (∀ s1 : Int × Int × rt_M, t = .inl s1 → RT G M_X12_wishes d z Q 4 [(2, a0), (0, a1), (0, s1.1), (0, s1.2.1)] [] z s1.2.2) ∧ (∀ x1 : Int × rt_M, t = .inr x1 → RT G M_X12_wishes d z Q 83 [(9, 0), (9, 0), (0, x1.1), (9, 0)] [] z x1.2)) : RT G M_X12_wishes d z Q 75 [(2, a0), (0, a1), (9, 0), (0, a3)] [] z mem0 := by
  unfold j_X12_wishes_75_4 at h
  refine RT.iload_n (pc := 75) (k := 3) (x := a3) dX12_wishes_75 rfl ?_
  refine RT.istore_n (pc := 76) (k := 2) (x := a3) (L1 := [(2, a0), (0, a1), (0, a3), (0, a3)]) dX12_wishes_76 (Nat.le_of_ble_eq_true rfl) rfl ?_
  exact cj_X12_wishes_77_4 hz hd ht a1 a3 a3 mem0 _ h hK
theorem cb_X12_wishes_4 {G : rt_G} {d : Nat} {z : Nat × Nat} {Q : rt_P} (hz : 300 ≤ z.1) (hd : 6 ≤ d) {a0 : Int} (ht : rt_kd a0.toNat = 20 + 12) (a1 : Int) (s : Int × Int × rt_M) (t : (Int × Int × rt_M) ⊕ (Int × rt_M)) (h : b_X12_wishes_4 a0 a1 s = some t) (hK : (∀ s1 : Int × Int × rt_M, t = .inl s1 → RT G M_X12_wishes d z Q 4 [(2, a0), (0, a1), (0, s1.1), (0, s1.2.1)] [] z s1.2.2) ∧ (∀ x1 : Int × rt_M, t = .inr x1 → RT G M_X12_wishes d z Q 83 [(9, 0), (9, 0), (0, x1.1), (9, 0)] [] z x1.2)) : RT G M_X12_wishes d z Q 4 [(2, a0), (0, a1), (0, s.1), (0, s.2.1)] [] z s.2.2 := by
  unfold b_X12_wishes_4 at h
  refine RT.iload_n (pc := 4) (k := 3) (x := s.2.1) dX12_wishes_4 rfl ?_
  refine RT.aload_n (pc := 5) (k := 0) (x := a0) dX12_wishes_5 rfl ?_
  obtain ⟨v6, hv6, h⟩ := Option.bind_eq_some_iff.mp h
  refine RT.gf 12 10 2 (pc := 6) (x := a0) (v := v6) hz dX12_wishes_6 fl_X12_13 rfl hv6 ?_
  refine RT.iconst (pc := 9) (n := 0) dX12_wishes_9 ⟨by decide, by decide⟩ ?_
  obtain ⟨v10, hv10, h⟩ := Option.bind_eq_some_iff.mp h
  refine RT.iald (pc := 10) (x := v6) (i := 0) (v := v10) dX12_wishes_10 (rt_lta hz (by decide) (by decide) hv10) hv10 ?_
  refine RT.icmp_ge (pc := 11) (tgt := 83) dX12_wishes_11 rfl (fun q11 => ?_) (fun q11 => ?_)
  · rw [if_pos q11] at h
    refine RT.wk (L1 := [(9, 0), (9, 0), (0, s.1), (9, 0)]) (rt_le_j (rt_le_j (rt_le_s (rt_le_j rt_le_n)))) ?_
    obtain rfl := Option.some.inj h
    have q1 := hK.2 ((s.1, s.2.2)) rfl
    try dsimp only at q1
    exact q1
  · rw [if_neg q11] at h
    refine RT.aload_n (pc := 14) (k := 0) (x := a0) dX12_wishes_14 rfl ?_
    obtain ⟨v15, hv15, h⟩ := Option.bind_eq_some_iff.mp h
    refine RT.gf 12 69 2 (pc := 15) (x := a0) (v := v15) hz dX12_wishes_15 fl_X12_159 rfl hv15 ?_
    refine RT.iload_n (pc := 18) (k := 1) (x := a1) dX12_wishes_18 rfl ?_
    obtain ⟨v19, hv19, h⟩ := Option.bind_eq_some_iff.mp h
    refine RT.iald (pc := 19) (x := v15) (i := a1) (v := v19) dX12_wishes_19 (rt_lta hz (by decide) (by decide) hv19) hv19 ?_
    refine RT.iload_n (pc := 20) (k := 3) (x := s.2.1) dX12_wishes_20 rfl ?_
    refine RT.ishr (pc := 21) dX12_wishes_21 ?_
    refine RT.iconst (pc := 22) (n := 1) dX12_wishes_22 ⟨by decide, by decide⟩ ?_
    refine RT.iand (pc := 23) dX12_wishes_23 ?_
    refine RT.if_ne (pc := 24) (tgt := 77) dX12_wishes_24 rfl (fun q24 => ?_) (fun q24 => ?_)
    · rw [if_neg q24] at h
      exact cj_X12_wishes_77_4 hz hd ht a1 s.1 s.2.1 s.2.2 _ h hK
    · rw [if_pos (Classical.not_not.mp q24)] at h
      refine RT.aload_n (pc := 27) (k := 0) (x := a0) dX12_wishes_27 rfl ?_
      obtain ⟨v28, hv28, h⟩ := Option.bind_eq_some_iff.mp h
      refine RT.gf 12 50 2 (pc := 28) (x := a0) (v := v28) hz dX12_wishes_28 fl_X12_120 rfl hv28 ?_
      refine RT.bipush (pc := 31) (n := 7) dX12_wishes_31 ⟨by decide, by decide⟩ rfl ?_
      refine RT.iload_n (pc := 33) (k := 3) (x := s.2.1) dX12_wishes_33 rfl ?_
      refine RT.iadd (pc := 34) dX12_wishes_34 ?_
      obtain ⟨v35, hv35, h⟩ := Option.bind_eq_some_iff.mp h
      refine RT.iald (pc := 35) (x := v28) (i := (rt_iadd 7 s.2.1)) (v := v35) dX12_wishes_35 (rt_lta hz (by decide) (by decide) hv35) hv35 ?_
      refine RT.bipush (pc := 36) (n := 9) dX12_wishes_36 ⟨by decide, by decide⟩ rfl ?_
      refine RT.icmp_ge (pc := 38) (tgt := 77) dX12_wishes_38 rfl (fun q38 => ?_) (fun q38 => ?_)
      · rw [if_pos q38] at h
        exact cj_X12_wishes_77_4 hz hd ht a1 s.1 s.2.1 s.2.2 _ h hK
      · rw [if_neg q38] at h
        refine RT.aload_n (pc := 41) (k := 0) (x := a0) dX12_wishes_41 rfl ?_
        refine RT.iload_n (pc := 42) (k := 3) (x := s.2.1) dX12_wishes_42 rfl ?_
        refine RT.iload_n (pc := 43) (k := 1) (x := a1) dX12_wishes_43 rfl ?_
        refine RT.aload_n (pc := 44) (k := 0) (x := a0) dX12_wishes_44 rfl ?_
        obtain ⟨v45, hv45, h⟩ := Option.bind_eq_some_iff.mp h
        refine RT.gf 12 50 2 (pc := 45) (x := a0) (v := v45) hz dX12_wishes_45 fl_X12_120 rfl hv45 ?_
        refine RT.iconst (pc := 48) (n := 0) dX12_wishes_48 ⟨by decide, by decide⟩ ?_
        obtain ⟨v49, hv49, h⟩ := Option.bind_eq_some_iff.mp h
        refine RT.iald (pc := 49) (x := v45) (i := 0) (v := v49) dX12_wishes_49 (rt_lta hz (by decide) (by decide) hv49) hv49 ?_
        obtain ⟨p50, hp50, h⟩ := Option.bind_eq_some_iff.mp h
        refine RT.cVz (pc := 50) (M' := M_X12_fitsIn) (ci := 12) (x := a0) (As := [(0, s.2.1), (0, a1), (0, v49)]) (st := []) (r := some (0, p50.1)) (mem1 := p50.2) (d' := d - 1) hz dX12_wishes_50 mw_X12_fitsIn ml_X12_406 mi_X12_fitsIn ht rfl rfl (Nat.le_of_ble_eq_true rfl) (Nat.le_of_ble_eq_true rfl) (by omega) rfl rfl (c_X12_fitsIn hz (by omega) a0 s.2.1 a1 v49 s.2.2 _ ht hp50) ?_
        refine RT.if_eq (pc := 53) (tgt := 77) dX12_wishes_53 rfl (fun q53 => ?_) (fun q53 => ?_)
        · rw [if_pos q53] at h
          exact cj_X12_wishes_77_4 hz hd ht a1 s.1 s.2.1 p50.2 _ h hK
        · rw [if_neg q53] at h
          refine RT.iload_n (pc := 56) (k := 2) (x := s.1) dX12_wishes_56 rfl ?_
          refine RT.if_lt (pc := 57) (tgt := 75) dX12_wishes_57 rfl (fun q57 => ?_) (fun q57 => ?_)
          · rw [if_pos q57] at h
            refine RT.wk (L1 := [(2, a0), (0, a1), (9, 0), (0, s.2.1)]) (rt_le_s (rt_le_s (rt_le_j (rt_le_s rt_le_n)))) ?_
            exact cj_X12_wishes_75_4 hz hd ht a1 s.2.1 p50.2 _ h hK
          · rw [if_neg q57] at h
            refine RT.aload_n (pc := 60) (k := 0) (x := a0) dX12_wishes_60 rfl ?_
            obtain ⟨v61, hv61, h⟩ := Option.bind_eq_some_iff.mp h
            refine RT.gf 12 14 2 (pc := 61) (x := a0) (v := v61) hz dX12_wishes_61 fl_X12_26 rfl hv61 ?_
            refine RT.iload_n (pc := 64) (k := 3) (x := s.2.1) dX12_wishes_64 rfl ?_
            obtain ⟨v65, hv65, h⟩ := Option.bind_eq_some_iff.mp h
            refine RT.iald (pc := 65) (x := v61) (i := s.2.1) (v := v65) dX12_wishes_65 (rt_lta hz (by decide) (by decide) hv65) hv65 ?_
            refine RT.aload_n (pc := 66) (k := 0) (x := a0) dX12_wishes_66 rfl ?_
            obtain ⟨v67, hv67, h⟩ := Option.bind_eq_some_iff.mp h
            refine RT.gf 12 14 2 (pc := 67) (x := a0) (v := v67) hz dX12_wishes_67 fl_X12_26 rfl hv67 ?_
            refine RT.iload_n (pc := 70) (k := 2) (x := s.1) dX12_wishes_70 rfl ?_
            obtain ⟨v71, hv71, h⟩ := Option.bind_eq_some_iff.mp h
            refine RT.iald (pc := 71) (x := v67) (i := s.1) (v := v71) dX12_wishes_71 (rt_lta hz (by decide) (by decide) hv71) hv71 ?_
            refine RT.icmp_le (pc := 72) (tgt := 77) dX12_wishes_72 rfl (fun q72 => ?_) (fun q72 => ?_)
            · rw [if_pos q72] at h
              exact cj_X12_wishes_77_4 hz hd ht a1 s.1 s.2.1 p50.2 _ h hK
            · rw [if_neg q72] at h
              refine RT.wk (L1 := [(2, a0), (0, a1), (9, 0), (0, s.2.1)]) (rt_le_s (rt_le_s (rt_le_j (rt_le_s rt_le_n)))) ?_
              exact cj_X12_wishes_75_4 hz hd ht a1 s.2.1 p50.2 _ h hK
theorem c_X12_wishes {G : rt_G} {d : Nat} {z : Nat × Nat} (hz : 300 ≤ z.1) (hd : 6 ≤ d) (a0 : Int) (a1 : Int) (mem0 : rt_M) (t : Int × rt_M) (ht : rt_kd a0.toNat = 20 + 12) (h : f_X12_wishes a0 a1 mem0 = some t) : RM G M_X12_wishes d [(2, a0), (0, a1)] z mem0 (some (0, t.1)) t.2 := by
  suffices H : ∀ Q : rt_P, Q (some (0, t.1)) z t.2 → RT G M_X12_wishes d z Q 0 [(2, a0), (0, a1), (9, 0), (9, 0)] [] z mem0 from H _ ⟨rfl, rfl, rfl⟩
  intro Q hK
  unfold f_X12_wishes at h
  refine RT.iconst (pc := 0) (n := (-1)) dX12_wishes_0 ⟨by decide, by decide⟩ ?_
  refine RT.istore_n (pc := 1) (k := 2) (x := (-1)) (L1 := [(2, a0), (0, a1), (0, (-1)), (9, 0)]) dX12_wishes_1 (Nat.le_of_ble_eq_true rfl) rfl ?_
  refine RT.iconst (pc := 2) (n := 0) dX12_wishes_2 ⟨by decide, by decide⟩ ?_
  refine RT.istore_n (pc := 3) (k := 3) (x := 0) (L1 := [(2, a0), (0, a1), (0, (-1)), (0, 0)]) dX12_wishes_3 (Nat.le_of_ble_eq_true rfl) rfl ?_
  obtain ⟨X4, hX4, h⟩ := Option.bind_eq_some_iff.mp h
  refine rt_it_ind (P := (fun s1 : Int × Int × rt_M => RT G M_X12_wishes d z Q 4 [(2, a0), (0, a1), (0, s1.1), (0, s1.2.1)] [] z s1.2.2)) (X := (fun x1 : Int × rt_M => RT G M_X12_wishes d z Q 83 [(9, 0), (9, 0), (0, x1.1), (9, 0)] [] z x1.2)) (fun s1 t1 h1 k1 k2 => cb_X12_wishes_4 hz hd ht a1 s1 t1 h1 ⟨k1, k2⟩) 4000 (((-1), 0, mem0)) X4 hX4 ?_
  refine RT.iload_n (pc := 83) (k := 2) (x := X4.1) dX12_wishes_83 rfl ?_
  obtain rfl := Option.some.inj h
  exact RT.iret (pc := 84) dX12_wishes_84 rfl (Nat.le_of_eq (rt_cells_0 z)) (Nat.le_of_eq (rt_slots_0 z)) hK
theorem cj_X12_isAhead_52 {G : rt_G} {d : Nat} {z : Nat × Nat} {Q : rt_P} (hz : 300 ≤ z.1) (hd : 5 ≤ d) {a0 : Int} (ht : rt_kd a0.toNat = 20 + 12) (s0 : Int) (mem0 : rt_M) (t : Int × rt_M) (h : j_X12_isAhead_52 s0 mem0 = some t) (hK : Q (some (0, t.1)) z t.2) : RT G M_X12_isAhead d z Q 52 [(9, 0), (9, 0), (9, 0), (9, 0), (9, 0), (9, 0)] [(0, s0)] z mem0 := by
  unfold j_X12_isAhead_52 at h
  obtain ⟨w52, hw52, h⟩ := Option.bind_eq_some_iff.mp h
  obtain rfl := Option.some.inj h
  exact RT.zret (pc := 52) dX12_isAhead_52 rfl (rt_bz_ok hw52) (Nat.le_of_eq (rt_cells_0 z)) (Nat.le_of_eq (rt_slots_0 z)) hK
theorem cj_X12_isAhead_47 {G : rt_G} {d : Nat} {z : Nat × Nat} {Q : rt_P} (hz : 300 ≤ z.1) (hd : 5 ≤ d) {a0 : Int} (ht : rt_kd a0.toNat = 20 + 12) (mem0 : rt_M) (t : Int × rt_M) (h : j_X12_isAhead_47 mem0 = some t) (hK : Q (some (0, t.1)) z t.2) : RT G M_X12_isAhead d z Q 47 [(9, 0), (9, 0), (9, 0), (9, 0), (9, 0), (9, 0)] [] z mem0 := by
  unfold j_X12_isAhead_47 at h
  refine RT.iconst (pc := 47) (n := 1) dX12_isAhead_47 ⟨by decide, by decide⟩ ?_
  refine RT.goto (pc := 48) (tgt := 52) dX12_isAhead_48 rfl ?_
  exact cj_X12_isAhead_52 hz hd ht 1 mem0 _ h hK
theorem cj_X12_isAhead_51 {G : rt_G} {d : Nat} {z : Nat × Nat} {Q : rt_P} (hz : 300 ≤ z.1) (hd : 5 ≤ d) {a0 : Int} (ht : rt_kd a0.toNat = 20 + 12) (mem0 : rt_M) (t : Int × rt_M) (h : j_X12_isAhead_51 mem0 = some t) (hK : Q (some (0, t.1)) z t.2) : RT G M_X12_isAhead d z Q 51 [(9, 0), (9, 0), (9, 0), (9, 0), (9, 0), (9, 0)] [] z mem0 := by
  unfold j_X12_isAhead_51 at h
  refine RT.iconst (pc := 51) (n := 0) dX12_isAhead_51 ⟨by decide, by decide⟩ ?_
  exact cj_X12_isAhead_52 hz hd ht 0 mem0 _ h hK
theorem c_X12_isAhead {G : rt_G} {d : Nat} {z : Nat × Nat} (hz : 300 ≤ z.1) (hd : 5 ≤ d) (a0 : Int) (a1 : Int) (a2 : Int) (a3 : Int) (mem0 : rt_M) (t : Int × rt_M) (ht : rt_kd a0.toNat = 20 + 12) (h : f_X12_isAhead a0 a1 a2 a3 mem0 = some t) : RM G M_X12_isAhead d [(2, a0), (0, a1), (0, a2), (0, a3)] z mem0 (some (0, t.1)) t.2 := by
  suffices H : ∀ Q : rt_P, Q (some (0, t.1)) z t.2 → RT G M_X12_isAhead d z Q 0 [(2, a0), (0, a1), (0, a2), (0, a3), (9, 0), (9, 0)] [] z mem0 from H _ ⟨rfl, rfl, rfl⟩
  intro Q hK
  unfold f_X12_isAhead at h
  refine RT.aload_n (pc := 0) (k := 0) (x := a0) dX12_isAhead_0 rfl ?_
  refine RT.iload_n (pc := 1) (k := 1) (x := a1) dX12_isAhead_1 rfl ?_
  refine RT.iload_n (pc := 2) (k := 2) (x := a2) dX12_isAhead_2 rfl ?_
  refine RT.aload_n (pc := 3) (k := 0) (x := a0) dX12_isAhead_3 rfl ?_
  obtain ⟨v4, hv4, h⟩ := Option.bind_eq_some_iff.mp h
  refine RT.gf 12 50 2 (pc := 4) (x := a0) (v := v4) hz dX12_isAhead_4 fl_X12_120 rfl hv4 ?_
  refine RT.iconst (pc := 7) (n := 0) dX12_isAhead_7 ⟨by decide, by decide⟩ ?_
  obtain ⟨v8, hv8, h⟩ := Option.bind_eq_some_iff.mp h
  refine RT.iald (pc := 8) (x := v4) (i := 0) (v := v8) dX12_isAhead_8 (rt_lta hz (by decide) (by decide) hv8) hv8 ?_
  obtain ⟨p9, hp9, h⟩ := Option.bind_eq_some_iff.mp h
  refine RT.cVz (pc := 9) (M' := M_X12_tiltIn) (ci := 12) (x := a0) (As := [(0, a1), (0, a2), (0, v8)]) (st := []) (r := some (0, p9.1)) (mem1 := p9.2) (d' := d - 1) hz dX12_isAhead_9 mw_X12_tiltIn ml_X12_400 mi_X12_tiltIn ht rfl rfl (Nat.le_of_ble_eq_true rfl) (Nat.le_of_ble_eq_true rfl) (by omega) rfl rfl (c_X12_tiltIn hz (by omega) a0 a1 a2 v8 mem0 _ ht hp9) ?_
  refine RT.istore (pc := 12) (k := 4) (x := p9.1) (L1 := [(2, a0), (0, a1), (0, a2), (0, a3), (0, p9.1), (9, 0)]) dX12_isAhead_12 (Nat.le_of_ble_eq_true rfl) rfl ?_
  refine RT.aload_n (pc := 14) (k := 0) (x := a0) dX12_isAhead_14 rfl ?_
  refine RT.iload_n (pc := 15) (k := 1) (x := a1) dX12_isAhead_15 rfl ?_
  refine RT.iload_n (pc := 16) (k := 3) (x := a3) dX12_isAhead_16 rfl ?_
  refine RT.aload_n (pc := 17) (k := 0) (x := a0) dX12_isAhead_17 rfl ?_
  obtain ⟨v18, hv18, h⟩ := Option.bind_eq_some_iff.mp h
  refine RT.gf 12 50 2 (pc := 18) (x := a0) (v := v18) hz dX12_isAhead_18 fl_X12_120 rfl hv18 ?_
  refine RT.iconst (pc := 21) (n := 0) dX12_isAhead_21 ⟨by decide, by decide⟩ ?_
  obtain ⟨v22, hv22, h⟩ := Option.bind_eq_some_iff.mp h
  refine RT.iald (pc := 22) (x := v18) (i := 0) (v := v22) dX12_isAhead_22 (rt_lta hz (by decide) (by decide) hv22) hv22 ?_
  obtain ⟨p23, hp23, h⟩ := Option.bind_eq_some_iff.mp h
  refine RT.cVz (pc := 23) (M' := M_X12_tiltIn) (ci := 12) (x := a0) (As := [(0, a1), (0, a3), (0, v22)]) (st := []) (r := some (0, p23.1)) (mem1 := p23.2) (d' := d - 1) hz dX12_isAhead_23 mw_X12_tiltIn ml_X12_400 mi_X12_tiltIn ht rfl rfl (Nat.le_of_ble_eq_true rfl) (Nat.le_of_ble_eq_true rfl) (by omega) rfl rfl (c_X12_tiltIn hz (by omega) a0 a1 a3 v22 p9.2 _ ht hp23) ?_
  refine RT.istore (pc := 26) (k := 5) (x := p23.1) (L1 := [(2, a0), (0, a1), (0, a2), (0, a3), (0, p9.1), (0, p23.1)]) dX12_isAhead_26 (Nat.le_of_ble_eq_true rfl) rfl ?_
  refine RT.iload (pc := 28) (k := 4) (x := p9.1) dX12_isAhead_28 rfl ?_
  refine RT.iload (pc := 30) (k := 5) (x := p23.1) dX12_isAhead_30 rfl ?_
  refine RT.icmp_lt (pc := 32) (tgt := 47) dX12_isAhead_32 rfl (fun q32 => ?_) (fun q32 => ?_)
  · rw [if_pos q32] at h
    refine RT.wk (L1 := [(9, 0), (9, 0), (9, 0), (9, 0), (9, 0), (9, 0)]) (rt_le_j (rt_le_j (rt_le_j (rt_le_j (rt_le_j (rt_le_j rt_le_n)))))) ?_
    exact cj_X12_isAhead_47 hz hd ht p23.2 _ h hK
  · rw [if_neg q32] at h
    refine RT.iload (pc := 35) (k := 4) (x := p9.1) dX12_isAhead_35 rfl ?_
    refine RT.iload (pc := 37) (k := 5) (x := p23.1) dX12_isAhead_37 rfl ?_
    refine RT.icmp_ne (pc := 39) (tgt := 51) dX12_isAhead_39 rfl (fun q39 => ?_) (fun q39 => ?_)
    · rw [if_neg q39] at h
      refine RT.wk (L1 := [(9, 0), (9, 0), (9, 0), (9, 0), (9, 0), (9, 0)]) (rt_le_j (rt_le_j (rt_le_j (rt_le_j (rt_le_j (rt_le_j rt_le_n)))))) ?_
      exact cj_X12_isAhead_51 hz hd ht p23.2 _ h hK
    · rw [if_pos (Classical.not_not.mp q39)] at h
      refine RT.iload_n (pc := 42) (k := 2) (x := a2) dX12_isAhead_42 rfl ?_
      refine RT.iload_n (pc := 43) (k := 3) (x := a3) dX12_isAhead_43 rfl ?_
      refine RT.icmp_ge (pc := 44) (tgt := 51) dX12_isAhead_44 rfl (fun q44 => ?_) (fun q44 => ?_)
      · rw [if_pos q44] at h
        refine RT.wk (L1 := [(9, 0), (9, 0), (9, 0), (9, 0), (9, 0), (9, 0)]) (rt_le_j (rt_le_j (rt_le_j (rt_le_j (rt_le_j (rt_le_j rt_le_n)))))) ?_
        exact cj_X12_isAhead_51 hz hd ht p23.2 _ h hK
      · rw [if_neg q44] at h
        refine RT.wk (L1 := [(9, 0), (9, 0), (9, 0), (9, 0), (9, 0), (9, 0)]) (rt_le_j (rt_le_j (rt_le_j (rt_le_j (rt_le_j (rt_le_j rt_le_n)))))) ?_
        exact cj_X12_isAhead_47 hz hd ht p23.2 _ h hK
theorem cb_X12_laysMatch_2 {G : rt_G} {d : Nat} {z : Nat × Nat} {Q : rt_P} (hz : 300 ≤ z.1) (hd : 7 ≤ d) {a0 : Int} (ht : rt_kd a0.toNat = 20 + 12) (s : Int × rt_M) (t : (Int × rt_M) ⊕ (rt_M)) (h : b_X12_laysMatch_2 a0 s = some t) (hK : (∀ s1 : Int × rt_M, t = .inl s1 → RT G M_X12_laysMatch d z Q 2 [(2, a0), (0, s1.1), (9, 0), (9, 0), (9, 0)] [] z s1.2) ∧ (∀ x1 : rt_M, t = .inr x1 → RT G M_X12_laysMatch d z Q 28 [(2, a0), (9, 0), (9, 0), (9, 0), (9, 0)] [] z x1)) : RT G M_X12_laysMatch d z Q 2 [(2, a0), (0, s.1), (9, 0), (9, 0), (9, 0)] [] z s.2 := by
  unfold b_X12_laysMatch_2 at h
  refine RT.iload_n (pc := 2) (k := 1) (x := s.1) dX12_laysMatch_2 rfl ?_
  refine RT.bipush (pc := 3) (n := 6) dX12_laysMatch_3 ⟨by decide, by decide⟩ rfl ?_
  refine RT.icmp_ge (pc := 5) (tgt := 28) dX12_laysMatch_5 rfl (fun q5 => ?_) (fun q5 => ?_)
  · rw [if_pos q5] at h
    refine RT.wk (L1 := [(2, a0), (9, 0), (9, 0), (9, 0), (9, 0)]) (rt_le_s (rt_le_j (rt_le_s (rt_le_s (rt_le_s rt_le_n))))) ?_
    obtain rfl := Option.some.inj h
    have q1 := hK.2 s.2 rfl
    try dsimp only at q1
    exact q1
  · rw [if_neg q5] at h
    refine RT.aload_n (pc := 8) (k := 0) (x := a0) dX12_laysMatch_8 rfl ?_
    obtain ⟨v9, hv9, h⟩ := Option.bind_eq_some_iff.mp h
    refine RT.gf 12 69 2 (pc := 9) (x := a0) (v := v9) hz dX12_laysMatch_9 fl_X12_159 rfl hv9 ?_
    refine RT.iload_n (pc := 12) (k := 1) (x := s.1) dX12_laysMatch_12 rfl ?_
    refine RT.iconst (pc := 13) (n := 0) dX12_laysMatch_13 ⟨by decide, by decide⟩ ?_
    obtain ⟨m14, hm14, h⟩ := Option.bind_eq_some_iff.mp h
    refine RT.iast (pc := 14) (x := v9) (i := s.1) (v := 0) (mem1 := m14) dX12_laysMatch_14 (rt_lts hz (by decide) (by decide) hm14) hm14 ?_
    refine RT.aload_n (pc := 15) (k := 0) (x := a0) dX12_laysMatch_15 rfl ?_
    obtain ⟨v16, hv16, h⟩ := Option.bind_eq_some_iff.mp h
    refine RT.gf 12 70 2 (pc := 16) (x := a0) (v := v16) hz dX12_laysMatch_16 fl_X12_162 rfl hv16 ?_
    refine RT.iload_n (pc := 19) (k := 1) (x := s.1) dX12_laysMatch_19 rfl ?_
    refine RT.iconst (pc := 20) (n := (-1)) dX12_laysMatch_20 ⟨by decide, by decide⟩ ?_
    obtain ⟨m21, hm21, h⟩ := Option.bind_eq_some_iff.mp h
    refine RT.iast (pc := 21) (x := v16) (i := s.1) (v := (-1)) (mem1 := m21) dX12_laysMatch_21 (rt_lts hz (by decide) (by decide) hm21) hm21 ?_
    refine RT.iinc (pc := 22) (x := s.1) (L1 := [(2, a0), (0, (rt_iadd s.1 1)), (9, 0), (9, 0), (9, 0)]) dX12_laysMatch_22 rfl (Nat.le_of_ble_eq_true rfl) ⟨by decide, by decide⟩ rfl ?_
    refine RT.goto (pc := 25) (tgt := 2) dX12_laysMatch_25 rfl ?_
    obtain rfl := Option.some.inj h
    have q1 := hK.1 (((rt_iadd s.1 1), m21)) rfl
    try dsimp only at q1
    exact q1
theorem cj_X12_laysMatch_115_48 {G : rt_G} {d : Nat} {z : Nat × Nat} {Q : rt_P} (hz : 300 ≤ z.1) (hd : 7 ≤ d) {a0 : Int} (ht : rt_kd a0.toNat = 20 + 12) (a1 : Int) (a2 : Int) (s0 : Int) (mem0 : rt_M) (t : (Int × Int × rt_M) ⊕ (rt_M)) (h : j_X12_laysMatch_115_48 a0 a1 a2 s0 mem0 = some t) (hK : (∀ s1 : Int × Int × rt_M, t = .inl s1 → RT G M_X12_laysMatch d z Q 48 [(2, a0), (0, a1), (0, s1.1), (0, s1.2.1), (9, 0)] [] z s1.2.2) ∧ (∀ x1 : rt_M, t = .inr x1 → RT G M_X12_laysMatch d z Q 119 [(2, a0), (0, a1), (9, 0), (9, 0), (9, 0)] [] z x1)) : RT G M_X12_laysMatch d z Q 115 [(2, a0), (0, a1), (0, a2), (9, 0), (9, 0)] [(0, s0)] z mem0 := by
  unfold j_X12_laysMatch_115_48 at h
  refine RT.istore_n (pc := 115) (k := 3) (x := s0) (L1 := [(2, a0), (0, a1), (0, a2), (0, s0), (9, 0)]) dX12_laysMatch_115 (Nat.le_of_ble_eq_true rfl) rfl ?_
  refine RT.goto (pc := 116) (tgt := 48) dX12_laysMatch_116 rfl ?_
  obtain rfl := Option.some.inj h
  have q1 := hK.1 ((a2, s0, mem0)) rfl
  try dsimp only at q1
  exact q1
theorem cj_X12_laysMatch_102_48 {G : rt_G} {d : Nat} {z : Nat × Nat} {Q : rt_P} (hz : 300 ≤ z.1) (hd : 7 ≤ d) {a0 : Int} (ht : rt_kd a0.toNat = 20 + 12) (a1 : Int) (a2 : Int) (mem0 : rt_M) (t : (Int × Int × rt_M) ⊕ (rt_M)) (h : j_X12_laysMatch_102_48 a0 a1 a2 mem0 = some t) (hK : (∀ s1 : Int × Int × rt_M, t = .inl s1 → RT G M_X12_laysMatch d z Q 48 [(2, a0), (0, a1), (0, s1.1), (0, s1.2.1), (9, 0)] [] z s1.2.2) ∧ (∀ x1 : rt_M, t = .inr x1 → RT G M_X12_laysMatch d z Q 119 [(2, a0), (0, a1), (9, 0), (9, 0), (9, 0)] [] z x1)) : RT G M_X12_laysMatch d z Q 102 [(2, a0), (0, a1), (0, a2), (9, 0), (9, 0)] [] z mem0 := by
  unfold j_X12_laysMatch_102_48 at h
  refine RT.iload_n (pc := 102) (k := 2) (x := a2) dX12_laysMatch_102 rfl ?_
  refine RT.if_ge (pc := 103) (tgt := 110) dX12_laysMatch_103 rfl (fun q103 => ?_) (fun q103 => ?_)
  · rw [if_pos q103] at h
    refine RT.aload_n (pc := 110) (k := 0) (x := a0) dX12_laysMatch_110 rfl ?_
    refine RT.iload_n (pc := 111) (k := 2) (x := a2) dX12_laysMatch_111 rfl ?_
    obtain ⟨p112, hp112, h⟩ := Option.bind_eq_some_iff.mp h
    refine RT.cVz (pc := 112) (M' := M_X12_wishes) (ci := 12) (x := a0) (As := [(0, a2)]) (st := []) (r := some (0, p112.1)) (mem1 := p112.2) (d' := d - 1) hz dX12_laysMatch_112 mw_X12_wishes ml_X12_491 mi_X12_wishes ht rfl rfl (Nat.le_of_ble_eq_true rfl) (Nat.le_of_ble_eq_true rfl) (by omega) rfl rfl (c_X12_wishes hz (by omega) a0 a2 mem0 _ ht hp112) ?_
    exact cj_X12_laysMatch_115_48 hz hd ht a1 a2 p112.1 p112.2 _ h hK
  · rw [if_neg q103] at h
    refine RT.iconst (pc := 106) (n := (-1)) dX12_laysMatch_106 ⟨by decide, by decide⟩ ?_
    refine RT.goto (pc := 107) (tgt := 115) dX12_laysMatch_107 rfl ?_
    exact cj_X12_laysMatch_115_48 hz hd ht a1 a2 ((-1)) mem0 _ h hK
theorem cj_X12_laysMatch_92_48 {G : rt_G} {d : Nat} {z : Nat × Nat} {Q : rt_P} (hz : 300 ≤ z.1) (hd : 7 ≤ d) {a0 : Int} (ht : rt_kd a0.toNat = 20 + 12) (a1 : Int) (a2 : Int) (a3 : Int) (a4 : Int) (mem0 : rt_M) (t : (Int × Int × rt_M) ⊕ (rt_M)) (h : j_X12_laysMatch_92_48 a0 a1 a2 a3 a4 mem0 = some t) (hK : (∀ s1 : Int × Int × rt_M, t = .inl s1 → RT G M_X12_laysMatch d z Q 48 [(2, a0), (0, a1), (0, s1.1), (0, s1.2.1), (9, 0)] [] z s1.2.2) ∧ (∀ x1 : rt_M, t = .inr x1 → RT G M_X12_laysMatch d z Q 119 [(2, a0), (0, a1), (9, 0), (9, 0), (9, 0)] [] z x1)) : RT G M_X12_laysMatch d z Q 92 [(2, a0), (0, a1), (0, a2), (0, a3), (0, a4)] [] z mem0 := by
  unfold j_X12_laysMatch_92_48 at h
  refine RT.aload_n (pc := 92) (k := 0) (x := a0) dX12_laysMatch_92 rfl ?_
  obtain ⟨v93, hv93, h⟩ := Option.bind_eq_some_iff.mp h
  refine RT.gf 12 70 2 (pc := 93) (x := a0) (v := v93) hz dX12_laysMatch_93 fl_X12_162 rfl hv93 ?_
  refine RT.iload_n (pc := 96) (k := 3) (x := a3) dX12_laysMatch_96 rfl ?_
  refine RT.iload_n (pc := 97) (k := 2) (x := a2) dX12_laysMatch_97 rfl ?_
  obtain ⟨m98, hm98, h⟩ := Option.bind_eq_some_iff.mp h
  refine RT.iast (pc := 98) (x := v93) (i := a3) (v := a2) (mem1 := m98) dX12_laysMatch_98 (rt_lts hz (by decide) (by decide) hm98) hm98 ?_
  refine RT.iload (pc := 99) (k := 4) (x := a4) dX12_laysMatch_99 rfl ?_
  refine RT.istore_n (pc := 101) (k := 2) (x := a4) (L1 := [(2, a0), (0, a1), (0, a4), (0, a3), (0, a4)]) dX12_laysMatch_101 (Nat.le_of_ble_eq_true rfl) rfl ?_
  refine RT.wk (L1 := [(2, a0), (0, a1), (0, a4), (9, 0), (9, 0)]) (rt_le_s (rt_le_s (rt_le_s (rt_le_j (rt_le_j rt_le_n))))) ?_
  exact cj_X12_laysMatch_102_48 hz hd ht a1 a4 m98 _ h hK
theorem cb_X12_laysMatch_48 {G : rt_G} {d : Nat} {z : Nat × Nat} {Q : rt_P} (hz : 300 ≤ z.1) (hd : 7 ≤ d) {a0 : Int} (ht : rt_kd a0.toNat = 20 + 12) (a1 : Int) (s : Int × Int × rt_M) (t : (Int × Int × rt_M) ⊕ (rt_M)) (h : b_X12_laysMatch_48 a0 a1 s = some t) (hK : (∀ s1 : Int × Int × rt_M, t = .inl s1 → RT G M_X12_laysMatch d z Q 48 [(2, a0), (0, a1), (0, s1.1), (0, s1.2.1), (9, 0)] [] z s1.2.2) ∧ (∀ x1 : rt_M, t = .inr x1 → RT G M_X12_laysMatch d z Q 119 [(2, a0), (0, a1), (9, 0), (9, 0), (9, 0)] [] z x1)) : RT G M_X12_laysMatch d z Q 48 [(2, a0), (0, a1), (0, s.1), (0, s.2.1), (9, 0)] [] z s.2.2 := by
  unfold b_X12_laysMatch_48 at h
  refine RT.iload_n (pc := 48) (k := 2) (x := s.1) dX12_laysMatch_48 rfl ?_
  refine RT.if_lt (pc := 49) (tgt := 119) dX12_laysMatch_49 rfl (fun q49 => ?_) (fun q49 => ?_)
  · rw [if_pos q49] at h
    refine RT.wk (L1 := [(2, a0), (0, a1), (9, 0), (9, 0), (9, 0)]) (rt_le_s (rt_le_s (rt_le_j (rt_le_j (rt_le_s rt_le_n))))) ?_
    obtain rfl := Option.some.inj h
    have q1 := hK.2 s.2.2 rfl
    try dsimp only at q1
    exact q1
  · rw [if_neg q49] at h
    refine RT.iload_n (pc := 52) (k := 3) (x := s.2.1) dX12_laysMatch_52 rfl ?_
    refine RT.if_lt (pc := 53) (tgt := 119) dX12_laysMatch_53 rfl (fun q53 => ?_) (fun q53 => ?_)
    · rw [if_pos q53] at h
      refine RT.wk (L1 := [(2, a0), (0, a1), (9, 0), (9, 0), (9, 0)]) (rt_le_s (rt_le_s (rt_le_j (rt_le_j (rt_le_s rt_le_n))))) ?_
      obtain rfl := Option.some.inj h
      have q1 := hK.2 s.2.2 rfl
      try dsimp only at q1
      exact q1
    · rw [if_neg q53] at h
      refine RT.aload_n (pc := 56) (k := 0) (x := a0) dX12_laysMatch_56 rfl ?_
      obtain ⟨v57, hv57, h⟩ := Option.bind_eq_some_iff.mp h
      refine RT.gf 12 69 2 (pc := 57) (x := a0) (v := v57) hz dX12_laysMatch_57 fl_X12_159 rfl hv57 ?_
      refine RT.iload_n (pc := 60) (k := 2) (x := s.1) dX12_laysMatch_60 rfl ?_
      refine RT.dup2 (pc := 61) dX12_laysMatch_61 (show ¬ ((0 : Nat) = 1) by decide) (show ¬ ((2 : Nat) = 1) by decide) ?_
      obtain ⟨v62, hv62, h⟩ := Option.bind_eq_some_iff.mp h
      refine RT.iald (pc := 62) (x := v57) (i := s.1) (v := v62) dX12_laysMatch_62 (rt_lta hz (by decide) (by decide) hv62) hv62 ?_
      refine RT.iconst (pc := 63) (n := 1) dX12_laysMatch_63 ⟨by decide, by decide⟩ ?_
      refine RT.iload_n (pc := 64) (k := 3) (x := s.2.1) dX12_laysMatch_64 rfl ?_
      refine RT.ishl (pc := 65) dX12_laysMatch_65 ?_
      refine RT.ior (pc := 66) dX12_laysMatch_66 ?_
      obtain ⟨m67, hm67, h⟩ := Option.bind_eq_some_iff.mp h
      refine RT.iast (pc := 67) (x := v57) (i := s.1) (v := (rt_ior v62 (rt_ishl 1 s.2.1))) (mem1 := m67) dX12_laysMatch_67 (rt_lts hz (by decide) (by decide) hm67) hm67 ?_
      refine RT.aload_n (pc := 68) (k := 0) (x := a0) dX12_laysMatch_68 rfl ?_
      obtain ⟨v69, hv69, h⟩ := Option.bind_eq_some_iff.mp h
      refine RT.gf 12 70 2 (pc := 69) (x := a0) (v := v69) hz dX12_laysMatch_69 fl_X12_162 rfl hv69 ?_
      refine RT.iload_n (pc := 72) (k := 3) (x := s.2.1) dX12_laysMatch_72 rfl ?_
      obtain ⟨v73, hv73, h⟩ := Option.bind_eq_some_iff.mp h
      refine RT.iald (pc := 73) (x := v69) (i := s.2.1) (v := v73) dX12_laysMatch_73 (rt_lta hz (by decide) (by decide) hv73) hv73 ?_
      refine RT.istore (pc := 74) (k := 4) (x := v73) (L1 := [(2, a0), (0, a1), (0, s.1), (0, s.2.1), (0, v73)]) dX12_laysMatch_74 (Nat.le_of_ble_eq_true rfl) rfl ?_
      refine RT.iload (pc := 76) (k := 4) (x := v73) dX12_laysMatch_76 rfl ?_
      refine RT.if_lt (pc := 78) (tgt := 92) dX12_laysMatch_78 rfl (fun q78 => ?_) (fun q78 => ?_)
      · rw [if_pos q78] at h
        exact cj_X12_laysMatch_92_48 hz hd ht a1 s.1 s.2.1 v73 m67 _ h hK
      · rw [if_neg q78] at h
        refine RT.aload_n (pc := 81) (k := 0) (x := a0) dX12_laysMatch_81 rfl ?_
        refine RT.iload_n (pc := 82) (k := 3) (x := s.2.1) dX12_laysMatch_82 rfl ?_
        refine RT.iload_n (pc := 83) (k := 2) (x := s.1) dX12_laysMatch_83 rfl ?_
        refine RT.iload (pc := 84) (k := 4) (x := v73) dX12_laysMatch_84 rfl ?_
        obtain ⟨p86, hp86, h⟩ := Option.bind_eq_some_iff.mp h
        refine RT.cVz (pc := 86) (M' := M_X12_isAhead) (ci := 12) (x := a0) (As := [(0, s.2.1), (0, s.1), (0, v73)]) (st := []) (r := some (0, p86.1)) (mem1 := p86.2) (d' := d - 1) hz dX12_laysMatch_86 mw_X12_isAhead ml_X12_494 mi_X12_isAhead ht rfl rfl (Nat.le_of_ble_eq_true rfl) (Nat.le_of_ble_eq_true rfl) (by omega) rfl rfl (c_X12_isAhead hz (by omega) a0 s.2.1 s.1 v73 m67 _ ht hp86) ?_
        refine RT.if_eq (pc := 89) (tgt := 102) dX12_laysMatch_89 rfl (fun q89 => ?_) (fun q89 => ?_)
        · rw [if_pos q89] at h
          refine RT.wk (L1 := [(2, a0), (0, a1), (0, s.1), (9, 0), (9, 0)]) (rt_le_s (rt_le_s (rt_le_s (rt_le_j (rt_le_j rt_le_n))))) ?_
          exact cj_X12_laysMatch_102_48 hz hd ht a1 s.1 p86.2 _ h hK
        · rw [if_neg q89] at h
          exact cj_X12_laysMatch_92_48 hz hd ht a1 s.1 s.2.1 v73 p86.2 _ h hK
theorem cb_X12_laysMatch_30 {G : rt_G} {d : Nat} {z : Nat × Nat} {Q : rt_P} (hz : 300 ≤ z.1) (hd : 7 ≤ d) {a0 : Int} (ht : rt_kd a0.toNat = 20 + 12) (s : Int × rt_M) (t : (Int × rt_M) ⊕ (rt_M)) (h : b_X12_laysMatch_30 a0 s = some t) (hK : (∀ s1 : Int × rt_M, t = .inl s1 → RT G M_X12_laysMatch d z Q 30 [(2, a0), (0, s1.1), (9, 0), (9, 0), (9, 0)] [] z s1.2) ∧ (∀ x1 : rt_M, t = .inr x1 → RT G M_X12_laysMatch d z Q 125 [(9, 0), (9, 0), (9, 0), (9, 0), (9, 0)] [] z x1)) : RT G M_X12_laysMatch d z Q 30 [(2, a0), (0, s.1), (9, 0), (9, 0), (9, 0)] [] z s.2 := by
  unfold b_X12_laysMatch_30 at h
  refine RT.iload_n (pc := 30) (k := 1) (x := s.1) dX12_laysMatch_30 rfl ?_
  refine RT.aload_n (pc := 31) (k := 0) (x := a0) dX12_laysMatch_31 rfl ?_
  obtain ⟨v32, hv32, h⟩ := Option.bind_eq_some_iff.mp h
  refine RT.gf 12 10 2 (pc := 32) (x := a0) (v := v32) hz dX12_laysMatch_32 fl_X12_13 rfl hv32 ?_
  refine RT.iconst (pc := 35) (n := 1) dX12_laysMatch_35 ⟨by decide, by decide⟩ ?_
  obtain ⟨v36, hv36, h⟩ := Option.bind_eq_some_iff.mp h
  refine RT.iald (pc := 36) (x := v32) (i := 1) (v := v36) dX12_laysMatch_36 (rt_lta hz (by decide) (by decide) hv36) hv36 ?_
  refine RT.icmp_ge (pc := 37) (tgt := 125) dX12_laysMatch_37 rfl (fun q37 => ?_) (fun q37 => ?_)
  · rw [if_pos q37] at h
    refine RT.wk (L1 := [(9, 0), (9, 0), (9, 0), (9, 0), (9, 0)]) (rt_le_j (rt_le_j (rt_le_s (rt_le_s (rt_le_s rt_le_n))))) ?_
    obtain rfl := Option.some.inj h
    have q1 := hK.2 s.2 rfl
    try dsimp only at q1
    exact q1
  · rw [if_neg q37] at h
    refine RT.iload_n (pc := 40) (k := 1) (x := s.1) dX12_laysMatch_40 rfl ?_
    refine RT.istore_n (pc := 41) (k := 2) (x := s.1) (L1 := [(2, a0), (0, s.1), (0, s.1), (9, 0), (9, 0)]) dX12_laysMatch_41 (Nat.le_of_ble_eq_true rfl) rfl ?_
    refine RT.aload_n (pc := 42) (k := 0) (x := a0) dX12_laysMatch_42 rfl ?_
    refine RT.iload_n (pc := 43) (k := 2) (x := s.1) dX12_laysMatch_43 rfl ?_
    obtain ⟨p44, hp44, h⟩ := Option.bind_eq_some_iff.mp h
    refine RT.cVz (pc := 44) (M' := M_X12_wishes) (ci := 12) (x := a0) (As := [(0, s.1)]) (st := []) (r := some (0, p44.1)) (mem1 := p44.2) (d' := d - 1) hz dX12_laysMatch_44 mw_X12_wishes ml_X12_491 mi_X12_wishes ht rfl rfl (Nat.le_of_ble_eq_true rfl) (Nat.le_of_ble_eq_true rfl) (by omega) rfl rfl (c_X12_wishes hz (by omega) a0 s.1 s.2 _ ht hp44) ?_
    refine RT.istore_n (pc := 47) (k := 3) (x := p44.1) (L1 := [(2, a0), (0, s.1), (0, s.1), (0, p44.1), (9, 0)]) dX12_laysMatch_47 (Nat.le_of_ble_eq_true rfl) rfl ?_
    obtain ⟨X48, hX48, h⟩ := Option.bind_eq_some_iff.mp h
    refine rt_it_ind (P := (fun s1 : Int × Int × rt_M => RT G M_X12_laysMatch d z Q 48 [(2, a0), (0, s.1), (0, s1.1), (0, s1.2.1), (9, 0)] [] z s1.2.2)) (X := (fun x1 : rt_M => RT G M_X12_laysMatch d z Q 119 [(2, a0), (0, s.1), (9, 0), (9, 0), (9, 0)] [] z x1)) (fun s1 t1 h1 k1 k2 => cb_X12_laysMatch_48 hz hd ht s.1 s1 t1 h1 ⟨k1, k2⟩) 4000 ((s.1, p44.1, p44.2)) X48 hX48 ?_
    refine RT.iinc (pc := 119) (x := s.1) (L1 := [(2, a0), (0, (rt_iadd s.1 1)), (9, 0), (9, 0), (9, 0)]) dX12_laysMatch_119 rfl (Nat.le_of_ble_eq_true rfl) ⟨by decide, by decide⟩ rfl ?_
    refine RT.goto (pc := 122) (tgt := 30) dX12_laysMatch_122 rfl ?_
    obtain rfl := Option.some.inj h
    have q1 := hK.1 (((rt_iadd s.1 1), X48)) rfl
    try dsimp only at q1
    exact q1
theorem c_X12_laysMatch {G : rt_G} {d : Nat} {z : Nat × Nat} (hz : 300 ≤ z.1) (hd : 7 ≤ d) (a0 : Int) (mem0 : rt_M) (t : rt_M) (ht : rt_kd a0.toNat = 20 + 12) (h : f_X12_laysMatch a0 mem0 = some t) : RM G M_X12_laysMatch d [(2, a0)] z mem0 none t := by
  suffices H : ∀ Q : rt_P, Q none z t → RT G M_X12_laysMatch d z Q 0 [(2, a0), (9, 0), (9, 0), (9, 0), (9, 0)] [] z mem0 from H _ ⟨rfl, rfl, rfl⟩
  intro Q hK
  unfold f_X12_laysMatch at h
  refine RT.iconst (pc := 0) (n := 0) dX12_laysMatch_0 ⟨by decide, by decide⟩ ?_
  refine RT.istore_n (pc := 1) (k := 1) (x := 0) (L1 := [(2, a0), (0, 0), (9, 0), (9, 0), (9, 0)]) dX12_laysMatch_1 (Nat.le_of_ble_eq_true rfl) rfl ?_
  obtain ⟨X2, hX2, h⟩ := Option.bind_eq_some_iff.mp h
  refine rt_it_ind (P := (fun s1 : Int × rt_M => RT G M_X12_laysMatch d z Q 2 [(2, a0), (0, s1.1), (9, 0), (9, 0), (9, 0)] [] z s1.2)) (X := (fun x1 : rt_M => RT G M_X12_laysMatch d z Q 28 [(2, a0), (9, 0), (9, 0), (9, 0), (9, 0)] [] z x1)) (fun s1 t1 h1 k1 k2 => cb_X12_laysMatch_2 hz hd ht s1 t1 h1 ⟨k1, k2⟩) 4000 ((0, mem0)) X2 hX2 ?_
  refine RT.iconst (pc := 28) (n := 0) dX12_laysMatch_28 ⟨by decide, by decide⟩ ?_
  refine RT.istore_n (pc := 29) (k := 1) (x := 0) (L1 := [(2, a0), (0, 0), (9, 0), (9, 0), (9, 0)]) dX12_laysMatch_29 (Nat.le_of_ble_eq_true rfl) rfl ?_
  obtain ⟨X30, hX30, h⟩ := Option.bind_eq_some_iff.mp h
  refine rt_it_ind (P := (fun s1 : Int × rt_M => RT G M_X12_laysMatch d z Q 30 [(2, a0), (0, s1.1), (9, 0), (9, 0), (9, 0)] [] z s1.2)) (X := (fun x1 : rt_M => RT G M_X12_laysMatch d z Q 125 [(9, 0), (9, 0), (9, 0), (9, 0), (9, 0)] [] z x1)) (fun s1 t1 h1 k1 k2 => cb_X12_laysMatch_30 hz hd ht s1 t1 h1 ⟨k1, k2⟩) 4000 ((0, X2)) X30 hX30 ?_
  obtain rfl := Option.some.inj h
  exact RT.vret (pc := 125) dX12_laysMatch_125 rfl (Nat.le_of_eq (rt_cells_0 z)) (Nat.le_of_eq (rt_slots_0 z)) hK
theorem cb_X12_match_22 {G : rt_G} {d : Nat} {z : Nat × Nat} {Q : rt_P} (hz : 300 ≤ z.1) (hd : 8 ≤ d) {a0 : Int} (ht : rt_kd a0.toNat = 20 + 12) (a1 : Int) (s : Int × rt_M) (t : (Int × rt_M) ⊕ ((rt_M) ⊕ (Int × rt_M))) (h : b_X12_match_22 a0 a1 s = some t) (hK : (∀ s1 : Int × rt_M, t = .inl s1 → RT G M_X12_match d z Q 22 [(2, a0), (0, a1), (0, s1.1)] [] z s1.2) ∧ (∀ x1 : rt_M, t = .inr (.inl x1) → RT G M_X12_match d z Q 50 [(9, 0), (9, 0), (9, 0)] [] z x1) ∧ (∀ t1 : Int × rt_M, t = .inr (.inr t1) → Q (some (0, t1.1)) z t1.2)) : RT G M_X12_match d z Q 22 [(2, a0), (0, a1), (0, s.1)] [] z s.2 := by
  unfold b_X12_match_22 at h
  refine RT.iload_n (pc := 22) (k := 2) (x := s.1) dX12_match_22 rfl ?_
  refine RT.aload_n (pc := 23) (k := 0) (x := a0) dX12_match_23 rfl ?_
  obtain ⟨v24, hv24, h⟩ := Option.bind_eq_some_iff.mp h
  refine RT.gf 12 10 2 (pc := 24) (x := a0) (v := v24) hz dX12_match_24 fl_X12_13 rfl hv24 ?_
  refine RT.iconst (pc := 27) (n := 0) dX12_match_27 ⟨by decide, by decide⟩ ?_
  obtain ⟨v28, hv28, h⟩ := Option.bind_eq_some_iff.mp h
  refine RT.iald (pc := 28) (x := v24) (i := 0) (v := v28) dX12_match_28 (rt_lta hz (by decide) (by decide) hv28) hv28 ?_
  refine RT.icmp_ge (pc := 29) (tgt := 50) dX12_match_29 rfl (fun q29 => ?_) (fun q29 => ?_)
  · rw [if_pos q29] at h
    refine RT.wk (L1 := [(9, 0), (9, 0), (9, 0)]) (rt_le_j (rt_le_j (rt_le_j rt_le_n))) ?_
    obtain rfl := Option.some.inj h
    have q1 := hK.2.1 s.2 rfl
    try dsimp only at q1
    exact q1
  · rw [if_neg q29] at h
    refine RT.aload_n (pc := 32) (k := 0) (x := a0) dX12_match_32 rfl ?_
    obtain ⟨v33, hv33, h⟩ := Option.bind_eq_some_iff.mp h
    refine RT.gf 12 70 2 (pc := 33) (x := a0) (v := v33) hz dX12_match_33 fl_X12_162 rfl hv33 ?_
    refine RT.iload_n (pc := 36) (k := 2) (x := s.1) dX12_match_36 rfl ?_
    obtain ⟨v37, hv37, h⟩ := Option.bind_eq_some_iff.mp h
    refine RT.iald (pc := 37) (x := v33) (i := s.1) (v := v37) dX12_match_37 (rt_lta hz (by decide) (by decide) hv37) hv37 ?_
    refine RT.iload_n (pc := 38) (k := 1) (x := a1) dX12_match_38 rfl ?_
    refine RT.icmp_ne (pc := 39) (tgt := 44) dX12_match_39 rfl (fun q39 => ?_) (fun q39 => ?_)
    · rw [if_neg q39] at h
      refine RT.iinc (pc := 44) (x := s.1) (L1 := [(2, a0), (0, a1), (0, (rt_iadd s.1 1))]) dX12_match_44 rfl (Nat.le_of_ble_eq_true rfl) ⟨by decide, by decide⟩ rfl ?_
      refine RT.goto (pc := 47) (tgt := 22) dX12_match_47 rfl ?_
      obtain rfl := Option.some.inj h
      have q1 := hK.1 (((rt_iadd s.1 1), s.2)) rfl
      try dsimp only at q1
      exact q1
    · rw [if_pos (Classical.not_not.mp q39)] at h
      obtain ⟨t2, g2, e2⟩ := Option.map_eq_some_iff.mp h
      subst e2
      replace h := g2
      replace hK := hK.2.2 t2 rfl
      refine RT.iload_n (pc := 42) (k := 2) (x := s.1) dX12_match_42 rfl ?_
      obtain rfl := Option.some.inj h
      exact RT.iret (pc := 43) dX12_match_43 rfl (Nat.le_of_eq (rt_cells_0 z)) (Nat.le_of_eq (rt_slots_0 z)) hK
theorem c_X12_match {G : rt_G} {d : Nat} {z : Nat × Nat} (hz : 300 ≤ z.1) (hd : 8 ≤ d) (a0 : Int) (a1 : Int) (mem0 : rt_M) (t : Int × rt_M) (ht : rt_kd a0.toNat = 20 + 12) (h : f_X12_match a0 a1 mem0 = some t) : RM G M_X12_match d [(2, a0), (0, a1)] z mem0 (some (0, t.1)) t.2 := by
  suffices H : ∀ Q : rt_P, Q (some (0, t.1)) z t.2 → RT G M_X12_match d z Q 0 [(2, a0), (0, a1), (9, 0)] [] z mem0 from H _ ⟨rfl, rfl, rfl⟩
  intro Q hK
  unfold f_X12_match at h
  refine RT.aload_n (pc := 0) (k := 0) (x := a0) dX12_match_0 rfl ?_
  refine RT.iconst (pc := 1) (n := 0) dX12_match_1 ⟨by decide, by decide⟩ ?_
  obtain ⟨m2, hm2, h⟩ := Option.bind_eq_some_iff.mp h
  refine RT.pf_i 12 0 (pc := 2) (mem1 := m2) hz dX12_match_2 fl_X12_171 rfl rfl rfl hm2 ?_
  refine RT.aload_n (pc := 5) (k := 0) (x := a0) dX12_match_5 rfl ?_
  refine RT.iload_n (pc := 6) (k := 1) (x := a1) dX12_match_6 rfl ?_
  obtain ⟨p7, hp7, h⟩ := Option.bind_eq_some_iff.mp h
  refine RT.cVz (pc := 7) (M' := M_X12_isHead) (ci := 12) (x := a0) (As := [(0, a1)]) (st := []) (r := some (0, p7)) (mem1 := m2) (d' := d - 1) hz dX12_match_7 mw_X12_isHead ml_X12_417 mi_X12_isHead ht rfl rfl (Nat.le_of_ble_eq_true rfl) (Nat.le_of_ble_eq_true rfl) (by omega) rfl rfl (c_X12_isHead hz (by omega) a0 a1 m2 _ ht hp7) ?_
  refine RT.if_ne (pc := 10) (tgt := 16) dX12_match_10 rfl (fun q10 => ?_) (fun q10 => ?_)
  · rw [if_neg q10] at h
    refine RT.aload_n (pc := 16) (k := 0) (x := a0) dX12_match_16 rfl ?_
    obtain ⟨p17, hp17, h⟩ := Option.bind_eq_some_iff.mp h
    refine RT.cVz (pc := 17) (M' := M_X12_laysMatch) (ci := 12) (x := a0) (As := []) (st := []) (r := none) (mem1 := p17) (d' := d - 1) hz dX12_match_17 mw_X12_laysMatch ml_X12_497 mi_X12_laysMatch ht rfl rfl (Nat.le_of_ble_eq_true rfl) (Nat.le_of_ble_eq_true rfl) (by omega) rfl rfl (c_X12_laysMatch hz (by omega) a0 m2 _ ht hp17) ?_
    refine RT.iconst (pc := 20) (n := 0) dX12_match_20 ⟨by decide, by decide⟩ ?_
    refine RT.istore_n (pc := 21) (k := 2) (x := 0) (L1 := [(2, a0), (0, a1), (0, 0)]) dX12_match_21 (Nat.le_of_ble_eq_true rfl) rfl ?_
    obtain ⟨E22, hE22, h⟩ := Option.bind_eq_some_iff.mp h
    refine rt_it_ind (P := (fun s1 : Int × rt_M => RT G M_X12_match d z Q 22 [(2, a0), (0, a1), (0, s1.1)] [] z s1.2)) (X := (fun e1 : (rt_M) ⊕ (Int × rt_M) => (∀ x1 : rt_M, e1 = .inl x1 → RT G M_X12_match d z Q 50 [(9, 0), (9, 0), (9, 0)] [] z x1) ∧ (∀ t1 : Int × rt_M, e1 = .inr t1 → Q (some (0, t1.1)) z t1.2))) (fun s1 t1 h1 k1 k2 => cb_X12_match_22 hz hd ht a1 s1 t1 h1 ⟨k1, fun x1 q => (k2 _ q).1 x1 rfl, fun t2 q => (k2 _ q).2 t2 rfl⟩) 4000 ((0, p17)) E22 hE22 ?_
    cases E22 with
    | inr t1 =>
      obtain rfl := Option.some.inj h
      exact ⟨fun x1 q => (by cases q), fun t2 q => (by cases q; exact hK)⟩
    | inl X22 =>
      refine ⟨fun x1 q => ?_, fun t2 q => (by cases q)⟩
      cases q
      refine RT.iconst (pc := 50) (n := (-1)) dX12_match_50 ⟨by decide, by decide⟩ ?_
      obtain rfl := Option.some.inj h
      exact RT.iret (pc := 51) dX12_match_51 rfl (Nat.le_of_eq (rt_cells_0 z)) (Nat.le_of_eq (rt_slots_0 z)) hK
  · rw [if_pos (Classical.not_not.mp q10)] at h
    refine RT.bipush (pc := 13) (n := (-2)) dX12_match_13 ⟨by decide, by decide⟩ rfl ?_
    obtain rfl := Option.some.inj h
    exact RT.iret (pc := 15) dX12_match_15 rfl (Nat.le_of_eq (rt_cells_0 z)) (Nat.le_of_eq (rt_slots_0 z)) hK
theorem cj_X12_getsBy_10 {G : rt_G} {d : Nat} {z : Nat × Nat} {Q : rt_P} (hz : 300 ≤ z.1) (hd : 0 ≤ d) (a1 : Int) (a2 : Int) (s0 : Int) (mem0 : rt_M) (t : Int) (h : j_X12_getsBy_10 a1 a2 s0 mem0 = some t) (hK : Q (some (0, t)) z mem0) : RT G M_X12_getsBy d z Q 10 [(9, 0), (0, a1), (0, a2), (9, 0)] [(0, s0)] z mem0 := by
  unfold j_X12_getsBy_10 at h
  refine RT.iload_n (pc := 10) (k := 1) (x := a1) dX12_getsBy_10 rfl ?_
  refine RT.iload_n (pc := 11) (k := 2) (x := a2) dX12_getsBy_11 rfl ?_
  refine RT.imul (pc := 12) dX12_getsBy_12 ?_
  refine RT.isub (pc := 13) dX12_getsBy_13 ?_
  obtain rfl := Option.some.inj h
  exact RT.iret (pc := 14) dX12_getsBy_14 rfl (Nat.le_of_eq (rt_cells_0 z)) (Nat.le_of_eq (rt_slots_0 z)) hK
theorem c_X12_getsBy {G : rt_G} {d : Nat} {z : Nat × Nat} (hz : 300 ≤ z.1) (hd : 0 ≤ d) (a0 : Int) (a1 : Int) (a2 : Int) (a3 : Int) (mem0 : rt_M) (t : Int) (h : f_X12_getsBy a0 a1 a2 a3 mem0 = some t) : RM G M_X12_getsBy d [(0, a0), (0, a1), (0, a2), (0, a3)] z mem0 (some (0, t)) mem0 := by
  suffices H : ∀ Q : rt_P, Q (some (0, t)) z mem0 → RT G M_X12_getsBy d z Q 0 [(0, a0), (0, a1), (0, a2), (0, a3)] [] z mem0 from H _ ⟨rfl, rfl, rfl⟩
  intro Q hK
  unfold f_X12_getsBy at h
  refine RT.iload_n (pc := 0) (k := 2) (x := a2) dX12_getsBy_0 rfl ?_
  refine RT.iload_n (pc := 1) (k := 3) (x := a3) dX12_getsBy_1 rfl ?_
  refine RT.icmp_le (pc := 2) (tgt := 9) dX12_getsBy_2 rfl (fun q2 => ?_) (fun q2 => ?_)
  · rw [if_pos q2] at h
    refine RT.iconst (pc := 9) (n := 0) dX12_getsBy_9 ⟨by decide, by decide⟩ ?_
    refine RT.wk (L1 := [(9, 0), (0, a1), (0, a2), (9, 0)]) (rt_le_j (rt_le_s (rt_le_s (rt_le_j rt_le_n)))) ?_
    exact cj_X12_getsBy_10 hz hd a1 a2 0 mem0 _ h hK
  · rw [if_neg q2] at h
    refine RT.iload_n (pc := 5) (k := 0) (x := a0) dX12_getsBy_5 rfl ?_
    refine RT.goto (pc := 6) (tgt := 10) dX12_getsBy_6 rfl ?_
    refine RT.wk (L1 := [(9, 0), (0, a1), (0, a2), (9, 0)]) (rt_le_j (rt_le_s (rt_le_s (rt_le_j rt_le_n)))) ?_
    exact cj_X12_getsBy_10 hz hd a1 a2 a0 mem0 _ h hK
theorem cj_X12_isRest_46 {G : rt_G} {d : Nat} {z : Nat × Nat} {Q : rt_P} (hz : 300 ≤ z.1) (hd : 1 ≤ d) (mem0 : rt_M) (t : Int) (h : j_X12_isRest_46 mem0 = some t) (hK : Q (some (0, t)) z mem0) : RT G M_X12_isRest d z Q 46 [(9, 0), (9, 0), (9, 0), (9, 0), (9, 0)] [] z mem0 := by
  unfold j_X12_isRest_46 at h
  refine RT.iconst (pc := 46) (n := 0) dX12_isRest_46 ⟨by decide, by decide⟩ ?_
  obtain rfl := Option.some.inj h
  exact RT.zret (pc := 47) dX12_isRest_47 rfl (by decide) (Nat.le_of_eq (rt_cells_0 z)) (Nat.le_of_eq (rt_slots_0 z)) hK
theorem cb_X12_isRest_3 {G : rt_G} {d : Nat} {z : Nat × Nat} {Q : rt_P} (hz : 300 ≤ z.1) (hd : 1 ≤ d) (a0 : Int) (a1 : Int) (a2 : Int) (a3 : Int) (mem0 : rt_M) (s : Int) (t : (Int) ⊕ ((Unit) ⊕ (Int))) (h : b_X12_isRest_3 a0 a1 a2 a3 mem0 s = some t) (hK : (∀ s1 : Int, t = .inl s1 → RT G M_X12_isRest d z Q 3 [(0, a0), (0, a1), (0, a2), (0, a3), (0, s1)] [] z mem0) ∧ (∀ x1 : Unit, t = .inr (.inl x1) → RT G M_X12_isRest d z Q 54 [(9, 0), (9, 0), (9, 0), (9, 0), (9, 0)] [] z mem0) ∧ (∀ t1 : Int, t = .inr (.inr t1) → Q (some (0, t1)) z mem0)) : RT G M_X12_isRest d z Q 3 [(0, a0), (0, a1), (0, a2), (0, a3), (0, s)] [] z mem0 := by
  unfold b_X12_isRest_3 at h
  refine RT.iload (pc := 3) (k := 4) (x := s) dX12_isRest_3 rfl ?_
  refine RT.bipush (pc := 5) (n := 6) dX12_isRest_5 ⟨by decide, by decide⟩ rfl ?_
  refine RT.icmp_ge (pc := 7) (tgt := 54) dX12_isRest_7 rfl (fun q7 => ?_) (fun q7 => ?_)
  · rw [if_pos q7] at h
    refine RT.wk (L1 := [(9, 0), (9, 0), (9, 0), (9, 0), (9, 0)]) (rt_le_j (rt_le_j (rt_le_j (rt_le_j (rt_le_j rt_le_n))))) ?_
    obtain rfl := Option.some.inj h
    have q1 := hK.2.1 () rfl
    try dsimp only at q1
    exact q1
  · rw [if_neg q7] at h
    refine RT.iload_n (pc := 10) (k := 0) (x := a0) dX12_isRest_10 rfl ?_
    refine RT.iload_n (pc := 11) (k := 1) (x := a1) dX12_isRest_11 rfl ?_
    refine RT.iload (pc := 12) (k := 4) (x := s) dX12_isRest_12 rfl ?_
    refine RT.iload_n (pc := 14) (k := 3) (x := a3) dX12_isRest_14 rfl ?_
    obtain ⟨p15, hp15, h⟩ := Option.bind_eq_some_iff.mp h
    refine RT.cSz (pc := 15) (M' := M_X12_getsBy) (As := [(0, a0), (0, a1), (0, s), (0, a3)]) (st := []) (r := some (0, p15)) (mem1 := mem0) (d' := d - 1) dX12_isRest_15 mw_X12_getsBy ml_X12_500 mi_X12_getsBy rfl rfl (Nat.le_of_ble_eq_true rfl) (Nat.le_of_ble_eq_true rfl) (by omega) rfl rfl (c_X12_getsBy hz (by omega) a0 a1 s a3 mem0 _ hp15) ?_
    refine RT.iload_n (pc := 18) (k := 0) (x := a0) dX12_isRest_18 rfl ?_
    refine RT.iload_n (pc := 19) (k := 1) (x := a1) dX12_isRest_19 rfl ?_
    refine RT.iload_n (pc := 20) (k := 2) (x := a2) dX12_isRest_20 rfl ?_
    refine RT.iload_n (pc := 21) (k := 3) (x := a3) dX12_isRest_21 rfl ?_
    obtain ⟨p22, hp22, h⟩ := Option.bind_eq_some_iff.mp h
    refine RT.cSz (pc := 22) (M' := M_X12_getsBy) (As := [(0, a0), (0, a1), (0, a2), (0, a3)]) (st := [(0, p15)]) (r := some (0, p22)) (mem1 := mem0) (d' := d - 1) dX12_isRest_22 mw_X12_getsBy ml_X12_500 mi_X12_getsBy rfl rfl (Nat.le_of_ble_eq_true rfl) (Nat.le_of_ble_eq_true rfl) (by omega) rfl rfl (c_X12_getsBy hz (by omega) a0 a1 a2 a3 mem0 _ hp22) ?_
    refine RT.icmp_gt (pc := 25) (tgt := 46) dX12_isRest_25 rfl (fun q25 => ?_) (fun q25 => ?_)
    · rw [if_pos q25] at h
      obtain ⟨t2, g2, e2⟩ := Option.map_eq_some_iff.mp h
      subst e2
      replace h := g2
      replace hK := hK.2.2 t2 rfl
      refine RT.wk (L1 := [(9, 0), (9, 0), (9, 0), (9, 0), (9, 0)]) (rt_le_j (rt_le_j (rt_le_j (rt_le_j (rt_le_j rt_le_n))))) ?_
      exact cj_X12_isRest_46 hz hd mem0 _ h hK
    · rw [if_neg q25] at h
      refine RT.iload_n (pc := 28) (k := 0) (x := a0) dX12_isRest_28 rfl ?_
      refine RT.iload_n (pc := 29) (k := 1) (x := a1) dX12_isRest_29 rfl ?_
      refine RT.iload (pc := 30) (k := 4) (x := s) dX12_isRest_30 rfl ?_
      refine RT.iload_n (pc := 32) (k := 2) (x := a2) dX12_isRest_32 rfl ?_
      obtain ⟨p33, hp33, h⟩ := Option.bind_eq_some_iff.mp h
      refine RT.cSz (pc := 33) (M' := M_X12_getsBy) (As := [(0, a0), (0, a1), (0, s), (0, a2)]) (st := []) (r := some (0, p33)) (mem1 := mem0) (d' := d - 1) dX12_isRest_33 mw_X12_getsBy ml_X12_500 mi_X12_getsBy rfl rfl (Nat.le_of_ble_eq_true rfl) (Nat.le_of_ble_eq_true rfl) (by omega) rfl rfl (c_X12_getsBy hz (by omega) a0 a1 s a2 mem0 _ hp33) ?_
      refine RT.iload_n (pc := 36) (k := 0) (x := a0) dX12_isRest_36 rfl ?_
      refine RT.iload_n (pc := 37) (k := 1) (x := a1) dX12_isRest_37 rfl ?_
      refine RT.iload_n (pc := 38) (k := 3) (x := a3) dX12_isRest_38 rfl ?_
      refine RT.iload_n (pc := 39) (k := 2) (x := a2) dX12_isRest_39 rfl ?_
      obtain ⟨p40, hp40, h⟩ := Option.bind_eq_some_iff.mp h
      refine RT.cSz (pc := 40) (M' := M_X12_getsBy) (As := [(0, a0), (0, a1), (0, a3), (0, a2)]) (st := [(0, p33)]) (r := some (0, p40)) (mem1 := mem0) (d' := d - 1) dX12_isRest_40 mw_X12_getsBy ml_X12_500 mi_X12_getsBy rfl rfl (Nat.le_of_ble_eq_true rfl) (Nat.le_of_ble_eq_true rfl) (by omega) rfl rfl (c_X12_getsBy hz (by omega) a0 a1 a3 a2 mem0 _ hp40) ?_
      refine RT.icmp_le (pc := 43) (tgt := 48) dX12_isRest_43 rfl (fun q43 => ?_) (fun q43 => ?_)
      · rw [if_pos q43] at h
        refine RT.iinc (pc := 48) (x := s) (L1 := [(0, a0), (0, a1), (0, a2), (0, a3), (0, (rt_iadd s 1))]) dX12_isRest_48 rfl (Nat.le_of_ble_eq_true rfl) ⟨by decide, by decide⟩ rfl ?_
        refine RT.goto (pc := 51) (tgt := 3) dX12_isRest_51 rfl ?_
        obtain rfl := Option.some.inj h
        have q1 := hK.1 ((rt_iadd s 1)) rfl
        try dsimp only at q1
        exact q1
      · rw [if_neg q43] at h
        obtain ⟨t2, g2, e2⟩ := Option.map_eq_some_iff.mp h
        subst e2
        replace h := g2
        replace hK := hK.2.2 t2 rfl
        refine RT.wk (L1 := [(9, 0), (9, 0), (9, 0), (9, 0), (9, 0)]) (rt_le_j (rt_le_j (rt_le_j (rt_le_j (rt_le_j rt_le_n))))) ?_
        exact cj_X12_isRest_46 hz hd mem0 _ h hK
theorem c_X12_isRest {G : rt_G} {d : Nat} {z : Nat × Nat} (hz : 300 ≤ z.1) (hd : 1 ≤ d) (a0 : Int) (a1 : Int) (a2 : Int) (a3 : Int) (mem0 : rt_M) (t : Int) (h : f_X12_isRest a0 a1 a2 a3 mem0 = some t) : RM G M_X12_isRest d [(0, a0), (0, a1), (0, a2), (0, a3)] z mem0 (some (0, t)) mem0 := by
  suffices H : ∀ Q : rt_P, Q (some (0, t)) z mem0 → RT G M_X12_isRest d z Q 0 [(0, a0), (0, a1), (0, a2), (0, a3), (9, 0)] [] z mem0 from H _ ⟨rfl, rfl, rfl⟩
  intro Q hK
  unfold f_X12_isRest at h
  refine RT.iconst (pc := 0) (n := 0) dX12_isRest_0 ⟨by decide, by decide⟩ ?_
  refine RT.istore (pc := 1) (k := 4) (x := 0) (L1 := [(0, a0), (0, a1), (0, a2), (0, a3), (0, 0)]) dX12_isRest_1 (Nat.le_of_ble_eq_true rfl) rfl ?_
  obtain ⟨E3, hE3, h⟩ := Option.bind_eq_some_iff.mp h
  refine rt_it_ind (P := (fun s1 : Int => RT G M_X12_isRest d z Q 3 [(0, a0), (0, a1), (0, a2), (0, a3), (0, s1)] [] z mem0)) (X := (fun e1 : (Unit) ⊕ (Int) => (∀ x1 : Unit, e1 = .inl x1 → RT G M_X12_isRest d z Q 54 [(9, 0), (9, 0), (9, 0), (9, 0), (9, 0)] [] z mem0) ∧ (∀ t1 : Int, e1 = .inr t1 → Q (some (0, t1)) z mem0))) (fun s1 t1 h1 k1 k2 => cb_X12_isRest_3 hz hd a0 a1 a2 a3 mem0 s1 t1 h1 ⟨k1, fun x1 q => (k2 _ q).1 x1 rfl, fun t2 q => (k2 _ q).2 t2 rfl⟩) 4000 0 E3 hE3 ?_
  cases E3 with
  | inr t1 =>
    obtain rfl := Option.some.inj h
    exact ⟨fun x1 q => (by cases q), fun t2 q => (by cases q; exact hK)⟩
  | inl X3 =>
    refine ⟨fun x1 q => ?_, fun t2 q => (by cases q)⟩
    cases q
    refine RT.iconst (pc := 54) (n := 1) dX12_isRest_54 ⟨by decide, by decide⟩ ?_
    obtain rfl := Option.some.inj h
    exact RT.zret (pc := 55) dX12_isRest_55 rfl (by decide) (Nat.le_of_eq (rt_cells_0 z)) (Nat.le_of_eq (rt_slots_0 z)) hK
theorem cj_X12_rests_102_50 {G : rt_G} {d : Nat} {z : Nat × Nat} {Q : rt_P} (hz : 300 ≤ z.1) (hd : 2 ≤ d) {a0 : Int} (ht : rt_kd a0.toNat = 20 + 12) (a1 : Int) (a2 : Int) (a3 : Int) (a4 : Int) (a5 : Int) (mem0 : rt_M) (t : (Int × Int × rt_M) ⊕ ((Int × rt_M) ⊕ (Int × rt_M))) (h : j_X12_rests_102_50 a0 a1 a2 a3 a4 a5 mem0 = some t) (hK : (∀ s1 : Int × Int × rt_M, t = .inl s1 → RT G M_X12_rests d z Q 50 [(2, a0), (0, a1), (0, a2), (0, a3), (0, s1.1), (0, s1.2.1)] [] z s1.2.2) ∧ (∀ x1 : Int × rt_M, t = .inr (.inl x1) → RT G M_X12_rests d z Q 108 [(2, a0), (9, 0), (9, 0), (0, a3), (0, x1.1), (9, 0)] [] z x1.2) ∧ (∀ t1 : Int × rt_M, t = .inr (.inr t1) → Q (some (0, t1.1)) z t1.2)) : RT G M_X12_rests d z Q 102 [(2, a0), (0, a1), (0, a2), (0, a3), (0, a4), (0, a5)] [] z mem0 := by
  unfold j_X12_rests_102_50 at h
  refine RT.iinc (pc := 102) (x := a5) (L1 := [(2, a0), (0, a1), (0, a2), (0, a3), (0, a4), (0, (rt_iadd a5 1))]) dX12_rests_102 rfl (Nat.le_of_ble_eq_true rfl) ⟨by decide, by decide⟩ rfl ?_
  refine RT.goto (pc := 105) (tgt := 50) dX12_rests_105 rfl ?_
  obtain rfl := Option.some.inj h
  have q1 := hK.1 ((a4, (rt_iadd a5 1), mem0)) rfl
  try dsimp only at q1
  exact q1
theorem cb_X12_rests_50 {G : rt_G} {d : Nat} {z : Nat × Nat} {Q : rt_P} (hz : 300 ≤ z.1) (hd : 2 ≤ d) {a0 : Int} (ht : rt_kd a0.toNat = 20 + 12) (a1 : Int) (a2 : Int) (a3 : Int) (s : Int × Int × rt_M) (t : (Int × Int × rt_M) ⊕ ((Int × rt_M) ⊕ (Int × rt_M))) (h : b_X12_rests_50 a0 a1 a2 a3 s = some t) (hK : (∀ s1 : Int × Int × rt_M, t = .inl s1 → RT G M_X12_rests d z Q 50 [(2, a0), (0, a1), (0, a2), (0, a3), (0, s1.1), (0, s1.2.1)] [] z s1.2.2) ∧ (∀ x1 : Int × rt_M, t = .inr (.inl x1) → RT G M_X12_rests d z Q 108 [(2, a0), (9, 0), (9, 0), (0, a3), (0, x1.1), (9, 0)] [] z x1.2) ∧ (∀ t1 : Int × rt_M, t = .inr (.inr t1) → Q (some (0, t1.1)) z t1.2)) : RT G M_X12_rests d z Q 50 [(2, a0), (0, a1), (0, a2), (0, a3), (0, s.1), (0, s.2.1)] [] z s.2.2 := by
  unfold b_X12_rests_50 at h
  refine RT.iload (pc := 50) (k := 5) (x := s.2.1) dX12_rests_50 rfl ?_
  refine RT.bipush (pc := 52) (n := 36) dX12_rests_52 ⟨by decide, by decide⟩ rfl ?_
  refine RT.icmp_ge (pc := 54) (tgt := 108) dX12_rests_54 rfl (fun q54 => ?_) (fun q54 => ?_)
  · rw [if_pos q54] at h
    refine RT.wk (L1 := [(2, a0), (9, 0), (9, 0), (0, a3), (0, s.1), (9, 0)]) (rt_le_s (rt_le_j (rt_le_j (rt_le_s (rt_le_s (rt_le_j rt_le_n)))))) ?_
    obtain rfl := Option.some.inj h
    have q1 := hK.2.1 ((s.1, s.2.2)) rfl
    try dsimp only at q1
    exact q1
  · rw [if_neg q54] at h
    refine RT.iload_n (pc := 57) (k := 1) (x := a1) dX12_rests_57 rfl ?_
    refine RT.iload_n (pc := 58) (k := 2) (x := a2) dX12_rests_58 rfl ?_
    refine RT.iload (pc := 59) (k := 5) (x := s.2.1) dX12_rests_59 rfl ?_
    refine RT.bipush (pc := 61) (n := 6) dX12_rests_61 ⟨by decide, by decide⟩ rfl ?_
    refine RT.idiv (pc := 63) dX12_rests_63 (by decide) ?_
    refine RT.iload (pc := 64) (k := 5) (x := s.2.1) dX12_rests_64 rfl ?_
    refine RT.bipush (pc := 66) (n := 6) dX12_rests_66 ⟨by decide, by decide⟩ rfl ?_
    refine RT.irem (pc := 68) dX12_rests_68 (by decide) ?_
    obtain ⟨p69, hp69, h⟩ := Option.bind_eq_some_iff.mp h
    refine RT.cSz (pc := 69) (M' := M_X12_isRest) (As := [(0, a1), (0, a2), (0, (rt_idiv s.2.1 6)), (0, (rt_irem s.2.1 6))]) (st := []) (r := some (0, p69)) (mem1 := s.2.2) (d' := d - 1) dX12_rests_69 mw_X12_isRest ml_X12_504 mi_X12_isRest rfl rfl (Nat.le_of_ble_eq_true rfl) (Nat.le_of_ble_eq_true rfl) (by omega) rfl rfl (c_X12_isRest hz (by omega) a1 a2 ((rt_idiv s.2.1 6)) ((rt_irem s.2.1 6)) s.2.2 _ hp69) ?_
    refine RT.if_ne (pc := 72) (tgt := 78) dX12_rests_72 rfl (fun q72 => ?_) (fun q72 => ?_)
    · rw [if_neg q72] at h
      refine RT.iload (pc := 78) (k := 4) (x := s.1) dX12_rests_78 rfl ?_
      refine RT.iload_n (pc := 80) (k := 3) (x := a3) dX12_rests_80 rfl ?_
      refine RT.icmp_ne (pc := 81) (tgt := 99) dX12_rests_81 rfl (fun q81 => ?_) (fun q81 => ?_)
      · rw [if_neg q81] at h
        refine RT.iinc (pc := 99) (x := s.1) (L1 := [(2, a0), (0, a1), (0, a2), (0, a3), (0, (rt_iadd s.1 1)), (0, s.2.1)]) dX12_rests_99 rfl (Nat.le_of_ble_eq_true rfl) ⟨by decide, by decide⟩ rfl ?_
        exact cj_X12_rests_102_50 hz hd ht a1 a2 a3 ((rt_iadd s.1 1)) s.2.1 s.2.2 _ h hK
      · rw [if_pos (Classical.not_not.mp q81)] at h
        obtain ⟨t2, g2, e2⟩ := Option.map_eq_some_iff.mp h
        subst e2
        replace h := g2
        replace hK := hK.2.2 t2 rfl
        refine RT.bipush (pc := 84) (n := 10) dX12_rests_84 ⟨by decide, by decide⟩ rfl ?_
        refine RT.iload (pc := 86) (k := 5) (x := s.2.1) dX12_rests_86 rfl ?_
        refine RT.bipush (pc := 88) (n := 6) dX12_rests_88 ⟨by decide, by decide⟩ rfl ?_
        refine RT.idiv (pc := 90) dX12_rests_90 (by decide) ?_
        refine RT.imul (pc := 91) dX12_rests_91 ?_
        refine RT.iload (pc := 92) (k := 5) (x := s.2.1) dX12_rests_92 rfl ?_
        refine RT.bipush (pc := 94) (n := 6) dX12_rests_94 ⟨by decide, by decide⟩ rfl ?_
        refine RT.irem (pc := 96) dX12_rests_96 (by decide) ?_
        refine RT.iadd (pc := 97) dX12_rests_97 ?_
        obtain rfl := Option.some.inj h
        exact RT.iret (pc := 98) dX12_rests_98 rfl (Nat.le_of_eq (rt_cells_0 z)) (Nat.le_of_eq (rt_slots_0 z)) hK
    · rw [if_pos (Classical.not_not.mp q72)] at h
      refine RT.goto (pc := 75) (tgt := 102) dX12_rests_75 rfl ?_
      exact cj_X12_rests_102_50 hz hd ht a1 a2 a3 s.1 s.2.1 s.2.2 _ h hK
theorem cj_X12_rests_133 {G : rt_G} {d : Nat} {z : Nat × Nat} {Q : rt_P} (hz : 300 ≤ z.1) (hd : 2 ≤ d) {a0 : Int} (ht : rt_kd a0.toNat = 20 + 12) (s0 : Int) (mem0 : rt_M) (t : Int × rt_M) (h : j_X12_rests_133 s0 mem0 = some t) (hK : Q (some (0, t.1)) z t.2) : RT G M_X12_rests d z Q 133 [(9, 0), (9, 0), (9, 0), (9, 0), (9, 0), (9, 0)] [(0, s0)] z mem0 := by
  unfold j_X12_rests_133 at h
  obtain rfl := Option.some.inj h
  exact RT.iret (pc := 133) dX12_rests_133 rfl (Nat.le_of_eq (rt_cells_0 z)) (Nat.le_of_eq (rt_slots_0 z)) hK
theorem cj_X12_rests_119 {G : rt_G} {d : Nat} {z : Nat × Nat} {Q : rt_P} (hz : 300 ≤ z.1) (hd : 2 ≤ d) {a0 : Int} (ht : rt_kd a0.toNat = 20 + 12) (a3 : Int) (a4 : Int) (s0 : Int) (s1 : Int) (mem0 : rt_M) (t : Int × rt_M) (h : j_X12_rests_119 a3 a4 s0 s1 mem0 = some t) (hK : Q (some (0, t.1)) z t.2) : RT G M_X12_rests d z Q 119 [(9, 0), (9, 0), (9, 0), (0, a3), (0, a4), (9, 0)] [(0, s1), (2, s0)] z mem0 := by
  unfold j_X12_rests_119 at h
  obtain ⟨m119, hm119, h⟩ := Option.bind_eq_some_iff.mp h
  refine RT.pf_i 12 0 (pc := 119) (mem1 := m119) hz dX12_rests_119 fl_X12_171 rfl rfl rfl hm119 ?_
  refine RT.iload_n (pc := 122) (k := 3) (x := a3) dX12_rests_122 rfl ?_
  refine RT.iconst (pc := 123) (n := (-1)) dX12_rests_123 ⟨by decide, by decide⟩ ?_
  refine RT.icmp_ne (pc := 124) (tgt := 132) dX12_rests_124 rfl (fun q124 => ?_) (fun q124 => ?_)
  · rw [if_neg q124] at h
    refine RT.iconst (pc := 132) (n := 0) dX12_rests_132 ⟨by decide, by decide⟩ ?_
    refine RT.wk (L1 := [(9, 0), (9, 0), (9, 0), (9, 0), (9, 0), (9, 0)]) (rt_le_s (rt_le_s (rt_le_s (rt_le_j (rt_le_j (rt_le_s rt_le_n)))))) ?_
    exact cj_X12_rests_133 hz hd ht 0 m119 _ h hK
  · rw [if_pos (Classical.not_not.mp q124)] at h
    refine RT.iload (pc := 127) (k := 4) (x := a4) dX12_rests_127 rfl ?_
    refine RT.goto (pc := 129) (tgt := 133) dX12_rests_129 rfl ?_
    refine RT.wk (L1 := [(9, 0), (9, 0), (9, 0), (9, 0), (9, 0), (9, 0)]) (rt_le_s (rt_le_s (rt_le_s (rt_le_j (rt_le_j (rt_le_s rt_le_n)))))) ?_
    exact cj_X12_rests_133 hz hd ht a4 m119 _ h hK
theorem cj_X12_rests_31 {G : rt_G} {d : Nat} {z : Nat × Nat} {Q : rt_P} (hz : 300 ≤ z.1) (hd : 2 ≤ d) {a0 : Int} (ht : rt_kd a0.toNat = 20 + 12) (a1 : Int) (a2 : Int) (a3 : Int) (s0 : Int) (s1 : Int) (mem0 : rt_M) (t : Int × rt_M) (h : j_X12_rests_31 a0 a1 a2 a3 s0 s1 mem0 = some t) (hK : Q (some (0, t.1)) z t.2) : RT G M_X12_rests d z Q 31 [(2, a0), (0, a1), (0, a2), (0, a3), (9, 0), (9, 0)] [(0, s1), (2, s0)] z mem0 := by
  unfold j_X12_rests_31 at h
  obtain ⟨m31, hm31, h⟩ := Option.bind_eq_some_iff.mp h
  refine RT.pf_i 12 0 (pc := 31) (mem1 := m31) hz dX12_rests_31 fl_X12_171 rfl rfl rfl hm31 ?_
  refine RT.aload_n (pc := 34) (k := 0) (x := a0) dX12_rests_34 rfl ?_
  obtain ⟨v35, hv35, h⟩ := Option.bind_eq_some_iff.mp h
  refine RT.gf 12 0 0 (pc := 35) (x := a0) (v := v35) hz dX12_rests_35 fl_X12_171 rfl hv35 ?_
  refine RT.iconst (pc := 38) (n := 1) dX12_rests_38 ⟨by decide, by decide⟩ ?_
  refine RT.icmp_ne (pc := 39) (tgt := 44) dX12_rests_39 rfl (fun q39 => ?_) (fun q39 => ?_)
  · rw [if_neg q39] at h
    refine RT.iconst (pc := 44) (n := 0) dX12_rests_44 ⟨by decide, by decide⟩ ?_
    refine RT.istore (pc := 45) (k := 4) (x := 0) (L1 := [(2, a0), (0, a1), (0, a2), (0, a3), (0, 0), (9, 0)]) dX12_rests_45 (Nat.le_of_ble_eq_true rfl) rfl ?_
    refine RT.iconst (pc := 47) (n := 0) dX12_rests_47 ⟨by decide, by decide⟩ ?_
    refine RT.istore (pc := 48) (k := 5) (x := 0) (L1 := [(2, a0), (0, a1), (0, a2), (0, a3), (0, 0), (0, 0)]) dX12_rests_48 (Nat.le_of_ble_eq_true rfl) rfl ?_
    obtain ⟨E50, hE50, h⟩ := Option.bind_eq_some_iff.mp h
    refine rt_it_ind (P := (fun s1 : Int × Int × rt_M => RT G M_X12_rests d z Q 50 [(2, a0), (0, a1), (0, a2), (0, a3), (0, s1.1), (0, s1.2.1)] [] z s1.2.2)) (X := (fun e1 : (Int × rt_M) ⊕ (Int × rt_M) => (∀ x1 : Int × rt_M, e1 = .inl x1 → RT G M_X12_rests d z Q 108 [(2, a0), (9, 0), (9, 0), (0, a3), (0, x1.1), (9, 0)] [] z x1.2) ∧ (∀ t1 : Int × rt_M, e1 = .inr t1 → Q (some (0, t1.1)) z t1.2))) (fun s1 t1 h1 k1 k2 => cb_X12_rests_50 hz hd ht a1 a2 a3 s1 t1 h1 ⟨k1, fun x1 q => (k2 _ q).1 x1 rfl, fun t2 q => (k2 _ q).2 t2 rfl⟩) 4000 ((0, 0, m31)) E50 hE50 ?_
    cases E50 with
    | inr t1 =>
      obtain rfl := Option.some.inj h
      exact ⟨fun x1 q => (by cases q), fun t2 q => (by cases q; exact hK)⟩
    | inl X50 =>
      refine ⟨fun x1 q => ?_, fun t2 q => (by cases q)⟩
      cases q
      dsimp only at h
      refine RT.aload_n (pc := 108) (k := 0) (x := a0) dX12_rests_108 rfl ?_
      refine RT.iload_n (pc := 109) (k := 3) (x := a3) dX12_rests_109 rfl ?_
      refine RT.iconst (pc := 110) (n := (-1)) dX12_rests_110 ⟨by decide, by decide⟩ ?_
      refine RT.icmp_ne (pc := 111) (tgt := 118) dX12_rests_111 rfl (fun q111 => ?_) (fun q111 => ?_)
      · rw [if_neg q111] at h
        refine RT.iconst (pc := 118) (n := 1) dX12_rests_118 ⟨by decide, by decide⟩ ?_
        refine RT.wk (L1 := [(9, 0), (9, 0), (9, 0), (0, a3), (0, X50.1), (9, 0)]) (rt_le_j (rt_le_s (rt_le_s (rt_le_s (rt_le_s (rt_le_s rt_le_n)))))) ?_
        exact cj_X12_rests_119 hz hd ht a3 X50.1 a0 1 X50.2 _ h hK
      · rw [if_pos (Classical.not_not.mp q111)] at h
        refine RT.iconst (pc := 114) (n := 0) dX12_rests_114 ⟨by decide, by decide⟩ ?_
        refine RT.goto (pc := 115) (tgt := 119) dX12_rests_115 rfl ?_
        refine RT.wk (L1 := [(9, 0), (9, 0), (9, 0), (0, a3), (0, X50.1), (9, 0)]) (rt_le_j (rt_le_s (rt_le_s (rt_le_s (rt_le_s (rt_le_s rt_le_n)))))) ?_
        exact cj_X12_rests_119 hz hd ht a3 X50.1 a0 0 X50.2 _ h hK
  · rw [if_pos (Classical.not_not.mp q39)] at h
    refine RT.iconst (pc := 42) (n := 0) dX12_rests_42 ⟨by decide, by decide⟩ ?_
    obtain rfl := Option.some.inj h
    exact RT.iret (pc := 43) dX12_rests_43 rfl (Nat.le_of_eq (rt_cells_0 z)) (Nat.le_of_eq (rt_slots_0 z)) hK
theorem cj_X12_rests_30 {G : rt_G} {d : Nat} {z : Nat × Nat} {Q : rt_P} (hz : 300 ≤ z.1) (hd : 2 ≤ d) {a0 : Int} (ht : rt_kd a0.toNat = 20 + 12) (a1 : Int) (a2 : Int) (a3 : Int) (s0 : Int) (mem0 : rt_M) (t : Int × rt_M) (h : j_X12_rests_30 a0 a1 a2 a3 s0 mem0 = some t) (hK : Q (some (0, t.1)) z t.2) : RT G M_X12_rests d z Q 30 [(2, a0), (0, a1), (0, a2), (0, a3), (9, 0), (9, 0)] [(2, s0)] z mem0 := by
  unfold j_X12_rests_30 at h
  refine RT.iconst (pc := 30) (n := 1) dX12_rests_30 ⟨by decide, by decide⟩ ?_
  exact cj_X12_rests_31 hz hd ht a1 a2 a3 s0 1 mem0 _ h hK
theorem c_X12_rests {G : rt_G} {d : Nat} {z : Nat × Nat} (hz : 300 ≤ z.1) (hd : 2 ≤ d) (a0 : Int) (a1 : Int) (a2 : Int) (a3 : Int) (mem0 : rt_M) (t : Int × rt_M) (ht : rt_kd a0.toNat = 20 + 12) (h : f_X12_rests a0 a1 a2 a3 mem0 = some t) : RM G M_X12_rests d [(2, a0), (0, a1), (0, a2), (0, a3)] z mem0 (some (0, t.1)) t.2 := by
  suffices H : ∀ Q : rt_P, Q (some (0, t.1)) z t.2 → RT G M_X12_rests d z Q 0 [(2, a0), (0, a1), (0, a2), (0, a3), (9, 0), (9, 0)] [] z mem0 from H _ ⟨rfl, rfl, rfl⟩
  intro Q hK
  unfold f_X12_rests at h
  refine RT.aload_n (pc := 0) (k := 0) (x := a0) dX12_rests_0 rfl ?_
  refine RT.iload_n (pc := 1) (k := 1) (x := a1) dX12_rests_1 rfl ?_
  refine RT.iconst (pc := 2) (n := 0) dX12_rests_2 ⟨by decide, by decide⟩ ?_
  refine RT.bipush (pc := 3) (n := 9) dX12_rests_3 ⟨by decide, by decide⟩ rfl ?_
  obtain ⟨p5, hp5, h⟩ := Option.bind_eq_some_iff.mp h
  refine RT.cSz (pc := 5) (M' := M_X12_within) (As := [(0, a1), (0, 0), (0, 9)]) (st := [(2, a0)]) (r := some (0, p5)) (mem1 := mem0) (d' := d - 1) dX12_rests_5 mw_X12_within ml_X12_301 mi_X12_within rfl rfl (Nat.le_of_ble_eq_true rfl) (Nat.le_of_ble_eq_true rfl) (by omega) rfl rfl (c_X12_within hz (by omega) a1 0 9 mem0 _ hp5) ?_
  refine RT.if_eq (pc := 8) (tgt := 30) dX12_rests_8 rfl (fun q8 => ?_) (fun q8 => ?_)
  · rw [if_pos q8] at h
    exact cj_X12_rests_30 hz hd ht a1 a2 a3 a0 mem0 _ h hK
  · rw [if_neg q8] at h
    refine RT.iload_n (pc := 11) (k := 2) (x := a2) dX12_rests_11 rfl ?_
    refine RT.iconst (pc := 12) (n := 0) dX12_rests_12 ⟨by decide, by decide⟩ ?_
    refine RT.bipush (pc := 13) (n := 9) dX12_rests_13 ⟨by decide, by decide⟩ rfl ?_
    obtain ⟨p15, hp15, h⟩ := Option.bind_eq_some_iff.mp h
    refine RT.cSz (pc := 15) (M' := M_X12_within) (As := [(0, a2), (0, 0), (0, 9)]) (st := [(2, a0)]) (r := some (0, p15)) (mem1 := mem0) (d' := d - 1) dX12_rests_15 mw_X12_within ml_X12_301 mi_X12_within rfl rfl (Nat.le_of_ble_eq_true rfl) (Nat.le_of_ble_eq_true rfl) (by omega) rfl rfl (c_X12_within hz (by omega) a2 0 9 mem0 _ hp15) ?_
    refine RT.if_eq (pc := 18) (tgt := 30) dX12_rests_18 rfl (fun q18 => ?_) (fun q18 => ?_)
    · rw [if_pos q18] at h
      exact cj_X12_rests_30 hz hd ht a1 a2 a3 a0 mem0 _ h hK
    · rw [if_neg q18] at h
      refine RT.iload_n (pc := 21) (k := 3) (x := a3) dX12_rests_21 rfl ?_
      refine RT.iconst (pc := 22) (n := (-1)) dX12_rests_22 ⟨by decide, by decide⟩ ?_
      refine RT.icmp_lt (pc := 23) (tgt := 30) dX12_rests_23 rfl (fun q23 => ?_) (fun q23 => ?_)
      · rw [if_pos q23] at h
        exact cj_X12_rests_30 hz hd ht a1 a2 a3 a0 mem0 _ h hK
      · rw [if_neg q23] at h
        refine RT.iconst (pc := 26) (n := 0) dX12_rests_26 ⟨by decide, by decide⟩ ?_
        refine RT.goto (pc := 27) (tgt := 31) dX12_rests_27 rfl ?_
        exact cj_X12_rests_31 hz hd ht a1 a2 a3 a0 0 mem0 _ h hK
theorem cb_X12_power0_5 {G : rt_G} {d : Nat} {z : Nat × Nat} {Q : rt_P} (hz : 300 ≤ z.1) (hd : 0 ≤ d) (a0 : Int) (a1 : Int) (mem0 : rt_M) (s : Int × Int) (t : (Int × Int) ⊕ (Int)) (h : b_X12_power0_5 a0 a1 mem0 s = some t) (hK : (∀ s1 : Int × Int, t = .inl s1 → RT G M_X12_power0 d z Q 5 [(0, a0), (0, a1), (1, s1.1), (9, 0), (0, s1.2)] [] z mem0) ∧ (∀ x1 : Int, t = .inr x1 → RT G M_X12_power0 d z Q 22 [(9, 0), (9, 0), (1, x1), (9, 0), (9, 0)] [] z mem0)) : RT G M_X12_power0 d z Q 5 [(0, a0), (0, a1), (1, s.1), (9, 0), (0, s.2)] [] z mem0 := by
  unfold b_X12_power0_5 at h
  refine RT.iload (pc := 5) (k := 4) (x := s.2) dX12_power0_5 rfl ?_
  refine RT.iload_n (pc := 7) (k := 1) (x := a1) dX12_power0_7 rfl ?_
  refine RT.icmp_ge (pc := 8) (tgt := 22) dX12_power0_8 rfl (fun q8 => ?_) (fun q8 => ?_)
  · rw [if_pos q8] at h
    refine RT.wk (L1 := [(9, 0), (9, 0), (1, s.1), (9, 0), (9, 0)]) (rt_le_j (rt_le_j (rt_le_s (rt_le_s (rt_le_j rt_le_n))))) ?_
    obtain rfl := Option.some.inj h
    have q1 := hK.2 s.1 rfl
    try dsimp only at q1
    exact q1
  · rw [if_neg q8] at h
    refine RT.lload_n (pc := 11) (k := 2) (x := s.1) dX12_power0_11 rfl ?_
    refine RT.iload_n (pc := 12) (k := 0) (x := a0) dX12_power0_12 rfl ?_
    refine RT.i2l (pc := 13) dX12_power0_13 ?_
    refine RT.lmul (pc := 14) dX12_power0_14 ?_
    refine RT.lstore_n (pc := 15) (k := 2) (x := (rt_lmul s.1 a0)) (L1 := [(0, a0), (0, a1), (1, (rt_lmul s.1 a0)), (9, 0), (0, s.2)]) dX12_power0_15 (Nat.le_of_ble_eq_true rfl) rfl ?_
    refine RT.iinc (pc := 16) (x := s.2) (L1 := [(0, a0), (0, a1), (1, (rt_lmul s.1 a0)), (9, 0), (0, (rt_iadd s.2 1))]) dX12_power0_16 rfl (Nat.le_of_ble_eq_true rfl) ⟨by decide, by decide⟩ rfl ?_
    refine RT.goto (pc := 19) (tgt := 5) dX12_power0_19 rfl ?_
    obtain rfl := Option.some.inj h
    have q1 := hK.1 (((rt_lmul s.1 a0), (rt_iadd s.2 1))) rfl
    try dsimp only at q1
    exact q1
theorem c_X12_power0 {G : rt_G} {d : Nat} {z : Nat × Nat} (hz : 300 ≤ z.1) (hd : 0 ≤ d) (a0 : Int) (a1 : Int) (mem0 : rt_M) (t : Int) (h : f_X12_power0 a0 a1 mem0 = some t) : RM G M_X12_power0 d [(0, a0), (0, a1)] z mem0 (some (1, t)) mem0 := by
  suffices H : ∀ Q : rt_P, Q (some (1, t)) z mem0 → RT G M_X12_power0 d z Q 0 [(0, a0), (0, a1), (9, 0), (9, 0), (9, 0)] [] z mem0 from H _ ⟨rfl, rfl, rfl⟩
  intro Q hK
  unfold f_X12_power0 at h
  refine RT.lconst (pc := 0) (v := 1) dX12_power0_0 rfl ?_
  refine RT.lstore_n (pc := 1) (k := 2) (x := 1) (L1 := [(0, a0), (0, a1), (1, 1), (9, 0), (9, 0)]) dX12_power0_1 (Nat.le_of_ble_eq_true rfl) rfl ?_
  refine RT.iconst (pc := 2) (n := 0) dX12_power0_2 ⟨by decide, by decide⟩ ?_
  refine RT.istore (pc := 3) (k := 4) (x := 0) (L1 := [(0, a0), (0, a1), (1, 1), (9, 0), (0, 0)]) dX12_power0_3 (Nat.le_of_ble_eq_true rfl) rfl ?_
  obtain ⟨X5, hX5, h⟩ := Option.bind_eq_some_iff.mp h
  refine rt_it_ind (P := (fun s1 : Int × Int => RT G M_X12_power0 d z Q 5 [(0, a0), (0, a1), (1, s1.1), (9, 0), (0, s1.2)] [] z mem0)) (X := (fun x1 : Int => RT G M_X12_power0 d z Q 22 [(9, 0), (9, 0), (1, x1), (9, 0), (9, 0)] [] z mem0)) (fun s1 t1 h1 k1 k2 => cb_X12_power0_5 hz hd a0 a1 mem0 s1 t1 h1 ⟨k1, k2⟩) 4000 ((1, 0)) X5 hX5 ?_
  refine RT.lload_n (pc := 22) (k := 2) (x := X5) dX12_power0_22 rfl ?_
  obtain rfl := Option.some.inj h
  exact RT.lret (pc := 23) dX12_power0_23 rfl (Nat.le_of_eq (rt_cells_0 z)) (Nat.le_of_eq (rt_slots_0 z)) hK
theorem cj_X12_horsehair_124 {G : rt_G} {d : Nat} {z : Nat × Nat} {Q : rt_P} (hz : 300 ≤ z.1) (hd : 1 ≤ d) {a0 : Int} (ht : rt_kd a0.toNat = 20 + 12) (s0 : Int) (mem0 : rt_M) (t : Int × rt_M) (h : j_X12_horsehair_124 s0 mem0 = some t) (hK : Q (some (0, t.1)) z t.2) : RT G M_X12_horsehair d z Q 124 [(9, 0), (9, 0), (9, 0), (9, 0), (9, 0), (9, 0), (9, 0), (9, 0), (9, 0)] [(0, s0)] z mem0 := by
  unfold j_X12_horsehair_124 at h
  obtain rfl := Option.some.inj h
  exact RT.iret (pc := 124) dX12_horsehair_124 rfl (Nat.le_of_eq (rt_cells_0 z)) (Nat.le_of_eq (rt_slots_0 z)) hK
theorem cj_X12_horsehair_100 {G : rt_G} {d : Nat} {z : Nat × Nat} {Q : rt_P} (hz : 300 ≤ z.1) (hd : 1 ≤ d) {a0 : Int} (ht : rt_kd a0.toNat = 20 + 12) (a5 : Int) (a7 : Int) (s0 : Int) (s1 : Int) (mem0 : rt_M) (t : Int × rt_M) (h : j_X12_horsehair_100 a5 a7 s0 s1 mem0 = some t) (hK : Q (some (0, t.1)) z t.2) : RT G M_X12_horsehair d z Q 100 [(9, 0), (9, 0), (9, 0), (9, 0), (9, 0), (1, a5), (9, 0), (1, a7), (9, 0)] [(0, s1), (2, s0)] z mem0 := by
  unfold j_X12_horsehair_100 at h
  obtain ⟨m100, hm100, h⟩ := Option.bind_eq_some_iff.mp h
  refine RT.pf_i 12 0 (pc := 100) (mem1 := m100) hz dX12_horsehair_100 fl_X12_171 rfl rfl rfl hm100 ?_
  refine RT.lload (pc := 103) (k := 7) (x := a7) dX12_horsehair_103 rfl ?_
  refine RT.lconst (pc := 105) (v := 0) dX12_horsehair_105 rfl ?_
  refine RT.lcmp (pc := 106) dX12_horsehair_106 ?_
  refine RT.if_ne (pc := 107) (tgt := 114) dX12_horsehair_107 rfl (fun q107 => ?_) (fun q107 => ?_)
  · rw [if_neg q107] at h
    refine RT.lload (pc := 114) (k := 5) (x := a5) dX12_horsehair_114 rfl ?_
    refine RT.ldc2 (pc := 116) (v := 1000000) dX12_horsehair_116 kl_X12_512 ⟨by decide, by decide⟩ ?_
    refine RT.lmul (pc := 119) dX12_horsehair_119 ?_
    refine RT.lload (pc := 120) (k := 7) (x := a7) dX12_horsehair_120 rfl ?_
    by_cases q122 : a7 = 0
    · rw [if_pos q122] at h; cases h
    rw [if_neg q122] at h
    refine RT.ldiv (pc := 122) dX12_horsehair_122 q122 ?_
    refine RT.l2i (pc := 123) dX12_horsehair_123 ?_
    refine RT.wk (L1 := [(9, 0), (9, 0), (9, 0), (9, 0), (9, 0), (9, 0), (9, 0), (9, 0), (9, 0)]) (rt_le_s (rt_le_s (rt_le_s (rt_le_s (rt_le_s (rt_le_j (rt_le_s (rt_le_j (rt_le_s rt_le_n))))))))) ?_
    exact cj_X12_horsehair_124 hz hd ht ((rt_l2i (rt_ldiv (rt_lmul a5 1000000) a7))) m100 _ h hK
  · rw [if_pos (Classical.not_not.mp q107)] at h
    refine RT.iconst (pc := 110) (n := 0) dX12_horsehair_110 ⟨by decide, by decide⟩ ?_
    refine RT.goto (pc := 111) (tgt := 124) dX12_horsehair_111 rfl ?_
    refine RT.wk (L1 := [(9, 0), (9, 0), (9, 0), (9, 0), (9, 0), (9, 0), (9, 0), (9, 0), (9, 0)]) (rt_le_s (rt_le_s (rt_le_s (rt_le_s (rt_le_s (rt_le_j (rt_le_s (rt_le_j (rt_le_s rt_le_n))))))))) ?_
    exact cj_X12_horsehair_124 hz hd ht 0 m100 _ h hK
theorem cj_X12_horsehair_46 {G : rt_G} {d : Nat} {z : Nat × Nat} {Q : rt_P} (hz : 300 ≤ z.1) (hd : 1 ≤ d) {a0 : Int} (ht : rt_kd a0.toNat = 20 + 12) (a1 : Int) (a2 : Int) (a3 : Int) (a4 : Int) (s0 : Int) (s1 : Int) (mem0 : rt_M) (t : Int × rt_M) (h : j_X12_horsehair_46 a0 a1 a2 a3 a4 s0 s1 mem0 = some t) (hK : Q (some (0, t.1)) z t.2) : RT G M_X12_horsehair d z Q 46 [(2, a0), (0, a1), (0, a2), (0, a3), (0, a4), (9, 0), (9, 0), (9, 0), (9, 0)] [(0, s1), (2, s0)] z mem0 := by
  unfold j_X12_horsehair_46 at h
  obtain ⟨m46, hm46, h⟩ := Option.bind_eq_some_iff.mp h
  refine RT.pf_i 12 0 (pc := 46) (mem1 := m46) hz dX12_horsehair_46 fl_X12_171 rfl rfl rfl hm46 ?_
  refine RT.aload_n (pc := 49) (k := 0) (x := a0) dX12_horsehair_49 rfl ?_
  obtain ⟨v50, hv50, h⟩ := Option.bind_eq_some_iff.mp h
  refine RT.gf 12 0 0 (pc := 50) (x := a0) (v := v50) hz dX12_horsehair_50 fl_X12_171 rfl hv50 ?_
  refine RT.iconst (pc := 53) (n := 1) dX12_horsehair_53 ⟨by decide, by decide⟩ ?_
  refine RT.icmp_ne (pc := 54) (tgt := 59) dX12_horsehair_54 rfl (fun q54 => ?_) (fun q54 => ?_)
  · rw [if_neg q54] at h
    refine RT.iload_n (pc := 59) (k := 1) (x := a1) dX12_horsehair_59 rfl ?_
    refine RT.i2l (pc := 60) dX12_horsehair_60 ?_
    refine RT.iload_n (pc := 61) (k := 2) (x := a2) dX12_horsehair_61 rfl ?_
    refine RT.iload (pc := 62) (k := 4) (x := a4) dX12_horsehair_62 rfl ?_
    obtain ⟨p64, hp64, h⟩ := Option.bind_eq_some_iff.mp h
    refine RT.cSz (pc := 64) (M' := M_X12_power0) (As := [(0, a2), (0, a4)]) (st := [(1, a1)]) (r := some (1, p64)) (mem1 := m46) (d' := d - 1) dX12_horsehair_64 mw_X12_power0 ml_X12_508 mi_X12_power0 rfl rfl (Nat.le_of_ble_eq_true rfl) (Nat.le_of_ble_eq_true rfl) (by omega) rfl rfl (c_X12_power0 hz (by omega) a2 a4 m46 _ hp64) ?_
    refine RT.lmul (pc := 67) dX12_horsehair_67 ?_
    refine RT.lstore (pc := 68) (k := 5) (x := (rt_lmul a1 p64)) (L1 := [(2, a0), (0, a1), (0, a2), (0, a3), (0, a4), (1, (rt_lmul a1 p64)), (9, 0), (9, 0), (9, 0)]) dX12_horsehair_68 (Nat.le_of_ble_eq_true rfl) rfl ?_
    refine RT.lload (pc := 70) (k := 5) (x := (rt_lmul a1 p64)) dX12_horsehair_70 rfl ?_
    refine RT.bipush (pc := 72) (n := 100) dX12_horsehair_72 ⟨by decide, by decide⟩ rfl ?_
    refine RT.iload_n (pc := 74) (k := 1) (x := a1) dX12_horsehair_74 rfl ?_
    refine RT.isub (pc := 75) dX12_horsehair_75 ?_
    refine RT.i2l (pc := 76) dX12_horsehair_76 ?_
    refine RT.iload_n (pc := 77) (k := 3) (x := a3) dX12_horsehair_77 rfl ?_
    refine RT.iload (pc := 78) (k := 4) (x := a4) dX12_horsehair_78 rfl ?_
    obtain ⟨p80, hp80, h⟩ := Option.bind_eq_some_iff.mp h
    refine RT.cSz (pc := 80) (M' := M_X12_power0) (As := [(0, a3), (0, a4)]) (st := [(1, (rt_isub 100 a1)), (1, (rt_lmul a1 p64))]) (r := some (1, p80)) (mem1 := m46) (d' := d - 1) dX12_horsehair_80 mw_X12_power0 ml_X12_508 mi_X12_power0 rfl rfl (Nat.le_of_ble_eq_true rfl) (Nat.le_of_ble_eq_true rfl) (by omega) rfl rfl (c_X12_power0 hz (by omega) a3 a4 m46 _ hp80) ?_
    refine RT.lmul (pc := 83) dX12_horsehair_83 ?_
    refine RT.ladd (pc := 84) dX12_horsehair_84 ?_
    refine RT.lstore (pc := 85) (k := 7) (x := (rt_ladd (rt_lmul a1 p64) (rt_lmul (rt_isub 100 a1) p80))) (L1 := [(2, a0), (0, a1), (0, a2), (0, a3), (0, a4), (1, (rt_lmul a1 p64)), (9, 0), (1, (rt_ladd (rt_lmul a1 p64) (rt_lmul (rt_isub 100 a1) p80))), (9, 0)]) dX12_horsehair_85 (Nat.le_of_ble_eq_true rfl) rfl ?_
    refine RT.aload_n (pc := 87) (k := 0) (x := a0) dX12_horsehair_87 rfl ?_
    refine RT.lload (pc := 88) (k := 7) (x := (rt_ladd (rt_lmul a1 p64) (rt_lmul (rt_isub 100 a1) p80))) dX12_horsehair_88 rfl ?_
    refine RT.lconst (pc := 90) (v := 0) dX12_horsehair_90 rfl ?_
    refine RT.lcmp (pc := 91) dX12_horsehair_91 ?_
    refine RT.if_ne (pc := 92) (tgt := 99) dX12_horsehair_92 rfl (fun q92 => ?_) (fun q92 => ?_)
    · rw [if_neg q92] at h
      refine RT.iconst (pc := 99) (n := 0) dX12_horsehair_99 ⟨by decide, by decide⟩ ?_
      refine RT.wk (L1 := [(9, 0), (9, 0), (9, 0), (9, 0), (9, 0), (1, (rt_lmul a1 p64)), (9, 0), (1, (rt_ladd (rt_lmul a1 p64) (rt_lmul (rt_isub 100 a1) p80))), (9, 0)]) (rt_le_j (rt_le_j (rt_le_j (rt_le_j (rt_le_j (rt_le_s (rt_le_s (rt_le_s (rt_le_s rt_le_n))))))))) ?_
      exact cj_X12_horsehair_100 hz hd ht ((rt_lmul a1 p64)) ((rt_ladd (rt_lmul a1 p64) (rt_lmul (rt_isub 100 a1) p80))) a0 0 m46 _ h hK
    · rw [if_pos (Classical.not_not.mp q92)] at h
      refine RT.iconst (pc := 95) (n := 1) dX12_horsehair_95 ⟨by decide, by decide⟩ ?_
      refine RT.goto (pc := 96) (tgt := 100) dX12_horsehair_96 rfl ?_
      refine RT.wk (L1 := [(9, 0), (9, 0), (9, 0), (9, 0), (9, 0), (1, (rt_lmul a1 p64)), (9, 0), (1, (rt_ladd (rt_lmul a1 p64) (rt_lmul (rt_isub 100 a1) p80))), (9, 0)]) (rt_le_j (rt_le_j (rt_le_j (rt_le_j (rt_le_j (rt_le_s (rt_le_s (rt_le_s (rt_le_s rt_le_n))))))))) ?_
      exact cj_X12_horsehair_100 hz hd ht ((rt_lmul a1 p64)) ((rt_ladd (rt_lmul a1 p64) (rt_lmul (rt_isub 100 a1) p80))) a0 1 m46 _ h hK
  · rw [if_pos (Classical.not_not.mp q54)] at h
    refine RT.iconst (pc := 57) (n := 0) dX12_horsehair_57 ⟨by decide, by decide⟩ ?_
    obtain rfl := Option.some.inj h
    exact RT.iret (pc := 58) dX12_horsehair_58 rfl (Nat.le_of_eq (rt_cells_0 z)) (Nat.le_of_eq (rt_slots_0 z)) hK
theorem cj_X12_horsehair_45 {G : rt_G} {d : Nat} {z : Nat × Nat} {Q : rt_P} (hz : 300 ≤ z.1) (hd : 1 ≤ d) {a0 : Int} (ht : rt_kd a0.toNat = 20 + 12) (a1 : Int) (a2 : Int) (a3 : Int) (a4 : Int) (s0 : Int) (mem0 : rt_M) (t : Int × rt_M) (h : j_X12_horsehair_45 a0 a1 a2 a3 a4 s0 mem0 = some t) (hK : Q (some (0, t.1)) z t.2) : RT G M_X12_horsehair d z Q 45 [(2, a0), (0, a1), (0, a2), (0, a3), (0, a4), (9, 0), (9, 0), (9, 0), (9, 0)] [(2, s0)] z mem0 := by
  unfold j_X12_horsehair_45 at h
  refine RT.iconst (pc := 45) (n := 1) dX12_horsehair_45 ⟨by decide, by decide⟩ ?_
  exact cj_X12_horsehair_46 hz hd ht a1 a2 a3 a4 s0 1 mem0 _ h hK
theorem c_X12_horsehair {G : rt_G} {d : Nat} {z : Nat × Nat} (hz : 300 ≤ z.1) (hd : 1 ≤ d) (a0 : Int) (a1 : Int) (a2 : Int) (a3 : Int) (a4 : Int) (mem0 : rt_M) (t : Int × rt_M) (ht : rt_kd a0.toNat = 20 + 12) (h : f_X12_horsehair a0 a1 a2 a3 a4 mem0 = some t) : RM G M_X12_horsehair d [(2, a0), (0, a1), (0, a2), (0, a3), (0, a4)] z mem0 (some (0, t.1)) t.2 := by
  suffices H : ∀ Q : rt_P, Q (some (0, t.1)) z t.2 → RT G M_X12_horsehair d z Q 0 [(2, a0), (0, a1), (0, a2), (0, a3), (0, a4), (9, 0), (9, 0), (9, 0), (9, 0)] [] z mem0 from H _ ⟨rfl, rfl, rfl⟩
  intro Q hK
  unfold f_X12_horsehair at h
  refine RT.aload_n (pc := 0) (k := 0) (x := a0) dX12_horsehair_0 rfl ?_
  refine RT.iload_n (pc := 1) (k := 1) (x := a1) dX12_horsehair_1 rfl ?_
  refine RT.iconst (pc := 2) (n := 0) dX12_horsehair_2 ⟨by decide, by decide⟩ ?_
  refine RT.bipush (pc := 3) (n := 100) dX12_horsehair_3 ⟨by decide, by decide⟩ rfl ?_
  obtain ⟨p5, hp5, h⟩ := Option.bind_eq_some_iff.mp h
  refine RT.cSz (pc := 5) (M' := M_X12_within) (As := [(0, a1), (0, 0), (0, 100)]) (st := [(2, a0)]) (r := some (0, p5)) (mem1 := mem0) (d' := d - 1) dX12_horsehair_5 mw_X12_within ml_X12_301 mi_X12_within rfl rfl (Nat.le_of_ble_eq_true rfl) (Nat.le_of_ble_eq_true rfl) (by omega) rfl rfl (c_X12_within hz (by omega) a1 0 100 mem0 _ hp5) ?_
  refine RT.if_eq (pc := 8) (tgt := 45) dX12_horsehair_8 rfl (fun q8 => ?_) (fun q8 => ?_)
  · rw [if_pos q8] at h
    exact cj_X12_horsehair_45 hz hd ht a1 a2 a3 a4 a0 mem0 _ h hK
  · rw [if_neg q8] at h
    refine RT.iload_n (pc := 11) (k := 2) (x := a2) dX12_horsehair_11 rfl ?_
    refine RT.iconst (pc := 12) (n := 0) dX12_horsehair_12 ⟨by decide, by decide⟩ ?_
    refine RT.bipush (pc := 13) (n := 100) dX12_horsehair_13 ⟨by decide, by decide⟩ rfl ?_
    obtain ⟨p15, hp15, h⟩ := Option.bind_eq_some_iff.mp h
    refine RT.cSz (pc := 15) (M' := M_X12_within) (As := [(0, a2), (0, 0), (0, 100)]) (st := [(2, a0)]) (r := some (0, p15)) (mem1 := mem0) (d' := d - 1) dX12_horsehair_15 mw_X12_within ml_X12_301 mi_X12_within rfl rfl (Nat.le_of_ble_eq_true rfl) (Nat.le_of_ble_eq_true rfl) (by omega) rfl rfl (c_X12_within hz (by omega) a2 0 100 mem0 _ hp15) ?_
    refine RT.if_eq (pc := 18) (tgt := 45) dX12_horsehair_18 rfl (fun q18 => ?_) (fun q18 => ?_)
    · rw [if_pos q18] at h
      exact cj_X12_horsehair_45 hz hd ht a1 a2 a3 a4 a0 mem0 _ h hK
    · rw [if_neg q18] at h
      refine RT.iload_n (pc := 21) (k := 3) (x := a3) dX12_horsehair_21 rfl ?_
      refine RT.iconst (pc := 22) (n := 0) dX12_horsehair_22 ⟨by decide, by decide⟩ ?_
      refine RT.bipush (pc := 23) (n := 100) dX12_horsehair_23 ⟨by decide, by decide⟩ rfl ?_
      obtain ⟨p25, hp25, h⟩ := Option.bind_eq_some_iff.mp h
      refine RT.cSz (pc := 25) (M' := M_X12_within) (As := [(0, a3), (0, 0), (0, 100)]) (st := [(2, a0)]) (r := some (0, p25)) (mem1 := mem0) (d' := d - 1) dX12_horsehair_25 mw_X12_within ml_X12_301 mi_X12_within rfl rfl (Nat.le_of_ble_eq_true rfl) (Nat.le_of_ble_eq_true rfl) (by omega) rfl rfl (c_X12_within hz (by omega) a3 0 100 mem0 _ hp25) ?_
      refine RT.if_eq (pc := 28) (tgt := 45) dX12_horsehair_28 rfl (fun q28 => ?_) (fun q28 => ?_)
      · rw [if_pos q28] at h
        exact cj_X12_horsehair_45 hz hd ht a1 a2 a3 a4 a0 mem0 _ h hK
      · rw [if_neg q28] at h
        refine RT.iload (pc := 31) (k := 4) (x := a4) dX12_horsehair_31 rfl ?_
        refine RT.iconst (pc := 33) (n := 1) dX12_horsehair_33 ⟨by decide, by decide⟩ ?_
        refine RT.iconst (pc := 34) (n := 3) dX12_horsehair_34 ⟨by decide, by decide⟩ ?_
        obtain ⟨p35, hp35, h⟩ := Option.bind_eq_some_iff.mp h
        refine RT.cSz (pc := 35) (M' := M_X12_within) (As := [(0, a4), (0, 1), (0, 3)]) (st := [(2, a0)]) (r := some (0, p35)) (mem1 := mem0) (d' := d - 1) dX12_horsehair_35 mw_X12_within ml_X12_301 mi_X12_within rfl rfl (Nat.le_of_ble_eq_true rfl) (Nat.le_of_ble_eq_true rfl) (by omega) rfl rfl (c_X12_within hz (by omega) a4 1 3 mem0 _ hp35) ?_
        refine RT.if_eq (pc := 38) (tgt := 45) dX12_horsehair_38 rfl (fun q38 => ?_) (fun q38 => ?_)
        · rw [if_pos q38] at h
          exact cj_X12_horsehair_45 hz hd ht a1 a2 a3 a4 a0 mem0 _ h hK
        · rw [if_neg q38] at h
          refine RT.iconst (pc := 41) (n := 0) dX12_horsehair_41 ⟨by decide, by decide⟩ ?_
          refine RT.goto (pc := 42) (tgt := 46) dX12_horsehair_42 rfl ?_
          exact cj_X12_horsehair_46 hz hd ht a1 a2 a3 a4 a0 0 mem0 _ h hK
theorem c_X12_draws {G : rt_G} {d : Nat} {z : Nat × Nat} (hz : 300 ≤ z.1) (hd : 0 ≤ d) (a0 : Int) (a1 : Int) (mem0 : rt_M) (t : Int × rt_M) (ht : rt_kd a0.toNat = 20 + 12) (h : f_X12_draws a0 a1 mem0 = some t) : RM G M_X12_draws d [(2, a0), (0, a1)] z mem0 (some (0, t.1)) t.2 := by
  suffices H : ∀ Q : rt_P, Q (some (0, t.1)) z t.2 → RT G M_X12_draws d z Q 0 [(2, a0), (0, a1)] [] z mem0 from H _ ⟨rfl, rfl, rfl⟩
  intro Q hK
  unfold f_X12_draws at h
  refine RT.aload_n (pc := 0) (k := 0) (x := a0) dX12_draws_0 rfl ?_
  refine RT.aload_n (pc := 1) (k := 0) (x := a0) dX12_draws_1 rfl ?_
  obtain ⟨v2, hv2, h⟩ := Option.bind_eq_some_iff.mp h
  refine RT.gf 12 71 1 (pc := 2) (x := a0) (v := v2) hz dX12_draws_2 fl_X12_514 rfl hv2 ?_
  refine RT.ldc2 (pc := 5) (v := 1103515245) dX12_draws_5 kl_X12_517 ⟨by decide, by decide⟩ ?_
  refine RT.lmul (pc := 8) dX12_draws_8 ?_
  refine RT.ldc2 (pc := 9) (v := 12345) dX12_draws_9 kl_X12_519 ⟨by decide, by decide⟩ ?_
  refine RT.ladd (pc := 12) dX12_draws_12 ?_
  refine RT.ldc2 (pc := 13) (v := 2147483648) dX12_draws_13 kl_X12_521 ⟨by decide, by decide⟩ ?_
  refine RT.lrem (pc := 16) dX12_draws_16 (by decide) ?_
  obtain ⟨m17, hm17, h⟩ := Option.bind_eq_some_iff.mp h
  refine RT.pf_l 12 71 (pc := 17) (mem1 := m17) hz dX12_draws_17 fl_X12_514 rfl rfl rfl hm17 ?_
  refine RT.aload_n (pc := 20) (k := 0) (x := a0) dX12_draws_20 rfl ?_
  obtain ⟨v21, hv21, h⟩ := Option.bind_eq_some_iff.mp h
  refine RT.gf 12 71 1 (pc := 21) (x := a0) (v := v21) hz dX12_draws_21 fl_X12_514 rfl hv21 ?_
  refine RT.ldc2 (pc := 24) (v := 65536) dX12_draws_24 kl_X12_523 ⟨by decide, by decide⟩ ?_
  refine RT.ldiv (pc := 27) dX12_draws_27 (by decide) ?_
  refine RT.iload_n (pc := 28) (k := 1) (x := a1) dX12_draws_28 rfl ?_
  refine RT.i2l (pc := 29) dX12_draws_29 ?_
  by_cases q30 : a1 = 0
  · rw [if_pos q30] at h; cases h
  rw [if_neg q30] at h
  refine RT.lrem (pc := 30) dX12_draws_30 q30 ?_
  refine RT.l2i (pc := 31) dX12_draws_31 ?_
  obtain rfl := Option.some.inj h
  exact RT.iret (pc := 32) dX12_draws_32 rfl (Nat.le_of_eq (rt_cells_0 z)) (Nat.le_of_eq (rt_slots_0 z)) hK
theorem cb_X12_fever_2 {G : rt_G} {d : Nat} {z : Nat × Nat} {Q : rt_P} (hz : 300 ≤ z.1) (hd : 1 ≤ d) {a0 : Int} (ht : rt_kd a0.toNat = 20 + 12) (s : Int × rt_M) (t : (Int × rt_M) ⊕ ((rt_M) ⊕ (rt_M))) (h : b_X12_fever_2 a0 s = some t) (hK : (∀ s1 : Int × rt_M, t = .inl s1 → RT G M_X12_fever d z Q 2 [(2, a0), (0, s1.1), (9, 0)] [] z s1.2) ∧ (∀ x1 : rt_M, t = .inr (.inl x1) → RT G M_X12_fever d z Q 41 [(9, 0), (9, 0), (9, 0)] [] z x1) ∧ (∀ t1 : rt_M, t = .inr (.inr t1) → Q none z t1)) : RT G M_X12_fever d z Q 2 [(2, a0), (0, s.1), (9, 0)] [] z s.2 := by
  unfold b_X12_fever_2 at h
  refine RT.iload_n (pc := 2) (k := 1) (x := s.1) dX12_fever_2 rfl ?_
  refine RT.aload_n (pc := 3) (k := 0) (x := a0) dX12_fever_3 rfl ?_
  obtain ⟨v4, hv4, h⟩ := Option.bind_eq_some_iff.mp h
  refine RT.gf 12 10 2 (pc := 4) (x := a0) (v := v4) hz dX12_fever_4 fl_X12_13 rfl hv4 ?_
  refine RT.iconst (pc := 7) (n := 1) dX12_fever_7 ⟨by decide, by decide⟩ ?_
  obtain ⟨v8, hv8, h⟩ := Option.bind_eq_some_iff.mp h
  refine RT.iald (pc := 8) (x := v4) (i := 1) (v := v8) dX12_fever_8 (rt_lta hz (by decide) (by decide) hv8) hv8 ?_
  refine RT.icmp_ge (pc := 9) (tgt := 41) dX12_fever_9 rfl (fun q9 => ?_) (fun q9 => ?_)
  · rw [if_pos q9] at h
    refine RT.wk (L1 := [(9, 0), (9, 0), (9, 0)]) (rt_le_j (rt_le_j (rt_le_s rt_le_n))) ?_
    obtain rfl := Option.some.inj h
    have q1 := hK.2.1 s.2 rfl
    try dsimp only at q1
    exact q1
  · rw [if_neg q9] at h
    refine RT.aload_n (pc := 12) (k := 0) (x := a0) dX12_fever_12 rfl ?_
    refine RT.iload_n (pc := 13) (k := 1) (x := s.1) dX12_fever_13 rfl ?_
    obtain ⟨p14, hp14, h⟩ := Option.bind_eq_some_iff.mp h
    refine RT.cVz (pc := 14) (M' := M_X12_wigOn) (ci := 12) (x := a0) (As := [(0, s.1)]) (st := []) (r := some (0, p14)) (mem1 := s.2) (d' := d - 1) hz dX12_fever_14 mw_X12_wigOn ml_X12_403 mi_X12_wigOn ht rfl rfl (Nat.le_of_ble_eq_true rfl) (Nat.le_of_ble_eq_true rfl) (by omega) rfl rfl (c_X12_wigOn hz (by omega) a0 s.1 s.2 _ ht hp14) ?_
    refine RT.istore_n (pc := 17) (k := 2) (x := p14) (L1 := [(2, a0), (0, s.1), (0, p14)]) dX12_fever_17 (Nat.le_of_ble_eq_true rfl) rfl ?_
    refine RT.iload_n (pc := 18) (k := 2) (x := p14) dX12_fever_18 rfl ?_
    refine RT.if_ge (pc := 19) (tgt := 25) dX12_fever_19 rfl (fun q19 => ?_) (fun q19 => ?_)
    · rw [if_pos q19] at h
      obtain ⟨t2, g2, e2⟩ := Option.map_eq_some_iff.mp h
      subst e2
      replace h := g2
      replace hK := hK.2.2 t2 rfl
      refine RT.aload_n (pc := 25) (k := 0) (x := a0) dX12_fever_25 rfl ?_
      obtain ⟨v26, hv26, h⟩ := Option.bind_eq_some_iff.mp h
      refine RT.gf 12 50 2 (pc := 26) (x := a0) (v := v26) hz dX12_fever_26 fl_X12_120 rfl hv26 ?_
      refine RT.iconst (pc := 29) (n := 1) dX12_fever_29 ⟨by decide, by decide⟩ ?_
      refine RT.iload_n (pc := 30) (k := 2) (x := p14) dX12_fever_30 rfl ?_
      refine RT.iadd (pc := 31) dX12_fever_31 ?_
      refine RT.iconst (pc := 32) (n := (-1)) dX12_fever_32 ⟨by decide, by decide⟩ ?_
      obtain ⟨m33, hm33, h⟩ := Option.bind_eq_some_iff.mp h
      refine RT.iast (pc := 33) (x := v26) (i := (rt_iadd 1 p14)) (v := (-1)) (mem1 := m33) dX12_fever_33 (rt_lts hz (by decide) (by decide) hm33) hm33 ?_
      obtain rfl := Option.some.inj h
      exact RT.vret (pc := 34) dX12_fever_34 rfl (Nat.le_of_eq (rt_cells_0 z)) (Nat.le_of_eq (rt_slots_0 z)) hK
    · rw [if_neg q19] at h
      refine RT.goto (pc := 22) (tgt := 35) dX12_fever_22 rfl ?_
      refine RT.iinc (pc := 35) (x := s.1) (L1 := [(2, a0), (0, (rt_iadd s.1 1)), (0, p14)]) dX12_fever_35 rfl (Nat.le_of_ble_eq_true rfl) ⟨by decide, by decide⟩ rfl ?_
      refine RT.goto (pc := 38) (tgt := 2) dX12_fever_38 rfl ?_
      refine RT.wk (L1 := [(2, a0), (0, (rt_iadd s.1 1)), (9, 0)]) (rt_le_s (rt_le_s (rt_le_j rt_le_n))) ?_
      obtain rfl := Option.some.inj h
      have q1 := hK.1 (((rt_iadd s.1 1), s.2)) rfl
      try dsimp only at q1
      exact q1
theorem c_X12_fever {G : rt_G} {d : Nat} {z : Nat × Nat} (hz : 300 ≤ z.1) (hd : 1 ≤ d) (a0 : Int) (mem0 : rt_M) (t : rt_M) (ht : rt_kd a0.toNat = 20 + 12) (h : f_X12_fever a0 mem0 = some t) : RM G M_X12_fever d [(2, a0)] z mem0 none t := by
  suffices H : ∀ Q : rt_P, Q none z t → RT G M_X12_fever d z Q 0 [(2, a0), (9, 0), (9, 0)] [] z mem0 from H _ ⟨rfl, rfl, rfl⟩
  intro Q hK
  unfold f_X12_fever at h
  refine RT.iconst (pc := 0) (n := 0) dX12_fever_0 ⟨by decide, by decide⟩ ?_
  refine RT.istore_n (pc := 1) (k := 1) (x := 0) (L1 := [(2, a0), (0, 0), (9, 0)]) dX12_fever_1 (Nat.le_of_ble_eq_true rfl) rfl ?_
  obtain ⟨E2, hE2, h⟩ := Option.bind_eq_some_iff.mp h
  refine rt_it_ind (P := (fun s1 : Int × rt_M => RT G M_X12_fever d z Q 2 [(2, a0), (0, s1.1), (9, 0)] [] z s1.2)) (X := (fun e1 : (rt_M) ⊕ (rt_M) => (∀ x1 : rt_M, e1 = .inl x1 → RT G M_X12_fever d z Q 41 [(9, 0), (9, 0), (9, 0)] [] z x1) ∧ (∀ t1 : rt_M, e1 = .inr t1 → Q none z t1))) (fun s1 t1 h1 k1 k2 => cb_X12_fever_2 hz hd ht s1 t1 h1 ⟨k1, fun x1 q => (k2 _ q).1 x1 rfl, fun t2 q => (k2 _ q).2 t2 rfl⟩) 4000 ((0, mem0)) E2 hE2 ?_
  cases E2 with
  | inr t1 =>
    obtain rfl := Option.some.inj h
    exact ⟨fun x1 q => (by cases q), fun t2 q => (by cases q; exact hK)⟩
  | inl X2 =>
    refine ⟨fun x1 q => ?_, fun t2 q => (by cases q)⟩
    cases q
    obtain rfl := Option.some.inj h
    exact RT.vret (pc := 41) dX12_fever_41 rfl (Nat.le_of_eq (rt_cells_0 z)) (Nat.le_of_eq (rt_slots_0 z)) hK
theorem cj_X12_livesSeason_70 {G : rt_G} {d : Nat} {z : Nat × Nat} {Q : rt_P} (hz : 300 ≤ z.1) (hd : 7 ≤ d) {a0 : Int} (ht : rt_kd a0.toNat = 20 + 12) (mem0 : rt_M) (t : Int × rt_M) (h : j_X12_livesSeason_70 a0 mem0 = some t) (hK : Q (some (0, t.1)) z t.2) : RT G M_X12_livesSeason d z Q 70 [(2, a0), (9, 0), (9, 0)] [] z mem0 := by
  unfold j_X12_livesSeason_70 at h
  refine RT.aload_n (pc := 70) (k := 0) (x := a0) dX12_livesSeason_70 rfl ?_
  obtain ⟨p71, hp71, h⟩ := Option.bind_eq_some_iff.mp h
  refine RT.cVz (pc := 71) (M' := M_X12_passes) (ci := 12) (x := a0) (As := []) (st := []) (r := some (0, p71.1)) (mem1 := p71.2) (d' := d - 1) hz dX12_livesSeason_71 mw_X12_passes ml_X12_430 mi_X12_passes ht rfl rfl (Nat.le_of_ble_eq_true rfl) (Nat.le_of_ble_eq_true rfl) (by omega) rfl rfl (c_X12_passes hz (by omega) a0 mem0 _ ht hp71) ?_
  obtain rfl := Option.some.inj h
  exact RT.iret (pc := 74) dX12_livesSeason_74 rfl (Nat.le_of_eq (rt_cells_0 z)) (Nat.le_of_eq (rt_slots_0 z)) hK
theorem cj_X12_livesSeason_58 {G : rt_G} {d : Nat} {z : Nat × Nat} {Q : rt_P} (hz : 300 ≤ z.1) (hd : 7 ≤ d) {a0 : Int} (ht : rt_kd a0.toNat = 20 + 12) (mem0 : rt_M) (t : Int × rt_M) (h : j_X12_livesSeason_58 a0 mem0 = some t) (hK : Q (some (0, t.1)) z t.2) : RT G M_X12_livesSeason d z Q 58 [(2, a0), (9, 0), (9, 0)] [] z mem0 := by
  unfold j_X12_livesSeason_58 at h
  refine RT.aload_n (pc := 58) (k := 0) (x := a0) dX12_livesSeason_58 rfl ?_
  refine RT.iconst (pc := 59) (n := 5) dX12_livesSeason_59 ⟨by decide, by decide⟩ ?_
  obtain ⟨p60, hp60, h⟩ := Option.bind_eq_some_iff.mp h
  refine RT.cVz (pc := 60) (M' := M_X12_draws) (ci := 12) (x := a0) (As := [(0, 5)]) (st := []) (r := some (0, p60.1)) (mem1 := p60.2) (d' := d - 1) hz dX12_livesSeason_60 mw_X12_draws ml_X12_525 mi_X12_draws ht rfl rfl (Nat.le_of_ble_eq_true rfl) (Nat.le_of_ble_eq_true rfl) (by omega) rfl rfl (c_X12_draws hz (by omega) a0 5 mem0 _ ht hp60) ?_
  refine RT.if_ne (pc := 63) (tgt := 70) dX12_livesSeason_63 rfl (fun q63 => ?_) (fun q63 => ?_)
  · rw [if_neg q63] at h
    exact cj_X12_livesSeason_70 hz hd ht p60.2 _ h hK
  · rw [if_pos (Classical.not_not.mp q63)] at h
    refine RT.aload_n (pc := 66) (k := 0) (x := a0) dX12_livesSeason_66 rfl ?_
    obtain ⟨p67, hp67, h⟩ := Option.bind_eq_some_iff.mp h
    refine RT.cVz (pc := 67) (M' := M_X12_fever) (ci := 12) (x := a0) (As := []) (st := []) (r := none) (mem1 := p67) (d' := d - 1) hz dX12_livesSeason_67 mw_X12_fever ml_X12_528 mi_X12_fever ht rfl rfl (Nat.le_of_ble_eq_true rfl) (Nat.le_of_ble_eq_true rfl) (by omega) rfl rfl (c_X12_fever hz (by omega) a0 p60.2 _ ht hp67) ?_
    exact cj_X12_livesSeason_70 hz hd ht p67 _ h hK
theorem c_X12_livesSeason {G : rt_G} {d : Nat} {z : Nat × Nat} (hz : 300 ≤ z.1) (hd : 7 ≤ d) (a0 : Int) (mem0 : rt_M) (t : Int × rt_M) (ht : rt_kd a0.toNat = 20 + 12) (h : f_X12_livesSeason a0 mem0 = some t) : RM G M_X12_livesSeason d [(2, a0)] z mem0 (some (0, t.1)) t.2 := by
  suffices H : ∀ Q : rt_P, Q (some (0, t.1)) z t.2 → RT G M_X12_livesSeason d z Q 0 [(2, a0), (9, 0), (9, 0)] [] z mem0 from H _ ⟨rfl, rfl, rfl⟩
  intro Q hK
  unfold f_X12_livesSeason at h
  refine RT.aload_n (pc := 0) (k := 0) (x := a0) dX12_livesSeason_0 rfl ?_
  obtain ⟨v1, hv1, h⟩ := Option.bind_eq_some_iff.mp h
  refine RT.gf 12 10 2 (pc := 1) (x := a0) (v := v1) hz dX12_livesSeason_1 fl_X12_13 rfl hv1 ?_
  refine RT.iconst (pc := 4) (n := 0) dX12_livesSeason_4 ⟨by decide, by decide⟩ ?_
  obtain ⟨v5, hv5, h⟩ := Option.bind_eq_some_iff.mp h
  refine RT.iald (pc := 5) (x := v1) (i := 0) (v := v5) dX12_livesSeason_5 (rt_lta hz (by decide) (by decide) hv5) hv5 ?_
  refine RT.if_le (pc := 6) (tgt := 58) dX12_livesSeason_6 rfl (fun q6 => ?_) (fun q6 => ?_)
  · rw [if_pos q6] at h
    exact cj_X12_livesSeason_58 hz hd ht mem0 _ h hK
  · rw [if_neg q6] at h
    refine RT.aload_n (pc := 9) (k := 0) (x := a0) dX12_livesSeason_9 rfl ?_
    obtain ⟨v10, hv10, h⟩ := Option.bind_eq_some_iff.mp h
    refine RT.gf 12 10 2 (pc := 10) (x := a0) (v := v10) hz dX12_livesSeason_10 fl_X12_13 rfl hv10 ?_
    refine RT.iconst (pc := 13) (n := 1) dX12_livesSeason_13 ⟨by decide, by decide⟩ ?_
    obtain ⟨v14, hv14, h⟩ := Option.bind_eq_some_iff.mp h
    refine RT.iald (pc := 14) (x := v10) (i := 1) (v := v14) dX12_livesSeason_14 (rt_lta hz (by decide) (by decide) hv14) hv14 ?_
    refine RT.if_le (pc := 15) (tgt := 58) dX12_livesSeason_15 rfl (fun q15 => ?_) (fun q15 => ?_)
    · rw [if_pos q15] at h
      exact cj_X12_livesSeason_58 hz hd ht mem0 _ h hK
    · rw [if_neg q15] at h
      refine RT.aload_n (pc := 18) (k := 0) (x := a0) dX12_livesSeason_18 rfl ?_
      refine RT.aload_n (pc := 19) (k := 0) (x := a0) dX12_livesSeason_19 rfl ?_
      obtain ⟨v20, hv20, h⟩ := Option.bind_eq_some_iff.mp h
      refine RT.gf 12 10 2 (pc := 20) (x := a0) (v := v20) hz dX12_livesSeason_20 fl_X12_13 rfl hv20 ?_
      refine RT.iconst (pc := 23) (n := 0) dX12_livesSeason_23 ⟨by decide, by decide⟩ ?_
      obtain ⟨v24, hv24, h⟩ := Option.bind_eq_some_iff.mp h
      refine RT.iald (pc := 24) (x := v20) (i := 0) (v := v24) dX12_livesSeason_24 (rt_lta hz (by decide) (by decide) hv24) hv24 ?_
      obtain ⟨p25, hp25, h⟩ := Option.bind_eq_some_iff.mp h
      refine RT.cVz (pc := 25) (M' := M_X12_draws) (ci := 12) (x := a0) (As := [(0, v24)]) (st := []) (r := some (0, p25.1)) (mem1 := p25.2) (d' := d - 1) hz dX12_livesSeason_25 mw_X12_draws ml_X12_525 mi_X12_draws ht rfl rfl (Nat.le_of_ble_eq_true rfl) (Nat.le_of_ble_eq_true rfl) (by omega) rfl rfl (c_X12_draws hz (by omega) a0 v24 mem0 _ ht hp25) ?_
      refine RT.istore_n (pc := 28) (k := 1) (x := p25.1) (L1 := [(2, a0), (0, p25.1), (9, 0)]) dX12_livesSeason_28 (Nat.le_of_ble_eq_true rfl) rfl ?_
      refine RT.aload_n (pc := 29) (k := 0) (x := a0) dX12_livesSeason_29 rfl ?_
      refine RT.aload_n (pc := 30) (k := 0) (x := a0) dX12_livesSeason_30 rfl ?_
      obtain ⟨v31, hv31, h⟩ := Option.bind_eq_some_iff.mp h
      refine RT.gf 12 10 2 (pc := 31) (x := a0) (v := v31) hz dX12_livesSeason_31 fl_X12_13 rfl hv31 ?_
      refine RT.iconst (pc := 34) (n := 1) dX12_livesSeason_34 ⟨by decide, by decide⟩ ?_
      obtain ⟨v35, hv35, h⟩ := Option.bind_eq_some_iff.mp h
      refine RT.iald (pc := 35) (x := v31) (i := 1) (v := v35) dX12_livesSeason_35 (rt_lta hz (by decide) (by decide) hv35) hv35 ?_
      obtain ⟨p36, hp36, h⟩ := Option.bind_eq_some_iff.mp h
      refine RT.cVz (pc := 36) (M' := M_X12_draws) (ci := 12) (x := a0) (As := [(0, v35)]) (st := []) (r := some (0, p36.1)) (mem1 := p36.2) (d' := d - 1) hz dX12_livesSeason_36 mw_X12_draws ml_X12_525 mi_X12_draws ht rfl rfl (Nat.le_of_ble_eq_true rfl) (Nat.le_of_ble_eq_true rfl) (by omega) rfl rfl (c_X12_draws hz (by omega) a0 v35 p25.2 _ ht hp36) ?_
      refine RT.istore_n (pc := 39) (k := 2) (x := p36.1) (L1 := [(2, a0), (0, p25.1), (0, p36.1)]) dX12_livesSeason_39 (Nat.le_of_ble_eq_true rfl) rfl ?_
      refine RT.aload_n (pc := 40) (k := 0) (x := a0) dX12_livesSeason_40 rfl ?_
      refine RT.iload_n (pc := 41) (k := 1) (x := p25.1) dX12_livesSeason_41 rfl ?_
      refine RT.iload_n (pc := 42) (k := 2) (x := p36.1) dX12_livesSeason_42 rfl ?_
      obtain ⟨p43, hp43, h⟩ := Option.bind_eq_some_iff.mp h
      refine RT.cVz (pc := 43) (M' := M_X12_canPut) (ci := 12) (x := a0) (As := [(0, p25.1), (0, p36.1)]) (st := []) (r := some (0, p43.1)) (mem1 := p43.2) (d' := d - 1) hz dX12_livesSeason_43 mw_X12_canPut ml_X12_424 mi_X12_canPut ht rfl rfl (Nat.le_of_ble_eq_true rfl) (Nat.le_of_ble_eq_true rfl) (by omega) rfl rfl (c_X12_canPut hz (by omega) a0 p25.1 p36.1 p36.2 _ ht hp43) ?_
      refine RT.if_eq (pc := 46) (tgt := 58) dX12_livesSeason_46 rfl (fun q46 => ?_) (fun q46 => ?_)
      · rw [if_pos q46] at h
        refine RT.wk (L1 := [(2, a0), (9, 0), (9, 0)]) (rt_le_s (rt_le_j (rt_le_j rt_le_n))) ?_
        exact cj_X12_livesSeason_58 hz hd ht p43.2 _ h hK
      · rw [if_neg q46] at h
        refine RT.aload_n (pc := 49) (k := 0) (x := a0) dX12_livesSeason_49 rfl ?_
        obtain ⟨v50, hv50, h⟩ := Option.bind_eq_some_iff.mp h
        refine RT.gf 12 50 2 (pc := 50) (x := a0) (v := v50) hz dX12_livesSeason_50 fl_X12_120 rfl hv50 ?_
        refine RT.iconst (pc := 53) (n := 1) dX12_livesSeason_53 ⟨by decide, by decide⟩ ?_
        refine RT.iload_n (pc := 54) (k := 1) (x := p25.1) dX12_livesSeason_54 rfl ?_
        refine RT.iadd (pc := 55) dX12_livesSeason_55 ?_
        refine RT.iload_n (pc := 56) (k := 2) (x := p36.1) dX12_livesSeason_56 rfl ?_
        obtain ⟨m57, hm57, h⟩ := Option.bind_eq_some_iff.mp h
        refine RT.iast (pc := 57) (x := v50) (i := (rt_iadd 1 p25.1)) (v := p36.1) (mem1 := m57) dX12_livesSeason_57 (rt_lts hz (by decide) (by decide) hm57) hm57 ?_
        refine RT.wk (L1 := [(2, a0), (9, 0), (9, 0)]) (rt_le_s (rt_le_j (rt_le_j rt_le_n))) ?_
        exact cj_X12_livesSeason_58 hz hd ht m57 _ h hK
theorem cj_X12_centuries_35 {G : rt_G} {d : Nat} {z : Nat × Nat} {Q : rt_P} (hz : 300 ≤ z.1) (hd : 8 ≤ d) {a0 : Int} (ht : rt_kd a0.toNat = 20 + 12) (mem0 : rt_M) (t : Int × rt_M) (h : j_X12_centuries_35 mem0 = some t) (hK : Q (some (0, t.1)) z t.2) : RT G M_X12_centuries d z Q 35 [(9, 0), (9, 0), (9, 0), (9, 0), (9, 0), (9, 0), (9, 0), (9, 0)] [] z mem0 := by
  unfold j_X12_centuries_35 at h
  refine RT.iconst (pc := 35) (n := (-1)) dX12_centuries_35 ⟨by decide, by decide⟩ ?_
  obtain rfl := Option.some.inj h
  exact RT.iret (pc := 36) dX12_centuries_36 rfl (Nat.le_of_eq (rt_cells_0 z)) (Nat.le_of_eq (rt_slots_0 z)) hK
theorem cb_X12_centuries_65 {G : rt_G} {d : Nat} {z : Nat × Nat} {Q : rt_P} (hz : 300 ≤ z.1) (hd : 8 ≤ d) {a0 : Int} (ht : rt_kd a0.toNat = 20 + 12) (a2 : Int) (a3 : Int) (s : Int × Int × Int × rt_M) (t : (Int × Int × Int × rt_M) ⊕ (Int × Int × rt_M)) (h : b_X12_centuries_65 a0 a2 a3 s = some t) (hK : (∀ s1 : Int × Int × Int × rt_M, t = .inl s1 → RT G M_X12_centuries d z Q 65 [(2, a0), (9, 0), (0, a2), (0, a3), (0, s1.1), (0, s1.2.1), (0, s1.2.2.1), (9, 0)] [] z s1.2.2.2) ∧ (∀ x1 : Int × Int × rt_M, t = .inr x1 → RT G M_X12_centuries d z Q 99 [(2, a0), (9, 0), (9, 0), (0, a3), (0, x1.1), (0, x1.2.1), (9, 0), (9, 0)] [] z x1.2.2)) : RT G M_X12_centuries d z Q 65 [(2, a0), (9, 0), (0, a2), (0, a3), (0, s.1), (0, s.2.1), (0, s.2.2.1), (9, 0)] [] z s.2.2.2 := by
  unfold b_X12_centuries_65 at h
  refine RT.iload (pc := 65) (k := 6) (x := s.2.2.1) dX12_centuries_65 rfl ?_
  refine RT.iload_n (pc := 67) (k := 2) (x := a2) dX12_centuries_67 rfl ?_
  refine RT.icmp_ge (pc := 68) (tgt := 99) dX12_centuries_68 rfl (fun q68 => ?_) (fun q68 => ?_)
  · rw [if_pos q68] at h
    refine RT.wk (L1 := [(2, a0), (9, 0), (9, 0), (0, a3), (0, s.1), (0, s.2.1), (9, 0), (9, 0)]) (rt_le_s (rt_le_s (rt_le_j (rt_le_s (rt_le_s (rt_le_s (rt_le_j (rt_le_s rt_le_n)))))))) ?_
    obtain rfl := Option.some.inj h
    have q1 := hK.2 ((s.1, s.2.1, s.2.2.2)) rfl
    try dsimp only at q1
    exact q1
  · rw [if_neg q68] at h
    refine RT.iload (pc := 71) (k := 5) (x := s.2.1) dX12_centuries_71 rfl ?_
    refine RT.aload_n (pc := 73) (k := 0) (x := a0) dX12_centuries_73 rfl ?_
    obtain ⟨p74, hp74, h⟩ := Option.bind_eq_some_iff.mp h
    refine RT.cVz (pc := 74) (M' := M_X12_livesSeason) (ci := 12) (x := a0) (As := []) (st := [(0, s.2.1)]) (r := some (0, p74.1)) (mem1 := p74.2) (d' := d - 1) hz dX12_centuries_74 mw_X12_livesSeason ml_X12_531 mi_X12_livesSeason ht rfl rfl (Nat.le_of_ble_eq_true rfl) (Nat.le_of_ble_eq_true rfl) (by omega) rfl rfl (c_X12_livesSeason hz (by omega) a0 s.2.2.2 _ ht hp74) ?_
    refine RT.iadd (pc := 77) dX12_centuries_77 ?_
    refine RT.istore (pc := 78) (k := 5) (x := (rt_iadd s.2.1 p74.1)) (L1 := [(2, a0), (9, 0), (0, a2), (0, a3), (0, s.1), (0, (rt_iadd s.2.1 p74.1)), (0, s.2.2.1), (9, 0)]) dX12_centuries_78 (Nat.le_of_ble_eq_true rfl) rfl ?_
    refine RT.iload (pc := 80) (k := 4) (x := s.1) dX12_centuries_80 rfl ?_
    refine RT.aload_n (pc := 82) (k := 0) (x := a0) dX12_centuries_82 rfl ?_
    refine RT.aload_n (pc := 83) (k := 0) (x := a0) dX12_centuries_83 rfl ?_
    obtain ⟨p84, hp84, h⟩ := Option.bind_eq_some_iff.mp h
    refine RT.cVz (pc := 84) (M' := M_X12_onHeads) (ci := 12) (x := a0) (As := []) (st := [(2, a0), (0, s.1)]) (r := some (0, p84)) (mem1 := p74.2) (d' := d - 1) hz dX12_centuries_84 mw_X12_onHeads ml_X12_436 mi_X12_onHeads ht rfl rfl (Nat.le_of_ble_eq_true rfl) (Nat.le_of_ble_eq_true rfl) (by omega) rfl rfl (c_X12_onHeads hz (by omega) a0 p74.2 _ ht hp84) ?_
    obtain ⟨p87, hp87, h⟩ := Option.bind_eq_some_iff.mp h
    refine RT.cVz (pc := 87) (M' := M_X12_officeOf) (ci := 12) (x := a0) (As := [(0, p84)]) (st := [(0, s.1)]) (r := some (0, p87)) (mem1 := p74.2) (d' := d - 1) hz dX12_centuries_87 mw_X12_officeOf ml_X12_439 mi_X12_officeOf ht rfl rfl (Nat.le_of_ble_eq_true rfl) (Nat.le_of_ble_eq_true rfl) (by omega) rfl rfl (c_X12_officeOf hz (by omega) a0 p84 p74.2 _ ht hp87) ?_
    refine RT.iadd (pc := 90) dX12_centuries_90 ?_
    refine RT.istore (pc := 91) (k := 4) (x := (rt_iadd s.1 p87)) (L1 := [(2, a0), (9, 0), (0, a2), (0, a3), (0, (rt_iadd s.1 p87)), (0, (rt_iadd s.2.1 p74.1)), (0, s.2.2.1), (9, 0)]) dX12_centuries_91 (Nat.le_of_ble_eq_true rfl) rfl ?_
    refine RT.iinc (pc := 93) (x := s.2.2.1) (L1 := [(2, a0), (9, 0), (0, a2), (0, a3), (0, (rt_iadd s.1 p87)), (0, (rt_iadd s.2.1 p74.1)), (0, (rt_iadd s.2.2.1 1)), (9, 0)]) dX12_centuries_93 rfl (Nat.le_of_ble_eq_true rfl) ⟨by decide, by decide⟩ rfl ?_
    refine RT.goto (pc := 96) (tgt := 65) dX12_centuries_96 rfl ?_
    obtain rfl := Option.some.inj h
    have q1 := hK.1 (((rt_iadd s.1 p87), (rt_iadd s.2.1 p74.1), (rt_iadd s.2.2.1 1), p74.2)) rfl
    try dsimp only at q1
    exact q1
theorem cb_X12_centuries_105 {G : rt_G} {d : Nat} {z : Nat × Nat} {Q : rt_P} (hz : 300 ≤ z.1) (hd : 8 ≤ d) {a0 : Int} (ht : rt_kd a0.toNat = 20 + 12) (a3 : Int) (a4 : Int) (a5 : Int) (s : Int × Int × rt_M) (t : (Int × Int × rt_M) ⊕ (Int × rt_M)) (h : b_X12_centuries_105 a0 a3 a4 a5 s = some t) (hK : (∀ s1 : Int × Int × rt_M, t = .inl s1 → RT G M_X12_centuries d z Q 105 [(2, a0), (9, 0), (9, 0), (0, a3), (0, a4), (0, a5), (0, s1.1), (0, s1.2.1)] [] z s1.2.2) ∧ (∀ x1 : Int × rt_M, t = .inr x1 → RT G M_X12_centuries d z Q 133 [(2, a0), (9, 0), (9, 0), (0, a3), (0, a4), (0, a5), (0, x1.1), (9, 0)] [] z x1.2)) : RT G M_X12_centuries d z Q 105 [(2, a0), (9, 0), (9, 0), (0, a3), (0, a4), (0, a5), (0, s.1), (0, s.2.1)] [] z s.2.2 := by
  unfold b_X12_centuries_105 at h
  refine RT.iload (pc := 105) (k := 7) (x := s.2.1) dX12_centuries_105 rfl ?_
  refine RT.bipush (pc := 107) (n := 6) dX12_centuries_107 ⟨by decide, by decide⟩ rfl ?_
  refine RT.icmp_ge (pc := 109) (tgt := 133) dX12_centuries_109 rfl (fun q109 => ?_) (fun q109 => ?_)
  · rw [if_pos q109] at h
    refine RT.wk (L1 := [(2, a0), (9, 0), (9, 0), (0, a3), (0, a4), (0, a5), (0, s.1), (9, 0)]) (rt_le_s (rt_le_s (rt_le_s (rt_le_s (rt_le_s (rt_le_s (rt_le_s (rt_le_j rt_le_n)))))))) ?_
    obtain rfl := Option.some.inj h
    have q1 := hK.2 ((s.1, s.2.2)) rfl
    try dsimp only at q1
    exact q1
  · rw [if_neg q109] at h
    refine RT.iload (pc := 112) (k := 6) (x := s.1) dX12_centuries_112 rfl ?_
    refine RT.aload_n (pc := 114) (k := 0) (x := a0) dX12_centuries_114 rfl ?_
    obtain ⟨v115, hv115, h⟩ := Option.bind_eq_some_iff.mp h
    refine RT.gf 12 50 2 (pc := 115) (x := a0) (v := v115) hz dX12_centuries_115 fl_X12_120 rfl hv115 ?_
    refine RT.bipush (pc := 118) (n := 7) dX12_centuries_118 ⟨by decide, by decide⟩ rfl ?_
    refine RT.iload (pc := 120) (k := 7) (x := s.2.1) dX12_centuries_120 rfl ?_
    refine RT.iadd (pc := 122) dX12_centuries_122 ?_
    obtain ⟨v123, hv123, h⟩ := Option.bind_eq_some_iff.mp h
    refine RT.iald (pc := 123) (x := v115) (i := (rt_iadd 7 s.2.1)) (v := v123) dX12_centuries_123 (rt_lta hz (by decide) (by decide) hv123) hv123 ?_
    refine RT.iadd (pc := 124) dX12_centuries_124 ?_
    refine RT.istore (pc := 125) (k := 6) (x := (rt_iadd s.1 v123)) (L1 := [(2, a0), (9, 0), (9, 0), (0, a3), (0, a4), (0, a5), (0, (rt_iadd s.1 v123)), (0, s.2.1)]) dX12_centuries_125 (Nat.le_of_ble_eq_true rfl) rfl ?_
    refine RT.iinc (pc := 127) (x := s.2.1) (L1 := [(2, a0), (9, 0), (9, 0), (0, a3), (0, a4), (0, a5), (0, (rt_iadd s.1 v123)), (0, (rt_iadd s.2.1 1))]) dX12_centuries_127 rfl (Nat.le_of_ble_eq_true rfl) ⟨by decide, by decide⟩ rfl ?_
    refine RT.goto (pc := 130) (tgt := 105) dX12_centuries_130 rfl ?_
    obtain rfl := Option.some.inj h
    have q1 := hK.1 (((rt_iadd s.1 v123), (rt_iadd s.2.1 1), s.2.2)) rfl
    try dsimp only at q1
    exact q1
theorem cj_X12_centuries_167 {G : rt_G} {d : Nat} {z : Nat × Nat} {Q : rt_P} (hz : 300 ≤ z.1) (hd : 8 ≤ d) {a0 : Int} (ht : rt_kd a0.toNat = 20 + 12) (s0 : Int) (mem0 : rt_M) (t : Int × rt_M) (h : j_X12_centuries_167 s0 mem0 = some t) (hK : Q (some (0, t.1)) z t.2) : RT G M_X12_centuries d z Q 167 [(9, 0), (9, 0), (9, 0), (9, 0), (9, 0), (9, 0), (9, 0), (9, 0)] [(0, s0)] z mem0 := by
  unfold j_X12_centuries_167 at h
  obtain rfl := Option.some.inj h
  exact RT.iret (pc := 167) dX12_centuries_167 rfl (Nat.le_of_eq (rt_cells_0 z)) (Nat.le_of_eq (rt_slots_0 z)) hK
theorem c_X12_centuries {G : rt_G} {d : Nat} {z : Nat × Nat} (hz : 300 ≤ z.1) (hd : 8 ≤ d) (a0 : Int) (a1 : Int) (a2 : Int) (a3 : Int) (mem0 : rt_M) (t : Int × rt_M) (ht : rt_kd a0.toNat = 20 + 12) (h : f_X12_centuries a0 a1 a2 a3 mem0 = some t) : RM G M_X12_centuries d [(2, a0), (0, a1), (0, a2), (0, a3)] z mem0 (some (0, t.1)) t.2 := by
  suffices H : ∀ Q : rt_P, Q (some (0, t.1)) z t.2 → RT G M_X12_centuries d z Q 0 [(2, a0), (0, a1), (0, a2), (0, a3), (9, 0), (9, 0), (9, 0), (9, 0)] [] z mem0 from H _ ⟨rfl, rfl, rfl⟩
  intro Q hK
  unfold f_X12_centuries at h
  refine RT.aload_n (pc := 0) (k := 0) (x := a0) dX12_centuries_0 rfl ?_
  refine RT.iconst (pc := 1) (n := 0) dX12_centuries_1 ⟨by decide, by decide⟩ ?_
  obtain ⟨m2, hm2, h⟩ := Option.bind_eq_some_iff.mp h
  refine RT.pf_i 12 0 (pc := 2) (mem1 := m2) hz dX12_centuries_2 fl_X12_171 rfl rfl rfl hm2 ?_
  refine RT.iload_n (pc := 5) (k := 1) (x := a1) dX12_centuries_5 rfl ?_
  refine RT.iconst (pc := 6) (n := 0) dX12_centuries_6 ⟨by decide, by decide⟩ ?_
  refine RT.sipush (pc := 7) (n := 9999) dX12_centuries_7 ⟨by decide, by decide⟩ rfl ?_
  obtain ⟨p10, hp10, h⟩ := Option.bind_eq_some_iff.mp h
  refine RT.cSz (pc := 10) (M' := M_X12_within) (As := [(0, a1), (0, 0), (0, 9999)]) (st := []) (r := some (0, p10)) (mem1 := m2) (d' := d - 1) dX12_centuries_10 mw_X12_within ml_X12_301 mi_X12_within rfl rfl (Nat.le_of_ble_eq_true rfl) (Nat.le_of_ble_eq_true rfl) (by omega) rfl rfl (c_X12_within hz (by omega) a1 0 9999 m2 _ hp10) ?_
  refine RT.if_eq (pc := 13) (tgt := 35) dX12_centuries_13 rfl (fun q13 => ?_) (fun q13 => ?_)
  · rw [if_pos q13] at h
    refine RT.wk (L1 := [(9, 0), (9, 0), (9, 0), (9, 0), (9, 0), (9, 0), (9, 0), (9, 0)]) (rt_le_j (rt_le_j (rt_le_j (rt_le_j (rt_le_s (rt_le_s (rt_le_s (rt_le_s rt_le_n)))))))) ?_
    exact cj_X12_centuries_35 hz hd ht m2 _ h hK
  · rw [if_neg q13] at h
    refine RT.iload_n (pc := 16) (k := 2) (x := a2) dX12_centuries_16 rfl ?_
    refine RT.iconst (pc := 17) (n := 1) dX12_centuries_17 ⟨by decide, by decide⟩ ?_
    refine RT.bipush (pc := 18) (n := 99) dX12_centuries_18 ⟨by decide, by decide⟩ rfl ?_
    obtain ⟨p20, hp20, h⟩ := Option.bind_eq_some_iff.mp h
    refine RT.cSz (pc := 20) (M' := M_X12_within) (As := [(0, a2), (0, 1), (0, 99)]) (st := []) (r := some (0, p20)) (mem1 := m2) (d' := d - 1) dX12_centuries_20 mw_X12_within ml_X12_301 mi_X12_within rfl rfl (Nat.le_of_ble_eq_true rfl) (Nat.le_of_ble_eq_true rfl) (by omega) rfl rfl (c_X12_within hz (by omega) a2 1 99 m2 _ hp20) ?_
    refine RT.if_eq (pc := 23) (tgt := 35) dX12_centuries_23 rfl (fun q23 => ?_) (fun q23 => ?_)
    · rw [if_pos q23] at h
      refine RT.wk (L1 := [(9, 0), (9, 0), (9, 0), (9, 0), (9, 0), (9, 0), (9, 0), (9, 0)]) (rt_le_j (rt_le_j (rt_le_j (rt_le_j (rt_le_s (rt_le_s (rt_le_s (rt_le_s rt_le_n)))))))) ?_
      exact cj_X12_centuries_35 hz hd ht m2 _ h hK
    · rw [if_neg q23] at h
      refine RT.iload_n (pc := 26) (k := 3) (x := a3) dX12_centuries_26 rfl ?_
      refine RT.iconst (pc := 27) (n := 0) dX12_centuries_27 ⟨by decide, by decide⟩ ?_
      refine RT.iconst (pc := 28) (n := 2) dX12_centuries_28 ⟨by decide, by decide⟩ ?_
      obtain ⟨p29, hp29, h⟩ := Option.bind_eq_some_iff.mp h
      refine RT.cSz (pc := 29) (M' := M_X12_within) (As := [(0, a3), (0, 0), (0, 2)]) (st := []) (r := some (0, p29)) (mem1 := m2) (d' := d - 1) dX12_centuries_29 mw_X12_within ml_X12_301 mi_X12_within rfl rfl (Nat.le_of_ble_eq_true rfl) (Nat.le_of_ble_eq_true rfl) (by omega) rfl rfl (c_X12_within hz (by omega) a3 0 2 m2 _ hp29) ?_
      refine RT.if_ne (pc := 32) (tgt := 37) dX12_centuries_32 rfl (fun q32 => ?_) (fun q32 => ?_)
      · rw [if_neg q32] at h
        refine RT.aload_n (pc := 37) (k := 0) (x := a0) dX12_centuries_37 rfl ?_
        refine RT.iload_n (pc := 38) (k := 1) (x := a1) dX12_centuries_38 rfl ?_
        refine RT.i2l (pc := 39) dX12_centuries_39 ?_
        obtain ⟨m40, hm40, h⟩ := Option.bind_eq_some_iff.mp h
        refine RT.pf_l 12 71 (pc := 40) (mem1 := m40) hz dX12_centuries_40 fl_X12_514 rfl rfl rfl hm40 ?_
        refine RT.aload_n (pc := 43) (k := 0) (x := a0) dX12_centuries_43 rfl ?_
        obtain ⟨v44, hv44, h⟩ := Option.bind_eq_some_iff.mp h
        refine RT.gf 12 50 2 (pc := 44) (x := a0) (v := v44) hz dX12_centuries_44 fl_X12_120 rfl hv44 ?_
        refine RT.iconst (pc := 47) (n := 0) dX12_centuries_47 ⟨by decide, by decide⟩ ?_
        refine RT.aload_n (pc := 48) (k := 0) (x := a0) dX12_centuries_48 rfl ?_
        obtain ⟨v49, hv49, h⟩ := Option.bind_eq_some_iff.mp h
        refine RT.gf 12 51 2 (pc := 49) (x := a0) (v := v49) hz dX12_centuries_49 fl_X12_123 rfl hv49 ?_
        refine RT.iconst (pc := 52) (n := 0) dX12_centuries_52 ⟨by decide, by decide⟩ ?_
        obtain ⟨p53, hp53, h⟩ := Option.bind_eq_some_iff.mp h
        refine RT.cSz (pc := 53) (M' := M_X12_copies) (As := [(2, v44), (0, 0), (2, v49), (0, 0)]) (st := []) (r := none) (mem1 := p53) (d' := d - 1) dX12_centuries_53 mw_X12_copies ml_X12_420 mi_X12_copies rfl rfl (Nat.le_of_ble_eq_true rfl) (Nat.le_of_ble_eq_true rfl) (by omega) rfl rfl (c_X12_copies hz (by omega) v44 0 v49 0 m40 _ hp53) ?_
        refine RT.iconst (pc := 56) (n := 0) dX12_centuries_56 ⟨by decide, by decide⟩ ?_
        refine RT.istore (pc := 57) (k := 4) (x := 0) (L1 := [(2, a0), (0, a1), (0, a2), (0, a3), (0, 0), (9, 0), (9, 0), (9, 0)]) dX12_centuries_57 (Nat.le_of_ble_eq_true rfl) rfl ?_
        refine RT.iconst (pc := 59) (n := 0) dX12_centuries_59 ⟨by decide, by decide⟩ ?_
        refine RT.istore (pc := 60) (k := 5) (x := 0) (L1 := [(2, a0), (0, a1), (0, a2), (0, a3), (0, 0), (0, 0), (9, 0), (9, 0)]) dX12_centuries_60 (Nat.le_of_ble_eq_true rfl) rfl ?_
        refine RT.iconst (pc := 62) (n := 0) dX12_centuries_62 ⟨by decide, by decide⟩ ?_
        refine RT.istore (pc := 63) (k := 6) (x := 0) (L1 := [(2, a0), (0, a1), (0, a2), (0, a3), (0, 0), (0, 0), (0, 0), (9, 0)]) dX12_centuries_63 (Nat.le_of_ble_eq_true rfl) rfl ?_
        refine RT.wk (L1 := [(2, a0), (9, 0), (0, a2), (0, a3), (0, 0), (0, 0), (0, 0), (9, 0)]) (rt_le_s (rt_le_j (rt_le_s (rt_le_s (rt_le_s (rt_le_s (rt_le_s (rt_le_s rt_le_n)))))))) ?_
        obtain ⟨X65, hX65, h⟩ := Option.bind_eq_some_iff.mp h
        refine rt_it_ind (P := (fun s1 : Int × Int × Int × rt_M => RT G M_X12_centuries d z Q 65 [(2, a0), (9, 0), (0, a2), (0, a3), (0, s1.1), (0, s1.2.1), (0, s1.2.2.1), (9, 0)] [] z s1.2.2.2)) (X := (fun x1 : Int × Int × rt_M => RT G M_X12_centuries d z Q 99 [(2, a0), (9, 0), (9, 0), (0, a3), (0, x1.1), (0, x1.2.1), (9, 0), (9, 0)] [] z x1.2.2)) (fun s1 t1 h1 k1 k2 => cb_X12_centuries_65 hz hd ht a2 a3 s1 t1 h1 ⟨k1, k2⟩) 4000 ((0, 0, 0, p53)) X65 hX65 ?_
        refine RT.iconst (pc := 99) (n := 0) dX12_centuries_99 ⟨by decide, by decide⟩ ?_
        refine RT.istore (pc := 100) (k := 6) (x := 0) (L1 := [(2, a0), (9, 0), (9, 0), (0, a3), (0, X65.1), (0, X65.2.1), (0, 0), (9, 0)]) dX12_centuries_100 (Nat.le_of_ble_eq_true rfl) rfl ?_
        refine RT.iconst (pc := 102) (n := 0) dX12_centuries_102 ⟨by decide, by decide⟩ ?_
        refine RT.istore (pc := 103) (k := 7) (x := 0) (L1 := [(2, a0), (9, 0), (9, 0), (0, a3), (0, X65.1), (0, X65.2.1), (0, 0), (0, 0)]) dX12_centuries_103 (Nat.le_of_ble_eq_true rfl) rfl ?_
        obtain ⟨X105, hX105, h⟩ := Option.bind_eq_some_iff.mp h
        refine rt_it_ind (P := (fun s1 : Int × Int × rt_M => RT G M_X12_centuries d z Q 105 [(2, a0), (9, 0), (9, 0), (0, a3), (0, X65.1), (0, X65.2.1), (0, s1.1), (0, s1.2.1)] [] z s1.2.2)) (X := (fun x1 : Int × rt_M => RT G M_X12_centuries d z Q 133 [(2, a0), (9, 0), (9, 0), (0, a3), (0, X65.1), (0, X65.2.1), (0, x1.1), (9, 0)] [] z x1.2)) (fun s1 t1 h1 k1 k2 => cb_X12_centuries_105 hz hd ht a3 X65.1 X65.2.1 s1 t1 h1 ⟨k1, k2⟩) 4000 ((0, 0, X65.2.2)) X105 hX105 ?_
        refine RT.aload_n (pc := 133) (k := 0) (x := a0) dX12_centuries_133 rfl ?_
        obtain ⟨v134, hv134, h⟩ := Option.bind_eq_some_iff.mp h
        refine RT.gf 12 51 2 (pc := 134) (x := a0) (v := v134) hz dX12_centuries_134 fl_X12_123 rfl hv134 ?_
        refine RT.iconst (pc := 137) (n := 0) dX12_centuries_137 ⟨by decide, by decide⟩ ?_
        refine RT.aload_n (pc := 138) (k := 0) (x := a0) dX12_centuries_138 rfl ?_
        obtain ⟨v139, hv139, h⟩ := Option.bind_eq_some_iff.mp h
        refine RT.gf 12 50 2 (pc := 139) (x := a0) (v := v139) hz dX12_centuries_139 fl_X12_120 rfl hv139 ?_
        refine RT.iconst (pc := 142) (n := 0) dX12_centuries_142 ⟨by decide, by decide⟩ ?_
        obtain ⟨p143, hp143, h⟩ := Option.bind_eq_some_iff.mp h
        refine RT.cSz (pc := 143) (M' := M_X12_copies) (As := [(2, v134), (0, 0), (2, v139), (0, 0)]) (st := []) (r := none) (mem1 := p143) (d' := d - 1) dX12_centuries_143 mw_X12_copies ml_X12_420 mi_X12_copies rfl rfl (Nat.le_of_ble_eq_true rfl) (Nat.le_of_ble_eq_true rfl) (by omega) rfl rfl (c_X12_copies hz (by omega) v134 0 v139 0 X105.2 _ hp143) ?_
        refine RT.iload_n (pc := 146) (k := 3) (x := a3) dX12_centuries_146 rfl ?_
        refine RT.if_ne (pc := 147) (tgt := 155) dX12_centuries_147 rfl (fun q147 => ?_) (fun q147 => ?_)
        · rw [if_neg q147] at h
          refine RT.iload_n (pc := 155) (k := 3) (x := a3) dX12_centuries_155 rfl ?_
          refine RT.iconst (pc := 156) (n := 1) dX12_centuries_156 ⟨by decide, by decide⟩ ?_
          refine RT.icmp_ne (pc := 157) (tgt := 165) dX12_centuries_157 rfl (fun q157 => ?_) (fun q157 => ?_)
          · rw [if_neg q157] at h
            refine RT.iload (pc := 165) (k := 6) (x := X105.1) dX12_centuries_165 rfl ?_
            refine RT.wk (L1 := [(9, 0), (9, 0), (9, 0), (9, 0), (9, 0), (9, 0), (9, 0), (9, 0)]) (rt_le_j (rt_le_s (rt_le_s (rt_le_j (rt_le_j (rt_le_j (rt_le_j (rt_le_s rt_le_n)))))))) ?_
            exact cj_X12_centuries_167 hz hd ht X105.1 p143 _ h hK
          · rw [if_pos (Classical.not_not.mp q157)] at h
            refine RT.iload (pc := 160) (k := 5) (x := X65.2.1) dX12_centuries_160 rfl ?_
            refine RT.goto (pc := 162) (tgt := 167) dX12_centuries_162 rfl ?_
            refine RT.wk (L1 := [(9, 0), (9, 0), (9, 0), (9, 0), (9, 0), (9, 0), (9, 0), (9, 0)]) (rt_le_j (rt_le_s (rt_le_s (rt_le_j (rt_le_j (rt_le_j (rt_le_j (rt_le_s rt_le_n)))))))) ?_
            exact cj_X12_centuries_167 hz hd ht X65.2.1 p143 _ h hK
        · rw [if_pos (Classical.not_not.mp q147)] at h
          refine RT.iload (pc := 150) (k := 4) (x := X65.1) dX12_centuries_150 rfl ?_
          refine RT.goto (pc := 152) (tgt := 167) dX12_centuries_152 rfl ?_
          refine RT.wk (L1 := [(9, 0), (9, 0), (9, 0), (9, 0), (9, 0), (9, 0), (9, 0), (9, 0)]) (rt_le_j (rt_le_s (rt_le_s (rt_le_j (rt_le_j (rt_le_j (rt_le_j (rt_le_s rt_le_n)))))))) ?_
          exact cj_X12_centuries_167 hz hd ht X65.1 p143 _ h hK
      · rw [if_pos (Classical.not_not.mp q32)] at h
        refine RT.wk (L1 := [(9, 0), (9, 0), (9, 0), (9, 0), (9, 0), (9, 0), (9, 0), (9, 0)]) (rt_le_j (rt_le_j (rt_le_j (rt_le_j (rt_le_s (rt_le_s (rt_le_s (rt_le_s rt_le_n)))))))) ?_
        exact cj_X12_centuries_35 hz hd ht m2 _ h hK
theorem cj_X12_mark_27 {G : rt_G} {d : Nat} {z : Nat × Nat} {Q : rt_P} (hz : 300 ≤ z.1) (hd : 1 ≤ d) {a0 : Int} (ht : rt_kd a0.toNat = 20 + 12) (mem0 : rt_M) (t : Int × rt_M) (h : j_X12_mark_27 mem0 = some t) (hK : Q (some (0, t.1)) z t.2) : RT G M_X12_mark d z Q 27 [(9, 0), (9, 0), (9, 0), (9, 0), (9, 0)] [] z mem0 := by
  unfold j_X12_mark_27 at h
  refine RT.iconst (pc := 27) (n := 0) dX12_mark_27 ⟨by decide, by decide⟩ ?_
  obtain rfl := Option.some.inj h
  exact RT.zret (pc := 28) dX12_mark_28 rfl (by decide) (Nat.le_of_eq (rt_cells_0 z)) (Nat.le_of_eq (rt_slots_0 z)) hK
theorem cj_X12_mark_119 {G : rt_G} {d : Nat} {z : Nat × Nat} {Q : rt_P} (hz : 300 ≤ z.1) (hd : 1 ≤ d) {a0 : Int} (ht : rt_kd a0.toNat = 20 + 12) (mem0 : rt_M) (t : Int × rt_M) (h : j_X12_mark_119 mem0 = some t) (hK : Q (some (0, t.1)) z t.2) : RT G M_X12_mark d z Q 119 [(9, 0), (9, 0), (9, 0), (9, 0), (9, 0)] [] z mem0 := by
  unfold j_X12_mark_119 at h
  refine RT.iconst (pc := 119) (n := 1) dX12_mark_119 ⟨by decide, by decide⟩ ?_
  obtain rfl := Option.some.inj h
  exact RT.zret (pc := 120) dX12_mark_120 rfl (by decide) (Nat.le_of_eq (rt_cells_0 z)) (Nat.le_of_eq (rt_slots_0 z)) hK
theorem cj_X12_mark_59 {G : rt_G} {d : Nat} {z : Nat × Nat} {Q : rt_P} (hz : 300 ≤ z.1) (hd : 1 ≤ d) {a0 : Int} (ht : rt_kd a0.toNat = 20 + 12) (a1 : Int) (a2 : Int) (a3 : Int) (s0 : Int) (mem0 : rt_M) (t : Int × rt_M) (h : j_X12_mark_59 a0 a1 a2 a3 s0 mem0 = some t) (hK : Q (some (0, t.1)) z t.2) : RT G M_X12_mark d z Q 59 [(2, a0), (0, a1), (0, a2), (0, a3), (9, 0)] [(0, s0)] z mem0 := by
  unfold j_X12_mark_59 at h
  refine RT.istore (pc := 59) (k := 4) (x := s0) (L1 := [(2, a0), (0, a1), (0, a2), (0, a3), (0, s0)]) dX12_mark_59 (Nat.le_of_ble_eq_true rfl) rfl ?_
  refine RT.aload_n (pc := 61) (k := 0) (x := a0) dX12_mark_61 rfl ?_
  refine RT.iload_n (pc := 62) (k := 3) (x := a3) dX12_mark_62 rfl ?_
  refine RT.iload (pc := 63) (k := 4) (x := s0) dX12_mark_63 rfl ?_
  obtain ⟨p65, hp65, h⟩ := Option.bind_eq_some_iff.mp h
  refine RT.cVz (pc := 65) (M' := M_X12_laysLines) (ci := 12) (x := a0) (As := [(0, a3), (0, s0)]) (st := []) (r := none) (mem1 := p65) (d' := d - 1) hz dX12_mark_65 mw_X12_laysLines ml_X12_382 mi_X12_laysLines ht rfl rfl (Nat.le_of_ble_eq_true rfl) (Nat.le_of_ble_eq_true rfl) (by omega) rfl rfl (c_X12_laysLines hz (by omega) a0 a3 s0 mem0 _ ht hp65) ?_
  refine RT.aload_n (pc := 68) (k := 0) (x := a0) dX12_mark_68 rfl ?_
  refine RT.iload_n (pc := 69) (k := 3) (x := a3) dX12_mark_69 rfl ?_
  refine RT.iload (pc := 70) (k := 4) (x := s0) dX12_mark_70 rfl ?_
  obtain ⟨p72, hp72, h⟩ := Option.bind_eq_some_iff.mp h
  refine RT.cVz (pc := 72) (M' := M_X12_laysSaid) (ci := 12) (x := a0) (As := [(0, a3), (0, s0)]) (st := []) (r := none) (mem1 := p72) (d' := d - 1) hz dX12_mark_72 mw_X12_laysSaid ml_X12_534 mi_X12_laysSaid ht rfl rfl (Nat.le_of_ble_eq_true rfl) (Nat.le_of_ble_eq_true rfl) (by omega) rfl rfl (c_X12_laysSaid hz (by omega) a0 a3 s0 p65 _ ht hp72) ?_
  refine RT.iload_n (pc := 75) (k := 2) (x := a2) dX12_mark_75 rfl ?_
  refine RT.if_eq (pc := 76) (tgt := 103) dX12_mark_76 rfl (fun q76 => ?_) (fun q76 => ?_)
  · rw [if_pos q76] at h
    refine RT.aload_n (pc := 103) (k := 0) (x := a0) dX12_mark_103 rfl ?_
    obtain ⟨v104, hv104, h⟩ := Option.bind_eq_some_iff.mp h
    refine RT.gf 12 50 2 (pc := 104) (x := a0) (v := v104) hz dX12_mark_104 fl_X12_120 rfl hv104 ?_
    refine RT.iconst (pc := 107) (n := 0) dX12_mark_107 ⟨by decide, by decide⟩ ?_
    refine RT.aload_n (pc := 108) (k := 0) (x := a0) dX12_mark_108 rfl ?_
    obtain ⟨v109, hv109, h⟩ := Option.bind_eq_some_iff.mp h
    refine RT.gf 12 52 2 (pc := 109) (x := a0) (v := v109) hz dX12_mark_109 fl_X12_126 rfl hv109 ?_
    refine RT.bipush (pc := 112) (n := 13) dX12_mark_112 ⟨by decide, by decide⟩ rfl ?_
    refine RT.iload_n (pc := 114) (k := 1) (x := a1) dX12_mark_114 rfl ?_
    refine RT.imul (pc := 115) dX12_mark_115 ?_
    obtain ⟨p116, hp116, h⟩ := Option.bind_eq_some_iff.mp h
    refine RT.cSz (pc := 116) (M' := M_X12_copies) (As := [(2, v104), (0, 0), (2, v109), (0, (rt_imul 13 a1))]) (st := []) (r := none) (mem1 := p116) (d' := d - 1) dX12_mark_116 mw_X12_copies ml_X12_420 mi_X12_copies rfl rfl (Nat.le_of_ble_eq_true rfl) (Nat.le_of_ble_eq_true rfl) (by omega) rfl rfl (c_X12_copies hz (by omega) v104 0 v109 ((rt_imul 13 a1)) p72 _ hp116) ?_
    refine RT.wk (L1 := [(9, 0), (9, 0), (9, 0), (9, 0), (9, 0)]) (rt_le_j (rt_le_j (rt_le_j (rt_le_j (rt_le_j rt_le_n))))) ?_
    exact cj_X12_mark_119 hz hd ht p116 _ h hK
  · rw [if_neg q76] at h
    refine RT.aload_n (pc := 79) (k := 0) (x := a0) dX12_mark_79 rfl ?_
    obtain ⟨v80, hv80, h⟩ := Option.bind_eq_some_iff.mp h
    refine RT.gf 12 52 2 (pc := 80) (x := a0) (v := v80) hz dX12_mark_80 fl_X12_126 rfl hv80 ?_
    refine RT.bipush (pc := 83) (n := 13) dX12_mark_83 ⟨by decide, by decide⟩ rfl ?_
    refine RT.iload_n (pc := 85) (k := 1) (x := a1) dX12_mark_85 rfl ?_
    refine RT.imul (pc := 86) dX12_mark_86 ?_
    refine RT.aload_n (pc := 87) (k := 0) (x := a0) dX12_mark_87 rfl ?_
    obtain ⟨v88, hv88, h⟩ := Option.bind_eq_some_iff.mp h
    refine RT.gf 12 50 2 (pc := 88) (x := a0) (v := v88) hz dX12_mark_88 fl_X12_120 rfl hv88 ?_
    refine RT.iconst (pc := 91) (n := 0) dX12_mark_91 ⟨by decide, by decide⟩ ?_
    obtain ⟨p92, hp92, h⟩ := Option.bind_eq_some_iff.mp h
    refine RT.cSz (pc := 92) (M' := M_X12_copies) (As := [(2, v80), (0, (rt_imul 13 a1)), (2, v88), (0, 0)]) (st := []) (r := none) (mem1 := p92) (d' := d - 1) dX12_mark_92 mw_X12_copies ml_X12_420 mi_X12_copies rfl rfl (Nat.le_of_ble_eq_true rfl) (Nat.le_of_ble_eq_true rfl) (by omega) rfl rfl (c_X12_copies hz (by omega) v80 ((rt_imul 13 a1)) v88 0 p72 _ hp92) ?_
    refine RT.aload_n (pc := 95) (k := 0) (x := a0) dX12_mark_95 rfl ?_
    refine RT.iconst (pc := 96) (n := 0) dX12_mark_96 ⟨by decide, by decide⟩ ?_
    obtain ⟨m97, hm97, h⟩ := Option.bind_eq_some_iff.mp h
    refine RT.pf_i 12 55 (pc := 97) (mem1 := m97) hz dX12_mark_97 fl_X12_376 rfl rfl rfl hm97 ?_
    refine RT.goto (pc := 100) (tgt := 119) dX12_mark_100 rfl ?_
    refine RT.wk (L1 := [(9, 0), (9, 0), (9, 0), (9, 0), (9, 0)]) (rt_le_j (rt_le_j (rt_le_j (rt_le_j (rt_le_j rt_le_n))))) ?_
    exact cj_X12_mark_119 hz hd ht m97 _ h hK
theorem cj_X12_mark_47 {G : rt_G} {d : Nat} {z : Nat × Nat} {Q : rt_P} (hz : 300 ≤ z.1) (hd : 1 ≤ d) {a0 : Int} (ht : rt_kd a0.toNat = 20 + 12) (a1 : Int) (a2 : Int) (s0 : Int) (mem0 : rt_M) (t : Int × rt_M) (h : j_X12_mark_47 a0 a1 a2 s0 mem0 = some t) (hK : Q (some (0, t.1)) z t.2) : RT G M_X12_mark d z Q 47 [(2, a0), (0, a1), (0, a2), (9, 0), (9, 0)] [(0, s0)] z mem0 := by
  unfold j_X12_mark_47 at h
  refine RT.istore_n (pc := 47) (k := 3) (x := s0) (L1 := [(2, a0), (0, a1), (0, a2), (0, s0), (9, 0)]) dX12_mark_47 (Nat.le_of_ble_eq_true rfl) rfl ?_
  refine RT.iload_n (pc := 48) (k := 2) (x := a2) dX12_mark_48 rfl ?_
  refine RT.if_eq (pc := 49) (tgt := 56) dX12_mark_49 rfl (fun q49 => ?_) (fun q49 => ?_)
  · rw [if_pos q49] at h
    refine RT.iconst (pc := 56) (n := 1) dX12_mark_56 ⟨by decide, by decide⟩ ?_
    refine RT.iload_n (pc := 57) (k := 1) (x := a1) dX12_mark_57 rfl ?_
    refine RT.iadd (pc := 58) dX12_mark_58 ?_
    exact cj_X12_mark_59 hz hd ht a1 a2 s0 ((rt_iadd 1 a1)) mem0 _ h hK
  · rw [if_neg q49] at h
    refine RT.iconst (pc := 52) (n := 0) dX12_mark_52 ⟨by decide, by decide⟩ ?_
    refine RT.goto (pc := 53) (tgt := 59) dX12_mark_53 rfl ?_
    exact cj_X12_mark_59 hz hd ht a1 a2 s0 0 mem0 _ h hK
theorem cj_X12_mark_29 {G : rt_G} {d : Nat} {z : Nat × Nat} {Q : rt_P} (hz : 300 ≤ z.1) (hd : 1 ≤ d) {a0 : Int} (ht : rt_kd a0.toNat = 20 + 12) (a1 : Int) (a2 : Int) (mem0 : rt_M) (t : Int × rt_M) (h : j_X12_mark_29 a0 a1 a2 mem0 = some t) (hK : Q (some (0, t.1)) z t.2) : RT G M_X12_mark d z Q 29 [(2, a0), (0, a1), (0, a2), (9, 0), (9, 0)] [] z mem0 := by
  unfold j_X12_mark_29 at h
  refine RT.aload_n (pc := 29) (k := 0) (x := a0) dX12_mark_29 rfl ?_
  obtain ⟨v30, hv30, h⟩ := Option.bind_eq_some_iff.mp h
  refine RT.gf 12 54 2 (pc := 30) (x := a0) (v := v30) hz dX12_mark_30 fl_X12_132 rfl hv30 ?_
  refine RT.iload_n (pc := 33) (k := 1) (x := a1) dX12_mark_33 rfl ?_
  refine RT.iconst (pc := 34) (n := 1) dX12_mark_34 ⟨by decide, by decide⟩ ?_
  obtain ⟨m35, hm35, h⟩ := Option.bind_eq_some_iff.mp h
  refine RT.zast (pc := 35) (x := v30) (i := a1) (v := 1) (mem1 := m35) dX12_mark_35 (by decide) (rt_lts hz (by decide) (by decide) hm35) hm35 ?_
  refine RT.iload_n (pc := 36) (k := 2) (x := a2) dX12_mark_36 rfl ?_
  refine RT.if_eq (pc := 37) (tgt := 46) dX12_mark_37 rfl (fun q37 => ?_) (fun q37 => ?_)
  · rw [if_pos q37] at h
    refine RT.iconst (pc := 46) (n := 0) dX12_mark_46 ⟨by decide, by decide⟩ ?_
    exact cj_X12_mark_47 hz hd ht a1 a2 0 m35 _ h hK
  · rw [if_neg q37] at h
    refine RT.iconst (pc := 40) (n := 1) dX12_mark_40 ⟨by decide, by decide⟩ ?_
    refine RT.iload_n (pc := 41) (k := 1) (x := a1) dX12_mark_41 rfl ?_
    refine RT.iadd (pc := 42) dX12_mark_42 ?_
    refine RT.goto (pc := 43) (tgt := 47) dX12_mark_43 rfl ?_
    exact cj_X12_mark_47 hz hd ht a1 a2 ((rt_iadd 1 a1)) m35 _ h hK
theorem c_X12_mark {G : rt_G} {d : Nat} {z : Nat × Nat} (hz : 300 ≤ z.1) (hd : 1 ≤ d) (a0 : Int) (a1 : Int) (a2 : Int) (mem0 : rt_M) (t : Int × rt_M) (ht : rt_kd a0.toNat = 20 + 12) (h : f_X12_mark a0 a1 a2 mem0 = some t) : RM G M_X12_mark d [(2, a0), (0, a1), (0, a2)] z mem0 (some (0, t.1)) t.2 := by
  suffices H : ∀ Q : rt_P, Q (some (0, t.1)) z t.2 → RT G M_X12_mark d z Q 0 [(2, a0), (0, a1), (0, a2), (9, 0), (9, 0)] [] z mem0 from H _ ⟨rfl, rfl, rfl⟩
  intro Q hK
  unfold f_X12_mark at h
  refine RT.aload_n (pc := 0) (k := 0) (x := a0) dX12_mark_0 rfl ?_
  refine RT.iconst (pc := 1) (n := 0) dX12_mark_1 ⟨by decide, by decide⟩ ?_
  obtain ⟨m2, hm2, h⟩ := Option.bind_eq_some_iff.mp h
  refine RT.pf_i 12 0 (pc := 2) (mem1 := m2) hz dX12_mark_2 fl_X12_171 rfl rfl rfl hm2 ?_
  refine RT.iload_n (pc := 5) (k := 1) (x := a1) dX12_mark_5 rfl ?_
  refine RT.iconst (pc := 6) (n := 0) dX12_mark_6 ⟨by decide, by decide⟩ ?_
  refine RT.iconst (pc := 7) (n := 3) dX12_mark_7 ⟨by decide, by decide⟩ ?_
  obtain ⟨p8, hp8, h⟩ := Option.bind_eq_some_iff.mp h
  refine RT.cSz (pc := 8) (M' := M_X12_within) (As := [(0, a1), (0, 0), (0, 3)]) (st := []) (r := some (0, p8)) (mem1 := m2) (d' := d - 1) dX12_mark_8 mw_X12_within ml_X12_301 mi_X12_within rfl rfl (Nat.le_of_ble_eq_true rfl) (Nat.le_of_ble_eq_true rfl) (by omega) rfl rfl (c_X12_within hz (by omega) a1 0 3 m2 _ hp8) ?_
  refine RT.if_eq (pc := 11) (tgt := 27) dX12_mark_11 rfl (fun q11 => ?_) (fun q11 => ?_)
  · rw [if_pos q11] at h
    refine RT.wk (L1 := [(9, 0), (9, 0), (9, 0), (9, 0), (9, 0)]) (rt_le_j (rt_le_j (rt_le_j (rt_le_s (rt_le_s rt_le_n))))) ?_
    exact cj_X12_mark_27 hz hd ht m2 _ h hK
  · rw [if_neg q11] at h
    refine RT.iload_n (pc := 14) (k := 2) (x := a2) dX12_mark_14 rfl ?_
    refine RT.if_eq (pc := 15) (tgt := 29) dX12_mark_15 rfl (fun q15 => ?_) (fun q15 => ?_)
    · rw [if_pos q15] at h
      exact cj_X12_mark_29 hz hd ht a1 a2 m2 _ h hK
    · rw [if_neg q15] at h
      refine RT.aload_n (pc := 18) (k := 0) (x := a0) dX12_mark_18 rfl ?_
      obtain ⟨v19, hv19, h⟩ := Option.bind_eq_some_iff.mp h
      refine RT.gf 12 54 2 (pc := 19) (x := a0) (v := v19) hz dX12_mark_19 fl_X12_132 rfl hv19 ?_
      refine RT.iload_n (pc := 22) (k := 1) (x := a1) dX12_mark_22 rfl ?_
      obtain ⟨v23, hv23, h⟩ := Option.bind_eq_some_iff.mp h
      refine RT.zald (pc := 23) (x := v19) (i := a1) (v := v23) dX12_mark_23 (rt_lta hz (by decide) (by decide) hv23) hv23 ?_
      refine RT.if_ne (pc := 24) (tgt := 29) dX12_mark_24 rfl (fun q24 => ?_) (fun q24 => ?_)
      · rw [if_neg q24] at h
        exact cj_X12_mark_29 hz hd ht a1 a2 m2 _ h hK
      · rw [if_pos (Classical.not_not.mp q24)] at h
        refine RT.wk (L1 := [(9, 0), (9, 0), (9, 0), (9, 0), (9, 0)]) (rt_le_j (rt_le_j (rt_le_j (rt_le_s (rt_le_s rt_le_n))))) ?_
        exact cj_X12_mark_27 hz hd ht m2 _ h hK
theorem cj_X12_toldMany_29_4 {G : rt_G} {d : Nat} {z : Nat × Nat} {Q : rt_P} (hz : 300 ≤ z.1) (hd : 0 ≤ d) {a0 : Int} (ht : rt_kd a0.toNat = 20 + 12) (a2 : Int) (s0 : Int) (s1 : Int) (mem0 : rt_M) (t : (Int × Int) ⊕ (Int)) (h : j_X12_toldMany_29_4 a0 a2 s0 s1 mem0 = some t) (hK : (∀ s1 : Int × Int, t = .inl s1 → RT G M_X12_toldMany d z Q 4 [(2, a0), (0, s1.1), (0, s1.2)] [] z mem0) ∧ (∀ x1 : Int, t = .inr x1 → RT G M_X12_toldMany d z Q 37 [(9, 0), (0, x1), (9, 0)] [] z mem0)) : RT G M_X12_toldMany d z Q 29 [(2, a0), (9, 0), (0, a2)] [(0, s1), (0, s0)] z mem0 := by
  unfold j_X12_toldMany_29_4 at h
  refine RT.iadd (pc := 29) dX12_toldMany_29 ?_
  refine RT.istore_n (pc := 30) (k := 1) (x := (rt_iadd s0 s1)) (L1 := [(2, a0), (0, (rt_iadd s0 s1)), (0, a2)]) dX12_toldMany_30 (Nat.le_of_ble_eq_true rfl) rfl ?_
  refine RT.iinc (pc := 31) (x := a2) (L1 := [(2, a0), (0, (rt_iadd s0 s1)), (0, (rt_iadd a2 1))]) dX12_toldMany_31 rfl (Nat.le_of_ble_eq_true rfl) ⟨by decide, by decide⟩ rfl ?_
  refine RT.goto (pc := 34) (tgt := 4) dX12_toldMany_34 rfl ?_
  obtain rfl := Option.some.inj h
  have q1 := hK.1 (((rt_iadd s0 s1), (rt_iadd a2 1))) rfl
  try dsimp only at q1
  exact q1
theorem cb_X12_toldMany_4 {G : rt_G} {d : Nat} {z : Nat × Nat} {Q : rt_P} (hz : 300 ≤ z.1) (hd : 0 ≤ d) {a0 : Int} (ht : rt_kd a0.toNat = 20 + 12) (mem0 : rt_M) (s : Int × Int) (t : (Int × Int) ⊕ (Int)) (h : b_X12_toldMany_4 a0 mem0 s = some t) (hK : (∀ s1 : Int × Int, t = .inl s1 → RT G M_X12_toldMany d z Q 4 [(2, a0), (0, s1.1), (0, s1.2)] [] z mem0) ∧ (∀ x1 : Int, t = .inr x1 → RT G M_X12_toldMany d z Q 37 [(9, 0), (0, x1), (9, 0)] [] z mem0)) : RT G M_X12_toldMany d z Q 4 [(2, a0), (0, s.1), (0, s.2)] [] z mem0 := by
  unfold b_X12_toldMany_4 at h
  refine RT.iload_n (pc := 4) (k := 2) (x := s.2) dX12_toldMany_4 rfl ?_
  refine RT.aload_n (pc := 5) (k := 0) (x := a0) dX12_toldMany_5 rfl ?_
  obtain ⟨v6, hv6, h⟩ := Option.bind_eq_some_iff.mp h
  refine RT.gf 12 10 2 (pc := 6) (x := a0) (v := v6) hz dX12_toldMany_6 fl_X12_13 rfl hv6 ?_
  refine RT.iconst (pc := 9) (n := 0) dX12_toldMany_9 ⟨by decide, by decide⟩ ?_
  obtain ⟨v10, hv10, h⟩ := Option.bind_eq_some_iff.mp h
  refine RT.iald (pc := 10) (x := v6) (i := 0) (v := v10) dX12_toldMany_10 (rt_lta hz (by decide) (by decide) hv10) hv10 ?_
  refine RT.icmp_ge (pc := 11) (tgt := 37) dX12_toldMany_11 rfl (fun q11 => ?_) (fun q11 => ?_)
  · rw [if_pos q11] at h
    refine RT.wk (L1 := [(9, 0), (0, s.1), (9, 0)]) (rt_le_j (rt_le_s (rt_le_j rt_le_n))) ?_
    obtain rfl := Option.some.inj h
    have q1 := hK.2 s.1 rfl
    try dsimp only at q1
    exact q1
  · rw [if_neg q11] at h
    refine RT.iload_n (pc := 14) (k := 1) (x := s.1) dX12_toldMany_14 rfl ?_
    refine RT.aload_n (pc := 15) (k := 0) (x := a0) dX12_toldMany_15 rfl ?_
    obtain ⟨v16, hv16, h⟩ := Option.bind_eq_some_iff.mp h
    refine RT.gf 12 49 2 (pc := 16) (x := a0) (v := v16) hz dX12_toldMany_16 fl_X12_117 rfl hv16 ?_
    refine RT.iload_n (pc := 19) (k := 2) (x := s.2) dX12_toldMany_19 rfl ?_
    obtain ⟨v20, hv20, h⟩ := Option.bind_eq_some_iff.mp h
    refine RT.iald (pc := 20) (x := v16) (i := s.2) (v := v20) dX12_toldMany_20 (rt_lta hz (by decide) (by decide) hv20) hv20 ?_
    refine RT.if_lt (pc := 21) (tgt := 28) dX12_toldMany_21 rfl (fun q21 => ?_) (fun q21 => ?_)
    · rw [if_pos q21] at h
      refine RT.iconst (pc := 28) (n := 0) dX12_toldMany_28 ⟨by decide, by decide⟩ ?_
      refine RT.wk (L1 := [(2, a0), (9, 0), (0, s.2)]) (rt_le_s (rt_le_j (rt_le_s rt_le_n))) ?_
      exact cj_X12_toldMany_29_4 hz hd ht s.2 s.1 0 mem0 _ h hK
    · rw [if_neg q21] at h
      refine RT.iconst (pc := 24) (n := 1) dX12_toldMany_24 ⟨by decide, by decide⟩ ?_
      refine RT.goto (pc := 25) (tgt := 29) dX12_toldMany_25 rfl ?_
      refine RT.wk (L1 := [(2, a0), (9, 0), (0, s.2)]) (rt_le_s (rt_le_j (rt_le_s rt_le_n))) ?_
      exact cj_X12_toldMany_29_4 hz hd ht s.2 s.1 1 mem0 _ h hK
theorem c_X12_toldMany {G : rt_G} {d : Nat} {z : Nat × Nat} (hz : 300 ≤ z.1) (hd : 0 ≤ d) (a0 : Int) (mem0 : rt_M) (t : Int) (ht : rt_kd a0.toNat = 20 + 12) (h : f_X12_toldMany a0 mem0 = some t) : RM G M_X12_toldMany d [(2, a0)] z mem0 (some (0, t)) mem0 := by
  suffices H : ∀ Q : rt_P, Q (some (0, t)) z mem0 → RT G M_X12_toldMany d z Q 0 [(2, a0), (9, 0), (9, 0)] [] z mem0 from H _ ⟨rfl, rfl, rfl⟩
  intro Q hK
  unfold f_X12_toldMany at h
  refine RT.iconst (pc := 0) (n := 0) dX12_toldMany_0 ⟨by decide, by decide⟩ ?_
  refine RT.istore_n (pc := 1) (k := 1) (x := 0) (L1 := [(2, a0), (0, 0), (9, 0)]) dX12_toldMany_1 (Nat.le_of_ble_eq_true rfl) rfl ?_
  refine RT.iconst (pc := 2) (n := 0) dX12_toldMany_2 ⟨by decide, by decide⟩ ?_
  refine RT.istore_n (pc := 3) (k := 2) (x := 0) (L1 := [(2, a0), (0, 0), (0, 0)]) dX12_toldMany_3 (Nat.le_of_ble_eq_true rfl) rfl ?_
  obtain ⟨X4, hX4, h⟩ := Option.bind_eq_some_iff.mp h
  refine rt_it_ind (P := (fun s1 : Int × Int => RT G M_X12_toldMany d z Q 4 [(2, a0), (0, s1.1), (0, s1.2)] [] z mem0)) (X := (fun x1 : Int => RT G M_X12_toldMany d z Q 37 [(9, 0), (0, x1), (9, 0)] [] z mem0)) (fun s1 t1 h1 k1 k2 => cb_X12_toldMany_4 hz hd ht mem0 s1 t1 h1 ⟨k1, k2⟩) 4000 ((0, 0)) X4 hX4 ?_
  refine RT.iload_n (pc := 37) (k := 1) (x := X4) dX12_toldMany_37 rfl ?_
  obtain rfl := Option.some.inj h
  exact RT.iret (pc := 38) dX12_toldMany_38 rfl (Nat.le_of_eq (rt_cells_0 z)) (Nat.le_of_eq (rt_slots_0 z)) hK
theorem cj_X12_count_157 {G : rt_G} {d : Nat} {z : Nat × Nat} {Q : rt_P} (hz : 300 ≤ z.1) (hd : 1 ≤ d) {a0 : Int} (ht : rt_kd a0.toNat = 20 + 12) (s0 : Int) (mem0 : rt_M) (t : Int × rt_M) (h : j_X12_count_157 s0 mem0 = some t) (hK : Q (some (0, t.1)) z t.2) : RT G M_X12_count d z Q 157 [(9, 0), (9, 0)] [(0, s0)] z mem0 := by
  unfold j_X12_count_157 at h
  obtain rfl := Option.some.inj h
  exact RT.iret (pc := 157) dX12_count_157 rfl (Nat.le_of_eq (rt_cells_0 z)) (Nat.le_of_eq (rt_slots_0 z)) hK
theorem cj_X12_count_126 {G : rt_G} {d : Nat} {z : Nat × Nat} {Q : rt_P} (hz : 300 ≤ z.1) (hd : 1 ≤ d) {a0 : Int} (ht : rt_kd a0.toNat = 20 + 12) (s0 : Int) (mem0 : rt_M) (t : Int × rt_M) (h : j_X12_count_126 s0 mem0 = some t) (hK : Q (some (0, t.1)) z t.2) : RT G M_X12_count d z Q 126 [(9, 0), (9, 0)] [(0, s0)] z mem0 := by
  unfold j_X12_count_126 at h
  obtain rfl := Option.some.inj h
  exact RT.iret (pc := 126) dX12_count_126 rfl (Nat.le_of_eq (rt_cells_0 z)) (Nat.le_of_eq (rt_slots_0 z)) hK
theorem cj_X12_count_98 {G : rt_G} {d : Nat} {z : Nat × Nat} {Q : rt_P} (hz : 300 ≤ z.1) (hd : 1 ≤ d) {a0 : Int} (ht : rt_kd a0.toNat = 20 + 12) (s0 : Int) (mem0 : rt_M) (t : Int × rt_M) (h : j_X12_count_98 s0 mem0 = some t) (hK : Q (some (0, t.1)) z t.2) : RT G M_X12_count d z Q 98 [(9, 0), (9, 0)] [(0, s0)] z mem0 := by
  unfold j_X12_count_98 at h
  obtain rfl := Option.some.inj h
  exact RT.iret (pc := 98) dX12_count_98 rfl (Nat.le_of_eq (rt_cells_0 z)) (Nat.le_of_eq (rt_slots_0 z)) hK
theorem cj_X12_count_58 {G : rt_G} {d : Nat} {z : Nat × Nat} {Q : rt_P} (hz : 300 ≤ z.1) (hd : 1 ≤ d) {a0 : Int} (ht : rt_kd a0.toNat = 20 + 12) (s0 : Int) (mem0 : rt_M) (t : Int × rt_M) (h : j_X12_count_58 s0 mem0 = some t) (hK : Q (some (0, t.1)) z t.2) : RT G M_X12_count d z Q 58 [(9, 0), (9, 0)] [(0, s0)] z mem0 := by
  unfold j_X12_count_58 at h
  obtain rfl := Option.some.inj h
  exact RT.iret (pc := 58) dX12_count_58 rfl (Nat.le_of_eq (rt_cells_0 z)) (Nat.le_of_eq (rt_slots_0 z)) hK
theorem c_X12_count {G : rt_G} {d : Nat} {z : Nat × Nat} (hz : 300 ≤ z.1) (hd : 1 ≤ d) (a0 : Int) (a1 : Int) (mem0 : rt_M) (t : Int × rt_M) (ht : rt_kd a0.toNat = 20 + 12) (h : f_X12_count a0 a1 mem0 = some t) : RM G M_X12_count d [(2, a0), (0, a1)] z mem0 (some (0, t.1)) t.2 := by
  suffices H : ∀ Q : rt_P, Q (some (0, t.1)) z t.2 → RT G M_X12_count d z Q 0 [(2, a0), (0, a1)] [] z mem0 from H _ ⟨rfl, rfl, rfl⟩
  intro Q hK
  unfold f_X12_count at h
  refine RT.aload_n (pc := 0) (k := 0) (x := a0) dX12_count_0 rfl ?_
  refine RT.iconst (pc := 1) (n := 0) dX12_count_1 ⟨by decide, by decide⟩ ?_
  obtain ⟨m2, hm2, h⟩ := Option.bind_eq_some_iff.mp h
  refine RT.pf_i 12 0 (pc := 2) (mem1 := m2) hz dX12_count_2 fl_X12_171 rfl rfl rfl hm2 ?_
  refine RT.iload_n (pc := 5) (k := 1) (x := a1) dX12_count_5 rfl ?_
  refine RT.iconst (pc := 6) (n := 0) dX12_count_6 ⟨by decide, by decide⟩ ?_
  refine RT.bipush (pc := 7) (n := 12) dX12_count_7 ⟨by decide, by decide⟩ rfl ?_
  obtain ⟨p9, hp9, h⟩ := Option.bind_eq_some_iff.mp h
  refine RT.cSz (pc := 9) (M' := M_X12_within) (As := [(0, a1), (0, 0), (0, 12)]) (st := []) (r := some (0, p9)) (mem1 := m2) (d' := d - 1) dX12_count_9 mw_X12_within ml_X12_301 mi_X12_within rfl rfl (Nat.le_of_ble_eq_true rfl) (Nat.le_of_ble_eq_true rfl) (by omega) rfl rfl (c_X12_within hz (by omega) a1 0 12 m2 _ hp9) ?_
  refine RT.if_ne (pc := 12) (tgt := 17) dX12_count_12 rfl (fun q12 => ?_) (fun q12 => ?_)
  · rw [if_neg q12] at h
    refine RT.iload_n (pc := 17) (k := 1) (x := a1) dX12_count_17 rfl ?_
    refine RT.iconst (pc := 18) (n := 3) dX12_count_18 ⟨by decide, by decide⟩ ?_
    refine RT.icmp_ge (pc := 19) (tgt := 29) dX12_count_19 rfl (fun q19 => ?_) (fun q19 => ?_)
    · rw [if_pos q19] at h
      refine RT.iload_n (pc := 29) (k := 1) (x := a1) dX12_count_29 rfl ?_
      refine RT.iconst (pc := 30) (n := 5) dX12_count_30 ⟨by decide, by decide⟩ ?_
      refine RT.icmp_ge (pc := 31) (tgt := 59) dX12_count_31 rfl (fun q31 => ?_) (fun q31 => ?_)
      · rw [if_pos q31] at h
        refine RT.iload_n (pc := 59) (k := 1) (x := a1) dX12_count_59 rfl ?_
        refine RT.bipush (pc := 60) (n := 8) dX12_count_60 ⟨by decide, by decide⟩ rfl ?_
        refine RT.icmp_ge (pc := 62) (tgt := 99) dX12_count_62 rfl (fun q62 => ?_) (fun q62 => ?_)
        · rw [if_pos q62] at h
          refine RT.iload_n (pc := 99) (k := 1) (x := a1) dX12_count_99 rfl ?_
          refine RT.bipush (pc := 100) (n := 10) dX12_count_100 ⟨by decide, by decide⟩ rfl ?_
          refine RT.icmp_ge (pc := 102) (tgt := 127) dX12_count_102 rfl (fun q102 => ?_) (fun q102 => ?_)
          · rw [if_pos q102] at h
            refine RT.iload_n (pc := 127) (k := 1) (x := a1) dX12_count_127 rfl ?_
            refine RT.bipush (pc := 128) (n := 10) dX12_count_128 ⟨by decide, by decide⟩ rfl ?_
            refine RT.icmp_ne (pc := 130) (tgt := 140) dX12_count_130 rfl (fun q130 => ?_) (fun q130 => ?_)
            · rw [if_neg q130] at h
              refine RT.iload_n (pc := 140) (k := 1) (x := a1) dX12_count_140 rfl ?_
              refine RT.bipush (pc := 141) (n := 11) dX12_count_141 ⟨by decide, by decide⟩ rfl ?_
              refine RT.icmp_ne (pc := 143) (tgt := 153) dX12_count_143 rfl (fun q143 => ?_) (fun q143 => ?_)
              · rw [if_neg q143] at h
                refine RT.aload_n (pc := 153) (k := 0) (x := a0) dX12_count_153 rfl ?_
                obtain ⟨v154, hv154, h⟩ := Option.bind_eq_some_iff.mp h
                refine RT.gf 12 1 0 (pc := 154) (x := a0) (v := v154) hz dX12_count_154 fl_X12_177 rfl hv154 ?_
                refine RT.wk (L1 := [(9, 0), (9, 0)]) (rt_le_j (rt_le_j rt_le_n)) ?_
                exact cj_X12_count_157 hz hd ht v154 m2 _ h hK
              · rw [if_pos (Classical.not_not.mp q143)] at h
                refine RT.aload_n (pc := 146) (k := 0) (x := a0) dX12_count_146 rfl ?_
                obtain ⟨v147, hv147, h⟩ := Option.bind_eq_some_iff.mp h
                refine RT.gf 12 55 0 (pc := 147) (x := a0) (v := v147) hz dX12_count_147 fl_X12_376 rfl hv147 ?_
                refine RT.goto (pc := 150) (tgt := 157) dX12_count_150 rfl ?_
                refine RT.wk (L1 := [(9, 0), (9, 0)]) (rt_le_j (rt_le_j rt_le_n)) ?_
                exact cj_X12_count_157 hz hd ht v147 m2 _ h hK
            · rw [if_pos (Classical.not_not.mp q130)] at h
              refine RT.aload_n (pc := 133) (k := 0) (x := a0) dX12_count_133 rfl ?_
              obtain ⟨p134, hp134, h⟩ := Option.bind_eq_some_iff.mp h
              refine RT.cVz (pc := 134) (M' := M_X12_toldMany) (ci := 12) (x := a0) (As := []) (st := []) (r := some (0, p134)) (mem1 := m2) (d' := d - 1) hz dX12_count_134 mw_X12_toldMany ml_X12_537 mi_X12_toldMany ht rfl rfl (Nat.le_of_ble_eq_true rfl) (Nat.le_of_ble_eq_true rfl) (by omega) rfl rfl (c_X12_toldMany hz (by omega) a0 m2 _ ht hp134) ?_
              refine RT.goto (pc := 137) (tgt := 157) dX12_count_137 rfl ?_
              refine RT.wk (L1 := [(9, 0), (9, 0)]) (rt_le_j (rt_le_j rt_le_n)) ?_
              exact cj_X12_count_157 hz hd ht p134 m2 _ h hK
          · rw [if_neg q102] at h
            refine RT.iload_n (pc := 105) (k := 1) (x := a1) dX12_count_105 rfl ?_
            refine RT.bipush (pc := 106) (n := 8) dX12_count_106 ⟨by decide, by decide⟩ rfl ?_
            refine RT.icmp_ne (pc := 108) (tgt := 120) dX12_count_108 rfl (fun q108 => ?_) (fun q108 => ?_)
            · rw [if_neg q108] at h
              refine RT.aload_n (pc := 120) (k := 0) (x := a0) dX12_count_120 rfl ?_
              obtain ⟨v121, hv121, h⟩ := Option.bind_eq_some_iff.mp h
              refine RT.gf 12 45 2 (pc := 121) (x := a0) (v := v121) hz dX12_count_121 fl_X12_105 rfl hv121 ?_
              refine RT.iconst (pc := 124) (n := 0) dX12_count_124 ⟨by decide, by decide⟩ ?_
              obtain ⟨v125, hv125, h⟩ := Option.bind_eq_some_iff.mp h
              refine RT.iald (pc := 125) (x := v121) (i := 0) (v := v125) dX12_count_125 (rt_lta hz (by decide) (by decide) hv125) hv125 ?_
              refine RT.wk (L1 := [(9, 0), (9, 0)]) (rt_le_j (rt_le_j rt_le_n)) ?_
              exact cj_X12_count_126 hz hd ht v125 m2 _ h hK
            · rw [if_pos (Classical.not_not.mp q108)] at h
              refine RT.aload_n (pc := 111) (k := 0) (x := a0) dX12_count_111 rfl ?_
              obtain ⟨v112, hv112, h⟩ := Option.bind_eq_some_iff.mp h
              refine RT.gf 12 41 2 (pc := 112) (x := a0) (v := v112) hz dX12_count_112 fl_X12_93 rfl hv112 ?_
              refine RT.iconst (pc := 115) (n := 0) dX12_count_115 ⟨by decide, by decide⟩ ?_
              obtain ⟨v116, hv116, h⟩ := Option.bind_eq_some_iff.mp h
              refine RT.iald (pc := 116) (x := v112) (i := 0) (v := v116) dX12_count_116 (rt_lta hz (by decide) (by decide) hv116) hv116 ?_
              refine RT.goto (pc := 117) (tgt := 126) dX12_count_117 rfl ?_
              refine RT.wk (L1 := [(9, 0), (9, 0)]) (rt_le_j (rt_le_j rt_le_n)) ?_
              exact cj_X12_count_126 hz hd ht v116 m2 _ h hK
        · rw [if_neg q62] at h
          refine RT.iload_n (pc := 65) (k := 1) (x := a1) dX12_count_65 rfl ?_
          refine RT.iconst (pc := 66) (n := 5) dX12_count_66 ⟨by decide, by decide⟩ ?_
          refine RT.icmp_ne (pc := 67) (tgt := 77) dX12_count_67 rfl (fun q67 => ?_) (fun q67 => ?_)
          · rw [if_neg q67] at h
            refine RT.iload_n (pc := 77) (k := 1) (x := a1) dX12_count_77 rfl ?_
            refine RT.bipush (pc := 78) (n := 6) dX12_count_78 ⟨by decide, by decide⟩ rfl ?_
            refine RT.icmp_ne (pc := 80) (tgt := 90) dX12_count_80 rfl (fun q80 => ?_) (fun q80 => ?_)
            · rw [if_neg q80] at h
              refine RT.aload_n (pc := 90) (k := 0) (x := a0) dX12_count_90 rfl ?_
              refine RT.aload_n (pc := 91) (k := 0) (x := a0) dX12_count_91 rfl ?_
              obtain ⟨p92, hp92, h⟩ := Option.bind_eq_some_iff.mp h
              refine RT.cVz (pc := 92) (M' := M_X12_onHeads) (ci := 12) (x := a0) (As := []) (st := [(2, a0)]) (r := some (0, p92)) (mem1 := m2) (d' := d - 1) hz dX12_count_92 mw_X12_onHeads ml_X12_436 mi_X12_onHeads ht rfl rfl (Nat.le_of_ble_eq_true rfl) (Nat.le_of_ble_eq_true rfl) (by omega) rfl rfl (c_X12_onHeads hz (by omega) a0 m2 _ ht hp92) ?_
              obtain ⟨p95, hp95, h⟩ := Option.bind_eq_some_iff.mp h
              refine RT.cVz (pc := 95) (M' := M_X12_officeOf) (ci := 12) (x := a0) (As := [(0, p92)]) (st := []) (r := some (0, p95)) (mem1 := m2) (d' := d - 1) hz dX12_count_95 mw_X12_officeOf ml_X12_439 mi_X12_officeOf ht rfl rfl (Nat.le_of_ble_eq_true rfl) (Nat.le_of_ble_eq_true rfl) (by omega) rfl rfl (c_X12_officeOf hz (by omega) a0 p92 m2 _ ht hp95) ?_
              refine RT.wk (L1 := [(9, 0), (9, 0)]) (rt_le_j (rt_le_j rt_le_n)) ?_
              exact cj_X12_count_98 hz hd ht p95 m2 _ h hK
            · rw [if_pos (Classical.not_not.mp q80)] at h
              refine RT.aload_n (pc := 83) (k := 0) (x := a0) dX12_count_83 rfl ?_
              obtain ⟨p84, hp84, h⟩ := Option.bind_eq_some_iff.mp h
              refine RT.cVz (pc := 84) (M' := M_X12_wornOut) (ci := 12) (x := a0) (As := []) (st := []) (r := some (0, p84)) (mem1 := m2) (d' := d - 1) hz dX12_count_84 mw_X12_wornOut ml_X12_470 mi_X12_wornOut ht rfl rfl (Nat.le_of_ble_eq_true rfl) (Nat.le_of_ble_eq_true rfl) (by omega) rfl rfl (c_X12_wornOut hz (by omega) a0 m2 _ ht hp84) ?_
              refine RT.goto (pc := 87) (tgt := 98) dX12_count_87 rfl ?_
              refine RT.wk (L1 := [(9, 0), (9, 0)]) (rt_le_j (rt_le_j rt_le_n)) ?_
              exact cj_X12_count_98 hz hd ht p84 m2 _ h hK
          · rw [if_pos (Classical.not_not.mp q67)] at h
            refine RT.aload_n (pc := 70) (k := 0) (x := a0) dX12_count_70 rfl ?_
            obtain ⟨p71, hp71, h⟩ := Option.bind_eq_some_iff.mp h
            refine RT.cVz (pc := 71) (M' := M_X12_onHeads) (ci := 12) (x := a0) (As := []) (st := []) (r := some (0, p71)) (mem1 := m2) (d' := d - 1) hz dX12_count_71 mw_X12_onHeads ml_X12_436 mi_X12_onHeads ht rfl rfl (Nat.le_of_ble_eq_true rfl) (Nat.le_of_ble_eq_true rfl) (by omega) rfl rfl (c_X12_onHeads hz (by omega) a0 m2 _ ht hp71) ?_
            refine RT.goto (pc := 74) (tgt := 98) dX12_count_74 rfl ?_
            refine RT.wk (L1 := [(9, 0), (9, 0)]) (rt_le_j (rt_le_j rt_le_n)) ?_
            exact cj_X12_count_98 hz hd ht p71 m2 _ h hK
      · rw [if_neg q31] at h
        refine RT.iload_n (pc := 34) (k := 1) (x := a1) dX12_count_34 rfl ?_
        refine RT.iconst (pc := 35) (n := 3) dX12_count_35 ⟨by decide, by decide⟩ ?_
        refine RT.icmp_ne (pc := 36) (tgt := 48) dX12_count_36 rfl (fun q36 => ?_) (fun q36 => ?_)
        · rw [if_neg q36] at h
          refine RT.aload_n (pc := 48) (k := 0) (x := a0) dX12_count_48 rfl ?_
          refine RT.aload_n (pc := 49) (k := 0) (x := a0) dX12_count_49 rfl ?_
          obtain ⟨v50, hv50, h⟩ := Option.bind_eq_some_iff.mp h
          refine RT.gf 12 50 2 (pc := 50) (x := a0) (v := v50) hz dX12_count_50 fl_X12_120 rfl hv50 ?_
          refine RT.iconst (pc := 53) (n := 0) dX12_count_53 ⟨by decide, by decide⟩ ?_
          obtain ⟨v54, hv54, h⟩ := Option.bind_eq_some_iff.mp h
          refine RT.iald (pc := 54) (x := v50) (i := 0) (v := v54) dX12_count_54 (rt_lta hz (by decide) (by decide) hv54) hv54 ?_
          obtain ⟨p55, hp55, h⟩ := Option.bind_eq_some_iff.mp h
          refine RT.cVz (pc := 55) (M' := M_X12_heatIn) (ci := 12) (x := a0) (As := [(0, v54)]) (st := []) (r := some (0, p55)) (mem1 := m2) (d' := d - 1) hz dX12_count_55 mw_X12_heatIn ml_X12_386 mi_X12_heatIn ht rfl rfl (Nat.le_of_ble_eq_true rfl) (Nat.le_of_ble_eq_true rfl) (by omega) rfl rfl (c_X12_heatIn hz (by omega) a0 v54 m2 _ ht hp55) ?_
          refine RT.wk (L1 := [(9, 0), (9, 0)]) (rt_le_j (rt_le_j rt_le_n)) ?_
          exact cj_X12_count_58 hz hd ht p55 m2 _ h hK
        · rw [if_pos (Classical.not_not.mp q36)] at h
          refine RT.aload_n (pc := 39) (k := 0) (x := a0) dX12_count_39 rfl ?_
          obtain ⟨v40, hv40, h⟩ := Option.bind_eq_some_iff.mp h
          refine RT.gf 12 50 2 (pc := 40) (x := a0) (v := v40) hz dX12_count_40 fl_X12_120 rfl hv40 ?_
          refine RT.iconst (pc := 43) (n := 0) dX12_count_43 ⟨by decide, by decide⟩ ?_
          obtain ⟨v44, hv44, h⟩ := Option.bind_eq_some_iff.mp h
          refine RT.iald (pc := 44) (x := v40) (i := 0) (v := v44) dX12_count_44 (rt_lta hz (by decide) (by decide) hv44) hv44 ?_
          refine RT.goto (pc := 45) (tgt := 58) dX12_count_45 rfl ?_
          refine RT.wk (L1 := [(9, 0), (9, 0)]) (rt_le_j (rt_le_j rt_le_n)) ?_
          exact cj_X12_count_58 hz hd ht v44 m2 _ h hK
    · rw [if_neg q19] at h
      refine RT.aload_n (pc := 22) (k := 0) (x := a0) dX12_count_22 rfl ?_
      obtain ⟨v23, hv23, h⟩ := Option.bind_eq_some_iff.mp h
      refine RT.gf 12 10 2 (pc := 23) (x := a0) (v := v23) hz dX12_count_23 fl_X12_13 rfl hv23 ?_
      refine RT.iload_n (pc := 26) (k := 1) (x := a1) dX12_count_26 rfl ?_
      obtain ⟨v27, hv27, h⟩ := Option.bind_eq_some_iff.mp h
      refine RT.iald (pc := 27) (x := v23) (i := a1) (v := v27) dX12_count_27 (rt_lta hz (by decide) (by decide) hv27) hv27 ?_
      obtain rfl := Option.some.inj h
      exact RT.iret (pc := 28) dX12_count_28 rfl (Nat.le_of_eq (rt_cells_0 z)) (Nat.le_of_eq (rt_slots_0 z)) hK
  · rw [if_pos (Classical.not_not.mp q12)] at h
    refine RT.iconst (pc := 15) (n := (-1)) dX12_count_15 ⟨by decide, by decide⟩ ?_
    obtain rfl := Option.some.inj h
    exact RT.iret (pc := 16) dX12_count_16 rfl (Nat.le_of_eq (rt_cells_0 z)) (Nat.le_of_eq (rt_slots_0 z)) hK
