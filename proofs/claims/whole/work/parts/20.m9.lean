theorem C_X12_fillsFrom {G : rt_G} {z : Nat × Nat} : ∀ (n d : Nat) (hz : 300 ≤ z.1) (hd : 1 + n ≤ d) (a0 a1 a2 a3 : Int) (mem0 : rt_M) (t : rt_M) (ht : rt_kd a0.toNat = 20 + 12) (h : F_X12_fillsFrom n a0 a1 a2 a3 mem0 = some t), RM G M_X12_fillsFrom d [(2, a0), (0, a1), (0, a2), (0, a3)] z mem0 none t := by
  intro n
  induction n with
  | zero => intro d hz hd a0 a1 a2 a3 mem0 t ht h; cases h
  | succ n ih => intro d hz hd a0 a1 a2 a3 mem0 t ht h; exact c_X12_fillsFrom (F_X12_fillsFrom n) (fun a0 a1 a2 a3 mem0 t ht h => ih (d - 1) hz (by omega) a0 a1 a2 a3 mem0 t ht h) hz (by omega) a0 a1 a2 a3 mem0 t ht h
theorem cj_X12_fill_28 {G : rt_G} {d : Nat} {z : Nat × Nat} {Q : rt_P} (hz : 300 ≤ z.1) (hd : 14 ≤ d) {a0 : Int} (ht : rt_kd a0.toNat = 20 + 12) (mem0 : rt_M) (t : Int × rt_M) (h : j_X12_fill_28 mem0 = some t) (hK : Q (some (0, t.1)) z t.2) : RT G M_X12_fill d z Q 28 [(9, 0), (9, 0), (9, 0), (9, 0), (9, 0)] [] z mem0 := by
  unfold j_X12_fill_28 at h
  refine RT.bipush (pc := 28) (n := (-2)) dX12_fill_28 ⟨by decide, by decide⟩ rfl ?_
  obtain rfl := Option.some.inj h
  exact RT.iret (pc := 30) dX12_fill_30 rfl (Nat.le_of_eq (rt_cells_0 z)) (Nat.le_of_eq (rt_slots_0 z)) hK
theorem cj_X12_fill_102_51 {G : rt_G} {d : Nat} {z : Nat × Nat} {Q : rt_P} (hz : 300 ≤ z.1) (hd : 14 ≤ d) {a0 : Int} (ht : rt_kd a0.toNat = 20 + 12) (a2 : Int) (a3 : Int) (a4 : Int) (s0 : Int) (s1 : Int) (s2 : Int) (mem0 : rt_M) (t : (Int × rt_M) ⊕ (rt_M)) (h : j_X12_fill_102_51 a0 a2 a3 a4 s0 s1 s2 mem0 = some t) (hK : (∀ s1 : Int × rt_M, t = .inl s1 → RT G M_X12_fill d z Q 51 [(2, a0), (9, 0), (0, a2), (0, a3), (0, s1.1)] [] z s1.2) ∧ (∀ x1 : rt_M, t = .inr x1 → RT G M_X12_fill d z Q 109 [(2, a0), (9, 0), (0, a2), (0, a3), (9, 0)] [] z x1)) : RT G M_X12_fill d z Q 102 [(2, a0), (9, 0), (0, a2), (0, a3), (0, a4)] [(0, s2), (0, s1), (2, s0)] z mem0 := by
  unfold j_X12_fill_102_51 at h
  obtain ⟨w102, hw102, h⟩ := Option.bind_eq_some_iff.mp h
  obtain ⟨m102, hm102, h⟩ := Option.bind_eq_some_iff.mp h
  refine RT.zast (pc := 102) (x := s0) (i := s1) (v := s2) (mem1 := m102) dX12_fill_102 (rt_bz_ok hw102) (rt_lts hz (by decide) (by decide) hm102) hm102 ?_
  refine RT.iinc (pc := 103) (x := a4) (L1 := [(2, a0), (9, 0), (0, a2), (0, a3), (0, (rt_iadd a4 1))]) dX12_fill_103 rfl (Nat.le_of_ble_eq_true rfl) ⟨by decide, by decide⟩ rfl ?_
  refine RT.goto (pc := 106) (tgt := 51) dX12_fill_106 rfl ?_
  obtain rfl := Option.some.inj h
  have q1 := hK.1 (((rt_iadd a4 1), m102)) rfl
  try dsimp only at q1
  exact q1
theorem cj_X12_fill_101_51 {G : rt_G} {d : Nat} {z : Nat × Nat} {Q : rt_P} (hz : 300 ≤ z.1) (hd : 14 ≤ d) {a0 : Int} (ht : rt_kd a0.toNat = 20 + 12) (a2 : Int) (a3 : Int) (a4 : Int) (s0 : Int) (s1 : Int) (mem0 : rt_M) (t : (Int × rt_M) ⊕ (rt_M)) (h : j_X12_fill_101_51 a0 a2 a3 a4 s0 s1 mem0 = some t) (hK : (∀ s1 : Int × rt_M, t = .inl s1 → RT G M_X12_fill d z Q 51 [(2, a0), (9, 0), (0, a2), (0, a3), (0, s1.1)] [] z s1.2) ∧ (∀ x1 : rt_M, t = .inr x1 → RT G M_X12_fill d z Q 109 [(2, a0), (9, 0), (0, a2), (0, a3), (9, 0)] [] z x1)) : RT G M_X12_fill d z Q 101 [(2, a0), (9, 0), (0, a2), (0, a3), (0, a4)] [(0, s1), (2, s0)] z mem0 := by
  unfold j_X12_fill_101_51 at h
  refine RT.iconst (pc := 101) (n := 0) dX12_fill_101 ⟨by decide, by decide⟩ ?_
  exact cj_X12_fill_102_51 hz hd ht a2 a3 a4 s0 s1 0 mem0 _ h hK
theorem cb_X12_fill_51 {G : rt_G} {d : Nat} {z : Nat × Nat} {Q : rt_P} (hz : 300 ≤ z.1) (hd : 14 ≤ d) {a0 : Int} (ht : rt_kd a0.toNat = 20 + 12) (a2 : Int) (a3 : Int) (s : Int × rt_M) (t : (Int × rt_M) ⊕ (rt_M)) (h : b_X12_fill_51 a0 a2 a3 s = some t) (hK : (∀ s1 : Int × rt_M, t = .inl s1 → RT G M_X12_fill d z Q 51 [(2, a0), (9, 0), (0, a2), (0, a3), (0, s1.1)] [] z s1.2) ∧ (∀ x1 : rt_M, t = .inr x1 → RT G M_X12_fill d z Q 109 [(2, a0), (9, 0), (0, a2), (0, a3), (9, 0)] [] z x1)) : RT G M_X12_fill d z Q 51 [(2, a0), (9, 0), (0, a2), (0, a3), (0, s.1)] [] z s.2 := by
  unfold b_X12_fill_51 at h
  refine RT.iload (pc := 51) (k := 4) (x := s.1) dX12_fill_51 rfl ?_
  refine RT.aload_n (pc := 53) (k := 0) (x := a0) dX12_fill_53 rfl ?_
  obtain ⟨v54, hv54, h⟩ := Option.bind_eq_some_iff.mp h
  refine RT.gf 12 10 2 (pc := 54) (x := a0) (v := v54) hz dX12_fill_54 fl_X12_13 rfl hv54 ?_
  refine RT.iconst (pc := 57) (n := 1) dX12_fill_57 ⟨by decide, by decide⟩ ?_
  obtain ⟨v58, hv58, h⟩ := Option.bind_eq_some_iff.mp h
  refine RT.iald (pc := 58) (x := v54) (i := 1) (v := v58) dX12_fill_58 (rt_lta hz (by decide) (by decide) hv58) hv58 ?_
  refine RT.icmp_ge (pc := 59) (tgt := 109) dX12_fill_59 rfl (fun q59 => ?_) (fun q59 => ?_)
  · rw [if_pos q59] at h
    refine RT.wk (L1 := [(2, a0), (9, 0), (0, a2), (0, a3), (9, 0)]) (rt_le_s (rt_le_s (rt_le_s (rt_le_s (rt_le_j rt_le_n))))) ?_
    obtain rfl := Option.some.inj h
    have q1 := hK.2 s.2 rfl
    try dsimp only at q1
    exact q1
  · rw [if_neg q59] at h
    refine RT.aload_n (pc := 62) (k := 0) (x := a0) dX12_fill_62 rfl ?_
    obtain ⟨v63, hv63, h⟩ := Option.bind_eq_some_iff.mp h
    refine RT.gf 12 60 2 (pc := 63) (x := a0) (v := v63) hz dX12_fill_63 fl_X12_141 rfl hv63 ?_
    refine RT.bipush (pc := 66) (n := 6) dX12_fill_66 ⟨by decide, by decide⟩ rfl ?_
    refine RT.iload_n (pc := 68) (k := 3) (x := a3) dX12_fill_68 rfl ?_
    refine RT.imul (pc := 69) dX12_fill_69 ?_
    refine RT.iload (pc := 70) (k := 4) (x := s.1) dX12_fill_70 rfl ?_
    refine RT.iadd (pc := 72) dX12_fill_72 ?_
    refine RT.aload_n (pc := 73) (k := 0) (x := a0) dX12_fill_73 rfl ?_
    obtain ⟨v74, hv74, h⟩ := Option.bind_eq_some_iff.mp h
    refine RT.gf 12 50 2 (pc := 74) (x := a0) (v := v74) hz dX12_fill_74 fl_X12_120 rfl hv74 ?_
    refine RT.bipush (pc := 77) (n := 7) dX12_fill_77 ⟨by decide, by decide⟩ rfl ?_
    refine RT.iload_n (pc := 79) (k := 3) (x := a3) dX12_fill_79 rfl ?_
    refine RT.iadd (pc := 80) dX12_fill_80 ?_
    obtain ⟨v81, hv81, h⟩ := Option.bind_eq_some_iff.mp h
    refine RT.iald (pc := 81) (x := v74) (i := (rt_iadd 7 a3)) (v := v81) dX12_fill_81 (rt_lta hz (by decide) (by decide) hv81) hv81 ?_
    refine RT.bipush (pc := 82) (n := 9) dX12_fill_82 ⟨by decide, by decide⟩ rfl ?_
    refine RT.icmp_ge (pc := 84) (tgt := 101) dX12_fill_84 rfl (fun q84 => ?_) (fun q84 => ?_)
    · rw [if_pos q84] at h
      exact cj_X12_fill_101_51 hz hd ht a2 a3 s.1 v63 ((rt_iadd (rt_imul 6 a3) s.1)) s.2 _ h hK
    · rw [if_neg q84] at h
      refine RT.aload_n (pc := 87) (k := 0) (x := a0) dX12_fill_87 rfl ?_
      refine RT.iload_n (pc := 88) (k := 3) (x := a3) dX12_fill_88 rfl ?_
      refine RT.iload (pc := 89) (k := 4) (x := s.1) dX12_fill_89 rfl ?_
      obtain ⟨p91, hp91, h⟩ := Option.bind_eq_some_iff.mp h
      refine RT.cVz (pc := 91) (M' := M_X12_fitsAll) (ci := 12) (x := a0) (As := [(0, a3), (0, s.1)]) (st := [(0, (rt_iadd (rt_imul 6 a3) s.1)), (2, v63)]) (r := some (0, p91.1)) (mem1 := p91.2) (d' := d - 1) hz dX12_fill_91 mw_X12_fitsAll ml_X12_458 mi_X12_fitsAll ht rfl rfl (Nat.le_of_ble_eq_true rfl) (Nat.le_of_ble_eq_true rfl) (by omega) rfl rfl (c_X12_fitsAll hz (by omega) a0 a3 s.1 s.2 _ ht hp91) ?_
      refine RT.if_eq (pc := 94) (tgt := 101) dX12_fill_94 rfl (fun q94 => ?_) (fun q94 => ?_)
      · rw [if_pos q94] at h
        exact cj_X12_fill_101_51 hz hd ht a2 a3 s.1 v63 ((rt_iadd (rt_imul 6 a3) s.1)) p91.2 _ h hK
      · rw [if_neg q94] at h
        refine RT.iconst (pc := 97) (n := 1) dX12_fill_97 ⟨by decide, by decide⟩ ?_
        refine RT.goto (pc := 98) (tgt := 102) dX12_fill_98 rfl ?_
        exact cj_X12_fill_102_51 hz hd ht a2 a3 s.1 v63 ((rt_iadd (rt_imul 6 a3) s.1)) 1 p91.2 _ h hK
theorem cb_X12_fill_38 {G : rt_G} {d : Nat} {z : Nat × Nat} {Q : rt_P} (hz : 300 ≤ z.1) (hd : 14 ≤ d) {a0 : Int} (ht : rt_kd a0.toNat = 20 + 12) (a2 : Int) (s : Int × rt_M) (t : (Int × rt_M) ⊕ (rt_M)) (h : b_X12_fill_38 a0 a2 s = some t) (hK : (∀ s1 : Int × rt_M, t = .inl s1 → RT G M_X12_fill d z Q 38 [(2, a0), (9, 0), (0, a2), (0, s1.1), (9, 0)] [] z s1.2) ∧ (∀ x1 : rt_M, t = .inr x1 → RT G M_X12_fill d z Q 115 [(2, a0), (9, 0), (0, a2), (9, 0), (9, 0)] [] z x1)) : RT G M_X12_fill d z Q 38 [(2, a0), (9, 0), (0, a2), (0, s.1), (9, 0)] [] z s.2 := by
  unfold b_X12_fill_38 at h
  refine RT.iload_n (pc := 38) (k := 3) (x := s.1) dX12_fill_38 rfl ?_
  refine RT.aload_n (pc := 39) (k := 0) (x := a0) dX12_fill_39 rfl ?_
  obtain ⟨v40, hv40, h⟩ := Option.bind_eq_some_iff.mp h
  refine RT.gf 12 10 2 (pc := 40) (x := a0) (v := v40) hz dX12_fill_40 fl_X12_13 rfl hv40 ?_
  refine RT.iconst (pc := 43) (n := 0) dX12_fill_43 ⟨by decide, by decide⟩ ?_
  obtain ⟨v44, hv44, h⟩ := Option.bind_eq_some_iff.mp h
  refine RT.iald (pc := 44) (x := v40) (i := 0) (v := v44) dX12_fill_44 (rt_lta hz (by decide) (by decide) hv44) hv44 ?_
  refine RT.icmp_ge (pc := 45) (tgt := 115) dX12_fill_45 rfl (fun q45 => ?_) (fun q45 => ?_)
  · rw [if_pos q45] at h
    refine RT.wk (L1 := [(2, a0), (9, 0), (0, a2), (9, 0), (9, 0)]) (rt_le_s (rt_le_s (rt_le_s (rt_le_j (rt_le_s rt_le_n))))) ?_
    obtain rfl := Option.some.inj h
    have q1 := hK.2 s.2 rfl
    try dsimp only at q1
    exact q1
  · rw [if_neg q45] at h
    refine RT.iconst (pc := 48) (n := 0) dX12_fill_48 ⟨by decide, by decide⟩ ?_
    refine RT.istore (pc := 49) (k := 4) (x := 0) (L1 := [(2, a0), (9, 0), (0, a2), (0, s.1), (0, 0)]) dX12_fill_49 (Nat.le_of_ble_eq_true rfl) rfl ?_
    obtain ⟨X51, hX51, h⟩ := Option.bind_eq_some_iff.mp h
    refine rt_it_ind (P := (fun s1 : Int × rt_M => RT G M_X12_fill d z Q 51 [(2, a0), (9, 0), (0, a2), (0, s.1), (0, s1.1)] [] z s1.2)) (X := (fun x1 : rt_M => RT G M_X12_fill d z Q 109 [(2, a0), (9, 0), (0, a2), (0, s.1), (9, 0)] [] z x1)) (fun s1 t1 h1 k1 k2 => cb_X12_fill_51 hz hd ht a2 s.1 s1 t1 h1 ⟨k1, k2⟩) 4000 ((0, s.2)) X51 hX51 ?_
    refine RT.iinc (pc := 109) (x := s.1) (L1 := [(2, a0), (9, 0), (0, a2), (0, (rt_iadd s.1 1)), (9, 0)]) dX12_fill_109 rfl (Nat.le_of_ble_eq_true rfl) ⟨by decide, by decide⟩ rfl ?_
    refine RT.goto (pc := 112) (tgt := 38) dX12_fill_112 rfl ?_
    obtain rfl := Option.some.inj h
    have q1 := hK.1 (((rt_iadd s.1 1), X51)) rfl
    try dsimp only at q1
    exact q1
theorem cj_X12_fill_145 {G : rt_G} {d : Nat} {z : Nat × Nat} {Q : rt_P} (hz : 300 ≤ z.1) (hd : 14 ≤ d) {a0 : Int} (ht : rt_kd a0.toNat = 20 + 12) (s0 : Int) (mem0 : rt_M) (t : Int × rt_M) (h : j_X12_fill_145 s0 mem0 = some t) (hK : Q (some (0, t.1)) z t.2) : RT G M_X12_fill d z Q 145 [(9, 0), (9, 0), (9, 0), (9, 0), (9, 0)] [(0, s0)] z mem0 := by
  unfold j_X12_fill_145 at h
  obtain rfl := Option.some.inj h
  exact RT.iret (pc := 145) dX12_fill_145 rfl (Nat.le_of_eq (rt_cells_0 z)) (Nat.le_of_eq (rt_slots_0 z)) hK
theorem cj_X12_fill_31 {G : rt_G} {d : Nat} {z : Nat × Nat} {Q : rt_P} (hz : 300 ≤ z.1) (hd : 14 ≤ d) {a0 : Int} (ht : rt_kd a0.toNat = 20 + 12) (a1 : Int) (a2 : Int) (mem0 : rt_M) (t : Int × rt_M) (h : j_X12_fill_31 a0 a1 a2 mem0 = some t) (hK : Q (some (0, t.1)) z t.2) : RT G M_X12_fill d z Q 31 [(2, a0), (0, a1), (0, a2), (9, 0), (9, 0)] [] z mem0 := by
  unfold j_X12_fill_31 at h
  refine RT.aload_n (pc := 31) (k := 0) (x := a0) dX12_fill_31 rfl ?_
  refine RT.iload_n (pc := 32) (k := 1) (x := a1) dX12_fill_32 rfl ?_
  obtain ⟨m33, hm33, h⟩ := Option.bind_eq_some_iff.mp h
  refine RT.pf_i 12 59 (pc := 33) (mem1 := m33) hz dX12_fill_33 fl_X12_448 rfl rfl rfl hm33 ?_
  refine RT.iconst (pc := 36) (n := 0) dX12_fill_36 ⟨by decide, by decide⟩ ?_
  refine RT.istore_n (pc := 37) (k := 3) (x := 0) (L1 := [(2, a0), (0, a1), (0, a2), (0, 0), (9, 0)]) dX12_fill_37 (Nat.le_of_ble_eq_true rfl) rfl ?_
  refine RT.wk (L1 := [(2, a0), (9, 0), (0, a2), (0, 0), (9, 0)]) (rt_le_s (rt_le_j (rt_le_s (rt_le_s (rt_le_s rt_le_n))))) ?_
  obtain ⟨X38, hX38, h⟩ := Option.bind_eq_some_iff.mp h
  refine rt_it_ind (P := (fun s1 : Int × rt_M => RT G M_X12_fill d z Q 38 [(2, a0), (9, 0), (0, a2), (0, s1.1), (9, 0)] [] z s1.2)) (X := (fun x1 : rt_M => RT G M_X12_fill d z Q 115 [(2, a0), (9, 0), (0, a2), (9, 0), (9, 0)] [] z x1)) (fun s1 t1 h1 k1 k2 => cb_X12_fill_38 hz hd ht a2 s1 t1 h1 ⟨k1, k2⟩) 4000 ((0, m33)) X38 hX38 ?_
  refine RT.aload_n (pc := 115) (k := 0) (x := a0) dX12_fill_115 rfl ?_
  refine RT.iconst (pc := 116) (n := (-1)) dX12_fill_116 ⟨by decide, by decide⟩ ?_
  obtain ⟨m117, hm117, h⟩ := Option.bind_eq_some_iff.mp h
  refine RT.pf_i 12 58 (pc := 117) (mem1 := m117) hz dX12_fill_117 fl_X12_451 rfl rfl rfl hm117 ?_
  refine RT.aload_n (pc := 120) (k := 0) (x := a0) dX12_fill_120 rfl ?_
  refine RT.iconst (pc := 121) (n := 0) dX12_fill_121 ⟨by decide, by decide⟩ ?_
  refine RT.iconst (pc := 122) (n := 0) dX12_fill_122 ⟨by decide, by decide⟩ ?_
  refine RT.iconst (pc := 123) (n := 0) dX12_fill_123 ⟨by decide, by decide⟩ ?_
  obtain ⟨p124, hp124, h⟩ := Option.bind_eq_some_iff.mp h
  refine RT.cVz (pc := 124) (M' := M_X12_fillsFrom) (ci := 12) (x := a0) (As := [(0, 0), (0, 0), (0, 0)]) (st := []) (r := none) (mem1 := p124) (d' := d - 1) hz dX12_fill_124 mw_X12_fillsFrom ml_X12_454 mi_X12_fillsFrom ht rfl rfl (Nat.le_of_ble_eq_true rfl) (Nat.le_of_ble_eq_true rfl) (by omega) rfl rfl (C_X12_fillsFrom 12 (d - 1) hz (by omega) a0 0 0 0 m117 _ ht hp124) ?_
  refine RT.iload_n (pc := 127) (k := 2) (x := a2) dX12_fill_127 rfl ?_
  refine RT.iconst (pc := 128) (n := (-1)) dX12_fill_128 ⟨by decide, by decide⟩ ?_
  refine RT.icmp_ne (pc := 129) (tgt := 139) dX12_fill_129 rfl (fun q129 => ?_) (fun q129 => ?_)
  · rw [if_neg q129] at h
    refine RT.aload_n (pc := 139) (k := 0) (x := a0) dX12_fill_139 rfl ?_
    obtain ⟨v140, hv140, h⟩ := Option.bind_eq_some_iff.mp h
    refine RT.gf 12 57 2 (pc := 140) (x := a0) (v := v140) hz dX12_fill_140 fl_X12_138 rfl hv140 ?_
    refine RT.iload_n (pc := 143) (k := 2) (x := a2) dX12_fill_143 rfl ?_
    obtain ⟨v144, hv144, h⟩ := Option.bind_eq_some_iff.mp h
    refine RT.iald (pc := 144) (x := v140) (i := a2) (v := v144) dX12_fill_144 (rt_lta hz (by decide) (by decide) hv144) hv144 ?_
    refine RT.wk (L1 := [(9, 0), (9, 0), (9, 0), (9, 0), (9, 0)]) (rt_le_j (rt_le_s (rt_le_j (rt_le_s (rt_le_s rt_le_n))))) ?_
    exact cj_X12_fill_145 hz hd ht v144 p124 _ h hK
  · rw [if_pos (Classical.not_not.mp q129)] at h
    refine RT.aload_n (pc := 132) (k := 0) (x := a0) dX12_fill_132 rfl ?_
    obtain ⟨v133, hv133, h⟩ := Option.bind_eq_some_iff.mp h
    refine RT.gf 12 58 0 (pc := 133) (x := a0) (v := v133) hz dX12_fill_133 fl_X12_451 rfl hv133 ?_
    refine RT.goto (pc := 136) (tgt := 145) dX12_fill_136 rfl ?_
    refine RT.wk (L1 := [(9, 0), (9, 0), (9, 0), (9, 0), (9, 0)]) (rt_le_j (rt_le_s (rt_le_j (rt_le_s (rt_le_s rt_le_n))))) ?_
    exact cj_X12_fill_145 hz hd ht v133 p124 _ h hK
theorem c_X12_fill {G : rt_G} {d : Nat} {z : Nat × Nat} (hz : 300 ≤ z.1) (hd : 14 ≤ d) (a0 : Int) (a1 : Int) (a2 : Int) (mem0 : rt_M) (t : Int × rt_M) (ht : rt_kd a0.toNat = 20 + 12) (h : f_X12_fill a0 a1 a2 mem0 = some t) : RM G M_X12_fill d [(2, a0), (0, a1), (0, a2)] z mem0 (some (0, t.1)) t.2 := by
  suffices H : ∀ Q : rt_P, Q (some (0, t.1)) z t.2 → RT G M_X12_fill d z Q 0 [(2, a0), (0, a1), (0, a2), (9, 0), (9, 0)] [] z mem0 from H _ ⟨rfl, rfl, rfl⟩
  intro Q hK
  unfold f_X12_fill at h
  refine RT.aload_n (pc := 0) (k := 0) (x := a0) dX12_fill_0 rfl ?_
  refine RT.iconst (pc := 1) (n := 0) dX12_fill_1 ⟨by decide, by decide⟩ ?_
  obtain ⟨m2, hm2, h⟩ := Option.bind_eq_some_iff.mp h
  refine RT.pf_i 12 0 (pc := 2) (mem1 := m2) hz dX12_fill_2 fl_X12_171 rfl rfl rfl hm2 ?_
  refine RT.iload_n (pc := 5) (k := 1) (x := a1) dX12_fill_5 rfl ?_
  refine RT.iconst (pc := 6) (n := 1) dX12_fill_6 ⟨by decide, by decide⟩ ?_
  refine RT.bipush (pc := 7) (n := 8) dX12_fill_7 ⟨by decide, by decide⟩ rfl ?_
  obtain ⟨p9, hp9, h⟩ := Option.bind_eq_some_iff.mp h
  refine RT.cSz (pc := 9) (M' := M_X12_within) (As := [(0, a1), (0, 1), (0, 8)]) (st := []) (r := some (0, p9)) (mem1 := m2) (d' := d - 1) dX12_fill_9 mw_X12_within ml_X12_301 mi_X12_within rfl rfl (Nat.le_of_ble_eq_true rfl) (Nat.le_of_ble_eq_true rfl) (by omega) rfl rfl (c_X12_within hz (by omega) a1 1 8 m2 _ hp9) ?_
  refine RT.if_eq (pc := 12) (tgt := 28) dX12_fill_12 rfl (fun q12 => ?_) (fun q12 => ?_)
  · rw [if_pos q12] at h
    refine RT.wk (L1 := [(9, 0), (9, 0), (9, 0), (9, 0), (9, 0)]) (rt_le_j (rt_le_j (rt_le_j (rt_le_s (rt_le_s rt_le_n))))) ?_
    exact cj_X12_fill_28 hz hd ht m2 _ h hK
  · rw [if_neg q12] at h
    refine RT.iload_n (pc := 15) (k := 2) (x := a2) dX12_fill_15 rfl ?_
    refine RT.iconst (pc := 16) (n := (-1)) dX12_fill_16 ⟨by decide, by decide⟩ ?_
    refine RT.icmp_eq (pc := 17) (tgt := 31) dX12_fill_17 rfl (fun q17 => ?_) (fun q17 => ?_)
    · rw [if_pos q17] at h
      exact cj_X12_fill_31 hz hd ht a1 a2 m2 _ h hK
    · rw [if_neg q17] at h
      refine RT.aload_n (pc := 20) (k := 0) (x := a0) dX12_fill_20 rfl ?_
      refine RT.iload_n (pc := 21) (k := 2) (x := a2) dX12_fill_21 rfl ?_
      obtain ⟨p22, hp22, h⟩ := Option.bind_eq_some_iff.mp h
      refine RT.cVz (pc := 22) (M' := M_X12_isWig) (ci := 12) (x := a0) (As := [(0, a2)]) (st := []) (r := some (0, p22)) (mem1 := m2) (d' := d - 1) hz dX12_fill_22 mw_X12_isWig ml_X12_414 mi_X12_isWig ht rfl rfl (Nat.le_of_ble_eq_true rfl) (Nat.le_of_ble_eq_true rfl) (by omega) rfl rfl (c_X12_isWig hz (by omega) a0 a2 m2 _ ht hp22) ?_
      refine RT.if_ne (pc := 25) (tgt := 31) dX12_fill_25 rfl (fun q25 => ?_) (fun q25 => ?_)
      · rw [if_neg q25] at h
        exact cj_X12_fill_31 hz hd ht a1 a2 m2 _ h hK
      · rw [if_pos (Classical.not_not.mp q25)] at h
        refine RT.wk (L1 := [(9, 0), (9, 0), (9, 0), (9, 0), (9, 0)]) (rt_le_j (rt_le_j (rt_le_j (rt_le_s (rt_le_s rt_le_n))))) ?_
        exact cj_X12_fill_28 hz hd ht m2 _ h hK
theorem cj_X12_say_34 {G : rt_G} {d : Nat} {z : Nat × Nat} {Q : rt_P} (hz : 300 ≤ z.1) (hd : 1 ≤ d) {a0 : Int} (ht : rt_kd a0.toNat = 20 + 12) (mem0 : rt_M) (t : Int × rt_M) (h : j_X12_say_34 mem0 = some t) (hK : Q (some (0, t.1)) z t.2) : RT G M_X12_say d z Q 34 [(9, 0), (9, 0), (9, 0), (9, 0)] [] z mem0 := by
  unfold j_X12_say_34 at h
  refine RT.iconst (pc := 34) (n := 0) dX12_say_34 ⟨by decide, by decide⟩ ?_
  obtain rfl := Option.some.inj h
  exact RT.zret (pc := 35) dX12_say_35 rfl (by decide) (Nat.le_of_eq (rt_cells_0 z)) (Nat.le_of_eq (rt_slots_0 z)) hK
theorem c_X12_say {G : rt_G} {d : Nat} {z : Nat × Nat} (hz : 300 ≤ z.1) (hd : 1 ≤ d) (a0 : Int) (a1 : Int) (a2 : Int) (a3 : Int) (mem0 : rt_M) (t : Int × rt_M) (ht : rt_kd a0.toNat = 20 + 12) (h : f_X12_say a0 a1 a2 a3 mem0 = some t) : RM G M_X12_say d [(2, a0), (0, a1), (0, a2), (0, a3)] z mem0 (some (0, t.1)) t.2 := by
  suffices H : ∀ Q : rt_P, Q (some (0, t.1)) z t.2 → RT G M_X12_say d z Q 0 [(2, a0), (0, a1), (0, a2), (0, a3)] [] z mem0 from H _ ⟨rfl, rfl, rfl⟩
  intro Q hK
  unfold f_X12_say at h
  refine RT.aload_n (pc := 0) (k := 0) (x := a0) dX12_say_0 rfl ?_
  refine RT.iconst (pc := 1) (n := 0) dX12_say_1 ⟨by decide, by decide⟩ ?_
  obtain ⟨m2, hm2, h⟩ := Option.bind_eq_some_iff.mp h
  refine RT.pf_i 12 0 (pc := 2) (mem1 := m2) hz dX12_say_2 fl_X12_171 rfl rfl rfl hm2 ?_
  refine RT.aload_n (pc := 5) (k := 0) (x := a0) dX12_say_5 rfl ?_
  refine RT.iload_n (pc := 6) (k := 1) (x := a1) dX12_say_6 rfl ?_
  obtain ⟨p7, hp7, h⟩ := Option.bind_eq_some_iff.mp h
  refine RT.cVz (pc := 7) (M' := M_X12_isHead) (ci := 12) (x := a0) (As := [(0, a1)]) (st := []) (r := some (0, p7)) (mem1 := m2) (d' := d - 1) hz dX12_say_7 mw_X12_isHead ml_X12_417 mi_X12_isHead ht rfl rfl (Nat.le_of_ble_eq_true rfl) (Nat.le_of_ble_eq_true rfl) (by omega) rfl rfl (c_X12_isHead hz (by omega) a0 a1 m2 _ ht hp7) ?_
  refine RT.if_eq (pc := 10) (tgt := 34) dX12_say_10 rfl (fun q10 => ?_) (fun q10 => ?_)
  · rw [if_pos q10] at h
    refine RT.wk (L1 := [(9, 0), (9, 0), (9, 0), (9, 0)]) (rt_le_j (rt_le_j (rt_le_j (rt_le_j rt_le_n)))) ?_
    exact cj_X12_say_34 hz hd ht m2 _ h hK
  · rw [if_neg q10] at h
    refine RT.iload_n (pc := 13) (k := 2) (x := a2) dX12_say_13 rfl ?_
    refine RT.iconst (pc := 14) (n := 0) dX12_say_14 ⟨by decide, by decide⟩ ?_
    refine RT.bipush (pc := 15) (n := 9) dX12_say_15 ⟨by decide, by decide⟩ rfl ?_
    obtain ⟨p17, hp17, h⟩ := Option.bind_eq_some_iff.mp h
    refine RT.cSz (pc := 17) (M' := M_X12_within) (As := [(0, a2), (0, 0), (0, 9)]) (st := []) (r := some (0, p17)) (mem1 := m2) (d' := d - 1) dX12_say_17 mw_X12_within ml_X12_301 mi_X12_within rfl rfl (Nat.le_of_ble_eq_true rfl) (Nat.le_of_ble_eq_true rfl) (by omega) rfl rfl (c_X12_within hz (by omega) a2 0 9 m2 _ hp17) ?_
    refine RT.if_eq (pc := 20) (tgt := 34) dX12_say_20 rfl (fun q20 => ?_) (fun q20 => ?_)
    · rw [if_pos q20] at h
      refine RT.wk (L1 := [(9, 0), (9, 0), (9, 0), (9, 0)]) (rt_le_j (rt_le_j (rt_le_j (rt_le_j rt_le_n)))) ?_
      exact cj_X12_say_34 hz hd ht m2 _ h hK
    · rw [if_neg q20] at h
      refine RT.aload_n (pc := 23) (k := 0) (x := a0) dX12_say_23 rfl ?_
      obtain ⟨v24, hv24, h⟩ := Option.bind_eq_some_iff.mp h
      refine RT.gf 12 45 2 (pc := 24) (x := a0) (v := v24) hz dX12_say_24 fl_X12_105 rfl hv24 ?_
      refine RT.iconst (pc := 27) (n := 0) dX12_say_27 ⟨by decide, by decide⟩ ?_
      obtain ⟨v28, hv28, h⟩ := Option.bind_eq_some_iff.mp h
      refine RT.iald (pc := 28) (x := v24) (i := 0) (v := v28) dX12_say_28 (rt_lta hz (by decide) (by decide) hv28) hv28 ?_
      refine RT.bipush (pc := 29) (n := 8) dX12_say_29 ⟨by decide, by decide⟩ rfl ?_
      refine RT.icmp_ne (pc := 31) (tgt := 36) dX12_say_31 rfl (fun q31 => ?_) (fun q31 => ?_)
      · rw [if_neg q31] at h
        refine RT.aload_n (pc := 36) (k := 0) (x := a0) dX12_say_36 rfl ?_
        obtain ⟨v37, hv37, h⟩ := Option.bind_eq_some_iff.mp h
        refine RT.gf 12 46 2 (pc := 37) (x := a0) (v := v37) hz dX12_say_37 fl_X12_108 rfl hv37 ?_
        refine RT.aload_n (pc := 40) (k := 0) (x := a0) dX12_say_40 rfl ?_
        obtain ⟨v41, hv41, h⟩ := Option.bind_eq_some_iff.mp h
        refine RT.gf 12 45 2 (pc := 41) (x := a0) (v := v41) hz dX12_say_41 fl_X12_105 rfl hv41 ?_
        refine RT.iconst (pc := 44) (n := 0) dX12_say_44 ⟨by decide, by decide⟩ ?_
        obtain ⟨v45, hv45, h⟩ := Option.bind_eq_some_iff.mp h
        refine RT.iald (pc := 45) (x := v41) (i := 0) (v := v45) dX12_say_45 (rt_lta hz (by decide) (by decide) hv45) hv45 ?_
        refine RT.iload_n (pc := 46) (k := 1) (x := a1) dX12_say_46 rfl ?_
        obtain ⟨m47, hm47, h⟩ := Option.bind_eq_some_iff.mp h
        refine RT.iast (pc := 47) (x := v37) (i := v45) (v := a1) (mem1 := m47) dX12_say_47 (rt_lts hz (by decide) (by decide) hm47) hm47 ?_
        refine RT.aload_n (pc := 48) (k := 0) (x := a0) dX12_say_48 rfl ?_
        obtain ⟨v49, hv49, h⟩ := Option.bind_eq_some_iff.mp h
        refine RT.gf 12 47 2 (pc := 49) (x := a0) (v := v49) hz dX12_say_49 fl_X12_111 rfl hv49 ?_
        refine RT.aload_n (pc := 52) (k := 0) (x := a0) dX12_say_52 rfl ?_
        obtain ⟨v53, hv53, h⟩ := Option.bind_eq_some_iff.mp h
        refine RT.gf 12 45 2 (pc := 53) (x := a0) (v := v53) hz dX12_say_53 fl_X12_105 rfl hv53 ?_
        refine RT.iconst (pc := 56) (n := 0) dX12_say_56 ⟨by decide, by decide⟩ ?_
        obtain ⟨v57, hv57, h⟩ := Option.bind_eq_some_iff.mp h
        refine RT.iald (pc := 57) (x := v53) (i := 0) (v := v57) dX12_say_57 (rt_lta hz (by decide) (by decide) hv57) hv57 ?_
        refine RT.iload_n (pc := 58) (k := 2) (x := a2) dX12_say_58 rfl ?_
        obtain ⟨m59, hm59, h⟩ := Option.bind_eq_some_iff.mp h
        refine RT.iast (pc := 59) (x := v49) (i := v57) (v := a2) (mem1 := m59) dX12_say_59 (rt_lts hz (by decide) (by decide) hm59) hm59 ?_
        refine RT.aload_n (pc := 60) (k := 0) (x := a0) dX12_say_60 rfl ?_
        obtain ⟨v61, hv61, h⟩ := Option.bind_eq_some_iff.mp h
        refine RT.gf 12 48 2 (pc := 61) (x := a0) (v := v61) hz dX12_say_61 fl_X12_114 rfl hv61 ?_
        refine RT.aload_n (pc := 64) (k := 0) (x := a0) dX12_say_64 rfl ?_
        obtain ⟨v65, hv65, h⟩ := Option.bind_eq_some_iff.mp h
        refine RT.gf 12 45 2 (pc := 65) (x := a0) (v := v65) hz dX12_say_65 fl_X12_105 rfl hv65 ?_
        refine RT.iconst (pc := 68) (n := 0) dX12_say_68 ⟨by decide, by decide⟩ ?_
        obtain ⟨v69, hv69, h⟩ := Option.bind_eq_some_iff.mp h
        refine RT.iald (pc := 69) (x := v65) (i := 0) (v := v69) dX12_say_69 (rt_lta hz (by decide) (by decide) hv69) hv69 ?_
        refine RT.iload_n (pc := 70) (k := 3) (x := a3) dX12_say_70 rfl ?_
        obtain ⟨w71, hw71, h⟩ := Option.bind_eq_some_iff.mp h
        obtain ⟨m71, hm71, h⟩ := Option.bind_eq_some_iff.mp h
        refine RT.zast (pc := 71) (x := v61) (i := v69) (v := a3) (mem1 := m71) dX12_say_71 (rt_bz_ok hw71) (rt_lts hz (by decide) (by decide) hm71) hm71 ?_
        refine RT.aload_n (pc := 72) (k := 0) (x := a0) dX12_say_72 rfl ?_
        obtain ⟨v73, hv73, h⟩ := Option.bind_eq_some_iff.mp h
        refine RT.gf 12 45 2 (pc := 73) (x := a0) (v := v73) hz dX12_say_73 fl_X12_105 rfl hv73 ?_
        refine RT.iconst (pc := 76) (n := 0) dX12_say_76 ⟨by decide, by decide⟩ ?_
        refine RT.dup2 (pc := 77) dX12_say_77 (show ¬ ((0 : Nat) = 1) by decide) (show ¬ ((2 : Nat) = 1) by decide) ?_
        obtain ⟨v78, hv78, h⟩ := Option.bind_eq_some_iff.mp h
        refine RT.iald (pc := 78) (x := v73) (i := 0) (v := v78) dX12_say_78 (rt_lta hz (by decide) (by decide) hv78) hv78 ?_
        refine RT.iconst (pc := 79) (n := 1) dX12_say_79 ⟨by decide, by decide⟩ ?_
        refine RT.iadd (pc := 80) dX12_say_80 ?_
        obtain ⟨m81, hm81, h⟩ := Option.bind_eq_some_iff.mp h
        refine RT.iast (pc := 81) (x := v73) (i := 0) (v := (rt_iadd v78 1)) (mem1 := m81) dX12_say_81 (rt_lts hz (by decide) (by decide) hm81) hm81 ?_
        refine RT.iconst (pc := 82) (n := 1) dX12_say_82 ⟨by decide, by decide⟩ ?_
        obtain rfl := Option.some.inj h
        exact RT.zret (pc := 83) dX12_say_83 rfl (by decide) (Nat.le_of_eq (rt_cells_0 z)) (Nat.le_of_eq (rt_slots_0 z)) hK
      · rw [if_pos (Classical.not_not.mp q31)] at h
        refine RT.wk (L1 := [(9, 0), (9, 0), (9, 0), (9, 0)]) (rt_le_j (rt_le_j (rt_le_j (rt_le_j rt_le_n)))) ?_
        exact cj_X12_say_34 hz hd ht m2 _ h hK
theorem cb_X12_isAsSaid_2 {G : rt_G} {d : Nat} {z : Nat × Nat} {Q : rt_P} (hz : 300 ≤ z.1) (hd : 4 ≤ d) {a0 : Int} (ht : rt_kd a0.toNat = 20 + 12) (a1 : Int) (s : Int × rt_M) (t : (Int × rt_M) ⊕ ((rt_M) ⊕ (Int × rt_M))) (h : b_X12_isAsSaid_2 a0 a1 s = some t) (hK : (∀ s1 : Int × rt_M, t = .inl s1 → RT G M_X12_isAsSaid d z Q 2 [(2, a0), (0, a1), (0, s1.1)] [] z s1.2) ∧ (∀ x1 : rt_M, t = .inr (.inl x1) → RT G M_X12_isAsSaid d z Q 46 [(9, 0), (9, 0), (9, 0)] [] z x1) ∧ (∀ t1 : Int × rt_M, t = .inr (.inr t1) → Q (some (0, t1.1)) z t1.2)) : RT G M_X12_isAsSaid d z Q 2 [(2, a0), (0, a1), (0, s.1)] [] z s.2 := by
  unfold b_X12_isAsSaid_2 at h
  refine RT.iload_n (pc := 2) (k := 2) (x := s.1) dX12_isAsSaid_2 rfl ?_
  refine RT.aload_n (pc := 3) (k := 0) (x := a0) dX12_isAsSaid_3 rfl ?_
  obtain ⟨v4, hv4, h⟩ := Option.bind_eq_some_iff.mp h
  refine RT.gf 12 45 2 (pc := 4) (x := a0) (v := v4) hz dX12_isAsSaid_4 fl_X12_105 rfl hv4 ?_
  refine RT.iconst (pc := 7) (n := 0) dX12_isAsSaid_7 ⟨by decide, by decide⟩ ?_
  obtain ⟨v8, hv8, h⟩ := Option.bind_eq_some_iff.mp h
  refine RT.iald (pc := 8) (x := v4) (i := 0) (v := v8) dX12_isAsSaid_8 (rt_lta hz (by decide) (by decide) hv8) hv8 ?_
  refine RT.icmp_ge (pc := 9) (tgt := 46) dX12_isAsSaid_9 rfl (fun q9 => ?_) (fun q9 => ?_)
  · rw [if_pos q9] at h
    refine RT.wk (L1 := [(9, 0), (9, 0), (9, 0)]) (rt_le_j (rt_le_j (rt_le_j rt_le_n))) ?_
    obtain rfl := Option.some.inj h
    have q1 := hK.2.1 s.2 rfl
    try dsimp only at q1
    exact q1
  · rw [if_neg q9] at h
    refine RT.aload_n (pc := 12) (k := 0) (x := a0) dX12_isAsSaid_12 rfl ?_
    refine RT.iload_n (pc := 13) (k := 1) (x := a1) dX12_isAsSaid_13 rfl ?_
    refine RT.aload_n (pc := 14) (k := 0) (x := a0) dX12_isAsSaid_14 rfl ?_
    obtain ⟨v15, hv15, h⟩ := Option.bind_eq_some_iff.mp h
    refine RT.gf 12 46 2 (pc := 15) (x := a0) (v := v15) hz dX12_isAsSaid_15 fl_X12_108 rfl hv15 ?_
    refine RT.iload_n (pc := 18) (k := 2) (x := s.1) dX12_isAsSaid_18 rfl ?_
    obtain ⟨v19, hv19, h⟩ := Option.bind_eq_some_iff.mp h
    refine RT.iald (pc := 19) (x := v15) (i := s.1) (v := v19) dX12_isAsSaid_19 (rt_lta hz (by decide) (by decide) hv19) hv19 ?_
    refine RT.aload_n (pc := 20) (k := 0) (x := a0) dX12_isAsSaid_20 rfl ?_
    obtain ⟨v21, hv21, h⟩ := Option.bind_eq_some_iff.mp h
    refine RT.gf 12 47 2 (pc := 21) (x := a0) (v := v21) hz dX12_isAsSaid_21 fl_X12_111 rfl hv21 ?_
    refine RT.iload_n (pc := 24) (k := 2) (x := s.1) dX12_isAsSaid_24 rfl ?_
    obtain ⟨v25, hv25, h⟩ := Option.bind_eq_some_iff.mp h
    refine RT.iald (pc := 25) (x := v21) (i := s.1) (v := v25) dX12_isAsSaid_25 (rt_lta hz (by decide) (by decide) hv25) hv25 ?_
    obtain ⟨p26, hp26, h⟩ := Option.bind_eq_some_iff.mp h
    refine RT.cVz (pc := 26) (M' := M_X12_isFor) (ci := 12) (x := a0) (As := [(0, a1), (0, v19), (0, v25)]) (st := []) (r := some (0, p26.1)) (mem1 := p26.2) (d' := d - 1) hz dX12_isAsSaid_26 mw_X12_isFor ml_X12_442 mi_X12_isFor ht rfl rfl (Nat.le_of_ble_eq_true rfl) (Nat.le_of_ble_eq_true rfl) (by omega) rfl rfl (c_X12_isFor hz (by omega) a0 a1 v19 v25 s.2 _ ht hp26) ?_
    refine RT.aload_n (pc := 29) (k := 0) (x := a0) dX12_isAsSaid_29 rfl ?_
    obtain ⟨v30, hv30, h⟩ := Option.bind_eq_some_iff.mp h
    refine RT.gf 12 48 2 (pc := 30) (x := a0) (v := v30) hz dX12_isAsSaid_30 fl_X12_114 rfl hv30 ?_
    refine RT.iload_n (pc := 33) (k := 2) (x := s.1) dX12_isAsSaid_33 rfl ?_
    obtain ⟨v34, hv34, h⟩ := Option.bind_eq_some_iff.mp h
    refine RT.zald (pc := 34) (x := v30) (i := s.1) (v := v34) dX12_isAsSaid_34 (rt_lta hz (by decide) (by decide) hv34) hv34 ?_
    refine RT.icmp_eq (pc := 35) (tgt := 40) dX12_isAsSaid_35 rfl (fun q35 => ?_) (fun q35 => ?_)
    · rw [if_pos q35] at h
      refine RT.iinc (pc := 40) (x := s.1) (L1 := [(2, a0), (0, a1), (0, (rt_iadd s.1 1))]) dX12_isAsSaid_40 rfl (Nat.le_of_ble_eq_true rfl) ⟨by decide, by decide⟩ rfl ?_
      refine RT.goto (pc := 43) (tgt := 2) dX12_isAsSaid_43 rfl ?_
      obtain rfl := Option.some.inj h
      have q1 := hK.1 (((rt_iadd s.1 1), p26.2)) rfl
      try dsimp only at q1
      exact q1
    · rw [if_neg q35] at h
      obtain ⟨t2, g2, e2⟩ := Option.map_eq_some_iff.mp h
      subst e2
      replace h := g2
      replace hK := hK.2.2 t2 rfl
      refine RT.iconst (pc := 38) (n := 0) dX12_isAsSaid_38 ⟨by decide, by decide⟩ ?_
      obtain rfl := Option.some.inj h
      exact RT.zret (pc := 39) dX12_isAsSaid_39 rfl (by decide) (Nat.le_of_eq (rt_cells_0 z)) (Nat.le_of_eq (rt_slots_0 z)) hK
theorem c_X12_isAsSaid {G : rt_G} {d : Nat} {z : Nat × Nat} (hz : 300 ≤ z.1) (hd : 4 ≤ d) (a0 : Int) (a1 : Int) (mem0 : rt_M) (t : Int × rt_M) (ht : rt_kd a0.toNat = 20 + 12) (h : f_X12_isAsSaid a0 a1 mem0 = some t) : RM G M_X12_isAsSaid d [(2, a0), (0, a1)] z mem0 (some (0, t.1)) t.2 := by
  suffices H : ∀ Q : rt_P, Q (some (0, t.1)) z t.2 → RT G M_X12_isAsSaid d z Q 0 [(2, a0), (0, a1), (9, 0)] [] z mem0 from H _ ⟨rfl, rfl, rfl⟩
  intro Q hK
  unfold f_X12_isAsSaid at h
  refine RT.iconst (pc := 0) (n := 0) dX12_isAsSaid_0 ⟨by decide, by decide⟩ ?_
  refine RT.istore_n (pc := 1) (k := 2) (x := 0) (L1 := [(2, a0), (0, a1), (0, 0)]) dX12_isAsSaid_1 (Nat.le_of_ble_eq_true rfl) rfl ?_
  obtain ⟨E2, hE2, h⟩ := Option.bind_eq_some_iff.mp h
  refine rt_it_ind (P := (fun s1 : Int × rt_M => RT G M_X12_isAsSaid d z Q 2 [(2, a0), (0, a1), (0, s1.1)] [] z s1.2)) (X := (fun e1 : (rt_M) ⊕ (Int × rt_M) => (∀ x1 : rt_M, e1 = .inl x1 → RT G M_X12_isAsSaid d z Q 46 [(9, 0), (9, 0), (9, 0)] [] z x1) ∧ (∀ t1 : Int × rt_M, e1 = .inr t1 → Q (some (0, t1.1)) z t1.2))) (fun s1 t1 h1 k1 k2 => cb_X12_isAsSaid_2 hz hd ht a1 s1 t1 h1 ⟨k1, fun x1 q => (k2 _ q).1 x1 rfl, fun t2 q => (k2 _ q).2 t2 rfl⟩) 4000 ((0, mem0)) E2 hE2 ?_
  cases E2 with
  | inr t1 =>
    obtain rfl := Option.some.inj h
    exact ⟨fun x1 q => (by cases q), fun t2 q => (by cases q; exact hK)⟩
  | inl X2 =>
    refine ⟨fun x1 q => ?_, fun t2 q => (by cases q)⟩
    cases q
    refine RT.iconst (pc := 46) (n := 1) dX12_isAsSaid_46 ⟨by decide, by decide⟩ ?_
    obtain rfl := Option.some.inj h
    exact RT.zret (pc := 47) dX12_isAsSaid_47 rfl (by decide) (Nat.le_of_eq (rt_cells_0 z)) (Nat.le_of_eq (rt_slots_0 z)) hK
theorem cj_X12_leans_59_26 {G : rt_G} {d : Nat} {z : Nat × Nat} {Q : rt_P} (hz : 300 ≤ z.1) (hd : 5 ≤ d) {a0 : Int} (ht : rt_kd a0.toNat = 20 + 12) (a1 : Int) (a2 : Int) (a3 : Int) (a4 : Int) (a5 : Int) (mem0 : rt_M) (t : (Int × Int × Int × Int × rt_M) ⊕ (Int × Int × Int × rt_M)) (h : j_X12_leans_59_26 a0 a1 a2 a3 a4 a5 mem0 = some t) (hK : (∀ s1 : Int × Int × Int × Int × rt_M, t = .inl s1 → RT G M_X12_leans d z Q 26 [(2, a0), (0, a1), (0, s1.1), (0, s1.2.1), (0, s1.2.2.1), (0, s1.2.2.2.1)] [] z s1.2.2.2.2) ∧ (∀ x1 : Int × Int × Int × rt_M, t = .inr x1 → RT G M_X12_leans d z Q 65 [(9, 0), (0, a1), (0, x1.1), (0, x1.2.1), (0, x1.2.2.1), (9, 0)] [] z x1.2.2.2)) : RT G M_X12_leans d z Q 59 [(2, a0), (0, a1), (0, a2), (0, a3), (0, a4), (0, a5)] [] z mem0 := by
  unfold j_X12_leans_59_26 at h
  refine RT.iinc (pc := 59) (x := a5) (L1 := [(2, a0), (0, a1), (0, a2), (0, a3), (0, a4), (0, (rt_iadd a5 1))]) dX12_leans_59 rfl (Nat.le_of_ble_eq_true rfl) ⟨by decide, by decide⟩ rfl ?_
  refine RT.goto (pc := 62) (tgt := 26) dX12_leans_62 rfl ?_
  obtain rfl := Option.some.inj h
  have q1 := hK.1 ((a2, a3, a4, (rt_iadd a5 1), mem0)) rfl
  try dsimp only at q1
  exact q1
theorem cj_X12_leans_55_26 {G : rt_G} {d : Nat} {z : Nat × Nat} {Q : rt_P} (hz : 300 ≤ z.1) (hd : 5 ≤ d) {a0 : Int} (ht : rt_kd a0.toNat = 20 + 12) (a1 : Int) (a2 : Int) (a3 : Int) (a5 : Int) (mem0 : rt_M) (t : (Int × Int × Int × Int × rt_M) ⊕ (Int × Int × Int × rt_M)) (h : j_X12_leans_55_26 a0 a1 a2 a3 a5 mem0 = some t) (hK : (∀ s1 : Int × Int × Int × Int × rt_M, t = .inl s1 → RT G M_X12_leans d z Q 26 [(2, a0), (0, a1), (0, s1.1), (0, s1.2.1), (0, s1.2.2.1), (0, s1.2.2.2.1)] [] z s1.2.2.2.2) ∧ (∀ x1 : Int × Int × Int × rt_M, t = .inr x1 → RT G M_X12_leans d z Q 65 [(9, 0), (0, a1), (0, x1.1), (0, x1.2.1), (0, x1.2.2.1), (9, 0)] [] z x1.2.2.2)) : RT G M_X12_leans d z Q 55 [(2, a0), (0, a1), (0, a2), (0, a3), (9, 0), (0, a5)] [] z mem0 := by
  unfold j_X12_leans_55_26 at h
  refine RT.iload (pc := 55) (k := 5) (x := a5) dX12_leans_55 rfl ?_
  refine RT.istore (pc := 57) (k := 4) (x := a5) (L1 := [(2, a0), (0, a1), (0, a2), (0, a3), (0, a5), (0, a5)]) dX12_leans_57 (Nat.le_of_ble_eq_true rfl) rfl ?_
  exact cj_X12_leans_59_26 hz hd ht a1 a2 a3 a5 a5 mem0 _ h hK
theorem cb_X12_leans_26 {G : rt_G} {d : Nat} {z : Nat × Nat} {Q : rt_P} (hz : 300 ≤ z.1) (hd : 5 ≤ d) {a0 : Int} (ht : rt_kd a0.toNat = 20 + 12) (a1 : Int) (s : Int × Int × Int × Int × rt_M) (t : (Int × Int × Int × Int × rt_M) ⊕ (Int × Int × Int × rt_M)) (h : b_X12_leans_26 a0 a1 s = some t) (hK : (∀ s1 : Int × Int × Int × Int × rt_M, t = .inl s1 → RT G M_X12_leans d z Q 26 [(2, a0), (0, a1), (0, s1.1), (0, s1.2.1), (0, s1.2.2.1), (0, s1.2.2.2.1)] [] z s1.2.2.2.2) ∧ (∀ x1 : Int × Int × Int × rt_M, t = .inr x1 → RT G M_X12_leans d z Q 65 [(9, 0), (0, a1), (0, x1.1), (0, x1.2.1), (0, x1.2.2.1), (9, 0)] [] z x1.2.2.2)) : RT G M_X12_leans d z Q 26 [(2, a0), (0, a1), (0, s.1), (0, s.2.1), (0, s.2.2.1), (0, s.2.2.2.1)] [] z s.2.2.2.2 := by
  unfold b_X12_leans_26 at h
  refine RT.iload (pc := 26) (k := 5) (x := s.2.2.2.1) dX12_leans_26 rfl ?_
  refine RT.bipush (pc := 28) (n := 10) dX12_leans_28 ⟨by decide, by decide⟩ rfl ?_
  refine RT.icmp_ge (pc := 30) (tgt := 65) dX12_leans_30 rfl (fun q30 => ?_) (fun q30 => ?_)
  · rw [if_pos q30] at h
    refine RT.wk (L1 := [(9, 0), (0, a1), (0, s.1), (0, s.2.1), (0, s.2.2.1), (9, 0)]) (rt_le_j (rt_le_s (rt_le_s (rt_le_s (rt_le_s (rt_le_j rt_le_n)))))) ?_
    obtain rfl := Option.some.inj h
    have q1 := hK.2 ((s.1, s.2.1, s.2.2.1, s.2.2.2.2)) rfl
    try dsimp only at q1
    exact q1
  · rw [if_neg q30] at h
    refine RT.aload_n (pc := 33) (k := 0) (x := a0) dX12_leans_33 rfl ?_
    refine RT.iload (pc := 34) (k := 5) (x := s.2.2.2.1) dX12_leans_34 rfl ?_
    obtain ⟨p36, hp36, h⟩ := Option.bind_eq_some_iff.mp h
    refine RT.cVz (pc := 36) (M' := M_X12_isAsSaid) (ci := 12) (x := a0) (As := [(0, s.2.2.2.1)]) (st := []) (r := some (0, p36.1)) (mem1 := p36.2) (d' := d - 1) hz dX12_leans_36 mw_X12_isAsSaid ml_X12_461 mi_X12_isAsSaid ht rfl rfl (Nat.le_of_ble_eq_true rfl) (Nat.le_of_ble_eq_true rfl) (by omega) rfl rfl (c_X12_isAsSaid hz (by omega) a0 s.2.2.2.1 s.2.2.2.2 _ ht hp36) ?_
    refine RT.if_ne (pc := 39) (tgt := 45) dX12_leans_39 rfl (fun q39 => ?_) (fun q39 => ?_)
    · rw [if_neg q39] at h
      refine RT.iinc (pc := 45) (x := s.1) (L1 := [(2, a0), (0, a1), (0, (rt_iadd s.1 1)), (0, s.2.1), (0, s.2.2.1), (0, s.2.2.2.1)]) dX12_leans_45 rfl (Nat.le_of_ble_eq_true rfl) ⟨by decide, by decide⟩ rfl ?_
      refine RT.iload_n (pc := 48) (k := 3) (x := s.2.1) dX12_leans_48 rfl ?_
      refine RT.if_ge (pc := 49) (tgt := 55) dX12_leans_49 rfl (fun q49 => ?_) (fun q49 => ?_)
      · rw [if_pos q49] at h
        refine RT.wk (L1 := [(2, a0), (0, a1), (0, (rt_iadd s.1 1)), (0, s.2.1), (9, 0), (0, s.2.2.2.1)]) (rt_le_s (rt_le_s (rt_le_s (rt_le_s (rt_le_j (rt_le_s rt_le_n)))))) ?_
        exact cj_X12_leans_55_26 hz hd ht a1 ((rt_iadd s.1 1)) s.2.1 s.2.2.2.1 p36.2 _ h hK
      · rw [if_neg q49] at h
        refine RT.iload (pc := 52) (k := 5) (x := s.2.2.2.1) dX12_leans_52 rfl ?_
        refine RT.istore_n (pc := 54) (k := 3) (x := s.2.2.2.1) (L1 := [(2, a0), (0, a1), (0, (rt_iadd s.1 1)), (0, s.2.2.2.1), (0, s.2.2.1), (0, s.2.2.2.1)]) dX12_leans_54 (Nat.le_of_ble_eq_true rfl) rfl ?_
        refine RT.wk (L1 := [(2, a0), (0, a1), (0, (rt_iadd s.1 1)), (0, s.2.2.2.1), (9, 0), (0, s.2.2.2.1)]) (rt_le_s (rt_le_s (rt_le_s (rt_le_s (rt_le_j (rt_le_s rt_le_n)))))) ?_
        exact cj_X12_leans_55_26 hz hd ht a1 ((rt_iadd s.1 1)) s.2.2.2.1 s.2.2.2.1 p36.2 _ h hK
    · rw [if_pos (Classical.not_not.mp q39)] at h
      refine RT.goto (pc := 42) (tgt := 59) dX12_leans_42 rfl ?_
      exact cj_X12_leans_59_26 hz hd ht a1 s.1 s.2.1 s.2.2.1 s.2.2.2.1 p36.2 _ h hK
theorem cj_X12_leans_84 {G : rt_G} {d : Nat} {z : Nat × Nat} {Q : rt_P} (hz : 300 ≤ z.1) (hd : 5 ≤ d) {a0 : Int} (ht : rt_kd a0.toNat = 20 + 12) (s0 : Int) (mem0 : rt_M) (t : Int × rt_M) (h : j_X12_leans_84 s0 mem0 = some t) (hK : Q (some (0, t.1)) z t.2) : RT G M_X12_leans d z Q 84 [(9, 0), (9, 0), (9, 0), (9, 0), (9, 0), (9, 0)] [(0, s0)] z mem0 := by
  unfold j_X12_leans_84 at h
  obtain rfl := Option.some.inj h
  exact RT.iret (pc := 84) dX12_leans_84 rfl (Nat.le_of_eq (rt_cells_0 z)) (Nat.le_of_eq (rt_slots_0 z)) hK
theorem c_X12_leans {G : rt_G} {d : Nat} {z : Nat × Nat} (hz : 300 ≤ z.1) (hd : 5 ≤ d) (a0 : Int) (a1 : Int) (mem0 : rt_M) (t : Int × rt_M) (ht : rt_kd a0.toNat = 20 + 12) (h : f_X12_leans a0 a1 mem0 = some t) : RM G M_X12_leans d [(2, a0), (0, a1)] z mem0 (some (0, t.1)) t.2 := by
  suffices H : ∀ Q : rt_P, Q (some (0, t.1)) z t.2 → RT G M_X12_leans d z Q 0 [(2, a0), (0, a1), (9, 0), (9, 0), (9, 0), (9, 0)] [] z mem0 from H _ ⟨rfl, rfl, rfl⟩
  intro Q hK
  unfold f_X12_leans at h
  refine RT.aload_n (pc := 0) (k := 0) (x := a0) dX12_leans_0 rfl ?_
  refine RT.iconst (pc := 1) (n := 0) dX12_leans_1 ⟨by decide, by decide⟩ ?_
  obtain ⟨m2, hm2, h⟩ := Option.bind_eq_some_iff.mp h
  refine RT.pf_i 12 0 (pc := 2) (mem1 := m2) hz dX12_leans_2 fl_X12_171 rfl rfl rfl hm2 ?_
  refine RT.iload_n (pc := 5) (k := 1) (x := a1) dX12_leans_5 rfl ?_
  refine RT.iconst (pc := 6) (n := 0) dX12_leans_6 ⟨by decide, by decide⟩ ?_
  refine RT.iconst (pc := 7) (n := 2) dX12_leans_7 ⟨by decide, by decide⟩ ?_
  obtain ⟨p8, hp8, h⟩ := Option.bind_eq_some_iff.mp h
  refine RT.cSz (pc := 8) (M' := M_X12_within) (As := [(0, a1), (0, 0), (0, 2)]) (st := []) (r := some (0, p8)) (mem1 := m2) (d' := d - 1) dX12_leans_8 mw_X12_within ml_X12_301 mi_X12_within rfl rfl (Nat.le_of_ble_eq_true rfl) (Nat.le_of_ble_eq_true rfl) (by omega) rfl rfl (c_X12_within hz (by omega) a1 0 2 m2 _ hp8) ?_
  refine RT.if_ne (pc := 11) (tgt := 16) dX12_leans_11 rfl (fun q11 => ?_) (fun q11 => ?_)
  · rw [if_neg q11] at h
    refine RT.iconst (pc := 16) (n := 0) dX12_leans_16 ⟨by decide, by decide⟩ ?_
    refine RT.istore_n (pc := 17) (k := 2) (x := 0) (L1 := [(2, a0), (0, a1), (0, 0), (9, 0), (9, 0), (9, 0)]) dX12_leans_17 (Nat.le_of_ble_eq_true rfl) rfl ?_
    refine RT.iconst (pc := 18) (n := (-1)) dX12_leans_18 ⟨by decide, by decide⟩ ?_
    refine RT.istore_n (pc := 19) (k := 3) (x := (-1)) (L1 := [(2, a0), (0, a1), (0, 0), (0, (-1)), (9, 0), (9, 0)]) dX12_leans_19 (Nat.le_of_ble_eq_true rfl) rfl ?_
    refine RT.iconst (pc := 20) (n := (-1)) dX12_leans_20 ⟨by decide, by decide⟩ ?_
    refine RT.istore (pc := 21) (k := 4) (x := (-1)) (L1 := [(2, a0), (0, a1), (0, 0), (0, (-1)), (0, (-1)), (9, 0)]) dX12_leans_21 (Nat.le_of_ble_eq_true rfl) rfl ?_
    refine RT.iconst (pc := 23) (n := 0) dX12_leans_23 ⟨by decide, by decide⟩ ?_
    refine RT.istore (pc := 24) (k := 5) (x := 0) (L1 := [(2, a0), (0, a1), (0, 0), (0, (-1)), (0, (-1)), (0, 0)]) dX12_leans_24 (Nat.le_of_ble_eq_true rfl) rfl ?_
    obtain ⟨X26, hX26, h⟩ := Option.bind_eq_some_iff.mp h
    refine rt_it_ind (P := (fun s1 : Int × Int × Int × Int × rt_M => RT G M_X12_leans d z Q 26 [(2, a0), (0, a1), (0, s1.1), (0, s1.2.1), (0, s1.2.2.1), (0, s1.2.2.2.1)] [] z s1.2.2.2.2)) (X := (fun x1 : Int × Int × Int × rt_M => RT G M_X12_leans d z Q 65 [(9, 0), (0, a1), (0, x1.1), (0, x1.2.1), (0, x1.2.2.1), (9, 0)] [] z x1.2.2.2)) (fun s1 t1 h1 k1 k2 => cb_X12_leans_26 hz hd ht a1 s1 t1 h1 ⟨k1, k2⟩) 4000 ((0, (-1), (-1), 0, m2)) X26 hX26 ?_
    refine RT.iload_n (pc := 65) (k := 1) (x := a1) dX12_leans_65 rfl ?_
    refine RT.if_ne (pc := 66) (tgt := 73) dX12_leans_66 rfl (fun q66 => ?_) (fun q66 => ?_)
    · rw [if_neg q66] at h
      refine RT.iload_n (pc := 73) (k := 1) (x := a1) dX12_leans_73 rfl ?_
      refine RT.iconst (pc := 74) (n := 1) dX12_leans_74 ⟨by decide, by decide⟩ ?_
      refine RT.icmp_ne (pc := 75) (tgt := 82) dX12_leans_75 rfl (fun q75 => ?_) (fun q75 => ?_)
      · rw [if_neg q75] at h
        refine RT.iload (pc := 82) (k := 4) (x := X26.2.2.1) dX12_leans_82 rfl ?_
        refine RT.wk (L1 := [(9, 0), (9, 0), (9, 0), (9, 0), (9, 0), (9, 0)]) (rt_le_s (rt_le_j (rt_le_j (rt_le_j (rt_le_j (rt_le_s rt_le_n)))))) ?_
        exact cj_X12_leans_84 hz hd ht X26.2.2.1 X26.2.2.2 _ h hK
      · rw [if_pos (Classical.not_not.mp q75)] at h
        refine RT.iload_n (pc := 78) (k := 3) (x := X26.2.1) dX12_leans_78 rfl ?_
        refine RT.goto (pc := 79) (tgt := 84) dX12_leans_79 rfl ?_
        refine RT.wk (L1 := [(9, 0), (9, 0), (9, 0), (9, 0), (9, 0), (9, 0)]) (rt_le_s (rt_le_j (rt_le_j (rt_le_j (rt_le_j (rt_le_s rt_le_n)))))) ?_
        exact cj_X12_leans_84 hz hd ht X26.2.1 X26.2.2.2 _ h hK
    · rw [if_pos (Classical.not_not.mp q66)] at h
      refine RT.iload_n (pc := 69) (k := 2) (x := X26.1) dX12_leans_69 rfl ?_
      refine RT.goto (pc := 70) (tgt := 84) dX12_leans_70 rfl ?_
      refine RT.wk (L1 := [(9, 0), (9, 0), (9, 0), (9, 0), (9, 0), (9, 0)]) (rt_le_s (rt_le_j (rt_le_j (rt_le_j (rt_le_j (rt_le_s rt_le_n)))))) ?_
      exact cj_X12_leans_84 hz hd ht X26.1 X26.2.2.2 _ h hK
  · rw [if_pos (Classical.not_not.mp q11)] at h
    refine RT.iconst (pc := 14) (n := (-1)) dX12_leans_14 ⟨by decide, by decide⟩ ?_
    obtain rfl := Option.some.inj h
    exact RT.iret (pc := 15) dX12_leans_15 rfl (Nat.le_of_eq (rt_cells_0 z)) (Nat.le_of_eq (rt_slots_0 z)) hK
theorem cj_X12_next_77_42 {G : rt_G} {d : Nat} {z : Nat × Nat} {Q : rt_P} (hz : 300 ≤ z.1) (hd : 6 ≤ d) {a0 : Int} (ht : rt_kd a0.toNat = 20 + 12) (a1 : Int) (a2 : Int) (a3 : Int) (a4 : Int) (a5 : Int) (a7 : Int) (s0 : Int) (s1 : Int) (mem0 : rt_M) (t : (Int × Int × rt_M) ⊕ (Int × rt_M)) (h : j_X12_next_77_42 a0 a1 a2 a3 a4 a5 a7 s0 s1 mem0 = some t) (hK : (∀ s1 : Int × Int × rt_M, t = .inl s1 → RT G M_X12_next d z Q 42 [(2, a0), (0, a1), (0, a2), (0, a3), (0, a4), (0, a5), (0, s1.1), (0, s1.2.1)] [] z s1.2.2) ∧ (∀ x1 : Int × rt_M, t = .inr x1 → RT G M_X12_next d z Q 86 [(2, a0), (0, a1), (0, a2), (0, a3), (0, a4), (0, a5), (0, x1.1), (9, 0)] [] z x1.2)) : RT G M_X12_next d z Q 77 [(2, a0), (0, a1), (0, a2), (0, a3), (0, a4), (0, a5), (9, 0), (0, a7)] [(0, s1), (0, s0)] z mem0 := by
  unfold j_X12_next_77_42 at h
  refine RT.iadd (pc := 77) dX12_next_77 ?_
  refine RT.istore (pc := 78) (k := 6) (x := (rt_iadd s0 s1)) (L1 := [(2, a0), (0, a1), (0, a2), (0, a3), (0, a4), (0, a5), (0, (rt_iadd s0 s1)), (0, a7)]) dX12_next_78 (Nat.le_of_ble_eq_true rfl) rfl ?_
  refine RT.iinc (pc := 80) (x := a7) (L1 := [(2, a0), (0, a1), (0, a2), (0, a3), (0, a4), (0, a5), (0, (rt_iadd s0 s1)), (0, (rt_iadd a7 1))]) dX12_next_80 rfl (Nat.le_of_ble_eq_true rfl) ⟨by decide, by decide⟩ rfl ?_
  refine RT.goto (pc := 83) (tgt := 42) dX12_next_83 rfl ?_
  obtain rfl := Option.some.inj h
  have q1 := hK.1 (((rt_iadd s0 s1), (rt_iadd a7 1), mem0)) rfl
  try dsimp only at q1
  exact q1
theorem cj_X12_next_76_42 {G : rt_G} {d : Nat} {z : Nat × Nat} {Q : rt_P} (hz : 300 ≤ z.1) (hd : 6 ≤ d) {a0 : Int} (ht : rt_kd a0.toNat = 20 + 12) (a1 : Int) (a2 : Int) (a3 : Int) (a4 : Int) (a5 : Int) (a7 : Int) (s0 : Int) (mem0 : rt_M) (t : (Int × Int × rt_M) ⊕ (Int × rt_M)) (h : j_X12_next_76_42 a0 a1 a2 a3 a4 a5 a7 s0 mem0 = some t) (hK : (∀ s1 : Int × Int × rt_M, t = .inl s1 → RT G M_X12_next d z Q 42 [(2, a0), (0, a1), (0, a2), (0, a3), (0, a4), (0, a5), (0, s1.1), (0, s1.2.1)] [] z s1.2.2) ∧ (∀ x1 : Int × rt_M, t = .inr x1 → RT G M_X12_next d z Q 86 [(2, a0), (0, a1), (0, a2), (0, a3), (0, a4), (0, a5), (0, x1.1), (9, 0)] [] z x1.2)) : RT G M_X12_next d z Q 76 [(2, a0), (0, a1), (0, a2), (0, a3), (0, a4), (0, a5), (9, 0), (0, a7)] [(0, s0)] z mem0 := by
  unfold j_X12_next_76_42 at h
  refine RT.iconst (pc := 76) (n := 0) dX12_next_76 ⟨by decide, by decide⟩ ?_
  exact cj_X12_next_77_42 hz hd ht a1 a2 a3 a4 a5 a7 s0 0 mem0 _ h hK
theorem cb_X12_next_42 {G : rt_G} {d : Nat} {z : Nat × Nat} {Q : rt_P} (hz : 300 ≤ z.1) (hd : 6 ≤ d) {a0 : Int} (ht : rt_kd a0.toNat = 20 + 12) (a1 : Int) (a2 : Int) (a3 : Int) (a4 : Int) (a5 : Int) (s : Int × Int × rt_M) (t : (Int × Int × rt_M) ⊕ (Int × rt_M)) (h : b_X12_next_42 a0 a1 a2 a3 a4 a5 s = some t) (hK : (∀ s1 : Int × Int × rt_M, t = .inl s1 → RT G M_X12_next d z Q 42 [(2, a0), (0, a1), (0, a2), (0, a3), (0, a4), (0, a5), (0, s1.1), (0, s1.2.1)] [] z s1.2.2) ∧ (∀ x1 : Int × rt_M, t = .inr x1 → RT G M_X12_next d z Q 86 [(2, a0), (0, a1), (0, a2), (0, a3), (0, a4), (0, a5), (0, x1.1), (9, 0)] [] z x1.2)) : RT G M_X12_next d z Q 42 [(2, a0), (0, a1), (0, a2), (0, a3), (0, a4), (0, a5), (0, s.1), (0, s.2.1)] [] z s.2.2 := by
  unfold b_X12_next_42 at h
  refine RT.iload (pc := 42) (k := 7) (x := s.2.1) dX12_next_42 rfl ?_
  refine RT.bipush (pc := 44) (n := 10) dX12_next_44 ⟨by decide, by decide⟩ rfl ?_
  refine RT.icmp_ge (pc := 46) (tgt := 86) dX12_next_46 rfl (fun q46 => ?_) (fun q46 => ?_)
  · rw [if_pos q46] at h
    refine RT.wk (L1 := [(2, a0), (0, a1), (0, a2), (0, a3), (0, a4), (0, a5), (0, s.1), (9, 0)]) (rt_le_s (rt_le_s (rt_le_s (rt_le_s (rt_le_s (rt_le_s (rt_le_s (rt_le_j rt_le_n)))))))) ?_
    obtain rfl := Option.some.inj h
    have q1 := hK.2 ((s.1, s.2.2)) rfl
    try dsimp only at q1
    exact q1
  · rw [if_neg q46] at h
    refine RT.iload (pc := 49) (k := 6) (x := s.1) dX12_next_49 rfl ?_
    refine RT.aload_n (pc := 51) (k := 0) (x := a0) dX12_next_51 rfl ?_
    refine RT.iload (pc := 52) (k := 7) (x := s.2.1) dX12_next_52 rfl ?_
    obtain ⟨p54, hp54, h⟩ := Option.bind_eq_some_iff.mp h
    refine RT.cVz (pc := 54) (M' := M_X12_isAsSaid) (ci := 12) (x := a0) (As := [(0, s.2.1)]) (st := [(0, s.1)]) (r := some (0, p54.1)) (mem1 := p54.2) (d' := d - 1) hz dX12_next_54 mw_X12_isAsSaid ml_X12_461 mi_X12_isAsSaid ht rfl rfl (Nat.le_of_ble_eq_true rfl) (Nat.le_of_ble_eq_true rfl) (by omega) rfl rfl (c_X12_isAsSaid hz (by omega) a0 s.2.1 s.2.2 _ ht hp54) ?_
    refine RT.if_eq (pc := 57) (tgt := 76) dX12_next_57 rfl (fun q57 => ?_) (fun q57 => ?_)
    · rw [if_pos q57] at h
      refine RT.wk (L1 := [(2, a0), (0, a1), (0, a2), (0, a3), (0, a4), (0, a5), (9, 0), (0, s.2.1)]) (rt_le_s (rt_le_s (rt_le_s (rt_le_s (rt_le_s (rt_le_s (rt_le_j (rt_le_s rt_le_n)))))))) ?_
      exact cj_X12_next_76_42 hz hd ht a1 a2 a3 a4 a5 s.2.1 s.1 p54.2 _ h hK
    · rw [if_neg q57] at h
      refine RT.aload_n (pc := 60) (k := 0) (x := a0) dX12_next_60 rfl ?_
      refine RT.iload (pc := 61) (k := 7) (x := s.2.1) dX12_next_61 rfl ?_
      refine RT.iload_n (pc := 63) (k := 1) (x := a1) dX12_next_63 rfl ?_
      refine RT.iload (pc := 64) (k := 5) (x := a5) dX12_next_64 rfl ?_
      obtain ⟨p66, hp66, h⟩ := Option.bind_eq_some_iff.mp h
      refine RT.cVz (pc := 66) (M' := M_X12_isFor) (ci := 12) (x := a0) (As := [(0, s.2.1), (0, a1), (0, a5)]) (st := [(0, s.1)]) (r := some (0, p66.1)) (mem1 := p66.2) (d' := d - 1) hz dX12_next_66 mw_X12_isFor ml_X12_442 mi_X12_isFor ht rfl rfl (Nat.le_of_ble_eq_true rfl) (Nat.le_of_ble_eq_true rfl) (by omega) rfl rfl (c_X12_isFor hz (by omega) a0 s.2.1 a1 a5 p54.2 _ ht hp66) ?_
      refine RT.if_eq (pc := 69) (tgt := 76) dX12_next_69 rfl (fun q69 => ?_) (fun q69 => ?_)
      · rw [if_pos q69] at h
        refine RT.wk (L1 := [(2, a0), (0, a1), (0, a2), (0, a3), (0, a4), (0, a5), (9, 0), (0, s.2.1)]) (rt_le_s (rt_le_s (rt_le_s (rt_le_s (rt_le_s (rt_le_s (rt_le_j (rt_le_s rt_le_n)))))))) ?_
        exact cj_X12_next_76_42 hz hd ht a1 a2 a3 a4 a5 s.2.1 s.1 p66.2 _ h hK
      · rw [if_neg q69] at h
        refine RT.iconst (pc := 72) (n := 1) dX12_next_72 ⟨by decide, by decide⟩ ?_
        refine RT.goto (pc := 73) (tgt := 77) dX12_next_73 rfl ?_
        refine RT.wk (L1 := [(2, a0), (0, a1), (0, a2), (0, a3), (0, a4), (0, a5), (9, 0), (0, s.2.1)]) (rt_le_s (rt_le_s (rt_le_s (rt_le_s (rt_le_s (rt_le_s (rt_le_j (rt_le_s rt_le_n)))))))) ?_
        exact cj_X12_next_77_42 hz hd ht a1 a2 a3 a4 a5 s.2.1 s.1 1 p66.2 _ h hK
theorem cj_X12_next_114_29 {G : rt_G} {d : Nat} {z : Nat × Nat} {Q : rt_P} (hz : 300 ≤ z.1) (hd : 6 ≤ d) {a0 : Int} (ht : rt_kd a0.toNat = 20 + 12) (a1 : Int) (a2 : Int) (a3 : Int) (a4 : Int) (a5 : Int) (mem0 : rt_M) (t : (Int × Int × Int × rt_M) ⊕ (Int × rt_M)) (h : j_X12_next_114_29 a0 a1 a2 a3 a4 a5 mem0 = some t) (hK : (∀ s1 : Int × Int × Int × rt_M, t = .inl s1 → RT G M_X12_next d z Q 29 [(2, a0), (0, a1), (0, a2), (0, s1.1), (0, s1.2.1), (0, s1.2.2.1), (9, 0), (9, 0)] [] z s1.2.2.2) ∧ (∀ x1 : Int × rt_M, t = .inr x1 → RT G M_X12_next d z Q 120 [(9, 0), (9, 0), (9, 0), (0, x1.1), (9, 0), (9, 0), (9, 0), (9, 0)] [] z x1.2)) : RT G M_X12_next d z Q 114 [(2, a0), (0, a1), (0, a2), (0, a3), (0, a4), (0, a5), (9, 0), (9, 0)] [] z mem0 := by
  unfold j_X12_next_114_29 at h
  refine RT.iinc (pc := 114) (x := a5) (L1 := [(2, a0), (0, a1), (0, a2), (0, a3), (0, a4), (0, (rt_iadd a5 1)), (9, 0), (9, 0)]) dX12_next_114 rfl (Nat.le_of_ble_eq_true rfl) ⟨by decide, by decide⟩ rfl ?_
  refine RT.goto (pc := 117) (tgt := 29) dX12_next_117 rfl ?_
  obtain rfl := Option.some.inj h
  have q1 := hK.1 ((a3, a4, (rt_iadd a5 1), mem0)) rfl
  try dsimp only at q1
  exact q1
theorem cb_X12_next_29 {G : rt_G} {d : Nat} {z : Nat × Nat} {Q : rt_P} (hz : 300 ≤ z.1) (hd : 6 ≤ d) {a0 : Int} (ht : rt_kd a0.toNat = 20 + 12) (a1 : Int) (a2 : Int) (s : Int × Int × Int × rt_M) (t : (Int × Int × Int × rt_M) ⊕ (Int × rt_M)) (h : b_X12_next_29 a0 a1 a2 s = some t) (hK : (∀ s1 : Int × Int × Int × rt_M, t = .inl s1 → RT G M_X12_next d z Q 29 [(2, a0), (0, a1), (0, a2), (0, s1.1), (0, s1.2.1), (0, s1.2.2.1), (9, 0), (9, 0)] [] z s1.2.2.2) ∧ (∀ x1 : Int × rt_M, t = .inr x1 → RT G M_X12_next d z Q 120 [(9, 0), (9, 0), (9, 0), (0, x1.1), (9, 0), (9, 0), (9, 0), (9, 0)] [] z x1.2)) : RT G M_X12_next d z Q 29 [(2, a0), (0, a1), (0, a2), (0, s.1), (0, s.2.1), (0, s.2.2.1), (9, 0), (9, 0)] [] z s.2.2.2 := by
  unfold b_X12_next_29 at h
  refine RT.iload (pc := 29) (k := 5) (x := s.2.2.1) dX12_next_29 rfl ?_
  refine RT.bipush (pc := 31) (n := 10) dX12_next_31 ⟨by decide, by decide⟩ rfl ?_
  refine RT.icmp_ge (pc := 33) (tgt := 120) dX12_next_33 rfl (fun q33 => ?_) (fun q33 => ?_)
  · rw [if_pos q33] at h
    refine RT.wk (L1 := [(9, 0), (9, 0), (9, 0), (0, s.1), (9, 0), (9, 0), (9, 0), (9, 0)]) (rt_le_j (rt_le_j (rt_le_j (rt_le_s (rt_le_j (rt_le_j (rt_le_s (rt_le_s rt_le_n)))))))) ?_
    obtain rfl := Option.some.inj h
    have q1 := hK.2 ((s.1, s.2.2.2)) rfl
    try dsimp only at q1
    exact q1
  · rw [if_neg q33] at h
    refine RT.iconst (pc := 36) (n := 0) dX12_next_36 ⟨by decide, by decide⟩ ?_
    refine RT.istore (pc := 37) (k := 6) (x := 0) (L1 := [(2, a0), (0, a1), (0, a2), (0, s.1), (0, s.2.1), (0, s.2.2.1), (0, 0), (9, 0)]) dX12_next_37 (Nat.le_of_ble_eq_true rfl) rfl ?_
    refine RT.iconst (pc := 39) (n := 0) dX12_next_39 ⟨by decide, by decide⟩ ?_
    refine RT.istore (pc := 40) (k := 7) (x := 0) (L1 := [(2, a0), (0, a1), (0, a2), (0, s.1), (0, s.2.1), (0, s.2.2.1), (0, 0), (0, 0)]) dX12_next_40 (Nat.le_of_ble_eq_true rfl) rfl ?_
    obtain ⟨X42, hX42, h⟩ := Option.bind_eq_some_iff.mp h
    refine rt_it_ind (P := (fun s1 : Int × Int × rt_M => RT G M_X12_next d z Q 42 [(2, a0), (0, a1), (0, a2), (0, s.1), (0, s.2.1), (0, s.2.2.1), (0, s1.1), (0, s1.2.1)] [] z s1.2.2)) (X := (fun x1 : Int × rt_M => RT G M_X12_next d z Q 86 [(2, a0), (0, a1), (0, a2), (0, s.1), (0, s.2.1), (0, s.2.2.1), (0, x1.1), (9, 0)] [] z x1.2)) (fun s1 t1 h1 k1 k2 => cb_X12_next_42 hz hd ht a1 a2 s.1 s.2.1 s.2.2.1 s1 t1 h1 ⟨k1, k2⟩) 4000 ((0, 0, s.2.2.2)) X42 hX42 ?_
    refine RT.iload (pc := 86) (k := 6) (x := X42.1) dX12_next_86 rfl ?_
    refine RT.iload_n (pc := 88) (k := 2) (x := a2) dX12_next_88 rfl ?_
    refine RT.iload (pc := 89) (k := 6) (x := X42.1) dX12_next_89 rfl ?_
    refine RT.isub (pc := 91) dX12_next_91 ?_
    obtain ⟨p92, hp92, h⟩ := Option.bind_eq_some_iff.mp h
    refine RT.cSz (pc := 92) (M' := M_J9_max_7cf53) (As := [(0, X42.1), (0, (rt_isub a2 X42.1))]) (st := []) (r := some (0, p92)) (mem1 := X42.2) (d' := d - 1) dX12_next_92 mw_J9_max_7cf53 ml_X12_467 mi_J9_max_7cf53 rfl rfl (Nat.le_of_ble_eq_true rfl) (Nat.le_of_ble_eq_true rfl) (by omega) rfl rfl (c_J9_max_7cf53 hz (by omega) X42.1 ((rt_isub a2 X42.1)) X42.2 _ hp92) ?_
    refine RT.istore (pc := 95) (k := 6) (x := p92) (L1 := [(2, a0), (0, a1), (0, a2), (0, s.1), (0, s.2.1), (0, s.2.2.1), (0, p92), (9, 0)]) dX12_next_95 (Nat.le_of_ble_eq_true rfl) rfl ?_
    refine RT.iload (pc := 97) (k := 6) (x := p92) dX12_next_97 rfl ?_
    refine RT.iload (pc := 99) (k := 4) (x := s.2.1) dX12_next_99 rfl ?_
    refine RT.icmp_lt (pc := 101) (tgt := 107) dX12_next_101 rfl (fun q101 => ?_) (fun q101 => ?_)
    · rw [if_pos q101] at h
      refine RT.iload (pc := 107) (k := 6) (x := p92) dX12_next_107 rfl ?_
      refine RT.istore (pc := 109) (k := 4) (x := p92) (L1 := [(2, a0), (0, a1), (0, a2), (0, s.1), (0, p92), (0, s.2.2.1), (0, p92), (9, 0)]) dX12_next_109 (Nat.le_of_ble_eq_true rfl) rfl ?_
      refine RT.iload (pc := 111) (k := 5) (x := s.2.2.1) dX12_next_111 rfl ?_
      refine RT.istore_n (pc := 113) (k := 3) (x := s.2.2.1) (L1 := [(2, a0), (0, a1), (0, a2), (0, s.2.2.1), (0, p92), (0, s.2.2.1), (0, p92), (9, 0)]) dX12_next_113 (Nat.le_of_ble_eq_true rfl) rfl ?_
      refine RT.wk (L1 := [(2, a0), (0, a1), (0, a2), (0, s.2.2.1), (0, p92), (0, s.2.2.1), (9, 0), (9, 0)]) (rt_le_s (rt_le_s (rt_le_s (rt_le_s (rt_le_s (rt_le_s (rt_le_j (rt_le_s rt_le_n)))))))) ?_
      exact cj_X12_next_114_29 hz hd ht a1 a2 s.2.2.1 p92 s.2.2.1 X42.2 _ h hK
    · rw [if_neg q101] at h
      refine RT.goto (pc := 104) (tgt := 114) dX12_next_104 rfl ?_
      refine RT.wk (L1 := [(2, a0), (0, a1), (0, a2), (0, s.1), (0, s.2.1), (0, s.2.2.1), (9, 0), (9, 0)]) (rt_le_s (rt_le_s (rt_le_s (rt_le_s (rt_le_s (rt_le_s (rt_le_j (rt_le_s rt_le_n)))))))) ?_
      exact cj_X12_next_114_29 hz hd ht a1 a2 s.1 s.2.1 s.2.2.1 X42.2 _ h hK
theorem c_X12_next {G : rt_G} {d : Nat} {z : Nat × Nat} (hz : 300 ≤ z.1) (hd : 6 ≤ d) (a0 : Int) (a1 : Int) (mem0 : rt_M) (t : Int × rt_M) (ht : rt_kd a0.toNat = 20 + 12) (h : f_X12_next a0 a1 mem0 = some t) : RM G M_X12_next d [(2, a0), (0, a1)] z mem0 (some (0, t.1)) t.2 := by
  suffices H : ∀ Q : rt_P, Q (some (0, t.1)) z t.2 → RT G M_X12_next d z Q 0 [(2, a0), (0, a1), (9, 0), (9, 0), (9, 0), (9, 0), (9, 0), (9, 0)] [] z mem0 from H _ ⟨rfl, rfl, rfl⟩
  intro Q hK
  unfold f_X12_next at h
  refine RT.aload_n (pc := 0) (k := 0) (x := a0) dX12_next_0 rfl ?_
  refine RT.iconst (pc := 1) (n := 0) dX12_next_1 ⟨by decide, by decide⟩ ?_
  obtain ⟨m2, hm2, h⟩ := Option.bind_eq_some_iff.mp h
  refine RT.pf_i 12 0 (pc := 2) (mem1 := m2) hz dX12_next_2 fl_X12_171 rfl rfl rfl hm2 ?_
  refine RT.aload_n (pc := 5) (k := 0) (x := a0) dX12_next_5 rfl ?_
  refine RT.iload_n (pc := 6) (k := 1) (x := a1) dX12_next_6 rfl ?_
  obtain ⟨p7, hp7, h⟩ := Option.bind_eq_some_iff.mp h
  refine RT.cVz (pc := 7) (M' := M_X12_isHead) (ci := 12) (x := a0) (As := [(0, a1)]) (st := []) (r := some (0, p7)) (mem1 := m2) (d' := d - 1) hz dX12_next_7 mw_X12_isHead ml_X12_417 mi_X12_isHead ht rfl rfl (Nat.le_of_ble_eq_true rfl) (Nat.le_of_ble_eq_true rfl) (by omega) rfl rfl (c_X12_isHead hz (by omega) a0 a1 m2 _ ht hp7) ?_
  refine RT.if_ne (pc := 10) (tgt := 15) dX12_next_10 rfl (fun q10 => ?_) (fun q10 => ?_)
  · rw [if_neg q10] at h
    refine RT.aload_n (pc := 15) (k := 0) (x := a0) dX12_next_15 rfl ?_
    refine RT.iconst (pc := 16) (n := 0) dX12_next_16 ⟨by decide, by decide⟩ ?_
    obtain ⟨p17, hp17, h⟩ := Option.bind_eq_some_iff.mp h
    refine RT.cVz (pc := 17) (M' := M_X12_leans) (ci := 12) (x := a0) (As := [(0, 0)]) (st := []) (r := some (0, p17.1)) (mem1 := p17.2) (d' := d - 1) hz dX12_next_17 mw_X12_leans ml_X12_464 mi_X12_leans ht rfl rfl (Nat.le_of_ble_eq_true rfl) (Nat.le_of_ble_eq_true rfl) (by omega) rfl rfl (c_X12_leans hz (by omega) a0 0 m2 _ ht hp17) ?_
    refine RT.istore_n (pc := 20) (k := 2) (x := p17.1) (L1 := [(2, a0), (0, a1), (0, p17.1), (9, 0), (9, 0), (9, 0), (9, 0), (9, 0)]) dX12_next_20 (Nat.le_of_ble_eq_true rfl) rfl ?_
    refine RT.iconst (pc := 21) (n := (-1)) dX12_next_21 ⟨by decide, by decide⟩ ?_
    refine RT.istore_n (pc := 22) (k := 3) (x := (-1)) (L1 := [(2, a0), (0, a1), (0, p17.1), (0, (-1)), (9, 0), (9, 0), (9, 0), (9, 0)]) dX12_next_22 (Nat.le_of_ble_eq_true rfl) rfl ?_
    refine RT.iload_n (pc := 23) (k := 2) (x := p17.1) dX12_next_23 rfl ?_
    refine RT.istore (pc := 24) (k := 4) (x := p17.1) (L1 := [(2, a0), (0, a1), (0, p17.1), (0, (-1)), (0, p17.1), (9, 0), (9, 0), (9, 0)]) dX12_next_24 (Nat.le_of_ble_eq_true rfl) rfl ?_
    refine RT.iconst (pc := 26) (n := 0) dX12_next_26 ⟨by decide, by decide⟩ ?_
    refine RT.istore (pc := 27) (k := 5) (x := 0) (L1 := [(2, a0), (0, a1), (0, p17.1), (0, (-1)), (0, p17.1), (0, 0), (9, 0), (9, 0)]) dX12_next_27 (Nat.le_of_ble_eq_true rfl) rfl ?_
    obtain ⟨X29, hX29, h⟩ := Option.bind_eq_some_iff.mp h
    refine rt_it_ind (P := (fun s1 : Int × Int × Int × rt_M => RT G M_X12_next d z Q 29 [(2, a0), (0, a1), (0, p17.1), (0, s1.1), (0, s1.2.1), (0, s1.2.2.1), (9, 0), (9, 0)] [] z s1.2.2.2)) (X := (fun x1 : Int × rt_M => RT G M_X12_next d z Q 120 [(9, 0), (9, 0), (9, 0), (0, x1.1), (9, 0), (9, 0), (9, 0), (9, 0)] [] z x1.2)) (fun s1 t1 h1 k1 k2 => cb_X12_next_29 hz hd ht a1 p17.1 s1 t1 h1 ⟨k1, k2⟩) 4000 (((-1), p17.1, 0, p17.2)) X29 hX29 ?_
    refine RT.iload_n (pc := 120) (k := 3) (x := X29.1) dX12_next_120 rfl ?_
    obtain rfl := Option.some.inj h
    exact RT.iret (pc := 121) dX12_next_121 rfl (Nat.le_of_eq (rt_cells_0 z)) (Nat.le_of_eq (rt_slots_0 z)) hK
  · rw [if_pos (Classical.not_not.mp q10)] at h
    refine RT.iconst (pc := 13) (n := (-1)) dX12_next_13 ⟨by decide, by decide⟩ ?_
    obtain rfl := Option.some.inj h
    exact RT.iret (pc := 14) dX12_next_14 rfl (Nat.le_of_eq (rt_cells_0 z)) (Nat.le_of_eq (rt_slots_0 z)) hK
theorem cj_X12_baths_31 {G : rt_G} {d : Nat} {z : Nat × Nat} {Q : rt_P} (hz : 300 ≤ z.1) (hd : 5 ≤ d) {a0 : Int} (ht : rt_kd a0.toNat = 20 + 12) (mem0 : rt_M) (t : Int × rt_M) (h : j_X12_baths_31 mem0 = some t) (hK : Q (some (0, t.1)) z t.2) : RT G M_X12_baths d z Q 31 [(9, 0), (9, 0), (9, 0), (9, 0), (9, 0), (9, 0), (9, 0)] [] z mem0 := by
  unfold j_X12_baths_31 at h
  refine RT.iconst (pc := 31) (n := (-1)) dX12_baths_31 ⟨by decide, by decide⟩ ?_
  obtain rfl := Option.some.inj h
  exact RT.iret (pc := 32) dX12_baths_32 rfl (Nat.le_of_eq (rt_cells_0 z)) (Nat.le_of_eq (rt_slots_0 z)) hK
theorem cj_X12_baths_88_39 {G : rt_G} {d : Nat} {z : Nat × Nat} {Q : rt_P} (hz : 300 ≤ z.1) (hd : 5 ≤ d) {a0 : Int} (ht : rt_kd a0.toNat = 20 + 12) (a1 : Int) (a2 : Int) (a3 : Int) (a5 : Int) (s0 : Int) (s1 : Int) (mem0 : rt_M) (t : (Int × Int × rt_M) ⊕ (Int × rt_M)) (h : j_X12_baths_88_39 a0 a1 a2 a3 a5 s0 s1 mem0 = some t) (hK : (∀ s1 : Int × Int × rt_M, t = .inl s1 → RT G M_X12_baths d z Q 39 [(2, a0), (0, a1), (0, a2), (0, a3), (0, s1.1), (0, s1.2.1), (9, 0)] [] z s1.2.2) ∧ (∀ x1 : Int × rt_M, t = .inr x1 → RT G M_X12_baths d z Q 97 [(9, 0), (9, 0), (9, 0), (9, 0), (0, x1.1), (9, 0), (9, 0)] [] z x1.2)) : RT G M_X12_baths d z Q 88 [(2, a0), (0, a1), (0, a2), (0, a3), (9, 0), (0, a5), (9, 0)] [(0, s1), (0, s0)] z mem0 := by
  unfold j_X12_baths_88_39 at h
  refine RT.iadd (pc := 88) dX12_baths_88 ?_
  refine RT.istore (pc := 89) (k := 4) (x := (rt_iadd s0 s1)) (L1 := [(2, a0), (0, a1), (0, a2), (0, a3), (0, (rt_iadd s0 s1)), (0, a5), (9, 0)]) dX12_baths_89 (Nat.le_of_ble_eq_true rfl) rfl ?_
  refine RT.iinc (pc := 91) (x := a5) (L1 := [(2, a0), (0, a1), (0, a2), (0, a3), (0, (rt_iadd s0 s1)), (0, (rt_iadd a5 1)), (9, 0)]) dX12_baths_91 rfl (Nat.le_of_ble_eq_true rfl) ⟨by decide, by decide⟩ rfl ?_
  refine RT.goto (pc := 94) (tgt := 39) dX12_baths_94 rfl ?_
  obtain rfl := Option.some.inj h
  have q1 := hK.1 (((rt_iadd s0 s1), (rt_iadd a5 1), mem0)) rfl
  try dsimp only at q1
  exact q1
theorem cb_X12_baths_39 {G : rt_G} {d : Nat} {z : Nat × Nat} {Q : rt_P} (hz : 300 ≤ z.1) (hd : 5 ≤ d) {a0 : Int} (ht : rt_kd a0.toNat = 20 + 12) (a1 : Int) (a2 : Int) (a3 : Int) (s : Int × Int × rt_M) (t : (Int × Int × rt_M) ⊕ (Int × rt_M)) (h : b_X12_baths_39 a0 a1 a2 a3 s = some t) (hK : (∀ s1 : Int × Int × rt_M, t = .inl s1 → RT G M_X12_baths d z Q 39 [(2, a0), (0, a1), (0, a2), (0, a3), (0, s1.1), (0, s1.2.1), (9, 0)] [] z s1.2.2) ∧ (∀ x1 : Int × rt_M, t = .inr x1 → RT G M_X12_baths d z Q 97 [(9, 0), (9, 0), (9, 0), (9, 0), (0, x1.1), (9, 0), (9, 0)] [] z x1.2)) : RT G M_X12_baths d z Q 39 [(2, a0), (0, a1), (0, a2), (0, a3), (0, s.1), (0, s.2.1), (9, 0)] [] z s.2.2 := by
  unfold b_X12_baths_39 at h
  refine RT.iload (pc := 39) (k := 5) (x := s.2.1) dX12_baths_39 rfl ?_
  refine RT.iload_n (pc := 41) (k := 3) (x := a3) dX12_baths_41 rfl ?_
  refine RT.icmp_ge (pc := 42) (tgt := 97) dX12_baths_42 rfl (fun q42 => ?_) (fun q42 => ?_)
  · rw [if_pos q42] at h
    refine RT.wk (L1 := [(9, 0), (9, 0), (9, 0), (9, 0), (0, s.1), (9, 0), (9, 0)]) (rt_le_j (rt_le_j (rt_le_j (rt_le_j (rt_le_s (rt_le_j (rt_le_s rt_le_n))))))) ?_
    obtain rfl := Option.some.inj h
    have q1 := hK.2 ((s.1, s.2.2)) rfl
    try dsimp only at q1
    exact q1
  · rw [if_neg q42] at h
    refine RT.aload_n (pc := 45) (k := 0) (x := a0) dX12_baths_45 rfl ?_
    refine RT.iload_n (pc := 46) (k := 2) (x := a2) dX12_baths_46 rfl ?_
    refine RT.iload_n (pc := 47) (k := 1) (x := a1) dX12_baths_47 rfl ?_
    refine RT.aload_n (pc := 48) (k := 0) (x := a0) dX12_baths_48 rfl ?_
    obtain ⟨v49, hv49, h⟩ := Option.bind_eq_some_iff.mp h
    refine RT.gf 12 50 2 (pc := 49) (x := a0) (v := v49) hz dX12_baths_49 fl_X12_120 rfl hv49 ?_
    refine RT.iconst (pc := 52) (n := 0) dX12_baths_52 ⟨by decide, by decide⟩ ?_
    obtain ⟨v53, hv53, h⟩ := Option.bind_eq_some_iff.mp h
    refine RT.iald (pc := 53) (x := v49) (i := 0) (v := v53) dX12_baths_53 (rt_lta hz (by decide) (by decide) hv53) hv53 ?_
    refine RT.iload (pc := 54) (k := 5) (x := s.2.1) dX12_baths_54 rfl ?_
    refine RT.iadd (pc := 56) dX12_baths_56 ?_
    obtain ⟨p57, hp57, h⟩ := Option.bind_eq_some_iff.mp h
    refine RT.cVz (pc := 57) (M' := M_X12_tiltIn) (ci := 12) (x := a0) (As := [(0, a2), (0, a1), (0, (rt_iadd v53 s.2.1))]) (st := []) (r := some (0, p57.1)) (mem1 := p57.2) (d' := d - 1) hz dX12_baths_57 mw_X12_tiltIn ml_X12_400 mi_X12_tiltIn ht rfl rfl (Nat.le_of_ble_eq_true rfl) (Nat.le_of_ble_eq_true rfl) (by omega) rfl rfl (c_X12_tiltIn hz (by omega) a0 a2 a1 ((rt_iadd v53 s.2.1)) s.2.2 _ ht hp57) ?_
    refine RT.istore (pc := 60) (k := 6) (x := p57.1) (L1 := [(2, a0), (0, a1), (0, a2), (0, a3), (0, s.1), (0, s.2.1), (0, p57.1)]) dX12_baths_60 (Nat.le_of_ble_eq_true rfl) rfl ?_
    refine RT.iload (pc := 62) (k := 4) (x := s.1) dX12_baths_62 rfl ?_
    refine RT.iload (pc := 64) (k := 6) (x := p57.1) dX12_baths_64 rfl ?_
    refine RT.if_ge (pc := 66) (tgt := 75) dX12_baths_66 rfl (fun q66 => ?_) (fun q66 => ?_)
    · rw [if_pos q66] at h
      refine RT.iconst (pc := 75) (n := 0) dX12_baths_75 ⟨by decide, by decide⟩ ?_
      refine RT.iload (pc := 76) (k := 6) (x := p57.1) dX12_baths_76 rfl ?_
      refine RT.aload_n (pc := 78) (k := 0) (x := a0) dX12_baths_78 rfl ?_
      obtain ⟨v79, hv79, h⟩ := Option.bind_eq_some_iff.mp h
      refine RT.gf 12 10 2 (pc := 79) (x := a0) (v := v79) hz dX12_baths_79 fl_X12_13 rfl hv79 ?_
      refine RT.iconst (pc := 82) (n := 2) dX12_baths_82 ⟨by decide, by decide⟩ ?_
      obtain ⟨v83, hv83, h⟩ := Option.bind_eq_some_iff.mp h
      refine RT.iald (pc := 83) (x := v79) (i := 2) (v := v83) dX12_baths_83 (rt_lta hz (by decide) (by decide) hv83) hv83 ?_
      refine RT.isub (pc := 84) dX12_baths_84 ?_
      obtain ⟨p85, hp85, h⟩ := Option.bind_eq_some_iff.mp h
      refine RT.cSz (pc := 85) (M' := M_J9_max_7cf53) (As := [(0, 0), (0, (rt_isub p57.1 v83))]) (st := [(0, s.1)]) (r := some (0, p85)) (mem1 := p57.2) (d' := d - 1) dX12_baths_85 mw_J9_max_7cf53 ml_X12_467 mi_J9_max_7cf53 rfl rfl (Nat.le_of_ble_eq_true rfl) (Nat.le_of_ble_eq_true rfl) (by omega) rfl rfl (c_J9_max_7cf53 hz (by omega) 0 ((rt_isub p57.1 v83)) p57.2 _ hp85) ?_
      refine RT.wk (L1 := [(2, a0), (0, a1), (0, a2), (0, a3), (9, 0), (0, s.2.1), (9, 0)]) (rt_le_s (rt_le_s (rt_le_s (rt_le_s (rt_le_j (rt_le_s (rt_le_j rt_le_n))))))) ?_
      exact cj_X12_baths_88_39 hz hd ht a1 a2 a3 s.2.1 s.1 p85 p57.2 _ h hK
    · rw [if_neg q66] at h
      refine RT.iload (pc := 69) (k := 6) (x := p57.1) dX12_baths_69 rfl ?_
      refine RT.ineg (pc := 71) dX12_baths_71 ?_
      refine RT.goto (pc := 72) (tgt := 88) dX12_baths_72 rfl ?_
      refine RT.wk (L1 := [(2, a0), (0, a1), (0, a2), (0, a3), (9, 0), (0, s.2.1), (9, 0)]) (rt_le_s (rt_le_s (rt_le_s (rt_le_s (rt_le_j (rt_le_s (rt_le_j rt_le_n))))))) ?_
      exact cj_X12_baths_88_39 hz hd ht a1 a2 a3 s.2.1 s.1 ((rt_ineg p57.1)) p57.2 _ h hK
theorem c_X12_baths {G : rt_G} {d : Nat} {z : Nat × Nat} (hz : 300 ≤ z.1) (hd : 5 ≤ d) (a0 : Int) (a1 : Int) (a2 : Int) (a3 : Int) (mem0 : rt_M) (t : Int × rt_M) (ht : rt_kd a0.toNat = 20 + 12) (h : f_X12_baths a0 a1 a2 a3 mem0 = some t) : RM G M_X12_baths d [(2, a0), (0, a1), (0, a2), (0, a3)] z mem0 (some (0, t.1)) t.2 := by
  suffices H : ∀ Q : rt_P, Q (some (0, t.1)) z t.2 → RT G M_X12_baths d z Q 0 [(2, a0), (0, a1), (0, a2), (0, a3), (9, 0), (9, 0), (9, 0)] [] z mem0 from H _ ⟨rfl, rfl, rfl⟩
  intro Q hK
  unfold f_X12_baths at h
  refine RT.aload_n (pc := 0) (k := 0) (x := a0) dX12_baths_0 rfl ?_
  refine RT.iconst (pc := 1) (n := 0) dX12_baths_1 ⟨by decide, by decide⟩ ?_
  obtain ⟨m2, hm2, h⟩ := Option.bind_eq_some_iff.mp h
  refine RT.pf_i 12 0 (pc := 2) (mem1 := m2) hz dX12_baths_2 fl_X12_171 rfl rfl rfl hm2 ?_
  refine RT.aload_n (pc := 5) (k := 0) (x := a0) dX12_baths_5 rfl ?_
  refine RT.iload_n (pc := 6) (k := 1) (x := a1) dX12_baths_6 rfl ?_
  obtain ⟨p7, hp7, h⟩ := Option.bind_eq_some_iff.mp h
  refine RT.cVz (pc := 7) (M' := M_X12_isHead) (ci := 12) (x := a0) (As := [(0, a1)]) (st := []) (r := some (0, p7)) (mem1 := m2) (d' := d - 1) hz dX12_baths_7 mw_X12_isHead ml_X12_417 mi_X12_isHead ht rfl rfl (Nat.le_of_ble_eq_true rfl) (Nat.le_of_ble_eq_true rfl) (by omega) rfl rfl (c_X12_isHead hz (by omega) a0 a1 m2 _ ht hp7) ?_
  refine RT.if_eq (pc := 10) (tgt := 31) dX12_baths_10 rfl (fun q10 => ?_) (fun q10 => ?_)
  · rw [if_pos q10] at h
    refine RT.wk (L1 := [(9, 0), (9, 0), (9, 0), (9, 0), (9, 0), (9, 0), (9, 0)]) (rt_le_j (rt_le_j (rt_le_j (rt_le_j (rt_le_s (rt_le_s (rt_le_s rt_le_n))))))) ?_
    exact cj_X12_baths_31 hz hd ht m2 _ h hK
  · rw [if_neg q10] at h
    refine RT.aload_n (pc := 13) (k := 0) (x := a0) dX12_baths_13 rfl ?_
    refine RT.iload_n (pc := 14) (k := 2) (x := a2) dX12_baths_14 rfl ?_
    obtain ⟨p15, hp15, h⟩ := Option.bind_eq_some_iff.mp h
    refine RT.cVz (pc := 15) (M' := M_X12_isWig) (ci := 12) (x := a0) (As := [(0, a2)]) (st := []) (r := some (0, p15)) (mem1 := m2) (d' := d - 1) hz dX12_baths_15 mw_X12_isWig ml_X12_414 mi_X12_isWig ht rfl rfl (Nat.le_of_ble_eq_true rfl) (Nat.le_of_ble_eq_true rfl) (by omega) rfl rfl (c_X12_isWig hz (by omega) a0 a2 m2 _ ht hp15) ?_
    refine RT.if_eq (pc := 18) (tgt := 31) dX12_baths_18 rfl (fun q18 => ?_) (fun q18 => ?_)
    · rw [if_pos q18] at h
      refine RT.wk (L1 := [(9, 0), (9, 0), (9, 0), (9, 0), (9, 0), (9, 0), (9, 0)]) (rt_le_j (rt_le_j (rt_le_j (rt_le_j (rt_le_s (rt_le_s (rt_le_s rt_le_n))))))) ?_
      exact cj_X12_baths_31 hz hd ht m2 _ h hK
    · rw [if_neg q18] at h
      refine RT.iload_n (pc := 21) (k := 3) (x := a3) dX12_baths_21 rfl ?_
      refine RT.iconst (pc := 22) (n := 1) dX12_baths_22 ⟨by decide, by decide⟩ ?_
      refine RT.bipush (pc := 23) (n := 40) dX12_baths_23 ⟨by decide, by decide⟩ rfl ?_
      obtain ⟨p25, hp25, h⟩ := Option.bind_eq_some_iff.mp h
      refine RT.cSz (pc := 25) (M' := M_X12_within) (As := [(0, a3), (0, 1), (0, 40)]) (st := []) (r := some (0, p25)) (mem1 := m2) (d' := d - 1) dX12_baths_25 mw_X12_within ml_X12_301 mi_X12_within rfl rfl (Nat.le_of_ble_eq_true rfl) (Nat.le_of_ble_eq_true rfl) (by omega) rfl rfl (c_X12_within hz (by omega) a3 1 40 m2 _ hp25) ?_
      refine RT.if_ne (pc := 28) (tgt := 33) dX12_baths_28 rfl (fun q28 => ?_) (fun q28 => ?_)
      · rw [if_neg q28] at h
        refine RT.iconst (pc := 33) (n := 0) dX12_baths_33 ⟨by decide, by decide⟩ ?_
        refine RT.istore (pc := 34) (k := 4) (x := 0) (L1 := [(2, a0), (0, a1), (0, a2), (0, a3), (0, 0), (9, 0), (9, 0)]) dX12_baths_34 (Nat.le_of_ble_eq_true rfl) rfl ?_
        refine RT.iconst (pc := 36) (n := 0) dX12_baths_36 ⟨by decide, by decide⟩ ?_
        refine RT.istore (pc := 37) (k := 5) (x := 0) (L1 := [(2, a0), (0, a1), (0, a2), (0, a3), (0, 0), (0, 0), (9, 0)]) dX12_baths_37 (Nat.le_of_ble_eq_true rfl) rfl ?_
        obtain ⟨X39, hX39, h⟩ := Option.bind_eq_some_iff.mp h
        refine rt_it_ind (P := (fun s1 : Int × Int × rt_M => RT G M_X12_baths d z Q 39 [(2, a0), (0, a1), (0, a2), (0, a3), (0, s1.1), (0, s1.2.1), (9, 0)] [] z s1.2.2)) (X := (fun x1 : Int × rt_M => RT G M_X12_baths d z Q 97 [(9, 0), (9, 0), (9, 0), (9, 0), (0, x1.1), (9, 0), (9, 0)] [] z x1.2)) (fun s1 t1 h1 k1 k2 => cb_X12_baths_39 hz hd ht a1 a2 a3 s1 t1 h1 ⟨k1, k2⟩) 4000 ((0, 0, m2)) X39 hX39 ?_
        refine RT.iload (pc := 97) (k := 4) (x := X39.1) dX12_baths_97 rfl ?_
        obtain rfl := Option.some.inj h
        exact RT.iret (pc := 99) dX12_baths_99 rfl (Nat.le_of_eq (rt_cells_0 z)) (Nat.le_of_eq (rt_slots_0 z)) hK
      · rw [if_pos (Classical.not_not.mp q28)] at h
        refine RT.wk (L1 := [(9, 0), (9, 0), (9, 0), (9, 0), (9, 0), (9, 0), (9, 0)]) (rt_le_j (rt_le_j (rt_le_j (rt_le_j (rt_le_s (rt_le_s (rt_le_s rt_le_n))))))) ?_
        exact cj_X12_baths_31 hz hd ht m2 _ h hK
theorem cj_X12_keeps_24 {G : rt_G} {d : Nat} {z : Nat × Nat} {Q : rt_P} (hz : 300 ≤ z.1) (hd : 6 ≤ d) {a0 : Int} (ht : rt_kd a0.toNat = 20 + 12) (mem0 : rt_M) (t : Int × rt_M) (h : j_X12_keeps_24 mem0 = some t) (hK : Q (some (0, t.1)) z t.2) : RT G M_X12_keeps d z Q 24 [(9, 0), (9, 0), (9, 0)] [] z mem0 := by
  unfold j_X12_keeps_24 at h
  refine RT.iconst (pc := 24) (n := (-1)) dX12_keeps_24 ⟨by decide, by decide⟩ ?_
  obtain rfl := Option.some.inj h
  exact RT.iret (pc := 25) dX12_keeps_25 rfl (Nat.le_of_eq (rt_cells_0 z)) (Nat.le_of_eq (rt_slots_0 z)) hK
theorem cb_X12_keeps_28 {G : rt_G} {d : Nat} {z : Nat × Nat} {Q : rt_P} (hz : 300 ≤ z.1) (hd : 6 ≤ d) {a0 : Int} (ht : rt_kd a0.toNat = 20 + 12) (a1 : Int) (s : Int × rt_M) (t : (Int × rt_M) ⊕ ((rt_M) ⊕ (Int × rt_M))) (h : b_X12_keeps_28 a0 a1 s = some t) (hK : (∀ s1 : Int × rt_M, t = .inl s1 → RT G M_X12_keeps d z Q 28 [(2, a0), (0, a1), (0, s1.1)] [] z s1.2) ∧ (∀ x1 : rt_M, t = .inr (.inl x1) → RT G M_X12_keeps d z Q 66 [(9, 0), (9, 0), (9, 0)] [] z x1) ∧ (∀ t1 : Int × rt_M, t = .inr (.inr t1) → Q (some (0, t1.1)) z t1.2)) : RT G M_X12_keeps d z Q 28 [(2, a0), (0, a1), (0, s.1)] [] z s.2 := by
  unfold b_X12_keeps_28 at h
  refine RT.iload_n (pc := 28) (k := 2) (x := s.1) dX12_keeps_28 rfl ?_
  refine RT.bipush (pc := 29) (n := 41) dX12_keeps_29 ⟨by decide, by decide⟩ rfl ?_
  refine RT.icmp_ge (pc := 31) (tgt := 66) dX12_keeps_31 rfl (fun q31 => ?_) (fun q31 => ?_)
  · rw [if_pos q31] at h
    refine RT.wk (L1 := [(9, 0), (9, 0), (9, 0)]) (rt_le_j (rt_le_j (rt_le_j rt_le_n))) ?_
    obtain rfl := Option.some.inj h
    have q1 := hK.2.1 s.2 rfl
    try dsimp only at q1
    exact q1
  · rw [if_neg q31] at h
    refine RT.aload_n (pc := 34) (k := 0) (x := a0) dX12_keeps_34 rfl ?_
    refine RT.iload_n (pc := 35) (k := 1) (x := a1) dX12_keeps_35 rfl ?_
    refine RT.aload_n (pc := 36) (k := 0) (x := a0) dX12_keeps_36 rfl ?_
    obtain ⟨v37, hv37, h⟩ := Option.bind_eq_some_iff.mp h
    refine RT.gf 12 50 2 (pc := 37) (x := a0) (v := v37) hz dX12_keeps_37 fl_X12_120 rfl hv37 ?_
    refine RT.iconst (pc := 40) (n := 1) dX12_keeps_40 ⟨by decide, by decide⟩ ?_
    refine RT.iload_n (pc := 41) (k := 1) (x := a1) dX12_keeps_41 rfl ?_
    refine RT.iadd (pc := 42) dX12_keeps_42 ?_
    obtain ⟨v43, hv43, h⟩ := Option.bind_eq_some_iff.mp h
    refine RT.iald (pc := 43) (x := v37) (i := (rt_iadd 1 a1)) (v := v43) dX12_keeps_43 (rt_lta hz (by decide) (by decide) hv43) hv43 ?_
    refine RT.aload_n (pc := 44) (k := 0) (x := a0) dX12_keeps_44 rfl ?_
    obtain ⟨v45, hv45, h⟩ := Option.bind_eq_some_iff.mp h
    refine RT.gf 12 50 2 (pc := 45) (x := a0) (v := v45) hz dX12_keeps_45 fl_X12_120 rfl hv45 ?_
    refine RT.iconst (pc := 48) (n := 0) dX12_keeps_48 ⟨by decide, by decide⟩ ?_
    obtain ⟨v49, hv49, h⟩ := Option.bind_eq_some_iff.mp h
    refine RT.iald (pc := 49) (x := v45) (i := 0) (v := v49) dX12_keeps_49 (rt_lta hz (by decide) (by decide) hv49) hv49 ?_
    refine RT.iload_n (pc := 50) (k := 2) (x := s.1) dX12_keeps_50 rfl ?_
    refine RT.iadd (pc := 51) dX12_keeps_51 ?_
    obtain ⟨p52, hp52, h⟩ := Option.bind_eq_some_iff.mp h
    refine RT.cVz (pc := 52) (M' := M_X12_fitsIn) (ci := 12) (x := a0) (As := [(0, a1), (0, v43), (0, (rt_iadd v49 s.1))]) (st := []) (r := some (0, p52.1)) (mem1 := p52.2) (d' := d - 1) hz dX12_keeps_52 mw_X12_fitsIn ml_X12_406 mi_X12_fitsIn ht rfl rfl (Nat.le_of_ble_eq_true rfl) (Nat.le_of_ble_eq_true rfl) (by omega) rfl rfl (c_X12_fitsIn hz (by omega) a0 a1 v43 ((rt_iadd v49 s.1)) s.2 _ ht hp52) ?_
    refine RT.if_ne (pc := 55) (tgt := 60) dX12_keeps_55 rfl (fun q55 => ?_) (fun q55 => ?_)
    · rw [if_neg q55] at h
      refine RT.iinc (pc := 60) (x := s.1) (L1 := [(2, a0), (0, a1), (0, (rt_iadd s.1 1))]) dX12_keeps_60 rfl (Nat.le_of_ble_eq_true rfl) ⟨by decide, by decide⟩ rfl ?_
      refine RT.goto (pc := 63) (tgt := 28) dX12_keeps_63 rfl ?_
      obtain rfl := Option.some.inj h
      have q1 := hK.1 (((rt_iadd s.1 1), p52.2)) rfl
      try dsimp only at q1
      exact q1
    · rw [if_pos (Classical.not_not.mp q55)] at h
      obtain ⟨t2, g2, e2⟩ := Option.map_eq_some_iff.mp h
      subst e2
      replace h := g2
      replace hK := hK.2.2 t2 rfl
      refine RT.iload_n (pc := 58) (k := 2) (x := s.1) dX12_keeps_58 rfl ?_
      obtain rfl := Option.some.inj h
      exact RT.iret (pc := 59) dX12_keeps_59 rfl (Nat.le_of_eq (rt_cells_0 z)) (Nat.le_of_eq (rt_slots_0 z)) hK
theorem c_X12_keeps {G : rt_G} {d : Nat} {z : Nat × Nat} (hz : 300 ≤ z.1) (hd : 6 ≤ d) (a0 : Int) (a1 : Int) (mem0 : rt_M) (t : Int × rt_M) (ht : rt_kd a0.toNat = 20 + 12) (h : f_X12_keeps a0 a1 mem0 = some t) : RM G M_X12_keeps d [(2, a0), (0, a1)] z mem0 (some (0, t.1)) t.2 := by
  suffices H : ∀ Q : rt_P, Q (some (0, t.1)) z t.2 → RT G M_X12_keeps d z Q 0 [(2, a0), (0, a1), (9, 0)] [] z mem0 from H _ ⟨rfl, rfl, rfl⟩
  intro Q hK
  unfold f_X12_keeps at h
  refine RT.aload_n (pc := 0) (k := 0) (x := a0) dX12_keeps_0 rfl ?_
  refine RT.iconst (pc := 1) (n := 0) dX12_keeps_1 ⟨by decide, by decide⟩ ?_
  obtain ⟨m2, hm2, h⟩ := Option.bind_eq_some_iff.mp h
  refine RT.pf_i 12 0 (pc := 2) (mem1 := m2) hz dX12_keeps_2 fl_X12_171 rfl rfl rfl hm2 ?_
  refine RT.aload_n (pc := 5) (k := 0) (x := a0) dX12_keeps_5 rfl ?_
  refine RT.iload_n (pc := 6) (k := 1) (x := a1) dX12_keeps_6 rfl ?_
  obtain ⟨p7, hp7, h⟩ := Option.bind_eq_some_iff.mp h
  refine RT.cVz (pc := 7) (M' := M_X12_isWig) (ci := 12) (x := a0) (As := [(0, a1)]) (st := []) (r := some (0, p7)) (mem1 := m2) (d' := d - 1) hz dX12_keeps_7 mw_X12_isWig ml_X12_414 mi_X12_isWig ht rfl rfl (Nat.le_of_ble_eq_true rfl) (Nat.le_of_ble_eq_true rfl) (by omega) rfl rfl (c_X12_isWig hz (by omega) a0 a1 m2 _ ht hp7) ?_
  refine RT.if_eq (pc := 10) (tgt := 24) dX12_keeps_10 rfl (fun q10 => ?_) (fun q10 => ?_)
  · rw [if_pos q10] at h
    refine RT.wk (L1 := [(9, 0), (9, 0), (9, 0)]) (rt_le_j (rt_le_j (rt_le_s rt_le_n))) ?_
    exact cj_X12_keeps_24 hz hd ht m2 _ h hK
  · rw [if_neg q10] at h
    refine RT.aload_n (pc := 13) (k := 0) (x := a0) dX12_keeps_13 rfl ?_
    obtain ⟨v14, hv14, h⟩ := Option.bind_eq_some_iff.mp h
    refine RT.gf 12 50 2 (pc := 14) (x := a0) (v := v14) hz dX12_keeps_14 fl_X12_120 rfl hv14 ?_
    refine RT.iconst (pc := 17) (n := 1) dX12_keeps_17 ⟨by decide, by decide⟩ ?_
    refine RT.iload_n (pc := 18) (k := 1) (x := a1) dX12_keeps_18 rfl ?_
    refine RT.iadd (pc := 19) dX12_keeps_19 ?_
    obtain ⟨v20, hv20, h⟩ := Option.bind_eq_some_iff.mp h
    refine RT.iald (pc := 20) (x := v14) (i := (rt_iadd 1 a1)) (v := v20) dX12_keeps_20 (rt_lta hz (by decide) (by decide) hv20) hv20 ?_
    refine RT.if_ge (pc := 21) (tgt := 26) dX12_keeps_21 rfl (fun q21 => ?_) (fun q21 => ?_)
    · rw [if_pos q21] at h
      refine RT.iconst (pc := 26) (n := 1) dX12_keeps_26 ⟨by decide, by decide⟩ ?_
      refine RT.istore_n (pc := 27) (k := 2) (x := 1) (L1 := [(2, a0), (0, a1), (0, 1)]) dX12_keeps_27 (Nat.le_of_ble_eq_true rfl) rfl ?_
      obtain ⟨E28, hE28, h⟩ := Option.bind_eq_some_iff.mp h
      refine rt_it_ind (P := (fun s1 : Int × rt_M => RT G M_X12_keeps d z Q 28 [(2, a0), (0, a1), (0, s1.1)] [] z s1.2)) (X := (fun e1 : (rt_M) ⊕ (Int × rt_M) => (∀ x1 : rt_M, e1 = .inl x1 → RT G M_X12_keeps d z Q 66 [(9, 0), (9, 0), (9, 0)] [] z x1) ∧ (∀ t1 : Int × rt_M, e1 = .inr t1 → Q (some (0, t1.1)) z t1.2))) (fun s1 t1 h1 k1 k2 => cb_X12_keeps_28 hz hd ht a1 s1 t1 h1 ⟨k1, fun x1 q => (k2 _ q).1 x1 rfl, fun t2 q => (k2 _ q).2 t2 rfl⟩) 4000 ((1, m2)) E28 hE28 ?_
      cases E28 with
      | inr t1 =>
        obtain rfl := Option.some.inj h
        exact ⟨fun x1 q => (by cases q), fun t2 q => (by cases q; exact hK)⟩
      | inl X28 =>
        refine ⟨fun x1 q => ?_, fun t2 q => (by cases q)⟩
        cases q
        refine RT.iconst (pc := 66) (n := (-1)) dX12_keeps_66 ⟨by decide, by decide⟩ ?_
        obtain rfl := Option.some.inj h
        exact RT.iret (pc := 67) dX12_keeps_67 rfl (Nat.le_of_eq (rt_cells_0 z)) (Nat.le_of_eq (rt_slots_0 z)) hK
    · rw [if_neg q21] at h
      refine RT.wk (L1 := [(9, 0), (9, 0), (9, 0)]) (rt_le_j (rt_le_j (rt_le_s rt_le_n))) ?_
      exact cj_X12_keeps_24 hz hd ht m2 _ h hK
theorem cj_X12_mendsFrom_187_81 {G : rt_G} {d : Nat} {z : Nat × Nat} {Q : rt_P} (rec_X12_mendsFrom : Int → Int → Int → rt_M → Option (rt_M)) (hrec_X12_mendsFrom : ∀ (a0 a1 a2 : Int) (mem0 : rt_M) (t : rt_M), rt_kd a0.toNat = 20 + 12 → rec_X12_mendsFrom a0 a1 a2 mem0 = some t → RM G M_X12_mendsFrom (d - 1) [(2, a0), (0, a1), (0, a2)] z mem0 none t) (hz : 300 ≤ z.1) (hd : 7 ≤ d) {a0 : Int} (ht : rt_kd a0.toNat = 20 + 12) (a1 : Int) (a2 : Int) (a3 : Int) (mem0 : rt_M) (t : (Int × rt_M) ⊕ (rt_M)) (h : j_X12_mendsFrom_187_81 rec_X12_mendsFrom a0 a1 a2 a3 mem0 = some t) (hK : (∀ s1 : Int × rt_M, t = .inl s1 → RT G M_X12_mendsFrom d z Q 81 [(2, a0), (0, a1), (0, a2), (0, s1.1), (9, 0)] [] z s1.2) ∧ (∀ x1 : rt_M, t = .inr x1 → RT G M_X12_mendsFrom d z Q 193 [(9, 0), (9, 0), (9, 0), (9, 0), (9, 0)] [] z x1)) : RT G M_X12_mendsFrom d z Q 187 [(2, a0), (0, a1), (0, a2), (0, a3), (9, 0)] [] z mem0 := by
  unfold j_X12_mendsFrom_187_81 at h
  refine RT.iinc (pc := 187) (x := a3) (L1 := [(2, a0), (0, a1), (0, a2), (0, (rt_iadd a3 1)), (9, 0)]) dX12_mendsFrom_187 rfl (Nat.le_of_ble_eq_true rfl) ⟨by decide, by decide⟩ rfl ?_
  refine RT.goto (pc := 190) (tgt := 81) dX12_mendsFrom_190 rfl ?_
  obtain rfl := Option.some.inj h
  have q1 := hK.1 (((rt_iadd a3 1), mem0)) rfl
  try dsimp only at q1
  exact q1
theorem cj_X12_mendsFrom_157_81 {G : rt_G} {d : Nat} {z : Nat × Nat} {Q : rt_P} (rec_X12_mendsFrom : Int → Int → Int → rt_M → Option (rt_M)) (hrec_X12_mendsFrom : ∀ (a0 a1 a2 : Int) (mem0 : rt_M) (t : rt_M), rt_kd a0.toNat = 20 + 12 → rec_X12_mendsFrom a0 a1 a2 mem0 = some t → RM G M_X12_mendsFrom (d - 1) [(2, a0), (0, a1), (0, a2)] z mem0 none t) (hz : 300 ≤ z.1) (hd : 7 ≤ d) {a0 : Int} (ht : rt_kd a0.toNat = 20 + 12) (a1 : Int) (a2 : Int) (a3 : Int) (s0 : Int) (s1 : Int) (s2 : Int) (mem0 : rt_M) (t : (Int × rt_M) ⊕ (rt_M)) (h : j_X12_mendsFrom_157_81 rec_X12_mendsFrom a0 a1 a2 a3 s0 s1 s2 mem0 = some t) (hK : (∀ s1 : Int × rt_M, t = .inl s1 → RT G M_X12_mendsFrom d z Q 81 [(2, a0), (0, a1), (0, a2), (0, s1.1), (9, 0)] [] z s1.2) ∧ (∀ x1 : rt_M, t = .inr x1 → RT G M_X12_mendsFrom d z Q 193 [(9, 0), (9, 0), (9, 0), (9, 0), (9, 0)] [] z x1)) : RT G M_X12_mendsFrom d z Q 157 [(2, a0), (0, a1), (0, a2), (0, a3), (9, 0)] [(0, s2), (0, s1), (2, s0)] z mem0 := by
  unfold j_X12_mendsFrom_157_81 at h
  obtain ⟨m157, hm157, h⟩ := Option.bind_eq_some_iff.mp h
  refine RT.iast (pc := 157) (x := s0) (i := s1) (v := s2) (mem1 := m157) dX12_mendsFrom_157 (rt_lts hz (by decide) (by decide) hm157) hm157 ?_
  refine RT.aload_n (pc := 158) (k := 0) (x := a0) dX12_mendsFrom_158 rfl ?_
  obtain ⟨p159, hp159, h⟩ := Option.bind_eq_some_iff.mp h
  refine RT.cVz (pc := 159) (M' := M_X12_passes) (ci := 12) (x := a0) (As := []) (st := []) (r := some (0, p159.1)) (mem1 := p159.2) (d' := d - 1) hz dX12_mendsFrom_159 mw_X12_passes ml_X12_430 mi_X12_passes ht rfl rfl (Nat.le_of_ble_eq_true rfl) (Nat.le_of_ble_eq_true rfl) (by omega) rfl rfl (c_X12_passes hz (by omega) a0 m157 _ ht hp159) ?_
  refine RT.pop (pc := 162) dX12_mendsFrom_162 (show ¬ ((0 : Nat) = 1) by decide) ?_
  refine RT.aload_n (pc := 163) (k := 0) (x := a0) dX12_mendsFrom_163 rfl ?_
  refine RT.iload_n (pc := 164) (k := 1) (x := a1) dX12_mendsFrom_164 rfl ?_
  refine RT.iconst (pc := 165) (n := 1) dX12_mendsFrom_165 ⟨by decide, by decide⟩ ?_
  refine RT.iadd (pc := 166) dX12_mendsFrom_166 ?_
  refine RT.iload_n (pc := 167) (k := 2) (x := a2) dX12_mendsFrom_167 rfl ?_
  obtain ⟨p168, hp168, h⟩ := Option.bind_eq_some_iff.mp h
  refine RT.cVz (pc := 168) (M' := M_X12_mendsFrom) (ci := 12) (x := a0) (As := [(0, (rt_iadd a1 1)), (0, a2)]) (st := []) (r := none) (mem1 := p168) (d' := d - 1) hz dX12_mendsFrom_168 mw_X12_mendsFrom ml_X12_476 mi_X12_mendsFrom ht rfl rfl (Nat.le_of_ble_eq_true rfl) (Nat.le_of_ble_eq_true rfl) (by omega) rfl rfl (hrec_X12_mendsFrom a0 ((rt_iadd a1 1)) a2 p159.2 _ ht hp168) ?_
  refine RT.aload_n (pc := 171) (k := 0) (x := a0) dX12_mendsFrom_171 rfl ?_
  obtain ⟨v172, hv172, h⟩ := Option.bind_eq_some_iff.mp h
  refine RT.gf 12 61 2 (pc := 172) (x := a0) (v := v172) hz dX12_mendsFrom_172 fl_X12_144 rfl hv172 ?_
  refine RT.bipush (pc := 175) (n := 13) dX12_mendsFrom_175 ⟨by decide, by decide⟩ rfl ?_
  refine RT.iload_n (pc := 177) (k := 1) (x := a1) dX12_mendsFrom_177 rfl ?_
  refine RT.imul (pc := 178) dX12_mendsFrom_178 ?_
  refine RT.aload_n (pc := 179) (k := 0) (x := a0) dX12_mendsFrom_179 rfl ?_
  obtain ⟨v180, hv180, h⟩ := Option.bind_eq_some_iff.mp h
  refine RT.gf 12 50 2 (pc := 180) (x := a0) (v := v180) hz dX12_mendsFrom_180 fl_X12_120 rfl hv180 ?_
  refine RT.iconst (pc := 183) (n := 0) dX12_mendsFrom_183 ⟨by decide, by decide⟩ ?_
  obtain ⟨p184, hp184, h⟩ := Option.bind_eq_some_iff.mp h
  refine RT.cSz (pc := 184) (M' := M_X12_copies) (As := [(2, v172), (0, (rt_imul 13 a1)), (2, v180), (0, 0)]) (st := []) (r := none) (mem1 := p184) (d' := d - 1) dX12_mendsFrom_184 mw_X12_copies ml_X12_420 mi_X12_copies rfl rfl (Nat.le_of_ble_eq_true rfl) (Nat.le_of_ble_eq_true rfl) (by omega) rfl rfl (c_X12_copies hz (by omega) v172 ((rt_imul 13 a1)) v180 0 p168 _ hp184) ?_
  exact cj_X12_mendsFrom_187_81 rec_X12_mendsFrom hrec_X12_mendsFrom hz hd ht a1 a2 a3 p184 _ h hK
theorem cj_X12_mendsFrom_142_81 {G : rt_G} {d : Nat} {z : Nat × Nat} {Q : rt_P} (rec_X12_mendsFrom : Int → Int → Int → rt_M → Option (rt_M)) (hrec_X12_mendsFrom : ∀ (a0 a1 a2 : Int) (mem0 : rt_M) (t : rt_M), rt_kd a0.toNat = 20 + 12 → rec_X12_mendsFrom a0 a1 a2 mem0 = some t → RM G M_X12_mendsFrom (d - 1) [(2, a0), (0, a1), (0, a2)] z mem0 none t) (hz : 300 ≤ z.1) (hd : 7 ≤ d) {a0 : Int} (ht : rt_kd a0.toNat = 20 + 12) (a1 : Int) (a2 : Int) (a3 : Int) (a4 : Int) (mem0 : rt_M) (t : (Int × rt_M) ⊕ (rt_M)) (h : j_X12_mendsFrom_142_81 rec_X12_mendsFrom a0 a1 a2 a3 a4 mem0 = some t) (hK : (∀ s1 : Int × rt_M, t = .inl s1 → RT G M_X12_mendsFrom d z Q 81 [(2, a0), (0, a1), (0, a2), (0, s1.1), (9, 0)] [] z s1.2) ∧ (∀ x1 : rt_M, t = .inr x1 → RT G M_X12_mendsFrom d z Q 193 [(9, 0), (9, 0), (9, 0), (9, 0), (9, 0)] [] z x1)) : RT G M_X12_mendsFrom d z Q 142 [(2, a0), (0, a1), (0, a2), (0, a3), (0, a4)] [] z mem0 := by
  unfold j_X12_mendsFrom_142_81 at h
  refine RT.aload_n (pc := 142) (k := 0) (x := a0) dX12_mendsFrom_142 rfl ?_
  obtain ⟨v143, hv143, h⟩ := Option.bind_eq_some_iff.mp h
  refine RT.gf 12 62 2 (pc := 143) (x := a0) (v := v143) hz dX12_mendsFrom_143 fl_X12_147 rfl hv143 ?_
  refine RT.iload_n (pc := 146) (k := 1) (x := a1) dX12_mendsFrom_146 rfl ?_
  refine RT.iload (pc := 147) (k := 4) (x := a4) dX12_mendsFrom_147 rfl ?_
  refine RT.if_eq (pc := 149) (tgt := 156) dX12_mendsFrom_149 rfl (fun q149 => ?_) (fun q149 => ?_)
  · rw [if_pos q149] at h
    refine RT.iload_n (pc := 156) (k := 3) (x := a3) dX12_mendsFrom_156 rfl ?_
    refine RT.wk (L1 := [(2, a0), (0, a1), (0, a2), (0, a3), (9, 0)]) (rt_le_s (rt_le_s (rt_le_s (rt_le_s (rt_le_j rt_le_n))))) ?_
    exact cj_X12_mendsFrom_157_81 rec_X12_mendsFrom hrec_X12_mendsFrom hz hd ht a1 a2 a3 v143 a1 a3 mem0 _ h hK
  · rw [if_neg q149] at h
    refine RT.iconst (pc := 152) (n := (-1)) dX12_mendsFrom_152 ⟨by decide, by decide⟩ ?_
    refine RT.goto (pc := 153) (tgt := 157) dX12_mendsFrom_153 rfl ?_
    refine RT.wk (L1 := [(2, a0), (0, a1), (0, a2), (0, a3), (9, 0)]) (rt_le_s (rt_le_s (rt_le_s (rt_le_s (rt_le_j rt_le_n))))) ?_
    exact cj_X12_mendsFrom_157_81 rec_X12_mendsFrom hrec_X12_mendsFrom hz hd ht a1 a2 a3 v143 a1 ((-1)) mem0 _ h hK
theorem cj_X12_mendsFrom_127_81 {G : rt_G} {d : Nat} {z : Nat × Nat} {Q : rt_P} (rec_X12_mendsFrom : Int → Int → Int → rt_M → Option (rt_M)) (hrec_X12_mendsFrom : ∀ (a0 a1 a2 : Int) (mem0 : rt_M) (t : rt_M), rt_kd a0.toNat = 20 + 12 → rec_X12_mendsFrom a0 a1 a2 mem0 = some t → RM G M_X12_mendsFrom (d - 1) [(2, a0), (0, a1), (0, a2)] z mem0 none t) (hz : 300 ≤ z.1) (hd : 7 ≤ d) {a0 : Int} (ht : rt_kd a0.toNat = 20 + 12) (a1 : Int) (a2 : Int) (a3 : Int) (a4 : Int) (mem0 : rt_M) (t : (Int × rt_M) ⊕ (rt_M)) (h : j_X12_mendsFrom_127_81 rec_X12_mendsFrom a0 a1 a2 a3 a4 mem0 = some t) (hK : (∀ s1 : Int × rt_M, t = .inl s1 → RT G M_X12_mendsFrom d z Q 81 [(2, a0), (0, a1), (0, a2), (0, s1.1), (9, 0)] [] z s1.2) ∧ (∀ x1 : rt_M, t = .inr x1 → RT G M_X12_mendsFrom d z Q 193 [(9, 0), (9, 0), (9, 0), (9, 0), (9, 0)] [] z x1)) : RT G M_X12_mendsFrom d z Q 127 [(2, a0), (0, a1), (0, a2), (0, a3), (0, a4)] [] z mem0 := by
  unfold j_X12_mendsFrom_127_81 at h
  refine RT.iload (pc := 127) (k := 4) (x := a4) dX12_mendsFrom_127 rfl ?_
  refine RT.if_ne (pc := 129) (tgt := 142) dX12_mendsFrom_129 rfl (fun q129 => ?_) (fun q129 => ?_)
  · rw [if_neg q129] at h
    exact cj_X12_mendsFrom_142_81 rec_X12_mendsFrom hrec_X12_mendsFrom hz hd ht a1 a2 a3 a4 mem0 _ h hK
  · rw [if_pos (Classical.not_not.mp q129)] at h
    refine RT.aload_n (pc := 132) (k := 0) (x := a0) dX12_mendsFrom_132 rfl ?_
    obtain ⟨v133, hv133, h⟩ := Option.bind_eq_some_iff.mp h
    refine RT.gf 12 50 2 (pc := 133) (x := a0) (v := v133) hz dX12_mendsFrom_133 fl_X12_120 rfl hv133 ?_
    refine RT.bipush (pc := 136) (n := 7) dX12_mendsFrom_136 ⟨by decide, by decide⟩ rfl ?_
    refine RT.iload_n (pc := 138) (k := 3) (x := a3) dX12_mendsFrom_138 rfl ?_
    refine RT.iadd (pc := 139) dX12_mendsFrom_139 ?_
    refine RT.iconst (pc := 140) (n := 0) dX12_mendsFrom_140 ⟨by decide, by decide⟩ ?_
    obtain ⟨m141, hm141, h⟩ := Option.bind_eq_some_iff.mp h
    refine RT.iast (pc := 141) (x := v133) (i := (rt_iadd 7 a3)) (v := 0) (mem1 := m141) dX12_mendsFrom_141 (rt_lts hz (by decide) (by decide) hm141) hm141 ?_
    exact cj_X12_mendsFrom_142_81 rec_X12_mendsFrom hrec_X12_mendsFrom hz hd ht a1 a2 a3 a4 m141 _ h hK
theorem cj_X12_mendsFrom_106_81 {G : rt_G} {d : Nat} {z : Nat × Nat} {Q : rt_P} (rec_X12_mendsFrom : Int → Int → Int → rt_M → Option (rt_M)) (hrec_X12_mendsFrom : ∀ (a0 a1 a2 : Int) (mem0 : rt_M) (t : rt_M), rt_kd a0.toNat = 20 + 12 → rec_X12_mendsFrom a0 a1 a2 mem0 = some t → RM G M_X12_mendsFrom (d - 1) [(2, a0), (0, a1), (0, a2)] z mem0 none t) (hz : 300 ≤ z.1) (hd : 7 ≤ d) {a0 : Int} (ht : rt_kd a0.toNat = 20 + 12) (a1 : Int) (a2 : Int) (a3 : Int) (s0 : Int) (mem0 : rt_M) (t : (Int × rt_M) ⊕ (rt_M)) (h : j_X12_mendsFrom_106_81 rec_X12_mendsFrom a0 a1 a2 a3 s0 mem0 = some t) (hK : (∀ s1 : Int × rt_M, t = .inl s1 → RT G M_X12_mendsFrom d z Q 81 [(2, a0), (0, a1), (0, a2), (0, s1.1), (9, 0)] [] z s1.2) ∧ (∀ x1 : rt_M, t = .inr x1 → RT G M_X12_mendsFrom d z Q 193 [(9, 0), (9, 0), (9, 0), (9, 0), (9, 0)] [] z x1)) : RT G M_X12_mendsFrom d z Q 106 [(2, a0), (0, a1), (0, a2), (0, a3), (9, 0)] [(0, s0)] z mem0 := by
  unfold j_X12_mendsFrom_106_81 at h
  refine RT.istore (pc := 106) (k := 4) (x := s0) (L1 := [(2, a0), (0, a1), (0, a2), (0, a3), (0, s0)]) dX12_mendsFrom_106 (Nat.le_of_ble_eq_true rfl) rfl ?_
  refine RT.iload (pc := 108) (k := 4) (x := s0) dX12_mendsFrom_108 rfl ?_
  refine RT.if_ne (pc := 110) (tgt := 127) dX12_mendsFrom_110 rfl (fun q110 => ?_) (fun q110 => ?_)
  · rw [if_neg q110] at h
    exact cj_X12_mendsFrom_127_81 rec_X12_mendsFrom hrec_X12_mendsFrom hz hd ht a1 a2 a3 s0 mem0 _ h hK
  · rw [if_pos (Classical.not_not.mp q110)] at h
    refine RT.aload_n (pc := 113) (k := 0) (x := a0) dX12_mendsFrom_113 rfl ?_
    obtain ⟨v114, hv114, h⟩ := Option.bind_eq_some_iff.mp h
    refine RT.gf 12 50 2 (pc := 114) (x := a0) (v := v114) hz dX12_mendsFrom_114 fl_X12_120 rfl hv114 ?_
    refine RT.iconst (pc := 117) (n := 1) dX12_mendsFrom_117 ⟨by decide, by decide⟩ ?_
    refine RT.iload_n (pc := 118) (k := 3) (x := a3) dX12_mendsFrom_118 rfl ?_
    refine RT.iadd (pc := 119) dX12_mendsFrom_119 ?_
    obtain ⟨v120, hv120, h⟩ := Option.bind_eq_some_iff.mp h
    refine RT.iald (pc := 120) (x := v114) (i := (rt_iadd 1 a3)) (v := v120) dX12_mendsFrom_120 (rt_lta hz (by decide) (by decide) hv120) hv120 ?_
    refine RT.if_lt (pc := 121) (tgt := 127) dX12_mendsFrom_121 rfl (fun q121 => ?_) (fun q121 => ?_)
    · rw [if_pos q121] at h
      exact cj_X12_mendsFrom_127_81 rec_X12_mendsFrom hrec_X12_mendsFrom hz hd ht a1 a2 a3 s0 mem0 _ h hK
    · rw [if_neg q121] at h
      refine RT.goto (pc := 124) (tgt := 187) dX12_mendsFrom_124 rfl ?_
      refine RT.wk (L1 := [(2, a0), (0, a1), (0, a2), (0, a3), (9, 0)]) (rt_le_s (rt_le_s (rt_le_s (rt_le_s (rt_le_j rt_le_n))))) ?_
      exact cj_X12_mendsFrom_187_81 rec_X12_mendsFrom hrec_X12_mendsFrom hz hd ht a1 a2 a3 mem0 _ h hK
theorem cb_X12_mendsFrom_81 {G : rt_G} {d : Nat} {z : Nat × Nat} {Q : rt_P} (rec_X12_mendsFrom : Int → Int → Int → rt_M → Option (rt_M)) (hrec_X12_mendsFrom : ∀ (a0 a1 a2 : Int) (mem0 : rt_M) (t : rt_M), rt_kd a0.toNat = 20 + 12 → rec_X12_mendsFrom a0 a1 a2 mem0 = some t → RM G M_X12_mendsFrom (d - 1) [(2, a0), (0, a1), (0, a2)] z mem0 none t) (hz : 300 ≤ z.1) (hd : 7 ≤ d) {a0 : Int} (ht : rt_kd a0.toNat = 20 + 12) (a1 : Int) (a2 : Int) (s : Int × rt_M) (t : (Int × rt_M) ⊕ (rt_M)) (h : b_X12_mendsFrom_81 rec_X12_mendsFrom a0 a1 a2 s = some t) (hK : (∀ s1 : Int × rt_M, t = .inl s1 → RT G M_X12_mendsFrom d z Q 81 [(2, a0), (0, a1), (0, a2), (0, s1.1), (9, 0)] [] z s1.2) ∧ (∀ x1 : rt_M, t = .inr x1 → RT G M_X12_mendsFrom d z Q 193 [(9, 0), (9, 0), (9, 0), (9, 0), (9, 0)] [] z x1)) : RT G M_X12_mendsFrom d z Q 81 [(2, a0), (0, a1), (0, a2), (0, s.1), (9, 0)] [] z s.2 := by
  unfold b_X12_mendsFrom_81 at h
  refine RT.iload_n (pc := 81) (k := 3) (x := s.1) dX12_mendsFrom_81 rfl ?_
  refine RT.aload_n (pc := 82) (k := 0) (x := a0) dX12_mendsFrom_82 rfl ?_
  obtain ⟨v83, hv83, h⟩ := Option.bind_eq_some_iff.mp h
  refine RT.gf 12 10 2 (pc := 83) (x := a0) (v := v83) hz dX12_mendsFrom_83 fl_X12_13 rfl hv83 ?_
  refine RT.iconst (pc := 86) (n := 0) dX12_mendsFrom_86 ⟨by decide, by decide⟩ ?_
  obtain ⟨v87, hv87, h⟩ := Option.bind_eq_some_iff.mp h
  refine RT.iald (pc := 87) (x := v83) (i := 0) (v := v87) dX12_mendsFrom_87 (rt_lta hz (by decide) (by decide) hv87) hv87 ?_
  refine RT.icmp_gt (pc := 88) (tgt := 193) dX12_mendsFrom_88 rfl (fun q88 => ?_) (fun q88 => ?_)
  · rw [if_pos q88] at h
    refine RT.wk (L1 := [(9, 0), (9, 0), (9, 0), (9, 0), (9, 0)]) (rt_le_j (rt_le_j (rt_le_j (rt_le_j (rt_le_s rt_le_n))))) ?_
    obtain rfl := Option.some.inj h
    have q1 := hK.2 s.2 rfl
    try dsimp only at q1
    exact q1
  · rw [if_neg q88] at h
    refine RT.iload_n (pc := 91) (k := 3) (x := s.1) dX12_mendsFrom_91 rfl ?_
    refine RT.aload_n (pc := 92) (k := 0) (x := a0) dX12_mendsFrom_92 rfl ?_
    obtain ⟨v93, hv93, h⟩ := Option.bind_eq_some_iff.mp h
    refine RT.gf 12 10 2 (pc := 93) (x := a0) (v := v93) hz dX12_mendsFrom_93 fl_X12_13 rfl hv93 ?_
    refine RT.iconst (pc := 96) (n := 0) dX12_mendsFrom_96 ⟨by decide, by decide⟩ ?_
    obtain ⟨v97, hv97, h⟩ := Option.bind_eq_some_iff.mp h
    refine RT.iald (pc := 97) (x := v93) (i := 0) (v := v97) dX12_mendsFrom_97 (rt_lta hz (by decide) (by decide) hv97) hv97 ?_
    refine RT.icmp_ne (pc := 98) (tgt := 105) dX12_mendsFrom_98 rfl (fun q98 => ?_) (fun q98 => ?_)
    · rw [if_neg q98] at h
      refine RT.iconst (pc := 105) (n := 0) dX12_mendsFrom_105 ⟨by decide, by decide⟩ ?_
      exact cj_X12_mendsFrom_106_81 rec_X12_mendsFrom hrec_X12_mendsFrom hz hd ht a1 a2 s.1 0 s.2 _ h hK
    · rw [if_pos (Classical.not_not.mp q98)] at h
      refine RT.iconst (pc := 101) (n := 1) dX12_mendsFrom_101 ⟨by decide, by decide⟩ ?_
      refine RT.goto (pc := 102) (tgt := 106) dX12_mendsFrom_102 rfl ?_
      exact cj_X12_mendsFrom_106_81 rec_X12_mendsFrom hrec_X12_mendsFrom hz hd ht a1 a2 s.1 1 s.2 _ h hK
theorem cb_X12_mendsFrom_36 {G : rt_G} {d : Nat} {z : Nat × Nat} {Q : rt_P} (rec_X12_mendsFrom : Int → Int → Int → rt_M → Option (rt_M)) (hrec_X12_mendsFrom : ∀ (a0 a1 a2 : Int) (mem0 : rt_M) (t : rt_M), rt_kd a0.toNat = 20 + 12 → rec_X12_mendsFrom a0 a1 a2 mem0 = some t → RM G M_X12_mendsFrom (d - 1) [(2, a0), (0, a1), (0, a2)] z mem0 none t) (hz : 300 ≤ z.1) (hd : 7 ≤ d) {a0 : Int} (ht : rt_kd a0.toNat = 20 + 12) (s : Int × rt_M) (t : (Int × rt_M) ⊕ (rt_M)) (h : b_X12_mendsFrom_36 rec_X12_mendsFrom a0 s = some t) (hK : (∀ s1 : Int × rt_M, t = .inl s1 → RT G M_X12_mendsFrom d z Q 36 [(2, a0), (9, 0), (9, 0), (9, 0), (0, s1.1)] [] z s1.2) ∧ (∀ x1 : rt_M, t = .inr x1 → RT G M_X12_mendsFrom d z Q 62 [(9, 0), (9, 0), (9, 0), (9, 0), (9, 0)] [] z x1)) : RT G M_X12_mendsFrom d z Q 36 [(2, a0), (9, 0), (9, 0), (9, 0), (0, s.1)] [] z s.2 := by
  unfold b_X12_mendsFrom_36 at h
  refine RT.iload (pc := 36) (k := 4) (x := s.1) dX12_mendsFrom_36 rfl ?_
  refine RT.iconst (pc := 38) (n := 4) dX12_mendsFrom_38 ⟨by decide, by decide⟩ ?_
  refine RT.icmp_ge (pc := 39) (tgt := 62) dX12_mendsFrom_39 rfl (fun q39 => ?_) (fun q39 => ?_)
  · rw [if_pos q39] at h
    refine RT.wk (L1 := [(9, 0), (9, 0), (9, 0), (9, 0), (9, 0)]) (rt_le_j (rt_le_s (rt_le_s (rt_le_s (rt_le_j rt_le_n))))) ?_
    obtain rfl := Option.some.inj h
    have q1 := hK.2 s.2 rfl
    try dsimp only at q1
    exact q1
  · rw [if_neg q39] at h
    refine RT.aload_n (pc := 42) (k := 0) (x := a0) dX12_mendsFrom_42 rfl ?_
    obtain ⟨v43, hv43, h⟩ := Option.bind_eq_some_iff.mp h
    refine RT.gf 12 63 2 (pc := 43) (x := a0) (v := v43) hz dX12_mendsFrom_43 fl_X12_150 rfl hv43 ?_
    refine RT.iload (pc := 46) (k := 4) (x := s.1) dX12_mendsFrom_46 rfl ?_
    refine RT.aload_n (pc := 48) (k := 0) (x := a0) dX12_mendsFrom_48 rfl ?_
    obtain ⟨v49, hv49, h⟩ := Option.bind_eq_some_iff.mp h
    refine RT.gf 12 62 2 (pc := 49) (x := a0) (v := v49) hz dX12_mendsFrom_49 fl_X12_147 rfl hv49 ?_
    refine RT.iload (pc := 52) (k := 4) (x := s.1) dX12_mendsFrom_52 rfl ?_
    obtain ⟨v54, hv54, h⟩ := Option.bind_eq_some_iff.mp h
    refine RT.iald (pc := 54) (x := v49) (i := s.1) (v := v54) dX12_mendsFrom_54 (rt_lta hz (by decide) (by decide) hv54) hv54 ?_
    obtain ⟨m55, hm55, h⟩ := Option.bind_eq_some_iff.mp h
    refine RT.iast (pc := 55) (x := v43) (i := s.1) (v := v54) (mem1 := m55) dX12_mendsFrom_55 (rt_lts hz (by decide) (by decide) hm55) hm55 ?_
    refine RT.iinc (pc := 56) (x := s.1) (L1 := [(2, a0), (9, 0), (9, 0), (9, 0), (0, (rt_iadd s.1 1))]) dX12_mendsFrom_56 rfl (Nat.le_of_ble_eq_true rfl) ⟨by decide, by decide⟩ rfl ?_
    refine RT.goto (pc := 59) (tgt := 36) dX12_mendsFrom_59 rfl ?_
    obtain rfl := Option.some.inj h
    have q1 := hK.1 (((rt_iadd s.1 1), m55)) rfl
    try dsimp only at q1
    exact q1
theorem c_X12_mendsFrom {G : rt_G} {d : Nat} {z : Nat × Nat} (rec_X12_mendsFrom : Int → Int → Int → rt_M → Option (rt_M)) (hrec_X12_mendsFrom : ∀ (a0 a1 a2 : Int) (mem0 : rt_M) (t : rt_M), rt_kd a0.toNat = 20 + 12 → rec_X12_mendsFrom a0 a1 a2 mem0 = some t → RM G M_X12_mendsFrom (d - 1) [(2, a0), (0, a1), (0, a2)] z mem0 none t) (hz : 300 ≤ z.1) (hd : 7 ≤ d) (a0 : Int) (a1 : Int) (a2 : Int) (mem0 : rt_M) (t : rt_M) (ht : rt_kd a0.toNat = 20 + 12) (h : f_X12_mendsFrom rec_X12_mendsFrom a0 a1 a2 mem0 = some t) : RM G M_X12_mendsFrom d [(2, a0), (0, a1), (0, a2)] z mem0 none t := by
  suffices H : ∀ Q : rt_P, Q none z t → RT G M_X12_mendsFrom d z Q 0 [(2, a0), (0, a1), (0, a2), (9, 0), (9, 0)] [] z mem0 from H _ ⟨rfl, rfl, rfl⟩
  intro Q hK
  unfold f_X12_mendsFrom at h
  refine RT.iload_n (pc := 0) (k := 1) (x := a1) dX12_mendsFrom_0 rfl ?_
  refine RT.iload_n (pc := 1) (k := 2) (x := a2) dX12_mendsFrom_1 rfl ?_
  refine RT.icmp_ne (pc := 2) (tgt := 63) dX12_mendsFrom_2 rfl (fun q2 => ?_) (fun q2 => ?_)
  · rw [if_neg q2] at h
    refine RT.aload_n (pc := 63) (k := 0) (x := a0) dX12_mendsFrom_63 rfl ?_
    obtain ⟨v64, hv64, h⟩ := Option.bind_eq_some_iff.mp h
    refine RT.gf 12 50 2 (pc := 64) (x := a0) (v := v64) hz dX12_mendsFrom_64 fl_X12_120 rfl hv64 ?_
    refine RT.iconst (pc := 67) (n := 0) dX12_mendsFrom_67 ⟨by decide, by decide⟩ ?_
    refine RT.aload_n (pc := 68) (k := 0) (x := a0) dX12_mendsFrom_68 rfl ?_
    obtain ⟨v69, hv69, h⟩ := Option.bind_eq_some_iff.mp h
    refine RT.gf 12 61 2 (pc := 69) (x := a0) (v := v69) hz dX12_mendsFrom_69 fl_X12_144 rfl hv69 ?_
    refine RT.bipush (pc := 72) (n := 13) dX12_mendsFrom_72 ⟨by decide, by decide⟩ rfl ?_
    refine RT.iload_n (pc := 74) (k := 1) (x := a1) dX12_mendsFrom_74 rfl ?_
    refine RT.imul (pc := 75) dX12_mendsFrom_75 ?_
    obtain ⟨p76, hp76, h⟩ := Option.bind_eq_some_iff.mp h
    refine RT.cSz (pc := 76) (M' := M_X12_copies) (As := [(2, v64), (0, 0), (2, v69), (0, (rt_imul 13 a1))]) (st := []) (r := none) (mem1 := p76) (d' := d - 1) dX12_mendsFrom_76 mw_X12_copies ml_X12_420 mi_X12_copies rfl rfl (Nat.le_of_ble_eq_true rfl) (Nat.le_of_ble_eq_true rfl) (by omega) rfl rfl (c_X12_copies hz (by omega) v64 0 v69 ((rt_imul 13 a1)) mem0 _ hp76) ?_
    refine RT.iconst (pc := 79) (n := 0) dX12_mendsFrom_79 ⟨by decide, by decide⟩ ?_
    refine RT.istore_n (pc := 80) (k := 3) (x := 0) (L1 := [(2, a0), (0, a1), (0, a2), (0, 0), (9, 0)]) dX12_mendsFrom_80 (Nat.le_of_ble_eq_true rfl) rfl ?_
    obtain ⟨X81, hX81, h⟩ := Option.bind_eq_some_iff.mp h
    refine rt_it_ind (P := (fun s1 : Int × rt_M => RT G M_X12_mendsFrom d z Q 81 [(2, a0), (0, a1), (0, a2), (0, s1.1), (9, 0)] [] z s1.2)) (X := (fun x1 : rt_M => RT G M_X12_mendsFrom d z Q 193 [(9, 0), (9, 0), (9, 0), (9, 0), (9, 0)] [] z x1)) (fun s1 t1 h1 k1 k2 => cb_X12_mendsFrom_81 rec_X12_mendsFrom hrec_X12_mendsFrom hz hd ht a1 a2 s1 t1 h1 ⟨k1, k2⟩) 4000 ((0, p76)) X81 hX81 ?_
    obtain rfl := Option.some.inj h
    exact RT.vret (pc := 193) dX12_mendsFrom_193 rfl (Nat.le_of_eq (rt_cells_0 z)) (Nat.le_of_eq (rt_slots_0 z)) hK
  · rw [if_pos (Classical.not_not.mp q2)] at h
    refine RT.aload_n (pc := 5) (k := 0) (x := a0) dX12_mendsFrom_5 rfl ?_
    refine RT.bipush (pc := 6) (n := 63) dX12_mendsFrom_6 ⟨by decide, by decide⟩ rfl ?_
    refine RT.aload_n (pc := 8) (k := 0) (x := a0) dX12_mendsFrom_8 rfl ?_
    obtain ⟨p9, hp9, h⟩ := Option.bind_eq_some_iff.mp h
    refine RT.cVz (pc := 9) (M' := M_X12_wornOut) (ci := 12) (x := a0) (As := []) (st := [(0, 63), (2, a0)]) (r := some (0, p9)) (mem1 := mem0) (d' := d - 1) hz dX12_mendsFrom_9 mw_X12_wornOut ml_X12_470 mi_X12_wornOut ht rfl rfl (Nat.le_of_ble_eq_true rfl) (Nat.le_of_ble_eq_true rfl) (by omega) rfl rfl (c_X12_wornOut hz (by omega) a0 mem0 _ ht hp9) ?_
    refine RT.iconst (pc := 12) (n := (-1)) dX12_mendsFrom_12 ⟨by decide, by decide⟩ ?_
    refine RT.ixor (pc := 13) dX12_mendsFrom_13 ?_
    refine RT.iand (pc := 14) dX12_mendsFrom_14 ?_
    obtain ⟨p15, hp15, h⟩ := Option.bind_eq_some_iff.mp h
    refine RT.cVz (pc := 15) (M' := M_X12_officeOf) (ci := 12) (x := a0) (As := [(0, (rt_iand 63 (rt_ixor p9 (-1))))]) (st := []) (r := some (0, p15)) (mem1 := mem0) (d' := d - 1) hz dX12_mendsFrom_15 mw_X12_officeOf ml_X12_439 mi_X12_officeOf ht rfl rfl (Nat.le_of_ble_eq_true rfl) (Nat.le_of_ble_eq_true rfl) (by omega) rfl rfl (c_X12_officeOf hz (by omega) a0 ((rt_iand 63 (rt_ixor p9 (-1)))) mem0 _ ht hp15) ?_
    refine RT.istore_n (pc := 18) (k := 3) (x := p15) (L1 := [(2, a0), (0, a1), (0, a2), (0, p15), (9, 0)]) dX12_mendsFrom_18 (Nat.le_of_ble_eq_true rfl) rfl ?_
    refine RT.iload_n (pc := 19) (k := 3) (x := p15) dX12_mendsFrom_19 rfl ?_
    refine RT.aload_n (pc := 20) (k := 0) (x := a0) dX12_mendsFrom_20 rfl ?_
    obtain ⟨v21, hv21, h⟩ := Option.bind_eq_some_iff.mp h
    refine RT.gf 12 64 0 (pc := 21) (x := a0) (v := v21) hz dX12_mendsFrom_21 fl_X12_473 rfl hv21 ?_
    refine RT.icmp_gt (pc := 24) (tgt := 28) dX12_mendsFrom_24 rfl (fun q24 => ?_) (fun q24 => ?_)
    · rw [if_pos q24] at h
      refine RT.aload_n (pc := 28) (k := 0) (x := a0) dX12_mendsFrom_28 rfl ?_
      refine RT.iload_n (pc := 29) (k := 3) (x := p15) dX12_mendsFrom_29 rfl ?_
      obtain ⟨m30, hm30, h⟩ := Option.bind_eq_some_iff.mp h
      refine RT.pf_i 12 64 (pc := 30) (mem1 := m30) hz dX12_mendsFrom_30 fl_X12_473 rfl rfl rfl hm30 ?_
      refine RT.iconst (pc := 33) (n := 0) dX12_mendsFrom_33 ⟨by decide, by decide⟩ ?_
      refine RT.istore (pc := 34) (k := 4) (x := 0) (L1 := [(2, a0), (0, a1), (0, a2), (0, p15), (0, 0)]) dX12_mendsFrom_34 (Nat.le_of_ble_eq_true rfl) rfl ?_
      refine RT.wk (L1 := [(2, a0), (9, 0), (9, 0), (9, 0), (0, 0)]) (rt_le_s (rt_le_j (rt_le_j (rt_le_j (rt_le_s rt_le_n))))) ?_
      obtain ⟨X36, hX36, h⟩ := Option.bind_eq_some_iff.mp h
      refine rt_it_ind (P := (fun s1 : Int × rt_M => RT G M_X12_mendsFrom d z Q 36 [(2, a0), (9, 0), (9, 0), (9, 0), (0, s1.1)] [] z s1.2)) (X := (fun x1 : rt_M => RT G M_X12_mendsFrom d z Q 62 [(9, 0), (9, 0), (9, 0), (9, 0), (9, 0)] [] z x1)) (fun s1 t1 h1 k1 k2 => cb_X12_mendsFrom_36 rec_X12_mendsFrom hrec_X12_mendsFrom hz hd ht s1 t1 h1 ⟨k1, k2⟩) 4000 ((0, m30)) X36 hX36 ?_
      obtain rfl := Option.some.inj h
      exact RT.vret (pc := 62) dX12_mendsFrom_62 rfl (Nat.le_of_eq (rt_cells_0 z)) (Nat.le_of_eq (rt_slots_0 z)) hK
    · rw [if_neg q24] at h
      obtain rfl := Option.some.inj h
      exact RT.vret (pc := 27) dX12_mendsFrom_27 rfl (Nat.le_of_eq (rt_cells_0 z)) (Nat.le_of_eq (rt_slots_0 z)) hK
theorem C_X12_mendsFrom {G : rt_G} {z : Nat × Nat} : ∀ (n d : Nat) (hz : 300 ≤ z.1) (hd : 7 + n ≤ d) (a0 a1 a2 : Int) (mem0 : rt_M) (t : rt_M) (ht : rt_kd a0.toNat = 20 + 12) (h : F_X12_mendsFrom n a0 a1 a2 mem0 = some t), RM G M_X12_mendsFrom d [(2, a0), (0, a1), (0, a2)] z mem0 none t := by
  intro n
  induction n with
  | zero => intro d hz hd a0 a1 a2 mem0 t ht h; cases h
  | succ n ih => intro d hz hd a0 a1 a2 mem0 t ht h; exact c_X12_mendsFrom (F_X12_mendsFrom n) (fun a0 a1 a2 mem0 t ht h => ih (d - 1) hz (by omega) a0 a1 a2 mem0 t ht h) hz (by omega) a0 a1 a2 mem0 t ht h
theorem cj_X12_moths_23 {G : rt_G} {d : Nat} {z : Nat × Nat} {Q : rt_P} (hz : 300 ≤ z.1) (hd : 20 ≤ d) {a0 : Int} (ht : rt_kd a0.toNat = 20 + 12) (mem0 : rt_M) (t : Int × rt_M) (h : j_X12_moths_23 mem0 = some t) (hK : Q (some (0, t.1)) z t.2) : RT G M_X12_moths d z Q 23 [(9, 0), (9, 0), (9, 0)] [] z mem0 := by
  unfold j_X12_moths_23 at h
  refine RT.bipush (pc := 23) (n := (-2)) dX12_moths_23 ⟨by decide, by decide⟩ rfl ?_
  obtain rfl := Option.some.inj h
  exact RT.iret (pc := 25) dX12_moths_25 rfl (Nat.le_of_eq (rt_cells_0 z)) (Nat.le_of_eq (rt_slots_0 z)) hK
theorem cj_X12_moths_56 {G : rt_G} {d : Nat} {z : Nat × Nat} {Q : rt_P} (hz : 300 ≤ z.1) (hd : 20 ≤ d) {a0 : Int} (ht : rt_kd a0.toNat = 20 + 12) (s0 : Int) (mem0 : rt_M) (t : Int × rt_M) (h : j_X12_moths_56 s0 mem0 = some t) (hK : Q (some (0, t.1)) z t.2) : RT G M_X12_moths d z Q 56 [(9, 0), (9, 0), (9, 0)] [(0, s0)] z mem0 := by
  unfold j_X12_moths_56 at h
  obtain rfl := Option.some.inj h
  exact RT.iret (pc := 56) dX12_moths_56 rfl (Nat.le_of_eq (rt_cells_0 z)) (Nat.le_of_eq (rt_slots_0 z)) hK
theorem c_X12_moths {G : rt_G} {d : Nat} {z : Nat × Nat} (hz : 300 ≤ z.1) (hd : 20 ≤ d) (a0 : Int) (a1 : Int) (a2 : Int) (mem0 : rt_M) (t : Int × rt_M) (ht : rt_kd a0.toNat = 20 + 12) (h : f_X12_moths a0 a1 a2 mem0 = some t) : RM G M_X12_moths d [(2, a0), (0, a1), (0, a2)] z mem0 (some (0, t.1)) t.2 := by
  suffices H : ∀ Q : rt_P, Q (some (0, t.1)) z t.2 → RT G M_X12_moths d z Q 0 [(2, a0), (0, a1), (0, a2)] [] z mem0 from H _ ⟨rfl, rfl, rfl⟩
  intro Q hK
  unfold f_X12_moths at h
  refine RT.aload_n (pc := 0) (k := 0) (x := a0) dX12_moths_0 rfl ?_
  refine RT.iconst (pc := 1) (n := 0) dX12_moths_1 ⟨by decide, by decide⟩ ?_
  obtain ⟨m2, hm2, h⟩ := Option.bind_eq_some_iff.mp h
  refine RT.pf_i 12 0 (pc := 2) (mem1 := m2) hz dX12_moths_2 fl_X12_171 rfl rfl rfl hm2 ?_
  refine RT.iload_n (pc := 5) (k := 1) (x := a1) dX12_moths_5 rfl ?_
  refine RT.iconst (pc := 6) (n := 1) dX12_moths_6 ⟨by decide, by decide⟩ ?_
  refine RT.iconst (pc := 7) (n := 4) dX12_moths_7 ⟨by decide, by decide⟩ ?_
  obtain ⟨p8, hp8, h⟩ := Option.bind_eq_some_iff.mp h
  refine RT.cSz (pc := 8) (M' := M_X12_within) (As := [(0, a1), (0, 1), (0, 4)]) (st := []) (r := some (0, p8)) (mem1 := m2) (d' := d - 1) dX12_moths_8 mw_X12_within ml_X12_301 mi_X12_within rfl rfl (Nat.le_of_ble_eq_true rfl) (Nat.le_of_ble_eq_true rfl) (by omega) rfl rfl (c_X12_within hz (by omega) a1 1 4 m2 _ hp8) ?_
  refine RT.if_eq (pc := 11) (tgt := 23) dX12_moths_11 rfl (fun q11 => ?_) (fun q11 => ?_)
  · rw [if_pos q11] at h
    refine RT.wk (L1 := [(9, 0), (9, 0), (9, 0)]) (rt_le_j (rt_le_j (rt_le_j rt_le_n))) ?_
    exact cj_X12_moths_23 hz hd ht m2 _ h hK
  · rw [if_neg q11] at h
    refine RT.iload_n (pc := 14) (k := 2) (x := a2) dX12_moths_14 rfl ?_
    refine RT.iconst (pc := 15) (n := 0) dX12_moths_15 ⟨by decide, by decide⟩ ?_
    refine RT.iload_n (pc := 16) (k := 1) (x := a1) dX12_moths_16 rfl ?_
    obtain ⟨p17, hp17, h⟩ := Option.bind_eq_some_iff.mp h
    refine RT.cSz (pc := 17) (M' := M_X12_within) (As := [(0, a2), (0, 0), (0, a1)]) (st := []) (r := some (0, p17)) (mem1 := m2) (d' := d - 1) dX12_moths_17 mw_X12_within ml_X12_301 mi_X12_within rfl rfl (Nat.le_of_ble_eq_true rfl) (Nat.le_of_ble_eq_true rfl) (by omega) rfl rfl (c_X12_within hz (by omega) a2 0 a1 m2 _ hp17) ?_
    refine RT.if_ne (pc := 20) (tgt := 26) dX12_moths_20 rfl (fun q20 => ?_) (fun q20 => ?_)
    · rw [if_neg q20] at h
      refine RT.aload_n (pc := 26) (k := 0) (x := a0) dX12_moths_26 rfl ?_
      refine RT.iconst (pc := 27) (n := (-1)) dX12_moths_27 ⟨by decide, by decide⟩ ?_
      obtain ⟨m28, hm28, h⟩ := Option.bind_eq_some_iff.mp h
      refine RT.pf_i 12 64 (pc := 28) (mem1 := m28) hz dX12_moths_28 fl_X12_473 rfl rfl rfl hm28 ?_
      refine RT.aload_n (pc := 31) (k := 0) (x := a0) dX12_moths_31 rfl ?_
      refine RT.iconst (pc := 32) (n := 0) dX12_moths_32 ⟨by decide, by decide⟩ ?_
      refine RT.iload_n (pc := 33) (k := 1) (x := a1) dX12_moths_33 rfl ?_
      obtain ⟨p34, hp34, h⟩ := Option.bind_eq_some_iff.mp h
      refine RT.cVz (pc := 34) (M' := M_X12_mendsFrom) (ci := 12) (x := a0) (As := [(0, 0), (0, a1)]) (st := []) (r := none) (mem1 := p34) (d' := d - 1) hz dX12_moths_34 mw_X12_mendsFrom ml_X12_476 mi_X12_mendsFrom ht rfl rfl (Nat.le_of_ble_eq_true rfl) (Nat.le_of_ble_eq_true rfl) (by omega) rfl rfl (C_X12_mendsFrom 12 (d - 1) hz (by omega) a0 0 a1 m28 _ ht hp34) ?_
      refine RT.iload_n (pc := 37) (k := 2) (x := a2) dX12_moths_37 rfl ?_
      refine RT.if_ne (pc := 38) (tgt := 48) dX12_moths_38 rfl (fun q38 => ?_) (fun q38 => ?_)
      · rw [if_neg q38] at h
        refine RT.aload_n (pc := 48) (k := 0) (x := a0) dX12_moths_48 rfl ?_
        obtain ⟨v49, hv49, h⟩ := Option.bind_eq_some_iff.mp h
        refine RT.gf 12 63 2 (pc := 49) (x := a0) (v := v49) hz dX12_moths_49 fl_X12_150 rfl hv49 ?_
        refine RT.iload_n (pc := 52) (k := 2) (x := a2) dX12_moths_52 rfl ?_
        refine RT.iconst (pc := 53) (n := 1) dX12_moths_53 ⟨by decide, by decide⟩ ?_
        refine RT.isub (pc := 54) dX12_moths_54 ?_
        obtain ⟨v55, hv55, h⟩ := Option.bind_eq_some_iff.mp h
        refine RT.iald (pc := 55) (x := v49) (i := (rt_isub a2 1)) (v := v55) dX12_moths_55 (rt_lta hz (by decide) (by decide) hv55) hv55 ?_
        refine RT.wk (L1 := [(9, 0), (9, 0), (9, 0)]) (rt_le_j (rt_le_j (rt_le_j rt_le_n))) ?_
        exact cj_X12_moths_56 hz hd ht v55 p34 _ h hK
      · rw [if_pos (Classical.not_not.mp q38)] at h
        refine RT.aload_n (pc := 41) (k := 0) (x := a0) dX12_moths_41 rfl ?_
        obtain ⟨v42, hv42, h⟩ := Option.bind_eq_some_iff.mp h
        refine RT.gf 12 64 0 (pc := 42) (x := a0) (v := v42) hz dX12_moths_42 fl_X12_473 rfl hv42 ?_
        refine RT.goto (pc := 45) (tgt := 56) dX12_moths_45 rfl ?_
        refine RT.wk (L1 := [(9, 0), (9, 0), (9, 0)]) (rt_le_j (rt_le_j (rt_le_j rt_le_n))) ?_
        exact cj_X12_moths_56 hz hd ht v42 p34 _ h hK
    · rw [if_pos (Classical.not_not.mp q20)] at h
      refine RT.wk (L1 := [(9, 0), (9, 0), (9, 0)]) (rt_le_j (rt_le_j (rt_le_j rt_le_n))) ?_
      exact cj_X12_moths_23 hz hd ht m2 _ h hK
theorem cj_X12_tell_23 {G : rt_G} {d : Nat} {z : Nat × Nat} {Q : rt_P} (hz : 300 ≤ z.1) (hd : 1 ≤ d) {a0 : Int} (ht : rt_kd a0.toNat = 20 + 12) (mem0 : rt_M) (t : Int × rt_M) (h : j_X12_tell_23 mem0 = some t) (hK : Q (some (0, t.1)) z t.2) : RT G M_X12_tell d z Q 23 [(9, 0), (9, 0), (9, 0)] [] z mem0 := by
  unfold j_X12_tell_23 at h
  refine RT.iconst (pc := 23) (n := 0) dX12_tell_23 ⟨by decide, by decide⟩ ?_
  obtain rfl := Option.some.inj h
  exact RT.zret (pc := 24) dX12_tell_24 rfl (by decide) (Nat.le_of_eq (rt_cells_0 z)) (Nat.le_of_eq (rt_slots_0 z)) hK
theorem c_X12_tell {G : rt_G} {d : Nat} {z : Nat × Nat} (hz : 300 ≤ z.1) (hd : 1 ≤ d) (a0 : Int) (a1 : Int) (a2 : Int) (mem0 : rt_M) (t : Int × rt_M) (ht : rt_kd a0.toNat = 20 + 12) (h : f_X12_tell a0 a1 a2 mem0 = some t) : RM G M_X12_tell d [(2, a0), (0, a1), (0, a2)] z mem0 (some (0, t.1)) t.2 := by
  suffices H : ∀ Q : rt_P, Q (some (0, t.1)) z t.2 → RT G M_X12_tell d z Q 0 [(2, a0), (0, a1), (0, a2)] [] z mem0 from H _ ⟨rfl, rfl, rfl⟩
  intro Q hK
  unfold f_X12_tell at h
  refine RT.aload_n (pc := 0) (k := 0) (x := a0) dX12_tell_0 rfl ?_
  refine RT.iconst (pc := 1) (n := 0) dX12_tell_1 ⟨by decide, by decide⟩ ?_
  obtain ⟨m2, hm2, h⟩ := Option.bind_eq_some_iff.mp h
  refine RT.pf_i 12 0 (pc := 2) (mem1 := m2) hz dX12_tell_2 fl_X12_171 rfl rfl rfl hm2 ?_
  refine RT.aload_n (pc := 5) (k := 0) (x := a0) dX12_tell_5 rfl ?_
  refine RT.iload_n (pc := 6) (k := 1) (x := a1) dX12_tell_6 rfl ?_
  obtain ⟨p7, hp7, h⟩ := Option.bind_eq_some_iff.mp h
  refine RT.cVz (pc := 7) (M' := M_X12_isWig) (ci := 12) (x := a0) (As := [(0, a1)]) (st := []) (r := some (0, p7)) (mem1 := m2) (d' := d - 1) hz dX12_tell_7 mw_X12_isWig ml_X12_414 mi_X12_isWig ht rfl rfl (Nat.le_of_ble_eq_true rfl) (Nat.le_of_ble_eq_true rfl) (by omega) rfl rfl (c_X12_isWig hz (by omega) a0 a1 m2 _ ht hp7) ?_
  refine RT.if_eq (pc := 10) (tgt := 23) dX12_tell_10 rfl (fun q10 => ?_) (fun q10 => ?_)
  · rw [if_pos q10] at h
    refine RT.wk (L1 := [(9, 0), (9, 0), (9, 0)]) (rt_le_j (rt_le_j (rt_le_j rt_le_n))) ?_
    exact cj_X12_tell_23 hz hd ht m2 _ h hK
  · rw [if_neg q10] at h
    refine RT.iload_n (pc := 13) (k := 2) (x := a2) dX12_tell_13 rfl ?_
    refine RT.iconst (pc := 14) (n := 0) dX12_tell_14 ⟨by decide, by decide⟩ ?_
    refine RT.bipush (pc := 15) (n := 9) dX12_tell_15 ⟨by decide, by decide⟩ rfl ?_
    obtain ⟨p17, hp17, h⟩ := Option.bind_eq_some_iff.mp h
    refine RT.cSz (pc := 17) (M' := M_X12_within) (As := [(0, a2), (0, 0), (0, 9)]) (st := []) (r := some (0, p17)) (mem1 := m2) (d' := d - 1) dX12_tell_17 mw_X12_within ml_X12_301 mi_X12_within rfl rfl (Nat.le_of_ble_eq_true rfl) (Nat.le_of_ble_eq_true rfl) (by omega) rfl rfl (c_X12_within hz (by omega) a2 0 9 m2 _ hp17) ?_
    refine RT.if_ne (pc := 20) (tgt := 25) dX12_tell_20 rfl (fun q20 => ?_) (fun q20 => ?_)
    · rw [if_neg q20] at h
      refine RT.aload_n (pc := 25) (k := 0) (x := a0) dX12_tell_25 rfl ?_
      obtain ⟨v26, hv26, h⟩ := Option.bind_eq_some_iff.mp h
      refine RT.gf 12 49 2 (pc := 26) (x := a0) (v := v26) hz dX12_tell_26 fl_X12_117 rfl hv26 ?_
      refine RT.iload_n (pc := 29) (k := 1) (x := a1) dX12_tell_29 rfl ?_
      refine RT.iload_n (pc := 30) (k := 2) (x := a2) dX12_tell_30 rfl ?_
      obtain ⟨m31, hm31, h⟩ := Option.bind_eq_some_iff.mp h
      refine RT.iast (pc := 31) (x := v26) (i := a1) (v := a2) (mem1 := m31) dX12_tell_31 (rt_lts hz (by decide) (by decide) hm31) hm31 ?_
      refine RT.iconst (pc := 32) (n := 1) dX12_tell_32 ⟨by decide, by decide⟩ ?_
      obtain rfl := Option.some.inj h
      exact RT.zret (pc := 33) dX12_tell_33 rfl (by decide) (Nat.le_of_eq (rt_cells_0 z)) (Nat.le_of_eq (rt_slots_0 z)) hK
    · rw [if_pos (Classical.not_not.mp q20)] at h
      refine RT.wk (L1 := [(9, 0), (9, 0), (9, 0)]) (rt_le_j (rt_le_j (rt_le_j rt_le_n))) ?_
      exact cj_X12_tell_23 hz hd ht m2 _ h hK
theorem cj_X12_tiltsFrom_253_176 {G : rt_G} {d : Nat} {z : Nat × Nat} {Q : rt_P} (rec_X12_tiltsFrom : Int → Int → Int → rt_M → Option (rt_M)) (hrec_X12_tiltsFrom : ∀ (a0 a1 a2 : Int) (mem0 : rt_M) (t : rt_M), rt_kd a0.toNat = 20 + 12 → rec_X12_tiltsFrom a0 a1 a2 mem0 = some t → RM G M_X12_tiltsFrom (d - 1) [(2, a0), (0, a1), (0, a2)] z mem0 none t) (hz : 300 ≤ z.1) (hd : 6 ≤ d) {a0 : Int} (ht : rt_kd a0.toNat = 20 + 12) (a1 : Int) (a2 : Int) (a3 : Int) (mem0 : rt_M) (t : (Int × rt_M) ⊕ (rt_M)) (h : j_X12_tiltsFrom_253_176 rec_X12_tiltsFrom a0 a1 a2 a3 mem0 = some t) (hK : (∀ s1 : Int × rt_M, t = .inl s1 → RT G M_X12_tiltsFrom d z Q 176 [(2, a0), (0, a1), (0, a2), (0, s1.1)] [] z s1.2) ∧ (∀ x1 : rt_M, t = .inr x1 → RT G M_X12_tiltsFrom d z Q 259 [(9, 0), (9, 0), (9, 0), (9, 0)] [] z x1)) : RT G M_X12_tiltsFrom d z Q 253 [(2, a0), (0, a1), (0, a2), (0, a3)] [] z mem0 := by
  unfold j_X12_tiltsFrom_253_176 at h
  refine RT.iinc (pc := 253) (x := a3) (L1 := [(2, a0), (0, a1), (0, a2), (0, (rt_iadd a3 1))]) dX12_tiltsFrom_253 rfl (Nat.le_of_ble_eq_true rfl) ⟨by decide, by decide⟩ rfl ?_
  refine RT.goto (pc := 256) (tgt := 176) dX12_tiltsFrom_256 rfl ?_
  obtain rfl := Option.some.inj h
  have q1 := hK.1 (((rt_iadd a3 1), mem0)) rfl
  try dsimp only at q1
  exact q1
theorem cb_X12_tiltsFrom_176 {G : rt_G} {d : Nat} {z : Nat × Nat} {Q : rt_P} (rec_X12_tiltsFrom : Int → Int → Int → rt_M → Option (rt_M)) (hrec_X12_tiltsFrom : ∀ (a0 a1 a2 : Int) (mem0 : rt_M) (t : rt_M), rt_kd a0.toNat = 20 + 12 → rec_X12_tiltsFrom a0 a1 a2 mem0 = some t → RM G M_X12_tiltsFrom (d - 1) [(2, a0), (0, a1), (0, a2)] z mem0 none t) (hz : 300 ≤ z.1) (hd : 6 ≤ d) {a0 : Int} (ht : rt_kd a0.toNat = 20 + 12) (a1 : Int) (a2 : Int) (s : Int × rt_M) (t : (Int × rt_M) ⊕ (rt_M)) (h : b_X12_tiltsFrom_176 rec_X12_tiltsFrom a0 a1 a2 s = some t) (hK : (∀ s1 : Int × rt_M, t = .inl s1 → RT G M_X12_tiltsFrom d z Q 176 [(2, a0), (0, a1), (0, a2), (0, s1.1)] [] z s1.2) ∧ (∀ x1 : rt_M, t = .inr x1 → RT G M_X12_tiltsFrom d z Q 259 [(9, 0), (9, 0), (9, 0), (9, 0)] [] z x1)) : RT G M_X12_tiltsFrom d z Q 176 [(2, a0), (0, a1), (0, a2), (0, s.1)] [] z s.2 := by
  unfold b_X12_tiltsFrom_176 at h
  refine RT.iload_n (pc := 176) (k := 3) (x := s.1) dX12_tiltsFrom_176 rfl ?_
  refine RT.aload_n (pc := 177) (k := 0) (x := a0) dX12_tiltsFrom_177 rfl ?_
  obtain ⟨v178, hv178, h⟩ := Option.bind_eq_some_iff.mp h
  refine RT.gf 12 10 2 (pc := 178) (x := a0) (v := v178) hz dX12_tiltsFrom_178 fl_X12_13 rfl hv178 ?_
  refine RT.iconst (pc := 181) (n := 1) dX12_tiltsFrom_181 ⟨by decide, by decide⟩ ?_
  obtain ⟨v182, hv182, h⟩ := Option.bind_eq_some_iff.mp h
  refine RT.iald (pc := 182) (x := v178) (i := 1) (v := v182) dX12_tiltsFrom_182 (rt_lta hz (by decide) (by decide) hv182) hv182 ?_
  refine RT.icmp_ge (pc := 183) (tgt := 259) dX12_tiltsFrom_183 rfl (fun q183 => ?_) (fun q183 => ?_)
  · rw [if_pos q183] at h
    refine RT.wk (L1 := [(9, 0), (9, 0), (9, 0), (9, 0)]) (rt_le_j (rt_le_j (rt_le_j (rt_le_j rt_le_n)))) ?_
    obtain rfl := Option.some.inj h
    have q1 := hK.2 s.2 rfl
    try dsimp only at q1
    exact q1
  · rw [if_neg q183] at h
    refine RT.iload_n (pc := 186) (k := 2) (x := a2) dX12_tiltsFrom_186 rfl ?_
    refine RT.iload_n (pc := 187) (k := 3) (x := s.1) dX12_tiltsFrom_187 rfl ?_
    refine RT.ishr (pc := 188) dX12_tiltsFrom_188 ?_
    refine RT.iconst (pc := 189) (n := 1) dX12_tiltsFrom_189 ⟨by decide, by decide⟩ ?_
    refine RT.iand (pc := 190) dX12_tiltsFrom_190 ?_
    refine RT.iconst (pc := 191) (n := 1) dX12_tiltsFrom_191 ⟨by decide, by decide⟩ ?_
    refine RT.icmp_eq (pc := 192) (tgt := 253) dX12_tiltsFrom_192 rfl (fun q192 => ?_) (fun q192 => ?_)
    · rw [if_pos q192] at h
      exact cj_X12_tiltsFrom_253_176 rec_X12_tiltsFrom hrec_X12_tiltsFrom hz hd ht a1 a2 s.1 s.2 _ h hK
    · rw [if_neg q192] at h
      refine RT.aload_n (pc := 195) (k := 0) (x := a0) dX12_tiltsFrom_195 rfl ?_
      refine RT.iload_n (pc := 196) (k := 1) (x := a1) dX12_tiltsFrom_196 rfl ?_
      refine RT.iload_n (pc := 197) (k := 3) (x := s.1) dX12_tiltsFrom_197 rfl ?_
      refine RT.aload_n (pc := 198) (k := 0) (x := a0) dX12_tiltsFrom_198 rfl ?_
      obtain ⟨v199, hv199, h⟩ := Option.bind_eq_some_iff.mp h
      refine RT.gf 12 50 2 (pc := 199) (x := a0) (v := v199) hz dX12_tiltsFrom_199 fl_X12_120 rfl hv199 ?_
      refine RT.iconst (pc := 202) (n := 0) dX12_tiltsFrom_202 ⟨by decide, by decide⟩ ?_
      obtain ⟨v203, hv203, h⟩ := Option.bind_eq_some_iff.mp h
      refine RT.iald (pc := 203) (x := v199) (i := 0) (v := v203) dX12_tiltsFrom_203 (rt_lta hz (by decide) (by decide) hv203) hv203 ?_
      obtain ⟨p204, hp204, h⟩ := Option.bind_eq_some_iff.mp h
      refine RT.cVz (pc := 204) (M' := M_X12_fitsIn) (ci := 12) (x := a0) (As := [(0, a1), (0, s.1), (0, v203)]) (st := []) (r := some (0, p204.1)) (mem1 := p204.2) (d' := d - 1) hz dX12_tiltsFrom_204 mw_X12_fitsIn ml_X12_406 mi_X12_fitsIn ht rfl rfl (Nat.le_of_ble_eq_true rfl) (Nat.le_of_ble_eq_true rfl) (by omega) rfl rfl (c_X12_fitsIn hz (by omega) a0 a1 s.1 v203 s.2 _ ht hp204) ?_
      refine RT.if_eq (pc := 207) (tgt := 253) dX12_tiltsFrom_207 rfl (fun q207 => ?_) (fun q207 => ?_)
      · rw [if_pos q207] at h
        exact cj_X12_tiltsFrom_253_176 rec_X12_tiltsFrom hrec_X12_tiltsFrom hz hd ht a1 a2 s.1 p204.2 _ h hK
      · rw [if_neg q207] at h
        refine RT.aload_n (pc := 210) (k := 0) (x := a0) dX12_tiltsFrom_210 rfl ?_
        refine RT.iload_n (pc := 211) (k := 1) (x := a1) dX12_tiltsFrom_211 rfl ?_
        refine RT.iload_n (pc := 212) (k := 3) (x := s.1) dX12_tiltsFrom_212 rfl ?_
        refine RT.aload_n (pc := 213) (k := 0) (x := a0) dX12_tiltsFrom_213 rfl ?_
        obtain ⟨v214, hv214, h⟩ := Option.bind_eq_some_iff.mp h
        refine RT.gf 12 50 2 (pc := 214) (x := a0) (v := v214) hz dX12_tiltsFrom_214 fl_X12_120 rfl hv214 ?_
        refine RT.iconst (pc := 217) (n := 0) dX12_tiltsFrom_217 ⟨by decide, by decide⟩ ?_
        obtain ⟨v218, hv218, h⟩ := Option.bind_eq_some_iff.mp h
        refine RT.iald (pc := 218) (x := v214) (i := 0) (v := v218) dX12_tiltsFrom_218 (rt_lta hz (by decide) (by decide) hv218) hv218 ?_
        obtain ⟨p219, hp219, h⟩ := Option.bind_eq_some_iff.mp h
        refine RT.cVz (pc := 219) (M' := M_X12_tiltIn) (ci := 12) (x := a0) (As := [(0, a1), (0, s.1), (0, v218)]) (st := []) (r := some (0, p219.1)) (mem1 := p219.2) (d' := d - 1) hz dX12_tiltsFrom_219 mw_X12_tiltIn ml_X12_400 mi_X12_tiltIn ht rfl rfl (Nat.le_of_ble_eq_true rfl) (Nat.le_of_ble_eq_true rfl) (by omega) rfl rfl (c_X12_tiltIn hz (by omega) a0 a1 s.1 v218 p204.2 _ ht hp219) ?_
        refine RT.aload_n (pc := 222) (k := 0) (x := a0) dX12_tiltsFrom_222 rfl ?_
        obtain ⟨v223, hv223, h⟩ := Option.bind_eq_some_iff.mp h
        refine RT.gf 12 49 2 (pc := 223) (x := a0) (v := v223) hz dX12_tiltsFrom_223 fl_X12_117 rfl hv223 ?_
        refine RT.iload_n (pc := 226) (k := 1) (x := a1) dX12_tiltsFrom_226 rfl ?_
        obtain ⟨v227, hv227, h⟩ := Option.bind_eq_some_iff.mp h
        refine RT.iald (pc := 227) (x := v223) (i := a1) (v := v227) dX12_tiltsFrom_227 (rt_lta hz (by decide) (by decide) hv227) hv227 ?_
        refine RT.icmp_eq (pc := 228) (tgt := 234) dX12_tiltsFrom_228 rfl (fun q228 => ?_) (fun q228 => ?_)
        · rw [if_pos q228] at h
          refine RT.aload_n (pc := 234) (k := 0) (x := a0) dX12_tiltsFrom_234 rfl ?_
          obtain ⟨v235, hv235, h⟩ := Option.bind_eq_some_iff.mp h
          refine RT.gf 12 56 2 (pc := 235) (x := a0) (v := v235) hz dX12_tiltsFrom_235 fl_X12_135 rfl hv235 ?_
          refine RT.iload_n (pc := 238) (k := 1) (x := a1) dX12_tiltsFrom_238 rfl ?_
          refine RT.iload_n (pc := 239) (k := 3) (x := s.1) dX12_tiltsFrom_239 rfl ?_
          obtain ⟨m240, hm240, h⟩ := Option.bind_eq_some_iff.mp h
          refine RT.iast (pc := 240) (x := v235) (i := a1) (v := s.1) (mem1 := m240) dX12_tiltsFrom_240 (rt_lts hz (by decide) (by decide) hm240) hm240 ?_
          refine RT.aload_n (pc := 241) (k := 0) (x := a0) dX12_tiltsFrom_241 rfl ?_
          refine RT.iload_n (pc := 242) (k := 1) (x := a1) dX12_tiltsFrom_242 rfl ?_
          refine RT.iconst (pc := 243) (n := 1) dX12_tiltsFrom_243 ⟨by decide, by decide⟩ ?_
          refine RT.iadd (pc := 244) dX12_tiltsFrom_244 ?_
          refine RT.iload_n (pc := 245) (k := 2) (x := a2) dX12_tiltsFrom_245 rfl ?_
          refine RT.iconst (pc := 246) (n := 1) dX12_tiltsFrom_246 ⟨by decide, by decide⟩ ?_
          refine RT.iload_n (pc := 247) (k := 3) (x := s.1) dX12_tiltsFrom_247 rfl ?_
          refine RT.ishl (pc := 248) dX12_tiltsFrom_248 ?_
          refine RT.ior (pc := 249) dX12_tiltsFrom_249 ?_
          obtain ⟨p250, hp250, h⟩ := Option.bind_eq_some_iff.mp h
          refine RT.cVz (pc := 250) (M' := M_X12_tiltsFrom) (ci := 12) (x := a0) (As := [(0, (rt_iadd a1 1)), (0, (rt_ior a2 (rt_ishl 1 s.1)))]) (st := []) (r := none) (mem1 := p250) (d' := d - 1) hz dX12_tiltsFrom_250 mw_X12_tiltsFrom ml_X12_485 mi_X12_tiltsFrom ht rfl rfl (Nat.le_of_ble_eq_true rfl) (Nat.le_of_ble_eq_true rfl) (by omega) rfl rfl (hrec_X12_tiltsFrom a0 ((rt_iadd a1 1)) ((rt_ior a2 (rt_ishl 1 s.1))) m240 _ ht hp250) ?_
          exact cj_X12_tiltsFrom_253_176 rec_X12_tiltsFrom hrec_X12_tiltsFrom hz hd ht a1 a2 s.1 p250 _ h hK
        · rw [if_neg q228] at h
          refine RT.goto (pc := 231) (tgt := 253) dX12_tiltsFrom_231 rfl ?_
          exact cj_X12_tiltsFrom_253_176 rec_X12_tiltsFrom hrec_X12_tiltsFrom hz hd ht a1 a2 s.1 p219.2 _ h hK
theorem cj_X12_tiltsFrom_56_12 {G : rt_G} {d : Nat} {z : Nat × Nat} {Q : rt_P} (rec_X12_tiltsFrom : Int → Int → Int → rt_M → Option (rt_M)) (hrec_X12_tiltsFrom : ∀ (a0 a1 a2 : Int) (mem0 : rt_M) (t : rt_M), rt_kd a0.toNat = 20 + 12 → rec_X12_tiltsFrom a0 a1 a2 mem0 = some t → RM G M_X12_tiltsFrom (d - 1) [(2, a0), (0, a1), (0, a2)] z mem0 none t) (hz : 300 ≤ z.1) (hd : 6 ≤ d) {a0 : Int} (ht : rt_kd a0.toNat = 20 + 12) (a2 : Int) (a3 : Int) (s0 : Int) (s1 : Int) (s2 : Int) (mem0 : rt_M) (t : (Int × rt_M) ⊕ (rt_M)) (h : j_X12_tiltsFrom_56_12 rec_X12_tiltsFrom a0 a2 a3 s0 s1 s2 mem0 = some t) (hK : (∀ s1 : Int × rt_M, t = .inl s1 → RT G M_X12_tiltsFrom d z Q 12 [(2, a0), (9, 0), (0, a2), (0, s1.1)] [] z s1.2) ∧ (∀ x1 : rt_M, t = .inr x1 → RT G M_X12_tiltsFrom d z Q 63 [(2, a0), (9, 0), (0, a2), (9, 0)] [] z x1)) : RT G M_X12_tiltsFrom d z Q 56 [(2, a0), (9, 0), (0, a2), (0, a3)] [(0, s2), (0, s1), (2, s0)] z mem0 := by
  unfold j_X12_tiltsFrom_56_12 at h
  obtain ⟨m56, hm56, h⟩ := Option.bind_eq_some_iff.mp h
  refine RT.iast (pc := 56) (x := s0) (i := s1) (v := s2) (mem1 := m56) dX12_tiltsFrom_56 (rt_lts hz (by decide) (by decide) hm56) hm56 ?_
  refine RT.iinc (pc := 57) (x := a3) (L1 := [(2, a0), (9, 0), (0, a2), (0, (rt_iadd a3 1))]) dX12_tiltsFrom_57 rfl (Nat.le_of_ble_eq_true rfl) ⟨by decide, by decide⟩ rfl ?_
  refine RT.goto (pc := 60) (tgt := 12) dX12_tiltsFrom_60 rfl ?_
  obtain rfl := Option.some.inj h
  have q1 := hK.1 (((rt_iadd a3 1), m56)) rfl
  try dsimp only at q1
  exact q1
theorem cj_X12_tiltsFrom_45_12 {G : rt_G} {d : Nat} {z : Nat × Nat} {Q : rt_P} (rec_X12_tiltsFrom : Int → Int → Int → rt_M → Option (rt_M)) (hrec_X12_tiltsFrom : ∀ (a0 a1 a2 : Int) (mem0 : rt_M) (t : rt_M), rt_kd a0.toNat = 20 + 12 → rec_X12_tiltsFrom a0 a1 a2 mem0 = some t → RM G M_X12_tiltsFrom (d - 1) [(2, a0), (0, a1), (0, a2)] z mem0 none t) (hz : 300 ≤ z.1) (hd : 6 ≤ d) {a0 : Int} (ht : rt_kd a0.toNat = 20 + 12) (a2 : Int) (a3 : Int) (s0 : Int) (s1 : Int) (mem0 : rt_M) (t : (Int × rt_M) ⊕ (rt_M)) (h : j_X12_tiltsFrom_45_12 rec_X12_tiltsFrom a0 a2 a3 s0 s1 mem0 = some t) (hK : (∀ s1 : Int × rt_M, t = .inl s1 → RT G M_X12_tiltsFrom d z Q 12 [(2, a0), (9, 0), (0, a2), (0, s1.1)] [] z s1.2) ∧ (∀ x1 : rt_M, t = .inr x1 → RT G M_X12_tiltsFrom d z Q 63 [(2, a0), (9, 0), (0, a2), (9, 0)] [] z x1)) : RT G M_X12_tiltsFrom d z Q 45 [(2, a0), (9, 0), (0, a2), (0, a3)] [(0, s1), (2, s0)] z mem0 := by
  unfold j_X12_tiltsFrom_45_12 at h
  refine RT.aload_n (pc := 45) (k := 0) (x := a0) dX12_tiltsFrom_45 rfl ?_
  obtain ⟨v46, hv46, h⟩ := Option.bind_eq_some_iff.mp h
  refine RT.gf 12 56 2 (pc := 46) (x := a0) (v := v46) hz dX12_tiltsFrom_46 fl_X12_135 rfl hv46 ?_
  refine RT.iload_n (pc := 49) (k := 3) (x := a3) dX12_tiltsFrom_49 rfl ?_
  obtain ⟨v50, hv50, h⟩ := Option.bind_eq_some_iff.mp h
  refine RT.iald (pc := 50) (x := v46) (i := a3) (v := v50) dX12_tiltsFrom_50 (rt_lta hz (by decide) (by decide) hv50) hv50 ?_
  refine RT.goto (pc := 51) (tgt := 56) dX12_tiltsFrom_51 rfl ?_
  exact cj_X12_tiltsFrom_56_12 rec_X12_tiltsFrom hrec_X12_tiltsFrom hz hd ht a2 a3 s0 s1 v50 mem0 _ h hK
theorem cb_X12_tiltsFrom_12 {G : rt_G} {d : Nat} {z : Nat × Nat} {Q : rt_P} (rec_X12_tiltsFrom : Int → Int → Int → rt_M → Option (rt_M)) (hrec_X12_tiltsFrom : ∀ (a0 a1 a2 : Int) (mem0 : rt_M) (t : rt_M), rt_kd a0.toNat = 20 + 12 → rec_X12_tiltsFrom a0 a1 a2 mem0 = some t → RM G M_X12_tiltsFrom (d - 1) [(2, a0), (0, a1), (0, a2)] z mem0 none t) (hz : 300 ≤ z.1) (hd : 6 ≤ d) {a0 : Int} (ht : rt_kd a0.toNat = 20 + 12) (a2 : Int) (s : Int × rt_M) (t : (Int × rt_M) ⊕ (rt_M)) (h : b_X12_tiltsFrom_12 rec_X12_tiltsFrom a0 a2 s = some t) (hK : (∀ s1 : Int × rt_M, t = .inl s1 → RT G M_X12_tiltsFrom d z Q 12 [(2, a0), (9, 0), (0, a2), (0, s1.1)] [] z s1.2) ∧ (∀ x1 : rt_M, t = .inr x1 → RT G M_X12_tiltsFrom d z Q 63 [(2, a0), (9, 0), (0, a2), (9, 0)] [] z x1)) : RT G M_X12_tiltsFrom d z Q 12 [(2, a0), (9, 0), (0, a2), (0, s.1)] [] z s.2 := by
  unfold b_X12_tiltsFrom_12 at h
  refine RT.iload_n (pc := 12) (k := 3) (x := s.1) dX12_tiltsFrom_12 rfl ?_
  refine RT.bipush (pc := 13) (n := 6) dX12_tiltsFrom_13 ⟨by decide, by decide⟩ rfl ?_
  refine RT.icmp_ge (pc := 15) (tgt := 63) dX12_tiltsFrom_15 rfl (fun q15 => ?_) (fun q15 => ?_)
  · rw [if_pos q15] at h
    refine RT.wk (L1 := [(2, a0), (9, 0), (0, a2), (9, 0)]) (rt_le_s (rt_le_s (rt_le_s (rt_le_j rt_le_n)))) ?_
    obtain rfl := Option.some.inj h
    have q1 := hK.2 s.2 rfl
    try dsimp only at q1
    exact q1
  · rw [if_neg q15] at h
    refine RT.aload_n (pc := 18) (k := 0) (x := a0) dX12_tiltsFrom_18 rfl ?_
    obtain ⟨v19, hv19, h⟩ := Option.bind_eq_some_iff.mp h
    refine RT.gf 12 66 2 (pc := 19) (x := a0) (v := v19) hz dX12_tiltsFrom_19 fl_X12_153 rfl hv19 ?_
    refine RT.iload_n (pc := 22) (k := 3) (x := s.1) dX12_tiltsFrom_22 rfl ?_
    refine RT.aload_n (pc := 23) (k := 0) (x := a0) dX12_tiltsFrom_23 rfl ?_
    obtain ⟨v24, hv24, h⟩ := Option.bind_eq_some_iff.mp h
    refine RT.gf 12 65 0 (pc := 24) (x := a0) (v := v24) hz dX12_tiltsFrom_24 fl_X12_479 rfl hv24 ?_
    refine RT.if_eq (pc := 27) (tgt := 45) dX12_tiltsFrom_27 rfl (fun q27 => ?_) (fun q27 => ?_)
    · rw [if_pos q27] at h
      exact cj_X12_tiltsFrom_45_12 rec_X12_tiltsFrom hrec_X12_tiltsFrom hz hd ht a2 s.1 v19 s.1 s.2 _ h hK
    · rw [if_neg q27] at h
      refine RT.aload_n (pc := 30) (k := 0) (x := a0) dX12_tiltsFrom_30 rfl ?_
      obtain ⟨v31, hv31, h⟩ := Option.bind_eq_some_iff.mp h
      refine RT.gf 12 66 2 (pc := 31) (x := a0) (v := v31) hz dX12_tiltsFrom_31 fl_X12_153 rfl hv31 ?_
      refine RT.iload_n (pc := 34) (k := 3) (x := s.1) dX12_tiltsFrom_34 rfl ?_
      obtain ⟨v35, hv35, h⟩ := Option.bind_eq_some_iff.mp h
      refine RT.iald (pc := 35) (x := v31) (i := s.1) (v := v35) dX12_tiltsFrom_35 (rt_lta hz (by decide) (by decide) hv35) hv35 ?_
      refine RT.aload_n (pc := 36) (k := 0) (x := a0) dX12_tiltsFrom_36 rfl ?_
      obtain ⟨v37, hv37, h⟩ := Option.bind_eq_some_iff.mp h
      refine RT.gf 12 56 2 (pc := 37) (x := a0) (v := v37) hz dX12_tiltsFrom_37 fl_X12_135 rfl hv37 ?_
      refine RT.iload_n (pc := 40) (k := 3) (x := s.1) dX12_tiltsFrom_40 rfl ?_
      obtain ⟨v41, hv41, h⟩ := Option.bind_eq_some_iff.mp h
      refine RT.iald (pc := 41) (x := v37) (i := s.1) (v := v41) dX12_tiltsFrom_41 (rt_lta hz (by decide) (by decide) hv41) hv41 ?_
      refine RT.icmp_ne (pc := 42) (tgt := 54) dX12_tiltsFrom_42 rfl (fun q42 => ?_) (fun q42 => ?_)
      · rw [if_neg q42] at h
        refine RT.bipush (pc := 54) (n := 6) dX12_tiltsFrom_54 ⟨by decide, by decide⟩ rfl ?_
        exact cj_X12_tiltsFrom_56_12 rec_X12_tiltsFrom hrec_X12_tiltsFrom hz hd ht a2 s.1 v19 s.1 6 s.2 _ h hK
      · rw [if_pos (Classical.not_not.mp q42)] at h
        exact cj_X12_tiltsFrom_45_12 rec_X12_tiltsFrom hrec_X12_tiltsFrom hz hd ht a2 s.1 v19 s.1 s.2 _ h hK
theorem cj_X12_tiltsFrom_142_75 {G : rt_G} {d : Nat} {z : Nat × Nat} {Q : rt_P} (rec_X12_tiltsFrom : Int → Int → Int → rt_M → Option (rt_M)) (hrec_X12_tiltsFrom : ∀ (a0 a1 a2 : Int) (mem0 : rt_M) (t : rt_M), rt_kd a0.toNat = 20 + 12 → rec_X12_tiltsFrom a0 a1 a2 mem0 = some t → RM G M_X12_tiltsFrom (d - 1) [(2, a0), (0, a1), (0, a2)] z mem0 none t) (hz : 300 ≤ z.1) (hd : 6 ≤ d) {a0 : Int} (ht : rt_kd a0.toNat = 20 + 12) (a2 : Int) (a3 : Int) (mem0 : rt_M) (t : (Int × rt_M) ⊕ (rt_M)) (h : j_X12_tiltsFrom_142_75 rec_X12_tiltsFrom a0 a2 a3 mem0 = some t) (hK : (∀ s1 : Int × rt_M, t = .inl s1 → RT G M_X12_tiltsFrom d z Q 75 [(2, a0), (9, 0), (0, a2), (0, s1.1)] [] z s1.2) ∧ (∀ x1 : rt_M, t = .inr x1 → RT G M_X12_tiltsFrom d z Q 148 [(9, 0), (9, 0), (9, 0), (9, 0)] [] z x1)) : RT G M_X12_tiltsFrom d z Q 142 [(2, a0), (9, 0), (0, a2), (0, a3)] [] z mem0 := by
  unfold j_X12_tiltsFrom_142_75 at h
  refine RT.iinc (pc := 142) (x := a3) (L1 := [(2, a0), (9, 0), (0, a2), (0, (rt_iadd a3 1))]) dX12_tiltsFrom_142 rfl (Nat.le_of_ble_eq_true rfl) ⟨by decide, by decide⟩ rfl ?_
  refine RT.goto (pc := 145) (tgt := 75) dX12_tiltsFrom_145 rfl ?_
  obtain rfl := Option.some.inj h
  have q1 := hK.1 (((rt_iadd a3 1), mem0)) rfl
  try dsimp only at q1
  exact q1
theorem cb_X12_tiltsFrom_75 {G : rt_G} {d : Nat} {z : Nat × Nat} {Q : rt_P} (rec_X12_tiltsFrom : Int → Int → Int → rt_M → Option (rt_M)) (hrec_X12_tiltsFrom : ∀ (a0 a1 a2 : Int) (mem0 : rt_M) (t : rt_M), rt_kd a0.toNat = 20 + 12 → rec_X12_tiltsFrom a0 a1 a2 mem0 = some t → RM G M_X12_tiltsFrom (d - 1) [(2, a0), (0, a1), (0, a2)] z mem0 none t) (hz : 300 ≤ z.1) (hd : 6 ≤ d) {a0 : Int} (ht : rt_kd a0.toNat = 20 + 12) (a2 : Int) (s : Int × rt_M) (t : (Int × rt_M) ⊕ (rt_M)) (h : b_X12_tiltsFrom_75 rec_X12_tiltsFrom a0 a2 s = some t) (hK : (∀ s1 : Int × rt_M, t = .inl s1 → RT G M_X12_tiltsFrom d z Q 75 [(2, a0), (9, 0), (0, a2), (0, s1.1)] [] z s1.2) ∧ (∀ x1 : rt_M, t = .inr x1 → RT G M_X12_tiltsFrom d z Q 148 [(9, 0), (9, 0), (9, 0), (9, 0)] [] z x1)) : RT G M_X12_tiltsFrom d z Q 75 [(2, a0), (9, 0), (0, a2), (0, s.1)] [] z s.2 := by
  unfold b_X12_tiltsFrom_75 at h
  refine RT.iload_n (pc := 75) (k := 3) (x := s.1) dX12_tiltsFrom_75 rfl ?_
  refine RT.aload_n (pc := 76) (k := 0) (x := a0) dX12_tiltsFrom_76 rfl ?_
  obtain ⟨v77, hv77, h⟩ := Option.bind_eq_some_iff.mp h
  refine RT.gf 12 10 2 (pc := 77) (x := a0) (v := v77) hz dX12_tiltsFrom_77 fl_X12_13 rfl hv77 ?_
  refine RT.iconst (pc := 80) (n := 1) dX12_tiltsFrom_80 ⟨by decide, by decide⟩ ?_
  obtain ⟨v81, hv81, h⟩ := Option.bind_eq_some_iff.mp h
  refine RT.iald (pc := 81) (x := v77) (i := 1) (v := v81) dX12_tiltsFrom_81 (rt_lta hz (by decide) (by decide) hv81) hv81 ?_
  refine RT.icmp_ge (pc := 82) (tgt := 148) dX12_tiltsFrom_82 rfl (fun q82 => ?_) (fun q82 => ?_)
  · rw [if_pos q82] at h
    refine RT.wk (L1 := [(9, 0), (9, 0), (9, 0), (9, 0)]) (rt_le_j (rt_le_s (rt_le_j (rt_le_j rt_le_n)))) ?_
    obtain rfl := Option.some.inj h
    have q1 := hK.2 s.2 rfl
    try dsimp only at q1
    exact q1
  · rw [if_neg q82] at h
    refine RT.aload_n (pc := 85) (k := 0) (x := a0) dX12_tiltsFrom_85 rfl ?_
    obtain ⟨v86, hv86, h⟩ := Option.bind_eq_some_iff.mp h
    refine RT.gf 12 67 0 (pc := 86) (x := a0) (v := v86) hz dX12_tiltsFrom_86 fl_X12_482 rfl hv86 ?_
    refine RT.if_lt (pc := 89) (tgt := 148) dX12_tiltsFrom_89 rfl (fun q89 => ?_) (fun q89 => ?_)
    · rw [if_pos q89] at h
      refine RT.wk (L1 := [(9, 0), (9, 0), (9, 0), (9, 0)]) (rt_le_j (rt_le_s (rt_le_j (rt_le_j rt_le_n)))) ?_
      obtain rfl := Option.some.inj h
      have q1 := hK.2 s.2 rfl
      try dsimp only at q1
      exact q1
    · rw [if_neg q89] at h
      refine RT.iload_n (pc := 92) (k := 2) (x := a2) dX12_tiltsFrom_92 rfl ?_
      refine RT.iload_n (pc := 93) (k := 3) (x := s.1) dX12_tiltsFrom_93 rfl ?_
      refine RT.ishr (pc := 94) dX12_tiltsFrom_94 ?_
      refine RT.iconst (pc := 95) (n := 1) dX12_tiltsFrom_95 ⟨by decide, by decide⟩ ?_
      refine RT.iand (pc := 96) dX12_tiltsFrom_96 ?_
      refine RT.if_ne (pc := 97) (tgt := 142) dX12_tiltsFrom_97 rfl (fun q97 => ?_) (fun q97 => ?_)
      · rw [if_neg q97] at h
        exact cj_X12_tiltsFrom_142_75 rec_X12_tiltsFrom hrec_X12_tiltsFrom hz hd ht a2 s.1 s.2 _ h hK
      · rw [if_pos (Classical.not_not.mp q97)] at h
        refine RT.aload_n (pc := 100) (k := 0) (x := a0) dX12_tiltsFrom_100 rfl ?_
        refine RT.aload_n (pc := 101) (k := 0) (x := a0) dX12_tiltsFrom_101 rfl ?_
        obtain ⟨v102, hv102, h⟩ := Option.bind_eq_some_iff.mp h
        refine RT.gf 12 67 0 (pc := 102) (x := a0) (v := v102) hz dX12_tiltsFrom_102 fl_X12_482 rfl hv102 ?_
        refine RT.iload_n (pc := 105) (k := 3) (x := s.1) dX12_tiltsFrom_105 rfl ?_
        refine RT.aload_n (pc := 106) (k := 0) (x := a0) dX12_tiltsFrom_106 rfl ?_
        obtain ⟨v107, hv107, h⟩ := Option.bind_eq_some_iff.mp h
        refine RT.gf 12 50 2 (pc := 107) (x := a0) (v := v107) hz dX12_tiltsFrom_107 fl_X12_120 rfl hv107 ?_
        refine RT.iconst (pc := 110) (n := 0) dX12_tiltsFrom_110 ⟨by decide, by decide⟩ ?_
        obtain ⟨v111, hv111, h⟩ := Option.bind_eq_some_iff.mp h
        refine RT.iald (pc := 111) (x := v107) (i := 0) (v := v111) dX12_tiltsFrom_111 (rt_lta hz (by decide) (by decide) hv111) hv111 ?_
        obtain ⟨p112, hp112, h⟩ := Option.bind_eq_some_iff.mp h
        refine RT.cVz (pc := 112) (M' := M_X12_fitsIn) (ci := 12) (x := a0) (As := [(0, v102), (0, s.1), (0, v111)]) (st := []) (r := some (0, p112.1)) (mem1 := p112.2) (d' := d - 1) hz dX12_tiltsFrom_112 mw_X12_fitsIn ml_X12_406 mi_X12_fitsIn ht rfl rfl (Nat.le_of_ble_eq_true rfl) (Nat.le_of_ble_eq_true rfl) (by omega) rfl rfl (c_X12_fitsIn hz (by omega) a0 v102 s.1 v111 s.2 _ ht hp112) ?_
        refine RT.if_eq (pc := 115) (tgt := 142) dX12_tiltsFrom_115 rfl (fun q115 => ?_) (fun q115 => ?_)
        · rw [if_pos q115] at h
          exact cj_X12_tiltsFrom_142_75 rec_X12_tiltsFrom hrec_X12_tiltsFrom hz hd ht a2 s.1 p112.2 _ h hK
        · rw [if_neg q115] at h
          refine RT.aload_n (pc := 118) (k := 0) (x := a0) dX12_tiltsFrom_118 rfl ?_
          obtain ⟨v119, hv119, h⟩ := Option.bind_eq_some_iff.mp h
          refine RT.gf 12 68 2 (pc := 119) (x := a0) (v := v119) hz dX12_tiltsFrom_119 fl_X12_156 rfl hv119 ?_
          refine RT.aload_n (pc := 122) (k := 0) (x := a0) dX12_tiltsFrom_122 rfl ?_
          refine RT.aload_n (pc := 123) (k := 0) (x := a0) dX12_tiltsFrom_123 rfl ?_
          obtain ⟨v124, hv124, h⟩ := Option.bind_eq_some_iff.mp h
          refine RT.gf 12 67 0 (pc := 124) (x := a0) (v := v124) hz dX12_tiltsFrom_124 fl_X12_482 rfl hv124 ?_
          refine RT.iload_n (pc := 127) (k := 3) (x := s.1) dX12_tiltsFrom_127 rfl ?_
          refine RT.aload_n (pc := 128) (k := 0) (x := a0) dX12_tiltsFrom_128 rfl ?_
          obtain ⟨v129, hv129, h⟩ := Option.bind_eq_some_iff.mp h
          refine RT.gf 12 50 2 (pc := 129) (x := a0) (v := v129) hz dX12_tiltsFrom_129 fl_X12_120 rfl hv129 ?_
          refine RT.iconst (pc := 132) (n := 0) dX12_tiltsFrom_132 ⟨by decide, by decide⟩ ?_
          obtain ⟨v133, hv133, h⟩ := Option.bind_eq_some_iff.mp h
          refine RT.iald (pc := 133) (x := v129) (i := 0) (v := v133) dX12_tiltsFrom_133 (rt_lta hz (by decide) (by decide) hv133) hv133 ?_
          obtain ⟨p134, hp134, h⟩ := Option.bind_eq_some_iff.mp h
          refine RT.cVz (pc := 134) (M' := M_X12_tiltIn) (ci := 12) (x := a0) (As := [(0, v124), (0, s.1), (0, v133)]) (st := [(2, v119)]) (r := some (0, p134.1)) (mem1 := p134.2) (d' := d - 1) hz dX12_tiltsFrom_134 mw_X12_tiltIn ml_X12_400 mi_X12_tiltIn ht rfl rfl (Nat.le_of_ble_eq_true rfl) (Nat.le_of_ble_eq_true rfl) (by omega) rfl rfl (c_X12_tiltIn hz (by omega) a0 v124 s.1 v133 p112.2 _ ht hp134) ?_
          refine RT.dup2 (pc := 137) dX12_tiltsFrom_137 (show ¬ ((0 : Nat) = 1) by decide) (show ¬ ((2 : Nat) = 1) by decide) ?_
          obtain ⟨v138, hv138, h⟩ := Option.bind_eq_some_iff.mp h
          refine RT.iald (pc := 138) (x := v119) (i := p134.1) (v := v138) dX12_tiltsFrom_138 (rt_lta hz (by decide) (by decide) hv138) hv138 ?_
          refine RT.iconst (pc := 139) (n := 1) dX12_tiltsFrom_139 ⟨by decide, by decide⟩ ?_
          refine RT.iadd (pc := 140) dX12_tiltsFrom_140 ?_
          obtain ⟨m141, hm141, h⟩ := Option.bind_eq_some_iff.mp h
          refine RT.iast (pc := 141) (x := v119) (i := p134.1) (v := (rt_iadd v138 1)) (mem1 := m141) dX12_tiltsFrom_141 (rt_lts hz (by decide) (by decide) hm141) hm141 ?_
          exact cj_X12_tiltsFrom_142_75 rec_X12_tiltsFrom hrec_X12_tiltsFrom hz hd ht a2 s.1 m141 _ h hK
theorem c_X12_tiltsFrom {G : rt_G} {d : Nat} {z : Nat × Nat} (rec_X12_tiltsFrom : Int → Int → Int → rt_M → Option (rt_M)) (hrec_X12_tiltsFrom : ∀ (a0 a1 a2 : Int) (mem0 : rt_M) (t : rt_M), rt_kd a0.toNat = 20 + 12 → rec_X12_tiltsFrom a0 a1 a2 mem0 = some t → RM G M_X12_tiltsFrom (d - 1) [(2, a0), (0, a1), (0, a2)] z mem0 none t) (hz : 300 ≤ z.1) (hd : 6 ≤ d) (a0 : Int) (a1 : Int) (a2 : Int) (mem0 : rt_M) (t : rt_M) (ht : rt_kd a0.toNat = 20 + 12) (h : f_X12_tiltsFrom rec_X12_tiltsFrom a0 a1 a2 mem0 = some t) : RM G M_X12_tiltsFrom d [(2, a0), (0, a1), (0, a2)] z mem0 none t := by
  suffices H : ∀ Q : rt_P, Q none z t → RT G M_X12_tiltsFrom d z Q 0 [(2, a0), (0, a1), (0, a2), (9, 0)] [] z mem0 from H _ ⟨rfl, rfl, rfl⟩
  intro Q hK
  unfold f_X12_tiltsFrom at h
  refine RT.iload_n (pc := 0) (k := 1) (x := a1) dX12_tiltsFrom_0 rfl ?_
  refine RT.aload_n (pc := 1) (k := 0) (x := a0) dX12_tiltsFrom_1 rfl ?_
  obtain ⟨v2, hv2, h⟩ := Option.bind_eq_some_iff.mp h
  refine RT.gf 12 10 2 (pc := 2) (x := a0) (v := v2) hz dX12_tiltsFrom_2 fl_X12_13 rfl hv2 ?_
  refine RT.iconst (pc := 5) (n := 0) dX12_tiltsFrom_5 ⟨by decide, by decide⟩ ?_
  obtain ⟨v6, hv6, h⟩ := Option.bind_eq_some_iff.mp h
  refine RT.iald (pc := 6) (x := v2) (i := 0) (v := v6) dX12_tiltsFrom_6 (rt_lta hz (by decide) (by decide) hv6) hv6 ?_
  refine RT.icmp_ne (pc := 7) (tgt := 149) dX12_tiltsFrom_7 rfl (fun q7 => ?_) (fun q7 => ?_)
  · rw [if_neg q7] at h
    refine RT.aload_n (pc := 149) (k := 0) (x := a0) dX12_tiltsFrom_149 rfl ?_
    obtain ⟨v150, hv150, h⟩ := Option.bind_eq_some_iff.mp h
    refine RT.gf 12 56 2 (pc := 150) (x := a0) (v := v150) hz dX12_tiltsFrom_150 fl_X12_135 rfl hv150 ?_
    refine RT.iload_n (pc := 153) (k := 1) (x := a1) dX12_tiltsFrom_153 rfl ?_
    refine RT.iconst (pc := 154) (n := (-1)) dX12_tiltsFrom_154 ⟨by decide, by decide⟩ ?_
    obtain ⟨m155, hm155, h⟩ := Option.bind_eq_some_iff.mp h
    refine RT.iast (pc := 155) (x := v150) (i := a1) (v := (-1)) (mem1 := m155) dX12_tiltsFrom_155 (rt_lts hz (by decide) (by decide) hm155) hm155 ?_
    refine RT.aload_n (pc := 156) (k := 0) (x := a0) dX12_tiltsFrom_156 rfl ?_
    obtain ⟨v157, hv157, h⟩ := Option.bind_eq_some_iff.mp h
    refine RT.gf 12 49 2 (pc := 157) (x := a0) (v := v157) hz dX12_tiltsFrom_157 fl_X12_117 rfl hv157 ?_
    refine RT.iload_n (pc := 160) (k := 1) (x := a1) dX12_tiltsFrom_160 rfl ?_
    obtain ⟨v161, hv161, h⟩ := Option.bind_eq_some_iff.mp h
    refine RT.iald (pc := 161) (x := v157) (i := a1) (v := v161) dX12_tiltsFrom_161 (rt_lta hz (by decide) (by decide) hv161) hv161 ?_
    refine RT.if_ge (pc := 162) (tgt := 174) dX12_tiltsFrom_162 rfl (fun q162 => ?_) (fun q162 => ?_)
    · rw [if_pos q162] at h
      refine RT.iconst (pc := 174) (n := 0) dX12_tiltsFrom_174 ⟨by decide, by decide⟩ ?_
      refine RT.istore_n (pc := 175) (k := 3) (x := 0) (L1 := [(2, a0), (0, a1), (0, a2), (0, 0)]) dX12_tiltsFrom_175 (Nat.le_of_ble_eq_true rfl) rfl ?_
      obtain ⟨X176, hX176, h⟩ := Option.bind_eq_some_iff.mp h
      refine rt_it_ind (P := (fun s1 : Int × rt_M => RT G M_X12_tiltsFrom d z Q 176 [(2, a0), (0, a1), (0, a2), (0, s1.1)] [] z s1.2)) (X := (fun x1 : rt_M => RT G M_X12_tiltsFrom d z Q 259 [(9, 0), (9, 0), (9, 0), (9, 0)] [] z x1)) (fun s1 t1 h1 k1 k2 => cb_X12_tiltsFrom_176 rec_X12_tiltsFrom hrec_X12_tiltsFrom hz hd ht a1 a2 s1 t1 h1 ⟨k1, k2⟩) 4000 ((0, m155)) X176 hX176 ?_
      obtain rfl := Option.some.inj h
      exact RT.vret (pc := 259) dX12_tiltsFrom_259 rfl (Nat.le_of_eq (rt_cells_0 z)) (Nat.le_of_eq (rt_slots_0 z)) hK
    · rw [if_neg q162] at h
      refine RT.aload_n (pc := 165) (k := 0) (x := a0) dX12_tiltsFrom_165 rfl ?_
      refine RT.iload_n (pc := 166) (k := 1) (x := a1) dX12_tiltsFrom_166 rfl ?_
      refine RT.iconst (pc := 167) (n := 1) dX12_tiltsFrom_167 ⟨by decide, by decide⟩ ?_
      refine RT.iadd (pc := 168) dX12_tiltsFrom_168 ?_
      refine RT.iload_n (pc := 169) (k := 2) (x := a2) dX12_tiltsFrom_169 rfl ?_
      obtain ⟨p170, hp170, h⟩ := Option.bind_eq_some_iff.mp h
      refine RT.cVz (pc := 170) (M' := M_X12_tiltsFrom) (ci := 12) (x := a0) (As := [(0, (rt_iadd a1 1)), (0, a2)]) (st := []) (r := none) (mem1 := p170) (d' := d - 1) hz dX12_tiltsFrom_170 mw_X12_tiltsFrom ml_X12_485 mi_X12_tiltsFrom ht rfl rfl (Nat.le_of_ble_eq_true rfl) (Nat.le_of_ble_eq_true rfl) (by omega) rfl rfl (hrec_X12_tiltsFrom a0 ((rt_iadd a1 1)) a2 m155 _ ht hp170) ?_
      obtain rfl := Option.some.inj h
      exact RT.vret (pc := 173) dX12_tiltsFrom_173 rfl (Nat.le_of_eq (rt_cells_0 z)) (Nat.le_of_eq (rt_slots_0 z)) hK
  · rw [if_pos (Classical.not_not.mp q7)] at h
    refine RT.iconst (pc := 10) (n := 0) dX12_tiltsFrom_10 ⟨by decide, by decide⟩ ?_
    refine RT.istore_n (pc := 11) (k := 3) (x := 0) (L1 := [(2, a0), (0, a1), (0, a2), (0, 0)]) dX12_tiltsFrom_11 (Nat.le_of_ble_eq_true rfl) rfl ?_
    refine RT.wk (L1 := [(2, a0), (9, 0), (0, a2), (0, 0)]) (rt_le_s (rt_le_j (rt_le_s (rt_le_s rt_le_n)))) ?_
    obtain ⟨X12, hX12, h⟩ := Option.bind_eq_some_iff.mp h
    refine rt_it_ind (P := (fun s1 : Int × rt_M => RT G M_X12_tiltsFrom d z Q 12 [(2, a0), (9, 0), (0, a2), (0, s1.1)] [] z s1.2)) (X := (fun x1 : rt_M => RT G M_X12_tiltsFrom d z Q 63 [(2, a0), (9, 0), (0, a2), (9, 0)] [] z x1)) (fun s1 t1 h1 k1 k2 => cb_X12_tiltsFrom_12 rec_X12_tiltsFrom hrec_X12_tiltsFrom hz hd ht a2 s1 t1 h1 ⟨k1, k2⟩) 4000 ((0, mem0)) X12 hX12 ?_
    refine RT.aload_n (pc := 63) (k := 0) (x := a0) dX12_tiltsFrom_63 rfl ?_
    refine RT.dup (pc := 64) dX12_tiltsFrom_64 (show ¬ ((2 : Nat) = 1) by decide) ?_
    obtain ⟨v65, hv65, h⟩ := Option.bind_eq_some_iff.mp h
    refine RT.gf 12 65 0 (pc := 65) (x := a0) (v := v65) hz dX12_tiltsFrom_65 fl_X12_479 rfl hv65 ?_
    refine RT.iconst (pc := 68) (n := 1) dX12_tiltsFrom_68 ⟨by decide, by decide⟩ ?_
    refine RT.iadd (pc := 69) dX12_tiltsFrom_69 ?_
    obtain ⟨m70, hm70, h⟩ := Option.bind_eq_some_iff.mp h
    refine RT.pf_i 12 65 (pc := 70) (mem1 := m70) hz dX12_tiltsFrom_70 fl_X12_479 rfl rfl rfl hm70 ?_
    refine RT.iconst (pc := 73) (n := 0) dX12_tiltsFrom_73 ⟨by decide, by decide⟩ ?_
    refine RT.istore_n (pc := 74) (k := 3) (x := 0) (L1 := [(2, a0), (9, 0), (0, a2), (0, 0)]) dX12_tiltsFrom_74 (Nat.le_of_ble_eq_true rfl) rfl ?_
    obtain ⟨X75, hX75, h⟩ := Option.bind_eq_some_iff.mp h
    refine rt_it_ind (P := (fun s1 : Int × rt_M => RT G M_X12_tiltsFrom d z Q 75 [(2, a0), (9, 0), (0, a2), (0, s1.1)] [] z s1.2)) (X := (fun x1 : rt_M => RT G M_X12_tiltsFrom d z Q 148 [(9, 0), (9, 0), (9, 0), (9, 0)] [] z x1)) (fun s1 t1 h1 k1 k2 => cb_X12_tiltsFrom_75 rec_X12_tiltsFrom hrec_X12_tiltsFrom hz hd ht a2 s1 t1 h1 ⟨k1, k2⟩) 4000 ((0, m70)) X75 hX75 ?_
    obtain rfl := Option.some.inj h
    exact RT.vret (pc := 148) dX12_tiltsFrom_148 rfl (Nat.le_of_eq (rt_cells_0 z)) (Nat.le_of_eq (rt_slots_0 z)) hK
theorem C_X12_tiltsFrom {G : rt_G} {z : Nat × Nat} : ∀ (n d : Nat) (hz : 300 ≤ z.1) (hd : 6 + n ≤ d) (a0 a1 a2 : Int) (mem0 : rt_M) (t : rt_M) (ht : rt_kd a0.toNat = 20 + 12) (h : F_X12_tiltsFrom n a0 a1 a2 mem0 = some t), RM G M_X12_tiltsFrom d [(2, a0), (0, a1), (0, a2)] z mem0 none t := by
  intro n
  induction n with
  | zero => intro d hz hd a0 a1 a2 mem0 t ht h; cases h
  | succ n ih => intro d hz hd a0 a1 a2 mem0 t ht h; exact c_X12_tiltsFrom (F_X12_tiltsFrom n) (fun a0 a1 a2 mem0 t ht h => ih (d - 1) hz (by omega) a0 a1 a2 mem0 t ht h) hz (by omega) a0 a1 a2 mem0 t ht h
theorem cb_X12_laysUnder_12 {G : rt_G} {d : Nat} {z : Nat × Nat} {Q : rt_P} (hz : 300 ≤ z.1) (hd : 19 ≤ d) {a0 : Int} (ht : rt_kd a0.toNat = 20 + 12) (s : Int × rt_M) (t : (Int × rt_M) ⊕ (rt_M)) (h : b_X12_laysUnder_12 a0 s = some t) (hK : (∀ s1 : Int × rt_M, t = .inl s1 → RT G M_X12_laysUnder d z Q 12 [(2, a0), (9, 0), (0, s1.1)] [] z s1.2) ∧ (∀ x1 : rt_M, t = .inr x1 → RT G M_X12_laysUnder d z Q 31 [(2, a0), (9, 0), (9, 0)] [] z x1)) : RT G M_X12_laysUnder d z Q 12 [(2, a0), (9, 0), (0, s.1)] [] z s.2 := by
  unfold b_X12_laysUnder_12 at h
  refine RT.iload_n (pc := 12) (k := 2) (x := s.1) dX12_laysUnder_12 rfl ?_
  refine RT.bipush (pc := 13) (n := 10) dX12_laysUnder_13 ⟨by decide, by decide⟩ rfl ?_
  refine RT.icmp_ge (pc := 15) (tgt := 31) dX12_laysUnder_15 rfl (fun q15 => ?_) (fun q15 => ?_)
  · rw [if_pos q15] at h
    refine RT.wk (L1 := [(2, a0), (9, 0), (9, 0)]) (rt_le_s (rt_le_s (rt_le_j rt_le_n))) ?_
    obtain rfl := Option.some.inj h
    have q1 := hK.2 s.2 rfl
    try dsimp only at q1
    exact q1
  · rw [if_neg q15] at h
    refine RT.aload_n (pc := 18) (k := 0) (x := a0) dX12_laysUnder_18 rfl ?_
    obtain ⟨v19, hv19, h⟩ := Option.bind_eq_some_iff.mp h
    refine RT.gf 12 68 2 (pc := 19) (x := a0) (v := v19) hz dX12_laysUnder_19 fl_X12_156 rfl hv19 ?_
    refine RT.iload_n (pc := 22) (k := 2) (x := s.1) dX12_laysUnder_22 rfl ?_
    refine RT.iconst (pc := 23) (n := 0) dX12_laysUnder_23 ⟨by decide, by decide⟩ ?_
    obtain ⟨m24, hm24, h⟩ := Option.bind_eq_some_iff.mp h
    refine RT.iast (pc := 24) (x := v19) (i := s.1) (v := 0) (mem1 := m24) dX12_laysUnder_24 (rt_lts hz (by decide) (by decide) hm24) hm24 ?_
    refine RT.iinc (pc := 25) (x := s.1) (L1 := [(2, a0), (9, 0), (0, (rt_iadd s.1 1))]) dX12_laysUnder_25 rfl (Nat.le_of_ble_eq_true rfl) ⟨by decide, by decide⟩ rfl ?_
    refine RT.goto (pc := 28) (tgt := 12) dX12_laysUnder_28 rfl ?_
    obtain rfl := Option.some.inj h
    have q1 := hK.1 (((rt_iadd s.1 1), m24)) rfl
    try dsimp only at q1
    exact q1
theorem cb_X12_laysUnder_33 {G : rt_G} {d : Nat} {z : Nat × Nat} {Q : rt_P} (hz : 300 ≤ z.1) (hd : 19 ≤ d) {a0 : Int} (ht : rt_kd a0.toNat = 20 + 12) (s : Int × rt_M) (t : (Int × rt_M) ⊕ (rt_M)) (h : b_X12_laysUnder_33 a0 s = some t) (hK : (∀ s1 : Int × rt_M, t = .inl s1 → RT G M_X12_laysUnder d z Q 33 [(2, a0), (9, 0), (0, s1.1)] [] z s1.2) ∧ (∀ x1 : rt_M, t = .inr x1 → RT G M_X12_laysUnder d z Q 52 [(2, a0), (9, 0), (9, 0)] [] z x1)) : RT G M_X12_laysUnder d z Q 33 [(2, a0), (9, 0), (0, s.1)] [] z s.2 := by
  unfold b_X12_laysUnder_33 at h
  refine RT.iload_n (pc := 33) (k := 2) (x := s.1) dX12_laysUnder_33 rfl ?_
  refine RT.bipush (pc := 34) (n := 6) dX12_laysUnder_34 ⟨by decide, by decide⟩ rfl ?_
  refine RT.icmp_ge (pc := 36) (tgt := 52) dX12_laysUnder_36 rfl (fun q36 => ?_) (fun q36 => ?_)
  · rw [if_pos q36] at h
    refine RT.wk (L1 := [(2, a0), (9, 0), (9, 0)]) (rt_le_s (rt_le_s (rt_le_j rt_le_n))) ?_
    obtain rfl := Option.some.inj h
    have q1 := hK.2 s.2 rfl
    try dsimp only at q1
    exact q1
  · rw [if_neg q36] at h
    refine RT.aload_n (pc := 39) (k := 0) (x := a0) dX12_laysUnder_39 rfl ?_
    obtain ⟨v40, hv40, h⟩ := Option.bind_eq_some_iff.mp h
    refine RT.gf 12 56 2 (pc := 40) (x := a0) (v := v40) hz dX12_laysUnder_40 fl_X12_135 rfl hv40 ?_
    refine RT.iload_n (pc := 43) (k := 2) (x := s.1) dX12_laysUnder_43 rfl ?_
    refine RT.iconst (pc := 44) (n := (-1)) dX12_laysUnder_44 ⟨by decide, by decide⟩ ?_
    obtain ⟨m45, hm45, h⟩ := Option.bind_eq_some_iff.mp h
    refine RT.iast (pc := 45) (x := v40) (i := s.1) (v := (-1)) (mem1 := m45) dX12_laysUnder_45 (rt_lts hz (by decide) (by decide) hm45) hm45 ?_
    refine RT.iinc (pc := 46) (x := s.1) (L1 := [(2, a0), (9, 0), (0, (rt_iadd s.1 1))]) dX12_laysUnder_46 rfl (Nat.le_of_ble_eq_true rfl) ⟨by decide, by decide⟩ rfl ?_
    refine RT.goto (pc := 49) (tgt := 33) dX12_laysUnder_49 rfl ?_
    obtain rfl := Option.some.inj h
    have q1 := hK.1 (((rt_iadd s.1 1), m45)) rfl
    try dsimp only at q1
    exact q1
theorem c_X12_laysUnder {G : rt_G} {d : Nat} {z : Nat × Nat} (hz : 300 ≤ z.1) (hd : 19 ≤ d) (a0 : Int) (a1 : Int) (mem0 : rt_M) (t : rt_M) (ht : rt_kd a0.toNat = 20 + 12) (h : f_X12_laysUnder a0 a1 mem0 = some t) : RM G M_X12_laysUnder d [(2, a0), (0, a1)] z mem0 none t := by
  suffices H : ∀ Q : rt_P, Q none z t → RT G M_X12_laysUnder d z Q 0 [(2, a0), (0, a1), (9, 0)] [] z mem0 from H _ ⟨rfl, rfl, rfl⟩
  intro Q hK
  unfold f_X12_laysUnder at h
  refine RT.aload_n (pc := 0) (k := 0) (x := a0) dX12_laysUnder_0 rfl ?_
  refine RT.iload_n (pc := 1) (k := 1) (x := a1) dX12_laysUnder_1 rfl ?_
  obtain ⟨m2, hm2, h⟩ := Option.bind_eq_some_iff.mp h
  refine RT.pf_i 12 67 (pc := 2) (mem1 := m2) hz dX12_laysUnder_2 fl_X12_482 rfl rfl rfl hm2 ?_
  refine RT.aload_n (pc := 5) (k := 0) (x := a0) dX12_laysUnder_5 rfl ?_
  refine RT.iconst (pc := 6) (n := 0) dX12_laysUnder_6 ⟨by decide, by decide⟩ ?_
  obtain ⟨m7, hm7, h⟩ := Option.bind_eq_some_iff.mp h
  refine RT.pf_i 12 65 (pc := 7) (mem1 := m7) hz dX12_laysUnder_7 fl_X12_479 rfl rfl rfl hm7 ?_
  refine RT.iconst (pc := 10) (n := 0) dX12_laysUnder_10 ⟨by decide, by decide⟩ ?_
  refine RT.istore_n (pc := 11) (k := 2) (x := 0) (L1 := [(2, a0), (0, a1), (0, 0)]) dX12_laysUnder_11 (Nat.le_of_ble_eq_true rfl) rfl ?_
  refine RT.wk (L1 := [(2, a0), (9, 0), (0, 0)]) (rt_le_s (rt_le_j (rt_le_s rt_le_n))) ?_
  obtain ⟨X12, hX12, h⟩ := Option.bind_eq_some_iff.mp h
  refine rt_it_ind (P := (fun s1 : Int × rt_M => RT G M_X12_laysUnder d z Q 12 [(2, a0), (9, 0), (0, s1.1)] [] z s1.2)) (X := (fun x1 : rt_M => RT G M_X12_laysUnder d z Q 31 [(2, a0), (9, 0), (9, 0)] [] z x1)) (fun s1 t1 h1 k1 k2 => cb_X12_laysUnder_12 hz hd ht s1 t1 h1 ⟨k1, k2⟩) 4000 ((0, m7)) X12 hX12 ?_
  refine RT.iconst (pc := 31) (n := 0) dX12_laysUnder_31 ⟨by decide, by decide⟩ ?_
  refine RT.istore_n (pc := 32) (k := 2) (x := 0) (L1 := [(2, a0), (9, 0), (0, 0)]) dX12_laysUnder_32 (Nat.le_of_ble_eq_true rfl) rfl ?_
  obtain ⟨X33, hX33, h⟩ := Option.bind_eq_some_iff.mp h
  refine rt_it_ind (P := (fun s1 : Int × rt_M => RT G M_X12_laysUnder d z Q 33 [(2, a0), (9, 0), (0, s1.1)] [] z s1.2)) (X := (fun x1 : rt_M => RT G M_X12_laysUnder d z Q 52 [(2, a0), (9, 0), (9, 0)] [] z x1)) (fun s1 t1 h1 k1 k2 => cb_X12_laysUnder_33 hz hd ht s1 t1 h1 ⟨k1, k2⟩) 4000 ((0, X12)) X33 hX33 ?_
  refine RT.aload_n (pc := 52) (k := 0) (x := a0) dX12_laysUnder_52 rfl ?_
  refine RT.iconst (pc := 53) (n := 0) dX12_laysUnder_53 ⟨by decide, by decide⟩ ?_
  refine RT.iconst (pc := 54) (n := 0) dX12_laysUnder_54 ⟨by decide, by decide⟩ ?_
  obtain ⟨p55, hp55, h⟩ := Option.bind_eq_some_iff.mp h
  refine RT.cVz (pc := 55) (M' := M_X12_tiltsFrom) (ci := 12) (x := a0) (As := [(0, 0), (0, 0)]) (st := []) (r := none) (mem1 := p55) (d' := d - 1) hz dX12_laysUnder_55 mw_X12_tiltsFrom ml_X12_485 mi_X12_tiltsFrom ht rfl rfl (Nat.le_of_ble_eq_true rfl) (Nat.le_of_ble_eq_true rfl) (by omega) rfl rfl (C_X12_tiltsFrom 12 (d - 1) hz (by omega) a0 0 0 X33 _ ht hp55) ?_
  obtain rfl := Option.some.inj h
  exact RT.vret (pc := 58) dX12_laysUnder_58 rfl (Nat.le_of_eq (rt_cells_0 z)) (Nat.le_of_eq (rt_slots_0 z)) hK
theorem cj_X12_under_64 {G : rt_G} {d : Nat} {z : Nat × Nat} {Q : rt_P} (hz : 300 ≤ z.1) (hd : 20 ≤ d) {a0 : Int} (ht : rt_kd a0.toNat = 20 + 12) (s0 : Int) (mem0 : rt_M) (t : Int × rt_M) (h : j_X12_under_64 s0 mem0 = some t) (hK : Q (some (0, t.1)) z t.2) : RT G M_X12_under d z Q 64 [(9, 0), (9, 0)] [(0, s0)] z mem0 := by
  unfold j_X12_under_64 at h
  obtain rfl := Option.some.inj h
  exact RT.iret (pc := 64) dX12_under_64 rfl (Nat.le_of_eq (rt_cells_0 z)) (Nat.le_of_eq (rt_slots_0 z)) hK
theorem cj_X12_under_54 {G : rt_G} {d : Nat} {z : Nat × Nat} {Q : rt_P} (hz : 300 ≤ z.1) (hd : 20 ≤ d) {a0 : Int} (ht : rt_kd a0.toNat = 20 + 12) (mem0 : rt_M) (t : Int × rt_M) (h : j_X12_under_54 mem0 = some t) (hK : Q (some (0, t.1)) z t.2) : RT G M_X12_under d z Q 54 [(9, 0), (9, 0)] [] z mem0 := by
  unfold j_X12_under_54 at h
  refine RT.iconst (pc := 54) (n := (-1)) dX12_under_54 ⟨by decide, by decide⟩ ?_
  refine RT.goto (pc := 55) (tgt := 64) dX12_under_55 rfl ?_
  exact cj_X12_under_64 hz hd ht ((-1)) mem0 _ h hK
theorem cj_X12_under_21 {G : rt_G} {d : Nat} {z : Nat × Nat} {Q : rt_P} (hz : 300 ≤ z.1) (hd : 20 ≤ d) {a0 : Int} (ht : rt_kd a0.toNat = 20 + 12) (a1 : Int) (mem0 : rt_M) (t : Int × rt_M) (h : j_X12_under_21 a0 a1 mem0 = some t) (hK : Q (some (0, t.1)) z t.2) : RT G M_X12_under d z Q 21 [(2, a0), (0, a1)] [] z mem0 := by
  unfold j_X12_under_21 at h
  refine RT.aload_n (pc := 21) (k := 0) (x := a0) dX12_under_21 rfl ?_
  refine RT.iconst (pc := 22) (n := (-1)) dX12_under_22 ⟨by decide, by decide⟩ ?_
  obtain ⟨p23, hp23, h⟩ := Option.bind_eq_some_iff.mp h
  refine RT.cVz (pc := 23) (M' := M_X12_laysUnder) (ci := 12) (x := a0) (As := [(0, (-1))]) (st := []) (r := none) (mem1 := p23) (d' := d - 1) hz dX12_under_23 mw_X12_laysUnder ml_X12_488 mi_X12_laysUnder ht rfl rfl (Nat.le_of_ble_eq_true rfl) (Nat.le_of_ble_eq_true rfl) (by omega) rfl rfl (c_X12_laysUnder hz (by omega) a0 ((-1)) mem0 _ ht hp23) ?_
  refine RT.iload_n (pc := 26) (k := 1) (x := a1) dX12_under_26 rfl ?_
  refine RT.iconst (pc := 27) (n := (-1)) dX12_under_27 ⟨by decide, by decide⟩ ?_
  refine RT.icmp_ne (pc := 28) (tgt := 36) dX12_under_28 rfl (fun q28 => ?_) (fun q28 => ?_)
  · rw [if_neg q28] at h
    refine RT.aload_n (pc := 36) (k := 0) (x := a0) dX12_under_36 rfl ?_
    obtain ⟨v37, hv37, h⟩ := Option.bind_eq_some_iff.mp h
    refine RT.gf 12 65 0 (pc := 37) (x := a0) (v := v37) hz dX12_under_37 fl_X12_479 rfl hv37 ?_
    refine RT.if_eq (pc := 40) (tgt := 54) dX12_under_40 rfl (fun q40 => ?_) (fun q40 => ?_)
    · rw [if_pos q40] at h
      refine RT.wk (L1 := [(9, 0), (9, 0)]) (rt_le_j (rt_le_j rt_le_n)) ?_
      exact cj_X12_under_54 hz hd ht p23 _ h hK
    · rw [if_neg q40] at h
      refine RT.aload_n (pc := 43) (k := 0) (x := a0) dX12_under_43 rfl ?_
      obtain ⟨v44, hv44, h⟩ := Option.bind_eq_some_iff.mp h
      refine RT.gf 12 66 2 (pc := 44) (x := a0) (v := v44) hz dX12_under_44 fl_X12_153 rfl hv44 ?_
      refine RT.iload_n (pc := 47) (k := 1) (x := a1) dX12_under_47 rfl ?_
      obtain ⟨v48, hv48, h⟩ := Option.bind_eq_some_iff.mp h
      refine RT.iald (pc := 48) (x := v44) (i := a1) (v := v48) dX12_under_48 (rt_lta hz (by decide) (by decide) hv48) hv48 ?_
      refine RT.bipush (pc := 49) (n := 6) dX12_under_49 ⟨by decide, by decide⟩ rfl ?_
      refine RT.icmp_ne (pc := 51) (tgt := 58) dX12_under_51 rfl (fun q51 => ?_) (fun q51 => ?_)
      · rw [if_neg q51] at h
        refine RT.aload_n (pc := 58) (k := 0) (x := a0) dX12_under_58 rfl ?_
        obtain ⟨v59, hv59, h⟩ := Option.bind_eq_some_iff.mp h
        refine RT.gf 12 66 2 (pc := 59) (x := a0) (v := v59) hz dX12_under_59 fl_X12_153 rfl hv59 ?_
        refine RT.iload_n (pc := 62) (k := 1) (x := a1) dX12_under_62 rfl ?_
        obtain ⟨v63, hv63, h⟩ := Option.bind_eq_some_iff.mp h
        refine RT.iald (pc := 63) (x := v59) (i := a1) (v := v63) dX12_under_63 (rt_lta hz (by decide) (by decide) hv63) hv63 ?_
        refine RT.wk (L1 := [(9, 0), (9, 0)]) (rt_le_j (rt_le_j rt_le_n)) ?_
        exact cj_X12_under_64 hz hd ht v63 p23 _ h hK
      · rw [if_pos (Classical.not_not.mp q51)] at h
        refine RT.wk (L1 := [(9, 0), (9, 0)]) (rt_le_j (rt_le_j rt_le_n)) ?_
        exact cj_X12_under_54 hz hd ht p23 _ h hK
  · rw [if_pos (Classical.not_not.mp q28)] at h
    refine RT.aload_n (pc := 31) (k := 0) (x := a0) dX12_under_31 rfl ?_
    obtain ⟨v32, hv32, h⟩ := Option.bind_eq_some_iff.mp h
    refine RT.gf 12 65 0 (pc := 32) (x := a0) (v := v32) hz dX12_under_32 fl_X12_479 rfl hv32 ?_
    obtain rfl := Option.some.inj h
    exact RT.iret (pc := 35) dX12_under_35 rfl (Nat.le_of_eq (rt_cells_0 z)) (Nat.le_of_eq (rt_slots_0 z)) hK
theorem c_X12_under {G : rt_G} {d : Nat} {z : Nat × Nat} (hz : 300 ≤ z.1) (hd : 20 ≤ d) (a0 : Int) (a1 : Int) (mem0 : rt_M) (t : Int × rt_M) (ht : rt_kd a0.toNat = 20 + 12) (h : f_X12_under a0 a1 mem0 = some t) : RM G M_X12_under d [(2, a0), (0, a1)] z mem0 (some (0, t.1)) t.2 := by
  suffices H : ∀ Q : rt_P, Q (some (0, t.1)) z t.2 → RT G M_X12_under d z Q 0 [(2, a0), (0, a1)] [] z mem0 from H _ ⟨rfl, rfl, rfl⟩
  intro Q hK
  unfold f_X12_under at h
  refine RT.aload_n (pc := 0) (k := 0) (x := a0) dX12_under_0 rfl ?_
  refine RT.iconst (pc := 1) (n := 0) dX12_under_1 ⟨by decide, by decide⟩ ?_
  obtain ⟨m2, hm2, h⟩ := Option.bind_eq_some_iff.mp h
  refine RT.pf_i 12 0 (pc := 2) (mem1 := m2) hz dX12_under_2 fl_X12_171 rfl rfl rfl hm2 ?_
  refine RT.iload_n (pc := 5) (k := 1) (x := a1) dX12_under_5 rfl ?_
  refine RT.iconst (pc := 6) (n := (-1)) dX12_under_6 ⟨by decide, by decide⟩ ?_
  refine RT.icmp_eq (pc := 7) (tgt := 21) dX12_under_7 rfl (fun q7 => ?_) (fun q7 => ?_)
  · rw [if_pos q7] at h
    exact cj_X12_under_21 hz hd ht a1 m2 _ h hK
  · rw [if_neg q7] at h
    refine RT.aload_n (pc := 10) (k := 0) (x := a0) dX12_under_10 rfl ?_
    refine RT.iload_n (pc := 11) (k := 1) (x := a1) dX12_under_11 rfl ?_
    obtain ⟨p12, hp12, h⟩ := Option.bind_eq_some_iff.mp h
    refine RT.cVz (pc := 12) (M' := M_X12_isWig) (ci := 12) (x := a0) (As := [(0, a1)]) (st := []) (r := some (0, p12)) (mem1 := m2) (d' := d - 1) hz dX12_under_12 mw_X12_isWig ml_X12_414 mi_X12_isWig ht rfl rfl (Nat.le_of_ble_eq_true rfl) (Nat.le_of_ble_eq_true rfl) (by omega) rfl rfl (c_X12_isWig hz (by omega) a0 a1 m2 _ ht hp12) ?_
    refine RT.if_ne (pc := 15) (tgt := 21) dX12_under_15 rfl (fun q15 => ?_) (fun q15 => ?_)
    · rw [if_neg q15] at h
      exact cj_X12_under_21 hz hd ht a1 m2 _ h hK
    · rw [if_pos (Classical.not_not.mp q15)] at h
      refine RT.bipush (pc := 18) (n := (-2)) dX12_under_18 ⟨by decide, by decide⟩ rfl ?_
      obtain rfl := Option.some.inj h
      exact RT.iret (pc := 20) dX12_under_20 rfl (Nat.le_of_eq (rt_cells_0 z)) (Nat.le_of_eq (rt_slots_0 z)) hK
theorem cb_X12_ask_47 {G : rt_G} {d : Nat} {z : Nat × Nat} {Q : rt_P} (hz : 300 ≤ z.1) (hd : 20 ≤ d) {a0 : Int} (ht : rt_kd a0.toNat = 20 + 12) (a1 : Int) (a2 : Int) (a3 : Int) (s : Int × Int × Int × rt_M) (t : (Int × Int × Int × rt_M) ⊕ (Int × Int × rt_M)) (h : b_X12_ask_47 a0 a1 a2 a3 s = some t) (hK : (∀ s1 : Int × Int × Int × rt_M, t = .inl s1 → RT G M_X12_ask d z Q 47 [(2, a0), (0, a1), (0, a2), (0, a3), (0, s1.1), (0, s1.2.1), (0, s1.2.2.1)] [] z s1.2.2.2) ∧ (∀ x1 : Int × Int × rt_M, t = .inr x1 → RT G M_X12_ask d z Q 86 [(2, a0), (0, a1), (0, a2), (0, a3), (0, x1.1), (0, x1.2.1), (9, 0)] [] z x1.2.2)) : RT G M_X12_ask d z Q 47 [(2, a0), (0, a1), (0, a2), (0, a3), (0, s.1), (0, s.2.1), (0, s.2.2.1)] [] z s.2.2.2 := by
  unfold b_X12_ask_47 at h
  refine RT.iload (pc := 47) (k := 6) (x := s.2.2.1) dX12_ask_47 rfl ?_
  refine RT.bipush (pc := 49) (n := 10) dX12_ask_49 ⟨by decide, by decide⟩ rfl ?_
  refine RT.icmp_ge (pc := 51) (tgt := 86) dX12_ask_51 rfl (fun q51 => ?_) (fun q51 => ?_)
  · rw [if_pos q51] at h
    refine RT.wk (L1 := [(2, a0), (0, a1), (0, a2), (0, a3), (0, s.1), (0, s.2.1), (9, 0)]) (rt_le_s (rt_le_s (rt_le_s (rt_le_s (rt_le_s (rt_le_s (rt_le_j rt_le_n))))))) ?_
    obtain rfl := Option.some.inj h
    have q1 := hK.2 ((s.1, s.2.1, s.2.2.2)) rfl
    try dsimp only at q1
    exact q1
  · rw [if_neg q51] at h
    refine RT.iload (pc := 54) (k := 4) (x := s.1) dX12_ask_54 rfl ?_
    refine RT.aload_n (pc := 56) (k := 0) (x := a0) dX12_ask_56 rfl ?_
    obtain ⟨v57, hv57, h⟩ := Option.bind_eq_some_iff.mp h
    refine RT.gf 12 68 2 (pc := 57) (x := a0) (v := v57) hz dX12_ask_57 fl_X12_156 rfl hv57 ?_
    refine RT.iload (pc := 60) (k := 6) (x := s.2.2.1) dX12_ask_60 rfl ?_
    obtain ⟨v62, hv62, h⟩ := Option.bind_eq_some_iff.mp h
    refine RT.iald (pc := 62) (x := v57) (i := s.2.2.1) (v := v62) dX12_ask_62 (rt_lta hz (by decide) (by decide) hv62) hv62 ?_
    refine RT.iadd (pc := 63) dX12_ask_63 ?_
    refine RT.istore (pc := 64) (k := 4) (x := (rt_iadd s.1 v62)) (L1 := [(2, a0), (0, a1), (0, a2), (0, a3), (0, (rt_iadd s.1 v62)), (0, s.2.1), (0, s.2.2.1)]) dX12_ask_64 (Nat.le_of_ble_eq_true rfl) rfl ?_
    refine RT.iload (pc := 66) (k := 5) (x := s.2.1) dX12_ask_66 rfl ?_
    refine RT.aload_n (pc := 68) (k := 0) (x := a0) dX12_ask_68 rfl ?_
    obtain ⟨v69, hv69, h⟩ := Option.bind_eq_some_iff.mp h
    refine RT.gf 12 68 2 (pc := 69) (x := a0) (v := v69) hz dX12_ask_69 fl_X12_156 rfl hv69 ?_
    refine RT.iload (pc := 72) (k := 6) (x := s.2.2.1) dX12_ask_72 rfl ?_
    obtain ⟨v74, hv74, h⟩ := Option.bind_eq_some_iff.mp h
    refine RT.iald (pc := 74) (x := v69) (i := s.2.2.1) (v := v74) dX12_ask_74 (rt_lta hz (by decide) (by decide) hv74) hv74 ?_
    obtain ⟨p75, hp75, h⟩ := Option.bind_eq_some_iff.mp h
    refine RT.cSz (pc := 75) (M' := M_J9_max_7cf53) (As := [(0, s.2.1), (0, v74)]) (st := []) (r := some (0, p75)) (mem1 := s.2.2.2) (d' := d - 1) dX12_ask_75 mw_J9_max_7cf53 ml_X12_467 mi_J9_max_7cf53 rfl rfl (Nat.le_of_ble_eq_true rfl) (Nat.le_of_ble_eq_true rfl) (by omega) rfl rfl (c_J9_max_7cf53 hz (by omega) s.2.1 v74 s.2.2.2 _ hp75) ?_
    refine RT.istore (pc := 78) (k := 5) (x := p75) (L1 := [(2, a0), (0, a1), (0, a2), (0, a3), (0, (rt_iadd s.1 v62)), (0, p75), (0, s.2.2.1)]) dX12_ask_78 (Nat.le_of_ble_eq_true rfl) rfl ?_
    refine RT.iinc (pc := 80) (x := s.2.2.1) (L1 := [(2, a0), (0, a1), (0, a2), (0, a3), (0, (rt_iadd s.1 v62)), (0, p75), (0, (rt_iadd s.2.2.1 1))]) dX12_ask_80 rfl (Nat.le_of_ble_eq_true rfl) ⟨by decide, by decide⟩ rfl ?_
    refine RT.goto (pc := 83) (tgt := 47) dX12_ask_83 rfl ?_
    obtain rfl := Option.some.inj h
    have q1 := hK.1 (((rt_iadd s.1 v62), p75, (rt_iadd s.2.2.1 1), s.2.2.2)) rfl
    try dsimp only at q1
    exact q1
theorem cj_X12_ask_111_11 {G : rt_G} {d : Nat} {z : Nat × Nat} {Q : rt_P} (hz : 300 ≤ z.1) (hd : 20 ≤ d) {a0 : Int} (ht : rt_kd a0.toNat = 20 + 12) (a1 : Int) (a2 : Int) (a3 : Int) (mem0 : rt_M) (t : (Int × Int × Int × rt_M) ⊕ (Int × rt_M)) (h : j_X12_ask_111_11 a0 a1 a2 a3 mem0 = some t) (hK : (∀ s1 : Int × Int × Int × rt_M, t = .inl s1 → RT G M_X12_ask d z Q 11 [(2, a0), (0, s1.1), (0, s1.2.1), (0, s1.2.2.1), (9, 0), (9, 0), (9, 0)] [] z s1.2.2.2) ∧ (∀ x1 : Int × rt_M, t = .inr x1 → RT G M_X12_ask d z Q 117 [(9, 0), (0, x1.1), (9, 0), (9, 0), (9, 0), (9, 0), (9, 0)] [] z x1.2)) : RT G M_X12_ask d z Q 111 [(2, a0), (0, a1), (0, a2), (0, a3), (9, 0), (9, 0), (9, 0)] [] z mem0 := by
  unfold j_X12_ask_111_11 at h
  refine RT.iinc (pc := 111) (x := a3) (L1 := [(2, a0), (0, a1), (0, a2), (0, (rt_iadd a3 1)), (9, 0), (9, 0), (9, 0)]) dX12_ask_111 rfl (Nat.le_of_ble_eq_true rfl) ⟨by decide, by decide⟩ rfl ?_
  refine RT.goto (pc := 114) (tgt := 11) dX12_ask_114 rfl ?_
  obtain rfl := Option.some.inj h
  have q1 := hK.1 ((a1, a2, (rt_iadd a3 1), mem0)) rfl
  try dsimp only at q1
  exact q1
theorem cj_X12_ask_106_11 {G : rt_G} {d : Nat} {z : Nat × Nat} {Q : rt_P} (hz : 300 ≤ z.1) (hd : 20 ≤ d) {a0 : Int} (ht : rt_kd a0.toNat = 20 + 12) (a3 : Int) (a5 : Int) (mem0 : rt_M) (t : (Int × Int × Int × rt_M) ⊕ (Int × rt_M)) (h : j_X12_ask_106_11 a0 a3 a5 mem0 = some t) (hK : (∀ s1 : Int × Int × Int × rt_M, t = .inl s1 → RT G M_X12_ask d z Q 11 [(2, a0), (0, s1.1), (0, s1.2.1), (0, s1.2.2.1), (9, 0), (9, 0), (9, 0)] [] z s1.2.2.2) ∧ (∀ x1 : Int × rt_M, t = .inr x1 → RT G M_X12_ask d z Q 117 [(9, 0), (0, x1.1), (9, 0), (9, 0), (9, 0), (9, 0), (9, 0)] [] z x1.2)) : RT G M_X12_ask d z Q 106 [(2, a0), (9, 0), (9, 0), (0, a3), (9, 0), (0, a5), (9, 0)] [] z mem0 := by
  unfold j_X12_ask_106_11 at h
  refine RT.iload_n (pc := 106) (k := 3) (x := a3) dX12_ask_106 rfl ?_
  refine RT.istore_n (pc := 107) (k := 1) (x := a3) (L1 := [(2, a0), (0, a3), (9, 0), (0, a3), (9, 0), (0, a5), (9, 0)]) dX12_ask_107 (Nat.le_of_ble_eq_true rfl) rfl ?_
  refine RT.iload (pc := 108) (k := 5) (x := a5) dX12_ask_108 rfl ?_
  refine RT.istore_n (pc := 110) (k := 2) (x := a5) (L1 := [(2, a0), (0, a3), (0, a5), (0, a3), (9, 0), (0, a5), (9, 0)]) dX12_ask_110 (Nat.le_of_ble_eq_true rfl) rfl ?_
  refine RT.wk (L1 := [(2, a0), (0, a3), (0, a5), (0, a3), (9, 0), (9, 0), (9, 0)]) (rt_le_s (rt_le_s (rt_le_s (rt_le_s (rt_le_s (rt_le_j (rt_le_s rt_le_n))))))) ?_
  exact cj_X12_ask_111_11 hz hd ht a3 a5 a3 mem0 _ h hK
theorem cb_X12_ask_11 {G : rt_G} {d : Nat} {z : Nat × Nat} {Q : rt_P} (hz : 300 ≤ z.1) (hd : 20 ≤ d) {a0 : Int} (ht : rt_kd a0.toNat = 20 + 12) (s : Int × Int × Int × rt_M) (t : (Int × Int × Int × rt_M) ⊕ (Int × rt_M)) (h : b_X12_ask_11 a0 s = some t) (hK : (∀ s1 : Int × Int × Int × rt_M, t = .inl s1 → RT G M_X12_ask d z Q 11 [(2, a0), (0, s1.1), (0, s1.2.1), (0, s1.2.2.1), (9, 0), (9, 0), (9, 0)] [] z s1.2.2.2) ∧ (∀ x1 : Int × rt_M, t = .inr x1 → RT G M_X12_ask d z Q 117 [(9, 0), (0, x1.1), (9, 0), (9, 0), (9, 0), (9, 0), (9, 0)] [] z x1.2)) : RT G M_X12_ask d z Q 11 [(2, a0), (0, s.1), (0, s.2.1), (0, s.2.2.1), (9, 0), (9, 0), (9, 0)] [] z s.2.2.2 := by
  unfold b_X12_ask_11 at h
  refine RT.iload_n (pc := 11) (k := 3) (x := s.2.2.1) dX12_ask_11 rfl ?_
  refine RT.aload_n (pc := 12) (k := 0) (x := a0) dX12_ask_12 rfl ?_
  obtain ⟨v13, hv13, h⟩ := Option.bind_eq_some_iff.mp h
  refine RT.gf 12 10 2 (pc := 13) (x := a0) (v := v13) hz dX12_ask_13 fl_X12_13 rfl hv13 ?_
  refine RT.iconst (pc := 16) (n := 0) dX12_ask_16 ⟨by decide, by decide⟩ ?_
  obtain ⟨v17, hv17, h⟩ := Option.bind_eq_some_iff.mp h
  refine RT.iald (pc := 17) (x := v13) (i := 0) (v := v17) dX12_ask_17 (rt_lta hz (by decide) (by decide) hv17) hv17 ?_
  refine RT.icmp_ge (pc := 18) (tgt := 117) dX12_ask_18 rfl (fun q18 => ?_) (fun q18 => ?_)
  · rw [if_pos q18] at h
    refine RT.wk (L1 := [(9, 0), (0, s.1), (9, 0), (9, 0), (9, 0), (9, 0), (9, 0)]) (rt_le_j (rt_le_s (rt_le_j (rt_le_j (rt_le_s (rt_le_s (rt_le_s rt_le_n))))))) ?_
    obtain rfl := Option.some.inj h
    have q1 := hK.2 ((s.1, s.2.2.2)) rfl
    try dsimp only at q1
    exact q1
  · rw [if_neg q18] at h
    refine RT.aload_n (pc := 21) (k := 0) (x := a0) dX12_ask_21 rfl ?_
    obtain ⟨v22, hv22, h⟩ := Option.bind_eq_some_iff.mp h
    refine RT.gf 12 49 2 (pc := 22) (x := a0) (v := v22) hz dX12_ask_22 fl_X12_117 rfl hv22 ?_
    refine RT.iload_n (pc := 25) (k := 3) (x := s.2.2.1) dX12_ask_25 rfl ?_
    obtain ⟨v26, hv26, h⟩ := Option.bind_eq_some_iff.mp h
    refine RT.iald (pc := 26) (x := v22) (i := s.2.2.1) (v := v26) dX12_ask_26 (rt_lta hz (by decide) (by decide) hv26) hv26 ?_
    refine RT.if_lt (pc := 27) (tgt := 33) dX12_ask_27 rfl (fun q27 => ?_) (fun q27 => ?_)
    · rw [if_pos q27] at h
      refine RT.aload_n (pc := 33) (k := 0) (x := a0) dX12_ask_33 rfl ?_
      refine RT.iload_n (pc := 34) (k := 3) (x := s.2.2.1) dX12_ask_34 rfl ?_
      obtain ⟨p35, hp35, h⟩ := Option.bind_eq_some_iff.mp h
      refine RT.cVz (pc := 35) (M' := M_X12_laysUnder) (ci := 12) (x := a0) (As := [(0, s.2.2.1)]) (st := []) (r := none) (mem1 := p35) (d' := d - 1) hz dX12_ask_35 mw_X12_laysUnder ml_X12_488 mi_X12_laysUnder ht rfl rfl (Nat.le_of_ble_eq_true rfl) (Nat.le_of_ble_eq_true rfl) (by omega) rfl rfl (c_X12_laysUnder hz (by omega) a0 s.2.2.1 s.2.2.2 _ ht hp35) ?_
      refine RT.iconst (pc := 38) (n := 0) dX12_ask_38 ⟨by decide, by decide⟩ ?_
      refine RT.istore (pc := 39) (k := 4) (x := 0) (L1 := [(2, a0), (0, s.1), (0, s.2.1), (0, s.2.2.1), (0, 0), (9, 0), (9, 0)]) dX12_ask_39 (Nat.le_of_ble_eq_true rfl) rfl ?_
      refine RT.iconst (pc := 41) (n := 0) dX12_ask_41 ⟨by decide, by decide⟩ ?_
      refine RT.istore (pc := 42) (k := 5) (x := 0) (L1 := [(2, a0), (0, s.1), (0, s.2.1), (0, s.2.2.1), (0, 0), (0, 0), (9, 0)]) dX12_ask_42 (Nat.le_of_ble_eq_true rfl) rfl ?_
      refine RT.iconst (pc := 44) (n := 0) dX12_ask_44 ⟨by decide, by decide⟩ ?_
      refine RT.istore (pc := 45) (k := 6) (x := 0) (L1 := [(2, a0), (0, s.1), (0, s.2.1), (0, s.2.2.1), (0, 0), (0, 0), (0, 0)]) dX12_ask_45 (Nat.le_of_ble_eq_true rfl) rfl ?_
      obtain ⟨X47, hX47, h⟩ := Option.bind_eq_some_iff.mp h
      refine rt_it_ind (P := (fun s1 : Int × Int × Int × rt_M => RT G M_X12_ask d z Q 47 [(2, a0), (0, s.1), (0, s.2.1), (0, s.2.2.1), (0, s1.1), (0, s1.2.1), (0, s1.2.2.1)] [] z s1.2.2.2)) (X := (fun x1 : Int × Int × rt_M => RT G M_X12_ask d z Q 86 [(2, a0), (0, s.1), (0, s.2.1), (0, s.2.2.1), (0, x1.1), (0, x1.2.1), (9, 0)] [] z x1.2.2)) (fun s1 t1 h1 k1 k2 => cb_X12_ask_47 hz hd ht s.1 s.2.1 s.2.2.1 s1 t1 h1 ⟨k1, k2⟩) 4000 ((0, 0, 0, p35)) X47 hX47 ?_
      refine RT.iload (pc := 86) (k := 5) (x := X47.2.1) dX12_ask_86 rfl ?_
      refine RT.iload (pc := 88) (k := 4) (x := X47.1) dX12_ask_88 rfl ?_
      refine RT.icmp_eq (pc := 90) (tgt := 111) dX12_ask_90 rfl (fun q90 => ?_) (fun q90 => ?_)
      · rw [if_pos q90] at h
        refine RT.wk (L1 := [(2, a0), (0, s.1), (0, s.2.1), (0, s.2.2.1), (9, 0), (9, 0), (9, 0)]) (rt_le_s (rt_le_s (rt_le_s (rt_le_s (rt_le_j (rt_le_j (rt_le_s rt_le_n))))))) ?_
        exact cj_X12_ask_111_11 hz hd ht s.1 s.2.1 s.2.2.1 X47.2.2 _ h hK
      · rw [if_neg q90] at h
        refine RT.iload_n (pc := 93) (k := 1) (x := s.1) dX12_ask_93 rfl ?_
        refine RT.if_lt (pc := 94) (tgt := 106) dX12_ask_94 rfl (fun q94 => ?_) (fun q94 => ?_)
        · rw [if_pos q94] at h
          refine RT.wk (L1 := [(2, a0), (9, 0), (9, 0), (0, s.2.2.1), (9, 0), (0, X47.2.1), (9, 0)]) (rt_le_s (rt_le_j (rt_le_j (rt_le_s (rt_le_j (rt_le_s (rt_le_s rt_le_n))))))) ?_
          exact cj_X12_ask_106_11 hz hd ht s.2.2.1 X47.2.1 X47.2.2 _ h hK
        · rw [if_neg q94] at h
          refine RT.iload (pc := 97) (k := 5) (x := X47.2.1) dX12_ask_97 rfl ?_
          refine RT.iload_n (pc := 99) (k := 2) (x := s.2.1) dX12_ask_99 rfl ?_
          refine RT.icmp_lt (pc := 100) (tgt := 106) dX12_ask_100 rfl (fun q100 => ?_) (fun q100 => ?_)
          · rw [if_pos q100] at h
            refine RT.wk (L1 := [(2, a0), (9, 0), (9, 0), (0, s.2.2.1), (9, 0), (0, X47.2.1), (9, 0)]) (rt_le_s (rt_le_j (rt_le_j (rt_le_s (rt_le_j (rt_le_s (rt_le_s rt_le_n))))))) ?_
            exact cj_X12_ask_106_11 hz hd ht s.2.2.1 X47.2.1 X47.2.2 _ h hK
          · rw [if_neg q100] at h
            refine RT.goto (pc := 103) (tgt := 111) dX12_ask_103 rfl ?_
            refine RT.wk (L1 := [(2, a0), (0, s.1), (0, s.2.1), (0, s.2.2.1), (9, 0), (9, 0), (9, 0)]) (rt_le_s (rt_le_s (rt_le_s (rt_le_s (rt_le_j (rt_le_j (rt_le_s rt_le_n))))))) ?_
            exact cj_X12_ask_111_11 hz hd ht s.1 s.2.1 s.2.2.1 X47.2.2 _ h hK
    · rw [if_neg q27] at h
      refine RT.goto (pc := 30) (tgt := 111) dX12_ask_30 rfl ?_
      exact cj_X12_ask_111_11 hz hd ht s.1 s.2.1 s.2.2.1 s.2.2.2 _ h hK
theorem c_X12_ask {G : rt_G} {d : Nat} {z : Nat × Nat} (hz : 300 ≤ z.1) (hd : 20 ≤ d) (a0 : Int) (mem0 : rt_M) (t : Int × rt_M) (ht : rt_kd a0.toNat = 20 + 12) (h : f_X12_ask a0 mem0 = some t) : RM G M_X12_ask d [(2, a0)] z mem0 (some (0, t.1)) t.2 := by
  suffices H : ∀ Q : rt_P, Q (some (0, t.1)) z t.2 → RT G M_X12_ask d z Q 0 [(2, a0), (9, 0), (9, 0), (9, 0), (9, 0), (9, 0), (9, 0)] [] z mem0 from H _ ⟨rfl, rfl, rfl⟩
  intro Q hK
  unfold f_X12_ask at h
  refine RT.aload_n (pc := 0) (k := 0) (x := a0) dX12_ask_0 rfl ?_
  refine RT.iconst (pc := 1) (n := 0) dX12_ask_1 ⟨by decide, by decide⟩ ?_
  obtain ⟨m2, hm2, h⟩ := Option.bind_eq_some_iff.mp h
  refine RT.pf_i 12 0 (pc := 2) (mem1 := m2) hz dX12_ask_2 fl_X12_171 rfl rfl rfl hm2 ?_
  refine RT.iconst (pc := 5) (n := (-1)) dX12_ask_5 ⟨by decide, by decide⟩ ?_
  refine RT.istore_n (pc := 6) (k := 1) (x := (-1)) (L1 := [(2, a0), (0, (-1)), (9, 0), (9, 0), (9, 0), (9, 0), (9, 0)]) dX12_ask_6 (Nat.le_of_ble_eq_true rfl) rfl ?_
  refine RT.iconst (pc := 7) (n := 0) dX12_ask_7 ⟨by decide, by decide⟩ ?_
  refine RT.istore_n (pc := 8) (k := 2) (x := 0) (L1 := [(2, a0), (0, (-1)), (0, 0), (9, 0), (9, 0), (9, 0), (9, 0)]) dX12_ask_8 (Nat.le_of_ble_eq_true rfl) rfl ?_
  refine RT.iconst (pc := 9) (n := 0) dX12_ask_9 ⟨by decide, by decide⟩ ?_
  refine RT.istore_n (pc := 10) (k := 3) (x := 0) (L1 := [(2, a0), (0, (-1)), (0, 0), (0, 0), (9, 0), (9, 0), (9, 0)]) dX12_ask_10 (Nat.le_of_ble_eq_true rfl) rfl ?_
  obtain ⟨X11, hX11, h⟩ := Option.bind_eq_some_iff.mp h
  refine rt_it_ind (P := (fun s1 : Int × Int × Int × rt_M => RT G M_X12_ask d z Q 11 [(2, a0), (0, s1.1), (0, s1.2.1), (0, s1.2.2.1), (9, 0), (9, 0), (9, 0)] [] z s1.2.2.2)) (X := (fun x1 : Int × rt_M => RT G M_X12_ask d z Q 117 [(9, 0), (0, x1.1), (9, 0), (9, 0), (9, 0), (9, 0), (9, 0)] [] z x1.2)) (fun s1 t1 h1 k1 k2 => cb_X12_ask_11 hz hd ht s1 t1 h1 ⟨k1, k2⟩) 4000 (((-1), 0, 0, m2)) X11 hX11 ?_
  refine RT.iload_n (pc := 117) (k := 1) (x := X11.1) dX12_ask_117 rfl ?_
  obtain rfl := Option.some.inj h
  exact RT.iret (pc := 118) dX12_ask_118 rfl (Nat.le_of_eq (rt_cells_0 z)) (Nat.le_of_eq (rt_slots_0 z)) hK
