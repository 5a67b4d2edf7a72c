theorem cj_X12_tests_136 {G : rt_G} {d : Nat} {z : Nat × Nat} {Q : rt_P} (hz : 300 ≤ z.1) (hd : 1 ≤ d) {a0 : Int} (ht : rt_kd a0.toNat = 20 + 12) (a1 : Int) (a2 : Int) (mem0 : rt_M) (t : rt_M) (h : j_X12_tests_136 a0 a1 a2 mem0 = some t) (hK : Q none z t) : RT G M_X12_tests d z Q 136 [(2, a0), (0, a1), (0, a2)] [] z mem0 := by
  unfold j_X12_tests_136 at h
  refine RT.aload_n (pc := 136) (k := 0) (x := a0) dX12_tests_136 rfl ?_
  obtain ⟨v137, hv137, h⟩ := Option.bind_eq_some_iff.mp h
  refine RT.gf 12 29 2 (pc := 137) (x := a0) (v := v137) hz dX12_tests_137 fl_X12_63 rfl hv137 ?_
  refine RT.iload_n (pc := 140) (k := 1) (x := a1) dX12_tests_140 rfl ?_
  refine RT.iload_n (pc := 141) (k := 2) (x := a2) dX12_tests_141 rfl ?_
  obtain ⟨m142, hm142, h⟩ := Option.bind_eq_some_iff.mp h
  refine RT.iast (pc := 142) (x := v137) (i := a1) (v := a2) (mem1 := m142) dX12_tests_142 (rt_lts hz (by decide) (by decide) hm142) hm142 ?_
  refine RT.aload_n (pc := 143) (k := 0) (x := a0) dX12_tests_143 rfl ?_
  obtain ⟨v144, hv144, h⟩ := Option.bind_eq_some_iff.mp h
  refine RT.gf 12 32 2 (pc := 144) (x := a0) (v := v144) hz dX12_tests_144 fl_X12_72 rfl hv144 ?_
  refine RT.iload_n (pc := 147) (k := 1) (x := a1) dX12_tests_147 rfl ?_
  refine RT.iconst (pc := 148) (n := 0) dX12_tests_148 ⟨by decide, by decide⟩ ?_
  obtain ⟨m149, hm149, h⟩ := Option.bind_eq_some_iff.mp h
  refine RT.iast (pc := 149) (x := v144) (i := a1) (v := 0) (mem1 := m149) dX12_tests_149 (rt_lts hz (by decide) (by decide) hm149) hm149 ?_
  refine RT.aload_n (pc := 150) (k := 0) (x := a0) dX12_tests_150 rfl ?_
  obtain ⟨v151, hv151, h⟩ := Option.bind_eq_some_iff.mp h
  refine RT.gf 12 33 2 (pc := 151) (x := a0) (v := v151) hz dX12_tests_151 fl_X12_75 rfl hv151 ?_
  refine RT.iload_n (pc := 154) (k := 1) (x := a1) dX12_tests_154 rfl ?_
  refine RT.iconst (pc := 155) (n := 0) dX12_tests_155 ⟨by decide, by decide⟩ ?_
  obtain ⟨m156, hm156, h⟩ := Option.bind_eq_some_iff.mp h
  refine RT.iast (pc := 156) (x := v151) (i := a1) (v := 0) (mem1 := m156) dX12_tests_156 (rt_lts hz (by decide) (by decide) hm156) hm156 ?_
  refine RT.aload_n (pc := 157) (k := 0) (x := a0) dX12_tests_157 rfl ?_
  obtain ⟨v158, hv158, h⟩ := Option.bind_eq_some_iff.mp h
  refine RT.gf 12 34 2 (pc := 158) (x := a0) (v := v158) hz dX12_tests_158 fl_X12_78 rfl hv158 ?_
  refine RT.iload_n (pc := 161) (k := 1) (x := a1) dX12_tests_161 rfl ?_
  refine RT.bipush (pc := 162) (n := 20) dX12_tests_162 ⟨by decide, by decide⟩ rfl ?_
  obtain ⟨m164, hm164, h⟩ := Option.bind_eq_some_iff.mp h
  refine RT.iast (pc := 164) (x := v158) (i := a1) (v := 20) (mem1 := m164) dX12_tests_164 (rt_lts hz (by decide) (by decide) hm164) hm164 ?_
  obtain rfl := Option.some.inj h
  exact RT.vret (pc := 165) dX12_tests_165 rfl (Nat.le_of_eq (rt_cells_0 z)) (Nat.le_of_eq (rt_slots_0 z)) hK
theorem cj_X12_tests_135 {G : rt_G} {d : Nat} {z : Nat × Nat} {Q : rt_P} (hz : 300 ≤ z.1) (hd : 1 ≤ d) {a0 : Int} (ht : rt_kd a0.toNat = 20 + 12) (a1 : Int) (s0 : Int) (mem0 : rt_M) (t : rt_M) (h : j_X12_tests_135 a0 a1 s0 mem0 = some t) (hK : Q none z t) : RT G M_X12_tests d z Q 135 [(2, a0), (0, a1), (9, 0)] [(0, s0)] z mem0 := by
  unfold j_X12_tests_135 at h
  refine RT.istore_n (pc := 135) (k := 2) (x := s0) (L1 := [(2, a0), (0, a1), (0, s0)]) dX12_tests_135 (Nat.le_of_ble_eq_true rfl) rfl ?_
  exact cj_X12_tests_136 hz hd ht a1 s0 mem0 _ h hK
theorem cj_X12_tests_130 {G : rt_G} {d : Nat} {z : Nat × Nat} {Q : rt_P} (hz : 300 ≤ z.1) (hd : 1 ≤ d) {a0 : Int} (ht : rt_kd a0.toNat = 20 + 12) (a1 : Int) (mem0 : rt_M) (t : rt_M) (h : j_X12_tests_130 a0 a1 mem0 = some t) (hK : Q none z t) : RT G M_X12_tests d z Q 130 [(2, a0), (0, a1), (9, 0)] [] z mem0 := by
  unfold j_X12_tests_130 at h
  refine RT.iconst (pc := 130) (n := 1) dX12_tests_130 ⟨by decide, by decide⟩ ?_
  refine RT.goto (pc := 131) (tgt := 135) dX12_tests_131 rfl ?_
  exact cj_X12_tests_135 hz hd ht a1 1 mem0 _ h hK
theorem cj_X12_tests_106 {G : rt_G} {d : Nat} {z : Nat × Nat} {Q : rt_P} (hz : 300 ≤ z.1) (hd : 1 ≤ d) {a0 : Int} (ht : rt_kd a0.toNat = 20 + 12) (a1 : Int) (a2 : Int) (mem0 : rt_M) (t : rt_M) (h : j_X12_tests_106 a0 a1 a2 mem0 = some t) (hK : Q none z t) : RT G M_X12_tests d z Q 106 [(2, a0), (0, a1), (0, a2)] [] z mem0 := by
  unfold j_X12_tests_106 at h
  refine RT.aload_n (pc := 106) (k := 0) (x := a0) dX12_tests_106 rfl ?_
  obtain ⟨v107, hv107, h⟩ := Option.bind_eq_some_iff.mp h
  refine RT.gf 12 30 2 (pc := 107) (x := a0) (v := v107) hz dX12_tests_107 fl_X12_66 rfl hv107 ?_
  refine RT.iload_n (pc := 110) (k := 1) (x := a1) dX12_tests_110 rfl ?_
  obtain ⟨v111, hv111, h⟩ := Option.bind_eq_some_iff.mp h
  refine RT.iald (pc := 111) (x := v107) (i := a1) (v := v111) dX12_tests_111 (rt_lta hz (by decide) (by decide) hv111) hv111 ?_
  refine RT.bipush (pc := 112) (n := 27) dX12_tests_112 ⟨by decide, by decide⟩ rfl ?_
  refine RT.icmp_ne (pc := 114) (tgt := 136) dX12_tests_114 rfl (fun q114 => ?_) (fun q114 => ?_)
  · rw [if_neg q114] at h
    exact cj_X12_tests_136 hz hd ht a1 a2 mem0 _ h hK
  · rw [if_pos (Classical.not_not.mp q114)] at h
    refine RT.aload_n (pc := 117) (k := 0) (x := a0) dX12_tests_117 rfl ?_
    obtain ⟨v118, hv118, h⟩ := Option.bind_eq_some_iff.mp h
    refine RT.gf 12 29 2 (pc := 118) (x := a0) (v := v118) hz dX12_tests_118 fl_X12_63 rfl hv118 ?_
    refine RT.iload_n (pc := 121) (k := 1) (x := a1) dX12_tests_121 rfl ?_
    obtain ⟨v122, hv122, h⟩ := Option.bind_eq_some_iff.mp h
    refine RT.iald (pc := 122) (x := v118) (i := a1) (v := v122) dX12_tests_122 (rt_lta hz (by decide) (by decide) hv122) hv122 ?_
    refine RT.if_ne (pc := 123) (tgt := 130) dX12_tests_123 rfl (fun q123 => ?_) (fun q123 => ?_)
    · rw [if_neg q123] at h
      refine RT.wk (L1 := [(2, a0), (0, a1), (9, 0)]) (rt_le_s (rt_le_s (rt_le_j rt_le_n))) ?_
      exact cj_X12_tests_130 hz hd ht a1 mem0 _ h hK
    · rw [if_pos (Classical.not_not.mp q123)] at h
      refine RT.iload_n (pc := 126) (k := 2) (x := a2) dX12_tests_126 rfl ?_
      refine RT.if_eq (pc := 127) (tgt := 134) dX12_tests_127 rfl (fun q127 => ?_) (fun q127 => ?_)
      · rw [if_pos q127] at h
        refine RT.iconst (pc := 134) (n := 0) dX12_tests_134 ⟨by decide, by decide⟩ ?_
        refine RT.wk (L1 := [(2, a0), (0, a1), (9, 0)]) (rt_le_s (rt_le_s (rt_le_j rt_le_n))) ?_
        exact cj_X12_tests_135 hz hd ht a1 0 mem0 _ h hK
      · rw [if_neg q127] at h
        refine RT.wk (L1 := [(2, a0), (0, a1), (9, 0)]) (rt_le_s (rt_le_s (rt_le_j rt_le_n))) ?_
        exact cj_X12_tests_130 hz hd ht a1 mem0 _ h hK
theorem cj_X12_tests_105 {G : rt_G} {d : Nat} {z : Nat × Nat} {Q : rt_P} (hz : 300 ≤ z.1) (hd : 1 ≤ d) {a0 : Int} (ht : rt_kd a0.toNat = 20 + 12) (a1 : Int) (s0 : Int) (mem0 : rt_M) (t : rt_M) (h : j_X12_tests_105 a0 a1 s0 mem0 = some t) (hK : Q none z t) : RT G M_X12_tests d z Q 105 [(2, a0), (0, a1), (9, 0)] [(0, s0)] z mem0 := by
  unfold j_X12_tests_105 at h
  refine RT.istore_n (pc := 105) (k := 2) (x := s0) (L1 := [(2, a0), (0, a1), (0, s0)]) dX12_tests_105 (Nat.le_of_ble_eq_true rfl) rfl ?_
  exact cj_X12_tests_106 hz hd ht a1 s0 mem0 _ h hK
theorem cj_X12_tests_104 {G : rt_G} {d : Nat} {z : Nat × Nat} {Q : rt_P} (hz : 300 ≤ z.1) (hd : 1 ≤ d) {a0 : Int} (ht : rt_kd a0.toNat = 20 + 12) (a1 : Int) (mem0 : rt_M) (t : rt_M) (h : j_X12_tests_104 a0 a1 mem0 = some t) (hK : Q none z t) : RT G M_X12_tests d z Q 104 [(2, a0), (0, a1), (9, 0)] [] z mem0 := by
  unfold j_X12_tests_104 at h
  refine RT.iconst (pc := 104) (n := 0) dX12_tests_104 ⟨by decide, by decide⟩ ?_
  exact cj_X12_tests_105 hz hd ht a1 0 mem0 _ h hK
theorem cj_X12_tests_76 {G : rt_G} {d : Nat} {z : Nat × Nat} {Q : rt_P} (hz : 300 ≤ z.1) (hd : 1 ≤ d) {a0 : Int} (ht : rt_kd a0.toNat = 20 + 12) (a1 : Int) (a2 : Int) (mem0 : rt_M) (t : rt_M) (h : j_X12_tests_76 a0 a1 a2 mem0 = some t) (hK : Q none z t) : RT G M_X12_tests d z Q 76 [(2, a0), (0, a1), (0, a2)] [] z mem0 := by
  unfold j_X12_tests_76 at h
  refine RT.aload_n (pc := 76) (k := 0) (x := a0) dX12_tests_76 rfl ?_
  obtain ⟨v77, hv77, h⟩ := Option.bind_eq_some_iff.mp h
  refine RT.gf 12 30 2 (pc := 77) (x := a0) (v := v77) hz dX12_tests_77 fl_X12_66 rfl hv77 ?_
  refine RT.iload_n (pc := 80) (k := 1) (x := a1) dX12_tests_80 rfl ?_
  obtain ⟨v81, hv81, h⟩ := Option.bind_eq_some_iff.mp h
  refine RT.iald (pc := 81) (x := v77) (i := a1) (v := v81) dX12_tests_81 (rt_lta hz (by decide) (by decide) hv81) hv81 ?_
  refine RT.bipush (pc := 82) (n := 26) dX12_tests_82 ⟨by decide, by decide⟩ rfl ?_
  refine RT.icmp_ne (pc := 84) (tgt := 106) dX12_tests_84 rfl (fun q84 => ?_) (fun q84 => ?_)
  · rw [if_neg q84] at h
    exact cj_X12_tests_106 hz hd ht a1 a2 mem0 _ h hK
  · rw [if_pos (Classical.not_not.mp q84)] at h
    refine RT.aload_n (pc := 87) (k := 0) (x := a0) dX12_tests_87 rfl ?_
    obtain ⟨v88, hv88, h⟩ := Option.bind_eq_some_iff.mp h
    refine RT.gf 12 29 2 (pc := 88) (x := a0) (v := v88) hz dX12_tests_88 fl_X12_63 rfl hv88 ?_
    refine RT.iload_n (pc := 91) (k := 1) (x := a1) dX12_tests_91 rfl ?_
    obtain ⟨v92, hv92, h⟩ := Option.bind_eq_some_iff.mp h
    refine RT.iald (pc := 92) (x := v88) (i := a1) (v := v92) dX12_tests_92 (rt_lta hz (by decide) (by decide) hv92) hv92 ?_
    refine RT.if_eq (pc := 93) (tgt := 104) dX12_tests_93 rfl (fun q93 => ?_) (fun q93 => ?_)
    · rw [if_pos q93] at h
      refine RT.wk (L1 := [(2, a0), (0, a1), (9, 0)]) (rt_le_s (rt_le_s (rt_le_j rt_le_n))) ?_
      exact cj_X12_tests_104 hz hd ht a1 mem0 _ h hK
    · rw [if_neg q93] at h
      refine RT.iload_n (pc := 96) (k := 2) (x := a2) dX12_tests_96 rfl ?_
      refine RT.if_eq (pc := 97) (tgt := 104) dX12_tests_97 rfl (fun q97 => ?_) (fun q97 => ?_)
      · rw [if_pos q97] at h
        refine RT.wk (L1 := [(2, a0), (0, a1), (9, 0)]) (rt_le_s (rt_le_s (rt_le_j rt_le_n))) ?_
        exact cj_X12_tests_104 hz hd ht a1 mem0 _ h hK
      · rw [if_neg q97] at h
        refine RT.iconst (pc := 100) (n := 1) dX12_tests_100 ⟨by decide, by decide⟩ ?_
        refine RT.goto (pc := 101) (tgt := 105) dX12_tests_101 rfl ?_
        refine RT.wk (L1 := [(2, a0), (0, a1), (9, 0)]) (rt_le_s (rt_le_s (rt_le_j rt_le_n))) ?_
        exact cj_X12_tests_105 hz hd ht a1 1 mem0 _ h hK
theorem cj_X12_tests_75 {G : rt_G} {d : Nat} {z : Nat × Nat} {Q : rt_P} (hz : 300 ≤ z.1) (hd : 1 ≤ d) {a0 : Int} (ht : rt_kd a0.toNat = 20 + 12) (a1 : Int) (s0 : Int) (mem0 : rt_M) (t : rt_M) (h : j_X12_tests_75 a0 a1 s0 mem0 = some t) (hK : Q none z t) : RT G M_X12_tests d z Q 75 [(2, a0), (0, a1), (9, 0)] [(0, s0)] z mem0 := by
  unfold j_X12_tests_75 at h
  refine RT.istore_n (pc := 75) (k := 2) (x := s0) (L1 := [(2, a0), (0, a1), (0, s0)]) dX12_tests_75 (Nat.le_of_ble_eq_true rfl) rfl ?_
  exact cj_X12_tests_76 hz hd ht a1 s0 mem0 _ h hK
theorem cj_X12_tests_44 {G : rt_G} {d : Nat} {z : Nat × Nat} {Q : rt_P} (hz : 300 ≤ z.1) (hd : 1 ≤ d) {a0 : Int} (ht : rt_kd a0.toNat = 20 + 12) (a1 : Int) (a2 : Int) (mem0 : rt_M) (t : rt_M) (h : j_X12_tests_44 a0 a1 a2 mem0 = some t) (hK : Q none z t) : RT G M_X12_tests d z Q 44 [(2, a0), (0, a1), (0, a2)] [] z mem0 := by
  unfold j_X12_tests_44 at h
  refine RT.aload_n (pc := 44) (k := 0) (x := a0) dX12_tests_44 rfl ?_
  obtain ⟨v45, hv45, h⟩ := Option.bind_eq_some_iff.mp h
  refine RT.gf 12 32 2 (pc := 45) (x := a0) (v := v45) hz dX12_tests_45 fl_X12_72 rfl hv45 ?_
  refine RT.iload_n (pc := 48) (k := 1) (x := a1) dX12_tests_48 rfl ?_
  obtain ⟨v49, hv49, h⟩ := Option.bind_eq_some_iff.mp h
  refine RT.iald (pc := 49) (x := v45) (i := a1) (v := v49) dX12_tests_49 (rt_lta hz (by decide) (by decide) hv49) hv49 ?_
  refine RT.bipush (pc := 50) (n := 25) dX12_tests_50 ⟨by decide, by decide⟩ rfl ?_
  refine RT.icmp_ne (pc := 52) (tgt := 76) dX12_tests_52 rfl (fun q52 => ?_) (fun q52 => ?_)
  · rw [if_neg q52] at h
    exact cj_X12_tests_76 hz hd ht a1 a2 mem0 _ h hK
  · rw [if_pos (Classical.not_not.mp q52)] at h
    refine RT.aload_n (pc := 55) (k := 0) (x := a0) dX12_tests_55 rfl ?_
    obtain ⟨v56, hv56, h⟩ := Option.bind_eq_some_iff.mp h
    refine RT.gf 12 31 2 (pc := 56) (x := a0) (v := v56) hz dX12_tests_56 fl_X12_69 rfl hv56 ?_
    refine RT.iload_n (pc := 59) (k := 1) (x := a1) dX12_tests_59 rfl ?_
    obtain ⟨v60, hv60, h⟩ := Option.bind_eq_some_iff.mp h
    refine RT.iald (pc := 60) (x := v56) (i := a1) (v := v60) dX12_tests_60 (rt_lta hz (by decide) (by decide) hv60) hv60 ?_
    refine RT.aload_n (pc := 61) (k := 0) (x := a0) dX12_tests_61 rfl ?_
    obtain ⟨v62, hv62, h⟩ := Option.bind_eq_some_iff.mp h
    refine RT.gf 12 33 2 (pc := 62) (x := a0) (v := v62) hz dX12_tests_62 fl_X12_75 rfl hv62 ?_
    refine RT.iload_n (pc := 65) (k := 1) (x := a1) dX12_tests_65 rfl ?_
    obtain ⟨v66, hv66, h⟩ := Option.bind_eq_some_iff.mp h
    refine RT.iald (pc := 66) (x := v62) (i := a1) (v := v66) dX12_tests_66 (rt_lta hz (by decide) (by decide) hv66) hv66 ?_
    refine RT.icmp_ne (pc := 67) (tgt := 74) dX12_tests_67 rfl (fun q67 => ?_) (fun q67 => ?_)
    · rw [if_neg q67] at h
      refine RT.iconst (pc := 74) (n := 0) dX12_tests_74 ⟨by decide, by decide⟩ ?_
      refine RT.wk (L1 := [(2, a0), (0, a1), (9, 0)]) (rt_le_s (rt_le_s (rt_le_j rt_le_n))) ?_
      exact cj_X12_tests_75 hz hd ht a1 0 mem0 _ h hK
    · rw [if_pos (Classical.not_not.mp q67)] at h
      refine RT.iconst (pc := 70) (n := 1) dX12_tests_70 ⟨by decide, by decide⟩ ?_
      refine RT.goto (pc := 71) (tgt := 75) dX12_tests_71 rfl ?_
      refine RT.wk (L1 := [(2, a0), (0, a1), (9, 0)]) (rt_le_s (rt_le_s (rt_le_j rt_le_n))) ?_
      exact cj_X12_tests_75 hz hd ht a1 1 mem0 _ h hK
theorem cj_X12_tests_43 {G : rt_G} {d : Nat} {z : Nat × Nat} {Q : rt_P} (hz : 300 ≤ z.1) (hd : 1 ≤ d) {a0 : Int} (ht : rt_kd a0.toNat = 20 + 12) (a1 : Int) (s0 : Int) (mem0 : rt_M) (t : rt_M) (h : j_X12_tests_43 a0 a1 s0 mem0 = some t) (hK : Q none z t) : RT G M_X12_tests d z Q 43 [(2, a0), (0, a1), (9, 0)] [(0, s0)] z mem0 := by
  unfold j_X12_tests_43 at h
  refine RT.istore_n (pc := 43) (k := 2) (x := s0) (L1 := [(2, a0), (0, a1), (0, s0)]) dX12_tests_43 (Nat.le_of_ble_eq_true rfl) rfl ?_
  exact cj_X12_tests_44 hz hd ht a1 s0 mem0 _ h hK
theorem c_X12_tests {G : rt_G} {d : Nat} {z : Nat × Nat} (hz : 300 ≤ z.1) (hd : 1 ≤ d) (a0 : Int) (a1 : Int) (mem0 : rt_M) (t : rt_M) (ht : rt_kd a0.toNat = 20 + 12) (h : f_X12_tests a0 a1 mem0 = some t) : RM G M_X12_tests d [(2, a0), (0, a1)] z mem0 none t := by
  suffices H : ∀ Q : rt_P, Q none z t → RT G M_X12_tests d z Q 0 [(2, a0), (0, a1), (9, 0)] [] z mem0 from H _ ⟨rfl, rfl, rfl⟩
  intro Q hK
  unfold f_X12_tests at h
  refine RT.aload_n (pc := 0) (k := 0) (x := a0) dX12_tests_0 rfl ?_
  refine RT.iload_n (pc := 1) (k := 1) (x := a1) dX12_tests_1 rfl ?_
  obtain ⟨p2, hp2, h⟩ := Option.bind_eq_some_iff.mp h
  refine RT.cVz (pc := 2) (M' := M_X12_sums) (ci := 12) (x := a0) (As := [(0, a1)]) (st := []) (r := none) (mem1 := p2) (d' := d - 1) hz dX12_tests_2 mw_X12_sums ml_X12_256 mi_X12_sums ht rfl rfl (Nat.le_of_ble_eq_true rfl) (Nat.le_of_ble_eq_true rfl) (by omega) rfl rfl (c_X12_sums hz (by omega) a0 a1 mem0 _ ht hp2) ?_
  refine RT.aload_n (pc := 5) (k := 0) (x := a0) dX12_tests_5 rfl ?_
  obtain ⟨v6, hv6, h⟩ := Option.bind_eq_some_iff.mp h
  refine RT.gf 12 33 2 (pc := 6) (x := a0) (v := v6) hz dX12_tests_6 fl_X12_75 rfl hv6 ?_
  refine RT.iload_n (pc := 9) (k := 1) (x := a1) dX12_tests_9 rfl ?_
  obtain ⟨v10, hv10, h⟩ := Option.bind_eq_some_iff.mp h
  refine RT.iald (pc := 10) (x := v6) (i := a1) (v := v10) dX12_tests_10 (rt_lta hz (by decide) (by decide) hv10) hv10 ?_
  refine RT.istore_n (pc := 11) (k := 2) (x := v10) (L1 := [(2, a0), (0, a1), (0, v10)]) dX12_tests_11 (Nat.le_of_ble_eq_true rfl) rfl ?_
  refine RT.aload_n (pc := 12) (k := 0) (x := a0) dX12_tests_12 rfl ?_
  obtain ⟨v13, hv13, h⟩ := Option.bind_eq_some_iff.mp h
  refine RT.gf 12 32 2 (pc := 13) (x := a0) (v := v13) hz dX12_tests_13 fl_X12_72 rfl hv13 ?_
  refine RT.iload_n (pc := 16) (k := 1) (x := a1) dX12_tests_16 rfl ?_
  obtain ⟨v17, hv17, h⟩ := Option.bind_eq_some_iff.mp h
  refine RT.iald (pc := 17) (x := v13) (i := a1) (v := v17) dX12_tests_17 (rt_lta hz (by decide) (by decide) hv17) hv17 ?_
  refine RT.bipush (pc := 18) (n := 24) dX12_tests_18 ⟨by decide, by decide⟩ rfl ?_
  refine RT.icmp_ne (pc := 20) (tgt := 44) dX12_tests_20 rfl (fun q20 => ?_) (fun q20 => ?_)
  · rw [if_neg q20] at h
    exact cj_X12_tests_44 hz hd ht a1 v10 p2 _ h hK
  · rw [if_pos (Classical.not_not.mp q20)] at h
    refine RT.aload_n (pc := 23) (k := 0) (x := a0) dX12_tests_23 rfl ?_
    obtain ⟨v24, hv24, h⟩ := Option.bind_eq_some_iff.mp h
    refine RT.gf 12 31 2 (pc := 24) (x := a0) (v := v24) hz dX12_tests_24 fl_X12_69 rfl hv24 ?_
    refine RT.iload_n (pc := 27) (k := 1) (x := a1) dX12_tests_27 rfl ?_
    obtain ⟨v28, hv28, h⟩ := Option.bind_eq_some_iff.mp h
    refine RT.iald (pc := 28) (x := v24) (i := a1) (v := v28) dX12_tests_28 (rt_lta hz (by decide) (by decide) hv28) hv28 ?_
    refine RT.aload_n (pc := 29) (k := 0) (x := a0) dX12_tests_29 rfl ?_
    obtain ⟨v30, hv30, h⟩ := Option.bind_eq_some_iff.mp h
    refine RT.gf 12 33 2 (pc := 30) (x := a0) (v := v30) hz dX12_tests_30 fl_X12_75 rfl hv30 ?_
    refine RT.iload_n (pc := 33) (k := 1) (x := a1) dX12_tests_33 rfl ?_
    obtain ⟨v34, hv34, h⟩ := Option.bind_eq_some_iff.mp h
    refine RT.iald (pc := 34) (x := v30) (i := a1) (v := v34) dX12_tests_34 (rt_lta hz (by decide) (by decide) hv34) hv34 ?_
    refine RT.icmp_ge (pc := 35) (tgt := 42) dX12_tests_35 rfl (fun q35 => ?_) (fun q35 => ?_)
    · rw [if_pos q35] at h
      refine RT.iconst (pc := 42) (n := 0) dX12_tests_42 ⟨by decide, by decide⟩ ?_
      refine RT.wk (L1 := [(2, a0), (0, a1), (9, 0)]) (rt_le_s (rt_le_s (rt_le_j rt_le_n))) ?_
      exact cj_X12_tests_43 hz hd ht a1 0 p2 _ h hK
    · rw [if_neg q35] at h
      refine RT.iconst (pc := 38) (n := 1) dX12_tests_38 ⟨by decide, by decide⟩ ?_
      refine RT.goto (pc := 39) (tgt := 43) dX12_tests_39 rfl ?_
      refine RT.wk (L1 := [(2, a0), (0, a1), (9, 0)]) (rt_le_s (rt_le_s (rt_le_j rt_le_n))) ?_
      exact cj_X12_tests_43 hz hd ht a1 1 p2 _ h hK
theorem cj_X12_worked_329_14 {G : rt_G} {d : Nat} {z : Nat × Nat} {Q : rt_P} (hz : 300 ≤ z.1) (hd : 2 ≤ d) {a0 : Int} (ht : rt_kd a0.toNat = 20 + 12) (a1 : Int) (a2 : Int) (a3 : Int) (mem0 : rt_M) (t : (Int × Int × rt_M) ⊕ (rt_M)) (h : j_X12_worked_329_14 a0 a1 a2 a3 mem0 = some t) (hK : (∀ s1 : Int × Int × rt_M, t = .inl s1 → RT G M_X12_worked d z Q 14 [(2, a0), (0, a1), (0, s1.1), (0, s1.2.1), (9, 0), (9, 0)] [] z s1.2.2) ∧ (∀ x1 : rt_M, t = .inr x1 → RT G M_X12_worked d z Q 335 [(2, a0), (9, 0), (9, 0), (9, 0), (9, 0), (9, 0)] [] z x1)) : RT G M_X12_worked d z Q 329 [(2, a0), (0, a1), (0, a2), (0, a3), (9, 0), (9, 0)] [] z mem0 := by
  unfold j_X12_worked_329_14 at h
  refine RT.iinc (pc := 329) (x := a3) (L1 := [(2, a0), (0, a1), (0, a2), (0, (rt_iadd a3 1)), (9, 0), (9, 0)]) dX12_worked_329 rfl (Nat.le_of_ble_eq_true rfl) ⟨by decide, by decide⟩ rfl ?_
  refine RT.goto (pc := 332) (tgt := 14) dX12_worked_332 rfl ?_
  obtain rfl := Option.some.inj h
  have q1 := hK.1 ((a2, (rt_iadd a3 1), mem0)) rfl
  try dsimp only at q1
  exact q1
theorem cj_X12_worked_66_14 {G : rt_G} {d : Nat} {z : Nat × Nat} {Q : rt_P} (hz : 300 ≤ z.1) (hd : 2 ≤ d) {a0 : Int} (ht : rt_kd a0.toNat = 20 + 12) (a1 : Int) (a2 : Int) (a3 : Int) (s0 : Int) (s1 : Int) (s2 : Int) (mem0 : rt_M) (t : (Int × Int × rt_M) ⊕ (rt_M)) (h : j_X12_worked_66_14 a0 a1 a2 a3 s0 s1 s2 mem0 = some t) (hK : (∀ s1 : Int × Int × rt_M, t = .inl s1 → RT G M_X12_worked d z Q 14 [(2, a0), (0, a1), (0, s1.1), (0, s1.2.1), (9, 0), (9, 0)] [] z s1.2.2) ∧ (∀ x1 : rt_M, t = .inr x1 → RT G M_X12_worked d z Q 335 [(2, a0), (9, 0), (9, 0), (9, 0), (9, 0), (9, 0)] [] z x1)) : RT G M_X12_worked d z Q 66 [(2, a0), (0, a1), (0, a2), (0, a3), (9, 0), (9, 0)] [(0, s2), (0, s1), (2, s0)] z mem0 := by
  unfold j_X12_worked_66_14 at h
  obtain ⟨m66, hm66, h⟩ := Option.bind_eq_some_iff.mp h
  refine RT.iast (pc := 66) (x := s0) (i := s1) (v := s2) (mem1 := m66) dX12_worked_66 (rt_lts hz (by decide) (by decide) hm66) hm66 ?_
  refine RT.aload_n (pc := 67) (k := 0) (x := a0) dX12_worked_67 rfl ?_
  refine RT.iload_n (pc := 68) (k := 2) (x := a2) dX12_worked_68 rfl ?_
  obtain ⟨p69, hp69, h⟩ := Option.bind_eq_some_iff.mp h
  refine RT.cVz (pc := 69) (M' := M_X12_opens) (ci := 12) (x := a0) (As := [(0, a2)]) (st := []) (r := none) (mem1 := p69) (d' := d - 1) hz dX12_worked_69 mw_X12_opens ml_X12_259 mi_X12_opens ht rfl rfl (Nat.le_of_ble_eq_true rfl) (Nat.le_of_ble_eq_true rfl) (by omega) rfl rfl (c_X12_opens hz (by omega) a0 a2 m66 _ ht hp69) ?_
  refine RT.goto (pc := 72) (tgt := 329) dX12_worked_72 rfl ?_
  exact cj_X12_worked_329_14 hz hd ht a1 a2 a3 p69 _ h hK
theorem cj_X12_worked_46_14 {G : rt_G} {d : Nat} {z : Nat × Nat} {Q : rt_P} (hz : 300 ≤ z.1) (hd : 2 ≤ d) {a0 : Int} (ht : rt_kd a0.toNat = 20 + 12) (a1 : Int) (a2 : Int) (a3 : Int) (a4 : Int) (mem0 : rt_M) (t : (Int × Int × rt_M) ⊕ (rt_M)) (h : j_X12_worked_46_14 a0 a1 a2 a3 a4 mem0 = some t) (hK : (∀ s1 : Int × Int × rt_M, t = .inl s1 → RT G M_X12_worked d z Q 14 [(2, a0), (0, a1), (0, s1.1), (0, s1.2.1), (9, 0), (9, 0)] [] z s1.2.2) ∧ (∀ x1 : rt_M, t = .inr x1 → RT G M_X12_worked d z Q 335 [(2, a0), (9, 0), (9, 0), (9, 0), (9, 0), (9, 0)] [] z x1)) : RT G M_X12_worked d z Q 46 [(2, a0), (0, a1), (0, a2), (0, a3), (0, a4), (9, 0)] [] z mem0 := by
  unfold j_X12_worked_46_14 at h
  refine RT.iinc (pc := 46) (x := a2) (L1 := [(2, a0), (0, a1), (0, (rt_iadd a2 1)), (0, a3), (0, a4), (9, 0)]) dX12_worked_46 rfl (Nat.le_of_ble_eq_true rfl) ⟨by decide, by decide⟩ rfl ?_
  refine RT.aload_n (pc := 49) (k := 0) (x := a0) dX12_worked_49 rfl ?_
  obtain ⟨v50, hv50, h⟩ := Option.bind_eq_some_iff.mp h
  refine RT.gf 12 37 2 (pc := 50) (x := a0) (v := v50) hz dX12_worked_50 fl_X12_87 rfl hv50 ?_
  refine RT.iload_n (pc := 53) (k := 2) (x := (rt_iadd a2 1)) dX12_worked_53 rfl ?_
  refine RT.iload (pc := 54) (k := 4) (x := a4) dX12_worked_54 rfl ?_
  refine RT.bipush (pc := 56) (n := 30) dX12_worked_56 ⟨by decide, by decide⟩ rfl ?_
  refine RT.icmp_ne (pc := 58) (tgt := 65) dX12_worked_58 rfl (fun q58 => ?_) (fun q58 => ?_)
  · rw [if_neg q58] at h
    refine RT.iconst (pc := 65) (n := 0) dX12_worked_65 ⟨by decide, by decide⟩ ?_
    refine RT.wk (L1 := [(2, a0), (0, a1), (0, (rt_iadd a2 1)), (0, a3), (9, 0), (9, 0)]) (rt_le_s (rt_le_s (rt_le_s (rt_le_s (rt_le_j (rt_le_s rt_le_n)))))) ?_
    exact cj_X12_worked_66_14 hz hd ht a1 ((rt_iadd a2 1)) a3 v50 ((rt_iadd a2 1)) 0 mem0 _ h hK
  · rw [if_pos (Classical.not_not.mp q58)] at h
    refine RT.iconst (pc := 61) (n := 1) dX12_worked_61 ⟨by decide, by decide⟩ ?_
    refine RT.goto (pc := 62) (tgt := 66) dX12_worked_62 rfl ?_
    refine RT.wk (L1 := [(2, a0), (0, a1), (0, (rt_iadd a2 1)), (0, a3), (9, 0), (9, 0)]) (rt_le_s (rt_le_s (rt_le_s (rt_le_s (rt_le_j (rt_le_s rt_le_n)))))) ?_
    exact cj_X12_worked_66_14 hz hd ht a1 ((rt_iadd a2 1)) a3 v50 ((rt_iadd a2 1)) 1 mem0 _ h hK
theorem cj_X12_worked_89_14 {G : rt_G} {d : Nat} {z : Nat × Nat} {Q : rt_P} (hz : 300 ≤ z.1) (hd : 2 ≤ d) {a0 : Int} (ht : rt_kd a0.toNat = 20 + 12) (a1 : Int) (a2 : Int) (a3 : Int) (a4 : Int) (mem0 : rt_M) (t : (Int × Int × rt_M) ⊕ (rt_M)) (h : j_X12_worked_89_14 a0 a1 a2 a3 a4 mem0 = some t) (hK : (∀ s1 : Int × Int × rt_M, t = .inl s1 → RT G M_X12_worked d z Q 14 [(2, a0), (0, a1), (0, s1.1), (0, s1.2.1), (9, 0), (9, 0)] [] z s1.2.2) ∧ (∀ x1 : rt_M, t = .inr x1 → RT G M_X12_worked d z Q 335 [(2, a0), (9, 0), (9, 0), (9, 0), (9, 0), (9, 0)] [] z x1)) : RT G M_X12_worked d z Q 89 [(2, a0), (0, a1), (0, a2), (0, a3), (0, a4), (9, 0)] [] z mem0 := by
  unfold j_X12_worked_89_14 at h
  refine RT.aload_n (pc := 89) (k := 0) (x := a0) dX12_worked_89 rfl ?_
  refine RT.iload_n (pc := 90) (k := 2) (x := a2) dX12_worked_90 rfl ?_
  obtain ⟨p91, hp91, h⟩ := Option.bind_eq_some_iff.mp h
  refine RT.cVz (pc := 91) (M' := M_X12_sums) (ci := 12) (x := a0) (As := [(0, a2)]) (st := []) (r := none) (mem1 := p91) (d' := d - 1) hz dX12_worked_91 mw_X12_sums ml_X12_256 mi_X12_sums ht rfl rfl (Nat.le_of_ble_eq_true rfl) (Nat.le_of_ble_eq_true rfl) (by omega) rfl rfl (c_X12_sums hz (by omega) a0 a2 mem0 _ ht hp91) ?_
  refine RT.aload_n (pc := 94) (k := 0) (x := a0) dX12_worked_94 rfl ?_
  obtain ⟨v95, hv95, h⟩ := Option.bind_eq_some_iff.mp h
  refine RT.gf 12 34 2 (pc := 95) (x := a0) (v := v95) hz dX12_worked_95 fl_X12_78 rfl hv95 ?_
  refine RT.iload_n (pc := 98) (k := 2) (x := a2) dX12_worked_98 rfl ?_
  refine RT.iload (pc := 99) (k := 4) (x := a4) dX12_worked_99 rfl ?_
  obtain ⟨m101, hm101, h⟩ := Option.bind_eq_some_iff.mp h
  refine RT.iast (pc := 101) (x := v95) (i := a2) (v := a4) (mem1 := m101) dX12_worked_101 (rt_lts hz (by decide) (by decide) hm101) hm101 ?_
  refine RT.goto (pc := 102) (tgt := 329) dX12_worked_102 rfl ?_
  refine RT.wk (L1 := [(2, a0), (0, a1), (0, a2), (0, a3), (9, 0), (9, 0)]) (rt_le_s (rt_le_s (rt_le_s (rt_le_s (rt_le_j (rt_le_s rt_le_n)))))) ?_
  exact cj_X12_worked_329_14 hz hd ht a1 a2 a3 m101 _ h hK
theorem cj_X12_worked_137_14 {G : rt_G} {d : Nat} {z : Nat × Nat} {Q : rt_P} (hz : 300 ≤ z.1) (hd : 2 ≤ d) {a0 : Int} (ht : rt_kd a0.toNat = 20 + 12) (a1 : Int) (a2 : Int) (a3 : Int) (a4 : Int) (mem0 : rt_M) (t : (Int × Int × rt_M) ⊕ (rt_M)) (h : j_X12_worked_137_14 a0 a1 a2 a3 a4 mem0 = some t) (hK : (∀ s1 : Int × Int × rt_M, t = .inl s1 → RT G M_X12_worked d z Q 14 [(2, a0), (0, a1), (0, s1.1), (0, s1.2.1), (9, 0), (9, 0)] [] z s1.2.2) ∧ (∀ x1 : rt_M, t = .inr x1 → RT G M_X12_worked d z Q 335 [(2, a0), (9, 0), (9, 0), (9, 0), (9, 0), (9, 0)] [] z x1)) : RT G M_X12_worked d z Q 137 [(2, a0), (0, a1), (0, a2), (0, a3), (0, a4), (9, 0)] [] z mem0 := by
  unfold j_X12_worked_137_14 at h
  refine RT.aload_n (pc := 137) (k := 0) (x := a0) dX12_worked_137 rfl ?_
  refine RT.iload_n (pc := 138) (k := 2) (x := a2) dX12_worked_138 rfl ?_
  obtain ⟨p139, hp139, h⟩ := Option.bind_eq_some_iff.mp h
  refine RT.cVz (pc := 139) (M' := M_X12_sums) (ci := 12) (x := a0) (As := [(0, a2)]) (st := []) (r := none) (mem1 := p139) (d' := d - 1) hz dX12_worked_139 mw_X12_sums ml_X12_256 mi_X12_sums ht rfl rfl (Nat.le_of_ble_eq_true rfl) (Nat.le_of_ble_eq_true rfl) (by omega) rfl rfl (c_X12_sums hz (by omega) a0 a2 mem0 _ ht hp139) ?_
  refine RT.aload_n (pc := 142) (k := 0) (x := a0) dX12_worked_142 rfl ?_
  obtain ⟨v143, hv143, h⟩ := Option.bind_eq_some_iff.mp h
  refine RT.gf 12 31 2 (pc := 143) (x := a0) (v := v143) hz dX12_worked_143 fl_X12_69 rfl hv143 ?_
  refine RT.iload_n (pc := 146) (k := 2) (x := a2) dX12_worked_146 rfl ?_
  refine RT.aload_n (pc := 147) (k := 0) (x := a0) dX12_worked_147 rfl ?_
  obtain ⟨v148, hv148, h⟩ := Option.bind_eq_some_iff.mp h
  refine RT.gf 12 33 2 (pc := 148) (x := a0) (v := v148) hz dX12_worked_148 fl_X12_75 rfl hv148 ?_
  refine RT.iload_n (pc := 151) (k := 2) (x := a2) dX12_worked_151 rfl ?_
  obtain ⟨v152, hv152, h⟩ := Option.bind_eq_some_iff.mp h
  refine RT.iald (pc := 152) (x := v148) (i := a2) (v := v152) dX12_worked_152 (rt_lta hz (by decide) (by decide) hv152) hv152 ?_
  obtain ⟨m153, hm153, h⟩ := Option.bind_eq_some_iff.mp h
  refine RT.iast (pc := 153) (x := v143) (i := a2) (v := v152) (mem1 := m153) dX12_worked_153 (rt_lts hz (by decide) (by decide) hm153) hm153 ?_
  refine RT.aload_n (pc := 154) (k := 0) (x := a0) dX12_worked_154 rfl ?_
  obtain ⟨v155, hv155, h⟩ := Option.bind_eq_some_iff.mp h
  refine RT.gf 12 32 2 (pc := 155) (x := a0) (v := v155) hz dX12_worked_155 fl_X12_72 rfl hv155 ?_
  refine RT.iload_n (pc := 158) (k := 2) (x := a2) dX12_worked_158 rfl ?_
  refine RT.iload (pc := 159) (k := 4) (x := a4) dX12_worked_159 rfl ?_
  obtain ⟨m161, hm161, h⟩ := Option.bind_eq_some_iff.mp h
  refine RT.iast (pc := 161) (x := v155) (i := a2) (v := a4) (mem1 := m161) dX12_worked_161 (rt_lts hz (by decide) (by decide) hm161) hm161 ?_
  refine RT.aload_n (pc := 162) (k := 0) (x := a0) dX12_worked_162 rfl ?_
  obtain ⟨v163, hv163, h⟩ := Option.bind_eq_some_iff.mp h
  refine RT.gf 12 33 2 (pc := 163) (x := a0) (v := v163) hz dX12_worked_163 fl_X12_75 rfl hv163 ?_
  refine RT.iload_n (pc := 166) (k := 2) (x := a2) dX12_worked_166 rfl ?_
  refine RT.iconst (pc := 167) (n := 0) dX12_worked_167 ⟨by decide, by decide⟩ ?_
  obtain ⟨m168, hm168, h⟩ := Option.bind_eq_some_iff.mp h
  refine RT.iast (pc := 168) (x := v163) (i := a2) (v := 0) (mem1 := m168) dX12_worked_168 (rt_lts hz (by decide) (by decide) hm168) hm168 ?_
  refine RT.aload_n (pc := 169) (k := 0) (x := a0) dX12_worked_169 rfl ?_
  obtain ⟨v170, hv170, h⟩ := Option.bind_eq_some_iff.mp h
  refine RT.gf 12 34 2 (pc := 170) (x := a0) (v := v170) hz dX12_worked_170 fl_X12_78 rfl hv170 ?_
  refine RT.iload_n (pc := 173) (k := 2) (x := a2) dX12_worked_173 rfl ?_
  refine RT.bipush (pc := 174) (n := 20) dX12_worked_174 ⟨by decide, by decide⟩ rfl ?_
  obtain ⟨m176, hm176, h⟩ := Option.bind_eq_some_iff.mp h
  refine RT.iast (pc := 176) (x := v170) (i := a2) (v := 20) (mem1 := m176) dX12_worked_176 (rt_lts hz (by decide) (by decide) hm176) hm176 ?_
  refine RT.goto (pc := 177) (tgt := 329) dX12_worked_177 rfl ?_
  refine RT.wk (L1 := [(2, a0), (0, a1), (0, a2), (0, a3), (9, 0), (9, 0)]) (rt_le_s (rt_le_s (rt_le_s (rt_le_s (rt_le_j (rt_le_s rt_le_n)))))) ?_
  exact cj_X12_worked_329_14 hz hd ht a1 a2 a3 m176 _ h hK
theorem cj_X12_worked_194_14 {G : rt_G} {d : Nat} {z : Nat × Nat} {Q : rt_P} (hz : 300 ≤ z.1) (hd : 2 ≤ d) {a0 : Int} (ht : rt_kd a0.toNat = 20 + 12) (a1 : Int) (a2 : Int) (a3 : Int) (a4 : Int) (mem0 : rt_M) (t : (Int × Int × rt_M) ⊕ (rt_M)) (h : j_X12_worked_194_14 a0 a1 a2 a3 a4 mem0 = some t) (hK : (∀ s1 : Int × Int × rt_M, t = .inl s1 → RT G M_X12_worked d z Q 14 [(2, a0), (0, a1), (0, s1.1), (0, s1.2.1), (9, 0), (9, 0)] [] z s1.2.2) ∧ (∀ x1 : rt_M, t = .inr x1 → RT G M_X12_worked d z Q 335 [(2, a0), (9, 0), (9, 0), (9, 0), (9, 0), (9, 0)] [] z x1)) : RT G M_X12_worked d z Q 194 [(2, a0), (0, a1), (0, a2), (0, a3), (0, a4), (9, 0)] [] z mem0 := by
  unfold j_X12_worked_194_14 at h
  refine RT.aload_n (pc := 194) (k := 0) (x := a0) dX12_worked_194 rfl ?_
  refine RT.iload_n (pc := 195) (k := 2) (x := a2) dX12_worked_195 rfl ?_
  obtain ⟨p196, hp196, h⟩ := Option.bind_eq_some_iff.mp h
  refine RT.cVz (pc := 196) (M' := M_X12_tests) (ci := 12) (x := a0) (As := [(0, a2)]) (st := []) (r := none) (mem1 := p196) (d' := d - 1) hz dX12_worked_196 mw_X12_tests ml_X12_262 mi_X12_tests ht rfl rfl (Nat.le_of_ble_eq_true rfl) (Nat.le_of_ble_eq_true rfl) (by omega) rfl rfl (c_X12_tests hz (by omega) a0 a2 mem0 _ ht hp196) ?_
  refine RT.aload_n (pc := 199) (k := 0) (x := a0) dX12_worked_199 rfl ?_
  obtain ⟨v200, hv200, h⟩ := Option.bind_eq_some_iff.mp h
  refine RT.gf 12 30 2 (pc := 200) (x := a0) (v := v200) hz dX12_worked_200 fl_X12_66 rfl hv200 ?_
  refine RT.iload_n (pc := 203) (k := 2) (x := a2) dX12_worked_203 rfl ?_
  refine RT.iload (pc := 204) (k := 4) (x := a4) dX12_worked_204 rfl ?_
  obtain ⟨m206, hm206, h⟩ := Option.bind_eq_some_iff.mp h
  refine RT.iast (pc := 206) (x := v200) (i := a2) (v := a4) (mem1 := m206) dX12_worked_206 (rt_lts hz (by decide) (by decide) hm206) hm206 ?_
  refine RT.goto (pc := 207) (tgt := 329) dX12_worked_207 rfl ?_
  refine RT.wk (L1 := [(2, a0), (0, a1), (0, a2), (0, a3), (9, 0), (9, 0)]) (rt_le_s (rt_le_s (rt_le_s (rt_le_s (rt_le_j (rt_le_s rt_le_n)))))) ?_
  exact cj_X12_worked_329_14 hz hd ht a1 a2 a3 m206 _ h hK
theorem cj_X12_worked_292_268 {G : rt_G} {d : Nat} {z : Nat × Nat} {Q : rt_P} (hz : 300 ≤ z.1) (hd : 2 ≤ d) {a0 : Int} (ht : rt_kd a0.toNat = 20 + 12) (a1 : Int) (a2 : Int) (a3 : Int) (s0 : Int) (mem0 : rt_M) (t : (Int × Int × rt_M) ⊕ (Int × Int × rt_M)) (h : j_X12_worked_292_268 a0 a1 a2 a3 s0 mem0 = some t) (hK : (∀ s1 : Int × Int × rt_M, t = .inl s1 → RT G M_X12_worked d z Q 268 [(2, a0), (0, a1), (0, s1.1), (0, a3), (9, 0), (0, s1.2.1)] [] z s1.2.2) ∧ (∀ x1 : Int × Int × rt_M, t = .inr x1 → RT G M_X12_worked d z Q 300 [(2, a0), (0, a1), (0, x1.1), (0, a3), (9, 0), (0, x1.2.1)] [] z x1.2.2)) : RT G M_X12_worked d z Q 292 [(2, a0), (0, a1), (0, a2), (0, a3), (9, 0), (9, 0)] [(0, s0)] z mem0 := by
  unfold j_X12_worked_292_268 at h
  refine RT.istore (pc := 292) (k := 5) (x := s0) (L1 := [(2, a0), (0, a1), (0, a2), (0, a3), (9, 0), (0, s0)]) dX12_worked_292 (Nat.le_of_ble_eq_true rfl) rfl ?_
  refine RT.iinc (pc := 294) (x := a2) (L1 := [(2, a0), (0, a1), (0, (rt_iadd a2 (-1))), (0, a3), (9, 0), (0, s0)]) dX12_worked_294 rfl (Nat.le_of_ble_eq_true rfl) ⟨by decide, by decide⟩ rfl ?_
  refine RT.goto (pc := 297) (tgt := 268) dX12_worked_297 rfl ?_
  obtain rfl := Option.some.inj h
  have q1 := hK.1 (((rt_iadd a2 (-1)), s0, mem0)) rfl
  try dsimp only at q1
  exact q1
theorem cb_X12_worked_268 {G : rt_G} {d : Nat} {z : Nat × Nat} {Q : rt_P} (hz : 300 ≤ z.1) (hd : 2 ≤ d) {a0 : Int} (ht : rt_kd a0.toNat = 20 + 12) (a1 : Int) (a3 : Int) (s : Int × Int × rt_M) (t : (Int × Int × rt_M) ⊕ (Int × Int × rt_M)) (h : b_X12_worked_268 a0 a1 a3 s = some t) (hK : (∀ s1 : Int × Int × rt_M, t = .inl s1 → RT G M_X12_worked d z Q 268 [(2, a0), (0, a1), (0, s1.1), (0, a3), (9, 0), (0, s1.2.1)] [] z s1.2.2) ∧ (∀ x1 : Int × Int × rt_M, t = .inr x1 → RT G M_X12_worked d z Q 300 [(2, a0), (0, a1), (0, x1.1), (0, a3), (9, 0), (0, x1.2.1)] [] z x1.2.2)) : RT G M_X12_worked d z Q 268 [(2, a0), (0, a1), (0, s.1), (0, a3), (9, 0), (0, s.2.1)] [] z s.2.2 := by
  unfold b_X12_worked_268 at h
  refine RT.iload_n (pc := 268) (k := 2) (x := s.1) dX12_worked_268 rfl ?_
  refine RT.if_le (pc := 269) (tgt := 300) dX12_worked_269 rfl (fun q269 => ?_) (fun q269 => ?_)
  · rw [if_pos q269] at h
    obtain rfl := Option.some.inj h
    have q1 := hK.2 ((s.1, s.2.1, s.2.2)) rfl
    try dsimp only at q1
    exact q1
  · rw [if_neg q269] at h
    refine RT.aload_n (pc := 272) (k := 0) (x := a0) dX12_worked_272 rfl ?_
    obtain ⟨v273, hv273, h⟩ := Option.bind_eq_some_iff.mp h
    refine RT.gf 12 37 2 (pc := 273) (x := a0) (v := v273) hz dX12_worked_273 fl_X12_87 rfl hv273 ?_
    refine RT.iload_n (pc := 276) (k := 2) (x := s.1) dX12_worked_276 rfl ?_
    obtain ⟨v277, hv277, h⟩ := Option.bind_eq_some_iff.mp h
    refine RT.iald (pc := 277) (x := v273) (i := s.1) (v := v277) dX12_worked_277 (rt_lta hz (by decide) (by decide) hv277) hv277 ?_
    refine RT.iconst (pc := 278) (n := 1) dX12_worked_278 ⟨by decide, by decide⟩ ?_
    refine RT.icmp_ne (pc := 279) (tgt := 300) dX12_worked_279 rfl (fun q279 => ?_) (fun q279 => ?_)
    · rw [if_neg q279] at h
      obtain rfl := Option.some.inj h
      have q1 := hK.2 ((s.1, s.2.1, s.2.2)) rfl
      try dsimp only at q1
      exact q1
    · rw [if_pos (Classical.not_not.mp q279)] at h
      refine RT.iload (pc := 282) (k := 5) (x := s.2.1) dX12_worked_282 rfl ?_
      refine RT.if_ne (pc := 284) (tgt := 291) dX12_worked_284 rfl (fun q284 => ?_) (fun q284 => ?_)
      · rw [if_neg q284] at h
        refine RT.iconst (pc := 291) (n := 0) dX12_worked_291 ⟨by decide, by decide⟩ ?_
        refine RT.wk (L1 := [(2, a0), (0, a1), (0, s.1), (0, a3), (9, 0), (9, 0)]) (rt_le_s (rt_le_s (rt_le_s (rt_le_s (rt_le_s (rt_le_j rt_le_n)))))) ?_
        exact cj_X12_worked_292_268 hz hd ht a1 s.1 a3 0 s.2.2 _ h hK
      · rw [if_pos (Classical.not_not.mp q284)] at h
        refine RT.iconst (pc := 287) (n := 1) dX12_worked_287 ⟨by decide, by decide⟩ ?_
        refine RT.goto (pc := 288) (tgt := 292) dX12_worked_288 rfl ?_
        refine RT.wk (L1 := [(2, a0), (0, a1), (0, s.1), (0, a3), (9, 0), (9, 0)]) (rt_le_s (rt_le_s (rt_le_s (rt_le_s (rt_le_s (rt_le_j rt_le_n)))))) ?_
        exact cj_X12_worked_292_268 hz hd ht a1 s.1 a3 1 s.2.2 _ h hK
theorem cj_X12_worked_328_14 {G : rt_G} {d : Nat} {z : Nat × Nat} {Q : rt_P} (hz : 300 ≤ z.1) (hd : 2 ≤ d) {a0 : Int} (ht : rt_kd a0.toNat = 20 + 12) (a1 : Int) (a2 : Int) (a3 : Int) (s0 : Int) (s1 : Int) (s2 : Int) (mem0 : rt_M) (t : (Int × Int × rt_M) ⊕ (rt_M)) (h : j_X12_worked_328_14 a0 a1 a2 a3 s0 s1 s2 mem0 = some t) (hK : (∀ s1 : Int × Int × rt_M, t = .inl s1 → RT G M_X12_worked d z Q 14 [(2, a0), (0, a1), (0, s1.1), (0, s1.2.1), (9, 0), (9, 0)] [] z s1.2.2) ∧ (∀ x1 : rt_M, t = .inr x1 → RT G M_X12_worked d z Q 335 [(2, a0), (9, 0), (9, 0), (9, 0), (9, 0), (9, 0)] [] z x1)) : RT G M_X12_worked d z Q 328 [(2, a0), (0, a1), (0, a2), (0, a3), (9, 0), (9, 0)] [(0, s2), (0, s1), (2, s0)] z mem0 := by
  unfold j_X12_worked_328_14 at h
  obtain ⟨m328, hm328, h⟩ := Option.bind_eq_some_iff.mp h
  refine RT.iast (pc := 328) (x := s0) (i := s1) (v := s2) (mem1 := m328) dX12_worked_328 (rt_lts hz (by decide) (by decide) hm328) hm328 ?_
  exact cj_X12_worked_329_14 hz hd ht a1 a2 a3 m328 _ h hK
theorem cj_X12_worked_268_14 {G : rt_G} {d : Nat} {z : Nat × Nat} {Q : rt_P} (hz : 300 ≤ z.1) (hd : 2 ≤ d) {a0 : Int} (ht : rt_kd a0.toNat = 20 + 12) (a1 : Int) (a2 : Int) (a3 : Int) (a5 : Int) (mem0 : rt_M) (t : (Int × Int × rt_M) ⊕ (rt_M)) (h : j_X12_worked_268_14 a0 a1 a2 a3 a5 mem0 = some t) (hK : (∀ s1 : Int × Int × rt_M, t = .inl s1 → RT G M_X12_worked d z Q 14 [(2, a0), (0, a1), (0, s1.1), (0, s1.2.1), (9, 0), (9, 0)] [] z s1.2.2) ∧ (∀ x1 : rt_M, t = .inr x1 → RT G M_X12_worked d z Q 335 [(2, a0), (9, 0), (9, 0), (9, 0), (9, 0), (9, 0)] [] z x1)) : RT G M_X12_worked d z Q 268 [(2, a0), (0, a1), (0, a2), (0, a3), (9, 0), (0, a5)] [] z mem0 := by
  unfold j_X12_worked_268_14 at h
  obtain ⟨X268, hX268, h⟩ := Option.bind_eq_some_iff.mp h
  refine rt_it_ind (P := (fun s1 : Int × Int × rt_M => RT G M_X12_worked d z Q 268 [(2, a0), (0, a1), (0, s1.1), (0, a3), (9, 0), (0, s1.2.1)] [] z s1.2.2)) (X := (fun x1 : Int × Int × rt_M => RT G M_X12_worked d z Q 300 [(2, a0), (0, a1), (0, x1.1), (0, a3), (9, 0), (0, x1.2.1)] [] z x1.2.2)) (fun s1 t1 h1 k1 k2 => cb_X12_worked_268 hz hd ht a1 a3 s1 t1 h1 ⟨k1, k2⟩) 4000 ((a2, a5, mem0)) X268 hX268 ?_
  refine RT.aload_n (pc := 300) (k := 0) (x := a0) dX12_worked_300 rfl ?_
  obtain ⟨v301, hv301, h⟩ := Option.bind_eq_some_iff.mp h
  refine RT.gf 12 35 2 (pc := 301) (x := a0) (v := v301) hz dX12_worked_301 fl_X12_81 rfl hv301 ?_
  refine RT.iload_n (pc := 304) (k := 2) (x := X268.1) dX12_worked_304 rfl ?_
  refine RT.aload_n (pc := 305) (k := 0) (x := a0) dX12_worked_305 rfl ?_
  obtain ⟨v306, hv306, h⟩ := Option.bind_eq_some_iff.mp h
  refine RT.gf 12 36 2 (pc := 306) (x := a0) (v := v306) hz dX12_worked_306 fl_X12_84 rfl hv306 ?_
  refine RT.iload_n (pc := 309) (k := 2) (x := X268.1) dX12_worked_309 rfl ?_
  obtain ⟨v310, hv310, h⟩ := Option.bind_eq_some_iff.mp h
  refine RT.iald (pc := 310) (x := v306) (i := X268.1) (v := v310) dX12_worked_310 (rt_lta hz (by decide) (by decide) hv310) hv310 ?_
  refine RT.if_ne (pc := 311) (tgt := 319) dX12_worked_311 rfl (fun q311 => ?_) (fun q311 => ?_)
  · rw [if_neg q311] at h
    refine RT.aload_n (pc := 319) (k := 0) (x := a0) dX12_worked_319 rfl ?_
    obtain ⟨v320, hv320, h⟩ := Option.bind_eq_some_iff.mp h
    refine RT.gf 12 35 2 (pc := 320) (x := a0) (v := v320) hz dX12_worked_320 fl_X12_81 rfl hv320 ?_
    refine RT.iload_n (pc := 323) (k := 2) (x := X268.1) dX12_worked_323 rfl ?_
    obtain ⟨v324, hv324, h⟩ := Option.bind_eq_some_iff.mp h
    refine RT.iald (pc := 324) (x := v320) (i := X268.1) (v := v324) dX12_worked_324 (rt_lta hz (by decide) (by decide) hv324) hv324 ?_
    refine RT.iload (pc := 325) (k := 5) (x := X268.2.1) dX12_worked_325 rfl ?_
    refine RT.imul (pc := 327) dX12_worked_327 ?_
    refine RT.wk (L1 := [(2, a0), (0, a1), (0, X268.1), (0, a3), (9, 0), (9, 0)]) (rt_le_s (rt_le_s (rt_le_s (rt_le_s (rt_le_s (rt_le_j rt_le_n)))))) ?_
    exact cj_X12_worked_328_14 hz hd ht a1 X268.1 a3 v301 X268.1 ((rt_imul v324 X268.2.1)) X268.2.2 _ h hK
  · rw [if_pos (Classical.not_not.mp q311)] at h
    refine RT.iload (pc := 314) (k := 5) (x := X268.2.1) dX12_worked_314 rfl ?_
    refine RT.goto (pc := 316) (tgt := 328) dX12_worked_316 rfl ?_
    refine RT.wk (L1 := [(2, a0), (0, a1), (0, X268.1), (0, a3), (9, 0), (9, 0)]) (rt_le_s (rt_le_s (rt_le_s (rt_le_s (rt_le_s (rt_le_j rt_le_n)))))) ?_
    exact cj_X12_worked_328_14 hz hd ht a1 X268.1 a3 v301 X268.1 X268.2.1 X268.2.2 _ h hK
theorem cj_X12_worked_243_14 {G : rt_G} {d : Nat} {z : Nat × Nat} {Q : rt_P} (hz : 300 ≤ z.1) (hd : 2 ≤ d) {a0 : Int} (ht : rt_kd a0.toNat = 20 + 12) (a1 : Int) (a2 : Int) (a3 : Int) (a4 : Int) (s0 : Int) (mem0 : rt_M) (t : (Int × Int × rt_M) ⊕ (rt_M)) (h : j_X12_worked_243_14 a0 a1 a2 a3 a4 s0 mem0 = some t) (hK : (∀ s1 : Int × Int × rt_M, t = .inl s1 → RT G M_X12_worked d z Q 14 [(2, a0), (0, a1), (0, s1.1), (0, s1.2.1), (9, 0), (9, 0)] [] z s1.2.2) ∧ (∀ x1 : rt_M, t = .inr x1 → RT G M_X12_worked d z Q 335 [(2, a0), (9, 0), (9, 0), (9, 0), (9, 0), (9, 0)] [] z x1)) : RT G M_X12_worked d z Q 243 [(2, a0), (0, a1), (0, a2), (0, a3), (0, a4), (9, 0)] [(0, s0)] z mem0 := by
  unfold j_X12_worked_243_14 at h
  refine RT.istore (pc := 243) (k := 5) (x := s0) (L1 := [(2, a0), (0, a1), (0, a2), (0, a3), (0, a4), (0, s0)]) dX12_worked_243 (Nat.le_of_ble_eq_true rfl) rfl ?_
  refine RT.iload (pc := 245) (k := 4) (x := a4) dX12_worked_245 rfl ?_
  refine RT.bipush (pc := 247) (n := 29) dX12_worked_247 ⟨by decide, by decide⟩ rfl ?_
  refine RT.icmp_ne (pc := 249) (tgt := 268) dX12_worked_249 rfl (fun q249 => ?_) (fun q249 => ?_)
  · rw [if_neg q249] at h
    refine RT.wk (L1 := [(2, a0), (0, a1), (0, a2), (0, a3), (9, 0), (0, s0)]) (rt_le_s (rt_le_s (rt_le_s (rt_le_s (rt_le_j (rt_le_s rt_le_n)))))) ?_
    exact cj_X12_worked_268_14 hz hd ht a1 a2 a3 s0 mem0 _ h hK
  · rw [if_pos (Classical.not_not.mp q249)] at h
    refine RT.aload_n (pc := 252) (k := 0) (x := a0) dX12_worked_252 rfl ?_
    refine RT.iload_n (pc := 253) (k := 2) (x := a2) dX12_worked_253 rfl ?_
    obtain ⟨p254, hp254, h⟩ := Option.bind_eq_some_iff.mp h
    refine RT.cVz (pc := 254) (M' := M_X12_tests) (ci := 12) (x := a0) (As := [(0, a2)]) (st := []) (r := none) (mem1 := p254) (d' := d - 1) hz dX12_worked_254 mw_X12_tests ml_X12_262 mi_X12_tests ht rfl rfl (Nat.le_of_ble_eq_true rfl) (Nat.le_of_ble_eq_true rfl) (by omega) rfl rfl (c_X12_tests hz (by omega) a0 a2 mem0 _ ht hp254) ?_
    refine RT.aload_n (pc := 257) (k := 0) (x := a0) dX12_worked_257 rfl ?_
    obtain ⟨v258, hv258, h⟩ := Option.bind_eq_some_iff.mp h
    refine RT.gf 12 29 2 (pc := 258) (x := a0) (v := v258) hz dX12_worked_258 fl_X12_63 rfl hv258 ?_
    refine RT.iload_n (pc := 261) (k := 2) (x := a2) dX12_worked_261 rfl ?_
    obtain ⟨v262, hv262, h⟩ := Option.bind_eq_some_iff.mp h
    refine RT.iald (pc := 262) (x := v258) (i := a2) (v := v262) dX12_worked_262 (rt_lta hz (by decide) (by decide) hv262) hv262 ?_
    refine RT.istore (pc := 263) (k := 5) (x := v262) (L1 := [(2, a0), (0, a1), (0, a2), (0, a3), (0, a4), (0, v262)]) dX12_worked_263 (Nat.le_of_ble_eq_true rfl) rfl ?_
    refine RT.iinc (pc := 265) (x := a2) (L1 := [(2, a0), (0, a1), (0, (rt_iadd a2 (-1))), (0, a3), (0, a4), (0, v262)]) dX12_worked_265 rfl (Nat.le_of_ble_eq_true rfl) ⟨by decide, by decide⟩ rfl ?_
    refine RT.wk (L1 := [(2, a0), (0, a1), (0, (rt_iadd a2 (-1))), (0, a3), (9, 0), (0, v262)]) (rt_le_s (rt_le_s (rt_le_s (rt_le_s (rt_le_j (rt_le_s rt_le_n)))))) ?_
    exact cj_X12_worked_268_14 hz hd ht a1 ((rt_iadd a2 (-1))) a3 v262 p254 _ h hK
theorem cb_X12_worked_14 {G : rt_G} {d : Nat} {z : Nat × Nat} {Q : rt_P} (hz : 300 ≤ z.1) (hd : 2 ≤ d) {a0 : Int} (ht : rt_kd a0.toNat = 20 + 12) (a1 : Int) (s : Int × Int × rt_M) (t : (Int × Int × rt_M) ⊕ (rt_M)) (h : b_X12_worked_14 a0 a1 s = some t) (hK : (∀ s1 : Int × Int × rt_M, t = .inl s1 → RT G M_X12_worked d z Q 14 [(2, a0), (0, a1), (0, s1.1), (0, s1.2.1), (9, 0), (9, 0)] [] z s1.2.2) ∧ (∀ x1 : rt_M, t = .inr x1 → RT G M_X12_worked d z Q 335 [(2, a0), (9, 0), (9, 0), (9, 0), (9, 0), (9, 0)] [] z x1)) : RT G M_X12_worked d z Q 14 [(2, a0), (0, a1), (0, s.1), (0, s.2.1), (9, 0), (9, 0)] [] z s.2.2 := by
  unfold b_X12_worked_14 at h
  refine RT.iload_n (pc := 14) (k := 3) (x := s.2.1) dX12_worked_14 rfl ?_
  refine RT.aload_n (pc := 15) (k := 0) (x := a0) dX12_worked_15 rfl ?_
  obtain ⟨v16, hv16, h⟩ := Option.bind_eq_some_iff.mp h
  refine RT.gf 12 22 2 (pc := 16) (x := a0) (v := v16) hz dX12_worked_16 fl_X12_50 rfl hv16 ?_
  refine RT.iload_n (pc := 19) (k := 1) (x := a1) dX12_worked_19 rfl ?_
  obtain ⟨v20, hv20, h⟩ := Option.bind_eq_some_iff.mp h
  refine RT.iald (pc := 20) (x := v16) (i := a1) (v := v20) dX12_worked_20 (rt_lta hz (by decide) (by decide) hv20) hv20 ?_
  refine RT.icmp_ge (pc := 21) (tgt := 335) dX12_worked_21 rfl (fun q21 => ?_) (fun q21 => ?_)
  · rw [if_pos q21] at h
    refine RT.wk (L1 := [(2, a0), (9, 0), (9, 0), (9, 0), (9, 0), (9, 0)]) (rt_le_s (rt_le_j (rt_le_j (rt_le_j (rt_le_s (rt_le_s rt_le_n)))))) ?_
    obtain rfl := Option.some.inj h
    have q1 := hK.2 s.2.2 rfl
    try dsimp only at q1
    exact q1
  · rw [if_neg q21] at h
    refine RT.aload_n (pc := 24) (k := 0) (x := a0) dX12_worked_24 rfl ?_
    obtain ⟨v25, hv25, h⟩ := Option.bind_eq_some_iff.mp h
    refine RT.gf 12 23 2 (pc := 25) (x := a0) (v := v25) hz dX12_worked_25 fl_X12_53 rfl hv25 ?_
    refine RT.iload_n (pc := 28) (k := 3) (x := s.2.1) dX12_worked_28 rfl ?_
    obtain ⟨v29, hv29, h⟩ := Option.bind_eq_some_iff.mp h
    refine RT.iald (pc := 29) (x := v25) (i := s.2.1) (v := v29) dX12_worked_29 (rt_lta hz (by decide) (by decide) hv29) hv29 ?_
    refine RT.istore (pc := 30) (k := 4) (x := v29) (L1 := [(2, a0), (0, a1), (0, s.1), (0, s.2.1), (0, v29), (9, 0)]) dX12_worked_30 (Nat.le_of_ble_eq_true rfl) rfl ?_
    refine RT.iload (pc := 32) (k := 4) (x := v29) dX12_worked_32 rfl ?_
    refine RT.bipush (pc := 34) (n := 28) dX12_worked_34 ⟨by decide, by decide⟩ rfl ?_
    refine RT.icmp_eq (pc := 36) (tgt := 46) dX12_worked_36 rfl (fun q36 => ?_) (fun q36 => ?_)
    · rw [if_pos q36] at h
      exact cj_X12_worked_46_14 hz hd ht a1 s.1 s.2.1 v29 s.2.2 _ h hK
    · rw [if_neg q36] at h
      refine RT.iload (pc := 39) (k := 4) (x := v29) dX12_worked_39 rfl ?_
      refine RT.bipush (pc := 41) (n := 30) dX12_worked_41 ⟨by decide, by decide⟩ rfl ?_
      refine RT.icmp_ne (pc := 43) (tgt := 75) dX12_worked_43 rfl (fun q43 => ?_) (fun q43 => ?_)
      · rw [if_neg q43] at h
        refine RT.iload (pc := 75) (k := 4) (x := v29) dX12_worked_75 rfl ?_
        refine RT.bipush (pc := 77) (n := 20) dX12_worked_77 ⟨by decide, by decide⟩ rfl ?_
        refine RT.icmp_eq (pc := 79) (tgt := 89) dX12_worked_79 rfl (fun q79 => ?_) (fun q79 => ?_)
        · rw [if_pos q79] at h
          exact cj_X12_worked_89_14 hz hd ht a1 s.1 s.2.1 v29 s.2.2 _ h hK
        · rw [if_neg q79] at h
          refine RT.iload (pc := 82) (k := 4) (x := v29) dX12_worked_82 rfl ?_
          refine RT.bipush (pc := 84) (n := 21) dX12_worked_84 ⟨by decide, by decide⟩ rfl ?_
          refine RT.icmp_ne (pc := 86) (tgt := 105) dX12_worked_86 rfl (fun q86 => ?_) (fun q86 => ?_)
          · rw [if_neg q86] at h
            refine RT.iload (pc := 105) (k := 4) (x := v29) dX12_worked_105 rfl ?_
            refine RT.bipush (pc := 107) (n := 22) dX12_worked_107 ⟨by decide, by decide⟩ rfl ?_
            refine RT.icmp_ne (pc := 109) (tgt := 123) dX12_worked_109 rfl (fun q109 => ?_) (fun q109 => ?_)
            · rw [if_neg q109] at h
              refine RT.iload (pc := 123) (k := 4) (x := v29) dX12_worked_123 rfl ?_
              refine RT.bipush (pc := 125) (n := 24) dX12_worked_125 ⟨by decide, by decide⟩ rfl ?_
              refine RT.icmp_eq (pc := 127) (tgt := 137) dX12_worked_127 rfl (fun q127 => ?_) (fun q127 => ?_)
              · rw [if_pos q127] at h
                exact cj_X12_worked_137_14 hz hd ht a1 s.1 s.2.1 v29 s.2.2 _ h hK
              · rw [if_neg q127] at h
                refine RT.iload (pc := 130) (k := 4) (x := v29) dX12_worked_130 rfl ?_
                refine RT.bipush (pc := 132) (n := 25) dX12_worked_132 ⟨by decide, by decide⟩ rfl ?_
                refine RT.icmp_ne (pc := 134) (tgt := 180) dX12_worked_134 rfl (fun q134 => ?_) (fun q134 => ?_)
                · rw [if_neg q134] at h
                  refine RT.iload (pc := 180) (k := 4) (x := v29) dX12_worked_180 rfl ?_
                  refine RT.bipush (pc := 182) (n := 26) dX12_worked_182 ⟨by decide, by decide⟩ rfl ?_
                  refine RT.icmp_eq (pc := 184) (tgt := 194) dX12_worked_184 rfl (fun q184 => ?_) (fun q184 => ?_)
                  · rw [if_pos q184] at h
                    exact cj_X12_worked_194_14 hz hd ht a1 s.1 s.2.1 v29 s.2.2 _ h hK
                  · rw [if_neg q184] at h
                    refine RT.iload (pc := 187) (k := 4) (x := v29) dX12_worked_187 rfl ?_
                    refine RT.bipush (pc := 189) (n := 27) dX12_worked_189 ⟨by decide, by decide⟩ rfl ?_
                    refine RT.icmp_ne (pc := 191) (tgt := 210) dX12_worked_191 rfl (fun q191 => ?_) (fun q191 => ?_)
                    · rw [if_neg q191] at h
                      refine RT.iload (pc := 210) (k := 4) (x := v29) dX12_worked_210 rfl ?_
                      refine RT.bipush (pc := 212) (n := 100) dX12_worked_212 ⟨by decide, by decide⟩ rfl ?_
                      refine RT.icmp_lt (pc := 214) (tgt := 225) dX12_worked_214 rfl (fun q214 => ?_) (fun q214 => ?_)
                      · rw [if_pos q214] at h
                        refine RT.iload (pc := 225) (k := 4) (x := v29) dX12_worked_225 rfl ?_
                        refine RT.bipush (pc := 227) (n := 20) dX12_worked_227 ⟨by decide, by decide⟩ rfl ?_
                        refine RT.icmp_ge (pc := 229) (tgt := 242) dX12_worked_229 rfl (fun q229 => ?_) (fun q229 => ?_)
                        · rw [if_pos q229] at h
                          refine RT.iconst (pc := 242) (n := 0) dX12_worked_242 ⟨by decide, by decide⟩ ?_
                          exact cj_X12_worked_243_14 hz hd ht a1 s.1 s.2.1 v29 0 s.2.2 _ h hK
                        · rw [if_neg q229] at h
                          refine RT.aload_n (pc := 232) (k := 0) (x := a0) dX12_worked_232 rfl ?_
                          obtain ⟨v233, hv233, h⟩ := Option.bind_eq_some_iff.mp h
                          refine RT.gf 12 38 2 (pc := 233) (x := a0) (v := v233) hz dX12_worked_233 fl_X12_90 rfl hv233 ?_
                          refine RT.iload (pc := 236) (k := 4) (x := v29) dX12_worked_236 rfl ?_
                          obtain ⟨v238, hv238, h⟩ := Option.bind_eq_some_iff.mp h
                          refine RT.iald (pc := 238) (x := v233) (i := v29) (v := v238) dX12_worked_238 (rt_lta hz (by decide) (by decide) hv238) hv238 ?_
                          refine RT.goto (pc := 239) (tgt := 243) dX12_worked_239 rfl ?_
                          exact cj_X12_worked_243_14 hz hd ht a1 s.1 s.2.1 v29 v238 s.2.2 _ h hK
                      · rw [if_neg q214] at h
                        refine RT.iload (pc := 217) (k := 4) (x := v29) dX12_worked_217 rfl ?_
                        refine RT.bipush (pc := 219) (n := 100) dX12_worked_219 ⟨by decide, by decide⟩ rfl ?_
                        refine RT.isub (pc := 221) dX12_worked_221 ?_
                        refine RT.goto (pc := 222) (tgt := 243) dX12_worked_222 rfl ?_
                        exact cj_X12_worked_243_14 hz hd ht a1 s.1 s.2.1 v29 ((rt_isub v29 100)) s.2.2 _ h hK
                    · rw [if_pos (Classical.not_not.mp q191)] at h
                      exact cj_X12_worked_194_14 hz hd ht a1 s.1 s.2.1 v29 s.2.2 _ h hK
                · rw [if_pos (Classical.not_not.mp q134)] at h
                  exact cj_X12_worked_137_14 hz hd ht a1 s.1 s.2.1 v29 s.2.2 _ h hK
            · rw [if_pos (Classical.not_not.mp q109)] at h
              refine RT.aload_n (pc := 112) (k := 0) (x := a0) dX12_worked_112 rfl ?_
              obtain ⟨v113, hv113, h⟩ := Option.bind_eq_some_iff.mp h
              refine RT.gf 12 36 2 (pc := 113) (x := a0) (v := v113) hz dX12_worked_113 fl_X12_84 rfl hv113 ?_
              refine RT.iload_n (pc := 116) (k := 2) (x := s.1) dX12_worked_116 rfl ?_
              refine RT.iload (pc := 117) (k := 4) (x := v29) dX12_worked_117 rfl ?_
              obtain ⟨m119, hm119, h⟩ := Option.bind_eq_some_iff.mp h
              refine RT.iast (pc := 119) (x := v113) (i := s.1) (v := v29) (mem1 := m119) dX12_worked_119 (rt_lts hz (by decide) (by decide) hm119) hm119 ?_
              refine RT.goto (pc := 120) (tgt := 329) dX12_worked_120 rfl ?_
              refine RT.wk (L1 := [(2, a0), (0, a1), (0, s.1), (0, s.2.1), (9, 0), (9, 0)]) (rt_le_s (rt_le_s (rt_le_s (rt_le_s (rt_le_j (rt_le_s rt_le_n)))))) ?_
              exact cj_X12_worked_329_14 hz hd ht a1 s.1 s.2.1 m119 _ h hK
          · rw [if_pos (Classical.not_not.mp q86)] at h
            exact cj_X12_worked_89_14 hz hd ht a1 s.1 s.2.1 v29 s.2.2 _ h hK
      · rw [if_pos (Classical.not_not.mp q43)] at h
        exact cj_X12_worked_46_14 hz hd ht a1 s.1 s.2.1 v29 s.2.2 _ h hK
theorem c_X12_worked {G : rt_G} {d : Nat} {z : Nat × Nat} (hz : 300 ≤ z.1) (hd : 2 ≤ d) (a0 : Int) (a1 : Int) (mem0 : rt_M) (t : Int × rt_M) (ht : rt_kd a0.toNat = 20 + 12) (h : f_X12_worked a0 a1 mem0 = some t) : RM G M_X12_worked d [(2, a0), (0, a1)] z mem0 (some (0, t.1)) t.2 := by
  suffices H : ∀ Q : rt_P, Q (some (0, t.1)) z t.2 → RT G M_X12_worked d z Q 0 [(2, a0), (0, a1), (9, 0), (9, 0), (9, 0), (9, 0)] [] z mem0 from H _ ⟨rfl, rfl, rfl⟩
  intro Q hK
  unfold f_X12_worked at h
  refine RT.iconst (pc := 0) (n := 0) dX12_worked_0 ⟨by decide, by decide⟩ ?_
  refine RT.istore_n (pc := 1) (k := 2) (x := 0) (L1 := [(2, a0), (0, a1), (0, 0), (9, 0), (9, 0), (9, 0)]) dX12_worked_1 (Nat.le_of_ble_eq_true rfl) rfl ?_
  refine RT.aload_n (pc := 2) (k := 0) (x := a0) dX12_worked_2 rfl ?_
  refine RT.iconst (pc := 3) (n := 0) dX12_worked_3 ⟨by decide, by decide⟩ ?_
  obtain ⟨p4, hp4, h⟩ := Option.bind_eq_some_iff.mp h
  refine RT.cVz (pc := 4) (M' := M_X12_opens) (ci := 12) (x := a0) (As := [(0, 0)]) (st := []) (r := none) (mem1 := p4) (d' := d - 1) hz dX12_worked_4 mw_X12_opens ml_X12_259 mi_X12_opens ht rfl rfl (Nat.le_of_ble_eq_true rfl) (Nat.le_of_ble_eq_true rfl) (by omega) rfl rfl (c_X12_opens hz (by omega) a0 0 mem0 _ ht hp4) ?_
  refine RT.aload_n (pc := 7) (k := 0) (x := a0) dX12_worked_7 rfl ?_
  obtain ⟨v8, hv8, h⟩ := Option.bind_eq_some_iff.mp h
  refine RT.gf 12 21 2 (pc := 8) (x := a0) (v := v8) hz dX12_worked_8 fl_X12_47 rfl hv8 ?_
  refine RT.iload_n (pc := 11) (k := 1) (x := a1) dX12_worked_11 rfl ?_
  obtain ⟨v12, hv12, h⟩ := Option.bind_eq_some_iff.mp h
  refine RT.iald (pc := 12) (x := v8) (i := a1) (v := v12) dX12_worked_12 (rt_lta hz (by decide) (by decide) hv12) hv12 ?_
  refine RT.istore_n (pc := 13) (k := 3) (x := v12) (L1 := [(2, a0), (0, a1), (0, 0), (0, v12), (9, 0), (9, 0)]) dX12_worked_13 (Nat.le_of_ble_eq_true rfl) rfl ?_
  obtain ⟨X14, hX14, h⟩ := Option.bind_eq_some_iff.mp h
  refine rt_it_ind (P := (fun s1 : Int × Int × rt_M => RT G M_X12_worked d z Q 14 [(2, a0), (0, a1), (0, s1.1), (0, s1.2.1), (9, 0), (9, 0)] [] z s1.2.2)) (X := (fun x1 : rt_M => RT G M_X12_worked d z Q 335 [(2, a0), (9, 0), (9, 0), (9, 0), (9, 0), (9, 0)] [] z x1)) (fun s1 t1 h1 k1 k2 => cb_X12_worked_14 hz hd ht a1 s1 t1 h1 ⟨k1, k2⟩) 4000 ((0, v12, p4)) X14 hX14 ?_
  refine RT.aload_n (pc := 335) (k := 0) (x := a0) dX12_worked_335 rfl ?_
  refine RT.iconst (pc := 336) (n := 0) dX12_worked_336 ⟨by decide, by decide⟩ ?_
  obtain ⟨p337, hp337, h⟩ := Option.bind_eq_some_iff.mp h
  refine RT.cVz (pc := 337) (M' := M_X12_tests) (ci := 12) (x := a0) (As := [(0, 0)]) (st := []) (r := none) (mem1 := p337) (d' := d - 1) hz dX12_worked_337 mw_X12_tests ml_X12_262 mi_X12_tests ht rfl rfl (Nat.le_of_ble_eq_true rfl) (Nat.le_of_ble_eq_true rfl) (by omega) rfl rfl (c_X12_tests hz (by omega) a0 0 X14 _ ht hp337) ?_
  refine RT.aload_n (pc := 340) (k := 0) (x := a0) dX12_worked_340 rfl ?_
  obtain ⟨v341, hv341, h⟩ := Option.bind_eq_some_iff.mp h
  refine RT.gf 12 29 2 (pc := 341) (x := a0) (v := v341) hz dX12_worked_341 fl_X12_63 rfl hv341 ?_
  refine RT.iconst (pc := 344) (n := 0) dX12_worked_344 ⟨by decide, by decide⟩ ?_
  obtain ⟨v345, hv345, h⟩ := Option.bind_eq_some_iff.mp h
  refine RT.iald (pc := 345) (x := v341) (i := 0) (v := v345) dX12_worked_345 (rt_lta hz (by decide) (by decide) hv345) hv345 ?_
  obtain rfl := Option.some.inj h
  exact RT.iret (pc := 346) dX12_worked_346 rfl (Nat.le_of_eq (rt_cells_0 z)) (Nat.le_of_eq (rt_slots_0 z)) hK
theorem cj_X12_isKept_246 {G : rt_G} {d : Nat} {z : Nat × Nat} {Q : rt_P} (hz : 300 ≤ z.1) (hd : 0 ≤ d) {a0 : Int} (ht : rt_kd a0.toNat = 20 + 12) (s0 : Int) (mem0 : rt_M) (t : Int) (h : j_X12_isKept_246 s0 mem0 = some t) (hK : Q (some (0, t)) z mem0) : RT G M_X12_isKept d z Q 246 [(9, 0)] [(0, s0)] z mem0 := by
  unfold j_X12_isKept_246 at h
  obtain ⟨w246, hw246, h⟩ := Option.bind_eq_some_iff.mp h
  obtain rfl := Option.some.inj h
  exact RT.zret (pc := 246) dX12_isKept_246 rfl (rt_bz_ok hw246) (Nat.le_of_eq (rt_cells_0 z)) (Nat.le_of_eq (rt_slots_0 z)) hK
theorem cj_X12_isKept_241 {G : rt_G} {d : Nat} {z : Nat × Nat} {Q : rt_P} (hz : 300 ≤ z.1) (hd : 0 ≤ d) {a0 : Int} (ht : rt_kd a0.toNat = 20 + 12) (mem0 : rt_M) (t : Int) (h : j_X12_isKept_241 mem0 = some t) (hK : Q (some (0, t)) z mem0) : RT G M_X12_isKept d z Q 241 [(9, 0)] [] z mem0 := by
  unfold j_X12_isKept_241 at h
  refine RT.iconst (pc := 241) (n := 1) dX12_isKept_241 ⟨by decide, by decide⟩ ?_
  refine RT.goto (pc := 242) (tgt := 246) dX12_isKept_242 rfl ?_
  exact cj_X12_isKept_246 hz hd ht 1 mem0 _ h hK
theorem c_X12_isKept {G : rt_G} {d : Nat} {z : Nat × Nat} (hz : 300 ≤ z.1) (hd : 0 ≤ d) (a0 : Int) (mem0 : rt_M) (t : Int) (ht : rt_kd a0.toNat = 20 + 12) (h : f_X12_isKept a0 mem0 = some t) : RM G M_X12_isKept d [(2, a0)] z mem0 (some (0, t)) mem0 := by
  suffices H : ∀ Q : rt_P, Q (some (0, t)) z mem0 → RT G M_X12_isKept d z Q 0 [(2, a0)] [] z mem0 from H _ ⟨rfl, rfl, rfl⟩
  intro Q hK
  unfold f_X12_isKept at h
  refine RT.aload_n (pc := 0) (k := 0) (x := a0) dX12_isKept_0 rfl ?_
  obtain ⟨v1, hv1, h⟩ := Option.bind_eq_some_iff.mp h
  refine RT.gf 12 6 0 (pc := 1) (x := a0) (v := v1) hz dX12_isKept_1 fl_X12_196 rfl hv1 ?_
  refine RT.iconst (pc := 4) (n := 1) dX12_isKept_4 ⟨by decide, by decide⟩ ?_
  refine RT.icmp_eq (pc := 5) (tgt := 10) dX12_isKept_5 rfl (fun q5 => ?_) (fun q5 => ?_)
  · rw [if_pos q5] at h
    refine RT.aload_n (pc := 10) (k := 0) (x := a0) dX12_isKept_10 rfl ?_
    obtain ⟨v11, hv11, h⟩ := Option.bind_eq_some_iff.mp h
    refine RT.gf 12 7 1 (pc := 11) (x := a0) (v := v11) hz dX12_isKept_11 fl_X12_189 rfl hv11 ?_
    refine RT.ldc2 (pc := 14) (v := 17017) dX12_isKept_14 kl_X12_265 ⟨by decide, by decide⟩ ?_
    refine RT.lcmp (pc := 17) dX12_isKept_17 ?_
    refine RT.if_eq (pc := 18) (tgt := 241) dX12_isKept_18 rfl (fun q18 => ?_) (fun q18 => ?_)
    · rw [if_pos q18] at h
      refine RT.wk (L1 := [(9, 0)]) (rt_le_j rt_le_n) ?_
      exact cj_X12_isKept_241 hz hd ht mem0 _ h hK
    · rw [if_neg q18] at h
      refine RT.aload_n (pc := 21) (k := 0) (x := a0) dX12_isKept_21 rfl ?_
      obtain ⟨v22, hv22, h⟩ := Option.bind_eq_some_iff.mp h
      refine RT.gf 12 7 1 (pc := 22) (x := a0) (v := v22) hz dX12_isKept_22 fl_X12_189 rfl hv22 ?_
      refine RT.ldc2 (pc := 25) (v := 381245) dX12_isKept_25 kl_X12_267 ⟨by decide, by decide⟩ ?_
      refine RT.lcmp (pc := 28) dX12_isKept_28 ?_
      refine RT.if_eq (pc := 29) (tgt := 241) dX12_isKept_29 rfl (fun q29 => ?_) (fun q29 => ?_)
      · rw [if_pos q29] at h
        refine RT.wk (L1 := [(9, 0)]) (rt_le_j rt_le_n) ?_
        exact cj_X12_isKept_241 hz hd ht mem0 _ h hK
      · rw [if_neg q29] at h
        refine RT.aload_n (pc := 32) (k := 0) (x := a0) dX12_isKept_32 rfl ?_
        obtain ⟨v33, hv33, h⟩ := Option.bind_eq_some_iff.mp h
        refine RT.gf 12 7 1 (pc := 33) (x := a0) (v := v33) hz dX12_isKept_33 fl_X12_189 rfl hv33 ?_
        refine RT.ldc2 (pc := 36) (v := 218546996) dX12_isKept_36 kl_X12_269 ⟨by decide, by decide⟩ ?_
        refine RT.lcmp (pc := 39) dX12_isKept_39 ?_
        refine RT.if_eq (pc := 40) (tgt := 241) dX12_isKept_40 rfl (fun q40 => ?_) (fun q40 => ?_)
        · rw [if_pos q40] at h
          refine RT.wk (L1 := [(9, 0)]) (rt_le_j rt_le_n) ?_
          exact cj_X12_isKept_241 hz hd ht mem0 _ h hK
        · rw [if_neg q40] at h
          refine RT.aload_n (pc := 43) (k := 0) (x := a0) dX12_isKept_43 rfl ?_
          obtain ⟨v44, hv44, h⟩ := Option.bind_eq_some_iff.mp h
          refine RT.gf 12 7 1 (pc := 44) (x := a0) (v := v44) hz dX12_isKept_44 fl_X12_189 rfl hv44 ?_
          refine RT.ldc2 (pc := 47) (v := 239882) dX12_isKept_47 kl_X12_271 ⟨by decide, by decide⟩ ?_
          refine RT.lcmp (pc := 50) dX12_isKept_50 ?_
          refine RT.if_eq (pc := 51) (tgt := 241) dX12_isKept_51 rfl (fun q51 => ?_) (fun q51 => ?_)
          · rw [if_pos q51] at h
            refine RT.wk (L1 := [(9, 0)]) (rt_le_j rt_le_n) ?_
            exact cj_X12_isKept_241 hz hd ht mem0 _ h hK
          · rw [if_neg q51] at h
            refine RT.aload_n (pc := 54) (k := 0) (x := a0) dX12_isKept_54 rfl ?_
            obtain ⟨v55, hv55, h⟩ := Option.bind_eq_some_iff.mp h
            refine RT.gf 12 7 1 (pc := 55) (x := a0) (v := v55) hz dX12_isKept_55 fl_X12_189 rfl hv55 ?_
            refine RT.ldc2 (pc := 58) (v := 161140) dX12_isKept_58 kl_X12_273 ⟨by decide, by decide⟩ ?_
            refine RT.lcmp (pc := 61) dX12_isKept_61 ?_
            refine RT.if_eq (pc := 62) (tgt := 241) dX12_isKept_62 rfl (fun q62 => ?_) (fun q62 => ?_)
            · rw [if_pos q62] at h
              refine RT.wk (L1 := [(9, 0)]) (rt_le_j rt_le_n) ?_
              exact cj_X12_isKept_241 hz hd ht mem0 _ h hK
            · rw [if_neg q62] at h
              refine RT.aload_n (pc := 65) (k := 0) (x := a0) dX12_isKept_65 rfl ?_
              obtain ⟨v66, hv66, h⟩ := Option.bind_eq_some_iff.mp h
              refine RT.gf 12 7 1 (pc := 66) (x := a0) (v := v66) hz dX12_isKept_66 fl_X12_189 rfl hv66 ?_
              refine RT.ldc2 (pc := 69) (v := 24925) dX12_isKept_69 kl_X12_275 ⟨by decide, by decide⟩ ?_
              refine RT.lcmp (pc := 72) dX12_isKept_72 ?_
              refine RT.if_eq (pc := 73) (tgt := 241) dX12_isKept_73 rfl (fun q73 => ?_) (fun q73 => ?_)
              · rw [if_pos q73] at h
                refine RT.wk (L1 := [(9, 0)]) (rt_le_j rt_le_n) ?_
                exact cj_X12_isKept_241 hz hd ht mem0 _ h hK
              · rw [if_neg q73] at h
                refine RT.aload_n (pc := 76) (k := 0) (x := a0) dX12_isKept_76 rfl ?_
                obtain ⟨v77, hv77, h⟩ := Option.bind_eq_some_iff.mp h
                refine RT.gf 12 7 1 (pc := 77) (x := a0) (v := v77) hz dX12_isKept_77 fl_X12_189 rfl hv77 ?_
                refine RT.ldc2 (pc := 80) (v := 4351231) dX12_isKept_80 kl_X12_277 ⟨by decide, by decide⟩ ?_
                refine RT.lcmp (pc := 83) dX12_isKept_83 ?_
                refine RT.if_eq (pc := 84) (tgt := 241) dX12_isKept_84 rfl (fun q84 => ?_) (fun q84 => ?_)
                · rw [if_pos q84] at h
                  refine RT.wk (L1 := [(9, 0)]) (rt_le_j rt_le_n) ?_
                  exact cj_X12_isKept_241 hz hd ht mem0 _ h hK
                · rw [if_neg q84] at h
                  refine RT.aload_n (pc := 87) (k := 0) (x := a0) dX12_isKept_87 rfl ?_
                  obtain ⟨v88, hv88, h⟩ := Option.bind_eq_some_iff.mp h
                  refine RT.gf 12 7 1 (pc := 88) (x := a0) (v := v88) hz dX12_isKept_88 fl_X12_189 rfl hv88 ?_
                  refine RT.ldc2 (pc := 91) (v := 10334396) dX12_isKept_91 kl_X12_279 ⟨by decide, by decide⟩ ?_
                  refine RT.lcmp (pc := 94) dX12_isKept_94 ?_
                  refine RT.if_eq (pc := 95) (tgt := 241) dX12_isKept_95 rfl (fun q95 => ?_) (fun q95 => ?_)
                  · rw [if_pos q95] at h
                    refine RT.wk (L1 := [(9, 0)]) (rt_le_j rt_le_n) ?_
                    exact cj_X12_isKept_241 hz hd ht mem0 _ h hK
                  · rw [if_neg q95] at h
                    refine RT.aload_n (pc := 98) (k := 0) (x := a0) dX12_isKept_98 rfl ?_
                    obtain ⟨v99, hv99, h⟩ := Option.bind_eq_some_iff.mp h
                    refine RT.gf 12 7 1 (pc := 99) (x := a0) (v := v99) hz dX12_isKept_99 fl_X12_189 rfl hv99 ?_
                    refine RT.ldc2 (pc := 102) (v := 284959882) dX12_isKept_102 kl_X12_281 ⟨by decide, by decide⟩ ?_
                    refine RT.lcmp (pc := 105) dX12_isKept_105 ?_
                    refine RT.if_eq (pc := 106) (tgt := 241) dX12_isKept_106 rfl (fun q106 => ?_) (fun q106 => ?_)
                    · rw [if_pos q106] at h
                      refine RT.wk (L1 := [(9, 0)]) (rt_le_j rt_le_n) ?_
                      exact cj_X12_isKept_241 hz hd ht mem0 _ h hK
                    · rw [if_neg q106] at h
                      refine RT.aload_n (pc := 109) (k := 0) (x := a0) dX12_isKept_109 rfl ?_
                      obtain ⟨v110, hv110, h⟩ := Option.bind_eq_some_iff.mp h
                      refine RT.gf 12 7 1 (pc := 110) (x := a0) (v := v110) hz dX12_isKept_110 fl_X12_189 rfl hv110 ?_
                      refine RT.ldc2 (pc := 113) (v := 154733320) dX12_isKept_113 kl_X12_283 ⟨by decide, by decide⟩ ?_
                      refine RT.lcmp (pc := 116) dX12_isKept_116 ?_
                      refine RT.if_eq (pc := 117) (tgt := 241) dX12_isKept_117 rfl (fun q117 => ?_) (fun q117 => ?_)
                      · rw [if_pos q117] at h
                        refine RT.wk (L1 := [(9, 0)]) (rt_le_j rt_le_n) ?_
                        exact cj_X12_isKept_241 hz hd ht mem0 _ h hK
                      · rw [if_neg q117] at h
                        refine RT.aload_n (pc := 120) (k := 0) (x := a0) dX12_isKept_120 rfl ?_
                        obtain ⟨v121, hv121, h⟩ := Option.bind_eq_some_iff.mp h
                        refine RT.gf 12 7 1 (pc := 121) (x := a0) (v := v121) hz dX12_isKept_121 fl_X12_189 rfl hv121 ?_
                        refine RT.ldc2 (pc := 124) (v := 12251) dX12_isKept_124 kl_X12_285 ⟨by decide, by decide⟩ ?_
                        refine RT.lcmp (pc := 127) dX12_isKept_127 ?_
                        refine RT.if_eq (pc := 128) (tgt := 241) dX12_isKept_128 rfl (fun q128 => ?_) (fun q128 => ?_)
                        · rw [if_pos q128] at h
                          refine RT.wk (L1 := [(9, 0)]) (rt_le_j rt_le_n) ?_
                          exact cj_X12_isKept_241 hz hd ht mem0 _ h hK
                        · rw [if_neg q128] at h
                          refine RT.aload_n (pc := 131) (k := 0) (x := a0) dX12_isKept_131 rfl ?_
                          obtain ⟨v132, hv132, h⟩ := Option.bind_eq_some_iff.mp h
                          refine RT.gf 12 7 1 (pc := 132) (x := a0) (v := v132) hz dX12_isKept_132 fl_X12_189 rfl hv132 ?_
                          refine RT.ldc2 (pc := 135) (v := 11103) dX12_isKept_135 kl_X12_287 ⟨by decide, by decide⟩ ?_
                          refine RT.lcmp (pc := 138) dX12_isKept_138 ?_
                          refine RT.if_eq (pc := 139) (tgt := 241) dX12_isKept_139 rfl (fun q139 => ?_) (fun q139 => ?_)
                          · rw [if_pos q139] at h
                            refine RT.wk (L1 := [(9, 0)]) (rt_le_j rt_le_n) ?_
                            exact cj_X12_isKept_241 hz hd ht mem0 _ h hK
                          · rw [if_neg q139] at h
                            refine RT.aload_n (pc := 142) (k := 0) (x := a0) dX12_isKept_142 rfl ?_
                            obtain ⟨v143, hv143, h⟩ := Option.bind_eq_some_iff.mp h
                            refine RT.gf 12 7 1 (pc := 143) (x := a0) (v := v143) hz dX12_isKept_143 fl_X12_189 rfl hv143 ?_
                            refine RT.ldc2 (pc := 146) (v := 259906) dX12_isKept_146 kl_X12_289 ⟨by decide, by decide⟩ ?_
                            refine RT.lcmp (pc := 149) dX12_isKept_149 ?_
                            refine RT.if_eq (pc := 150) (tgt := 241) dX12_isKept_150 rfl (fun q150 => ?_) (fun q150 => ?_)
                            · rw [if_pos q150] at h
                              refine RT.wk (L1 := [(9, 0)]) (rt_le_j rt_le_n) ?_
                              exact cj_X12_isKept_241 hz hd ht mem0 _ h hK
                            · rw [if_neg q150] at h
                              refine RT.aload_n (pc := 153) (k := 0) (x := a0) dX12_isKept_153 rfl ?_
                              obtain ⟨v154, hv154, h⟩ := Option.bind_eq_some_iff.mp h
                              refine RT.gf 12 7 1 (pc := 154) (x := a0) (v := v154) hz dX12_isKept_154 fl_X12_189 rfl hv154 ?_
                              refine RT.ldc2 (pc := 157) (v := 275320391) dX12_isKept_157 kl_X12_291 ⟨by decide, by decide⟩ ?_
                              refine RT.lcmp (pc := 160) dX12_isKept_160 ?_
                              refine RT.if_eq (pc := 161) (tgt := 241) dX12_isKept_161 rfl (fun q161 => ?_) (fun q161 => ?_)
                              · rw [if_pos q161] at h
                                refine RT.wk (L1 := [(9, 0)]) (rt_le_j rt_le_n) ?_
                                exact cj_X12_isKept_241 hz hd ht mem0 _ h hK
                              · rw [if_neg q161] at h
                                refine RT.aload_n (pc := 164) (k := 0) (x := a0) dX12_isKept_164 rfl ?_
                                obtain ⟨v165, hv165, h⟩ := Option.bind_eq_some_iff.mp h
                                refine RT.gf 12 7 1 (pc := 165) (x := a0) (v := v165) hz dX12_isKept_165 fl_X12_189 rfl hv165 ?_
                                refine RT.ldc2 (pc := 168) (v := 8740238) dX12_isKept_168 kl_X12_293 ⟨by decide, by decide⟩ ?_
                                refine RT.lcmp (pc := 171) dX12_isKept_171 ?_
                                refine RT.if_eq (pc := 172) (tgt := 241) dX12_isKept_172 rfl (fun q172 => ?_) (fun q172 => ?_)
                                · rw [if_pos q172] at h
                                  refine RT.wk (L1 := [(9, 0)]) (rt_le_j rt_le_n) ?_
                                  exact cj_X12_isKept_241 hz hd ht mem0 _ h hK
                                · rw [if_neg q172] at h
                                  refine RT.aload_n (pc := 175) (k := 0) (x := a0) dX12_isKept_175 rfl ?_
                                  obtain ⟨v176, hv176, h⟩ := Option.bind_eq_some_iff.mp h
                                  refine RT.gf 12 7 1 (pc := 176) (x := a0) (v := v176) hz dX12_isKept_176 fl_X12_189 rfl hv176 ?_
                                  refine RT.ldc2 (pc := 179) (v := 6257) dX12_isKept_179 kl_X12_295 ⟨by decide, by decide⟩ ?_
                                  refine RT.lcmp (pc := 182) dX12_isKept_182 ?_
                                  refine RT.if_eq (pc := 183) (tgt := 241) dX12_isKept_183 rfl (fun q183 => ?_) (fun q183 => ?_)
                                  · rw [if_pos q183] at h
                                    refine RT.wk (L1 := [(9, 0)]) (rt_le_j rt_le_n) ?_
                                    exact cj_X12_isKept_241 hz hd ht mem0 _ h hK
                                  · rw [if_neg q183] at h
                                    refine RT.aload_n (pc := 186) (k := 0) (x := a0) dX12_isKept_186 rfl ?_
                                    obtain ⟨v187, hv187, h⟩ := Option.bind_eq_some_iff.mp h
                                    refine RT.gf 12 7 1 (pc := 187) (x := a0) (v := v187) hz dX12_isKept_187 fl_X12_189 rfl hv187 ?_
                                    refine RT.ldc2 (pc := 190) (v := 40423) dX12_isKept_190 kl_X12_297 ⟨by decide, by decide⟩ ?_
                                    refine RT.lcmp (pc := 193) dX12_isKept_193 ?_
                                    refine RT.if_eq (pc := 194) (tgt := 241) dX12_isKept_194 rfl (fun q194 => ?_) (fun q194 => ?_)
                                    · rw [if_pos q194] at h
                                      refine RT.wk (L1 := [(9, 0)]) (rt_le_j rt_le_n) ?_
                                      exact cj_X12_isKept_241 hz hd ht mem0 _ h hK
                                    · rw [if_neg q194] at h
                                      refine RT.aload_n (pc := 197) (k := 0) (x := a0) dX12_isKept_197 rfl ?_
                                      obtain ⟨v198, hv198, h⟩ := Option.bind_eq_some_iff.mp h
                                      refine RT.gf 12 7 1 (pc := 198) (x := a0) (v := v198) hz dX12_isKept_198 fl_X12_189 rfl hv198 ?_
                                      refine RT.ldc2 (pc := 201) (v := 1888) dX12_isKept_201 kl_X12_299 ⟨by decide, by decide⟩ ?_
                                      refine RT.lcmp (pc := 204) dX12_isKept_204 ?_
                                      refine RT.if_eq (pc := 205) (tgt := 241) dX12_isKept_205 rfl (fun q205 => ?_) (fun q205 => ?_)
                                      · rw [if_pos q205] at h
                                        refine RT.wk (L1 := [(9, 0)]) (rt_le_j rt_le_n) ?_
                                        exact cj_X12_isKept_241 hz hd ht mem0 _ h hK
                                      · rw [if_neg q205] at h
                                        refine RT.aload_n (pc := 208) (k := 0) (x := a0) dX12_isKept_208 rfl ?_
                                        obtain ⟨v209, hv209, h⟩ := Option.bind_eq_some_iff.mp h
                                        refine RT.gf 12 7 1 (pc := 209) (x := a0) (v := v209) hz dX12_isKept_209 fl_X12_189 rfl hv209 ?_
                                        refine RT.ldc2 (pc := 212) (v := 10631) dX12_isKept_212 kl_X12_232 ⟨by decide, by decide⟩ ?_
                                        refine RT.lcmp (pc := 215) dX12_isKept_215 ?_
                                        refine RT.if_eq (pc := 216) (tgt := 241) dX12_isKept_216 rfl (fun q216 => ?_) (fun q216 => ?_)
                                        · rw [if_pos q216] at h
                                          refine RT.wk (L1 := [(9, 0)]) (rt_le_j rt_le_n) ?_
                                          exact cj_X12_isKept_241 hz hd ht mem0 _ h hK
                                        · rw [if_neg q216] at h
                                          refine RT.aload_n (pc := 219) (k := 0) (x := a0) dX12_isKept_219 rfl ?_
                                          obtain ⟨v220, hv220, h⟩ := Option.bind_eq_some_iff.mp h
                                          refine RT.gf 12 7 1 (pc := 220) (x := a0) (v := v220) hz dX12_isKept_220 fl_X12_189 rfl hv220 ?_
                                          refine RT.ldc2 (pc := 223) (v := 1111) dX12_isKept_223 kl_X12_252 ⟨by decide, by decide⟩ ?_
                                          refine RT.lcmp (pc := 226) dX12_isKept_226 ?_
                                          refine RT.if_eq (pc := 227) (tgt := 241) dX12_isKept_227 rfl (fun q227 => ?_) (fun q227 => ?_)
                                          · rw [if_pos q227] at h
                                            refine RT.wk (L1 := [(9, 0)]) (rt_le_j rt_le_n) ?_
                                            exact cj_X12_isKept_241 hz hd ht mem0 _ h hK
                                          · rw [if_neg q227] at h
                                            refine RT.aload_n (pc := 230) (k := 0) (x := a0) dX12_isKept_230 rfl ?_
                                            obtain ⟨v231, hv231, h⟩ := Option.bind_eq_some_iff.mp h
                                            refine RT.gf 12 7 1 (pc := 231) (x := a0) (v := v231) hz dX12_isKept_231 fl_X12_189 rfl hv231 ?_
                                            refine RT.ldc2 (pc := 234) (v := 423) dX12_isKept_234 kl_X12_254 ⟨by decide, by decide⟩ ?_
                                            refine RT.lcmp (pc := 237) dX12_isKept_237 ?_
                                            refine RT.if_ne (pc := 238) (tgt := 245) dX12_isKept_238 rfl (fun q238 => ?_) (fun q238 => ?_)
                                            · rw [if_neg q238] at h
                                              refine RT.iconst (pc := 245) (n := 0) dX12_isKept_245 ⟨by decide, by decide⟩ ?_
                                              refine RT.wk (L1 := [(9, 0)]) (rt_le_j rt_le_n) ?_
                                              exact cj_X12_isKept_246 hz hd ht 0 mem0 _ h hK
                                            · rw [if_pos (Classical.not_not.mp q238)] at h
                                              refine RT.wk (L1 := [(9, 0)]) (rt_le_j rt_le_n) ?_
                                              exact cj_X12_isKept_241 hz hd ht mem0 _ h hK
  · rw [if_neg q5] at h
    refine RT.iconst (pc := 8) (n := 1) dX12_isKept_8 ⟨by decide, by decide⟩ ?_
    obtain rfl := Option.some.inj h
    exact RT.zret (pc := 9) dX12_isKept_9 rfl (by decide) (Nat.le_of_eq (rt_cells_0 z)) (Nat.le_of_eq (rt_slots_0 z)) hK
theorem cb_X12_wigNamed_2 {G : rt_G} {d : Nat} {z : Nat × Nat} {Q : rt_P} (hz : 300 ≤ z.1) (hd : 0 ≤ d) {a0 : Int} (ht : rt_kd a0.toNat = 20 + 12) (a1 : Int) (mem0 : rt_M) (s : Int) (t : (Int) ⊕ ((Unit) ⊕ (Int))) (h : b_X12_wigNamed_2 a0 a1 mem0 s = some t) (hK : (∀ s1 : Int, t = .inl s1 → RT G M_X12_wigNamed d z Q 2 [(2, a0), (0, a1), (0, s1)] [] z mem0) ∧ (∀ x1 : Unit, t = .inr (.inl x1) → RT G M_X12_wigNamed d z Q 43 [(9, 0), (9, 0), (9, 0)] [] z mem0) ∧ (∀ t1 : Int, t = .inr (.inr t1) → Q (some (0, t1)) z mem0)) : RT G M_X12_wigNamed d z Q 2 [(2, a0), (0, a1), (0, s)] [] z mem0 := by
  unfold b_X12_wigNamed_2 at h
  refine RT.iload_n (pc := 2) (k := 2) (x := s) dX12_wigNamed_2 rfl ?_
  refine RT.aload_n (pc := 3) (k := 0) (x := a0) dX12_wigNamed_3 rfl ?_
  obtain ⟨v4, hv4, h⟩ := Option.bind_eq_some_iff.mp h
  refine RT.gf 12 10 2 (pc := 4) (x := a0) (v := v4) hz dX12_wigNamed_4 fl_X12_13 rfl hv4 ?_
  refine RT.iconst (pc := 7) (n := 4) dX12_wigNamed_7 ⟨by decide, by decide⟩ ?_
  refine RT.iload_n (pc := 8) (k := 1) (x := a1) dX12_wigNamed_8 rfl ?_
  refine RT.imul (pc := 9) dX12_wigNamed_9 ?_
  refine RT.iconst (pc := 10) (n := 0) dX12_wigNamed_10 ⟨by decide, by decide⟩ ?_
  refine RT.iadd (pc := 11) dX12_wigNamed_11 ?_
  obtain ⟨v12, hv12, h⟩ := Option.bind_eq_some_iff.mp h
  refine RT.iald (pc := 12) (x := v4) (i := (rt_iadd (rt_imul 4 a1) 0)) (v := v12) dX12_wigNamed_12 (rt_lta hz (by decide) (by decide) hv12) hv12 ?_
  refine RT.icmp_ge (pc := 13) (tgt := 43) dX12_wigNamed_13 rfl (fun q13 => ?_) (fun q13 => ?_)
  · rw [if_pos q13] at h
    refine RT.wk (L1 := [(9, 0), (9, 0), (9, 0)]) (rt_le_j (rt_le_j (rt_le_j rt_le_n))) ?_
    obtain rfl := Option.some.inj h
    have q1 := hK.2.1 () rfl
    try dsimp only at q1
    exact q1
  · rw [if_neg q13] at h
    refine RT.aload_n (pc := 16) (k := 0) (x := a0) dX12_wigNamed_16 rfl ?_
    obtain ⟨v17, hv17, h⟩ := Option.bind_eq_some_iff.mp h
    refine RT.gf 12 11 2 (pc := 17) (x := a0) (v := v17) hz dX12_wigNamed_17 fl_X12_16 rfl hv17 ?_
    refine RT.bipush (pc := 20) (n := 6) dX12_wigNamed_20 ⟨by decide, by decide⟩ rfl ?_
    refine RT.iload_n (pc := 22) (k := 1) (x := a1) dX12_wigNamed_22 rfl ?_
    refine RT.imul (pc := 23) dX12_wigNamed_23 ?_
    refine RT.iload_n (pc := 24) (k := 2) (x := s) dX12_wigNamed_24 rfl ?_
    refine RT.iadd (pc := 25) dX12_wigNamed_25 ?_
    obtain ⟨v26, hv26, h⟩ := Option.bind_eq_some_iff.mp h
    refine RT.lald (pc := 26) (x := v17) (i := (rt_iadd (rt_imul 6 a1) s)) (v := v26) dX12_wigNamed_26 (rt_lta hz (by decide) (by decide) hv26) hv26 ?_
    refine RT.aload_n (pc := 27) (k := 0) (x := a0) dX12_wigNamed_27 rfl ?_
    obtain ⟨v28, hv28, h⟩ := Option.bind_eq_some_iff.mp h
    refine RT.gf 12 7 1 (pc := 28) (x := a0) (v := v28) hz dX12_wigNamed_28 fl_X12_189 rfl hv28 ?_
    refine RT.lcmp (pc := 31) dX12_wigNamed_31 ?_
    refine RT.if_ne (pc := 32) (tgt := 37) dX12_wigNamed_32 rfl (fun q32 => ?_) (fun q32 => ?_)
    · rw [if_neg q32] at h
      refine RT.iinc (pc := 37) (x := s) (L1 := [(2, a0), (0, a1), (0, (rt_iadd s 1))]) dX12_wigNamed_37 rfl (Nat.le_of_ble_eq_true rfl) ⟨by decide, by decide⟩ rfl ?_
      refine RT.goto (pc := 40) (tgt := 2) dX12_wigNamed_40 rfl ?_
      obtain rfl := Option.some.inj h
      have q1 := hK.1 ((rt_iadd s 1)) rfl
      try dsimp only at q1
      exact q1
    · rw [if_pos (Classical.not_not.mp q32)] at h
      obtain ⟨t2, g2, e2⟩ := Option.map_eq_some_iff.mp h
      subst e2
      replace h := g2
      replace hK := hK.2.2 t2 rfl
      refine RT.iload_n (pc := 35) (k := 2) (x := s) dX12_wigNamed_35 rfl ?_
      obtain rfl := Option.some.inj h
      exact RT.iret (pc := 36) dX12_wigNamed_36 rfl (Nat.le_of_eq (rt_cells_0 z)) (Nat.le_of_eq (rt_slots_0 z)) hK
theorem c_X12_wigNamed {G : rt_G} {d : Nat} {z : Nat × Nat} (hz : 300 ≤ z.1) (hd : 0 ≤ d) (a0 : Int) (a1 : Int) (mem0 : rt_M) (t : Int) (ht : rt_kd a0.toNat = 20 + 12) (h : f_X12_wigNamed a0 a1 mem0 = some t) : RM G M_X12_wigNamed d [(2, a0), (0, a1)] z mem0 (some (0, t)) mem0 := by
  suffices H : ∀ Q : rt_P, Q (some (0, t)) z mem0 → RT G M_X12_wigNamed d z Q 0 [(2, a0), (0, a1), (9, 0)] [] z mem0 from H _ ⟨rfl, rfl, rfl⟩
  intro Q hK
  unfold f_X12_wigNamed at h
  refine RT.iconst (pc := 0) (n := 0) dX12_wigNamed_0 ⟨by decide, by decide⟩ ?_
  refine RT.istore_n (pc := 1) (k := 2) (x := 0) (L1 := [(2, a0), (0, a1), (0, 0)]) dX12_wigNamed_1 (Nat.le_of_ble_eq_true rfl) rfl ?_
  obtain ⟨E2, hE2, h⟩ := Option.bind_eq_some_iff.mp h
  refine rt_it_ind (P := (fun s1 : Int => RT G M_X12_wigNamed d z Q 2 [(2, a0), (0, a1), (0, s1)] [] z mem0)) (X := (fun e1 : (Unit) ⊕ (Int) => (∀ x1 : Unit, e1 = .inl x1 → RT G M_X12_wigNamed d z Q 43 [(9, 0), (9, 0), (9, 0)] [] z mem0) ∧ (∀ t1 : Int, e1 = .inr t1 → Q (some (0, t1)) z mem0))) (fun s1 t1 h1 k1 k2 => cb_X12_wigNamed_2 hz hd ht a1 mem0 s1 t1 h1 ⟨k1, fun x1 q => (k2 _ q).1 x1 rfl, fun t2 q => (k2 _ q).2 t2 rfl⟩) 4000 0 E2 hE2 ?_
  cases E2 with
  | inr t1 =>
    obtain rfl := Option.some.inj h
    exact ⟨fun x1 q => (by cases q), fun t2 q => (by cases q; exact hK)⟩
  | inl X2 =>
    refine ⟨fun x1 q => ?_, fun t2 q => (by cases q)⟩
    cases q
    refine RT.iconst (pc := 43) (n := (-1)) dX12_wigNamed_43 ⟨by decide, by decide⟩ ?_
    obtain rfl := Option.some.inj h
    exact RT.iret (pc := 44) dX12_wigNamed_44 rfl (Nat.le_of_eq (rt_cells_0 z)) (Nat.le_of_eq (rt_slots_0 z)) hK
theorem cb_X12_headNamed_2 {G : rt_G} {d : Nat} {z : Nat × Nat} {Q : rt_P} (hz : 300 ≤ z.1) (hd : 0 ≤ d) {a0 : Int} (ht : rt_kd a0.toNat = 20 + 12) (a1 : Int) (mem0 : rt_M) (s : Int) (t : (Int) ⊕ ((Unit) ⊕ (Int))) (h : b_X12_headNamed_2 a0 a1 mem0 s = some t) (hK : (∀ s1 : Int, t = .inl s1 → RT G M_X12_headNamed d z Q 2 [(2, a0), (0, a1), (0, s1)] [] z mem0) ∧ (∀ x1 : Unit, t = .inr (.inl x1) → RT G M_X12_headNamed d z Q 43 [(9, 0), (9, 0), (9, 0)] [] z mem0) ∧ (∀ t1 : Int, t = .inr (.inr t1) → Q (some (0, t1)) z mem0)) : RT G M_X12_headNamed d z Q 2 [(2, a0), (0, a1), (0, s)] [] z mem0 := by
  unfold b_X12_headNamed_2 at h
  refine RT.iload_n (pc := 2) (k := 2) (x := s) dX12_headNamed_2 rfl ?_
  refine RT.aload_n (pc := 3) (k := 0) (x := a0) dX12_headNamed_3 rfl ?_
  obtain ⟨v4, hv4, h⟩ := Option.bind_eq_some_iff.mp h
  refine RT.gf 12 10 2 (pc := 4) (x := a0) (v := v4) hz dX12_headNamed_4 fl_X12_13 rfl hv4 ?_
  refine RT.iconst (pc := 7) (n := 4) dX12_headNamed_7 ⟨by decide, by decide⟩ ?_
  refine RT.iload_n (pc := 8) (k := 1) (x := a1) dX12_headNamed_8 rfl ?_
  refine RT.imul (pc := 9) dX12_headNamed_9 ?_
  refine RT.iconst (pc := 10) (n := 1) dX12_headNamed_10 ⟨by decide, by decide⟩ ?_
  refine RT.iadd (pc := 11) dX12_headNamed_11 ?_
  obtain ⟨v12, hv12, h⟩ := Option.bind_eq_some_iff.mp h
  refine RT.iald (pc := 12) (x := v4) (i := (rt_iadd (rt_imul 4 a1) 1)) (v := v12) dX12_headNamed_12 (rt_lta hz (by decide) (by decide) hv12) hv12 ?_
  refine RT.icmp_ge (pc := 13) (tgt := 43) dX12_headNamed_13 rfl (fun q13 => ?_) (fun q13 => ?_)
  · rw [if_pos q13] at h
    refine RT.wk (L1 := [(9, 0), (9, 0), (9, 0)]) (rt_le_j (rt_le_j (rt_le_j rt_le_n))) ?_
    obtain rfl := Option.some.inj h
    have q1 := hK.2.1 () rfl
    try dsimp only at q1
    exact q1
  · rw [if_neg q13] at h
    refine RT.aload_n (pc := 16) (k := 0) (x := a0) dX12_headNamed_16 rfl ?_
    obtain ⟨v17, hv17, h⟩ := Option.bind_eq_some_iff.mp h
    refine RT.gf 12 12 2 (pc := 17) (x := a0) (v := v17) hz dX12_headNamed_17 fl_X12_20 rfl hv17 ?_
    refine RT.bipush (pc := 20) (n := 6) dX12_headNamed_20 ⟨by decide, by decide⟩ rfl ?_
    refine RT.iload_n (pc := 22) (k := 1) (x := a1) dX12_headNamed_22 rfl ?_
    refine RT.imul (pc := 23) dX12_headNamed_23 ?_
    refine RT.iload_n (pc := 24) (k := 2) (x := s) dX12_headNamed_24 rfl ?_
    refine RT.iadd (pc := 25) dX12_headNamed_25 ?_
    obtain ⟨v26, hv26, h⟩ := Option.bind_eq_some_iff.mp h
    refine RT.lald (pc := 26) (x := v17) (i := (rt_iadd (rt_imul 6 a1) s)) (v := v26) dX12_headNamed_26 (rt_lta hz (by decide) (by decide) hv26) hv26 ?_
    refine RT.aload_n (pc := 27) (k := 0) (x := a0) dX12_headNamed_27 rfl ?_
    obtain ⟨v28, hv28, h⟩ := Option.bind_eq_some_iff.mp h
    refine RT.gf 12 7 1 (pc := 28) (x := a0) (v := v28) hz dX12_headNamed_28 fl_X12_189 rfl hv28 ?_
    refine RT.lcmp (pc := 31) dX12_headNamed_31 ?_
    refine RT.if_ne (pc := 32) (tgt := 37) dX12_headNamed_32 rfl (fun q32 => ?_) (fun q32 => ?_)
    · rw [if_neg q32] at h
      refine RT.iinc (pc := 37) (x := s) (L1 := [(2, a0), (0, a1), (0, (rt_iadd s 1))]) dX12_headNamed_37 rfl (Nat.le_of_ble_eq_true rfl) ⟨by decide, by decide⟩ rfl ?_
      refine RT.goto (pc := 40) (tgt := 2) dX12_headNamed_40 rfl ?_
      obtain rfl := Option.some.inj h
      have q1 := hK.1 ((rt_iadd s 1)) rfl
      try dsimp only at q1
      exact q1
    · rw [if_pos (Classical.not_not.mp q32)] at h
      obtain ⟨t2, g2, e2⟩ := Option.map_eq_some_iff.mp h
      subst e2
      replace h := g2
      replace hK := hK.2.2 t2 rfl
      refine RT.iload_n (pc := 35) (k := 2) (x := s) dX12_headNamed_35 rfl ?_
      obtain rfl := Option.some.inj h
      exact RT.iret (pc := 36) dX12_headNamed_36 rfl (Nat.le_of_eq (rt_cells_0 z)) (Nat.le_of_eq (rt_slots_0 z)) hK
theorem c_X12_headNamed {G : rt_G} {d : Nat} {z : Nat × Nat} (hz : 300 ≤ z.1) (hd : 0 ≤ d) (a0 : Int) (a1 : Int) (mem0 : rt_M) (t : Int) (ht : rt_kd a0.toNat = 20 + 12) (h : f_X12_headNamed a0 a1 mem0 = some t) : RM G M_X12_headNamed d [(2, a0), (0, a1)] z mem0 (some (0, t)) mem0 := by
  suffices H : ∀ Q : rt_P, Q (some (0, t)) z mem0 → RT G M_X12_headNamed d z Q 0 [(2, a0), (0, a1), (9, 0)] [] z mem0 from H _ ⟨rfl, rfl, rfl⟩
  intro Q hK
  unfold f_X12_headNamed at h
  refine RT.iconst (pc := 0) (n := 0) dX12_headNamed_0 ⟨by decide, by decide⟩ ?_
  refine RT.istore_n (pc := 1) (k := 2) (x := 0) (L1 := [(2, a0), (0, a1), (0, 0)]) dX12_headNamed_1 (Nat.le_of_ble_eq_true rfl) rfl ?_
  obtain ⟨E2, hE2, h⟩ := Option.bind_eq_some_iff.mp h
  refine rt_it_ind (P := (fun s1 : Int => RT G M_X12_headNamed d z Q 2 [(2, a0), (0, a1), (0, s1)] [] z mem0)) (X := (fun e1 : (Unit) ⊕ (Int) => (∀ x1 : Unit, e1 = .inl x1 → RT G M_X12_headNamed d z Q 43 [(9, 0), (9, 0), (9, 0)] [] z mem0) ∧ (∀ t1 : Int, e1 = .inr t1 → Q (some (0, t1)) z mem0))) (fun s1 t1 h1 k1 k2 => cb_X12_headNamed_2 hz hd ht a1 mem0 s1 t1 h1 ⟨k1, fun x1 q => (k2 _ q).1 x1 rfl, fun t2 q => (k2 _ q).2 t2 rfl⟩) 4000 0 E2 hE2 ?_
  cases E2 with
  | inr t1 =>
    obtain rfl := Option.some.inj h
    exact ⟨fun x1 q => (by cases q), fun t2 q => (by cases q; exact hK)⟩
  | inl X2 =>
    refine ⟨fun x1 q => ?_, fun t2 q => (by cases q)⟩
    cases q
    refine RT.iconst (pc := 43) (n := (-1)) dX12_headNamed_43 ⟨by decide, by decide⟩ ?_
    obtain rfl := Option.some.inj h
    exact RT.iret (pc := 44) dX12_headNamed_44 rfl (Nat.le_of_eq (rt_cells_0 z)) (Nat.le_of_eq (rt_slots_0 z)) hK
theorem c_X12_needsNumber {G : rt_G} {d : Nat} {z : Nat × Nat} (hz : 300 ≤ z.1) (hd : 2 ≤ d) (a0 : Int) (a1 : Int) (a2 : Int) (mem0 : rt_M) (t : Int × rt_M) (ht : rt_kd a0.toNat = 20 + 12) (h : f_X12_needsNumber a0 a1 a2 mem0 = some t) : RM G M_X12_needsNumber d [(2, a0), (0, a1), (0, a2)] z mem0 (some (0, t.1)) t.2 := by
  suffices H : ∀ Q : rt_P, Q (some (0, t.1)) z t.2 → RT G M_X12_needsNumber d z Q 0 [(2, a0), (0, a1), (0, a2)] [] z mem0 from H _ ⟨rfl, rfl, rfl⟩
  intro Q hK
  unfold f_X12_needsNumber at h
  refine RT.aload_n (pc := 0) (k := 0) (x := a0) dX12_needsNumber_0 rfl ?_
  obtain ⟨v1, hv1, h⟩ := Option.bind_eq_some_iff.mp h
  refine RT.gf 12 6 0 (pc := 1) (x := a0) (v := v1) hz dX12_needsNumber_1 fl_X12_196 rfl hv1 ?_
  refine RT.iconst (pc := 4) (n := 2) dX12_needsNumber_4 ⟨by decide, by decide⟩ ?_
  refine RT.icmp_eq (pc := 5) (tgt := 14) dX12_needsNumber_5 rfl (fun q5 => ?_) (fun q5 => ?_)
  · rw [if_pos q5] at h
    refine RT.aload_n (pc := 14) (k := 0) (x := a0) dX12_needsNumber_14 rfl ?_
    obtain ⟨v15, hv15, h⟩ := Option.bind_eq_some_iff.mp h
    refine RT.gf 12 8 0 (pc := 15) (x := a0) (v := v15) hz dX12_needsNumber_15 fl_X12_193 rfl hv15 ?_
    refine RT.iload_n (pc := 18) (k := 1) (x := a1) dX12_needsNumber_18 rfl ?_
    refine RT.iload_n (pc := 19) (k := 2) (x := a2) dX12_needsNumber_19 rfl ?_
    obtain ⟨p20, hp20, h⟩ := Option.bind_eq_some_iff.mp h
    refine RT.cSz (pc := 20) (M' := M_X12_within) (As := [(0, v15), (0, a1), (0, a2)]) (st := []) (r := some (0, p20)) (mem1 := mem0) (d' := d - 1) dX12_needsNumber_20 mw_X12_within ml_X12_301 mi_X12_within rfl rfl (Nat.le_of_ble_eq_true rfl) (Nat.le_of_ble_eq_true rfl) (by omega) rfl rfl (c_X12_within hz (by omega) v15 a1 a2 mem0 _ hp20) ?_
    refine RT.if_ne (pc := 23) (tgt := 32) dX12_needsNumber_23 rfl (fun q23 => ?_) (fun q23 => ?_)
    · rw [if_neg q23] at h
      refine RT.aload_n (pc := 32) (k := 0) (x := a0) dX12_needsNumber_32 rfl ?_
      refine RT.aload_n (pc := 33) (k := 0) (x := a0) dX12_needsNumber_33 rfl ?_
      obtain ⟨v34, hv34, h⟩ := Option.bind_eq_some_iff.mp h
      refine RT.gf 12 8 0 (pc := 34) (x := a0) (v := v34) hz dX12_needsNumber_34 fl_X12_193 rfl hv34 ?_
      obtain ⟨m37, hm37, h⟩ := Option.bind_eq_some_iff.mp h
      refine RT.pf_i 12 39 (pc := 37) (mem1 := m37) hz dX12_needsNumber_37 fl_X12_305 rfl rfl rfl hm37 ?_
      refine RT.aload_n (pc := 40) (k := 0) (x := a0) dX12_needsNumber_40 rfl ?_
      obtain ⟨p41, hp41, h⟩ := Option.bind_eq_some_iff.mp h
      refine RT.cVz (pc := 41) (M' := M_X12_nextToken) (ci := 12) (x := a0) (As := []) (st := []) (r := none) (mem1 := p41) (d' := d - 1) hz dX12_needsNumber_41 mw_X12_nextToken ml_X12_249 mi_X12_nextToken ht rfl rfl (Nat.le_of_ble_eq_true rfl) (Nat.le_of_ble_eq_true rfl) (by omega) rfl rfl (c_X12_nextToken hz (by omega) a0 m37 _ ht hp41) ?_
      refine RT.iconst (pc := 44) (n := 1) dX12_needsNumber_44 ⟨by decide, by decide⟩ ?_
      obtain rfl := Option.some.inj h
      exact RT.zret (pc := 45) dX12_needsNumber_45 rfl (by decide) (Nat.le_of_eq (rt_cells_0 z)) (Nat.le_of_eq (rt_slots_0 z)) hK
    · rw [if_pos (Classical.not_not.mp q23)] at h
      refine RT.aload_n (pc := 26) (k := 0) (x := a0) dX12_needsNumber_26 rfl ?_
      refine RT.iconst (pc := 27) (n := 4) dX12_needsNumber_27 ⟨by decide, by decide⟩ ?_
      obtain ⟨p28, hp28, h⟩ := Option.bind_eq_some_iff.mp h
      refine RT.cVz (pc := 28) (M' := M_X12_fails) (ci := 12) (x := a0) (As := [(0, 4)]) (st := []) (r := some (0, p28.1)) (mem1 := p28.2) (d' := d - 1) hz dX12_needsNumber_28 mw_X12_fails ml_X12_242 mi_X12_fails ht rfl rfl (Nat.le_of_ble_eq_true rfl) (Nat.le_of_ble_eq_true rfl) (by omega) rfl rfl (c_X12_fails hz (by omega) a0 4 mem0 _ ht hp28) ?_
      obtain ⟨w31, hw31, h⟩ := Option.bind_eq_some_iff.mp h
      obtain rfl := Option.some.inj h
      exact RT.zret (pc := 31) dX12_needsNumber_31 rfl (rt_bz_ok hw31) (Nat.le_of_eq (rt_cells_0 z)) (Nat.le_of_eq (rt_slots_0 z)) hK
  · rw [if_neg q5] at h
    refine RT.aload_n (pc := 8) (k := 0) (x := a0) dX12_needsNumber_8 rfl ?_
    refine RT.iconst (pc := 9) (n := 1) dX12_needsNumber_9 ⟨by decide, by decide⟩ ?_
    obtain ⟨p10, hp10, h⟩ := Option.bind_eq_some_iff.mp h
    refine RT.cVz (pc := 10) (M' := M_X12_fails) (ci := 12) (x := a0) (As := [(0, 1)]) (st := []) (r := some (0, p10.1)) (mem1 := p10.2) (d' := d - 1) hz dX12_needsNumber_10 mw_X12_fails ml_X12_242 mi_X12_fails ht rfl rfl (Nat.le_of_ble_eq_true rfl) (Nat.le_of_ble_eq_true rfl) (by omega) rfl rfl (c_X12_fails hz (by omega) a0 1 mem0 _ ht hp10) ?_
    obtain ⟨w13, hw13, h⟩ := Option.bind_eq_some_iff.mp h
    obtain rfl := Option.some.inj h
    exact RT.zret (pc := 13) dX12_needsNumber_13 rfl (rt_bz_ok hw13) (Nat.le_of_eq (rt_cells_0 z)) (Nat.le_of_eq (rt_slots_0 z)) hK
theorem c_X12_needsWord {G : rt_G} {d : Nat} {z : Nat × Nat} (hz : 300 ≤ z.1) (hd : 2 ≤ d) (a0 : Int) (a1 : Int) (mem0 : rt_M) (t : Int × rt_M) (ht : rt_kd a0.toNat = 20 + 12) (h : f_X12_needsWord a0 a1 mem0 = some t) : RM G M_X12_needsWord d [(2, a0), (1, a1)] z mem0 (some (0, t.1)) t.2 := by
  suffices H : ∀ Q : rt_P, Q (some (0, t.1)) z t.2 → RT G M_X12_needsWord d z Q 0 [(2, a0), (1, a1), (9, 0)] [] z mem0 from H _ ⟨rfl, rfl, rfl⟩
  intro Q hK
  unfold f_X12_needsWord at h
  refine RT.aload_n (pc := 0) (k := 0) (x := a0) dX12_needsWord_0 rfl ?_
  refine RT.lload_n (pc := 1) (k := 1) (x := a1) dX12_needsWord_1 rfl ?_
  obtain ⟨p2, hp2, h⟩ := Option.bind_eq_some_iff.mp h
  refine RT.cVz (pc := 2) (M' := M_X12_isWord) (ci := 12) (x := a0) (As := [(1, a1)]) (st := []) (r := some (0, p2)) (mem1 := mem0) (d' := d - 1) hz dX12_needsWord_2 mw_X12_isWord ml_X12_234 mi_X12_isWord ht rfl rfl (Nat.le_of_ble_eq_true rfl) (Nat.le_of_ble_eq_true rfl) (by omega) rfl rfl (c_X12_isWord hz (by omega) a0 a1 mem0 _ ht hp2) ?_
  refine RT.if_ne (pc := 5) (tgt := 14) dX12_needsWord_5 rfl (fun q5 => ?_) (fun q5 => ?_)
  · rw [if_neg q5] at h
    refine RT.aload_n (pc := 14) (k := 0) (x := a0) dX12_needsWord_14 rfl ?_
    obtain ⟨p15, hp15, h⟩ := Option.bind_eq_some_iff.mp h
    refine RT.cVz (pc := 15) (M' := M_X12_nextToken) (ci := 12) (x := a0) (As := []) (st := []) (r := none) (mem1 := p15) (d' := d - 1) hz dX12_needsWord_15 mw_X12_nextToken ml_X12_249 mi_X12_nextToken ht rfl rfl (Nat.le_of_ble_eq_true rfl) (Nat.le_of_ble_eq_true rfl) (by omega) rfl rfl (c_X12_nextToken hz (by omega) a0 mem0 _ ht hp15) ?_
    refine RT.iconst (pc := 18) (n := 1) dX12_needsWord_18 ⟨by decide, by decide⟩ ?_
    obtain rfl := Option.some.inj h
    exact RT.zret (pc := 19) dX12_needsWord_19 rfl (by decide) (Nat.le_of_eq (rt_cells_0 z)) (Nat.le_of_eq (rt_slots_0 z)) hK
  · rw [if_pos (Classical.not_not.mp q5)] at h
    refine RT.aload_n (pc := 8) (k := 0) (x := a0) dX12_needsWord_8 rfl ?_
    refine RT.iconst (pc := 9) (n := 1) dX12_needsWord_9 ⟨by decide, by decide⟩ ?_
    obtain ⟨p10, hp10, h⟩ := Option.bind_eq_some_iff.mp h
    refine RT.cVz (pc := 10) (M' := M_X12_fails) (ci := 12) (x := a0) (As := [(0, 1)]) (st := []) (r := some (0, p10.1)) (mem1 := p10.2) (d' := d - 1) hz dX12_needsWord_10 mw_X12_fails ml_X12_242 mi_X12_fails ht rfl rfl (Nat.le_of_ble_eq_true rfl) (Nat.le_of_ble_eq_true rfl) (by omega) rfl rfl (c_X12_fails hz (by omega) a0 1 mem0 _ ht hp10) ?_
    obtain ⟨w13, hw13, h⟩ := Option.bind_eq_some_iff.mp h
    obtain rfl := Option.some.inj h
    exact RT.zret (pc := 13) dX12_needsWord_13 rfl (rt_bz_ok hw13) (Nat.le_of_eq (rt_cells_0 z)) (Nat.le_of_eq (rt_slots_0 z)) hK
theorem cj_X12_needsBoth_23 {G : rt_G} {d : Nat} {z : Nat × Nat} {Q : rt_P} (hz : 300 ≤ z.1) (hd : 3 ≤ d) {a0 : Int} (ht : rt_kd a0.toNat = 20 + 12) (s0 : Int) (mem0 : rt_M) (t : Int × rt_M) (h : j_X12_needsBoth_23 s0 mem0 = some t) (hK : Q (some (0, t.1)) z t.2) : RT G M_X12_needsBoth d z Q 23 [(9, 0), (9, 0), (9, 0), (9, 0), (9, 0)] [(0, s0)] z mem0 := by
  unfold j_X12_needsBoth_23 at h
  obtain ⟨w23, hw23, h⟩ := Option.bind_eq_some_iff.mp h
  obtain rfl := Option.some.inj h
  exact RT.zret (pc := 23) dX12_needsBoth_23 rfl (rt_bz_ok hw23) (Nat.le_of_eq (rt_cells_0 z)) (Nat.le_of_eq (rt_slots_0 z)) hK
theorem cj_X12_needsBoth_22 {G : rt_G} {d : Nat} {z : Nat × Nat} {Q : rt_P} (hz : 300 ≤ z.1) (hd : 3 ≤ d) {a0 : Int} (ht : rt_kd a0.toNat = 20 + 12) (mem0 : rt_M) (t : Int × rt_M) (h : j_X12_needsBoth_22 mem0 = some t) (hK : Q (some (0, t.1)) z t.2) : RT G M_X12_needsBoth d z Q 22 [(9, 0), (9, 0), (9, 0), (9, 0), (9, 0)] [] z mem0 := by
  unfold j_X12_needsBoth_22 at h
  refine RT.iconst (pc := 22) (n := 0) dX12_needsBoth_22 ⟨by decide, by decide⟩ ?_
  exact cj_X12_needsBoth_23 hz hd ht 0 mem0 _ h hK
theorem c_X12_needsBoth {G : rt_G} {d : Nat} {z : Nat × Nat} (hz : 300 ≤ z.1) (hd : 3 ≤ d) (a0 : Int) (a1 : Int) (a3 : Int) (a4 : Int) (mem0 : rt_M) (t : Int × rt_M) (ht : rt_kd a0.toNat = 20 + 12) (h : f_X12_needsBoth a0 a1 a3 a4 mem0 = some t) : RM G M_X12_needsBoth d [(2, a0), (1, a1), (0, a3), (0, a4)] z mem0 (some (0, t.1)) t.2 := by
  suffices H : ∀ Q : rt_P, Q (some (0, t.1)) z t.2 → RT G M_X12_needsBoth d z Q 0 [(2, a0), (1, a1), (9, 0), (0, a3), (0, a4)] [] z mem0 from H _ ⟨rfl, rfl, rfl⟩
  intro Q hK
  unfold f_X12_needsBoth at h
  refine RT.aload_n (pc := 0) (k := 0) (x := a0) dX12_needsBoth_0 rfl ?_
  refine RT.lload_n (pc := 1) (k := 1) (x := a1) dX12_needsBoth_1 rfl ?_
  obtain ⟨p2, hp2, h⟩ := Option.bind_eq_some_iff.mp h
  refine RT.cVz (pc := 2) (M' := M_X12_needsWord) (ci := 12) (x := a0) (As := [(1, a1)]) (st := []) (r := some (0, p2.1)) (mem1 := p2.2) (d' := d - 1) hz dX12_needsBoth_2 mw_X12_needsWord ml_X12_308 mi_X12_needsWord ht rfl rfl (Nat.le_of_ble_eq_true rfl) (Nat.le_of_ble_eq_true rfl) (by omega) rfl rfl (c_X12_needsWord hz (by omega) a0 a1 mem0 _ ht hp2) ?_
  refine RT.if_eq (pc := 5) (tgt := 22) dX12_needsBoth_5 rfl (fun q5 => ?_) (fun q5 => ?_)
  · rw [if_pos q5] at h
    refine RT.wk (L1 := [(9, 0), (9, 0), (9, 0), (9, 0), (9, 0)]) (rt_le_j (rt_le_j (rt_le_s (rt_le_j (rt_le_j rt_le_n))))) ?_
    exact cj_X12_needsBoth_22 hz hd ht p2.2 _ h hK
  · rw [if_neg q5] at h
    refine RT.aload_n (pc := 8) (k := 0) (x := a0) dX12_needsBoth_8 rfl ?_
    refine RT.iload_n (pc := 9) (k := 3) (x := a3) dX12_needsBoth_9 rfl ?_
    refine RT.iload (pc := 10) (k := 4) (x := a4) dX12_needsBoth_10 rfl ?_
    obtain ⟨p12, hp12, h⟩ := Option.bind_eq_some_iff.mp h
    refine RT.cVz (pc := 12) (M' := M_X12_needsNumber) (ci := 12) (x := a0) (As := [(0, a3), (0, a4)]) (st := []) (r := some (0, p12.1)) (mem1 := p12.2) (d' := d - 1) hz dX12_needsBoth_12 mw_X12_needsNumber ml_X12_311 mi_X12_needsNumber ht rfl rfl (Nat.le_of_ble_eq_true rfl) (Nat.le_of_ble_eq_true rfl) (by omega) rfl rfl (c_X12_needsNumber hz (by omega) a0 a3 a4 p2.2 _ ht hp12) ?_
    refine RT.if_eq (pc := 15) (tgt := 22) dX12_needsBoth_15 rfl (fun q15 => ?_) (fun q15 => ?_)
    · rw [if_pos q15] at h
      refine RT.wk (L1 := [(9, 0), (9, 0), (9, 0), (9, 0), (9, 0)]) (rt_le_j (rt_le_j (rt_le_s (rt_le_j (rt_le_j rt_le_n))))) ?_
      exact cj_X12_needsBoth_22 hz hd ht p12.2 _ h hK
    · rw [if_neg q15] at h
      refine RT.iconst (pc := 18) (n := 1) dX12_needsBoth_18 ⟨by decide, by decide⟩ ?_
      refine RT.goto (pc := 19) (tgt := 23) dX12_needsBoth_19 rfl ?_
      refine RT.wk (L1 := [(9, 0), (9, 0), (9, 0), (9, 0), (9, 0)]) (rt_le_j (rt_le_j (rt_le_s (rt_le_j (rt_le_j rt_le_n))))) ?_
      exact cj_X12_needsBoth_23 hz hd ht 1 p12.2 _ h hK
theorem c_X12_closes {G : rt_G} {d : Nat} {z : Nat × Nat} (hz : 300 ≤ z.1) (hd : 2 ≤ d) (a0 : Int) (mem0 : rt_M) (t : Int × rt_M) (ht : rt_kd a0.toNat = 20 + 12) (h : f_X12_closes a0 mem0 = some t) : RM G M_X12_closes d [(2, a0)] z mem0 (some (0, t.1)) t.2 := by
  suffices H : ∀ Q : rt_P, Q (some (0, t.1)) z t.2 → RT G M_X12_closes d z Q 0 [(2, a0)] [] z mem0 from H _ ⟨rfl, rfl, rfl⟩
  intro Q hK
  unfold f_X12_closes at h
  refine RT.aload_n (pc := 0) (k := 0) (x := a0) dX12_closes_0 rfl ?_
  refine RT.bipush (pc := 1) (n := 59) dX12_closes_1 ⟨by decide, by decide⟩ rfl ?_
  obtain ⟨p3, hp3, h⟩ := Option.bind_eq_some_iff.mp h
  refine RT.cVz (pc := 3) (M' := M_X12_isSign) (ci := 12) (x := a0) (As := [(0, 59)]) (st := []) (r := some (0, p3)) (mem1 := mem0) (d' := d - 1) hz dX12_closes_3 mw_X12_isSign ml_X12_238 mi_X12_isSign ht rfl rfl (Nat.le_of_ble_eq_true rfl) (Nat.le_of_ble_eq_true rfl) (by omega) rfl rfl (c_X12_isSign hz (by omega) a0 59 mem0 _ ht hp3) ?_
  refine RT.if_ne (pc := 6) (tgt := 15) dX12_closes_6 rfl (fun q6 => ?_) (fun q6 => ?_)
  · rw [if_neg q6] at h
    refine RT.aload_n (pc := 15) (k := 0) (x := a0) dX12_closes_15 rfl ?_
    obtain ⟨p16, hp16, h⟩ := Option.bind_eq_some_iff.mp h
    refine RT.cVz (pc := 16) (M' := M_X12_nextToken) (ci := 12) (x := a0) (As := []) (st := []) (r := none) (mem1 := p16) (d' := d - 1) hz dX12_closes_16 mw_X12_nextToken ml_X12_249 mi_X12_nextToken ht rfl rfl (Nat.le_of_ble_eq_true rfl) (Nat.le_of_ble_eq_true rfl) (by omega) rfl rfl (c_X12_nextToken hz (by omega) a0 mem0 _ ht hp16) ?_
    refine RT.iconst (pc := 19) (n := 1) dX12_closes_19 ⟨by decide, by decide⟩ ?_
    obtain rfl := Option.some.inj h
    exact RT.zret (pc := 20) dX12_closes_20 rfl (by decide) (Nat.le_of_eq (rt_cells_0 z)) (Nat.le_of_eq (rt_slots_0 z)) hK
  · rw [if_pos (Classical.not_not.mp q6)] at h
    refine RT.aload_n (pc := 9) (k := 0) (x := a0) dX12_closes_9 rfl ?_
    refine RT.iconst (pc := 10) (n := 1) dX12_closes_10 ⟨by decide, by decide⟩ ?_
    obtain ⟨p11, hp11, h⟩ := Option.bind_eq_some_iff.mp h
    refine RT.cVz (pc := 11) (M' := M_X12_fails) (ci := 12) (x := a0) (As := [(0, 1)]) (st := []) (r := some (0, p11.1)) (mem1 := p11.2) (d' := d - 1) hz dX12_closes_11 mw_X12_fails ml_X12_242 mi_X12_fails ht rfl rfl (Nat.le_of_ble_eq_true rfl) (Nat.le_of_ble_eq_true rfl) (by omega) rfl rfl (c_X12_fails hz (by omega) a0 1 mem0 _ ht hp11) ?_
    obtain ⟨w14, hw14, h⟩ := Option.bind_eq_some_iff.mp h
    obtain rfl := Option.some.inj h
    exact RT.zret (pc := 14) dX12_closes_14 rfl (rt_bz_ok hw14) (Nat.le_of_eq (rt_cells_0 z)) (Nat.le_of_eq (rt_slots_0 z)) hK
theorem cj_X12_needsNew_29 {G : rt_G} {d : Nat} {z : Nat × Nat} {Q : rt_P} (hz : 300 ≤ z.1) (hd : 2 ≤ d) {a0 : Int} (ht : rt_kd a0.toNat = 20 + 12) (mem0 : rt_M) (t : Int × rt_M) (h : j_X12_needsNew_29 a0 mem0 = some t) (hK : Q (some (0, t.1)) z t.2) : RT G M_X12_needsNew d z Q 29 [(2, a0)] [] z mem0 := by
  unfold j_X12_needsNew_29 at h
  refine RT.aload_n (pc := 29) (k := 0) (x := a0) dX12_needsNew_29 rfl ?_
  refine RT.iconst (pc := 30) (n := 3) dX12_needsNew_30 ⟨by decide, by decide⟩ ?_
  obtain ⟨p31, hp31, h⟩ := Option.bind_eq_some_iff.mp h
  refine RT.cVz (pc := 31) (M' := M_X12_fails) (ci := 12) (x := a0) (As := [(0, 3)]) (st := []) (r := some (0, p31.1)) (mem1 := p31.2) (d' := d - 1) hz dX12_needsNew_31 mw_X12_fails ml_X12_242 mi_X12_fails ht rfl rfl (Nat.le_of_ble_eq_true rfl) (Nat.le_of_ble_eq_true rfl) (by omega) rfl rfl (c_X12_fails hz (by omega) a0 3 mem0 _ ht hp31) ?_
  obtain ⟨w34, hw34, h⟩ := Option.bind_eq_some_iff.mp h
  obtain rfl := Option.some.inj h
  exact RT.zret (pc := 34) dX12_needsNew_34 rfl (rt_bz_ok hw34) (Nat.le_of_eq (rt_cells_0 z)) (Nat.le_of_eq (rt_slots_0 z)) hK
theorem c_X12_needsNew {G : rt_G} {d : Nat} {z : Nat × Nat} (hz : 300 ≤ z.1) (hd : 2 ≤ d) (a0 : Int) (mem0 : rt_M) (t : Int × rt_M) (ht : rt_kd a0.toNat = 20 + 12) (h : f_X12_needsNew a0 mem0 = some t) : RM G M_X12_needsNew d [(2, a0)] z mem0 (some (0, t.1)) t.2 := by
  suffices H : ∀ Q : rt_P, Q (some (0, t.1)) z t.2 → RT G M_X12_needsNew d z Q 0 [(2, a0)] [] z mem0 from H _ ⟨rfl, rfl, rfl⟩
  intro Q hK
  unfold f_X12_needsNew at h
  refine RT.aload_n (pc := 0) (k := 0) (x := a0) dX12_needsNew_0 rfl ?_
  obtain ⟨p1, hp1, h⟩ := Option.bind_eq_some_iff.mp h
  refine RT.cVz (pc := 1) (M' := M_X12_isKept) (ci := 12) (x := a0) (As := []) (st := []) (r := some (0, p1)) (mem1 := mem0) (d' := d - 1) hz dX12_needsNew_1 mw_X12_isKept ml_X12_315 mi_X12_isKept ht rfl rfl (Nat.le_of_ble_eq_true rfl) (Nat.le_of_ble_eq_true rfl) (by omega) rfl rfl (c_X12_isKept hz (by omega) a0 mem0 _ ht hp1) ?_
  refine RT.if_eq (pc := 4) (tgt := 13) dX12_needsNew_4 rfl (fun q4 => ?_) (fun q4 => ?_)
  · rw [if_pos q4] at h
    refine RT.aload_n (pc := 13) (k := 0) (x := a0) dX12_needsNew_13 rfl ?_
    refine RT.iconst (pc := 14) (n := 1) dX12_needsNew_14 ⟨by decide, by decide⟩ ?_
    obtain ⟨p15, hp15, h⟩ := Option.bind_eq_some_iff.mp h
    refine RT.cVz (pc := 15) (M' := M_X12_wigNamed) (ci := 12) (x := a0) (As := [(0, 1)]) (st := []) (r := some (0, p15)) (mem1 := mem0) (d' := d - 1) hz dX12_needsNew_15 mw_X12_wigNamed ml_X12_319 mi_X12_wigNamed ht rfl rfl (Nat.le_of_ble_eq_true rfl) (Nat.le_of_ble_eq_true rfl) (by omega) rfl rfl (c_X12_wigNamed hz (by omega) a0 1 mem0 _ ht hp15) ?_
    refine RT.if_ge (pc := 18) (tgt := 29) dX12_needsNew_18 rfl (fun q18 => ?_) (fun q18 => ?_)
    · rw [if_pos q18] at h
      exact cj_X12_needsNew_29 hz hd ht mem0 _ h hK
    · rw [if_neg q18] at h
      refine RT.aload_n (pc := 21) (k := 0) (x := a0) dX12_needsNew_21 rfl ?_
      refine RT.iconst (pc := 22) (n := 1) dX12_needsNew_22 ⟨by decide, by decide⟩ ?_
      obtain ⟨p23, hp23, h⟩ := Option.bind_eq_some_iff.mp h
      refine RT.cVz (pc := 23) (M' := M_X12_headNamed) (ci := 12) (x := a0) (As := [(0, 1)]) (st := []) (r := some (0, p23)) (mem1 := mem0) (d' := d - 1) hz dX12_needsNew_23 mw_X12_headNamed ml_X12_322 mi_X12_headNamed ht rfl rfl (Nat.le_of_ble_eq_true rfl) (Nat.le_of_ble_eq_true rfl) (by omega) rfl rfl (c_X12_headNamed hz (by omega) a0 1 mem0 _ ht hp23) ?_
      refine RT.if_lt (pc := 26) (tgt := 35) dX12_needsNew_26 rfl (fun q26 => ?_) (fun q26 => ?_)
      · rw [if_pos q26] at h
        refine RT.aload_n (pc := 35) (k := 0) (x := a0) dX12_needsNew_35 rfl ?_
        refine RT.aload_n (pc := 36) (k := 0) (x := a0) dX12_needsNew_36 rfl ?_
        obtain ⟨v37, hv37, h⟩ := Option.bind_eq_some_iff.mp h
        refine RT.gf 12 7 1 (pc := 37) (x := a0) (v := v37) hz dX12_needsNew_37 fl_X12_189 rfl hv37 ?_
        obtain ⟨m40, hm40, h⟩ := Option.bind_eq_some_iff.mp h
        refine RT.pf_l 12 40 (pc := 40) (mem1 := m40) hz dX12_needsNew_40 fl_X12_325 rfl rfl rfl hm40 ?_
        refine RT.aload_n (pc := 43) (k := 0) (x := a0) dX12_needsNew_43 rfl ?_
        obtain ⟨p44, hp44, h⟩ := Option.bind_eq_some_iff.mp h
        refine RT.cVz (pc := 44) (M' := M_X12_nextToken) (ci := 12) (x := a0) (As := []) (st := []) (r := none) (mem1 := p44) (d' := d - 1) hz dX12_needsNew_44 mw_X12_nextToken ml_X12_249 mi_X12_nextToken ht rfl rfl (Nat.le_of_ble_eq_true rfl) (Nat.le_of_ble_eq_true rfl) (by omega) rfl rfl (c_X12_nextToken hz (by omega) a0 m40 _ ht hp44) ?_
        refine RT.iconst (pc := 47) (n := 1) dX12_needsNew_47 ⟨by decide, by decide⟩ ?_
        obtain rfl := Option.some.inj h
        exact RT.zret (pc := 48) dX12_needsNew_48 rfl (by decide) (Nat.le_of_eq (rt_cells_0 z)) (Nat.le_of_eq (rt_slots_0 z)) hK
      · rw [if_neg q26] at h
        exact cj_X12_needsNew_29 hz hd ht mem0 _ h hK
  · rw [if_neg q4] at h
    refine RT.aload_n (pc := 7) (k := 0) (x := a0) dX12_needsNew_7 rfl ?_
    refine RT.iconst (pc := 8) (n := 1) dX12_needsNew_8 ⟨by decide, by decide⟩ ?_
    obtain ⟨p9, hp9, h⟩ := Option.bind_eq_some_iff.mp h
    refine RT.cVz (pc := 9) (M' := M_X12_fails) (ci := 12) (x := a0) (As := [(0, 1)]) (st := []) (r := some (0, p9.1)) (mem1 := p9.2) (d' := d - 1) hz dX12_needsNew_9 mw_X12_fails ml_X12_242 mi_X12_fails ht rfl rfl (Nat.le_of_ble_eq_true rfl) (Nat.le_of_ble_eq_true rfl) (by omega) rfl rfl (c_X12_fails hz (by omega) a0 1 mem0 _ ht hp9) ?_
    obtain ⟨w12, hw12, h⟩ := Option.bind_eq_some_iff.mp h
    obtain rfl := Option.some.inj h
    exact RT.zret (pc := 12) dX12_needsNew_12 rfl (rt_bz_ok hw12) (Nat.le_of_eq (rt_cells_0 z)) (Nat.le_of_eq (rt_slots_0 z)) hK
theorem cj_X12_readsWig_47 {G : rt_G} {d : Nat} {z : Nat × Nat} {Q : rt_P} (hz : 300 ≤ z.1) (hd : 4 ≤ d) {a0 : Int} (ht : rt_kd a0.toNat = 20 + 12) (mem0 : rt_M) (t : Int × rt_M) (h : j_X12_readsWig_47 mem0 = some t) (hK : Q (some (0, t.1)) z t.2) : RT G M_X12_readsWig d z Q 47 [(9, 0), (9, 0)] [] z mem0 := by
  unfold j_X12_readsWig_47 at h
  refine RT.iconst (pc := 47) (n := 0) dX12_readsWig_47 ⟨by decide, by decide⟩ ?_
  obtain rfl := Option.some.inj h
  exact RT.zret (pc := 48) dX12_readsWig_48 rfl (by decide) (Nat.le_of_eq (rt_cells_0 z)) (Nat.le_of_eq (rt_slots_0 z)) hK
theorem c_X12_readsWig {G : rt_G} {d : Nat} {z : Nat × Nat} (hz : 300 ≤ z.1) (hd : 4 ≤ d) (a0 : Int) (mem0 : rt_M) (t : Int × rt_M) (ht : rt_kd a0.toNat = 20 + 12) (h : f_X12_readsWig a0 mem0 = some t) : RM G M_X12_readsWig d [(2, a0)] z mem0 (some (0, t.1)) t.2 := by
  suffices H : ∀ Q : rt_P, Q (some (0, t.1)) z t.2 → RT G M_X12_readsWig d z Q 0 [(2, a0), (9, 0)] [] z mem0 from H _ ⟨rfl, rfl, rfl⟩
  intro Q hK
  unfold f_X12_readsWig at h
  refine RT.bipush (pc := 0) (n := 6) dX12_readsWig_0 ⟨by decide, by decide⟩ rfl ?_
  refine RT.aload_n (pc := 2) (k := 0) (x := a0) dX12_readsWig_2 rfl ?_
  obtain ⟨v3, hv3, h⟩ := Option.bind_eq_some_iff.mp h
  refine RT.gf 12 10 2 (pc := 3) (x := a0) (v := v3) hz dX12_readsWig_3 fl_X12_13 rfl hv3 ?_
  refine RT.iconst (pc := 6) (n := 4) dX12_readsWig_6 ⟨by decide, by decide⟩ ?_
  obtain ⟨v7, hv7, h⟩ := Option.bind_eq_some_iff.mp h
  refine RT.iald (pc := 7) (x := v3) (i := 4) (v := v7) dX12_readsWig_7 (rt_lta hz (by decide) (by decide) hv7) hv7 ?_
  refine RT.iadd (pc := 8) dX12_readsWig_8 ?_
  refine RT.istore_n (pc := 9) (k := 1) (x := (rt_iadd 6 v7)) (L1 := [(2, a0), (0, (rt_iadd 6 v7))]) dX12_readsWig_9 (Nat.le_of_ble_eq_true rfl) rfl ?_
  refine RT.iload_n (pc := 10) (k := 1) (x := (rt_iadd 6 v7)) dX12_readsWig_10 rfl ?_
  refine RT.bipush (pc := 11) (n := 12) dX12_readsWig_11 ⟨by decide, by decide⟩ rfl ?_
  refine RT.icmp_ne (pc := 13) (tgt := 22) dX12_readsWig_13 rfl (fun q13 => ?_) (fun q13 => ?_)
  · rw [if_neg q13] at h
    refine RT.aload_n (pc := 22) (k := 0) (x := a0) dX12_readsWig_22 rfl ?_
    obtain ⟨p23, hp23, h⟩ := Option.bind_eq_some_iff.mp h
    refine RT.cVz (pc := 23) (M' := M_X12_nextToken) (ci := 12) (x := a0) (As := []) (st := []) (r := none) (mem1 := p23) (d' := d - 1) hz dX12_readsWig_23 mw_X12_nextToken ml_X12_249 mi_X12_nextToken ht rfl rfl (Nat.le_of_ble_eq_true rfl) (Nat.le_of_ble_eq_true rfl) (by omega) rfl rfl (c_X12_nextToken hz (by omega) a0 mem0 _ ht hp23) ?_
    refine RT.aload_n (pc := 26) (k := 0) (x := a0) dX12_readsWig_26 rfl ?_
    obtain ⟨p27, hp27, h⟩ := Option.bind_eq_some_iff.mp h
    refine RT.cVz (pc := 27) (M' := M_X12_needsNew) (ci := 12) (x := a0) (As := []) (st := []) (r := some (0, p27.1)) (mem1 := p27.2) (d' := d - 1) hz dX12_readsWig_27 mw_X12_needsNew ml_X12_327 mi_X12_needsNew ht rfl rfl (Nat.le_of_ble_eq_true rfl) (Nat.le_of_ble_eq_true rfl) (by omega) rfl rfl (c_X12_needsNew hz (by omega) a0 p23 _ ht hp27) ?_
    refine RT.if_eq (pc := 30) (tgt := 47) dX12_readsWig_30 rfl (fun q30 => ?_) (fun q30 => ?_)
    · rw [if_pos q30] at h
      refine RT.wk (L1 := [(9, 0), (9, 0)]) (rt_le_j (rt_le_j rt_le_n)) ?_
      exact cj_X12_readsWig_47 hz hd ht p27.2 _ h hK
    · rw [if_neg q30] at h
      refine RT.aload_n (pc := 33) (k := 0) (x := a0) dX12_readsWig_33 rfl ?_
      refine RT.ldc2 (pc := 34) (v := 381245) dX12_readsWig_34 kl_X12_267 ⟨by decide, by decide⟩ ?_
      refine RT.bipush (pc := 37) (n := 40) dX12_readsWig_37 ⟨by decide, by decide⟩ rfl ?_
      refine RT.bipush (pc := 39) (n := 79) dX12_readsWig_39 ⟨by decide, by decide⟩ rfl ?_
      obtain ⟨p41, hp41, h⟩ := Option.bind_eq_some_iff.mp h
      refine RT.cVz (pc := 41) (M' := M_X12_needsBoth) (ci := 12) (x := a0) (As := [(1, 381245), (0, 40), (0, 79)]) (st := []) (r := some (0, p41.1)) (mem1 := p41.2) (d' := d - 1) hz dX12_readsWig_41 mw_X12_needsBoth ml_X12_330 mi_X12_needsBoth ht rfl rfl (Nat.le_of_ble_eq_true rfl) (Nat.le_of_ble_eq_true rfl) (by omega) rfl rfl (c_X12_needsBoth hz (by omega) a0 381245 40 79 p27.2 _ ht hp41) ?_
      refine RT.if_ne (pc := 44) (tgt := 49) dX12_readsWig_44 rfl (fun q44 => ?_) (fun q44 => ?_)
      · rw [if_neg q44] at h
        refine RT.aload_n (pc := 49) (k := 0) (x := a0) dX12_readsWig_49 rfl ?_
        obtain ⟨v50, hv50, h⟩ := Option.bind_eq_some_iff.mp h
        refine RT.gf 12 13 2 (pc := 50) (x := a0) (v := v50) hz dX12_readsWig_50 fl_X12_23 rfl hv50 ?_
        refine RT.iload_n (pc := 53) (k := 1) (x := (rt_iadd 6 v7)) dX12_readsWig_53 rfl ?_
        refine RT.aload_n (pc := 54) (k := 0) (x := a0) dX12_readsWig_54 rfl ?_
        obtain ⟨v55, hv55, h⟩ := Option.bind_eq_some_iff.mp h
        refine RT.gf 12 39 0 (pc := 55) (x := a0) (v := v55) hz dX12_readsWig_55 fl_X12_305 rfl hv55 ?_
        obtain ⟨m58, hm58, h⟩ := Option.bind_eq_some_iff.mp h
        refine RT.iast (pc := 58) (x := v50) (i := (rt_iadd 6 v7)) (v := v55) (mem1 := m58) dX12_readsWig_58 (rt_lts hz (by decide) (by decide) hm58) hm58 ?_
        refine RT.aload_n (pc := 59) (k := 0) (x := a0) dX12_readsWig_59 rfl ?_
        refine RT.ldc2 (pc := 60) (v := 218546996) dX12_readsWig_60 kl_X12_269 ⟨by decide, by decide⟩ ?_
        refine RT.iconst (pc := 63) (n := 0) dX12_readsWig_63 ⟨by decide, by decide⟩ ?_
        refine RT.bipush (pc := 64) (n := 99) dX12_readsWig_64 ⟨by decide, by decide⟩ rfl ?_
        obtain ⟨p66, hp66, h⟩ := Option.bind_eq_some_iff.mp h
        refine RT.cVz (pc := 66) (M' := M_X12_needsBoth) (ci := 12) (x := a0) (As := [(1, 218546996), (0, 0), (0, 99)]) (st := []) (r := some (0, p66.1)) (mem1 := p66.2) (d' := d - 1) hz dX12_readsWig_66 mw_X12_needsBoth ml_X12_330 mi_X12_needsBoth ht rfl rfl (Nat.le_of_ble_eq_true rfl) (Nat.le_of_ble_eq_true rfl) (by omega) rfl rfl (c_X12_needsBoth hz (by omega) a0 218546996 0 99 m58 _ ht hp66) ?_
        refine RT.if_ne (pc := 69) (tgt := 74) dX12_readsWig_69 rfl (fun q69 => ?_) (fun q69 => ?_)
        · rw [if_neg q69] at h
          refine RT.aload_n (pc := 74) (k := 0) (x := a0) dX12_readsWig_74 rfl ?_
          obtain ⟨v75, hv75, h⟩ := Option.bind_eq_some_iff.mp h
          refine RT.gf 12 14 2 (pc := 75) (x := a0) (v := v75) hz dX12_readsWig_75 fl_X12_26 rfl hv75 ?_
          refine RT.iload_n (pc := 78) (k := 1) (x := (rt_iadd 6 v7)) dX12_readsWig_78 rfl ?_
          refine RT.aload_n (pc := 79) (k := 0) (x := a0) dX12_readsWig_79 rfl ?_
          obtain ⟨v80, hv80, h⟩ := Option.bind_eq_some_iff.mp h
          refine RT.gf 12 39 0 (pc := 80) (x := a0) (v := v80) hz dX12_readsWig_80 fl_X12_305 rfl hv80 ?_
          obtain ⟨m83, hm83, h⟩ := Option.bind_eq_some_iff.mp h
          refine RT.iast (pc := 83) (x := v75) (i := (rt_iadd 6 v7)) (v := v80) (mem1 := m83) dX12_readsWig_83 (rt_lts hz (by decide) (by decide) hm83) hm83 ?_
          refine RT.aload_n (pc := 84) (k := 0) (x := a0) dX12_readsWig_84 rfl ?_
          refine RT.ldc2 (pc := 85) (v := 239882) dX12_readsWig_85 kl_X12_271 ⟨by decide, by decide⟩ ?_
          refine RT.iconst (pc := 88) (n := 0) dX12_readsWig_88 ⟨by decide, by decide⟩ ?_
          refine RT.bipush (pc := 89) (n := 9) dX12_readsWig_89 ⟨by decide, by decide⟩ rfl ?_
          obtain ⟨p91, hp91, h⟩ := Option.bind_eq_some_iff.mp h
          refine RT.cVz (pc := 91) (M' := M_X12_needsBoth) (ci := 12) (x := a0) (As := [(1, 239882), (0, 0), (0, 9)]) (st := []) (r := some (0, p91.1)) (mem1 := p91.2) (d' := d - 1) hz dX12_readsWig_91 mw_X12_needsBoth ml_X12_330 mi_X12_needsBoth ht rfl rfl (Nat.le_of_ble_eq_true rfl) (Nat.le_of_ble_eq_true rfl) (by omega) rfl rfl (c_X12_needsBoth hz (by omega) a0 239882 0 9 m83 _ ht hp91) ?_
          refine RT.if_ne (pc := 94) (tgt := 99) dX12_readsWig_94 rfl (fun q94 => ?_) (fun q94 => ?_)
          · rw [if_neg q94] at h
            refine RT.aload_n (pc := 99) (k := 0) (x := a0) dX12_readsWig_99 rfl ?_
            obtain ⟨v100, hv100, h⟩ := Option.bind_eq_some_iff.mp h
            refine RT.gf 12 15 2 (pc := 100) (x := a0) (v := v100) hz dX12_readsWig_100 fl_X12_29 rfl hv100 ?_
            refine RT.iload_n (pc := 103) (k := 1) (x := (rt_iadd 6 v7)) dX12_readsWig_103 rfl ?_
            refine RT.aload_n (pc := 104) (k := 0) (x := a0) dX12_readsWig_104 rfl ?_
            obtain ⟨v105, hv105, h⟩ := Option.bind_eq_some_iff.mp h
            refine RT.gf 12 39 0 (pc := 105) (x := a0) (v := v105) hz dX12_readsWig_105 fl_X12_305 rfl hv105 ?_
            obtain ⟨m108, hm108, h⟩ := Option.bind_eq_some_iff.mp h
            refine RT.iast (pc := 108) (x := v100) (i := (rt_iadd 6 v7)) (v := v105) (mem1 := m108) dX12_readsWig_108 (rt_lts hz (by decide) (by decide) hm108) hm108 ?_
            refine RT.aload_n (pc := 109) (k := 0) (x := a0) dX12_readsWig_109 rfl ?_
            obtain ⟨v110, hv110, h⟩ := Option.bind_eq_some_iff.mp h
            refine RT.gf 12 11 2 (pc := 110) (x := a0) (v := v110) hz dX12_readsWig_110 fl_X12_16 rfl hv110 ?_
            refine RT.iload_n (pc := 113) (k := 1) (x := (rt_iadd 6 v7)) dX12_readsWig_113 rfl ?_
            refine RT.aload_n (pc := 114) (k := 0) (x := a0) dX12_readsWig_114 rfl ?_
            obtain ⟨v115, hv115, h⟩ := Option.bind_eq_some_iff.mp h
            refine RT.gf 12 40 1 (pc := 115) (x := a0) (v := v115) hz dX12_readsWig_115 fl_X12_325 rfl hv115 ?_
            obtain ⟨m118, hm118, h⟩ := Option.bind_eq_some_iff.mp h
            refine RT.last (pc := 118) (x := v110) (i := (rt_iadd 6 v7)) (v := v115) (mem1 := m118) dX12_readsWig_118 (rt_lts hz (by decide) (by decide) hm118) hm118 ?_
            refine RT.aload_n (pc := 119) (k := 0) (x := a0) dX12_readsWig_119 rfl ?_
            obtain ⟨v120, hv120, h⟩ := Option.bind_eq_some_iff.mp h
            refine RT.gf 12 10 2 (pc := 120) (x := a0) (v := v120) hz dX12_readsWig_120 fl_X12_13 rfl hv120 ?_
            refine RT.iconst (pc := 123) (n := 4) dX12_readsWig_123 ⟨by decide, by decide⟩ ?_
            refine RT.dup2 (pc := 124) dX12_readsWig_124 (show ¬ ((0 : Nat) = 1) by decide) (show ¬ ((2 : Nat) = 1) by decide) ?_
            obtain ⟨v125, hv125, h⟩ := Option.bind_eq_some_iff.mp h
            refine RT.iald (pc := 125) (x := v120) (i := 4) (v := v125) dX12_readsWig_125 (rt_lta hz (by decide) (by decide) hv125) hv125 ?_
            refine RT.iconst (pc := 126) (n := 1) dX12_readsWig_126 ⟨by decide, by decide⟩ ?_
            refine RT.iadd (pc := 127) dX12_readsWig_127 ?_
            obtain ⟨m128, hm128, h⟩ := Option.bind_eq_some_iff.mp h
            refine RT.iast (pc := 128) (x := v120) (i := 4) (v := (rt_iadd v125 1)) (mem1 := m128) dX12_readsWig_128 (rt_lts hz (by decide) (by decide) hm128) hm128 ?_
            refine RT.aload_n (pc := 129) (k := 0) (x := a0) dX12_readsWig_129 rfl ?_
            obtain ⟨p130, hp130, h⟩ := Option.bind_eq_some_iff.mp h
            refine RT.cVz (pc := 130) (M' := M_X12_closes) (ci := 12) (x := a0) (As := []) (st := []) (r := some (0, p130.1)) (mem1 := p130.2) (d' := d - 1) hz dX12_readsWig_130 mw_X12_closes ml_X12_334 mi_X12_closes ht rfl rfl (Nat.le_of_ble_eq_true rfl) (Nat.le_of_ble_eq_true rfl) (by omega) rfl rfl (c_X12_closes hz (by omega) a0 m128 _ ht hp130) ?_
            obtain ⟨w133, hw133, h⟩ := Option.bind_eq_some_iff.mp h
            obtain rfl := Option.some.inj h
            exact RT.zret (pc := 133) dX12_readsWig_133 rfl (rt_bz_ok hw133) (Nat.le_of_eq (rt_cells_0 z)) (Nat.le_of_eq (rt_slots_0 z)) hK
          · rw [if_pos (Classical.not_not.mp q94)] at h
            refine RT.iconst (pc := 97) (n := 0) dX12_readsWig_97 ⟨by decide, by decide⟩ ?_
            obtain rfl := Option.some.inj h
            exact RT.zret (pc := 98) dX12_readsWig_98 rfl (by decide) (Nat.le_of_eq (rt_cells_0 z)) (Nat.le_of_eq (rt_slots_0 z)) hK
        · rw [if_pos (Classical.not_not.mp q69)] at h
          refine RT.iconst (pc := 72) (n := 0) dX12_readsWig_72 ⟨by decide, by decide⟩ ?_
          obtain rfl := Option.some.inj h
          exact RT.zret (pc := 73) dX12_readsWig_73 rfl (by decide) (Nat.le_of_eq (rt_cells_0 z)) (Nat.le_of_eq (rt_slots_0 z)) hK
      · rw [if_pos (Classical.not_not.mp q44)] at h
        refine RT.wk (L1 := [(9, 0), (9, 0)]) (rt_le_j (rt_le_j rt_le_n)) ?_
        exact cj_X12_readsWig_47 hz hd ht p41.2 _ h hK
  · rw [if_pos (Classical.not_not.mp q13)] at h
    refine RT.aload_n (pc := 16) (k := 0) (x := a0) dX12_readsWig_16 rfl ?_
    refine RT.iconst (pc := 17) (n := 5) dX12_readsWig_17 ⟨by decide, by decide⟩ ?_
    obtain ⟨p18, hp18, h⟩ := Option.bind_eq_some_iff.mp h
    refine RT.cVz (pc := 18) (M' := M_X12_fails) (ci := 12) (x := a0) (As := [(0, 5)]) (st := []) (r := some (0, p18.1)) (mem1 := p18.2) (d' := d - 1) hz dX12_readsWig_18 mw_X12_fails ml_X12_242 mi_X12_fails ht rfl rfl (Nat.le_of_ble_eq_true rfl) (Nat.le_of_ble_eq_true rfl) (by omega) rfl rfl (c_X12_fails hz (by omega) a0 5 mem0 _ ht hp18) ?_
    obtain ⟨w21, hw21, h⟩ := Option.bind_eq_some_iff.mp h
    obtain rfl := Option.some.inj h
    exact RT.zret (pc := 21) dX12_readsWig_21 rfl (rt_bz_ok hw21) (Nat.le_of_eq (rt_cells_0 z)) (Nat.le_of_eq (rt_slots_0 z)) hK
theorem cj_X12_readsHead_97 {G : rt_G} {d : Nat} {z : Nat × Nat} {Q : rt_P} (hz : 300 ≤ z.1) (hd : 4 ≤ d) {a0 : Int} (ht : rt_kd a0.toNat = 20 + 12) (a1 : Int) (s0 : Int) (s1 : Int) (s2 : Int) (mem0 : rt_M) (t : Int × rt_M) (h : j_X12_readsHead_97 a0 a1 s0 s1 s2 mem0 = some t) (hK : Q (some (0, t.1)) z t.2) : RT G M_X12_readsHead d z Q 97 [(2, a0), (0, a1)] [(0, s2), (0, s1), (2, s0)] z mem0 := by
  unfold j_X12_readsHead_97 at h
  obtain ⟨m97, hm97, h⟩ := Option.bind_eq_some_iff.mp h
  refine RT.iast (pc := 97) (x := s0) (i := s1) (v := s2) (mem1 := m97) dX12_readsHead_97 (rt_lts hz (by decide) (by decide) hm97) hm97 ?_
  refine RT.aload_n (pc := 98) (k := 0) (x := a0) dX12_readsHead_98 rfl ?_
  obtain ⟨v99, hv99, h⟩ := Option.bind_eq_some_iff.mp h
  refine RT.gf 12 16 2 (pc := 99) (x := a0) (v := v99) hz dX12_readsHead_99 fl_X12_32 rfl hv99 ?_
  refine RT.iload_n (pc := 102) (k := 1) (x := a1) dX12_readsHead_102 rfl ?_
  obtain ⟨v103, hv103, h⟩ := Option.bind_eq_some_iff.mp h
  refine RT.iald (pc := 103) (x := v99) (i := a1) (v := v103) dX12_readsHead_103 (rt_lta hz (by decide) (by decide) hv103) hv103 ?_
  refine RT.if_ge (pc := 104) (tgt := 113) dX12_readsHead_104 rfl (fun q104 => ?_) (fun q104 => ?_)
  · rw [if_pos q104] at h
    refine RT.aload_n (pc := 113) (k := 0) (x := a0) dX12_readsHead_113 rfl ?_
    obtain ⟨p114, hp114, h⟩ := Option.bind_eq_some_iff.mp h
    refine RT.cVz (pc := 114) (M' := M_X12_nextToken) (ci := 12) (x := a0) (As := []) (st := []) (r := none) (mem1 := p114) (d' := d - 1) hz dX12_readsHead_114 mw_X12_nextToken ml_X12_249 mi_X12_nextToken ht rfl rfl (Nat.le_of_ble_eq_true rfl) (Nat.le_of_ble_eq_true rfl) (by omega) rfl rfl (c_X12_nextToken hz (by omega) a0 m97 _ ht hp114) ?_
    refine RT.aload_n (pc := 117) (k := 0) (x := a0) dX12_readsHead_117 rfl ?_
    refine RT.ldc2 (pc := 118) (v := 381245) dX12_readsHead_118 kl_X12_267 ⟨by decide, by decide⟩ ?_
    refine RT.bipush (pc := 121) (n := 40) dX12_readsHead_121 ⟨by decide, by decide⟩ rfl ?_
    refine RT.bipush (pc := 123) (n := 79) dX12_readsHead_123 ⟨by decide, by decide⟩ rfl ?_
    obtain ⟨p125, hp125, h⟩ := Option.bind_eq_some_iff.mp h
    refine RT.cVz (pc := 125) (M' := M_X12_needsBoth) (ci := 12) (x := a0) (As := [(1, 381245), (0, 40), (0, 79)]) (st := []) (r := some (0, p125.1)) (mem1 := p125.2) (d' := d - 1) hz dX12_readsHead_125 mw_X12_needsBoth ml_X12_330 mi_X12_needsBoth ht rfl rfl (Nat.le_of_ble_eq_true rfl) (Nat.le_of_ble_eq_true rfl) (by omega) rfl rfl (c_X12_needsBoth hz (by omega) a0 381245 40 79 p114 _ ht hp125) ?_
    refine RT.if_ne (pc := 128) (tgt := 133) dX12_readsHead_128 rfl (fun q128 => ?_) (fun q128 => ?_)
    · rw [if_neg q128] at h
      refine RT.aload_n (pc := 133) (k := 0) (x := a0) dX12_readsHead_133 rfl ?_
      obtain ⟨v134, hv134, h⟩ := Option.bind_eq_some_iff.mp h
      refine RT.gf 12 17 2 (pc := 134) (x := a0) (v := v134) hz dX12_readsHead_134 fl_X12_35 rfl hv134 ?_
      refine RT.iload_n (pc := 137) (k := 1) (x := a1) dX12_readsHead_137 rfl ?_
      refine RT.aload_n (pc := 138) (k := 0) (x := a0) dX12_readsHead_138 rfl ?_
      obtain ⟨v139, hv139, h⟩ := Option.bind_eq_some_iff.mp h
      refine RT.gf 12 39 0 (pc := 139) (x := a0) (v := v139) hz dX12_readsHead_139 fl_X12_305 rfl hv139 ?_
      obtain ⟨m142, hm142, h⟩ := Option.bind_eq_some_iff.mp h
      refine RT.iast (pc := 142) (x := v134) (i := a1) (v := v139) (mem1 := m142) dX12_readsHead_142 (rt_lts hz (by decide) (by decide) hm142) hm142 ?_
      refine RT.aload_n (pc := 143) (k := 0) (x := a0) dX12_readsHead_143 rfl ?_
      refine RT.ldc2 (pc := 144) (v := 24925) dX12_readsHead_144 kl_X12_275 ⟨by decide, by decide⟩ ?_
      refine RT.iconst (pc := 147) (n := 0) dX12_readsHead_147 ⟨by decide, by decide⟩ ?_
      refine RT.bipush (pc := 148) (n := 99) dX12_readsHead_148 ⟨by decide, by decide⟩ rfl ?_
      obtain ⟨p150, hp150, h⟩ := Option.bind_eq_some_iff.mp h
      refine RT.cVz (pc := 150) (M' := M_X12_needsBoth) (ci := 12) (x := a0) (As := [(1, 24925), (0, 0), (0, 99)]) (st := []) (r := some (0, p150.1)) (mem1 := p150.2) (d' := d - 1) hz dX12_readsHead_150 mw_X12_needsBoth ml_X12_330 mi_X12_needsBoth ht rfl rfl (Nat.le_of_ble_eq_true rfl) (Nat.le_of_ble_eq_true rfl) (by omega) rfl rfl (c_X12_needsBoth hz (by omega) a0 24925 0 99 m142 _ ht hp150) ?_
      refine RT.if_ne (pc := 153) (tgt := 158) dX12_readsHead_153 rfl (fun q153 => ?_) (fun q153 => ?_)
      · rw [if_neg q153] at h
        refine RT.aload_n (pc := 158) (k := 0) (x := a0) dX12_readsHead_158 rfl ?_
        obtain ⟨v159, hv159, h⟩ := Option.bind_eq_some_iff.mp h
        refine RT.gf 12 18 2 (pc := 159) (x := a0) (v := v159) hz dX12_readsHead_159 fl_X12_38 rfl hv159 ?_
        refine RT.iload_n (pc := 162) (k := 1) (x := a1) dX12_readsHead_162 rfl ?_
        refine RT.aload_n (pc := 163) (k := 0) (x := a0) dX12_readsHead_163 rfl ?_
        obtain ⟨v164, hv164, h⟩ := Option.bind_eq_some_iff.mp h
        refine RT.gf 12 39 0 (pc := 164) (x := a0) (v := v164) hz dX12_readsHead_164 fl_X12_305 rfl hv164 ?_
        obtain ⟨m167, hm167, h⟩ := Option.bind_eq_some_iff.mp h
        refine RT.iast (pc := 167) (x := v159) (i := a1) (v := v164) (mem1 := m167) dX12_readsHead_167 (rt_lts hz (by decide) (by decide) hm167) hm167 ?_
        refine RT.aload_n (pc := 168) (k := 0) (x := a0) dX12_readsHead_168 rfl ?_
        refine RT.ldc2 (pc := 169) (v := 239882) dX12_readsHead_169 kl_X12_271 ⟨by decide, by decide⟩ ?_
        refine RT.iconst (pc := 172) (n := 0) dX12_readsHead_172 ⟨by decide, by decide⟩ ?_
        refine RT.bipush (pc := 173) (n := 9) dX12_readsHead_173 ⟨by decide, by decide⟩ rfl ?_
        obtain ⟨p175, hp175, h⟩ := Option.bind_eq_some_iff.mp h
        refine RT.cVz (pc := 175) (M' := M_X12_needsBoth) (ci := 12) (x := a0) (As := [(1, 239882), (0, 0), (0, 9)]) (st := []) (r := some (0, p175.1)) (mem1 := p175.2) (d' := d - 1) hz dX12_readsHead_175 mw_X12_needsBoth ml_X12_330 mi_X12_needsBoth ht rfl rfl (Nat.le_of_ble_eq_true rfl) (Nat.le_of_ble_eq_true rfl) (by omega) rfl rfl (c_X12_needsBoth hz (by omega) a0 239882 0 9 m167 _ ht hp175) ?_
        refine RT.if_ne (pc := 178) (tgt := 183) dX12_readsHead_178 rfl (fun q178 => ?_) (fun q178 => ?_)
        · rw [if_neg q178] at h
          refine RT.aload_n (pc := 183) (k := 0) (x := a0) dX12_readsHead_183 rfl ?_
          obtain ⟨v184, hv184, h⟩ := Option.bind_eq_some_iff.mp h
          refine RT.gf 12 19 2 (pc := 184) (x := a0) (v := v184) hz dX12_readsHead_184 fl_X12_41 rfl hv184 ?_
          refine RT.iload_n (pc := 187) (k := 1) (x := a1) dX12_readsHead_187 rfl ?_
          refine RT.aload_n (pc := 188) (k := 0) (x := a0) dX12_readsHead_188 rfl ?_
          obtain ⟨v189, hv189, h⟩ := Option.bind_eq_some_iff.mp h
          refine RT.gf 12 39 0 (pc := 189) (x := a0) (v := v189) hz dX12_readsHead_189 fl_X12_305 rfl hv189 ?_
          obtain ⟨m192, hm192, h⟩ := Option.bind_eq_some_iff.mp h
          refine RT.iast (pc := 192) (x := v184) (i := a1) (v := v189) (mem1 := m192) dX12_readsHead_192 (rt_lts hz (by decide) (by decide) hm192) hm192 ?_
          refine RT.aload_n (pc := 193) (k := 0) (x := a0) dX12_readsHead_193 rfl ?_
          obtain ⟨v194, hv194, h⟩ := Option.bind_eq_some_iff.mp h
          refine RT.gf 12 12 2 (pc := 194) (x := a0) (v := v194) hz dX12_readsHead_194 fl_X12_20 rfl hv194 ?_
          refine RT.iload_n (pc := 197) (k := 1) (x := a1) dX12_readsHead_197 rfl ?_
          refine RT.aload_n (pc := 198) (k := 0) (x := a0) dX12_readsHead_198 rfl ?_
          obtain ⟨v199, hv199, h⟩ := Option.bind_eq_some_iff.mp h
          refine RT.gf 12 40 1 (pc := 199) (x := a0) (v := v199) hz dX12_readsHead_199 fl_X12_325 rfl hv199 ?_
          obtain ⟨m202, hm202, h⟩ := Option.bind_eq_some_iff.mp h
          refine RT.last (pc := 202) (x := v194) (i := a1) (v := v199) (mem1 := m202) dX12_readsHead_202 (rt_lts hz (by decide) (by decide) hm202) hm202 ?_
          refine RT.aload_n (pc := 203) (k := 0) (x := a0) dX12_readsHead_203 rfl ?_
          obtain ⟨v204, hv204, h⟩ := Option.bind_eq_some_iff.mp h
          refine RT.gf 12 10 2 (pc := 204) (x := a0) (v := v204) hz dX12_readsHead_204 fl_X12_13 rfl hv204 ?_
          refine RT.iconst (pc := 207) (n := 5) dX12_readsHead_207 ⟨by decide, by decide⟩ ?_
          refine RT.dup2 (pc := 208) dX12_readsHead_208 (show ¬ ((0 : Nat) = 1) by decide) (show ¬ ((2 : Nat) = 1) by decide) ?_
          obtain ⟨v209, hv209, h⟩ := Option.bind_eq_some_iff.mp h
          refine RT.iald (pc := 209) (x := v204) (i := 5) (v := v209) dX12_readsHead_209 (rt_lta hz (by decide) (by decide) hv209) hv209 ?_
          refine RT.iconst (pc := 210) (n := 1) dX12_readsHead_210 ⟨by decide, by decide⟩ ?_
          refine RT.iadd (pc := 211) dX12_readsHead_211 ?_
          obtain ⟨m212, hm212, h⟩ := Option.bind_eq_some_iff.mp h
          refine RT.iast (pc := 212) (x := v204) (i := 5) (v := (rt_iadd v209 1)) (mem1 := m212) dX12_readsHead_212 (rt_lts hz (by decide) (by decide) hm212) hm212 ?_
          refine RT.aload_n (pc := 213) (k := 0) (x := a0) dX12_readsHead_213 rfl ?_
          obtain ⟨p214, hp214, h⟩ := Option.bind_eq_some_iff.mp h
          refine RT.cVz (pc := 214) (M' := M_X12_closes) (ci := 12) (x := a0) (As := []) (st := []) (r := some (0, p214.1)) (mem1 := p214.2) (d' := d - 1) hz dX12_readsHead_214 mw_X12_closes ml_X12_334 mi_X12_closes ht rfl rfl (Nat.le_of_ble_eq_true rfl) (Nat.le_of_ble_eq_true rfl) (by omega) rfl rfl (c_X12_closes hz (by omega) a0 m212 _ ht hp214) ?_
          obtain ⟨w217, hw217, h⟩ := Option.bind_eq_some_iff.mp h
          obtain rfl := Option.some.inj h
          exact RT.zret (pc := 217) dX12_readsHead_217 rfl (rt_bz_ok hw217) (Nat.le_of_eq (rt_cells_0 z)) (Nat.le_of_eq (rt_slots_0 z)) hK
        · rw [if_pos (Classical.not_not.mp q178)] at h
          refine RT.iconst (pc := 181) (n := 0) dX12_readsHead_181 ⟨by decide, by decide⟩ ?_
          obtain rfl := Option.some.inj h
          exact RT.zret (pc := 182) dX12_readsHead_182 rfl (by decide) (Nat.le_of_eq (rt_cells_0 z)) (Nat.le_of_eq (rt_slots_0 z)) hK
      · rw [if_pos (Classical.not_not.mp q153)] at h
        refine RT.iconst (pc := 156) (n := 0) dX12_readsHead_156 ⟨by decide, by decide⟩ ?_
        obtain rfl := Option.some.inj h
        exact RT.zret (pc := 157) dX12_readsHead_157 rfl (by decide) (Nat.le_of_eq (rt_cells_0 z)) (Nat.le_of_eq (rt_slots_0 z)) hK
    · rw [if_pos (Classical.not_not.mp q128)] at h
      refine RT.iconst (pc := 131) (n := 0) dX12_readsHead_131 ⟨by decide, by decide⟩ ?_
      obtain rfl := Option.some.inj h
      exact RT.zret (pc := 132) dX12_readsHead_132 rfl (by decide) (Nat.le_of_eq (rt_cells_0 z)) (Nat.le_of_eq (rt_slots_0 z)) hK
  · rw [if_neg q104] at h
    refine RT.aload_n (pc := 107) (k := 0) (x := a0) dX12_readsHead_107 rfl ?_
    refine RT.iconst (pc := 108) (n := 1) dX12_readsHead_108 ⟨by decide, by decide⟩ ?_
    obtain ⟨p109, hp109, h⟩ := Option.bind_eq_some_iff.mp h
    refine RT.cVz (pc := 109) (M' := M_X12_fails) (ci := 12) (x := a0) (As := [(0, 1)]) (st := []) (r := some (0, p109.1)) (mem1 := p109.2) (d' := d - 1) hz dX12_readsHead_109 mw_X12_fails ml_X12_242 mi_X12_fails ht rfl rfl (Nat.le_of_ble_eq_true rfl) (Nat.le_of_ble_eq_true rfl) (by omega) rfl rfl (c_X12_fails hz (by omega) a0 1 m97 _ ht hp109) ?_
    obtain ⟨w112, hw112, h⟩ := Option.bind_eq_some_iff.mp h
    obtain rfl := Option.some.inj h
    exact RT.zret (pc := 112) dX12_readsHead_112 rfl (rt_bz_ok hw112) (Nat.le_of_eq (rt_cells_0 z)) (Nat.le_of_eq (rt_slots_0 z)) hK
theorem c_X12_readsHead {G : rt_G} {d : Nat} {z : Nat × Nat} (hz : 300 ≤ z.1) (hd : 4 ≤ d) (a0 : Int) (mem0 : rt_M) (t : Int × rt_M) (ht : rt_kd a0.toNat = 20 + 12) (h : f_X12_readsHead a0 mem0 = some t) : RM G M_X12_readsHead d [(2, a0)] z mem0 (some (0, t.1)) t.2 := by
  suffices H : ∀ Q : rt_P, Q (some (0, t.1)) z t.2 → RT G M_X12_readsHead d z Q 0 [(2, a0), (9, 0)] [] z mem0 from H _ ⟨rfl, rfl, rfl⟩
  intro Q hK
  unfold f_X12_readsHead at h
  refine RT.bipush (pc := 0) (n := 6) dX12_readsHead_0 ⟨by decide, by decide⟩ rfl ?_
  refine RT.aload_n (pc := 2) (k := 0) (x := a0) dX12_readsHead_2 rfl ?_
  obtain ⟨v3, hv3, h⟩ := Option.bind_eq_some_iff.mp h
  refine RT.gf 12 10 2 (pc := 3) (x := a0) (v := v3) hz dX12_readsHead_3 fl_X12_13 rfl hv3 ?_
  refine RT.iconst (pc := 6) (n := 5) dX12_readsHead_6 ⟨by decide, by decide⟩ ?_
  obtain ⟨v7, hv7, h⟩ := Option.bind_eq_some_iff.mp h
  refine RT.iald (pc := 7) (x := v3) (i := 5) (v := v7) dX12_readsHead_7 (rt_lta hz (by decide) (by decide) hv7) hv7 ?_
  refine RT.iadd (pc := 8) dX12_readsHead_8 ?_
  refine RT.istore_n (pc := 9) (k := 1) (x := (rt_iadd 6 v7)) (L1 := [(2, a0), (0, (rt_iadd 6 v7))]) dX12_readsHead_9 (Nat.le_of_ble_eq_true rfl) rfl ?_
  refine RT.iload_n (pc := 10) (k := 1) (x := (rt_iadd 6 v7)) dX12_readsHead_10 rfl ?_
  refine RT.bipush (pc := 11) (n := 12) dX12_readsHead_11 ⟨by decide, by decide⟩ rfl ?_
  refine RT.icmp_ne (pc := 13) (tgt := 22) dX12_readsHead_13 rfl (fun q13 => ?_) (fun q13 => ?_)
  · rw [if_neg q13] at h
    refine RT.aload_n (pc := 22) (k := 0) (x := a0) dX12_readsHead_22 rfl ?_
    obtain ⟨p23, hp23, h⟩ := Option.bind_eq_some_iff.mp h
    refine RT.cVz (pc := 23) (M' := M_X12_nextToken) (ci := 12) (x := a0) (As := []) (st := []) (r := none) (mem1 := p23) (d' := d - 1) hz dX12_readsHead_23 mw_X12_nextToken ml_X12_249 mi_X12_nextToken ht rfl rfl (Nat.le_of_ble_eq_true rfl) (Nat.le_of_ble_eq_true rfl) (by omega) rfl rfl (c_X12_nextToken hz (by omega) a0 mem0 _ ht hp23) ?_
    refine RT.aload_n (pc := 26) (k := 0) (x := a0) dX12_readsHead_26 rfl ?_
    obtain ⟨p27, hp27, h⟩ := Option.bind_eq_some_iff.mp h
    refine RT.cVz (pc := 27) (M' := M_X12_needsNew) (ci := 12) (x := a0) (As := []) (st := []) (r := some (0, p27.1)) (mem1 := p27.2) (d' := d - 1) hz dX12_readsHead_27 mw_X12_needsNew ml_X12_327 mi_X12_needsNew ht rfl rfl (Nat.le_of_ble_eq_true rfl) (Nat.le_of_ble_eq_true rfl) (by omega) rfl rfl (c_X12_needsNew hz (by omega) a0 p23 _ ht hp27) ?_
    refine RT.if_ne (pc := 30) (tgt := 35) dX12_readsHead_30 rfl (fun q30 => ?_) (fun q30 => ?_)
    · rw [if_neg q30] at h
      refine RT.aload_n (pc := 35) (k := 0) (x := a0) dX12_readsHead_35 rfl ?_
      obtain ⟨v36, hv36, h⟩ := Option.bind_eq_some_iff.mp h
      refine RT.gf 12 16 2 (pc := 36) (x := a0) (v := v36) hz dX12_readsHead_36 fl_X12_32 rfl hv36 ?_
      refine RT.iload_n (pc := 39) (k := 1) (x := (rt_iadd 6 v7)) dX12_readsHead_39 rfl ?_
      refine RT.aload_n (pc := 40) (k := 0) (x := a0) dX12_readsHead_40 rfl ?_
      refine RT.ldc2 (pc := 41) (v := 8740238) dX12_readsHead_41 kl_X12_293 ⟨by decide, by decide⟩ ?_
      obtain ⟨p44, hp44, h⟩ := Option.bind_eq_some_iff.mp h
      refine RT.cVz (pc := 44) (M' := M_X12_isWord) (ci := 12) (x := a0) (As := [(1, 8740238)]) (st := [(0, (rt_iadd 6 v7)), (2, v36)]) (r := some (0, p44)) (mem1 := p27.2) (d' := d - 1) hz dX12_readsHead_44 mw_X12_isWord ml_X12_234 mi_X12_isWord ht rfl rfl (Nat.le_of_ble_eq_true rfl) (Nat.le_of_ble_eq_true rfl) (by omega) rfl rfl (c_X12_isWord hz (by omega) a0 8740238 p27.2 _ ht hp44) ?_
      refine RT.if_eq (pc := 47) (tgt := 54) dX12_readsHead_47 rfl (fun q47 => ?_) (fun q47 => ?_)
      · rw [if_pos q47] at h
        refine RT.aload_n (pc := 54) (k := 0) (x := a0) dX12_readsHead_54 rfl ?_
        refine RT.ldc2 (pc := 55) (v := 6257) dX12_readsHead_55 kl_X12_295 ⟨by decide, by decide⟩ ?_
        obtain ⟨p58, hp58, h⟩ := Option.bind_eq_some_iff.mp h
        refine RT.cVz (pc := 58) (M' := M_X12_isWord) (ci := 12) (x := a0) (As := [(1, 6257)]) (st := [(0, (rt_iadd 6 v7)), (2, v36)]) (r := some (0, p58)) (mem1 := p27.2) (d' := d - 1) hz dX12_readsHead_58 mw_X12_isWord ml_X12_234 mi_X12_isWord ht rfl rfl (Nat.le_of_ble_eq_true rfl) (Nat.le_of_ble_eq_true rfl) (by omega) rfl rfl (c_X12_isWord hz (by omega) a0 6257 p27.2 _ ht hp58) ?_
        refine RT.if_eq (pc := 61) (tgt := 68) dX12_readsHead_61 rfl (fun q61 => ?_) (fun q61 => ?_)
        · rw [if_pos q61] at h
          refine RT.aload_n (pc := 68) (k := 0) (x := a0) dX12_readsHead_68 rfl ?_
          refine RT.ldc2 (pc := 69) (v := 40423) dX12_readsHead_69 kl_X12_297 ⟨by decide, by decide⟩ ?_
          obtain ⟨p72, hp72, h⟩ := Option.bind_eq_some_iff.mp h
          refine RT.cVz (pc := 72) (M' := M_X12_isWord) (ci := 12) (x := a0) (As := [(1, 40423)]) (st := [(0, (rt_iadd 6 v7)), (2, v36)]) (r := some (0, p72)) (mem1 := p27.2) (d' := d - 1) hz dX12_readsHead_72 mw_X12_isWord ml_X12_234 mi_X12_isWord ht rfl rfl (Nat.le_of_ble_eq_true rfl) (Nat.le_of_ble_eq_true rfl) (by omega) rfl rfl (c_X12_isWord hz (by omega) a0 40423 p27.2 _ ht hp72) ?_
          refine RT.if_eq (pc := 75) (tgt := 82) dX12_readsHead_75 rfl (fun q75 => ?_) (fun q75 => ?_)
          · rw [if_pos q75] at h
            refine RT.aload_n (pc := 82) (k := 0) (x := a0) dX12_readsHead_82 rfl ?_
            refine RT.ldc2 (pc := 83) (v := 1888) dX12_readsHead_83 kl_X12_299 ⟨by decide, by decide⟩ ?_
            obtain ⟨p86, hp86, h⟩ := Option.bind_eq_some_iff.mp h
            refine RT.cVz (pc := 86) (M' := M_X12_isWord) (ci := 12) (x := a0) (As := [(1, 1888)]) (st := [(0, (rt_iadd 6 v7)), (2, v36)]) (r := some (0, p86)) (mem1 := p27.2) (d' := d - 1) hz dX12_readsHead_86 mw_X12_isWord ml_X12_234 mi_X12_isWord ht rfl rfl (Nat.le_of_ble_eq_true rfl) (Nat.le_of_ble_eq_true rfl) (by omega) rfl rfl (c_X12_isWord hz (by omega) a0 1888 p27.2 _ ht hp86) ?_
            refine RT.if_eq (pc := 89) (tgt := 96) dX12_readsHead_89 rfl (fun q89 => ?_) (fun q89 => ?_)
            · rw [if_pos q89] at h
              refine RT.iconst (pc := 96) (n := (-1)) dX12_readsHead_96 ⟨by decide, by decide⟩ ?_
              exact cj_X12_readsHead_97 hz hd ht ((rt_iadd 6 v7)) v36 ((rt_iadd 6 v7)) ((-1)) p27.2 _ h hK
            · rw [if_neg q89] at h
              refine RT.iconst (pc := 92) (n := 3) dX12_readsHead_92 ⟨by decide, by decide⟩ ?_
              refine RT.goto (pc := 93) (tgt := 97) dX12_readsHead_93 rfl ?_
              exact cj_X12_readsHead_97 hz hd ht ((rt_iadd 6 v7)) v36 ((rt_iadd 6 v7)) 3 p27.2 _ h hK
          · rw [if_neg q75] at h
            refine RT.iconst (pc := 78) (n := 2) dX12_readsHead_78 ⟨by decide, by decide⟩ ?_
            refine RT.goto (pc := 79) (tgt := 97) dX12_readsHead_79 rfl ?_
            exact cj_X12_readsHead_97 hz hd ht ((rt_iadd 6 v7)) v36 ((rt_iadd 6 v7)) 2 p27.2 _ h hK
        · rw [if_neg q61] at h
          refine RT.iconst (pc := 64) (n := 1) dX12_readsHead_64 ⟨by decide, by decide⟩ ?_
          refine RT.goto (pc := 65) (tgt := 97) dX12_readsHead_65 rfl ?_
          exact cj_X12_readsHead_97 hz hd ht ((rt_iadd 6 v7)) v36 ((rt_iadd 6 v7)) 1 p27.2 _ h hK
      · rw [if_neg q47] at h
        refine RT.iconst (pc := 50) (n := 0) dX12_readsHead_50 ⟨by decide, by decide⟩ ?_
        refine RT.goto (pc := 51) (tgt := 97) dX12_readsHead_51 rfl ?_
        exact cj_X12_readsHead_97 hz hd ht ((rt_iadd 6 v7)) v36 ((rt_iadd 6 v7)) 0 p27.2 _ h hK
    · rw [if_pos (Classical.not_not.mp q30)] at h
      refine RT.iconst (pc := 33) (n := 0) dX12_readsHead_33 ⟨by decide, by decide⟩ ?_
      obtain rfl := Option.some.inj h
      exact RT.zret (pc := 34) dX12_readsHead_34 rfl (by decide) (Nat.le_of_eq (rt_cells_0 z)) (Nat.le_of_eq (rt_slots_0 z)) hK
  · rw [if_pos (Classical.not_not.mp q13)] at h
    refine RT.aload_n (pc := 16) (k := 0) (x := a0) dX12_readsHead_16 rfl ?_
    refine RT.iconst (pc := 17) (n := 5) dX12_readsHead_17 ⟨by decide, by decide⟩ ?_
    obtain ⟨p18, hp18, h⟩ := Option.bind_eq_some_iff.mp h
    refine RT.cVz (pc := 18) (M' := M_X12_fails) (ci := 12) (x := a0) (As := [(0, 5)]) (st := []) (r := some (0, p18.1)) (mem1 := p18.2) (d' := d - 1) hz dX12_readsHead_18 mw_X12_fails ml_X12_242 mi_X12_fails ht rfl rfl (Nat.le_of_ble_eq_true rfl) (Nat.le_of_ble_eq_true rfl) (by omega) rfl rfl (c_X12_fails hz (by omega) a0 5 mem0 _ ht hp18) ?_
    obtain ⟨w21, hw21, h⟩ := Option.bind_eq_some_iff.mp h
    obtain rfl := Option.some.inj h
    exact RT.zret (pc := 21) dX12_readsHead_21 rfl (rt_bz_ok hw21) (Nat.le_of_eq (rt_cells_0 z)) (Nat.le_of_eq (rt_slots_0 z)) hK
theorem cj_X12_readsHeats_35_22 {G : rt_G} {d : Nat} {z : Nat × Nat} {Q : rt_P} (hz : 300 ≤ z.1) (hd : 3 ≤ d) {a0 : Int} (ht : rt_kd a0.toNat = 20 + 12) (a1 : Int) (mem0 : rt_M) (t : (Int × rt_M) ⊕ (Int × rt_M)) (h : j_X12_readsHeats_35_22 a0 a1 mem0 = some t) (hK : (∀ s1 : Int × rt_M, t = .inl s1 → RT G M_X12_readsHeats d z Q 22 [(2, a0), (0, s1.1)] [] z s1.2) ∧ (∀ t1 : Int × rt_M, t = .inr t1 → Q (some (0, t1.1)) z t1.2)) : RT G M_X12_readsHeats d z Q 35 [(2, a0), (0, a1)] [] z mem0 := by
  unfold j_X12_readsHeats_35_22 at h
  refine RT.aload_n (pc := 35) (k := 0) (x := a0) dX12_readsHeats_35 rfl ?_
  obtain ⟨v36, hv36, h⟩ := Option.bind_eq_some_iff.mp h
  refine RT.gf 12 6 0 (pc := 36) (x := a0) (v := v36) hz dX12_readsHeats_36 fl_X12_196 rfl hv36 ?_
  refine RT.iconst (pc := 39) (n := 2) dX12_readsHeats_39 ⟨by decide, by decide⟩ ?_
  refine RT.icmp_eq (pc := 40) (tgt := 49) dX12_readsHeats_40 rfl (fun q40 => ?_) (fun q40 => ?_)
  · rw [if_pos q40] at h
    refine RT.aload_n (pc := 49) (k := 0) (x := a0) dX12_readsHeats_49 rfl ?_
    obtain ⟨v50, hv50, h⟩ := Option.bind_eq_some_iff.mp h
    refine RT.gf 12 8 0 (pc := 50) (x := a0) (v := v50) hz dX12_readsHeats_50 fl_X12_193 rfl hv50 ?_
    refine RT.bipush (pc := 53) (n := 9) dX12_readsHeats_53 ⟨by decide, by decide⟩ rfl ?_
    refine RT.icmp_le (pc := 55) (tgt := 64) dX12_readsHeats_55 rfl (fun q55 => ?_) (fun q55 => ?_)
    · rw [if_pos q55] at h
      refine RT.iload_n (pc := 64) (k := 1) (x := a1) dX12_readsHeats_64 rfl ?_
      refine RT.bipush (pc := 65) (n := 12) dX12_readsHeats_65 ⟨by decide, by decide⟩ rfl ?_
      refine RT.icmp_ne (pc := 67) (tgt := 76) dX12_readsHeats_67 rfl (fun q67 => ?_) (fun q67 => ?_)
      · rw [if_neg q67] at h
        refine RT.aload_n (pc := 76) (k := 0) (x := a0) dX12_readsHeats_76 rfl ?_
        obtain ⟨v77, hv77, h⟩ := Option.bind_eq_some_iff.mp h
        refine RT.gf 12 20 2 (pc := 77) (x := a0) (v := v77) hz dX12_readsHeats_77 fl_X12_44 rfl hv77 ?_
        refine RT.bipush (pc := 80) (n := 12) dX12_readsHeats_80 ⟨by decide, by decide⟩ rfl ?_
        refine RT.iload_n (pc := 82) (k := 1) (x := a1) dX12_readsHeats_82 rfl ?_
        refine RT.iadd (pc := 83) dX12_readsHeats_83 ?_
        refine RT.aload_n (pc := 84) (k := 0) (x := a0) dX12_readsHeats_84 rfl ?_
        obtain ⟨v85, hv85, h⟩ := Option.bind_eq_some_iff.mp h
        refine RT.gf 12 8 0 (pc := 85) (x := a0) (v := v85) hz dX12_readsHeats_85 fl_X12_193 rfl hv85 ?_
        obtain ⟨m88, hm88, h⟩ := Option.bind_eq_some_iff.mp h
        refine RT.iast (pc := 88) (x := v77) (i := (rt_iadd 12 a1)) (v := v85) (mem1 := m88) dX12_readsHeats_88 (rt_lts hz (by decide) (by decide) hm88) hm88 ?_
        refine RT.iinc (pc := 89) (x := a1) (L1 := [(2, a0), (0, (rt_iadd a1 1))]) dX12_readsHeats_89 rfl (Nat.le_of_ble_eq_true rfl) ⟨by decide, by decide⟩ rfl ?_
        refine RT.aload_n (pc := 92) (k := 0) (x := a0) dX12_readsHeats_92 rfl ?_
        obtain ⟨p93, hp93, h⟩ := Option.bind_eq_some_iff.mp h
        refine RT.cVz (pc := 93) (M' := M_X12_nextToken) (ci := 12) (x := a0) (As := []) (st := []) (r := none) (mem1 := p93) (d' := d - 1) hz dX12_readsHeats_93 mw_X12_nextToken ml_X12_249 mi_X12_nextToken ht rfl rfl (Nat.le_of_ble_eq_true rfl) (Nat.le_of_ble_eq_true rfl) (by omega) rfl rfl (c_X12_nextToken hz (by omega) a0 m88 _ ht hp93) ?_
        refine RT.goto (pc := 96) (tgt := 22) dX12_readsHeats_96 rfl ?_
        obtain rfl := Option.some.inj h
        have q1 := hK.1 (((rt_iadd a1 1), p93)) rfl
        try dsimp only at q1
        exact q1
      · rw [if_pos (Classical.not_not.mp q67)] at h
        obtain ⟨t2, g2, e2⟩ := Option.map_eq_some_iff.mp h
        subst e2
        replace h := g2
        replace hK := hK.2 t2 rfl
        refine RT.aload_n (pc := 70) (k := 0) (x := a0) dX12_readsHeats_70 rfl ?_
        refine RT.iconst (pc := 71) (n := 5) dX12_readsHeats_71 ⟨by decide, by decide⟩ ?_
        obtain ⟨p72, hp72, h⟩ := Option.bind_eq_some_iff.mp h
        refine RT.cVz (pc := 72) (M' := M_X12_fails) (ci := 12) (x := a0) (As := [(0, 5)]) (st := []) (r := some (0, p72.1)) (mem1 := p72.2) (d' := d - 1) hz dX12_readsHeats_72 mw_X12_fails ml_X12_242 mi_X12_fails ht rfl rfl (Nat.le_of_ble_eq_true rfl) (Nat.le_of_ble_eq_true rfl) (by omega) rfl rfl (c_X12_fails hz (by omega) a0 5 mem0 _ ht hp72) ?_
        obtain ⟨w75, hw75, h⟩ := Option.bind_eq_some_iff.mp h
        obtain rfl := Option.some.inj h
        exact RT.zret (pc := 75) dX12_readsHeats_75 rfl (rt_bz_ok hw75) (Nat.le_of_eq (rt_cells_0 z)) (Nat.le_of_eq (rt_slots_0 z)) hK
    · rw [if_neg q55] at h
      obtain ⟨t2, g2, e2⟩ := Option.map_eq_some_iff.mp h
      subst e2
      replace h := g2
      replace hK := hK.2 t2 rfl
      refine RT.aload_n (pc := 58) (k := 0) (x := a0) dX12_readsHeats_58 rfl ?_
      refine RT.iconst (pc := 59) (n := 4) dX12_readsHeats_59 ⟨by decide, by decide⟩ ?_
      obtain ⟨p60, hp60, h⟩ := Option.bind_eq_some_iff.mp h
      refine RT.cVz (pc := 60) (M' := M_X12_fails) (ci := 12) (x := a0) (As := [(0, 4)]) (st := []) (r := some (0, p60.1)) (mem1 := p60.2) (d' := d - 1) hz dX12_readsHeats_60 mw_X12_fails ml_X12_242 mi_X12_fails ht rfl rfl (Nat.le_of_ble_eq_true rfl) (Nat.le_of_ble_eq_true rfl) (by omega) rfl rfl (c_X12_fails hz (by omega) a0 4 mem0 _ ht hp60) ?_
      obtain ⟨w63, hw63, h⟩ := Option.bind_eq_some_iff.mp h
      obtain rfl := Option.some.inj h
      exact RT.zret (pc := 63) dX12_readsHeats_63 rfl (rt_bz_ok hw63) (Nat.le_of_eq (rt_cells_0 z)) (Nat.le_of_eq (rt_slots_0 z)) hK
  · rw [if_neg q40] at h
    obtain ⟨t2, g2, e2⟩ := Option.map_eq_some_iff.mp h
    subst e2
    replace h := g2
    replace hK := hK.2 t2 rfl
    refine RT.aload_n (pc := 43) (k := 0) (x := a0) dX12_readsHeats_43 rfl ?_
    refine RT.iconst (pc := 44) (n := 1) dX12_readsHeats_44 ⟨by decide, by decide⟩ ?_
    obtain ⟨p45, hp45, h⟩ := Option.bind_eq_some_iff.mp h
    refine RT.cVz (pc := 45) (M' := M_X12_fails) (ci := 12) (x := a0) (As := [(0, 1)]) (st := []) (r := some (0, p45.1)) (mem1 := p45.2) (d' := d - 1) hz dX12_readsHeats_45 mw_X12_fails ml_X12_242 mi_X12_fails ht rfl rfl (Nat.le_of_ble_eq_true rfl) (Nat.le_of_ble_eq_true rfl) (by omega) rfl rfl (c_X12_fails hz (by omega) a0 1 mem0 _ ht hp45) ?_
    obtain ⟨w48, hw48, h⟩ := Option.bind_eq_some_iff.mp h
    obtain rfl := Option.some.inj h
    exact RT.zret (pc := 48) dX12_readsHeats_48 rfl (rt_bz_ok hw48) (Nat.le_of_eq (rt_cells_0 z)) (Nat.le_of_eq (rt_slots_0 z)) hK
theorem cb_X12_readsHeats_22 {G : rt_G} {d : Nat} {z : Nat × Nat} {Q : rt_P} (hz : 300 ≤ z.1) (hd : 3 ≤ d) {a0 : Int} (ht : rt_kd a0.toNat = 20 + 12) (s : Int × rt_M) (t : (Int × rt_M) ⊕ (Int × rt_M)) (h : b_X12_readsHeats_22 a0 s = some t) (hK : (∀ s1 : Int × rt_M, t = .inl s1 → RT G M_X12_readsHeats d z Q 22 [(2, a0), (0, s1.1)] [] z s1.2) ∧ (∀ t1 : Int × rt_M, t = .inr t1 → Q (some (0, t1.1)) z t1.2)) : RT G M_X12_readsHeats d z Q 22 [(2, a0), (0, s.1)] [] z s.2 := by
  unfold b_X12_readsHeats_22 at h
  refine RT.iload_n (pc := 22) (k := 1) (x := s.1) dX12_readsHeats_22 rfl ?_
  refine RT.if_eq (pc := 23) (tgt := 35) dX12_readsHeats_23 rfl (fun q23 => ?_) (fun q23 => ?_)
  · rw [if_pos q23] at h
    exact cj_X12_readsHeats_35_22 hz hd ht s.1 s.2 _ h hK
  · rw [if_neg q23] at h
    refine RT.aload_n (pc := 26) (k := 0) (x := a0) dX12_readsHeats_26 rfl ?_
    refine RT.bipush (pc := 27) (n := 59) dX12_readsHeats_27 ⟨by decide, by decide⟩ rfl ?_
    obtain ⟨p29, hp29, h⟩ := Option.bind_eq_some_iff.mp h
    refine RT.cVz (pc := 29) (M' := M_X12_isSign) (ci := 12) (x := a0) (As := [(0, 59)]) (st := []) (r := some (0, p29)) (mem1 := s.2) (d' := d - 1) hz dX12_readsHeats_29 mw_X12_isSign ml_X12_238 mi_X12_isSign ht rfl rfl (Nat.le_of_ble_eq_true rfl) (Nat.le_of_ble_eq_true rfl) (by omega) rfl rfl (c_X12_isSign hz (by omega) a0 59 s.2 _ ht hp29) ?_
    refine RT.if_ne (pc := 32) (tgt := 99) dX12_readsHeats_32 rfl (fun q32 => ?_) (fun q32 => ?_)
    · rw [if_neg q32] at h
      obtain ⟨t2, g2, e2⟩ := Option.map_eq_some_iff.mp h
      subst e2
      replace h := g2
      replace hK := hK.2 t2 rfl
      refine RT.aload_n (pc := 99) (k := 0) (x := a0) dX12_readsHeats_99 rfl ?_
      obtain ⟨v100, hv100, h⟩ := Option.bind_eq_some_iff.mp h
      refine RT.gf 12 10 2 (pc := 100) (x := a0) (v := v100) hz dX12_readsHeats_100 fl_X12_13 rfl hv100 ?_
      refine RT.bipush (pc := 103) (n := 7) dX12_readsHeats_103 ⟨by decide, by decide⟩ rfl ?_
      refine RT.iload_n (pc := 105) (k := 1) (x := s.1) dX12_readsHeats_105 rfl ?_
      obtain ⟨m106, hm106, h⟩ := Option.bind_eq_some_iff.mp h
      refine RT.iast (pc := 106) (x := v100) (i := 7) (v := s.1) (mem1 := m106) dX12_readsHeats_106 (rt_lts hz (by decide) (by decide) hm106) hm106 ?_
      refine RT.aload_n (pc := 107) (k := 0) (x := a0) dX12_readsHeats_107 rfl ?_
      obtain ⟨p108, hp108, h⟩ := Option.bind_eq_some_iff.mp h
      refine RT.cVz (pc := 108) (M' := M_X12_closes) (ci := 12) (x := a0) (As := []) (st := []) (r := some (0, p108.1)) (mem1 := p108.2) (d' := d - 1) hz dX12_readsHeats_108 mw_X12_closes ml_X12_334 mi_X12_closes ht rfl rfl (Nat.le_of_ble_eq_true rfl) (Nat.le_of_ble_eq_true rfl) (by omega) rfl rfl (c_X12_closes hz (by omega) a0 m106 _ ht hp108) ?_
      obtain ⟨w111, hw111, h⟩ := Option.bind_eq_some_iff.mp h
      obtain rfl := Option.some.inj h
      exact RT.zret (pc := 111) dX12_readsHeats_111 rfl (rt_bz_ok hw111) (Nat.le_of_eq (rt_cells_0 z)) (Nat.le_of_eq (rt_slots_0 z)) hK
    · rw [if_pos (Classical.not_not.mp q32)] at h
      exact cj_X12_readsHeats_35_22 hz hd ht s.1 s.2 _ h hK
theorem c_X12_readsHeats {G : rt_G} {d : Nat} {z : Nat × Nat} (hz : 300 ≤ z.1) (hd : 3 ≤ d) (a0 : Int) (mem0 : rt_M) (t : Int × rt_M) (ht : rt_kd a0.toNat = 20 + 12) (h : f_X12_readsHeats a0 mem0 = some t) : RM G M_X12_readsHeats d [(2, a0)] z mem0 (some (0, t.1)) t.2 := by
  suffices H : ∀ Q : rt_P, Q (some (0, t.1)) z t.2 → RT G M_X12_readsHeats d z Q 0 [(2, a0), (9, 0)] [] z mem0 from H _ ⟨rfl, rfl, rfl⟩
  intro Q hK
  unfold f_X12_readsHeats at h
  refine RT.aload_n (pc := 0) (k := 0) (x := a0) dX12_readsHeats_0 rfl ?_
  obtain ⟨v1, hv1, h⟩ := Option.bind_eq_some_iff.mp h
  refine RT.gf 12 10 2 (pc := 1) (x := a0) (v := v1) hz dX12_readsHeats_1 fl_X12_13 rfl hv1 ?_
  refine RT.bipush (pc := 4) (n := 7) dX12_readsHeats_4 ⟨by decide, by decide⟩ rfl ?_
  obtain ⟨v6, hv6, h⟩ := Option.bind_eq_some_iff.mp h
  refine RT.iald (pc := 6) (x := v1) (i := 7) (v := v6) dX12_readsHeats_6 (rt_lta hz (by decide) (by decide) hv6) hv6 ?_
  refine RT.if_le (pc := 7) (tgt := 16) dX12_readsHeats_7 rfl (fun q7 => ?_) (fun q7 => ?_)
  · rw [if_pos q7] at h
    refine RT.aload_n (pc := 16) (k := 0) (x := a0) dX12_readsHeats_16 rfl ?_
    obtain ⟨p17, hp17, h⟩ := Option.bind_eq_some_iff.mp h
    refine RT.cVz (pc := 17) (M' := M_X12_nextToken) (ci := 12) (x := a0) (As := []) (st := []) (r := none) (mem1 := p17) (d' := d - 1) hz dX12_readsHeats_17 mw_X12_nextToken ml_X12_249 mi_X12_nextToken ht rfl rfl (Nat.le_of_ble_eq_true rfl) (Nat.le_of_ble_eq_true rfl) (by omega) rfl rfl (c_X12_nextToken hz (by omega) a0 mem0 _ ht hp17) ?_
    refine RT.iconst (pc := 20) (n := 0) dX12_readsHeats_20 ⟨by decide, by decide⟩ ?_
    refine RT.istore_n (pc := 21) (k := 1) (x := 0) (L1 := [(2, a0), (0, 0)]) dX12_readsHeats_21 (Nat.le_of_ble_eq_true rfl) rfl ?_
    exact rt_it_ind (P := (fun s1 : Int × rt_M => RT G M_X12_readsHeats d z Q 22 [(2, a0), (0, s1.1)] [] z s1.2)) (X := (fun t1 : Int × rt_M => Q (some (0, t1.1)) z t1.2)) (fun s1 t1 h1 k1 k2 => cb_X12_readsHeats_22 hz hd ht s1 t1 h1 ⟨k1, k2⟩) 4000 ((0, p17)) _ h hK
  · rw [if_neg q7] at h
    refine RT.aload_n (pc := 10) (k := 0) (x := a0) dX12_readsHeats_10 rfl ?_
    refine RT.iconst (pc := 11) (n := 3) dX12_readsHeats_11 ⟨by decide, by decide⟩ ?_
    obtain ⟨p12, hp12, h⟩ := Option.bind_eq_some_iff.mp h
    refine RT.cVz (pc := 12) (M' := M_X12_fails) (ci := 12) (x := a0) (As := [(0, 3)]) (st := []) (r := some (0, p12.1)) (mem1 := p12.2) (d' := d - 1) hz dX12_readsHeats_12 mw_X12_fails ml_X12_242 mi_X12_fails ht rfl rfl (Nat.le_of_ble_eq_true rfl) (Nat.le_of_ble_eq_true rfl) (by omega) rfl rfl (c_X12_fails hz (by omega) a0 3 mem0 _ ht hp12) ?_
    obtain ⟨w15, hw15, h⟩ := Option.bind_eq_some_iff.mp h
    obtain rfl := Option.some.inj h
    exact RT.zret (pc := 15) dX12_readsHeats_15 rfl (rt_bz_ok hw15) (Nat.le_of_eq (rt_cells_0 z)) (Nat.le_of_eq (rt_slots_0 z)) hK
theorem c_X12_readsSlack {G : rt_G} {d : Nat} {z : Nat × Nat} (hz : 300 ≤ z.1) (hd : 3 ≤ d) (a0 : Int) (mem0 : rt_M) (t : Int × rt_M) (ht : rt_kd a0.toNat = 20 + 12) (h : f_X12_readsSlack a0 mem0 = some t) : RM G M_X12_readsSlack d [(2, a0)] z mem0 (some (0, t.1)) t.2 := by
  suffices H : ∀ Q : rt_P, Q (some (0, t.1)) z t.2 → RT G M_X12_readsSlack d z Q 0 [(2, a0)] [] z mem0 from H _ ⟨rfl, rfl, rfl⟩
  intro Q hK
  unfold f_X12_readsSlack at h
  refine RT.aload_n (pc := 0) (k := 0) (x := a0) dX12_readsSlack_0 rfl ?_
  obtain ⟨v1, hv1, h⟩ := Option.bind_eq_some_iff.mp h
  refine RT.gf 12 26 0 (pc := 1) (x := a0) (v := v1) hz dX12_readsSlack_1 fl_X12_337 rfl hv1 ?_
  refine RT.if_eq (pc := 4) (tgt := 13) dX12_readsSlack_4 rfl (fun q4 => ?_) (fun q4 => ?_)
  · rw [if_pos q4] at h
    refine RT.aload_n (pc := 13) (k := 0) (x := a0) dX12_readsSlack_13 rfl ?_
    refine RT.iconst (pc := 14) (n := 1) dX12_readsSlack_14 ⟨by decide, by decide⟩ ?_
    obtain ⟨m15, hm15, h⟩ := Option.bind_eq_some_iff.mp h
    refine RT.pf_z 12 26 (pc := 15) (mem1 := m15) hz dX12_readsSlack_15 fl_X12_337 rfl rfl rfl (by decide) hm15 ?_
    refine RT.aload_n (pc := 18) (k := 0) (x := a0) dX12_readsSlack_18 rfl ?_
    obtain ⟨p19, hp19, h⟩ := Option.bind_eq_some_iff.mp h
    refine RT.cVz (pc := 19) (M' := M_X12_nextToken) (ci := 12) (x := a0) (As := []) (st := []) (r := none) (mem1 := p19) (d' := d - 1) hz dX12_readsSlack_19 mw_X12_nextToken ml_X12_249 mi_X12_nextToken ht rfl rfl (Nat.le_of_ble_eq_true rfl) (Nat.le_of_ble_eq_true rfl) (by omega) rfl rfl (c_X12_nextToken hz (by omega) a0 m15 _ ht hp19) ?_
    refine RT.aload_n (pc := 22) (k := 0) (x := a0) dX12_readsSlack_22 rfl ?_
    refine RT.iconst (pc := 23) (n := 0) dX12_readsSlack_23 ⟨by decide, by decide⟩ ?_
    refine RT.bipush (pc := 24) (n := 9) dX12_readsSlack_24 ⟨by decide, by decide⟩ rfl ?_
    obtain ⟨p26, hp26, h⟩ := Option.bind_eq_some_iff.mp h
    refine RT.cVz (pc := 26) (M' := M_X12_needsNumber) (ci := 12) (x := a0) (As := [(0, 0), (0, 9)]) (st := []) (r := some (0, p26.1)) (mem1 := p26.2) (d' := d - 1) hz dX12_readsSlack_26 mw_X12_needsNumber ml_X12_311 mi_X12_needsNumber ht rfl rfl (Nat.le_of_ble_eq_true rfl) (Nat.le_of_ble_eq_true rfl) (by omega) rfl rfl (c_X12_needsNumber hz (by omega) a0 0 9 p19 _ ht hp26) ?_
    refine RT.if_ne (pc := 29) (tgt := 34) dX12_readsSlack_29 rfl (fun q29 => ?_) (fun q29 => ?_)
    · rw [if_neg q29] at h
      refine RT.aload_n (pc := 34) (k := 0) (x := a0) dX12_readsSlack_34 rfl ?_
      obtain ⟨v35, hv35, h⟩ := Option.bind_eq_some_iff.mp h
      refine RT.gf 12 10 2 (pc := 35) (x := a0) (v := v35) hz dX12_readsSlack_35 fl_X12_13 rfl hv35 ?_
      refine RT.bipush (pc := 38) (n := 6) dX12_readsSlack_38 ⟨by decide, by decide⟩ rfl ?_
      refine RT.aload_n (pc := 40) (k := 0) (x := a0) dX12_readsSlack_40 rfl ?_
      obtain ⟨v41, hv41, h⟩ := Option.bind_eq_some_iff.mp h
      refine RT.gf 12 39 0 (pc := 41) (x := a0) (v := v41) hz dX12_readsSlack_41 fl_X12_305 rfl hv41 ?_
      obtain ⟨m44, hm44, h⟩ := Option.bind_eq_some_iff.mp h
      refine RT.iast (pc := 44) (x := v35) (i := 6) (v := v41) (mem1 := m44) dX12_readsSlack_44 (rt_lts hz (by decide) (by decide) hm44) hm44 ?_
      refine RT.aload_n (pc := 45) (k := 0) (x := a0) dX12_readsSlack_45 rfl ?_
      obtain ⟨p46, hp46, h⟩ := Option.bind_eq_some_iff.mp h
      refine RT.cVz (pc := 46) (M' := M_X12_closes) (ci := 12) (x := a0) (As := []) (st := []) (r := some (0, p46.1)) (mem1 := p46.2) (d' := d - 1) hz dX12_readsSlack_46 mw_X12_closes ml_X12_334 mi_X12_closes ht rfl rfl (Nat.le_of_ble_eq_true rfl) (Nat.le_of_ble_eq_true rfl) (by omega) rfl rfl (c_X12_closes hz (by omega) a0 m44 _ ht hp46) ?_
      obtain ⟨w49, hw49, h⟩ := Option.bind_eq_some_iff.mp h
      obtain rfl := Option.some.inj h
      exact RT.zret (pc := 49) dX12_readsSlack_49 rfl (rt_bz_ok hw49) (Nat.le_of_eq (rt_cells_0 z)) (Nat.le_of_eq (rt_slots_0 z)) hK
    · rw [if_pos (Classical.not_not.mp q29)] at h
      refine RT.iconst (pc := 32) (n := 0) dX12_readsSlack_32 ⟨by decide, by decide⟩ ?_
      obtain rfl := Option.some.inj h
      exact RT.zret (pc := 33) dX12_readsSlack_33 rfl (by decide) (Nat.le_of_eq (rt_cells_0 z)) (Nat.le_of_eq (rt_slots_0 z)) hK
  · rw [if_neg q4] at h
    refine RT.aload_n (pc := 7) (k := 0) (x := a0) dX12_readsSlack_7 rfl ?_
    refine RT.iconst (pc := 8) (n := 3) dX12_readsSlack_8 ⟨by decide, by decide⟩ ?_
    obtain ⟨p9, hp9, h⟩ := Option.bind_eq_some_iff.mp h
    refine RT.cVz (pc := 9) (M' := M_X12_fails) (ci := 12) (x := a0) (As := [(0, 3)]) (st := []) (r := some (0, p9.1)) (mem1 := p9.2) (d' := d - 1) hz dX12_readsSlack_9 mw_X12_fails ml_X12_242 mi_X12_fails ht rfl rfl (Nat.le_of_ble_eq_true rfl) (Nat.le_of_ble_eq_true rfl) (by omega) rfl rfl (c_X12_fails hz (by omega) a0 3 mem0 _ ht hp9) ?_
    obtain ⟨w12, hw12, h⟩ := Option.bind_eq_some_iff.mp h
    obtain rfl := Option.some.inj h
    exact RT.zret (pc := 12) dX12_readsSlack_12 rfl (rt_bz_ok hw12) (Nat.le_of_eq (rt_cells_0 z)) (Nat.le_of_eq (rt_slots_0 z)) hK
theorem c_X12_readsLaw {G : rt_G} {d : Nat} {z : Nat × Nat} (hz : 300 ≤ z.1) (hd : 3 ≤ d) (a0 : Int) (a1 : Int) (mem0 : rt_M) (t : Int × rt_M) (ht : rt_kd a0.toNat = 20 + 12) (h : f_X12_readsLaw a0 a1 mem0 = some t) : RM G M_X12_readsLaw d [(2, a0), (0, a1)] z mem0 (some (0, t.1)) t.2 := by
  suffices H : ∀ Q : rt_P, Q (some (0, t.1)) z t.2 → RT G M_X12_readsLaw d z Q 0 [(2, a0), (0, a1)] [] z mem0 from H _ ⟨rfl, rfl, rfl⟩
  intro Q hK
  unfold f_X12_readsLaw at h
  refine RT.aload_n (pc := 0) (k := 0) (x := a0) dX12_readsLaw_0 rfl ?_
  obtain ⟨v1, hv1, h⟩ := Option.bind_eq_some_iff.mp h
  refine RT.gf 12 22 2 (pc := 1) (x := a0) (v := v1) hz dX12_readsLaw_1 fl_X12_50 rfl hv1 ?_
  refine RT.iconst (pc := 4) (n := 2) dX12_readsLaw_4 ⟨by decide, by decide⟩ ?_
  refine RT.iload_n (pc := 5) (k := 1) (x := a1) dX12_readsLaw_5 rfl ?_
  refine RT.iadd (pc := 6) dX12_readsLaw_6 ?_
  obtain ⟨v7, hv7, h⟩ := Option.bind_eq_some_iff.mp h
  refine RT.iald (pc := 7) (x := v1) (i := (rt_iadd 2 a1)) (v := v7) dX12_readsLaw_7 (rt_lta hz (by decide) (by decide) hv7) hv7 ?_
  refine RT.aload_n (pc := 8) (k := 0) (x := a0) dX12_readsLaw_8 rfl ?_
  obtain ⟨v9, hv9, h⟩ := Option.bind_eq_some_iff.mp h
  refine RT.gf 12 21 2 (pc := 9) (x := a0) (v := v9) hz dX12_readsLaw_9 fl_X12_47 rfl hv9 ?_
  refine RT.iconst (pc := 12) (n := 2) dX12_readsLaw_12 ⟨by decide, by decide⟩ ?_
  refine RT.iload_n (pc := 13) (k := 1) (x := a1) dX12_readsLaw_13 rfl ?_
  refine RT.iadd (pc := 14) dX12_readsLaw_14 ?_
  obtain ⟨v15, hv15, h⟩ := Option.bind_eq_some_iff.mp h
  refine RT.iald (pc := 15) (x := v9) (i := (rt_iadd 2 a1)) (v := v15) dX12_readsLaw_15 (rt_lta hz (by decide) (by decide) hv15) hv15 ?_
  refine RT.icmp_le (pc := 16) (tgt := 25) dX12_readsLaw_16 rfl (fun q16 => ?_) (fun q16 => ?_)
  · rw [if_pos q16] at h
    refine RT.aload_n (pc := 25) (k := 0) (x := a0) dX12_readsLaw_25 rfl ?_
    refine RT.iload_n (pc := 26) (k := 1) (x := a1) dX12_readsLaw_26 rfl ?_
    obtain ⟨m27, hm27, h⟩ := Option.bind_eq_some_iff.mp h
    refine RT.pf_i 12 25 (pc := 27) (mem1 := m27) hz dX12_readsLaw_27 fl_X12_213 rfl rfl rfl hm27 ?_
    refine RT.aload_n (pc := 30) (k := 0) (x := a0) dX12_readsLaw_30 rfl ?_
    obtain ⟨p31, hp31, h⟩ := Option.bind_eq_some_iff.mp h
    refine RT.cVz (pc := 31) (M' := M_X12_nextToken) (ci := 12) (x := a0) (As := []) (st := []) (r := none) (mem1 := p31) (d' := d - 1) hz dX12_readsLaw_31 mw_X12_nextToken ml_X12_249 mi_X12_nextToken ht rfl rfl (Nat.le_of_ble_eq_true rfl) (Nat.le_of_ble_eq_true rfl) (by omega) rfl rfl (c_X12_nextToken hz (by omega) a0 m27 _ ht hp31) ?_
    refine RT.aload_n (pc := 34) (k := 0) (x := a0) dX12_readsLaw_34 rfl ?_
    obtain ⟨v35, hv35, h⟩ := Option.bind_eq_some_iff.mp h
    refine RT.gf 12 21 2 (pc := 35) (x := a0) (v := v35) hz dX12_readsLaw_35 fl_X12_47 rfl hv35 ?_
    refine RT.iconst (pc := 38) (n := 2) dX12_readsLaw_38 ⟨by decide, by decide⟩ ?_
    refine RT.iload_n (pc := 39) (k := 1) (x := a1) dX12_readsLaw_39 rfl ?_
    refine RT.iadd (pc := 40) dX12_readsLaw_40 ?_
    refine RT.aload_n (pc := 41) (k := 0) (x := a0) dX12_readsLaw_41 rfl ?_
    obtain ⟨v42, hv42, h⟩ := Option.bind_eq_some_iff.mp h
    refine RT.gf 12 24 0 (pc := 42) (x := a0) (v := v42) hz dX12_readsLaw_42 fl_X12_210 rfl hv42 ?_
    obtain ⟨m45, hm45, h⟩ := Option.bind_eq_some_iff.mp h
    refine RT.iast (pc := 45) (x := v35) (i := (rt_iadd 2 a1)) (v := v42) (mem1 := m45) dX12_readsLaw_45 (rt_lts hz (by decide) (by decide) hm45) hm45 ?_
    refine RT.aload_n (pc := 46) (k := 0) (x := a0) dX12_readsLaw_46 rfl ?_
    obtain ⟨p47, hp47, h⟩ := Option.bind_eq_some_iff.mp h
    refine RT.cVz (pc := 47) (M' := M_X12_reads) (ci := 12) (x := a0) (As := []) (st := []) (r := some (0, p47.1)) (mem1 := p47.2) (d' := d - 1) hz dX12_readsLaw_47 mw_X12_reads ml_X12_341 mi_X12_reads ht rfl rfl (Nat.le_of_ble_eq_true rfl) (Nat.le_of_ble_eq_true rfl) (by omega) rfl rfl (c_X12_reads hz (by omega) a0 m45 _ ht hp47) ?_
    refine RT.if_ne (pc := 50) (tgt := 55) dX12_readsLaw_50 rfl (fun q50 => ?_) (fun q50 => ?_)
    · rw [if_neg q50] at h
      refine RT.aload_n (pc := 55) (k := 0) (x := a0) dX12_readsLaw_55 rfl ?_
      obtain ⟨v56, hv56, h⟩ := Option.bind_eq_some_iff.mp h
      refine RT.gf 12 22 2 (pc := 56) (x := a0) (v := v56) hz dX12_readsLaw_56 fl_X12_50 rfl hv56 ?_
      refine RT.iconst (pc := 59) (n := 2) dX12_readsLaw_59 ⟨by decide, by decide⟩ ?_
      refine RT.iload_n (pc := 60) (k := 1) (x := a1) dX12_readsLaw_60 rfl ?_
      refine RT.iadd (pc := 61) dX12_readsLaw_61 ?_
      refine RT.aload_n (pc := 62) (k := 0) (x := a0) dX12_readsLaw_62 rfl ?_
      obtain ⟨v63, hv63, h⟩ := Option.bind_eq_some_iff.mp h
      refine RT.gf 12 24 0 (pc := 63) (x := a0) (v := v63) hz dX12_readsLaw_63 fl_X12_210 rfl hv63 ?_
      obtain ⟨m66, hm66, h⟩ := Option.bind_eq_some_iff.mp h
      refine RT.iast (pc := 66) (x := v56) (i := (rt_iadd 2 a1)) (v := v63) (mem1 := m66) dX12_readsLaw_66 (rt_lts hz (by decide) (by decide) hm66) hm66 ?_
      refine RT.iconst (pc := 67) (n := 1) dX12_readsLaw_67 ⟨by decide, by decide⟩ ?_
      obtain rfl := Option.some.inj h
      exact RT.zret (pc := 68) dX12_readsLaw_68 rfl (by decide) (Nat.le_of_eq (rt_cells_0 z)) (Nat.le_of_eq (rt_slots_0 z)) hK
    · rw [if_pos (Classical.not_not.mp q50)] at h
      refine RT.iconst (pc := 53) (n := 0) dX12_readsLaw_53 ⟨by decide, by decide⟩ ?_
      obtain rfl := Option.some.inj h
      exact RT.zret (pc := 54) dX12_readsLaw_54 rfl (by decide) (Nat.le_of_eq (rt_cells_0 z)) (Nat.le_of_eq (rt_slots_0 z)) hK
  · rw [if_neg q16] at h
    refine RT.aload_n (pc := 19) (k := 0) (x := a0) dX12_readsLaw_19 rfl ?_
    refine RT.iconst (pc := 20) (n := 3) dX12_readsLaw_20 ⟨by decide, by decide⟩ ?_
    obtain ⟨p21, hp21, h⟩ := Option.bind_eq_some_iff.mp h
    refine RT.cVz (pc := 21) (M' := M_X12_fails) (ci := 12) (x := a0) (As := [(0, 3)]) (st := []) (r := some (0, p21.1)) (mem1 := p21.2) (d' := d - 1) hz dX12_readsLaw_21 mw_X12_fails ml_X12_242 mi_X12_fails ht rfl rfl (Nat.le_of_ble_eq_true rfl) (Nat.le_of_ble_eq_true rfl) (by omega) rfl rfl (c_X12_fails hz (by omega) a0 3 mem0 _ ht hp21) ?_
    obtain ⟨w24, hw24, h⟩ := Option.bind_eq_some_iff.mp h
    obtain rfl := Option.some.inj h
    exact RT.zret (pc := 24) dX12_readsLaw_24 rfl (rt_bz_ok hw24) (Nat.le_of_eq (rt_cells_0 z)) (Nat.le_of_eq (rt_slots_0 z)) hK
theorem c_X12_begins {G : rt_G} {d : Nat} {z : Nat × Nat} (hz : 300 ≤ z.1) (hd : 2 ≤ d) (a0 : Int) (mem0 : rt_M) (t : rt_M) (ht : rt_kd a0.toNat = 20 + 12) (h : f_X12_begins a0 mem0 = some t) : RM G M_X12_begins d [(2, a0)] z mem0 none t := by
  suffices H : ∀ Q : rt_P, Q none z t → RT G M_X12_begins d z Q 0 [(2, a0)] [] z mem0 from H _ ⟨rfl, rfl, rfl⟩
  intro Q hK
  unfold f_X12_begins at h
  refine RT.aload_n (pc := 0) (k := 0) (x := a0) dX12_begins_0 rfl ?_
  refine RT.aload_n (pc := 1) (k := 0) (x := a0) dX12_begins_1 rfl ?_
  obtain ⟨v2, hv2, h⟩ := Option.bind_eq_some_iff.mp h
  refine RT.gf 12 1 0 (pc := 2) (x := a0) (v := v2) hz dX12_begins_2 fl_X12_177 rfl hv2 ?_
  obtain ⟨m5, hm5, h⟩ := Option.bind_eq_some_iff.mp h
  refine RT.pf_i 12 3 (pc := 5) (mem1 := m5) hz dX12_begins_5 fl_X12_180 rfl rfl rfl hm5 ?_
  refine RT.aload_n (pc := 8) (k := 0) (x := a0) dX12_begins_8 rfl ?_
  refine RT.iconst (pc := 9) (n := 0) dX12_begins_9 ⟨by decide, by decide⟩ ?_
  obtain ⟨m10, hm10, h⟩ := Option.bind_eq_some_iff.mp h
  refine RT.pf_i 12 1 (pc := 10) (mem1 := m10) hz dX12_begins_10 fl_X12_177 rfl rfl rfl hm10 ?_
  refine RT.aload_n (pc := 13) (k := 0) (x := a0) dX12_begins_13 rfl ?_
  refine RT.iconst (pc := 14) (n := 0) dX12_begins_14 ⟨by decide, by decide⟩ ?_
  obtain ⟨m15, hm15, h⟩ := Option.bind_eq_some_iff.mp h
  refine RT.pf_i 12 4 (pc := 15) (mem1 := m15) hz dX12_begins_15 fl_X12_183 rfl rfl rfl hm15 ?_
  refine RT.aload_n (pc := 18) (k := 0) (x := a0) dX12_begins_18 rfl ?_
  obtain ⟨p19, hp19, h⟩ := Option.bind_eq_some_iff.mp h
  refine RT.cVz (pc := 19) (M' := M_X12_nextToken) (ci := 12) (x := a0) (As := []) (st := []) (r := none) (mem1 := p19) (d' := d - 1) hz dX12_begins_19 mw_X12_nextToken ml_X12_249 mi_X12_nextToken ht rfl rfl (Nat.le_of_ble_eq_true rfl) (Nat.le_of_ble_eq_true rfl) (by omega) rfl rfl (c_X12_nextToken hz (by omega) a0 m15 _ ht hp19) ?_
  obtain rfl := Option.some.inj h
  exact RT.vret (pc := 22) dX12_begins_22 rfl (Nat.le_of_eq (rt_cells_0 z)) (Nat.le_of_eq (rt_slots_0 z)) hK
