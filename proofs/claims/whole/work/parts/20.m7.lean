theorem cb_X12_readsAll_32 {G : rt_G} {d : Nat} {z : Nat × Nat} {Q : rt_P} (hz : 300 ≤ z.1) (hd : 5 ≤ d) {a0 : Int} (ht : rt_kd a0.toNat = 20 + 12) (s : Int × rt_M) (t : (Int × rt_M) ⊕ (rt_M)) (h : b_X12_readsAll_32 a0 s = some t) (hK : (∀ s1 : Int × rt_M, t = .inl s1 → RT G M_X12_readsAll d z Q 32 [(2, a0), (0, s1.1)] [] z s1.2) ∧ (∀ x1 : rt_M, t = .inr x1 → RT G M_X12_readsAll d z Q 61 [(2, a0), (9, 0)] [] z x1)) : RT G M_X12_readsAll d z Q 32 [(2, a0), (0, s.1)] [] z s.2 := by
  unfold b_X12_readsAll_32 at h
  refine RT.iload_n (pc := 32) (k := 1) (x := s.1) dX12_readsAll_32 rfl ?_
  refine RT.iconst (pc := 33) (n := 4) dX12_readsAll_33 ⟨by decide, by decide⟩ ?_
  refine RT.icmp_ge (pc := 34) (tgt := 61) dX12_readsAll_34 rfl (fun q34 => ?_) (fun q34 => ?_)
  · rw [if_pos q34] at h
    refine RT.wk (L1 := [(2, a0), (9, 0)]) (rt_le_s (rt_le_j rt_le_n)) ?_
    obtain rfl := Option.some.inj h
    have q1 := hK.2 s.2 rfl
    try dsimp only at q1
    exact q1
  · rw [if_neg q34] at h
    refine RT.aload_n (pc := 37) (k := 0) (x := a0) dX12_readsAll_37 rfl ?_
    obtain ⟨v38, hv38, h⟩ := Option.bind_eq_some_iff.mp h
    refine RT.gf 12 21 2 (pc := 38) (x := a0) (v := v38) hz dX12_readsAll_38 fl_X12_47 rfl hv38 ?_
    refine RT.iload_n (pc := 41) (k := 1) (x := s.1) dX12_readsAll_41 rfl ?_
    refine RT.sipush (pc := 42) (n := 1000) dX12_readsAll_42 ⟨by decide, by decide⟩ rfl ?_
    obtain ⟨m45, hm45, h⟩ := Option.bind_eq_some_iff.mp h
    refine RT.iast (pc := 45) (x := v38) (i := s.1) (v := 1000) (mem1 := m45) dX12_readsAll_45 (rt_lts hz (by decide) (by decide) hm45) hm45 ?_
    refine RT.aload_n (pc := 46) (k := 0) (x := a0) dX12_readsAll_46 rfl ?_
    obtain ⟨v47, hv47, h⟩ := Option.bind_eq_some_iff.mp h
    refine RT.gf 12 22 2 (pc := 47) (x := a0) (v := v47) hz dX12_readsAll_47 fl_X12_50 rfl hv47 ?_
    refine RT.iload_n (pc := 50) (k := 1) (x := s.1) dX12_readsAll_50 rfl ?_
    refine RT.sipush (pc := 51) (n := 1000) dX12_readsAll_51 ⟨by decide, by decide⟩ rfl ?_
    obtain ⟨m54, hm54, h⟩ := Option.bind_eq_some_iff.mp h
    refine RT.iast (pc := 54) (x := v47) (i := s.1) (v := 1000) (mem1 := m54) dX12_readsAll_54 (rt_lts hz (by decide) (by decide) hm54) hm54 ?_
    refine RT.iinc (pc := 55) (x := s.1) (L1 := [(2, a0), (0, (rt_iadd s.1 1))]) dX12_readsAll_55 rfl (Nat.le_of_ble_eq_true rfl) ⟨by decide, by decide⟩ rfl ?_
    refine RT.goto (pc := 58) (tgt := 32) dX12_readsAll_58 rfl ?_
    obtain rfl := Option.some.inj h
    have q1 := hK.1 (((rt_iadd s.1 1), m54)) rfl
    try dsimp only at q1
    exact q1
theorem cj_X12_readsAll_193_77 {G : rt_G} {d : Nat} {z : Nat × Nat} {Q : rt_P} (hz : 300 ≤ z.1) (hd : 5 ≤ d) {a0 : Int} (ht : rt_kd a0.toNat = 20 + 12) (s0 : Int) (mem0 : rt_M) (t : (rt_M) ⊕ ((rt_M) ⊕ (Int × rt_M))) (h : j_X12_readsAll_193_77 a0 s0 mem0 = some t) (hK : (∀ s1 : rt_M, t = .inl s1 → RT G M_X12_readsAll d z Q 77 [(2, a0), (9, 0)] [] z s1) ∧ (∀ x1 : rt_M, t = .inr (.inl x1) → RT G M_X12_readsAll d z Q 203 [(9, 0), (9, 0)] [] z x1) ∧ (∀ t1 : Int × rt_M, t = .inr (.inr t1) → Q (some (0, t1.1)) z t1.2)) : RT G M_X12_readsAll d z Q 193 [(2, a0), (9, 0)] [(0, s0)] z mem0 := by
  unfold j_X12_readsAll_193_77 at h
  refine RT.istore_n (pc := 193) (k := 1) (x := s0) (L1 := [(2, a0), (0, s0)]) dX12_readsAll_193 (Nat.le_of_ble_eq_true rfl) rfl ?_
  refine RT.iload_n (pc := 194) (k := 1) (x := s0) dX12_readsAll_194 rfl ?_
  refine RT.if_ne (pc := 195) (tgt := 200) dX12_readsAll_195 rfl (fun q195 => ?_) (fun q195 => ?_)
  · rw [if_neg q195] at h
    refine RT.goto (pc := 200) (tgt := 77) dX12_readsAll_200 rfl ?_
    refine RT.wk (L1 := [(2, a0), (9, 0)]) (rt_le_s (rt_le_j rt_le_n)) ?_
    obtain rfl := Option.some.inj h
    have q1 := hK.1 mem0 rfl
    try dsimp only at q1
    exact q1
  · rw [if_pos (Classical.not_not.mp q195)] at h
    obtain ⟨t2, g2, e2⟩ := Option.map_eq_some_iff.mp h
    subst e2
    replace h := g2
    replace hK := hK.2.2 t2 rfl
    refine RT.iconst (pc := 198) (n := 0) dX12_readsAll_198 ⟨by decide, by decide⟩ ?_
    obtain rfl := Option.some.inj h
    exact RT.zret (pc := 199) dX12_readsAll_199 rfl (by decide) (Nat.le_of_eq (rt_cells_0 z)) (Nat.le_of_eq (rt_slots_0 z)) hK
theorem cb_X12_readsAll_77 {G : rt_G} {d : Nat} {z : Nat × Nat} {Q : rt_P} (hz : 300 ≤ z.1) (hd : 5 ≤ d) {a0 : Int} (ht : rt_kd a0.toNat = 20 + 12) (s : rt_M) (t : (rt_M) ⊕ ((rt_M) ⊕ (Int × rt_M))) (h : b_X12_readsAll_77 a0 s = some t) (hK : (∀ s1 : rt_M, t = .inl s1 → RT G M_X12_readsAll d z Q 77 [(2, a0), (9, 0)] [] z s1) ∧ (∀ x1 : rt_M, t = .inr (.inl x1) → RT G M_X12_readsAll d z Q 203 [(9, 0), (9, 0)] [] z x1) ∧ (∀ t1 : Int × rt_M, t = .inr (.inr t1) → Q (some (0, t1.1)) z t1.2)) : RT G M_X12_readsAll d z Q 77 [(2, a0), (9, 0)] [] z s := by
  unfold b_X12_readsAll_77 at h
  refine RT.aload_n (pc := 77) (k := 0) (x := a0) dX12_readsAll_77 rfl ?_
  obtain ⟨v78, hv78, h⟩ := Option.bind_eq_some_iff.mp h
  refine RT.gf 12 6 0 (pc := 78) (x := a0) (v := v78) hz dX12_readsAll_78 fl_X12_196 rfl hv78 ?_
  refine RT.if_eq (pc := 81) (tgt := 203) dX12_readsAll_81 rfl (fun q81 => ?_) (fun q81 => ?_)
  · rw [if_pos q81] at h
    refine RT.wk (L1 := [(9, 0), (9, 0)]) (rt_le_j (rt_le_s rt_le_n)) ?_
    obtain rfl := Option.some.inj h
    have q1 := hK.2.1 s rfl
    try dsimp only at q1
    exact q1
  · rw [if_neg q81] at h
    refine RT.aload_n (pc := 84) (k := 0) (x := a0) dX12_readsAll_84 rfl ?_
    refine RT.ldc2 (pc := 85) (v := 17017) dX12_readsAll_85 kl_X12_265 ⟨by decide, by decide⟩ ?_
    obtain ⟨p88, hp88, h⟩ := Option.bind_eq_some_iff.mp h
    refine RT.cVz (pc := 88) (M' := M_X12_isWord) (ci := 12) (x := a0) (As := [(1, 17017)]) (st := []) (r := some (0, p88)) (mem1 := s) (d' := d - 1) hz dX12_readsAll_88 mw_X12_isWord ml_X12_234 mi_X12_isWord ht rfl rfl (Nat.le_of_ble_eq_true rfl) (Nat.le_of_ble_eq_true rfl) (by omega) rfl rfl (c_X12_isWord hz (by omega) a0 17017 s _ ht hp88) ?_
    refine RT.if_eq (pc := 91) (tgt := 101) dX12_readsAll_91 rfl (fun q91 => ?_) (fun q91 => ?_)
    · rw [if_pos q91] at h
      refine RT.aload_n (pc := 101) (k := 0) (x := a0) dX12_readsAll_101 rfl ?_
      refine RT.ldc2 (pc := 102) (v := 161140) dX12_readsAll_102 kl_X12_273 ⟨by decide, by decide⟩ ?_
      obtain ⟨p105, hp105, h⟩ := Option.bind_eq_some_iff.mp h
      refine RT.cVz (pc := 105) (M' := M_X12_isWord) (ci := 12) (x := a0) (As := [(1, 161140)]) (st := []) (r := some (0, p105)) (mem1 := s) (d' := d - 1) hz dX12_readsAll_105 mw_X12_isWord ml_X12_234 mi_X12_isWord ht rfl rfl (Nat.le_of_ble_eq_true rfl) (Nat.le_of_ble_eq_true rfl) (by omega) rfl rfl (c_X12_isWord hz (by omega) a0 161140 s _ ht hp105) ?_
      refine RT.if_eq (pc := 108) (tgt := 118) dX12_readsAll_108 rfl (fun q108 => ?_) (fun q108 => ?_)
      · rw [if_pos q108] at h
        refine RT.aload_n (pc := 118) (k := 0) (x := a0) dX12_readsAll_118 rfl ?_
        refine RT.ldc2 (pc := 119) (v := 4351231) dX12_readsAll_119 kl_X12_277 ⟨by decide, by decide⟩ ?_
        obtain ⟨p122, hp122, h⟩ := Option.bind_eq_some_iff.mp h
        refine RT.cVz (pc := 122) (M' := M_X12_isWord) (ci := 12) (x := a0) (As := [(1, 4351231)]) (st := []) (r := some (0, p122)) (mem1 := s) (d' := d - 1) hz dX12_readsAll_122 mw_X12_isWord ml_X12_234 mi_X12_isWord ht rfl rfl (Nat.le_of_ble_eq_true rfl) (Nat.le_of_ble_eq_true rfl) (by omega) rfl rfl (c_X12_isWord hz (by omega) a0 4351231 s _ ht hp122) ?_
        refine RT.if_eq (pc := 125) (tgt := 135) dX12_readsAll_125 rfl (fun q125 => ?_) (fun q125 => ?_)
        · rw [if_pos q125] at h
          refine RT.aload_n (pc := 135) (k := 0) (x := a0) dX12_readsAll_135 rfl ?_
          refine RT.ldc2 (pc := 136) (v := 10334396) dX12_readsAll_136 kl_X12_279 ⟨by decide, by decide⟩ ?_
          obtain ⟨p139, hp139, h⟩ := Option.bind_eq_some_iff.mp h
          refine RT.cVz (pc := 139) (M' := M_X12_isWord) (ci := 12) (x := a0) (As := [(1, 10334396)]) (st := []) (r := some (0, p139)) (mem1 := s) (d' := d - 1) hz dX12_readsAll_139 mw_X12_isWord ml_X12_234 mi_X12_isWord ht rfl rfl (Nat.le_of_ble_eq_true rfl) (Nat.le_of_ble_eq_true rfl) (by omega) rfl rfl (c_X12_isWord hz (by omega) a0 10334396 s _ ht hp139) ?_
          refine RT.if_eq (pc := 142) (tgt := 152) dX12_readsAll_142 rfl (fun q142 => ?_) (fun q142 => ?_)
          · rw [if_pos q142] at h
            refine RT.aload_n (pc := 152) (k := 0) (x := a0) dX12_readsAll_152 rfl ?_
            refine RT.ldc2 (pc := 153) (v := 284959882) dX12_readsAll_153 kl_X12_281 ⟨by decide, by decide⟩ ?_
            obtain ⟨p156, hp156, h⟩ := Option.bind_eq_some_iff.mp h
            refine RT.cVz (pc := 156) (M' := M_X12_isWord) (ci := 12) (x := a0) (As := [(1, 284959882)]) (st := []) (r := some (0, p156)) (mem1 := s) (d' := d - 1) hz dX12_readsAll_156 mw_X12_isWord ml_X12_234 mi_X12_isWord ht rfl rfl (Nat.le_of_ble_eq_true rfl) (Nat.le_of_ble_eq_true rfl) (by omega) rfl rfl (c_X12_isWord hz (by omega) a0 284959882 s _ ht hp156) ?_
            refine RT.if_eq (pc := 159) (tgt := 170) dX12_readsAll_159 rfl (fun q159 => ?_) (fun q159 => ?_)
            · rw [if_pos q159] at h
              refine RT.aload_n (pc := 170) (k := 0) (x := a0) dX12_readsAll_170 rfl ?_
              refine RT.ldc2 (pc := 171) (v := 154733320) dX12_readsAll_171 kl_X12_283 ⟨by decide, by decide⟩ ?_
              obtain ⟨p174, hp174, h⟩ := Option.bind_eq_some_iff.mp h
              refine RT.cVz (pc := 174) (M' := M_X12_isWord) (ci := 12) (x := a0) (As := [(1, 154733320)]) (st := []) (r := some (0, p174)) (mem1 := s) (d' := d - 1) hz dX12_readsAll_174 mw_X12_isWord ml_X12_234 mi_X12_isWord ht rfl rfl (Nat.le_of_ble_eq_true rfl) (Nat.le_of_ble_eq_true rfl) (by omega) rfl rfl (c_X12_isWord hz (by omega) a0 154733320 s _ ht hp174) ?_
              refine RT.if_eq (pc := 177) (tgt := 188) dX12_readsAll_177 rfl (fun q177 => ?_) (fun q177 => ?_)
              · rw [if_pos q177] at h
                refine RT.aload_n (pc := 188) (k := 0) (x := a0) dX12_readsAll_188 rfl ?_
                refine RT.iconst (pc := 189) (n := 1) dX12_readsAll_189 ⟨by decide, by decide⟩ ?_
                obtain ⟨p190, hp190, h⟩ := Option.bind_eq_some_iff.mp h
                refine RT.cVz (pc := 190) (M' := M_X12_fails) (ci := 12) (x := a0) (As := [(0, 1)]) (st := []) (r := some (0, p190.1)) (mem1 := p190.2) (d' := d - 1) hz dX12_readsAll_190 mw_X12_fails ml_X12_242 mi_X12_fails ht rfl rfl (Nat.le_of_ble_eq_true rfl) (Nat.le_of_ble_eq_true rfl) (by omega) rfl rfl (c_X12_fails hz (by omega) a0 1 s _ ht hp190) ?_
                exact cj_X12_readsAll_193_77 hz hd ht p190.1 p190.2 _ h hK
              · rw [if_neg q177] at h
                refine RT.aload_n (pc := 180) (k := 0) (x := a0) dX12_readsAll_180 rfl ?_
                refine RT.iconst (pc := 181) (n := 1) dX12_readsAll_181 ⟨by decide, by decide⟩ ?_
                obtain ⟨p182, hp182, h⟩ := Option.bind_eq_some_iff.mp h
                refine RT.cVz (pc := 182) (M' := M_X12_readsLaw) (ci := 12) (x := a0) (As := [(0, 1)]) (st := []) (r := some (0, p182.1)) (mem1 := p182.2) (d' := d - 1) hz dX12_readsAll_182 mw_X12_readsLaw ml_X12_359 mi_X12_readsLaw ht rfl rfl (Nat.le_of_ble_eq_true rfl) (Nat.le_of_ble_eq_true rfl) (by omega) rfl rfl (c_X12_readsLaw hz (by omega) a0 1 s _ ht hp182) ?_
                refine RT.goto (pc := 185) (tgt := 193) dX12_readsAll_185 rfl ?_
                exact cj_X12_readsAll_193_77 hz hd ht p182.1 p182.2 _ h hK
            · rw [if_neg q159] at h
              refine RT.aload_n (pc := 162) (k := 0) (x := a0) dX12_readsAll_162 rfl ?_
              refine RT.iconst (pc := 163) (n := 0) dX12_readsAll_163 ⟨by decide, by decide⟩ ?_
              obtain ⟨p164, hp164, h⟩ := Option.bind_eq_some_iff.mp h
              refine RT.cVz (pc := 164) (M' := M_X12_readsLaw) (ci := 12) (x := a0) (As := [(0, 0)]) (st := []) (r := some (0, p164.1)) (mem1 := p164.2) (d' := d - 1) hz dX12_readsAll_164 mw_X12_readsLaw ml_X12_359 mi_X12_readsLaw ht rfl rfl (Nat.le_of_ble_eq_true rfl) (Nat.le_of_ble_eq_true rfl) (by omega) rfl rfl (c_X12_readsLaw hz (by omega) a0 0 s _ ht hp164) ?_
              refine RT.goto (pc := 167) (tgt := 193) dX12_readsAll_167 rfl ?_
              exact cj_X12_readsAll_193_77 hz hd ht p164.1 p164.2 _ h hK
          · rw [if_neg q142] at h
            refine RT.aload_n (pc := 145) (k := 0) (x := a0) dX12_readsAll_145 rfl ?_
            obtain ⟨p146, hp146, h⟩ := Option.bind_eq_some_iff.mp h
            refine RT.cVz (pc := 146) (M' := M_X12_readsSlack) (ci := 12) (x := a0) (As := []) (st := []) (r := some (0, p146.1)) (mem1 := p146.2) (d' := d - 1) hz dX12_readsAll_146 mw_X12_readsSlack ml_X12_356 mi_X12_readsSlack ht rfl rfl (Nat.le_of_ble_eq_true rfl) (Nat.le_of_ble_eq_true rfl) (by omega) rfl rfl (c_X12_readsSlack hz (by omega) a0 s _ ht hp146) ?_
            refine RT.goto (pc := 149) (tgt := 193) dX12_readsAll_149 rfl ?_
            exact cj_X12_readsAll_193_77 hz hd ht p146.1 p146.2 _ h hK
        · rw [if_neg q125] at h
          refine RT.aload_n (pc := 128) (k := 0) (x := a0) dX12_readsAll_128 rfl ?_
          obtain ⟨p129, hp129, h⟩ := Option.bind_eq_some_iff.mp h
          refine RT.cVz (pc := 129) (M' := M_X12_readsHeats) (ci := 12) (x := a0) (As := []) (st := []) (r := some (0, p129.1)) (mem1 := p129.2) (d' := d - 1) hz dX12_readsAll_129 mw_X12_readsHeats ml_X12_353 mi_X12_readsHeats ht rfl rfl (Nat.le_of_ble_eq_true rfl) (Nat.le_of_ble_eq_true rfl) (by omega) rfl rfl (c_X12_readsHeats hz (by omega) a0 s _ ht hp129) ?_
          refine RT.goto (pc := 132) (tgt := 193) dX12_readsAll_132 rfl ?_
          exact cj_X12_readsAll_193_77 hz hd ht p129.1 p129.2 _ h hK
      · rw [if_neg q108] at h
        refine RT.aload_n (pc := 111) (k := 0) (x := a0) dX12_readsAll_111 rfl ?_
        obtain ⟨p112, hp112, h⟩ := Option.bind_eq_some_iff.mp h
        refine RT.cVz (pc := 112) (M' := M_X12_readsHead) (ci := 12) (x := a0) (As := []) (st := []) (r := some (0, p112.1)) (mem1 := p112.2) (d' := d - 1) hz dX12_readsAll_112 mw_X12_readsHead ml_X12_350 mi_X12_readsHead ht rfl rfl (Nat.le_of_ble_eq_true rfl) (Nat.le_of_ble_eq_true rfl) (by omega) rfl rfl (c_X12_readsHead hz (by omega) a0 s _ ht hp112) ?_
        refine RT.goto (pc := 115) (tgt := 193) dX12_readsAll_115 rfl ?_
        exact cj_X12_readsAll_193_77 hz hd ht p112.1 p112.2 _ h hK
    · rw [if_neg q91] at h
      refine RT.aload_n (pc := 94) (k := 0) (x := a0) dX12_readsAll_94 rfl ?_
      obtain ⟨p95, hp95, h⟩ := Option.bind_eq_some_iff.mp h
      refine RT.cVz (pc := 95) (M' := M_X12_readsWig) (ci := 12) (x := a0) (As := []) (st := []) (r := some (0, p95.1)) (mem1 := p95.2) (d' := d - 1) hz dX12_readsAll_95 mw_X12_readsWig ml_X12_347 mi_X12_readsWig ht rfl rfl (Nat.le_of_ble_eq_true rfl) (Nat.le_of_ble_eq_true rfl) (by omega) rfl rfl (c_X12_readsWig hz (by omega) a0 s _ ht hp95) ?_
      refine RT.goto (pc := 98) (tgt := 193) dX12_readsAll_98 rfl ?_
      exact cj_X12_readsAll_193_77 hz hd ht p95.1 p95.2 _ h hK
theorem c_X12_readsAll {G : rt_G} {d : Nat} {z : Nat × Nat} (hz : 300 ≤ z.1) (hd : 5 ≤ d) (a0 : Int) (mem0 : rt_M) (t : Int × rt_M) (ht : rt_kd a0.toNat = 20 + 12) (h : f_X12_readsAll a0 mem0 = some t) : RM G M_X12_readsAll d [(2, a0)] z mem0 (some (0, t.1)) t.2 := by
  suffices H : ∀ Q : rt_P, Q (some (0, t.1)) z t.2 → RT G M_X12_readsAll d z Q 0 [(2, a0), (9, 0)] [] z mem0 from H _ ⟨rfl, rfl, rfl⟩
  intro Q hK
  unfold f_X12_readsAll at h
  refine RT.aload_n (pc := 0) (k := 0) (x := a0) dX12_readsAll_0 rfl ?_
  obtain ⟨v1, hv1, h⟩ := Option.bind_eq_some_iff.mp h
  refine RT.gf 12 10 2 (pc := 1) (x := a0) (v := v1) hz dX12_readsAll_1 fl_X12_13 rfl hv1 ?_
  refine RT.iconst (pc := 4) (n := 4) dX12_readsAll_4 ⟨by decide, by decide⟩ ?_
  refine RT.iconst (pc := 5) (n := 0) dX12_readsAll_5 ⟨by decide, by decide⟩ ?_
  obtain ⟨m6, hm6, h⟩ := Option.bind_eq_some_iff.mp h
  refine RT.iast (pc := 6) (x := v1) (i := 4) (v := 0) (mem1 := m6) dX12_readsAll_6 (rt_lts hz (by decide) (by decide) hm6) hm6 ?_
  refine RT.aload_n (pc := 7) (k := 0) (x := a0) dX12_readsAll_7 rfl ?_
  obtain ⟨v8, hv8, h⟩ := Option.bind_eq_some_iff.mp h
  refine RT.gf 12 10 2 (pc := 8) (x := a0) (v := v8) hz dX12_readsAll_8 fl_X12_13 rfl hv8 ?_
  refine RT.iconst (pc := 11) (n := 5) dX12_readsAll_11 ⟨by decide, by decide⟩ ?_
  refine RT.iconst (pc := 12) (n := 0) dX12_readsAll_12 ⟨by decide, by decide⟩ ?_
  obtain ⟨m13, hm13, h⟩ := Option.bind_eq_some_iff.mp h
  refine RT.iast (pc := 13) (x := v8) (i := 5) (v := 0) (mem1 := m13) dX12_readsAll_13 (rt_lts hz (by decide) (by decide) hm13) hm13 ?_
  refine RT.aload_n (pc := 14) (k := 0) (x := a0) dX12_readsAll_14 rfl ?_
  obtain ⟨v15, hv15, h⟩ := Option.bind_eq_some_iff.mp h
  refine RT.gf 12 10 2 (pc := 15) (x := a0) (v := v15) hz dX12_readsAll_15 fl_X12_13 rfl hv15 ?_
  refine RT.bipush (pc := 18) (n := 6) dX12_readsAll_18 ⟨by decide, by decide⟩ rfl ?_
  refine RT.iconst (pc := 20) (n := 1) dX12_readsAll_20 ⟨by decide, by decide⟩ ?_
  obtain ⟨m21, hm21, h⟩ := Option.bind_eq_some_iff.mp h
  refine RT.iast (pc := 21) (x := v15) (i := 6) (v := 1) (mem1 := m21) dX12_readsAll_21 (rt_lts hz (by decide) (by decide) hm21) hm21 ?_
  refine RT.aload_n (pc := 22) (k := 0) (x := a0) dX12_readsAll_22 rfl ?_
  obtain ⟨v23, hv23, h⟩ := Option.bind_eq_some_iff.mp h
  refine RT.gf 12 10 2 (pc := 23) (x := a0) (v := v23) hz dX12_readsAll_23 fl_X12_13 rfl hv23 ?_
  refine RT.bipush (pc := 26) (n := 7) dX12_readsAll_26 ⟨by decide, by decide⟩ rfl ?_
  refine RT.iconst (pc := 28) (n := 0) dX12_readsAll_28 ⟨by decide, by decide⟩ ?_
  obtain ⟨m29, hm29, h⟩ := Option.bind_eq_some_iff.mp h
  refine RT.iast (pc := 29) (x := v23) (i := 7) (v := 0) (mem1 := m29) dX12_readsAll_29 (rt_lts hz (by decide) (by decide) hm29) hm29 ?_
  refine RT.iconst (pc := 30) (n := 2) dX12_readsAll_30 ⟨by decide, by decide⟩ ?_
  refine RT.istore_n (pc := 31) (k := 1) (x := 2) (L1 := [(2, a0), (0, 2)]) dX12_readsAll_31 (Nat.le_of_ble_eq_true rfl) rfl ?_
  obtain ⟨X32, hX32, h⟩ := Option.bind_eq_some_iff.mp h
  refine rt_it_ind (P := (fun s1 : Int × rt_M => RT G M_X12_readsAll d z Q 32 [(2, a0), (0, s1.1)] [] z s1.2)) (X := (fun x1 : rt_M => RT G M_X12_readsAll d z Q 61 [(2, a0), (9, 0)] [] z x1)) (fun s1 t1 h1 k1 k2 => cb_X12_readsAll_32 hz hd ht s1 t1 h1 ⟨k1, k2⟩) 4000 ((2, m29)) X32 hX32 ?_
  refine RT.aload_n (pc := 61) (k := 0) (x := a0) dX12_readsAll_61 rfl ?_
  refine RT.iconst (pc := 62) (n := 0) dX12_readsAll_62 ⟨by decide, by decide⟩ ?_
  obtain ⟨m63, hm63, h⟩ := Option.bind_eq_some_iff.mp h
  refine RT.pf_z 12 26 (pc := 63) (mem1 := m63) hz dX12_readsAll_63 fl_X12_337 rfl rfl rfl (by decide) hm63 ?_
  refine RT.aload_n (pc := 66) (k := 0) (x := a0) dX12_readsAll_66 rfl ?_
  refine RT.sipush (pc := 67) (n := 1000) dX12_readsAll_67 ⟨by decide, by decide⟩ rfl ?_
  obtain ⟨m70, hm70, h⟩ := Option.bind_eq_some_iff.mp h
  refine RT.pf_i 12 24 (pc := 70) (mem1 := m70) hz dX12_readsAll_70 fl_X12_210 rfl rfl rfl hm70 ?_
  refine RT.aload_n (pc := 73) (k := 0) (x := a0) dX12_readsAll_73 rfl ?_
  obtain ⟨p74, hp74, h⟩ := Option.bind_eq_some_iff.mp h
  refine RT.cVz (pc := 74) (M' := M_X12_begins) (ci := 12) (x := a0) (As := []) (st := []) (r := none) (mem1 := p74) (d' := d - 1) hz dX12_readsAll_74 mw_X12_begins ml_X12_344 mi_X12_begins ht rfl rfl (Nat.le_of_ble_eq_true rfl) (Nat.le_of_ble_eq_true rfl) (by omega) rfl rfl (c_X12_begins hz (by omega) a0 m70 _ ht hp74) ?_
  obtain ⟨E77, hE77, h⟩ := Option.bind_eq_some_iff.mp h
  refine rt_it_ind (P := (fun s1 : rt_M => RT G M_X12_readsAll d z Q 77 [(2, a0), (9, 0)] [] z s1)) (X := (fun e1 : (rt_M) ⊕ (Int × rt_M) => (∀ x1 : rt_M, e1 = .inl x1 → RT G M_X12_readsAll d z Q 203 [(9, 0), (9, 0)] [] z x1) ∧ (∀ t1 : Int × rt_M, e1 = .inr t1 → Q (some (0, t1.1)) z t1.2))) (fun s1 t1 h1 k1 k2 => cb_X12_readsAll_77 hz hd ht s1 t1 h1 ⟨k1, fun x1 q => (k2 _ q).1 x1 rfl, fun t2 q => (k2 _ q).2 t2 rfl⟩) 4000 p74 E77 hE77 ?_
  cases E77 with
  | inr t1 =>
    obtain rfl := Option.some.inj h
    exact ⟨fun x1 q => (by cases q), fun t2 q => (by cases q; exact hK)⟩
  | inl X77 =>
    refine ⟨fun x1 q => ?_, fun t2 q => (by cases q)⟩
    cases q
    refine RT.iconst (pc := 203) (n := 1) dX12_readsAll_203 ⟨by decide, by decide⟩ ?_
    obtain rfl := Option.some.inj h
    exact RT.zret (pc := 204) dX12_readsAll_204 rfl (by decide) (Nat.le_of_eq (rt_cells_0 z)) (Nat.le_of_eq (rt_slots_0 z)) hK
theorem cb_X12_shifts_2 {G : rt_G} {d : Nat} {z : Nat × Nat} {Q : rt_P} (hz : 300 ≤ z.1) (hd : 0 ≤ d) (a0 : Int) (a1 : Int) (s : Int × rt_M) (t : (Int × rt_M) ⊕ (rt_M)) (h : b_X12_shifts_2 a0 a1 s = some t) (hK : (∀ s1 : Int × rt_M, t = .inl s1 → RT G M_X12_shifts d z Q 2 [(2, a0), (0, a1), (0, s1.1)] [] z s1.2) ∧ (∀ x1 : rt_M, t = .inr x1 → RT G M_X12_shifts d z Q 21 [(9, 0), (9, 0), (9, 0)] [] z x1)) : RT G M_X12_shifts d z Q 2 [(2, a0), (0, a1), (0, s.1)] [] z s.2 := by
  unfold b_X12_shifts_2 at h
  refine RT.iload_n (pc := 2) (k := 2) (x := s.1) dX12_shifts_2 rfl ?_
  refine RT.iload_n (pc := 3) (k := 1) (x := a1) dX12_shifts_3 rfl ?_
  refine RT.icmp_ge (pc := 4) (tgt := 21) dX12_shifts_4 rfl (fun q4 => ?_) (fun q4 => ?_)
  · rw [if_pos q4] at h
    refine RT.wk (L1 := [(9, 0), (9, 0), (9, 0)]) (rt_le_j (rt_le_j (rt_le_j rt_le_n))) ?_
    obtain rfl := Option.some.inj h
    have q1 := hK.2 s.2 rfl
    try dsimp only at q1
    exact q1
  · rw [if_neg q4] at h
    refine RT.aload_n (pc := 7) (k := 0) (x := a0) dX12_shifts_7 rfl ?_
    refine RT.iload_n (pc := 8) (k := 2) (x := s.1) dX12_shifts_8 rfl ?_
    refine RT.aload_n (pc := 9) (k := 0) (x := a0) dX12_shifts_9 rfl ?_
    refine RT.iload_n (pc := 10) (k := 1) (x := a1) dX12_shifts_10 rfl ?_
    refine RT.iload_n (pc := 11) (k := 2) (x := s.1) dX12_shifts_11 rfl ?_
    refine RT.iadd (pc := 12) dX12_shifts_12 ?_
    obtain ⟨v13, hv13, h⟩ := Option.bind_eq_some_iff.mp h
    refine RT.iald (pc := 13) (x := a0) (i := (rt_iadd a1 s.1)) (v := v13) dX12_shifts_13 (rt_lta hz (by decide) (by decide) hv13) hv13 ?_
    obtain ⟨m14, hm14, h⟩ := Option.bind_eq_some_iff.mp h
    refine RT.iast (pc := 14) (x := a0) (i := s.1) (v := v13) (mem1 := m14) dX12_shifts_14 (rt_lts hz (by decide) (by decide) hm14) hm14 ?_
    refine RT.iinc (pc := 15) (x := s.1) (L1 := [(2, a0), (0, a1), (0, (rt_iadd s.1 1))]) dX12_shifts_15 rfl (Nat.le_of_ble_eq_true rfl) ⟨by decide, by decide⟩ rfl ?_
    refine RT.goto (pc := 18) (tgt := 2) dX12_shifts_18 rfl ?_
    obtain rfl := Option.some.inj h
    have q1 := hK.1 (((rt_iadd s.1 1), m14)) rfl
    try dsimp only at q1
    exact q1
theorem c_X12_shifts {G : rt_G} {d : Nat} {z : Nat × Nat} (hz : 300 ≤ z.1) (hd : 0 ≤ d) (a0 : Int) (a1 : Int) (mem0 : rt_M) (t : rt_M) (h : f_X12_shifts a0 a1 mem0 = some t) : RM G M_X12_shifts d [(2, a0), (0, a1)] z mem0 none t := by
  suffices H : ∀ Q : rt_P, Q none z t → RT G M_X12_shifts d z Q 0 [(2, a0), (0, a1), (9, 0)] [] z mem0 from H _ ⟨rfl, rfl, rfl⟩
  intro Q hK
  unfold f_X12_shifts at h
  refine RT.iconst (pc := 0) (n := 0) dX12_shifts_0 ⟨by decide, by decide⟩ ?_
  refine RT.istore_n (pc := 1) (k := 2) (x := 0) (L1 := [(2, a0), (0, a1), (0, 0)]) dX12_shifts_1 (Nat.le_of_ble_eq_true rfl) rfl ?_
  obtain ⟨X2, hX2, h⟩ := Option.bind_eq_some_iff.mp h
  refine rt_it_ind (P := (fun s1 : Int × rt_M => RT G M_X12_shifts d z Q 2 [(2, a0), (0, a1), (0, s1.1)] [] z s1.2)) (X := (fun x1 : rt_M => RT G M_X12_shifts d z Q 21 [(9, 0), (9, 0), (9, 0)] [] z x1)) (fun s1 t1 h1 k1 k2 => cb_X12_shifts_2 hz hd a0 a1 s1 t1 h1 ⟨k1, k2⟩) 4000 ((0, mem0)) X2 hX2 ?_
  obtain rfl := Option.some.inj h
  exact RT.vret (pc := 21) dX12_shifts_21 rfl (Nat.le_of_eq (rt_cells_0 z)) (Nat.le_of_eq (rt_slots_0 z)) hK
theorem cb_X12_shiftsNames_2 {G : rt_G} {d : Nat} {z : Nat × Nat} {Q : rt_P} (hz : 300 ≤ z.1) (hd : 0 ≤ d) (a0 : Int) (a1 : Int) (s : Int × rt_M) (t : (Int × rt_M) ⊕ (rt_M)) (h : b_X12_shiftsNames_2 a0 a1 s = some t) (hK : (∀ s1 : Int × rt_M, t = .inl s1 → RT G M_X12_shiftsNames d z Q 2 [(2, a0), (0, a1), (0, s1.1)] [] z s1.2) ∧ (∀ x1 : rt_M, t = .inr x1 → RT G M_X12_shiftsNames d z Q 21 [(9, 0), (9, 0), (9, 0)] [] z x1)) : RT G M_X12_shiftsNames d z Q 2 [(2, a0), (0, a1), (0, s.1)] [] z s.2 := by
  unfold b_X12_shiftsNames_2 at h
  refine RT.iload_n (pc := 2) (k := 2) (x := s.1) dX12_shiftsNames_2 rfl ?_
  refine RT.iload_n (pc := 3) (k := 1) (x := a1) dX12_shiftsNames_3 rfl ?_
  refine RT.icmp_ge (pc := 4) (tgt := 21) dX12_shiftsNames_4 rfl (fun q4 => ?_) (fun q4 => ?_)
  · rw [if_pos q4] at h
    refine RT.wk (L1 := [(9, 0), (9, 0), (9, 0)]) (rt_le_j (rt_le_j (rt_le_j rt_le_n))) ?_
    obtain rfl := Option.some.inj h
    have q1 := hK.2 s.2 rfl
    try dsimp only at q1
    exact q1
  · rw [if_neg q4] at h
    refine RT.aload_n (pc := 7) (k := 0) (x := a0) dX12_shiftsNames_7 rfl ?_
    refine RT.iload_n (pc := 8) (k := 2) (x := s.1) dX12_shiftsNames_8 rfl ?_
    refine RT.aload_n (pc := 9) (k := 0) (x := a0) dX12_shiftsNames_9 rfl ?_
    refine RT.iload_n (pc := 10) (k := 1) (x := a1) dX12_shiftsNames_10 rfl ?_
    refine RT.iload_n (pc := 11) (k := 2) (x := s.1) dX12_shiftsNames_11 rfl ?_
    refine RT.iadd (pc := 12) dX12_shiftsNames_12 ?_
    obtain ⟨v13, hv13, h⟩ := Option.bind_eq_some_iff.mp h
    refine RT.lald (pc := 13) (x := a0) (i := (rt_iadd a1 s.1)) (v := v13) dX12_shiftsNames_13 (rt_lta hz (by decide) (by decide) hv13) hv13 ?_
    obtain ⟨m14, hm14, h⟩ := Option.bind_eq_some_iff.mp h
    refine RT.last (pc := 14) (x := a0) (i := s.1) (v := v13) (mem1 := m14) dX12_shiftsNames_14 (rt_lts hz (by decide) (by decide) hm14) hm14 ?_
    refine RT.iinc (pc := 15) (x := s.1) (L1 := [(2, a0), (0, a1), (0, (rt_iadd s.1 1))]) dX12_shiftsNames_15 rfl (Nat.le_of_ble_eq_true rfl) ⟨by decide, by decide⟩ rfl ?_
    refine RT.goto (pc := 18) (tgt := 2) dX12_shiftsNames_18 rfl ?_
    obtain rfl := Option.some.inj h
    have q1 := hK.1 (((rt_iadd s.1 1), m14)) rfl
    try dsimp only at q1
    exact q1
theorem c_X12_shiftsNames {G : rt_G} {d : Nat} {z : Nat × Nat} (hz : 300 ≤ z.1) (hd : 0 ≤ d) (a0 : Int) (a1 : Int) (mem0 : rt_M) (t : rt_M) (h : f_X12_shiftsNames a0 a1 mem0 = some t) : RM G M_X12_shiftsNames d [(2, a0), (0, a1)] z mem0 none t := by
  suffices H : ∀ Q : rt_P, Q none z t → RT G M_X12_shiftsNames d z Q 0 [(2, a0), (0, a1), (9, 0)] [] z mem0 from H _ ⟨rfl, rfl, rfl⟩
  intro Q hK
  unfold f_X12_shiftsNames at h
  refine RT.iconst (pc := 0) (n := 0) dX12_shiftsNames_0 ⟨by decide, by decide⟩ ?_
  refine RT.istore_n (pc := 1) (k := 2) (x := 0) (L1 := [(2, a0), (0, a1), (0, 0)]) dX12_shiftsNames_1 (Nat.le_of_ble_eq_true rfl) rfl ?_
  obtain ⟨X2, hX2, h⟩ := Option.bind_eq_some_iff.mp h
  refine rt_it_ind (P := (fun s1 : Int × rt_M => RT G M_X12_shiftsNames d z Q 2 [(2, a0), (0, a1), (0, s1.1)] [] z s1.2)) (X := (fun x1 : rt_M => RT G M_X12_shiftsNames d z Q 21 [(9, 0), (9, 0), (9, 0)] [] z x1)) (fun s1 t1 h1 k1 k2 => cb_X12_shiftsNames_2 hz hd a0 a1 s1 t1 h1 ⟨k1, k2⟩) 4000 ((0, mem0)) X2 hX2 ?_
  obtain rfl := Option.some.inj h
  exact RT.vret (pc := 21) dX12_shiftsNames_21 rfl (Nat.le_of_eq (rt_cells_0 z)) (Nat.le_of_eq (rt_slots_0 z)) hK
theorem cb_X12_lays_110 {G : rt_G} {d : Nat} {z : Nat × Nat} {Q : rt_P} (hz : 300 ≤ z.1) (hd : 1 ≤ d) {a0 : Int} (ht : rt_kd a0.toNat = 20 + 12) (s : Int × rt_M) (t : (Int × rt_M) ⊕ (rt_M)) (h : b_X12_lays_110 a0 s = some t) (hK : (∀ s1 : Int × rt_M, t = .inl s1 → RT G M_X12_lays d z Q 110 [(2, a0), (0, s1.1)] [] z s1.2) ∧ (∀ x1 : rt_M, t = .inr x1 → RT G M_X12_lays d z Q 157 [(9, 0), (9, 0)] [] z x1)) : RT G M_X12_lays d z Q 110 [(2, a0), (0, s.1)] [] z s.2 := by
  unfold b_X12_lays_110 at h
  refine RT.iload_n (pc := 110) (k := 1) (x := s.1) dX12_lays_110 rfl ?_
  refine RT.iconst (pc := 111) (n := 2) dX12_lays_111 ⟨by decide, by decide⟩ ?_
  refine RT.icmp_ge (pc := 112) (tgt := 157) dX12_lays_112 rfl (fun q112 => ?_) (fun q112 => ?_)
  · rw [if_pos q112] at h
    refine RT.wk (L1 := [(9, 0), (9, 0)]) (rt_le_j (rt_le_j rt_le_n)) ?_
    obtain rfl := Option.some.inj h
    have q1 := hK.2 s.2 rfl
    try dsimp only at q1
    exact q1
  · rw [if_neg q112] at h
    refine RT.aload_n (pc := 115) (k := 0) (x := a0) dX12_lays_115 rfl ?_
    obtain ⟨v116, hv116, h⟩ := Option.bind_eq_some_iff.mp h
    refine RT.gf 12 21 2 (pc := 116) (x := a0) (v := v116) hz dX12_lays_116 fl_X12_47 rfl hv116 ?_
    refine RT.iload_n (pc := 119) (k := 1) (x := s.1) dX12_lays_119 rfl ?_
    refine RT.aload_n (pc := 120) (k := 0) (x := a0) dX12_lays_120 rfl ?_
    obtain ⟨v121, hv121, h⟩ := Option.bind_eq_some_iff.mp h
    refine RT.gf 12 21 2 (pc := 121) (x := a0) (v := v121) hz dX12_lays_121 fl_X12_47 rfl hv121 ?_
    refine RT.iconst (pc := 124) (n := 2) dX12_lays_124 ⟨by decide, by decide⟩ ?_
    refine RT.iload_n (pc := 125) (k := 1) (x := s.1) dX12_lays_125 rfl ?_
    refine RT.iadd (pc := 126) dX12_lays_126 ?_
    obtain ⟨v127, hv127, h⟩ := Option.bind_eq_some_iff.mp h
    refine RT.iald (pc := 127) (x := v121) (i := (rt_iadd 2 s.1)) (v := v127) dX12_lays_127 (rt_lta hz (by decide) (by decide) hv127) hv127 ?_
    refine RT.sipush (pc := 128) (n := 1000) dX12_lays_128 ⟨by decide, by decide⟩ rfl ?_
    refine RT.isub (pc := 131) dX12_lays_131 ?_
    obtain ⟨m132, hm132, h⟩ := Option.bind_eq_some_iff.mp h
    refine RT.iast (pc := 132) (x := v116) (i := s.1) (v := (rt_isub v127 1000)) (mem1 := m132) dX12_lays_132 (rt_lts hz (by decide) (by decide) hm132) hm132 ?_
    refine RT.aload_n (pc := 133) (k := 0) (x := a0) dX12_lays_133 rfl ?_
    obtain ⟨v134, hv134, h⟩ := Option.bind_eq_some_iff.mp h
    refine RT.gf 12 22 2 (pc := 134) (x := a0) (v := v134) hz dX12_lays_134 fl_X12_50 rfl hv134 ?_
    refine RT.iload_n (pc := 137) (k := 1) (x := s.1) dX12_lays_137 rfl ?_
    refine RT.aload_n (pc := 138) (k := 0) (x := a0) dX12_lays_138 rfl ?_
    obtain ⟨v139, hv139, h⟩ := Option.bind_eq_some_iff.mp h
    refine RT.gf 12 22 2 (pc := 139) (x := a0) (v := v139) hz dX12_lays_139 fl_X12_50 rfl hv139 ?_
    refine RT.iconst (pc := 142) (n := 2) dX12_lays_142 ⟨by decide, by decide⟩ ?_
    refine RT.iload_n (pc := 143) (k := 1) (x := s.1) dX12_lays_143 rfl ?_
    refine RT.iadd (pc := 144) dX12_lays_144 ?_
    obtain ⟨v145, hv145, h⟩ := Option.bind_eq_some_iff.mp h
    refine RT.iald (pc := 145) (x := v139) (i := (rt_iadd 2 s.1)) (v := v145) dX12_lays_145 (rt_lta hz (by decide) (by decide) hv145) hv145 ?_
    refine RT.sipush (pc := 146) (n := 1000) dX12_lays_146 ⟨by decide, by decide⟩ rfl ?_
    refine RT.isub (pc := 149) dX12_lays_149 ?_
    obtain ⟨m150, hm150, h⟩ := Option.bind_eq_some_iff.mp h
    refine RT.iast (pc := 150) (x := v134) (i := s.1) (v := (rt_isub v145 1000)) (mem1 := m150) dX12_lays_150 (rt_lts hz (by decide) (by decide) hm150) hm150 ?_
    refine RT.iinc (pc := 151) (x := s.1) (L1 := [(2, a0), (0, (rt_iadd s.1 1))]) dX12_lays_151 rfl (Nat.le_of_ble_eq_true rfl) ⟨by decide, by decide⟩ rfl ?_
    refine RT.goto (pc := 154) (tgt := 110) dX12_lays_154 rfl ?_
    obtain rfl := Option.some.inj h
    have q1 := hK.1 (((rt_iadd s.1 1), m150)) rfl
    try dsimp only at q1
    exact q1
theorem c_X12_lays {G : rt_G} {d : Nat} {z : Nat × Nat} (hz : 300 ≤ z.1) (hd : 1 ≤ d) (a0 : Int) (mem0 : rt_M) (t : rt_M) (ht : rt_kd a0.toNat = 20 + 12) (h : f_X12_lays a0 mem0 = some t) : RM G M_X12_lays d [(2, a0)] z mem0 none t := by
  suffices H : ∀ Q : rt_P, Q none z t → RT G M_X12_lays d z Q 0 [(2, a0), (9, 0)] [] z mem0 from H _ ⟨rfl, rfl, rfl⟩
  intro Q hK
  unfold f_X12_lays at h
  refine RT.aload_n (pc := 0) (k := 0) (x := a0) dX12_lays_0 rfl ?_
  obtain ⟨v1, hv1, h⟩ := Option.bind_eq_some_iff.mp h
  refine RT.gf 12 10 2 (pc := 1) (x := a0) (v := v1) hz dX12_lays_1 fl_X12_13 rfl hv1 ?_
  refine RT.iconst (pc := 4) (n := 4) dX12_lays_4 ⟨by decide, by decide⟩ ?_
  obtain ⟨p5, hp5, h⟩ := Option.bind_eq_some_iff.mp h
  refine RT.cSz (pc := 5) (M' := M_X12_shifts) (As := [(2, v1), (0, 4)]) (st := []) (r := none) (mem1 := p5) (d' := d - 1) dX12_lays_5 mw_X12_shifts ml_X12_362 mi_X12_shifts rfl rfl (Nat.le_of_ble_eq_true rfl) (Nat.le_of_ble_eq_true rfl) (by omega) rfl rfl (c_X12_shifts hz (by omega) v1 4 mem0 _ hp5) ?_
  refine RT.aload_n (pc := 8) (k := 0) (x := a0) dX12_lays_8 rfl ?_
  obtain ⟨v9, hv9, h⟩ := Option.bind_eq_some_iff.mp h
  refine RT.gf 12 11 2 (pc := 9) (x := a0) (v := v9) hz dX12_lays_9 fl_X12_16 rfl hv9 ?_
  refine RT.bipush (pc := 12) (n := 6) dX12_lays_12 ⟨by decide, by decide⟩ rfl ?_
  obtain ⟨p14, hp14, h⟩ := Option.bind_eq_some_iff.mp h
  refine RT.cSz (pc := 14) (M' := M_X12_shiftsNames) (As := [(2, v9), (0, 6)]) (st := []) (r := none) (mem1 := p14) (d' := d - 1) dX12_lays_14 mw_X12_shiftsNames ml_X12_366 mi_X12_shiftsNames rfl rfl (Nat.le_of_ble_eq_true rfl) (Nat.le_of_ble_eq_true rfl) (by omega) rfl rfl (c_X12_shiftsNames hz (by omega) v9 6 p5 _ hp14) ?_
  refine RT.aload_n (pc := 17) (k := 0) (x := a0) dX12_lays_17 rfl ?_
  obtain ⟨v18, hv18, h⟩ := Option.bind_eq_some_iff.mp h
  refine RT.gf 12 12 2 (pc := 18) (x := a0) (v := v18) hz dX12_lays_18 fl_X12_20 rfl hv18 ?_
  refine RT.bipush (pc := 21) (n := 6) dX12_lays_21 ⟨by decide, by decide⟩ rfl ?_
  obtain ⟨p23, hp23, h⟩ := Option.bind_eq_some_iff.mp h
  refine RT.cSz (pc := 23) (M' := M_X12_shiftsNames) (As := [(2, v18), (0, 6)]) (st := []) (r := none) (mem1 := p23) (d' := d - 1) dX12_lays_23 mw_X12_shiftsNames ml_X12_366 mi_X12_shiftsNames rfl rfl (Nat.le_of_ble_eq_true rfl) (Nat.le_of_ble_eq_true rfl) (by omega) rfl rfl (c_X12_shiftsNames hz (by omega) v18 6 p14 _ hp23) ?_
  refine RT.aload_n (pc := 26) (k := 0) (x := a0) dX12_lays_26 rfl ?_
  obtain ⟨v27, hv27, h⟩ := Option.bind_eq_some_iff.mp h
  refine RT.gf 12 13 2 (pc := 27) (x := a0) (v := v27) hz dX12_lays_27 fl_X12_23 rfl hv27 ?_
  refine RT.bipush (pc := 30) (n := 6) dX12_lays_30 ⟨by decide, by decide⟩ rfl ?_
  obtain ⟨p32, hp32, h⟩ := Option.bind_eq_some_iff.mp h
  refine RT.cSz (pc := 32) (M' := M_X12_shifts) (As := [(2, v27), (0, 6)]) (st := []) (r := none) (mem1 := p32) (d' := d - 1) dX12_lays_32 mw_X12_shifts ml_X12_362 mi_X12_shifts rfl rfl (Nat.le_of_ble_eq_true rfl) (Nat.le_of_ble_eq_true rfl) (by omega) rfl rfl (c_X12_shifts hz (by omega) v27 6 p23 _ hp32) ?_
  refine RT.aload_n (pc := 35) (k := 0) (x := a0) dX12_lays_35 rfl ?_
  obtain ⟨v36, hv36, h⟩ := Option.bind_eq_some_iff.mp h
  refine RT.gf 12 14 2 (pc := 36) (x := a0) (v := v36) hz dX12_lays_36 fl_X12_26 rfl hv36 ?_
  refine RT.bipush (pc := 39) (n := 6) dX12_lays_39 ⟨by decide, by decide⟩ rfl ?_
  obtain ⟨p41, hp41, h⟩ := Option.bind_eq_some_iff.mp h
  refine RT.cSz (pc := 41) (M' := M_X12_shifts) (As := [(2, v36), (0, 6)]) (st := []) (r := none) (mem1 := p41) (d' := d - 1) dX12_lays_41 mw_X12_shifts ml_X12_362 mi_X12_shifts rfl rfl (Nat.le_of_ble_eq_true rfl) (Nat.le_of_ble_eq_true rfl) (by omega) rfl rfl (c_X12_shifts hz (by omega) v36 6 p32 _ hp41) ?_
  refine RT.aload_n (pc := 44) (k := 0) (x := a0) dX12_lays_44 rfl ?_
  obtain ⟨v45, hv45, h⟩ := Option.bind_eq_some_iff.mp h
  refine RT.gf 12 15 2 (pc := 45) (x := a0) (v := v45) hz dX12_lays_45 fl_X12_29 rfl hv45 ?_
  refine RT.bipush (pc := 48) (n := 6) dX12_lays_48 ⟨by decide, by decide⟩ rfl ?_
  obtain ⟨p50, hp50, h⟩ := Option.bind_eq_some_iff.mp h
  refine RT.cSz (pc := 50) (M' := M_X12_shifts) (As := [(2, v45), (0, 6)]) (st := []) (r := none) (mem1 := p50) (d' := d - 1) dX12_lays_50 mw_X12_shifts ml_X12_362 mi_X12_shifts rfl rfl (Nat.le_of_ble_eq_true rfl) (Nat.le_of_ble_eq_true rfl) (by omega) rfl rfl (c_X12_shifts hz (by omega) v45 6 p41 _ hp50) ?_
  refine RT.aload_n (pc := 53) (k := 0) (x := a0) dX12_lays_53 rfl ?_
  obtain ⟨v54, hv54, h⟩ := Option.bind_eq_some_iff.mp h
  refine RT.gf 12 16 2 (pc := 54) (x := a0) (v := v54) hz dX12_lays_54 fl_X12_32 rfl hv54 ?_
  refine RT.bipush (pc := 57) (n := 6) dX12_lays_57 ⟨by decide, by decide⟩ rfl ?_
  obtain ⟨p59, hp59, h⟩ := Option.bind_eq_some_iff.mp h
  refine RT.cSz (pc := 59) (M' := M_X12_shifts) (As := [(2, v54), (0, 6)]) (st := []) (r := none) (mem1 := p59) (d' := d - 1) dX12_lays_59 mw_X12_shifts ml_X12_362 mi_X12_shifts rfl rfl (Nat.le_of_ble_eq_true rfl) (Nat.le_of_ble_eq_true rfl) (by omega) rfl rfl (c_X12_shifts hz (by omega) v54 6 p50 _ hp59) ?_
  refine RT.aload_n (pc := 62) (k := 0) (x := a0) dX12_lays_62 rfl ?_
  obtain ⟨v63, hv63, h⟩ := Option.bind_eq_some_iff.mp h
  refine RT.gf 12 17 2 (pc := 63) (x := a0) (v := v63) hz dX12_lays_63 fl_X12_35 rfl hv63 ?_
  refine RT.bipush (pc := 66) (n := 6) dX12_lays_66 ⟨by decide, by decide⟩ rfl ?_
  obtain ⟨p68, hp68, h⟩ := Option.bind_eq_some_iff.mp h
  refine RT.cSz (pc := 68) (M' := M_X12_shifts) (As := [(2, v63), (0, 6)]) (st := []) (r := none) (mem1 := p68) (d' := d - 1) dX12_lays_68 mw_X12_shifts ml_X12_362 mi_X12_shifts rfl rfl (Nat.le_of_ble_eq_true rfl) (Nat.le_of_ble_eq_true rfl) (by omega) rfl rfl (c_X12_shifts hz (by omega) v63 6 p59 _ hp68) ?_
  refine RT.aload_n (pc := 71) (k := 0) (x := a0) dX12_lays_71 rfl ?_
  obtain ⟨v72, hv72, h⟩ := Option.bind_eq_some_iff.mp h
  refine RT.gf 12 18 2 (pc := 72) (x := a0) (v := v72) hz dX12_lays_72 fl_X12_38 rfl hv72 ?_
  refine RT.bipush (pc := 75) (n := 6) dX12_lays_75 ⟨by decide, by decide⟩ rfl ?_
  obtain ⟨p77, hp77, h⟩ := Option.bind_eq_some_iff.mp h
  refine RT.cSz (pc := 77) (M' := M_X12_shifts) (As := [(2, v72), (0, 6)]) (st := []) (r := none) (mem1 := p77) (d' := d - 1) dX12_lays_77 mw_X12_shifts ml_X12_362 mi_X12_shifts rfl rfl (Nat.le_of_ble_eq_true rfl) (Nat.le_of_ble_eq_true rfl) (by omega) rfl rfl (c_X12_shifts hz (by omega) v72 6 p68 _ hp77) ?_
  refine RT.aload_n (pc := 80) (k := 0) (x := a0) dX12_lays_80 rfl ?_
  obtain ⟨v81, hv81, h⟩ := Option.bind_eq_some_iff.mp h
  refine RT.gf 12 19 2 (pc := 81) (x := a0) (v := v81) hz dX12_lays_81 fl_X12_41 rfl hv81 ?_
  refine RT.bipush (pc := 84) (n := 6) dX12_lays_84 ⟨by decide, by decide⟩ rfl ?_
  obtain ⟨p86, hp86, h⟩ := Option.bind_eq_some_iff.mp h
  refine RT.cSz (pc := 86) (M' := M_X12_shifts) (As := [(2, v81), (0, 6)]) (st := []) (r := none) (mem1 := p86) (d' := d - 1) dX12_lays_86 mw_X12_shifts ml_X12_362 mi_X12_shifts rfl rfl (Nat.le_of_ble_eq_true rfl) (Nat.le_of_ble_eq_true rfl) (by omega) rfl rfl (c_X12_shifts hz (by omega) v81 6 p77 _ hp86) ?_
  refine RT.aload_n (pc := 89) (k := 0) (x := a0) dX12_lays_89 rfl ?_
  obtain ⟨v90, hv90, h⟩ := Option.bind_eq_some_iff.mp h
  refine RT.gf 12 20 2 (pc := 90) (x := a0) (v := v90) hz dX12_lays_90 fl_X12_44 rfl hv90 ?_
  refine RT.bipush (pc := 93) (n := 12) dX12_lays_93 ⟨by decide, by decide⟩ rfl ?_
  obtain ⟨p95, hp95, h⟩ := Option.bind_eq_some_iff.mp h
  refine RT.cSz (pc := 95) (M' := M_X12_shifts) (As := [(2, v90), (0, 12)]) (st := []) (r := none) (mem1 := p95) (d' := d - 1) dX12_lays_95 mw_X12_shifts ml_X12_362 mi_X12_shifts rfl rfl (Nat.le_of_ble_eq_true rfl) (Nat.le_of_ble_eq_true rfl) (by omega) rfl rfl (c_X12_shifts hz (by omega) v90 12 p86 _ hp95) ?_
  refine RT.aload_n (pc := 98) (k := 0) (x := a0) dX12_lays_98 rfl ?_
  obtain ⟨v99, hv99, h⟩ := Option.bind_eq_some_iff.mp h
  refine RT.gf 12 23 2 (pc := 99) (x := a0) (v := v99) hz dX12_lays_99 fl_X12_53 rfl hv99 ?_
  refine RT.sipush (pc := 102) (n := 1000) dX12_lays_102 ⟨by decide, by decide⟩ rfl ?_
  obtain ⟨p105, hp105, h⟩ := Option.bind_eq_some_iff.mp h
  refine RT.cSz (pc := 105) (M' := M_X12_shifts) (As := [(2, v99), (0, 1000)]) (st := []) (r := none) (mem1 := p105) (d' := d - 1) dX12_lays_105 mw_X12_shifts ml_X12_362 mi_X12_shifts rfl rfl (Nat.le_of_ble_eq_true rfl) (Nat.le_of_ble_eq_true rfl) (by omega) rfl rfl (c_X12_shifts hz (by omega) v99 1000 p95 _ hp105) ?_
  refine RT.iconst (pc := 108) (n := 0) dX12_lays_108 ⟨by decide, by decide⟩ ?_
  refine RT.istore_n (pc := 109) (k := 1) (x := 0) (L1 := [(2, a0), (0, 0)]) dX12_lays_109 (Nat.le_of_ble_eq_true rfl) rfl ?_
  obtain ⟨X110, hX110, h⟩ := Option.bind_eq_some_iff.mp h
  refine rt_it_ind (P := (fun s1 : Int × rt_M => RT G M_X12_lays d z Q 110 [(2, a0), (0, s1.1)] [] z s1.2)) (X := (fun x1 : rt_M => RT G M_X12_lays d z Q 157 [(9, 0), (9, 0)] [] z x1)) (fun s1 t1 h1 k1 k2 => cb_X12_lays_110 hz hd ht s1 t1 h1 ⟨k1, k2⟩) 4000 ((0, p105)) X110 hX110 ?_
  obtain rfl := Option.some.inj h
  exact RT.vret (pc := 157) dX12_lays_157 rfl (Nat.le_of_eq (rt_cells_0 z)) (Nat.le_of_eq (rt_slots_0 z)) hK
theorem cb_X12_copies_3 {G : rt_G} {d : Nat} {z : Nat × Nat} {Q : rt_P} (hz : 300 ≤ z.1) (hd : 0 ≤ d) (a0 : Int) (a1 : Int) (a2 : Int) (a3 : Int) (s : Int × rt_M) (t : (Int × rt_M) ⊕ (rt_M)) (h : b_X12_copies_3 a0 a1 a2 a3 s = some t) (hK : (∀ s1 : Int × rt_M, t = .inl s1 → RT G M_X12_copies d z Q 3 [(2, a0), (0, a1), (2, a2), (0, a3), (0, s1.1)] [] z s1.2) ∧ (∀ x1 : rt_M, t = .inr x1 → RT G M_X12_copies d z Q 28 [(9, 0), (9, 0), (9, 0), (9, 0), (9, 0)] [] z x1)) : RT G M_X12_copies d z Q 3 [(2, a0), (0, a1), (2, a2), (0, a3), (0, s.1)] [] z s.2 := by
  unfold b_X12_copies_3 at h
  refine RT.iload (pc := 3) (k := 4) (x := s.1) dX12_copies_3 rfl ?_
  refine RT.bipush (pc := 5) (n := 13) dX12_copies_5 ⟨by decide, by decide⟩ rfl ?_
  refine RT.icmp_ge (pc := 7) (tgt := 28) dX12_copies_7 rfl (fun q7 => ?_) (fun q7 => ?_)
  · rw [if_pos q7] at h
    refine RT.wk (L1 := [(9, 0), (9, 0), (9, 0), (9, 0), (9, 0)]) (rt_le_j (rt_le_j (rt_le_j (rt_le_j (rt_le_j rt_le_n))))) ?_
    obtain rfl := Option.some.inj h
    have q1 := hK.2 s.2 rfl
    try dsimp only at q1
    exact q1
  · rw [if_neg q7] at h
    refine RT.aload_n (pc := 10) (k := 2) (x := a2) dX12_copies_10 rfl ?_
    refine RT.iload_n (pc := 11) (k := 3) (x := a3) dX12_copies_11 rfl ?_
    refine RT.iload (pc := 12) (k := 4) (x := s.1) dX12_copies_12 rfl ?_
    refine RT.iadd (pc := 14) dX12_copies_14 ?_
    refine RT.aload_n (pc := 15) (k := 0) (x := a0) dX12_copies_15 rfl ?_
    refine RT.iload_n (pc := 16) (k := 1) (x := a1) dX12_copies_16 rfl ?_
    refine RT.iload (pc := 17) (k := 4) (x := s.1) dX12_copies_17 rfl ?_
    refine RT.iadd (pc := 19) dX12_copies_19 ?_
    obtain ⟨v20, hv20, h⟩ := Option.bind_eq_some_iff.mp h
    refine RT.iald (pc := 20) (x := a0) (i := (rt_iadd a1 s.1)) (v := v20) dX12_copies_20 (rt_lta hz (by decide) (by decide) hv20) hv20 ?_
    obtain ⟨m21, hm21, h⟩ := Option.bind_eq_some_iff.mp h
    refine RT.iast (pc := 21) (x := a2) (i := (rt_iadd a3 s.1)) (v := v20) (mem1 := m21) dX12_copies_21 (rt_lts hz (by decide) (by decide) hm21) hm21 ?_
    refine RT.iinc (pc := 22) (x := s.1) (L1 := [(2, a0), (0, a1), (2, a2), (0, a3), (0, (rt_iadd s.1 1))]) dX12_copies_22 rfl (Nat.le_of_ble_eq_true rfl) ⟨by decide, by decide⟩ rfl ?_
    refine RT.goto (pc := 25) (tgt := 3) dX12_copies_25 rfl ?_
    obtain rfl := Option.some.inj h
    have q1 := hK.1 (((rt_iadd s.1 1), m21)) rfl
    try dsimp only at q1
    exact q1
theorem c_X12_copies {G : rt_G} {d : Nat} {z : Nat × Nat} (hz : 300 ≤ z.1) (hd : 0 ≤ d) (a0 : Int) (a1 : Int) (a2 : Int) (a3 : Int) (mem0 : rt_M) (t : rt_M) (h : f_X12_copies a0 a1 a2 a3 mem0 = some t) : RM G M_X12_copies d [(2, a0), (0, a1), (2, a2), (0, a3)] z mem0 none t := by
  suffices H : ∀ Q : rt_P, Q none z t → RT G M_X12_copies d z Q 0 [(2, a0), (0, a1), (2, a2), (0, a3), (9, 0)] [] z mem0 from H _ ⟨rfl, rfl, rfl⟩
  intro Q hK
  unfold f_X12_copies at h
  refine RT.iconst (pc := 0) (n := 0) dX12_copies_0 ⟨by decide, by decide⟩ ?_
  refine RT.istore (pc := 1) (k := 4) (x := 0) (L1 := [(2, a0), (0, a1), (2, a2), (0, a3), (0, 0)]) dX12_copies_1 (Nat.le_of_ble_eq_true rfl) rfl ?_
  obtain ⟨X3, hX3, h⟩ := Option.bind_eq_some_iff.mp h
  refine rt_it_ind (P := (fun s1 : Int × rt_M => RT G M_X12_copies d z Q 3 [(2, a0), (0, a1), (2, a2), (0, a3), (0, s1.1)] [] z s1.2)) (X := (fun x1 : rt_M => RT G M_X12_copies d z Q 28 [(9, 0), (9, 0), (9, 0), (9, 0), (9, 0)] [] z x1)) (fun s1 t1 h1 k1 k2 => cb_X12_copies_3 hz hd a0 a1 a2 a3 s1 t1 h1 ⟨k1, k2⟩) 4000 ((0, mem0)) X3 hX3 ?_
  obtain rfl := Option.some.inj h
  exact RT.vret (pc := 28) dX12_copies_28 rfl (Nat.le_of_eq (rt_cells_0 z)) (Nat.le_of_eq (rt_slots_0 z)) hK
theorem cj_X12_readsLine_202 {G : rt_G} {d : Nat} {z : Nat × Nat} {Q : rt_P} (hz : 300 ≤ z.1) (hd : 3 ≤ d) {a0 : Int} (ht : rt_kd a0.toNat = 20 + 12) (mem0 : rt_M) (t : Int × rt_M) (h : j_X12_readsLine_202 a0 mem0 = some t) (hK : Q (some (0, t.1)) z t.2) : RT G M_X12_readsLine d z Q 202 [(2, a0), (9, 0), (9, 0)] [] z mem0 := by
  unfold j_X12_readsLine_202 at h
  refine RT.aload_n (pc := 202) (k := 0) (x := a0) dX12_readsLine_202 rfl ?_
  obtain ⟨v203, hv203, h⟩ := Option.bind_eq_some_iff.mp h
  refine RT.gf 12 41 2 (pc := 203) (x := a0) (v := v203) hz dX12_readsLine_203 fl_X12_93 rfl hv203 ?_
  refine RT.iconst (pc := 206) (n := 5) dX12_readsLine_206 ⟨by decide, by decide⟩ ?_
  refine RT.dup2 (pc := 207) dX12_readsLine_207 (show ¬ ((0 : Nat) = 1) by decide) (show ¬ ((2 : Nat) = 1) by decide) ?_
  obtain ⟨v208, hv208, h⟩ := Option.bind_eq_some_iff.mp h
  refine RT.iald (pc := 208) (x := v203) (i := 5) (v := v208) dX12_readsLine_208 (rt_lta hz (by decide) (by decide) hv208) hv208 ?_
  refine RT.iconst (pc := 209) (n := 1) dX12_readsLine_209 ⟨by decide, by decide⟩ ?_
  refine RT.iadd (pc := 210) dX12_readsLine_210 ?_
  obtain ⟨m211, hm211, h⟩ := Option.bind_eq_some_iff.mp h
  refine RT.iast (pc := 211) (x := v203) (i := 5) (v := (rt_iadd v208 1)) (mem1 := m211) dX12_readsLine_211 (rt_lts hz (by decide) (by decide) hm211) hm211 ?_
  refine RT.aload_n (pc := 212) (k := 0) (x := a0) dX12_readsLine_212 rfl ?_
  obtain ⟨p213, hp213, h⟩ := Option.bind_eq_some_iff.mp h
  refine RT.cVz (pc := 213) (M' := M_X12_closes) (ci := 12) (x := a0) (As := []) (st := []) (r := some (0, p213.1)) (mem1 := p213.2) (d' := d - 1) hz dX12_readsLine_213 mw_X12_closes ml_X12_334 mi_X12_closes ht rfl rfl (Nat.le_of_ble_eq_true rfl) (Nat.le_of_ble_eq_true rfl) (by omega) rfl rfl (c_X12_closes hz (by omega) a0 m211 _ ht hp213) ?_
  obtain ⟨w216, hw216, h⟩ := Option.bind_eq_some_iff.mp h
  obtain rfl := Option.some.inj h
  exact RT.zret (pc := 216) dX12_readsLine_216 rfl (rt_bz_ok hw216) (Nat.le_of_eq (rt_cells_0 z)) (Nat.le_of_eq (rt_slots_0 z)) hK
theorem cj_X12_readsLine_155 {G : rt_G} {d : Nat} {z : Nat × Nat} {Q : rt_P} (hz : 300 ≤ z.1) (hd : 3 ≤ d) {a0 : Int} (ht : rt_kd a0.toNat = 20 + 12) (a1 : Int) (a2 : Int) (mem0 : rt_M) (t : Int × rt_M) (h : j_X12_readsLine_155 a0 a1 a2 mem0 = some t) (hK : Q (some (0, t.1)) z t.2) : RT G M_X12_readsLine d z Q 155 [(2, a0), (0, a1), (0, a2)] [] z mem0 := by
  unfold j_X12_readsLine_155 at h
  refine RT.iload_n (pc := 155) (k := 1) (x := a1) dX12_readsLine_155 rfl ?_
  refine RT.if_ne (pc := 156) (tgt := 202) dX12_readsLine_156 rfl (fun q156 => ?_) (fun q156 => ?_)
  · rw [if_neg q156] at h
    refine RT.wk (L1 := [(2, a0), (9, 0), (9, 0)]) (rt_le_s (rt_le_j (rt_le_j rt_le_n))) ?_
    exact cj_X12_readsLine_202 hz hd ht mem0 _ h hK
  · rw [if_pos (Classical.not_not.mp q156)] at h
    refine RT.aload_n (pc := 159) (k := 0) (x := a0) dX12_readsLine_159 rfl ?_
    obtain ⟨p160, hp160, h⟩ := Option.bind_eq_some_iff.mp h
    refine RT.cVz (pc := 160) (M' := M_X12_isKept) (ci := 12) (x := a0) (As := []) (st := []) (r := some (0, p160)) (mem1 := mem0) (d' := d - 1) hz dX12_readsLine_160 mw_X12_isKept ml_X12_315 mi_X12_isKept ht rfl rfl (Nat.le_of_ble_eq_true rfl) (Nat.le_of_ble_eq_true rfl) (by omega) rfl rfl (c_X12_isKept hz (by omega) a0 mem0 _ ht hp160) ?_
    refine RT.if_eq (pc := 163) (tgt := 172) dX12_readsLine_163 rfl (fun q163 => ?_) (fun q163 => ?_)
    · rw [if_pos q163] at h
      refine RT.aload_n (pc := 172) (k := 0) (x := a0) dX12_readsLine_172 rfl ?_
      obtain ⟨v173, hv173, h⟩ := Option.bind_eq_some_iff.mp h
      refine RT.gf 12 44 2 (pc := 173) (x := a0) (v := v173) hz dX12_readsLine_173 fl_X12_102 rfl hv173 ?_
      refine RT.iload_n (pc := 176) (k := 2) (x := a2) dX12_readsLine_176 rfl ?_
      refine RT.aload_n (pc := 177) (k := 0) (x := a0) dX12_readsLine_177 rfl ?_
      refine RT.iconst (pc := 178) (n := 0) dX12_readsLine_178 ⟨by decide, by decide⟩ ?_
      obtain ⟨p179, hp179, h⟩ := Option.bind_eq_some_iff.mp h
      refine RT.cVz (pc := 179) (M' := M_X12_headNamed) (ci := 12) (x := a0) (As := [(0, 0)]) (st := [(0, a2), (2, v173)]) (r := some (0, p179)) (mem1 := mem0) (d' := d - 1) hz dX12_readsLine_179 mw_X12_headNamed ml_X12_322 mi_X12_headNamed ht rfl rfl (Nat.le_of_ble_eq_true rfl) (Nat.le_of_ble_eq_true rfl) (by omega) rfl rfl (c_X12_headNamed hz (by omega) a0 0 mem0 _ ht hp179) ?_
      obtain ⟨m182, hm182, h⟩ := Option.bind_eq_some_iff.mp h
      refine RT.iast (pc := 182) (x := v173) (i := a2) (v := p179) (mem1 := m182) dX12_readsLine_182 (rt_lts hz (by decide) (by decide) hm182) hm182 ?_
      refine RT.aload_n (pc := 183) (k := 0) (x := a0) dX12_readsLine_183 rfl ?_
      obtain ⟨v184, hv184, h⟩ := Option.bind_eq_some_iff.mp h
      refine RT.gf 12 44 2 (pc := 184) (x := a0) (v := v184) hz dX12_readsLine_184 fl_X12_102 rfl hv184 ?_
      refine RT.iload_n (pc := 187) (k := 2) (x := a2) dX12_readsLine_187 rfl ?_
      obtain ⟨v188, hv188, h⟩ := Option.bind_eq_some_iff.mp h
      refine RT.iald (pc := 188) (x := v184) (i := a2) (v := v188) dX12_readsLine_188 (rt_lta hz (by decide) (by decide) hv188) hv188 ?_
      refine RT.if_ge (pc := 189) (tgt := 198) dX12_readsLine_189 rfl (fun q189 => ?_) (fun q189 => ?_)
      · rw [if_pos q189] at h
        refine RT.aload_n (pc := 198) (k := 0) (x := a0) dX12_readsLine_198 rfl ?_
        obtain ⟨p199, hp199, h⟩ := Option.bind_eq_some_iff.mp h
        refine RT.cVz (pc := 199) (M' := M_X12_nextToken) (ci := 12) (x := a0) (As := []) (st := []) (r := none) (mem1 := p199) (d' := d - 1) hz dX12_readsLine_199 mw_X12_nextToken ml_X12_249 mi_X12_nextToken ht rfl rfl (Nat.le_of_ble_eq_true rfl) (Nat.le_of_ble_eq_true rfl) (by omega) rfl rfl (c_X12_nextToken hz (by omega) a0 m182 _ ht hp199) ?_
        refine RT.wk (L1 := [(2, a0), (9, 0), (9, 0)]) (rt_le_s (rt_le_j (rt_le_j rt_le_n))) ?_
        exact cj_X12_readsLine_202 hz hd ht p199 _ h hK
      · rw [if_neg q189] at h
        refine RT.aload_n (pc := 192) (k := 0) (x := a0) dX12_readsLine_192 rfl ?_
        refine RT.iconst (pc := 193) (n := 2) dX12_readsLine_193 ⟨by decide, by decide⟩ ?_
        obtain ⟨p194, hp194, h⟩ := Option.bind_eq_some_iff.mp h
        refine RT.cVz (pc := 194) (M' := M_X12_fails) (ci := 12) (x := a0) (As := [(0, 2)]) (st := []) (r := some (0, p194.1)) (mem1 := p194.2) (d' := d - 1) hz dX12_readsLine_194 mw_X12_fails ml_X12_242 mi_X12_fails ht rfl rfl (Nat.le_of_ble_eq_true rfl) (Nat.le_of_ble_eq_true rfl) (by omega) rfl rfl (c_X12_fails hz (by omega) a0 2 m182 _ ht hp194) ?_
        obtain ⟨w197, hw197, h⟩ := Option.bind_eq_some_iff.mp h
        obtain rfl := Option.some.inj h
        exact RT.zret (pc := 197) dX12_readsLine_197 rfl (rt_bz_ok hw197) (Nat.le_of_eq (rt_cells_0 z)) (Nat.le_of_eq (rt_slots_0 z)) hK
    · rw [if_neg q163] at h
      refine RT.aload_n (pc := 166) (k := 0) (x := a0) dX12_readsLine_166 rfl ?_
      refine RT.iconst (pc := 167) (n := 1) dX12_readsLine_167 ⟨by decide, by decide⟩ ?_
      obtain ⟨p168, hp168, h⟩ := Option.bind_eq_some_iff.mp h
      refine RT.cVz (pc := 168) (M' := M_X12_fails) (ci := 12) (x := a0) (As := [(0, 1)]) (st := []) (r := some (0, p168.1)) (mem1 := p168.2) (d' := d - 1) hz dX12_readsLine_168 mw_X12_fails ml_X12_242 mi_X12_fails ht rfl rfl (Nat.le_of_ble_eq_true rfl) (Nat.le_of_ble_eq_true rfl) (by omega) rfl rfl (c_X12_fails hz (by omega) a0 1 mem0 _ ht hp168) ?_
      obtain ⟨w171, hw171, h⟩ := Option.bind_eq_some_iff.mp h
      obtain rfl := Option.some.inj h
      exact RT.zret (pc := 171) dX12_readsLine_171 rfl (rt_bz_ok hw171) (Nat.le_of_eq (rt_cells_0 z)) (Nat.le_of_eq (rt_slots_0 z)) hK
theorem cj_X12_readsLine_57 {G : rt_G} {d : Nat} {z : Nat × Nat} {Q : rt_P} (hz : 300 ≤ z.1) (hd : 3 ≤ d) {a0 : Int} (ht : rt_kd a0.toNat = 20 + 12) (s0 : Int) (mem0 : rt_M) (t : Int × rt_M) (h : j_X12_readsLine_57 a0 s0 mem0 = some t) (hK : Q (some (0, t.1)) z t.2) : RT G M_X12_readsLine d z Q 57 [(2, a0), (9, 0), (9, 0)] [(0, s0)] z mem0 := by
  unfold j_X12_readsLine_57 at h
  refine RT.istore_n (pc := 57) (k := 1) (x := s0) (L1 := [(2, a0), (0, s0), (9, 0)]) dX12_readsLine_57 (Nat.le_of_ble_eq_true rfl) rfl ?_
  refine RT.iload_n (pc := 58) (k := 1) (x := s0) dX12_readsLine_58 rfl ?_
  refine RT.if_ge (pc := 59) (tgt := 68) dX12_readsLine_59 rfl (fun q59 => ?_) (fun q59 => ?_)
  · rw [if_pos q59] at h
    refine RT.aload_n (pc := 68) (k := 0) (x := a0) dX12_readsLine_68 rfl ?_
    obtain ⟨v69, hv69, h⟩ := Option.bind_eq_some_iff.mp h
    refine RT.gf 12 41 2 (pc := 69) (x := a0) (v := v69) hz dX12_readsLine_69 fl_X12_93 rfl hv69 ?_
    refine RT.iconst (pc := 72) (n := 5) dX12_readsLine_72 ⟨by decide, by decide⟩ ?_
    obtain ⟨v73, hv73, h⟩ := Option.bind_eq_some_iff.mp h
    refine RT.iald (pc := 73) (x := v69) (i := 5) (v := v73) dX12_readsLine_73 (rt_lta hz (by decide) (by decide) hv73) hv73 ?_
    refine RT.bipush (pc := 74) (n := 40) dX12_readsLine_74 ⟨by decide, by decide⟩ rfl ?_
    refine RT.icmp_ne (pc := 76) (tgt := 85) dX12_readsLine_76 rfl (fun q76 => ?_) (fun q76 => ?_)
    · rw [if_neg q76] at h
      refine RT.aload_n (pc := 85) (k := 0) (x := a0) dX12_readsLine_85 rfl ?_
      obtain ⟨p86, hp86, h⟩ := Option.bind_eq_some_iff.mp h
      refine RT.cVz (pc := 86) (M' := M_X12_nextToken) (ci := 12) (x := a0) (As := []) (st := []) (r := none) (mem1 := p86) (d' := d - 1) hz dX12_readsLine_86 mw_X12_nextToken ml_X12_249 mi_X12_nextToken ht rfl rfl (Nat.le_of_ble_eq_true rfl) (Nat.le_of_ble_eq_true rfl) (by omega) rfl rfl (c_X12_nextToken hz (by omega) a0 mem0 _ ht hp86) ?_
      refine RT.sipush (pc := 89) (n := 200) dX12_readsLine_89 ⟨by decide, by decide⟩ rfl ?_
      refine RT.aload_n (pc := 92) (k := 0) (x := a0) dX12_readsLine_92 rfl ?_
      obtain ⟨v93, hv93, h⟩ := Option.bind_eq_some_iff.mp h
      refine RT.gf 12 41 2 (pc := 93) (x := a0) (v := v93) hz dX12_readsLine_93 fl_X12_93 rfl hv93 ?_
      refine RT.iconst (pc := 96) (n := 5) dX12_readsLine_96 ⟨by decide, by decide⟩ ?_
      obtain ⟨v97, hv97, h⟩ := Option.bind_eq_some_iff.mp h
      refine RT.iald (pc := 97) (x := v93) (i := 5) (v := v97) dX12_readsLine_97 (rt_lta hz (by decide) (by decide) hv97) hv97 ?_
      refine RT.iadd (pc := 98) dX12_readsLine_98 ?_
      refine RT.istore_n (pc := 99) (k := 2) (x := (rt_iadd 200 v97)) (L1 := [(2, a0), (0, s0), (0, (rt_iadd 200 v97))]) dX12_readsLine_99 (Nat.le_of_ble_eq_true rfl) rfl ?_
      refine RT.aload_n (pc := 100) (k := 0) (x := a0) dX12_readsLine_100 rfl ?_
      obtain ⟨v101, hv101, h⟩ := Option.bind_eq_some_iff.mp h
      refine RT.gf 12 42 2 (pc := 101) (x := a0) (v := v101) hz dX12_readsLine_101 fl_X12_96 rfl hv101 ?_
      refine RT.iload_n (pc := 104) (k := 2) (x := (rt_iadd 200 v97)) dX12_readsLine_104 rfl ?_
      refine RT.iload_n (pc := 105) (k := 1) (x := s0) dX12_readsLine_105 rfl ?_
      obtain ⟨m106, hm106, h⟩ := Option.bind_eq_some_iff.mp h
      refine RT.iast (pc := 106) (x := v101) (i := (rt_iadd 200 v97)) (v := s0) (mem1 := m106) dX12_readsLine_106 (rt_lts hz (by decide) (by decide) hm106) hm106 ?_
      refine RT.iload_n (pc := 107) (k := 1) (x := s0) dX12_readsLine_107 rfl ?_
      refine RT.iconst (pc := 108) (n := 3) dX12_readsLine_108 ⟨by decide, by decide⟩ ?_
      refine RT.icmp_eq (pc := 109) (tgt := 155) dX12_readsLine_109 rfl (fun q109 => ?_) (fun q109 => ?_)
      · rw [if_pos q109] at h
        exact cj_X12_readsLine_155 hz hd ht s0 ((rt_iadd 200 v97)) m106 _ h hK
      · rw [if_neg q109] at h
        refine RT.aload_n (pc := 112) (k := 0) (x := a0) dX12_readsLine_112 rfl ?_
        obtain ⟨p113, hp113, h⟩ := Option.bind_eq_some_iff.mp h
        refine RT.cVz (pc := 113) (M' := M_X12_isKept) (ci := 12) (x := a0) (As := []) (st := []) (r := some (0, p113)) (mem1 := m106) (d' := d - 1) hz dX12_readsLine_113 mw_X12_isKept ml_X12_315 mi_X12_isKept ht rfl rfl (Nat.le_of_ble_eq_true rfl) (Nat.le_of_ble_eq_true rfl) (by omega) rfl rfl (c_X12_isKept hz (by omega) a0 m106 _ ht hp113) ?_
        refine RT.if_eq (pc := 116) (tgt := 125) dX12_readsLine_116 rfl (fun q116 => ?_) (fun q116 => ?_)
        · rw [if_pos q116] at h
          refine RT.aload_n (pc := 125) (k := 0) (x := a0) dX12_readsLine_125 rfl ?_
          obtain ⟨v126, hv126, h⟩ := Option.bind_eq_some_iff.mp h
          refine RT.gf 12 43 2 (pc := 126) (x := a0) (v := v126) hz dX12_readsLine_126 fl_X12_99 rfl hv126 ?_
          refine RT.iload_n (pc := 129) (k := 2) (x := (rt_iadd 200 v97)) dX12_readsLine_129 rfl ?_
          refine RT.aload_n (pc := 130) (k := 0) (x := a0) dX12_readsLine_130 rfl ?_
          refine RT.iconst (pc := 131) (n := 0) dX12_readsLine_131 ⟨by decide, by decide⟩ ?_
          obtain ⟨p132, hp132, h⟩ := Option.bind_eq_some_iff.mp h
          refine RT.cVz (pc := 132) (M' := M_X12_wigNamed) (ci := 12) (x := a0) (As := [(0, 0)]) (st := [(0, (rt_iadd 200 v97)), (2, v126)]) (r := some (0, p132)) (mem1 := m106) (d' := d - 1) hz dX12_readsLine_132 mw_X12_wigNamed ml_X12_319 mi_X12_wigNamed ht rfl rfl (Nat.le_of_ble_eq_true rfl) (Nat.le_of_ble_eq_true rfl) (by omega) rfl rfl (c_X12_wigNamed hz (by omega) a0 0 m106 _ ht hp132) ?_
          obtain ⟨m135, hm135, h⟩ := Option.bind_eq_some_iff.mp h
          refine RT.iast (pc := 135) (x := v126) (i := (rt_iadd 200 v97)) (v := p132) (mem1 := m135) dX12_readsLine_135 (rt_lts hz (by decide) (by decide) hm135) hm135 ?_
          refine RT.aload_n (pc := 136) (k := 0) (x := a0) dX12_readsLine_136 rfl ?_
          obtain ⟨v137, hv137, h⟩ := Option.bind_eq_some_iff.mp h
          refine RT.gf 12 43 2 (pc := 137) (x := a0) (v := v137) hz dX12_readsLine_137 fl_X12_99 rfl hv137 ?_
          refine RT.iload_n (pc := 140) (k := 2) (x := (rt_iadd 200 v97)) dX12_readsLine_140 rfl ?_
          obtain ⟨v141, hv141, h⟩ := Option.bind_eq_some_iff.mp h
          refine RT.iald (pc := 141) (x := v137) (i := (rt_iadd 200 v97)) (v := v141) dX12_readsLine_141 (rt_lta hz (by decide) (by decide) hv141) hv141 ?_
          refine RT.if_ge (pc := 142) (tgt := 151) dX12_readsLine_142 rfl (fun q142 => ?_) (fun q142 => ?_)
          · rw [if_pos q142] at h
            refine RT.aload_n (pc := 151) (k := 0) (x := a0) dX12_readsLine_151 rfl ?_
            obtain ⟨p152, hp152, h⟩ := Option.bind_eq_some_iff.mp h
            refine RT.cVz (pc := 152) (M' := M_X12_nextToken) (ci := 12) (x := a0) (As := []) (st := []) (r := none) (mem1 := p152) (d' := d - 1) hz dX12_readsLine_152 mw_X12_nextToken ml_X12_249 mi_X12_nextToken ht rfl rfl (Nat.le_of_ble_eq_true rfl) (Nat.le_of_ble_eq_true rfl) (by omega) rfl rfl (c_X12_nextToken hz (by omega) a0 m135 _ ht hp152) ?_
            exact cj_X12_readsLine_155 hz hd ht s0 ((rt_iadd 200 v97)) p152 _ h hK
          · rw [if_neg q142] at h
            refine RT.aload_n (pc := 145) (k := 0) (x := a0) dX12_readsLine_145 rfl ?_
            refine RT.iconst (pc := 146) (n := 2) dX12_readsLine_146 ⟨by decide, by decide⟩ ?_
            obtain ⟨p147, hp147, h⟩ := Option.bind_eq_some_iff.mp h
            refine RT.cVz (pc := 147) (M' := M_X12_fails) (ci := 12) (x := a0) (As := [(0, 2)]) (st := []) (r := some (0, p147.1)) (mem1 := p147.2) (d' := d - 1) hz dX12_readsLine_147 mw_X12_fails ml_X12_242 mi_X12_fails ht rfl rfl (Nat.le_of_ble_eq_true rfl) (Nat.le_of_ble_eq_true rfl) (by omega) rfl rfl (c_X12_fails hz (by omega) a0 2 m135 _ ht hp147) ?_
            obtain ⟨w150, hw150, h⟩ := Option.bind_eq_some_iff.mp h
            obtain rfl := Option.some.inj h
            exact RT.zret (pc := 150) dX12_readsLine_150 rfl (rt_bz_ok hw150) (Nat.le_of_eq (rt_cells_0 z)) (Nat.le_of_eq (rt_slots_0 z)) hK
        · rw [if_neg q116] at h
          refine RT.aload_n (pc := 119) (k := 0) (x := a0) dX12_readsLine_119 rfl ?_
          refine RT.iconst (pc := 120) (n := 1) dX12_readsLine_120 ⟨by decide, by decide⟩ ?_
          obtain ⟨p121, hp121, h⟩ := Option.bind_eq_some_iff.mp h
          refine RT.cVz (pc := 121) (M' := M_X12_fails) (ci := 12) (x := a0) (As := [(0, 1)]) (st := []) (r := some (0, p121.1)) (mem1 := p121.2) (d' := d - 1) hz dX12_readsLine_121 mw_X12_fails ml_X12_242 mi_X12_fails ht rfl rfl (Nat.le_of_ble_eq_true rfl) (Nat.le_of_ble_eq_true rfl) (by omega) rfl rfl (c_X12_fails hz (by omega) a0 1 m106 _ ht hp121) ?_
          obtain ⟨w124, hw124, h⟩ := Option.bind_eq_some_iff.mp h
          obtain rfl := Option.some.inj h
          exact RT.zret (pc := 124) dX12_readsLine_124 rfl (rt_bz_ok hw124) (Nat.le_of_eq (rt_cells_0 z)) (Nat.le_of_eq (rt_slots_0 z)) hK
    · rw [if_pos (Classical.not_not.mp q76)] at h
      refine RT.aload_n (pc := 79) (k := 0) (x := a0) dX12_readsLine_79 rfl ?_
      refine RT.iconst (pc := 80) (n := 5) dX12_readsLine_80 ⟨by decide, by decide⟩ ?_
      obtain ⟨p81, hp81, h⟩ := Option.bind_eq_some_iff.mp h
      refine RT.cVz (pc := 81) (M' := M_X12_fails) (ci := 12) (x := a0) (As := [(0, 5)]) (st := []) (r := some (0, p81.1)) (mem1 := p81.2) (d' := d - 1) hz dX12_readsLine_81 mw_X12_fails ml_X12_242 mi_X12_fails ht rfl rfl (Nat.le_of_ble_eq_true rfl) (Nat.le_of_ble_eq_true rfl) (by omega) rfl rfl (c_X12_fails hz (by omega) a0 5 mem0 _ ht hp81) ?_
      obtain ⟨w84, hw84, h⟩ := Option.bind_eq_some_iff.mp h
      obtain rfl := Option.some.inj h
      exact RT.zret (pc := 84) dX12_readsLine_84 rfl (rt_bz_ok hw84) (Nat.le_of_eq (rt_cells_0 z)) (Nat.le_of_eq (rt_slots_0 z)) hK
  · rw [if_neg q59] at h
    refine RT.aload_n (pc := 62) (k := 0) (x := a0) dX12_readsLine_62 rfl ?_
    refine RT.iconst (pc := 63) (n := 1) dX12_readsLine_63 ⟨by decide, by decide⟩ ?_
    obtain ⟨p64, hp64, h⟩ := Option.bind_eq_some_iff.mp h
    refine RT.cVz (pc := 64) (M' := M_X12_fails) (ci := 12) (x := a0) (As := [(0, 1)]) (st := []) (r := some (0, p64.1)) (mem1 := p64.2) (d' := d - 1) hz dX12_readsLine_64 mw_X12_fails ml_X12_242 mi_X12_fails ht rfl rfl (Nat.le_of_ble_eq_true rfl) (Nat.le_of_ble_eq_true rfl) (by omega) rfl rfl (c_X12_fails hz (by omega) a0 1 mem0 _ ht hp64) ?_
    obtain ⟨w67, hw67, h⟩ := Option.bind_eq_some_iff.mp h
    obtain rfl := Option.some.inj h
    exact RT.zret (pc := 67) dX12_readsLine_67 rfl (rt_bz_ok hw67) (Nat.le_of_eq (rt_cells_0 z)) (Nat.le_of_eq (rt_slots_0 z)) hK
theorem c_X12_readsLine {G : rt_G} {d : Nat} {z : Nat × Nat} (hz : 300 ≤ z.1) (hd : 3 ≤ d) (a0 : Int) (mem0 : rt_M) (t : Int × rt_M) (ht : rt_kd a0.toNat = 20 + 12) (h : f_X12_readsLine a0 mem0 = some t) : RM G M_X12_readsLine d [(2, a0)] z mem0 (some (0, t.1)) t.2 := by
  suffices H : ∀ Q : rt_P, Q (some (0, t.1)) z t.2 → RT G M_X12_readsLine d z Q 0 [(2, a0), (9, 0), (9, 0)] [] z mem0 from H _ ⟨rfl, rfl, rfl⟩
  intro Q hK
  unfold f_X12_readsLine at h
  refine RT.aload_n (pc := 0) (k := 0) (x := a0) dX12_readsLine_0 rfl ?_
  refine RT.ldc2 (pc := 1) (v := 12251) dX12_readsLine_1 kl_X12_285 ⟨by decide, by decide⟩ ?_
  obtain ⟨p4, hp4, h⟩ := Option.bind_eq_some_iff.mp h
  refine RT.cVz (pc := 4) (M' := M_X12_isWord) (ci := 12) (x := a0) (As := [(1, 12251)]) (st := []) (r := some (0, p4)) (mem1 := mem0) (d' := d - 1) hz dX12_readsLine_4 mw_X12_isWord ml_X12_234 mi_X12_isWord ht rfl rfl (Nat.le_of_ble_eq_true rfl) (Nat.le_of_ble_eq_true rfl) (by omega) rfl rfl (c_X12_isWord hz (by omega) a0 12251 mem0 _ ht hp4) ?_
  refine RT.if_eq (pc := 7) (tgt := 14) dX12_readsLine_7 rfl (fun q7 => ?_) (fun q7 => ?_)
  · rw [if_pos q7] at h
    refine RT.aload_n (pc := 14) (k := 0) (x := a0) dX12_readsLine_14 rfl ?_
    refine RT.ldc2 (pc := 15) (v := 11103) dX12_readsLine_15 kl_X12_287 ⟨by decide, by decide⟩ ?_
    obtain ⟨p18, hp18, h⟩ := Option.bind_eq_some_iff.mp h
    refine RT.cVz (pc := 18) (M' := M_X12_isWord) (ci := 12) (x := a0) (As := [(1, 11103)]) (st := []) (r := some (0, p18)) (mem1 := mem0) (d' := d - 1) hz dX12_readsLine_18 mw_X12_isWord ml_X12_234 mi_X12_isWord ht rfl rfl (Nat.le_of_ble_eq_true rfl) (Nat.le_of_ble_eq_true rfl) (by omega) rfl rfl (c_X12_isWord hz (by omega) a0 11103 mem0 _ ht hp18) ?_
    refine RT.if_eq (pc := 21) (tgt := 28) dX12_readsLine_21 rfl (fun q21 => ?_) (fun q21 => ?_)
    · rw [if_pos q21] at h
      refine RT.aload_n (pc := 28) (k := 0) (x := a0) dX12_readsLine_28 rfl ?_
      refine RT.ldc2 (pc := 29) (v := 259906) dX12_readsLine_29 kl_X12_289 ⟨by decide, by decide⟩ ?_
      obtain ⟨p32, hp32, h⟩ := Option.bind_eq_some_iff.mp h
      refine RT.cVz (pc := 32) (M' := M_X12_isWord) (ci := 12) (x := a0) (As := [(1, 259906)]) (st := []) (r := some (0, p32)) (mem1 := mem0) (d' := d - 1) hz dX12_readsLine_32 mw_X12_isWord ml_X12_234 mi_X12_isWord ht rfl rfl (Nat.le_of_ble_eq_true rfl) (Nat.le_of_ble_eq_true rfl) (by omega) rfl rfl (c_X12_isWord hz (by omega) a0 259906 mem0 _ ht hp32) ?_
      refine RT.if_eq (pc := 35) (tgt := 42) dX12_readsLine_35 rfl (fun q35 => ?_) (fun q35 => ?_)
      · rw [if_pos q35] at h
        refine RT.aload_n (pc := 42) (k := 0) (x := a0) dX12_readsLine_42 rfl ?_
        refine RT.ldc2 (pc := 43) (v := 275320391) dX12_readsLine_43 kl_X12_291 ⟨by decide, by decide⟩ ?_
        obtain ⟨p46, hp46, h⟩ := Option.bind_eq_some_iff.mp h
        refine RT.cVz (pc := 46) (M' := M_X12_isWord) (ci := 12) (x := a0) (As := [(1, 275320391)]) (st := []) (r := some (0, p46)) (mem1 := mem0) (d' := d - 1) hz dX12_readsLine_46 mw_X12_isWord ml_X12_234 mi_X12_isWord ht rfl rfl (Nat.le_of_ble_eq_true rfl) (Nat.le_of_ble_eq_true rfl) (by omega) rfl rfl (c_X12_isWord hz (by omega) a0 275320391 mem0 _ ht hp46) ?_
        refine RT.if_eq (pc := 49) (tgt := 56) dX12_readsLine_49 rfl (fun q49 => ?_) (fun q49 => ?_)
        · rw [if_pos q49] at h
          refine RT.iconst (pc := 56) (n := (-1)) dX12_readsLine_56 ⟨by decide, by decide⟩ ?_
          exact cj_X12_readsLine_57 hz hd ht ((-1)) mem0 _ h hK
        · rw [if_neg q49] at h
          refine RT.iconst (pc := 52) (n := 3) dX12_readsLine_52 ⟨by decide, by decide⟩ ?_
          refine RT.goto (pc := 53) (tgt := 57) dX12_readsLine_53 rfl ?_
          exact cj_X12_readsLine_57 hz hd ht 3 mem0 _ h hK
      · rw [if_neg q35] at h
        refine RT.iconst (pc := 38) (n := 2) dX12_readsLine_38 ⟨by decide, by decide⟩ ?_
        refine RT.goto (pc := 39) (tgt := 57) dX12_readsLine_39 rfl ?_
        exact cj_X12_readsLine_57 hz hd ht 2 mem0 _ h hK
    · rw [if_neg q21] at h
      refine RT.iconst (pc := 24) (n := 1) dX12_readsLine_24 ⟨by decide, by decide⟩ ?_
      refine RT.goto (pc := 25) (tgt := 57) dX12_readsLine_25 rfl ?_
      exact cj_X12_readsLine_57 hz hd ht 1 mem0 _ h hK
  · rw [if_neg q7] at h
    refine RT.iconst (pc := 10) (n := 0) dX12_readsLine_10 ⟨by decide, by decide⟩ ?_
    refine RT.goto (pc := 11) (tgt := 57) dX12_readsLine_11 rfl ?_
    exact cj_X12_readsLine_57 hz hd ht 0 mem0 _ h hK
theorem cb_X12_laysLines_14 {G : rt_G} {d : Nat} {z : Nat × Nat} {Q : rt_P} (hz : 300 ≤ z.1) (hd : 0 ≤ d) {a0 : Int} (ht : rt_kd a0.toNat = 20 + 12) (a1 : Int) (a2 : Int) (s : Int × rt_M) (t : (Int × rt_M) ⊕ (rt_M)) (h : b_X12_laysLines_14 a0 a1 a2 s = some t) (hK : (∀ s1 : Int × rt_M, t = .inl s1 → RT G M_X12_laysLines d z Q 14 [(2, a0), (0, a1), (0, a2), (0, s1.1)] [] z s1.2) ∧ (∀ x1 : rt_M, t = .inr x1 → RT G M_X12_laysLines d z Q 92 [(9, 0), (9, 0), (9, 0), (9, 0)] [] z x1)) : RT G M_X12_laysLines d z Q 14 [(2, a0), (0, a1), (0, a2), (0, s.1)] [] z s.2 := by
  unfold b_X12_laysLines_14 at h
  refine RT.iload_n (pc := 14) (k := 3) (x := s.1) dX12_laysLines_14 rfl ?_
  refine RT.bipush (pc := 15) (n := 40) dX12_laysLines_15 ⟨by decide, by decide⟩ rfl ?_
  refine RT.icmp_ge (pc := 17) (tgt := 92) dX12_laysLines_17 rfl (fun q17 => ?_) (fun q17 => ?_)
  · rw [if_pos q17] at h
    refine RT.wk (L1 := [(9, 0), (9, 0), (9, 0), (9, 0)]) (rt_le_j (rt_le_j (rt_le_j (rt_le_j rt_le_n)))) ?_
    obtain rfl := Option.some.inj h
    have q1 := hK.2 s.2 rfl
    try dsimp only at q1
    exact q1
  · rw [if_neg q17] at h
    refine RT.aload_n (pc := 20) (k := 0) (x := a0) dX12_laysLines_20 rfl ?_
    obtain ⟨v21, hv21, h⟩ := Option.bind_eq_some_iff.mp h
    refine RT.gf 12 42 2 (pc := 21) (x := a0) (v := v21) hz dX12_laysLines_21 fl_X12_96 rfl hv21 ?_
    refine RT.bipush (pc := 24) (n := 40) dX12_laysLines_24 ⟨by decide, by decide⟩ rfl ?_
    refine RT.iload_n (pc := 26) (k := 2) (x := a2) dX12_laysLines_26 rfl ?_
    refine RT.imul (pc := 27) dX12_laysLines_27 ?_
    refine RT.iload_n (pc := 28) (k := 3) (x := s.1) dX12_laysLines_28 rfl ?_
    refine RT.iadd (pc := 29) dX12_laysLines_29 ?_
    refine RT.aload_n (pc := 30) (k := 0) (x := a0) dX12_laysLines_30 rfl ?_
    obtain ⟨v31, hv31, h⟩ := Option.bind_eq_some_iff.mp h
    refine RT.gf 12 42 2 (pc := 31) (x := a0) (v := v31) hz dX12_laysLines_31 fl_X12_96 rfl hv31 ?_
    refine RT.bipush (pc := 34) (n := 40) dX12_laysLines_34 ⟨by decide, by decide⟩ rfl ?_
    refine RT.iload_n (pc := 36) (k := 1) (x := a1) dX12_laysLines_36 rfl ?_
    refine RT.imul (pc := 37) dX12_laysLines_37 ?_
    refine RT.iload_n (pc := 38) (k := 3) (x := s.1) dX12_laysLines_38 rfl ?_
    refine RT.iadd (pc := 39) dX12_laysLines_39 ?_
    obtain ⟨v40, hv40, h⟩ := Option.bind_eq_some_iff.mp h
    refine RT.iald (pc := 40) (x := v31) (i := (rt_iadd (rt_imul 40 a1) s.1)) (v := v40) dX12_laysLines_40 (rt_lta hz (by decide) (by decide) hv40) hv40 ?_
    obtain ⟨m41, hm41, h⟩ := Option.bind_eq_some_iff.mp h
    refine RT.iast (pc := 41) (x := v21) (i := (rt_iadd (rt_imul 40 a2) s.1)) (v := v40) (mem1 := m41) dX12_laysLines_41 (rt_lts hz (by decide) (by decide) hm41) hm41 ?_
    refine RT.aload_n (pc := 42) (k := 0) (x := a0) dX12_laysLines_42 rfl ?_
    obtain ⟨v43, hv43, h⟩ := Option.bind_eq_some_iff.mp h
    refine RT.gf 12 43 2 (pc := 43) (x := a0) (v := v43) hz dX12_laysLines_43 fl_X12_99 rfl hv43 ?_
    refine RT.bipush (pc := 46) (n := 40) dX12_laysLines_46 ⟨by decide, by decide⟩ rfl ?_
    refine RT.iload_n (pc := 48) (k := 2) (x := a2) dX12_laysLines_48 rfl ?_
    refine RT.imul (pc := 49) dX12_laysLines_49 ?_
    refine RT.iload_n (pc := 50) (k := 3) (x := s.1) dX12_laysLines_50 rfl ?_
    refine RT.iadd (pc := 51) dX12_laysLines_51 ?_
    refine RT.aload_n (pc := 52) (k := 0) (x := a0) dX12_laysLines_52 rfl ?_
    obtain ⟨v53, hv53, h⟩ := Option.bind_eq_some_iff.mp h
    refine RT.gf 12 43 2 (pc := 53) (x := a0) (v := v53) hz dX12_laysLines_53 fl_X12_99 rfl hv53 ?_
    refine RT.bipush (pc := 56) (n := 40) dX12_laysLines_56 ⟨by decide, by decide⟩ rfl ?_
    refine RT.iload_n (pc := 58) (k := 1) (x := a1) dX12_laysLines_58 rfl ?_
    refine RT.imul (pc := 59) dX12_laysLines_59 ?_
    refine RT.iload_n (pc := 60) (k := 3) (x := s.1) dX12_laysLines_60 rfl ?_
    refine RT.iadd (pc := 61) dX12_laysLines_61 ?_
    obtain ⟨v62, hv62, h⟩ := Option.bind_eq_some_iff.mp h
    refine RT.iald (pc := 62) (x := v53) (i := (rt_iadd (rt_imul 40 a1) s.1)) (v := v62) dX12_laysLines_62 (rt_lta hz (by decide) (by decide) hv62) hv62 ?_
    obtain ⟨m63, hm63, h⟩ := Option.bind_eq_some_iff.mp h
    refine RT.iast (pc := 63) (x := v43) (i := (rt_iadd (rt_imul 40 a2) s.1)) (v := v62) (mem1 := m63) dX12_laysLines_63 (rt_lts hz (by decide) (by decide) hm63) hm63 ?_
    refine RT.aload_n (pc := 64) (k := 0) (x := a0) dX12_laysLines_64 rfl ?_
    obtain ⟨v65, hv65, h⟩ := Option.bind_eq_some_iff.mp h
    refine RT.gf 12 44 2 (pc := 65) (x := a0) (v := v65) hz dX12_laysLines_65 fl_X12_102 rfl hv65 ?_
    refine RT.bipush (pc := 68) (n := 40) dX12_laysLines_68 ⟨by decide, by decide⟩ rfl ?_
    refine RT.iload_n (pc := 70) (k := 2) (x := a2) dX12_laysLines_70 rfl ?_
    refine RT.imul (pc := 71) dX12_laysLines_71 ?_
    refine RT.iload_n (pc := 72) (k := 3) (x := s.1) dX12_laysLines_72 rfl ?_
    refine RT.iadd (pc := 73) dX12_laysLines_73 ?_
    refine RT.aload_n (pc := 74) (k := 0) (x := a0) dX12_laysLines_74 rfl ?_
    obtain ⟨v75, hv75, h⟩ := Option.bind_eq_some_iff.mp h
    refine RT.gf 12 44 2 (pc := 75) (x := a0) (v := v75) hz dX12_laysLines_75 fl_X12_102 rfl hv75 ?_
    refine RT.bipush (pc := 78) (n := 40) dX12_laysLines_78 ⟨by decide, by decide⟩ rfl ?_
    refine RT.iload_n (pc := 80) (k := 1) (x := a1) dX12_laysLines_80 rfl ?_
    refine RT.imul (pc := 81) dX12_laysLines_81 ?_
    refine RT.iload_n (pc := 82) (k := 3) (x := s.1) dX12_laysLines_82 rfl ?_
    refine RT.iadd (pc := 83) dX12_laysLines_83 ?_
    obtain ⟨v84, hv84, h⟩ := Option.bind_eq_some_iff.mp h
    refine RT.iald (pc := 84) (x := v75) (i := (rt_iadd (rt_imul 40 a1) s.1)) (v := v84) dX12_laysLines_84 (rt_lta hz (by decide) (by decide) hv84) hv84 ?_
    obtain ⟨m85, hm85, h⟩ := Option.bind_eq_some_iff.mp h
    refine RT.iast (pc := 85) (x := v65) (i := (rt_iadd (rt_imul 40 a2) s.1)) (v := v84) (mem1 := m85) dX12_laysLines_85 (rt_lts hz (by decide) (by decide) hm85) hm85 ?_
    refine RT.iinc (pc := 86) (x := s.1) (L1 := [(2, a0), (0, a1), (0, a2), (0, (rt_iadd s.1 1))]) dX12_laysLines_86 rfl (Nat.le_of_ble_eq_true rfl) ⟨by decide, by decide⟩ rfl ?_
    refine RT.goto (pc := 89) (tgt := 14) dX12_laysLines_89 rfl ?_
    obtain rfl := Option.some.inj h
    have q1 := hK.1 (((rt_iadd s.1 1), m85)) rfl
    try dsimp only at q1
    exact q1
theorem c_X12_laysLines {G : rt_G} {d : Nat} {z : Nat × Nat} (hz : 300 ≤ z.1) (hd : 0 ≤ d) (a0 : Int) (a1 : Int) (a2 : Int) (mem0 : rt_M) (t : rt_M) (ht : rt_kd a0.toNat = 20 + 12) (h : f_X12_laysLines a0 a1 a2 mem0 = some t) : RM G M_X12_laysLines d [(2, a0), (0, a1), (0, a2)] z mem0 none t := by
  suffices H : ∀ Q : rt_P, Q none z t → RT G M_X12_laysLines d z Q 0 [(2, a0), (0, a1), (0, a2), (9, 0)] [] z mem0 from H _ ⟨rfl, rfl, rfl⟩
  intro Q hK
  unfold f_X12_laysLines at h
  refine RT.aload_n (pc := 0) (k := 0) (x := a0) dX12_laysLines_0 rfl ?_
  obtain ⟨v1, hv1, h⟩ := Option.bind_eq_some_iff.mp h
  refine RT.gf 12 41 2 (pc := 1) (x := a0) (v := v1) hz dX12_laysLines_1 fl_X12_93 rfl hv1 ?_
  refine RT.iload_n (pc := 4) (k := 2) (x := a2) dX12_laysLines_4 rfl ?_
  refine RT.aload_n (pc := 5) (k := 0) (x := a0) dX12_laysLines_5 rfl ?_
  obtain ⟨v6, hv6, h⟩ := Option.bind_eq_some_iff.mp h
  refine RT.gf 12 41 2 (pc := 6) (x := a0) (v := v6) hz dX12_laysLines_6 fl_X12_93 rfl hv6 ?_
  refine RT.iload_n (pc := 9) (k := 1) (x := a1) dX12_laysLines_9 rfl ?_
  obtain ⟨v10, hv10, h⟩ := Option.bind_eq_some_iff.mp h
  refine RT.iald (pc := 10) (x := v6) (i := a1) (v := v10) dX12_laysLines_10 (rt_lta hz (by decide) (by decide) hv10) hv10 ?_
  obtain ⟨m11, hm11, h⟩ := Option.bind_eq_some_iff.mp h
  refine RT.iast (pc := 11) (x := v1) (i := a2) (v := v10) (mem1 := m11) dX12_laysLines_11 (rt_lts hz (by decide) (by decide) hm11) hm11 ?_
  refine RT.iconst (pc := 12) (n := 0) dX12_laysLines_12 ⟨by decide, by decide⟩ ?_
  refine RT.istore_n (pc := 13) (k := 3) (x := 0) (L1 := [(2, a0), (0, a1), (0, a2), (0, 0)]) dX12_laysLines_13 (Nat.le_of_ble_eq_true rfl) rfl ?_
  obtain ⟨X14, hX14, h⟩ := Option.bind_eq_some_iff.mp h
  refine rt_it_ind (P := (fun s1 : Int × rt_M => RT G M_X12_laysLines d z Q 14 [(2, a0), (0, a1), (0, a2), (0, s1.1)] [] z s1.2)) (X := (fun x1 : rt_M => RT G M_X12_laysLines d z Q 92 [(9, 0), (9, 0), (9, 0), (9, 0)] [] z x1)) (fun s1 t1 h1 k1 k2 => cb_X12_laysLines_14 hz hd ht a1 a2 s1 t1 h1 ⟨k1, k2⟩) 4000 ((0, m11)) X14 hX14 ?_
  obtain rfl := Option.some.inj h
  exact RT.vret (pc := 92) dX12_laysLines_92 rfl (Nat.le_of_eq (rt_cells_0 z)) (Nat.le_of_eq (rt_slots_0 z)) hK
theorem cb_X12_laysSaid_14 {G : rt_G} {d : Nat} {z : Nat × Nat} {Q : rt_P} (hz : 300 ≤ z.1) (hd : 0 ≤ d) {a0 : Int} (ht : rt_kd a0.toNat = 20 + 12) (a1 : Int) (a2 : Int) (s : Int × rt_M) (t : (Int × rt_M) ⊕ (rt_M)) (h : b_X12_laysSaid_14 a0 a1 a2 s = some t) (hK : (∀ s1 : Int × rt_M, t = .inl s1 → RT G M_X12_laysSaid d z Q 14 [(2, a0), (0, a1), (0, a2), (0, s1.1)] [] z s1.2) ∧ (∀ x1 : rt_M, t = .inr x1 → RT G M_X12_laysSaid d z Q 92 [(2, a0), (0, a1), (0, a2), (9, 0)] [] z x1)) : RT G M_X12_laysSaid d z Q 14 [(2, a0), (0, a1), (0, a2), (0, s.1)] [] z s.2 := by
  unfold b_X12_laysSaid_14 at h
  refine RT.iload_n (pc := 14) (k := 3) (x := s.1) dX12_laysSaid_14 rfl ?_
  refine RT.bipush (pc := 15) (n := 8) dX12_laysSaid_15 ⟨by decide, by decide⟩ rfl ?_
  refine RT.icmp_ge (pc := 17) (tgt := 92) dX12_laysSaid_17 rfl (fun q17 => ?_) (fun q17 => ?_)
  · rw [if_pos q17] at h
    refine RT.wk (L1 := [(2, a0), (0, a1), (0, a2), (9, 0)]) (rt_le_s (rt_le_s (rt_le_s (rt_le_j rt_le_n)))) ?_
    obtain rfl := Option.some.inj h
    have q1 := hK.2 s.2 rfl
    try dsimp only at q1
    exact q1
  · rw [if_neg q17] at h
    refine RT.aload_n (pc := 20) (k := 0) (x := a0) dX12_laysSaid_20 rfl ?_
    obtain ⟨v21, hv21, h⟩ := Option.bind_eq_some_iff.mp h
    refine RT.gf 12 46 2 (pc := 21) (x := a0) (v := v21) hz dX12_laysSaid_21 fl_X12_108 rfl hv21 ?_
    refine RT.bipush (pc := 24) (n := 8) dX12_laysSaid_24 ⟨by decide, by decide⟩ rfl ?_
    refine RT.iload_n (pc := 26) (k := 2) (x := a2) dX12_laysSaid_26 rfl ?_
    refine RT.imul (pc := 27) dX12_laysSaid_27 ?_
    refine RT.iload_n (pc := 28) (k := 3) (x := s.1) dX12_laysSaid_28 rfl ?_
    refine RT.iadd (pc := 29) dX12_laysSaid_29 ?_
    refine RT.aload_n (pc := 30) (k := 0) (x := a0) dX12_laysSaid_30 rfl ?_
    obtain ⟨v31, hv31, h⟩ := Option.bind_eq_some_iff.mp h
    refine RT.gf 12 46 2 (pc := 31) (x := a0) (v := v31) hz dX12_laysSaid_31 fl_X12_108 rfl hv31 ?_
    refine RT.bipush (pc := 34) (n := 8) dX12_laysSaid_34 ⟨by decide, by decide⟩ rfl ?_
    refine RT.iload_n (pc := 36) (k := 1) (x := a1) dX12_laysSaid_36 rfl ?_
    refine RT.imul (pc := 37) dX12_laysSaid_37 ?_
    refine RT.iload_n (pc := 38) (k := 3) (x := s.1) dX12_laysSaid_38 rfl ?_
    refine RT.iadd (pc := 39) dX12_laysSaid_39 ?_
    obtain ⟨v40, hv40, h⟩ := Option.bind_eq_some_iff.mp h
    refine RT.iald (pc := 40) (x := v31) (i := (rt_iadd (rt_imul 8 a1) s.1)) (v := v40) dX12_laysSaid_40 (rt_lta hz (by decide) (by decide) hv40) hv40 ?_
    obtain ⟨m41, hm41, h⟩ := Option.bind_eq_some_iff.mp h
    refine RT.iast (pc := 41) (x := v21) (i := (rt_iadd (rt_imul 8 a2) s.1)) (v := v40) (mem1 := m41) dX12_laysSaid_41 (rt_lts hz (by decide) (by decide) hm41) hm41 ?_
    refine RT.aload_n (pc := 42) (k := 0) (x := a0) dX12_laysSaid_42 rfl ?_
    obtain ⟨v43, hv43, h⟩ := Option.bind_eq_some_iff.mp h
    refine RT.gf 12 47 2 (pc := 43) (x := a0) (v := v43) hz dX12_laysSaid_43 fl_X12_111 rfl hv43 ?_
    refine RT.bipush (pc := 46) (n := 8) dX12_laysSaid_46 ⟨by decide, by decide⟩ rfl ?_
    refine RT.iload_n (pc := 48) (k := 2) (x := a2) dX12_laysSaid_48 rfl ?_
    refine RT.imul (pc := 49) dX12_laysSaid_49 ?_
    refine RT.iload_n (pc := 50) (k := 3) (x := s.1) dX12_laysSaid_50 rfl ?_
    refine RT.iadd (pc := 51) dX12_laysSaid_51 ?_
    refine RT.aload_n (pc := 52) (k := 0) (x := a0) dX12_laysSaid_52 rfl ?_
    obtain ⟨v53, hv53, h⟩ := Option.bind_eq_some_iff.mp h
    refine RT.gf 12 47 2 (pc := 53) (x := a0) (v := v53) hz dX12_laysSaid_53 fl_X12_111 rfl hv53 ?_
    refine RT.bipush (pc := 56) (n := 8) dX12_laysSaid_56 ⟨by decide, by decide⟩ rfl ?_
    refine RT.iload_n (pc := 58) (k := 1) (x := a1) dX12_laysSaid_58 rfl ?_
    refine RT.imul (pc := 59) dX12_laysSaid_59 ?_
    refine RT.iload_n (pc := 60) (k := 3) (x := s.1) dX12_laysSaid_60 rfl ?_
    refine RT.iadd (pc := 61) dX12_laysSaid_61 ?_
    obtain ⟨v62, hv62, h⟩ := Option.bind_eq_some_iff.mp h
    refine RT.iald (pc := 62) (x := v53) (i := (rt_iadd (rt_imul 8 a1) s.1)) (v := v62) dX12_laysSaid_62 (rt_lta hz (by decide) (by decide) hv62) hv62 ?_
    obtain ⟨m63, hm63, h⟩ := Option.bind_eq_some_iff.mp h
    refine RT.iast (pc := 63) (x := v43) (i := (rt_iadd (rt_imul 8 a2) s.1)) (v := v62) (mem1 := m63) dX12_laysSaid_63 (rt_lts hz (by decide) (by decide) hm63) hm63 ?_
    refine RT.aload_n (pc := 64) (k := 0) (x := a0) dX12_laysSaid_64 rfl ?_
    obtain ⟨v65, hv65, h⟩ := Option.bind_eq_some_iff.mp h
    refine RT.gf 12 48 2 (pc := 65) (x := a0) (v := v65) hz dX12_laysSaid_65 fl_X12_114 rfl hv65 ?_
    refine RT.bipush (pc := 68) (n := 8) dX12_laysSaid_68 ⟨by decide, by decide⟩ rfl ?_
    refine RT.iload_n (pc := 70) (k := 2) (x := a2) dX12_laysSaid_70 rfl ?_
    refine RT.imul (pc := 71) dX12_laysSaid_71 ?_
    refine RT.iload_n (pc := 72) (k := 3) (x := s.1) dX12_laysSaid_72 rfl ?_
    refine RT.iadd (pc := 73) dX12_laysSaid_73 ?_
    refine RT.aload_n (pc := 74) (k := 0) (x := a0) dX12_laysSaid_74 rfl ?_
    obtain ⟨v75, hv75, h⟩ := Option.bind_eq_some_iff.mp h
    refine RT.gf 12 48 2 (pc := 75) (x := a0) (v := v75) hz dX12_laysSaid_75 fl_X12_114 rfl hv75 ?_
    refine RT.bipush (pc := 78) (n := 8) dX12_laysSaid_78 ⟨by decide, by decide⟩ rfl ?_
    refine RT.iload_n (pc := 80) (k := 1) (x := a1) dX12_laysSaid_80 rfl ?_
    refine RT.imul (pc := 81) dX12_laysSaid_81 ?_
    refine RT.iload_n (pc := 82) (k := 3) (x := s.1) dX12_laysSaid_82 rfl ?_
    refine RT.iadd (pc := 83) dX12_laysSaid_83 ?_
    obtain ⟨v84, hv84, h⟩ := Option.bind_eq_some_iff.mp h
    refine RT.zald (pc := 84) (x := v75) (i := (rt_iadd (rt_imul 8 a1) s.1)) (v := v84) dX12_laysSaid_84 (rt_lta hz (by decide) (by decide) hv84) hv84 ?_
    obtain ⟨w85, hw85, h⟩ := Option.bind_eq_some_iff.mp h
    obtain ⟨m85, hm85, h⟩ := Option.bind_eq_some_iff.mp h
    refine RT.zast (pc := 85) (x := v65) (i := (rt_iadd (rt_imul 8 a2) s.1)) (v := v84) (mem1 := m85) dX12_laysSaid_85 (rt_bz_ok hw85) (rt_lts hz (by decide) (by decide) hm85) hm85 ?_
    refine RT.iinc (pc := 86) (x := s.1) (L1 := [(2, a0), (0, a1), (0, a2), (0, (rt_iadd s.1 1))]) dX12_laysSaid_86 rfl (Nat.le_of_ble_eq_true rfl) ⟨by decide, by decide⟩ rfl ?_
    refine RT.goto (pc := 89) (tgt := 14) dX12_laysSaid_89 rfl ?_
    obtain rfl := Option.some.inj h
    have q1 := hK.1 (((rt_iadd s.1 1), m85)) rfl
    try dsimp only at q1
    exact q1
theorem cb_X12_laysSaid_94 {G : rt_G} {d : Nat} {z : Nat × Nat} {Q : rt_P} (hz : 300 ≤ z.1) (hd : 0 ≤ d) {a0 : Int} (ht : rt_kd a0.toNat = 20 + 12) (a1 : Int) (a2 : Int) (s : Int × rt_M) (t : (Int × rt_M) ⊕ (rt_M)) (h : b_X12_laysSaid_94 a0 a1 a2 s = some t) (hK : (∀ s1 : Int × rt_M, t = .inl s1 → RT G M_X12_laysSaid d z Q 94 [(2, a0), (0, a1), (0, a2), (0, s1.1)] [] z s1.2) ∧ (∀ x1 : rt_M, t = .inr x1 → RT G M_X12_laysSaid d z Q 128 [(9, 0), (9, 0), (9, 0), (9, 0)] [] z x1)) : RT G M_X12_laysSaid d z Q 94 [(2, a0), (0, a1), (0, a2), (0, s.1)] [] z s.2 := by
  unfold b_X12_laysSaid_94 at h
  refine RT.iload_n (pc := 94) (k := 3) (x := s.1) dX12_laysSaid_94 rfl ?_
  refine RT.bipush (pc := 95) (n := 6) dX12_laysSaid_95 ⟨by decide, by decide⟩ rfl ?_
  refine RT.icmp_ge (pc := 97) (tgt := 128) dX12_laysSaid_97 rfl (fun q97 => ?_) (fun q97 => ?_)
  · rw [if_pos q97] at h
    refine RT.wk (L1 := [(9, 0), (9, 0), (9, 0), (9, 0)]) (rt_le_j (rt_le_j (rt_le_j (rt_le_j rt_le_n)))) ?_
    obtain rfl := Option.some.inj h
    have q1 := hK.2 s.2 rfl
    try dsimp only at q1
    exact q1
  · rw [if_neg q97] at h
    refine RT.aload_n (pc := 100) (k := 0) (x := a0) dX12_laysSaid_100 rfl ?_
    obtain ⟨v101, hv101, h⟩ := Option.bind_eq_some_iff.mp h
    refine RT.gf 12 49 2 (pc := 101) (x := a0) (v := v101) hz dX12_laysSaid_101 fl_X12_117 rfl hv101 ?_
    refine RT.bipush (pc := 104) (n := 6) dX12_laysSaid_104 ⟨by decide, by decide⟩ rfl ?_
    refine RT.iload_n (pc := 106) (k := 2) (x := a2) dX12_laysSaid_106 rfl ?_
    refine RT.imul (pc := 107) dX12_laysSaid_107 ?_
    refine RT.iload_n (pc := 108) (k := 3) (x := s.1) dX12_laysSaid_108 rfl ?_
    refine RT.iadd (pc := 109) dX12_laysSaid_109 ?_
    refine RT.aload_n (pc := 110) (k := 0) (x := a0) dX12_laysSaid_110 rfl ?_
    obtain ⟨v111, hv111, h⟩ := Option.bind_eq_some_iff.mp h
    refine RT.gf 12 49 2 (pc := 111) (x := a0) (v := v111) hz dX12_laysSaid_111 fl_X12_117 rfl hv111 ?_
    refine RT.bipush (pc := 114) (n := 6) dX12_laysSaid_114 ⟨by decide, by decide⟩ rfl ?_
    refine RT.iload_n (pc := 116) (k := 1) (x := a1) dX12_laysSaid_116 rfl ?_
    refine RT.imul (pc := 117) dX12_laysSaid_117 ?_
    refine RT.iload_n (pc := 118) (k := 3) (x := s.1) dX12_laysSaid_118 rfl ?_
    refine RT.iadd (pc := 119) dX12_laysSaid_119 ?_
    obtain ⟨v120, hv120, h⟩ := Option.bind_eq_some_iff.mp h
    refine RT.iald (pc := 120) (x := v111) (i := (rt_iadd (rt_imul 6 a1) s.1)) (v := v120) dX12_laysSaid_120 (rt_lta hz (by decide) (by decide) hv120) hv120 ?_
    obtain ⟨m121, hm121, h⟩ := Option.bind_eq_some_iff.mp h
    refine RT.iast (pc := 121) (x := v101) (i := (rt_iadd (rt_imul 6 a2) s.1)) (v := v120) (mem1 := m121) dX12_laysSaid_121 (rt_lts hz (by decide) (by decide) hm121) hm121 ?_
    refine RT.iinc (pc := 122) (x := s.1) (L1 := [(2, a0), (0, a1), (0, a2), (0, (rt_iadd s.1 1))]) dX12_laysSaid_122 rfl (Nat.le_of_ble_eq_true rfl) ⟨by decide, by decide⟩ rfl ?_
    refine RT.goto (pc := 125) (tgt := 94) dX12_laysSaid_125 rfl ?_
    obtain rfl := Option.some.inj h
    have q1 := hK.1 (((rt_iadd s.1 1), m121)) rfl
    try dsimp only at q1
    exact q1
theorem c_X12_laysSaid {G : rt_G} {d : Nat} {z : Nat × Nat} (hz : 300 ≤ z.1) (hd : 0 ≤ d) (a0 : Int) (a1 : Int) (a2 : Int) (mem0 : rt_M) (t : rt_M) (ht : rt_kd a0.toNat = 20 + 12) (h : f_X12_laysSaid a0 a1 a2 mem0 = some t) : RM G M_X12_laysSaid d [(2, a0), (0, a1), (0, a2)] z mem0 none t := by
  suffices H : ∀ Q : rt_P, Q none z t → RT G M_X12_laysSaid d z Q 0 [(2, a0), (0, a1), (0, a2), (9, 0)] [] z mem0 from H _ ⟨rfl, rfl, rfl⟩
  intro Q hK
  unfold f_X12_laysSaid at h
  refine RT.aload_n (pc := 0) (k := 0) (x := a0) dX12_laysSaid_0 rfl ?_
  obtain ⟨v1, hv1, h⟩ := Option.bind_eq_some_iff.mp h
  refine RT.gf 12 45 2 (pc := 1) (x := a0) (v := v1) hz dX12_laysSaid_1 fl_X12_105 rfl hv1 ?_
  refine RT.iload_n (pc := 4) (k := 2) (x := a2) dX12_laysSaid_4 rfl ?_
  refine RT.aload_n (pc := 5) (k := 0) (x := a0) dX12_laysSaid_5 rfl ?_
  obtain ⟨v6, hv6, h⟩ := Option.bind_eq_some_iff.mp h
  refine RT.gf 12 45 2 (pc := 6) (x := a0) (v := v6) hz dX12_laysSaid_6 fl_X12_105 rfl hv6 ?_
  refine RT.iload_n (pc := 9) (k := 1) (x := a1) dX12_laysSaid_9 rfl ?_
  obtain ⟨v10, hv10, h⟩ := Option.bind_eq_some_iff.mp h
  refine RT.iald (pc := 10) (x := v6) (i := a1) (v := v10) dX12_laysSaid_10 (rt_lta hz (by decide) (by decide) hv10) hv10 ?_
  obtain ⟨m11, hm11, h⟩ := Option.bind_eq_some_iff.mp h
  refine RT.iast (pc := 11) (x := v1) (i := a2) (v := v10) (mem1 := m11) dX12_laysSaid_11 (rt_lts hz (by decide) (by decide) hm11) hm11 ?_
  refine RT.iconst (pc := 12) (n := 0) dX12_laysSaid_12 ⟨by decide, by decide⟩ ?_
  refine RT.istore_n (pc := 13) (k := 3) (x := 0) (L1 := [(2, a0), (0, a1), (0, a2), (0, 0)]) dX12_laysSaid_13 (Nat.le_of_ble_eq_true rfl) rfl ?_
  obtain ⟨X14, hX14, h⟩ := Option.bind_eq_some_iff.mp h
  refine rt_it_ind (P := (fun s1 : Int × rt_M => RT G M_X12_laysSaid d z Q 14 [(2, a0), (0, a1), (0, a2), (0, s1.1)] [] z s1.2)) (X := (fun x1 : rt_M => RT G M_X12_laysSaid d z Q 92 [(2, a0), (0, a1), (0, a2), (9, 0)] [] z x1)) (fun s1 t1 h1 k1 k2 => cb_X12_laysSaid_14 hz hd ht a1 a2 s1 t1 h1 ⟨k1, k2⟩) 4000 ((0, m11)) X14 hX14 ?_
  refine RT.iconst (pc := 92) (n := 0) dX12_laysSaid_92 ⟨by decide, by decide⟩ ?_
  refine RT.istore_n (pc := 93) (k := 3) (x := 0) (L1 := [(2, a0), (0, a1), (0, a2), (0, 0)]) dX12_laysSaid_93 (Nat.le_of_ble_eq_true rfl) rfl ?_
  obtain ⟨X94, hX94, h⟩ := Option.bind_eq_some_iff.mp h
  refine rt_it_ind (P := (fun s1 : Int × rt_M => RT G M_X12_laysSaid d z Q 94 [(2, a0), (0, a1), (0, a2), (0, s1.1)] [] z s1.2)) (X := (fun x1 : rt_M => RT G M_X12_laysSaid d z Q 128 [(9, 0), (9, 0), (9, 0), (9, 0)] [] z x1)) (fun s1 t1 h1 k1 k2 => cb_X12_laysSaid_94 hz hd ht a1 a2 s1 t1 h1 ⟨k1, k2⟩) 4000 ((0, X14)) X94 hX94 ?_
  obtain rfl := Option.some.inj h
  exact RT.vret (pc := 128) dX12_laysSaid_128 rfl (Nat.le_of_eq (rt_cells_0 z)) (Nat.le_of_eq (rt_slots_0 z)) hK
theorem cb_X12_fresh_9 {G : rt_G} {d : Nat} {z : Nat × Nat} {Q : rt_P} (hz : 300 ≤ z.1) (hd : 0 ≤ d) {a0 : Int} (ht : rt_kd a0.toNat = 20 + 12) (s : Int × rt_M) (t : (Int × rt_M) ⊕ (rt_M)) (h : b_X12_fresh_9 a0 s = some t) (hK : (∀ s1 : Int × rt_M, t = .inl s1 → RT G M_X12_fresh d z Q 9 [(2, a0), (0, s1.1)] [] z s1.2) ∧ (∀ x1 : rt_M, t = .inr x1 → RT G M_X12_fresh d z Q 40 [(9, 0), (9, 0)] [] z x1)) : RT G M_X12_fresh d z Q 9 [(2, a0), (0, s.1)] [] z s.2 := by
  unfold b_X12_fresh_9 at h
  refine RT.iload_n (pc := 9) (k := 1) (x := s.1) dX12_fresh_9 rfl ?_
  refine RT.bipush (pc := 10) (n := 6) dX12_fresh_10 ⟨by decide, by decide⟩ rfl ?_
  refine RT.icmp_ge (pc := 12) (tgt := 40) dX12_fresh_12 rfl (fun q12 => ?_) (fun q12 => ?_)
  · rw [if_pos q12] at h
    refine RT.wk (L1 := [(9, 0), (9, 0)]) (rt_le_j (rt_le_j rt_le_n)) ?_
    obtain rfl := Option.some.inj h
    have q1 := hK.2 s.2 rfl
    try dsimp only at q1
    exact q1
  · rw [if_neg q12] at h
    refine RT.aload_n (pc := 15) (k := 0) (x := a0) dX12_fresh_15 rfl ?_
    obtain ⟨v16, hv16, h⟩ := Option.bind_eq_some_iff.mp h
    refine RT.gf 12 50 2 (pc := 16) (x := a0) (v := v16) hz dX12_fresh_16 fl_X12_120 rfl hv16 ?_
    refine RT.iconst (pc := 19) (n := 1) dX12_fresh_19 ⟨by decide, by decide⟩ ?_
    refine RT.iload_n (pc := 20) (k := 1) (x := s.1) dX12_fresh_20 rfl ?_
    refine RT.iadd (pc := 21) dX12_fresh_21 ?_
    refine RT.iconst (pc := 22) (n := (-1)) dX12_fresh_22 ⟨by decide, by decide⟩ ?_
    obtain ⟨m23, hm23, h⟩ := Option.bind_eq_some_iff.mp h
    refine RT.iast (pc := 23) (x := v16) (i := (rt_iadd 1 s.1)) (v := (-1)) (mem1 := m23) dX12_fresh_23 (rt_lts hz (by decide) (by decide) hm23) hm23 ?_
    refine RT.aload_n (pc := 24) (k := 0) (x := a0) dX12_fresh_24 rfl ?_
    obtain ⟨v25, hv25, h⟩ := Option.bind_eq_some_iff.mp h
    refine RT.gf 12 50 2 (pc := 25) (x := a0) (v := v25) hz dX12_fresh_25 fl_X12_120 rfl hv25 ?_
    refine RT.bipush (pc := 28) (n := 7) dX12_fresh_28 ⟨by decide, by decide⟩ rfl ?_
    refine RT.iload_n (pc := 30) (k := 1) (x := s.1) dX12_fresh_30 rfl ?_
    refine RT.iadd (pc := 31) dX12_fresh_31 ?_
    refine RT.iconst (pc := 32) (n := 0) dX12_fresh_32 ⟨by decide, by decide⟩ ?_
    obtain ⟨m33, hm33, h⟩ := Option.bind_eq_some_iff.mp h
    refine RT.iast (pc := 33) (x := v25) (i := (rt_iadd 7 s.1)) (v := 0) (mem1 := m33) dX12_fresh_33 (rt_lts hz (by decide) (by decide) hm33) hm33 ?_
    refine RT.iinc (pc := 34) (x := s.1) (L1 := [(2, a0), (0, (rt_iadd s.1 1))]) dX12_fresh_34 rfl (Nat.le_of_ble_eq_true rfl) ⟨by decide, by decide⟩ rfl ?_
    refine RT.goto (pc := 37) (tgt := 9) dX12_fresh_37 rfl ?_
    obtain rfl := Option.some.inj h
    have q1 := hK.1 (((rt_iadd s.1 1), m33)) rfl
    try dsimp only at q1
    exact q1
theorem c_X12_fresh {G : rt_G} {d : Nat} {z : Nat × Nat} (hz : 300 ≤ z.1) (hd : 0 ≤ d) (a0 : Int) (mem0 : rt_M) (t : rt_M) (ht : rt_kd a0.toNat = 20 + 12) (h : f_X12_fresh a0 mem0 = some t) : RM G M_X12_fresh d [(2, a0)] z mem0 none t := by
  suffices H : ∀ Q : rt_P, Q none z t → RT G M_X12_fresh d z Q 0 [(2, a0), (9, 0)] [] z mem0 from H _ ⟨rfl, rfl, rfl⟩
  intro Q hK
  unfold f_X12_fresh at h
  refine RT.aload_n (pc := 0) (k := 0) (x := a0) dX12_fresh_0 rfl ?_
  obtain ⟨v1, hv1, h⟩ := Option.bind_eq_some_iff.mp h
  refine RT.gf 12 50 2 (pc := 1) (x := a0) (v := v1) hz dX12_fresh_1 fl_X12_120 rfl hv1 ?_
  refine RT.iconst (pc := 4) (n := 0) dX12_fresh_4 ⟨by decide, by decide⟩ ?_
  refine RT.iconst (pc := 5) (n := 0) dX12_fresh_5 ⟨by decide, by decide⟩ ?_
  obtain ⟨m6, hm6, h⟩ := Option.bind_eq_some_iff.mp h
  refine RT.iast (pc := 6) (x := v1) (i := 0) (v := 0) (mem1 := m6) dX12_fresh_6 (rt_lts hz (by decide) (by decide) hm6) hm6 ?_
  refine RT.iconst (pc := 7) (n := 0) dX12_fresh_7 ⟨by decide, by decide⟩ ?_
  refine RT.istore_n (pc := 8) (k := 1) (x := 0) (L1 := [(2, a0), (0, 0)]) dX12_fresh_8 (Nat.le_of_ble_eq_true rfl) rfl ?_
  obtain ⟨X9, hX9, h⟩ := Option.bind_eq_some_iff.mp h
  refine rt_it_ind (P := (fun s1 : Int × rt_M => RT G M_X12_fresh d z Q 9 [(2, a0), (0, s1.1)] [] z s1.2)) (X := (fun x1 : rt_M => RT G M_X12_fresh d z Q 40 [(9, 0), (9, 0)] [] z x1)) (fun s1 t1 h1 k1 k2 => cb_X12_fresh_9 hz hd ht s1 t1 h1 ⟨k1, k2⟩) 4000 ((0, m6)) X9 hX9 ?_
  obtain rfl := Option.some.inj h
  exact RT.vret (pc := 40) dX12_fresh_40 rfl (Nat.le_of_eq (rt_cells_0 z)) (Nat.le_of_eq (rt_slots_0 z)) hK
theorem cb_X12_forgets_2 {G : rt_G} {d : Nat} {z : Nat × Nat} {Q : rt_P} (hz : 300 ≤ z.1) (hd : 0 ≤ d) {a0 : Int} (ht : rt_kd a0.toNat = 20 + 12) (s : Int × rt_M) (t : (Int × rt_M) ⊕ (rt_M)) (h : b_X12_forgets_2 a0 s = some t) (hK : (∀ s1 : Int × rt_M, t = .inl s1 → RT G M_X12_forgets d z Q 2 [(2, a0), (0, s1.1)] [] z s1.2) ∧ (∀ x1 : rt_M, t = .inr x1 → RT G M_X12_forgets d z Q 21 [(9, 0), (9, 0)] [] z x1)) : RT G M_X12_forgets d z Q 2 [(2, a0), (0, s.1)] [] z s.2 := by
  unfold b_X12_forgets_2 at h
  refine RT.iload_n (pc := 2) (k := 1) (x := s.1) dX12_forgets_2 rfl ?_
  refine RT.bipush (pc := 3) (n := 6) dX12_forgets_3 ⟨by decide, by decide⟩ rfl ?_
  refine RT.icmp_ge (pc := 5) (tgt := 21) dX12_forgets_5 rfl (fun q5 => ?_) (fun q5 => ?_)
  · rw [if_pos q5] at h
    refine RT.wk (L1 := [(9, 0), (9, 0)]) (rt_le_j (rt_le_j rt_le_n)) ?_
    obtain rfl := Option.some.inj h
    have q1 := hK.2 s.2 rfl
    try dsimp only at q1
    exact q1
  · rw [if_neg q5] at h
    refine RT.aload_n (pc := 8) (k := 0) (x := a0) dX12_forgets_8 rfl ?_
    obtain ⟨v9, hv9, h⟩ := Option.bind_eq_some_iff.mp h
    refine RT.gf 12 49 2 (pc := 9) (x := a0) (v := v9) hz dX12_forgets_9 fl_X12_117 rfl hv9 ?_
    refine RT.iload_n (pc := 12) (k := 1) (x := s.1) dX12_forgets_12 rfl ?_
    refine RT.iconst (pc := 13) (n := (-1)) dX12_forgets_13 ⟨by decide, by decide⟩ ?_
    obtain ⟨m14, hm14, h⟩ := Option.bind_eq_some_iff.mp h
    refine RT.iast (pc := 14) (x := v9) (i := s.1) (v := (-1)) (mem1 := m14) dX12_forgets_14 (rt_lts hz (by decide) (by decide) hm14) hm14 ?_
    refine RT.iinc (pc := 15) (x := s.1) (L1 := [(2, a0), (0, (rt_iadd s.1 1))]) dX12_forgets_15 rfl (Nat.le_of_ble_eq_true rfl) ⟨by decide, by decide⟩ rfl ?_
    refine RT.goto (pc := 18) (tgt := 2) dX12_forgets_18 rfl ?_
    obtain rfl := Option.some.inj h
    have q1 := hK.1 (((rt_iadd s.1 1), m14)) rfl
    try dsimp only at q1
    exact q1
theorem c_X12_forgets {G : rt_G} {d : Nat} {z : Nat × Nat} (hz : 300 ≤ z.1) (hd : 0 ≤ d) (a0 : Int) (mem0 : rt_M) (t : rt_M) (ht : rt_kd a0.toNat = 20 + 12) (h : f_X12_forgets a0 mem0 = some t) : RM G M_X12_forgets d [(2, a0)] z mem0 none t := by
  suffices H : ∀ Q : rt_P, Q none z t → RT G M_X12_forgets d z Q 0 [(2, a0), (9, 0)] [] z mem0 from H _ ⟨rfl, rfl, rfl⟩
  intro Q hK
  unfold f_X12_forgets at h
  refine RT.iconst (pc := 0) (n := 0) dX12_forgets_0 ⟨by decide, by decide⟩ ?_
  refine RT.istore_n (pc := 1) (k := 1) (x := 0) (L1 := [(2, a0), (0, 0)]) dX12_forgets_1 (Nat.le_of_ble_eq_true rfl) rfl ?_
  obtain ⟨X2, hX2, h⟩ := Option.bind_eq_some_iff.mp h
  refine rt_it_ind (P := (fun s1 : Int × rt_M => RT G M_X12_forgets d z Q 2 [(2, a0), (0, s1.1)] [] z s1.2)) (X := (fun x1 : rt_M => RT G M_X12_forgets d z Q 21 [(9, 0), (9, 0)] [] z x1)) (fun s1 t1 h1 k1 k2 => cb_X12_forgets_2 hz hd ht s1 t1 h1 ⟨k1, k2⟩) 4000 ((0, mem0)) X2 hX2 ?_
  obtain rfl := Option.some.inj h
  exact RT.vret (pc := 21) dX12_forgets_21 rfl (Nat.le_of_eq (rt_cells_0 z)) (Nat.le_of_eq (rt_slots_0 z)) hK
theorem cb_X12_realm_50 {G : rt_G} {d : Nat} {z : Nat × Nat} {Q : rt_P} (hz : 300 ≤ z.1) (hd : 6 ≤ d) {a0 : Int} (ht : rt_kd a0.toNat = 20 + 12) (s : Int × rt_M) (t : (Int × rt_M) ⊕ (rt_M)) (h : b_X12_realm_50 a0 s = some t) (hK : (∀ s1 : Int × rt_M, t = .inl s1 → RT G M_X12_realm d z Q 50 [(2, a0), (0, s1.1)] [] z s1.2) ∧ (∀ x1 : rt_M, t = .inr x1 → RT G M_X12_realm d z Q 68 [(9, 0), (9, 0)] [] z x1)) : RT G M_X12_realm d z Q 50 [(2, a0), (0, s.1)] [] z s.2 := by
  unfold b_X12_realm_50 at h
  refine RT.iload_n (pc := 50) (k := 1) (x := s.1) dX12_realm_50 rfl ?_
  refine RT.iconst (pc := 51) (n := 4) dX12_realm_51 ⟨by decide, by decide⟩ ?_
  refine RT.icmp_ge (pc := 52) (tgt := 68) dX12_realm_52 rfl (fun q52 => ?_) (fun q52 => ?_)
  · rw [if_pos q52] at h
    refine RT.wk (L1 := [(9, 0), (9, 0)]) (rt_le_j (rt_le_j rt_le_n)) ?_
    obtain rfl := Option.some.inj h
    have q1 := hK.2 s.2 rfl
    try dsimp only at q1
    exact q1
  · rw [if_neg q52] at h
    refine RT.aload_n (pc := 55) (k := 0) (x := a0) dX12_realm_55 rfl ?_
    obtain ⟨v56, hv56, h⟩ := Option.bind_eq_some_iff.mp h
    refine RT.gf 12 54 2 (pc := 56) (x := a0) (v := v56) hz dX12_realm_56 fl_X12_132 rfl hv56 ?_
    refine RT.iload_n (pc := 59) (k := 1) (x := s.1) dX12_realm_59 rfl ?_
    refine RT.iconst (pc := 60) (n := 0) dX12_realm_60 ⟨by decide, by decide⟩ ?_
    obtain ⟨m61, hm61, h⟩ := Option.bind_eq_some_iff.mp h
    refine RT.zast (pc := 61) (x := v56) (i := s.1) (v := 0) (mem1 := m61) dX12_realm_61 (by decide) (rt_lts hz (by decide) (by decide) hm61) hm61 ?_
    refine RT.iinc (pc := 62) (x := s.1) (L1 := [(2, a0), (0, (rt_iadd s.1 1))]) dX12_realm_62 rfl (Nat.le_of_ble_eq_true rfl) ⟨by decide, by decide⟩ rfl ?_
    refine RT.goto (pc := 65) (tgt := 50) dX12_realm_65 rfl ?_
    obtain rfl := Option.some.inj h
    have q1 := hK.1 (((rt_iadd s.1 1), m61)) rfl
    try dsimp only at q1
    exact q1
theorem c_X12_realm {G : rt_G} {d : Nat} {z : Nat × Nat} (hz : 300 ≤ z.1) (hd : 6 ≤ d) (a0 : Int) (mem0 : rt_M) (t : Int × rt_M) (ht : rt_kd a0.toNat = 20 + 12) (h : f_X12_realm a0 mem0 = some t) : RM G M_X12_realm d [(2, a0)] z mem0 (some (0, t.1)) t.2 := by
  suffices H : ∀ Q : rt_P, Q (some (0, t.1)) z t.2 → RT G M_X12_realm d z Q 0 [(2, a0), (9, 0)] [] z mem0 from H _ ⟨rfl, rfl, rfl⟩
  intro Q hK
  unfold f_X12_realm at h
  refine RT.aload_n (pc := 0) (k := 0) (x := a0) dX12_realm_0 rfl ?_
  refine RT.iconst (pc := 1) (n := 0) dX12_realm_1 ⟨by decide, by decide⟩ ?_
  obtain ⟨m2, hm2, h⟩ := Option.bind_eq_some_iff.mp h
  refine RT.pf_i 12 0 (pc := 2) (mem1 := m2) hz dX12_realm_2 fl_X12_171 rfl rfl rfl hm2 ?_
  refine RT.aload_n (pc := 5) (k := 0) (x := a0) dX12_realm_5 rfl ?_
  obtain ⟨p6, hp6, h⟩ := Option.bind_eq_some_iff.mp h
  refine RT.cVz (pc := 6) (M' := M_X12_readsAll) (ci := 12) (x := a0) (As := []) (st := []) (r := some (0, p6.1)) (mem1 := p6.2) (d' := d - 1) hz dX12_realm_6 mw_X12_readsAll ml_X12_370 mi_X12_readsAll ht rfl rfl (Nat.le_of_ble_eq_true rfl) (Nat.le_of_ble_eq_true rfl) (by omega) rfl rfl (c_X12_readsAll hz (by omega) a0 m2 _ ht hp6) ?_
  refine RT.if_ne (pc := 9) (tgt := 17) dX12_realm_9 rfl (fun q9 => ?_) (fun q9 => ?_)
  · rw [if_neg q9] at h
    refine RT.aload_n (pc := 17) (k := 0) (x := a0) dX12_realm_17 rfl ?_
    obtain ⟨p18, hp18, h⟩ := Option.bind_eq_some_iff.mp h
    refine RT.cVz (pc := 18) (M' := M_X12_lays) (ci := 12) (x := a0) (As := []) (st := []) (r := none) (mem1 := p18) (d' := d - 1) hz dX12_realm_18 mw_X12_lays ml_X12_373 mi_X12_lays ht rfl rfl (Nat.le_of_ble_eq_true rfl) (Nat.le_of_ble_eq_true rfl) (by omega) rfl rfl (c_X12_lays hz (by omega) a0 p6.2 _ ht hp18) ?_
    refine RT.aload_n (pc := 21) (k := 0) (x := a0) dX12_realm_21 rfl ?_
    obtain ⟨p22, hp22, h⟩ := Option.bind_eq_some_iff.mp h
    refine RT.cVz (pc := 22) (M' := M_X12_fresh) (ci := 12) (x := a0) (As := []) (st := []) (r := none) (mem1 := p22) (d' := d - 1) hz dX12_realm_22 mw_X12_fresh ml_X12_165 mi_X12_fresh ht rfl rfl (Nat.le_of_ble_eq_true rfl) (Nat.le_of_ble_eq_true rfl) (by omega) rfl rfl (c_X12_fresh hz (by omega) a0 p18 _ ht hp22) ?_
    refine RT.aload_n (pc := 25) (k := 0) (x := a0) dX12_realm_25 rfl ?_
    obtain ⟨p26, hp26, h⟩ := Option.bind_eq_some_iff.mp h
    refine RT.cVz (pc := 26) (M' := M_X12_forgets) (ci := 12) (x := a0) (As := []) (st := []) (r := none) (mem1 := p26) (d' := d - 1) hz dX12_realm_26 mw_X12_forgets ml_X12_168 mi_X12_forgets ht rfl rfl (Nat.le_of_ble_eq_true rfl) (Nat.le_of_ble_eq_true rfl) (by omega) rfl rfl (c_X12_forgets hz (by omega) a0 p22 _ ht hp26) ?_
    refine RT.aload_n (pc := 29) (k := 0) (x := a0) dX12_realm_29 rfl ?_
    obtain ⟨v30, hv30, h⟩ := Option.bind_eq_some_iff.mp h
    refine RT.gf 12 41 2 (pc := 30) (x := a0) (v := v30) hz dX12_realm_30 fl_X12_93 rfl hv30 ?_
    refine RT.iconst (pc := 33) (n := 0) dX12_realm_33 ⟨by decide, by decide⟩ ?_
    refine RT.iconst (pc := 34) (n := 0) dX12_realm_34 ⟨by decide, by decide⟩ ?_
    obtain ⟨m35, hm35, h⟩ := Option.bind_eq_some_iff.mp h
    refine RT.iast (pc := 35) (x := v30) (i := 0) (v := 0) (mem1 := m35) dX12_realm_35 (rt_lts hz (by decide) (by decide) hm35) hm35 ?_
    refine RT.aload_n (pc := 36) (k := 0) (x := a0) dX12_realm_36 rfl ?_
    obtain ⟨v37, hv37, h⟩ := Option.bind_eq_some_iff.mp h
    refine RT.gf 12 45 2 (pc := 37) (x := a0) (v := v37) hz dX12_realm_37 fl_X12_105 rfl hv37 ?_
    refine RT.iconst (pc := 40) (n := 0) dX12_realm_40 ⟨by decide, by decide⟩ ?_
    refine RT.iconst (pc := 41) (n := 0) dX12_realm_41 ⟨by decide, by decide⟩ ?_
    obtain ⟨m42, hm42, h⟩ := Option.bind_eq_some_iff.mp h
    refine RT.iast (pc := 42) (x := v37) (i := 0) (v := 0) (mem1 := m42) dX12_realm_42 (rt_lts hz (by decide) (by decide) hm42) hm42 ?_
    refine RT.aload_n (pc := 43) (k := 0) (x := a0) dX12_realm_43 rfl ?_
    refine RT.iconst (pc := 44) (n := 0) dX12_realm_44 ⟨by decide, by decide⟩ ?_
    obtain ⟨m45, hm45, h⟩ := Option.bind_eq_some_iff.mp h
    refine RT.pf_i 12 55 (pc := 45) (mem1 := m45) hz dX12_realm_45 fl_X12_376 rfl rfl rfl hm45 ?_
    refine RT.iconst (pc := 48) (n := 0) dX12_realm_48 ⟨by decide, by decide⟩ ?_
    refine RT.istore_n (pc := 49) (k := 1) (x := 0) (L1 := [(2, a0), (0, 0)]) dX12_realm_49 (Nat.le_of_ble_eq_true rfl) rfl ?_
    obtain ⟨X50, hX50, h⟩ := Option.bind_eq_some_iff.mp h
    refine rt_it_ind (P := (fun s1 : Int × rt_M => RT G M_X12_realm d z Q 50 [(2, a0), (0, s1.1)] [] z s1.2)) (X := (fun x1 : rt_M => RT G M_X12_realm d z Q 68 [(9, 0), (9, 0)] [] z x1)) (fun s1 t1 h1 k1 k2 => cb_X12_realm_50 hz hd ht s1 t1 h1 ⟨k1, k2⟩) 4000 ((0, m45)) X50 hX50 ?_
    refine RT.iconst (pc := 68) (n := 0) dX12_realm_68 ⟨by decide, by decide⟩ ?_
    obtain rfl := Option.some.inj h
    exact RT.iret (pc := 69) dX12_realm_69 rfl (Nat.le_of_eq (rt_cells_0 z)) (Nat.le_of_eq (rt_slots_0 z)) hK
  · rw [if_pos (Classical.not_not.mp q9)] at h
    refine RT.aload_n (pc := 12) (k := 0) (x := a0) dX12_realm_12 rfl ?_
    obtain ⟨v13, hv13, h⟩ := Option.bind_eq_some_iff.mp h
    refine RT.gf 12 9 0 (pc := 13) (x := a0) (v := v13) hz dX12_realm_13 fl_X12_207 rfl hv13 ?_
    obtain rfl := Option.some.inj h
    exact RT.iret (pc := 16) dX12_realm_16 rfl (Nat.le_of_eq (rt_cells_0 z)) (Nat.le_of_eq (rt_slots_0 z)) hK
theorem cb_X12_years_16 {G : rt_G} {d : Nat} {z : Nat × Nat} {Q : rt_P} (hz : 300 ≤ z.1) (hd : 4 ≤ d) {a0 : Int} (ht : rt_kd a0.toNat = 20 + 12) (s : rt_M) (t : (rt_M) ⊕ ((rt_M) ⊕ (Int × rt_M))) (h : b_X12_years_16 a0 s = some t) (hK : (∀ s1 : rt_M, t = .inl s1 → RT G M_X12_years d z Q 16 [(2, a0)] [] z s1) ∧ (∀ x1 : rt_M, t = .inr (.inl x1) → RT G M_X12_years d z Q 35 [(2, a0)] [] z x1) ∧ (∀ t1 : Int × rt_M, t = .inr (.inr t1) → Q (some (0, t1.1)) z t1.2)) : RT G M_X12_years d z Q 16 [(2, a0)] [] z s := by
  unfold b_X12_years_16 at h
  refine RT.aload_n (pc := 16) (k := 0) (x := a0) dX12_years_16 rfl ?_
  obtain ⟨v17, hv17, h⟩ := Option.bind_eq_some_iff.mp h
  refine RT.gf 12 6 0 (pc := 17) (x := a0) (v := v17) hz dX12_years_17 fl_X12_196 rfl hv17 ?_
  refine RT.if_eq (pc := 20) (tgt := 35) dX12_years_20 rfl (fun q20 => ?_) (fun q20 => ?_)
  · rw [if_pos q20] at h
    obtain rfl := Option.some.inj h
    have q1 := hK.2.1 s rfl
    try dsimp only at q1
    exact q1
  · rw [if_neg q20] at h
    refine RT.aload_n (pc := 23) (k := 0) (x := a0) dX12_years_23 rfl ?_
    obtain ⟨p24, hp24, h⟩ := Option.bind_eq_some_iff.mp h
    refine RT.cVz (pc := 24) (M' := M_X12_readsLine) (ci := 12) (x := a0) (As := []) (st := []) (r := some (0, p24.1)) (mem1 := p24.2) (d' := d - 1) hz dX12_years_24 mw_X12_readsLine ml_X12_379 mi_X12_readsLine ht rfl rfl (Nat.le_of_ble_eq_true rfl) (Nat.le_of_ble_eq_true rfl) (by omega) rfl rfl (c_X12_readsLine hz (by omega) a0 s _ ht hp24) ?_
    refine RT.if_ne (pc := 27) (tgt := 16) dX12_years_27 rfl (fun q27 => ?_) (fun q27 => ?_)
    · rw [if_neg q27] at h
      obtain rfl := Option.some.inj h
      have q1 := hK.1 p24.2 rfl
      try dsimp only at q1
      exact q1
    · rw [if_pos (Classical.not_not.mp q27)] at h
      obtain ⟨t2, g2, e2⟩ := Option.map_eq_some_iff.mp h
      subst e2
      replace h := g2
      replace hK := hK.2.2 t2 rfl
      refine RT.aload_n (pc := 30) (k := 0) (x := a0) dX12_years_30 rfl ?_
      obtain ⟨v31, hv31, h⟩ := Option.bind_eq_some_iff.mp h
      refine RT.gf 12 9 0 (pc := 31) (x := a0) (v := v31) hz dX12_years_31 fl_X12_207 rfl hv31 ?_
      obtain rfl := Option.some.inj h
      exact RT.iret (pc := 34) dX12_years_34 rfl (Nat.le_of_eq (rt_cells_0 z)) (Nat.le_of_eq (rt_slots_0 z)) hK
theorem c_X12_years {G : rt_G} {d : Nat} {z : Nat × Nat} (hz : 300 ≤ z.1) (hd : 4 ≤ d) (a0 : Int) (mem0 : rt_M) (t : Int × rt_M) (ht : rt_kd a0.toNat = 20 + 12) (h : f_X12_years a0 mem0 = some t) : RM G M_X12_years d [(2, a0)] z mem0 (some (0, t.1)) t.2 := by
  suffices H : ∀ Q : rt_P, Q (some (0, t.1)) z t.2 → RT G M_X12_years d z Q 0 [(2, a0)] [] z mem0 from H _ ⟨rfl, rfl, rfl⟩
  intro Q hK
  unfold f_X12_years at h
  refine RT.aload_n (pc := 0) (k := 0) (x := a0) dX12_years_0 rfl ?_
  refine RT.iconst (pc := 1) (n := 0) dX12_years_1 ⟨by decide, by decide⟩ ?_
  obtain ⟨m2, hm2, h⟩ := Option.bind_eq_some_iff.mp h
  refine RT.pf_i 12 0 (pc := 2) (mem1 := m2) hz dX12_years_2 fl_X12_171 rfl rfl rfl hm2 ?_
  refine RT.aload_n (pc := 5) (k := 0) (x := a0) dX12_years_5 rfl ?_
  obtain ⟨v6, hv6, h⟩ := Option.bind_eq_some_iff.mp h
  refine RT.gf 12 41 2 (pc := 6) (x := a0) (v := v6) hz dX12_years_6 fl_X12_93 rfl hv6 ?_
  refine RT.iconst (pc := 9) (n := 5) dX12_years_9 ⟨by decide, by decide⟩ ?_
  refine RT.iconst (pc := 10) (n := 0) dX12_years_10 ⟨by decide, by decide⟩ ?_
  obtain ⟨m11, hm11, h⟩ := Option.bind_eq_some_iff.mp h
  refine RT.iast (pc := 11) (x := v6) (i := 5) (v := 0) (mem1 := m11) dX12_years_11 (rt_lts hz (by decide) (by decide) hm11) hm11 ?_
  refine RT.aload_n (pc := 12) (k := 0) (x := a0) dX12_years_12 rfl ?_
  obtain ⟨p13, hp13, h⟩ := Option.bind_eq_some_iff.mp h
  refine RT.cVz (pc := 13) (M' := M_X12_begins) (ci := 12) (x := a0) (As := []) (st := []) (r := none) (mem1 := p13) (d' := d - 1) hz dX12_years_13 mw_X12_begins ml_X12_344 mi_X12_begins ht rfl rfl (Nat.le_of_ble_eq_true rfl) (Nat.le_of_ble_eq_true rfl) (by omega) rfl rfl (c_X12_begins hz (by omega) a0 m11 _ ht hp13) ?_
  obtain ⟨E16, hE16, h⟩ := Option.bind_eq_some_iff.mp h
  refine rt_it_ind (P := (fun s1 : rt_M => RT G M_X12_years d z Q 16 [(2, a0)] [] z s1)) (X := (fun e1 : (rt_M) ⊕ (Int × rt_M) => (∀ x1 : rt_M, e1 = .inl x1 → RT G M_X12_years d z Q 35 [(2, a0)] [] z x1) ∧ (∀ t1 : Int × rt_M, e1 = .inr t1 → Q (some (0, t1.1)) z t1.2))) (fun s1 t1 h1 k1 k2 => cb_X12_years_16 hz hd ht s1 t1 h1 ⟨k1, fun x1 q => (k2 _ q).1 x1 rfl, fun t2 q => (k2 _ q).2 t2 rfl⟩) 4000 p13 E16 hE16 ?_
  cases E16 with
  | inr t1 =>
    obtain rfl := Option.some.inj h
    exact ⟨fun x1 q => (by cases q), fun t2 q => (by cases q; exact hK)⟩
  | inl X16 =>
    refine ⟨fun x1 q => ?_, fun t2 q => (by cases q)⟩
    cases q
    refine RT.aload_n (pc := 35) (k := 0) (x := a0) dX12_years_35 rfl ?_
    refine RT.iconst (pc := 36) (n := 5) dX12_years_36 ⟨by decide, by decide⟩ ?_
    refine RT.iconst (pc := 37) (n := 0) dX12_years_37 ⟨by decide, by decide⟩ ?_
    obtain ⟨p38, hp38, h⟩ := Option.bind_eq_some_iff.mp h
    refine RT.cVz (pc := 38) (M' := M_X12_laysLines) (ci := 12) (x := a0) (As := [(0, 5), (0, 0)]) (st := []) (r := none) (mem1 := p38) (d' := d - 1) hz dX12_years_38 mw_X12_laysLines ml_X12_382 mi_X12_laysLines ht rfl rfl (Nat.le_of_ble_eq_true rfl) (Nat.le_of_ble_eq_true rfl) (by omega) rfl rfl (c_X12_laysLines hz (by omega) a0 5 0 X16 _ ht hp38) ?_
    refine RT.iconst (pc := 41) (n := 0) dX12_years_41 ⟨by decide, by decide⟩ ?_
    obtain rfl := Option.some.inj h
    exact RT.iret (pc := 42) dX12_years_42 rfl (Nat.le_of_eq (rt_cells_0 z)) (Nat.le_of_eq (rt_slots_0 z)) hK
theorem cj_X12_isWig_19 {G : rt_G} {d : Nat} {z : Nat × Nat} {Q : rt_P} (hz : 300 ≤ z.1) (hd : 0 ≤ d) {a0 : Int} (ht : rt_kd a0.toNat = 20 + 12) (s0 : Int) (mem0 : rt_M) (t : Int) (h : j_X12_isWig_19 s0 mem0 = some t) (hK : Q (some (0, t)) z mem0) : RT G M_X12_isWig d z Q 19 [(9, 0), (9, 0)] [(0, s0)] z mem0 := by
  unfold j_X12_isWig_19 at h
  obtain ⟨w19, hw19, h⟩ := Option.bind_eq_some_iff.mp h
  obtain rfl := Option.some.inj h
  exact RT.zret (pc := 19) dX12_isWig_19 rfl (rt_bz_ok hw19) (Nat.le_of_eq (rt_cells_0 z)) (Nat.le_of_eq (rt_slots_0 z)) hK
theorem cj_X12_isWig_18 {G : rt_G} {d : Nat} {z : Nat × Nat} {Q : rt_P} (hz : 300 ≤ z.1) (hd : 0 ≤ d) {a0 : Int} (ht : rt_kd a0.toNat = 20 + 12) (mem0 : rt_M) (t : Int) (h : j_X12_isWig_18 mem0 = some t) (hK : Q (some (0, t)) z mem0) : RT G M_X12_isWig d z Q 18 [(9, 0), (9, 0)] [] z mem0 := by
  unfold j_X12_isWig_18 at h
  refine RT.iconst (pc := 18) (n := 0) dX12_isWig_18 ⟨by decide, by decide⟩ ?_
  exact cj_X12_isWig_19 hz hd ht 0 mem0 _ h hK
theorem c_X12_isWig {G : rt_G} {d : Nat} {z : Nat × Nat} (hz : 300 ≤ z.1) (hd : 0 ≤ d) (a0 : Int) (a1 : Int) (mem0 : rt_M) (t : Int) (ht : rt_kd a0.toNat = 20 + 12) (h : f_X12_isWig a0 a1 mem0 = some t) : RM G M_X12_isWig d [(2, a0), (0, a1)] z mem0 (some (0, t)) mem0 := by
  suffices H : ∀ Q : rt_P, Q (some (0, t)) z mem0 → RT G M_X12_isWig d z Q 0 [(2, a0), (0, a1)] [] z mem0 from H _ ⟨rfl, rfl, rfl⟩
  intro Q hK
  unfold f_X12_isWig at h
  refine RT.iload_n (pc := 0) (k := 1) (x := a1) dX12_isWig_0 rfl ?_
  refine RT.if_lt (pc := 1) (tgt := 18) dX12_isWig_1 rfl (fun q1 => ?_) (fun q1 => ?_)
  · rw [if_pos q1] at h
    refine RT.wk (L1 := [(9, 0), (9, 0)]) (rt_le_j (rt_le_j rt_le_n)) ?_
    exact cj_X12_isWig_18 hz hd ht mem0 _ h hK
  · rw [if_neg q1] at h
    refine RT.iload_n (pc := 4) (k := 1) (x := a1) dX12_isWig_4 rfl ?_
    refine RT.aload_n (pc := 5) (k := 0) (x := a0) dX12_isWig_5 rfl ?_
    obtain ⟨v6, hv6, h⟩ := Option.bind_eq_some_iff.mp h
    refine RT.gf 12 10 2 (pc := 6) (x := a0) (v := v6) hz dX12_isWig_6 fl_X12_13 rfl hv6 ?_
    refine RT.iconst (pc := 9) (n := 0) dX12_isWig_9 ⟨by decide, by decide⟩ ?_
    obtain ⟨v10, hv10, h⟩ := Option.bind_eq_some_iff.mp h
    refine RT.iald (pc := 10) (x := v6) (i := 0) (v := v10) dX12_isWig_10 (rt_lta hz (by decide) (by decide) hv10) hv10 ?_
    refine RT.icmp_ge (pc := 11) (tgt := 18) dX12_isWig_11 rfl (fun q11 => ?_) (fun q11 => ?_)
    · rw [if_pos q11] at h
      refine RT.wk (L1 := [(9, 0), (9, 0)]) (rt_le_j (rt_le_j rt_le_n)) ?_
      exact cj_X12_isWig_18 hz hd ht mem0 _ h hK
    · rw [if_neg q11] at h
      refine RT.iconst (pc := 14) (n := 1) dX12_isWig_14 ⟨by decide, by decide⟩ ?_
      refine RT.goto (pc := 15) (tgt := 19) dX12_isWig_15 rfl ?_
      refine RT.wk (L1 := [(9, 0), (9, 0)]) (rt_le_j (rt_le_j rt_le_n)) ?_
      exact cj_X12_isWig_19 hz hd ht 1 mem0 _ h hK
theorem cj_X12_isHead_19 {G : rt_G} {d : Nat} {z : Nat × Nat} {Q : rt_P} (hz : 300 ≤ z.1) (hd : 0 ≤ d) {a0 : Int} (ht : rt_kd a0.toNat = 20 + 12) (s0 : Int) (mem0 : rt_M) (t : Int) (h : j_X12_isHead_19 s0 mem0 = some t) (hK : Q (some (0, t)) z mem0) : RT G M_X12_isHead d z Q 19 [(9, 0), (9, 0)] [(0, s0)] z mem0 := by
  unfold j_X12_isHead_19 at h
  obtain ⟨w19, hw19, h⟩ := Option.bind_eq_some_iff.mp h
  obtain rfl := Option.some.inj h
  exact RT.zret (pc := 19) dX12_isHead_19 rfl (rt_bz_ok hw19) (Nat.le_of_eq (rt_cells_0 z)) (Nat.le_of_eq (rt_slots_0 z)) hK
theorem cj_X12_isHead_18 {G : rt_G} {d : Nat} {z : Nat × Nat} {Q : rt_P} (hz : 300 ≤ z.1) (hd : 0 ≤ d) {a0 : Int} (ht : rt_kd a0.toNat = 20 + 12) (mem0 : rt_M) (t : Int) (h : j_X12_isHead_18 mem0 = some t) (hK : Q (some (0, t)) z mem0) : RT G M_X12_isHead d z Q 18 [(9, 0), (9, 0)] [] z mem0 := by
  unfold j_X12_isHead_18 at h
  refine RT.iconst (pc := 18) (n := 0) dX12_isHead_18 ⟨by decide, by decide⟩ ?_
  exact cj_X12_isHead_19 hz hd ht 0 mem0 _ h hK
theorem c_X12_isHead {G : rt_G} {d : Nat} {z : Nat × Nat} (hz : 300 ≤ z.1) (hd : 0 ≤ d) (a0 : Int) (a1 : Int) (mem0 : rt_M) (t : Int) (ht : rt_kd a0.toNat = 20 + 12) (h : f_X12_isHead a0 a1 mem0 = some t) : RM G M_X12_isHead d [(2, a0), (0, a1)] z mem0 (some (0, t)) mem0 := by
  suffices H : ∀ Q : rt_P, Q (some (0, t)) z mem0 → RT G M_X12_isHead d z Q 0 [(2, a0), (0, a1)] [] z mem0 from H _ ⟨rfl, rfl, rfl⟩
  intro Q hK
  unfold f_X12_isHead at h
  refine RT.iload_n (pc := 0) (k := 1) (x := a1) dX12_isHead_0 rfl ?_
  refine RT.if_lt (pc := 1) (tgt := 18) dX12_isHead_1 rfl (fun q1 => ?_) (fun q1 => ?_)
  · rw [if_pos q1] at h
    refine RT.wk (L1 := [(9, 0), (9, 0)]) (rt_le_j (rt_le_j rt_le_n)) ?_
    exact cj_X12_isHead_18 hz hd ht mem0 _ h hK
  · rw [if_neg q1] at h
    refine RT.iload_n (pc := 4) (k := 1) (x := a1) dX12_isHead_4 rfl ?_
    refine RT.aload_n (pc := 5) (k := 0) (x := a0) dX12_isHead_5 rfl ?_
    obtain ⟨v6, hv6, h⟩ := Option.bind_eq_some_iff.mp h
    refine RT.gf 12 10 2 (pc := 6) (x := a0) (v := v6) hz dX12_isHead_6 fl_X12_13 rfl hv6 ?_
    refine RT.iconst (pc := 9) (n := 1) dX12_isHead_9 ⟨by decide, by decide⟩ ?_
    obtain ⟨v10, hv10, h⟩ := Option.bind_eq_some_iff.mp h
    refine RT.iald (pc := 10) (x := v6) (i := 1) (v := v10) dX12_isHead_10 (rt_lta hz (by decide) (by decide) hv10) hv10 ?_
    refine RT.icmp_ge (pc := 11) (tgt := 18) dX12_isHead_11 rfl (fun q11 => ?_) (fun q11 => ?_)
    · rw [if_pos q11] at h
      refine RT.wk (L1 := [(9, 0), (9, 0)]) (rt_le_j (rt_le_j rt_le_n)) ?_
      exact cj_X12_isHead_18 hz hd ht mem0 _ h hK
    · rw [if_neg q11] at h
      refine RT.iconst (pc := 14) (n := 1) dX12_isHead_14 ⟨by decide, by decide⟩ ?_
      refine RT.goto (pc := 15) (tgt := 19) dX12_isHead_15 rfl ?_
      refine RT.wk (L1 := [(9, 0), (9, 0)]) (rt_le_j (rt_le_j rt_le_n)) ?_
      exact cj_X12_isHead_19 hz hd ht 1 mem0 _ h hK
theorem cj_X12_heatIn_26 {G : rt_G} {d : Nat} {z : Nat × Nat} {Q : rt_P} (hz : 300 ≤ z.1) (hd : 0 ≤ d) {a0 : Int} (ht : rt_kd a0.toNat = 20 + 12) (s0 : Int) (mem0 : rt_M) (t : Int) (h : j_X12_heatIn_26 s0 mem0 = some t) (hK : Q (some (0, t)) z mem0) : RT G M_X12_heatIn d z Q 26 [(9, 0), (9, 0)] [(0, s0)] z mem0 := by
  unfold j_X12_heatIn_26 at h
  obtain rfl := Option.some.inj h
  exact RT.iret (pc := 26) dX12_heatIn_26 rfl (Nat.le_of_eq (rt_cells_0 z)) (Nat.le_of_eq (rt_slots_0 z)) hK
theorem c_X12_heatIn {G : rt_G} {d : Nat} {z : Nat × Nat} (hz : 300 ≤ z.1) (hd : 0 ≤ d) (a0 : Int) (a1 : Int) (mem0 : rt_M) (t : Int) (ht : rt_kd a0.toNat = 20 + 12) (h : f_X12_heatIn a0 a1 mem0 = some t) : RM G M_X12_heatIn d [(2, a0), (0, a1)] z mem0 (some (0, t)) mem0 := by
  suffices H : ∀ Q : rt_P, Q (some (0, t)) z mem0 → RT G M_X12_heatIn d z Q 0 [(2, a0), (0, a1)] [] z mem0 from H _ ⟨rfl, rfl, rfl⟩
  intro Q hK
  unfold f_X12_heatIn at h
  refine RT.aload_n (pc := 0) (k := 0) (x := a0) dX12_heatIn_0 rfl ?_
  obtain ⟨v1, hv1, h⟩ := Option.bind_eq_some_iff.mp h
  refine RT.gf 12 10 2 (pc := 1) (x := a0) (v := v1) hz dX12_heatIn_1 fl_X12_13 rfl hv1 ?_
  refine RT.iconst (pc := 4) (n := 3) dX12_heatIn_4 ⟨by decide, by decide⟩ ?_
  obtain ⟨v5, hv5, h⟩ := Option.bind_eq_some_iff.mp h
  refine RT.iald (pc := 5) (x := v1) (i := 3) (v := v5) dX12_heatIn_5 (rt_lta hz (by decide) (by decide) hv5) hv5 ?_
  refine RT.if_ne (pc := 6) (tgt := 13) dX12_heatIn_6 rfl (fun q6 => ?_) (fun q6 => ?_)
  · rw [if_neg q6] at h
    refine RT.aload_n (pc := 13) (k := 0) (x := a0) dX12_heatIn_13 rfl ?_
    obtain ⟨v14, hv14, h⟩ := Option.bind_eq_some_iff.mp h
    refine RT.gf 12 20 2 (pc := 14) (x := a0) (v := v14) hz dX12_heatIn_14 fl_X12_44 rfl hv14 ?_
    refine RT.iload_n (pc := 17) (k := 1) (x := a1) dX12_heatIn_17 rfl ?_
    refine RT.aload_n (pc := 18) (k := 0) (x := a0) dX12_heatIn_18 rfl ?_
    obtain ⟨v19, hv19, h⟩ := Option.bind_eq_some_iff.mp h
    refine RT.gf 12 10 2 (pc := 19) (x := a0) (v := v19) hz dX12_heatIn_19 fl_X12_13 rfl hv19 ?_
    refine RT.iconst (pc := 22) (n := 3) dX12_heatIn_22 ⟨by decide, by decide⟩ ?_
    obtain ⟨v23, hv23, h⟩ := Option.bind_eq_some_iff.mp h
    refine RT.iald (pc := 23) (x := v19) (i := 3) (v := v23) dX12_heatIn_23 (rt_lta hz (by decide) (by decide) hv23) hv23 ?_
    by_cases q24 : v23 = 0
    · rw [if_pos q24] at h; cases h
    rw [if_neg q24] at h
    refine RT.irem (pc := 24) dX12_heatIn_24 q24 ?_
    obtain ⟨v25, hv25, h⟩ := Option.bind_eq_some_iff.mp h
    refine RT.iald (pc := 25) (x := v14) (i := (rt_irem a1 v23)) (v := v25) dX12_heatIn_25 (rt_lta hz (by decide) (by decide) hv25) hv25 ?_
    refine RT.wk (L1 := [(9, 0), (9, 0)]) (rt_le_j (rt_le_j rt_le_n)) ?_
    exact cj_X12_heatIn_26 hz hd ht v25 mem0 _ h hK
  · rw [if_pos (Classical.not_not.mp q6)] at h
    refine RT.iconst (pc := 9) (n := 0) dX12_heatIn_9 ⟨by decide, by decide⟩ ?_
    refine RT.goto (pc := 10) (tgt := 26) dX12_heatIn_10 rfl ?_
    refine RT.wk (L1 := [(9, 0), (9, 0)]) (rt_le_j (rt_le_j rt_le_n)) ?_
    exact cj_X12_heatIn_26 hz hd ht 0 mem0 _ h hK
theorem cj_X12_girthIn_131 {G : rt_G} {d : Nat} {z : Nat × Nat} {Q : rt_P} (hz : 300 ≤ z.1) (hd : 3 ≤ d) {a0 : Int} (ht : rt_kd a0.toNat = 20 + 12) (s0 : Int) (s1 : Int) (mem0 : rt_M) (t : Int × rt_M) (h : j_X12_girthIn_131 s0 s1 mem0 = some t) (hK : Q (some (0, t.1)) z t.2) : RT G M_X12_girthIn d z Q 131 [(9, 0), (9, 0), (9, 0), (9, 0), (9, 0)] [(0, s1), (0, s0)] z mem0 := by
  unfold j_X12_girthIn_131 at h
  refine RT.isub (pc := 131) dX12_girthIn_131 ?_
  obtain rfl := Option.some.inj h
  exact RT.iret (pc := 132) dX12_girthIn_132 rfl (Nat.le_of_eq (rt_cells_0 z)) (Nat.le_of_eq (rt_slots_0 z)) hK
theorem cj_X12_girthIn_115 {G : rt_G} {d : Nat} {z : Nat × Nat} {Q : rt_P} (hz : 300 ≤ z.1) (hd : 3 ≤ d) {a0 : Int} (ht : rt_kd a0.toNat = 20 + 12) (a1 : Int) (s0 : Int) (s1 : Int) (mem0 : rt_M) (t : Int × rt_M) (h : j_X12_girthIn_115 a0 a1 s0 s1 mem0 = some t) (hK : Q (some (0, t.1)) z t.2) : RT G M_X12_girthIn d z Q 115 [(2, a0), (0, a1), (9, 0), (9, 0), (9, 0)] [(0, s1), (0, s0)] z mem0 := by
  unfold j_X12_girthIn_115 at h
  refine RT.iadd (pc := 115) dX12_girthIn_115 ?_
  refine RT.aload_n (pc := 116) (k := 0) (x := a0) dX12_girthIn_116 rfl ?_
  obtain ⟨v117, hv117, h⟩ := Option.bind_eq_some_iff.mp h
  refine RT.gf 12 16 2 (pc := 117) (x := a0) (v := v117) hz dX12_girthIn_117 fl_X12_32 rfl hv117 ?_
  refine RT.iload_n (pc := 120) (k := 1) (x := a1) dX12_girthIn_120 rfl ?_
  obtain ⟨v121, hv121, h⟩ := Option.bind_eq_some_iff.mp h
  refine RT.iald (pc := 121) (x := v117) (i := a1) (v := v121) dX12_girthIn_121 (rt_lta hz (by decide) (by decide) hv121) hv121 ?_
  refine RT.iconst (pc := 122) (n := 2) dX12_girthIn_122 ⟨by decide, by decide⟩ ?_
  refine RT.icmp_ne (pc := 123) (tgt := 130) dX12_girthIn_123 rfl (fun q123 => ?_) (fun q123 => ?_)
  · rw [if_neg q123] at h
    refine RT.iconst (pc := 130) (n := 0) dX12_girthIn_130 ⟨by decide, by decide⟩ ?_
    refine RT.wk (L1 := [(9, 0), (9, 0), (9, 0), (9, 0), (9, 0)]) (rt_le_j (rt_le_j (rt_le_s (rt_le_s (rt_le_s rt_le_n))))) ?_
    exact cj_X12_girthIn_131 hz hd ht ((rt_iadd s0 s1)) 0 mem0 _ h hK
  · rw [if_pos (Classical.not_not.mp q123)] at h
    refine RT.iconst (pc := 126) (n := 1) dX12_girthIn_126 ⟨by decide, by decide⟩ ?_
    refine RT.goto (pc := 127) (tgt := 131) dX12_girthIn_127 rfl ?_
    refine RT.wk (L1 := [(9, 0), (9, 0), (9, 0), (9, 0), (9, 0)]) (rt_le_j (rt_le_j (rt_le_s (rt_le_s (rt_le_s rt_le_n))))) ?_
    exact cj_X12_girthIn_131 hz hd ht ((rt_iadd s0 s1)) 1 mem0 _ h hK
theorem cj_X12_girthIn_82 {G : rt_G} {d : Nat} {z : Nat × Nat} {Q : rt_P} (hz : 300 ≤ z.1) (hd : 3 ≤ d) {a0 : Int} (ht : rt_kd a0.toNat = 20 + 12) (a1 : Int) (a2 : Int) (a4 : Int) (mem0 : rt_M) (t : Int × rt_M) (h : j_X12_girthIn_82 a0 a1 a2 a4 mem0 = some t) (hK : Q (some (0, t.1)) z t.2) : RT G M_X12_girthIn d z Q 82 [(2, a0), (0, a1), (0, a2), (9, 0), (0, a4)] [] z mem0 := by
  unfold j_X12_girthIn_82 at h
  refine RT.aload_n (pc := 82) (k := 0) (x := a0) dX12_girthIn_82 rfl ?_
  obtain ⟨v83, hv83, h⟩ := Option.bind_eq_some_iff.mp h
  refine RT.gf 12 17 2 (pc := 83) (x := a0) (v := v83) hz dX12_girthIn_83 fl_X12_35 rfl hv83 ?_
  refine RT.iload_n (pc := 86) (k := 1) (x := a1) dX12_girthIn_86 rfl ?_
  obtain ⟨v87, hv87, h⟩ := Option.bind_eq_some_iff.mp h
  refine RT.iald (pc := 87) (x := v83) (i := a1) (v := v87) dX12_girthIn_87 (rt_lta hz (by decide) (by decide) hv87) hv87 ?_
  refine RT.iload (pc := 88) (k := 4) (x := a4) dX12_girthIn_88 rfl ?_
  refine RT.bipush (pc := 90) (n := (-9)) dX12_girthIn_90 ⟨by decide, by decide⟩ rfl ?_
  refine RT.bipush (pc := 92) (n := 9) dX12_girthIn_92 ⟨by decide, by decide⟩ rfl ?_
  obtain ⟨p94, hp94, h⟩ := Option.bind_eq_some_iff.mp h
  refine RT.cSz (pc := 94) (M' := M_X12_between) (As := [(0, a4), (0, (-9)), (0, 9)]) (st := [(0, v87)]) (r := some (0, p94)) (mem1 := mem0) (d' := d - 1) dX12_girthIn_94 mw_X12_between ml_X12_392 mi_X12_between rfl rfl (Nat.le_of_ble_eq_true rfl) (Nat.le_of_ble_eq_true rfl) (by omega) rfl rfl (c_X12_between hz (by omega) a4 ((-9)) 9 mem0 _ hp94) ?_
  refine RT.iadd (pc := 97) dX12_girthIn_97 ?_
  refine RT.aload_n (pc := 98) (k := 0) (x := a0) dX12_girthIn_98 rfl ?_
  obtain ⟨v99, hv99, h⟩ := Option.bind_eq_some_iff.mp h
  refine RT.gf 12 16 2 (pc := 99) (x := a0) (v := v99) hz dX12_girthIn_99 fl_X12_32 rfl hv99 ?_
  refine RT.iload_n (pc := 102) (k := 1) (x := a1) dX12_girthIn_102 rfl ?_
  obtain ⟨v103, hv103, h⟩ := Option.bind_eq_some_iff.mp h
  refine RT.iald (pc := 103) (x := v99) (i := a1) (v := v103) dX12_girthIn_103 (rt_lta hz (by decide) (by decide) hv103) hv103 ?_
  refine RT.iconst (pc := 104) (n := 3) dX12_girthIn_104 ⟨by decide, by decide⟩ ?_
  refine RT.icmp_ne (pc := 105) (tgt := 114) dX12_girthIn_105 rfl (fun q105 => ?_) (fun q105 => ?_)
  · rw [if_neg q105] at h
    refine RT.iconst (pc := 114) (n := 0) dX12_girthIn_114 ⟨by decide, by decide⟩ ?_
    refine RT.wk (L1 := [(2, a0), (0, a1), (9, 0), (9, 0), (9, 0)]) (rt_le_s (rt_le_s (rt_le_j (rt_le_s (rt_le_j rt_le_n))))) ?_
    exact cj_X12_girthIn_115 hz hd ht a1 ((rt_iadd v87 p94)) 0 mem0 _ h hK
  · rw [if_pos (Classical.not_not.mp q105)] at h
    refine RT.iload_n (pc := 108) (k := 2) (x := a2) dX12_girthIn_108 rfl ?_
    refine RT.iconst (pc := 109) (n := 4) dX12_girthIn_109 ⟨by decide, by decide⟩ ?_
    refine RT.idiv (pc := 110) dX12_girthIn_110 (by decide) ?_
    refine RT.goto (pc := 111) (tgt := 115) dX12_girthIn_111 rfl ?_
    refine RT.wk (L1 := [(2, a0), (0, a1), (9, 0), (9, 0), (9, 0)]) (rt_le_s (rt_le_s (rt_le_j (rt_le_s (rt_le_j rt_le_n))))) ?_
    exact cj_X12_girthIn_115 hz hd ht a1 ((rt_iadd v87 p94)) ((rt_idiv a2 4)) mem0 _ h hK
theorem cj_X12_girthIn_23 {G : rt_G} {d : Nat} {z : Nat × Nat} {Q : rt_P} (hz : 300 ≤ z.1) (hd : 3 ≤ d) {a0 : Int} (ht : rt_kd a0.toNat = 20 + 12) (a1 : Int) (a2 : Int) (a3 : Int) (s0 : Int) (mem0 : rt_M) (t : Int × rt_M) (h : j_X12_girthIn_23 a0 a1 a2 a3 s0 mem0 = some t) (hK : Q (some (0, t.1)) z t.2) : RT G M_X12_girthIn d z Q 23 [(2, a0), (0, a1), (0, a2), (0, a3), (9, 0)] [(0, s0)] z mem0 := by
  unfold j_X12_girthIn_23 at h
  refine RT.istore (pc := 23) (k := 4) (x := s0) (L1 := [(2, a0), (0, a1), (0, a2), (0, a3), (0, s0)]) dX12_girthIn_23 (Nat.le_of_ble_eq_true rfl) rfl ?_
  refine RT.aload_n (pc := 25) (k := 0) (x := a0) dX12_girthIn_25 rfl ?_
  obtain ⟨v26, hv26, h⟩ := Option.bind_eq_some_iff.mp h
  refine RT.gf 12 22 2 (pc := 26) (x := a0) (v := v26) hz dX12_girthIn_26 fl_X12_50 rfl hv26 ?_
  refine RT.iconst (pc := 29) (n := 0) dX12_girthIn_29 ⟨by decide, by decide⟩ ?_
  obtain ⟨v30, hv30, h⟩ := Option.bind_eq_some_iff.mp h
  refine RT.iald (pc := 30) (x := v26) (i := 0) (v := v30) dX12_girthIn_30 (rt_lta hz (by decide) (by decide) hv30) hv30 ?_
  refine RT.aload_n (pc := 31) (k := 0) (x := a0) dX12_girthIn_31 rfl ?_
  obtain ⟨v32, hv32, h⟩ := Option.bind_eq_some_iff.mp h
  refine RT.gf 12 21 2 (pc := 32) (x := a0) (v := v32) hz dX12_girthIn_32 fl_X12_47 rfl hv32 ?_
  refine RT.iconst (pc := 35) (n := 0) dX12_girthIn_35 ⟨by decide, by decide⟩ ?_
  obtain ⟨v36, hv36, h⟩ := Option.bind_eq_some_iff.mp h
  refine RT.iald (pc := 36) (x := v32) (i := 0) (v := v36) dX12_girthIn_36 (rt_lta hz (by decide) (by decide) hv36) hv36 ?_
  refine RT.icmp_le (pc := 37) (tgt := 82) dX12_girthIn_37 rfl (fun q37 => ?_) (fun q37 => ?_)
  · rw [if_pos q37] at h
    refine RT.wk (L1 := [(2, a0), (0, a1), (0, a2), (9, 0), (0, s0)]) (rt_le_s (rt_le_s (rt_le_s (rt_le_j (rt_le_s rt_le_n))))) ?_
    exact cj_X12_girthIn_82 hz hd ht a1 a2 s0 mem0 _ h hK
  · rw [if_neg q37] at h
    refine RT.aload_n (pc := 40) (k := 0) (x := a0) dX12_girthIn_40 rfl ?_
    obtain ⟨v41, hv41, h⟩ := Option.bind_eq_some_iff.mp h
    refine RT.gf 12 38 2 (pc := 41) (x := a0) (v := v41) hz dX12_girthIn_41 fl_X12_90 rfl hv41 ?_
    refine RT.iconst (pc := 44) (n := 1) dX12_girthIn_44 ⟨by decide, by decide⟩ ?_
    refine RT.iload_n (pc := 45) (k := 3) (x := a3) dX12_girthIn_45 rfl ?_
    obtain ⟨m46, hm46, h⟩ := Option.bind_eq_some_iff.mp h
    refine RT.iast (pc := 46) (x := v41) (i := 1) (v := a3) (mem1 := m46) dX12_girthIn_46 (rt_lts hz (by decide) (by decide) hm46) hm46 ?_
    refine RT.aload_n (pc := 47) (k := 0) (x := a0) dX12_girthIn_47 rfl ?_
    obtain ⟨v48, hv48, h⟩ := Option.bind_eq_some_iff.mp h
    refine RT.gf 12 38 2 (pc := 48) (x := a0) (v := v48) hz dX12_girthIn_48 fl_X12_90 rfl hv48 ?_
    refine RT.iconst (pc := 51) (n := 2) dX12_girthIn_51 ⟨by decide, by decide⟩ ?_
    refine RT.aload_n (pc := 52) (k := 0) (x := a0) dX12_girthIn_52 rfl ?_
    obtain ⟨v53, hv53, h⟩ := Option.bind_eq_some_iff.mp h
    refine RT.gf 12 18 2 (pc := 53) (x := a0) (v := v53) hz dX12_girthIn_53 fl_X12_38 rfl hv53 ?_
    refine RT.iload_n (pc := 56) (k := 1) (x := a1) dX12_girthIn_56 rfl ?_
    obtain ⟨v57, hv57, h⟩ := Option.bind_eq_some_iff.mp h
    refine RT.iald (pc := 57) (x := v53) (i := a1) (v := v57) dX12_girthIn_57 (rt_lta hz (by decide) (by decide) hv57) hv57 ?_
    refine RT.iload_n (pc := 58) (k := 2) (x := a2) dX12_girthIn_58 rfl ?_
    refine RT.iconst (pc := 59) (n := 4) dX12_girthIn_59 ⟨by decide, by decide⟩ ?_
    refine RT.idiv (pc := 60) dX12_girthIn_60 (by decide) ?_
    refine RT.iadd (pc := 61) dX12_girthIn_61 ?_
    obtain ⟨m62, hm62, h⟩ := Option.bind_eq_some_iff.mp h
    refine RT.iast (pc := 62) (x := v48) (i := 2) (v := (rt_iadd v57 (rt_idiv a2 4))) (mem1 := m62) dX12_girthIn_62 (rt_lts hz (by decide) (by decide) hm62) hm62 ?_
    refine RT.aload_n (pc := 63) (k := 0) (x := a0) dX12_girthIn_63 rfl ?_
    obtain ⟨v64, hv64, h⟩ := Option.bind_eq_some_iff.mp h
    refine RT.gf 12 38 2 (pc := 64) (x := a0) (v := v64) hz dX12_girthIn_64 fl_X12_90 rfl hv64 ?_
    refine RT.iconst (pc := 67) (n := 3) dX12_girthIn_67 ⟨by decide, by decide⟩ ?_
    refine RT.aload_n (pc := 68) (k := 0) (x := a0) dX12_girthIn_68 rfl ?_
    obtain ⟨v69, hv69, h⟩ := Option.bind_eq_some_iff.mp h
    refine RT.gf 12 16 2 (pc := 69) (x := a0) (v := v69) hz dX12_girthIn_69 fl_X12_32 rfl hv69 ?_
    refine RT.iload_n (pc := 72) (k := 1) (x := a1) dX12_girthIn_72 rfl ?_
    obtain ⟨v73, hv73, h⟩ := Option.bind_eq_some_iff.mp h
    refine RT.iald (pc := 73) (x := v69) (i := a1) (v := v73) dX12_girthIn_73 (rt_lta hz (by decide) (by decide) hv73) hv73 ?_
    obtain ⟨m74, hm74, h⟩ := Option.bind_eq_some_iff.mp h
    refine RT.iast (pc := 74) (x := v64) (i := 3) (v := v73) (mem1 := m74) dX12_girthIn_74 (rt_lts hz (by decide) (by decide) hm74) hm74 ?_
    refine RT.aload_n (pc := 75) (k := 0) (x := a0) dX12_girthIn_75 rfl ?_
    refine RT.iconst (pc := 76) (n := 0) dX12_girthIn_76 ⟨by decide, by decide⟩ ?_
    obtain ⟨p77, hp77, h⟩ := Option.bind_eq_some_iff.mp h
    refine RT.cVz (pc := 77) (M' := M_X12_worked) (ci := 12) (x := a0) (As := [(0, 0)]) (st := []) (r := some (0, p77.1)) (mem1 := p77.2) (d' := d - 1) hz dX12_girthIn_77 mw_X12_worked ml_X12_389 mi_X12_worked ht rfl rfl (Nat.le_of_ble_eq_true rfl) (Nat.le_of_ble_eq_true rfl) (by omega) rfl rfl (c_X12_worked hz (by omega) a0 0 m74 _ ht hp77) ?_
    refine RT.istore (pc := 80) (k := 4) (x := p77.1) (L1 := [(2, a0), (0, a1), (0, a2), (0, a3), (0, p77.1)]) dX12_girthIn_80 (Nat.le_of_ble_eq_true rfl) rfl ?_
    refine RT.wk (L1 := [(2, a0), (0, a1), (0, a2), (9, 0), (0, p77.1)]) (rt_le_s (rt_le_s (rt_le_s (rt_le_j (rt_le_s rt_le_n))))) ?_
    exact cj_X12_girthIn_82 hz hd ht a1 a2 p77.1 p77.2 _ h hK
theorem c_X12_girthIn {G : rt_G} {d : Nat} {z : Nat × Nat} (hz : 300 ≤ z.1) (hd : 3 ≤ d) (a0 : Int) (a1 : Int) (a2 : Int) (mem0 : rt_M) (t : Int × rt_M) (ht : rt_kd a0.toNat = 20 + 12) (h : f_X12_girthIn a0 a1 a2 mem0 = some t) : RM G M_X12_girthIn d [(2, a0), (0, a1), (0, a2)] z mem0 (some (0, t.1)) t.2 := by
  suffices H : ∀ Q : rt_P, Q (some (0, t.1)) z t.2 → RT G M_X12_girthIn d z Q 0 [(2, a0), (0, a1), (0, a2), (9, 0), (9, 0)] [] z mem0 from H _ ⟨rfl, rfl, rfl⟩
  intro Q hK
  unfold f_X12_girthIn at h
  refine RT.aload_n (pc := 0) (k := 0) (x := a0) dX12_girthIn_0 rfl ?_
  refine RT.iload_n (pc := 1) (k := 2) (x := a2) dX12_girthIn_1 rfl ?_
  obtain ⟨p2, hp2, h⟩ := Option.bind_eq_some_iff.mp h
  refine RT.cVz (pc := 2) (M' := M_X12_heatIn) (ci := 12) (x := a0) (As := [(0, a2)]) (st := []) (r := some (0, p2)) (mem1 := mem0) (d' := d - 1) hz dX12_girthIn_2 mw_X12_heatIn ml_X12_386 mi_X12_heatIn ht rfl rfl (Nat.le_of_ble_eq_true rfl) (Nat.le_of_ble_eq_true rfl) (by omega) rfl rfl (c_X12_heatIn hz (by omega) a0 a2 mem0 _ ht hp2) ?_
  refine RT.istore_n (pc := 5) (k := 3) (x := p2) (L1 := [(2, a0), (0, a1), (0, a2), (0, p2), (9, 0)]) dX12_girthIn_5 (Nat.le_of_ble_eq_true rfl) rfl ?_
  refine RT.aload_n (pc := 6) (k := 0) (x := a0) dX12_girthIn_6 rfl ?_
  obtain ⟨v7, hv7, h⟩ := Option.bind_eq_some_iff.mp h
  refine RT.gf 12 16 2 (pc := 7) (x := a0) (v := v7) hz dX12_girthIn_7 fl_X12_32 rfl hv7 ?_
  refine RT.iload_n (pc := 10) (k := 1) (x := a1) dX12_girthIn_10 rfl ?_
  obtain ⟨v11, hv11, h⟩ := Option.bind_eq_some_iff.mp h
  refine RT.iald (pc := 11) (x := v7) (i := a1) (v := v11) dX12_girthIn_11 (rt_lta hz (by decide) (by decide) hv11) hv11 ?_
  refine RT.iconst (pc := 12) (n := 1) dX12_girthIn_12 ⟨by decide, by decide⟩ ?_
  refine RT.icmp_ne (pc := 13) (tgt := 22) dX12_girthIn_13 rfl (fun q13 => ?_) (fun q13 => ?_)
  · rw [if_neg q13] at h
    refine RT.iload_n (pc := 22) (k := 3) (x := p2) dX12_girthIn_22 rfl ?_
    exact cj_X12_girthIn_23 hz hd ht a1 a2 p2 p2 mem0 _ h hK
  · rw [if_pos (Classical.not_not.mp q13)] at h
    refine RT.iconst (pc := 16) (n := 2) dX12_girthIn_16 ⟨by decide, by decide⟩ ?_
    refine RT.iload_n (pc := 17) (k := 3) (x := p2) dX12_girthIn_17 rfl ?_
    refine RT.imul (pc := 18) dX12_girthIn_18 ?_
    refine RT.goto (pc := 19) (tgt := 23) dX12_girthIn_19 rfl ?_
    exact cj_X12_girthIn_23 hz hd ht a1 a2 p2 ((rt_imul 2 p2)) mem0 _ h hK
theorem c_X12_tiltIn {G : rt_G} {d : Nat} {z : Nat × Nat} (hz : 300 ≤ z.1) (hd : 4 ≤ d) (a0 : Int) (a1 : Int) (a2 : Int) (a3 : Int) (mem0 : rt_M) (t : Int × rt_M) (ht : rt_kd a0.toNat = 20 + 12) (h : f_X12_tiltIn a0 a1 a2 a3 mem0 = some t) : RM G M_X12_tiltIn d [(2, a0), (0, a1), (0, a2), (0, a3)] z mem0 (some (0, t.1)) t.2 := by
  suffices H : ∀ Q : rt_P, Q (some (0, t.1)) z t.2 → RT G M_X12_tiltIn d z Q 0 [(2, a0), (0, a1), (0, a2), (0, a3)] [] z mem0 from H _ ⟨rfl, rfl, rfl⟩
  intro Q hK
  unfold f_X12_tiltIn at h
  refine RT.aload_n (pc := 0) (k := 0) (x := a0) dX12_tiltIn_0 rfl ?_
  obtain ⟨v1, hv1, h⟩ := Option.bind_eq_some_iff.mp h
  refine RT.gf 12 13 2 (pc := 1) (x := a0) (v := v1) hz dX12_tiltIn_1 fl_X12_23 rfl hv1 ?_
  refine RT.iload_n (pc := 4) (k := 1) (x := a1) dX12_tiltIn_4 rfl ?_
  obtain ⟨v5, hv5, h⟩ := Option.bind_eq_some_iff.mp h
  refine RT.iald (pc := 5) (x := v1) (i := a1) (v := v5) dX12_tiltIn_5 (rt_lta hz (by decide) (by decide) hv5) hv5 ?_
  refine RT.aload_n (pc := 6) (k := 0) (x := a0) dX12_tiltIn_6 rfl ?_
  refine RT.iload_n (pc := 7) (k := 2) (x := a2) dX12_tiltIn_7 rfl ?_
  refine RT.iload_n (pc := 8) (k := 3) (x := a3) dX12_tiltIn_8 rfl ?_
  obtain ⟨p9, hp9, h⟩ := Option.bind_eq_some_iff.mp h
  refine RT.cVz (pc := 9) (M' := M_X12_girthIn) (ci := 12) (x := a0) (As := [(0, a2), (0, a3)]) (st := [(0, v5)]) (r := some (0, p9.1)) (mem1 := p9.2) (d' := d - 1) hz dX12_tiltIn_9 mw_X12_girthIn ml_X12_396 mi_X12_girthIn ht rfl rfl (Nat.le_of_ble_eq_true rfl) (Nat.le_of_ble_eq_true rfl) (by omega) rfl rfl (c_X12_girthIn hz (by omega) a0 a2 a3 mem0 _ ht hp9) ?_
  refine RT.isub (pc := 12) dX12_tiltIn_12 ?_
  obtain rfl := Option.some.inj h
  exact RT.iret (pc := 13) dX12_tiltIn_13 rfl (Nat.le_of_eq (rt_cells_0 z)) (Nat.le_of_eq (rt_slots_0 z)) hK
theorem c_X12_fitsIn {G : rt_G} {d : Nat} {z : Nat × Nat} (hz : 300 ≤ z.1) (hd : 5 ≤ d) (a0 : Int) (a1 : Int) (a2 : Int) (a3 : Int) (mem0 : rt_M) (t : Int × rt_M) (ht : rt_kd a0.toNat = 20 + 12) (h : f_X12_fitsIn a0 a1 a2 a3 mem0 = some t) : RM G M_X12_fitsIn d [(2, a0), (0, a1), (0, a2), (0, a3)] z mem0 (some (0, t.1)) t.2 := by
  suffices H : ∀ Q : rt_P, Q (some (0, t.1)) z t.2 → RT G M_X12_fitsIn d z Q 0 [(2, a0), (0, a1), (0, a2), (0, a3)] [] z mem0 from H _ ⟨rfl, rfl, rfl⟩
  intro Q hK
  unfold f_X12_fitsIn at h
  refine RT.aload_n (pc := 0) (k := 0) (x := a0) dX12_fitsIn_0 rfl ?_
  refine RT.iload_n (pc := 1) (k := 1) (x := a1) dX12_fitsIn_1 rfl ?_
  refine RT.iload_n (pc := 2) (k := 2) (x := a2) dX12_fitsIn_2 rfl ?_
  refine RT.iload_n (pc := 3) (k := 3) (x := a3) dX12_fitsIn_3 rfl ?_
  obtain ⟨p4, hp4, h⟩ := Option.bind_eq_some_iff.mp h
  refine RT.cVz (pc := 4) (M' := M_X12_tiltIn) (ci := 12) (x := a0) (As := [(0, a1), (0, a2), (0, a3)]) (st := []) (r := some (0, p4.1)) (mem1 := p4.2) (d' := d - 1) hz dX12_fitsIn_4 mw_X12_tiltIn ml_X12_400 mi_X12_tiltIn ht rfl rfl (Nat.le_of_ble_eq_true rfl) (Nat.le_of_ble_eq_true rfl) (by omega) rfl rfl (c_X12_tiltIn hz (by omega) a0 a1 a2 a3 mem0 _ ht hp4) ?_
  refine RT.iconst (pc := 7) (n := 0) dX12_fitsIn_7 ⟨by decide, by decide⟩ ?_
  refine RT.aload_n (pc := 8) (k := 0) (x := a0) dX12_fitsIn_8 rfl ?_
  obtain ⟨v9, hv9, h⟩ := Option.bind_eq_some_iff.mp h
  refine RT.gf 12 10 2 (pc := 9) (x := a0) (v := v9) hz dX12_fitsIn_9 fl_X12_13 rfl hv9 ?_
  refine RT.iconst (pc := 12) (n := 2) dX12_fitsIn_12 ⟨by decide, by decide⟩ ?_
  obtain ⟨v13, hv13, h⟩ := Option.bind_eq_some_iff.mp h
  refine RT.iald (pc := 13) (x := v9) (i := 2) (v := v13) dX12_fitsIn_13 (rt_lta hz (by decide) (by decide) hv13) hv13 ?_
  obtain ⟨p14, hp14, h⟩ := Option.bind_eq_some_iff.mp h
  refine RT.cSz (pc := 14) (M' := M_X12_within) (As := [(0, p4.1), (0, 0), (0, v13)]) (st := []) (r := some (0, p14)) (mem1 := p4.2) (d' := d - 1) dX12_fitsIn_14 mw_X12_within ml_X12_301 mi_X12_within rfl rfl (Nat.le_of_ble_eq_true rfl) (Nat.le_of_ble_eq_true rfl) (by omega) rfl rfl (c_X12_within hz (by omega) p4.1 0 v13 p4.2 _ hp14) ?_
  obtain ⟨w17, hw17, h⟩ := Option.bind_eq_some_iff.mp h
  obtain rfl := Option.some.inj h
  exact RT.zret (pc := 17) dX12_fitsIn_17 rfl (rt_bz_ok hw17) (Nat.le_of_eq (rt_cells_0 z)) (Nat.le_of_eq (rt_slots_0 z)) hK
theorem cb_X12_wigOn_2 {G : rt_G} {d : Nat} {z : Nat × Nat} {Q : rt_P} (hz : 300 ≤ z.1) (hd : 0 ≤ d) {a0 : Int} (ht : rt_kd a0.toNat = 20 + 12) (a1 : Int) (mem0 : rt_M) (s : Int) (t : (Int) ⊕ ((Unit) ⊕ (Int))) (h : b_X12_wigOn_2 a0 a1 mem0 s = some t) (hK : (∀ s1 : Int, t = .inl s1 → RT G M_X12_wigOn d z Q 2 [(2, a0), (0, a1), (0, s1)] [] z mem0) ∧ (∀ x1 : Unit, t = .inr (.inl x1) → RT G M_X12_wigOn d z Q 32 [(9, 0), (9, 0), (9, 0)] [] z mem0) ∧ (∀ t1 : Int, t = .inr (.inr t1) → Q (some (0, t1)) z mem0)) : RT G M_X12_wigOn d z Q 2 [(2, a0), (0, a1), (0, s)] [] z mem0 := by
  unfold b_X12_wigOn_2 at h
  refine RT.iload_n (pc := 2) (k := 2) (x := s) dX12_wigOn_2 rfl ?_
  refine RT.aload_n (pc := 3) (k := 0) (x := a0) dX12_wigOn_3 rfl ?_
  obtain ⟨v4, hv4, h⟩ := Option.bind_eq_some_iff.mp h
  refine RT.gf 12 10 2 (pc := 4) (x := a0) (v := v4) hz dX12_wigOn_4 fl_X12_13 rfl hv4 ?_
  refine RT.iconst (pc := 7) (n := 0) dX12_wigOn_7 ⟨by decide, by decide⟩ ?_
  obtain ⟨v8, hv8, h⟩ := Option.bind_eq_some_iff.mp h
  refine RT.iald (pc := 8) (x := v4) (i := 0) (v := v8) dX12_wigOn_8 (rt_lta hz (by decide) (by decide) hv8) hv8 ?_
  refine RT.icmp_ge (pc := 9) (tgt := 32) dX12_wigOn_9 rfl (fun q9 => ?_) (fun q9 => ?_)
  · rw [if_pos q9] at h
    refine RT.wk (L1 := [(9, 0), (9, 0), (9, 0)]) (rt_le_j (rt_le_j (rt_le_j rt_le_n))) ?_
    obtain rfl := Option.some.inj h
    have q1 := hK.2.1 () rfl
    try dsimp only at q1
    exact q1
  · rw [if_neg q9] at h
    refine RT.aload_n (pc := 12) (k := 0) (x := a0) dX12_wigOn_12 rfl ?_
    obtain ⟨v13, hv13, h⟩ := Option.bind_eq_some_iff.mp h
    refine RT.gf 12 50 2 (pc := 13) (x := a0) (v := v13) hz dX12_wigOn_13 fl_X12_120 rfl hv13 ?_
    refine RT.iconst (pc := 16) (n := 1) dX12_wigOn_16 ⟨by decide, by decide⟩ ?_
    refine RT.iload_n (pc := 17) (k := 2) (x := s) dX12_wigOn_17 rfl ?_
    refine RT.iadd (pc := 18) dX12_wigOn_18 ?_
    obtain ⟨v19, hv19, h⟩ := Option.bind_eq_some_iff.mp h
    refine RT.iald (pc := 19) (x := v13) (i := (rt_iadd 1 s)) (v := v19) dX12_wigOn_19 (rt_lta hz (by decide) (by decide) hv19) hv19 ?_
    refine RT.iload_n (pc := 20) (k := 1) (x := a1) dX12_wigOn_20 rfl ?_
    refine RT.icmp_ne (pc := 21) (tgt := 26) dX12_wigOn_21 rfl (fun q21 => ?_) (fun q21 => ?_)
    · rw [if_neg q21] at h
      refine RT.iinc (pc := 26) (x := s) (L1 := [(2, a0), (0, a1), (0, (rt_iadd s 1))]) dX12_wigOn_26 rfl (Nat.le_of_ble_eq_true rfl) ⟨by decide, by decide⟩ rfl ?_
      refine RT.goto (pc := 29) (tgt := 2) dX12_wigOn_29 rfl ?_
      obtain rfl := Option.some.inj h
      have q1 := hK.1 ((rt_iadd s 1)) rfl
      try dsimp only at q1
      exact q1
    · rw [if_pos (Classical.not_not.mp q21)] at h
      obtain ⟨t2, g2, e2⟩ := Option.map_eq_some_iff.mp h
      subst e2
      replace h := g2
      replace hK := hK.2.2 t2 rfl
      refine RT.iload_n (pc := 24) (k := 2) (x := s) dX12_wigOn_24 rfl ?_
      obtain rfl := Option.some.inj h
      exact RT.iret (pc := 25) dX12_wigOn_25 rfl (Nat.le_of_eq (rt_cells_0 z)) (Nat.le_of_eq (rt_slots_0 z)) hK
theorem c_X12_wigOn {G : rt_G} {d : Nat} {z : Nat × Nat} (hz : 300 ≤ z.1) (hd : 0 ≤ d) (a0 : Int) (a1 : Int) (mem0 : rt_M) (t : Int) (ht : rt_kd a0.toNat = 20 + 12) (h : f_X12_wigOn a0 a1 mem0 = some t) : RM G M_X12_wigOn d [(2, a0), (0, a1)] z mem0 (some (0, t)) mem0 := by
  suffices H : ∀ Q : rt_P, Q (some (0, t)) z mem0 → RT G M_X12_wigOn d z Q 0 [(2, a0), (0, a1), (9, 0)] [] z mem0 from H _ ⟨rfl, rfl, rfl⟩
  intro Q hK
  unfold f_X12_wigOn at h
  refine RT.iconst (pc := 0) (n := 0) dX12_wigOn_0 ⟨by decide, by decide⟩ ?_
  refine RT.istore_n (pc := 1) (k := 2) (x := 0) (L1 := [(2, a0), (0, a1), (0, 0)]) dX12_wigOn_1 (Nat.le_of_ble_eq_true rfl) rfl ?_
  obtain ⟨E2, hE2, h⟩ := Option.bind_eq_some_iff.mp h
  refine rt_it_ind (P := (fun s1 : Int => RT G M_X12_wigOn d z Q 2 [(2, a0), (0, a1), (0, s1)] [] z mem0)) (X := (fun e1 : (Unit) ⊕ (Int) => (∀ x1 : Unit, e1 = .inl x1 → RT G M_X12_wigOn d z Q 32 [(9, 0), (9, 0), (9, 0)] [] z mem0) ∧ (∀ t1 : Int, e1 = .inr t1 → Q (some (0, t1)) z mem0))) (fun s1 t1 h1 k1 k2 => cb_X12_wigOn_2 hz hd ht a1 mem0 s1 t1 h1 ⟨k1, fun x1 q => (k2 _ q).1 x1 rfl, fun t2 q => (k2 _ q).2 t2 rfl⟩) 4000 0 E2 hE2 ?_
  cases E2 with
  | inr t1 =>
    obtain rfl := Option.some.inj h
    exact ⟨fun x1 q => (by cases q), fun t2 q => (by cases q; exact hK)⟩
  | inl X2 =>
    refine ⟨fun x1 q => ?_, fun t2 q => (by cases q)⟩
    cases q
    refine RT.iconst (pc := 32) (n := (-1)) dX12_wigOn_32 ⟨by decide, by decide⟩ ?_
    obtain rfl := Option.some.inj h
    exact RT.iret (pc := 33) dX12_wigOn_33 rfl (Nat.le_of_eq (rt_cells_0 z)) (Nat.le_of_eq (rt_slots_0 z)) hK
theorem cj_X12_onHeads_33_4 {G : rt_G} {d : Nat} {z : Nat × Nat} {Q : rt_P} (hz : 300 ≤ z.1) (hd : 0 ≤ d) {a0 : Int} (ht : rt_kd a0.toNat = 20 + 12) (a2 : Int) (s0 : Int) (s1 : Int) (mem0 : rt_M) (t : (Int × Int) ⊕ (Int)) (h : j_X12_onHeads_33_4 a0 a2 s0 s1 mem0 = some t) (hK : (∀ s1 : Int × Int, t = .inl s1 → RT G M_X12_onHeads d z Q 4 [(2, a0), (0, s1.1), (0, s1.2)] [] z mem0) ∧ (∀ x1 : Int, t = .inr x1 → RT G M_X12_onHeads d z Q 41 [(9, 0), (0, x1), (9, 0)] [] z mem0)) : RT G M_X12_onHeads d z Q 33 [(2, a0), (9, 0), (0, a2)] [(0, s1), (0, s0)] z mem0 := by
  unfold j_X12_onHeads_33_4 at h
  refine RT.ior (pc := 33) dX12_onHeads_33 ?_
  refine RT.istore_n (pc := 34) (k := 1) (x := (rt_ior s0 s1)) (L1 := [(2, a0), (0, (rt_ior s0 s1)), (0, a2)]) dX12_onHeads_34 (Nat.le_of_ble_eq_true rfl) rfl ?_
  refine RT.iinc (pc := 35) (x := a2) (L1 := [(2, a0), (0, (rt_ior s0 s1)), (0, (rt_iadd a2 1))]) dX12_onHeads_35 rfl (Nat.le_of_ble_eq_true rfl) ⟨by decide, by decide⟩ rfl ?_
  refine RT.goto (pc := 38) (tgt := 4) dX12_onHeads_38 rfl ?_
  obtain rfl := Option.some.inj h
  have q1 := hK.1 (((rt_ior s0 s1), (rt_iadd a2 1))) rfl
  try dsimp only at q1
  exact q1
theorem cb_X12_onHeads_4 {G : rt_G} {d : Nat} {z : Nat × Nat} {Q : rt_P} (hz : 300 ≤ z.1) (hd : 0 ≤ d) {a0 : Int} (ht : rt_kd a0.toNat = 20 + 12) (mem0 : rt_M) (s : Int × Int) (t : (Int × Int) ⊕ (Int)) (h : b_X12_onHeads_4 a0 mem0 s = some t) (hK : (∀ s1 : Int × Int, t = .inl s1 → RT G M_X12_onHeads d z Q 4 [(2, a0), (0, s1.1), (0, s1.2)] [] z mem0) ∧ (∀ x1 : Int, t = .inr x1 → RT G M_X12_onHeads d z Q 41 [(9, 0), (0, x1), (9, 0)] [] z mem0)) : RT G M_X12_onHeads d z Q 4 [(2, a0), (0, s.1), (0, s.2)] [] z mem0 := by
  unfold b_X12_onHeads_4 at h
  refine RT.iload_n (pc := 4) (k := 2) (x := s.2) dX12_onHeads_4 rfl ?_
  refine RT.aload_n (pc := 5) (k := 0) (x := a0) dX12_onHeads_5 rfl ?_
  obtain ⟨v6, hv6, h⟩ := Option.bind_eq_some_iff.mp h
  refine RT.gf 12 10 2 (pc := 6) (x := a0) (v := v6) hz dX12_onHeads_6 fl_X12_13 rfl hv6 ?_
  refine RT.iconst (pc := 9) (n := 0) dX12_onHeads_9 ⟨by decide, by decide⟩ ?_
  obtain ⟨v10, hv10, h⟩ := Option.bind_eq_some_iff.mp h
  refine RT.iald (pc := 10) (x := v6) (i := 0) (v := v10) dX12_onHeads_10 (rt_lta hz (by decide) (by decide) hv10) hv10 ?_
  refine RT.icmp_ge (pc := 11) (tgt := 41) dX12_onHeads_11 rfl (fun q11 => ?_) (fun q11 => ?_)
  · rw [if_pos q11] at h
    refine RT.wk (L1 := [(9, 0), (0, s.1), (9, 0)]) (rt_le_j (rt_le_s (rt_le_j rt_le_n))) ?_
    obtain rfl := Option.some.inj h
    have q1 := hK.2 s.1 rfl
    try dsimp only at q1
    exact q1
  · rw [if_neg q11] at h
    refine RT.iload_n (pc := 14) (k := 1) (x := s.1) dX12_onHeads_14 rfl ?_
    refine RT.aload_n (pc := 15) (k := 0) (x := a0) dX12_onHeads_15 rfl ?_
    obtain ⟨v16, hv16, h⟩ := Option.bind_eq_some_iff.mp h
    refine RT.gf 12 50 2 (pc := 16) (x := a0) (v := v16) hz dX12_onHeads_16 fl_X12_120 rfl hv16 ?_
    refine RT.iconst (pc := 19) (n := 1) dX12_onHeads_19 ⟨by decide, by decide⟩ ?_
    refine RT.iload_n (pc := 20) (k := 2) (x := s.2) dX12_onHeads_20 rfl ?_
    refine RT.iadd (pc := 21) dX12_onHeads_21 ?_
    obtain ⟨v22, hv22, h⟩ := Option.bind_eq_some_iff.mp h
    refine RT.iald (pc := 22) (x := v16) (i := (rt_iadd 1 s.2)) (v := v22) dX12_onHeads_22 (rt_lta hz (by decide) (by decide) hv22) hv22 ?_
    refine RT.if_lt (pc := 23) (tgt := 32) dX12_onHeads_23 rfl (fun q23 => ?_) (fun q23 => ?_)
    · rw [if_pos q23] at h
      refine RT.iconst (pc := 32) (n := 0) dX12_onHeads_32 ⟨by decide, by decide⟩ ?_
      refine RT.wk (L1 := [(2, a0), (9, 0), (0, s.2)]) (rt_le_s (rt_le_j (rt_le_s rt_le_n))) ?_
      exact cj_X12_onHeads_33_4 hz hd ht s.2 s.1 0 mem0 _ h hK
    · rw [if_neg q23] at h
      refine RT.iconst (pc := 26) (n := 1) dX12_onHeads_26 ⟨by decide, by decide⟩ ?_
      refine RT.iload_n (pc := 27) (k := 2) (x := s.2) dX12_onHeads_27 rfl ?_
      refine RT.ishl (pc := 28) dX12_onHeads_28 ?_
      refine RT.goto (pc := 29) (tgt := 33) dX12_onHeads_29 rfl ?_
      refine RT.wk (L1 := [(2, a0), (9, 0), (0, s.2)]) (rt_le_s (rt_le_j (rt_le_s rt_le_n))) ?_
      exact cj_X12_onHeads_33_4 hz hd ht s.2 s.1 ((rt_ishl 1 s.2)) mem0 _ h hK
theorem c_X12_onHeads {G : rt_G} {d : Nat} {z : Nat × Nat} (hz : 300 ≤ z.1) (hd : 0 ≤ d) (a0 : Int) (mem0 : rt_M) (t : Int) (ht : rt_kd a0.toNat = 20 + 12) (h : f_X12_onHeads a0 mem0 = some t) : RM G M_X12_onHeads d [(2, a0)] z mem0 (some (0, t)) mem0 := by
  suffices H : ∀ Q : rt_P, Q (some (0, t)) z mem0 → RT G M_X12_onHeads d z Q 0 [(2, a0), (9, 0), (9, 0)] [] z mem0 from H _ ⟨rfl, rfl, rfl⟩
  intro Q hK
  unfold f_X12_onHeads at h
  refine RT.iconst (pc := 0) (n := 0) dX12_onHeads_0 ⟨by decide, by decide⟩ ?_
  refine RT.istore_n (pc := 1) (k := 1) (x := 0) (L1 := [(2, a0), (0, 0), (9, 0)]) dX12_onHeads_1 (Nat.le_of_ble_eq_true rfl) rfl ?_
  refine RT.iconst (pc := 2) (n := 0) dX12_onHeads_2 ⟨by decide, by decide⟩ ?_
  refine RT.istore_n (pc := 3) (k := 2) (x := 0) (L1 := [(2, a0), (0, 0), (0, 0)]) dX12_onHeads_3 (Nat.le_of_ble_eq_true rfl) rfl ?_
  obtain ⟨X4, hX4, h⟩ := Option.bind_eq_some_iff.mp h
  refine rt_it_ind (P := (fun s1 : Int × Int => RT G M_X12_onHeads d z Q 4 [(2, a0), (0, s1.1), (0, s1.2)] [] z mem0)) (X := (fun x1 : Int => RT G M_X12_onHeads d z Q 41 [(9, 0), (0, x1), (9, 0)] [] z mem0)) (fun s1 t1 h1 k1 k2 => cb_X12_onHeads_4 hz hd ht mem0 s1 t1 h1 ⟨k1, k2⟩) 4000 ((0, 0)) X4 hX4 ?_
  refine RT.iload_n (pc := 41) (k := 1) (x := X4) dX12_onHeads_41 rfl ?_
  obtain rfl := Option.some.inj h
  exact RT.iret (pc := 42) dX12_onHeads_42 rfl (Nat.le_of_eq (rt_cells_0 z)) (Nat.le_of_eq (rt_slots_0 z)) hK
theorem cj_X12_wornOut_36_4 {G : rt_G} {d : Nat} {z : Nat × Nat} {Q : rt_P} (hz : 300 ≤ z.1) (hd : 0 ≤ d) {a0 : Int} (ht : rt_kd a0.toNat = 20 + 12) (a2 : Int) (s0 : Int) (s1 : Int) (mem0 : rt_M) (t : (Int × Int) ⊕ (Int)) (h : j_X12_wornOut_36_4 a0 a2 s0 s1 mem0 = some t) (hK : (∀ s1 : Int × Int, t = .inl s1 → RT G M_X12_wornOut d z Q 4 [(2, a0), (0, s1.1), (0, s1.2)] [] z mem0) ∧ (∀ x1 : Int, t = .inr x1 → RT G M_X12_wornOut d z Q 44 [(9, 0), (0, x1), (9, 0)] [] z mem0)) : RT G M_X12_wornOut d z Q 36 [(2, a0), (9, 0), (0, a2)] [(0, s1), (0, s0)] z mem0 := by
  unfold j_X12_wornOut_36_4 at h
  refine RT.ior (pc := 36) dX12_wornOut_36 ?_
  refine RT.istore_n (pc := 37) (k := 1) (x := (rt_ior s0 s1)) (L1 := [(2, a0), (0, (rt_ior s0 s1)), (0, a2)]) dX12_wornOut_37 (Nat.le_of_ble_eq_true rfl) rfl ?_
  refine RT.iinc (pc := 38) (x := a2) (L1 := [(2, a0), (0, (rt_ior s0 s1)), (0, (rt_iadd a2 1))]) dX12_wornOut_38 rfl (Nat.le_of_ble_eq_true rfl) ⟨by decide, by decide⟩ rfl ?_
  refine RT.goto (pc := 41) (tgt := 4) dX12_wornOut_41 rfl ?_
  obtain rfl := Option.some.inj h
  have q1 := hK.1 (((rt_ior s0 s1), (rt_iadd a2 1))) rfl
  try dsimp only at q1
  exact q1
theorem cb_X12_wornOut_4 {G : rt_G} {d : Nat} {z : Nat × Nat} {Q : rt_P} (hz : 300 ≤ z.1) (hd : 0 ≤ d) {a0 : Int} (ht : rt_kd a0.toNat = 20 + 12) (mem0 : rt_M) (s : Int × Int) (t : (Int × Int) ⊕ (Int)) (h : b_X12_wornOut_4 a0 mem0 s = some t) (hK : (∀ s1 : Int × Int, t = .inl s1 → RT G M_X12_wornOut d z Q 4 [(2, a0), (0, s1.1), (0, s1.2)] [] z mem0) ∧ (∀ x1 : Int, t = .inr x1 → RT G M_X12_wornOut d z Q 44 [(9, 0), (0, x1), (9, 0)] [] z mem0)) : RT G M_X12_wornOut d z Q 4 [(2, a0), (0, s.1), (0, s.2)] [] z mem0 := by
  unfold b_X12_wornOut_4 at h
  refine RT.iload_n (pc := 4) (k := 2) (x := s.2) dX12_wornOut_4 rfl ?_
  refine RT.aload_n (pc := 5) (k := 0) (x := a0) dX12_wornOut_5 rfl ?_
  obtain ⟨v6, hv6, h⟩ := Option.bind_eq_some_iff.mp h
  refine RT.gf 12 10 2 (pc := 6) (x := a0) (v := v6) hz dX12_wornOut_6 fl_X12_13 rfl hv6 ?_
  refine RT.iconst (pc := 9) (n := 0) dX12_wornOut_9 ⟨by decide, by decide⟩ ?_
  obtain ⟨v10, hv10, h⟩ := Option.bind_eq_some_iff.mp h
  refine RT.iald (pc := 10) (x := v6) (i := 0) (v := v10) dX12_wornOut_10 (rt_lta hz (by decide) (by decide) hv10) hv10 ?_
  refine RT.icmp_ge (pc := 11) (tgt := 44) dX12_wornOut_11 rfl (fun q11 => ?_) (fun q11 => ?_)
  · rw [if_pos q11] at h
    refine RT.wk (L1 := [(9, 0), (0, s.1), (9, 0)]) (rt_le_j (rt_le_s (rt_le_j rt_le_n))) ?_
    obtain rfl := Option.some.inj h
    have q1 := hK.2 s.1 rfl
    try dsimp only at q1
    exact q1
  · rw [if_neg q11] at h
    refine RT.iload_n (pc := 14) (k := 1) (x := s.1) dX12_wornOut_14 rfl ?_
    refine RT.aload_n (pc := 15) (k := 0) (x := a0) dX12_wornOut_15 rfl ?_
    obtain ⟨v16, hv16, h⟩ := Option.bind_eq_some_iff.mp h
    refine RT.gf 12 50 2 (pc := 16) (x := a0) (v := v16) hz dX12_wornOut_16 fl_X12_120 rfl hv16 ?_
    refine RT.bipush (pc := 19) (n := 7) dX12_wornOut_19 ⟨by decide, by decide⟩ rfl ?_
    refine RT.iload_n (pc := 21) (k := 2) (x := s.2) dX12_wornOut_21 rfl ?_
    refine RT.iadd (pc := 22) dX12_wornOut_22 ?_
    obtain ⟨v23, hv23, h⟩ := Option.bind_eq_some_iff.mp h
    refine RT.iald (pc := 23) (x := v16) (i := (rt_iadd 7 s.2)) (v := v23) dX12_wornOut_23 (rt_lta hz (by decide) (by decide) hv23) hv23 ?_
    refine RT.bipush (pc := 24) (n := 9) dX12_wornOut_24 ⟨by decide, by decide⟩ rfl ?_
    refine RT.icmp_ne (pc := 26) (tgt := 35) dX12_wornOut_26 rfl (fun q26 => ?_) (fun q26 => ?_)
    · rw [if_neg q26] at h
      refine RT.iconst (pc := 35) (n := 0) dX12_wornOut_35 ⟨by decide, by decide⟩ ?_
      refine RT.wk (L1 := [(2, a0), (9, 0), (0, s.2)]) (rt_le_s (rt_le_j (rt_le_s rt_le_n))) ?_
      exact cj_X12_wornOut_36_4 hz hd ht s.2 s.1 0 mem0 _ h hK
    · rw [if_pos (Classical.not_not.mp q26)] at h
      refine RT.iconst (pc := 29) (n := 1) dX12_wornOut_29 ⟨by decide, by decide⟩ ?_
      refine RT.iload_n (pc := 30) (k := 2) (x := s.2) dX12_wornOut_30 rfl ?_
      refine RT.ishl (pc := 31) dX12_wornOut_31 ?_
      refine RT.goto (pc := 32) (tgt := 36) dX12_wornOut_32 rfl ?_
      refine RT.wk (L1 := [(2, a0), (9, 0), (0, s.2)]) (rt_le_s (rt_le_j (rt_le_s rt_le_n))) ?_
      exact cj_X12_wornOut_36_4 hz hd ht s.2 s.1 ((rt_ishl 1 s.2)) mem0 _ h hK
theorem c_X12_wornOut {G : rt_G} {d : Nat} {z : Nat × Nat} (hz : 300 ≤ z.1) (hd : 0 ≤ d) (a0 : Int) (mem0 : rt_M) (t : Int) (ht : rt_kd a0.toNat = 20 + 12) (h : f_X12_wornOut a0 mem0 = some t) : RM G M_X12_wornOut d [(2, a0)] z mem0 (some (0, t)) mem0 := by
  suffices H : ∀ Q : rt_P, Q (some (0, t)) z mem0 → RT G M_X12_wornOut d z Q 0 [(2, a0), (9, 0), (9, 0)] [] z mem0 from H _ ⟨rfl, rfl, rfl⟩
  intro Q hK
  unfold f_X12_wornOut at h
  refine RT.iconst (pc := 0) (n := 0) dX12_wornOut_0 ⟨by decide, by decide⟩ ?_
  refine RT.istore_n (pc := 1) (k := 1) (x := 0) (L1 := [(2, a0), (0, 0), (9, 0)]) dX12_wornOut_1 (Nat.le_of_ble_eq_true rfl) rfl ?_
  refine RT.iconst (pc := 2) (n := 0) dX12_wornOut_2 ⟨by decide, by decide⟩ ?_
  refine RT.istore_n (pc := 3) (k := 2) (x := 0) (L1 := [(2, a0), (0, 0), (0, 0)]) dX12_wornOut_3 (Nat.le_of_ble_eq_true rfl) rfl ?_
  obtain ⟨X4, hX4, h⟩ := Option.bind_eq_some_iff.mp h
  refine rt_it_ind (P := (fun s1 : Int × Int => RT G M_X12_wornOut d z Q 4 [(2, a0), (0, s1.1), (0, s1.2)] [] z mem0)) (X := (fun x1 : Int => RT G M_X12_wornOut d z Q 44 [(9, 0), (0, x1), (9, 0)] [] z mem0)) (fun s1 t1 h1 k1 k2 => cb_X12_wornOut_4 hz hd ht mem0 s1 t1 h1 ⟨k1, k2⟩) 4000 ((0, 0)) X4 hX4 ?_
  refine RT.iload_n (pc := 44) (k := 1) (x := X4) dX12_wornOut_44 rfl ?_
  obtain rfl := Option.some.inj h
  exact RT.iret (pc := 45) dX12_wornOut_45 rfl (Nat.le_of_eq (rt_cells_0 z)) (Nat.le_of_eq (rt_slots_0 z)) hK
theorem cj_X12_officeOf_34_4 {G : rt_G} {d : Nat} {z : Nat × Nat} {Q : rt_P} (hz : 300 ≤ z.1) (hd : 0 ≤ d) {a0 : Int} (ht : rt_kd a0.toNat = 20 + 12) (a1 : Int) (a3 : Int) (s0 : Int) (s1 : Int) (mem0 : rt_M) (t : (Int × Int) ⊕ (Int)) (h : j_X12_officeOf_34_4 a0 a1 a3 s0 s1 mem0 = some t) (hK : (∀ s1 : Int × Int, t = .inl s1 → RT G M_X12_officeOf d z Q 4 [(2, a0), (0, a1), (0, s1.1), (0, s1.2)] [] z mem0) ∧ (∀ x1 : Int, t = .inr x1 → RT G M_X12_officeOf d z Q 42 [(9, 0), (9, 0), (0, x1), (9, 0)] [] z mem0)) : RT G M_X12_officeOf d z Q 34 [(2, a0), (0, a1), (9, 0), (0, a3)] [(0, s1), (0, s0)] z mem0 := by
  unfold j_X12_officeOf_34_4 at h
  refine RT.iadd (pc := 34) dX12_officeOf_34 ?_
  refine RT.istore_n (pc := 35) (k := 2) (x := (rt_iadd s0 s1)) (L1 := [(2, a0), (0, a1), (0, (rt_iadd s0 s1)), (0, a3)]) dX12_officeOf_35 (Nat.le_of_ble_eq_true rfl) rfl ?_
  refine RT.iinc (pc := 36) (x := a3) (L1 := [(2, a0), (0, a1), (0, (rt_iadd s0 s1)), (0, (rt_iadd a3 1))]) dX12_officeOf_36 rfl (Nat.le_of_ble_eq_true rfl) ⟨by decide, by decide⟩ rfl ?_
  refine RT.goto (pc := 39) (tgt := 4) dX12_officeOf_39 rfl ?_
  obtain rfl := Option.some.inj h
  have q1 := hK.1 (((rt_iadd s0 s1), (rt_iadd a3 1))) rfl
  try dsimp only at q1
  exact q1
theorem cb_X12_officeOf_4 {G : rt_G} {d : Nat} {z : Nat × Nat} {Q : rt_P} (hz : 300 ≤ z.1) (hd : 0 ≤ d) {a0 : Int} (ht : rt_kd a0.toNat = 20 + 12) (a1 : Int) (mem0 : rt_M) (s : Int × Int) (t : (Int × Int) ⊕ (Int)) (h : b_X12_officeOf_4 a0 a1 mem0 s = some t) (hK : (∀ s1 : Int × Int, t = .inl s1 → RT G M_X12_officeOf d z Q 4 [(2, a0), (0, a1), (0, s1.1), (0, s1.2)] [] z mem0) ∧ (∀ x1 : Int, t = .inr x1 → RT G M_X12_officeOf d z Q 42 [(9, 0), (9, 0), (0, x1), (9, 0)] [] z mem0)) : RT G M_X12_officeOf d z Q 4 [(2, a0), (0, a1), (0, s.1), (0, s.2)] [] z mem0 := by
  unfold b_X12_officeOf_4 at h
  refine RT.iload_n (pc := 4) (k := 3) (x := s.2) dX12_officeOf_4 rfl ?_
  refine RT.aload_n (pc := 5) (k := 0) (x := a0) dX12_officeOf_5 rfl ?_
  obtain ⟨v6, hv6, h⟩ := Option.bind_eq_some_iff.mp h
  refine RT.gf 12 10 2 (pc := 6) (x := a0) (v := v6) hz dX12_officeOf_6 fl_X12_13 rfl hv6 ?_
  refine RT.iconst (pc := 9) (n := 0) dX12_officeOf_9 ⟨by decide, by decide⟩ ?_
  obtain ⟨v10, hv10, h⟩ := Option.bind_eq_some_iff.mp h
  refine RT.iald (pc := 10) (x := v6) (i := 0) (v := v10) dX12_officeOf_10 (rt_lta hz (by decide) (by decide) hv10) hv10 ?_
  refine RT.icmp_ge (pc := 11) (tgt := 42) dX12_officeOf_11 rfl (fun q11 => ?_) (fun q11 => ?_)
  · rw [if_pos q11] at h
    refine RT.wk (L1 := [(9, 0), (9, 0), (0, s.1), (9, 0)]) (rt_le_j (rt_le_j (rt_le_s (rt_le_j rt_le_n)))) ?_
    obtain rfl := Option.some.inj h
    have q1 := hK.2 s.1 rfl
    try dsimp only at q1
    exact q1
  · rw [if_neg q11] at h
    refine RT.iload_n (pc := 14) (k := 2) (x := s.1) dX12_officeOf_14 rfl ?_
    refine RT.iload_n (pc := 15) (k := 1) (x := a1) dX12_officeOf_15 rfl ?_
    refine RT.iload_n (pc := 16) (k := 3) (x := s.2) dX12_officeOf_16 rfl ?_
    refine RT.ishr (pc := 17) dX12_officeOf_17 ?_
    refine RT.iconst (pc := 18) (n := 1) dX12_officeOf_18 ⟨by decide, by decide⟩ ?_
    refine RT.iand (pc := 19) dX12_officeOf_19 ?_
    refine RT.iconst (pc := 20) (n := 1) dX12_officeOf_20 ⟨by decide, by decide⟩ ?_
    refine RT.icmp_ne (pc := 21) (tgt := 33) dX12_officeOf_21 rfl (fun q21 => ?_) (fun q21 => ?_)
    · rw [if_neg q21] at h
      refine RT.iconst (pc := 33) (n := 0) dX12_officeOf_33 ⟨by decide, by decide⟩ ?_
      refine RT.wk (L1 := [(2, a0), (0, a1), (9, 0), (0, s.2)]) (rt_le_s (rt_le_s (rt_le_j (rt_le_s rt_le_n)))) ?_
      exact cj_X12_officeOf_34_4 hz hd ht a1 s.2 s.1 0 mem0 _ h hK
    · rw [if_pos (Classical.not_not.mp q21)] at h
      refine RT.aload_n (pc := 24) (k := 0) (x := a0) dX12_officeOf_24 rfl ?_
      obtain ⟨v25, hv25, h⟩ := Option.bind_eq_some_iff.mp h
      refine RT.gf 12 14 2 (pc := 25) (x := a0) (v := v25) hz dX12_officeOf_25 fl_X12_26 rfl hv25 ?_
      refine RT.iload_n (pc := 28) (k := 3) (x := s.2) dX12_officeOf_28 rfl ?_
      obtain ⟨v29, hv29, h⟩ := Option.bind_eq_some_iff.mp h
      refine RT.iald (pc := 29) (x := v25) (i := s.2) (v := v29) dX12_officeOf_29 (rt_lta hz (by decide) (by decide) hv29) hv29 ?_
      refine RT.goto (pc := 30) (tgt := 34) dX12_officeOf_30 rfl ?_
      refine RT.wk (L1 := [(2, a0), (0, a1), (9, 0), (0, s.2)]) (rt_le_s (rt_le_s (rt_le_j (rt_le_s rt_le_n)))) ?_
      exact cj_X12_officeOf_34_4 hz hd ht a1 s.2 s.1 v29 mem0 _ h hK
theorem c_X12_officeOf {G : rt_G} {d : Nat} {z : Nat × Nat} (hz : 300 ≤ z.1) (hd : 0 ≤ d) (a0 : Int) (a1 : Int) (mem0 : rt_M) (t : Int) (ht : rt_kd a0.toNat = 20 + 12) (h : f_X12_officeOf a0 a1 mem0 = some t) : RM G M_X12_officeOf d [(2, a0), (0, a1)] z mem0 (some (0, t)) mem0 := by
  suffices H : ∀ Q : rt_P, Q (some (0, t)) z mem0 → RT G M_X12_officeOf d z Q 0 [(2, a0), (0, a1), (9, 0), (9, 0)] [] z mem0 from H _ ⟨rfl, rfl, rfl⟩
  intro Q hK
  unfold f_X12_officeOf at h
  refine RT.iconst (pc := 0) (n := 0) dX12_officeOf_0 ⟨by decide, by decide⟩ ?_
  refine RT.istore_n (pc := 1) (k := 2) (x := 0) (L1 := [(2, a0), (0, a1), (0, 0), (9, 0)]) dX12_officeOf_1 (Nat.le_of_ble_eq_true rfl) rfl ?_
  refine RT.iconst (pc := 2) (n := 0) dX12_officeOf_2 ⟨by decide, by decide⟩ ?_
  refine RT.istore_n (pc := 3) (k := 3) (x := 0) (L1 := [(2, a0), (0, a1), (0, 0), (0, 0)]) dX12_officeOf_3 (Nat.le_of_ble_eq_true rfl) rfl ?_
  obtain ⟨X4, hX4, h⟩ := Option.bind_eq_some_iff.mp h
  refine rt_it_ind (P := (fun s1 : Int × Int => RT G M_X12_officeOf d z Q 4 [(2, a0), (0, a1), (0, s1.1), (0, s1.2)] [] z mem0)) (X := (fun x1 : Int => RT G M_X12_officeOf d z Q 42 [(9, 0), (9, 0), (0, x1), (9, 0)] [] z mem0)) (fun s1 t1 h1 k1 k2 => cb_X12_officeOf_4 hz hd ht a1 mem0 s1 t1 h1 ⟨k1, k2⟩) 4000 ((0, 0)) X4 hX4 ?_
  refine RT.iload_n (pc := 42) (k := 2) (x := X4) dX12_officeOf_42 rfl ?_
  obtain rfl := Option.some.inj h
  exact RT.iret (pc := 43) dX12_officeOf_43 rfl (Nat.le_of_eq (rt_cells_0 z)) (Nat.le_of_eq (rt_slots_0 z)) hK
