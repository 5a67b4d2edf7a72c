/-! Layer 4: rests, horsehair of the class, printed by program (wip/whole/gen3.py) -/
abbrev M_X11_rests : rt_Mt := (yX11_rests, cX11_rests, 7, some .int, (8, 200), 1)
abbrev M_X11_horsehair : rt_Mt := (yX11_horsehair, cX11_horsehair, 11, some .int, (8, 200), 1)
theorem kl_X11_331 : Cond.constantLong RX11 331 (Int64.ofInt 1000000) ∈ rt_mG := (rt_inG (rt_t5 170 (by decide +kernel)) rfl)
theorem ml_X11_314 : rt_Ml RX11 314 M_X11_isBest := Or.inl (rt_inG (rt_t5 151 (by decide +kernel)) rfl)
theorem ml_X11_324 : rt_Ml RX11 324 M_X11_isOfHundred := Or.inl (rt_inG (rt_t5 165 (by decide +kernel)) rfl)
theorem mw_X11_rests : rt_Mw M_X11_rests 3 := ⟨(rt_inG (rt_t5 84 (by decide +kernel)) rfl), (rt_inG (rt_t1 1 (by decide +kernel)) rfl), by decide +kernel, ⟨by decide +kernel, by decide +kernel, by decide +kernel⟩, by decide⟩
theorem mw_X11_horsehair : rt_Mw M_X11_horsehair 4 := ⟨(rt_inG (rt_t5 164 (by decide +kernel)) rfl), (rt_inG (rt_t1 1 (by decide +kernel)) rfl), by decide +kernel, ⟨by decide +kernel, by decide +kernel, by decide +kernel⟩, by decide⟩
def j_X11_rests_25 (mem0 : rt_M) : Option (Int ⊕ Unit) :=
  some (.inr ())
def j_X11_rests_99_51 (a1 : Int) (a2 : Int) (a3 : Int) (a4 : Int) (a5 : Int) (a6 : Int) (mem0 : rt_M) : Option ((Int × Int) ⊕ ((Int) ⊕ ((Int × Int) ⊕ ((Int) ⊕ (Int ⊕ Unit))))) :=
  some (.inl (a4, (rt_iadd a6 1)))
def b_X11_rests_51 (a1 : Int) (a2 : Int) (a3 : Int) (a5 : Int) (mem0 : rt_M) (s : Int × Int) : Option ((Int × Int) ⊕ ((Int) ⊕ ((Int × Int) ⊕ ((Int) ⊕ (Int ⊕ Unit))))) :=
  if 5 < s.2 then
  some (.inr (.inl s.1))
  else
  (f_X11_isBest a1 a2 a5 s.2 mem0).bind fun p63 =>
  if p63 = 0 then
  j_X11_rests_99_51 a1 a2 a3 s.1 a5 s.2 mem0
  else
  (f_X11_isBest a1 a2 s.2 a5 mem0).bind fun p75 =>
  if p75 = 0 then
  j_X11_rests_99_51 a1 a2 a3 s.1 a5 s.2 mem0
  else
  if s.1 = a3 then
  Option.map (fun t => .inr (.inr t)) (Option.map (fun t => .inr (.inr t)) (some (.inl ((rt_iadd (rt_imul 10 a5) s.2)))))
  else
  j_X11_rests_99_51 a1 a2 a3 ((rt_iadd s.1 1)) a5 s.2 mem0
def b_X11_rests_42 (a1 : Int) (a2 : Int) (a3 : Int) (mem0 : rt_M) (s : Int × Int) : Option ((Int × Int) ⊕ ((Int) ⊕ (Int ⊕ Unit))) :=
  if 5 < s.2 then
  some (.inr (.inl s.1))
  else
  (rt_it (b_X11_rests_51 a1 a2 a3 s.2 mem0) 4000 ((s.1, 0))).bind fun E51 => match E51 with
  | .inr t => some t
  | .inl X51 =>
  some (.inl (X51, (rt_iadd s.2 1)))
def f_X11_rests (a0 : Int) (a1 : Int) (a2 : Int) (a3 : Int) (mem0 : rt_M) : Option (Int ⊕ Unit) :=
  if a1 < 0 then
  j_X11_rests_25 mem0
  else
  if 9 < a1 then
  j_X11_rests_25 mem0
  else
  if a2 < 0 then
  j_X11_rests_25 mem0
  else
  if 9 < a2 then
  j_X11_rests_25 mem0
  else
  if (-1) ≤ a3 then
  (rt_it (b_X11_rests_42 a1 a2 a3 mem0) 4000 ((0, 0))).bind fun E42 => match E42 with
  | .inr t => some t
  | .inl X42 =>
  if a3 = (-1) then
  some (.inl X42)
  else
  some (.inr ())
  else
  j_X11_rests_25 mem0
def j_X11_horsehair_33 (mem0 : rt_M) : Option (Int ⊕ Unit) :=
  some (.inr ())
def b_X11_horsehair_58 (a2 : Int) (a3 : Int) (a4 : Int) (mem0 : rt_M) (s : Int × Int × Int) : Option ((Int × Int × Int) ⊕ (Int × Int)) :=
  if a4 ≤ s.2.2 then
  some (.inr (s.1, s.2.1))
  else
  some (.inl ((rt_lmul s.1 a2), (rt_lmul s.2.1 a3), (rt_iadd s.2.2 1)))
def f_X11_horsehair (a0 : Int) (a1 : Int) (a2 : Int) (a3 : Int) (a4 : Int) (mem0 : rt_M) : Option (Int ⊕ Unit) :=
  (f_X11_isOfHundred a1 mem0).bind fun p1 =>
  if p1 = 0 then
  j_X11_horsehair_33 mem0
  else
  (f_X11_isOfHundred a2 mem0).bind fun p8 =>
  if p8 = 0 then
  j_X11_horsehair_33 mem0
  else
  (f_X11_isOfHundred a3 mem0).bind fun p15 =>
  if p15 = 0 then
  j_X11_horsehair_33 mem0
  else
  if a4 < 1 then
  j_X11_horsehair_33 mem0
  else
  if a4 ≤ 3 then
  (rt_it (b_X11_horsehair_58 a2 a3 a4 mem0) 4000 ((a1, (rt_isub 100 a1), 0))).bind fun X58 =>
  if 0 < (rt_lcmp (rt_ladd X58.1 X58.2) 0) then
  if (rt_ladd X58.1 X58.2) = 0 then none else
  some (.inl ((rt_l2i (rt_ldiv (rt_lmul X58.1 1000000) (rt_ladd X58.1 X58.2)))))
  else
  some (.inr ())
  else
  j_X11_horsehair_33 mem0
theorem cj_X11_rests_25 {G : rt_G} {d : Nat} {z : Nat × Nat} {Q : rt_P} {X : Nat × Nat → rt_M → Prop} (hz : 300 ≤ z.1) (hd : 7 ≤ d) {a0 : Int} (ht : rt_kd a0.toNat = 20 + 11) (mem0 : rt_M) (t : Int ⊕ Unit) (h : j_X11_rests_25 mem0 = some t) (hK : ((∀ v1 : Int, t = .inl v1 → Q (some (0, v1)) z mem0) ∧ (t = .inr () → X (z.1, z.2 + 1) mem0))) : RTx G M_X11_rests d z Q X 25 [(9, 0), (9, 0), (9, 0), (9, 0), (9, 0), (9, 0), (9, 0)] [] z mem0 := by
  unfold j_X11_rests_25 at h
  obtain rfl := Option.some.inj h
  exact RTx.thr (is := 309) (text := "not 0 to 9, or no such number") (pc := 25) rfl (by decide) dX11_rests_25 dX11_rests_28 dX11_rests_29 dX11_rests_32 dX11_rests_35 hd (by rw [show rt_cells z (z.1, z.2 + 1) = 8 from rx_cells8 z]; exact Nat.le_refl _) (by rw [show rt_slots z (z.1, z.2 + 1) = 200 from rx_slots8 z]; exact Nat.le_refl _) (Nat.le_refl _) (hK.2 rfl)
theorem cj_X11_rests_99_51 {G : rt_G} {d : Nat} {z : Nat × Nat} {Q : rt_P} {X : Nat × Nat → rt_M → Prop} (hz : 300 ≤ z.1) (hd : 7 ≤ d) {a0 : Int} (ht : rt_kd a0.toNat = 20 + 11) (a1 : Int) (a2 : Int) (a3 : Int) (a4 : Int) (a5 : Int) (a6 : Int) (mem0 : rt_M) (t : (Int × Int) ⊕ ((Int) ⊕ ((Int × Int) ⊕ ((Int) ⊕ (Int ⊕ Unit))))) (h : j_X11_rests_99_51 a1 a2 a3 a4 a5 a6 mem0 = some t) (hK : (∀ s1 : Int × Int, t = .inl s1 → RTx G M_X11_rests d z Q X 51 [(9, 0), (0, a1), (0, a2), (0, a3), (0, s1.1), (0, a5), (0, s1.2)] [] z mem0) ∧ (∀ x1 : Int, t = .inr (.inl x1) → RTx G M_X11_rests d z Q X 105 [(9, 0), (0, a1), (0, a2), (0, a3), (0, x1), (0, a5), (9, 0)] [] z mem0) ∧ (∀ u2 : (Int × Int) ⊕ ((Int) ⊕ (Int ⊕ Unit)), t = .inr (.inr u2) → (∀ s1 : Int × Int, u2 = .inl s1 → RTx G M_X11_rests d z Q X 42 [(9, 0), (0, a1), (0, a2), (0, a3), (0, s1.1), (0, s1.2), (9, 0)] [] z mem0) ∧ (∀ x1 : Int, u2 = .inr (.inl x1) → RTx G M_X11_rests d z Q X 111 [(9, 0), (9, 0), (9, 0), (0, a3), (0, x1), (9, 0), (9, 0)] [] z mem0) ∧ (∀ u1 : Int ⊕ Unit, u2 = .inr (.inr u1) → ((∀ v1 : Int, u1 = .inl v1 → Q (some (0, v1)) z mem0) ∧ (u1 = .inr () → X (z.1, z.2 + 1) mem0))))) : RTx G M_X11_rests d z Q X 99 [(9, 0), (0, a1), (0, a2), (0, a3), (0, a4), (0, a5), (0, a6)] [] z mem0 := by
  unfold j_X11_rests_99_51 at h
  refine RTx.iinc (pc := 99) (x := a6) (L1 := [(9, 0), (0, a1), (0, a2), (0, a3), (0, a4), (0, a5), (0, (rt_iadd a6 1))]) dX11_rests_99 rfl (Nat.le_of_ble_eq_true rfl) ⟨by decide, by decide⟩ rfl ?_
  refine RTx.goto (pc := 102) (tgt := 51) dX11_rests_102 rfl ?_
  obtain rfl := Option.some.inj h
  have q1 := hK.1 ((a4, (rt_iadd a6 1))) rfl
  try dsimp only at q1
  exact q1
theorem cb_X11_rests_51 {G : rt_G} {d : Nat} {z : Nat × Nat} {Q : rt_P} {X : Nat × Nat → rt_M → Prop} (hz : 300 ≤ z.1) (hd : 7 ≤ d) {a0 : Int} (ht : rt_kd a0.toNat = 20 + 11) (a1 : Int) (a2 : Int) (a3 : Int) (a5 : Int) (mem0 : rt_M) (s : Int × Int) (t : (Int × Int) ⊕ ((Int) ⊕ ((Int × Int) ⊕ ((Int) ⊕ (Int ⊕ Unit))))) (h : b_X11_rests_51 a1 a2 a3 a5 mem0 s = some t) (hK : (∀ s1 : Int × Int, t = .inl s1 → RTx G M_X11_rests d z Q X 51 [(9, 0), (0, a1), (0, a2), (0, a3), (0, s1.1), (0, a5), (0, s1.2)] [] z mem0) ∧ (∀ x1 : Int, t = .inr (.inl x1) → RTx G M_X11_rests d z Q X 105 [(9, 0), (0, a1), (0, a2), (0, a3), (0, x1), (0, a5), (9, 0)] [] z mem0) ∧ (∀ u2 : (Int × Int) ⊕ ((Int) ⊕ (Int ⊕ Unit)), t = .inr (.inr u2) → (∀ s1 : Int × Int, u2 = .inl s1 → RTx G M_X11_rests d z Q X 42 [(9, 0), (0, a1), (0, a2), (0, a3), (0, s1.1), (0, s1.2), (9, 0)] [] z mem0) ∧ (∀ x1 : Int, u2 = .inr (.inl x1) → RTx G M_X11_rests d z Q X 111 [(9, 0), (9, 0), (9, 0), (0, a3), (0, x1), (9, 0), (9, 0)] [] z mem0) ∧ (∀ u1 : Int ⊕ Unit, u2 = .inr (.inr u1) → ((∀ v1 : Int, u1 = .inl v1 → Q (some (0, v1)) z mem0) ∧ (u1 = .inr () → X (z.1, z.2 + 1) mem0))))) : RTx G M_X11_rests d z Q X 51 [(9, 0), (0, a1), (0, a2), (0, a3), (0, s.1), (0, a5), (0, s.2)] [] z mem0 := by
  unfold b_X11_rests_51 at h
  refine RTx.iload (pc := 51) (k := 6) (x := s.2) dX11_rests_51 rfl ?_
  refine RTx.iconst (pc := 53) (n := 5) dX11_rests_53 ⟨by decide, by decide⟩ ?_
  refine RTx.icmp_gt (pc := 54) (tgt := 105) dX11_rests_54 rfl (fun q54 => ?_) (fun q54 => ?_)
  · rw [if_pos q54] at h
    refine RTx.wk (L1 := [(9, 0), (0, a1), (0, a2), (0, a3), (0, s.1), (0, a5), (9, 0)]) (rt_le_s (rt_le_s (rt_le_s (rt_le_s (rt_le_s (rt_le_s (rt_le_j rt_le_n))))))) ?_
    obtain rfl := Option.some.inj h
    have q1 := hK.2.1 s.1 rfl
    try dsimp only at q1
    exact q1
  · rw [if_neg q54] at h
    refine RTx.iload_n (pc := 57) (k := 1) (x := a1) dX11_rests_57 rfl ?_
    refine RTx.iload_n (pc := 58) (k := 2) (x := a2) dX11_rests_58 rfl ?_
    refine RTx.iload (pc := 59) (k := 5) (x := a5) dX11_rests_59 rfl ?_
    refine RTx.iload (pc := 61) (k := 6) (x := s.2) dX11_rests_61 rfl ?_
    obtain ⟨p63, hp63, h⟩ := Option.bind_eq_some_iff.mp h
    refine RTx.cSz (pc := 63) (M' := M_X11_isBest) (As := [(0, a1), (0, a2), (0, a5), (0, s.2)]) (st := []) (r := some (0, p63)) (mem1 := mem0) (d' := d - 1) dX11_rests_63 mw_X11_isBest ml_X11_314 mi_X11_isBest rfl rfl (Nat.le_of_ble_eq_true rfl) (Nat.le_of_ble_eq_true rfl) (by omega) rfl rfl (c_X11_isBest hz (by omega) a1 a2 a5 s.2 mem0 _ hp63) ?_
    refine RTx.if_eq (pc := 66) (tgt := 99) dX11_rests_66 rfl (fun q66 => ?_) (fun q66 => ?_)
    · rw [if_pos q66] at h
      exact cj_X11_rests_99_51 hz hd ht a1 a2 a3 s.1 a5 s.2 mem0 _ h hK
    · rw [if_neg q66] at h
      refine RTx.iload_n (pc := 69) (k := 1) (x := a1) dX11_rests_69 rfl ?_
      refine RTx.iload_n (pc := 70) (k := 2) (x := a2) dX11_rests_70 rfl ?_
      refine RTx.iload (pc := 71) (k := 6) (x := s.2) dX11_rests_71 rfl ?_
      refine RTx.iload (pc := 73) (k := 5) (x := a5) dX11_rests_73 rfl ?_
      obtain ⟨p75, hp75, h⟩ := Option.bind_eq_some_iff.mp h
      refine RTx.cSz (pc := 75) (M' := M_X11_isBest) (As := [(0, a1), (0, a2), (0, s.2), (0, a5)]) (st := []) (r := some (0, p75)) (mem1 := mem0) (d' := d - 1) dX11_rests_75 mw_X11_isBest ml_X11_314 mi_X11_isBest rfl rfl (Nat.le_of_ble_eq_true rfl) (Nat.le_of_ble_eq_true rfl) (by omega) rfl rfl (c_X11_isBest hz (by omega) a1 a2 s.2 a5 mem0 _ hp75) ?_
      refine RTx.if_eq (pc := 78) (tgt := 99) dX11_rests_78 rfl (fun q78 => ?_) (fun q78 => ?_)
      · rw [if_pos q78] at h
        exact cj_X11_rests_99_51 hz hd ht a1 a2 a3 s.1 a5 s.2 mem0 _ h hK
      · rw [if_neg q78] at h
        refine RTx.iload (pc := 81) (k := 4) (x := s.1) dX11_rests_81 rfl ?_
        refine RTx.iload_n (pc := 83) (k := 3) (x := a3) dX11_rests_83 rfl ?_
        refine RTx.icmp_ne (pc := 84) (tgt := 96) dX11_rests_84 rfl (fun q84 => ?_) (fun q84 => ?_)
        · rw [if_neg q84] at h
          refine RTx.iinc (pc := 96) (x := s.1) (L1 := [(9, 0), (0, a1), (0, a2), (0, a3), (0, (rt_iadd s.1 1)), (0, a5), (0, s.2)]) dX11_rests_96 rfl (Nat.le_of_ble_eq_true rfl) ⟨by decide, by decide⟩ rfl ?_
          exact cj_X11_rests_99_51 hz hd ht a1 a2 a3 ((rt_iadd s.1 1)) a5 s.2 mem0 _ h hK
        · rw [if_pos (Classical.not_not.mp q84)] at h
          obtain ⟨t2x, g2x, e2x⟩ := Option.map_eq_some_iff.mp h
          subst e2x
          replace h := g2x
          replace hK := hK.2.2 t2x rfl
          obtain ⟨t2, g2, e2⟩ := Option.map_eq_some_iff.mp h
          subst e2
          replace h := g2
          replace hK := hK.2.2 t2 rfl
          refine RTx.bipush (pc := 87) (n := 10) dX11_rests_87 ⟨by decide, by decide⟩ rfl ?_
          refine RTx.iload (pc := 89) (k := 5) (x := a5) dX11_rests_89 rfl ?_
          refine RTx.imul (pc := 91) dX11_rests_91 ?_
          refine RTx.iload (pc := 92) (k := 6) (x := s.2) dX11_rests_92 rfl ?_
          refine RTx.iadd (pc := 94) dX11_rests_94 ?_
          obtain rfl := Option.some.inj h
          exact RTx.iret (pc := 95) dX11_rests_95 rfl (by rw [rt_cells_0]; exact Nat.zero_le _) (by rw [rt_slots_0]; exact Nat.zero_le _) (hK.1 _ rfl)
theorem cb_X11_rests_42 {G : rt_G} {d : Nat} {z : Nat × Nat} {Q : rt_P} {X : Nat × Nat → rt_M → Prop} (hz : 300 ≤ z.1) (hd : 7 ≤ d) {a0 : Int} (ht : rt_kd a0.toNat = 20 + 11) (a1 : Int) (a2 : Int) (a3 : Int) (mem0 : rt_M) (s : Int × Int) (t : (Int × Int) ⊕ ((Int) ⊕ (Int ⊕ Unit))) (h : b_X11_rests_42 a1 a2 a3 mem0 s = some t) (hK : (∀ s1 : Int × Int, t = .inl s1 → RTx G M_X11_rests d z Q X 42 [(9, 0), (0, a1), (0, a2), (0, a3), (0, s1.1), (0, s1.2), (9, 0)] [] z mem0) ∧ (∀ x1 : Int, t = .inr (.inl x1) → RTx G M_X11_rests d z Q X 111 [(9, 0), (9, 0), (9, 0), (0, a3), (0, x1), (9, 0), (9, 0)] [] z mem0) ∧ (∀ u1 : Int ⊕ Unit, t = .inr (.inr u1) → ((∀ v1 : Int, u1 = .inl v1 → Q (some (0, v1)) z mem0) ∧ (u1 = .inr () → X (z.1, z.2 + 1) mem0)))) : RTx G M_X11_rests d z Q X 42 [(9, 0), (0, a1), (0, a2), (0, a3), (0, s.1), (0, s.2), (9, 0)] [] z mem0 := by
  unfold b_X11_rests_42 at h
  refine RTx.iload (pc := 42) (k := 5) (x := s.2) dX11_rests_42 rfl ?_
  refine RTx.iconst (pc := 44) (n := 5) dX11_rests_44 ⟨by decide, by decide⟩ ?_
  refine RTx.icmp_gt (pc := 45) (tgt := 111) dX11_rests_45 rfl (fun q45 => ?_) (fun q45 => ?_)
  · rw [if_pos q45] at h
    refine RTx.wk (L1 := [(9, 0), (9, 0), (9, 0), (0, a3), (0, s.1), (9, 0), (9, 0)]) (rt_le_s (rt_le_j (rt_le_j (rt_le_s (rt_le_s (rt_le_j (rt_le_s rt_le_n))))))) ?_
    obtain rfl := Option.some.inj h
    have q1 := hK.2.1 s.1 rfl
    try dsimp only at q1
    exact q1
  · rw [if_neg q45] at h
    refine RTx.iconst (pc := 48) (n := 0) dX11_rests_48 ⟨by decide, by decide⟩ ?_
    refine RTx.istore (pc := 49) (k := 6) (x := 0) (L1 := [(9, 0), (0, a1), (0, a2), (0, a3), (0, s.1), (0, s.2), (0, 0)]) dX11_rests_49 (Nat.le_of_ble_eq_true rfl) rfl ?_
    obtain ⟨E51, hE51, h⟩ := Option.bind_eq_some_iff.mp h
    refine rt_it_ind (P := (fun s1 : Int × Int => RTx G M_X11_rests d z Q X 51 [(9, 0), (0, a1), (0, a2), (0, a3), (0, s1.1), (0, s.2), (0, s1.2)] [] z mem0)) (X := (fun e1 : (Int) ⊕ ((Int × Int) ⊕ ((Int) ⊕ (Int ⊕ Unit))) => (∀ x1 : Int, e1 = .inl x1 → RTx G M_X11_rests d z Q X 105 [(9, 0), (0, a1), (0, a2), (0, a3), (0, x1), (0, s.2), (9, 0)] [] z mem0) ∧ (∀ t1 : (Int × Int) ⊕ ((Int) ⊕ (Int ⊕ Unit)), e1 = .inr t1 → (∀ s1 : Int × Int, t1 = .inl s1 → RTx G M_X11_rests d z Q X 42 [(9, 0), (0, a1), (0, a2), (0, a3), (0, s1.1), (0, s1.2), (9, 0)] [] z mem0) ∧ (∀ x1 : Int, t1 = .inr (.inl x1) → RTx G M_X11_rests d z Q X 111 [(9, 0), (9, 0), (9, 0), (0, a3), (0, x1), (9, 0), (9, 0)] [] z mem0) ∧ (∀ u1 : Int ⊕ Unit, t1 = .inr (.inr u1) → ((∀ v1 : Int, u1 = .inl v1 → Q (some (0, v1)) z mem0) ∧ (u1 = .inr () → X (z.1, z.2 + 1) mem0)))))) (fun s1 t1 h1 k1 k2 => cb_X11_rests_51 hz hd ht a1 a2 a3 s.2 mem0 s1 t1 h1 ⟨k1, fun x1 q => (k2 _ q).1 x1 rfl, fun t2 q => (k2 _ q).2 t2 rfl⟩) 4000 ((s.1, 0)) E51 hE51 ?_
    cases E51 with
    | inr t1 =>
      obtain rfl := Option.some.inj h
      exact ⟨fun x1 q => (by cases q), fun t2 q => (by cases q; exact hK)⟩
    | inl X51 =>
      refine ⟨fun x1 q => ?_, fun t2 q => (by cases q)⟩
      cases q
      dsimp only at h
      refine RTx.iinc (pc := 105) (x := s.2) (L1 := [(9, 0), (0, a1), (0, a2), (0, a3), (0, X51), (0, (rt_iadd s.2 1)), (9, 0)]) dX11_rests_105 rfl (Nat.le_of_ble_eq_true rfl) ⟨by decide, by decide⟩ rfl ?_
      refine RTx.goto (pc := 108) (tgt := 42) dX11_rests_108 rfl ?_
      obtain rfl := Option.some.inj h
      have q1 := hK.1 ((X51, (rt_iadd s.2 1))) rfl
      try dsimp only at q1
      exact q1
theorem c_X11_rests {G : rt_G} {d : Nat} {z : Nat × Nat} (hz : 300 ≤ z.1) (hd : 7 ≤ d) (a0 : Int) (a1 : Int) (a2 : Int) (a3 : Int) (mem0 : rt_M) (t : Int ⊕ Unit) (ht : rt_kd a0.toNat = 20 + 11) (h : f_X11_rests a0 a1 a2 a3 mem0 = some t) : RMx G M_X11_rests d [(2, a0), (0, a1), (0, a2), (0, a3)] z mem0 t := by
  suffices H : ∀ (Q : rt_P) (X : Nat × Nat → rt_M → Prop), ((∀ v1 : Int, t = .inl v1 → Q (some (0, v1)) z mem0) ∧ (t = .inr () → X (z.1, z.2 + 1) mem0)) → RTx G M_X11_rests d z Q X 0 [(2, a0), (0, a1), (0, a2), (0, a3), (9, 0), (9, 0), (9, 0)] [] z mem0 from H _ _ ⟨fun v1 q => ⟨rfl, rfl, v1, q, rfl⟩, fun q => ⟨rfl, rfl, q⟩⟩
  intro Q X hK
  unfold f_X11_rests at h
  refine RTx.iload_n (pc := 0) (k := 1) (x := a1) dX11_rests_0 rfl ?_
  refine RTx.if_lt (pc := 1) (tgt := 25) dX11_rests_1 rfl (fun q1 => ?_) (fun q1 => ?_)
  · rw [if_pos q1] at h
    refine RTx.wk (L1 := [(9, 0), (9, 0), (9, 0), (9, 0), (9, 0), (9, 0), (9, 0)]) (rt_le_j (rt_le_j (rt_le_j (rt_le_j (rt_le_s (rt_le_s (rt_le_s rt_le_n))))))) ?_
    exact cj_X11_rests_25 hz hd ht mem0 _ h hK
  · rw [if_neg q1] at h
    refine RTx.iload_n (pc := 4) (k := 1) (x := a1) dX11_rests_4 rfl ?_
    refine RTx.bipush (pc := 5) (n := 9) dX11_rests_5 ⟨by decide, by decide⟩ rfl ?_
    refine RTx.icmp_gt (pc := 7) (tgt := 25) dX11_rests_7 rfl (fun q7 => ?_) (fun q7 => ?_)
    · rw [if_pos q7] at h
      refine RTx.wk (L1 := [(9, 0), (9, 0), (9, 0), (9, 0), (9, 0), (9, 0), (9, 0)]) (rt_le_j (rt_le_j (rt_le_j (rt_le_j (rt_le_s (rt_le_s (rt_le_s rt_le_n))))))) ?_
      exact cj_X11_rests_25 hz hd ht mem0 _ h hK
    · rw [if_neg q7] at h
      refine RTx.iload_n (pc := 10) (k := 2) (x := a2) dX11_rests_10 rfl ?_
      refine RTx.if_lt (pc := 11) (tgt := 25) dX11_rests_11 rfl (fun q11 => ?_) (fun q11 => ?_)
      · rw [if_pos q11] at h
        refine RTx.wk (L1 := [(9, 0), (9, 0), (9, 0), (9, 0), (9, 0), (9, 0), (9, 0)]) (rt_le_j (rt_le_j (rt_le_j (rt_le_j (rt_le_s (rt_le_s (rt_le_s rt_le_n))))))) ?_
        exact cj_X11_rests_25 hz hd ht mem0 _ h hK
      · rw [if_neg q11] at h
        refine RTx.iload_n (pc := 14) (k := 2) (x := a2) dX11_rests_14 rfl ?_
        refine RTx.bipush (pc := 15) (n := 9) dX11_rests_15 ⟨by decide, by decide⟩ rfl ?_
        refine RTx.icmp_gt (pc := 17) (tgt := 25) dX11_rests_17 rfl (fun q17 => ?_) (fun q17 => ?_)
        · rw [if_pos q17] at h
          refine RTx.wk (L1 := [(9, 0), (9, 0), (9, 0), (9, 0), (9, 0), (9, 0), (9, 0)]) (rt_le_j (rt_le_j (rt_le_j (rt_le_j (rt_le_s (rt_le_s (rt_le_s rt_le_n))))))) ?_
          exact cj_X11_rests_25 hz hd ht mem0 _ h hK
        · rw [if_neg q17] at h
          refine RTx.iload_n (pc := 20) (k := 3) (x := a3) dX11_rests_20 rfl ?_
          refine RTx.iconst (pc := 21) (n := (-1)) dX11_rests_21 ⟨by decide, by decide⟩ ?_
          refine RTx.icmp_ge (pc := 22) (tgt := 36) dX11_rests_22 rfl (fun q22 => ?_) (fun q22 => ?_)
          · rw [if_pos q22] at h
            refine RTx.iconst (pc := 36) (n := 0) dX11_rests_36 ⟨by decide, by decide⟩ ?_
            refine RTx.istore (pc := 37) (k := 4) (x := 0) (L1 := [(2, a0), (0, a1), (0, a2), (0, a3), (0, 0), (9, 0), (9, 0)]) dX11_rests_37 (Nat.le_of_ble_eq_true rfl) rfl ?_
            refine RTx.iconst (pc := 39) (n := 0) dX11_rests_39 ⟨by decide, by decide⟩ ?_
            refine RTx.istore (pc := 40) (k := 5) (x := 0) (L1 := [(2, a0), (0, a1), (0, a2), (0, a3), (0, 0), (0, 0), (9, 0)]) dX11_rests_40 (Nat.le_of_ble_eq_true rfl) rfl ?_
            refine RTx.wk (L1 := [(9, 0), (0, a1), (0, a2), (0, a3), (0, 0), (0, 0), (9, 0)]) (rt_le_j (rt_le_s (rt_le_s (rt_le_s (rt_le_s (rt_le_s (rt_le_s rt_le_n))))))) ?_
            obtain ⟨E42, hE42, h⟩ := Option.bind_eq_some_iff.mp h
            refine rt_it_ind (P := (fun s1 : Int × Int => RTx G M_X11_rests d z Q X 42 [(9, 0), (0, a1), (0, a2), (0, a3), (0, s1.1), (0, s1.2), (9, 0)] [] z mem0)) (X := (fun e1 : (Int) ⊕ (Int ⊕ Unit) => (∀ x1 : Int, e1 = .inl x1 → RTx G M_X11_rests d z Q X 111 [(9, 0), (9, 0), (9, 0), (0, a3), (0, x1), (9, 0), (9, 0)] [] z mem0) ∧ (∀ t1 : Int ⊕ Unit, e1 = .inr t1 → ((∀ v1 : Int, t1 = .inl v1 → Q (some (0, v1)) z mem0) ∧ (t1 = .inr () → X (z.1, z.2 + 1) mem0))))) (fun s1 t1 h1 k1 k2 => cb_X11_rests_42 hz hd ht a1 a2 a3 mem0 s1 t1 h1 ⟨k1, fun x1 q => (k2 _ q).1 x1 rfl, fun t2 q => (k2 _ q).2 t2 rfl⟩) 4000 ((0, 0)) E42 hE42 ?_
            cases E42 with
            | inr t1 =>
              obtain rfl := Option.some.inj h
              exact ⟨fun x1 q => (by cases q), fun t2 q => (by cases q; exact hK)⟩
            | inl X42 =>
              refine ⟨fun x1 q => ?_, fun t2 q => (by cases q)⟩
              cases q
              dsimp only at h
              refine RTx.iload_n (pc := 111) (k := 3) (x := a3) dX11_rests_111 rfl ?_
              refine RTx.iconst (pc := 112) (n := (-1)) dX11_rests_112 ⟨by decide, by decide⟩ ?_
              refine RTx.icmp_eq (pc := 113) (tgt := 127) dX11_rests_113 rfl (fun q113 => ?_) (fun q113 => ?_)
              · rw [if_pos q113] at h
                refine RTx.iload (pc := 127) (k := 4) (x := X42) dX11_rests_127 rfl ?_
                obtain rfl := Option.some.inj h
                exact RTx.iret (pc := 129) dX11_rests_129 rfl (by rw [rt_cells_0]; exact Nat.zero_le _) (by rw [rt_slots_0]; exact Nat.zero_le _) (hK.1 _ rfl)
              · rw [if_neg q113] at h
                obtain rfl := Option.some.inj h
                exact RTx.thr (is := 318) (text := "fewer are at rest") (pc := 116) rfl (by decide) dX11_rests_116 dX11_rests_119 dX11_rests_120 dX11_rests_123 dX11_rests_126 hd (by rw [show rt_cells z (z.1, z.2 + 1) = 8 from rx_cells8 z]; exact Nat.le_refl _) (by rw [show rt_slots z (z.1, z.2 + 1) = 200 from rx_slots8 z]; exact Nat.le_refl _) (Nat.le_refl _) (hK.2 rfl)
          · rw [if_neg q22] at h
            refine RTx.wk (L1 := [(9, 0), (9, 0), (9, 0), (9, 0), (9, 0), (9, 0), (9, 0)]) (rt_le_j (rt_le_j (rt_le_j (rt_le_j (rt_le_s (rt_le_s (rt_le_s rt_le_n))))))) ?_
            exact cj_X11_rests_25 hz hd ht mem0 _ h hK
theorem cj_X11_horsehair_33 {G : rt_G} {d : Nat} {z : Nat × Nat} {Q : rt_P} {X : Nat × Nat → rt_M → Prop} (hz : 300 ≤ z.1) (hd : 7 ≤ d) {a0 : Int} (ht : rt_kd a0.toNat = 20 + 11) (mem0 : rt_M) (t : Int ⊕ Unit) (h : j_X11_horsehair_33 mem0 = some t) (hK : ((∀ v1 : Int, t = .inl v1 → Q (some (0, v1)) z mem0) ∧ (t = .inr () → X (z.1, z.2 + 1) mem0))) : RTx G M_X11_horsehair d z Q X 33 [(9, 0), (9, 0), (9, 0), (9, 0), (9, 0), (9, 0), (9, 0), (9, 0), (9, 0), (9, 0), (9, 0)] [] z mem0 := by
  unfold j_X11_horsehair_33 at h
  obtain rfl := Option.some.inj h
  exact RTx.thr (is := 327) (text := "not of a hundred, or not 1 to 3 tests") (pc := 33) rfl (by decide) dX11_horsehair_33 dX11_horsehair_36 dX11_horsehair_37 dX11_horsehair_40 dX11_horsehair_43 hd (by rw [show rt_cells z (z.1, z.2 + 1) = 8 from rx_cells8 z]; exact Nat.le_refl _) (by rw [show rt_slots z (z.1, z.2 + 1) = 200 from rx_slots8 z]; exact Nat.le_refl _) (Nat.le_refl _) (hK.2 rfl)
theorem cb_X11_horsehair_58 {G : rt_G} {d : Nat} {z : Nat × Nat} {Q : rt_P} {X : Nat × Nat → rt_M → Prop} (hz : 300 ≤ z.1) (hd : 7 ≤ d) {a0 : Int} (ht : rt_kd a0.toNat = 20 + 11) (a2 : Int) (a3 : Int) (a4 : Int) (mem0 : rt_M) (s : Int × Int × Int) (t : (Int × Int × Int) ⊕ (Int × Int)) (h : b_X11_horsehair_58 a2 a3 a4 mem0 s = some t) (hK : (∀ s1 : Int × Int × Int, t = .inl s1 → RTx G M_X11_horsehair d z Q X 58 [(9, 0), (9, 0), (0, a2), (0, a3), (0, a4), (1, s1.1), (9, 0), (1, s1.2.1), (9, 0), (0, s1.2.2), (9, 0)] [] z mem0) ∧ (∀ x1 : Int × Int, t = .inr x1 → RTx G M_X11_horsehair d z Q X 85 [(9, 0), (9, 0), (9, 0), (9, 0), (9, 0), (1, x1.1), (9, 0), (1, x1.2), (9, 0), (9, 0), (9, 0)] [] z mem0)) : RTx G M_X11_horsehair d z Q X 58 [(9, 0), (9, 0), (0, a2), (0, a3), (0, a4), (1, s.1), (9, 0), (1, s.2.1), (9, 0), (0, s.2.2), (9, 0)] [] z mem0 := by
  unfold b_X11_horsehair_58 at h
  refine RTx.iload (pc := 58) (k := 9) (x := s.2.2) dX11_horsehair_58 rfl ?_
  refine RTx.iload (pc := 60) (k := 4) (x := a4) dX11_horsehair_60 rfl ?_
  refine RTx.icmp_ge (pc := 62) (tgt := 85) dX11_horsehair_62 rfl (fun q62 => ?_) (fun q62 => ?_)
  · rw [if_pos q62] at h
    refine RTx.wk (L1 := [(9, 0), (9, 0), (9, 0), (9, 0), (9, 0), (1, s.1), (9, 0), (1, s.2.1), (9, 0), (9, 0), (9, 0)]) (rt_le_s (rt_le_s (rt_le_j (rt_le_j (rt_le_j (rt_le_s (rt_le_s (rt_le_s (rt_le_s (rt_le_j (rt_le_s rt_le_n))))))))))) ?_
    obtain rfl := Option.some.inj h
    have q1 := hK.2 ((s.1, s.2.1)) rfl
    try dsimp only at q1
    exact q1
  · rw [if_neg q62] at h
    refine RTx.lload (pc := 65) (k := 5) (x := s.1) dX11_horsehair_65 rfl ?_
    refine RTx.iload_n (pc := 67) (k := 2) (x := a2) dX11_horsehair_67 rfl ?_
    refine RTx.i2l (pc := 68) dX11_horsehair_68 ?_
    refine RTx.lmul (pc := 69) dX11_horsehair_69 ?_
    refine RTx.lstore (pc := 70) (k := 5) (x := (rt_lmul s.1 a2)) (L1 := [(9, 0), (9, 0), (0, a2), (0, a3), (0, a4), (1, (rt_lmul s.1 a2)), (9, 0), (1, s.2.1), (9, 0), (0, s.2.2), (9, 0)]) dX11_horsehair_70 (Nat.le_of_ble_eq_true rfl) rfl ?_
    refine RTx.lload (pc := 72) (k := 7) (x := s.2.1) dX11_horsehair_72 rfl ?_
    refine RTx.iload_n (pc := 74) (k := 3) (x := a3) dX11_horsehair_74 rfl ?_
    refine RTx.i2l (pc := 75) dX11_horsehair_75 ?_
    refine RTx.lmul (pc := 76) dX11_horsehair_76 ?_
    refine RTx.lstore (pc := 77) (k := 7) (x := (rt_lmul s.2.1 a3)) (L1 := [(9, 0), (9, 0), (0, a2), (0, a3), (0, a4), (1, (rt_lmul s.1 a2)), (9, 0), (1, (rt_lmul s.2.1 a3)), (9, 0), (0, s.2.2), (9, 0)]) dX11_horsehair_77 (Nat.le_of_ble_eq_true rfl) rfl ?_
    refine RTx.iinc (pc := 79) (x := s.2.2) (L1 := [(9, 0), (9, 0), (0, a2), (0, a3), (0, a4), (1, (rt_lmul s.1 a2)), (9, 0), (1, (rt_lmul s.2.1 a3)), (9, 0), (0, (rt_iadd s.2.2 1)), (9, 0)]) dX11_horsehair_79 rfl (Nat.le_of_ble_eq_true rfl) ⟨by decide, by decide⟩ rfl ?_
    refine RTx.goto (pc := 82) (tgt := 58) dX11_horsehair_82 rfl ?_
    obtain rfl := Option.some.inj h
    have q1 := hK.1 (((rt_lmul s.1 a2), (rt_lmul s.2.1 a3), (rt_iadd s.2.2 1))) rfl
    try dsimp only at q1
    exact q1
theorem c_X11_horsehair {G : rt_G} {d : Nat} {z : Nat × Nat} (hz : 300 ≤ z.1) (hd : 7 ≤ d) (a0 : Int) (a1 : Int) (a2 : Int) (a3 : Int) (a4 : Int) (mem0 : rt_M) (t : Int ⊕ Unit) (ht : rt_kd a0.toNat = 20 + 11) (h : f_X11_horsehair a0 a1 a2 a3 a4 mem0 = some t) : RMx G M_X11_horsehair d [(2, a0), (0, a1), (0, a2), (0, a3), (0, a4)] z mem0 t := by
  suffices H : ∀ (Q : rt_P) (X : Nat × Nat → rt_M → Prop), ((∀ v1 : Int, t = .inl v1 → Q (some (0, v1)) z mem0) ∧ (t = .inr () → X (z.1, z.2 + 1) mem0)) → RTx G M_X11_horsehair d z Q X 0 [(2, a0), (0, a1), (0, a2), (0, a3), (0, a4), (9, 0), (9, 0), (9, 0), (9, 0), (9, 0), (9, 0)] [] z mem0 from H _ _ ⟨fun v1 q => ⟨rfl, rfl, v1, q, rfl⟩, fun q => ⟨rfl, rfl, q⟩⟩
  intro Q X hK
  unfold f_X11_horsehair at h
  refine RTx.iload_n (pc := 0) (k := 1) (x := a1) dX11_horsehair_0 rfl ?_
  obtain ⟨p1, hp1, h⟩ := Option.bind_eq_some_iff.mp h
  refine RTx.cSz (pc := 1) (M' := M_X11_isOfHundred) (As := [(0, a1)]) (st := []) (r := some (0, p1)) (mem1 := mem0) (d' := d - 1) dX11_horsehair_1 mw_X11_isOfHundred ml_X11_324 mi_X11_isOfHundred rfl rfl (Nat.le_of_ble_eq_true rfl) (Nat.le_of_ble_eq_true rfl) (by omega) rfl rfl (c_X11_isOfHundred hz (by omega) a1 mem0 _ hp1) ?_
  refine RTx.if_eq (pc := 4) (tgt := 33) dX11_horsehair_4 rfl (fun q4 => ?_) (fun q4 => ?_)
  · rw [if_pos q4] at h
    refine RTx.wk (L1 := [(9, 0), (9, 0), (9, 0), (9, 0), (9, 0), (9, 0), (9, 0), (9, 0), (9, 0), (9, 0), (9, 0)]) (rt_le_j (rt_le_j (rt_le_j (rt_le_j (rt_le_j (rt_le_s (rt_le_s (rt_le_s (rt_le_s (rt_le_s (rt_le_s rt_le_n))))))))))) ?_
    exact cj_X11_horsehair_33 hz hd ht mem0 _ h hK
  · rw [if_neg q4] at h
    refine RTx.iload_n (pc := 7) (k := 2) (x := a2) dX11_horsehair_7 rfl ?_
    obtain ⟨p8, hp8, h⟩ := Option.bind_eq_some_iff.mp h
    refine RTx.cSz (pc := 8) (M' := M_X11_isOfHundred) (As := [(0, a2)]) (st := []) (r := some (0, p8)) (mem1 := mem0) (d' := d - 1) dX11_horsehair_8 mw_X11_isOfHundred ml_X11_324 mi_X11_isOfHundred rfl rfl (Nat.le_of_ble_eq_true rfl) (Nat.le_of_ble_eq_true rfl) (by omega) rfl rfl (c_X11_isOfHundred hz (by omega) a2 mem0 _ hp8) ?_
    refine RTx.if_eq (pc := 11) (tgt := 33) dX11_horsehair_11 rfl (fun q11 => ?_) (fun q11 => ?_)
    · rw [if_pos q11] at h
      refine RTx.wk (L1 := [(9, 0), (9, 0), (9, 0), (9, 0), (9, 0), (9, 0), (9, 0), (9, 0), (9, 0), (9, 0), (9, 0)]) (rt_le_j (rt_le_j (rt_le_j (rt_le_j (rt_le_j (rt_le_s (rt_le_s (rt_le_s (rt_le_s (rt_le_s (rt_le_s rt_le_n))))))))))) ?_
      exact cj_X11_horsehair_33 hz hd ht mem0 _ h hK
    · rw [if_neg q11] at h
      refine RTx.iload_n (pc := 14) (k := 3) (x := a3) dX11_horsehair_14 rfl ?_
      obtain ⟨p15, hp15, h⟩ := Option.bind_eq_some_iff.mp h
      refine RTx.cSz (pc := 15) (M' := M_X11_isOfHundred) (As := [(0, a3)]) (st := []) (r := some (0, p15)) (mem1 := mem0) (d' := d - 1) dX11_horsehair_15 mw_X11_isOfHundred ml_X11_324 mi_X11_isOfHundred rfl rfl (Nat.le_of_ble_eq_true rfl) (Nat.le_of_ble_eq_true rfl) (by omega) rfl rfl (c_X11_isOfHundred hz (by omega) a3 mem0 _ hp15) ?_
      refine RTx.if_eq (pc := 18) (tgt := 33) dX11_horsehair_18 rfl (fun q18 => ?_) (fun q18 => ?_)
      · rw [if_pos q18] at h
        refine RTx.wk (L1 := [(9, 0), (9, 0), (9, 0), (9, 0), (9, 0), (9, 0), (9, 0), (9, 0), (9, 0), (9, 0), (9, 0)]) (rt_le_j (rt_le_j (rt_le_j (rt_le_j (rt_le_j (rt_le_s (rt_le_s (rt_le_s (rt_le_s (rt_le_s (rt_le_s rt_le_n))))))))))) ?_
        exact cj_X11_horsehair_33 hz hd ht mem0 _ h hK
      · rw [if_neg q18] at h
        refine RTx.iload (pc := 21) (k := 4) (x := a4) dX11_horsehair_21 rfl ?_
        refine RTx.iconst (pc := 23) (n := 1) dX11_horsehair_23 ⟨by decide, by decide⟩ ?_
        refine RTx.icmp_lt (pc := 24) (tgt := 33) dX11_horsehair_24 rfl (fun q24 => ?_) (fun q24 => ?_)
        · rw [if_pos q24] at h
          refine RTx.wk (L1 := [(9, 0), (9, 0), (9, 0), (9, 0), (9, 0), (9, 0), (9, 0), (9, 0), (9, 0), (9, 0), (9, 0)]) (rt_le_j (rt_le_j (rt_le_j (rt_le_j (rt_le_j (rt_le_s (rt_le_s (rt_le_s (rt_le_s (rt_le_s (rt_le_s rt_le_n))))))))))) ?_
          exact cj_X11_horsehair_33 hz hd ht mem0 _ h hK
        · rw [if_neg q24] at h
          refine RTx.iload (pc := 27) (k := 4) (x := a4) dX11_horsehair_27 rfl ?_
          refine RTx.iconst (pc := 29) (n := 3) dX11_horsehair_29 ⟨by decide, by decide⟩ ?_
          refine RTx.icmp_le (pc := 30) (tgt := 44) dX11_horsehair_30 rfl (fun q30 => ?_) (fun q30 => ?_)
          · rw [if_pos q30] at h
            refine RTx.iload_n (pc := 44) (k := 1) (x := a1) dX11_horsehair_44 rfl ?_
            refine RTx.i2l (pc := 45) dX11_horsehair_45 ?_
            refine RTx.lstore (pc := 46) (k := 5) (x := a1) (L1 := [(2, a0), (0, a1), (0, a2), (0, a3), (0, a4), (1, a1), (9, 0), (9, 0), (9, 0), (9, 0), (9, 0)]) dX11_horsehair_46 (Nat.le_of_ble_eq_true rfl) rfl ?_
            refine RTx.bipush (pc := 48) (n := 100) dX11_horsehair_48 ⟨by decide, by decide⟩ rfl ?_
            refine RTx.iload_n (pc := 50) (k := 1) (x := a1) dX11_horsehair_50 rfl ?_
            refine RTx.isub (pc := 51) dX11_horsehair_51 ?_
            refine RTx.i2l (pc := 52) dX11_horsehair_52 ?_
            refine RTx.lstore (pc := 53) (k := 7) (x := (rt_isub 100 a1)) (L1 := [(2, a0), (0, a1), (0, a2), (0, a3), (0, a4), (1, a1), (9, 0), (1, (rt_isub 100 a1)), (9, 0), (9, 0), (9, 0)]) dX11_horsehair_53 (Nat.le_of_ble_eq_true rfl) rfl ?_
            refine RTx.iconst (pc := 55) (n := 0) dX11_horsehair_55 ⟨by decide, by decide⟩ ?_
            refine RTx.istore (pc := 56) (k := 9) (x := 0) (L1 := [(2, a0), (0, a1), (0, a2), (0, a3), (0, a4), (1, a1), (9, 0), (1, (rt_isub 100 a1)), (9, 0), (0, 0), (9, 0)]) dX11_horsehair_56 (Nat.le_of_ble_eq_true rfl) rfl ?_
            refine RTx.wk (L1 := [(9, 0), (9, 0), (0, a2), (0, a3), (0, a4), (1, a1), (9, 0), (1, (rt_isub 100 a1)), (9, 0), (0, 0), (9, 0)]) (rt_le_j (rt_le_j (rt_le_s (rt_le_s (rt_le_s (rt_le_s (rt_le_s (rt_le_s (rt_le_s (rt_le_s (rt_le_s rt_le_n))))))))))) ?_
            obtain ⟨X58, hX58, h⟩ := Option.bind_eq_some_iff.mp h
            refine rt_it_ind (P := (fun s1 : Int × Int × Int => RTx G M_X11_horsehair d z Q X 58 [(9, 0), (9, 0), (0, a2), (0, a3), (0, a4), (1, s1.1), (9, 0), (1, s1.2.1), (9, 0), (0, s1.2.2), (9, 0)] [] z mem0)) (X := (fun x1 : Int × Int => RTx G M_X11_horsehair d z Q X 85 [(9, 0), (9, 0), (9, 0), (9, 0), (9, 0), (1, x1.1), (9, 0), (1, x1.2), (9, 0), (9, 0), (9, 0)] [] z mem0)) (fun s1 t1 h1 k1 k2 => cb_X11_horsehair_58 hz hd ht a2 a3 a4 mem0 s1 t1 h1 ⟨k1, k2⟩) 4000 ((a1, (rt_isub 100 a1), 0)) X58 hX58 ?_
            refine RTx.lload (pc := 85) (k := 5) (x := X58.1) dX11_horsehair_85 rfl ?_
            refine RTx.lload (pc := 87) (k := 7) (x := X58.2) dX11_horsehair_87 rfl ?_
            refine RTx.ladd (pc := 89) dX11_horsehair_89 ?_
            refine RTx.lstore (pc := 90) (k := 9) (x := (rt_ladd X58.1 X58.2)) (L1 := [(9, 0), (9, 0), (9, 0), (9, 0), (9, 0), (1, X58.1), (9, 0), (1, X58.2), (9, 0), (1, (rt_ladd X58.1 X58.2)), (9, 0)]) dX11_horsehair_90 (Nat.le_of_ble_eq_true rfl) rfl ?_
            refine RTx.lload (pc := 92) (k := 9) (x := (rt_ladd X58.1 X58.2)) dX11_horsehair_92 rfl ?_
            refine RTx.lconst (pc := 94) (v := 0) dX11_horsehair_94 rfl ?_
            refine RTx.lcmp (pc := 95) dX11_horsehair_95 ?_
            refine RTx.if_gt (pc := 96) (tgt := 110) dX11_horsehair_96 rfl (fun q96 => ?_) (fun q96 => ?_)
            · rw [if_pos q96] at h
              refine RTx.lload (pc := 110) (k := 5) (x := X58.1) dX11_horsehair_110 rfl ?_
              refine RTx.ldc2 (pc := 112) (v := 1000000) dX11_horsehair_112 kl_X11_331 ⟨by decide, by decide⟩ ?_
              refine RTx.lmul (pc := 115) dX11_horsehair_115 ?_
              refine RTx.lload (pc := 116) (k := 9) (x := (rt_ladd X58.1 X58.2)) dX11_horsehair_116 rfl ?_
              by_cases q118 : (rt_ladd X58.1 X58.2) = 0
              · rw [if_pos q118] at h; cases h
              rw [if_neg q118] at h
              refine RTx.ldiv (pc := 118) dX11_horsehair_118 q118 ?_
              refine RTx.l2i (pc := 119) dX11_horsehair_119 ?_
              obtain rfl := Option.some.inj h
              exact RTx.iret (pc := 120) dX11_horsehair_120 rfl (by rw [rt_cells_0]; exact Nat.zero_le _) (by rw [rt_slots_0]; exact Nat.zero_le _) (hK.1 _ rfl)
            · rw [if_neg q96] at h
              obtain rfl := Option.some.inj h
              exact RTx.thr (is := 329) (text := "it is never told") (pc := 99) rfl (by decide) dX11_horsehair_99 dX11_horsehair_102 dX11_horsehair_103 dX11_horsehair_106 dX11_horsehair_109 hd (by rw [show rt_cells z (z.1, z.2 + 1) = 8 from rx_cells8 z]; exact Nat.le_refl _) (by rw [show rt_slots z (z.1, z.2 + 1) = 200 from rx_slots8 z]; exact Nat.le_refl _) (Nat.le_refl _) (hK.2 rfl)
          · rw [if_neg q30] at h
            refine RTx.wk (L1 := [(9, 0), (9, 0), (9, 0), (9, 0), (9, 0), (9, 0), (9, 0), (9, 0), (9, 0), (9, 0), (9, 0)]) (rt_le_j (rt_le_j (rt_le_j (rt_le_j (rt_le_j (rt_le_s (rt_le_s (rt_le_s (rt_le_s (rt_le_s (rt_le_s rt_le_n))))))))))) ?_
            exact cj_X11_horsehair_33 hz hd ht mem0 _ h hK
