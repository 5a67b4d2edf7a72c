/-! Layer 4: the law from its first instruction -/
theorem co_L_8 : Cond.classLink RL 8 (rt_R 11) ∈ rt_mG := (rt_inG (rt_t1 21 (by decide +kernel)) rfl)
theorem co_L_20 : Cond.classLink RL 20 (rt_R 12) ∈ rt_mG := (rt_inG (rt_t5 171 (by decide +kernel)) rfl)
theorem ib_X11 : Cond.instantiable (rt_R 11) (rt_N 11) ∈ rt_mG := (rt_inG (rt_t1 22 (by decide +kernel)) rfl)
theorem ib_X12 : Cond.instantiable (rt_R 12) (rt_N 12) ∈ rt_mG := (rt_inG (rt_t5 172 (by decide +kernel)) rfl)
theorem it_X11 : Cond.initialized (rt_R 11) ∈ rt_mG := (rt_inG (rt_t1 1 (by decide +kernel)) rfl)
theorem it_X12 : Cond.initialized (rt_R 12) ∈ rt_mG := (rt_inG (rt_t1 14 (by decide +kernel)) rfl)
theorem ni_L_19 : rt_Ml RL 19 M_X11_init := Or.inl (rt_inG (rt_t1 23 (by decide +kernel)) rfl)
theorem ni_L_22 : rt_Ml RL 22 M_X12_init := Or.inl (rt_inG (rt_t5 173 (by decide +kernel)) rfl)
theorem rz_if {α : Type} {c : Prop} [Decidable c] {o : Option α} {t : α} (h : (if c then o else none) = some t) : c ∧ o = some t := by
  by_cases z : c
  · rw [if_pos z] at h; exact ⟨z, h⟩
  · rw [if_neg z] at h; cases h
theorem lc_law {G : rt_G} {d : Nat} {Q : rt_P} (hd : 2048 ≤ d) (hL : rt_L G ≤ 3584) (hQ : ∀ z mem, Q (some (0, 1)) z mem) : RT G M_law d (41, 0) Q 0 [(2, 40), (9, 0), (9, 0), (9, 0), (9, 0), (9, 0), (9, 0)] [] (41, 0) (fun _ _ => 0) := by
  obtain ⟨m, hm, hI⟩ := rz_I
  unfold rz_m at hm
  obtain ⟨⟨k0, m0⟩, h0, g0⟩ := Option.bind_eq_some_iff.mp hm
  obtain ⟨e0, g1⟩ := rz_if g0
  obtain ⟨u1, h1, g2⟩ := Option.bind_eq_some_iff.mp g1
  obtain ⟨⟨k1, m1⟩, h2, g3⟩ := Option.bind_eq_some_iff.mp g2
  obtain ⟨e1, g4⟩ := rz_if g3
  obtain ⟨⟨k2, m2⟩, h3, g5⟩ := Option.bind_eq_some_iff.mp g4
  obtain ⟨e2, g6⟩ := rz_if g5
  obtain ⟨u3, h4, g7⟩ := Option.bind_eq_some_iff.mp g6
  obtain ⟨⟨k3, m3⟩, h5, g8⟩ := Option.bind_eq_some_iff.mp g7
  obtain ⟨e3, g9⟩ := rz_if g8
  clear hm g0 g1 g2 g3 g4 g5 g6 g7 g8
  dsimp only at e0 e1 e2 e3 h1 h2 h3 h4 h5 g9
  subst e0 e1 e2 e3
  refine RT.no 11 (pc := 0) dL_law_0 co_L_8 ib_X11 it_X11 cl_X11 ff_X11 h0 ?_
  refine RT.dup (pc := 3) dL_law_3 (show ¬ ((2 : Nat) = 1) by decide) ?_
  refine RT.ci (pc := 4) (M' := M_X11_init) (x := 41) (As := []) (st := [(2, 41)]) (d' := d - 1) (p' := u1) dL_law_4 nw_X11_init ni_L_19 nj_X11_init rfl rfl (Nat.le_of_ble_eq_true rfl) rfl rfl (Nat.le_of_ble_eq_true rfl) (Nat.le_of_ble_eq_true rfl) (by omega) h2 (c_X11_init (by omega) 41 m0 _ rfl (Nat.le_of_ble_eq_true rfl) h1) ?_
  refine RT.astore_n (pc := 7) (k := 1) (x := 41) (L1 := [(2, 40), (2, 41), (9, 0), (9, 0), (9, 0), (9, 0), (9, 0)]) dL_law_7 (Nat.le_of_ble_eq_true rfl) rfl ?_
  refine RT.no 12 (pc := 8) dL_law_8 co_L_20 ib_X12 it_X12 cl_X12 ff_X12 h3 ?_
  refine RT.dup (pc := 11) dL_law_11 (show ¬ ((2 : Nat) = 1) by decide) ?_
  refine RT.ci (pc := 12) (M' := M_X12_init) (x := 248) (As := []) (st := [(2, 248)]) (d' := d - 1) (p' := u3) dL_law_12 nw_X12_init ni_L_22 nj_X12_init rfl rfl (Nat.le_of_ble_eq_true rfl) rfl rfl (Nat.le_of_ble_eq_true rfl) (Nat.le_of_ble_eq_true rfl) (by omega) h5 (c_X12_init (by omega) 248 m2 _ rfl (Nat.le_of_ble_eq_true rfl) h4) ?_
  refine RT.astore_n (pc := 15) (k := 2) (x := 248) (L1 := [(2, 40), (2, 41), (2, 248), (9, 0), (9, 0), (9, 0), (9, 0)]) dL_law_15 (Nat.le_of_ble_eq_true rfl) rfl ?_
  refine RT.iconst (pc := 16) (n := 1) dL_law_16 ⟨by decide, by decide⟩ ?_
  refine RT.na 9 (pc := 17) (n := 1) (k := 300) (mem := m3) (t := (301, m)) dL_law_17 rfl (show Cond.arrayClass (rt_aty 9) ∈ rt_mG from ac_2) (by decide) g9 ?_
  refine RT.astore_n (pc := 19) (k := 3) (x := 300) (L1 := [(2, 40), (2, 41), (2, 248), (2, 300), (9, 0), (9, 0), (9, 0)]) dL_law_19 (Nat.le_of_ble_eq_true rfl) rfl ?_
  refine RT.iconst (pc := 20) (n := 0) dL_law_20 ⟨by decide, by decide⟩ ?_
  refine RT.istore (pc := 21) (k := 4) (x := 0) (L1 := lc_L 0) dL_law_21 (Nat.le_of_ble_eq_true rfl) rfl ?_
  exact lc_loop hd hL hQ (rt_L G) 0 0 m (by omega) (by omega) (Nat.le_refl 0) hI
