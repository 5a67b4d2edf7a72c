/-! Layer 4: the law's loop, in part printed by program (wip/whole/genlaw3.py) -/
theorem rq_land31 (x : Int) : ∃ j : Nat, j < 32 ∧ rt_iand x 31 = (j : Int) := by
  unfold rt_iand
  refine ⟨((Int32.ofInt x).toBitVec &&& (31#32)).toNat, ?_, ?_⟩
  · rw [BitVec.toNat_and]
    exact Nat.lt_of_le_of_lt Nat.and_le_right (by decide)
  · show ((Int32.ofInt x).toBitVec &&& (31#32)).toInt = _
    refine BitVec.toInt_eq_toNat_of_lt ?_
    rw [BitVec.toNat_and]
    have : (Int32.ofInt x).toBitVec.toNat &&& (31#32).toNat ≤ 31 := Nat.and_le_right
    omega
theorem lc_switch {G : rt_G} {Q : rt_P} {d n k : Nat} {mem : rt_M} (hd : 2048 ≤ d) (hn : n < 512) (hk : k ≤ n) (i : Int) (x : Nat → Int) (hX : lc_X G i x) (hI : rq_I n mem) (v : Int) (K : ∀ mem1 k1, k1 ≤ n + 1 → rq_I (n + 1) mem1 → RT G M_law d (41, 0) Q 1363 (lc_L i) [] (301, k1) mem1) : RT G M_law d (41, 0) Q 40 (lc_L i) [(0, rt_iand v 31)] (301, k) mem := by
  have hk1 : k + 1 ≤ 512 := by omega
  obtain ⟨j, hj, e⟩ := rq_land31 v
  rw [e]
  by_cases z0 : j = 0
  · subst z0
    refine RT.tsIn (pc := 40) (off := 140) (tgt := 180) dL_law_40 (by decide) (by decide) rfl rfl ?_
    exact lc_180 hd (by omega) _ _ hX hI (by omega) (fun mem1 h1 => K mem1 k (Nat.le_succ_of_le hk) h1)
  by_cases z1 : j = 1
  · subst z1
    refine RT.tsIn (pc := 40) (off := 287) (tgt := 327) dL_law_40 (by decide) (by decide) rfl rfl ?_
    exact lc_327 hd (by omega) _ _ hX hI (by omega) (fun mem1 h1 => K mem1 k (Nat.le_succ_of_le hk) h1)
  by_cases z2 : j = 2
  · subst z2
    refine RT.tsIn (pc := 40) (off := 300) (tgt := 340) dL_law_40 (by decide) (by decide) rfl rfl ?_
    exact lc_340 hd (by omega) _ _ hX hI (by omega) (fun mem1 h1 => K mem1 k (Nat.le_succ_of_le hk) h1)
  by_cases z3 : j = 3
  · subst z3
    refine RT.tsIn (pc := 40) (off := 313) (tgt := 353) dL_law_40 (by decide) (by decide) rfl rfl ?_
    exact lc_353 hd (by omega) _ _ hX hI (by omega) (fun mem1 h1 => K mem1 k (Nat.le_succ_of_le hk) h1)
  by_cases z4 : j = 4
  · subst z4
    refine RT.tsIn (pc := 40) (off := 350) (tgt := 390) dL_law_40 (by decide) (by decide) rfl rfl ?_
    exact lc_390 hd (by omega) _ _ hX hI (by omega) (fun mem1 h1 => K mem1 k (Nat.le_succ_of_le hk) h1)
  by_cases z5 : j = 5
  · subst z5
    refine RT.tsIn (pc := 40) (off := 387) (tgt := 427) dL_law_40 (by decide) (by decide) rfl rfl ?_
    exact lc_427 hd (by omega) _ _ hX hI (by omega) (fun mem1 h1 => K mem1 k (Nat.le_succ_of_le hk) h1)
  by_cases z6 : j = 6
  · subst z6
    refine RT.tsIn (pc := 40) (off := 436) (tgt := 476) dL_law_40 (by decide) (by decide) rfl rfl ?_
    exact lc_476 hd (by omega) _ _ hX hI (by omega) (fun mem1 h1 => K mem1 k (Nat.le_succ_of_le hk) h1)
  by_cases z7 : j = 7
  · subst z7
    refine RT.tsIn (pc := 40) (off := 473) (tgt := 513) dL_law_40 (by decide) (by decide) rfl rfl ?_
    exact lc_513 hd (by omega) _ _ hX hI (by omega) (fun mem1 h1 => K mem1 k (Nat.le_succ_of_le hk) h1)
  by_cases z8 : j = 8
  · subst z8
    refine RT.tsIn (pc := 40) (off := 498) (tgt := 538) dL_law_40 (by decide) (by decide) rfl rfl ?_
    exact lc_538 hd (by omega) _ _ hX hI (by omega) (fun mem1 h1 => K mem1 k (Nat.le_succ_of_le hk) h1)
  by_cases z9 : j = 9
  · subst z9
    refine RT.tsIn (pc := 40) (off := 523) (tgt := 563) dL_law_40 (by decide) (by decide) rfl rfl ?_
    exact lc_563 hd (by omega) _ _ hX hI (by omega) (fun mem1 h1 => K mem1 k (Nat.le_succ_of_le hk) h1)
  by_cases z10 : j = 10
  · subst z10
    refine RT.tsIn (pc := 40) (off := 536) (tgt := 576) dL_law_40 (by decide) (by decide) rfl rfl ?_
    exact lc_576 hd (by omega) _ _ hX hI (by omega) (fun mem1 h1 => K mem1 k (Nat.le_succ_of_le hk) h1)
  by_cases z11 : j = 11
  · subst z11
    refine RT.tsIn (pc := 40) (off := 549) (tgt := 589) dL_law_40 (by decide) (by decide) rfl rfl ?_
    exact lc_589 hd (by omega) _ _ hX hI (by omega) (fun mem1 h1 => K mem1 k (Nat.le_succ_of_le hk) h1)
  by_cases z12 : j = 12
  · subst z12
    refine RT.tsIn (pc := 40) (off := 574) (tgt := 614) dL_law_40 (by decide) (by decide) rfl rfl ?_
    exact lc_614 hd (by omega) _ _ hX hI (by omega) (fun mem1 h1 => K mem1 k (Nat.le_succ_of_le hk) h1)
  by_cases z13 : j = 13
  · subst z13
    refine RT.tsIn (pc := 40) (off := 599) (tgt := 639) dL_law_40 (by decide) (by decide) rfl rfl ?_
    exact lc_639 hd (by omega) _ _ hX hI (by omega) (fun mem1 h1 => K mem1 k (Nat.le_succ_of_le hk) h1)
  by_cases z14 : j = 14
  · subst z14
    refine RT.tsIn (pc := 40) (off := 636) (tgt := 676) dL_law_40 (by decide) (by decide) rfl rfl ?_
    exact lc_676 hd (by omega) _ _ hX hI (by omega) (fun mem1 h1 => K mem1 k (Nat.le_succ_of_le hk) h1)
  by_cases z15 : j = 15
  · subst z15
    refine RT.tsIn (pc := 40) (off := 701) (tgt := 741) dL_law_40 (by decide) (by decide) rfl rfl ?_
    exact lc_741 hd (by omega) _ _ hX hI (by omega) (fun mem1 h1 => K mem1 k (Nat.le_succ_of_le hk) h1)
  by_cases z16 : j = 16
  · subst z16
    refine RT.tsIn (pc := 40) (off := 726) (tgt := 766) dL_law_40 (by decide) (by decide) rfl rfl ?_
    exact lc_766 hd (by omega) _ _ hX hI (by omega) (fun mem1 h1 => K mem1 k (Nat.le_succ_of_le hk) h1)
  by_cases z17 : j = 17
  · subst z17
    refine RT.tsIn (pc := 40) (off := 751) (tgt := 791) dL_law_40 (by decide) (by decide) rfl rfl ?_
    exact lc_791 hd (by omega) _ _ hX hI (by omega) (fun mem1 h1 => K mem1 k (Nat.le_succ_of_le hk) h1)
  by_cases z18 : j = 18
  · subst z18
    refine RT.tsIn (pc := 40) (off := 800) (tgt := 840) dL_law_40 (by decide) (by decide) rfl rfl ?_
    exact lc_840 hd (by omega) _ _ hX hI (by omega) (fun mem1 h1 => K mem1 k (Nat.le_succ_of_le hk) h1)
  by_cases z19 : j = 19
  · subst z19
    refine RT.tsIn (pc := 40) (off := 825) (tgt := 865) dL_law_40 (by decide) (by decide) rfl rfl ?_
    exact lc_865 hd (by omega) _ _ hX hI (by omega) (fun mem1 h1 => K mem1 k (Nat.le_succ_of_le hk) h1)
  by_cases z20 : j = 20
  · subst z20
    refine RT.tsIn (pc := 40) (off := 862) (tgt := 902) dL_law_40 (by decide) (by decide) rfl rfl ?_
    exact lc_902 hd (by omega) _ _ hX hI (by omega) (fun mem1 h1 => K mem1 k (Nat.le_succ_of_le hk) h1)
  by_cases z21 : j = 21
  · subst z21
    refine RT.tsIn (pc := 40) (off := 899) (tgt := 939) dL_law_40 (by decide) (by decide) rfl rfl ?_
    exact lc_939 hd (by omega) _ _ hX hI (by omega) (fun mem1 h1 => K mem1 k (Nat.le_succ_of_le hk) h1)
  by_cases z22 : j = 22
  · subst z22
    refine RT.tsIn (pc := 40) (off := 924) (tgt := 964) dL_law_40 (by decide) (by decide) rfl rfl ?_
    exact lc_964 hd (by omega) _ _ hX hI (by omega) (fun mem1 h1 => K mem1 k (Nat.le_succ_of_le hk) h1)
  by_cases z23 : j = 23
  · subst z23
    refine RT.tsIn (pc := 40) (off := 937) (tgt := 977) dL_law_40 (by decide) (by decide) rfl rfl ?_
    exact lc_977 hd (by omega) _ _ hX hI (by omega) (fun mem1 h1 => K mem1 k (Nat.le_succ_of_le hk) h1)
  by_cases z24 : j = 24
  · subst z24
    refine RT.tsIn (pc := 40) (off := 962) (tgt := 1002) dL_law_40 (by decide) (by decide) rfl rfl ?_
    exact lc_1002 hd (by omega) _ _ hX hI (by omega) (fun mem1 h1 => K mem1 k (Nat.le_succ_of_le hk) h1)
  by_cases z25 : j = 25
  · subst z25
    refine RT.tsIn (pc := 40) (off := 999) (tgt := 1039) dL_law_40 (by decide) (by decide) rfl rfl ?_
    exact lc_1039 hd (by omega) _ _ hX hI (by omega) (fun mem1 h1 => K mem1 k (Nat.le_succ_of_le hk) h1)
  by_cases z26 : j = 26
  · subst z26
    refine RT.tsIn (pc := 40) (off := 1024) (tgt := 1064) dL_law_40 (by decide) (by decide) rfl rfl ?_
    exact lc_1064 hd hk1 _ _ hX hI (fun mem1 h1 => K mem1 (k + 1) (Nat.succ_le_succ hk) h1)
  by_cases z27 : j = 27
  · subst z27
    refine RT.tsIn (pc := 40) (off := 1104) (tgt := 1144) dL_law_40 (by decide) (by decide) rfl rfl ?_
    exact lc_1144 hd hk1 _ _ hX hI (fun mem1 h1 => K mem1 (k + 1) (Nat.succ_le_succ hk) h1)
  by_cases z28 : j = 28
  · subst z28
    refine RT.tsIn (pc := 40) (off := 1196) (tgt := 1236) dL_law_40 (by decide) (by decide) rfl rfl ?_
    exact lc_1236 hd (by omega) _ _ hX hI (by omega) (fun mem1 h1 => K mem1 k (Nat.le_succ_of_le hk) h1)
  by_cases z29 : j = 29
  · subst z29
    refine RT.tsIn (pc := 40) (off := 1245) (tgt := 1285) dL_law_40 (by decide) (by decide) rfl rfl ?_
    exact lc_1285 hd (by omega) _ _ hX hI (by omega) (fun mem1 h1 => K mem1 k (Nat.le_succ_of_le hk) h1)
  by_cases z30 : j = 30
  · subst z30
    refine RT.tsIn (pc := 40) (off := 1298) (tgt := 1338) dL_law_40 (by decide) (by decide) rfl rfl ?_
    exact lc_1338 hd (by omega) _ _ hX hI (by omega) (fun mem1 h1 => K mem1 k (Nat.le_succ_of_le hk) h1)
  refine RT.tsOut (pc := 40) (tgt := 1363) dL_law_40 (Or.inr (by omega)) rfl ?_
  exact K mem k (Nat.le_succ_of_le hk) (rq_I_s hI)
theorem lc_loop {G : rt_G} {d : Nat} {Q : rt_P} (hd : 2048 ≤ d) (hL : rt_L G ≤ 3584) (hQ : ∀ z mem, Q (some (0, 1)) z mem) : ∀ f n k mem, rt_L G ≤ 7 * n + f → 7 * n ≤ rt_L G → k ≤ n → rq_I n mem → RT G M_law d (41, 0) Q 23 (lc_L ((7 * n : Nat) : Int)) [] (301, k) mem := by
  intro f
  induction f with
  | zero =>
    intro n k mem hf hn hk hI
    refine RT.iload (pc := 23) (k := 4) (x := ((7 * n : Nat) : Int)) dL_law_23 rfl ?_
    refine RT.aload_n (pc := 25) (k := 0) (x := 40) dL_law_25 rfl ?_
    refine RT.slen (pc := 26) hL dL_law_26 ?_
    refine RT.bipush (pc := 27) (n := 7) dL_law_27 ⟨by decide, by decide⟩ rfl ?_
    refine RT.isub (pc := 29) dL_law_29 ?_
    rw [rq_isub (by omega) (by omega)]
    refine RT.icmp_gt (pc := 30) (tgt := 1369) dL_law_30 rfl (fun _ => ?_) (fun z => absurd (by omega) z)
    refine RT.iconst (pc := 1369) (n := 1) dL_law_1369 ⟨by decide, by decide⟩ ?_
    exact RT.zret (pc := 1370) dL_law_1370 rfl (Or.inr rfl) (lc_room (by omega)).1 (lc_room (by omega)).2 (hQ _ _)
  | succ f ih =>
    intro n k mem hf hn hk hI
    refine RT.iload (pc := 23) (k := 4) (x := ((7 * n : Nat) : Int)) dL_law_23 rfl ?_
    refine RT.aload_n (pc := 25) (k := 0) (x := 40) dL_law_25 rfl ?_
    refine RT.slen (pc := 26) hL dL_law_26 ?_
    refine RT.bipush (pc := 27) (n := 7) dL_law_27 ⟨by decide, by decide⟩ rfl ?_
    refine RT.isub (pc := 29) dL_law_29 ?_
    rw [rq_isub (by omega) (by omega)]
    refine RT.icmp_gt (pc := 30) (tgt := 1369) dL_law_30 rfl (fun _ => ?_) (fun z => ?_)
    · refine RT.iconst (pc := 1369) (n := 1) dL_law_1369 ⟨by decide, by decide⟩ ?_
      exact RT.zret (pc := 1370) dL_law_1370 rfl (Or.inr rfl) (lc_room (by omega)).1 (lc_room (by omega)).2 (hQ _ _)
    · have hin : 7 * n + 7 ≤ rt_L G := by omega
      have sl : ∀ j : Nat, j ≤ 6 → rt_sl (rt_L G) (fun j => (rt_xs G j).toInt) (((7 * n + j : Nat)) : Int) = some ((rt_xs G (7 * n + j)).toInt) := fun j hj => by
        unfold rt_sl
        rw [if_pos ⟨by omega, by omega⟩, Int.toNat_natCast]
      have hX : lc_X G ((7 * n : Nat) : Int) (fun j => (rt_xs G (7 * n + j)).toInt) := fun j hj => by
        rw [rq_iadd (by omega) (by omega), show ((7 * n : Nat) : Int) + (j : Int) = ((7 * n + j : Nat) : Int) by omega]
        exact sl j hj
      refine RT.aload_n (pc := 33) (k := 0) (x := 40) dL_law_33 rfl ?_
      refine RT.iload (pc := 34) (k := 4) (x := ((7 * n : Nat) : Int)) dL_law_34 rfl ?_
      refine RT.sld (pc := 36) (v := (rt_xs G (7 * n + 0)).toInt) dL_law_36 (sl 0 (by decide)) ?_
      refine RT.bipush (pc := 37) (n := 31) dL_law_37 ⟨by decide, by decide⟩ rfl ?_
      refine RT.iand (pc := 39) dL_law_39 ?_
      refine lc_switch hd (by omega) hk _ _ hX hI _ (fun mem1 k1 hk1 hI1 => ?_)
      have e7 : rt_iadd ((7 * n : Nat) : Int) 7 = ((7 * (n + 1) : Nat) : Int) := by
        rw [rq_iadd (by omega) (by omega)]; omega
      refine RT.iinc (pc := 1363) (x := ((7 * n : Nat) : Int)) (L1 := lc_L ((7 * (n + 1) : Nat) : Int)) dL_law_1363 rfl (Nat.le_of_ble_eq_true rfl) ⟨by decide, by decide⟩ (by rw [e7]; rfl) ?_
      refine RT.goto (pc := 1366) (tgt := 23) dL_law_1366 rfl ?_
      exact ih (n + 1) k1 mem1 (by omega) (by omega) hk1 hI1
