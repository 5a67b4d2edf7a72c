/-! Layer 3: moths, the reference's search -/
section
variable {ρ : rq_R} {S : rq_S}
theorem rq_mo_H {n i w : Nat} (hw : (ρ.1 0 0).toNat ≤ w) : (rq_mo ρ S n i).testBit w = false := by
  unfold rq_mo
  split
  · rw [rq_bn_tb]
    simp
    omega
  · simp
theorem rq_mo_tb {n i w : Nat} (hi : i < n) (hw : w < (ρ.1 0 0).toNat) : (rq_mo ρ S n i).testBit w = decide (rq_pn ρ S i (1 + w) = -1) := by
  unfold rq_mo
  rw [if_pos hi, rq_bn_tb]
  simp [hw]
theorem q_mends (hv : rq_va ρ) (hvS : rq_vs ρ S) (h0 : S 0 < 898000) {n : Nat} (hn : n ≤ 4) : ∀ (k f i s : Nat) (X : rq_S) (m : rt_M), k < f → i + k = n → s < 64 → rq_D ρ m → rq_sr X m → rq_md ρ S i s X → rq (F_X12_mendsFrom f 248 (i : Int) (n : Int) m) (rq_mz ρ S n i k s X m) := by
  intro k
  induction k with
  | zero =>
    intro f i s X m hf hik hs hD hX hm
    obtain ⟨f, rfl⟩ : ∃ f', f = f' + 1 := ⟨f - 1, by omega⟩
    have ein : i = n := by omega
    subst ein
    show rq (f_X12_mendsFrom (F_X12_mendsFrom f) 248 (i : Int) (i : Int) m) _
    unfold f_X12_mendsFrom
    have tz : rq_b9 ρ S i + rq_gs ρ S i s + rq_bs (rq_mo ρ S i) (rq_mg ρ S i) true i 0 s = rq_b9 ρ S i + rq_gs ρ S i s := by show _ + (0 : Int) = _; omega
    unfold rq_mz
    rw [if_pos rfl, q_rwornOut hD hX hm.1, Option.bind_some, q_rofficeOf hD, Option.bind_some, q_gfr, Option.bind_some, rq_b9_r hv hn hm, tz]
    by_cases z : m 248 64 < rq_b9 ρ S i + rq_gs ρ S i s
    · rw [if_pos z, q_pfr, Option.bind_some]
      have f1 : rq_fr rq_w94 m (rt_up m 248 64 (rq_b9 ρ S i + rq_gs ρ S i s)) := rq_fr.rfl.up rfl
      refine rq_call (q_mleaf (rq_st_fr hD.1 f1 rq_w94_st) _) ?_
      rintro m1 ⟨b1, b2⟩
      refine rq_some.mpr ⟨⟨fun _ => ⟨?_, fun w hw => ?_, fun w h1 h2 => by omega⟩, fun y => absurd z y⟩, fun w hw => ?_, fun l hl => ?_, fun l hl => ?_, f1.trans (b2.mono (fun k j q => ?_))⟩
      · rw [b2 248 64 rfl, q_up, if_pos ⟨rfl, rfl⟩]
      · rw [b1 w (by omega), q_up, if_neg (by omega)]
      · rw [b2 294 w rfl, q_up, if_neg (by omega)]
      · rw [b2 293 l rfl, q_up, if_neg (by omega)]
      · rw [b2 285 l rfl, q_up, if_neg (by omega)]; exact hX l hl
      · unfold rq_w94 at q
        simp only [Bool.or_eq_false_iff] at q
        exact q.2
    · rw [if_neg z]
      exact rq_some.mpr ⟨⟨fun y => absurd y z, fun _ => ⟨rfl, fun _ _ => rfl⟩⟩, fun _ _ => rfl, fun _ _ => rfl, hX, rq_fr.rfl⟩
  | succ k ih =>
    intro f i s X m hf hik hs hD hX hm
    obtain ⟨f, rfl⟩ : ∃ f', f = f' + 1 := ⟨f - 1, by omega⟩
    have hb := hv.1
    have hgq := rq_mg_b (S := S) hv n
    have hB : ∀ t, 0 ≤ rq_bs (rq_mo ρ S n) (rq_mg ρ S n) true n k t := fun t => (rq_bs_b hgq k t).1
    have ei : n - 1 - k = i := by omega
    have pv := rq_pn_v hv hvS (by omega) i (by omega)
    have x0 : X 0 < 899000 := by rw [hm.2.1, pv.2]; omega
    show rq (f_X12_mendsFrom (F_X12_mendsFrom f) 248 (i : Int) (n : Int) m) _
    unfold f_X12_mendsFrom
    rw [if_neg (by omega), q_gfr, Option.bind_some, q_gfr, Option.bind_some, rq_imul (by omega) (by omega)]
    refine rq_call (q_copies 285 293 0 (13 * i) 13 65 _ _ 0 _ (pt_248_50 hD.1) (pt_248_61 hD.1) rfl (by omega) kd_285 ln_285 (by decide) kd_293 ln_293 (by omega) (by decide) (by decide) (by decide)) ?_
    rintro m1 ⟨c1, f1⟩
    have f1' : rq_fr rq_w94 m m1 := f1.mono (fun k j q => by
      unfold rq_w94 at q
      unfold rq_row
      simp only [Bool.or_eq_false_iff, Bool.and_eq_false_iff, beq_eq_false_iff_ne, decide_eq_false_iff_not] at q ⊢
      omega)
    have hD1 := rq_D_w94 hD f1'
    have k1 : ∀ a l, a ≠ 293 → m1 a l = m a l := fun a l ha => f1 a l (by unfold rq_row; simp only [Bool.and_eq_false_iff, beq_eq_false_iff_ne]; omega)
    have k1' : ∀ l, l < 13 * i → m1 293 l = m 293 l := fun l hl => f1 293 l (by unfold rq_row; simp only [Bool.and_eq_false_iff, beq_eq_false_iff_ne, decide_eq_false_iff_not]; omega)
    have row1 : ∀ l, l < 13 → m1 293 (13 * i + l) = X l := fun l hl => by rw [c1 l hl, Nat.zero_add]; exact hX l hl
    have hX1 : rq_sr X m1 := fun l hl => by rw [k1 285 l (by omega)]; exact hX l hl
    have t295 : m1 295 = m 295 := funext fun w => k1 295 w (by omega)
    have t294 : m1 294 = m 294 := funext fun w => k1 294 w (by omega)
    have t64 : m1 248 64 = m 248 64 := k1 248 64 (by omega)
    have th : ∀ w, w < (ρ.1 0 0).toNat → X (1 + w) = -1 → rq_th (rq_mo ρ S n) (rq_mg ρ S n) true (rq_bs (rq_mo ρ S n) (rq_mg ρ S n) true n k) i s w = (if s.testBit w = true then 0 else rq_mg ρ S n i w) + rq_bs (rq_mo ρ S n) (rq_mg ρ S n) true n k (s ||| 2 ^ w) := fun w hw e => by
      unfold rq_th
      rw [if_neg]
      rw [rq_mo_tb (by omega) hw, ← ((hm.2.2 w (by omega)).1), e]
      simp
    have thn : ∀ w, ¬ (w < (ρ.1 0 0).toNat ∧ X (1 + w) = -1) → rq_th (rq_mo ρ S n) (rq_mg ρ S n) true (rq_bs (rq_mo ρ S n) (rq_mg ρ S n) true n k) i s w = -1 := fun w hw => by
      unfold rq_th
      rw [if_pos (Or.inl ?_)]
      by_cases y : w < (ρ.1 0 0).toNat
      · rw [rq_mo_tb (by omega) y, ← ((hm.2.2 w (by omega)).1)]
        simp
        exact fun q => hw ⟨y, q⟩
      · exact rq_mo_H (by omega)
    have ech : rq_ch (rq_mo ρ S n) (rq_mg ρ S n) true n i s = rq_fst (fun ch => rq_th (rq_mo ρ S n) (rq_mg ρ S n) true (rq_bs (rq_mo ρ S n) (rq_mg ρ S n) true n k) i s ch == rq_bs (rq_mo ρ S n) (rq_mg ρ S n) true n (k + 1) s) 6 := by
      unfold rq_ch
      rw [show n - 1 - i = k by omega, show n - i = k + 1 by omega]
    have ebs : rq_bs (rq_mo ρ S n) (rq_mg ρ S n) true n (k + 1) s = if rq_bs (rq_mo ρ S n) (rq_mg ρ S n) true n k s < rq_mx (rq_th (rq_mo ρ S n) (rq_mg ρ S n) true (rq_bs (rq_mo ρ S n) (rq_mg ρ S n) true n k) i s) (-1) (ρ.1 0 0).toNat then rq_mx (rq_th (rq_mo ρ S n) (rq_mg ρ S n) true (rq_bs (rq_mo ρ S n) (rq_mg ρ S n) true n k) i s) (-1) (ρ.1 0 0).toNat else rq_bs (rq_mo ρ S n) (rq_mg ρ S n) true n k s := by
      show rq_mx (rq_th (rq_mo ρ S n) (rq_mg ρ S n) true (rq_bs (rq_mo ρ S n) (rq_mg ρ S n) true n k) (n - 1 - k) s) (rq_bs (rq_mo ρ S n) (rq_mg ρ S n) true n k s) 6 = _
      have hx := hB s
      rw [ei, rq_mx_max (by omega)]
      have := rq_mx_ext (f := rq_th (rq_mo ρ S n) (rq_mg ρ S n) true (rq_bs (rq_mo ρ S n) (rq_mg ρ S n) true n k) i s) (x := -1) (H := (ρ.1 0 0).toNat) (Int.le_refl _) (fun c hc => thn c (by omega)) (6 - (ρ.1 0 0).toNat)
      rw [show (ρ.1 0 0).toNat + (6 - (ρ.1 0 0).toNat) = 6 by omega] at this
      rw [this]
    have row : ∀ w, rq_rw (rq_mo ρ S n) (rq_mg ρ S n) true n (k + 1) s w = if w = i then rq_ch (rq_mo ρ S n) (rq_mg ρ S n) true n i s else rq_rw (rq_mo ρ S n) (rq_mg ρ S n) true n k (rq_nxt (rq_mo ρ S n) (rq_mg ρ S n) true n i s) w := fun w => by
      show (if w = n - 1 - k then _ else _) = _
      rw [ei]
    have mle := rq_mx_le (f := rq_th (rq_mo ρ S n) (rq_mg ρ S n) true (rq_bs (rq_mo ρ S n) (rq_mg ρ S n) true n k) i s) (x := -1) (ρ.1 0 0).toNat
    -- the loop over the wigs, none at last
    have body : ∀ (j : Nat) (mm : rt_M), j ≤ (ρ.1 0 0).toNat → rq_gj (rq_th (rq_mo ρ S n) (rq_mg ρ S n) true (rq_bs (rq_mo ρ S n) (rq_mg ρ S n) true n k) i s) (fun c => rq_rw (rq_mo ρ S n) (rq_mg ρ S n) true n k (s ||| 2 ^ c)) i n j (rq_b9 ρ S n + rq_gs ρ S n s) (m 294) (m 248 64) (m 295) (mm 248 64) (mm 295) → (∀ w, w < i → mm 294 w = m 294 w) → (∀ l, l < 13 * i → mm 293 l = m 293 l) → (∀ l, l < 13 → mm 293 (13 * i + l) = X l) → rq_sr X mm → rq_fr rq_w94 m mm →
        rq (b_X12_mendsFrom_81 (F_X12_mendsFrom f) 248 (i : Int) (n : Int) ((j : Int), mm)) (fun t => ∃ m', t = .inl (((j + 1 : Nat) : Int), m') ∧ (if j < (ρ.1 0 0).toNat then rq_gj (rq_th (rq_mo ρ S n) (rq_mg ρ S n) true (rq_bs (rq_mo ρ S n) (rq_mg ρ S n) true n k) i s) (fun c => rq_rw (rq_mo ρ S n) (rq_mg ρ S n) true n k (s ||| 2 ^ c)) i n (j + 1) (rq_b9 ρ S n + rq_gs ρ S n s) (m 294) (m 248 64) (m 295) (m' 248 64) (m' 295) else rq_gz i n (rq_b9 ρ S n + rq_gs ρ S n s + rq_bs (rq_mo ρ S n) (rq_mg ρ S n) true n (k + 1) s) (rq_rw (rq_mo ρ S n) (rq_mg ρ S n) true n (k + 1) s) (m 294) (m 248 64) (m 295) (m' 248 64) (m' 295)) ∧ (∀ w, w < i → m' 294 w = m 294 w) ∧ (∀ l, l < 13 * i → m' 293 l = m 293 l) ∧ (∀ l, l < 13 → m' 293 (13 * i + l) = X l) ∧ rq_sr X m' ∧ rq_fr rq_w94 m m') := by
      intro j mm hj hh h294 h293 hrow hXm hfr
      have hDm := rq_D_w94 hD hfr
      unfold b_X12_mendsFrom_81
      dsimp only
      rw [q_gfr, Option.bind_some, q_rn0 hDm 0 rfl, Option.bind_some, if_neg (by omega), Option.bind_some, q_rn0 hDm 0 rfl, Option.bind_some]
      by_cases z : j < (ρ.1 0 0).toNat
      · have vx := (hm.1.2.2 j (by omega)).1
        rw [if_neg (show ¬ (j : Int) = ρ.1 0 0 by omega)]
        simp only [if_pos z]
        unfold j_X12_mendsFrom_106_81
        rw [if_pos rfl, q_gfr, Option.bind_some, q_ron hDm.1 hXm (by omega), Option.bind_some]
        by_cases y : X (1 + j) = -1
        · rw [if_pos (by omega)]
          unfold j_X12_mendsFrom_127_81
          rw [if_pos rfl, q_gfr, Option.bind_some, rq_7n (by omega), q_s8 (k := 285) _ 13 (pt_248_50 hDm.1) kd_285 ln_285 (by omega), Option.bind_some]
          unfold j_X12_mendsFrom_142_81
          rw [q_gfr, Option.bind_some, if_pos rfl]
          have f2 : rq_fr rq_w94 mm (rt_up mm 285 (7 + j) 0) := rq_fr.rfl.up rfl
          have os : s ||| 2 ^ j < 64 := Nat.or_lt_two_pow (n := 6) hs (by have : 2 ^ j < 2 ^ 6 := Nat.pow_lt_pow_right (by decide) (by omega); omega)
          refine rq_mono (q_mtail (X0 := X) (k := k) (rq_D_w94 hDm f2) (rq_sr_at hXm) hn (by omega) (rq_md_mend hm (w := j) (by omega) (by omega)) (by unfold rq_at; rw [if_neg (by omega)]; exact x0) (fun l hl => by show mm 293 _ = _; exact hrow l hl) (j : Int) (j : Int) (F_X12_mendsFrom f) (fun X' m2 a1 a2 a3 => ih f (i + 1) _ X' m2 (by omega) (by omega) os a1 a2 a3)) ?_
          rintro t ⟨m', e, ⟨cu', d1, d2, d3⟩, d4, d5, d6, d7⟩
          refine ⟨m', by rw [e, rq_n1 (by omega)], ?_, fun w hw => by rw [d4 w hw]; exact h294 w hw, fun l hl => by rw [d5 l (by omega)]; exact h293 l hl, fun l hl => by rw [d5 _ (by omega)]; exact hrow l hl, d6, (hfr.trans f2).trans d7⟩
          have fj := th j z y
          have gb := hgq i j
          have hBj := hB (s ||| 2 ^ j)
          refine rq_gj_step (cu' := cu') (by omega) (by rw [fj]; split <;> omega) (fun w hw => by rw [d2 w hw]; exact h294 w hw) d1 hh ?_
          rw [rq_gs_add n s (w := j) (by omega) i] at d3
          rw [fj]
          have e3 : rq_b9 ρ S n + (rq_gs ρ S n s + (if s.testBit j = true then 0 else rq_mg ρ S n i j)) + rq_bs (rq_mo ρ S n) (rq_mg ρ S n) true n k (s ||| 2 ^ j) = rq_b9 ρ S n + rq_gs ρ S n s + ((if s.testBit j = true then 0 else rq_mg ρ S n i j) + rq_bs (rq_mo ρ S n) (rq_mg ρ S n) true n k (s ||| 2 ^ j)) := by omega
          rw [e3] at d3
          exact d3
        · rw [if_neg (by omega)]
          unfold j_X12_mendsFrom_187_81
          rw [rq_n1 (by omega)]
          exact rq_some.mpr ⟨mm, rfl, rq_gj_skip (thn j (fun q => y q.2)) hh, h294, h293, hrow, hXm, hfr⟩
      · have ej : j = (ρ.1 0 0).toNat := by omega
        rw [if_pos (show (j : Int) = ρ.1 0 0 by omega)]
        simp only [if_neg z]
        unfold j_X12_mendsFrom_106_81
        rw [if_neg (by decide)]
        unfold j_X12_mendsFrom_127_81
        rw [if_neg (by decide)]
        unfold j_X12_mendsFrom_142_81
        rw [q_gfr, Option.bind_some, if_neg (by decide)]
        refine rq_mono (q_mtail (X0 := X) (k := k) hDm hXm hn (by omega) hm x0 hrow (-1) (j : Int) (F_X12_mendsFrom f) (fun X' m2 a1 a2 a3 => ih f (i + 1) _ X' m2 (by omega) (by omega) hs a1 a2 a3)) ?_
        rintro t ⟨m', e, ⟨cu', d1, d2, d3⟩, d4, d5, d6, d7⟩
        refine ⟨m', by rw [e, rq_n1 (by omega)], ?_, fun w hw => by rw [d4 w hw]; exact h294 w hw, fun l hl => by rw [d5 l (by omega)]; exact h293 l hl, fun l hl => by rw [d5 _ (by omega)]; exact hrow l hl, d6, hfr.trans d7⟩
        rw [ej] at hh
        refine rq_gj_last (cu' := cu') (by omega) (hB s) (fun w hw => by rw [d2 w hw]; exact h294 w hw) d1 ebs (fun hlt w h1 h2 => ?_) (fun c hc e1 e2 e3 w h1 h2 => ?_) hh d3
        · have hc1 : rq_ch (rq_mo ρ S n) (rq_mg ρ S n) true n i s = -1 := by
            rw [ech, ebs, if_neg (by omega)]
            have hx := hB s
            refine rq_fst_none (fun j hj => ?_)
            by_cases y : j < (ρ.1 0 0).toNat
            · have := mle j y
              simp
              omega
            · have := thn j (fun q => y q.1)
              simp
              omega
          rw [row, hc1]
          unfold rq_nxt
          rw [if_pos hc1]
        · have hc1 : rq_ch (rq_mo ρ S n) (rq_mg ρ S n) true n i s = (c : Int) := by
            have et : rq_bs (rq_mo ρ S n) (rq_mg ρ S n) true n (k + 1) s = rq_mx (rq_th (rq_mo ρ S n) (rq_mg ρ S n) true (rq_bs (rq_mo ρ S n) (rq_mg ρ S n) true n k) i s) (-1) (ρ.1 0 0).toNat := by rw [ebs]; split <;> omega
            rw [ech, et]
            refine rq_fst_some (by omega) (by simp [e1]) (fun j hj => ?_)
            have := e2 j hj
            simp
            omega
          rw [row, hc1]
          unfold rq_nxt
          rw [hc1, if_neg (show ¬ (c : Int) = -1 by omega), Int.toNat_natCast]
    refine rq_call (rq_up (Q := rq_mz ρ S n i (k + 1) s X m) (fun j t => t.1 = (j : Int) ∧ (if j ≤ (ρ.1 0 0).toNat then rq_gj (rq_th (rq_mo ρ S n) (rq_mg ρ S n) true (rq_bs (rq_mo ρ S n) (rq_mg ρ S n) true n k) i s) (fun c => rq_rw (rq_mo ρ S n) (rq_mg ρ S n) true n k (s ||| 2 ^ c)) i n j (rq_b9 ρ S n + rq_gs ρ S n s) (m 294) (m 248 64) (m 295) (t.2 248 64) (t.2 295) else rq_gz i n (rq_b9 ρ S n + rq_gs ρ S n s + rq_bs (rq_mo ρ S n) (rq_mg ρ S n) true n (k + 1) s) (rq_rw (rq_mo ρ S n) (rq_mg ρ S n) true n (k + 1) s) (m 294) (m 248 64) (m 295) (t.2 248 64) (t.2 295)) ∧ (∀ w, w < i → t.2 294 w = m 294 w) ∧ (∀ l, l < 13 * i → t.2 293 l = m 293 l) ∧ (∀ l, l < 13 → t.2 293 (13 * i + l) = X l) ∧ rq_sr X t.2 ∧ rq_fr rq_w94 m t.2) ((ρ.1 0 0).toNat + 1) (by omega) ?_ ?_ ?_) (fun m2 q => rq_some.mpr q)
    · rintro j ⟨x, mm⟩ hj ⟨e1, e2, e3, e4, e5, e6, e7⟩
      dsimp only at e1 e2 e3 e4 e5 e6 e7
      subst e1
      rw [if_pos (by omega)] at e2
      refine rq_mono (body j mm (by omega) e2 e3 e4 e5 e6 e7) ?_
      rintro t ⟨m', rfl, g1, g2⟩
      refine rq_inl ⟨rfl, ?_, g2⟩
      dsimp only
      by_cases z : j < (ρ.1 0 0).toNat
      · rw [if_pos z] at g1
        rw [if_pos (by omega)]; exact g1
      · rw [if_neg z] at g1
        rw [if_neg (by omega)]; exact g1
    · rintro ⟨x, mm⟩ ⟨e1, e2, e3, e4, e5, e6, e7⟩
      dsimp only at e1 e2 e3 e4 e5 e6 e7
      subst e1
      have hDm := rq_D_w94 hD e7
      rw [if_neg (by omega)] at e2
      unfold b_X12_mendsFrom_81
      dsimp only
      rw [q_gfr, Option.bind_some, q_rn0 hDm 0 rfl, Option.bind_some, if_pos (by omega)]
      exact rq_some.mpr (rq_inre ⟨e2, e3, e4, e6, e7⟩)
    · refine ⟨rfl, ?_, fun w hw => by show m1 294 w = _; rw [t294], k1', row1, hX1, f1'⟩
      dsimp only
      rw [if_pos (Nat.zero_le _), t64, t295]
      exact rq_gj_0
end
