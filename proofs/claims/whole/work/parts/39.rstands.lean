/-! Layer 3: the reference's stands -/
def rq_sr (S : rq_S) (m : rt_M) : Prop := ∀ i, i < 13 → m 285 i = S i
def rq_wR (k j : Nat) : Bool := rq_wF k j || k == 285
theorem rq_wR_st : (rq_P.all fun p => !(rq_wR p.1 p.2.1)) = true := by decide +kernel
theorem rq_wR_F {k j : Nat} (h : rq_wR k j = false) : rq_wF k j = false := by
  unfold rq_wR at h
  simp only [Bool.or_eq_false_iff] at h
  exact h.1
section
variable {ρ : rq_R} {S : rq_S} {m : rt_M}
theorem rq_D_wR {m' : rt_M} (h : rq_D ρ m) (k : rq_fr rq_wR m m') : rq_D ρ m' := by
  obtain ⟨hs, hv, hc⟩ := h
  refine ⟨rq_st_fr hs k rq_wR_st, hv, rq_rr_fr hc (fun a j h1 h2 => k a j ?_)⟩
  unfold rq_wR rq_wF
  simp
  omega
theorem rq_sr_wF {m' : rt_M} (h : rq_sr S m) (k : rq_fr rq_wF m m') : rq_sr S m' := fun i hi => by rw [k 285 i rfl]; exact h i hi
theorem q_rs0 (hs : rq_st m) (h : rq_sr S m) (i : Int) (hi : i = 0) : rt_al 1 (m 248 50) i m = some (S 0) := by
  subst hi
  rw [q_a9 (k := 285) _ 0 13 0 (pt_248_50 hs) kd_285 ln_285 rfl (by decide), h 0 (by decide)]
theorem q_ron (hs : rq_st m) (h : rq_sr S m) {w : Nat} (hw : w < 6) : rt_al 1 (m 248 50) (rt_iadd 1 (w : Int)) m = some (S (1 + w)) := by
  rw [rq_1n (by omega), q_a8 (k := 285) _ 13 (pt_248_50 hs) kd_285 ln_285 (by omega), h _ (by omega)]
theorem q_rwe (hs : rq_st m) (h : rq_sr S m) {w : Nat} (hw : w < 6) : rt_al 1 (m 248 50) (rt_iadd 7 (w : Int)) m = some (S (7 + w)) := by
  rw [rq_7n (by omega), q_a8 (k := 285) _ 13 (pt_248_50 hs) kd_285 ln_285 (by omega), h _ (by omega)]
theorem q_rwigOn (h : rq_D ρ m) (hS : rq_sr S m) (hv : rq_vs ρ S) (k : Nat) : f_X12_wigOn 248 k m = some (rq_wo S k) := by
  have hb := h.2.1.1
  unfold f_X12_wigOn
  apply rq_of
  refine rq_call (rq_up (Q := fun e => match e with
      | .inl _ => rq_wo S k = -1
      | .inr t => rq_wo S k = t) (fun i s => s = (i : Int) ∧ ∀ j, j < i → (S (1 + j) == (k : Int)) = false) (ρ.1 0 0).toNat (by omega) ?_ ?_ ⟨rfl, fun j hj => absurd hj (Nat.not_lt_zero _)⟩) ?_
  · rintro i s hi ⟨rfl, hj⟩
    unfold b_X12_wigOn_2
    rw [q_gfr, Option.bind_some, q_rn0 h 0 rfl, Option.bind_some, if_neg (by omega), q_gfr, Option.bind_some, q_ron h.1 hS (by omega), Option.bind_some]
    by_cases q : S (1 + i) = (k : Int)
    · rw [if_pos q]
      exact rq_some.mpr (rq_inr (rq_fst_some (by omega) (by simp [q]) hj))
    · rw [if_neg q, rq_n1 (by omega)]
      refine rq_some.mpr (rq_inl ⟨rfl, fun j hj2 => ?_⟩)
      by_cases z : j = i
      · subst z; simp [q]
      · exact hj j (by omega)
  · rintro s ⟨rfl, hj⟩
    unfold b_X12_wigOn_2
    rw [q_gfr, Option.bind_some, q_rn0 h 0 rfl, Option.bind_some, if_pos (by omega)]
    refine rq_some.mpr (rq_inre (rq_fst_none (fun j hj6 => ?_)))
    by_cases z : j < (ρ.1 0 0).toNat
    · exact hj j z
    · rw [((hv.2.2 j hj6).2 (by omega)).1]
      simp
  · rintro (e | t) q
    · exact rq_some.mpr q.symm
    · exact rq_some.mpr q.symm
theorem q_onHeads (h : rq_D ρ m) (hS : rq_sr S m) (hv : rq_vs ρ S) : f_X12_onHeads 248 m = some ((rq_wn ρ S : Nat) : Int) := by
  have hb := h.2.1.1
  unfold f_X12_onHeads
  apply rq_of
  refine rq_call (rq_up (Q := fun e => e = ((rq_wn ρ S : Nat) : Int)) (fun i s => s.2 = (i : Int) ∧ s.1 = ((rq_bn (fun w => decide (S (1 + w) ≠ -1)) i : Nat) : Int)) (ρ.1 0 0).toNat (by omega) ?_ ?_ ⟨rfl, rfl⟩) (fun e q => rq_some.mpr q)
  · rintro i ⟨x, y⟩ hi ⟨e1, e2⟩
    dsimp only at e1 e2
    subst e1 e2
    have hi6 : i < 6 := by omega
    have hu := (hv.2.2 i hi6).1
    unfold b_X12_onHeads_4
    dsimp only
    rw [q_gfr, Option.bind_some, q_rn0 h 0 rfl, Option.bind_some, if_neg (by omega), q_gfr, Option.bind_some, q_ron h.1 hS hi6, Option.bind_some]
    unfold j_X12_onHeads_33_4
    have hlt := rq_bn_lt (fun w => decide (S (1 + w) ≠ -1)) i
    have h64 : 2 ^ i ≤ 2 ^ 6 := Nat.pow_le_pow_right (by decide) (by omega)
    rw [rq_n1 (by omega)]
    by_cases q : S (1 + i) = -1
    · rw [if_pos (by omega), rq_or0 (by omega) (by omega)]
      refine rq_some.mpr (rq_inl ⟨rfl, ?_⟩)
      rw [rq_bn_s]
      simp [q]
    · rw [if_neg (by omega), rq_sb _ (by omega) i (by omega)]
      refine rq_some.mpr (rq_inl ⟨rfl, ?_⟩)
      rw [rq_bn_s]
      simp [q]
  · rintro ⟨x, y⟩ ⟨e1, e2⟩
    dsimp only at e1 e2
    subst e1 e2
    unfold b_X12_onHeads_4
    dsimp only
    rw [q_gfr, Option.bind_some, q_rn0 h 0 rfl, Option.bind_some, if_pos (by omega)]
    exact rq_some.mpr (rq_inre rfl)
theorem q_rwornOut (h : rq_D ρ m) (hS : rq_sr S m) (hv : rq_vs ρ S) : f_X12_wornOut 248 m = some ((rq_wt ρ S : Nat) : Int) := by
  have hb := h.2.1.1
  unfold f_X12_wornOut
  apply rq_of
  refine rq_call (rq_up (Q := fun e => e = ((rq_wt ρ S : Nat) : Int)) (fun i s => s.2 = (i : Int) ∧ s.1 = ((rq_bn (fun w => decide (9 ≤ S (7 + w))) i : Nat) : Int)) (ρ.1 0 0).toNat (by omega) ?_ ?_ ⟨rfl, rfl⟩) (fun e q => rq_some.mpr q)
  · rintro i ⟨x, y⟩ hi ⟨e1, e2⟩
    dsimp only at e1 e2
    subst e1 e2
    have hi6 : i < 6 := by omega
    have hu := (hv.2.2 i hi6).1
    unfold b_X12_wornOut_4
    dsimp only
    rw [q_gfr, Option.bind_some, q_rn0 h 0 rfl, Option.bind_some, if_neg (by omega), q_gfr, Option.bind_some, q_rwe h.1 hS hi6, Option.bind_some]
    unfold j_X12_wornOut_36_4
    have hlt := rq_bn_lt (fun w => decide (9 ≤ S (7 + w))) i
    have h64 : 2 ^ i ≤ 2 ^ 6 := Nat.pow_le_pow_right (by decide) (by omega)
    rw [rq_n1 (by omega)]
    by_cases q : S (7 + i) = 9
    · rw [if_pos q, rq_sb _ (by omega) i (by omega)]
      refine rq_some.mpr (rq_inl ⟨rfl, ?_⟩)
      rw [rq_bn_s, if_pos (by simp; omega)]
    · rw [if_neg q, rq_or0 (by omega) (by omega)]
      refine rq_some.mpr (rq_inl ⟨rfl, ?_⟩)
      rw [rq_bn_s, if_neg (by simp; omega)]
  · rintro ⟨x, y⟩ ⟨e1, e2⟩
    dsimp only at e1 e2
    subst e1 e2
    unfold b_X12_wornOut_4
    dsimp only
    rw [q_gfr, Option.bind_some, q_rn0 h 0 rfl, Option.bind_some, if_pos (by omega)]
    exact rq_some.mpr (rq_inre rfl)
theorem q_rofficeOf (h : rq_D ρ m) (x : Int) : f_X12_officeOf 248 x m = some (rq_os ρ x) := by
  have hb := h.2.1.1
  unfold f_X12_officeOf
  apply rq_of
  refine rq_call (rq_up (Q := fun e => e = rq_os ρ x) (fun i s => s.2 = (i : Int) ∧ s.1 = rq_sum (fun w => if rt_iand (rt_ishr x (w : Int)) 1 = 1 then ρ.1 2 w else 0) i) (ρ.1 0 0).toNat (by omega) ?_ ?_ ⟨rfl, rfl⟩) (fun e q => rq_some.mpr q)
  · rintro i ⟨y, z⟩ hi ⟨e1, e2⟩
    dsimp only at e1 e2
    subst e1 e2
    have b1 := rq_os_b h.2.1 x i (by omega)
    have b2 := h.2.1.2.1 i (by omega)
    unfold b_X12_officeOf_4
    dsimp only
    rw [q_gfr, Option.bind_some, q_rn0 h 0 rfl, Option.bind_some, if_neg (by omega)]
    unfold j_X12_officeOf_34_4
    rw [rq_n1 (by omega)]
    by_cases q : rt_iand (rt_ishr x (i : Int)) 1 = 1
    · rw [if_pos q, q_gfr, Option.bind_some, q_a8 (k := 254) _ 12 (pt_248_14 h.1) kd_254 ln_254 (by omega), Option.bind_some, (h.2.2.2.1 i (by omega)).2.1, rq_iadd (by omega) (by omega)]
      refine rq_some.mpr (rq_inl ⟨rfl, ?_⟩)
      rw [rq_sum_s, if_pos q]
    · rw [if_neg q, rq_iadd (by omega) (by omega)]
      refine rq_some.mpr (rq_inl ⟨rfl, ?_⟩)
      rw [rq_sum_s, if_neg q]
  · rintro ⟨y, z⟩ ⟨e1, e2⟩
    dsimp only at e1 e2
    subst e1 e2
    unfold b_X12_officeOf_4
    dsimp only
    rw [q_gfr, Option.bind_some, q_rn0 h 0 rfl, Option.bind_some, if_pos (by omega)]
    exact rq_some.mpr (rq_inre rfl)
theorem q_rcanPut (h : rq_D ρ m) (hS : rq_sr S m) (hv : rq_vs ρ S) {w k : Nat} (hw : (w : Int) < ρ.1 0 0) (hk : (k : Int) < ρ.1 0 1) : rq (f_X12_canPut 248 w k m) (fun p => p.1 = rq_cp ρ S w k ∧ rq_fr rq_wF m p.2) := by
  have hb := h.2.1.1
  have hu := (hv.2.2 w (by omega)).1
  unfold f_X12_canPut rq_cp
  rw [q_gfr, Option.bind_some, q_ron h.1 hS (by omega), Option.bind_some]
  unfold j_X12_canPut_52
  by_cases q1 : S (1 + w) = -1
  · rw [if_neg (by omega), Option.bind_some, q_rwe h.1 hS (by omega), Option.bind_some]
    by_cases q2 : S (7 + w) < 9
    · rw [if_neg (by omega), q_rwigOn h hS hv, Option.bind_some]
      by_cases q3 : rq_wo S k = -1
      · rw [if_neg (by omega), Option.bind_some, q_rs0 h.1 hS 0 rfl, Option.bind_some]
        have e : S 0 = (((S 0).toNat : Nat) : Int) := by have := hv.1; omega
        have hfit := q_fitsIn h hw hk (t := (S 0).toNat) (by have := hv.2.1; omega)
        rw [← e] at hfit
        refine rq_call hfit ?_
        rintro ⟨x, m1⟩ ⟨rfl, hf⟩
        dsimp only
        by_cases q4 : rq_fi ρ w k (S 0).toNat = 0
        · rw [if_pos q4, if_neg (by omega)]
          exact rq_some.mpr ⟨rfl, hf⟩
        · rw [if_neg q4, if_pos ⟨q1, q2, q3, (rq_fi01 ρ w k _).resolve_left q4⟩]
          exact rq_some.mpr ⟨rfl, hf⟩
      · rw [if_pos (by rcases rq_fst_cases (fun w => S (1 + w) == (k : Int)) 6 with ⟨i, -, e, -⟩ | ⟨e, -⟩
                       · show (0 : Int) ≤ rq_fst _ 6; rw [e]; omega
                       · exact absurd e q3), if_neg (fun z => q3 z.2.2.1)]
        exact rq_some.mpr ⟨rfl, rq_fr.rfl⟩
    · rw [if_pos (by omega), if_neg (fun z => q2 z.2.1)]
      exact rq_some.mpr ⟨rfl, rq_fr.rfl⟩
  · rw [if_pos (by omega), if_neg (fun z => q1 z.1)]
    exact rq_some.mpr ⟨rfl, rq_fr.rfl⟩
theorem q_passes1 (h : rq_D ρ m) (hS : rq_sr S m) (hv : rq_vs ρ S) : rq (rt_it (b_X12_passes_2 248) 4000 (0, m)) (fun m1 => rq_fr (fun k _ => k == 285) m m1 ∧ ∀ i, i < 13 → m1 285 i = if i < 7 then S i else rq_ps ρ S i) := by
  have hb := h.2.1.1
  have fw : ∀ {m' : rt_M}, rq_fr (fun k _ => k == 285) m m' → rq_fr rq_wR m m' := fun h => h.mono (fun k j q => by
    unfold rq_wR at q; simp only [Bool.or_eq_false_iff] at q; exact q.2)
  refine rq_up (fun i s => s.1 = (i : Int) ∧ rq_fr (fun k _ => k == 285) m s.2 ∧ ∀ w, w < 13 → s.2 285 w = if 7 ≤ w ∧ w < 7 + i then rq_ps ρ S w else S w) (ρ.1 0 0).toNat (by omega) ?_ ?_ ⟨rfl, rq_fr.rfl, fun w hw => by rw [if_neg (by omega)]; exact hS w hw⟩
  · rintro i ⟨x, mm⟩ hi ⟨e1, hf, hw⟩
    dsimp only at e1 hf hw
    subst e1
    have h1 := rq_D_wR h (fw hf)
    have hi6 : i < 6 := by omega
    have w1 := hw (1 + i) (by omega)
    rw [if_neg (by omega)] at w1
    have w7 := hw (7 + i) (by omega)
    rw [if_neg (by omega)] at w7
    unfold b_X12_passes_2
    dsimp only
    rw [q_gfr, Option.bind_some, q_rn0 h1 0 rfl, Option.bind_some, if_neg (by omega), q_gfr, Option.bind_some, rq_1n (by omega), q_a8 (k := 285) _ 13 (pt_248_50 h1.1) kd_285 ln_285 (by omega), Option.bind_some, w1]
    have hp := @rq_ps_wr ρ S i
    rw [if_pos (by omega)] at hp
    unfold rq_wr at hp
    have hu := (hv.2.2 i hi6).1
    unfold j_X12_passes_48_2
    rw [rq_n1 (by omega)]
    by_cases q : S (1 + i) = -1
    · rw [if_pos q] at hp
      rw [if_neg (by omega), Option.bind_some, Option.bind_some, rq_7n (by omega), q_a8 (k := 285) _ 13 (pt_248_50 h1.1) kd_285 ln_285 (by omega), Option.bind_some, w7, rq_iadd (by omega) (by omega), q_min, Option.bind_some, ← hp, q_s8 (k := 285) _ 13 (pt_248_50 h1.1) kd_285 ln_285 (by omega), Option.bind_some]
      refine rq_some.mpr (rq_inl ⟨rfl, hf.up (by simp), fun w h13 => ?_⟩)
      show rt_up mm 285 (7 + i) (rq_ps ρ S (7 + i)) 285 w = _
      rw [q_up]
      by_cases z : w = 7 + i
      · subst z; rw [if_pos ⟨rfl, rfl⟩, if_pos (by omega)]
      · rw [if_neg (by omega), hw w h13]
        by_cases z2 : 7 ≤ w ∧ w < 7 + i
        · rw [if_pos z2, if_pos (by omega)]
        · rw [if_neg z2, if_neg (by omega)]
    · rw [if_neg q] at hp
      rw [if_pos (by omega)]
      refine rq_some.mpr (rq_inl ⟨rfl, hf, fun w h13 => ?_⟩)
      show mm 285 w = _
      rw [hw w h13]
      by_cases z : w = 7 + i
      · subst z; rw [if_neg (by omega), if_pos (by omega), hp]
      · by_cases z2 : 7 ≤ w ∧ w < 7 + i
        · rw [if_pos z2, if_pos (by omega)]
        · rw [if_neg z2, if_neg (by omega)]
  · rintro ⟨x, mm⟩ ⟨e1, hf, hw⟩
    dsimp only at e1 hf hw
    subst e1
    have h1 := rq_D_wR h (fw hf)
    unfold b_X12_passes_2
    dsimp only
    rw [q_gfr, Option.bind_some, q_rn0 h1 0 rfl, Option.bind_some, if_pos (by omega)]
    refine rq_some.mpr (rq_inre ⟨hf, fun w h13 => ?_⟩)
    rw [hw w h13]
    by_cases z : 7 ≤ w ∧ w < 7 + (ρ.1 0 0).toNat
    · rw [if_pos z, if_neg (by omega)]
    · rw [if_neg z]
      by_cases z2 : w < 7
      · rw [if_pos z2]
      · obtain ⟨u, rfl⟩ : ∃ u, w = 7 + u := ⟨w - 7, by omega⟩
        rw [if_neg z2, rq_ps_wr, if_neg (by omega)]
theorem q_passes (h : rq_D ρ m) (hS : rq_sr S m) (hv : rq_vs ρ S) : rq (f_X12_passes 248 m) (fun p => p.1 = rq_cm ρ S ∧ rq_sr (rq_ps ρ S) p.2 ∧ rq_fr rq_wR m p.2) := by
  have hb := h.2.1.1
  have s0 := hv.1
  have s1 := hv.2.1
  have fw : ∀ {m m' : rt_M}, rq_fr (fun k _ => k == 285) m m' → rq_fr rq_wR m m' := fun h => h.mono (fun k j q => by
    unfold rq_wR at q; simp only [Bool.or_eq_false_iff] at q; exact q.2)
  unfold f_X12_passes
  refine rq_call (q_passes1 h hS hv) ?_
  rintro m1 ⟨hf, hw⟩
  have hs1 : rq_st m1 := rq_st_fr h.1 (fw hf) rq_wR_st
  rw [q_gfr, Option.bind_some, q_a9 (k := 285) _ 0 13 0 (pt_248_50 hs1) kd_285 ln_285 rfl (by decide), Option.bind_some, hw 0 (by decide), if_pos (by decide), rq_iadd (by omega) (by omega), q_s9 (k := 285) _ 0 13 0 (pt_248_50 hs1) kd_285 ln_285 rfl (by decide), Option.bind_some]
  have hf2 : rq_fr rq_wR m (rt_up m1 285 0 (S 0 + 1)) := (fw hf).up rfl
  refine rq_call (rq_up (Q := fun e => e.1 = rq_cm ρ S ∧ rq_sr (rq_ps ρ S) e.2 ∧ rq_fr rq_wR m e.2) (fun i s => s.2.1 = (i : Int) ∧ s.1 = rq_sum (fun w => if rq_fl ρ S w = true then 1 else 0) i ∧ rq_fr rq_wR m s.2.2 ∧ (∀ w, w < 13 → s.2.2 285 w = if 1 + i ≤ w ∧ w < 7 then S w else rq_ps ρ S w)) (ρ.1 0 0).toNat (by omega) ?_ ?_ ⟨rfl, rfl, hf2, fun w hw13 => ?_⟩) ?_
  · rintro i ⟨x, y, mm⟩ hi ⟨e1, e2, hf, g1⟩
    dsimp only at e1 e2 hf g1
    subst e1 e2
    have h1 := rq_D_wR h hf
    have hi6 : i < 6 := by omega
    have hcnt := rq_sum_b (f := fun w => if rq_fl ρ S w = true then (1 : Int) else 0) (c := 1) (by decide) i (fun j _ => by split <;> decide)
    have hu := (hv.2.2 i hi6).1
    have gi := g1 (1 + i) (by omega)
    rw [if_pos (by omega)] at gi
    have g0 := g1 0 (by decide)
    rw [if_neg (by omega)] at g0
    have hp := @rq_ps_on ρ S i hi6
    unfold b_X12_passes_68
    dsimp only
    rw [q_gfr, Option.bind_some, q_rn0 h1 0 rfl, Option.bind_some, if_neg (by omega), q_gfr, Option.bind_some, rq_1n (by omega), q_a8 (k := 285) _ 13 (pt_248_50 h1.1) kd_285 ln_285 (by omega), Option.bind_some, gi]
    have hinv : ∀ (mm1 : rt_M), rq_fr rq_wR m mm1 → (∀ w, w < 13 → mm1 285 w = if 2 + i ≤ w ∧ w < 7 then S w else rq_ps ρ S w) → ∀ c, c = rq_sum (fun w => if rq_fl ρ S w = true then (1 : Int) else 0) (i + 1) → rq (j_X12_passes_126_68 248 c i mm1) (fun t => (∀ s' : Int × Int × rt_M, t = Sum.inl s' → s'.2.1 = ((i + 1 : Nat) : Int) ∧ s'.1 = rq_sum (fun w => if rq_fl ρ S w = true then 1 else 0) (i + 1) ∧ rq_fr rq_wR m s'.2.2 ∧ (∀ w, w < 13 → s'.2.2 285 w = if 1 + (i + 1) ≤ w ∧ w < 7 then S w else rq_ps ρ S w)) ∧ ∀ e : Int × rt_M, t = Sum.inr e → e.1 = rq_cm ρ S ∧ rq_sr (rq_ps ρ S) e.2 ∧ rq_fr rq_wR m e.2) := by
      intro mm1 a1 a3 c hc2
      unfold j_X12_passes_126_68
      rw [rq_n1 (by omega)]
      refine rq_some.mpr (rq_inl ⟨rfl, hc2, a1, fun w h13 => ?_⟩)
      show mm1 285 w = _
      rw [a3 w h13, show 1 + (i + 1) = 2 + i by omega]
    have same : ∀ (mm1 : rt_M), (∀ w, w < 13 → mm1 285 w = mm 285 w) → rq_ps ρ S (1 + i) = S (1 + i) → ∀ w, w < 13 → mm1 285 w = if 2 + i ≤ w ∧ w < 7 then S w else rq_ps ρ S w := by
      intro mm1 hm hps w h13
      rw [hm w h13, g1 w h13]
      by_cases z : w = 1 + i
      · subst z; rw [if_pos (by omega), if_neg (by omega), hps]
      · by_cases z2 : 1 + i ≤ w ∧ w < 7
        · rw [if_pos z2, if_pos (by omega)]
        · rw [if_neg z2, if_neg (by omega)]
    by_cases q : S (1 + i) = -1
    · have hfl : rq_fl ρ S i = false := by unfold rq_fl; simp [q]
      rw [if_neg (by rw [hfl]; simp)] at hp
      rw [if_pos (by omega)]
      exact hinv mm hf (same mm (fun w _ => rfl) hp) _ (by rw [rq_sum_s, hfl]; simp)
    · obtain ⟨k, hk⟩ := Int.eq_ofNat_of_zero_le (show 0 ≤ S (1 + i) by omega)
      have e0 : S 0 + 1 = (((S 0).toNat + 1 : Nat) : Int) := by omega
      rw [if_neg (by omega), Option.bind_some, q_a8 (k := 285) _ 13 (pt_248_50 h1.1) kd_285 ln_285 (by omega), Option.bind_some, gi, Option.bind_some, q_a9 (k := 285) _ 0 13 0 (pt_248_50 h1.1) kd_285 ln_285 rfl (by decide), Option.bind_some, g0, show rq_ps ρ S 0 = S 0 + 1 from rfl]
      have hfit := q_fitsIn h1 (w := i) (k := k) (t := (S 0).toNat + 1) (by omega) (by rw [← hk]; omega) (by omega)
      rw [← e0, ← hk] at hfit
      refine rq_call hfit ?_
      rintro ⟨x, m2⟩ ⟨rfl, hf3⟩
      dsimp only
      have hE : ∀ w, m2 285 w = mm 285 w := fun w => hf3 285 w rfl
      have hf4 : rq_fr rq_wR m m2 := hf.trans (hf3.mono (fun _ _ => rq_wR_F))
      have h2 : rq_D ρ m2 := rq_D_wF h1 hf3
      have hflv : rq_fl ρ S i = decide (rq_fi ρ i k ((S 0).toNat + 1) = 0) := by
        unfold rq_fl; rw [hk]; simp
      by_cases q5 : rq_fi ρ i k ((S 0).toNat + 1) = 0
      · have hfl : rq_fl ρ S i = true := by rw [hflv]; simp [q5]
        rw [if_pos ⟨by omega, hfl⟩] at hp
        rw [if_pos q5, q_gfr, Option.bind_some, q_s8 (k := 285) _ 13 (pt_248_50 h2.1) kd_285 ln_285 (by omega), Option.bind_some, rq_iadd (by omega) (by omega)]
        refine hinv _ (hf4.up rfl) (fun w h13 => ?_) _ ?_
        · rw [q_up]
          by_cases z : w = 1 + i
          · subst z; rw [if_pos ⟨rfl, rfl⟩, if_neg (by omega), hp]
          · rw [if_neg (by omega), hE, g1 w h13]
            by_cases z2 : 1 + i ≤ w ∧ w < 7
            · rw [if_pos z2, if_pos (by omega)]
            · rw [if_neg z2, if_neg (by omega)]
        · rw [rq_sum_s, hfl]; simp
      · have hfl : rq_fl ρ S i = false := by rw [hflv]; simp [q5]
        rw [if_neg (by rw [hfl]; simp)] at hp
        rw [if_neg q5]
        exact hinv m2 hf4 (same m2 (fun w _ => hE w) hp) _ (by rw [rq_sum_s, hfl]; simp)
  · rintro ⟨x, y, mm⟩ ⟨e1, e2, hf, g1⟩
    dsimp only at e1 e2 hf g1
    subst e1 e2
    have h1 := rq_D_wR h hf
    unfold b_X12_passes_68
    dsimp only
    rw [q_gfr, Option.bind_some, q_rn0 h1 0 rfl, Option.bind_some, if_pos (by omega)]
    refine rq_some.mpr (rq_inre ⟨rfl, fun w h13 => ?_, hf⟩)
    show mm 285 w = _
    rw [g1 w h13]
    by_cases z : 1 + (ρ.1 0 0).toNat ≤ w ∧ w < 7
    · obtain ⟨u, rfl⟩ : ∃ u, w = 1 + u := ⟨w - 1, by omega⟩
      rw [if_pos z, rq_ps_on (by omega), if_neg (fun y => by omega)]
    · rw [if_neg z]
  · show rt_up m1 285 0 (S 0 + 1) 285 w = _
    rw [q_up]
    by_cases z : w = 0
    · subst z; rw [if_pos ⟨rfl, rfl⟩, if_neg (by omega)]; rfl
    · rw [if_neg (by omega), hw w hw13]
      by_cases z2 : w < 7
      · rw [if_pos z2, if_pos (by omega)]
      · rw [if_neg z2, if_neg (by omega)]
  · rintro ⟨x, m2⟩ q
    exact rq_some.mpr q
end
