/-! Layer 3: a line of years; the reference reads it -/
section
variable {m : rt_M} {s : Nat → Int} {n b : Nat} {ρ : rq_R} {Y : rq_Y}
def rq_wYr (k j : Nat) : Bool := rq_wN2 k j || (k == 248 && j == 9) || (k == 276 && j == 5) || (decide (277 ≤ k) && decide (k ≤ 279) && decide (200 ≤ j))
theorem rq_wYr_st : (rq_P.all fun p => !(rq_wYr p.1 p.2.1)) = true := by decide +kernel
theorem rq_wYr_N {k j : Nat} (h : rq_wYr k j = false) : rq_wN2 k j = false := by
  unfold rq_wYr at h
  simp only [Bool.or_eq_false_iff] at h
  exact h.1.1.1
theorem rq_D_Yr {m' : rt_M} (h : rq_D ρ m) (k : rq_fr rq_wYr m m') : rq_D ρ m' := by
  obtain ⟨hs, hv, hc⟩ := h
  refine ⟨rq_st_fr hs k rq_wYr_st, hv, rq_rr_fr hc (fun a j h1 h2 => k a j ?_)⟩
  unfold rq_wYr rq_wN2
  simp only [Bool.or_eq_false_iff, Bool.and_eq_false_iff, beq_eq_false_iff_ne, decide_eq_false_iff_not]
  omega
theorem rq_ty_Yr {m' : rt_M} (h : rq_ty s n m) (f : rq_fr rq_wYr m m') : rq_ty s n m' := ⟨by rw [f 248 3 rfl]; exact h.1, fun i hi => by rw [f 249 i rfl]; exact h.2 i hi⟩
theorem rq_ts_fr {m' : rt_M} (h : rq_ts s n b m) (k : ∀ j, 4 ≤ j → j ≤ 8 → m' 248 j = m 248 j) : rq_ts s n b m' := by
  obtain ⟨h1, h2, h3, h4, h5, h6⟩ := h
  exact ⟨h1, by rw [k 5 (by omega) (by omega)]; exact h2, by rw [k 4 (by omega) (by omega)]; exact h3, by rw [k 6 (by omega) (by omega)]; exact h4, fun q => by rw [k 7 (by omega) (by omega)]; exact h5 q, fun q => by rw [k 8 (by omega) (by omega)]; exact h6 q⟩
theorem rq_nm_i {v u : Int} {l : List Int} (h : rq_nm v u) (hl : rq_lt l) : u = rq_w27 l ↔ v = rq_pk l := by
  obtain ⟨l', h1, rfl, rfl⟩ := h
  constructor
  · intro q; rw [rq_w27_inj _ _ _ rfl h1.2.2 hl.2.2 q]
  · intro q; rw [rq_pk_inj _ _ _ rfl h1.2.2 hl.2.2 q]
theorem rq_nm_b {v u : Int} (h : rq_nm v u) : 0 ≤ v ∧ v < 72057594037927936 ∧ 0 ≤ u ∧ u < 282429536481 := by
  obtain ⟨l, h1, rfl, rfl⟩ := h
  have := rq_lt_b h1
  omega
/-- a name among the wigs, among the heads: of the realm (q = 0) or the draft (q = 1) -/
theorem q_rwigNamed (hs : rq_st m) (hok : rq_okT s n) (hp : rq_bp s n b) (h : rq_ts s n b m) (hc : rq_cn s n b) {q N : Nat} (hq : q < 2) (hN : N ≤ 6) (h0 : m 250 (4 * q) = (N : Int)) {f : Nat → Int} (hf : ∀ i, i < N → rq_nm (f i) (m 251 (6 * q + i))) : f_X12_wigNamed 248 (q : Int) m = some (rq_fst (fun i => f i == rq_vl s n b) N) := by
  obtain ⟨t, hb, lt, v⟩ := rq_cn_nm hok hp hc
  have h7 := h.2.2.2.2.1 t
  have lb := rq_lt_b lt
  unfold f_X12_wigNamed
  apply rq_of
  refine rq_call (rq_up (Q := fun e => match e with
      | .inl _ => rq_fst (fun i => f i == rq_vl s n b) N = -1
      | .inr t => rq_fst (fun i => f i == rq_vl s n b) N = t) (fun i x => x = (i : Int) ∧ ∀ j, j < i → (f j == rq_vl s n b) = false) N (by omega) ?_ ?_ ⟨rfl, fun j hj => absurd hj (Nat.not_lt_zero _)⟩) ?_
  · rintro i x hi ⟨rfl, hj⟩
    have fb := rq_nm_b (hf i hi)
    have c1 := rq_lcmp0 (x := m 251 (6 * q + i)) (y := rq_w27 (rq_tl s n b)) (by omega) (by omega) (by omega) (by omega)
    have e4 : rt_iadd (rt_imul 4 (q : Int)) 0 = ((4 * q : Nat) : Int) := by rw [rq_imul (by omega) (by omega), rq_iadd (by omega) (by omega)]; omega
    have e6 : rt_iadd (rt_imul 6 (q : Int)) (i : Int) = ((6 * q + i : Nat) : Int) := by rw [rq_imul (by omega) (by omega), rq_iadd (by omega) (by omega)]; omega
    unfold b_X12_wigNamed_2
    rw [q_gfr, Option.bind_some, e4, q_a8 (k := 250) _ 8 (pt_248_10 hs) kd_250 ln_250 (by omega), Option.bind_some, h0, if_neg (by omega), q_gfr, Option.bind_some, e6, pt_248_11 hs, show (251 : Int) = ((251 : Nat) : Int) from rfl, q_al kd_251 ln_251 (show 6 * q + i < 12 by omega), Option.bind_some, q_gfr, Option.bind_some, h7]
    by_cases z : f i = rq_vl s n b
    · rw [if_pos (c1.mpr ((rq_nm_i (hf i hi) lt).mpr (by rw [z, v])))]
      exact rq_map.mpr (rq_some.mpr (rq_inr (rq_fst_some hi (by simp [z]) hj)))
    · rw [if_neg (fun w => z (by rw [v]; exact (rq_nm_i (hf i hi) lt).mp (c1.mp w))), rq_n1 (by omega)]
      refine rq_some.mpr (rq_inl ⟨rfl, fun j hj2 => ?_⟩)
      by_cases y : j = i
      · subst y; simp [z]
      · exact hj j (by omega)
  · rintro x ⟨rfl, hj⟩
    have e4 : rt_iadd (rt_imul 4 (q : Int)) 0 = ((4 * q : Nat) : Int) := by rw [rq_imul (by omega) (by omega), rq_iadd (by omega) (by omega)]; omega
    unfold b_X12_wigNamed_2
    rw [q_gfr, Option.bind_some, e4, q_a8 (k := 250) _ 8 (pt_248_10 hs) kd_250 ln_250 (by omega), Option.bind_some, h0, if_pos (Int.le_refl _)]
    exact rq_some.mpr (rq_inre (rq_fst_none hj))
  · rintro (e | t) q
    · exact rq_some.mpr q.symm
    · exact rq_some.mpr q.symm
theorem q_rheadNamed (hs : rq_st m) (hok : rq_okT s n) (hp : rq_bp s n b) (h : rq_ts s n b m) (hc : rq_cn s n b) {q N : Nat} (hq : q < 2) (hN : N ≤ 6) (h0 : m 250 (4 * q + 1) = (N : Int)) {f : Nat → Int} (hf : ∀ i, i < N → rq_nm (f i) (m 252 (6 * q + i))) : f_X12_headNamed 248 (q : Int) m = some (rq_fst (fun i => f i == rq_vl s n b) N) := by
  obtain ⟨t, hb, lt, v⟩ := rq_cn_nm hok hp hc
  have h7 := h.2.2.2.2.1 t
  have lb := rq_lt_b lt
  unfold f_X12_headNamed
  apply rq_of
  refine rq_call (rq_up (Q := fun e => match e with
      | .inl _ => rq_fst (fun i => f i == rq_vl s n b) N = -1
      | .inr t => rq_fst (fun i => f i == rq_vl s n b) N = t) (fun i x => x = (i : Int) ∧ ∀ j, j < i → (f j == rq_vl s n b) = false) N (by omega) ?_ ?_ ⟨rfl, fun j hj => absurd hj (Nat.not_lt_zero _)⟩) ?_
  · rintro i x hi ⟨rfl, hj⟩
    have fb := rq_nm_b (hf i hi)
    have c1 := rq_lcmp0 (x := m 252 (6 * q + i)) (y := rq_w27 (rq_tl s n b)) (by omega) (by omega) (by omega) (by omega)
    have e4 : rt_iadd (rt_imul 4 (q : Int)) 1 = ((4 * q + 1 : Nat) : Int) := by rw [rq_imul (by omega) (by omega), rq_iadd (by omega) (by omega)]; omega
    have e6 : rt_iadd (rt_imul 6 (q : Int)) (i : Int) = ((6 * q + i : Nat) : Int) := by rw [rq_imul (by omega) (by omega), rq_iadd (by omega) (by omega)]; omega
    unfold b_X12_headNamed_2
    rw [q_gfr, Option.bind_some, e4, q_a8 (k := 250) _ 8 (pt_248_10 hs) kd_250 ln_250 (by omega), Option.bind_some, h0, if_neg (by omega), q_gfr, Option.bind_some, e6, pt_248_12 hs, show (252 : Int) = ((252 : Nat) : Int) from rfl, q_al kd_252 ln_252 (show 6 * q + i < 12 by omega), Option.bind_some, q_gfr, Option.bind_some, h7]
    by_cases z : f i = rq_vl s n b
    · rw [if_pos (c1.mpr ((rq_nm_i (hf i hi) lt).mpr (by rw [z, v])))]
      exact rq_map.mpr (rq_some.mpr (rq_inr (rq_fst_some hi (by simp [z]) hj)))
    · rw [if_neg (fun w => z (by rw [v]; exact (rq_nm_i (hf i hi) lt).mp (c1.mp w))), rq_n1 (by omega)]
      refine rq_some.mpr (rq_inl ⟨rfl, fun j hj2 => ?_⟩)
      by_cases y : j = i
      · subst y; simp [z]
      · exact hj j (by omega)
  · rintro x ⟨rfl, hj⟩
    have e4 : rt_iadd (rt_imul 4 (q : Int)) 1 = ((4 * q + 1 : Nat) : Int) := by rw [rq_imul (by omega) (by omega), rq_iadd (by omega) (by omega)]; omega
    unfold b_X12_headNamed_2
    rw [q_gfr, Option.bind_some, e4, q_a8 (k := 250) _ 8 (pt_248_10 hs) kd_250 ln_250 (by omega), Option.bind_some, h0, if_pos (Int.le_refl _)]
    exact rq_some.mpr (rq_inre (rq_fst_none hj))
  · rintro (e | t) q
    · exact rq_some.mpr q.symm
    · exact rq_some.mpr q.symm
theorem q_rnw (h : rq_D ρ m) (hok : rq_okT s n) (hp : rq_bp s n b) (ht : rq_ts s n b m) (hc : rq_cn s n b) : f_X12_wigNamed 248 0 m = some (rq_nw ρ (rq_vl s n b)) := by
  have hv := h.2.1.1
  have := q_rwigNamed h.1 hok hp ht hc (q := 0) (N := (ρ.1 0 0).toNat) (by decide) (by omega) (by rw [Nat.mul_zero, h.2.2.1.1]; omega) (f := ρ.1 9) (fun i hi => by rw [Nat.mul_zero, Nat.zero_add]; exact (h.2.2.2.1 i (by omega)).2.2.2)
  exact this
theorem q_rnh (h : rq_D ρ m) (hok : rq_okT s n) (hp : rq_bp s n b) (ht : rq_ts s n b m) (hc : rq_cn s n b) : f_X12_headNamed 248 0 m = some (rq_nh ρ (rq_vl s n b)) := by
  have hv := h.2.1.1
  have := q_rheadNamed h.1 hok hp ht hc (q := 0) (N := (ρ.1 0 1).toNat) (by decide) (by omega) (by rw [Nat.mul_zero, h.2.2.1.2.1]; omega) (f := ρ.1 10) (fun i hi => by rw [Nat.mul_zero, Nat.zero_add]; exact (h.2.2.2.2.1 i (by omega)).2.2.2.2)
  exact this
theorem rq_nw_b (v : Int) : -1 ≤ rq_nw ρ v ∧ rq_nw ρ v < (ρ.1 0 0).toNat := by
  unfold rq_nw
  rcases rq_fst_cases (fun i => ρ.1 9 i == v) (ρ.1 0 0).toNat with ⟨i, hi, e, -⟩ | ⟨e, -⟩ <;> omega
theorem rq_nh_b (v : Int) : -1 ≤ rq_nh ρ v ∧ rq_nh ρ v < (ρ.1 0 1).toNat := by
  unfold rq_nh
  rcases rq_fst_cases (fun i => ρ.1 10 i == v) (ρ.1 0 1).toNat with ⟨i, hi, e, -⟩ | ⟨e, -⟩ <;> omega
theorem q_closes (hs : rq_st m) (ht : rq_ty s n m) (hok : rq_okT s n) (hp : rq_bp s n b) (h : rq_ts s n b m) : (rq_kd s n b = 34 → rq (f_X12_closes 248 m) (fun p => p.1 = 1 ∧ rq_ts s n (rq_nxp s n b) p.2 ∧ rq_fr rq_wN2 m p.2)) ∧ (rq_kd s n b ≠ 34 → f_X12_closes 248 m = some (0, rt_up m 248 9 (1 + 16 * (b : Int)))) := by
  have e := q_isSign hs ht hok hp h (W := 34) (by decide) (by decide) (c := 59) (by decide)
  unfold f_X12_closes
  rw [e, Option.bind_some]
  constructor
  · intro z
    rw [show (if rq_kd s n b = ((34 : Nat) : Int) then (1 : Int) else 0) = 1 from if_pos z, if_neg (by decide)]
    refine rq_call (q_nextAt hs ht hok h (rq_kd_lt (s := s) (by omega))) ?_
    rintro m3 ⟨b1, b2⟩
    exact rq_some.mpr ⟨rfl, b1, b2⟩
  · intro z
    rw [show (if rq_kd s n b = ((34 : Nat) : Int) then (1 : Int) else 0) = 0 from if_neg z, if_pos rfl, q_fails h hok.1 (by decide) (by decide), Option.bind_some]
    rfl
def rq_yrR (s : Nat → Int) (n : Nat) (Y : rq_Y) (m : rt_M) (x : (Int × Nat) ⊕ (rq_Ln × Nat)) (p : Int × rt_M) : Prop := rq_fr rq_wYr m p.2 ∧ ((∃ k q, x = .inl (k, q) ∧ p.1 = 0 ∧ p.2 248 9 = k + 16 * (q : Int)) ∨ ∃ l q, x = .inr (l, q) ∧ p.1 = 1 ∧ rq_ts s n q p.2 ∧ rq_yr 5 (rq_ya Y l) p.2)
theorem q_rline (hD : rq_D ρ m) (ht : rq_ty s n m) (hok : rq_okT s n) (hp : rq_bp s n b) (h : rq_ts s n b m) (hy : rq_yr 5 Y m) (h0 : 0 ≤ Y 0 0) (h40 : Y 0 0 ≤ 40) : rq (f_X12_readsLine 248 m) (rq_yrR s n Y m (rq_yl ρ s n b (Y 0 0))) := by
  have hn := hok.1
  obtain ⟨c, hc⟩ := Int.eq_ofNat_of_zero_le h0
  have ec : (Y 0 0).toNat = c := by rw [hc]; rfl
  have bad : ∀ (m1 : rt_M) (b1 : Nat) (k : Int), rq_fr rq_wYr m m1 → rq_yrR s n Y m (.inl (k, b1)) (0, rt_up m1 248 9 (k + 16 * (b1 : Int))) := fun m1 b1 k f => ⟨f.up rfl, Or.inl ⟨k, b1, rfl, rfl, by show rt_up m1 248 9 (k + 16 * (b1 : Int)) 248 9 = _; rw [q_up, if_pos ⟨rfl, rfl⟩]⟩⟩
  -- the end of a line: what is laid at its place
  have fin : ∀ (m1 : rt_M) (b1 : Nat) (l : rq_Ln), rq_fr rq_wYr m m1 → rq_bp s n b1 → rq_ts s n b1 m1 → (∀ i, i < 200 + c → m1 277 i = m 277 i ∧ m1 278 i = m 278 i ∧ m1 279 i = m 279 i) → m1 276 5 = (c : Int) → c < 40 → m1 277 (200 + c) = l.1 → (l.1 ≠ 3 → m1 278 (200 + c) = l.2.1) → (l.1 = 0 → m1 279 (200 + c) = l.2.2) → rq (j_X12_readsLine_202 248 m1) (rq_yrR s n Y m (rq_yfin s n l b1)) := by
    intro m1 b1 l f1 bp1 t1 same e5 c40 l1 l2 l3
    have s1 := rq_st_fr hD.1 f1 rq_wYr_st
    unfold j_X12_readsLine_202
    rw [q_gfr, Option.bind_some, q_a9 (k := 276) _ 5 6 5 (pt_248_41 s1) kd_276 ln_276 rfl (by decide), Option.bind_some, e5, rq_n1 (by omega), q_s9 (k := 276) _ 5 6 5 (pt_248_41 s1) kd_276 ln_276 rfl (by decide), Option.bind_some]
    have f2 : rq_fr rq_wYr m (rt_up m1 276 5 ((c + 1 : Nat) : Int)) := f1.up rfl
    have t2 : rq_ts s n b1 (rt_up m1 276 5 ((c + 1 : Nat) : Int)) := rq_ts_fr t1 (fun j _ _ => by rw [q_up, if_neg (by omega)])
    have y2 : rq_yr 5 (rq_ya Y l) (rt_up m1 276 5 ((c + 1 : Nat) : Int)) := by
      have e00 : rq_ya Y l 0 0 = Y 0 0 + 1 := by unfold rq_ya; rw [if_pos rfl, if_pos rfl]
      refine ⟨by rw [q_up, if_pos ⟨rfl, rfl⟩, e00, hc]; omega, fun i hi => ?_⟩
      rw [e00, hc] at hi
      have v1 : rq_ya Y l 1 i = if i = c then l.1 else Y 1 i := by simp [rq_ya, ec]
      have v2 : rq_ya Y l 2 i = if i = c then l.2.1 else Y 2 i := by simp [rq_ya, ec]
      have v3 : rq_ya Y l 3 i = if i = c then l.2.2 else Y 3 i := by simp [rq_ya, ec]
      have gg : ∀ a j, a ≠ 276 → rt_up m1 276 5 ((c + 1 : Nat) : Int) a j = m1 a j := fun a j ha => by rw [q_up, if_neg (fun q => ha q.1)]
      rw [v1, v2, v3, gg 277 _ (by decide), gg 278 _ (by decide), gg 279 _ (by decide)]
      by_cases z : i = c
      · rw [if_pos z, if_pos z, if_pos z, z]
        exact ⟨l1, l2, l3⟩
      · rw [if_neg z, if_neg z, if_neg z]
        obtain ⟨a1, a2, a3⟩ := same (40 * 5 + i) (by omega)
        rw [a1, a2, a3]
        exact hy.2 i (by omega)
    generalize rt_up m1 276 5 ((c + 1 : Nat) : Int) = m2 at f2 t2 y2 ⊢
    have s2 := rq_st_fr hD.1 f2 rq_wYr_st
    have x2 := rq_ty_Yr ht f2
    unfold rq_yfin
    obtain ⟨k1, k2⟩ := q_closes s2 x2 hok bp1 t2
    by_cases z : rq_kd s n b1 = 34
    · rw [if_pos z]
      refine rq_call (k1 z) ?_
      rintro ⟨v, m3⟩ ⟨e, b1, b2⟩
      dsimp only at e b1 b2 ⊢
      rw [e, q_bz1]
      refine rq_some.mpr ⟨f2.trans (b2.mono (fun _ _ => rq_wYr_N)), Or.inr ⟨l, _, rfl, rfl, b1, rq_yr_fr y2 (fun a j h1 h2 => b2 a j ?_)⟩⟩
      unfold rq_wN2
      simp only [Bool.and_eq_false_iff, beq_eq_false_iff_ne]
      omega
    · rw [if_neg z, k2 z, Option.bind_some, q_bz0]
      exact rq_some.mpr (bad m2 b1 1 f2)
  -- next token
  have adv : ∀ {m1 : rt_M} {b1 : Nat}, rq_fr rq_wYr m m1 → rq_ts s n b1 m1 → b1 < n → rq (f_X12_nextToken 248 m1) (fun m2 => rq_ts s n (rq_nxp s n b1) m2 ∧ rq_fr rq_wN2 m1 m2 ∧ rq_fr rq_wYr m m2) := fun f t q => rq_mono (q_nextAt (rq_st_fr hD.1 f rq_wYr_st) (rq_ty_Yr ht f) hok t q) (fun m2 z => ⟨z.1, z.2, f.trans (z.2.mono (fun _ _ => rq_wYr_N))⟩)
  have kN : ∀ {m1 m2 : rt_M}, rq_fr rq_wN2 m1 m2 → ∀ a j, a ≠ 248 → m2 a j = m1 a j := fun f a j ha => f a j (by unfold rq_wN2; simp only [Bool.and_eq_false_iff, beq_eq_false_iff_ne]; omega)
  have e5 : m 276 5 = (c : Int) := by rw [hy.1, hc]
  -- behind the kind of the line
  have line : ∀ w : Int, 0 ≤ w → w ≤ 3 → rq_kd s n b = 10 + w → rq (j_X12_readsLine_57 248 w m) (rq_yrR s n Y m (rq_yl ρ s n b (Y 0 0))) := by
    intro w w0 w3 hk
    have hbn : b < n := rq_kd_lt (s := s) (by omega)
    have bp1 := rq_bp_nx (s := s) hbn
    unfold j_X12_readsLine_57 rq_yl
    rw [if_pos w0, if_pos (show 10 ≤ rq_kd s n b ∧ rq_kd s n b ≤ 13 by omega), q_gfr, Option.bind_some, q_a9 (k := 276) _ 5 6 5 (pt_248_41 hD.1) kd_276 ln_276 rfl (by decide), Option.bind_some, e5]
    by_cases z40 : Y 0 0 = 40
    · rw [if_pos (by omega), if_pos z40, q_fails h hn (by decide) (by decide), Option.bind_some, q_bz0]
      exact rq_some.mpr (bad m b 5 rq_fr.rfl)
    rw [if_neg (by omega), if_neg z40]
    refine rq_call (adv rq_fr.rfl h hbn) ?_
    rintro m1 ⟨t1, g1, f1⟩
    have s1 := rq_st_fr hD.1 f1 rq_wYr_st
    have e5' : m1 276 5 = (c : Int) := by rw [kN g1 276 5 (by decide), e5]
    rw [q_gfr, Option.bind_some, q_a9 (k := 276) _ 5 6 5 (pt_248_41 s1) kd_276 ln_276 rfl (by decide), Option.bind_some, e5', q_gfr, Option.bind_some, show rt_iadd 200 (c : Int) = ((200 + c : Nat) : Int) by rw [rq_iadd (by omega) (by omega)]; omega, q_s8 (k := 277) _ 240 (pt_248_42 s1) kd_277 ln_277 (by omega), Option.bind_some]
    have f2 : rq_fr rq_wYr m (rt_up m1 277 (200 + c) w) := f1.up (by unfold rq_wYr; simp)
    have t2 : rq_ts s n (rq_nxp s n b) (rt_up m1 277 (200 + c) w) := rq_ts_fr t1 (fun j _ _ => by rw [q_up, if_neg (by omega)])
    have a277 : ∀ i, rt_up m1 277 (200 + c) w 277 i = if i = 200 + c then w else m 277 i := fun i => by
      rw [q_up]
      by_cases y : i = 200 + c
      · rw [if_pos ⟨rfl, y⟩, if_pos y]
      · rw [if_neg (fun q => y q.2), if_neg y, kN g1 277 i (by decide)]
    have a278 : ∀ i, rt_up m1 277 (200 + c) w 278 i = m 278 i := fun i => by rw [q_up, if_neg (by omega), kN g1 278 i (by decide)]
    have a279 : ∀ i, rt_up m1 277 (200 + c) w 279 i = m 279 i := fun i => by rw [q_up, if_neg (by omega), kN g1 279 i (by decide)]
    have a276 : rt_up m1 277 (200 + c) w 276 5 = (c : Int) := by rw [q_up, if_neg (by omega), e5']
    generalize rt_up m1 277 (200 + c) w = m2 at f2 t2 a277 a278 a279 a276 ⊢
    have hD2 := rq_D_Yr hD f2
    by_cases z3 : w = 3
    · rw [if_pos z3, if_pos (show rq_kd s n b = 13 by omega)]
      unfold j_X12_readsLine_155
      rw [if_neg (by omega)]
      exact fin m2 _ (3, -1, -1) f2 bp1 t2 (fun i hi => ⟨by rw [a277, if_neg (by omega)], a278 i, a279 i⟩) a276 (by omega) (by rw [a277, if_pos rfl, z3]) (fun q => absurd rfl q) (fun q => absurd q (by decide))
    rw [if_neg z3, if_neg (show ¬ rq_kd s n b = 13 by omega)]
    unfold rq_ywg
    obtain ⟨k1, k2⟩ := q_isKept hok bp1 t2
    by_cases zc : rq_cn s n (rq_nxp s n b)
    rotate_left
    · rw [k2 zc, Option.bind_some, if_neg (show ¬ (1 : Int) = 0 by decide), if_neg (fun q => zc ((rq_cnb_i s n _).mp q)), q_fails t2 hn (by decide) (by decide), Option.bind_some, q_bz0]
      exact rq_some.mpr (bad m2 _ 1 f2)
    obtain ⟨-, hb1, -, -⟩ := rq_cn_nm hok bp1 zc
    have bp2 := rq_bp_nx (s := s) hb1
    rw [k1 zc, Option.bind_some, if_pos rfl, if_pos ((rq_cnb_i s n _).mpr zc), q_gfr, Option.bind_some, q_rnw hD2 hok bp1 t2 zc, Option.bind_some, q_s8 (k := 278) _ 240 (pt_248_43 hD2.1) kd_278 ln_278 (by omega), Option.bind_some]
    have wb := rq_nw_b (ρ := ρ) (rq_vl s n (rq_nxp s n b))
    generalize hx : rq_nw ρ (rq_vl s n (rq_nxp s n b)) = x at wb ⊢
    have f3 : rq_fr rq_wYr m (rt_up m2 278 (200 + c) x) := f2.up (by unfold rq_wYr; simp)
    have t3 : rq_ts s n (rq_nxp s n b) (rt_up m2 278 (200 + c) x) := rq_ts_fr t2 (fun j _ _ => by rw [q_up, if_neg (by omega)])
    have b277 : ∀ i, rt_up m2 278 (200 + c) x 277 i = if i = 200 + c then w else m 277 i := fun i => by rw [q_up, if_neg (by omega), a277]
    have b278 : ∀ i, rt_up m2 278 (200 + c) x 278 i = if i = 200 + c then x else m 278 i := fun i => by
      rw [q_up]
      by_cases y : i = 200 + c
      · rw [if_pos ⟨rfl, y⟩, if_pos y]
      · rw [if_neg (fun q => y q.2), if_neg y, a278]
    have b279 : ∀ i, rt_up m2 278 (200 + c) x 279 i = m 279 i := fun i => by rw [q_up, if_neg (by omega), a279]
    have b276 : rt_up m2 278 (200 + c) x 276 5 = (c : Int) := by rw [q_up, if_neg (by omega), a276]
    generalize rt_up m2 278 (200 + c) x = m3 at f3 t3 b277 b278 b279 b276 ⊢
    have hD3 := rq_D_Yr hD f3
    rw [q_gfr, Option.bind_some, q_a8 (k := 278) _ 240 (pt_248_43 hD3.1) kd_278 ln_278 (by omega), Option.bind_some, b278, if_pos rfl]
    by_cases zw : x = -1
    · rw [if_neg (by omega), if_pos zw, q_fails t3 hn (by decide) (by decide), Option.bind_some, q_bz0]
      exact rq_some.mpr (bad m3 _ 2 f3)
    rw [if_pos (by omega), if_neg zw]
    refine rq_call (adv f3 t3 hb1) ?_
    rintro m4 ⟨t4, g4, f4⟩
    have hD4 := rq_D_Yr hD f4
    unfold j_X12_readsLine_155
    by_cases z0 : w = 0
    rotate_left
    · rw [if_neg z0, if_neg (show ¬ rq_kd s n b = 10 by omega)]
      exact fin m4 _ (rq_kd s n b - 10, x, -1) f4 bp2 t4 (fun i hi => ⟨by rw [kN g4 277 i (by decide), b277, if_neg (by omega)], by rw [kN g4 278 i (by decide), b278, if_neg (by omega)], by rw [kN g4 279 i (by decide), b279]⟩) (by rw [kN g4 276 5 (by decide), b276]) (by omega) (by show m4 277 _ = rq_kd s n b - 10; rw [kN g4 277 _ (by decide), b277, if_pos rfl]; omega) (fun _ => by show m4 278 _ = x; rw [kN g4 278 _ (by decide), b278, if_pos rfl]) (fun q => by have q' : rq_kd s n b - 10 = 0 := q; omega)
    rw [if_pos z0, if_pos (show rq_kd s n b = 10 by omega)]
    unfold rq_yhd
    obtain ⟨k1, k2⟩ := q_isKept hok bp2 t4
    by_cases zc2 : rq_cn s n (rq_nxp s n (rq_nxp s n b))
    rotate_left
    · rw [k2 zc2, Option.bind_some, if_neg (show ¬ (1 : Int) = 0 by decide), if_neg (fun q => zc2 ((rq_cnb_i s n _).mp q)), q_fails t4 hn (by decide) (by decide), Option.bind_some, q_bz0]
      exact rq_some.mpr (bad m4 _ 1 f4)
    obtain ⟨-, hb2, -, -⟩ := rq_cn_nm hok bp2 zc2
    have bp3 := rq_bp_nx (s := s) hb2
    rw [k1 zc2, Option.bind_some, if_pos rfl, if_pos ((rq_cnb_i s n _).mpr zc2), q_gfr, Option.bind_some, q_rnh hD4 hok bp2 t4 zc2, Option.bind_some, q_s8 (k := 279) _ 240 (pt_248_44 hD4.1) kd_279 ln_279 (by omega), Option.bind_some]
    have hb' := rq_nh_b (ρ := ρ) (rq_vl s n (rq_nxp s n (rq_nxp s n b)))
    generalize hx2 : rq_nh ρ (rq_vl s n (rq_nxp s n (rq_nxp s n b))) = y at hb' ⊢
    have f5 : rq_fr rq_wYr m (rt_up m4 279 (200 + c) y) := f4.up (by unfold rq_wYr; simp)
    have t5 : rq_ts s n (rq_nxp s n (rq_nxp s n b)) (rt_up m4 279 (200 + c) y) := rq_ts_fr t4 (fun j _ _ => by rw [q_up, if_neg (by omega)])
    have c277 : ∀ i, rt_up m4 279 (200 + c) y 277 i = if i = 200 + c then w else m 277 i := fun i => by rw [q_up, if_neg (by omega), kN g4 277 i (by decide), b277]
    have c278 : ∀ i, rt_up m4 279 (200 + c) y 278 i = if i = 200 + c then x else m 278 i := fun i => by rw [q_up, if_neg (by omega), kN g4 278 i (by decide), b278]
    have c279 : ∀ i, rt_up m4 279 (200 + c) y 279 i = if i = 200 + c then y else m 279 i := fun i => by
      rw [q_up]
      by_cases z : i = 200 + c
      · rw [if_pos ⟨rfl, z⟩, if_pos z]
      · rw [if_neg (fun q => z q.2), if_neg z, kN g4 279 i (by decide), b279]
    have c276 : rt_up m4 279 (200 + c) y 276 5 = (c : Int) := by rw [q_up, if_neg (by omega), kN g4 276 5 (by decide), b276]
    generalize rt_up m4 279 (200 + c) y = m5 at f5 t5 c277 c278 c279 c276 ⊢
    have hD5 := rq_D_Yr hD f5
    rw [q_gfr, Option.bind_some, q_a8 (k := 279) _ 240 (pt_248_44 hD5.1) kd_279 ln_279 (by omega), Option.bind_some, c279, if_pos rfl]
    by_cases zh : y = -1
    · rw [if_neg (by omega), if_pos zh, q_fails t5 hn (by decide) (by decide), Option.bind_some, q_bz0]
      exact rq_some.mpr (bad m5 _ 2 f5)
    rw [if_pos (by omega), if_neg zh]
    refine rq_call (adv f5 t5 hb2) ?_
    rintro m6 ⟨t6, g6, f6⟩
    exact fin m6 _ (0, x, y) f6 bp3 t6 (fun i hi => ⟨by rw [kN g6 277 i (by decide), c277, if_neg (by omega)], by rw [kN g6 278 i (by decide), c278, if_neg (by omega)], by rw [kN g6 279 i (by decide), c279, if_neg (by omega)]⟩) (by rw [kN g6 276 5 (by decide), c276]) (by omega) (by show m6 277 _ = 0; rw [kN g6 277 _ (by decide), c277, if_pos rfl, z0]) (fun _ => by show m6 278 _ = x; rw [kN g6 278 _ (by decide), c278, if_pos rfl]) (fun _ => by show m6 279 _ = y; rw [kN g6 279 _ (by decide), c279, if_pos rfl])
  have isw : ∀ (W : Nat) (c : Int), W < 27 → c = rq_W27 W → f_X12_isWord 248 c m = some (if rq_kd s n b = (W : Int) then 1 else 0) := fun W c hW hc => q_isWord hok hp h hW hc
  unfold f_X12_readsLine
  rw [isw 10 12251 (by decide) (by decide), Option.bind_some]
  by_cases k10 : rq_kd s n b = 10
  · rw [show (if rq_kd s n b = ((10 : Nat) : Int) then (1 : Int) else 0) = 1 from if_pos k10, if_neg (by decide)]
    exact line 0 (by decide) (by decide) k10
  rw [show (if rq_kd s n b = ((10 : Nat) : Int) then (1 : Int) else 0) = 0 from if_neg k10, if_pos rfl, isw 11 11103 (by decide) (by decide), Option.bind_some]
  by_cases k11 : rq_kd s n b = 11
  · rw [show (if rq_kd s n b = ((11 : Nat) : Int) then (1 : Int) else 0) = 1 from if_pos k11, if_neg (by decide)]
    exact line 1 (by decide) (by decide) k11
  rw [show (if rq_kd s n b = ((11 : Nat) : Int) then (1 : Int) else 0) = 0 from if_neg k11, if_pos rfl, isw 12 259906 (by decide) (by decide), Option.bind_some]
  by_cases k12 : rq_kd s n b = 12
  · rw [show (if rq_kd s n b = ((12 : Nat) : Int) then (1 : Int) else 0) = 1 from if_pos k12, if_neg (by decide)]
    exact line 2 (by decide) (by decide) k12
  rw [show (if rq_kd s n b = ((12 : Nat) : Int) then (1 : Int) else 0) = 0 from if_neg k12, if_pos rfl, isw 13 275320391 (by decide) (by decide), Option.bind_some]
  by_cases k13 : rq_kd s n b = 13
  · rw [show (if rq_kd s n b = ((13 : Nat) : Int) then (1 : Int) else 0) = 1 from if_pos k13, if_neg (by decide)]
    exact line 3 (by decide) (by decide) k13
  rw [show (if rq_kd s n b = ((13 : Nat) : Int) then (1 : Int) else 0) = 0 from if_neg k13, if_pos rfl]
  unfold j_X12_readsLine_57 rq_yl
  rw [if_neg (by decide), if_neg (by omega), q_fails h hn (by decide) (by decide), Option.bind_some, q_bz0]
  exact rq_some.mpr (bad m b 1 rq_fr.rfl)
end
