/-! Layer 3: heats and slack, the reference reads them -/
def rq_hJ (s : Nat → Int) (n : Nat) (m : rt_M) (X : (Int × Nat) ⊕ ((Nat × (Nat → Int)) × Nat)) (i : Nat) (x : Int × rt_M) : Prop := x.1 = (i : Int) ∧ ∃ b H, rq_bp s n b ∧ (∀ j, j < i → x.2 260 (12 + j) = H j) ∧ rq_hh s n (13 - i) i H b = X ∧ rq_ts s n b x.2 ∧ rq_fr rq_wGr m x.2 ∧ ∀ a j, 250 ≤ a → a ≤ 259 → x.2 a j = m a j
def rq_wGs (k j : Nat) : Bool := rq_wGr k j || (k == 248 && j == 26)
theorem rq_wGs_st : (rq_P.all fun p => !(rq_wGs p.1 p.2.1)) = true := by decide +kernel
theorem rq_wGs_r {k j : Nat} (h : rq_wGs k j = false) : rq_wGr k j = false := by
  unfold rq_wGs at h
  simp only [Bool.or_eq_false_iff] at h
  exact h.1
def rq_lnDs {α : Type} (s : Nat → Int) (n : Nat) (m : rt_M) (x : (Int × Nat) ⊕ (α × Nat)) (C : α → rt_M → Prop) (p : Int × rt_M) : Prop := rq_fr rq_wGs m p.2 ∧ match x with
  | .inl q => p.1 = 0 ∧ p.2 248 9 = q.1 + 16 * (q.2 : Int)
  | .inr q => p.1 = 1 ∧ rq_ts s n q.2 p.2 ∧ C q.1 p.2
section
variable {m m' : rt_M} {s : Nat → Int} {n b : Nat} {ρ : rq_R}
theorem rq_ty_G (h : rq_ty s n m) (f : rq_fr rq_wGs m m') : rq_ty s n m' := ⟨by rw [f 248 3 rfl]; exact h.1, fun i hi => by rw [f 249 i rfl]; exact h.2 i hi⟩
theorem q_readsHeats (hs : rq_st m) (ht : rq_ty s n m) (hok : rq_okT s n) (hb : b < n) (ts : rq_ts s n b m) (hd : rq_dr ρ m) : rq (f_X12_readsHeats 248 m) (rq_lnD s n m (rq_htl ρ s n b) (fun t m' => rq_dr (rq_at3 ρ t) m')) := by
  have hn := hok.1
  have bn := rq_bp_nx (s := s) hb
  unfold f_X12_readsHeats rq_htl
  rw [q_gfr, Option.bind_some, q_a9 (k := 250) _ 7 8 7 (pt_248_10 hs) kd_250 ln_250 rfl (by decide), Option.bind_some, hd.1.2.2.2]
  by_cases z : ρ.1 0 3 ≤ 0
  rotate_left
  · rw [if_neg z, if_neg z, q_fails ts hn (by decide) (by decide), Option.bind_some, q_bz0]
    exact rq_some.mpr ⟨rq_fr.rfl.up rfl, rfl, rq_upE m 248 9 _⟩
  rw [if_pos z, if_pos z]
  generalize hX : rq_hh s n 13 0 (fun _ => 0) (rq_nxp s n b) = X
  refine rq_call (q_nextAt hs ht hok ts hb) ?_
  rintro m1 ⟨ts1, f1⟩
  have F1 : rq_fr rq_wGr m m1 := f1.mono (fun _ _ q => rq_w9_N (rq_w40_9 (rq_wGr_40 q)))
  have body : ∀ i x, i ≤ 12 → rq_hJ s n m X i x → rq (b_X12_readsHeats_22 248 x) (fun t => (∀ s', t = .inl s' → i < 12 ∧ rq_hJ s n m X (i + 1) s') ∧ ∀ e, t = .inr e → rq_lnD s n m X (fun t m' => rq_dr (rq_at3 ρ t) m') e) := by
    rintro i ⟨x, mm⟩ i12 ⟨ex, b1, H, bp1, hH, eX, ts2, F, K⟩
    dsimp only at ex hH ts2 F K
    subst ex
    have s2 := rq_st_fr hs F rq_wGr_st
    have t2 := rq_ty_G ht (F.mono (fun _ _ => rq_wGs_r))
    have h6 := ts2.2.2.2.1
    have tn2 := rq_tn_2 hok bp1
    rw [show 13 - i = (12 - i) + 1 by omega, rq_hh_s] at eX
    have num : ¬ (i ≠ 0 ∧ rq_kd s n b1 = 34) → rq (j_X12_readsHeats_35_22 248 (i : Int) mm) (fun t => (∀ s', t = .inl s' → i < 12 ∧ rq_hJ s n m X (i + 1) s') ∧ ∀ e, t = .inr e → rq_lnD s n m X (fun t m' => rq_dr (rq_at3 ρ t) m') e) := by
      intro zn
      rw [if_neg zn] at eX
      unfold j_X12_readsHeats_35_22
      rw [q_gfr, Option.bind_some, h6]
      by_cases z36 : rq_kd s n b1 = 36
      rotate_left
      · rw [if_neg z36] at eX
        rw [if_neg (fun q => z36 (tn2.mp q)), q_fails ts2 hn (by decide) (by decide), Option.bind_some, q_bz0]
        refine rq_map.mpr (rq_some.mpr ⟨fun s' q => (by cases q), fun e q => ?_⟩)
        cases q
        rw [← eX]
        exact ⟨F.up rfl, rfl, rq_upE mm 248 9 _⟩
      have hb1 : b1 < n := rq_kd_lt (s := s) (by omega)
      have vb := rq_vl_36 hok bp1 z36
      rw [if_pos z36] at eX
      rw [if_pos (tn2.mpr z36), q_gfr, Option.bind_some, q_r8n hok bp1 ts2 z36]
      by_cases z9 : rq_vl s n b1 ≤ 9
      rotate_left
      · rw [if_neg z9] at eX
        rw [if_neg z9, q_fails ts2 hn (by decide) (by decide), Option.bind_some, q_bz0]
        refine rq_map.mpr (rq_some.mpr ⟨fun s' q => (by cases q), fun e q => ?_⟩)
        cases q
        rw [← eX]
        exact ⟨F.up rfl, rfl, rq_upE mm 248 9 _⟩
      rw [if_pos z9] at eX
      rw [if_pos z9]
      by_cases z12 : i = 12
      · rw [if_pos z12] at eX
        rw [if_pos (by omega), q_fails ts2 hn (by decide) (by decide), Option.bind_some, q_bz0]
        refine rq_map.mpr (rq_some.mpr ⟨fun s' q => (by cases q), fun e q => ?_⟩)
        cases q
        rw [← eX]
        exact ⟨F.up rfl, rfl, rq_upE mm 248 9 _⟩
      rw [if_neg z12] at eX
      rw [if_neg (by omega), q_gfr, Option.bind_some, Option.bind_some, q_s9 (k := 260) _ (rt_iadd 12 (i : Int)) 24 (12 + i) (pt_248_20 s2) kd_260 ln_260 (by rw [rq_iadd (by omega) (by omega)]; omega) (by omega), Option.bind_some]
      have F3 : rq_fr rq_wGr m (rt_up mm 260 (12 + i) (rq_vl s n b1)) := F.up (by unfold rq_wGr; simp)
      have g3 : ∀ a j, ¬ (a = 260 ∧ j = 12 + i) → rt_up mm 260 (12 + i) (rq_vl s n b1) a j = mm a j := fun a j q => by rw [q_up, if_neg q]
      have c3 : rt_up mm 260 (12 + i) (rq_vl s n b1) 260 (12 + i) = rq_vl s n b1 := rq_upE _ _ _ _
      have ts3 : rq_ts s n b1 (rt_up mm 260 (12 + i) (rq_vl s n b1)) := rq_ts_fr ts2 (fun j h1 h2 => g3 _ _ (by omega))
      generalize rt_up mm 260 (12 + i) (rq_vl s n b1) = m3 at F3 g3 c3 ts3 ⊢
      have s3 := rq_st_fr hs F3 rq_wGr_st
      refine rq_call (q_nextAt s3 (rq_ty_G ht (F3.mono (fun _ _ => rq_wGs_r))) hok ts3 hb1) ?_
      rintro m4 ⟨ts4, f4⟩
      rw [rq_n1 (by omega)]
      have g4 : ∀ a j, 250 ≤ a → m4 a j = m3 a j := fun a j h => f4 a j (rq_wN2_r (by omega))
      refine rq_some.mpr ⟨fun s' q => ?_, fun e q => (by cases q)⟩
      cases q
      refine ⟨by omega, rfl, rq_nxp s n b1, (fun j => if j = i then rq_vl s n b1 else H j), rq_bp_nx hb1, fun j hj => ?_, ?_, ts4, F3.trans (f4.mono (fun _ _ q => rq_w9_N (rq_w40_9 (rq_wGr_40 q)))), fun a j h1 h2 => ?_⟩
      · show m4 260 (12 + j) = if j = i then rq_vl s n b1 else H j
        rw [g4 _ _ (by omega)]
        by_cases y : j = i
        · rw [if_pos y, y, c3]
        · rw [if_neg y, g3 _ _ (by omega)]
          exact hH j (by omega)
      · rw [show 13 - (i + 1) = 12 - i by omega]
        exact eX
      · show m4 a j = m a j
        rw [g4 _ _ h1, g3 _ _ (by omega), K a j h1 h2]
    unfold b_X12_readsHeats_22
    dsimp only
    by_cases i0 : i = 0
    · rw [if_pos (by omega)]
      exact num (fun q => q.1 i0)
    rw [if_neg (by omega), q_isSign s2 t2 hok bp1 ts2 (W := 34) (by decide) (by decide) (c := 59) (by decide), Option.bind_some]
    by_cases z34 : rq_kd s n b1 = ((34 : Nat) : Int)
    rotate_left
    · rw [if_neg z34, if_pos rfl]
      exact num (fun q => z34 q.2)
    have z34' : rq_kd s n b1 = 34 := z34
    rw [if_pos ⟨i0, z34'⟩] at eX
    rw [if_pos z34, if_neg (by decide), q_gfr, Option.bind_some, q_s9 (k := 250) _ 7 8 7 (pt_248_10 s2) kd_250 ln_250 rfl (by decide), Option.bind_some]
    have F3 : rq_fr rq_wGr m (rt_up mm 250 7 (i : Int)) := F.up rfl
    have g3 : ∀ a j, ¬ (a = 250 ∧ j = 7) → rt_up mm 250 7 (i : Int) a j = mm a j := fun a j q => by rw [q_up, if_neg q]
    have c3 : rt_up mm 250 7 (i : Int) 250 7 = (i : Int) := rq_upE _ _ _ _
    have ts3 : rq_ts s n b1 (rt_up mm 250 7 (i : Int)) := rq_ts_fr ts2 (fun j h1 h2 => g3 _ _ (by omega))
    generalize rt_up mm 250 7 (i : Int) = m3 at F3 g3 c3 ts3 ⊢
    have s3 := rq_st_fr hs F3 rq_wGr_st
    refine rq_map.mpr (rq_call ((q_closes s3 (rq_ty_G ht (F3.mono (fun _ _ => rq_wGs_r))) hok bp1 ts3).1 z34') ?_)
    rintro ⟨v4, m4⟩ ⟨e4, ts4, f4⟩
    dsimp only at e4 ts4 f4 ⊢
    subst e4
    rw [q_bz1]
    have g4 : ∀ a j, 250 ≤ a → m4 a j = m3 a j := fun a j h => f4 a j (rq_wN2_r (by omega))
    refine rq_some.mpr ⟨fun s' q => (by cases q), fun e q => ?_⟩
    cases q
    rw [← eX]
    refine ⟨F3.trans (f4.mono (fun _ _ q => rq_w9_N (rq_w40_9 (rq_wGr_40 q)))), rfl, ts4, rq_at3_dr hd (fun j hj => ?_) ?_ (fun a j h1 h2 h3 => ?_)⟩
    · show m4 260 (12 + j) = H j
      rw [g4 _ _ (by omega), g3 _ _ (by omega)]
      exact hH j hj
    · show m4 250 7 = (i : Int)
      rw [g4 _ _ (by omega), c3]
    · show m4 a j = m a j
      rw [g4 _ _ h1, g3 _ _ h3, K a j h1 h2]
  refine rq_up (rq_hJ s n m X) 12 (by decide) ?_ ?_ ?_
  · intro i x hi hI
    refine rq_mono (body i x (by omega) hI) ?_
    rintro t ⟨k1, k2⟩
    exact ⟨fun s' q => (k1 s' q).2, k2⟩
  · intro x hI
    refine rq_mono (body 12 x (by omega) hI) ?_
    rintro t ⟨k1, k2⟩
    cases t with
    | inl s' => exact absurd (k1 s' rfl).1 (by decide)
    | inr e => exact ⟨e, rfl, k2 e rfl⟩
  · exact ⟨rfl, rq_nxp s n b, fun _ => 0, bn, fun j hj => absurd hj (Nat.not_lt_zero j), hX, ts1, F1, fun a j h1 h2 => f1 a j (rq_wN2_r (by omega))⟩
theorem q_readsSlack (hs : rq_st m) (ht : rq_ty s n m) (hok : rq_okT s n) (hb : b < n) (ts : rq_ts s n b m) (hd : rq_dr ρ m) : rq (f_X12_readsSlack 248 m) (rq_lnDs s n m (rq_skl (m 248 26) s n b) (fun v m' => rq_dr (rq_asl ρ v) m' ∧ m' 248 26 = 1)) := by
  have hn := hok.1
  have bn := rq_bp_nx (s := s) hb
  unfold f_X12_readsSlack rq_skl
  rw [q_gfr, Option.bind_some]
  by_cases z : m 248 26 = 0
  rotate_left
  · rw [if_neg z, if_neg z, q_fails ts hn (by decide) (by decide), Option.bind_some, q_bz0]
    exact rq_some.mpr ⟨rq_fr.rfl.up rfl, rfl, rq_upE m 248 9 _⟩
  rw [if_pos z, if_pos z, q_pfr, Option.bind_some]
  have F0 : rq_fr rq_wGs m (rt_up m 248 26 1) := rq_fr.rfl.up rfl
  have g0 : ∀ a j, ¬ (a = 248 ∧ j = 26) → rt_up m 248 26 1 a j = m a j := fun a j q => by rw [q_up, if_neg q]
  have c0 : rt_up m 248 26 1 248 26 = 1 := rfl
  have ts0 : rq_ts s n b (rt_up m 248 26 1) := rq_ts_fr ts (fun j h1 h2 => g0 _ _ (by omega))
  generalize rt_up m 248 26 1 = m0 at F0 g0 c0 ts0 ⊢
  have s0 := rq_st_fr hs F0 rq_wGs_st
  refine rq_call (q_nextAt s0 (rq_ty_G ht F0) hok ts0 hb) ?_
  rintro m1 ⟨ts1, f1⟩
  have w9 : ∀ {x y : rt_M}, rq_fr rq_w9 x y → rq_fr rq_wGs x y := fun f => f.mono (fun _ _ q => rq_w40_9 (rq_wGr_40 (rq_wGs_r q)))
  have f1' := f1.mono (fun _ _ => rq_w9_N)
  have F1 := F0.trans (w9 f1')
  have s1 := rq_st_fr hs F1 rq_wGs_st
  refine rq_call (q_needsNumber s1 (rq_ty_G ht F1) hok bn ts1) ?_
  rintro ⟨v2, m2⟩ ⟨f2, h2⟩
  dsimp only at f2 h2 ⊢
  have F2 := F1.trans (w9 f2)
  have o2 := rq_nu_v (s := s) (n := n) (b := rq_nxp s n b) (lo := 0) (hi := 9)
  cases e : rq_nu s n 0 9 (rq_nxp s n b) with
  | inl q =>
    rw [e] at h2
    dsimp only at h2
    rw [if_pos h2.1, rq_sbd_l]
    exact rq_some.mpr ⟨F2, rfl, h2.2⟩
  | inr q =>
    rw [e] at h2 o2
    dsimp only at h2
    obtain ⟨x, b2⟩ := q
    obtain ⟨h2a, ts2, h39⟩ := h2
    have s2 := rq_st_fr hs F2 rq_wGs_st
    rw [h2a, if_neg (by decide), rq_sbd_r, q_gfr, Option.bind_some, q_gfr, Option.bind_some, h39, q_s9 (k := 250) _ 6 8 6 (pt_248_10 s2) kd_250 ln_250 rfl (by decide), Option.bind_some]
    dsimp only at o2 ts2 ⊢
    have F3 : rq_fr rq_wGs m (rt_up m2 250 6 x) := F2.up rfl
    have g3 : ∀ a j, ¬ (a = 250 ∧ j = 6) → rt_up m2 250 6 x a j = m2 a j := fun a j q => by rw [q_up, if_neg q]
    have c3 : rt_up m2 250 6 x 250 6 = x := rq_upE _ _ _ _
    have ts3 : rq_ts s n b2 (rt_up m2 250 6 x) := rq_ts_fr ts2 (fun j h1 h2 => g3 _ _ (by omega))
    generalize rt_up m2 250 6 x = m3 at F3 g3 c3 ts3 ⊢
    have s3 := rq_st_fr hs F3 rq_wGs_st
    refine rq_call (q_closesX s3 (rq_ty_G ht F3) hok o2.2.2.1 ts3) ?_
    rintro ⟨v4, m4⟩ ⟨f4, h4⟩
    dsimp only at f4 h4 ⊢
    have F4 := F3.trans (w9 f4)
    cases e8 : rq_stp s n b2 with
    | inl q =>
      rw [e8] at h4
      dsimp only at h4
      rw [h4.1, q_bz0, rq_sbd_l]
      exact rq_some.mpr ⟨F4, rfl, h4.2⟩
    | inr b6 =>
      rw [e8] at h4
      dsimp only at h4
      rw [h4.1, q_bz1, rq_sbd_r]
      have g4 : ∀ a j, 250 ≤ a → m4 a j = m3 a j := fun a j h => f4 a j (rq_w9_r (by omega))
      refine rq_some.mpr ⟨F4, rfl, h4.2, rq_asl_dr hd ?_ (fun a j h1 h2 h3 => ?_), ?_⟩
      · show m4 250 6 = x
        rw [g4 _ _ (by omega), c3]
      · show m4 a j = m a j
        rw [g4 _ _ h1, g3 _ _ h3, f2 a j (rq_w9_r (by omega)), f1 a j (rq_wN2_r (by omega)), g0 _ _ (by omega)]
      · show m4 248 26 = 1
        rw [f4 248 26 rfl, g3 _ _ (by omega), f2 248 26 rfl, f1 248 26 rfl, c0]
end
