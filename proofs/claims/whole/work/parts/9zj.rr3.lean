/-! Layer 3: a line of a wig, of a head: the reference reads it -/
section
variable {m m' : rt_M} {s : Nat → Int} {n b : Nat} {ρ : rq_R}
theorem q_saL {k : Nat} (x : Int) (N : Nat) (hx : x = (k : Int)) (hk : rt_kd k = 2) (hl : rt_ln k = N) {j : Nat} (hj : j < N) (v : Int) : rt_sa 2 x (j : Int) v m = some (rt_up m k j v) := by subst hx; exact q_sa hk hl hj
/-- a word, a number, laid down -/
theorem q_bothK {P : Int × rt_M → Prop} {K : rt_M → Option (Int × rt_M)} (hs : rq_st m) (ht : rq_ty s n m) (hok : rq_okT s n) (hp : rq_bp s n b) (ts : rq_ts s n b m) {W : Nat} (hW : W < 27) {c : Int} (hc : c = rq_W27 W) {lo hi : Int} {f a j : Nat} (pf : ∀ x, rq_st x → x 248 f = (a : Int)) (ka : rt_kd a = 1) (la : rt_ln a = 12) (jN : j < 12) (ha : 249 < a) (hP : (rq_P.all fun p => !(p.1 == a)) = true)
    (bad : ∀ q m1, rq_fa s n (W : Int) lo hi b = .inl q → rq_fr rq_w9 m m1 → m1 248 9 = q.1 + 16 * (q.2 : Int) → P (0, m1))
    (good : ∀ x b' m2, rq_fa s n (W : Int) lo hi b = .inr (x, b') → rq_ts s n b' m2 → rq_ty s n m2 → rq_st m2 → m2 a j = x → rq_fr (rq_wFy a j) m m2 → rq (K m2) P) :
    rq ((f_X12_needsBoth 248 c lo hi m).bind fun p41 => if p41.1 = 0 then some (0, p41.2) else (rt_gf 12 f 248 p41.2).bind fun v50 => (rt_gf 12 39 248 p41.2).bind fun v55 => (rt_sa 1 v50 (j : Int) v55 p41.2).bind fun m58 => K m58) P := by
  refine rq_call (q_needsBoth hs ht hok hp ts hW hc) ?_
  rintro ⟨v, m1⟩ ⟨f1, h1⟩
  dsimp only at f1 h1 ⊢
  cases e : rq_fa s n (W : Int) lo hi b with
  | inl q =>
    rw [e] at h1
    dsimp only at h1
    rw [if_pos h1.1]
    exact rq_some.mpr (bad q m1 e f1 h1.2)
  | inr q =>
    rw [e] at h1
    dsimp only at h1
    obtain ⟨x, b'⟩ := q
    obtain ⟨h1a, ts1, h39⟩ := h1
    have s1 := rq_st_fr hs f1 rq_w9_st
    rw [h1a, if_neg (by decide), q_gfr, Option.bind_some, q_gfr, Option.bind_some, h39, q_s8 (k := a) _ 12 (pf m1 s1) ka la jN, Option.bind_some]
    have f2 : rq_fr (rq_wFy a j) m (rt_up m1 a j x) := (f1.mono (fun k i q => by unfold rq_wFy at q; simp only [Bool.or_eq_false_iff] at q; exact q.1)).up (by unfold rq_wFy; simp)
    refine good x b' _ e (rq_ts_fr ts1 (fun i h1 h2 => by rw [q_up, if_neg (by omega)])) ⟨?_, fun i hi => ?_⟩ (rq_st_fr hs f2 (rq_wFy_st hP)) (rq_upE _ _ _ _) f2
    · rw [q_up, if_neg (by omega), f1 248 3 rfl]; exact ht.1
    · rw [q_up, if_neg (by omega), f1 249 i rfl]; exact ht.2 i hi
theorem rq_wFy_r {a j k i : Nat} (hk : 250 ≤ k) (h : ¬ (k = a ∧ i = j)) : rq_wFy a j k i = false := by
  unfold rq_wFy rq_w9 rq_wN2
  simp only [Bool.or_eq_false_iff, Bool.and_eq_false_iff, beq_eq_false_iff_ne, decide_eq_false_iff_not]
  omega
theorem rq_wGr_y {a j : Nat} (ha : 253 ≤ a ∧ a ≤ 259) (hj : 6 ≤ j) {k i : Nat} (h : rq_wGr k i = false) : rq_wFy a j k i = false := by
  have h9 := rq_w40_9 (rq_wGr_40 h)
  unfold rq_wGr at h
  simp only [Bool.or_eq_false_iff, Bool.and_eq_false_iff, beq_eq_false_iff_ne, decide_eq_false_iff_not] at h
  unfold rq_wFy
  simp only [Bool.or_eq_false_iff, Bool.and_eq_false_iff, beq_eq_false_iff_ne]
  refine ⟨h9, ?_⟩
  omega
theorem rq_w40_r {k i : Nat} (hk : 249 ≤ k) : rq_w40 k i = false := by
  unfold rq_w40 rq_w9 rq_wN2
  simp only [Bool.or_eq_false_iff, Bool.and_eq_false_iff, beq_eq_false_iff_ne, decide_eq_false_iff_not]
  omega
theorem rq_w9_r {k i : Nat} (hk : 249 ≤ k) : rq_w9 k i = false := rq_w40_9 (rq_w40_r hk)
theorem rq_wN2_r {k i : Nat} (hk : 249 ≤ k) : rq_wN2 k i = false := rq_w9_N (rq_w9_r hk)
theorem q_readsWig (hs : rq_st m) (ht : rq_ty s n m) (hok : rq_okT s n) (hb : b < n) (ts : rq_ts s n b m) (hv : rq_va ρ) (hd : rq_dr ρ m) : rq (f_X12_readsWig 248 m) (rq_lnD s n m (rq_wgl ρ s n b) (fun t m' => rq_dr (rq_aw ρ t) m')) := by
  have hn := hok.1
  have hv0 := hv.1
  have e4 := hd.1.1
  obtain ⟨c, hc⟩ := Int.eq_ofNat_of_zero_le hv0.1
  have hc' : ρ.1 0 0 = (c : Int) := hc
  have c6 : c ≤ 6 := by omega
  have bn := rq_bp_nx (s := s) hb
  have i6 : rt_iadd 6 (m 250 4) = ((6 + c : Nat) : Int) := by rw [e4, hc', rq_iadd (by omega) (by omega)]; omega
  unfold f_X12_readsWig j_X12_readsWig_47 rq_wgl
  rw [q_gfr, Option.bind_some, q_a9 (k := 250) _ 4 8 4 (pt_248_10 hs) kd_250 ln_250 rfl (by decide), Option.bind_some, i6]
  by_cases z6 : ρ.1 0 0 = 6
  · rw [if_pos z6, if_pos (show ((6 + c : Nat) : Int) = 12 by omega), q_fails ts hn (by decide) (by decide), Option.bind_some, q_bz0]
    exact rq_some.mpr ⟨rq_fr.rfl.up rfl, rfl, rq_upE m 248 9 _⟩
  have c5 : c < 6 := by omega
  rw [if_neg z6, if_neg (show ¬ ((6 + c : Nat) : Int) = 12 by omega)]
  refine rq_call (q_nextAt hs ht hok ts hb) ?_
  rintro m1 ⟨ts1, f1⟩
  have F1 : rq_fr rq_w40 m m1 := f1.mono (fun _ _ q => rq_w9_N (rq_w40_9 q))
  have s1 := rq_st_fr hs F1 rq_w40_st
  have t1 := rq_ty_9 ht F1
  have d1 : rq_dr ρ m1 := rq_dr_fr hd (fun a j h1 h2 => F1 a j (rq_w40_r (by omega)))
  refine rq_call (q_needsNew s1 t1 hok bn ts1 hv (rq_dr_dn d1)) ?_
  rintro ⟨v2, m2⟩ ⟨f2, h2⟩
  dsimp only at f2 h2 ⊢
  have F2 : rq_fr rq_w40 m m2 := F1.trans f2
  have G2 : rq_fr rq_wGr m m2 := F2.mono (fun _ _ => rq_wGr_40)
  have o2 := rq_nnw_o (ρ := ρ) hok bn
  cases e : rq_nnw ρ s n (rq_nxp s n b) with
  | inl q =>
    rw [e] at h2
    dsimp only at h2
    rw [if_pos h2.1, rq_sbd_l]
    exact rq_some.mpr ⟨G2, rfl, h2.2⟩
  | inr b2 =>
    rw [e] at h2 o2
    dsimp only at h2
    obtain ⟨h2a, ts2, nm2⟩ := h2
    obtain ⟨bp2, -⟩ := o2
    have s2 := rq_st_fr hs F2 rq_w40_st
    have t2 := rq_ty_9 ht F2
    rw [h2a, if_neg (by decide), rq_sbd_r]
    have r2 : ∀ a j, 250 ≤ a → m2 a j = m a j := fun a j h1 => F2 a j (rq_w40_r (by omega))
    clear F1 f1 ts1 s1 t1 d1 f2 F2 h2a
    refine q_bothK (a := 253) s2 t2 hok bp2 ts2 (W := 1) (by decide) (by decide) (fun x hx => pt_248_13 hx) kd_253 ln_253 (by omega) (by decide) (by decide +kernel) ?_ ?_
    · intro q m3 e3 f3 h3
      have e3' : rq_fa s n 1 40 79 b2 = .inl q := e3
      rw [e3', rq_sbd_l]
      exact ⟨G2.trans (f3.mono (fun _ _ q => rq_w40_9 (rq_wGr_40 q))), rfl, h3⟩
    intro x b3 m3 e3 ts3 t3 s3 c3 f3
    have e3' : rq_fa s n 1 40 79 b2 = .inr (x, b3) := e3
    have o3 := rq_fa_o (s := s) (n := n) (b := b2) (W := 1) (lo := 40) (hi := 79) (by decide)
    rw [e3'] at o3 ⊢
    rw [rq_sbd_r]
    have G3 := G2.trans (f3.mono (fun k i => rq_wGr_y (by decide) (by omega)))
    have r3 : ∀ a j, 250 ≤ a → ¬ (a = 253 ∧ j = 6 + c) → m3 a j = m a j := fun a j h1 h2 => by rw [f3 a j (rq_wFy_r h1 h2), r2 a j h1]
    have n3 : m3 248 40 = m2 248 40 := f3 248 40 rfl
    refine q_bothK (a := 254) s3 t3 hok o3.2.2.1 ts3 (W := 2) (by decide) (by decide) (fun x hx => pt_248_14 hx) kd_254 ln_254 (by omega) (by decide) (by decide +kernel) ?_ ?_
    · intro q m4 e4 f4 h4
      have e4' : rq_fa s n 2 0 99 b3 = .inl q := e4
      dsimp only
      rw [e4', rq_sbd_l]
      exact ⟨G3.trans (f4.mono (fun _ _ q => rq_w40_9 (rq_wGr_40 q))), rfl, h4⟩
    intro y b4 m4 e4 ts4 t4 s4 c4 f4
    have e4' : rq_fa s n 2 0 99 b3 = .inr (y, b4) := e4
    have o4 := rq_fa_o (s := s) (n := n) (b := b3) (W := 2) (lo := 0) (hi := 99) (by decide)
    dsimp only
    rw [e4'] at o4 ⊢
    rw [rq_sbd_r]
    have G4 := G3.trans (f4.mono (fun k i => rq_wGr_y (by decide) (by omega)))
    have r4 : ∀ a j, 250 ≤ a → ¬ (a = 253 ∧ j = 6 + c) → ¬ (a = 254 ∧ j = 6 + c) → m4 a j = m a j := fun a j h1 h2 h3 => by rw [f4 a j (rq_wFy_r h1 h3), r3 a j h1 h2]
    have n4 : m4 248 40 = m2 248 40 := by rw [f4 248 40 rfl, n3]
    have c43 : m4 253 (6 + c) = x := by rw [f4 253 _ (rq_wFy_r (by decide) (by omega)), c3]
    refine q_bothK (a := 255) s4 t4 hok o4.2.2.1 ts4 (W := 3) (by decide) (by decide) (fun x hx => pt_248_15 hx) kd_255 ln_255 (by omega) (by decide) (by decide +kernel) ?_ ?_
    · intro q m5 e5 f5 h5
      have e5' : rq_fa s n 3 0 9 b4 = .inl q := e5
      dsimp only
      rw [e5', rq_sbd_l]
      exact ⟨G4.trans (f5.mono (fun _ _ q => rq_w40_9 (rq_wGr_40 q))), rfl, h5⟩
    intro w b5 m5 e5 ts5 t5 s5 c5' f5
    have e5' : rq_fa s n 3 0 9 b4 = .inr (w, b5) := e5
    have o5 := rq_fa_o (s := s) (n := n) (b := b4) (W := 3) (lo := 0) (hi := 9) (by decide)
    dsimp only
    rw [e5'] at o5 ⊢
    rw [rq_sbd_r]
    have G5 := G4.trans (f5.mono (fun k i => rq_wGr_y (by decide) (by omega)))
    have r5 : ∀ a j, 250 ≤ a → ¬ (a = 253 ∧ j = 6 + c) → ¬ (a = 254 ∧ j = 6 + c) → ¬ (a = 255 ∧ j = 6 + c) → m5 a j = m a j := fun a j h1 h2 h3 h4 => by rw [f5 a j (rq_wFy_r h1 h4), r4 a j h1 h2 h3]
    have n5 : m5 248 40 = m2 248 40 := by rw [f5 248 40 rfl, n4]
    have c53 : m5 253 (6 + c) = x := by rw [f5 253 _ (rq_wFy_r (by decide) (by omega)), c43]
    have c54 : m5 254 (6 + c) = y := by rw [f5 254 _ (rq_wFy_r (by decide) (by omega)), c4]
    clear f3 f4 f5 r2 r3 r4 n3 n4 c3 c4 c43 G2 G3 G4 s2 s3 s4 t2 t3 t4 ts2 ts3 ts4
    rw [q_gfr, Option.bind_some, q_gfr, Option.bind_some, q_saL (k := 251) _ 12 (pt_248_11 s5) kd_251 ln_251 (show 6 + c < 12 by omega), Option.bind_some]
    have f6 : rq_fr rq_wGr m (rt_up m5 251 (6 + c) (m5 248 40)) := G5.up (by unfold rq_wGr; simp)
    have g6 : ∀ a j, ¬ (a = 251 ∧ j = 6 + c) → rt_up m5 251 (6 + c) (m5 248 40) a j = m5 a j := fun a j q => by rw [q_up, if_neg q]
    have c61 : rt_up m5 251 (6 + c) (m5 248 40) 251 (6 + c) = m2 248 40 := by rw [rq_upE, n5]
    have ts6 : rq_ts s n b5 (rt_up m5 251 (6 + c) (m5 248 40)) := rq_ts_fr ts5 (fun j h1 h2 => g6 _ _ (by omega))
    have t6 : rq_ty s n (rt_up m5 251 (6 + c) (m5 248 40)) := ⟨by rw [g6 _ _ (by omega)]; exact t5.1, fun i hi => by rw [g6 _ _ (by omega)]; exact t5.2 i hi⟩
    generalize rt_up m5 251 (6 + c) (m5 248 40) = m6 at f6 g6 c61 ts6 t6 ⊢
    have s6 := rq_st_fr hs f6 rq_wGr_st
    have e64 : m6 250 4 = (c : Int) := by rw [g6 _ _ (by omega), r5 _ _ (by omega) (by omega) (by omega) (by omega), hd.1.1, hc']
    rw [q_gfr, Option.bind_some, q_a9 (k := 250) _ 4 8 4 (pt_248_10 s6) kd_250 ln_250 rfl (by decide), Option.bind_some, q_s9 (k := 250) _ 4 8 4 (pt_248_10 s6) kd_250 ln_250 rfl (by decide), Option.bind_some, e64, rq_n1 (by omega)]
    have f7 : rq_fr rq_wGr m (rt_up m6 250 4 ((c + 1 : Nat) : Int)) := f6.up rfl
    have g7 : ∀ a j, ¬ (a = 250 ∧ j = 4) → rt_up m6 250 4 ((c + 1 : Nat) : Int) a j = m6 a j := fun a j q => by rw [q_up, if_neg q]
    have c7 : rt_up m6 250 4 ((c + 1 : Nat) : Int) 250 4 = ((c + 1 : Nat) : Int) := rq_upE _ _ _ _
    generalize rt_up m6 250 4 ((c + 1 : Nat) : Int) = m7 at f7 g7 c7 ⊢
    have s7 := rq_st_fr hs f7 rq_wGr_st
    have ts7 : rq_ts s n b5 m7 := rq_ts_fr ts6 (fun j h1 h2 => g7 _ _ (by omega))
    have t7 : rq_ty s n m7 := ⟨by rw [g7 _ _ (by omega)]; exact t6.1, fun i hi => by rw [g7 _ _ (by omega)]; exact t6.2 i hi⟩
    refine rq_call (q_closesX s7 t7 hok o5.2.2.1 ts7) ?_
    rintro ⟨v8, m8⟩ ⟨f8, h8⟩
    dsimp only at f8 h8 ⊢
    have G8 := f7.trans (f8.mono (fun _ _ q => rq_w40_9 (rq_wGr_40 q)))
    have g8 : ∀ a j, 250 ≤ a → m8 a j = m7 a j := fun a j h => f8 a j (rq_w9_r (by omega))
    cases e8 : rq_stp s n b5 with
    | inl q =>
      rw [e8] at h8
      dsimp only at h8
      rw [h8.1, q_bz0, rq_sbd_l]
      exact rq_some.mpr ⟨G8, rfl, h8.2⟩
    | inr b6 =>
      rw [e8] at h8
      dsimp only at h8
      rw [h8.1, q_bz1, rq_sbd_r]
      refine rq_some.mpr ⟨G8, rfl, h8.2, rq_aw_dr hd hc' ?_ ?_ ?_ ?_ ?_ ?_⟩
      · show m8 253 (6 + c) = x
        rw [g8 _ _ (by omega), g7 _ _ (by omega), g6 _ _ (by omega), c53]
      · show m8 254 (6 + c) = y
        rw [g8 _ _ (by omega), g7 _ _ (by omega), g6 _ _ (by omega), c54]
      · show m8 255 (6 + c) = w
        rw [g8 _ _ (by omega), g7 _ _ (by omega), g6 _ _ (by omega), c5']
      · show rq_nm (rq_vl s n (rq_nxp s n b)) (m8 251 (6 + c))
        rw [g8 _ _ (by omega), g7 _ _ (by omega), c61]
        exact nm2
      · show m8 250 4 = (c : Int) + 1
        rw [g8 _ _ (by omega), c7]; omega
      · intro a j h1 h2 h3 h4
        show m8 a j = m a j
        rw [g8 _ _ h1, g7 _ _ h3, g6 _ _ (by omega), r5 _ _ h1 (by omega) (by omega) (by omega)]
end
