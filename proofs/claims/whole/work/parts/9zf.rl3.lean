/-! Layer 3: a realm told, the class reads it -/
section
variable {m m' : rt_M} {s : Nat → Int} {n b r : Nat} {δ : rq_DR} {ρ : rq_R}
theorem rq_aw_nmb (hv : rq_va ρ) (h : rq_nmb ρ) {t : rq_WT} (ht : 0 ≤ t.2.2.2 ∧ t.2.2.2 < 72057594037927936) : rq_nmb (rq_aw ρ t) := by
  have v0 := hv.1
  have e0 : (rq_aw ρ t).1 0 0 = ρ.1 0 0 + 1 := rfl
  have e1 : (rq_aw ρ t).1 0 1 = ρ.1 0 1 := rfl
  have e10 : ∀ i, (rq_aw ρ t).1 10 i = ρ.1 10 i := fun i => by simp [rq_aw]
  have e9 : ∀ i, (rq_aw ρ t).1 9 i = if i = (ρ.1 0 0).toNat then t.2.2.2 else ρ.1 9 i := fun i => by simp [rq_aw]
  refine ⟨fun i hi => ?_, fun i hi => ?_⟩
  · rw [e0] at hi
    rw [e9]
    by_cases z : i = (ρ.1 0 0).toNat
    · rw [if_pos z]; exact ht
    · rw [if_neg z]; exact h.1 i (by omega)
  · rw [e1] at hi
    rw [e10]
    exact h.2 i hi
theorem rq_ah_nmb (hv : rq_va ρ) (h : rq_nmb ρ) {t : rq_HT} (ht : 0 ≤ t.2.2.2.2 ∧ t.2.2.2.2 < 72057594037927936) : rq_nmb (rq_ah ρ t) := by
  have v0 := hv.1
  have e0 : (rq_ah ρ t).1 0 0 = ρ.1 0 0 := rfl
  have e1 : (rq_ah ρ t).1 0 1 = ρ.1 0 1 + 1 := rfl
  have e9 : ∀ i, (rq_ah ρ t).1 9 i = ρ.1 9 i := fun i => by simp [rq_ah]
  have e10 : ∀ i, (rq_ah ρ t).1 10 i = if i = (ρ.1 0 1).toNat then t.2.2.2.2 else ρ.1 10 i := fun i => by simp [rq_ah]
  refine ⟨fun i hi => ?_, fun i hi => ?_⟩
  · rw [e0] at hi
    rw [e9]
    exact h.1 i hi
  · rw [e1] at hi
    rw [e10]
    by_cases z : i = (ρ.1 0 1).toNat
    · rw [if_pos z]; exact ht
    · rw [if_neg z]; exact h.2 i (by omega)
theorem rq_at3_nmb (h : rq_nmb ρ) {t : Nat × (Nat → Int)} : rq_nmb (rq_at3 ρ t) := by
  refine ⟨fun i hi => ?_, fun i hi => ?_⟩
  · rw [rq_at3_n t 9 i (by decide) (by decide)]; exact h.1 i hi
  · rw [rq_at3_n t 10 i (by decide) (by decide)]; exact h.2 i hi
theorem rq_asl_nmb (h : rq_nmb ρ) {v : Int} : rq_nmb (rq_asl ρ v) := by
  refine ⟨fun i hi => ?_, fun i hi => ?_⟩
  · rw [rq_asl_n v 9 i (by decide)]; exact h.1 i hi
  · rw [rq_asl_n v 10 i (by decide)]; exact h.2 i hi
/-- what a line leaves -/
theorem rq_rl_o (hok : rq_okT s n) (hb : b < n) (hv : rq_va δ.1) (hm : rq_nmb δ.1) : rq_ox (fun q : rq_DR × Nat => rq_bp s n q.2 ∧ b < q.2 ∧ rq_va q.1.1 ∧ rq_nmb q.1.1) (rq_rl δ s n b) := by
  unfold rq_rl
  by_cases z0 : rq_kd s n b = 0
  · rw [if_pos z0]
    refine rq_ox_bd (rq_wgl_o hok hb) ?_
    rintro ⟨t, b'⟩ ⟨h1, h2, h3, h4, h5, h6, h7⟩
    exact ⟨h1, h2, rq_aw_va hv h3 h4 h5 h6, rq_aw_nmb hv hm h7⟩
  rw [if_neg z0]
  by_cases z4 : rq_kd s n b = 4
  · rw [if_pos z4]
    refine rq_ox_bd (rq_hdl_o hok hb) ?_
    rintro ⟨t, b'⟩ ⟨h1, h2, h3, h4, h5, h6, h7, h8⟩
    exact ⟨h1, h2, rq_ah_va hv h3 h4 h5 h6 h7, rq_ah_nmb hv hm h8⟩
  rw [if_neg z4]
  by_cases z6 : rq_kd s n b = 6
  · rw [if_pos z6]
    refine rq_ox_bd (rq_htl_o hok hb) ?_
    rintro ⟨t, b'⟩ ⟨h1, h2, h3, h4, h5⟩
    exact ⟨h1, h2, rq_at3_va hv h4 h5, rq_at3_nmb hm⟩
  rw [if_neg z6]
  by_cases z7 : rq_kd s n b = 7
  · rw [if_pos z7]
    refine rq_ox_bd (rq_skl_o hb) ?_
    rintro ⟨t, b'⟩ ⟨h1, h2, h3⟩
    exact ⟨h1, h2, rq_asl_va hv h3, rq_asl_nmb hm⟩
  rw [if_neg z7]
  by_cases z8 : rq_kd s n b = 8
  · rw [if_pos z8]
    by_cases z : δ.2.2.1 = 0
    · rw [if_pos z]
      refine rq_ox_bd (rq_lawp_v (line := 0) (by decide) hok hb) ?_
      rintro ⟨t, b'⟩ ⟨h1, h2, h3⟩
      exact ⟨h1, h2, hv, hm⟩
    · rw [if_neg z]; exact rq_ox_l (by decide)
  rw [if_neg z8]
  by_cases z9 : rq_kd s n b = 9
  · rw [if_pos z9]
    by_cases z : δ.2.2.2 = 0
    · rw [if_pos z]
      refine rq_ox_bd (rq_lawp_v (line := 1) (by decide) hok hb) ?_
      rintro ⟨t, b'⟩ ⟨h1, h2, h3⟩
      exact ⟨h1, h2, hv, hm⟩
    · rw [if_neg z]; exact rq_ox_l (by decide)
  rw [if_neg z9]
  exact rq_ox_l (by decide)
/-- nothing is told yet -/
def rq_ρ0 : rq_R := (fun a i => if a = 0 ∧ i = 2 then 1 else 0, rq_dsw, rq_dju)
def rq_δ0 : rq_DR := (rq_ρ0, 0, 0, 0)
theorem rq_ρ0_e : rq_ρ0.1 0 0 = 0 ∧ rq_ρ0.1 0 1 = 0 ∧ rq_ρ0.1 0 2 = 1 ∧ rq_ρ0.1 0 3 = 0 := ⟨rfl, rfl, rfl, rfl⟩
theorem rq_ρ0_va : rq_va rq_ρ0 := by
  obtain ⟨e0, e1, e2, e3⟩ := rq_ρ0_e
  refine ⟨by rw [e0, e1, e2, e3]; decide, fun w hw => ?_, fun w hw => ?_, fun w hw => ?_⟩
  · rw [e0] at hw; omega
  · rw [e1] at hw; omega
  · rw [e3] at hw; omega
theorem rq_ρ0_nmb : rq_nmb rq_ρ0 := by
  obtain ⟨e0, e1, -, -⟩ := rq_ρ0_e
  refine ⟨fun w hw => ?_, fun w hw => ?_⟩
  · rw [e0] at hw; omega
  · rw [e1] at hw; omega
theorem rq_rp_v (hok : rq_okT s n) : ∀ f b δ, rq_bp s n b → rq_va δ.1 → rq_nmb δ.1 → rq_va (rq_rp s n f b δ).2.1 ∧ rq_nmb (rq_rp s n f b δ).2.1 := by
  intro f
  induction f with
  | zero => intro b δ _ h1 h2; exact ⟨h1, h2⟩
  | succ f ih =>
    intro b δ hb h1 h2
    rw [rq_rp_s]
    by_cases z : rq_kd s n b = 37
    · rw [if_pos z]; exact ⟨h1, h2⟩
    · rw [if_neg z]
      have o := rq_rl_o (b := b) hok (rq_kd_lt z) h1 h2
      cases e : rq_rl δ s n b with
      | inl q => exact ⟨h1, h2⟩
      | inr q =>
        rw [e] at o
        obtain ⟨o1, o2, o3, o4⟩ := o
        exact ih _ _ o1 o3 o4
def rq_wDz (r k j : Nat) : Bool := (k == r && (j == 0 || j == 1 || j == 7 || j == 8 || j == 9)) || (k == r + 18 && (j == 5 || j == 6)) || (k == r + 21 && (j == 5 || j == 6))
theorem rq_wDz_st {r : Nat} (h : r = 63 ∨ r = 87) : (rq_P.all fun p => !(rq_wDz r p.1 p.2.1)) = true := by
  rcases h with rfl | rfl <;> decide +kernel
theorem rq_wDz_x {r k j : Nat} (h : rq_wDx r k j = false) : rq_wDz r k j = false := by
  unfold rq_wDx rq_wDs rq_wDc rq_wEl rq_wEc at h
  unfold rq_wDz
  simp only [Bool.or_eq_false_iff, Bool.and_eq_false_iff, beq_eq_false_iff_ne, decide_eq_false_iff_not] at h ⊢
  omega
theorem q_clear4 (hs : rq_st m) (hr : r = 63 ∨ r = 87) : rq (f_X4_clear (r : Int) m) (fun m' => rq_CD r rq_δ0 m' ∧ rq_fr (rq_wDz r) m m') := by
  obtain ⟨e0, e1, e2, e3⟩ := rq_ρ0_e
  have l0 := rq_Ll_0 hr
  have l1 := rq_Ll_1 hr
  have w0 : ∀ j, (j = 0 ∨ j = 1 ∨ j = 7 ∨ j = 8 ∨ j = 9) → rq_wDz r r j = true := fun j hj => by
    unfold rq_wDz
    rcases hj with h | h | h | h | h <;> subst h <;> simp
  have wl : ∀ j, (j = 5 ∨ j = 6) → rq_wDz r (r + 18) j = true ∧ rq_wDz r (r + 21) j = true := fun j hj => by
    unfold rq_wDz
    rcases hj with h | h <;> subst h <;> simp
  unfold f_X4_clear f_X2_clear
  rw [q_pf4r hr, Option.bind_some, q_pf4r hr, Option.bind_some, q_pf4r hr, Option.bind_some, q_pf4r hr, Option.bind_some, q_pf4r hr, Option.bind_some]
  have F1 : rq_fr (rq_wDz r) m (rt_up (rt_up (rt_up (rt_up (rt_up m r 0 0) r 1 0) r 7 0) r 8 1) r 9 0) := ((((rq_fr.rfl.up (w0 0 (by decide))).up (w0 1 (by decide))).up (w0 7 (by decide))).up (w0 8 (by decide))).up (w0 9 (by decide))
  have g0 : rt_up (rt_up (rt_up (rt_up (rt_up m r 0 0) r 1 0) r 7 0) r 8 1) r 9 0 r 0 = 0 := by simp only [q_up]; simp
  have g1 : rt_up (rt_up (rt_up (rt_up (rt_up m r 0 0) r 1 0) r 7 0) r 8 1) r 9 0 r 1 = 0 := by simp only [q_up]; simp
  have g7 : rt_up (rt_up (rt_up (rt_up (rt_up m r 0 0) r 1 0) r 7 0) r 8 1) r 9 0 r 7 = 0 := by simp only [q_up]; simp
  have g8 : rt_up (rt_up (rt_up (rt_up (rt_up m r 0 0) r 1 0) r 7 0) r 8 1) r 9 0 r 8 = 1 := by simp only [q_up]; simp
  have g9 : rt_up (rt_up (rt_up (rt_up (rt_up m r 0 0) r 1 0) r 7 0) r 8 1) r 9 0 r 9 = 0 := by simp only [q_up]; simp
  generalize rt_up (rt_up (rt_up (rt_up (rt_up m r 0 0) r 1 0) r 7 0) r 8 1) r 9 0 = m1 at F1 g0 g1 g7 g8 g9 ⊢
  have s1 := rq_st_fr hs F1 (rq_wDz_st hr)
  rw [q_gf4r hr, Option.bind_some, q_lwp0 hr s1, q_gd2 l0, q_pf2 l0, Option.bind_some, q_pf2 l0, Option.bind_some, Option.bind_some]
  have F2 : rq_fr (rq_wDz r) m (rt_up (rt_up m1 (r + 18) 5 0) (r + 18) 6 0) := (F1.up (wl 5 (by decide)).1).up (wl 6 (by decide)).1
  have h5 : rt_up (rt_up m1 (r + 18) 5 0) (r + 18) 6 0 (r + 18) 5 = 0 := by simp only [q_up]; simp
  have h6 : rt_up (rt_up m1 (r + 18) 5 0) (r + 18) 6 0 (r + 18) 6 = 0 := rq_upE _ _ _ _
  have hk : ∀ a j, a ≠ r + 18 → rt_up (rt_up m1 (r + 18) 5 0) (r + 18) 6 0 a j = m1 a j := fun a j q => by rw [q_up, if_neg (fun z => q z.1), q_up, if_neg (fun z => q z.1)]
  generalize rt_up (rt_up m1 (r + 18) 5 0) (r + 18) 6 0 = m2 at F2 h5 h6 hk ⊢
  have s2 := rq_st_fr hs F2 (rq_wDz_st hr)
  rw [q_gf4r hr, Option.bind_some, q_lwp1 hr s2, q_gd2 l1, q_pf2 l1, Option.bind_some, q_pf2 l1, Option.bind_some, Option.bind_some]
  have F3 : rq_fr (rq_wDz r) m (rt_up (rt_up m2 (r + 21) 5 0) (r + 21) 6 0) := (F2.up (wl 5 (by decide)).2).up (wl 6 (by decide)).2
  have i5 : rt_up (rt_up m2 (r + 21) 5 0) (r + 21) 6 0 (r + 21) 5 = 0 := by simp only [q_up]; simp
  have i6 : rt_up (rt_up m2 (r + 21) 5 0) (r + 21) 6 0 (r + 21) 6 = 0 := rq_upE _ _ _ _
  have ik : ∀ a j, a ≠ r + 21 → rt_up (rt_up m2 (r + 21) 5 0) (r + 21) 6 0 a j = m2 a j := fun a j q => by rw [q_up, if_neg (fun z => q z.1), q_up, if_neg (fun z => q z.1)]
  generalize rt_up (rt_up m2 (r + 21) 5 0) (r + 21) 6 0 = m3 at F3 i5 i6 ik ⊢
  have s3 := rq_st_fr hs F3 (rq_wDz_st hr)
  have kk : ∀ j, m3 r j = m1 r j := fun j => by rw [ik r j (by omega), hk r j (by omega)]
  have k5 : m3 (r + 18) 5 = 0 := by rw [ik _ 5 (by omega), h5]
  have k6 : m3 (r + 18) 6 = 0 := by rw [ik _ 6 (by omega), h6]
  refine rq_some.mpr ⟨⟨⟨s3, hr, rq_ρ0_va, ⟨by show m3 r 0 = rq_ρ0.1 0 0; rw [kk, g0, e0], by show m3 r 1 = rq_ρ0.1 0 1; rw [kk, g1, e1], by show m3 r 8 = rq_ρ0.1 0 2; rw [kk, g8, e2], by show m3 r 7 = rq_ρ0.1 0 3; rw [kk, g7, e3]⟩, fun w hw => ?_, fun w hw => ?_, fun w hw => ?_, Or.inl ⟨k6, fun _ _ _ => rfl⟩, Or.inl ⟨i6, fun _ _ _ => rfl⟩⟩, by show m3 r 9 = 0; rw [kk, g9], k6, i6, fun _ => k5, fun _ => i5⟩, F3⟩
  · have hw' : (w : Int) < rq_ρ0.1 0 0 := hw
    rw [e0] at hw'; omega
  · have hw' : (w : Int) < rq_ρ0.1 0 1 := hw
    rw [e1] at hw'; omega
  · have hw' : (w : Int) < rq_ρ0.1 0 3 := hw
    rw [e3] at hw'; omega
def rq_wRk (r k j : Nat) : Bool := rq_wTk k j || rq_wDx r k j
theorem rq_wRk_st {r : Nat} (h : r = 63 ∨ r = 87) : (rq_P.all fun p => !(rq_wRk r p.1 p.2.1)) = true := by
  rcases h with rfl | rfl <;> decide +kernel
theorem rq_wRk_x {r k j : Nat} (h : rq_wRk r k j = false) : rq_wDx r k j = false := by
  unfold rq_wRk at h
  simp only [Bool.or_eq_false_iff] at h
  exact h.2
/-- the whole text -/
def rq_rpA (s : Nat → Int) (n : Nat) : Int × rq_DR := rq_rp s n 1000 (rq_sk' s n 0) rq_δ0
theorem q_readRealm (hs : rq_st m) (hr : r = 63 ∨ r = 87) (ht : rq_tx s n m) (hok : rq_okT s n) : rq (f_X3_readRealm ((47 : Nat) : Int) (r : Int) m) (fun p => p.1 = (rq_rpA s n).1 ∧ (p.1 = 0 → rq_CD r (rq_rpA s n).2 p.2) ∧ rq_fr (rq_wRk r) m p.2) := by
  have gd4 : ∀ {α : Type} (o : Option α), rt_gd 4 (r : Int) o = o := fun o => by rcases hr with rfl | rfl <;> rfl
  unfold f_X3_readRealm
  refine rq_call (q_start hs ht hok) ?_
  rintro m1 ⟨p1, f1⟩
  rw [gd4]
  have f1' : rq_fr (rq_wRk r) m m1 := f1.mono (fun k j q => by
    unfold rq_wRk at q
    simp only [Bool.or_eq_false_iff] at q ⊢
    have q2 := rq_wDc_47 (rq_wDx_c q.2)
    unfold rq_w47 at q2
    refine ⟨q.1, ?_⟩
    simpa using q2)
  have s1 := rq_st_fr hs f1' (rq_wRk_st hr)
  refine rq_call (q_clear4 s1 hr) ?_
  rintro m2 ⟨c2, f2⟩
  have f2' : rq_fr (rq_wRk r) m m2 := f1'.trans (f2.mono (fun k j q => rq_wDz_x (rq_wRk_x q)))
  have p2 : rq_pc s n (rq_sk' s n 0) m2 := rq_pc_fr p1 (fun a j q => f2 a j (by
    unfold rq_wDz
    simp only [Bool.or_eq_false_iff, Bool.and_eq_false_iff, beq_eq_false_iff_ne]
    clear c2 p1
    rcases hr with hr | hr <;> omega))
  clear f1 f1' f2 s1 p1
  refine rq_call (rq_up (Q := fun e => match e with
      | .inl x => (rq_rpA s n).1 = 0 ∧ rq_CD r (rq_rpA s n).2 x ∧ rq_fr (rq_wRk r) m x
      | .inr q => q.1 = (rq_rpA s n).1 ∧ q.1 ≠ 0 ∧ rq_fr (rq_wRk r) m q.2) (fun i x => x.1 = (i : Int) ∧ (∃ b δ, i ≤ b ∧ i ≤ 1000 ∧ rq_va δ.1 ∧ rq_nmb δ.1 ∧ rq_bp s n b ∧ rq_pc s n b x.2 ∧ rq_CD r δ x.2 ∧ rq_rp s n (1000 - i) b δ = rq_rpA s n) ∧ rq_fr (rq_wRk r) m x.2) 1000 (by decide) ?_ ?_ ?_) ?_
  · rintro i ⟨x, mm⟩ hi ⟨e1, ⟨b, δ, ib, i1, va, nm, bp, pc, cd, er⟩, hf⟩
    dsimp only at e1 pc cd hf
    subst e1
    rw [show 1000 - i = (999 - i) + 1 by omega, rq_rp_s] at er
    unfold b_X3_readRealm_10
    dsimp only
    rw [if_neg (by omega), q_kind cd.1.1 pc, Option.bind_some]
    by_cases z : rq_kd s n b = 37
    · rw [if_pos z] at er
      rw [if_pos z]
      refine rq_some.mpr (rq_inr ?_)
      dsimp only
      rw [← er]
      exact ⟨rfl, cd, hf⟩
    · rw [if_neg z] at er
      rw [if_neg z]
      have hb := rq_kd_lt z
      have o := rq_rl_o hok hb va nm
      refine rq_call (q_realmLine cd nm hok pc hb) ?_
      rintro ⟨v, m3⟩ ⟨f3, h3⟩
      dsimp only at f3 h3 ⊢
      have f3' : rq_fr (rq_wRk r) m m3 := hf.trans (f3.mono (fun _ _ => rq_wRk_x))
      cases e : rq_rl δ s n b with
      | inl q =>
        rw [e] at er o h3
        dsimp only at er h3
        obtain ⟨o1, o2⟩ := o
        rw [if_pos h3.1, q_g3, Option.bind_some]
        refine rq_map.mpr (rq_some.mpr (rq_inr ?_))
        dsimp only
        rw [← er, h3.2]
        exact ⟨rfl, by omega, f3'⟩
      | inr q =>
        rw [e] at er o h3
        dsimp only at er h3
        obtain ⟨o1, o2, o3, o4⟩ := o
        obtain ⟨h31, h32, h33⟩ := h3
        rw [h31, if_neg (by decide), rq_n1 (by omega)]
        refine rq_some.mpr (rq_inl ⟨rfl, ⟨q.2, q.1, by omega, by omega, o3, o4, o1, h32, h33, ?_⟩, f3'⟩)
        rw [show 1000 - (i + 1) = 999 - i by omega]
        exact er
  · rintro ⟨x, mm⟩ ⟨e1, ⟨b, δ, ib, i1, va, nm, bp, pc, cd, er⟩, hf⟩
    dsimp only at e1 pc cd hf
    subst e1
    unfold b_X3_readRealm_10
    dsimp only
    rw [if_pos (by decide)]
    refine rq_some.mpr (rq_inre ?_)
    dsimp only
    have er' : ((0 : Int), δ) = rq_rpA s n := er
    rw [← er']
    exact ⟨rfl, cd, hf⟩
  · exact ⟨rfl, ⟨_, rq_δ0, Nat.zero_le _, by decide, rq_ρ0_va, rq_ρ0_nmb, rq_bp_sk (Nat.zero_le n), p2, c2, rfl⟩, f2'⟩
  · rintro (e | t) q
    · exact rq_some.mpr ⟨q.1.symm, fun _ => q.2.1, q.2.2⟩
    · exact rq_some.mpr ⟨q.1, fun w => absurd w q.2.1, q.2.2⟩
end
