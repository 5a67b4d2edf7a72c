/-! Layer 3: a line of a realm, the class reads it -/
def rq_wDx (r k j : Nat) : Bool := rq_wDs r k j || rq_wEl (r + 18) k j || rq_wEl (r + 21) k j
theorem rq_wDx_st {r : Nat} (h : r = 63 ∨ r = 87) : (rq_P.all fun p => !(rq_wDx r p.1 p.2.1)) = true := by
  rcases h with rfl | rfl <;> decide +kernel
theorem rq_wDx_s {r k j : Nat} (h : rq_wDx r k j = false) : rq_wDs r k j = false := by
  unfold rq_wDx at h
  simp only [Bool.or_eq_false_iff] at h
  exact h.1.1
theorem rq_wDx_c {r k j : Nat} (h : rq_wDx r k j = false) : rq_wDc r k j = false := by
  have := rq_wDx_s h
  unfold rq_wDs at this
  simp only [Bool.or_eq_false_iff] at this
  exact this.1
theorem rq_wDx_1 {r k j : Nat} (h : rq_wDx r k j = false) : rq_wEl (r + 18) k j = false := by
  unfold rq_wDx at h
  simp only [Bool.or_eq_false_iff] at h
  exact h.1.2
theorem rq_wDx_2 {r k j : Nat} (h : rq_wDx r k j = false) : rq_wEl (r + 21) k j = false := by
  unfold rq_wDx at h
  simp only [Bool.or_eq_false_iff] at h
  exact h.2
theorem rq_wDx_0 {r k j : Nat} (h : (k < r ∧ k ≠ 47) ∨ r + 23 < k ∨ (k = 47 ∧ j ≠ 1 ∧ j ≠ 2)) (hr : r = 63 ∨ r = 87) : rq_wDx r k j = false := by
  unfold rq_wDx rq_wDs rq_wDc rq_w47 rq_wEl rq_wEc
  simp only [Bool.or_eq_false_iff, Bool.and_eq_false_iff, beq_eq_false_iff_ne, decide_eq_false_iff_not]
  rcases h with h | h | h
  all_goals (rcases hr with hr | hr <;> subst hr)
  all_goals (repeat' apply And.intro)
  all_goals omega
/-- the class's draft -/
def rq_CD (r : Nat) (δ : rq_DR) (m : rt_M) : Prop := rq_C r δ.1 m ∧ m r 9 = δ.2.1 ∧ m (r + 18) 6 = δ.2.2.1 ∧ m (r + 21) 6 = δ.2.2.2 ∧ (m (r + 18) 6 = 0 → m (r + 18) 5 = 0) ∧ (m (r + 21) 6 = 0 → m (r + 21) 5 = 0)
def rq_rlC (s : Nat → Int) (n r : Nat) (m : rt_M) (x : (Int × Nat) ⊕ (rq_DR × Nat)) (p : Int × rt_M) : Prop := rq_fr (rq_wDx r) m p.2 ∧ match x with
  | .inl q => p.1 = 0 ∧ p.2 47 2 = q.1 + 16 * (q.2 : Int)
  | .inr q => p.1 = 1 ∧ rq_pc s n q.2 p.2 ∧ rq_CD r q.1 p.2
section
variable {m m' : rt_M} {s : Nat → Int} {n b r : Nat} {δ : rq_DR} {ρ : rq_R}
theorem rq_CD_k (h : rq_CD r δ m) (k9 : m' r 9 = m r 9) (k : ∀ j, (j = 5 ∨ j = 6) → m' (r + 18) j = m (r + 18) j ∧ m' (r + 21) j = m (r + 21) j) (hC : rq_C r ρ m') : rq_CD r (ρ, δ.2) m' := by
  obtain ⟨-, h1, h2, h3, h4, h5⟩ := h
  have k5 := k 5 (Or.inl rfl)
  have k6 := k 6 (Or.inr rfl)
  exact ⟨hC, by rw [k9]; exact h1, by rw [k6.1]; exact h2, by rw [k6.2]; exact h3, by rw [k6.1, k5.1]; exact h4, by rw [k6.2, k5.2]; exact h5⟩
theorem rq_CD_c (h : rq_CD r δ m) (f : rq_fr (rq_wDc r) m m') (hC : rq_C r ρ m') : rq_CD r (ρ, δ.2) m' := by
  have hr := h.1.2.1
  refine rq_CD_k h (f r 9 ?_) (fun j hj => ⟨f _ j ?_, f _ j ?_⟩) hC
  all_goals (unfold rq_wDc rq_w47)
  all_goals (simp only [Bool.or_eq_false_iff, Bool.and_eq_false_iff, beq_eq_false_iff_ne, decide_eq_false_iff_not])
  all_goals (clear h hC f)
  · rcases hr with hr | hr <;> omega
  · clear hj; rcases hr with hr | hr <;> omega
  · clear hj; rcases hr with hr | hr <;> omega
theorem rq_rl_w {α : Type} {W : Nat → Nat → Bool} (hW : ∀ k j, rq_wDx r k j = false → W k j = false) {x : (Int × Nat) ⊕ (α × Nat)} {g : α → rq_DR} {o : Option (Int × rt_M)} (h : rq o (fun p => rq_fr W m p.2 ∧ (∀ q, x = .inl q → p.1 = 0 ∧ p.2 47 2 = q.1 + 16 * (q.2 : Int)) ∧ ∀ q, x = .inr q → p.1 = 1 ∧ rq_pc s n q.2 p.2 ∧ rq_CD r (g q.1) p.2)) : rq (o.bind fun p => (rt_bz p.1).bind fun _ => some (p.1, p.2)) (rq_rlC s n r m (rq_sbd x (fun q => .inr (g q.1, q.2)))) := by
  refine rq_call h ?_
  rintro ⟨v, m1⟩ ⟨f1, h1, h2⟩
  dsimp only at f1 h1 h2 ⊢
  cases x with
  | inl q =>
    obtain ⟨e1, e2⟩ := h1 q rfl
    rw [e1, q_bz0]
    exact rq_some.mpr ⟨f1.mono hW, rfl, e2⟩
  | inr q =>
    obtain ⟨e1, e2, e3⟩ := h2 q rfl
    rw [e1, q_bz1]
    exact rq_some.mpr ⟨f1.mono hW, rfl, e2, e3⟩
theorem rq_Ll_0 (hr : r = 63 ∨ r = 87) : rq_Ll (r + 18) 0 := Or.inl ⟨by rcases hr with h | h <;> omega, rfl⟩
theorem rq_Ll_1 (hr : r = 63 ∨ r = 87) : rq_Ll (r + 21) 1 := Or.inr ⟨by rcases hr with h | h <;> omega, rfl⟩
theorem q_lwp0 (hr : r = 63 ∨ r = 87) (hs : rq_st m) : m r 10 = ((r + 18 : Nat) : Int) := by
  rcases hr with rfl | rfl
  · rw [pt_63_10 hs]; rfl
  · rw [pt_87_10 hs]; rfl
theorem q_lwp1 (hr : r = 63 ∨ r = 87) (hs : rq_st m) : m r 11 = ((r + 21 : Nat) : Int) := by
  rcases hr with rfl | rfl
  · rw [pt_63_11 hs]; rfl
  · rw [pt_87_11 hs]; rfl
theorem rq_rc_el (h : rq_C r ρ m) {L : Nat} (hL : L = r + 18 ∨ L = r + 21) (f : rq_fr (rq_wEl L) m m') : (∀ a j, (r ≤ a ∧ a < r + 24) → a ≠ L → a ≠ L + 1 → m' a j = m a j) := by
  intro a j h1 h2 h3
  have hr := h.2.1
  refine f a j ?_
  unfold rq_wEl rq_wEc
  simp only [Bool.or_eq_false_iff, Bool.and_eq_false_iff, beq_eq_false_iff_ne]
  clear h f hL
  rcases hr with hr | hr <;> omega
theorem q_realmLine (hC : rq_CD r δ m) (hb : rq_nmb δ.1) (hok : rq_okT s n) (pc : rq_pc s n b m) (hbn : b < n) : rq (f_X3_realmLine ((47 : Nat) : Int) (r : Int) m) (rq_rlC s n r m (rq_rl δ s n b)) := by
  have hn := hok.1
  have hc := hC.1
  have hs := hc.1
  have hr := hc.2.1
  unfold f_X3_realmLine j_X3_realmLine_96 rq_rl
  rw [q_kind hs pc, Option.bind_some]
  by_cases z0 : rq_kd s n b = 0
  · rw [if_pos z0, if_pos z0]
    refine rq_rl_w (W := rq_wDc r) (g := fun t => (rq_aw δ.1 t, δ.2)) (fun k j => rq_wDx_c) (rq_mono (q_wigLine hc hb hok pc hbn) ?_)
    rintro ⟨v, m1⟩ ⟨f1, h1⟩
    refine ⟨f1, fun q e => ?_, fun q e => ?_⟩
    · rw [e] at h1; exact h1
    · rw [e] at h1; exact ⟨h1.1, h1.2.1, rq_CD_c hC f1 h1.2.2⟩
  rw [if_neg z0, if_neg z0]
  by_cases z4 : rq_kd s n b = 4
  · rw [if_pos z4, if_pos z4]
    refine rq_rl_w (W := rq_wDc r) (g := fun t => (rq_ah δ.1 t, δ.2)) (fun k j => rq_wDx_c) (rq_mono (q_headLine hc hb hok pc hbn) ?_)
    rintro ⟨v, m1⟩ ⟨f1, h1⟩
    refine ⟨f1, fun q e => ?_, fun q e => ?_⟩
    · rw [e] at h1; exact h1
    · rw [e] at h1; exact ⟨h1.1, h1.2.1, rq_CD_c hC f1 h1.2.2⟩
  rw [if_neg z4, if_neg z4]
  by_cases z6 : rq_kd s n b = 6
  · rw [if_pos z6, if_pos z6]
    refine rq_rl_w (W := rq_wDc r) (g := fun t => (rq_at3 δ.1 t, δ.2)) (fun k j => rq_wDx_c) (rq_mono (q_heatsLine hc hok pc hbn) ?_)
    rintro ⟨v, m1⟩ ⟨f1, h1⟩
    refine ⟨f1, fun q e => ?_, fun q e => ?_⟩
    · rw [e] at h1; exact h1
    · rw [e] at h1; exact ⟨h1.1, h1.2.1, rq_CD_c hC f1 h1.2.2⟩
  rw [if_neg z6, if_neg z6]
  by_cases z7 : rq_kd s n b = 7
  · rw [if_pos z7, if_pos z7, ← hC.2.1]
    refine rq_rl_w (W := rq_wDs r) (g := fun q => (rq_asl δ.1 q, 1, δ.2.2)) (fun k j => rq_wDx_s) (rq_mono (q_slackLine hc hok pc hbn) ?_)
    rintro ⟨v, m1⟩ ⟨f1, h1⟩
    refine ⟨f1, fun q e => ?_, fun q e => ?_⟩
    · rw [e] at h1; exact h1
    · rw [e] at h1
      have kk : ∀ j, (j = 5 ∨ j = 6) → m1 (r + 18) j = m (r + 18) j ∧ m1 (r + 21) j = m (r + 21) j := fun j hj => by
        refine ⟨f1 _ j ?_, f1 _ j ?_⟩
        all_goals (unfold rq_wDs rq_wDc rq_w47)
        all_goals (simp only [Bool.or_eq_false_iff, Bool.and_eq_false_iff, beq_eq_false_iff_ne, decide_eq_false_iff_not])
        all_goals (clear hC hc h1 hj)
        all_goals (rcases hr with hr | hr <;> omega)
      obtain ⟨-, g1, g2, g3, g4, g5⟩ := hC
      have k5 := kk 5 (Or.inl rfl)
      have k6 := kk 6 (Or.inr rfl)
      exact ⟨h1.1, h1.2.1, h1.2.2.1, h1.2.2.2, by dsimp only; rw [k6.1]; exact g2, by dsimp only; rw [k6.2]; exact g3, by dsimp only; rw [k6.1, k5.1]; exact g4, by dsimp only; rw [k6.2, k5.2]; exact g5⟩
  rw [if_neg z7, if_neg z7]
  by_cases z8 : rq_kd s n b = 8
  · rw [if_pos z8, if_pos z8, q_gf4r hr, Option.bind_some, q_lwp0 hr hs, ← hC.2.2.1]
    refine rq_rl_w (W := rq_wEl (r + 18)) (g := fun q : rq_ET => ((δ.1.1, q.2.2, δ.1.2.2), δ.2.1, 1, δ.2.2.2)) (fun k j => rq_wDx_1) (rq_mono (q_lawLine (rq_Ll_0 hr) hs hok pc hbn hC.2.2.2.2.1) ?_)
    rintro ⟨v, m1⟩ ⟨f1, h1⟩
    refine ⟨f1, fun q e => ?_, fun q e => ?_⟩
    · rw [e] at h1; exact h1
    · rw [e] at h1
      have f1' : rq_fr (rq_wEl (r + 18)) m m1 := f1
      have kk := rq_rc_el hc (Or.inl rfl) f1'
      have lv := rq_lawp_v (s := s) (line := 0) (by decide) hok hbn
      have e2 : rq_lawp s n 0 b = .inr q := by
        by_cases z : m (r + 18) 6 = 0
        · rw [if_pos z] at e; exact e
        · rw [if_neg z] at e; cases e
      rw [e2] at lv
      obtain ⟨-, -, v1, v2, v3, v4, v5⟩ := lv
      obtain ⟨h1a, h1b, h1c, h1d⟩ := h1
      dsimp only at h1a h1b h1c h1d
      obtain ⟨-, g1, g2, g3, g4, g5⟩ := hC
      obtain ⟨-, -, hv, ⟨y1, y2, y3, y4⟩, x1, x2, x3, x4, x5⟩ := hc
      refine ⟨h1a, h1b, ⟨rq_st_fr hs f1 (rq_wEl_st (rq_Ll_0 hr)), hr, hv, ?_⟩, ?_, h1d, ?_, fun w => ?_, ?_⟩
      · have v0 := hv.1
        refine ⟨?_, fun w hw => ?_, fun w hw => ?_, fun i hi => ?_, Or.inr ⟨h1d, q.1.1, h1c.1, v3, h1c.2, v1⟩, rq_lw_fr x5 (fun j => kk _ j (by omega) (by omega) (by omega)) (fun j => kk _ j (by omega) (by omega) (by omega))⟩
        · dsimp only
          rw [kk r 0 (by omega) (by omega) (by omega), kk r 1 (by omega) (by omega) (by omega), kk r 8 (by omega) (by omega) (by omega), kk r 7 (by omega) (by omega) (by omega)]
          exact ⟨y1, y2, y3, y4⟩
        · dsimp only at hw ⊢
          rw [kk (r + 4 + w) 0 (by omega) (by omega) (by omega), kk (r + 4 + w) 1 (by omega) (by omega) (by omega), kk (r + 4 + w) 2 (by omega) (by omega) (by omega), kk (r + 1) w (by omega) (by omega) (by omega)]
          exact x1 w hw
        · dsimp only at hw ⊢
          rw [kk (r + 11 + w) 0 (by omega) (by omega) (by omega), kk (r + 11 + w) 1 (by omega) (by omega) (by omega), kk (r + 11 + w) 2 (by omega) (by omega) (by omega), kk (r + 11 + w) 3 (by omega) (by omega) (by omega), kk (r + 2) w (by omega) (by omega) (by omega)]
          exact x2 w hw
        · dsimp only at hi ⊢
          rw [kk (r + 17) i (by omega) (by omega) (by omega)]
          exact x3 i hi
      · dsimp only
        rw [kk r 9 (by omega) (by omega) (by omega)]; exact g1
      · dsimp only
        rw [kk (r + 21) 6 (by omega) (by omega) (by omega)]; exact g3
      · dsimp only at w; omega
      · dsimp only
        rw [kk (r + 21) 6 (by omega) (by omega) (by omega), kk (r + 21) 5 (by omega) (by omega) (by omega)]; exact g5
  rw [if_neg z8, if_neg z8]
  by_cases z9 : rq_kd s n b = 9
  · rw [if_pos z9, if_pos z9, q_gf4r hr, Option.bind_some, q_lwp1 hr hs, ← hC.2.2.2.1]
    refine rq_rl_w (W := rq_wEl (r + 21)) (g := fun q : rq_ET => ((δ.1.1, δ.1.2.1, q.2.2), δ.2.1, δ.2.2.1, 1)) (fun k j => rq_wDx_2) (rq_mono (q_lawLine (rq_Ll_1 hr) hs hok pc hbn hC.2.2.2.2.2) ?_)
    rintro ⟨v, m1⟩ ⟨f1, h1⟩
    refine ⟨f1, fun q e => ?_, fun q e => ?_⟩
    · rw [e] at h1; exact h1
    · rw [e] at h1
      have f1' : rq_fr (rq_wEl (r + 21)) m m1 := f1
      have kk := rq_rc_el hc (Or.inr rfl) f1'
      have lv := rq_lawp_v (s := s) (line := 1) (by decide) hok hbn
      have e2 : rq_lawp s n 1 b = .inr q := by
        by_cases z : m (r + 21) 6 = 0
        · rw [if_pos z] at e; exact e
        · rw [if_neg z] at e; cases e
      rw [e2] at lv
      obtain ⟨-, -, v1, v2, v3, v4, v5⟩ := lv
      obtain ⟨h1a, h1b, h1c, h1d⟩ := h1
      dsimp only at h1a h1b h1c h1d
      obtain ⟨-, g1, g2, g3, g4, g5⟩ := hC
      obtain ⟨-, -, hv, ⟨y1, y2, y3, y4⟩, x1, x2, x3, x4, x5⟩ := hc
      refine ⟨h1a, h1b, ⟨rq_st_fr hs f1 (rq_wEl_st (rq_Ll_1 hr)), hr, hv, ?_⟩, ?_, ?_, h1d, ?_, fun w => ?_⟩
      · have v0 := hv.1
        refine ⟨?_, fun w hw => ?_, fun w hw => ?_, fun i hi => ?_, rq_lw_fr x4 (fun j => kk _ j (by omega) (by omega) (by omega)) (fun j => kk _ j (by omega) (by omega) (by omega)), Or.inr ⟨h1d, q.1.1, h1c.1, v3, h1c.2, v1⟩⟩
        · dsimp only
          rw [kk r 0 (by omega) (by omega) (by omega), kk r 1 (by omega) (by omega) (by omega), kk r 8 (by omega) (by omega) (by omega), kk r 7 (by omega) (by omega) (by omega)]
          exact ⟨y1, y2, y3, y4⟩
        · dsimp only at hw ⊢
          rw [kk (r + 4 + w) 0 (by omega) (by omega) (by omega), kk (r + 4 + w) 1 (by omega) (by omega) (by omega), kk (r + 4 + w) 2 (by omega) (by omega) (by omega), kk (r + 1) w (by omega) (by omega) (by omega)]
          exact x1 w hw
        · dsimp only at hw ⊢
          rw [kk (r + 11 + w) 0 (by omega) (by omega) (by omega), kk (r + 11 + w) 1 (by omega) (by omega) (by omega), kk (r + 11 + w) 2 (by omega) (by omega) (by omega), kk (r + 11 + w) 3 (by omega) (by omega) (by omega), kk (r + 2) w (by omega) (by omega) (by omega)]
          exact x2 w hw
        · dsimp only at hi ⊢
          rw [kk (r + 17) i (by omega) (by omega) (by omega)]
          exact x3 i hi
      · dsimp only
        rw [kk r 9 (by omega) (by omega) (by omega)]; exact g1
      · dsimp only
        rw [kk (r + 18) 6 (by omega) (by omega) (by omega)]; exact g2
      · dsimp only
        rw [kk (r + 18) 6 (by omega) (by omega) (by omega), kk (r + 18) 5 (by omega) (by omega) (by omega)]; exact g4
      · dsimp only at w; omega
  rw [if_neg z9, if_neg z9, q_fail hs pc hn (by decide) (by decide), Option.bind_some, q_bz0]
  exact rq_some.mpr ⟨rq_fr.rfl.up rfl, rfl, rq_upE m 47 2 _⟩
end
