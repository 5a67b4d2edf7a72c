/-! Layer 3: a realm told, the reference reads it -/
def rq_dl (line K : Nat) (D F : Int → Int → Int → Int) (t : Int) (m : rt_M) : Prop := (t = 0 ∧ (m 261 (2 + line) = 1000 ∧ m 262 (2 + line) = 1000) ∧ ∀ a b c, F a b c = D a b c) ∨ (t = 1 ∧ m 261 (2 + line) < m 262 (2 + line) ∧ ∃ (k : Nat) (cs : List Int), m 261 (2 + line) = ((1000 + k : Nat) : Int) ∧ m 262 (2 + line) = ((1000 + k + cs.length : Nat) : Int) ∧ k + cs.length ≤ K ∧ (∀ i (h : i < cs.length), m 263 (1000 + k + i) = cs[i]) ∧ rq_rv line cs F)
/-- the reference's draft at place b -/
def rq_RD (b : Nat) (δ : rq_DR) (m : rt_M) : Prop := rq_st m ∧ rq_va δ.1 ∧ rq_dr δ.1 m ∧ m 248 26 = δ.2.1 ∧ ∃ K : Nat, K ≤ b ∧ m 248 24 = ((1000 + K : Nat) : Int) ∧ rq_dl 0 K rq_dsw δ.1.2.1 δ.2.2.1 m ∧ rq_dl 1 K rq_dju δ.1.2.2 δ.2.2.2 m
def rq_wRA (k j : Nat) : Bool := rq_wGs k j || rq_wRl 0 k j || rq_wRl 1 k j
theorem rq_wRA_st : (rq_P.all fun p => !(rq_wRA p.1 p.2.1)) = true := by decide +kernel
theorem rq_wRA_s {k j : Nat} (h : rq_wRA k j = false) : rq_wGs k j = false := by
  unfold rq_wRA at h
  simp only [Bool.or_eq_false_iff] at h
  exact h.1.1
theorem rq_wRA_0 {k j : Nat} (h : rq_wRA k j = false) : rq_wRl 0 k j = false := by
  unfold rq_wRA at h
  simp only [Bool.or_eq_false_iff] at h
  exact h.1.2
theorem rq_wRA_1 {k j : Nat} (h : rq_wRA k j = false) : rq_wRl 1 k j = false := by
  unfold rq_wRA at h
  simp only [Bool.or_eq_false_iff] at h
  exact h.2
def rq_bR (s : Nat → Int) (n : Nat) (m : rt_M) (x : (Int × Nat) ⊕ (rq_DR × Nat)) (t : rt_M ⊕ (rt_M ⊕ (Int × rt_M))) : Prop := match x with
  | .inl q => ∃ m', t = .inr (.inr (0, m')) ∧ m' 248 9 = q.1 + 16 * (q.2 : Int) ∧ rq_fr rq_wRA m m'
  | .inr q => ∃ m', t = .inl m' ∧ rq_ts s n q.2 m' ∧ rq_RD q.2 q.1 m' ∧ rq_fr rq_wRA m m'
section
variable {m m' : rt_M} {s : Nat → Int} {n b b' : Nat} {δ : rq_DR} {ρ : rq_R}
theorem rq_dl_if {line K : Nat} {D F : Int → Int → Int → Int} {t : Int} (h : rq_dl line K D F t m) : m 262 (2 + line) ≤ m 261 (2 + line) ↔ t = 0 := by
  rcases h with ⟨h1, h2, -⟩ | ⟨h1, h2, -⟩
  · exact ⟨fun _ => h1, fun _ => by omega⟩
  · exact ⟨fun q => by omega, fun q => by omega⟩
theorem rq_dl_fr {line K K' : Nat} {D F : Int → Int → Int → Int} {t : Int} (h : rq_dl line K D F t m) (hK : K ≤ K') (k1 : m' 261 (2 + line) = m 261 (2 + line)) (k2 : m' 262 (2 + line) = m 262 (2 + line)) (k3 : ∀ i, i < 1000 + K → m' 263 i = m 263 i) : rq_dl line K' D F t m' := by
  rcases h with ⟨h1, h2, h3⟩ | ⟨h1, h2, k, cs, h3, h4, h5, h6, h7⟩
  · exact Or.inl ⟨h1, by rw [k1, k2]; exact h2, h3⟩
  · exact Or.inr ⟨h1, by rw [k1, k2]; exact h2, k, cs, by rw [k1]; exact h3, by rw [k2]; exact h4, by omega, fun i hi => by rw [k3 _ (by omega)]; exact h6 i hi, h7⟩
theorem rq_wGr_x {k j : Nat} (h : (k = 248 ∧ (j = 24 ∨ j = 25 ∨ j = 26)) ∨ 261 ≤ k) : rq_wGr k j = false := by
  unfold rq_wGr rq_w40 rq_w9 rq_wN2
  simp only [Bool.or_eq_false_iff, Bool.and_eq_false_iff, beq_eq_false_iff_ne, decide_eq_false_iff_not]
  omega
theorem rq_RD_c (h : rq_RD b δ m) (f : rq_fr rq_wGr m m') (hv : rq_va ρ) (hd : rq_dr ρ m') (hb : b ≤ b') (e : ρ.2 = δ.1.2) : rq_RD b' (ρ, δ.2) m' := by
  obtain ⟨hs, -, -, h26, K, hK, h24, h0, h1⟩ := h
  refine ⟨rq_st_fr hs f rq_wGr_st, hv, hd, by rw [f 248 26 (rq_wGr_x (by omega))]; exact h26, K, by omega, by rw [f 248 24 (rq_wGr_x (by omega))]; exact h24, ?_, ?_⟩
  · show rq_dl 0 K rq_dsw ρ.2.1 δ.2.2.1 m'
    rw [e]
    exact rq_dl_fr h0 (Nat.le_refl K) (f _ _ (rq_wGr_x (by omega))) (f _ _ (rq_wGr_x (by omega))) (fun i _ => f _ _ (rq_wGr_x (by omega)))
  · show rq_dl 1 K rq_dju ρ.2.2 δ.2.2.2 m'
    rw [e]
    exact rq_dl_fr h1 (Nat.le_refl K) (f _ _ (rq_wGr_x (by omega))) (f _ _ (rq_wGr_x (by omega))) (fun i _ => f _ _ (rq_wGr_x (by omega)))
theorem rq_blX {α : Type} {W : Nat → Nat → Bool} (hW : ∀ k j, rq_wRA k j = false → W k j = false) {x : (Int × Nat) ⊕ (α × Nat)} {g : α → rq_DR} {o : Option (Int × rt_M)} (h : rq o (fun p => rq_fr W m p.2 ∧ (∀ q, x = .inl q → p.1 = 0 ∧ p.2 248 9 = q.1 + 16 * (q.2 : Int)) ∧ ∀ q, x = .inr q → p.1 = 1 ∧ rq_ts s n q.2 p.2 ∧ rq_RD q.2 (g q.1) p.2)) : rq (o.bind fun p => j_X12_readsAll_193_77 248 p.1 p.2) (rq_bR s n m (rq_sbd x (fun q => .inr (g q.1, q.2)))) := by
  refine rq_call h ?_
  rintro ⟨v, m1⟩ ⟨f1, h1, h2⟩
  dsimp only at f1 h1 h2 ⊢
  unfold j_X12_readsAll_193_77
  cases x with
  | inl q =>
    obtain ⟨e1, e2⟩ := h1 q rfl
    rw [if_pos e1]
    exact rq_map.mpr (rq_some.mpr ⟨m1, rfl, e2, f1.mono hW⟩)
  | inr q =>
    obtain ⟨e1, e2, e3⟩ := h2 q rfl
    rw [if_neg (by omega)]
    exact rq_some.mpr ⟨m1, rfl, e2, e3, f1.mono hW⟩
theorem rq_wRl_x {line k j : Nat} (h : (k = 248 ∧ j = 26) ∨ (249 ≤ k ∧ k ≤ 260) ∨ ((k = 261 ∨ k = 262) ∧ j ≠ 2 + line) ∨ (k = 263 ∧ j < 1000)) : rq_wRl line k j = false := by
  unfold rq_wRl rq_wRe rq_wN2
  simp only [Bool.or_eq_false_iff, Bool.and_eq_false_iff, beq_eq_false_iff_ne, decide_eq_false_iff_not]
  omega
theorem q_rBody (hD : rq_RD b δ m) (ht : rq_ty s n m) (hok : rq_okT s n) (hp : rq_bp s n b) (ts : rq_ts s n b m) (z : rq_kd s n b ≠ 37) : rq (b_X12_readsAll_77 248 m) (rq_bR s n m (rq_rl δ s n b)) := by
  have hn := hok.1
  have hb := rq_kd_lt z
  have hD' := hD
  obtain ⟨hs, hv, hd, h26, K, hK, h24, l0, l1⟩ := hD'
  have t0 := rq_tn_0 hok hp
  unfold b_X12_readsAll_77 rq_rl
  rw [q_gfr, Option.bind_some, ts.2.2.2.1, if_neg (fun q => z (t0.mp q)), q_isWord hok hp ts (W := 0) (by decide) (c := 17017) (by decide), Option.bind_some]
  by_cases z0 : rq_kd s n b = ((0 : Nat) : Int)
  · rw [if_pos z0, if_neg (by decide), if_pos (show rq_kd s n b = 0 from z0)]
    refine rq_blX (W := rq_wGr) (g := fun t => (rq_aw δ.1 t, δ.2)) (fun k j q => rq_wGs_r (rq_wRA_s q)) (rq_mono (q_readsWig hs ht hok hb ts hv hd) ?_)
    rintro ⟨v, m1⟩ ⟨f1, h1⟩
    have o := rq_wgl_o (ρ := δ.1) hok hb
    refine ⟨f1, fun q e => ?_, fun q e => ?_⟩
    · rw [e] at h1; exact h1
    · rw [e] at h1 o
      exact ⟨h1.1, h1.2.1, rq_RD_c hD f1 (rq_aw_va hv o.2.2.1 o.2.2.2.1 o.2.2.2.2.1 o.2.2.2.2.2.1) h1.2.2 (Nat.le_of_lt o.2.1) rfl⟩
  rw [if_neg z0, if_pos rfl, if_neg (show ¬ rq_kd s n b = 0 from z0), q_isWord hok hp ts (W := 4) (by decide) (c := 161140) (by decide), Option.bind_some]
  by_cases z4 : rq_kd s n b = ((4 : Nat) : Int)
  · rw [if_pos z4, if_neg (by decide), if_pos (show rq_kd s n b = 4 from z4)]
    refine rq_blX (W := rq_wGr) (g := fun t => (rq_ah δ.1 t, δ.2)) (fun k j q => rq_wGs_r (rq_wRA_s q)) (rq_mono (q_readsHead hs ht hok hb ts hv hd) ?_)
    rintro ⟨v, m1⟩ ⟨f1, h1⟩
    have o := rq_hdl_o (ρ := δ.1) hok hb
    refine ⟨f1, fun q e => ?_, fun q e => ?_⟩
    · rw [e] at h1; exact h1
    · rw [e] at h1 o
      exact ⟨h1.1, h1.2.1, rq_RD_c hD f1 (rq_ah_va hv o.2.2.1 o.2.2.2.1 o.2.2.2.2.1 o.2.2.2.2.2.1 o.2.2.2.2.2.2.1) h1.2.2 (Nat.le_of_lt o.2.1) rfl⟩
  rw [if_neg z4, if_pos rfl, if_neg (show ¬ rq_kd s n b = 4 from z4), q_isWord hok hp ts (W := 6) (by decide) (c := 4351231) (by decide), Option.bind_some]
  by_cases z6 : rq_kd s n b = ((6 : Nat) : Int)
  · rw [if_pos z6, if_neg (by decide), if_pos (show rq_kd s n b = 6 from z6)]
    refine rq_blX (W := rq_wGr) (g := fun t => (rq_at3 δ.1 t, δ.2)) (fun k j q => rq_wGs_r (rq_wRA_s q)) (rq_mono (q_readsHeats hs ht hok hb ts hd) ?_)
    rintro ⟨v, m1⟩ ⟨f1, h1⟩
    have o := rq_htl_o (ρ := δ.1) hok hb
    refine ⟨f1, fun q e => ?_, fun q e => ?_⟩
    · rw [e] at h1; exact h1
    · rw [e] at h1 o
      exact ⟨h1.1, h1.2.1, rq_RD_c hD f1 (rq_at3_va hv o.2.2.2.1 o.2.2.2.2) h1.2.2 (Nat.le_of_lt o.2.1) rfl⟩
  rw [if_neg z6, if_pos rfl, if_neg (show ¬ rq_kd s n b = 6 from z6), q_isWord hok hp ts (W := 7) (by decide) (c := 10334396) (by decide), Option.bind_some]
  by_cases z7 : rq_kd s n b = ((7 : Nat) : Int)
  · rw [if_pos z7, if_neg (by decide), if_pos (show rq_kd s n b = 7 from z7), ← h26]
    refine rq_blX (W := rq_wGs) (g := fun t => (rq_asl δ.1 t, 1, δ.2.2)) (fun k j q => rq_wRA_s q) (rq_mono (q_readsSlack hs ht hok hb ts hd) ?_)
    rintro ⟨v, m1⟩ ⟨f1, h1⟩
    have o := rq_skl_o (s := s) (told := m 248 26) hb
    refine ⟨f1, fun q e => ?_, fun q e => ?_⟩
    · rw [e] at h1; exact h1
    · rw [e] at h1 o
      have kx : ∀ k j, (k = 248 ∧ j = 24) ∨ 261 ≤ k → m1 k j = m k j := fun k j q => f1 k j (by
        have := rq_wGr_x (k := k) (j := j) (by omega)
        unfold rq_wGs
        rw [this]
        simp only [Bool.false_or, Bool.and_eq_false_iff, beq_eq_false_iff_ne]
        omega)
      refine ⟨h1.1, h1.2.1, rq_st_fr hs f1 rq_wGs_st, rq_asl_va hv o.2.2, h1.2.2.1, h1.2.2.2, K, Nat.le_trans hK (Nat.le_of_lt o.2.1), (kx 248 24 (by omega)).trans h24, rq_dl_fr l0 (Nat.le_refl K) (kx _ _ (by omega)) (kx _ _ (by omega)) (fun i _ => kx _ _ (by omega)), rq_dl_fr l1 (Nat.le_refl K) (kx _ _ (by omega)) (kx _ _ (by omega)) (fun i _ => kx _ _ (by omega))⟩
  rw [if_neg z7, if_pos rfl, if_neg (show ¬ rq_kd s n b = 7 from z7), q_isWord hok hp ts (W := 8) (by decide) (c := 284959882) (by decide), Option.bind_some]
  by_cases z8 : rq_kd s n b = ((8 : Nat) : Int)
  · rw [if_pos z8, if_neg (by decide), if_pos (show rq_kd s n b = 8 from z8)]
    refine rq_blX (W := rq_wRl 0) (g := fun t : rq_ET => ((δ.1.1, t.2.2, δ.1.2.2), δ.2.1, 1, δ.2.2.2)) (fun k j q => rq_wRA_0 q) (rq_mono (q_readsLaw (line := 0) (k := 1000 + K) hok (by decide) hs ht ts hb h24 (by omega)) ?_)
    rintro ⟨v, m1⟩ ⟨f1, h1⟩
    have ei := rq_dl_if l0
    have ex : (if m 262 (2 + 0) ≤ m 261 (2 + 0) then rq_lawp s n 0 b else .inl (3, b)) = (if δ.2.2.1 = 0 then rq_lawp s n 0 b else .inl (3, b)) := by
      by_cases y : δ.2.2.1 = 0
      · rw [if_pos y, if_pos (ei.mpr y)]
      · rw [if_neg y, if_neg (fun q => y (ei.mp q))]
    rw [ex] at h1
    refine ⟨f1, fun q e => ?_, fun q e => ?_⟩
    · rw [e] at h1; exact h1
    · rw [e] at h1
      have lv := rq_lawp_v (s := s) (line := 0) (by decide) hok hb
      have e2 : rq_lawp s n 0 b = .inr q := by
        by_cases y : δ.2.2.1 = 0
        · rw [if_pos y] at e; exact e
        · rw [if_neg y] at e; cases e
      rw [e2] at lv
      obtain ⟨-, v0, v1, v2, v3, v4, v5⟩ := lv
      obtain ⟨g1, g2, ⟨g3, g4, g5⟩, g6, g7⟩ := h1
      dsimp only at g1 g2 g3 g4 g5 g6 g7 f1
      have kx : ∀ k j, (k = 248 ∧ j = 26) ∨ (249 ≤ k ∧ k ≤ 260) ∨ ((k = 261 ∨ k = 262) ∧ j ≠ 2 + 0) → m1 k j = m k j := fun k j q => f1 k j (rq_wRl_x (by omega))
      refine ⟨g1, g2, rq_st_fr hs f1 (rq_wRl_st (by decide)), hv, rq_dr_fr hd (fun a j h1 h2 => kx a j (by omega)), (kx 248 26 (by omega)).trans h26, K + q.1.2.1.length, by omega, g3.trans (by rw [Nat.add_assoc]), Or.inr ⟨rfl, ?_, K, q.1.2.1, g6, g7, Nat.le_refl _, g4, v2⟩, rq_dl_fr l1 (by omega) (kx _ _ (by omega)) (kx _ _ (by omega)) g5⟩
      show m1 261 (2 + 0) < m1 262 (2 + 0)
      rw [g6, g7]; omega
  rw [if_neg z8, if_pos rfl, if_neg (show ¬ rq_kd s n b = 8 from z8), q_isWord hok hp ts (W := 9) (by decide) (c := 154733320) (by decide), Option.bind_some]
  by_cases z9 : rq_kd s n b = ((9 : Nat) : Int)
  · rw [if_pos z9, if_neg (by decide), if_pos (show rq_kd s n b = 9 from z9)]
    refine rq_blX (W := rq_wRl 1) (g := fun t : rq_ET => ((δ.1.1, δ.1.2.1, t.2.2), δ.2.1, δ.2.2.1, 1)) (fun k j q => rq_wRA_1 q) (rq_mono (q_readsLaw (line := 1) (k := 1000 + K) hok (by decide) hs ht ts hb h24 (by omega)) ?_)
    rintro ⟨v, m1⟩ ⟨f1, h1⟩
    have ei := rq_dl_if l1
    have ex : (if m 262 (2 + 1) ≤ m 261 (2 + 1) then rq_lawp s n 1 b else .inl (3, b)) = (if δ.2.2.2 = 0 then rq_lawp s n 1 b else .inl (3, b)) := by
      by_cases y : δ.2.2.2 = 0
      · rw [if_pos y, if_pos (ei.mpr y)]
      · rw [if_neg y, if_neg (fun q => y (ei.mp q))]
    rw [ex] at h1
    refine ⟨f1, fun q e => ?_, fun q e => ?_⟩
    · rw [e] at h1; exact h1
    · rw [e] at h1
      have lv := rq_lawp_v (s := s) (line := 1) (by decide) hok hb
      have e2 : rq_lawp s n 1 b = .inr q := by
        by_cases y : δ.2.2.2 = 0
        · rw [if_pos y] at e; exact e
        · rw [if_neg y] at e; cases e
      rw [e2] at lv
      obtain ⟨-, v0, v1, v2, v3, v4, v5⟩ := lv
      obtain ⟨g1, g2, ⟨g3, g4, g5⟩, g6, g7⟩ := h1
      dsimp only at g1 g2 g3 g4 g5 g6 g7 f1
      have kx : ∀ k j, (k = 248 ∧ j = 26) ∨ (249 ≤ k ∧ k ≤ 260) ∨ ((k = 261 ∨ k = 262) ∧ j ≠ 2 + 1) → m1 k j = m k j := fun k j q => f1 k j (rq_wRl_x (by omega))
      refine ⟨g1, g2, rq_st_fr hs f1 (rq_wRl_st (by decide)), hv, rq_dr_fr hd (fun a j h1 h2 => kx a j (by omega)), (kx 248 26 (by omega)).trans h26, K + q.1.2.1.length, by omega, g3.trans (by rw [Nat.add_assoc]), rq_dl_fr l0 (by omega) (kx _ _ (by omega)) (kx _ _ (by omega)) g5, Or.inr ⟨rfl, ?_, K, q.1.2.1, g6, g7, Nat.le_refl _, g4, v2⟩⟩
      show m1 261 (2 + 1) < m1 262 (2 + 1)
      rw [g6, g7]; omega
  rw [if_neg z9, if_pos rfl, if_neg (show ¬ rq_kd s n b = 9 from z9), q_fails ts hn (by decide) (by decide), Option.bind_some]
  unfold j_X12_readsAll_193_77
  rw [if_pos rfl]
  exact rq_map.mpr (rq_some.mpr ⟨_, rfl, rq_upE m 248 9 _, rq_fr.rfl.up rfl⟩)
end
