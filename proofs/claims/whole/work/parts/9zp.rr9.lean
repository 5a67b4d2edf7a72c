/-! Layer 3: realm, the reference; both -/
def rq_wRC (k j : Nat) : Bool := rq_wRB k j || (k == 248 && j == 0)
theorem rq_wRC_st : (rq_P.all fun p => !(rq_wRC p.1 p.2.1)) = true := by decide +kernel
def rq_wRD (k j : Nat) : Bool := rq_wRC k j || rq_wLa k j || rq_row 285 0 13 k j || rq_row 284 0 6 k j || ((k == 276 || k == 280) && j == 0) || (k == 248 && j == 55) || k == 289
theorem rq_wRD_st : (rq_P.all fun p => !(rq_wRD p.1 p.2.1)) = true := by decide +kernel
theorem rq_wRC_0 {k j : Nat} (h : k < 248 ∨ (k = 248 ∧ j = 55) ∨ k = 249 ∨ (k = 250 ∧ j < 4) ∨ (251 ≤ k ∧ k ≤ 259 ∧ j < 6) ∨ (k = 260 ∧ j < 12) ∨ ((k = 261 ∨ k = 262) ∧ j < 2) ∨ (k = 263 ∧ j < 1000) ∨ 265 < k) : rq_wRC k j = false := by
  unfold rq_wRC rq_wRB rq_wRA rq_wGs rq_wGr rq_w40 rq_w9 rq_wN2 rq_wRl rq_wRe rq_wN2
  simp only [Bool.or_eq_false_iff, Bool.and_eq_false_iff, beq_eq_false_iff_ne, decide_eq_false_iff_not]
  omega
theorem rq_wRD_0 {k j : Nat} (h : k < 248 ∨ (265 < k ∧ k < 276) ∨ (k = 276 ∧ j ≠ 0) ∨ (277 ≤ k ∧ k ≤ 279) ∨ (k = 280 ∧ j ≠ 0) ∨ (281 ≤ k ∧ k ≤ 283) ∨ (285 < k ∧ k < 289)) : rq_wRD k j = false := by
  have := rq_wRC_0 (k := k) (j := j) (by omega)
  unfold rq_wRD rq_wLa rq_row
  rw [this]
  simp only [Bool.false_or, Bool.or_eq_false_iff, Bool.and_eq_false_iff, beq_eq_false_iff_ne, decide_eq_false_iff_not]
  omega
def rq_r12 (s : Nat → Int) (n : Nat) (m : rt_M) (p : Int × rt_M) : Prop := p.1 = (rq_rpA s n).1 ∧ p.2 248 1 = 0 ∧ (p.1 ≠ 0 → rq_fr rq_wRC m p.2) ∧ (p.1 = 0 → rq_rr (rq_rpA s n).2.1 p.2 ∧ rq_Ar 0 rq_A0 p.2 ∧ p.2 248 55 = 0 ∧ (∀ k, k < 4 → p.2 289 k = 0) ∧ rq_fr rq_wRD m p.2)
section
variable {m m' : rt_M} {s : Nat → Int} {n b : Nat} {r c : Nat} {ρ : rq_R} {A : rq_A}
theorem rq_rr_fr2 (h : rq_rr ρ m) (hv : rq_va ρ) (k : ∀ a j, (a = 250 ∧ j < 4) ∨ (251 ≤ a ∧ a ≤ 259 ∧ j < 6) ∨ (a = 260 ∧ j < 12) ∨ ((a = 261 ∨ a = 262) ∧ j < 2) ∨ (a = 263 ∧ j < 1000) → m' a j = m a j) : rq_rr ρ m' := by
  have hv0 := hv.1
  obtain ⟨h0, h1, h2, h3, h4, h5⟩ := h
  have lr : ∀ {line : Nat} {D F : Int → Int → Int → Int}, line < 2 → rq_lr line D F m → rq_lr line D F m' := fun {line D F} hl q => by
    rcases q with ⟨q1, q2⟩ | ⟨q1, kk, cs, q3, q4, q5, q6, q7⟩
    · exact Or.inl ⟨by rw [k 262 _ (by omega), k 261 _ (by omega)]; exact q1, q2⟩
    · exact Or.inr ⟨by rw [k 262 _ (by omega), k 261 _ (by omega)]; exact q1, kk, cs, by rw [k 261 _ (by omega)]; exact q3, by rw [k 262 _ (by omega)]; exact q4, q5, fun i hi => by rw [k 263 _ (by omega)]; exact q6 i hi, q7⟩
  refine ⟨?_, fun w hw => ?_, fun w hw => ?_, fun w hw => ?_, lr (by decide) h4, lr (by decide) h5⟩
  · rw [k 250 0 (by omega), k 250 1 (by omega), k 250 2 (by omega), k 250 3 (by omega)]; exact h0
  · rw [k 253 w (by omega), k 254 w (by omega), k 255 w (by omega), k 251 w (by omega)]; exact h1 w hw
  · rw [k 256 w (by omega), k 257 w (by omega), k 258 w (by omega), k 259 w (by omega), k 252 w (by omega)]; exact h2 w hw
  · rw [k 260 w (by omega)]; exact h3 w hw
theorem q_rrealm (hs : rq_st m) (h1 : m 248 1 = (n : Int)) (ht : ∀ i, i < n → m 249 i = s i) (hok : rq_okT s n) : rq (f_X12_realm 248 m) (rq_r12 s n m) := by
  unfold f_X12_realm
  rw [q_pfr, Option.bind_some]
  have F0 : rq_fr rq_wRC m (rt_up m 248 0 0) := rq_fr.rfl.up rfl
  have e1 : rt_up m 248 0 0 248 1 = (n : Int) := h1
  have et : ∀ i, i < n → rt_up m 248 0 0 249 i = s i := ht
  generalize rt_up m 248 0 0 = m0 at F0 e1 et ⊢
  have s0 := rq_st_fr hs F0 rq_wRC_st
  refine rq_call (q_readsAll s0 e1 et hok) ?_
  rintro ⟨v, m1⟩ ⟨f1, z1, h2⟩
  dsimp only at f1 z1 h2 ⊢
  have F1 : rq_fr rq_wRC m m1 := F0.trans (f1.mono (fun k j q => by unfold rq_wRC at q; simp only [Bool.or_eq_false_iff] at q; exact q.1))
  have s1 := rq_st_fr hs F1 rq_wRC_st
  rcases h2 with ⟨e0, ev, b, hb, rd⟩ | ⟨e0, ev, e9⟩
  rotate_left
  · rw [if_pos ev, q_gfr, Option.bind_some, e9]
    exact rq_some.mpr ⟨rfl, z1, fun _ => F1, fun q => absurd q e0⟩
  rw [ev, if_neg (by decide)]
  refine rq_call (q_lays rd hb) ?_
  rintro m2 ⟨rr2, f2⟩
  have G1 : rq_fr rq_wRD m m1 := F1.mono (fun k j q => by unfold rq_wRD at q; simp only [Bool.or_eq_false_iff] at q; exact q.1.1.1.1.1.1)
  have G2 : rq_fr rq_wRD m m2 := G1.trans (f2.mono (fun k j q => by unfold rq_wRD at q; simp only [Bool.or_eq_false_iff] at q; exact q.1.1.1.1.1.2))
  have s2 := rq_st_fr hs G2 rq_wRD_st
  refine rq_call (q_fresh s2) ?_
  rintro m3 ⟨sr3, f3⟩
  have G3 : rq_fr rq_wRD m m3 := G2.trans (f3.mono (fun k j q => by unfold rq_wRD at q; simp only [Bool.or_eq_false_iff] at q; exact q.1.1.1.1.2))
  have s3 := rq_st_fr hs G3 rq_wRD_st
  refine rq_call (q_rforgets s3) ?_
  rintro m4 ⟨fg4, f4⟩
  have G4 : rq_fr rq_wRD m m4 := G3.trans (f4.mono (fun k j q => by unfold rq_wRD at q; simp only [Bool.or_eq_false_iff] at q; exact q.1.1.1.2))
  have s4 := rq_st_fr hs G4 rq_wRD_st
  have g3 : ∀ a j, a ≠ 285 → m3 a j = m2 a j := fun a j q => f3 a j (by
    unfold rq_row
    simp only [Bool.and_eq_false_iff, beq_eq_false_iff_ne]
    exact Or.inl (Or.inl q))
  have g4 : ∀ a j, a ≠ 284 → m4 a j = m3 a j := fun a j q => f4 a j (by
    unfold rq_row
    simp only [Bool.and_eq_false_iff, beq_eq_false_iff_ne]
    exact Or.inl (Or.inl q))
  have z2 : m2 248 1 = 0 := by rw [f2 248 1 rfl, z1]
  rw [q_gfr, Option.bind_some, q_s9 (k := 276) _ 0 6 0 (pt_248_41 s4) kd_276 ln_276 rfl (by decide), Option.bind_some]
  have G5 : rq_fr rq_wRD m (rt_up m4 276 0 0) := G4.up rfl
  have s5 := rq_st_fr hs G5 rq_wRD_st
  rw [q_gfr, Option.bind_some, q_s9 (k := 280) _ 0 5 0 (pt_248_45 s5) kd_280 ln_280 rfl (by decide), Option.bind_some, q_pfr, Option.bind_some]
  have G6 : rq_fr rq_wRD m (rt_up (rt_up (rt_up m4 276 0 0) 280 0 0) 248 55 0) := (G5.up rfl).up rfl
  have g6 : ∀ a j, a ≠ 276 → a ≠ 280 → ¬ (a = 248 ∧ j = 55) → rt_up (rt_up (rt_up m4 276 0 0) 280 0 0) 248 55 0 a j = m4 a j := fun a j q1 q2 q3 => by rw [q_up, if_neg q3, q_up, if_neg (fun z => q2 z.1), q_up, if_neg (fun z => q1 z.1)]
  have c61 : rt_up (rt_up (rt_up m4 276 0 0) 280 0 0) 248 55 0 276 0 = 0 := rfl
  have c62 : rt_up (rt_up (rt_up m4 276 0 0) 280 0 0) 248 55 0 280 0 = 0 := rfl
  have c63 : rt_up (rt_up (rt_up m4 276 0 0) 280 0 0) 248 55 0 248 55 = 0 := rfl
  generalize rt_up (rt_up (rt_up m4 276 0 0) 280 0 0) 248 55 0 = m6 at G6 g6 c61 c62 c63 ⊢
  have s6 := rq_st_fr hs G6 rq_wRD_st
  refine rq_call (rq_up (Q := fun x => (∀ k, k < 4 → x 289 k = 0) ∧ rq_fr (fun a _ => a == 289) m6 x) (fun i x => x.1 = (i : Int) ∧ (∀ k, k < i → x.2 289 k = 0) ∧ rq_fr (fun a _ => a == 289) m6 x.2) 4 (by decide) ?_ ?_ ?_) ?_
  · rintro i ⟨x, mm⟩ hi ⟨e1, hj, hf⟩
    dsimp only at e1 hj hf
    subst e1
    have s7 := rq_st_fr s6 hf (by decide +kernel)
    unfold b_X12_realm_50
    dsimp only
    rw [if_neg (by omega), q_gfr, Option.bind_some, q_s3 _ (pt_248_54 s7) kd_289 ln_289 hi, Option.bind_some, rq_n1 (by omega)]
    refine rq_some.mpr (rq_inl ⟨rfl, fun k hk => ?_, hf.up (by rfl)⟩)
    show rt_up mm 289 i 0 289 k = 0
    rw [q_up]
    by_cases y : k = i
    · rw [if_pos ⟨rfl, y⟩]
    · rw [if_neg (by omega)]; exact hj k (by omega)
  · rintro ⟨x, mm⟩ ⟨e1, hj, hf⟩
    dsimp only at e1 hj hf
    subst e1
    unfold b_X12_realm_50
    dsimp only
    rw [if_pos (by decide)]
    exact rq_some.mpr (rq_inre ⟨hj, hf⟩)
  · exact ⟨rfl, fun k hk => absurd hk (Nat.not_lt_zero k), rq_fr.rfl⟩
  rintro m7 ⟨c7, f7⟩
  have G7 : rq_fr rq_wRD m m7 := G6.trans (f7.mono (fun k j q => by unfold rq_wRD at q; simp only [Bool.or_eq_false_iff] at q; exact q.2))
  have g7 : ∀ a j, a ≠ 289 → m7 a j = m6 a j := fun a j q => f7 a j (by simp only [beq_eq_false_iff_ne]; exact q)
  refine rq_some.mpr ⟨e0.symm, ?_, fun q => absurd rfl q, fun _ => ⟨rq_rr_fr rr2 (fun a j q1 q2 => ?_), ⟨fun i hi => ?_, ⟨?_, fun i hi => ?_⟩, ⟨?_, fun i hi => ?_⟩, fun w hw => ?_⟩, ?_, c7, G7⟩⟩
  · show m7 248 1 = 0
    rw [g7 _ _ (by omega), g6 _ _ (by omega) (by omega) (by omega), g4 _ _ (by omega), g3 _ _ (by omega), z2]
  · show m7 a j = m2 a j
    rw [g7 _ _ (by omega), g6 _ _ (by omega) (by omega) (by omega), g4 _ _ (by omega), g3 _ _ (by omega)]
  · rw [if_pos rfl]
    show m7 285 i = rq_S0 i
    rw [g7 _ _ (by omega), g6 _ _ (by omega) (by omega) (by omega), g4 _ _ (by omega)]
    exact sr3 i hi
  · show m7 276 0 = 0
    rw [g7 _ _ (by omega), c61]
  · have : (i : Int) < 0 := hi
    omega
  · show m7 280 0 = 0
    rw [g7 _ _ (by omega), c62]
  · have : (i : Int) < 0 := hi
    omega
  · show m7 284 (6 * 0 + w) = -1
    rw [g7 _ _ (by omega), g6 _ _ (by omega) (by omega) (by omega), show 6 * 0 + w = w by omega]
    exact fg4 w hw
  · show m7 248 55 = 0
    rw [g7 _ _ (by omega), c63]
theorem L_realm (hI : rq_I c m) : rq (f_X11_realm 41 m) (fun p => rq (f_X12_realm 248 p.2) (fun q => q.1 = p.1 ∧ rq_I (c + 1) q.2)) := by
  obtain ⟨r, ρ, A, h⟩ := hI
  obtain ⟨n, n1, n2, n3, n4⟩ := h.2.2.2.2.2.2.2.1
  have hok : rq_okT (m 43) n := ⟨n1, fun i hi => (n4 i hi).2⟩
  have hs := h.1.1
  have hr := h.1.2.1
  have hr' : 150 - r = 63 ∨ 150 - r = 87 := by rcases hr with e | e <;> omega
  refine rq_mono (q_realm11 h (s := m 43) (n := n) ⟨n2, fun i _ => rfl⟩ hok) ?_
  rintro ⟨v, m1⟩ ⟨e1, e42, yB, yA⟩
  dsimp only at e1 e42 yA yB ⊢
  have kb : rq_fr (rq_wRb (150 - r)) m m1 := by
    by_cases z : v = 0
    · exact (yA z).2.2.2.2.2.2
    · exact (yB z).mono (fun k j q => by unfold rq_wRb at q; simp only [Bool.or_eq_false_iff] at q; exact q.1.1.1)
  have hs1 := rq_st_fr hs kb (rq_wRb_st hr')
  have k0 : ∀ a j, 188 ≤ a → m1 a j = m a j := fun a j q => kb a j (rq_wRb_0 hr' (by clear h; rcases hr' with e | e <;> omega))
  refine rq_mono (q_rrealm hs1 (s := m 43) (n := n) (by rw [k0 248 1 (by omega)]; exact n3) (fun i hi => by rw [k0 249 i (by omega)]; exact (n4 i hi).1.symm) hok) ?_
  rintro ⟨w, m2⟩ ⟨e2, e248, g0, g1⟩
  dsimp only at e2 e248 g0 g1 ⊢
  refine ⟨by rw [e2, e1], ?_⟩
  by_cases z : v = 0
  · have z2 : w = 0 := by rw [e2, ← e1, z]
    obtain ⟨a1, a2, a3, a4, a5, a6, a7⟩ := yA z
    obtain ⟨b1, b2, b3, b4, b5⟩ := g1 z2
    have kk : ∀ a j, a < 248 ∨ (281 ≤ a ∧ a ≤ 283) → m2 a j = m1 a j := fun a j q => b5 a j (rq_wRD_0 (by omega))
    have hs2 := rq_st_fr hs1 b5 rq_wRD_st
    have hv := a1.2.2.1
    have tp2 : rq_tp m2 := ⟨0, by decide, by rw [kk 42 1 (by omega), e42]; rfl, by rw [e248]; rfl, fun i hi => absurd hi (Nat.not_lt_zero i)⟩
    obtain ⟨un, up, U, ⟨u1, u2, u3, u4, u5⟩, -, -⟩ := h.2.2.2.2.2.2.2.2.1
    have hmk := h.2.2.2.2.2.2.2.2.2
    refine ⟨150 - r, (rq_rpA (m 43) n).2.1, rq_A0, ⟨hs2, hr', hv, rq_rc_fr a1.2.2.2 hv (fun a j q1 q2 q3 q4 => kk a j (by clear h; rcases hr' with e | e <;> omega))⟩, ⟨hs2, hv, b1⟩, ⟨?_, ?_⟩, rq_Ac_fr a5 (fun a j q1 q2 => kk a j (by omega)), b2, rq_A0_v.mpr (rq_S0_vs hv), ?_, tp2, ⟨0, up, U, ⟨by decide, u2, ?_, ?_, fun i hi => absurd hi (Nat.not_lt_zero i)⟩, ⟨b3, fun i hi => absurd hi (Nat.not_lt_zero i)⟩, fun i hi => absurd hi (Nat.not_lt_zero i)⟩, fun k hk => Or.inl ⟨?_, b4 k hk⟩, fun i hi => ?_⟩
    · rw [kk 41 7 (by omega), a2]
      clear h; rcases hr with e | e <;> omega
    · rw [kk 41 8 (by omega), a3]
      clear h; rcases hr with e | e <;> omega
    · show (0 : Int) ≤ _
      omega
    · rw [kk 41 5 (by omega), a4]; rfl
    · rw [kk 41 6 (by omega), kb 41 6 (rq_wRb_0 hr' (by omega)), u4]
    · rw [kk _ 4 (by omega)]; exact a6 k hk
    · rw [kk 283 i (by omega), k0 283 i (by omega)]
      exact hmk.2 i hi
  · have z2 : w ≠ 0 := by rw [e2, ← e1]; exact z
    have f1 := yB z
    have f2 := g0 z2
    have hs2 := rq_st_fr hs1 f2 rq_wRC_st
    have zz : ∀ {a j : Nat}, ((a = 41) ∨ (48 ≤ a ∧ a < 63) ∨ (r ≤ a ∧ a < r + 24) ∨ (111 ≤ a ∧ a < 248) ∨ (a = 248 ∧ j = 55) ∨ (265 < a)) → m2 a j = m a j := fun {a j} q => by
      rw [f2 a j (rq_wRC_0 (by clear h; rcases hr with e | e <;> omega)), f1 a j (rq_wRa_0 hr' (by clear h; rcases hr with e | e <;> omega))]
    have tp2 : rq_tp m2 := ⟨0, by decide, by rw [f2 42 1 (rq_wRC_0 (by omega)), e42]; rfl, by rw [e248]; rfl, fun i hi => absurd hi (Nat.not_lt_zero i)⟩
    obtain ⟨hC, hD, h7, hAc, hAr, hv, hcc, htp, hud, hmk⟩ := h
    refine ⟨r, ρ, A, ⟨hs2, hC.2.1, hC.2.2.1, rq_rc_fr hC.2.2.2 hC.2.2.1 (fun a j q1 q2 q3 q4 => zz (by omega))⟩, ⟨hs2, hD.2.1, rq_rr_fr2 hD.2.2 hD.2.1 (fun a j q => ?_)⟩, ⟨by rw [zz (by omega)]; exact h7.1, by rw [zz (by omega)]; exact h7.2⟩, rq_Ac_fr hAc (fun a j q1 q2 => zz (by omega)), rq_Ar_fr hAr (fun a j q1 q2 q3 q4 => zz (by omega)), hv, by omega, tp2, rq_ud_fr (Nat.le_succ c) hud (zz (by omega)) (zz (by omega)) (zz (by omega)) (fun a j q1 q2 => zz (by omega)) (fun j => zz (by omega)), rq_mk_fr (Nat.le_succ c) hmk (fun a j q1 q2 => zz (by omega)) (fun j => zz (by omega)) (fun a j q1 q2 q3 q4 q5 => zz (by omega)) (fun i hi => by rw [zz (by omega)]; exact hmk.2 i (by omega))⟩
    rw [f2 a j (rq_wRC_0 (by omega)), f1 a j (rq_wRa_0 hr' (by rcases hr with e | e <;> omega))]
end
