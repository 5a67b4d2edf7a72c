/-! Layer 3: a line of heats, the class reads it -/
section
variable {m : rt_M} {s : Nat → Int} {n b r : Nat} {ρ : rq_R}
theorem rq_nu_36 (hok : rq_okT s n) (bp : rq_bp s n b) : rq_nu s n 0 9 b = if rq_kd s n b = 36 then (if rq_vl s n b ≤ 9 then .inr (rq_vl s n b, rq_nxp s n b) else .inl (4, b)) else .inl (1, b) := by
  unfold rq_nu
  by_cases z : rq_kd s n b = 36
  · have vb := rq_vl_36 hok bp z
    rw [if_pos z, if_pos z]
    by_cases y : rq_vl s n b ≤ 9
    · rw [if_pos y, if_pos ⟨vb.1, y⟩]
    · rw [if_neg y, if_neg (fun q => y q.2)]
  · rw [if_neg z, if_neg z]
/-- i heats are laid in row a -/
def rq_hI (s : Nat → Int) (n a : Nat) (X : (Int × Nat) ⊕ ((Nat × (Nat → Int)) × Nat)) (i b : Nat) (H : Nat → Int) (mm : rt_M) : Prop := i ≤ 12 ∧ rq_bp s n b ∧ (∀ j, j < i → mm a j = H j ∧ 0 ≤ H j ∧ H j ≤ 9) ∧ rq_hh s n (13 - i) i H b = X
theorem q_heatsLine (hC : rq_C r ρ m) (hok : rq_okT s n) (pc : rq_pc s n b m) (hbn : b < n) : rq (f_X3_heatsLine ((47 : Nat) : Int) (r : Int) m) (rq_lnR s n r m (rq_htl ρ s n b) (fun t m' => rq_C r (rq_at3 ρ t) m')) := by
  have hn := hok.1
  have hs := hC.1
  have hr := hC.2.1
  have e7 := hC.2.2.2.1.2.2.2
  unfold f_X3_heatsLine rq_htl
  rw [q_gf4r hr, Option.bind_some, e7]
  by_cases z : ρ.1 0 3 ≤ 0
  rotate_left
  · rw [if_neg z, if_neg z, q_fail hs pc hn (by decide) (by decide), Option.bind_some, q_bz0]
    exact rq_some.mpr ⟨rq_fr.rfl.up rfl, rfl, rq_upE m 47 2 _⟩
  rw [if_pos z, if_pos z, q_g3, Option.bind_some, q_p3, Option.bind_some]
  have bn := rq_bp_nx (s := s) hbn
  have pc1 := (rq_pc_adv pc hbn).2
  have f1 : rq_fr rq_w47 m (rt_up m 47 1 (rt_iadd (m 47 1) 1)) := rq_fr.rfl.up rfl
  generalize rt_up m 47 1 (rt_iadd (m 47 1) 1) = m1 at pc1 f1 ⊢
  have w47 : ∀ {x y : rt_M}, rq_fr rq_w47 x y → rq_fr (rq_wDc r) x y := fun f => f.mono (fun _ _ => rq_wDc_47)
  have g47 : ∀ {x y : rt_M}, rq_fr rq_w47 x y → ∀ a j, r ≤ a → y a j = x a j := fun {x y} f a j h1 => f a j (by
    unfold rq_w47
    simp only [Bool.or_eq_false_iff, Bool.and_eq_false_iff, beq_eq_false_iff_ne]
    clear hC
    rcases hr with h | h <;> omega)
  have r48 : 48 ≤ r := by clear hC; rcases hr with h | h <;> omega
  obtain ⟨-, -, -, -, o6, -, -, -, -, -, -, ka, la, -⟩ := q_sh_o r hr
  generalize hX : rq_hh s n 13 0 (fun _ => 0) (rq_nxp s n b) = X
  have frK : ∀ mm : rt_M, (∀ a j, r ≤ a → a ≤ r + 23 → ¬ (a = r ∧ j = 7) → ¬ (a = r + 17) → mm a j = m a j) → ∀ y : rt_M, rq_fr rq_w47 mm y → (∀ a j, r ≤ a → a ≤ r + 23 → ¬ (a = r ∧ j = 7) → ¬ (a = r + 17) → y a j = m a j) := fun mm h y f a j h1 h2 h3 h4 => by rw [g47 f a j h1]; exact h a j h1 h2 h3 h4
  refine rq_call (rq_up (Q := fun e => match e with
      | .inl x => ∃ i b H, rq_hI s n (r + 17) X i b H x ∧ i ≠ 0 ∧ (i = 12 ∨ rq_kd s n b ≠ 36) ∧ x r 7 = (i : Int) ∧ rq_pc s n b x ∧ rq_fr (rq_wDc r) m x ∧ (∀ a j, r ≤ a → a ≤ r + 23 → ¬ (a = r ∧ j = 7) → ¬ (a = r + 17) → x a j = m a j)
      | .inr p => rq_lnR s n r m X (fun t m' => rq_C r (rq_at3 ρ t) m') p) (fun i x => x.1 = (i : Int) ∧ ∃ b H, rq_hI s n (r + 17) X i b H x.2 ∧ (i ≠ 0 → x.2 r 7 = (i : Int)) ∧ rq_pc s n b x.2 ∧ rq_fr (rq_wDc r) m x.2 ∧ (∀ a j, r ≤ a → a ≤ r + 23 → ¬ (a = r ∧ j = 7) → ¬ (a = r + 17) → x.2 a j = m a j)) 12 (by decide) ?_ ?_ ?_) ?_
  · rintro i ⟨x, mm⟩ hi ⟨e1, b1, H, ⟨i12, bp1, hH, eX⟩, e7', pcb, F, K⟩
    dsimp only at e1 e7' pcb F K hH
    subst e1
    have s1 := rq_st_fr hs F (rq_wDc_st hr)
    rw [show 13 - i = (12 - i) + 1 by omega, rq_hh_s] at eX
    have num : (i = 0 ∨ rq_kd s n b1 = 36) → rq (j_X3_heatsLine_45_25 ((47 : Nat) : Int) (r : Int) (i : Int) mm) (fun t => (∀ s', t = .inl s' → s'.1 = ((i + 1 : Nat) : Int) ∧ ∃ b H, rq_hI s n (r + 17) X (i + 1) b H s'.2 ∧ (i + 1 ≠ 0 → s'.2 r 7 = ((i + 1 : Nat) : Int)) ∧ rq_pc s n b s'.2 ∧ rq_fr (rq_wDc r) m s'.2 ∧ (∀ a j, r ≤ a → a ≤ r + 23 → ¬ (a = r ∧ j = 7) → ¬ (a = r + 17) → s'.2 a j = m a j)) ∧ (∀ e, t = .inr e → match e with
      | .inl x => ∃ i b H, rq_hI s n (r + 17) X i b H x ∧ i ≠ 0 ∧ (i = 12 ∨ rq_kd s n b ≠ 36) ∧ x r 7 = (i : Int) ∧ rq_pc s n b x ∧ rq_fr (rq_wDc r) m x ∧ (∀ a j, r ≤ a → a ≤ r + 23 → ¬ (a = r ∧ j = 7) → ¬ (a = r + 17) → x a j = m a j)
      | .inr p => rq_lnR s n r m X (fun t m' => rq_C r (rq_at3 ρ t) m') p)) := by
      intro hz
      unfold j_X3_heatsLine_45_25
      rw [if_neg (by rcases hz with h | h <;> omega)] at eX
      obtain ⟨k1, k2⟩ := q_isNum s1 pcb hok bp1 (lo := 0) (hi := 9) (by decide) (by decide)
      have enu := rq_nu_36 hok bp1
      have failed : ∀ q : Int × Nat, rq_nu s n 0 9 b1 = .inl q → X = .inl q → rq ((f_X3_isNumber ((47 : Nat) : Int) 0 9 mm).bind fun p49 => if p49.1 = 0 then Option.map (fun t => Sum.inr (Sum.inr t)) (some (0, p49.2)) else (rt_gf 4 6 (r : Int) p49.2).bind fun v58 => (f_X3_value ((47 : Nat) : Int) p49.2).bind fun p63 => (rt_sa 1 v58 (i : Int) (rt_l2i p63) p49.2).bind fun m67 => (rt_pf 4 7 (r : Int) (rt_iadd (i : Int) 1) m67).bind fun m72 => (rt_gf 3 1 ((47 : Nat) : Int) m72).bind fun v77 => (rt_pf 3 1 ((47 : Nat) : Int) (rt_iadd v77 1) m72).bind fun m82 => some (Sum.inl (rt_iadd (i : Int) 1, m82))) (fun t : (Int × rt_M) ⊕ (rt_M ⊕ (Int × rt_M)) => ∃ p, t = .inr (.inr p) ∧ rq_lnR s n r m X (fun t m' => rq_C r (rq_at3 ρ t) m') p) := by
        intro q e hq
        refine rq_call (k1 q e) ?_
        rintro ⟨v2, m2⟩ ⟨f2, e2, ef⟩
        dsimp only at f2 e2 ef ⊢
        rw [if_pos e2]
        refine rq_map.mpr (rq_some.mpr ⟨_, rfl, F.trans (w47 f2), ?_⟩)
        rw [hq]
        exact ⟨rfl, ef⟩
      by_cases z36 : rq_kd s n b1 = 36
      rotate_left
      · rw [if_neg z36] at eX enu
        refine rq_mono (failed _ enu eX.symm) ?_
        rintro t ⟨p, rfl, hp⟩
        exact rq_inr hp
      rw [if_pos z36] at eX enu
      by_cases z9 : rq_vl s n b1 ≤ 9
      rotate_left
      · rw [if_neg z9] at eX enu
        refine rq_mono (failed _ enu eX.symm) ?_
        rintro t ⟨p, rfl, hp⟩
        exact rq_inr hp
      rw [if_pos z9, if_neg (show ¬ i = 12 by omega)] at eX
      rw [if_pos z9] at enu
      obtain ⟨y1, y2, y3, y4, y5, y6⟩ := k2 _ _ enu
      rw [y1, Option.bind_some]
      dsimp only
      rw [if_neg (by decide), q_gf4r hr, Option.bind_some, q_pt s1 o6, q_value s1 pcb, Option.bind_some, rq_l2i (by omega) (by omega), q_sa ka la (by omega), Option.bind_some, q_pf4r hr, Option.bind_some, q_g3, Option.bind_some, q_p3, Option.bind_some, rq_n1 (by omega)]
      have F2 : rq_fr (rq_wDc r) m (rt_up (rt_up mm (r + 17) i (rq_vl s n b1)) r 7 ((i + 1 : Nat) : Int)) := (F.up (by unfold rq_wDc; simp)).up (by unfold rq_wDc; simp)
      have k3 : ∀ a j, ¬ (a = r ∧ j = 7) → ¬ (a = r + 17 ∧ j = i) → rt_up (rt_up mm (r + 17) i (rq_vl s n b1)) r 7 ((i + 1 : Nat) : Int) a j = mm a j := fun a j q1 q2 => by rw [q_up, if_neg q1, q_up, if_neg q2]
      have e17 : rt_up (rt_up mm (r + 17) i (rq_vl s n b1)) r 7 ((i + 1 : Nat) : Int) (r + 17) i = rq_vl s n b1 := by rw [q_up, if_neg (by omega), rq_upE]
      have e77 : rt_up (rt_up mm (r + 17) i (rq_vl s n b1)) r 7 ((i + 1 : Nat) : Int) r 7 = ((i + 1 : Nat) : Int) := rq_upE _ _ _ _
      generalize rt_up (rt_up mm (r + 17) i (rq_vl s n b1)) r 7 ((i + 1 : Nat) : Int) = m2 at F2 k3 e17 e77 ⊢
      have pc2 : rq_pc s n b1 m2 := rq_pc_fr pcb (fun a j q => k3 a j (by omega) (by omega))
      obtain ⟨-, pc3⟩ := rq_pc_adv pc2 y4
      have f3 : rq_fr rq_w47 m2 (rt_up m2 47 1 (rt_iadd (m2 47 1) 1)) := rq_fr.rfl.up rfl
      generalize rt_up m2 47 1 (rt_iadd (m2 47 1) 1) = m3 at pc3 f3 ⊢
      refine rq_some.mpr (rq_inl ⟨rfl, rq_nxp s n b1, (fun j => if j = i then rq_vl s n b1 else H j), ⟨by omega, rq_bp_nx y4, fun j hj => ?_, ?_⟩, fun _ => ?_, pc3, F2.trans (w47 f3), frK m2 (fun a j h1 h2 h3 h4 => ?_) m3 f3⟩)
      rotate_left
      · rw [show 13 - (i + 1) = 12 - i by omega]
        exact eX
      · show m3 r 7 = _
        rw [g47 f3 r 7 (Nat.le_refl r), e77]
      · rw [k3 a j h3 (fun q => h4 q.1)]
        exact K a j h1 h2 h3 h4
      · show m3 (r + 17) j = _ ∧ _
        rw [g47 f3 (r + 17) j (by omega)]
        by_cases yj : j = i
        · subst yj
          dsimp only
          rw [if_pos rfl, e17]
          exact ⟨rfl, y5, y6⟩
        · dsimp only
          rw [if_neg yj, k3 (r + 17) j (by omega) (fun q => yj q.2)]
          exact hH j (by omega)
    unfold b_X3_heatsLine_25
    dsimp only
    rw [if_neg (by omega)]
    by_cases y0 : i = 0
    · rw [if_pos (by omega)]
      exact num (Or.inl y0)
    rw [if_neg (by omega), q_kind s1 pcb, Option.bind_some]
    by_cases z36 : rq_kd s n b1 = 36
    · rw [if_pos z36]
      exact num (Or.inr z36)
    rw [if_neg z36]
    refine rq_some.mpr (rq_inr ⟨i, b1, H, ⟨i12, bp1, hH, ?_⟩, y0, Or.inr z36, e7' y0, pcb, F, K⟩)
    rw [show 13 - i = (12 - i) + 1 by omega, rq_hh_s]
    exact eX
  · rintro ⟨x, mm⟩ ⟨e1, b1, H, hI, e7', pcb, F, K⟩
    dsimp only at e1 e7' pcb F K hI
    subst e1
    unfold b_X3_heatsLine_25
    rw [if_pos (show (12 : Int) ≤ (((12 : Nat) : Int), mm).1 from Int.le_refl 12)]
    exact rq_some.mpr (rq_inre ⟨12, b1, H, hI, by decide, Or.inl rfl, e7' (by decide), pcb, F, K⟩)
  · exact ⟨rfl, _, _, ⟨by decide, bn, fun j hj => absurd hj (Nat.not_lt_zero j), hX⟩, fun q => absurd rfl q, pc1, w47 f1, fun a j h1 h2 h3 h4 => g47 f1 a j h1⟩
  · rintro (x | p) q
    rotate_left
    · exact rq_some.mpr q
    obtain ⟨i, b1, H, ⟨i12, bp1, hH, eX⟩, i0, hz, e7', pcb, F, K⟩ := q
    have s1 := rq_st_fr hs F (rq_wDc_st hr)
    rw [show 13 - i = (12 - i) + 1 by omega, rq_hh_s] at eX
    dsimp only
    rw [q_kind s1 pcb, Option.bind_some]
    by_cases z36 : rq_kd s n b1 = 36
    · have h12 : i = 12 := by
        rcases hz with h | h
        · exact h
        · exact absurd z36 h
      rw [if_pos z36]
      rw [if_neg (by omega), if_pos z36, if_pos h12] at eX
      obtain ⟨k1, k2⟩ := q_isNum s1 pcb hok bp1 (lo := 0) (hi := 9) (by decide) (by decide)
      have enu := rq_nu_36 hok bp1
      rw [if_pos z36] at enu
      unfold j_X3_heatsLine_123 j_X3_heatsLine_124
      by_cases z9 : rq_vl s n b1 ≤ 9
      · rw [if_pos z9] at eX enu
        obtain ⟨y1, -⟩ := k2 _ _ enu
        rw [y1, Option.bind_some]
        dsimp only
        rw [if_neg (by decide), q_fail s1 pcb hn (by decide) (by decide), Option.bind_some]
        dsimp only
        rw [if_pos rfl, q_bz0]
        refine rq_some.mpr ⟨F.up rfl, ?_⟩
        rw [← eX]
        exact ⟨rfl, rq_upE x 47 2 _⟩
      · rw [if_neg z9] at eX enu
        refine rq_call (k1 _ enu) ?_
        rintro ⟨v2, m2⟩ ⟨f2, e2, ef⟩
        dsimp only at f2 e2 ef ⊢
        rw [if_pos e2, q_bz0]
        refine rq_some.mpr ⟨F.trans (w47 f2), ?_⟩
        rw [← eX]
        exact ⟨rfl, ef⟩
    rw [if_neg z36]
    refine rq_call (q_takeX (W := 34) s1 pcb hok (by decide)) ?_
    rintro ⟨v6, m6⟩ ⟨f6, h6⟩
    dsimp only at f6 h6 ⊢
    rw [show ((34 : Nat) : Int) = 34 from rfl] at h6
    have F6 := F.trans (w47 f6)
    by_cases z34 : rq_kd s n b1 = 34
    rotate_left
    · rw [if_neg z34] at h6
      rw [if_neg (fun q => z34 q.2), if_neg z36] at eX
      rw [h6.1, q_bz0]
      refine rq_some.mpr ⟨F6, ?_⟩
      rw [← eX]
      exact ⟨rfl, h6.2⟩
    rw [if_pos z34] at h6
    rw [if_pos ⟨i0, z34⟩] at eX
    rw [h6.1, q_bz1]
    refine rq_some.mpr ⟨F6, ?_⟩
    rw [← eX]
    refine ⟨rfl, h6.2, rq_at3_C hC i12 (fun j hj => (hH j hj).2) (rq_st_fr hs F6 (rq_wDc_st hr)) (fun j hj => ?_) ?_ (frK x K m6 f6)⟩
    · show m6 (r + 17) j = H j
      rw [g47 f6 (r + 17) j (by omega)]
      exact (hH j hj).1
    · show m6 r 7 = (i : Int)
      rw [g47 f6 r 7 (Nat.le_refl r), e7']
end
