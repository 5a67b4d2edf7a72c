/-! Layer 3: years, both -/
section
variable {m m' : rt_M} {s : Nat → Int} {n b : Nat} {r c : Nat} {ρ : rq_R} {Y : rq_Y} {A : rq_A}
theorem q_rdr (hs : rq_st m) : rt_gf 11 1 41 m = some ((47 : Nat) : Int) := by rw [q_g11, pt_41_1 hs]; rfl
theorem q_tpe (hs : rq_st m) : rt_gf 11 0 41 m = some ((42 : Nat) : Int) := by rw [q_g11, pt_41_0 hs]; rfl
theorem q_dye (hs : rq_st m) : rt_gf 11 9 41 m = some ((111 : Nat) : Int) := by rw [q_g11, pt_41_9 hs]; rfl
def rq_wYz (k j : Nat) : Bool := rq_wYk k j || (k == 42 && j == 1) || rq_wY 52 k j
theorem rq_wYz_st : (rq_P.all fun p => !(rq_wYz p.1 p.2.1)) = true := by decide +kernel
theorem q_years11 (h : rq_J r ρ A c m) (ht : rq_tx s n m) (hok : rq_okT s n) : rq (f_X11_years 41 m) (fun p => p.1 = (rq_yp ρ s n 41 (rq_sk' s n 0) rq_Y0).1 ∧ p.2 42 1 = 0 ∧ (p.1 = 0 → rq_vy ρ (rq_yp ρ s n 41 (rq_sk' s n 0) rq_Y0).2 → rq_yc 52 (rq_yp ρ s n 41 (rq_sk' s n 0) rq_Y0).2 p.2) ∧ (p.1 ≠ 0 → rq_yc 52 A.2.1 p.2) ∧ rq_fr rq_wYz m p.2) := by
  have hs := h.1.1
  have hv := h.1.2.2.1
  have y1 : (111 : Nat) ∈ rq_yL := by decide
  have y5 : (52 : Nat) ∈ rq_yL := by decide
  have hvy : rq_vy ρ (rq_yp ρ s n 41 (rq_sk' s n 0) rq_Y0).2 := by
    have key : ∀ f b Y, rq_vy ρ Y → rq_bp s n b → rq_vy ρ (rq_yp ρ s n f b Y).2 := by
      intro f
      induction f with
      | zero => intro b Y hY _; exact hY
      | succ f ih =>
        intro b Y hY hb
        rw [rq_yp_s]
        by_cases z : rq_kd s n b = 37
        · rw [if_pos z]; exact hY
        · rw [if_neg z]
          have vl := rq_yl_v (b := b) (cnt := Y 0 0) hok hb hv
          cases e : rq_yl ρ s n b (Y 0 0) with
          | inl q => exact hY
          | inr q =>
            rw [e] at vl
            dsimp only at vl ⊢
            exact ih _ _ (rq_vy_ya hY vl.2.1 vl.2.2).1 vl.1
    exact key _ _ _ rq_Y0_v (rq_bp_sk (Nat.zero_le n))
  unfold f_X11_years j_X11_years_41
  rw [q_rdr hs, Option.bind_some, q_told h, Option.bind_some, q_dye hs, Option.bind_some, q_gd3]
  refine rq_call (q_readYears h.1 (rq_nmb_D h.2.1) ht hok) ?_
  rintro ⟨v, m1⟩ ⟨e1, y1', f1⟩
  dsimp only at e1 y1' f1 ⊢
  have s1 := rq_st_fr hs f1 rq_wYk_st
  have f1' : rq_fr rq_wYz m m1 := f1.mono (fun k j q => by unfold rq_wYz at q; simp only [Bool.or_eq_false_iff] at q; exact q.1.1)
  rw [q_tpe s1, Option.bind_some, q_gd8]
  unfold f_X8_clear
  rw [q_p8, Option.bind_some, Option.bind_some]
  have f2 : rq_fr rq_wYz m (rt_up m1 42 1 0) := f1'.up rfl
  have k2 : ∀ a j, 52 ≤ a → a ≤ 55 → rt_up m1 42 1 0 a j = m a j := fun a j h1 h2 => by
    rw [q_up, if_neg (by omega), f1 a j]
    unfold rq_wYk rq_wTk rq_wYc
    simp only [Bool.or_eq_false_iff, Bool.and_eq_false_iff, beq_eq_false_iff_ne]
    omega
  have e42 : rt_up m1 42 1 0 42 1 = 0 := by rw [q_up, if_pos ⟨rfl, rfl⟩]
  have y2 : v = 0 → rq_yc 111 (rq_yp ρ s n 41 (rq_sk' s n 0) rq_Y0).2 (rt_up m1 42 1 0) := fun q => rq_yc_fr (y1' q) (fun a j h1 h2 => by rw [q_up, if_neg (by omega)])
  generalize rt_up m1 42 1 0 = m2 at f2 e42 y2 k2 ⊢
  have s2 := rq_st_fr hs f2 rq_wYz_st
  by_cases z : v = 0
  · rw [if_pos z, q_now s2, Option.bind_some, q_nye s2, Option.bind_some, q_dye s2, Option.bind_some]
    have gd10 : ∀ {α : Type} (o : Option α), rt_gd 10 ((52 : Nat) : Int) o = o := fun o => rfl
    rw [gd10]
    refine rq_call (q_ycopy s2 y5 y1 (by decide) hvy (y2 z)) ?_
    rintro m3 ⟨b1, b2⟩
    exact rq_some.mpr ⟨e1, by show m3 42 1 = 0; rw [b2 42 1 rfl, e42], fun _ _ => b1, fun q => absurd z q, f2.trans (b2.mono (fun k j q => by unfold rq_wYz at q; simp only [Bool.or_eq_false_iff] at q; exact q.2))⟩
  · rw [if_neg z]
    refine rq_some.mpr ⟨e1, e42, fun q => absurd q z, fun _ => rq_yc_fr h.2.2.2.1.2.1 (fun a j h1 h2 => k2 a j (by omega) (by omega)), f2⟩
theorem L_years (hI : rq_I c m) : rq (f_X11_years 41 m) (fun p => rq (f_X12_years 248 p.2) (fun q => q.1 = p.1 ∧ rq_I (c + 1) q.2)) := by
  obtain ⟨r, ρ, A, h⟩ := hI
  obtain ⟨n, n1, n2, n3, n4⟩ := h.2.2.2.2.2.2.2.1
  have hok : rq_okT (m 43) n := ⟨n1, fun i hi => (n4 i hi).2⟩
  refine rq_mono (q_years11 h (s := m 43) (n := n) ⟨n2, fun i _ => rfl⟩ hok) ?_
  rintro ⟨v, m1⟩ ⟨e1, e42, yA, yB, f1⟩
  dsimp only at e1 e42 yA yB f1 ⊢
  have hD1 : rq_D ρ m1 := by
    obtain ⟨hs, hv, hc⟩ := h.2.1
    refine ⟨rq_st_fr hs f1 rq_wYz_st, hv, rq_rr_fr hc (fun a j h1 h2 => f1 a j ?_)⟩
    unfold rq_wYz rq_wYk rq_wTk rq_wYc rq_wY
    simp only [Bool.or_eq_false_iff, Bool.and_eq_false_iff, beq_eq_false_iff_ne]
    omega
  refine rq_mono (q_ryears hD1 (s := m 43) (n := n) (by rw [f1 248 1 rfl]; exact n3) (fun i hi => by rw [f1 249 i rfl]; exact (n4 i hi).1.symm) hok) ?_
  rintro ⟨w, m2⟩ ⟨e2, e248, g0, g1⟩
  dsimp only at e2 e248 g0 g1 ⊢
  have f2 : rq_fr (fun k j => rq_wYs k j || rq_wL 0 k j) m1 m2 := by
    by_cases z : w = 0
    · exact (g1 z).2.2
    · exact (g0 z).mono (fun k j q => by simp only [Bool.or_eq_false_iff] at q; exact q.1)
  have hs2 : rq_st m2 := rq_st_fr hD1.1 f2 (by decide +kernel)
  refine ⟨by rw [e2, e1], ?_⟩
  have z12 : ∀ {a j : Nat}, ((a = 41 ∧ j ≠ 13) ∨ (48 ≤ a ∧ a < 111 ∧ ¬ (52 ≤ a ∧ a ≤ 55)) ∨ (115 ≤ a ∧ a < 248) ∨ (a = 248 ∧ j = 55) ∨ (250 ≤ a ∧ a < 276) ∨ (a = 276 ∧ 1 ≤ j ∧ j < 5) ∨ (277 ≤ a ∧ a ≤ 279 ∧ 40 ≤ j ∧ j < 200) ∨ (280 ≤ a ∧ a < 290)) → m2 a j = m a j := fun {a j} q => by
    rw [f2 a j ?_, f1 a j ?_]
    · unfold rq_wYz rq_wYk rq_wTk rq_wYc rq_wY
      simp only [Bool.or_eq_false_iff, Bool.and_eq_false_iff, beq_eq_false_iff_ne]
      omega
    · unfold rq_wYs rq_wYr rq_wN2 rq_wL
      simp only [Bool.or_eq_false_iff, Bool.and_eq_false_iff, beq_eq_false_iff_ne, decide_eq_false_iff_not]
      omega
  have k52 : ∀ a j, 52 ≤ a → a ≤ 55 → m2 a j = m1 a j := fun a j h1 h2 => f2 a j (by
    unfold rq_wYs rq_wYr rq_wN2 rq_wL
    simp only [Bool.or_eq_false_iff, Bool.and_eq_false_iff, beq_eq_false_iff_ne, decide_eq_false_iff_not]
    omega)
  have tp2 : rq_tp m2 := ⟨0, by decide, by rw [f2 42 1 rfl, e42]; rfl, by rw [e248]; rfl, fun i hi => absurd hi (Nat.not_lt_zero i)⟩
  by_cases z : w = 0
  · obtain ⟨c1, c2, -⟩ := g1 z
    exact ⟨r, ρ, _, rq_J_yr h z12 hs2 tp2 (rq_yc_fr (yA (by rw [e1, ← e2, z]) c2) (fun a j h1 h2 => k52 a j h1 (by omega))) c1 c2⟩
  · have hr : rq_yr 0 A.2.1 m2 := by
      have hy := h.2.2.2.2.1.2.1
      have vy := h.2.2.2.2.2.1.2.1
      have k : ∀ a j, (a = 276 ∧ j = 0) ∨ ((a = 277 ∨ a = 278 ∨ a = 279) ∧ j < 40) → m2 a j = m a j := fun a j q => by
        rw [g0 z a j ?_, f1 a j ?_]
        · unfold rq_wYz rq_wYk rq_wTk rq_wYc rq_wY
          simp only [Bool.or_eq_false_iff, Bool.and_eq_false_iff, beq_eq_false_iff_ne]
          omega
        · unfold rq_wYs rq_wYr rq_wN2
          simp only [Bool.or_eq_false_iff, Bool.and_eq_false_iff, beq_eq_false_iff_ne, decide_eq_false_iff_not]
          omega
      refine ⟨by rw [k _ _ (by omega)]; exact hy.1, fun i hi => ?_⟩
      have := vy.2.1
      rw [k 277 _ (by omega), k 278 _ (by omega), k 279 _ (by omega)]
      exact hy.2 i hi
    exact ⟨r, ρ, _, rq_J_yr h z12 hs2 tp2 (rq_yc_fr (yB (by rw [e1, ← e2]; exact z)) (fun a j h1 h2 => k52 a j h1 (by omega))) hr h.2.2.2.2.2.1.2.1⟩
end
