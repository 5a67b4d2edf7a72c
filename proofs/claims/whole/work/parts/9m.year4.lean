/-! Layer 3: years, the reference; both -/
section
variable {m m' : rt_M} {s : Nat → Int} {n b : Nat} {r c : Nat} {ρ : rq_R} {Y : rq_Y} {A : rq_A}
theorem rq_tn_0 (hok : rq_okT s n) (hp : rq_bp s n b) : rq_tn s n b = 0 ↔ rq_kd s n b = 37 := by
  rcases rq_kd_c2 hok hp with ⟨t, k, z⟩ | ⟨t, hb, lt, v, k⟩ | ⟨t, hb, k, v, v1, v2⟩ | ⟨t, hb, W', w1, w2, k, es⟩ | ⟨t, hb, k⟩
  · exact ⟨fun _ => k, fun _ => t⟩
  · exact ⟨fun q => by omega, fun q => absurd hb (rq_kd_37.mp q)⟩
  · exact ⟨fun q => by omega, fun q => by omega⟩
  · exact ⟨fun q => by omega, fun q => by omega⟩
  · exact ⟨fun q => by omega, fun q => by omega⟩
def rq_wYs (k j : Nat) : Bool := rq_wYr k j || (k == 248 && (j == 0 || j == 1 || j == 3))
theorem rq_wYs_st : (rq_P.all fun p => !(rq_wYs p.1 p.2.1)) = true := by decide +kernel
theorem rq_D_Ys (h : rq_D ρ m) (k : rq_fr rq_wYs m m') : rq_D ρ m' := by
  obtain ⟨hs, hv, hc⟩ := h
  refine ⟨rq_st_fr hs k rq_wYs_st, hv, rq_rr_fr hc (fun a j h1 h2 => k a j ?_)⟩
  unfold rq_wYs rq_wYr rq_wN2
  simp only [Bool.or_eq_false_iff, Bool.and_eq_false_iff, beq_eq_false_iff_ne, decide_eq_false_iff_not]
  omega
theorem rq_wYs_r {k j : Nat} (h : rq_wYs k j = false) : rq_wYr k j = false := by
  unfold rq_wYs at h
  simp only [Bool.or_eq_false_iff] at h
  exact h.1
/-- the reference begins to read -/
theorem q_begins (hs : rq_st m) (h1 : m 248 1 = (n : Int)) (ht : ∀ i, i < n → m 249 i = s i) (hok : rq_okT s n) : rq (f_X12_begins 248 m) (fun m1 => rq_ts s n (rq_sk' s n 0) m1 ∧ rq_ty s n m1 ∧ m1 248 1 = 0 ∧ rq_fr (fun k j => k == 248 && (j == 1 || (decide (3 ≤ j) && decide (j ≤ 8)))) m m1) := by
  unfold f_X12_begins
  rw [q_gfr, Option.bind_some, h1, q_pfr, Option.bind_some, q_pfr, Option.bind_some, q_pfr, Option.bind_some]
  have f1 : rq_fr (fun k j => k == 248 && (j == 1 || (decide (3 ≤ j) && decide (j ≤ 8)))) m (rt_up (rt_up (rt_up m 248 3 (n : Int)) 248 1 0) 248 4 0) := ((rq_fr.rfl.up rfl).up rfl).up rfl
  have t1 : rq_ty s n (rt_up (rt_up (rt_up m 248 3 (n : Int)) 248 1 0) 248 4 0) := ⟨by rw [q_up, if_neg (by omega), q_up, if_neg (by omega), q_up, if_pos ⟨rfl, rfl⟩], fun i hi => by rw [q_up, if_neg (by omega), q_up, if_neg (by omega), q_up, if_neg (by omega)]; exact ht i hi⟩
  have e1 : rt_up (rt_up (rt_up m 248 3 (n : Int)) 248 1 0) 248 4 0 248 1 = 0 := by rw [q_up, if_neg (by omega), q_up, if_pos ⟨rfl, rfl⟩]
  have e4 : rt_up (rt_up (rt_up m 248 3 (n : Int)) 248 1 0) 248 4 0 248 4 = ((0 : Nat) : Int) := by rw [q_up, if_pos ⟨rfl, rfl⟩]; rfl
  generalize rt_up (rt_up (rt_up m 248 3 (n : Int)) 248 1 0) 248 4 0 = m1 at f1 t1 e1 e4 ⊢
  have s1 : rq_st m1 := rq_st_fr hs f1 (by decide +kernel)
  refine rq_call (q_nextToken s1 t1 hok (Nat.zero_le n) e4) ?_
  rintro m2 ⟨b1, b2⟩
  refine rq_some.mpr ⟨b1, rq_ty_fr t1 b2, by rw [b2 248 1 rfl, e1], f1.trans (b2.mono (fun k j q => ?_))⟩
  unfold rq_wN2
  simp only [Bool.and_eq_false_iff, Bool.or_eq_false_iff, beq_eq_false_iff_ne, decide_eq_false_iff_not] at q ⊢
  omega
theorem q_ryears (hD : rq_D ρ m) (h1 : m 248 1 = (n : Int)) (ht : ∀ i, i < n → m 249 i = s i) (hok : rq_okT s n) : rq (f_X12_years 248 m) (fun p => p.1 = (rq_yp ρ s n 41 (rq_sk' s n 0) rq_Y0).1 ∧ p.2 248 1 = 0 ∧ ((p.1 ≠ 0 → rq_fr rq_wYs m p.2) ∧ (p.1 = 0 → rq_yr 0 (rq_yp ρ s n 41 (rq_sk' s n 0) rq_Y0).2 p.2 ∧ rq_vy ρ (rq_yp ρ s n 41 (rq_sk' s n 0) rq_Y0).2 ∧ rq_fr (fun k j => rq_wYs k j || rq_wL 0 k j) m p.2))) := by
  have hv := hD.2.1
  unfold f_X12_years
  rw [q_pfr, Option.bind_some, q_gfr, Option.bind_some]
  have s0 : rq_st (rt_up m 248 0 0) := rq_st_fr (W := rq_wYs) hD.1 (rq_fr.rfl.up rfl) rq_wYs_st
  rw [q_s9 (k := 276) _ 5 6 5 (pt_248_41 s0) kd_276 ln_276 rfl (by decide), Option.bind_some]
  have f1 : rq_fr rq_wYs m (rt_up (rt_up m 248 0 0) 276 5 0) := (rq_fr.rfl.up rfl).up rfl
  have y1 : rt_up (rt_up m 248 0 0) 276 5 0 276 5 = 0 := by rw [q_up, if_pos ⟨rfl, rfl⟩]
  have n1 : rt_up (rt_up m 248 0 0) 276 5 0 248 1 = (n : Int) := h1
  have t1 : ∀ i, i < n → rt_up (rt_up m 248 0 0) 276 5 0 249 i = s i := fun i hi => by rw [q_up, if_neg (by omega), q_up, if_neg (by omega)]; exact ht i hi
  generalize rt_up (rt_up m 248 0 0) 276 5 0 = m1 at f1 y1 n1 t1 ⊢
  have s1 := rq_st_fr hD.1 f1 rq_wYs_st
  refine rq_call (q_begins s1 n1 t1 hok) ?_
  rintro m2 ⟨ts2, ty2, z2, g2⟩
  have f2 : rq_fr rq_wYs m m2 := f1.trans (g2.mono (fun k j q => by
    unfold rq_wYs rq_wYr rq_wN2 at q
    simp only [Bool.or_eq_false_iff, Bool.and_eq_false_iff, beq_eq_false_iff_ne, decide_eq_false_iff_not] at q ⊢
    omega))
  have yr2 : rq_yr 5 rq_Y0 m2 := ⟨by rw [g2 276 5 rfl, y1]; rfl, fun i hi => by have : (i : Int) < 0 := hi; omega⟩
  refine rq_call (rq_up (Q := fun e => match e with
      | .inl x => (rq_yp ρ s n 41 (rq_sk' s n 0) rq_Y0).1 = 0 ∧ rq_yr 5 (rq_yp ρ s n 41 (rq_sk' s n 0) rq_Y0).2 x ∧ rq_vy ρ (rq_yp ρ s n 41 (rq_sk' s n 0) rq_Y0).2 ∧ x 248 1 = 0 ∧ rq_fr rq_wYs m x
      | .inr q => q.1 = (rq_yp ρ s n 41 (rq_sk' s n 0) rq_Y0).1 ∧ q.1 ≠ 0 ∧ q.2 248 1 = 0 ∧ rq_fr rq_wYs m q.2) (fun i x => (∃ b Y, i ≤ 40 ∧ Y 0 0 = (i : Int) ∧ rq_vy ρ Y ∧ rq_bp s n b ∧ rq_ts s n b x ∧ rq_yr 5 Y x ∧ rq_yp ρ s n (41 - i) b Y = rq_yp ρ s n 41 (rq_sk' s n 0) rq_Y0) ∧ rq_ty s n x ∧ x 248 1 = 0 ∧ rq_fr rq_wYs m x) 41 (by decide) ?_ ?_ ?_) ?_
  · rintro i mm hi ⟨⟨b, Y, i40, ey, vy, bp, ts, yr, er⟩, ty, z1, hf⟩
    have hD1 := rq_D_Ys hD hf
    rw [show 41 - i = (40 - i) + 1 by omega, rq_yp_s] at er
    have t0 := rq_tn_0 hok bp
    unfold b_X12_years_16
    rw [q_gfr, Option.bind_some, ts.2.2.2.1]
    by_cases z : rq_kd s n b = 37
    · rw [if_pos z] at er
      rw [if_pos (t0.mpr z)]
      refine rq_some.mpr (rq_inr ?_)
      dsimp only
      rw [← er]
      exact ⟨rfl, yr, vy, z1, hf⟩
    · rw [if_neg z] at er
      rw [if_neg (fun q => z (t0.mp q))]
      have vl := rq_yl_v (b := b) (cnt := Y 0 0) hok bp hv
      refine rq_call (q_rline hD1 ty hok bp ts yr (by omega) (by omega)) ?_
      rintro ⟨v, m3⟩ ⟨f3, h3⟩
      dsimp only at f3 h3 ⊢
      have f3' : rq_fr rq_wYs m m3 := hf.trans (f3.mono (fun _ _ => rq_wYs_r))
      have z3 : m3 248 1 = 0 := by rw [f3 248 1 rfl, z1]
      rcases h3 with ⟨k, q, ex, e0, ef⟩ | ⟨l, q, ex, e1, ts3, yr3⟩
      · rw [ex] at er vl
        dsimp only at er vl
        rw [if_pos e0, q_gfr, Option.bind_some]
        refine rq_map.mpr (rq_some.mpr (rq_inr ?_))
        dsimp only
        rw [← er, ef]
        exact ⟨rfl, by omega, z3, f3'⟩
      · rw [ex] at er vl
        dsimp only at er vl
        obtain ⟨v1, v2, v3⟩ := vl
        obtain ⟨w1, w2⟩ := rq_vy_ya vy v2 v3
        rw [if_neg (by omega)]
        refine rq_some.mpr (rq_inl ⟨⟨q, rq_ya Y l, by omega, by omega, w1, v1, ts3, yr3, ?_⟩, rq_ty_Yr ty f3, z3, f3'⟩)
        rw [show 41 - (i + 1) = 40 - i by omega]
        exact er
  · rintro mm ⟨⟨b, Y, i40, -⟩, -⟩
    omega
  · exact ⟨⟨_, rq_Y0, by decide, rfl, rq_Y0_v, rq_bp_sk (Nat.zero_le n), ts2, yr2, rfl⟩, ty2, z2, f2⟩
  · rintro (x | q) h
    · obtain ⟨a1, a2, a3, a4, a5⟩ := h
      have s5 := rq_st_fr hD.1 a5 rq_wYs_st
      refine rq_call (q_laysLines s5 (s := 5) (t := 0) (by decide) (by decide) (by decide)) ?_
      rintro m5 ⟨c1, c2, c3⟩
      have e1 : m5 248 1 = 0 := by rw [c3 248 1 rfl, a4]
      refine rq_some.mpr ⟨a1.symm, e1, fun q => absurd rfl q, fun _ => ⟨⟨by show m5 276 0 = _; rw [c1]; exact a2.1, fun i hi => ?_⟩, a3, fun k j q => ?_⟩⟩
      · have := a3.2.1
        obtain ⟨d1, d2, d3⟩ := c2 i (by omega)
        dsimp only
        rw [d1, d2, d3]
        exact a2.2 i hi
      · simp only [Bool.or_eq_false_iff] at q
        show m5 k j = m k j
        rw [c3 k j q.2, a5 k j q.1]
    · obtain ⟨a1, a2, a3, a4⟩ := h
      exact rq_some.mpr ⟨a1, a3, fun _ => a4, fun w => absurd w a2⟩
theorem rq_nmb_D (h : rq_D ρ m) : rq_nmb ρ := ⟨fun i hi => by have := rq_nm_b (h.2.2.2.1 i hi).2.2.2; omega, fun i hi => by have := rq_nm_b (h.2.2.2.2.1 i hi).2.2.2.2; omega⟩
end
