/-! Layer 3: years -/
section
variable {m m' : rt_M} {s : Nat → Int} {n b : Nat} {r c : Nat} {ρ : rq_R} {Y : rq_Y} {A : rq_A}
theorem rq_J_yr (h : rq_J r ρ A c m) (z : ∀ {a j : Nat}, ((a = 41 ∧ j ≠ 13) ∨ (48 ≤ a ∧ a < 111 ∧ ¬ (52 ≤ a ∧ a ≤ 55)) ∨ (115 ≤ a ∧ a < 248) ∨ (a = 248 ∧ j = 55) ∨ (250 ≤ a ∧ a < 276) ∨ (a = 276 ∧ 1 ≤ j ∧ j < 5) ∨ (277 ≤ a ∧ a ≤ 279 ∧ 40 ≤ j ∧ j < 200) ∨ (280 ≤ a ∧ a < 290)) → m' a j = m a j) (hs : rq_st m') (ht : rq_tp m') (hyc : rq_yc 52 Y m') (hyr : rq_yr 0 Y m') (hvy : rq_vy ρ Y) : rq_J r ρ (A.1, Y, A.2.2.1, A.2.2.2) (c + 1) m' := by
  obtain ⟨hC, hD, h7, hAc, hAr, hv, hcc, htp, hud, hmk⟩ := h
  refine ⟨⟨hs, hC.2.1, hC.2.2.1, rq_rc_fr hC.2.2.2 hC.2.2.1 (fun a j h1 h2 h3 h4 => z ?_)⟩, ⟨hs, hD.2.1, rq_rr_fr hD.2.2 (fun a j h1 h2 => z (by omega))⟩, ⟨by rw [z (by omega)]; exact h7.1, by rw [z (by omega)]; exact h7.2⟩, ⟨rq_sc_fr hAc.1 (z (by omega)) (fun w _ => z (by omega)) (fun w _ => z (by omega)), hyc, rq_zc_fr hAc.2.2.1 (fun a j h1 h2 => z (by omega)), fun w hw => by rw [z (by omega)]; exact hAc.2.2.2 w hw⟩, ⟨fun i hi => ?_, hyr, rq_zr_fr hAr.2.2.1 (fun a j h1 h2 => z (by omega)), fun w hw => by rw [z (by omega)]; exact hAr.2.2.2 w hw⟩, ⟨hv.1, hvy, hv.2.2.1, hv.2.2.2⟩, by show A.1 0 ≤ _; omega, ht, rq_ud_fr (Nat.le_succ c) hud (z (by omega)) (z (by omega)) (z (by omega)) (fun a j h1 h2 => z (by omega)) (fun j => z (by omega)), rq_mk_fr (Nat.le_succ c) hmk (fun a j h1 h2 => z (by omega)) (fun j => z (by omega)) (fun a j h1 h2 h3 h4 h5 => z (by omega)) (fun i hi => by rw [z (by omega)]; exact hmk.2 i (by omega))⟩
  · rcases hC.2.1 with rfl | rfl <;> omega
  · have := hAr.1 i hi
    rw [if_pos rfl] at this ⊢
    rw [z (by omega)]
    exact this
def rq_yp (ρ : rq_R) (s : Nat → Int) (n : Nat) : Nat → Nat → rq_Y → Int × rq_Y
  | 0 => fun _ Y => (0, Y)
  | f + 1 => fun b Y => if rq_kd s n b = 37 then (0, Y) else match rq_yl ρ s n b (Y 0 0) with
    | .inl q => (q.1 + 16 * (q.2 : Int), Y)
    | .inr q => rq_yp ρ s n f q.2 (rq_ya Y q.1)
theorem rq_yp_s (f b : Nat) (Y : rq_Y) : rq_yp ρ s n (f + 1) b Y = if rq_kd s n b = 37 then (0, Y) else match rq_yl ρ s n b (Y 0 0) with
    | .inl q => (q.1 + 16 * (q.2 : Int), Y)
    | .inr q => rq_yp ρ s n f q.2 (rq_ya Y q.1) := rfl
theorem rq_yl_v (hok : rq_okT s n) (hp : rq_bp s n b) (hv : rq_va ρ) {cnt : Int} : match rq_yl ρ s n b cnt with
    | .inl q => 1 ≤ q.1 ∧ q.1 ≤ 5
    | .inr q => rq_bp s n q.2 ∧ cnt ≠ 40 ∧ 0 ≤ q.1.1 ∧ q.1.1 ≤ 3 ∧ (q.1.1 ≠ 3 → 0 ≤ q.1.2.1 ∧ q.1.2.1 < ρ.1 0 0) ∧ (q.1.1 = 0 → 0 ≤ q.1.2.2 ∧ q.1.2.2 < ρ.1 0 1) := by
  have hb := hv.1
  have fin : ∀ (l : rq_Ln) (b1 : Nat), cnt ≠ 40 → (0 ≤ l.1 ∧ l.1 ≤ 3 ∧ (l.1 ≠ 3 → 0 ≤ l.2.1 ∧ l.2.1 < ρ.1 0 0) ∧ (l.1 = 0 → 0 ≤ l.2.2 ∧ l.2.2 < ρ.1 0 1)) → match rq_yfin s n l b1 with
      | .inl q => 1 ≤ q.1 ∧ q.1 ≤ 5
      | .inr q => rq_bp s n q.2 ∧ cnt ≠ 40 ∧ 0 ≤ q.1.1 ∧ q.1.1 ≤ 3 ∧ (q.1.1 ≠ 3 → 0 ≤ q.1.2.1 ∧ q.1.2.1 < ρ.1 0 0) ∧ (q.1.1 = 0 → 0 ≤ q.1.2.2 ∧ q.1.2.2 < ρ.1 0 1) := by
    intro l b1 hc hl
    unfold rq_yfin
    by_cases z : rq_kd s n b1 = 34
    · rw [if_pos z]
      exact ⟨rq_bp_nx (rq_kd_lt (s := s) (by omega)), hc, hl⟩
    · rw [if_neg z]
      exact ⟨by dsimp only; omega, by dsimp only; omega⟩
  unfold rq_yl
  by_cases z1 : 10 ≤ rq_kd s n b ∧ rq_kd s n b ≤ 13
  · rw [if_pos z1]
    by_cases z2 : cnt = 40
    · rw [if_pos z2]; exact ⟨by dsimp only; omega, by dsimp only; omega⟩
    · rw [if_neg z2]
      by_cases z3 : rq_kd s n b = 13
      · rw [if_pos z3]
        exact fin _ _ z2 ⟨by decide, by decide, fun q => absurd rfl q, fun q => absurd q (by decide)⟩
      · rw [if_neg z3]
        unfold rq_ywg
        by_cases z4 : rq_cnb s n (rq_nxp s n b) = true
        · rw [if_pos z4]
          have wb := rq_nw_b (ρ := ρ) (rq_vl s n (rq_nxp s n b))
          by_cases z5 : rq_nw ρ (rq_vl s n (rq_nxp s n b)) = -1
          · rw [if_pos z5]; exact ⟨by dsimp only; omega, by dsimp only; omega⟩
          · rw [if_neg z5]
            by_cases z6 : rq_kd s n b = 10
            · rw [if_pos z6]
              unfold rq_yhd
              by_cases z7 : rq_cnb s n (rq_nxp s n (rq_nxp s n b)) = true
              · rw [if_pos z7]
                have hb2 := rq_nh_b (ρ := ρ) (rq_vl s n (rq_nxp s n (rq_nxp s n b)))
                by_cases z8 : rq_nh ρ (rq_vl s n (rq_nxp s n (rq_nxp s n b))) = -1
                · rw [if_pos z8]; exact ⟨by dsimp only; omega, by dsimp only; omega⟩
                · rw [if_neg z8]
                  refine fin _ _ z2 ⟨Int.le_refl 0, show (0 : Int) ≤ 3 by decide, fun _ => ?_, fun _ => ?_⟩
                  · dsimp only; omega
                  · dsimp only; omega
              · rw [if_neg z7]; exact ⟨by dsimp only; omega, by dsimp only; omega⟩
            · rw [if_neg z6]
              refine fin _ _ z2 ⟨by dsimp only; omega, by dsimp only; omega, fun _ => ?_, fun q => ?_⟩
              · dsimp only; omega
              · exfalso
                have q' : rq_kd s n b - 10 = 0 := q
                omega
        · rw [if_neg z4]; exact ⟨by dsimp only; omega, by dsimp only; omega⟩
  · rw [if_neg z1]; exact ⟨by dsimp only; omega, by dsimp only; omega⟩
theorem rq_vy_ya (hv : rq_vy ρ Y) {l : rq_Ln} (h40 : Y 0 0 ≠ 40) (h1 : 0 ≤ l.1 ∧ l.1 ≤ 3 ∧ (l.1 ≠ 3 → 0 ≤ l.2.1 ∧ l.2.1 < ρ.1 0 0) ∧ (l.1 = 0 → 0 ≤ l.2.2 ∧ l.2.2 < ρ.1 0 1)) : rq_vy ρ (rq_ya Y l) ∧ rq_ya Y l 0 0 = Y 0 0 + 1 := by
  obtain ⟨a1, a2, a3⟩ := hv
  have e00 : rq_ya Y l 0 0 = Y 0 0 + 1 := by simp [rq_ya]
  refine ⟨⟨by omega, by omega, fun i hi => ?_⟩, e00⟩
  rw [e00] at hi
  have v1 : rq_ya Y l 1 i = if i = (Y 0 0).toNat then l.1 else Y 1 i := by simp [rq_ya]
  have v2 : rq_ya Y l 2 i = if i = (Y 0 0).toNat then l.2.1 else Y 2 i := by simp [rq_ya]
  have v3 : rq_ya Y l 3 i = if i = (Y 0 0).toNat then l.2.2 else Y 3 i := by simp [rq_ya]
  rw [v1, v2, v3]
  by_cases z : i = (Y 0 0).toNat
  · rw [if_pos z, if_pos z, if_pos z]
    exact h1
  · rw [if_neg z, if_neg z, if_neg z]
    exact a3 i (by omega)
def rq_Y0 : rq_Y := fun _ _ => 0
theorem rq_Y0_v : rq_vy ρ rq_Y0 := ⟨Int.le_refl 0, by show (0 : Int) ≤ 40; decide, fun i hi => by have : (i : Int) < 0 := hi; omega⟩
def rq_wYk (k j : Nat) : Bool := rq_wTk k j || rq_wYc k j
theorem rq_wYk_st : (rq_P.all fun p => !(rq_wYk p.1 p.2.1)) = true := by decide +kernel
theorem rq_wYk_c {k j : Nat} (h : rq_wYk k j = false) : rq_wYc k j = false := by
  unfold rq_wYk at h
  simp only [Bool.or_eq_false_iff] at h
  exact h.2
theorem rq_C_Yk (h : rq_C r ρ m) (k : rq_fr rq_wYk m m') : rq_C r ρ m' := by
  obtain ⟨hs, hr, hv, hc⟩ := h
  refine ⟨rq_st_fr hs k rq_wYk_st, hr, hv, rq_rc_fr hc hv (fun a j h1 h2 h3 h4 => k a j ?_)⟩
  unfold rq_wYk rq_wTk rq_wYc
  simp only [Bool.or_eq_false_iff, Bool.and_eq_false_iff, beq_eq_false_iff_ne]
  omega
/-- the class's reader begins -/
theorem q_start (hs : rq_st m) (ht : rq_tx s n m) (hok : rq_okT s n) : rq (f_X3_start ((47 : Nat) : Int) m) (fun m1 => rq_pc s n (rq_sk' s n 0) m1 ∧ rq_fr (fun k j => rq_wTk k j || (k == 47 && (j == 1 || j == 2))) m m1) := by
  unfold f_X3_start
  rw [q_g3, Option.bind_some, q_tap hs, q_gd8]
  refine rq_call (q_split hs ht hok) ?_
  rintro m1 ⟨⟨K, hK, hk, hst, hlt⟩, f1⟩
  rw [q_p3, Option.bind_some, q_p3, Option.bind_some]
  refine rq_some.mpr ⟨⟨0, K, ?_, Nat.zero_le K, hK, ⟨?_, fun i hi => ?_⟩, hst, hlt, rfl⟩, ((f1.mono (fun k j q => by simp only [Bool.or_eq_false_iff] at q; exact q.1)).up (by simp)).up (by simp)⟩
  · rw [q_up, if_neg (by omega), q_up, if_pos ⟨rfl, rfl⟩]; rfl
  · rw [q_up, if_neg (by omega), q_up, if_neg (by omega)]; exact hk.1
  · rw [q_up, if_neg (by omega), q_up, if_neg (by omega), q_up, if_neg (by omega), q_up, if_neg (by omega), q_up, if_neg (by omega), q_up, if_neg (by omega)]
    exact hk.2 i hi
theorem q_readYears (hC : rq_C r ρ m) (hb : rq_nmb ρ) (ht : rq_tx s n m) (hok : rq_okT s n) : rq (f_X3_readYears ((47 : Nat) : Int) (r : Int) ((111 : Nat) : Int) m) (fun p => p.1 = (rq_yp ρ s n 41 (rq_sk' s n 0) rq_Y0).1 ∧ (p.1 = 0 → rq_yc 111 (rq_yp ρ s n 41 (rq_sk' s n 0) rq_Y0).2 p.2) ∧ rq_fr rq_wYk m p.2) := by
  have hv := hC.2.2.1
  have y1 : (111 : Nat) ∈ rq_yL := by decide
  unfold f_X3_readYears
  refine rq_call (q_start hC.1 ht hok) ?_
  rintro m1 ⟨p1, f1⟩
  rw [q_pf10 y1, Option.bind_some]
  have f2 : rq_fr rq_wYk m (rt_up m1 111 0 0) := (f1.mono (fun k j q => by unfold rq_wYk rq_wYc at q; simp only [Bool.or_eq_false_iff] at q ⊢; exact ⟨q.1, q.2.1.1.1.1⟩)).up rfl
  have p2 : rq_pc s n (rq_sk' s n 0) (rt_up m1 111 0 0) := rq_pc_fr p1 (fun a j q => by rw [q_up, if_neg (by omega)])
  have y2 : rq_yc 111 rq_Y0 (rt_up m1 111 0 0) := ⟨by rw [q_up, if_pos ⟨rfl, rfl⟩]; rfl, fun i hi => by have : (i : Int) < 0 := hi; omega⟩
  generalize rt_up m1 111 0 0 = m2 at f2 p2 y2 ⊢
  refine rq_call (rq_up (Q := fun e => match e with
      | .inl x => (rq_yp ρ s n 41 (rq_sk' s n 0) rq_Y0).1 = 0 ∧ rq_yc 111 (rq_yp ρ s n 41 (rq_sk' s n 0) rq_Y0).2 x ∧ rq_fr rq_wYk m x
      | .inr q => q.1 = (rq_yp ρ s n 41 (rq_sk' s n 0) rq_Y0).1 ∧ q.1 ≠ 0 ∧ rq_fr rq_wYk m q.2) (fun i x => x.1 = (i : Int) ∧ (∃ b Y, i ≤ 40 ∧ Y 0 0 = (i : Int) ∧ rq_vy ρ Y ∧ rq_bp s n b ∧ rq_pc s n b x.2 ∧ rq_yc 111 Y x.2 ∧ rq_yp ρ s n (41 - i) b Y = rq_yp ρ s n 41 (rq_sk' s n 0) rq_Y0) ∧ rq_fr rq_wYk m x.2) 41 (by decide) ?_ ?_ ?_) ?_
  · rintro i ⟨x, mm⟩ hi ⟨e1, ⟨b, Y, i40, ey, vy, bp, pc, yc, er⟩, hf⟩
    dsimp only at e1 pc yc hf
    subst e1
    have hC1 := rq_C_Yk hC hf
    rw [show 41 - i = (40 - i) + 1 by omega, rq_yp_s] at er
    unfold b_X3_readYears_11
    dsimp only
    rw [if_neg (by omega), q_kind hC1.1 pc, Option.bind_some]
    by_cases z : rq_kd s n b = 37
    · rw [if_pos z] at er
      rw [if_pos z]
      refine rq_some.mpr (rq_inr ?_)
      dsimp only
      rw [← er]
      exact ⟨rfl, yc, hf⟩
    · rw [if_neg z] at er
      rw [if_neg z]
      have vl := rq_yl_v (b := b) (cnt := Y 0 0) hok bp hv
      refine rq_call (q_yline hC1 hb hok bp pc yc (by omega) (by omega)) ?_
      rintro ⟨v, m3⟩ ⟨f3, h3⟩
      dsimp only at f3 h3 ⊢
      have f3' : rq_fr rq_wYk m m3 := hf.trans (f3.mono (fun _ _ => rq_wYk_c))
      rcases h3 with ⟨k, q, ex, e0, ef⟩ | ⟨l, q, ex, e1, pc3, yc3⟩
      · rw [ex] at er vl
        dsimp only at er vl
        rw [if_pos e0, q_g3, Option.bind_some]
        refine rq_map.mpr (rq_some.mpr (rq_inr ?_))
        dsimp only
        rw [← er, ef]
        exact ⟨rfl, by omega, f3'⟩
      · rw [ex] at er vl
        dsimp only at er vl
        obtain ⟨v1, v2, v3⟩ := vl
        obtain ⟨w1, w2⟩ := rq_vy_ya vy v2 v3
        rw [if_neg (by omega), rq_n1 (by omega)]
        refine rq_some.mpr (rq_inl ⟨rfl, ⟨q, rq_ya Y l, by omega, by omega, w1, v1, pc3, yc3, ?_⟩, f3'⟩)
        rw [show 41 - (i + 1) = 40 - i by omega]
        exact er
  · rintro ⟨x, mm⟩ ⟨e1, ⟨b, Y, i40, -⟩, hf⟩
    omega
  · exact ⟨rfl, ⟨_, rq_Y0, by decide, rfl, rq_Y0_v, rq_bp_sk (Nat.zero_le n), p2, y2, rfl⟩, f2⟩
  · rintro (e | t) q
    · exact rq_some.mpr ⟨q.1.symm, fun _ => q.2.1, q.2.2⟩
    · exact rq_some.mpr ⟨q.1, fun w => absurd w q.2.1, q.2.2⟩
end
