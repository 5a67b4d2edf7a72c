/-! Layer 3: judged -/
section
variable {r : Nat} {ρ : rq_R} {A : rq_A} {c : Nat} {m : rt_M} {S : rq_S} {Y : rq_Y}
/-- one line played -/
def rq_pl (ρ : rq_R) (Y : rq_Y) (i : Nat) (S : rq_S) : Int × rq_S :=
  if Y 1 i = 3 then (rq_cm ρ S, rq_ps ρ S)
  else if Y 1 i = 0 then (if rq_cp ρ S (Y 2 i).toNat (Y 3 i).toNat = 1 then (0, rq_at S (1 + (Y 2 i).toNat) (Y 3 i)) else (-1, S))
  else if Y 1 i = 1 then (if S (1 + (Y 2 i).toNat) = -1 then (-1, S) else (0, rq_at S (1 + (Y 2 i).toNat) (-1)))
  else (if S (1 + (Y 2 i).toNat) = -1 then (0, rq_at S (7 + (Y 2 i).toNat) 0) else (-1, S))
def rq_ju (ρ : rq_R) (Y : rq_Y) : Nat → Int × Int × rq_S
  | 0 => (-1, -1, rq_S0)
  | i + 1 => (if (rq_pl ρ Y i (rq_ju ρ Y i).2.2).1 = -1 ∧ (rq_ju ρ Y i).1 = -1 then (i : Int) else (rq_ju ρ Y i).1, if 0 < (rq_pl ρ Y i (rq_ju ρ Y i).2.2).1 ∧ (rq_ju ρ Y i).2.1 = -1 then (i : Int) else (rq_ju ρ Y i).2.1, (rq_pl ρ Y i (rq_ju ρ Y i).2.2).2)
theorem rq_cm0 (S : rq_S) : 0 ≤ rq_cm ρ S := (rq_sum_b (c := 1) (by decide) _ (fun i _ => by split <;> decide)).1
theorem rq_pl_v (hv : rq_va ρ) (vy : rq_vy ρ Y) {i : Nat} (hi : (i : Int) < Y 0 0) (hS : rq_vs ρ S) (h0 : S 0 < 899999) : rq_vs ρ (rq_pl ρ Y i S).2 ∧ (rq_pl ρ Y i S).2 0 ≤ S 0 + 1 ∧ -1 ≤ (rq_pl ρ Y i S).1 ∧ (Y 1 i ≠ 3 → (rq_pl ρ Y i S).1 ≤ 0) ∧ (Y 1 i = 3 → 0 ≤ (rq_pl ρ Y i S).1) := by
  obtain ⟨b1, b2, b3, b4⟩ := vy.2.2 i hi
  have hb := hv.1
  have c0 := rq_cm0 (ρ := ρ) S
  unfold rq_pl
  by_cases z3 : Y 1 i = 3
  · rw [if_pos z3]
    refine ⟨rq_vs_ps hv hS h0, ?_, ?_, fun q => absurd z3 q, fun _ => c0⟩
    · show rq_ps ρ S 0 ≤ _
      unfold rq_ps; rw [if_pos rfl]; omega
    · show -1 ≤ rq_cm ρ S
      omega
  · have b3 := b3 z3
    rw [if_neg z3]
    have w6 : (Y 2 i).toNat < 6 := by omega
    have wρ : (((Y 2 i).toNat : Nat) : Int) < ρ.1 0 0 := by omega
    by_cases z0 : Y 1 i = 0
    · have b4 := b4 z0
      rw [if_pos z0]
      by_cases z : rq_cp ρ S (Y 2 i).toNat (Y 3 i).toNat = 1
      · rw [if_pos z]
        refine ⟨rq_vs_at1 hS wρ w6 (by omega) b4.2, ?_, (by dsimp only; omega), fun _ => (by dsimp only; omega), fun q => absurd q z3⟩
        show (if 0 = 1 + (Y 2 i).toNat then _ else S 0) ≤ _
        rw [if_neg (by omega)]; omega
      · rw [if_neg z]
        exact ⟨hS, (by show S 0 ≤ _; omega), (by dsimp only; omega), fun _ => (by dsimp only; omega), fun q => absurd q z3⟩
    · rw [if_neg z0]
      by_cases z1 : Y 1 i = 1
      · rw [if_pos z1]
        by_cases z : S (1 + (Y 2 i).toNat) = -1
        · rw [if_pos z]
          exact ⟨hS, (by show S 0 ≤ _; omega), (by dsimp only; omega), fun _ => (by dsimp only; omega), fun q => absurd q z3⟩
        · rw [if_neg z]
          refine ⟨rq_vs_at1 hS wρ w6 (by decide) (by omega), ?_, (by dsimp only; omega), fun _ => (by dsimp only; omega), fun q => absurd q z3⟩
          show (if 0 = 1 + (Y 2 i).toNat then _ else S 0) ≤ _
          rw [if_neg (by omega)]; omega
      · rw [if_neg z1]
        by_cases z : S (1 + (Y 2 i).toNat) = -1
        · rw [if_pos z]
          refine ⟨rq_vs_at7 hS wρ w6, ?_, (by dsimp only; omega), fun _ => (by dsimp only; omega), fun q => absurd q z3⟩
          show (if 0 = 7 + (Y 2 i).toNat then _ else S 0) ≤ _
          rw [if_neg (by omega)]; omega
        · rw [if_neg z]
          exact ⟨hS, (by show S 0 ≤ _; omega), (by dsimp only; omega), fun _ => (by dsimp only; omega), fun q => absurd q z3⟩
theorem rq_S0_v (hv : rq_va ρ) : rq_vs ρ rq_S0 := by
  have hb := hv.1
  refine ⟨by decide, by decide, fun w hw => ?_⟩
  have e1 : rq_S0 (1 + w) = -1 := by unfold rq_S0; rw [if_pos (by omega)]
  have e2 : rq_S0 (7 + w) = 0 := by unfold rq_S0; rw [if_neg (by omega)]
  rw [e1, e2]
  exact ⟨⟨by decide, by omega, by decide, by decide⟩, fun _ => ⟨rfl, rfl⟩⟩
theorem rq_ju_v (hv : rq_va ρ) (vy : rq_vy ρ Y) : ∀ i : Nat, (i : Int) ≤ Y 0 0 → rq_vs ρ (rq_ju ρ Y i).2.2 ∧ (rq_ju ρ Y i).2.2 0 ≤ (i : Int) ∧ -1 ≤ (rq_ju ρ Y i).1 ∧ -1 ≤ (rq_ju ρ Y i).2.1
  | 0, _ => ⟨rq_S0_v hv, (by show rq_S0 0 ≤ 0; decide), (by show (-1 : Int) ≤ -1; decide), (by show (-1 : Int) ≤ -1; decide)⟩
  | i + 1, hi => by
    obtain ⟨a, b, d, e⟩ := rq_ju_v hv vy i (by omega)
    have hi40 := vy.2.1
    obtain ⟨f, g, -⟩ := rq_pl_v hv vy (i := i) (by omega) a (by omega)
    refine ⟨f, ?_, ?_, ?_⟩
    · show (rq_pl ρ Y i (rq_ju ρ Y i).2.2).2 0 ≤ _
      omega
    · show -1 ≤ (if _ then _ else _)
      split <;> omega
    · show -1 ≤ (if _ then _ else _)
      split <;> omega
theorem rq_wS_B {b k j : Nat} (q : rq_wS b k j = false) : rq_wB b k j = false := by
  unfold rq_wS at q; unfold rq_wB; simp only [Bool.or_eq_false_iff] at q ⊢; exact ⟨⟨q.1.1.2, q.1.2⟩, q.2⟩
theorem q_play (hC : rq_C r ρ m) (h : rq_Sc 115 ρ S m) (hy : rq_yc 52 Y m) (vy : rq_vy ρ Y) {i : Nat} (hi : (i : Int) < Y 0 0) : rq (f_X10_play ((52 : Nat) : Int) i r ((115 : Nat) : Int) m) (fun p => p.1 = (rq_pl ρ Y i S).1 ∧ rq_sc 115 (rq_pl ρ Y i S).2 p.2 ∧ rq_fr (rq_wS 115) m p.2) := by
  have hs := hC.1
  have hb := hC.2.2.1.1
  obtain ⟨k1, k2, k3⟩ := hy.2 i hi
  obtain ⟨b1, b2, b3, b4⟩ := vy.2.2 i hi
  have i40 : i < 40 := by have := vy.2.1; omega
  have y52 : (52 : Nat) ∈ rq_yL := by decide
  have k1 : m 53 i = 10 + Y 1 i := k1
  unfold f_X10_play
  rw [q_gf10 y52, Option.bind_some, pt_52_1 hs, show (53 : Int) = ((53 : Nat) : Int) from rfl, q_al kd_53 ln_53 i40, Option.bind_some, q_gf10 y52, Option.bind_some, pt_52_2 hs, show (54 : Int) = ((54 : Nat) : Int) from rfl, q_al kd_54 ln_54 i40, Option.bind_some, k1]
  unfold rq_pl
  by_cases z3 : Y 1 i = 3
  · rw [if_pos z3, if_pos (by omega), q_gd7 q_b115]
    refine rq_call (q_pass hC h) ?_
    rintro ⟨x, m1⟩ ⟨e, p1, p2⟩
    exact rq_some.mpr ⟨e, p1, p2⟩
  · have b3 := b3 z3
    have k2 : m 54 i = Y 2 i := k2 z3
    obtain ⟨w, hw⟩ := Int.eq_ofNat_of_zero_le b3.1
    rw [hw] at b3 k2
    have w6 : w < 6 := by omega
    rw [if_neg z3, if_neg (by omega), k2, hw, Int.toNat_natCast]
    by_cases z0 : Y 1 i = 0
    · have b4 := b4 z0
      have k3 : m 55 i = Y 3 i := k3 z0
      obtain ⟨k, hk⟩ := Int.eq_ofNat_of_zero_le b4.1
      rw [hk] at b4 k3
      rw [if_pos z0, if_pos (by omega), q_gf10 y52, Option.bind_some, pt_52_3 hs, show (55 : Int) = ((55 : Nat) : Int) from rfl, q_al kd_55 ln_55 i40, Option.bind_some, q_gd7 q_b115, k3, hk, Int.toNat_natCast]
      refine rq_call (q_canPut hC h b3.2 b4.2) ?_
      rintro ⟨x, m1⟩ ⟨e, hf⟩
      dsimp only at e hf ⊢
      subst e
      have fS : rq_fr (rq_wS 115) m m1 := hf.mono (fun _ _ => rq_wS_E)
      have sc1 : rq_sc 115 S m1 := rq_sc_fr h.2.1 (hf _ _ rfl) (fun w _ => hf _ _ rfl) (fun w _ => hf _ _ rfl)
      by_cases z : rq_cp ρ S w k = 0
      · rw [if_pos z, if_neg (by omega)]
        unfold j_X10_play_68 j_X10_play_95 j_X10_play_121
        rw [if_neg (by omega), if_neg (by omega)]
        exact rq_some.mpr ⟨rfl, sc1, fS⟩
      · have z1 : rq_cp ρ S w k = 1 := by unfold rq_cp at z ⊢; split at z <;> simp_all
        have hs1 := (rq_C_wE hC hf).1
        rw [if_neg z, if_pos z1, q_gf10 y52, Option.bind_some, pt_52_3 hs1, show (55 : Int) = ((55 : Nat) : Int) from rfl, q_al kd_55 ln_55 i40, Option.bind_some, q_gd7 q_b115, hf 55 i rfl, k3]
        refine rq_call (q_place hs1 (ρ := ρ) ⟨q_b115, sc1, h.2.2⟩ w6 (k : Int)) ?_
        rintro m2 ⟨p1, p2⟩
        exact rq_some.mpr ⟨rfl, p1, fS.trans p2⟩
    · rw [if_neg z0, if_neg (by omega)]
      unfold j_X10_play_68
      by_cases z1 : Y 1 i = 1
      · rw [if_pos z1, if_pos (by omega), q_gd7 q_b115]
        have e := q_canTakeOff hC h (w : Int)
        rw [Int.toNat_natCast] at e
        by_cases z : S (1 + w) = -1
        · rw [if_neg (fun q => q.2.2 z)] at e
          rw [e, Option.bind_some, if_pos rfl, if_pos z]
          unfold j_X10_play_95 j_X10_play_121
          rw [if_neg (by omega)]
          exact rq_some.mpr ⟨rfl, h.2.1, rq_fr.rfl⟩
        · rw [if_pos ⟨by omega, b3.2, z⟩] at e
          rw [e, Option.bind_some, if_neg (by decide), if_neg z, q_gd7 q_b115]
          refine rq_call (q_place hs h w6 (-1)) ?_
          rintro m2 ⟨p1, p2⟩
          exact rq_some.mpr ⟨rfl, p1, p2⟩
      · rw [if_neg z1, if_neg (by omega)]
        unfold j_X10_play_95 j_X10_play_121
        rw [if_pos (by omega), q_gd7 q_b115]
        have e := q_canMend hC h (w : Int)
        rw [Int.toNat_natCast] at e
        by_cases z : S (1 + w) = -1
        · rw [if_pos ⟨by omega, b3.2, z⟩] at e
          rw [e, Option.bind_some, if_neg (by decide), if_pos z, q_gd7 q_b115]
          refine rq_call (q_makeNew hs h w6) ?_
          rintro m2 ⟨p1, p2⟩
          exact rq_some.mpr ⟨rfl, p1, p2⟩
        · rw [if_neg (fun q => z q.2.2)] at e
          rw [e, Option.bind_some, if_pos rfl, if_neg z]
          exact rq_some.mpr ⟨rfl, h.2.1, rq_fr.rfl⟩
theorem q_goes (h : rq_D ρ m) (hS : rq_sr S m) (hv : rq_vs ρ S) (hy : rq_yr 0 Y m) (vy : rq_vy ρ Y) {i : Nat} (hi : (i : Int) < Y 0 0) (z3 : Y 1 i ≠ 3) : rq (f_X12_goes 248 i m) (fun p => (p.1 = if (rq_pl ρ Y i S).1 = -1 then 0 else 1) ∧ rq_sr (rq_pl ρ Y i S).2 p.2 ∧ rq_fr rq_wR m p.2) := by
  have hs := h.1
  have hb := h.2.1.1
  obtain ⟨k1, k2, k3⟩ := hy.2 i hi
  obtain ⟨b1, b2, b3, b4⟩ := vy.2.2 i hi
  have i40 : i < 40 := by have := vy.2.1; omega
  rw [show 40 * 0 + i = i by omega] at k1 k2 k3
  have b3 := b3 z3
  have k2 := k2 z3
  obtain ⟨w, hw⟩ := Int.eq_ofNat_of_zero_le b3.1
  rw [hw] at b3 k2
  have w6 : w < 6 := by omega
  have sr : ∀ {m' : rt_M} (q : Nat) (v : Int), rq_sr S m' → rq_sr (rq_at S q v) (rt_up m' 285 q v) := by
    intro m' q v hh j hj
    rw [q_up]
    unfold rq_at
    by_cases zz : j = q
    · rw [if_pos ⟨rfl, zz⟩, if_pos zz]
    · rw [if_neg (fun y => zz y.2), if_neg zz]; exact hh j hj
  unfold f_X12_goes j_X12_goes_107
  simp only [q_gfr, Option.bind_some]
  rw [q_a8 (k := 278) _ 240 (pt_248_43 hs) kd_278 ln_278 (by omega), Option.bind_some, q_a8 (k := 277) _ 240 (pt_248_42 hs) kd_277 ln_277 (by omega), Option.bind_some, k1, k2]
  unfold rq_pl
  rw [if_neg z3, hw, Int.toNat_natCast]
  by_cases z0 : Y 1 i = 0
  · have b4 := b4 z0
    have k3 := k3 z0
    obtain ⟨k, hk⟩ := Int.eq_ofNat_of_zero_le b4.1
    rw [hk] at b4 k3
    rw [if_pos z0, if_pos z0, q_a8 (k := 279) _ 240 (pt_248_44 hs) kd_279 ln_279 (by omega), Option.bind_some, k3, hk, Int.toNat_natCast]
    refine rq_call (q_rcanPut h hS hv b3.2 b4.2) ?_
    rintro ⟨x, m1⟩ ⟨e, hf⟩
    dsimp only at e hf ⊢
    subst e
    have fR : rq_fr rq_wR m m1 := hf.mono (fun k j q => by unfold rq_wR at q; simp only [Bool.or_eq_false_iff] at q; exact q.1)
    have sr1 : rq_sr S m1 := fun j hj => by rw [hf 285 j rfl]; exact hS j hj
    by_cases z : rq_cp ρ S w k = 0
    · rw [if_pos z, if_neg (show ¬ rq_cp ρ S w k = 1 by omega)]
      exact rq_some.mpr ⟨rfl, sr1, fR⟩
    · have z1 : rq_cp ρ S w k = 1 := by unfold rq_cp at z ⊢; split at z <;> simp_all
      have hs1 := (rq_D_wF h hf).1
      rw [if_neg z, if_pos z1, q_a8 (k := 279) _ 240 (pt_248_44 hs1) kd_279 ln_279 (by omega), Option.bind_some, hf 279 i rfl, k3, q_s9 (k := 285) _ _ 13 (1 + w) (pt_248_50 hs1) kd_285 ln_285 (rq_1n (by omega)) (by omega), Option.bind_some]
      exact rq_some.mpr ⟨rfl, sr (1 + w) k sr1, fR.up rfl⟩
  · rw [if_neg z0, if_neg z0, Option.bind_some]
    by_cases z1 : Y 1 i = 1
    · rw [if_pos z1, if_pos z1, q_ron hs hS w6, Option.bind_some]
      by_cases z : S (1 + w) = -1
      · rw [if_pos z, if_neg (by omega)]
        exact rq_some.mpr ⟨rfl, hS, rq_fr.rfl⟩
      · have := (hv.2.2 w w6).1
        rw [if_neg z, if_pos (by omega), q_s9 (k := 285) _ _ 13 (1 + w) (pt_248_50 hs) kd_285 ln_285 (rq_1n (by omega)) (by omega), Option.bind_some]
        exact rq_some.mpr ⟨rfl, sr (1 + w) (-1) hS, rq_fr.rfl.up rfl⟩
    · rw [if_neg z1, if_neg z1, q_ron hs hS w6, Option.bind_some]
      have hh := (hv.2.2 w w6).1
      by_cases z : S (1 + w) = -1
      · rw [if_pos z, if_pos (by omega), q_s9 (k := 285) _ _ 13 (7 + w) (pt_248_50 hs) kd_285 ln_285 (by rw [rq_iadd (by omega) (by omega)]; omega) (by omega), Option.bind_some]
        exact rq_some.mpr ⟨rfl, sr (7 + w) 0 hS, rq_fr.rfl.up rfl⟩
      · rw [if_neg z, if_neg (by omega)]
        exact rq_some.mpr ⟨rfl, hS, rq_fr.rfl⟩
end
