/-! Layer 3: moths, the class -/
section
variable {r : Nat} {ρ : rq_R} {A : rq_A} {c : Nat} {m : rt_M} {S : rq_S}
def rq_vmo (ρ : rq_R) (S : rq_S) (n a : Int) : Int := if ¬ ((1 ≤ n ∧ n ≤ 4) ∧ 0 ≤ a ∧ a ≤ n) then -2 else if a = 0 then rq_os ρ (rt_ixor ((rq_wt ρ (rq_pn ρ S n.toNat) : Nat) : Int) (-1)) + rq_bs (rq_mo ρ S n.toNat) (rq_mg ρ S n.toNat) true n.toNat n.toNat 0 else rq_ch (rq_mo ρ S n.toNat) (rq_mg ρ S n.toNat) true n.toNat (a.toNat - 1) (rq_ss (rq_mo ρ S n.toNat) (rq_mg ρ S n.toNat) true n.toNat (a.toNat - 1))
theorem rq_os_bd (hv : rq_va ρ) (x : Int) : 0 ≤ rq_os ρ x ∧ rq_os ρ x ≤ 594 := by
  have a := rq_os_b hv x (ρ.1 0 0).toNat (Nat.le_refl _)
  have b := hv.1
  unfold rq_os
  omega
theorem q_moths11 (h : rq_J r ρ A c m) (hc : c < 800000) (n a : Int) : rq (f_X11_moths 41 n a m) (fun p => p.1 = rq_vmo ρ A.1 n a ∧ rq_fr rq_WQ m p.2) := by
  have hs := h.1.1
  have hb := h.1.2.2.1.1
  have hv := h.2.2.2.2.2.1.1
  have hcc := h.2.2.2.2.2.2.1
  unfold f_X11_moths j_X11_moths_19 j_X11_moths_196
  by_cases hn : (1 ≤ n ∧ n ≤ 4) ∧ 0 ≤ a ∧ a ≤ n
  · obtain ⟨n, rfl⟩ := Int.eq_ofNat_of_zero_le (show 0 ≤ n by omega)
    obtain ⟨a, rfl⟩ := Int.eq_ofNat_of_zero_le (show 0 ≤ a by omega)
    rw [if_neg (by omega), if_neg (by omega), if_neg (by omega), if_pos hn.2.2, q_rws hs, Option.bind_some, q_gd5]
    refine rq_call (q_begin hs (n := n) (by omega) 1 (Or.inr rfl)) ?_
    rintro m1 ⟨b1, b2, b3, b4⟩
    have f1 : rq_fr rq_WQ m m1 := b4.mono (fun _ _ => rq_WQ_N)
    have h1 := rq_J_fr h f1 (Nat.le_refl c)
    rw [q_tri h1.1.1, Option.bind_some, q_now h1.1.1, Option.bind_some, q_nst h1.1.1, Option.bind_some, q_gd7 q_b115]
    refine rq_call (q_scopy h1.1.1 q_b115 q_b49 (by decide) h1.2.2.2.1.1) ?_
    rintro m2 ⟨sc2, f2⟩
    have f2' : rq_fr rq_WQ m1 m2 := f2.mono (fun _ _ q => rq_wS_B (rq_WQ_115 q))
    have h2 := rq_J_fr h1 f2' (Nat.le_refl c)
    refine rq_call (q_moth47 h2 hc sc2 (n := n) (by omega) (a : Int) (fun i hi => by rw [f2 131 i rfl]; exact (b3 i hi).1)) ?_
    rintro m3 ⟨e3, sc3, f3⟩
    have f3' : rq_fr rq_WQ m2 m3 := f3.mono (fun _ _ => rq_WQ_M)
    have h3 := rq_J_fr h2 f3' (Nat.le_refl c)
    have pv := (rq_pn_v h.1.2.2.1 hv (by omega) n (by omega)).1
    rw [q_tri h3.1.1, Option.bind_some, q_told h3, Option.bind_some, q_gd7 q_b115, q_wornOut h3.1 ⟨q_b115, sc3, pv⟩, Option.bind_some]
    refine rq_call (q_moth90 h3 pv (n := n) (by omega) (a : Int) rfl) ?_
    rintro m4 ⟨e4, f4⟩
    have f4' : rq_fr rq_WQ m3 m4 := f4.mono (fun _ _ => rq_WQ_33)
    have h4 := rq_J_fr h3 f4' (Nat.le_refl c)
    have hp : rq_rwp (rq_mo ρ A.1 n) (rq_mg ρ A.1 n) true n m4 := by
      refine ⟨by rw [f4 130 0 rfl, f3 130 0 rfl, f2 130 0 rfl, b1], by rw [f4 130 1 rfl, f3 130 1 rfl, f2 130 1 rfl, b2, if_pos rfl], fun i hi => ⟨by rw [f4 131 i rfl]; exact e3 i hi, fun j hj ob => ?_⟩⟩
      by_cases z : i < n
      · unfold rq_mo at ob
        rw [if_pos z, rq_bn_tb] at ob
        simp only [Bool.and_eq_true, decide_eq_true_eq] at ob
        exact e4 i j z ob.1
      · unfold rq_mo at ob
        rw [if_neg z] at ob
        simp at ob
    rw [q_rws h4.1.1, Option.bind_some, q_gd5]
    refine rq_call (q_solve h4.1.1 hp (fun i => rq_mo_b h.1.2.2.1 n i) (fun i j => rq_mg_b h.1.2.2.1 n i j) (by omega) (fun i hi => by rw [f4 147 i rfl, f3 147 i rfl, f2 147 i rfl]; exact (b3 i hi).2)) ?_
    rintro ⟨v, m5⟩ ⟨e5, h5, f5⟩
    dsimp only at e5 h5 f5 ⊢
    have f5' : rq_fr rq_WQ m4 m5 := f5.mono (fun _ _ => rq_WQ_147)
    have hJ5 := rq_J_fr h4 f5' (Nat.le_refl c)
    have ff := (((f1.trans f2').trans f3').trans f4').trans f5'
    have bb := rq_bs_b (o := rq_mo ρ A.1 n) (g := rq_mg ρ A.1 n) (ag := true) (n := n) (fun i j => rq_mg_b h.1.2.2.1 n i j) n 0
    unfold rq_vmo
    rw [if_neg (show ¬ ¬ ((1 ≤ (n : Int) ∧ (n : Int) ≤ 4) ∧ 0 ≤ (a : Int) ∧ (a : Int) ≤ (n : Int)) from fun y => y hn), Int.toNat_natCast, Int.toNat_natCast]
    by_cases z : (a : Int) = 0
    · have ob := rq_os_bd h.1.2.2.1 (rt_ixor ((rq_wt ρ (rq_pn ρ A.1 n) : Nat) : Int) (-1))
      rw [if_pos z, if_pos z, q_told hJ5, Option.bind_some, q_gd4 hJ5.1, q_officeOfAll hJ5.1, Option.bind_some, e5, rq_iadd (by omega) (by omega)]
      exact rq_some.mpr ⟨rfl, ff⟩
    · rw [if_neg z, if_neg z, q_rws hJ5.1.1, Option.bind_some, q_gd5]
      unfold f_X5_chosen j_X5_chosen_20
      have ea : rt_isub (a : Int) 1 = ((a - 1 : Nat) : Int) := by rw [rq_isub (by omega) (by omega)]; omega
      rw [ea, if_neg (by omega), if_neg (by omega), q_g5, Option.bind_some, pt_130_5 hJ5.1.1, show (147 : Int) = ((147 : Nat) : Int) from rfl, q_al kd_147 ln_147 (show a - 1 < 6 by omega), Option.bind_some, h5 (a - 1) (by omega), if_pos (by omega), Option.bind_some]
      exact rq_some.mpr ⟨rfl, ff⟩
  · have e : rq_vmo ρ A.1 n a = -2 := by unfold rq_vmo; rw [if_pos hn]
    rw [e]
    by_cases z1 : n < 1
    · rw [if_pos z1]; exact rq_some.mpr ⟨rfl, rq_fr.rfl⟩
    · rw [if_neg z1]
      by_cases z2 : 4 < n
      · rw [if_pos z2]; exact rq_some.mpr ⟨rfl, rq_fr.rfl⟩
      · rw [if_neg z2]
        by_cases z3 : a < 0
        · rw [if_pos z3]; exact rq_some.mpr ⟨rfl, rq_fr.rfl⟩
        · rw [if_neg z3, if_neg (by omega)]; exact rq_some.mpr ⟨rfl, rq_fr.rfl⟩
end
