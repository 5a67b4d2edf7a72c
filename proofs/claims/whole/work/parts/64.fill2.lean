/-! Layer 3: fill, the class's answer -/
section
variable {r : Nat} {ρ : rq_R} {A : rq_A} {c : Nat} {m : rt_M} {S : rq_S}
def rq_wN (k j : Nat) : Bool := (k == 130 && decide (j < 2)) || k == 131 || k == 147
theorem rq_wN_st : (rq_P.all fun p => !(rq_wN p.1 p.2.1)) = true := by decide +kernel
theorem rq_WQ_N {k j : Nat} (h : rq_WQ k j = false) : rq_wN k j = false := by
  have h := rq_WQ_C h
  unfold rq_WC at h
  unfold rq_wN
  simp only [Bool.or_eq_false_iff, Bool.and_eq_false_iff, beq_eq_false_iff_ne, decide_eq_false_iff_not] at h ⊢
  omega
theorem q_p5 (j : Nat) (v : Int) : rt_pf 5 j ((130 : Nat) : Int) v m = some (rt_up m 130 j v) := rfl
theorem q_begin (hs : rq_st m) {n : Nat} (hn : n ≤ 6) (b : Int) (hb : b = 0 ∨ b = 1) : rq (f_X5_begin ((130 : Nat) : Int) (n : Int) b m) (fun m1 => m1 130 0 = (n : Int) ∧ m1 130 1 = b ∧ (∀ i, i < 6 → m1 131 i = 0 ∧ m1 147 i = -1) ∧ rq_fr rq_wN m m1) := by
  unfold f_X5_begin
  have ez : rt_bz b = some b := by rcases hb with rfl | rfl <;> rfl
  have e6 : (if (n : Int) < 6 then (n : Int) else 6) = (n : Int) := by split <;> omega
  rw [q_min, Option.bind_some, e6, q_max, Option.bind_some, q_p5, Option.bind_some, ez, Option.bind_some, q_p5, Option.bind_some]
  have v : (if 0 < (n : Int) then (n : Int) else 0) = (n : Int) := by split <;> omega
  rw [v]
  have f1 : rq_fr rq_wN m (rt_up (rt_up m 130 0 (n : Int)) 130 1 b) := (rq_fr.rfl.up rfl).up rfl
  have e0 : rt_up (rt_up m 130 0 (n : Int)) 130 1 b 130 0 = (n : Int) := by rw [q_up, if_neg (by omega), q_up, if_pos ⟨rfl, rfl⟩]
  have e1 : rt_up (rt_up m 130 0 (n : Int)) 130 1 b 130 1 = b := by rw [q_up, if_pos ⟨rfl, rfl⟩]
  generalize rt_up (rt_up m 130 0 (n : Int)) 130 1 b = m1 at f1 e0 e1 ⊢
  have hs1 := rq_st_fr hs f1 rq_wN_st
  refine rq_call (rq_up (Q := fun m2 => (∀ i, i < 6 → m2 131 i = 0 ∧ m2 147 i = -1) ∧ rq_fr (fun k _ => k == 131 || k == 147) m1 m2) (fun i s => s.1 = (i : Int) ∧ (∀ j, j < i → s.2 131 j = 0 ∧ s.2 147 j = -1) ∧ rq_fr (fun k _ => k == 131 || k == 147) m1 s.2) 6 (by decide) ?_ ?_ (by exact ⟨rfl, fun j hj => absurd hj (Nat.not_lt_zero _), rq_fr.rfl⟩)) ?_
  · rintro i ⟨x, mm⟩ hi ⟨a1, a2, hf⟩
    dsimp only at a1 a2 hf
    subst a1
    have hs2 : rq_st mm := rq_st_fr hs1 hf (by decide +kernel)
    have f3 : rq_fr (fun k _ => k == 131 || k == 147) m1 (rt_up mm 131 i 0) := hf.up rfl
    have hs3 : rq_st (rt_up mm 131 i 0) := rq_st_fr hs1 f3 (by decide +kernel)
    unfold b_X5_begin_21
    dsimp only
    rw [if_neg (by omega), q_g5, Option.bind_some, pt_130_2 hs2, show (131 : Int) = ((131 : Nat) : Int) from rfl, q_sa kd_131 ln_131 hi, Option.bind_some, q_g5, Option.bind_some, pt_130_5 hs3, show (147 : Int) = ((147 : Nat) : Int) from rfl, q_sa kd_147 ln_147 hi, Option.bind_some, rq_n1 (by omega)]
    refine rq_some.mpr (rq_inl ⟨rfl, fun j hj => ⟨?_, ?_⟩, f3.up rfl⟩)
    · show rt_up (rt_up mm 131 i 0) 147 i (-1) 131 j = 0
      rw [q_up, if_neg (by omega), q_up]
      by_cases z : j = i
      · rw [if_pos ⟨rfl, z⟩]
      · rw [if_neg (fun y => z y.2)]; exact (a2 j (by omega)).1
    · show rt_up (rt_up mm 131 i 0) 147 i (-1) 147 j = -1
      rw [q_up]
      by_cases z : j = i
      · rw [if_pos ⟨rfl, z⟩]
      · rw [if_neg (fun y => z y.2), q_up, if_neg (by omega)]; exact (a2 j (by omega)).2
  · rintro ⟨x, mm⟩ ⟨a1, a2, hf⟩
    dsimp only at a1 a2 hf
    unfold b_X5_begin_21
    dsimp only
    rw [if_pos (by omega)]
    exact rq_some.mpr (rq_inre ⟨a2, hf⟩)
  · rintro m2 ⟨a2, hf⟩
    refine rq_some.mpr ⟨by rw [hf 130 0 rfl, e0], by rw [hf 130 1 rfl, e1], a2, f1.trans (hf.mono (fun k j q => ?_))⟩
    unfold rq_wN at q
    simp only [Bool.or_eq_false_iff] at q ⊢
    exact ⟨q.1.2, q.2⟩
/-- what may be laid on what, n seasons long -/
def rq_fo (ρ : rq_R) (S : rq_S) (n w : Nat) : Nat := if (w : Int) < ρ.1 0 0 ∧ S (7 + w) < 9 then rq_bn (fun k => rq_ftb ρ w k (S 0).toNat n) (ρ.1 0 1).toNat else 0
def rq_fq (ρ : rq_R) (w _k : Nat) : Int := if (w : Int) < ρ.1 0 0 then ρ.1 2 w else 0
theorem rq_fo_b (hv : rq_va ρ) (n w : Nat) : rq_fo ρ S n w < 64 := by
  have hb := hv.1
  unfold rq_fo
  split
  · have a := rq_bn_lt (fun k => rq_ftb ρ w k (S 0).toNat n) (ρ.1 0 1).toNat
    have h64 : 2 ^ (ρ.1 0 1).toNat ≤ 2 ^ 6 := Nat.pow_le_pow_right (by decide) (by omega)
    omega
  · decide
theorem rq_fq_b (hv : rq_va ρ) (w k : Nat) : 0 ≤ rq_fq ρ w k ∧ rq_fq ρ w k ≤ 1000 := by
  unfold rq_fq
  split
  · rename_i z
    have := hv.2.1 w z
    omega
  · decide
theorem q_fillG (h : rq_J r ρ A c m) (hc : c < 800000) {n : Nat} (hn : n ≤ 8) (a : Int) (h0 : ∀ i, i < 6 → m 131 i = 0) (e0 : m 130 0 = ρ.1 0 0) (e1 : m 130 1 = 0) : rq (rt_it (b_X11_fill_63 41 (n : Int) a ((rq_wt ρ A.1 : Nat) : Int)) 4000 (0, m)) (fun m1 => rq_rwp (rq_fo ρ A.1 n) (rq_fq ρ) false (ρ.1 0 0).toNat m1 ∧ rq_fr rq_wO m m1) := by
  have hb := h.1.2.2.1.1
  have hv := h.2.2.2.2.2.1.1
  have wt := rq_bn_lt (fun w => decide (9 ≤ A.1 (7 + w))) (ρ.1 0 0).toNat
  have h64 : 2 ^ (ρ.1 0 0).toNat ≤ 2 ^ 6 := Nat.pow_le_pow_right (by decide) (by omega)
  have wt6 : rq_wt ρ A.1 < 64 := by unfold rq_wt; omega
  refine rq_up (fun i s => s.1 = (i : Int) ∧ (∀ w, w < i → s.2 131 w = ((rq_fo ρ A.1 n w : Nat) : Int) ∧ ∀ j, j < 6 → (rq_fo ρ A.1 n w).testBit j = true → s.2 (133 + w) j = rq_fq ρ w j) ∧ (∀ w, i ≤ w → w < 6 → s.2 131 w = 0) ∧ rq_fr rq_wO m s.2) (ρ.1 0 0).toNat (by omega) ?_ ?_ (by exact ⟨rfl, fun j hj => absurd hj (Nat.not_lt_zero _), fun w _ hw => h0 w hw, rq_fr.rfl⟩)
  · rintro i ⟨x, mm⟩ hi ⟨a1, a2, a3, hf⟩
    dsimp only at a1 a2 a3 hf
    subst a1
    have hJ := rq_J_fr h (hf.mono (fun _ _ => rq_WQ_O)) (Nat.le_refl c)
    unfold b_X11_fill_63 j_X11_fill_91_63
    dsimp only
    rw [q_told hJ, Option.bind_some, q_gf4 hJ.1, Option.bind_some, hJ.1.2.2.2.1.1, if_neg (by omega), rq_tb (rq_wt ρ A.1) (by omega) i (by omega)]
    have tb : (rq_wt ρ A.1).testBit i = decide (9 ≤ A.1 (7 + i)) := by
      unfold rq_wt
      rw [rq_bn_tb]
      simp [hi]
    by_cases z : 9 ≤ A.1 (7 + i)
    · have fo : rq_fo ρ A.1 n i = 0 := by unfold rq_fo; rw [if_neg (by omega)]
      rw [show (if (rq_wt ρ A.1).testBit i = true then (1 : Int) else 0) = 1 from if_pos (by rw [tb]; simpa using z), if_neg (by decide), rq_n1 (by omega)]
      refine rq_some.mpr (rq_inl ⟨rfl, fun w hw => ?_, fun w h1 h2 => a3 w (by omega) h2, hf⟩)
      by_cases y : w = i
      · rw [y, fo]
        exact ⟨a3 i (Nat.le_refl i) (by omega), fun j _ ob => absurd ob (by simp)⟩
      · exact a2 w (by omega)
    · have fo : rq_fo ρ A.1 n i = rq_bn (fun k => rq_ftb ρ i k (A.1 0).toNat n) (ρ.1 0 1).toNat := by unfold rq_fo; rw [if_pos (by omega)]
      rw [show (if (rq_wt ρ A.1).testBit i = true then (1 : Int) else 0) = 0 from if_neg (by rw [tb]; simpa using z), if_pos rfl]
      refine rq_call (q_openHeads hJ hc (w := i) (by omega) hn (a3 i (Nat.le_refl i) (by omega))) ?_
      rintro m2 ⟨b1, b2, b3, b4, b5⟩
      rw [rq_n1 (by omega)]
      refine rq_some.mpr (rq_inl ⟨rfl, fun w hw => ?_, fun w h1 h2 => ?_, hf.trans b5⟩)
      · show m2 131 w = _ ∧ _
        by_cases y : w = i
        · rw [y, fo]
          refine ⟨b1, fun j hj ob => ?_⟩
          rw [rq_bn_tb] at ob
          simp only [Bool.and_eq_true, decide_eq_true_eq] at ob
          show m2 (133 + i) j = _
          rw [b3 j (by omega) ob.2]
          unfold rq_fq
          rw [if_pos (by omega)]
        · refine ⟨by rw [b2 w y]; exact (a2 w (by omega)).1, fun j hj ob => ?_⟩
          show m2 (133 + w) j = _
          rw [b4 w j y]
          exact (a2 w (by omega)).2 j hj ob
      · show m2 131 w = 0
        rw [b2 w (by omega)]
        exact a3 w (by omega) h2
  · rintro ⟨x, mm⟩ ⟨a1, a2, a3, hf⟩
    dsimp only at a1 a2 a3 hf
    have hJ := rq_J_fr h (hf.mono (fun _ _ => rq_WQ_O)) (Nat.le_refl c)
    unfold b_X11_fill_63
    dsimp only
    rw [q_told hJ, Option.bind_some, q_gf4 hJ.1, Option.bind_some, hJ.1.2.2.2.1.1, if_pos (by omega)]
    refine rq_some.mpr (rq_inre ⟨⟨?_, ?_, fun i hi => ?_⟩, hf⟩)
    · rw [hf 130 0 rfl, e0]; omega
    · rw [hf 130 1 rfl, e1]; rfl
    · by_cases z : i < (ρ.1 0 0).toNat
      · exact a2 i z
      · have fo : rq_fo ρ A.1 n i = 0 := by unfold rq_fo; rw [if_neg (by omega)]
        rw [fo]
        exact ⟨a3 i (by omega) hi, fun j _ ob => absurd ob (by simp)⟩
end
