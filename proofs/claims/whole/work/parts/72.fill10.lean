/-! Layer 3: fill, the reference's search, by the steps left -/
section
variable {ρ : rq_R} {m : rt_M} {o : Nat → Nat}
/-- the search from step i on, t the most there, R its row -/
def rq_fz (i N : Nat) (t : Int) (R : Nat → Int) (m m' : rt_M) : Prop := rq_gz i N t R (m 290) (m 248 58) (m 291) (m' 248 58) (m' 291) ∧ (∀ w, w < i → m' 290 w = m 290 w) ∧ rq_fr rq_w90 m m'
def rq_ftF (ρ : rq_R) (o : Nat → Nat) (N k i s : Nat) : Nat → Int := rq_th o (rq_fq ρ) false (rq_bs o (rq_fq ρ) false N k) i s
/-- the heads of step i below j tried -/
def rq_fj (ρ : rq_R) (o : Nat → Nat) (N k i s j : Nat) (sum : Int) (m m' : rt_M) : Prop :=
  rq_gj (rq_ftF ρ o N k i s) (fun c => rq_rw o (rq_fq ρ) false N k (s ||| 2 ^ c)) i N j sum (m 290) (m 248 58) (m 291) (m' 248 58) (m' 291) ∧ (∀ w, w < i → m' 290 w = m 290 w) ∧ rq_fr rq_w90 m m'
theorem q_fstep (hD : rq_D ρ m) (hf : rq_ft ρ o m) (ho : ∀ w, o w < 64) {k i s : Nat} {sum : Int} (hik : i + (k + 1) = (ρ.1 0 0).toNat) (hs : s < 64) (h0 : 0 ≤ sum) (h1 : sum ≤ 1000 * i) (f : Int → Int → Int → Int → rt_M → Option rt_M)
    (ih : ∀ (s' : Nat) (sum' : Int) (m1 : rt_M), s' < 64 → 0 ≤ sum' → sum' ≤ 1000 * (i + 1 : Nat) → rq_D ρ m1 → rq_ft ρ o m1 → rq (f 248 ((i + 1 : Nat) : Int) (s' : Int) sum' m1) (fun m' => rq_fz (i + 1) (ρ.1 0 0).toNat (sum' + rq_bs o (rq_fq ρ) false (ρ.1 0 0).toNat k s') (rq_rw o (rq_fq ρ) false (ρ.1 0 0).toNat k s') m1 m')) :
    rq (rt_it (b_X12_fillsFrom_58 f 248 (i : Int) (s : Int) sum) 4000 (0, m)) (fun m' => rq_fj ρ o (ρ.1 0 0).toNat k i s (ρ.1 0 1).toNat sum m m') := by
  have hb := hD.2.1.1
  have i6 : i < 6 := by omega
  have hgq := rq_fq_b hD.2.1
  have hB : ∀ t, 0 ≤ rq_bs o (rq_fq ρ) false (ρ.1 0 0).toNat k t := fun t => (rq_bs_b hgq k t).1
  refine rq_up (fun j t => t.1 = (j : Int) ∧ rq_fj ρ o (ρ.1 0 0).toNat k i s j sum m t.2) (ρ.1 0 1).toNat (by omega) ?_ ?_ ?_
  · rintro j ⟨x, mm⟩ hj ⟨e1, hh, h290, hfr⟩
    dsimp only at e1 hh h290 hfr
    subst e1
    have hD1 := rq_D_w90 hD hfr
    have hf1 := rq_ft_fr hf hfr
    have hs1 := hD1.1
    have skip : rq_ftF ρ o (ρ.1 0 0).toNat k i s j = -1 → rq (j_X12_fillsFrom_126_58 f 248 (i : Int) (s : Int) sum (j : Int) mm) (fun t => (∀ s', t = .inl s' → s'.1 = ((j + 1 : Nat) : Int) ∧ rq_fj ρ o (ρ.1 0 0).toNat k i s (j + 1) sum m s'.2) ∧ ∀ e, t = .inr e → rq_fj ρ o (ρ.1 0 0).toNat k i s (ρ.1 0 1).toNat sum m e) := by
      intro e
      unfold j_X12_fillsFrom_126_58
      rw [rq_n1 (by omega)]
      exact rq_some.mpr (rq_inl ⟨rfl, rq_gj_skip e hh, h290, hfr⟩)
    unfold b_X12_fillsFrom_58
    dsimp only
    rw [q_gfr, Option.bind_some, q_rn1 hD1 1 rfl, Option.bind_some, if_neg (by omega), rq_tb s (by omega) j (by omega)]
    by_cases z1 : s.testBit j = true
    · rw [if_pos z1, if_pos rfl]
      exact skip (by unfold rq_ftF rq_th; rw [if_pos (Or.inr ⟨z1, rfl⟩)])
    rw [if_neg z1, if_neg (by decide), q_gfr, Option.bind_some, rq_imul (by omega) (by omega), rq_iadd (by omega) (by omega), pt_248_60 hs1, show (292 : Int) = ((292 : Nat) : Int) from rfl, show 6 * (i : Int) + (j : Int) = ((6 * i + j : Nat) : Int) by omega, q_al kd_292 ln_292 (by omega), Option.bind_some, hf1 i j (by omega) hj]
    by_cases z2 : (o i).testBit j = true
    · have s1 : rq_st (rt_up mm 290 i (j : Int)) := rq_st_fr (W := rq_w90) hs1 (rq_fr.rfl.up rfl) rq_w90_st
      have fm : rq_fr rq_w90 mm (rt_up mm 290 i (j : Int)) := rq_fr.rfl.up rfl
      have hof : (i : Int) < ρ.1 0 0 := by omega
      have o3 : rt_up mm 290 i (j : Int) 254 i = ρ.1 2 i := (hD1.2.2.2.1 i hof).2.1
      have gq : rq_fq ρ i j = ρ.1 2 i := by unfold rq_fq; rw [if_pos hof]
      have gb := hgq i j
      have th : rq_ftF ρ o (ρ.1 0 0).toNat k i s j = ρ.1 2 i + rq_bs o (rq_fq ρ) false (ρ.1 0 0).toNat k (s ||| 2 ^ j) := by
        unfold rq_ftF rq_th
        rw [if_neg (by simp [z1, z2]), if_neg z1, gq]
      have os : s ||| 2 ^ j < 64 := Nat.or_lt_two_pow (n := 6) hs (by have : 2 ^ j < 2 ^ 6 := Nat.pow_lt_pow_right (by decide) (by omega); omega)
      rw [if_pos z2, if_neg (by decide), q_gfr, Option.bind_some, q_s8 (k := 290) _ 6 (pt_248_56 hs1) kd_290 ln_290 i6, Option.bind_some, q_gfr, Option.bind_some, q_a8 (k := 254) _ 12 (pt_248_14 s1) kd_254 ln_254 (by omega), Option.bind_some, o3, rq_n1 (by omega), rq_sb s (by omega) j (by omega), rq_iadd (by omega) (by omega)]
      refine rq_call (ih _ _ _ os (by omega) (by omega) (rq_D_w90 hD1 fm) (rq_ft_fr hf1 fm)) ?_
      rintro m2 ⟨g1, g3, g4⟩
      unfold j_X12_fillsFrom_126_58
      rw [rq_n1 (by omega)]
      have e290 : ∀ w, rt_up mm 290 i (j : Int) 290 w = if w = i then (j : Int) else mm 290 w := fun w => by
        rw [q_up]; by_cases y : w = i
        · rw [if_pos ⟨rfl, y⟩, if_pos y]
        · rw [if_neg (fun q => y q.2), if_neg y]
      have hBj := hB (s ||| 2 ^ j)
      have g1' : rq_gz (i + 1) (ρ.1 0 0).toNat (sum + rq_ftF ρ o (ρ.1 0 0).toNat k i s j) (rq_rw o (rq_fq ρ) false (ρ.1 0 0).toNat k (s ||| 2 ^ j)) (rt_up mm 290 i (j : Int) 290) (mm 248 58) (mm 291) (m2 248 58) (m2 291) := by
        rw [th, ← Int.add_assoc]
        exact g1
      refine rq_some.mpr (rq_inl ⟨rfl, rq_gj_step (cu' := rt_up mm 290 i (j : Int) 290) (by omega) (by omega) (fun w hw => by rw [e290, if_neg (by omega), h290 w hw]) (by rw [e290, if_pos rfl]) hh g1', fun w hw => ?_, (hfr.trans fm).trans g4⟩)
      dsimp only
      rw [g3 w (by omega), e290, if_neg (by omega), h290 w hw]
    · rw [if_neg z2, if_pos rfl]
      exact skip (by unfold rq_ftF rq_th; rw [if_pos (Or.inl (by simpa using z2))])
  · rintro ⟨x, mm⟩ ⟨e1, hh⟩
    dsimp only at e1 hh
    subst e1
    have hD1 := rq_D_w90 hD hh.2.2
    unfold b_X12_fillsFrom_58
    dsimp only
    rw [q_gfr, Option.bind_some, q_rn1 hD1 1 rfl, Option.bind_some, if_pos (by omega)]
    exact rq_some.mpr (rq_inre hh)
  · exact ⟨rfl, rq_gj_0, fun _ _ => rfl, rq_fr.rfl⟩
end
