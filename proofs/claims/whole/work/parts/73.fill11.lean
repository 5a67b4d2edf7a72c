/-! Layer 3: fill, the reference's search, whole -/
section
variable {ρ : rq_R} {o : Nat → Nat}
theorem q_ffrom (ho : ∀ w, o w < 64) (hoH : ∀ w c, (ρ.1 0 1).toNat ≤ c → (o w).testBit c = false) : ∀ (k n i s : Nat) (sum : Int) (m : rt_M), k < n → i + k = (ρ.1 0 0).toNat → s < 64 → 0 ≤ sum → sum ≤ 1000 * i → rq_D ρ m → rq_ft ρ o m → rq (F_X12_fillsFrom n 248 (i : Int) (s : Int) sum m) (fun m' => rq_fz i (ρ.1 0 0).toNat (sum + rq_bs o (rq_fq ρ) false (ρ.1 0 0).toNat k s) (rq_rw o (rq_fq ρ) false (ρ.1 0 0).toNat k s) m m') := by
  intro k
  induction k with
  | zero =>
    intro n i s sum m hn hik hs h0 h1 hD hft
    obtain ⟨n, rfl⟩ : ∃ n', n = n' + 1 := ⟨n - 1, by omega⟩
    have hb := hD.2.1.1
    show rq (f_X12_fillsFrom (F_X12_fillsFrom n) 248 (i : Int) (s : Int) sum m) _
    unfold f_X12_fillsFrom
    rw [q_gfr, Option.bind_some, q_rn0 hD 0 rfl, Option.bind_some, if_pos (by omega), q_gfr, Option.bind_some]
    have tz : sum + rq_bs o (rq_fq ρ) false (ρ.1 0 0).toNat 0 s = sum := by show sum + 0 = sum; omega
    rw [tz]
    by_cases z : m 248 58 < sum
    · rw [if_pos z, q_pfr, Option.bind_some]
      have f1 : rq_fr rq_w90 m (rt_up m 248 58 sum) := rq_fr.rfl.up rfl
      refine rq_call (q_fleaf (rq_st_fr hD.1 f1 rq_w90_st) _) ?_
      rintro m1 ⟨b1, b2⟩
      refine rq_some.mpr ⟨⟨fun _ => ⟨?_, fun w hw => ?_, fun w h1 h2 => by omega⟩, fun y => absurd z y⟩, fun w hw => ?_, f1.trans (b2.mono (fun k j q => ?_))⟩
      · rw [b2 248 58 rfl, q_up, if_pos ⟨rfl, rfl⟩]
      · rw [b1 w (by omega), q_up, if_neg (by omega)]
      · rw [b2 290 w rfl, q_up, if_neg (by omega)]
      · unfold rq_w90 at q
        simp only [Bool.or_eq_false_iff] at q
        exact q.2
    · rw [if_neg z]
      exact rq_some.mpr ⟨⟨fun y => absurd y z, fun _ => ⟨rfl, fun _ _ => rfl⟩⟩, fun _ _ => rfl, rq_fr.rfl⟩
  | succ k ih =>
    intro n i s sum m hn hik hs h0 h1 hD hft
    obtain ⟨n, rfl⟩ : ∃ n', n = n' + 1 := ⟨n - 1, by omega⟩
    have hb := hD.2.1.1
    have hgq := rq_fq_b hD.2.1
    have hB : ∀ t, 0 ≤ rq_bs o (rq_fq ρ) false (ρ.1 0 0).toNat k t := fun t => (rq_bs_b hgq k t).1
    have ei : (ρ.1 0 0).toNat - 1 - k = i := by omega
    show rq (f_X12_fillsFrom (F_X12_fillsFrom n) 248 (i : Int) (s : Int) sum m) _
    unfold f_X12_fillsFrom
    rw [q_gfr, Option.bind_some, q_rn0 hD 0 rfl, Option.bind_some, if_neg (by omega)]
    refine rq_call (q_fstep hD hft ho hik hs h0 h1 (F_X12_fillsFrom n) (fun s' sum' m1 a1 a2 a3 a4 a5 => ih n (i + 1) s' sum' m1 (by omega) (by omega) a1 a2 a3 a4 a5)) ?_
    rintro m1 ⟨hh, h290, hfr⟩
    have hD1 := rq_D_w90 hD hfr
    have hft1 := rq_ft_fr hft hfr
    rw [q_gfr, Option.bind_some, q_s8 (k := 290) _ 6 (pt_248_56 hD1.1) kd_290 ln_290 (by omega), Option.bind_some, rq_n1 (by omega)]
    have fm : rq_fr rq_w90 m1 (rt_up m1 290 i (-1)) := rq_fr.rfl.up rfl
    refine rq_call (ih n (i + 1) s sum _ (by omega) (by omega) hs h0 (by omega) (rq_D_w90 hD1 fm) (rq_ft_fr hft1 fm)) ?_
    rintro m2 ⟨g1, g3, g4⟩
    have e290 : ∀ w, rt_up m1 290 i (-1) 290 w = if w = i then -1 else m1 290 w := fun w => by
      rw [q_up]; by_cases y : w = i
      · rw [if_pos ⟨rfl, y⟩, if_pos y]
      · rw [if_neg (fun q => y q.2), if_neg y]
    have hx := hB s
    have hout : ∀ c, (ρ.1 0 1).toNat ≤ c → rq_ftF ρ o (ρ.1 0 0).toNat k i s c = -1 := fun c hc => by unfold rq_ftF rq_th; rw [if_pos (Or.inl (hoH i c hc))]
    have ebs : rq_bs o (rq_fq ρ) false (ρ.1 0 0).toNat (k + 1) s = if rq_bs o (rq_fq ρ) false (ρ.1 0 0).toNat k s < rq_mx (rq_ftF ρ o (ρ.1 0 0).toNat k i s) (-1) (ρ.1 0 1).toNat then rq_mx (rq_ftF ρ o (ρ.1 0 0).toNat k i s) (-1) (ρ.1 0 1).toNat else rq_bs o (rq_fq ρ) false (ρ.1 0 0).toNat k s := by
      show rq_mx (rq_th o (rq_fq ρ) false (rq_bs o (rq_fq ρ) false (ρ.1 0 0).toNat k) ((ρ.1 0 0).toNat - 1 - k) s) (rq_bs o (rq_fq ρ) false (ρ.1 0 0).toNat k s) 6 = _
      rw [ei, rq_mx_max (by omega)]
      have := rq_mx_ext (f := rq_ftF ρ o (ρ.1 0 0).toNat k i s) (x := -1) (H := (ρ.1 0 1).toNat) (Int.le_refl _) hout (6 - (ρ.1 0 1).toNat)
      rw [show (ρ.1 0 1).toNat + (6 - (ρ.1 0 1).toNat) = 6 by omega] at this
      rw [← this]
      rfl
    have mle := rq_mx_le (f := rq_ftF ρ o (ρ.1 0 0).toNat k i s) (x := -1) (ρ.1 0 1).toNat
    have ech : rq_ch o (rq_fq ρ) false (ρ.1 0 0).toNat i s = rq_fst (fun ch => rq_ftF ρ o (ρ.1 0 0).toNat k i s ch == rq_bs o (rq_fq ρ) false (ρ.1 0 0).toNat (k + 1) s) 6 := by
      unfold rq_ch rq_ftF
      rw [show (ρ.1 0 0).toNat - 1 - i = k by omega, show (ρ.1 0 0).toNat - i = k + 1 by omega]
    have row : ∀ w, rq_rw o (rq_fq ρ) false (ρ.1 0 0).toNat (k + 1) s w = if w = i then rq_ch o (rq_fq ρ) false (ρ.1 0 0).toNat i s else rq_rw o (rq_fq ρ) false (ρ.1 0 0).toNat k (rq_nxt o (rq_fq ρ) false (ρ.1 0 0).toNat i s) w := fun w => by
      show (if w = (ρ.1 0 0).toNat - 1 - k then _ else _) = _
      rw [ei]
    refine rq_some.mpr ⟨rq_gj_last (cu' := rt_up m1 290 i (-1) 290) (by omega) hx (fun w hw => by rw [e290, if_neg (by omega), h290 w hw]) (by rw [e290, if_pos rfl]) ebs (fun hlt w h1 h2 => ?_) (fun c hc e1 e2 e3 w h1 h2 => ?_) hh g1, fun w hw => by rw [g3 w (by omega), e290, if_neg (by omega), h290 w hw], (hfr.trans fm).trans g4⟩
    · have hc1 : rq_ch o (rq_fq ρ) false (ρ.1 0 0).toNat i s = -1 := by
        rw [ech, ebs, if_neg (by omega)]
        refine rq_fst_none (fun j hj => ?_)
        by_cases y : j < (ρ.1 0 1).toNat
        · have := mle j y
          simp
          omega
        · have := hout j (by omega)
          simp
          omega
      rw [row, hc1]
      unfold rq_nxt
      rw [if_pos hc1]
    · have hc1 : rq_ch o (rq_fq ρ) false (ρ.1 0 0).toNat i s = (c : Int) := by
        have et : rq_bs o (rq_fq ρ) false (ρ.1 0 0).toNat (k + 1) s = rq_mx (rq_ftF ρ o (ρ.1 0 0).toNat k i s) (-1) (ρ.1 0 1).toNat := by rw [ebs]; split <;> omega
        rw [ech, et]
        refine rq_fst_some (by omega) (by simp [e1]) (fun j hj => ?_)
        have := e2 j hj
        simp
        omega
      rw [row, hc1]
      unfold rq_nxt
      rw [hc1, if_neg (show ¬ (c : Int) = -1 by omega), Int.toNat_natCast]
end
