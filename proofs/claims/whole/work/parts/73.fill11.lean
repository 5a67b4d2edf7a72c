/-! Layer 3: fill, the reference's search, whole -/
section
variable {ρ : rq_R} {o : Nat → Nat}
theorem q_ffrom (ho : ∀ w, o w < 64) (hoH : ∀ w c, (ρ.1 0 1).toNat ≤ c → (o w).testBit c = false) : ∀ (k n i s : Nat) (sum : Int) (m : rt_M), k < n → i + k = (ρ.1 0 0).toNat → s < 64 → 0 ≤ sum → sum ≤ 1000 * i → rq_D ρ m → rq_ft ρ o m → rq (F_X12_fillsFrom n 248 (i : Int) (s : Int) sum m) (fun m' => rq_fz i (ρ.1 0 0).toNat (sum + rq_bs o (rq_fq ρ) false (ρ.1 0 0).toNat k s) (rq_rw o (rq_fq ρ) false (ρ.1 0 0).toNat k s) m m') := by
  intro k
  induction k with
  | zero =>
    intro n i s sum m hn hik hs h0 h1 hD hft
    obtain ⟨n, rfl⟩ : ∃ n', n = n' + 1 := ⟨n - 1, by omega⟩
    have hb := hD.2.1.1
    show rq (f_X12_fillsFrom (F_X12_fillsFrom n) 248 (i : Int) (s : Int) sum m) _
    unfold f_X12_fillsFrom
    rw [q_gfr, Option.bind_some, q_rn0 hD 0 rfl, Option.bind_some, if_pos (by omega), q_gfr, Option.bind_some]
    have tz : sum + rq_bs o (rq_fq ρ) false (ρ.1 0 0).toNat 0 s = sum := by show sum + 0 = sum; omega
    rw [tz]
    by_cases z : m 248 58 < sum
    · rw [if_pos z, q_pfr, Option.bind_some]
      have f1 : rq_fr rq_w90 m (rt_up m 248 58 sum) := rq_fr.rfl.up rfl
      refine rq_call (q_fleaf (rq_st_fr hD.1 f1 rq_w90_st) _) ?_
      rintro m1 ⟨b1, b2⟩
      refine rq_some.mpr ⟨fun _ => ⟨?_, fun w hw => ?_, fun w h1 h2 => by omega⟩, fun y => absurd z y, fun w hw => ?_, f1.trans (b2.mono (fun k j q => ?_))⟩
      · rw [b2 248 58 rfl, q_up, if_pos ⟨rfl, rfl⟩]
      · rw [b1 w (by omega), q_up, if_neg (by omega)]
      · rw [b2 290 w rfl, q_up, if_neg (by omega)]
      · unfold rq_w90 at q
        simp only [Bool.or_eq_false_iff] at q
        exact q.2
    · rw [if_neg z]
      exact rq_some.mpr ⟨fun y => absurd y z, fun _ => ⟨rfl, fun _ _ => rfl⟩, fun _ _ => rfl, rq_fr.rfl⟩
  | succ k ih =>
    intro n i s sum m hn hik hs h0 h1 hD hft
    obtain ⟨n, rfl⟩ : ∃ n', n = n' + 1 := ⟨n - 1, by omega⟩
    have hb := hD.2.1.1
    have hgq := rq_fq_b hD.2.1
    have hB : ∀ t, 0 ≤ rq_bs o (rq_fq ρ) false (ρ.1 0 0).toNat k t := fun t => (rq_bs_b hgq k t).1
    have ei : (ρ.1 0 0).toNat - 1 - k = i := by omega
    show rq (f_X12_fillsFrom (F_X12_fillsFrom n) 248 (i : Int) (s : Int) sum m) _
    unfold f_X12_fillsFrom
    rw [q_gfr, Option.bind_some, q_rn0 hD 0 rfl, Option.bind_some, if_neg (by omega)]
    refine rq_call (q_fstep hD hft ho hoH hik hs h0 h1 (F_X12_fillsFrom n) (fun s' sum' m1 a1 a2 a3 a4 a5 => ih n (i + 1) s' sum' m1 (by omega) (by omega) a1 a2 a3 a4 a5)) ?_
    rintro m1 ⟨hh, h290, hfr⟩
    have hD1 := rq_D_w90 hD hfr
    have hft1 := rq_ft_fr hft hfr
    rw [q_gfr, Option.bind_some, q_s8 (k := 290) _ 6 (pt_248_56 hD1.1) kd_290 ln_290 (by omega), Option.bind_some, rq_n1 (by omega)]
    have fm : rq_fr rq_w90 m1 (rt_up m1 290 i (-1)) := rq_fr.rfl.up rfl
    refine rq_call (ih n (i + 1) s sum _ (by omega) (by omega) hs h0 (by omega) (rq_D_w90 hD1 fm) (rq_ft_fr hft1 fm)) ?_
    rintro m2 ⟨g1, g2, g3, g4⟩
    have e290 : ∀ w, rt_up m1 290 i (-1) 290 w = if w = i then -1 else m1 290 w := fun w => by
      rw [q_up]; by_cases y : w = i
      · rw [if_pos ⟨rfl, y⟩, if_pos y]
      · rw [if_neg (fun q => y q.2), if_neg y]
    have e58 : rt_up m1 290 i (-1) 248 58 = m1 248 58 := rfl
    have e291 : ∀ w, rt_up m1 290 i (-1) 291 w = m1 291 w := fun w => rfl
    simp only [e58, e291] at g1 g2
    have hx := hB s
    have ebs : rq_bs o (rq_fq ρ) false (ρ.1 0 0).toNat (k + 1) s = if rq_bs o (rq_fq ρ) false (ρ.1 0 0).toNat k s < rq_mx (rq_th o (rq_fq ρ) false (rq_bs o (rq_fq ρ) false (ρ.1 0 0).toNat k) i s) (-1) (ρ.1 0 1).toNat then rq_mx (rq_th o (rq_fq ρ) false (rq_bs o (rq_fq ρ) false (ρ.1 0 0).toNat k) i s) (-1) (ρ.1 0 1).toNat else rq_bs o (rq_fq ρ) false (ρ.1 0 0).toNat k s := by
      show rq_mx (rq_th o (rq_fq ρ) false (rq_bs o (rq_fq ρ) false (ρ.1 0 0).toNat k) ((ρ.1 0 0).toNat - 1 - k) s) (rq_bs o (rq_fq ρ) false (ρ.1 0 0).toNat k s) 6 = _
      rw [ei, rq_mx_max (by omega)]
      have := rq_mx_ext (f := rq_th o (rq_fq ρ) false (rq_bs o (rq_fq ρ) false (ρ.1 0 0).toNat k) i s) (x := -1) (H := (ρ.1 0 1).toNat) (Int.le_refl _) (fun c hc => by unfold rq_th; rw [if_pos (Or.inl (hoH i c hc))]) (6 - (ρ.1 0 1).toNat)
      rw [show (ρ.1 0 1).toNat + (6 - (ρ.1 0 1).toNat) = 6 by omega] at this
      rw [this]
    have mle := rq_mx_le (f := rq_th o (rq_fq ρ) false (rq_bs o (rq_fq ρ) false (ρ.1 0 0).toNat k) i s) (x := -1) (ρ.1 0 1).toNat
    have mge := rq_mx_ge (f := rq_th o (rq_fq ρ) false (rq_bs o (rq_fq ρ) false (ρ.1 0 0).toNat k) i s) (x := -1) (ρ.1 0 1).toNat
    have hout : ∀ c, (ρ.1 0 1).toNat ≤ c → rq_th o (rq_fq ρ) false (rq_bs o (rq_fq ρ) false (ρ.1 0 0).toNat k) i s c = -1 := fun c hc => by unfold rq_th; rw [if_pos (Or.inl (hoH i c hc))]
    have ech : rq_ch o (rq_fq ρ) false (ρ.1 0 0).toNat i s = rq_fst (fun ch => rq_th o (rq_fq ρ) false (rq_bs o (rq_fq ρ) false (ρ.1 0 0).toNat k) i s ch == rq_bs o (rq_fq ρ) false (ρ.1 0 0).toNat (k + 1) s) 6 := by
      unfold rq_ch
      rw [show (ρ.1 0 0).toNat - 1 - i = k by omega, show (ρ.1 0 0).toNat - i = k + 1 by omega]
    have row : ∀ w, rq_rw o (rq_fq ρ) false (ρ.1 0 0).toNat (k + 1) s w = if w = i then rq_ch o (rq_fq ρ) false (ρ.1 0 0).toNat i s else rq_rw o (rq_fq ρ) false (ρ.1 0 0).toNat k (rq_nxt o (rq_fq ρ) false (ρ.1 0 0).toNat i s) w := fun w => by
      show (if w = (ρ.1 0 0).toNat - 1 - k then _ else _) = _
      rw [ei]
    generalize rq_th o (rq_fq ρ) false (rq_bs o (rq_fq ρ) false (ρ.1 0 0).toNat k) i s = F at *
    -- none is chosen
    have none' : rq_mx F (-1) (ρ.1 0 1).toNat < rq_bs o (rq_fq ρ) false (ρ.1 0 0).toNat k s → rq_ch o (rq_fq ρ) false (ρ.1 0 0).toNat i s = -1 := fun hlt => by
      rw [ech, ebs, if_neg (by omega)]
      refine rq_fst_none (fun j hj => ?_)
      by_cases y : j < (ρ.1 0 1).toNat
      · have := mle j y
        simp
        omega
      · have := hout j (by omega)
        simp
        omega
    have some' : ∀ c, c < 6 → F c = rq_mx F (-1) (ρ.1 0 1).toNat → (∀ d, d < c → F d < rq_mx F (-1) (ρ.1 0 1).toNat) → rq_bs o (rq_fq ρ) false (ρ.1 0 0).toNat k s ≤ rq_mx F (-1) (ρ.1 0 1).toNat → rq_ch o (rq_fq ρ) false (ρ.1 0 0).toNat i s = (c : Int) := fun c hc h1 h2 h3 => by
      have e : rq_bs o (rq_fq ρ) false (ρ.1 0 0).toNat (k + 1) s = rq_mx F (-1) (ρ.1 0 1).toNat := by rw [ebs]; split <;> omega
      rw [ech, e]
      refine rq_fst_some hc (by simp [h1]) (fun j hj => ?_)
      have := h2 j hj
      simp
      omega
    have lst : ∀ w, w < i → m2 290 w = m 290 w := fun w hw => by rw [g3 w (by omega), e290, if_neg (by omega), h290 w hw]
    refine rq_some.mpr ?_
    by_cases z : m1 248 58 < sum + rq_bs o (rq_fq ρ) false (ρ.1 0 0).toNat k s
    · obtain ⟨b1, b2, b3⟩ := g1 z
      have hlt : rq_mx F (-1) (ρ.1 0 1).toNat < rq_bs o (rq_fq ρ) false (ρ.1 0 0).toNat k s := by
        rcases hh with ⟨a1, a2, -⟩ | ⟨a1, a2, -⟩ <;> omega
      have c1 := none' hlt
      have et : rq_bs o (rq_fq ρ) false (ρ.1 0 0).toNat (k + 1) s = rq_bs o (rq_fq ρ) false (ρ.1 0 0).toNat k s := by rw [ebs, if_neg (by omega)]
      rw [et]
      have hlt2 : m 248 58 < sum + rq_bs o (rq_fq ρ) false (ρ.1 0 0).toNat k s := by
        rcases hh with ⟨a1, a2, -⟩ | ⟨a1, a2, -⟩ <;> omega
      refine ⟨fun _ => ⟨b1, fun w hw => ?_, fun w h1 h2 => ?_⟩, fun y => absurd hlt2 y, lst, (hfr.trans fm).trans g4⟩
      · rw [b2 w (by omega), e290, if_neg (by omega), h290 w hw]
      · rw [row, c1]
        by_cases y : w = i
        · rw [if_pos y, y, b2 i (by omega), e290, if_pos rfl]
        · rw [if_neg y, b3 w (by omega) h2]
          unfold rq_nxt
          rw [if_pos c1]
    · obtain ⟨b1, b2⟩ := g2 z
      rcases hh with ⟨a1, a2, cc, c1, c2, c3, c4, c5, c6⟩ | ⟨a1, a2, a3⟩
      · have c7 := some' cc (by omega) c2 c3 (by omega)
        have et : rq_bs o (rq_fq ρ) false (ρ.1 0 0).toNat (k + 1) s = rq_mx F (-1) (ρ.1 0 1).toNat := by rw [ebs]; split <;> omega
        rw [et]
        refine ⟨fun _ => ⟨by rw [b1, a2], fun w hw => ?_, fun w h1 h2 => ?_⟩, fun y => absurd a1.2 y, lst, (hfr.trans fm).trans g4⟩
        · rw [b2 w (by omega)]; exact c4 w hw
        · rw [row, b2 w (by omega)]
          by_cases y : w = i
          · rw [if_pos y, y, c7]; exact c5
          · rw [if_neg y, c6 w (by omega) h2]
            unfold rq_nxt
            rw [c7, if_neg (by omega), Int.toNat_natCast]
      · refine ⟨fun y => ?_, fun _ => ⟨by rw [b1, a2], fun w hw => by rw [b2 w hw]; exact a3 w hw⟩, lst, (hfr.trans fm).trans g4⟩
        rw [ebs] at y
        split at y <;> omega
end
