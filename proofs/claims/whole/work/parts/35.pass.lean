/-! Layer 3: seasons, sets of wigs, copies -/
section
variable {r b b2 : Nat} {ρ : rq_R} {S S2 : rq_S} {m : rt_M}
theorem rq_ps_on {w : Nat} (hw : w < 6) : rq_ps ρ S (1 + w) = if ((w : Nat) : Int) < ρ.1 0 0 ∧ rq_fl ρ S w = true then -1 else S (1 + w) := by
  unfold rq_ps; rw [if_neg (by omega), if_pos (by omega), show 1 + w - 1 = w by omega]
theorem rq_ps_wr {w : Nat} : rq_ps ρ S (7 + w) = if ((w : Nat) : Int) < ρ.1 0 0 then rq_wr S w else S (7 + w) := by
  unfold rq_ps; rw [if_neg (by omega), if_neg (by omega), show 7 + w - 7 = w by omega]
theorem q_pass1 (hC : rq_C r ρ m) (h : rq_Sc b ρ S m) : rq (rt_it (b_X7_pass_2 b r) 4000 (0, m)) (fun m1 => rq_fr (fun k _ => k == b + 2) m m1 ∧ ∀ w, w < 6 → m1 (b + 2) w = rq_ps ρ S (7 + w)) := by
  obtain ⟨hb, hc, hv⟩ := h
  obtain ⟨k0, k1, l1, k2, l2, p1, p2⟩ := (q_sbk b hb).1
  have hv0 := hC.2.2.1.1
  have hz := (q_sbk b hb).2
  have fw : ∀ {m' : rt_M}, rq_fr (fun k _ => k == b + 2) m m' → rq_fr (rq_wS b) m m' := fun h => h.mono (fun k j q => by
    unfold rq_wS at q; simp only [Bool.or_eq_false_iff] at q; exact q.2)
  refine rq_up (fun i s => s.1 = (i : Int) ∧ rq_fr (fun k _ => k == b + 2) m s.2 ∧ ∀ w, w < 6 → s.2 (b + 2) w = if w < i then rq_ps ρ S (7 + w) else S (7 + w)) (ρ.1 0 0).toNat (by omega) ?_ ?_ ⟨rfl, rq_fr.rfl, fun w hw => by rw [if_neg (by omega)]; exact (hc.2 w hw).2⟩
  · rintro i ⟨x, mm⟩ hi ⟨e1, hf, hw⟩
    dsimp only at e1 hf hw
    subst e1
    have hC1 := rq_C_wS hb hC (fw hf)
    have hi6 : i < 6 := by omega
    unfold b_X7_pass_2
    dsimp only
    rw [q_gf4 hC1, Option.bind_some, hC1.2.2.2.1.1, if_neg (by omega), q_gf7 hb, Option.bind_some, q_pt hC1.1 p1, q_al k1 l1 hi6, Option.bind_some, hf (b + 1) i (by simp), (hc.2 i hi6).1]
    have hp := @rq_ps_wr ρ S i
    rw [if_pos (by omega)] at hp
    unfold rq_wr at hp
    have hu := (hv.2.2 i hi6).1
    by_cases q : S (1 + i) = -1
    · rw [if_pos q] at hp
      have hwi := hw i hi6
      rw [if_neg (Nat.lt_irrefl i)] at hwi
      rw [if_pos q, q_gf7 hb, Option.bind_some, Option.bind_some, q_pt hC1.1 p2, q_al k2 l2 hi6, Option.bind_some, hwi, rq_iadd (by omega) (by omega), q_min, Option.bind_some, ← hp, q_sa k2 l2 hi6, Option.bind_some]
      unfold j_X7_pass_39_2
      rw [rq_n1 (by omega)]
      refine rq_some.mpr (rq_inl ⟨rfl, hf.up (by simp), fun w h6 => ?_⟩)
      show rt_up mm (b + 2) i (rq_ps ρ S (7 + i)) (b + 2) w = _
      rw [q_up]
      by_cases z : w = i
      · subst z; rw [if_pos ⟨rfl, rfl⟩, if_pos (by omega)]
      · rw [if_neg (by omega), hw w h6]
        by_cases z2 : w < i
        · rw [if_pos z2, if_pos (by omega)]
        · rw [if_neg z2, if_neg (by omega)]
    · rw [if_neg q] at hp
      rw [if_neg q]
      unfold j_X7_pass_39_2
      rw [rq_n1 (by omega)]
      refine rq_some.mpr (rq_inl ⟨rfl, hf, fun w h6 => ?_⟩)
      show mm (b + 2) w = _
      rw [hw w h6]
      by_cases z : w = i
      · subst z; rw [if_neg (by omega), if_pos (by omega), hp]
      · by_cases z2 : w < i
        · rw [if_pos z2, if_pos (by omega)]
        · rw [if_neg z2, if_neg (by omega)]
  · rintro ⟨x, mm⟩ ⟨e1, hf, hw⟩
    dsimp only at e1 hf hw
    subst e1
    have hC1 := rq_C_wS hb hC (fw hf)
    unfold b_X7_pass_2
    dsimp only
    rw [q_gf4 hC1, Option.bind_some, hC1.2.2.2.1.1, if_pos (by omega)]
    refine rq_some.mpr (rq_inre ⟨hf, fun w h6 => ?_⟩)
    rw [hw w h6]
    by_cases z : w < (ρ.1 0 0).toNat
    · rw [if_pos z]
    · rw [if_neg z, rq_ps_wr, if_neg (by omega)]
theorem q_pass (hC : rq_C r ρ m) (h : rq_Sc b ρ S m) : rq (f_X7_pass b r m) (fun p => p.1 = rq_cm ρ S ∧ rq_sc b (rq_ps ρ S) p.2 ∧ rq_fr (rq_wS b) m p.2) := by
  have h0 := h
  obtain ⟨hb, hc, hv⟩ := h
  obtain ⟨k0, k1, l1, k2, l2, p1, p2⟩ := (q_sbk b hb).1
  have hv0 := hC.2.2.1.1
  have hz := (q_sbk b hb).2
  have s0 := hv.1
  have s1 := hv.2.1
  have fw : ∀ {m m' : rt_M}, rq_fr (fun k _ => k == b + 2) m m' → rq_fr (rq_wS b) m m' := fun h => h.mono (fun k j q => by
    unfold rq_wS at q; simp only [Bool.or_eq_false_iff] at q; exact q.2)
  unfold f_X7_pass
  refine rq_call (q_pass1 hC h0) ?_
  rintro m1 ⟨hf, hw⟩
  have b0 : m1 b 0 = S 0 := by rw [hf b 0 (by simp)]; exact hc.1
  rw [q_gf7 hb, Option.bind_some, q_pf7 hb, Option.bind_some, b0, rq_iadd (by omega) (by omega)]
  have hf2 : rq_fr (rq_wS b) m (rt_up m1 b 0 (S 0 + 1)) := (fw hf).up (by unfold rq_wS; simp)
  refine rq_call (rq_up (Q := fun e => e.1 = rq_cm ρ S ∧ rq_sc b (rq_ps ρ S) e.2 ∧ rq_fr (rq_wS b) m e.2) (fun i s => s.2.1 = (i : Int) ∧ s.1 = rq_sum (fun w => if rq_fl ρ S w = true then 1 else 0) i ∧ rq_fr (rq_wS b) m s.2.2 ∧ s.2.2 b 0 = S 0 + 1 ∧ (∀ w, w < 6 → s.2.2 (b + 1) w = if w < i then rq_ps ρ S (1 + w) else S (1 + w)) ∧ ∀ w, w < 6 → s.2.2 (b + 2) w = rq_ps ρ S (7 + w)) (ρ.1 0 0).toNat (by omega) ?_ ?_ ⟨rfl, rfl, hf2, ?_, fun w hw6 => ?_, fun w hw6 => ?_⟩) ?_
  · rintro i ⟨x, y, mm⟩ hi ⟨e1, e2, hf, g0, g1, g2⟩
    dsimp only at e1 e2 hf g0 g1 g2
    subst e1 e2
    have hC1 := rq_C_wS hb hC hf
    have hi6 : i < 6 := by omega
    have hcnt := rq_sum_b (f := fun w => if rq_fl ρ S w = true then (1 : Int) else 0) (c := 1) (by decide) i (fun j _ => by split <;> decide)
    have hu := (hv.2.2 i hi6).1
    have gi := g1 i hi6
    rw [if_neg (Nat.lt_irrefl i)] at gi
    have hp := @rq_ps_on ρ S i hi6
    unfold b_X7_pass_59
    dsimp only
    rw [q_gf4 hC1, Option.bind_some, hC1.2.2.2.1.1, if_neg (by omega), q_gf7 hb, Option.bind_some, q_pt hC1.1 p1, q_al k1 l1 hi6, Option.bind_some, gi]
    have hinv : ∀ (mm1 : rt_M), rq_fr (rq_wS b) m mm1 → mm1 b 0 = S 0 + 1 → (∀ w, w < 6 → mm1 (b + 1) w = if w < i then rq_ps ρ S (1 + w) else if w = i then rq_ps ρ S (1 + i) else S (1 + w)) → (∀ w, w < 6 → mm1 (b + 2) w = rq_ps ρ S (7 + w)) → ∀ c, c = rq_sum (fun w => if rq_fl ρ S w = true then (1 : Int) else 0) (i + 1) → rq (j_X7_pass_105_59 b r c i mm1) (fun t => (∀ s' : Int × Int × rt_M, t = Sum.inl s' → s'.2.1 = ((i + 1 : Nat) : Int) ∧ s'.1 = rq_sum (fun w => if rq_fl ρ S w = true then 1 else 0) (i + 1) ∧ rq_fr (rq_wS b) m s'.2.2 ∧ s'.2.2 b 0 = S 0 + 1 ∧ (∀ w, w < 6 → s'.2.2 (b + 1) w = if w < i + 1 then rq_ps ρ S (1 + w) else S (1 + w)) ∧ ∀ w, w < 6 → s'.2.2 (b + 2) w = rq_ps ρ S (7 + w)) ∧ ∀ e : Int × rt_M, t = Sum.inr e → e.1 = rq_cm ρ S ∧ rq_sc b (rq_ps ρ S) e.2 ∧ rq_fr (rq_wS b) m e.2) := by
      intro mm1 a1 a2 a3 a4 c hc2
      unfold j_X7_pass_105_59
      rw [rq_n1 (by omega)]
      refine rq_some.mpr (rq_inl ⟨rfl, hc2, a1, a2, fun w h6 => ?_, a4⟩)
      show mm1 (b + 1) w = _
      rw [a3 w h6]
      by_cases z : w < i
      · rw [if_pos z, if_pos (by omega)]
      · rw [if_neg z]
        by_cases z2 : w = i
        · rw [if_pos z2, if_pos (by omega), z2]
        · rw [if_neg z2, if_neg (by omega)]
    by_cases q : S (1 + i) = -1
    · have hfl : rq_fl ρ S i = false := by unfold rq_fl; simp [q]
      rw [if_neg (by rw [hfl]; simp)] at hp
      rw [if_pos q]
      refine hinv mm hf g0 (fun w h6 => ?_) g2 _ (by rw [rq_sum_s, hfl]; simp)
      rw [g1 w h6]
      by_cases z : w = i
      · subst z; rw [if_neg (Nat.lt_irrefl _), if_neg (Nat.lt_irrefl _), if_pos rfl, hp]
      · rw [if_neg z]
    · rw [if_neg q, Option.bind_some, q_al k1 l1 hi6, Option.bind_some, gi, q_gf7 hb, Option.bind_some, g0, q_gd4 hC1]
      obtain ⟨k, hk⟩ := Int.eq_ofNat_of_zero_le (show 0 ≤ S (1 + i) by omega)
      have e0 : S 0 + 1 = (((S 0).toNat + 1 : Nat) : Int) := by omega
      have hfit := q_isFit hC1 (w := i) (k := k) (t := (S 0).toNat + 1) (by omega) (by rw [← hk]; omega) (by omega)
      rw [← e0, ← hk] at hfit
      refine rq_call hfit ?_
      rintro ⟨x, m2⟩ ⟨rfl, hf3⟩
      dsimp only
      have hE : ∀ a j, a = b ∨ a = b + 1 ∨ a = b + 2 → m2 a j = mm a j := by
        intro a j q
        refine hf3 a j ?_
        have z := hz.2.1
        unfold rq_wE
        simp only [Bool.or_eq_false_iff, beq_eq_false_iff_ne]
        omega
      have hf4 : rq_fr (rq_wS b) m m2 := hf.trans (hf3.mono (fun _ _ => rq_wS_E))
      have hC2 : rq_C r ρ m2 := rq_C_wE hC1 hf3
      have hflv : rq_fl ρ S i = decide (rq_fi ρ i k ((S 0).toNat + 1) = 0) := by
        unfold rq_fl; rw [hk]; simp
      by_cases q5 : rq_fi ρ i k ((S 0).toNat + 1) = 0
      · have hfl : rq_fl ρ S i = true := by rw [hflv]; simp [q5]
        rw [if_pos ⟨by omega, hfl⟩] at hp
        rw [if_pos q5, q_gf7 hb, Option.bind_some, q_pt hC2.1 p1, q_sa k1 l1 hi6, Option.bind_some, rq_iadd (by omega) (by omega)]
        refine hinv _ (hf4.up (by unfold rq_wS; simp)) ?_ (fun w h6 => ?_) (fun w h6 => ?_) _ ?_
        · rw [q_up, if_neg (by omega), hE _ _ (by omega)]; exact g0
        · rw [q_up]
          by_cases z : w = i
          · subst z; rw [if_pos ⟨rfl, rfl⟩, if_neg (Nat.lt_irrefl _), if_pos rfl, hp]
          · rw [if_neg (by omega), hE _ _ (by omega), g1 w h6, if_neg z]
        · rw [q_up, if_neg (by omega), hE _ _ (by omega)]; exact g2 w h6
        · rw [rq_sum_s, hfl]; simp
      · have hfl : rq_fl ρ S i = false := by rw [hflv]; simp [q5]
        rw [if_neg (by rw [hfl]; simp)] at hp
        rw [if_neg q5]
        refine hinv m2 hf4 (by rw [hE _ _ (by omega)]; exact g0) (fun w h6 => ?_) (fun w h6 => by rw [hE _ _ (by omega)]; exact g2 w h6) _ (by rw [rq_sum_s, hfl]; simp)
        rw [hE _ _ (by omega), g1 w h6]
        by_cases z : w = i
        · subst z; rw [if_neg (Nat.lt_irrefl _), if_neg (Nat.lt_irrefl _), if_pos rfl, hp]
        · rw [if_neg z]
  · rintro ⟨x, y, mm⟩ ⟨e1, e2, hf, g0, g1, g2⟩
    dsimp only at e1 e2 hf g0 g1 g2
    subst e1 e2
    have hC1 := rq_C_wS hb hC hf
    unfold b_X7_pass_59
    dsimp only
    rw [q_gf4 hC1, Option.bind_some, hC1.2.2.2.1.1, if_pos (by omega)]
    refine rq_some.mpr (rq_inre ⟨rfl, ⟨g0, fun w h6 => ⟨?_, g2 w h6⟩⟩, hf⟩)
    show mm (b + 1) w = _
    rw [g1 w h6]
    by_cases z : w < (ρ.1 0 0).toNat
    · rw [if_pos z]
    · rw [if_neg z, rq_ps_on h6, if_neg (fun y => z (by omega))]
  · show rt_up m1 b 0 (S 0 + 1) b 0 = _
    rw [q_up, if_pos ⟨rfl, rfl⟩]
  · show rt_up m1 b 0 (S 0 + 1) (b + 1) w = _
    rw [q_up, if_neg (by omega), hf _ _ (by simp), if_neg (by omega)]; exact (hc.2 w hw6).1
  · show rt_up m1 b 0 (S 0 + 1) (b + 2) w = _
    rw [q_up, if_neg (by omega)]; exact hw w hw6
  · rintro ⟨x, m2⟩ q
    exact rq_some.mpr q
theorem q_worn (hC : rq_C r ρ m) (h : rq_Sc b ρ S m) : f_X7_worn b r m = some ((rq_wn ρ S : Nat) : Int) := by
  have hv0 := hC.2.2.1.1
  unfold f_X7_worn
  apply rq_of
  refine rq_call (rq_up (Q := fun e => e = ((rq_wn ρ S : Nat) : Int)) (fun i s => s.2 = (i : Int) ∧ s.1 = ((rq_bn (fun w => decide (S (1 + w) ≠ -1)) i : Nat) : Int)) (ρ.1 0 0).toNat (by omega) ?_ ?_ ⟨rfl, rfl⟩) (fun e q => rq_some.mpr q)
  · rintro i ⟨x, y⟩ hi ⟨e1, e2⟩
    dsimp only at e1 e2
    subst e1 e2
    have hi6 : i < 6 := by omega
    unfold b_X7_worn_4
    dsimp only
    rw [q_gf4 hC, Option.bind_some, hC.2.2.2.1.1, if_neg (by omega), q_gf7 h.1, Option.bind_some, q_hu hC.1 h hi6, Option.bind_some]
    unfold j_X7_worn_28_4
    have hlt := rq_bn_lt (fun w => decide (S (1 + w) ≠ -1)) i
    have h64 : 2 ^ i ≤ 2 ^ 6 := Nat.pow_le_pow_right (by decide) (by omega)
    rw [rq_n1 (by omega)]
    by_cases q : S (1 + i) = -1
    · rw [if_pos q]
      refine rq_some.mpr (rq_inl ⟨rfl, ?_⟩)
      rw [rq_bn_s]
      simp [q]
    · rw [if_neg q, rq_sb _ (by omega) i (by omega)]
      refine rq_some.mpr (rq_inl ⟨rfl, ?_⟩)
      rw [rq_bn_s]
      simp [q]
  · rintro ⟨x, y⟩ ⟨e1, e2⟩
    dsimp only at e1 e2
    subst e1 e2
    unfold b_X7_worn_4
    dsimp only
    rw [q_gf4 hC, Option.bind_some, hC.2.2.2.1.1, if_pos (by omega)]
    exact rq_some.mpr (rq_inre rfl)
theorem q_wornOut (hC : rq_C r ρ m) (h : rq_Sc b ρ S m) : f_X7_wornOut b r m = some ((rq_wt ρ S : Nat) : Int) := by
  have hv0 := hC.2.2.1.1
  unfold f_X7_wornOut
  apply rq_of
  refine rq_call (rq_up (Q := fun e => e = ((rq_wt ρ S : Nat) : Int)) (fun i s => s.2 = (i : Int) ∧ s.1 = ((rq_bn (fun w => decide (9 ≤ S (7 + w))) i : Nat) : Int)) (ρ.1 0 0).toNat (by omega) ?_ ?_ ⟨rfl, rfl⟩) (fun e q => rq_some.mpr q)
  · rintro i ⟨x, y⟩ hi ⟨e1, e2⟩
    dsimp only at e1 e2
    subst e1 e2
    have hi6 : i < 6 := by omega
    unfold b_X7_wornOut_4
    dsimp only
    rw [q_gf4 hC, Option.bind_some, hC.2.2.2.1.1, if_neg (by omega), q_gf7 h.1, Option.bind_some, q_hw hC.1 h hi6, Option.bind_some]
    unfold j_X7_wornOut_29_4
    have hlt := rq_bn_lt (fun w => decide (9 ≤ S (7 + w))) i
    have h64 : 2 ^ i ≤ 2 ^ 6 := Nat.pow_le_pow_right (by decide) (by omega)
    rw [rq_n1 (by omega)]
    by_cases q : S (7 + i) < 9
    · rw [if_pos q]
      refine rq_some.mpr (rq_inl ⟨rfl, ?_⟩)
      rw [rq_bn_s, if_neg (by simp; omega)]
    · rw [if_neg q, rq_sb _ (by omega) i (by omega)]
      refine rq_some.mpr (rq_inl ⟨rfl, ?_⟩)
      rw [rq_bn_s, if_pos (by simp; omega)]
  · rintro ⟨x, y⟩ ⟨e1, e2⟩
    dsimp only at e1 e2
    subst e1 e2
    unfold b_X7_wornOut_4
    dsimp only
    rw [q_gf4 hC, Option.bind_some, hC.2.2.2.1.1, if_pos (by omega)]
    exact rq_some.mpr (rq_inre rfl)
theorem q_wearOfAll (hC : rq_C r ρ m) (h : rq_Sc b ρ S m) : f_X7_wearOfAll b r m = some (rq_sum (fun w => S (7 + w)) 6) := by
  have hv0 := hC.2.2.1.1
  have hv := h.2.2.2.2
  have hb : ∀ n, n ≤ 6 → 0 ≤ rq_sum (fun w => S (7 + w)) n ∧ rq_sum (fun w => S (7 + w)) n ≤ 9 * n := fun n hn => rq_sum_b (by decide) n (fun i hi => by have := (hv i (by omega)).1; omega)
  have tail : ∀ d, (ρ.1 0 0).toNat + d ≤ 6 → rq_sum (fun w => S (7 + w)) ((ρ.1 0 0).toNat + d) = rq_sum (fun w => S (7 + w)) (ρ.1 0 0).toNat := by
    intro d
    induction d with
    | zero => intro _; rfl
    | succ d ih =>
      intro hd
      rw [← Nat.add_assoc, rq_sum_s, ih (by omega), ((hv _ (by omega)).2 (by omega)).2]
      simp
  unfold f_X7_wearOfAll
  apply rq_of
  refine rq_call (rq_up (Q := fun e => e = rq_sum (fun w => S (7 + w)) 6) (fun i s => s.2 = (i : Int) ∧ s.1 = rq_sum (fun w => S (7 + w)) i) (ρ.1 0 0).toNat (by omega) ?_ ?_ ⟨rfl, rfl⟩) (fun e q => rq_some.mpr q)
  · rintro i ⟨x, y⟩ hi ⟨e1, e2⟩
    dsimp only at e1 e2
    subst e1 e2
    have hi6 : i < 6 := by omega
    have b1 := hb i (by omega)
    have b2 := (hv i hi6).1
    unfold b_X7_wearOfAll_4
    dsimp only
    rw [q_gf4 hC, Option.bind_some, hC.2.2.2.1.1, if_neg (by omega), q_gf7 h.1, Option.bind_some, q_hw hC.1 h hi6, Option.bind_some, rq_n1 (by omega), rq_iadd (by omega) (by omega)]
    exact rq_some.mpr (rq_inl ⟨rfl, rfl⟩)
  · rintro ⟨x, y⟩ ⟨e1, e2⟩
    dsimp only at e1 e2
    subst e1 e2
    unfold b_X7_wearOfAll_4
    dsimp only
    rw [q_gf4 hC, Option.bind_some, hC.2.2.2.1.1, if_pos (by omega)]
    refine rq_some.mpr (rq_inre ?_)
    have := tail (6 - (ρ.1 0 0).toNat) (by omega)
    rw [← this, show (ρ.1 0 0).toNat + (6 - (ρ.1 0 0).toNat) = 6 by omega]
theorem rq_os_b (hv : rq_va ρ) (x : Int) : ∀ n, n ≤ (ρ.1 0 0).toNat → 0 ≤ rq_sum (fun w => if rt_iand (rt_ishr x (w : Int)) 1 = 1 then ρ.1 2 w else 0) n ∧ rq_sum (fun w => if rt_iand (rt_ishr x (w : Int)) 1 = 1 then ρ.1 2 w else 0) n ≤ 99 * n := fun n hn => rq_sum_b (by decide) n (fun i hi => by
  have := hv.2.1 i (by omega)
  split <;> omega)
theorem q_officeOfAll (hC : rq_C r ρ m) (x : Int) : f_X4_officeOfAll r x m = some (rq_os ρ x) := by
  have hv0 := hC.2.2.1.1
  unfold f_X4_officeOfAll
  apply rq_of
  refine rq_call (rq_up (Q := fun e => e = rq_os ρ x) (fun i s => s.2 = (i : Int) ∧ s.1 = rq_sum (fun w => if rt_iand (rt_ishr x (w : Int)) 1 = 1 then ρ.1 2 w else 0) i) (ρ.1 0 0).toNat (by omega) ?_ ?_ ⟨rfl, rfl⟩) (fun e q => rq_some.mpr q)
  · rintro i ⟨y, z⟩ hi ⟨e1, e2⟩
    dsimp only at e1 e2
    subst e1 e2
    have b1 := rq_os_b hC.2.2.1 x i (by omega)
    have b2 := hC.2.2.1.2.1 i (by omega)
    unfold b_X4_officeOfAll_4
    dsimp only
    rw [q_gf4 hC, Option.bind_some, hC.2.2.2.1.1, if_neg (by omega)]
    unfold j_X4_officeOfAll_29_4
    rw [rq_n1 (by omega)]
    by_cases q : rt_iand (rt_ishr x (i : Int)) 1 = 1
    · rw [if_pos q, q_officeOf hC (by omega), Option.bind_some, rq_iadd (by omega) (by omega)]
      refine rq_some.mpr (rq_inl ⟨rfl, ?_⟩)
      rw [rq_sum_s, if_pos q]
    · rw [if_neg q]
      refine rq_some.mpr (rq_inl ⟨rfl, ?_⟩)
      rw [rq_sum_s, if_neg q]; simp
  · rintro ⟨y, z⟩ ⟨e1, e2⟩
    dsimp only at e1 e2
    subst e1 e2
    unfold b_X4_officeOfAll_4
    dsimp only
    rw [q_gf4 hC, Option.bind_some, hC.2.2.2.1.1, if_pos (by omega)]
    exact rq_some.mpr (rq_inre rfl)
end
