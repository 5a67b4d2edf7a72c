/-! Layer 3: match, the class -/
section
variable {r : Nat} {ρ : rq_R} {A : rq_A} {c : Nat} {m : rt_M} {S : rq_S} {a : Nat → Nat} {k : Nat → Int} {t : Nat}
/-- w may be under h -/
def rq_mA (ρ : rq_R) (S : rq_S) (t h w : Nat) : Prop := S (7 + w) < 9 ∧ rq_fi ρ w h t = 1
abbrev rq_mT (ρ : rq_R) (t : Nat) : Nat → Nat → Int := fun w h => rq_ti ρ w h t
abbrev rq_mO (ρ : rq_R) : Nat → Int := fun w => ρ.1 2 w
/-- whom h may still ask -/
def rq_mp1 (ρ : rq_R) (S : rq_S) (t : Nat) (a : Nat → Nat) (h w : Nat) : Bool := decide (S (7 + w) < 9) && (rq_fi ρ w h t == 1) && !(a h).testBit w
theorem rq_mp1_i {h w : Nat} : rq_mp1 ρ S t a h w = true ↔ rq_mA ρ S t h w ∧ (a h).testBit w = false := by
  unfold rq_mp1 rq_mA
  simp
theorem rq_mp1_f {h w : Nat} (h1 : rq_mp1 ρ S t a h w = false) (h2 : rq_mA ρ S t h w) : (a h).testBit w = true := by
  by_cases z : (a h).testBit w = true
  · exact z
  · rw [rq_mp1_i.mpr ⟨h2, by simpa using z⟩] at h1; cases h1
def rq_mm (ρ : rq_R) (S : rq_S) (t : Nat) (a : Nat → Nat) (k : Nat → Int) (m : rt_M) : Prop := rq_ml ρ t m ∧ (∀ w, w < 6 → m 128 w = k w) ∧ ∀ h, h < 6 → a h < 64 ∧ m 129 h = ((rq_wt ρ S ||| a h : Nat) : Int)
def rq_wK (k _j : Nat) : Bool := k == 128 || k == 129
theorem rq_WQ_K {k j : Nat} (h : rq_WQ k j = false) : rq_wK k j = false := by
  have h := rq_WQ_C h
  unfold rq_WC at h
  unfold rq_wK
  simp only [Bool.or_eq_false_iff, Bool.and_eq_false_iff, beq_eq_false_iff_ne, decide_eq_false_iff_not] at h ⊢
  omega
theorem rq_ml_K {m' : rt_M} (h : rq_ml ρ t m) (hv : rq_va ρ) (f : rq_fr rq_wK m m') : rq_ml ρ t m' := by
  have hb := hv.1
  refine ⟨by rw [f 118 0 rfl]; exact h.1, by rw [f 118 1 rfl]; exact h.2.1, fun w j hw hj => ?_⟩
  rw [f _ j (by unfold rq_wK; simp only [Bool.or_eq_false_iff, beq_eq_false_iff_ne]; omega)]
  exact h.2.2 w j hw hj
theorem q_keeping (hs : rq_st m) (hv : rq_va ρ) (hm : rq_mm ρ S t a k m) (h : Nat) : f_X1_wigKeeping ((118 : Nat) : Int) (h : Int) m = some (rq_fst (fun w => k w == (h : Int)) (ρ.1 0 0).toNat) := by
  have hb := hv.1
  unfold f_X1_wigKeeping
  apply rq_of
  refine rq_call (rq_up (Q := fun e => match e with
      | .inl _ => rq_fst (fun w => k w == (h : Int)) (ρ.1 0 0).toNat = -1
      | .inr t => rq_fst (fun w => k w == (h : Int)) (ρ.1 0 0).toNat = t) (fun i s => s = (i : Int) ∧ ∀ j, j < i → (k j == (h : Int)) = false) (ρ.1 0 0).toNat (by omega) ?_ ?_ ⟨rfl, fun j hj => absurd hj (Nat.not_lt_zero _)⟩) ?_
  · rintro i s hi ⟨rfl, hj⟩
    unfold b_X1_wigKeeping_2
    rw [q_g1, Option.bind_some, hm.1.1, if_neg (by omega), q_g1, Option.bind_some, pt_118_5 hs, show (128 : Int) = ((128 : Nat) : Int) from rfl, q_al kd_128 ln_128 (by omega), Option.bind_some, hm.2.1 i (by omega)]
    by_cases q : k i = (h : Int)
    · rw [if_pos q]
      exact rq_map.mpr (rq_some.mpr (rq_inr (rq_fst_some hi (by simp [q]) hj)))
    · rw [if_neg q, rq_n1 (by omega)]
      refine rq_some.mpr (rq_inl ⟨rfl, fun j hj2 => ?_⟩)
      by_cases z : j = i
      · subst z; simp [q]
      · exact hj j (by omega)
  · rintro s ⟨rfl, hj⟩
    unfold b_X1_wigKeeping_2
    rw [q_g1, Option.bind_some, hm.1.1, if_pos (by omega)]
    exact rq_some.mpr (rq_inre (rq_fst_none hj))
  · rintro (e | t) q
    · exact rq_some.mpr q.symm
    · exact rq_some.mpr q.symm
theorem q_ask5 (hJ : rq_J r ρ A c m) (hm : rq_mm ρ S t a k m) {h : Nat} (hh : (h : Int) < ρ.1 0 1) : rq (rt_it (b_X1_askNext_5 ((118 : Nat) : Int) (r : Int) (h : Int)) 4000 (-1, 0, m)) (fun e => e = (rq_bw (rq_mp1 ρ S t a h) (rq_mO ρ) (ρ.1 0 0).toNat, m)) := by
  have hb := hJ.1.2.2.1.1
  have hs := hJ.1.1
  have wt6 := rq_wt6 hJ.1.2.2.1 S
  refine rq_up (fun i s => s.2.1 = (i : Int) ∧ s.1 = rq_bw (rq_mp1 ρ S t a h) (rq_mO ρ) i ∧ s.2.2 = m) (ρ.1 0 0).toNat (by omega) ?_ ?_ (by exact ⟨rfl, rfl, rfl⟩)
  · rintro i ⟨x, y, mm⟩ hi ⟨e1, e2, e3⟩
    dsimp only at e1 e2 e3
    subst e1 e2 e3
    have bb := rq_bw_b (rq_mp1 ρ S t a h) (rq_mO ρ) i
    have ha := hm.2.2 h (by omega)
    have or6 : rq_wt ρ S ||| a h < 64 := Nat.or_lt_two_pow (n := 6) wt6 ha.1
    have tk := q_tk i (by omega)
    have tf := rq_tt_fi ρ i h t
    have tbw := rq_wt_tb (ρ := ρ) S (w := i) hi
    have stay : rq_mp1 ρ S t a h i = false → rq (j_X1_askNext_63_5 ((118 : Nat) : Int) (r : Int) (h : Int) (rq_bw (rq_mp1 ρ S t a h) (rq_mO ρ) i) (i : Int) mm) (fun t_1 => (∀ s', t_1 = .inl s' → s'.2.1 = ((i + 1 : Nat) : Int) ∧ s'.1 = rq_bw (rq_mp1 ρ S t a h) (rq_mO ρ) (i + 1) ∧ s'.2.2 = mm) ∧ (∀ e, t_1 = .inr e → e = (rq_bw (rq_mp1 ρ S t a h) (rq_mO ρ) (ρ.1 0 0).toNat, mm))) := by
      intro p
      unfold j_X1_askNext_63_5
      rw [rq_n1 (by omega)]
      refine rq_some.mpr (rq_inl ⟨rfl, ?_, rfl⟩)
      rw [rq_bw_s, if_neg (fun q => by rw [p] at q; cases q.1)]
    unfold b_X1_askNext_5
    dsimp only
    rw [q_g1, Option.bind_some, hm.1.1, if_neg (by omega), q_g1, Option.bind_some, pt_118_6 hs, show (129 : Int) = ((129 : Nat) : Int) from rfl, q_al kd_129 ln_129 (show h < 6 by omega), Option.bind_some, ha.2, rq_tb _ (by omega) i (by omega), Nat.testBit_or, tbw]
    by_cases z1 : (decide (9 ≤ S (7 + i)) || (a h).testBit i) = true
    · rw [if_pos z1, if_neg (by decide)]
      refine stay ?_
      simp only [Bool.or_eq_true, decide_eq_true_eq] at z1
      unfold rq_mp1
      rcases z1 with z1 | z1
      · rw [decide_eq_false (by omega)]; rfl
      · rw [z1]; simp
    · rw [if_neg z1, if_pos rfl, q_g1, Option.bind_some, pt_118_2 hs, show (119 : Int) = ((119 : Nat) : Int) from rfl, q_al kd_119 ln_119 (show i < 6 by omega), Option.bind_some, hs _ tk.1, q_al tk.2.1 tk.2.2 (show h < 6 by omega), Option.bind_some, hm.1.2.2 i h hi (by omega)]
      simp only [Bool.or_eq_true, decide_eq_true_eq, not_or] at z1
      by_cases z2 : rq_tt ρ i h t = -1
      · rw [if_pos z2]
        refine stay ?_
        have := tf.1.mp z2
        unfold rq_mp1
        simp [this]
      · rw [if_neg z2]
        have fi : rq_fi ρ i h t = 1 := Classical.byContradiction fun y => z2 (tf.1.mpr y)
        have p : rq_mp1 ρ S t a h i = true := rq_mp1_i.mpr ⟨⟨by omega, fi⟩, by simpa using z1.2⟩
        have take : (rq_bw (rq_mp1 ρ S t a h) (rq_mO ρ) i = -1 ∨ rq_mO ρ (rq_bw (rq_mp1 ρ S t a h) (rq_mO ρ) i).toNat < rq_mO ρ i) → rq (j_X1_askNext_60_5 ((118 : Nat) : Int) (r : Int) (h : Int) (i : Int) mm) (fun t_1 => (∀ s', t_1 = .inl s' → s'.2.1 = ((i + 1 : Nat) : Int) ∧ s'.1 = rq_bw (rq_mp1 ρ S t a h) (rq_mO ρ) (i + 1) ∧ s'.2.2 = mm) ∧ (∀ e, t_1 = .inr e → e = (rq_bw (rq_mp1 ρ S t a h) (rq_mO ρ) (ρ.1 0 0).toNat, mm))) := by
          intro y
          unfold j_X1_askNext_60_5 j_X1_askNext_63_5
          rw [rq_n1 (by omega)]
          refine rq_some.mpr (rq_inl ⟨rfl, ?_, rfl⟩)
          rw [rq_bw_s, if_pos ⟨p, y⟩]
        by_cases z3 : rq_bw (rq_mp1 ρ S t a h) (rq_mO ρ) i = -1
        · rw [if_pos z3]
          exact take (Or.inl z3)
        · obtain ⟨b, eb⟩ := Int.eq_ofNat_of_zero_le (show 0 ≤ rq_bw (rq_mp1 ρ S t a h) (rq_mO ρ) i by omega)
          rw [if_neg z3, q_gd4 hJ.1, q_gd4 hJ.1, q_officeOf hJ.1 (w := i) (by omega), Option.bind_some, eb, q_officeOf hJ.1 (w := b) (by omega), Option.bind_some]
          rw [eb] at take stay
          by_cases z4 : ρ.1 2 i ≤ ρ.1 2 b
          · rw [if_pos z4]
            unfold j_X1_askNext_63_5
            rw [rq_n1 (by omega)]
            refine rq_some.mpr (rq_inl ⟨rfl, ?_, rfl⟩)
            rw [rq_bw_s, eb, Int.toNat_natCast, if_neg]
            rintro ⟨-, y | y⟩
            · omega
            · have : ρ.1 2 b < ρ.1 2 i := y
              omega
          · rw [if_neg z4]
            exact take (Or.inr (by rw [Int.toNat_natCast]; show ρ.1 2 b < ρ.1 2 i; omega))
  · rintro ⟨x, y, mm⟩ ⟨e1, e2, e3⟩
    dsimp only at e1 e2 e3
    subst e1 e2 e3
    unfold b_X1_askNext_5
    dsimp only
    rw [q_g1, Option.bind_some, hm.1.1, if_pos (by omega)]
    exact rq_some.mpr (rq_inre rfl)
theorem q_askNext (hJ : rq_J r ρ A c m) (hm : rq_mm ρ S t a k m) (hS : rq_mS (ρ.1 0 0).toNat (ρ.1 0 1).toNat (rq_mA ρ S t) (rq_mO ρ) (rq_mT ρ t) a k) {h : Nat} (hh : (h : Int) < ρ.1 0 1) : rq (f_X1_askNext ((118 : Nat) : Int) (r : Int) (h : Int) m) (fun m1 => if rq_bw (rq_mp1 ρ S t a h) (rq_mO ρ) (ρ.1 0 0).toNat = -1 then m1 = m else rq_mm ρ S t (rq_ma a h (rq_bw (rq_mp1 ρ S t a h) (rq_mO ρ) (ρ.1 0 0).toNat).toNat) (rq_mk2 (rq_mT ρ t) k h (rq_bw (rq_mp1 ρ S t a h) (rq_mO ρ) (ρ.1 0 0).toNat).toNat) m1 ∧ rq_fr rq_wK m m1) := by
  have hb := hJ.1.2.2.1.1
  have hs := hJ.1.1
  have wt6 := rq_wt6 hJ.1.2.2.1 S
  unfold f_X1_askNext
  refine rq_call (q_ask5 hJ hm hh) ?_
  rintro e rfl
  dsimp only
  rcases rq_bw_at (rq_mp1 ρ S t a h) (rq_mO ρ) (ρ.1 0 0).toNat with ⟨e0, -⟩ | ⟨w, hw, ew, pw, -⟩
  · simp only [if_pos e0]
    exact rq_some.mpr rfl
  · obtain ⟨acw, unw⟩ := rq_mp1_i.mp pw
    have ha := hm.2.2 h (by omega)
    have or6 : rq_wt ρ S ||| a h < 64 := Nat.or_lt_two_pow (n := 6) wt6 ha.1
    have aw6 : a h ||| 2 ^ w < 64 := Nat.or_lt_two_pow (n := 6) ha.1 (Nat.pow_lt_pow_right (by decide) (by omega))
    have tk := q_tk w (by omega)
    rw [ew]
    simp only [if_neg (show ¬ (w : Int) = -1 by omega), Int.toNat_natCast]
    rw [q_g1, Option.bind_some, pt_118_6 hs, show (129 : Int) = ((129 : Nat) : Int) from rfl, q_al kd_129 ln_129 (show h < 6 by omega), Option.bind_some, ha.2, rq_sb _ (by omega) w (by omega), q_sa kd_129 ln_129 (show h < 6 by omega), Option.bind_some, Nat.or_assoc]
    have f1 : rq_fr rq_wK m (rt_up m 129 h ((rq_wt ρ S ||| (a h ||| 2 ^ w) : Nat) : Int)) := rq_fr.rfl.up rfl
    have a1 : ∀ x, x < 6 → rq_ma a h w x < 64 ∧ rt_up m 129 h ((rq_wt ρ S ||| (a h ||| 2 ^ w) : Nat) : Int) 129 x = ((rq_wt ρ S ||| rq_ma a h w x : Nat) : Int) := fun x hx => by
      unfold rq_ma
      rw [q_up]
      by_cases z : x = h
      · rw [if_pos z, if_pos ⟨rfl, z⟩]; exact ⟨aw6, rfl⟩
      · rw [if_neg z, if_neg (fun y => z y.2)]; exact hm.2.2 x hx
    have k1 : ∀ x, x < 6 → rt_up m 129 h ((rq_wt ρ S ||| (a h ||| 2 ^ w) : Nat) : Int) 128 x = k x := fun x hx => by rw [q_up, if_neg (by omega)]; exact hm.2.1 x hx
    generalize rt_up m 129 h ((rq_wt ρ S ||| (a h ||| 2 ^ w) : Nat) : Int) = m1 at f1 a1 k1 ⊢
    have hJ1 := rq_J_fr hJ (f1.mono (fun _ _ => rq_WQ_K)) (Nat.le_refl c)
    have ml1 := rq_ml_K hm.1 hJ.1.2.2.1 f1
    have hs1 := hJ1.1.1
    have keep : rq_mk2 (rq_mT ρ t) k h w w = k w → rq (j_X1_askNext_154 m1) (fun m2 => rq_mm ρ S t (rq_ma a h w) (rq_mk2 (rq_mT ρ t) k h w) m2 ∧ rq_fr rq_wK m m2) := by
      intro e
      unfold j_X1_askNext_154
      refine rq_some.mpr ⟨⟨ml1, fun x hx => ?_, a1⟩, f1⟩
      rw [k1 x hx]
      by_cases z : x = w
      · rw [z, e]
      · unfold rq_mk2; rw [if_neg z]
    have put : rq_mk2 (rq_mT ρ t) k h w w = (h : Int) → rq (j_X1_askNext_147 ((118 : Nat) : Int) (h : Int) (w : Int) m1) (fun m2 => rq_mm ρ S t (rq_ma a h w) (rq_mk2 (rq_mT ρ t) k h w) m2 ∧ rq_fr rq_wK m m2) := by
      intro e
      unfold j_X1_askNext_147 j_X1_askNext_154
      rw [q_g1, Option.bind_some, pt_118_5 hs1, show (128 : Int) = ((128 : Nat) : Int) from rfl, q_sa kd_128 ln_128 (show w < 6 by omega), Option.bind_some]
      have f2 : rq_fr rq_wK m1 (rt_up m1 128 w (h : Int)) := rq_fr.rfl.up rfl
      refine rq_some.mpr ⟨⟨rq_ml_K ml1 hJ.1.2.2.1 f2, fun x hx => ?_, fun x hx => ?_⟩, f1.trans f2⟩
      · rw [q_up]
        by_cases z : x = w
        · rw [if_pos ⟨rfl, z⟩, z, e]
        · rw [if_neg (fun y => z y.2), k1 x hx]
          unfold rq_mk2; rw [if_neg z]
      · rw [q_up, if_neg (by omega)]; exact a1 x hx
    have th : rq_tt ρ w h t = rq_ti ρ w h t := (rq_tt_fi ρ w h t).2 acw.2
    rw [q_g1, Option.bind_some, pt_118_5 hs1, show (128 : Int) = ((128 : Nat) : Int) from rfl, q_al kd_128 ln_128 (show w < 6 by omega), Option.bind_some, k1 w (by omega)]
    by_cases z : k w = -1
    · rw [if_pos z]
      exact put (by unfold rq_mk2; rw [if_pos rfl, if_pos z])
    · rcases hS.2.2 w hw with ⟨e1, -⟩ | ⟨h0, h0H, e1, b1, -⟩
      · exact absurd e1 z
      have ac0 := hS.1 h0 h0H w hw b1
      have t0 : rq_tt ρ w h0 t = rq_ti ρ w h0 t := (rq_tt_fi ρ w h0 t).2 ac0.2
      have ek : rq_mk2 (rq_mT ρ t) k h w w = if rq_ti ρ w h t < rq_ti ρ w h0 t ∨ (rq_ti ρ w h t = rq_ti ρ w h0 t ∧ (h : Int) < (h0 : Int)) then (h : Int) else (h0 : Int) := by
        unfold rq_mk2
        rw [if_pos rfl, if_neg z, e1, Int.toNat_natCast]
      rw [if_neg z, e1]
      simp only [q_g1, Option.bind_some]
      rw [pt_118_2 hs1, show (119 : Int) = ((119 : Nat) : Int) from rfl, q_al kd_119 ln_119 (show w < 6 by omega)]
      simp only [Option.bind_some]
      rw [hs1 _ tk.1, q_al tk.2.1 tk.2.2 (show h < 6 by omega), q_al tk.2.1 tk.2.2 (show h0 < 6 by omega)]
      simp only [Option.bind_some]
      rw [ml1.2.2 w h hw (by omega), ml1.2.2 w h0 hw (by omega), th, t0]
      by_cases y1 : rq_ti ρ w h t < rq_ti ρ w h0 t
      · rw [if_pos y1]
        exact put (by rw [ek, if_pos (Or.inl y1)])
      · rw [if_neg y1]
        by_cases y2 : rq_ti ρ w h t = rq_ti ρ w h0 t
        · rw [if_pos y2]
          by_cases y3 : (h0 : Int) ≤ (h : Int)
          · rw [if_pos y3]
            exact keep (by rw [ek, if_neg (by omega), e1])
          · rw [if_neg y3]
            exact put (by rw [ek, if_pos (Or.inr ⟨y2, by omega⟩)])
        · rw [if_neg y2]
          exact keep (by rw [ek, if_neg (by omega), e1])
end
