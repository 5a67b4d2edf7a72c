/-! Layer 3: questions: wig, head, fits, verdict, votes, power -/
section
variable {r : Nat} {ρ : rq_R} {A : rq_A} {c : Nat} {m : rt_M}
theorem q_thr (h : rq_J r ρ A c m) (v : Int) : ∃ m2, rt_pf 12 0 248 v m = some m2 ∧ rq_J r ρ A c m2 ∧ rq_fr rq_WQ m m2 := ⟨_, q_pfr 0 v, (q_upT h v).1, (q_upT h v).2⟩
def rq_vwig (ρ : rq_R) (A : rq_A) (a b : Int) : Int := if 0 ≤ a ∧ a < ρ.1 0 0 then (if b = 0 then ρ.1 1 a.toNat else if b = 1 then ρ.1 2 a.toNat else if b = 2 then ρ.1 3 a.toNat else if b = 3 then A.1 (1 + a.toNat) else if b = 4 then A.1 (7 + a.toNat) else -2) else -2
theorem q_wig (h : rq_J r ρ A c m) (a b : Int) : f_X11_wig 41 a b m = some (rq_vwig ρ A a b) := by
  have hC := h.1
  have hs := hC.1
  have hb := hC.2.2.1.1
  have hS := q_Sc h
  unfold f_X11_wig rq_vwig
  rw [q_told h, Option.bind_some, q_gd4 hC]
  by_cases ha : 0 ≤ a ∧ a < ρ.1 0 0
  · obtain ⟨w, rfl⟩ := Int.eq_ofNat_of_zero_le ha.1
    have e : ((w : Int)).toNat = w := Int.toNat_natCast w
    rw [q_isWigT hC ha.1 ha.2, Option.bind_some, if_neg (by decide), if_pos ha, e]
    simp only [Option.bind_some, q_gd4 hC, q_now hs, q_nst hs, q_gd7 q_b49, q_sizeOfWig hC ha.2, q_officeOf hC ha.2, q_leanOfWig hC ha.2, q_headUnder hs hS (show w < 6 by omega), q_wearOf hs hS (show w < 6 by omega)]
    split
    · rfl
    · split
      · rfl
      · split
        · rfl
        · split
          · rfl
          · split <;> rfl
  · rw [q_isWigF hC ha, Option.bind_some, if_pos rfl, if_neg ha]
theorem q_rwig (h : rq_J r ρ A c m) (a b : Int) : rq (f_X12_wig 248 a b m) (fun q => q.1 = rq_vwig ρ A a b ∧ rq_fr rq_WQ m q.2) := by
  obtain ⟨m2, e2, h2, f2⟩ := q_thr h 0
  have hD := h2.2.1
  have hs := hD.1
  have hb := hD.2.1.1
  have hS := q_Sr h2
  unfold f_X12_wig rq_vwig
  rw [e2, Option.bind_some]
  unfold j_X12_wig_22 j_X12_wig_89 j_X12_wig_63
  by_cases ha : 0 ≤ a ∧ a < ρ.1 0 0
  · obtain ⟨w, rfl⟩ := Int.eq_ofNat_of_zero_le ha.1
    have e : ((w : Int)).toNat = w := Int.toNat_natCast w
    have hr := hD.2.2.2.1 w ha.2
    rw [q_riwT hD ha.1 ha.2, Option.bind_some, if_neg (by decide), if_pos ha, e]
    by_cases hb4 : 0 ≤ b ∧ b ≤ 4
    · rw [q_withinT hb4.1 hb4.2, Option.bind_some, if_neg (by decide)]
      simp only [q_gfr, Option.bind_some, q_ron hs hS (show w < 6 by omega), q_rwe hs hS (show w < 6 by omega), q_a8 (k := 253) _ 12 (pt_248_13 hs) kd_253 ln_253 (show w < 12 by omega), q_a8 (k := 254) _ 12 (pt_248_14 hs) kd_254 ln_254 (show w < 12 by omega), q_a8 (k := 255) _ 12 (pt_248_15 hs) kd_255 ln_255 (show w < 12 by omega), hr.1, hr.2.1, hr.2.2.1]
      by_cases b3 : 3 ≤ b
      · rw [if_pos b3, if_neg (show ¬ b = 0 by omega), if_neg (show ¬ b = 1 by omega), if_neg (show ¬ b = 2 by omega)]
        by_cases z : b = 3
        · rw [if_pos z, if_pos z]; exact rq_some.mpr ⟨rfl, f2⟩
        · rw [if_neg z, if_neg z, if_pos (by omega)]; exact rq_some.mpr ⟨rfl, f2⟩
      · rw [if_neg b3]
        by_cases z : b = 0
        · rw [if_pos z, if_pos z]; exact rq_some.mpr ⟨rfl, f2⟩
        · rw [if_neg z, if_neg z]
          by_cases z1 : b = 1
          · rw [if_pos z1, if_pos z1]; exact rq_some.mpr ⟨rfl, f2⟩
          · rw [if_neg z1, if_neg z1, if_pos (by omega)]; exact rq_some.mpr ⟨rfl, f2⟩
    · rw [q_withinF hb4, Option.bind_some, if_pos rfl, if_neg (by omega), if_neg (by omega), if_neg (by omega), if_neg (by omega), if_neg (by omega)]
      exact rq_some.mpr ⟨rfl, f2⟩
  · rw [q_riwF hD ha, Option.bind_some, if_pos rfl, if_neg ha]
    exact rq_some.mpr ⟨rfl, f2⟩
theorem L_wig (hI : rq_I c m) (a b : Int) : rq (f_X11_wig 41 a b m) (fun p => rq (f_X12_wig 248 a b m) (fun q => q.1 = p ∧ rq_I (c + 1) q.2)) := by
  obtain ⟨r, ρ, A, h⟩ := hI
  exact rq_pair0 h (q_wig h a b) (q_rwig h a b)
def rq_vhead (ρ : rq_R) (A : rq_A) (a b : Int) : Int := if 0 ≤ a ∧ a < ρ.1 0 1 then (if b = 0 then ρ.1 4 a.toNat else if b = 1 then ρ.1 5 a.toNat else if b = 2 then ρ.1 6 a.toNat else if b = 3 then ρ.1 7 a.toNat else if b = 4 then rq_gi ρ a.toNat (A.1 0).toNat else if b = 5 then rq_wo A.1 a else -2) else -2
theorem q_head (h : rq_J r ρ A c m) (hc : c < 800000) (a b : Int) : rq (f_X11_head 41 a b m) (fun p => p.1 = rq_vhead ρ A a b ∧ rq_fr rq_WQ m p.2) := by
  have hC := h.1
  have hs := hC.1
  have hb := hC.2.2.1.1
  have hS := q_Sc h
  have h0 := q_sea0 h
  have hcc := h.2.2.2.2.2.2.1
  unfold f_X11_head rq_vhead
  rw [q_told h, Option.bind_some, q_gd4 hC]
  by_cases ha : 0 ≤ a ∧ a < ρ.1 0 1
  · obtain ⟨w, rfl⟩ := Int.eq_ofNat_of_zero_le ha.1
    have e : ((w : Int)).toNat = w := Int.toNat_natCast w
    rw [q_isHeadT hC ha.1 ha.2, Option.bind_some, if_neg (by decide), if_pos ha, e]
    simp only [Option.bind_some, q_gd4 hC, q_now hs, q_nst hs, q_gd7 q_b49, q_head0 hC ha.2, q_head1 hC ha.2, q_head2 hC ha.2, q_head3 hC ha.2, q_wigUpon hs hS, q_sea h]
    by_cases z0 : b = 0
    · rw [if_pos z0, if_pos z0]; exact rq_some.mpr ⟨rfl, rq_fr.rfl⟩
    rw [if_neg z0, if_neg z0]
    by_cases z1 : b = 1
    · rw [if_pos z1, if_pos z1]; exact rq_some.mpr ⟨rfl, rq_fr.rfl⟩
    rw [if_neg z1, if_neg z1]
    by_cases z2 : b = 2
    · rw [if_pos z2, if_pos z2]; exact rq_some.mpr ⟨rfl, rq_fr.rfl⟩
    rw [if_neg z2, if_neg z2]
    by_cases z3 : b = 3
    · rw [if_pos z3, if_pos z3]; exact rq_some.mpr ⟨rfl, rq_fr.rfl⟩
    rw [if_neg z3, if_neg z3]
    by_cases z4 : b = 4
    · rw [if_pos z4, if_pos z4]
      have hg := q_girth hC (k := w) (t := (A.1 0).toNat) ha.2 (by omega)
      rw [← h0] at hg
      refine rq_call hg ?_
      rintro ⟨x, m1⟩ ⟨rfl, hf⟩
      exact rq_some.mpr ⟨rfl, rq_frE hf⟩
    rw [if_neg z4, if_neg z4]
    by_cases z5 : b = 5
    · rw [if_pos z5, if_pos z5]; exact rq_some.mpr ⟨rfl, rq_fr.rfl⟩
    rw [if_neg z5, if_neg z5]; exact rq_some.mpr ⟨rfl, rq_fr.rfl⟩
  · rw [q_isHeadF hC ha, Option.bind_some, if_pos rfl, if_neg ha]
    exact rq_some.mpr ⟨rfl, rq_fr.rfl⟩
theorem q_rhead (h : rq_J r ρ A c m) (hc : c < 800000) (a b : Int) : rq (f_X12_head 248 a b m) (fun q => q.1 = rq_vhead ρ A a b ∧ rq_fr rq_WQ m q.2) := by
  obtain ⟨m2, e2, h2, f2⟩ := q_thr h 0
  have hD := h2.2.1
  have hs := hD.1
  have hb := hD.2.1.1
  have hS := q_Sr h2
  have h0 := q_sea0 h
  have hcc := h.2.2.2.2.2.2.1
  unfold f_X12_head rq_vhead
  rw [e2, Option.bind_some]
  unfold j_X12_head_22 j_X12_head_100 j_X12_head_75 j_X12_head_49
  by_cases ha : 0 ≤ a ∧ a < ρ.1 0 1
  · obtain ⟨w, rfl⟩ := Int.eq_ofNat_of_zero_le ha.1
    have e : ((w : Int)).toNat = w := Int.toNat_natCast w
    have hr := hD.2.2.2.2.1 w ha.2
    rw [q_rihT hD ha.1 ha.2, Option.bind_some, if_neg (by decide), if_pos ha, e]
    by_cases hb4 : 0 ≤ b ∧ b ≤ 5
    · rw [q_withinT hb4.1 hb4.2, Option.bind_some, if_neg (by decide)]
      simp only [q_gfr, Option.bind_some, q_rs0 hs hS 0 rfl, q_rwigOn hD hS h.2.2.2.2.2.1.1, q_a8 (k := 256) _ 12 (pt_248_16 hs) kd_256 ln_256 (show w < 12 by omega), q_a8 (k := 257) _ 12 (pt_248_17 hs) kd_257 ln_257 (show w < 12 by omega), q_a8 (k := 258) _ 12 (pt_248_18 hs) kd_258 ln_258 (show w < 12 by omega), q_a8 (k := 259) _ 12 (pt_248_19 hs) kd_259 ln_259 (show w < 12 by omega), hr.1, hr.2.1, hr.2.2.1, hr.2.2.2.1]
      by_cases b2 : 2 ≤ b
      · rw [if_pos b2, if_neg (show ¬ b = 0 by omega), if_neg (show ¬ b = 1 by omega)]
        by_cases b4 : 4 ≤ b
        · rw [if_pos b4, if_neg (show ¬ b = 2 by omega), if_neg (show ¬ b = 3 by omega)]
          by_cases z : b = 4
          · rw [if_pos z, if_pos z]
            have hg := q_girthIn hD (k := w) (t := (A.1 0).toNat) ha.2 (by omega)
            rw [← h0] at hg
            refine rq_call hg ?_
            rintro ⟨x, m1⟩ ⟨rfl, hf⟩
            exact rq_some.mpr ⟨rfl, f2.trans (rq_frF hf)⟩
          · rw [if_neg z, if_neg z, if_pos (by omega)]; exact rq_some.mpr ⟨rfl, f2⟩
        · rw [if_neg b4]
          by_cases z : b = 2
          · rw [if_pos z, if_pos z]; exact rq_some.mpr ⟨rfl, f2⟩
          · rw [if_neg z, if_neg z, if_pos (by omega)]; exact rq_some.mpr ⟨rfl, f2⟩
      · rw [if_neg b2]
        by_cases z : b = 0
        · rw [if_pos z, if_pos z]; exact rq_some.mpr ⟨rfl, f2⟩
        · rw [if_neg z, if_neg z, if_pos (by omega)]; exact rq_some.mpr ⟨rfl, f2⟩
    · rw [q_withinF hb4, Option.bind_some, if_pos rfl, if_neg (by omega), if_neg (by omega), if_neg (by omega), if_neg (by omega), if_neg (by omega), if_neg (by omega)]
      exact rq_some.mpr ⟨rfl, f2⟩
  · rw [q_rihF hD ha, Option.bind_some, if_pos rfl, if_neg ha]
    exact rq_some.mpr ⟨rfl, f2⟩
theorem L_head (hI : rq_I c m) (hc : c < 800000) (a b : Int) : rq (f_X11_head 41 a b m) (fun p => rq (f_X12_head 248 a b p.2) (fun q => q.1 = p.1 ∧ rq_I (c + 1) q.2)) := by
  obtain ⟨r, ρ, A, h⟩ := hI
  exact rq_pair (o2 := f_X12_head 248 a b) h (q_head h hc a b) (fun m1 h1 => q_rhead h1 hc a b)
def rq_vfits (ρ : rq_R) (A : rq_A) (a b t : Int) : Int := if (0 ≤ a ∧ a < ρ.1 0 0) ∧ (0 ≤ b ∧ b < ρ.1 0 1) ∧ 0 ≤ t ∧ t ≤ 99 then rq_fi ρ a.toNat b.toNat ((A.1 0).toNat + t.toNat) else 0
theorem q_fits (h : rq_J r ρ A c m) (hc : c < 800000) (a b t : Int) : rq (f_X11_fits 41 a b t m) (fun p => p.1 = rq_vfits ρ A a b t ∧ rq_fr rq_WQ m p.2) := by
  have hC := h.1
  have hs := hC.1
  have h0 := q_sea0 h
  have hcc := h.2.2.2.2.2.2.1
  unfold f_X11_fits rq_vfits
  unfold j_X11_fits_60 j_X11_fits_61
  simp only [q_told h, Option.bind_some, q_gd4 hC]
  by_cases ha : 0 ≤ a ∧ a < ρ.1 0 0
  · rw [q_isWigT hC ha.1 ha.2, Option.bind_some, if_neg (by decide)]
    by_cases hb : 0 ≤ b ∧ b < ρ.1 0 1
    · rw [q_isHeadT hC hb.1 hb.2, Option.bind_some, if_neg (by decide)]
      by_cases ht : 0 ≤ t ∧ t ≤ 99
      · obtain ⟨w, rfl⟩ := Int.eq_ofNat_of_zero_le ha.1
        obtain ⟨k, rfl⟩ := Int.eq_ofNat_of_zero_le hb.1
        obtain ⟨u, rfl⟩ := Int.eq_ofNat_of_zero_le ht.1
        rw [if_neg (by omega), if_neg (by omega), if_pos ⟨ha, hb, ht⟩]
        simp only [q_now hs, q_nst hs, Option.bind_some, q_sea h, Int.toNat_natCast]
        have hg := q_isFit hC (w := w) (k := k) (t := (A.1 0).toNat + u) ha.2 hb.2 (by omega)
        rw [rq_iadd (by omega) (by omega)]
        rw [show (((A.1 0).toNat + u : Nat) : Int) = A.1 0 + (u : Int) by omega] at hg
        refine rq_call hg ?_
        rintro ⟨x, m1⟩ ⟨rfl, hf⟩
        dsimp only
        rcases rq_fi01 ρ w k ((A.1 0).toNat + u) with z | z
        · rw [z, if_pos rfl]; exact rq_some.mpr ⟨rfl, rq_frE hf⟩
        · rw [z, if_neg (by decide)]; exact rq_some.mpr ⟨rfl, rq_frE hf⟩
      · rw [if_neg (show ¬ ((0 ≤ a ∧ a < ρ.1 0 0) ∧ (0 ≤ b ∧ b < ρ.1 0 1) ∧ 0 ≤ t ∧ t ≤ 99) from fun z => ht z.2.2)]
        by_cases z : t < 0
        · rw [if_pos z]; exact rq_some.mpr ⟨rfl, rq_fr.rfl⟩
        · rw [if_neg z, if_pos (by omega)]; exact rq_some.mpr ⟨rfl, rq_fr.rfl⟩
    · rw [q_isHeadF hC hb, Option.bind_some, if_pos rfl, if_neg (fun z => hb z.2.1)]; exact rq_some.mpr ⟨rfl, rq_fr.rfl⟩
  · rw [q_isWigF hC ha, Option.bind_some, if_pos rfl, if_neg (fun z => ha z.1)]; exact rq_some.mpr ⟨rfl, rq_fr.rfl⟩
theorem q_rfits (h : rq_J r ρ A c m) (hc : c < 800000) (a b t : Int) : rq (f_X12_fits 248 a b t m) (fun p => p.1 = rq_vfits ρ A a b t ∧ rq_fr rq_WQ m p.2) := by
  obtain ⟨m2, e2, h2, f2⟩ := q_thr h 0
  have hD := h2.2.1
  have hs := hD.1
  have hS := q_Sr h2
  have h0 := q_sea0 h
  have hcc := h.2.2.2.2.2.2.1
  unfold f_X12_fits rq_vfits
  unfold j_X12_fits_52 j_X12_fits_53
  rw [e2, Option.bind_some]
  by_cases ha : 0 ≤ a ∧ a < ρ.1 0 0
  · rw [q_riwT hD ha.1 ha.2, Option.bind_some, if_neg (by decide)]
    by_cases hb : 0 ≤ b ∧ b < ρ.1 0 1
    · rw [q_rihT hD hb.1 hb.2, Option.bind_some, if_neg (by decide)]
      by_cases ht : 0 ≤ t ∧ t ≤ 99
      · obtain ⟨w, rfl⟩ := Int.eq_ofNat_of_zero_le ha.1
        obtain ⟨k, rfl⟩ := Int.eq_ofNat_of_zero_le hb.1
        obtain ⟨u, rfl⟩ := Int.eq_ofNat_of_zero_le ht.1
        rw [q_withinT ht.1 ht.2, Option.bind_some, if_neg (by decide), if_pos ⟨ha, hb, ht⟩]
        simp only [q_gfr, Option.bind_some, q_rs0 hs hS 0 rfl, Int.toNat_natCast]
        have hg := q_fitsIn hD (w := w) (k := k) (t := (A.1 0).toNat + u) ha.2 hb.2 (by omega)
        rw [rq_iadd (by omega) (by omega)]
        rw [show (((A.1 0).toNat + u : Nat) : Int) = A.1 0 + (u : Int) by omega] at hg
        refine rq_call hg ?_
        rintro ⟨x, m1⟩ ⟨rfl, hf⟩
        dsimp only
        rcases rq_fi01 ρ w k ((A.1 0).toNat + u) with z | z
        · rw [z, if_pos rfl]; exact rq_some.mpr ⟨rfl, f2.trans (rq_frF hf)⟩
        · rw [z, if_neg (by decide)]; exact rq_some.mpr ⟨rfl, f2.trans (rq_frF hf)⟩
      · rw [q_withinF ht, Option.bind_some, if_pos rfl, if_neg (fun z => ht z.2.2)]; exact rq_some.mpr ⟨rfl, f2⟩
    · rw [q_rihF hD hb, Option.bind_some, if_pos rfl, if_neg (fun z => hb z.2.1)]; exact rq_some.mpr ⟨rfl, f2⟩
  · rw [q_riwF hD ha, Option.bind_some, if_pos rfl, if_neg (fun z => ha z.1)]; exact rq_some.mpr ⟨rfl, f2⟩
theorem L_fits (hI : rq_I c m) (hc : c < 800000) (a b t : Int) : rq (f_X11_fits 41 a b t m) (fun p => rq (f_X12_fits 248 a b t p.2) (fun q => q.1 = p.1 ∧ rq_I (c + 1) q.2)) := by
  obtain ⟨r, ρ, A, h⟩ := hI
  exact rq_pair (o2 := f_X12_fits 248 a b t) h (q_fits h hc a b t) (fun m1 h1 => q_rfits h1 hc a b t)
/-- the wigs for a case -/
def rq_jb (ρ : rq_R) (S : rq_S) (hard : Int) : Nat := rq_bn (fun w => decide (S (1 + w) ≠ -1) && decide (rq_jf ρ (ρ.1 3 w) (S (1 + w)).toNat hard ≠ 0)) (ρ.1 0 0).toNat
theorem q_wigsFor (h : rq_J r ρ A c m) {hard : Int} (hh : 0 ≤ hard ∧ hard ≤ 9) : rq (f_X11_wigsFor 41 hard m) (fun p => p.1 = ((rq_jb ρ A.1 hard : Nat) : Int) ∧ rq_fr rq_wE m p.2) := by
  have hb := h.1.2.2.1.1
  have hv := h.2.2.2.2.2.1.1.2.2
  unfold f_X11_wigsFor rq_jb
  refine rq_call (rq_up (Q := fun e => e.1 = ((rq_jb ρ A.1 hard : Nat) : Int) ∧ rq_fr rq_wE m e.2) (fun i s => s.2.1 = (i : Int) ∧ s.1 = ((rq_bn (fun w => decide (A.1 (1 + w) ≠ -1) && decide (rq_jf ρ (ρ.1 3 w) (A.1 (1 + w)).toNat hard ≠ 0)) i : Nat) : Int) ∧ rq_fr rq_wE m s.2.2) (ρ.1 0 0).toNat (by omega) ?_ ?_ ⟨rfl, rfl, rq_fr.rfl⟩) ?_
  · rintro i ⟨x, y, mm⟩ hi ⟨e1, e2, hf⟩
    dsimp only at e1 e2 hf
    subst e1 e2
    have hJ := rq_J_fr h (rq_frE hf) (Nat.le_refl c)
    have hC := hJ.1
    have hs := hC.1
    have hS := q_Sc hJ
    have hi6 : i < 6 := by omega
    have hlt := rq_bn_lt (fun w => decide (A.1 (1 + w) ≠ -1) && decide (rq_jf ρ (ρ.1 3 w) (A.1 (1 + w)).toNat hard ≠ 0)) i
    have h64 : 2 ^ i ≤ 2 ^ 6 := Nat.pow_le_pow_right (by decide) (by omega)
    have hw := (hv i hi6).1
    have hl := hC.2.2.1.2.1 i (by omega)
    unfold b_X11_wigsFor_4 j_X11_wigsFor_61_4
    simp only [q_told hJ, Option.bind_some, q_gf4 hC, hC.2.2.2.1.1, q_now hs, q_nst hs, q_gd7 q_b49, q_headUnder hs hS hi6, q_gd4 hC, q_leanOfWig hC (show (i : Int) < ρ.1 0 0 by omega)]
    rw [if_neg (by omega), rq_n1 (by omega)]
    by_cases q : A.1 (1 + i) = -1
    · rw [if_pos q]
      refine rq_some.mpr (rq_inl ⟨rfl, ?_, hf⟩)
      rw [rq_bn_s, if_neg (by simp [q])]
    · rw [if_neg q]
      obtain ⟨k, hk⟩ := Int.eq_ofNat_of_zero_le (show 0 ≤ A.1 (1 + i) by omega)
      have hg := q_isFor hC (lean := ρ.1 3 i) (hard := hard) (k := k) ⟨hl.2.2.2.2.1, hl.2.2.2.2.2⟩ hh (by rw [← hk]; exact hw.2.1)
      rw [← hk] at hg
      refine rq_call hg ?_
      rintro ⟨x, m1⟩ ⟨rfl, hf1⟩
      dsimp only
      have ek : (A.1 (1 + i)).toNat = k := by omega
      by_cases z : rq_jf ρ (ρ.1 3 i) k hard = 0
      · rw [if_pos z]
        refine rq_some.mpr (rq_inl ⟨rfl, ?_, hf.trans hf1⟩)
        rw [rq_bn_s, if_neg (by simp [q, ek, z])]
      · rw [if_neg z, rq_sb _ (by omega) i (by omega)]
        refine rq_some.mpr (rq_inl ⟨rfl, ?_, hf.trans hf1⟩)
        rw [rq_bn_s, if_pos (by simp [q, ek, z])]
  · rintro ⟨x, y, mm⟩ ⟨e1, e2, hf⟩
    dsimp only at e1 e2 hf
    subst e1 e2
    have hJ := rq_J_fr h (rq_frE hf) (Nat.le_refl c)
    have hC := hJ.1
    unfold b_X11_wigsFor_4
    simp only [q_told hJ, Option.bind_some, q_gf4 hC, hC.2.2.2.1.1]
    rw [if_pos (by omega)]
    exact rq_some.mpr (rq_inre ⟨rfl, hf⟩)
  · rintro ⟨x, mm⟩ q
    exact rq_some.mpr q
theorem q_judgedFor (h : rq_J r ρ A c m) {hard : Int} (hh : 0 ≤ hard ∧ hard ≤ 9) : rq (f_X12_judgedFor 248 hard m) (fun p => p.1 = ((rq_jb ρ A.1 hard : Nat) : Int) ∧ rq_fr rq_wF m p.2) := by
  have hb := h.1.2.2.1.1
  have hv := h.2.2.2.2.2.1.1.2.2
  unfold f_X12_judgedFor
  refine rq_call (rq_up (Q := fun e => e.1 = ((rq_jb ρ A.1 hard : Nat) : Int) ∧ rq_fr rq_wF m e.2) (fun i s => s.2.1 = (i : Int) ∧ s.1 = ((rq_bn (fun w => decide (A.1 (1 + w) ≠ -1) && decide (rq_jf ρ (ρ.1 3 w) (A.1 (1 + w)).toNat hard ≠ 0)) i : Nat) : Int) ∧ rq_fr rq_wF m s.2.2) (ρ.1 0 0).toNat (by omega) ?_ ?_ ⟨rfl, rfl, rq_fr.rfl⟩) ?_
  · rintro i ⟨x, y, mm⟩ hi ⟨e1, e2, hf⟩
    dsimp only at e1 e2 hf
    subst e1 e2
    have hJ := rq_J_fr h (rq_frF hf) (Nat.le_refl c)
    have hD := hJ.2.1
    have hs := hD.1
    have hS := q_Sr hJ
    have hi6 : i < 6 := by omega
    have hlt := rq_bn_lt (fun w => decide (A.1 (1 + w) ≠ -1) && decide (rq_jf ρ (ρ.1 3 w) (A.1 (1 + w)).toNat hard ≠ 0)) i
    have h64 : 2 ^ i ≤ 2 ^ 6 := Nat.pow_le_pow_right (by decide) (by omega)
    have hw := (hv i hi6).1
    have hl := hD.2.1.2.1 i (by omega)
    unfold b_X12_judgedFor_4 j_X12_judgedFor_54_4 j_X12_judgedFor_55_4
    simp only [q_gfr, Option.bind_some, q_rn0 hD 0 rfl, q_ron hs hS hi6, q_a8 (k := 255) _ 12 (pt_248_15 hs) kd_255 ln_255 (show i < 12 by omega), (hD.2.2.2.1 i (by omega)).2.2.1]
    rw [if_neg (by omega), rq_n1 (by omega), rq_or0 (by omega) (by omega)]
    by_cases q : A.1 (1 + i) = -1
    · rw [if_pos (by omega)]
      refine rq_some.mpr (rq_inl ⟨rfl, ?_, hf⟩)
      rw [rq_bn_s, if_neg (by simp [q])]
    · rw [if_neg (by omega)]
      obtain ⟨k, hk⟩ := Int.eq_ofNat_of_zero_le (show 0 ≤ A.1 (1 + i) by omega)
      have hg := q_risFor hD (lean := ρ.1 3 i) (hard := hard) (k := k) ⟨hl.2.2.2.2.1, hl.2.2.2.2.2⟩ hh (by rw [← hk]; exact hw.2.1)
      rw [← hk] at hg
      refine rq_call hg ?_
      rintro ⟨x, m1⟩ ⟨rfl, hf1⟩
      dsimp only
      have ek : (A.1 (1 + i)).toNat = k := by omega
      by_cases z : rq_jf ρ (ρ.1 3 i) k hard = 0
      · rw [if_pos z]
        refine rq_some.mpr (rq_inl ⟨rfl, ?_, hf.trans hf1⟩)
        rw [rq_bn_s, if_neg (by simp [q, ek, z])]
      · rw [if_neg z, rq_sb _ (by omega) i (by omega)]
        refine rq_some.mpr (rq_inl ⟨rfl, ?_, hf.trans hf1⟩)
        rw [rq_bn_s, if_pos (by simp [q, ek, z])]
  · rintro ⟨x, y, mm⟩ ⟨e1, e2, hf⟩
    dsimp only at e1 e2 hf
    subst e1 e2
    have hJ := rq_J_fr h (rq_frF hf) (Nat.le_refl c)
    have hD := hJ.2.1
    unfold b_X12_judgedFor_4
    simp only [q_gfr, Option.bind_some, q_rn0 hD 0 rfl]
    rw [if_pos (by omega)]
    exact rq_some.mpr (rq_inre ⟨rfl, hf⟩)
  · rintro ⟨x, mm⟩ q
    exact rq_some.mpr q
theorem q_isHardness (a : Int) : f_X11_isHardness a m = some (if 0 ≤ a ∧ a ≤ 9 then 1 else 0) := by
  unfold f_X11_isHardness j_X11_isHardness_14
  by_cases h1 : a < 0
  · rw [if_pos h1, if_neg (by omega)]; rfl
  · rw [if_neg h1]
    by_cases h2 : 9 < a
    · rw [if_pos h2, if_neg (by omega)]; rfl
    · rw [if_neg h2, if_pos (by omega)]; rfl
theorem L_verdict (hI : rq_I c m) (a : Int) : rq (f_X11_verdict 41 a m) (fun p => rq (f_X12_verdict 248 a p.2) (fun q => q.1 = p.1 ∧ rq_I (c + 1) q.2)) := by
  obtain ⟨r, ρ, A, h⟩ := hI
  refine rq_pair (v := if 0 ≤ a ∧ a ≤ 9 then ((rq_jb ρ A.1 a : Nat) : Int) else -1) (o2 := f_X12_verdict 248 a) h ?_ (fun m1 h1 => ?_)
  · unfold f_X11_verdict j_X11_verdict_16
    rw [q_isHardness, Option.bind_some]
    by_cases ha : 0 ≤ a ∧ a ≤ 9
    · rw [if_pos ha, if_neg (by decide), if_pos ha]
      refine rq_call (q_wigsFor h ha) ?_
      rintro ⟨x, m1⟩ ⟨e, hf⟩
      exact rq_some.mpr ⟨e, rq_frE hf⟩
    · rw [if_neg ha, if_pos rfl, if_neg ha]
      exact rq_some.mpr ⟨rfl, rq_fr.rfl⟩
  · obtain ⟨m2, e2, h2, f2⟩ := q_thr h1 0
    unfold f_X12_verdict j_X12_verdict_24
    rw [e2, Option.bind_some]
    by_cases ha : 0 ≤ a ∧ a ≤ 9
    · rw [q_withinT ha.1 ha.2, Option.bind_some, if_neg (by decide), if_pos ha]
      refine rq_call (q_judgedFor h2 ha) ?_
      rintro ⟨x, m1⟩ ⟨e, hf⟩
      exact rq_some.mpr ⟨e, f2.trans (rq_frF hf)⟩
    · rw [q_withinF ha, Option.bind_some, if_pos rfl, if_neg ha]
      exact rq_some.mpr ⟨rfl, f2⟩
theorem L_votes (hI : rq_I c m) (a : Int) : rq (f_X11_votes 41 a m) (fun p => rq (f_X12_votes 248 a p.2) (fun q => q.1 = p.1 ∧ rq_I (c + 1) q.2)) := by
  obtain ⟨r, ρ, A, h⟩ := hI
  refine rq_pair (v := if 0 ≤ a ∧ a ≤ 9 then rq_os ρ ((rq_jb ρ A.1 a : Nat) : Int) else -1) (o2 := f_X12_votes 248 a) h ?_ (fun m1 h1 => ?_)
  · unfold f_X11_votes j_X11_votes_23
    rw [q_isHardness, Option.bind_some, q_told h, Option.bind_some]
    by_cases ha : 0 ≤ a ∧ a ≤ 9
    · rw [if_pos ha, if_neg (by decide), if_pos ha]
      refine rq_call (q_wigsFor h ha) ?_
      rintro ⟨x, m1⟩ ⟨e, hf⟩
      dsimp only at e hf ⊢
      have hC := (rq_J_fr h (rq_frE hf) (Nat.le_refl c)).1
      rw [e, q_gd4 hC, q_officeOfAll hC, Option.bind_some]
      exact rq_some.mpr ⟨rfl, rq_frE hf⟩
    · rw [if_neg ha, if_pos rfl, if_neg ha]
      exact rq_some.mpr ⟨rfl, rq_fr.rfl⟩
  · obtain ⟨m2, e2, h2, f2⟩ := q_thr h1 0
    unfold f_X12_votes j_X12_votes_28
    rw [e2, Option.bind_some]
    by_cases ha : 0 ≤ a ∧ a ≤ 9
    · rw [q_withinT ha.1 ha.2, Option.bind_some, if_neg (by decide), if_pos ha]
      refine rq_call (q_judgedFor h2 ha) ?_
      rintro ⟨x, m3⟩ ⟨e, hf⟩
      dsimp only at e hf ⊢
      have hD := (rq_J_fr h2 (rq_frF hf) (Nat.le_refl c)).2.1
      rw [e, q_rofficeOf hD, Option.bind_some]
      exact rq_some.mpr ⟨rfl, f2.trans (rq_frF hf)⟩
    · rw [q_withinF ha, Option.bind_some, if_pos rfl, if_neg ha]
      exact rq_some.mpr ⟨rfl, f2⟩
end
