/-! Layer 3: fill -/
section
variable {r : Nat} {ρ : rq_R} {A : rq_A} {c : Nat} {m : rt_M}
theorem rq_WQ_92 {k j : Nat} (h : rq_WQ k j = false) : rq_w92 k j = false := by
  have h := rq_WQ_R h
  unfold rq_WR at h
  unfold rq_w92
  simp only [Bool.or_eq_false_iff, Bool.and_eq_false_iff, beq_eq_false_iff_ne, decide_eq_false_iff_not] at h ⊢
  exact ⟨h.1.1.1.1, by omega⟩
theorem rq_WQ_90 {k j : Nat} (h : rq_WQ k j = false) : rq_w90 k j = false := by
  have h := rq_WQ_R h
  unfold rq_WR at h
  unfold rq_w90
  simp only [Bool.or_eq_false_iff, Bool.and_eq_false_iff, beq_eq_false_iff_ne, decide_eq_false_iff_not] at h ⊢
  omega
theorem rq_fo_H {S : rq_S} {n w k : Nat} (hk : (ρ.1 0 1).toNat ≤ k) : (rq_fo ρ S n w).testBit k = false := by
  unfold rq_fo
  split
  · rw [rq_bn_tb]
    simp
    omega
  · simp
theorem q_rfill31 (h : rq_J r ρ A c m) {n : Nat} (h1 : 1 ≤ n) (hn : n ≤ 8) {a : Int} (ha : a = -1 ∨ (0 ≤ a ∧ a < ρ.1 0 0)) : rq (j_X12_fill_31 248 (n : Int) a m) (fun p => p.1 = rq_vfi ρ A.1 n a ∧ rq_fr rq_WQ m p.2) := by
  have hb := h.1.2.2.1.1
  have hv := h.2.2.2.2.2.1.1
  have f1 : rq_fr rq_WQ m (rt_up m 248 59 (n : Int)) := rq_fr.rfl.up (by decide)
  have h1' := rq_J_fr h f1 (Nat.le_refl c)
  unfold j_X12_fill_31 j_X12_fill_145
  rw [q_pfr, Option.bind_some]
  refine rq_call (q_rfillG h1'.2.1 (q_Sr h1') hv hn (by rw [q_up, if_pos ⟨rfl, rfl⟩]) a) ?_
  rintro m2 ⟨t2, f2⟩
  have f2' : rq_fr rq_WQ _ m2 := f2.mono (fun _ _ => rq_WQ_92)
  have h2 := rq_J_fr h1' f2' (Nat.le_refl c)
  have f3 : rq_fr rq_WQ m2 (rt_up m2 248 58 (-1)) := rq_fr.rfl.up (by decide)
  have h3 := rq_J_fr h2 f3 (Nat.le_refl c)
  rw [q_pfr, Option.bind_some]
  have ff := q_ffrom (ρ := ρ) (o := rq_fo ρ A.1 n) (fun w => rq_fo_b h.1.2.2.1 n w) (fun w k hk => rq_fo_H hk) (ρ.1 0 0).toNat 12 0 0 0 _ (by omega) (by omega) (by decide) (Int.le_refl 0) (by decide) h3.2.1 (fun w k hw hk => by show rt_up m2 248 58 (-1) 292 _ = _; rw [q_up, if_neg (by omega)]; exact t2 w k hw hk)
  refine rq_call ff ?_
  rintro m4 ⟨⟨g1, -⟩, -, f4⟩
  have f4' : rq_fr rq_WQ _ m4 := f4.mono (fun _ _ => rq_WQ_90)
  have h4 := rq_J_fr h3 f4' (Nat.le_refl c)
  have fa := ((f1.trans f2').trans f3).trans f4'
  have hB := (rq_bs_b (o := rq_fo ρ A.1 n) (ag := false) (n := (ρ.1 0 0).toNat) (rq_fq_b h.1.2.2.1) (ρ.1 0 0).toNat 0).1
  obtain ⟨b1, -, b3⟩ := g1 (by rw [q_up, if_pos ⟨rfl, rfl⟩]; omega)
  unfold rq_vfi
  rw [if_neg (show ¬ ¬ (1 ≤ (n : Int) ∧ (n : Int) ≤ 8) by omega), Int.toNat_natCast]
  by_cases z : a = -1
  · rw [if_pos z, if_pos z, q_gfr, Option.bind_some]
    exact rq_some.mpr ⟨by rw [b1]; omega, fa⟩
  · have ha := ha.resolve_left z
    obtain ⟨w, rfl⟩ := Int.eq_ofNat_of_zero_le ha.1
    rw [if_neg z, if_neg z, if_pos ha, q_gfr, Option.bind_some, q_a8 (k := 291) _ 6 (pt_248_57 h4.1.1) kd_291 ln_291 (by omega), Option.bind_some, b3 w (Nat.zero_le w) (by omega), Int.toNat_natCast]
    have e := rq_rw_ss (o := rq_fo ρ A.1 n) (g := rq_fq ρ) (ag := false) (n := (ρ.1 0 0).toNat) w (by omega) (ρ.1 0 0).toNat (Nat.le_refl _) (by omega)
    rw [Nat.sub_self] at e
    exact rq_some.mpr ⟨e, fa⟩
theorem L_fill (hI : rq_I c m) (hc : c < 800000) (n a : Int) : rq (f_X11_fill 41 n a m) (fun p => rq (f_X12_fill 248 n a p.2) (fun q => q.1 = p.1 ∧ rq_I (c + 1) q.2)) := by
  obtain ⟨r, ρ, A, h⟩ := hI
  refine rq_pair (v := rq_vfi ρ A.1 n a) (o2 := f_X12_fill 248 n a) h (q_fill11 h hc n a) (fun m1 h1 => ?_)
  obtain ⟨m2, e2, h2, f2⟩ := q_thr h1 0
  unfold f_X12_fill j_X12_fill_28
  rw [e2, Option.bind_some]
  by_cases hn : 1 ≤ n ∧ n ≤ 8
  · obtain ⟨n, rfl⟩ := Int.eq_ofNat_of_zero_le (show 0 ≤ n by omega)
    rw [q_withinT hn.1 hn.2, Option.bind_some, if_neg (by decide)]
    by_cases z : a = -1
    · rw [if_pos z]
      exact rq_mono (q_rfill31 h2 (by omega) (by omega) (Or.inl z)) (fun p q => ⟨q.1, f2.trans q.2⟩)
    · rw [if_neg z]
      by_cases ha : 0 ≤ a ∧ a < ρ.1 0 0
      · rw [q_riwT h2.2.1 ha.1 ha.2, Option.bind_some, if_neg (by decide)]
        exact rq_mono (q_rfill31 h2 (by omega) (by omega) (Or.inr ha)) (fun p q => ⟨q.1, f2.trans q.2⟩)
      · rw [q_riwF h2.2.1 ha, Option.bind_some, if_pos rfl]
        refine rq_some.mpr ⟨?_, f2⟩
        unfold rq_vfi
        rw [if_neg (fun y => y hn), if_neg z, if_neg ha]
  · rw [q_withinF hn, Option.bind_some, if_pos rfl]
    refine rq_some.mpr ⟨?_, f2⟩
    unfold rq_vfi
    rw [if_pos hn]
end
