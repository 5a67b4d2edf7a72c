/-! Layer 3: moths -/
section
variable {r : Nat} {ρ : rq_R} {A : rq_A} {c : Nat} {m : rt_M}
theorem rq_WQ_94 {k j : Nat} (h : rq_WQ k j = false) : (k = 285 ∧ j < 13) ∨ rq_w94 k j = false := by
  have h := rq_WQ_R h
  unfold rq_WR at h
  unfold rq_w94 rq_wR
  simp only [Bool.or_eq_false_iff, Bool.and_eq_false_iff, beq_eq_false_iff_ne, decide_eq_false_iff_not] at h ⊢
  by_cases z : k = 285
  · exact Or.inl ⟨z, by omega⟩
  · refine Or.inr ⟨⟨⟨⟨⟨h.1.1.1.1, z⟩, ?_⟩, ?_⟩, ?_⟩, ?_⟩ <;> omega
theorem q_rmoths (h : rq_J r ρ A c m) (hc : c < 800000) (n a : Int) : rq (f_X12_moths 248 n a m) (fun p => p.1 = rq_vmo ρ A.1 n a ∧ rq_fr rq_WQ m p.2) := by
  have hv := h.1.2.2.1
  have hvS := h.2.2.2.2.2.1.1
  have hcc := h.2.2.2.2.2.2.1
  obtain ⟨m2, e2, h2, f2⟩ := q_thr h 0
  unfold f_X12_moths j_X12_moths_23 j_X12_moths_56
  rw [e2, Option.bind_some]
  by_cases hn : (1 ≤ n ∧ n ≤ 4) ∧ 0 ≤ a ∧ a ≤ n
  · obtain ⟨n, rfl⟩ := Int.eq_ofNat_of_zero_le (show 0 ≤ n by omega)
    obtain ⟨a, rfl⟩ := Int.eq_ofNat_of_zero_le (show 0 ≤ a by omega)
    rw [q_withinT hn.1.1 hn.1.2, Option.bind_some, if_neg (by decide), q_withinT hn.2.1 hn.2.2, Option.bind_some, if_neg (by decide), q_pfr, Option.bind_some]
    have f3 : rq_fr rq_WQ m2 (rt_up m2 248 64 (-1)) := rq_fr.rfl.up (by decide)
    have h3 := rq_J_fr h2 f3 (Nat.le_refl c)
    have e64 : rt_up m2 248 64 (-1) 248 64 = -1 := by rw [q_up, if_pos ⟨rfl, rfl⟩]
    generalize rt_up m2 248 64 (-1) = m3 at f3 h3 e64 ⊢
    have hm0 : rq_md ρ A.1 0 0 A.1 := ⟨hvS, rfl, fun w hw => ⟨rfl, fun _ => rfl, fun q => absurd q (by simp)⟩⟩
    refine rq_call (q_mends hv hvS (by omega) (n := n) (by omega) n 12 0 0 A.1 m3 (by omega) (by omega) (by decide) h3.2.1 (q_Sr h3) hm0) ?_
    rintro m4 ⟨g1, g2, g3, g4, f4⟩
    have f4' : rq_fr rq_WQ m3 m4 := fun k j q => by
      rcases rq_WQ_94 q with ⟨rfl, hj⟩ | q2
      · rw [g4 j hj, q_Sr h3 j hj]
      · exact f4 k j q2
    have h4 := rq_J_fr h3 f4' (Nat.le_refl c)
    have fa := (f2.trans f3).trans f4'
    have bb := (rq_bs_b (o := rq_mo ρ A.1 n) (g := rq_mg ρ A.1 n) (ag := true) (n := n) (fun i j => rq_mg_b hv n i j) n 0).1
    have ob := (rq_os_bd hv (rt_ixor ((rq_wt ρ (rq_pn ρ A.1 n) : Nat) : Int) (-1))).1
    rw [rq_b9_c hv] at ob
    rw [rq_gs_0] at g1
    obtain ⟨c1, -, c3⟩ := g1.1 (by rw [e64]; omega)
    unfold rq_vmo
    rw [if_neg (show ¬ ¬ ((1 ≤ (n : Int) ∧ (n : Int) ≤ 4) ∧ 0 ≤ (a : Int) ∧ (a : Int) ≤ (n : Int)) from fun y => y hn), Int.toNat_natCast, Int.toNat_natCast, rq_b9_c hv]
    by_cases z : (a : Int) = 0
    · rw [if_pos z, if_pos z, q_gfr, Option.bind_some]
      exact rq_some.mpr ⟨by rw [c1]; omega, fa⟩
    · have ea : rt_isub (a : Int) 1 = ((a - 1 : Nat) : Int) := by rw [rq_isub (by omega) (by omega)]; omega
      rw [if_neg z, if_neg z, q_gfr, Option.bind_some, ea, q_a8 (k := 295) _ 4 (pt_248_63 h4.1.1) kd_295 ln_295 (by omega), Option.bind_some, c3 (a - 1) (Nat.zero_le _) (by omega)]
      have e := rq_rw_ss (o := rq_mo ρ A.1 n) (g := rq_mg ρ A.1 n) (ag := true) (n := n) (a - 1) (by omega) n (Nat.le_refl _) (by omega)
      rw [Nat.sub_self] at e
      exact rq_some.mpr ⟨e, fa⟩
  · have e : rq_vmo ρ A.1 n a = -2 := by unfold rq_vmo; rw [if_pos hn]
    rw [e]
    by_cases z1 : 1 ≤ n ∧ n ≤ 4
    · rw [q_withinT z1.1 z1.2, Option.bind_some, if_neg (by decide), q_withinF (fun y => hn ⟨z1, y⟩), Option.bind_some, if_pos rfl]
      exact rq_some.mpr ⟨rfl, f2⟩
    · rw [q_withinF z1, Option.bind_some, if_pos rfl]
      exact rq_some.mpr ⟨rfl, f2⟩
theorem L_moths (hI : rq_I c m) (hc : c < 800000) (n a : Int) : rq (f_X11_moths 41 n a m) (fun p => rq (f_X12_moths 248 n a p.2) (fun q => q.1 = p.1 ∧ rq_I (c + 1) q.2)) := by
  obtain ⟨r, ρ, A, h⟩ := hI
  exact rq_pair (v := rq_vmo ρ A.1 n a) (o2 := f_X12_moths 248 n a) h (q_moths11 h hc n a) (fun m1 h1 => q_rmoths h1 hc n a)
end
