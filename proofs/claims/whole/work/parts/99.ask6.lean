/-! Layer 3: ask -/
section
variable {r : Nat} {ρ : rq_R} {A : rq_A} {c : Nat} {m : rt_M} {t : Nat} {D : Nat → Int}
theorem rq_aA_j (hv : rq_va ρ) (w n : Nat) : rq_sum (fun j => rq_aL ρ t D w n j) 10 = rq_aA ρ t D w n := by
  unfold rq_aL rq_aA
  rw [rq_sum_comm]
  refine rq_sum_c _ (fun h _ => ?_)
  have tb := rq_tt_b hv w h t
  by_cases z : rq_tt ρ w h t = -1
  · rw [if_pos z, rq_sum_c (g := fun _ => 0) 10 (fun j _ => by rw [if_neg (by omega)]), rq_sum_0]
  · obtain ⟨τ, hτ⟩ := Int.eq_ofNat_of_zero_le (show 0 ≤ rq_tt ρ w h t by omega)
    rw [if_neg z]
    have := rq_sum_one (f := fun _ => 0) (f' := fun j : Nat => if rq_tt ρ w h t = (j : Int) then rq_uB ρ t D (-1) h else 0) (w := τ) (d := rq_uB ρ t D (-1) h) (fun j hj => by
      show (if rq_tt ρ w h t = (j : Int) then _ else (0 : Int)) = 0
      rw [if_neg (by omega)]) (by
      show (if rq_tt ρ w h t = (τ : Int) then _ else (0 : Int)) = 0 + _
      rw [if_pos hτ, Int.zero_add]) 10 (by omega)
    rw [this, rq_sum_0, Int.zero_add]
theorem q_raskL (h : rq_J r ρ A c m) {w : Nat} (hw : (w : Int) < ρ.1 0 0) : rq (f_X12_laysUnder 248 (w : Int) m) (fun m1 => (∀ j, j < 10 → m1 297 j = rq_aL ρ (A.1 0).toNat A.2.2.2 w (ρ.1 0 1).toNat j) ∧ rq_fr rq_WQ m m1) := by
  refine rq_mono (q_laysUnder h hw) ?_
  rintro m1 ⟨⟨U, hU, -, -, p3⟩, f⟩
  refine ⟨fun j hj => ?_, f⟩
  have := p3 (by omega) j hj
  rw [show (rq_su3 m1).2.2 j = m1 297 j from rfl] at this
  rw [this, Int.toNat_natCast]
  unfold rq_aL
  refine rq_sum_c _ (fun h _ => ?_)
  have e := rq_ci_bare (T := rq_uT A.2.2.2 (-1)) (F := rq_uF ρ (A.1 0).toNat A.2.2.2) (H := (ρ.1 0 1).toNat) h (ρ.1 0 0).toNat 0 U 0
  rw [if_pos (Nat.zero_testBit h), Nat.zero_or] at e
  rw [e]
  rfl
theorem q_rask12 (h : rq_J r ρ A c m) : rq (f_X12_ask 248 m) (fun p => p.1 = (rq_as ρ (A.1 0).toNat A.2.2.2 (ρ.1 0 0).toNat).1 ∧ rq_fr rq_WQ m p.2) := by
  have hv := h.1.2.2.1
  have hb := hv.1
  have hvd := h.2.2.2.2.2.1.2.2.2
  obtain ⟨m2, e2, h2, f2⟩ := q_thr h 0
  unfold f_X12_ask
  rw [e2, Option.bind_some]
  refine rq_call (rq_up (Q := fun e => e.1 = (rq_as ρ (A.1 0).toNat A.2.2.2 (ρ.1 0 0).toNat).1 ∧ rq_fr rq_WQ m2 e.2) (fun i e => e.2.2.1 = (i : Int) ∧ (e.1, e.2.1) = rq_as ρ (A.1 0).toNat A.2.2.2 i ∧ rq_fr rq_WQ m2 e.2.2.2) (ρ.1 0 0).toNat (by omega) ?_ ?_ (by exact ⟨rfl, rfl, rq_fr.rfl⟩)) (fun e q => rq_some.mpr ⟨q.1, f2.trans q.2⟩)
  · rintro i ⟨x, y, z, mm⟩ hi ⟨e1, e3, hf⟩
    dsimp only at e1 e3 hf
    subst e1
    have hJ := rq_J_fr h2 hf (Nat.le_refl c)
    have d : mm 284 i = A.2.2.2 i := by have := hJ.2.2.2.2.1.2.2.2 i (by omega); rw [Nat.mul_zero, Nat.zero_add] at this; exact this
    have vd := hvd i (by omega)
    have ab := rq_as_b (ρ := ρ) (t := (A.1 0).toNat) (D := A.2.2.2) i
    have ex : (rq_as ρ (A.1 0).toNat A.2.2.2 i).1 = x := by rw [← e3]
    have ey : (rq_as ρ (A.1 0).toNat A.2.2.2 i).2 = y := by rw [← e3]
    have stay : ∀ m4, rq_fr rq_WQ m2 m4 → ¬ (A.2.2.2 i = -1 ∧ rq_aM ρ (A.1 0).toNat A.2.2.2 i (ρ.1 0 1).toNat < rq_aA ρ (A.1 0).toNat A.2.2.2 i (ρ.1 0 1).toNat ∧ (x = -1 ∨ rq_aM ρ (A.1 0).toNat A.2.2.2 i (ρ.1 0 1).toNat < y)) → rq (j_X12_ask_111_11 248 x y (i : Int) m4) (fun t => (∀ s', t = .inl s' → s'.2.2.1 = ((i + 1 : Nat) : Int) ∧ (s'.1, s'.2.1) = rq_as ρ (A.1 0).toNat A.2.2.2 (i + 1) ∧ rq_fr rq_WQ m2 s'.2.2.2) ∧ (∀ e, t = .inr e → e.1 = (rq_as ρ (A.1 0).toNat A.2.2.2 (ρ.1 0 0).toNat).1 ∧ rq_fr rq_WQ m2 e.2)) := by
      intro m4 f4 q
      unfold j_X12_ask_111_11
      rw [rq_n1 (by omega)]
      refine rq_some.mpr (rq_inl ⟨rfl, ?_, f4⟩)
      rw [rq_as_s, ex, ey, if_neg q]
      exact e3
    have take : ∀ m4, rq_fr rq_WQ m2 m4 → (A.2.2.2 i = -1 ∧ rq_aM ρ (A.1 0).toNat A.2.2.2 i (ρ.1 0 1).toNat < rq_aA ρ (A.1 0).toNat A.2.2.2 i (ρ.1 0 1).toNat ∧ (x = -1 ∨ rq_aM ρ (A.1 0).toNat A.2.2.2 i (ρ.1 0 1).toNat < y)) → rq (j_X12_ask_106_11 248 (i : Int) (rq_aM ρ (A.1 0).toNat A.2.2.2 i (ρ.1 0 1).toNat) m4) (fun t => (∀ s', t = .inl s' → s'.2.2.1 = ((i + 1 : Nat) : Int) ∧ (s'.1, s'.2.1) = rq_as ρ (A.1 0).toNat A.2.2.2 (i + 1) ∧ rq_fr rq_WQ m2 s'.2.2.2) ∧ (∀ e, t = .inr e → e.1 = (rq_as ρ (A.1 0).toNat A.2.2.2 (ρ.1 0 0).toNat).1 ∧ rq_fr rq_WQ m2 e.2)) := by
      intro m4 f4 q
      unfold j_X12_ask_106_11 j_X12_ask_111_11
      rw [rq_n1 (by omega)]
      refine rq_some.mpr (rq_inl ⟨rfl, ?_, f4⟩)
      rw [rq_as_s, ex, ey, if_pos q]
    have am := rq_aM_le (t := (A.1 0).toNat) (D := A.2.2.2) hv i (ρ.1 0 1).toNat
    unfold b_X12_ask_11
    dsimp only
    rw [q_gfr, Option.bind_some, q_rn0 hJ.2.1 0 rfl, Option.bind_some, if_neg (by omega), q_gfr, Option.bind_some, q_a8 (k := 284) _ 30 (pt_248_49 hJ.1.1) kd_284 ln_284 (by omega), Option.bind_some, d]
    by_cases z1 : A.2.2.2 i < 0
    · have z1' : A.2.2.2 i = -1 := by omega
      rw [if_pos z1]
      refine rq_call (q_raskL hJ (w := i) (by omega)) ?_
      rintro m3 ⟨b3, f3⟩
      have f3' := hf.trans f3
      have hJ3 := rq_J_fr h2 f3' (Nat.le_refl c)
      refine rq_call (rq_up (Q := fun e => e = (rq_aA ρ (A.1 0).toNat A.2.2.2 i (ρ.1 0 1).toNat, rq_aM ρ (A.1 0).toNat A.2.2.2 i (ρ.1 0 1).toNat, m3)) (fun j e => e.2.2.1 = (j : Int) ∧ e.1 = rq_sum (fun j => rq_aL ρ (A.1 0).toNat A.2.2.2 i (ρ.1 0 1).toNat j) j ∧ e.2.1 = rq_mx (rq_aL ρ (A.1 0).toNat A.2.2.2 i (ρ.1 0 1).toNat) 0 j ∧ e.2.2.2 = m3) 10 (by decide) ?_ ?_ (by exact ⟨rfl, rfl, rfl, rfl⟩)) ?_
      · rintro j ⟨x1, x2, x3, x4⟩ hj ⟨a1, a2, a3, a4⟩
        dsimp only at a1 a2 a3 a4
        subst a1 a2 a3 a4
        have sb := rq_sum_b (f := fun j => rq_aL ρ (A.1 0).toNat A.2.2.2 i (ρ.1 0 1).toNat j) (c := 279936) (by decide) j (fun k _ => by
          have := rq_aL_b (t := (A.1 0).toNat) (D := A.2.2.2) hv i (ρ.1 0 1).toNat k
          omega)
        have lb := rq_aL_b (t := (A.1 0).toNat) (D := A.2.2.2) hv i (ρ.1 0 1).toNat j
        unfold b_X12_ask_47
        dsimp only
        rw [if_neg (by omega), q_gfr, Option.bind_some, q_a8 (k := 297) _ 10 (pt_248_68 hJ3.1.1) kd_297 ln_297 hj, Option.bind_some, Option.bind_some, q_a8 (k := 297) _ 10 (pt_248_68 hJ3.1.1) kd_297 ln_297 hj, Option.bind_some, b3 j hj, q_max, Option.bind_some, rq_n1 (by omega), rq_iadd (by omega) (by omega)]
        exact rq_some.mpr (rq_inl ⟨rfl, rfl, rfl, rfl⟩)
      · rintro ⟨x1, x2, x3, x4⟩ ⟨a1, a2, a3, a4⟩
        dsimp only at a1 a2 a3 a4
        subst a1 a2 a3 a4
        unfold b_X12_ask_47
        dsimp only
        rw [if_pos (by omega), rq_aA_j hv]
        exact rq_some.mpr (rq_inre rfl)
      · rintro e rfl
        dsimp only
        by_cases z2 : rq_aM ρ (A.1 0).toNat A.2.2.2 i (ρ.1 0 1).toNat = rq_aA ρ (A.1 0).toNat A.2.2.2 i (ρ.1 0 1).toNat
        · rw [if_pos z2]
          exact stay m3 f3' (fun q => by omega)
        · rw [if_neg z2]
          by_cases z3 : x < 0
          · rw [if_pos z3]
            exact take m3 f3' ⟨z1', by omega, Or.inl (by omega)⟩
          · rw [if_neg z3]
            by_cases z4 : rq_aM ρ (A.1 0).toNat A.2.2.2 i (ρ.1 0 1).toNat < y
            · rw [if_pos z4]
              exact take m3 f3' ⟨z1', by omega, Or.inr z4⟩
            · rw [if_neg z4]
              exact stay m3 f3' (fun q => by omega)
    · rw [if_neg z1]
      exact stay mm hf (fun q => by omega)
  · rintro ⟨x, y, z, mm⟩ ⟨e1, e3, hf⟩
    dsimp only at e1 e3 hf
    subst e1
    have hJ := rq_J_fr h2 hf (Nat.le_refl c)
    unfold b_X12_ask_11
    dsimp only
    rw [q_gfr, Option.bind_some, q_rn0 hJ.2.1 0 rfl, Option.bind_some, if_pos (by omega)]
    exact rq_some.mpr (rq_inre ⟨by rw [← e3], hf⟩)
theorem L_ask (hI : rq_I c m) : rq (f_X11_ask 41 m) (fun p => rq (f_X12_ask 248 p.2) (fun q => q.1 = p.1 ∧ rq_I (c + 1) q.2)) := by
  obtain ⟨r, ρ, A, h⟩ := hI
  exact rq_pair (v := (rq_as ρ (A.1 0).toNat A.2.2.2 (ρ.1 0 0).toNat).1) (o2 := f_X12_ask 248) h (q_ask11 h) (fun m1 h1 => q_rask12 h1)
end
