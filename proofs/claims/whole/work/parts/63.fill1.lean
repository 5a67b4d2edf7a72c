/-! Layer 3: fill, the class's row problem -/
section
variable {r : Nat} {ρ : rq_R} {A : rq_A} {c : Nat} {m : rt_M} {S : rq_S}
/-- w fits k for n seasons from t -/
def rq_ftb (ρ : rq_R) (w k t : Nat) : Nat → Bool
  | 0 => true
  | n + 1 => rq_ftb ρ w k t n && (rq_fi ρ w k (t + n) == 1)
theorem rq_ftb_no {w k t i n : Nat} (hi : i < n) (h : ¬ rq_fi ρ w k (t + i) = 1) : rq_ftb ρ w k t n = false := by
  induction n with
  | zero => omega
  | succ n ih =>
    unfold rq_ftb
    by_cases z : i = n
    · rw [← z]; simp [h]
    · rw [ih (by omega)]; rfl
theorem q_fitThrough (h : rq_J r ρ A c m) (hc : c < 800000) {w k n : Nat} (hw : (w : Int) < ρ.1 0 0) (hk : (k : Int) < ρ.1 0 1) (hn : n ≤ 8) : rq (f_X11_isFitThrough 41 (w : Int) (k : Int) (n : Int) m) (fun p => (p.1 = if rq_ftb ρ w k (A.1 0).toNat n = true then 1 else 0) ∧ rq_fr rq_wE m p.2) := by
  have s0 := q_sea0 h
  have sc := h.2.2.2.2.2.2.1
  unfold f_X11_isFitThrough
  refine rq_call (rq_up (Q := fun e => ∃ v m', (e = .inl m' ∧ v = 1 ∨ e = .inr (v, m')) ∧ (v = if rq_ftb ρ w k (A.1 0).toNat n = true then (1 : Int) else 0) ∧ rq_fr rq_wE m m') (fun i s => s.1 = (i : Int) ∧ rq_ftb ρ w k (A.1 0).toNat i = true ∧ rq_fr rq_wE m s.2) n (by omega) ?_ ?_ (by exact ⟨rfl, rfl, rq_fr.rfl⟩)) ?_
  · rintro i ⟨x, mm⟩ hi ⟨e1, e2, hf⟩
    dsimp only at e1 e2 hf
    subst e1
    have hJ := rq_J_fr h (rq_frE hf) (Nat.le_refl c)
    unfold b_X11_isFitThrough_3
    dsimp only
    rw [if_neg (by omega), q_told hJ, Option.bind_some, q_now hJ.1.1, Option.bind_some, q_nst hJ.1.1, Option.bind_some, q_sea hJ, Option.bind_some, q_gd4 hJ.1, s0, rq_iadd (by omega) (by omega), show (((A.1 0).toNat : Nat) : Int) + (i : Int) = (((A.1 0).toNat + i : Nat) : Int) by omega]
    refine rq_call (q_isFit hJ.1 hw hk (by omega)) ?_
    rintro ⟨v, m2⟩ ⟨e, f2⟩
    dsimp only at e f2 ⊢
    subst e
    have fb : rq_fi ρ w k ((A.1 0).toNat + i) = 0 ∨ rq_fi ρ w k ((A.1 0).toNat + i) = 1 := by unfold rq_fi; split <;> simp
    by_cases z : rq_fi ρ w k ((A.1 0).toNat + i) = 0
    · rw [if_pos z]
      refine rq_map.mpr (rq_some.mpr (rq_inr ⟨0, m2, Or.inr rfl, ?_, hf.trans f2⟩))
      rw [Int.toNat_natCast, rq_ftb_no (w := w) (k := k) (t := (A.1 0).toNat) hi (by rw [z]; decide)]; rfl
    · rw [if_neg z, rq_n1 (by omega)]
      refine rq_some.mpr (rq_inl ⟨rfl, ?_, hf.trans f2⟩)
      show rq_ftb ρ w k (A.1 0).toNat (i + 1) = true
      unfold rq_ftb
      rw [e2, show rq_fi ρ w k ((A.1 0).toNat + i) = 1 by omega]; rfl
  · rintro ⟨x, mm⟩ ⟨e1, e2, hf⟩
    dsimp only at e1 e2 hf
    unfold b_X11_isFitThrough_3
    dsimp only
    rw [if_pos (by omega)]
    exact rq_some.mpr (rq_inre ⟨1, mm, Or.inl ⟨rfl, rfl⟩, by rw [e2]; rfl, hf⟩)
  · rintro e ⟨v, m', e', hv, hf⟩
    rcases e' with ⟨rfl, rfl⟩ | rfl
    · exact rq_some.mpr ⟨hv, hf⟩
    · exact rq_some.mpr ⟨hv, hf⟩
def rq_wO (k j : Nat) : Bool := rq_wE k j || k == 131 || (decide (133 ≤ k) && decide (k ≤ 138))
theorem rq_WQ_O {k j : Nat} (h : rq_WQ k j = false) : rq_wO k j = false := by
  have h := rq_WQ_C h
  unfold rq_WC at h
  unfold rq_wO
  simp only [Bool.or_eq_false_iff] at h ⊢
  obtain ⟨⟨⟨⟨⟨⟨⟨⟨⟨⟨h1, h2⟩, h3⟩, h4⟩, h5⟩, h6⟩, h7⟩, h8⟩, h9⟩, h10⟩, h11⟩ := h
  exact ⟨⟨h1, h9⟩, h10⟩
theorem rq_wO_E {k j : Nat} (h : rq_wO k j = false) : rq_wE k j = false := by
  unfold rq_wO at h
  simp only [Bool.or_eq_false_iff] at h
  exact h.1.1
theorem q_gd5 {α : Type} (q : Option α) : rt_gd 5 ((130 : Nat) : Int) q = q := rfl
theorem q_openG (hs : rq_st m) {w k : Nat} (hw : w < 6) (hk : k < 6) {b : Nat} (hb : m 131 w = (b : Int)) (hb6 : b < 64) : f_X5_open ((130 : Nat) : Int) (w : Int) (k : Int) m = some (rt_up m 131 w ((b ||| 2 ^ k : Nat) : Int)) := by
  unfold f_X5_open j_X5_open_22
  rw [if_neg (by omega), if_neg (by omega), q_g5, Option.bind_some, pt_130_2 hs, show (131 : Int) = ((131 : Nat) : Int) from rfl, q_al kd_131 ln_131 hw, Option.bind_some, hb, rq_sb b (by omega) k (by omega), q_sa kd_131 ln_131 hw, Option.bind_some]
theorem q_gainsG (hs : rq_st m) {w k : Nat} (hw : w < 6) (hk : k < 6) (v : Int) : f_X5_gains ((130 : Nat) : Int) (w : Int) (k : Int) v m = some (rt_up m (133 + w) k v) := by
  have gk := q_gk w hw
  unfold f_X5_gains j_X5_gains_29
  rw [if_neg (by omega), if_neg (by omega), if_neg (by omega), if_neg (by omega), q_g5, Option.bind_some, pt_130_3 hs, show (132 : Int) = ((132 : Nat) : Int) from rfl, q_al kd_132 ln_132 hw, Option.bind_some, hs _ gk.1, q_sa gk.2.1 gk.2.2 hk, Option.bind_some]
theorem q_openHeads (h : rq_J r ρ A c m) (hc : c < 800000) {w n : Nat} (hw : (w : Int) < ρ.1 0 0) (hn : n ≤ 8) (h0 : m 131 w = 0) : rq (f_X11_openHeads 41 (w : Int) (n : Int) m) (fun m1 => m1 131 w = ((rq_bn (fun k => rq_ftb ρ w k (A.1 0).toNat n) (ρ.1 0 1).toNat : Nat) : Int) ∧ (∀ i, i ≠ w → m1 131 i = m 131 i) ∧ (∀ j : Nat, (j : Int) < ρ.1 0 1 → rq_ftb ρ w j (A.1 0).toNat n = true → m1 (133 + w) j = ρ.1 2 w) ∧ (∀ i j, i ≠ w → m1 (133 + i) j = m (133 + i) j) ∧ rq_fr rq_wO m m1) := by
  have hb := h.1.2.2.1.1
  have w6 : w < 6 := by omega
  unfold f_X11_openHeads
  refine rq_call (rq_up (Q := fun m1 => m1 131 w = ((rq_bn (fun k => rq_ftb ρ w k (A.1 0).toNat n) (ρ.1 0 1).toNat : Nat) : Int) ∧ (∀ i, i ≠ w → m1 131 i = m 131 i) ∧ (∀ j : Nat, j < (ρ.1 0 1).toNat → rq_ftb ρ w j (A.1 0).toNat n = true → m1 (133 + w) j = ρ.1 2 w) ∧ (∀ i j, i ≠ w → m1 (133 + i) j = m (133 + i) j) ∧ rq_fr rq_wO m m1) (fun i s => s.1 = (i : Int) ∧ s.2 131 w = ((rq_bn (fun k => rq_ftb ρ w k (A.1 0).toNat n) i : Nat) : Int) ∧ (∀ j, j ≠ w → s.2 131 j = m 131 j) ∧ (∀ j : Nat, j < i → rq_ftb ρ w j (A.1 0).toNat n = true → s.2 (133 + w) j = ρ.1 2 w) ∧ (∀ j l, j ≠ w → s.2 (133 + j) l = m (133 + j) l) ∧ rq_fr rq_wO m s.2) (ρ.1 0 1).toNat (by omega) ?_ ?_ (by exact ⟨rfl, h0, fun _ _ => rfl, fun j hj => absurd hj (Nat.not_lt_zero _), fun _ _ _ => rfl, rq_fr.rfl⟩)) ?_
  · rintro i ⟨x, mm⟩ hi ⟨e1, e2, e3, e4, e5, hf⟩
    dsimp only at e1 e2 e3 e4 e5 hf
    subst e1
    have fq : rq_fr rq_WQ m mm := hf.mono (fun _ _ => rq_WQ_O)
    have hJ := rq_J_fr h fq (Nat.le_refl c)
    unfold b_X11_openHeads_2 j_X11_openHeads_49_2
    dsimp only
    rw [q_told hJ, Option.bind_some, q_gf4 hJ.1, Option.bind_some, hJ.1.2.2.2.1.2.1, if_neg (by omega)]
    refine rq_call (q_fitThrough hJ hc hw (k := i) (by omega) hn) ?_
    rintro ⟨v, m2⟩ ⟨e, f2⟩
    dsimp only at e f2 ⊢
    subst e
    have f2q : rq_fr rq_WQ mm m2 := rq_frE f2
    have hJ2 := rq_J_fr hJ f2q (Nat.le_refl c)
    have g131 : ∀ j, m2 131 j = mm 131 j := fun j => f2 131 j rfl
    have g133 : ∀ j l, j < 6 → m2 (133 + j) l = mm (133 + j) l := fun j l hj => f2 _ l (by unfold rq_wE; simp only [Bool.or_eq_false_iff, beq_eq_false_iff_ne]; omega)
    have gA : ∀ j l, m2 (133 + j) l = mm (133 + j) l := fun j l => f2 _ l (by unfold rq_wE; simp only [Bool.or_eq_false_iff, beq_eq_false_iff_ne]; omega)
    have f2O : rq_fr rq_wO m m2 := hf.trans (f2.mono (fun _ _ => rq_wO_E))
    by_cases z : rq_ftb ρ w i (A.1 0).toNat n = true
    · have bl := rq_bn_lt (fun k => rq_ftb ρ w k (A.1 0).toNat n) i
      have h64 : 2 ^ i ≤ 2 ^ 6 := Nat.pow_le_pow_right (by decide) (by omega)
      rw [if_pos z, if_neg (by decide), q_rws hJ2.1.1, Option.bind_some, q_gd5, q_openG hJ2.1.1 w6 (by omega) (by rw [g131, e2]) (by omega), Option.bind_some]
      have f3 : rq_fr rq_wO m (rt_up m2 131 w ((rq_bn (fun k => rq_ftb ρ w k (A.1 0).toNat n) i ||| 2 ^ i : Nat) : Int)) := f2O.up rfl
      have hJ3 := rq_J_fr h (f3.mono (fun _ _ => rq_WQ_O)) (Nat.le_refl c)
      generalize hm3 : rt_up m2 131 w ((rq_bn (fun k => rq_ftb ρ w k (A.1 0).toNat n) i ||| 2 ^ i : Nat) : Int) = m3 at f3 hJ3
      rw [q_rws hJ3.1.1, Option.bind_some, q_told hJ3, Option.bind_some, q_gd4 hJ3.1, q_officeOf hJ3.1 hw, Option.bind_some, q_gd5, q_gainsG hJ3.1.1 w6 (by omega), Option.bind_some, rq_n1 (by omega)]
      refine rq_some.mpr (rq_inl ⟨rfl, ?_, fun j hj => ?_, fun j hj ob => ?_, fun j l hj => ?_, f3.up (by unfold rq_wO; simp; omega)⟩)
      · show rt_up m3 (133 + w) i _ 131 w = _
        rw [q_up, if_neg (by omega), ← hm3, q_up, if_pos ⟨rfl, rfl⟩, rq_bn_s, if_pos z]
      · show rt_up m3 (133 + w) i _ 131 j = _
        rw [q_up, if_neg (by omega), ← hm3, q_up, if_neg (fun y => hj y.2), g131, e3 j hj]
      · show rt_up m3 (133 + w) i _ (133 + w) j = _
        rw [q_up]
        by_cases y : j = i
        · rw [if_pos ⟨rfl, y⟩]
        · rw [if_neg (fun q => y q.2), ← hm3, q_up, if_neg (by omega), gA, e4 j (by omega) ob]
      · show rt_up m3 (133 + w) i _ (133 + j) l = _
        rw [q_up, if_neg (by omega), ← hm3, q_up, if_neg (by omega), gA, e5 j l hj]
    · rw [if_neg z, if_pos rfl, rq_n1 (by omega)]
      refine rq_some.mpr (rq_inl ⟨rfl, ?_, fun j hj => ?_, fun j hj ob => ?_, fun j l hj => ?_, f2O⟩)
      · show m2 131 w = _
        rw [g131, e2, rq_bn_s, if_neg z]
      · show m2 131 j = _
        rw [g131, e3 j hj]
      · show m2 (133 + w) j = _
        by_cases y : j = i
        · rw [y] at ob; exact absurd ob z
        · rw [gA, e4 j (by omega) ob]
      · show m2 (133 + j) l = _
        rw [gA, e5 j l hj]
  · rintro ⟨x, mm⟩ ⟨e1, e2, e3, e4, e5, hf⟩
    dsimp only at e1 e2 e3 e4 e5 hf
    have fq : rq_fr rq_WQ m mm := hf.mono (fun _ _ => rq_WQ_O)
    have hJ := rq_J_fr h fq (Nat.le_refl c)
    unfold b_X11_openHeads_2
    dsimp only
    rw [q_told hJ, Option.bind_some, q_gf4 hJ.1, Option.bind_some, hJ.1.2.2.2.1.2.1, if_pos (by omega)]
    exact rq_some.mpr (rq_inre ⟨e2, e3, e4, e5, hf⟩)
  · rintro m1 ⟨e2, e3, e4, e5, hf⟩
    exact rq_some.mpr ⟨e2, e3, fun j hj ob => e4 j (by omega) ob, e5, hf⟩
end
