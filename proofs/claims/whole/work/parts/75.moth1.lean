/-! Layer 3: moths, seasons on; the class's row problem -/
section
variable {r : Nat} {ρ : rq_R} {A : rq_A} {c : Nat} {m : rt_M} {S : rq_S}
/-- j seasons on -/
def rq_pn (ρ : rq_R) (S : rq_S) : Nat → rq_S
  | 0 => S
  | j + 1 => rq_ps ρ (rq_pn ρ S j)
theorem rq_pn_v (hv : rq_va ρ) (h : rq_vs ρ S) (h0 : S 0 < 899000) : ∀ j, j ≤ 100 → rq_vs ρ (rq_pn ρ S j) ∧ rq_pn ρ S j 0 = S 0 + j
  | 0, _ => ⟨h, by show S 0 = S 0 + 0; omega⟩
  | j + 1, hj => by
    obtain ⟨a, b⟩ := rq_pn_v hv h h0 j (by omega)
    exact ⟨rq_vs_ps hv a (by omega), by show rq_pn ρ S j 0 + 1 = _; omega⟩
/-- which may be mended ahead of season i -/
def rq_mo (ρ : rq_R) (S : rq_S) (n i : Nat) : Nat := if i < n then rq_bn (fun w => decide (rq_pn ρ S i (1 + w) = -1)) (ρ.1 0 0).toNat else 0
/-- what it saves -/
def rq_mg (ρ : rq_R) (S : rq_S) (n _i w : Nat) : Int := if (w : Int) < ρ.1 0 0 ∧ 9 ≤ rq_pn ρ S n (7 + w) then ρ.1 2 w else 0
theorem rq_mo_b (hv : rq_va ρ) (n i : Nat) : rq_mo ρ S n i < 64 := by
  have hb := hv.1
  unfold rq_mo
  split
  · have a := rq_bn_lt (fun w => decide (rq_pn ρ S i (1 + w) = -1)) (ρ.1 0 0).toNat
    have h64 : 2 ^ (ρ.1 0 0).toNat ≤ 2 ^ 6 := Nat.pow_le_pow_right (by decide) (by omega)
    omega
  · decide
theorem rq_mg_b (hv : rq_va ρ) (n i w : Nat) : 0 ≤ rq_mg ρ S n i w ∧ rq_mg ρ S n i w ≤ 1000 := by
  unfold rq_mg
  split
  · rename_i z
    have := hv.2.1 w z.1
    omega
  · decide
def rq_wM (k j : Nat) : Bool := rq_wS 115 k j || k == 131
theorem rq_wM_st : (rq_P.all fun p => !(rq_wM p.1 p.2.1)) = true := by decide +kernel
theorem rq_WQ_M {k j : Nat} (h : rq_WQ k j = false) : rq_wM k j = false := by
  have a := rq_WQ_115 h
  have h := rq_WQ_C h
  unfold rq_WC at h
  unfold rq_wM
  simp only [Bool.or_eq_false_iff, Bool.and_eq_false_iff, beq_eq_false_iff_ne, decide_eq_false_iff_not] at h ⊢
  exact ⟨a, by omega⟩
theorem q_openStands (h : rq_J r ρ A c m) (sc : rq_sc 115 S m) (hv : rq_vs ρ S) {i : Nat} (hi : i < 6) (h0 : m 131 i = 0) : rq (f_X11_openStands 41 (i : Int) m) (fun m1 => m1 131 i = ((rq_bn (fun w => decide (S (1 + w) = -1)) (ρ.1 0 0).toNat : Nat) : Int) ∧ (∀ j, j ≠ i → m1 131 j = m 131 j) ∧ rq_fr (fun k _ => k == 131) m m1) := by
  have hb := h.1.2.2.1.1
  have fq : ∀ {m' : rt_M}, rq_fr (fun k _ => k == 131) m m' → rq_fr rq_WQ m m' := fun f => f.mono (fun k j q => by
    have a := rq_WQ_M q
    unfold rq_wM at a
    simp only [Bool.or_eq_false_iff] at a
    exact a.2)
  unfold f_X11_openStands
  refine rq_call (rq_up (Q := fun m1 => m1 131 i = ((rq_bn (fun w => decide (S (1 + w) = -1)) (ρ.1 0 0).toNat : Nat) : Int) ∧ (∀ j, j ≠ i → m1 131 j = m 131 j) ∧ rq_fr (fun k _ => k == 131) m m1) (fun w s => s.1 = (w : Int) ∧ s.2 131 i = ((rq_bn (fun w => decide (S (1 + w) = -1)) w : Nat) : Int) ∧ (∀ j, j ≠ i → s.2 131 j = m 131 j) ∧ rq_fr (fun k _ => k == 131) m s.2) (ρ.1 0 0).toNat (by omega) ?_ ?_ (by exact ⟨rfl, h0, fun _ _ => rfl, rq_fr.rfl⟩)) (fun m1 q => rq_some.mpr q)
  · rintro w ⟨x, mm⟩ hw ⟨e1, e2, e3, hf⟩
    dsimp only at e1 e2 e3 hf
    subst e1
    have hJ := rq_J_fr h (fq hf) (Nat.le_refl c)
    have sc1 : rq_sc 115 S mm := rq_sc_fr sc (hf 115 0 rfl) (fun w _ => hf 116 w rfl) (fun w _ => hf 117 w rfl)
    unfold b_X11_openStands_2 j_X11_openStands_37_2
    dsimp only
    rw [q_told hJ, Option.bind_some, q_gf4 hJ.1, Option.bind_some, hJ.1.2.2.2.1.1, if_neg (by omega), q_tri hJ.1.1, Option.bind_some, Option.bind_some, q_gd7 q_b115, q_canMend hJ.1 ⟨q_b115, sc1, hv⟩, Option.bind_some, Int.toNat_natCast, rq_n1 (by omega)]
    have bl := rq_bn_lt (fun w => decide (S (1 + w) = -1)) w
    have h64 : 2 ^ w ≤ 2 ^ 6 := Nat.pow_le_pow_right (by decide) (by omega)
    by_cases z : S (1 + w) = -1
    · rw [show (if 0 ≤ (w : Int) ∧ (w : Int) < ρ.1 0 0 ∧ S (1 + w) = -1 then (1 : Int) else 0) = 1 from if_pos ⟨by omega, by omega, z⟩, if_neg (by decide), q_rws hJ.1.1, Option.bind_some, q_gd5, q_openG hJ.1.1 hi (by omega) e2 (by omega), Option.bind_some]
      refine rq_some.mpr (rq_inl ⟨rfl, ?_, fun j hj => ?_, hf.up rfl⟩)
      · show rt_up mm 131 i _ 131 i = _
        rw [q_up, if_pos ⟨rfl, rfl⟩, rq_bn_s, if_pos (by simp [z])]
      · show rt_up mm 131 i _ 131 j = _
        rw [q_up, if_neg (fun y => hj y.2), e3 j hj]
    · rw [show (if 0 ≤ (w : Int) ∧ (w : Int) < ρ.1 0 0 ∧ S (1 + w) = -1 then (1 : Int) else 0) = 0 from if_neg (fun y => z y.2.2), if_pos rfl]
      refine rq_some.mpr (rq_inl ⟨rfl, ?_, e3, hf⟩)
      show mm 131 i = _
      rw [e2, rq_bn_s, if_neg (by simp [z])]
  · rintro ⟨x, mm⟩ ⟨e1, e2, e3, hf⟩
    dsimp only at e1 e2 e3 hf
    have hJ := rq_J_fr h (fq hf) (Nat.le_refl c)
    unfold b_X11_openStands_2
    dsimp only
    rw [q_told hJ, Option.bind_some, q_gf4 hJ.1, Option.bind_some, hJ.1.2.2.2.1.1, if_pos (by omega)]
    exact rq_some.mpr (rq_inre ⟨e2, e3, hf⟩)
/-- the seasons ahead -/
theorem q_moth47 (h : rq_J r ρ A c m) (hc : c < 800000) (sc : rq_sc 115 A.1 m) {n : Nat} (hn : n ≤ 4) (a : Int) (h0 : ∀ i, i < 6 → m 131 i = 0) : rq (rt_it (b_X11_moths_47 41 (n : Int) a) 4000 (0, m)) (fun m1 => (∀ i, i < 6 → m1 131 i = ((rq_mo ρ A.1 n i : Nat) : Int)) ∧ rq_sc 115 (rq_pn ρ A.1 n) m1 ∧ rq_fr rq_wM m m1) := by
  have hv := h.2.2.2.2.2.1.1
  have hcc := h.2.2.2.2.2.2.1
  refine rq_up (fun i s => s.1 = (i : Int) ∧ (∀ j, j < 6 → s.2 131 j = if j < i then ((rq_bn (fun w => decide (rq_pn ρ A.1 j (1 + w) = -1)) (ρ.1 0 0).toNat : Nat) : Int) else 0) ∧ rq_sc 115 (rq_pn ρ A.1 i) s.2 ∧ rq_fr rq_wM m s.2) n (by omega) ?_ ?_ (by exact ⟨rfl, fun j hj => by rw [if_neg (Nat.not_lt_zero j)]; exact h0 j hj, sc, rq_fr.rfl⟩)
  · rintro i ⟨x, mm⟩ hi ⟨e1, e2, e3, hf⟩
    dsimp only at e1 e2 e3 hf
    subst e1
    have hJ := rq_J_fr h (hf.mono (fun _ _ => rq_WQ_M)) (Nat.le_refl c)
    have pv := rq_pn_v h.1.2.2.1 hv (by omega) i (by omega)
    unfold b_X11_moths_47
    dsimp only
    rw [if_neg (by omega)]
    refine rq_call (q_openStands hJ e3 pv.1 (i := i) (by omega) (by rw [e2 i (by omega), if_neg (Nat.lt_irrefl i)])) ?_
    rintro m2 ⟨b1, b2, b3⟩
    have f2 : rq_fr rq_wM m m2 := hf.trans (b3.mono (fun k j q => by unfold rq_wM at q; simp only [Bool.or_eq_false_iff] at q; exact q.2))
    have hJ2 := rq_J_fr h (f2.mono (fun _ _ => rq_WQ_M)) (Nat.le_refl c)
    have sc2 : rq_sc 115 (rq_pn ρ A.1 i) m2 := rq_sc_fr e3 (b3 115 0 rfl) (fun w _ => b3 116 w rfl) (fun w _ => b3 117 w rfl)
    rw [q_tri hJ2.1.1, Option.bind_some, q_told hJ2, Option.bind_some, q_gd7 q_b115]
    refine rq_call (q_pass hJ2.1 ⟨q_b115, sc2, pv.1⟩) ?_
    rintro ⟨v, m3⟩ ⟨-, c2, c3⟩
    dsimp only at c2 c3 ⊢
    rw [rq_n1 (by omega)]
    refine rq_some.mpr (rq_inl ⟨rfl, fun j hj => ?_, c2, f2.trans (c3.mono (fun k j q => by unfold rq_wM at q; simp only [Bool.or_eq_false_iff] at q; exact q.1))⟩)
    show m3 131 j = _
    rw [c3 131 j rfl]
    by_cases z : j = i
    · subst z; rw [b1, if_pos (by omega)]
    · rw [b2 j z, e2 j hj]
      by_cases y : j < i
      · rw [if_pos y, if_pos (by omega)]
      · rw [if_neg y, if_neg (by omega)]
  · rintro ⟨x, mm⟩ ⟨e1, e2, e3, hf⟩
    dsimp only at e1 e2 e3 hf
    unfold b_X11_moths_47
    dsimp only
    rw [if_pos (by omega)]
    refine rq_some.mpr (rq_inre ⟨fun i hi => ?_, e3, hf⟩)
    rw [e2 i hi]
    unfold rq_mo
    split <;> rfl
def rq_w33 (k _j : Nat) : Bool := decide (133 ≤ k) && decide (k ≤ 138)
theorem rq_WQ_33 {k j : Nat} (h : rq_WQ k j = false) : rq_w33 k j = false := by
  have h := rq_WQ_C h
  unfold rq_WC at h
  unfold rq_w33
  simp only [Bool.or_eq_false_iff, Bool.and_eq_false_iff, beq_eq_false_iff_ne, decide_eq_false_iff_not] at h ⊢
  omega
/-- one row of gains -/
theorem q_moth99 (h : rq_J r ρ A c m) (hv : rq_vs ρ S) {n i : Nat} (hi : i < 6) (a : Int) (hS : S = rq_pn ρ A.1 n) (b : Int) : rq (rt_it (b_X11_moths_99 41 b a ((rq_wt ρ S : Nat) : Int) (i : Int)) 4000 (0, m)) (fun m1 => (∀ w : Nat, w < (ρ.1 0 0).toNat → m1 (133 + i) w = rq_mg ρ A.1 n i w) ∧ (∀ j w, j ≠ i → m1 (133 + j) w = m (133 + j) w) ∧ rq_fr rq_w33 m m1) := by
  have hb := h.1.2.2.1.1
  have wt := rq_bn_lt (fun w => decide (9 ≤ S (7 + w))) (ρ.1 0 0).toNat
  have h64 : 2 ^ (ρ.1 0 0).toNat ≤ 2 ^ 6 := Nat.pow_le_pow_right (by decide) (by omega)
  have wt6 : rq_wt ρ S < 64 := by unfold rq_wt; omega
  refine rq_up (fun w s => s.1 = (w : Int) ∧ (∀ j : Nat, j < w → s.2 (133 + i) j = rq_mg ρ A.1 n i j) ∧ (∀ j w, j ≠ i → s.2 (133 + j) w = m (133 + j) w) ∧ rq_fr rq_w33 m s.2) (ρ.1 0 0).toNat (by omega) ?_ ?_ (by exact ⟨rfl, fun j hj => absurd hj (Nat.not_lt_zero _), fun _ _ _ => rfl, rq_fr.rfl⟩)
  · rintro w ⟨x, mm⟩ hw ⟨e1, e2, e3, hf⟩
    dsimp only at e1 e2 e3 hf
    subst e1
    have hJ := rq_J_fr h (hf.mono (fun _ _ => rq_WQ_33)) (Nat.le_refl c)
    have tb : (rq_wt ρ S).testBit w = decide (9 ≤ S (7 + w)) := by
      unfold rq_wt
      rw [rq_bn_tb]
      simp [hw]
    have fin : ∀ v, v = rq_mg ρ A.1 n i w → rq (j_X11_moths_142_99 41 b a ((rq_wt ρ S : Nat) : Int) (i : Int) (w : Int) ((130 : Nat) : Int) (i : Int) (w : Int) v mm) (fun t => (∀ s', t = .inl s' → s'.1 = ((w + 1 : Nat) : Int) ∧ (∀ j : Nat, j < w + 1 → s'.2 (133 + i) j = rq_mg ρ A.1 n i j) ∧ (∀ j w, j ≠ i → s'.2 (133 + j) w = m (133 + j) w) ∧ rq_fr rq_w33 m s'.2) ∧ (∀ e, t = .inr e → (∀ w : Nat, w < (ρ.1 0 0).toNat → e (133 + i) w = rq_mg ρ A.1 n i w) ∧ (∀ j w, j ≠ i → e (133 + j) w = m (133 + j) w) ∧ rq_fr rq_w33 m e)) := by
      intro v hv2
      unfold j_X11_moths_142_99
      rw [q_gd5, q_gainsG hJ.1.1 hi (by omega), Option.bind_some, rq_n1 (by omega)]
      refine rq_some.mpr (rq_inl ⟨rfl, fun j hj => ?_, fun j l hj => ?_, hf.up (by unfold rq_w33; simp; omega)⟩)
      · show rt_up mm (133 + i) w v (133 + i) j = _
        rw [q_up]
        by_cases z : j = w
        · rw [if_pos ⟨rfl, z⟩, hv2, z]
        · rw [if_neg (fun y => z y.2)]; exact e2 j (by omega)
      · show rt_up mm (133 + i) w v (133 + j) l = _
        rw [q_up, if_neg (by omega)]; exact e3 j l hj
    unfold b_X11_moths_99
    dsimp only
    rw [q_told hJ, Option.bind_some, q_gf4 hJ.1, Option.bind_some, hJ.1.2.2.2.1.1, if_neg (by omega), q_rws hJ.1.1, Option.bind_some, rq_tb (rq_wt ρ S) (by omega) w (by omega), Option.bind_some, q_gd4 hJ.1, q_officeOf hJ.1 (w := w) (by omega), Option.bind_some]
    by_cases z : 9 ≤ S (7 + w)
    · rw [show (if (rq_wt ρ S).testBit w = true then (1 : Int) else 0) = 1 from if_pos (by rw [tb]; simpa using z), if_pos rfl]
      exact fin _ (by unfold rq_mg; rw [← hS, if_pos ⟨by omega, z⟩])
    · rw [show (if (rq_wt ρ S).testBit w = true then (1 : Int) else 0) = 0 from if_neg (by rw [tb]; simpa using z), if_neg (by decide)]
      exact fin _ (by unfold rq_mg; rw [← hS, if_neg (fun y => z y.2)])
  · rintro ⟨x, mm⟩ ⟨e1, e2, e3, hf⟩
    dsimp only at e1 e2 e3 hf
    have hJ := rq_J_fr h (hf.mono (fun _ _ => rq_WQ_33)) (Nat.le_refl c)
    unfold b_X11_moths_99
    dsimp only
    rw [q_told hJ, Option.bind_some, q_gf4 hJ.1, Option.bind_some, hJ.1.2.2.2.1.1, if_pos (by omega)]
    exact rq_some.mpr (rq_inre ⟨e2, e3, hf⟩)
theorem q_moth90 (h : rq_J r ρ A c m) (hv : rq_vs ρ S) {n : Nat} (hn : n ≤ 4) (a : Int) (hS : S = rq_pn ρ A.1 n) : rq (rt_it (b_X11_moths_90 41 (n : Int) a ((rq_wt ρ S : Nat) : Int)) 4000 (0, m)) (fun m1 => (∀ i w : Nat, i < n → w < (ρ.1 0 0).toNat → m1 (133 + i) w = rq_mg ρ A.1 n i w) ∧ rq_fr rq_w33 m m1) := by
  refine rq_up (fun i s => s.1 = (i : Int) ∧ (∀ j w : Nat, j < i → w < (ρ.1 0 0).toNat → s.2 (133 + j) w = rq_mg ρ A.1 n j w) ∧ rq_fr rq_w33 m s.2) n (by omega) ?_ ?_ (by exact ⟨rfl, fun j w hj => absurd hj (Nat.not_lt_zero _), rq_fr.rfl⟩)
  · rintro i ⟨x, mm⟩ hi ⟨e1, e2, hf⟩
    dsimp only at e1 e2 hf
    subst e1
    have hJ := rq_J_fr h (hf.mono (fun _ _ => rq_WQ_33)) (Nat.le_refl c)
    unfold b_X11_moths_90
    dsimp only
    rw [if_neg (by omega)]
    refine rq_call (q_moth99 hJ hv (i := i) (by omega) a hS (n : Int)) ?_
    rintro m2 ⟨b1, b2, b3⟩
    rw [rq_n1 (by omega)]
    refine rq_some.mpr (rq_inl ⟨rfl, fun j w hj hw => ?_, hf.trans b3⟩)
    show m2 (133 + j) w = _
    by_cases z : j = i
    · rw [z]; exact b1 w hw
    · rw [b2 j w z]; exact e2 j w (by omega) hw
  · rintro ⟨x, mm⟩ ⟨e1, e2, hf⟩
    dsimp only at e1 e2 hf
    unfold b_X11_moths_90
    dsimp only
    rw [if_pos (by omega)]
    exact rq_some.mpr (rq_inre ⟨e2, hf⟩)
end
