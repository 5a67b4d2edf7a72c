/-! Layer 3: the class's tilts in one season -/
section
variable {r : Nat} {ρ : rq_R} {A : rq_A} {c : Nat} {m : rt_M}
/-- the tilt, or -1 -/
def rq_tt (ρ : rq_R) (w h t : Nat) : Int := if 0 ≤ rq_ti ρ w h t ∧ rq_ti ρ w h t ≤ ρ.1 0 2 then rq_ti ρ w h t else -1
theorem rq_tt_b {ρ : rq_R} (hv : rq_va ρ) (w h t : Nat) : -1 ≤ rq_tt ρ w h t ∧ rq_tt ρ w h t ≤ 9 := by
  have := hv.1
  unfold rq_tt
  split <;> omega
theorem rq_tt_fi (ρ : rq_R) (w h t : Nat) : (rq_tt ρ w h t = -1 ↔ ¬ rq_fi ρ w h t = 1) ∧ (rq_fi ρ w h t = 1 → rq_tt ρ w h t = rq_ti ρ w h t) := by
  unfold rq_tt rq_fi
  by_cases z : 0 ≤ rq_ti ρ w h t ∧ rq_ti ρ w h t ≤ ρ.1 0 2
  · rw [if_pos z, if_pos z]
    exact ⟨⟨fun y => by omega, fun y => absurd rfl y⟩, fun _ => rfl⟩
  · rw [if_neg z, if_neg z]
    exact ⟨⟨fun _ => by decide, fun _ => rfl⟩, fun y => by cases y⟩
def rq_wTi (k j : Nat) : Bool := rq_wE k j || (k == 118 && decide (j < 2)) || (decide (120 ≤ k) && decide (k ≤ 125))
theorem rq_WQ_Ti {k j : Nat} (h : rq_WQ k j = false) : rq_wTi k j = false := by
  have h := rq_WQ_C h
  unfold rq_WC at h
  unfold rq_wTi
  simp only [Bool.or_eq_false_iff, Bool.and_eq_false_iff, beq_eq_false_iff_ne, decide_eq_false_iff_not] at h ⊢
  refine ⟨⟨h.1.1.1.1.1.1.1.1.1.1, by omega⟩, by omega⟩
theorem rq_wTi_E {k j : Nat} (h : rq_wTi k j = false) : rq_wE k j = false := by
  unfold rq_wTi at h
  simp only [Bool.or_eq_false_iff] at h
  exact h.1.1
theorem q_tk : ∀ w, w < 6 → (119, w, ((120 + w : Nat) : Int)) ∈ rq_P ∧ rt_kd (120 + w) = 1 ∧ rt_ln (120 + w) = 6 := by decide +kernel
theorem q_g1 (j : Nat) : rt_gf 1 j ((118 : Nat) : Int) m = some (m 118 j) := rfl
theorem q_p1 (j : Nat) (v : Int) : rt_pf 1 j ((118 : Nat) : Int) v m = some (rt_up m 118 j v) := rfl
theorem q_gd1 {α : Type} (q : Option α) : rt_gd 1 ((118 : Nat) : Int) q = q := rfl
/-- the tilts are laid for season t -/
def rq_ml (ρ : rq_R) (t : Nat) (m : rt_M) : Prop := m 118 0 = ρ.1 0 0 ∧ m 118 1 = ρ.1 0 1 ∧ ∀ w h : Nat, w < (ρ.1 0 0).toNat → h < (ρ.1 0 1).toNat → m (120 + w) h = rq_tt ρ w h t
theorem q_tl (hs : rq_st m) {w h : Nat} (hw : w < 6) (hh : h < 6) : (rt_al 6 (m 118 2) (w : Int) m).bind (fun x => rt_al 1 x (h : Int) m) = some (m (120 + w) h) := by
  have tk := q_tk w hw
  rw [pt_118_2 hs, show (119 : Int) = ((119 : Nat) : Int) from rfl, q_al kd_119 ln_119 hw, Option.bind_some, hs _ tk.1, q_al tk.2.1 tk.2.2 hh]
theorem q_meas1 (h : rq_J r ρ A c m) {k t : Nat} (hk : (k : Int) < ρ.1 0 1) (ht : t < 1000000) (h0 : m 118 0 = ρ.1 0 0) : rq (rt_it (b_X1_measure_37 ((118 : Nat) : Int) (r : Int) (t : Int) (k : Int) (rq_gi ρ k t)) 4000 (0, m)) (fun m1 => (∀ w, w < (ρ.1 0 0).toNat → m1 (120 + w) k = rq_tt ρ w k t) ∧ (∀ w j, j ≠ k → m1 (120 + w) j = m (120 + w) j) ∧ rq_fr (fun k _ => decide (120 ≤ k) && decide (k ≤ 125)) m m1) := by
  have hb := h.1.2.2.1.1
  have gb := rq_gi_b h.1.2.2.1 hk ht
  refine rq_up (fun i s => s.1 = (i : Int) ∧ (∀ w, w < i → s.2 (120 + w) k = rq_tt ρ w k t) ∧ (∀ w j, j ≠ k → s.2 (120 + w) j = m (120 + w) j) ∧ rq_fr (fun k _ => decide (120 ≤ k) && decide (k ≤ 125)) m s.2) (ρ.1 0 0).toNat (by omega) ?_ ?_ (by exact ⟨rfl, fun j hj => absurd hj (Nat.not_lt_zero _), fun _ _ _ => rfl, rq_fr.rfl⟩)
  · rintro i ⟨x, mm⟩ hi ⟨e1, e2, e3, hf⟩
    dsimp only at e1 e2 e3 hf
    subst e1
    have fT : rq_fr rq_wTi m mm := hf.mono (fun k j q => by unfold rq_wTi at q; simp only [Bool.or_eq_false_iff] at q; exact q.2)
    have hJ := rq_J_fr h (fT.mono (fun _ _ => rq_WQ_Ti)) (Nat.le_refl c)
    have tk := q_tk i (by omega)
    have vw := h.1.2.2.1.2.1 i (by omega)
    unfold b_X1_measure_37 j_X1_measure_80_37
    dsimp only
    rw [q_g1, Option.bind_some, hf 118 0 rfl, h0, if_neg (by omega), q_gd4 hJ.1, q_sizeOfWig hJ.1 (w := i) (by omega), Option.bind_some, q_g1, Option.bind_some, pt_118_2 hJ.1.1, show (119 : Int) = ((119 : Nat) : Int) from rfl, q_al kd_119 ln_119 (by omega), Option.bind_some, q_gd4 hJ.1, q_isTilt hJ.1, Option.bind_some, rq_isub (by omega) (by omega), hJ.1.1 _ tk.1, q_sa tk.2.1 tk.2.2 (show k < 6 by omega), q_sa tk.2.1 tk.2.2 (show k < 6 by omega), Option.bind_some, Option.bind_some, rq_n1 (by omega)]
    have key : ∀ v, v = rq_tt ρ i k t → rq (some (Sum.inl (((i + 1 : Nat) : Int), rt_up mm (120 + i) k v)) : Option ((Int × rt_M) ⊕ rt_M)) (fun t_1 => (∀ s', t_1 = .inl s' → s'.1 = ((i + 1 : Nat) : Int) ∧ (∀ w, w < i + 1 → s'.2 (120 + w) k = rq_tt ρ w k t) ∧ (∀ w j, j ≠ k → s'.2 (120 + w) j = m (120 + w) j) ∧ rq_fr (fun k _ => decide (120 ≤ k) && decide (k ≤ 125)) m s'.2) ∧ (∀ e, t_1 = .inr e → (∀ w, w < (ρ.1 0 0).toNat → e (120 + w) k = rq_tt ρ w k t) ∧ (∀ w j, j ≠ k → e (120 + w) j = m (120 + w) j) ∧ rq_fr (fun k _ => decide (120 ≤ k) && decide (k ≤ 125)) m e)) := by
      intro v ev
      refine rq_some.mpr (rq_inl ⟨rfl, fun w hw => ?_, fun w j hj => ?_, hf.up (by simp; omega)⟩)
      · show rt_up mm (120 + i) k v (120 + w) k = _
        rw [q_up]
        by_cases z : w = i
        · rw [if_pos ⟨by omega, rfl⟩, ev, z]
        · rw [if_neg (by omega)]; exact e2 w (by omega)
      · show rt_up mm (120 + i) k v (120 + w) j = _
        rw [q_up, if_neg (fun y => hj y.2)]; exact e3 w j hj
    have et : rq_ti ρ i k t = ρ.1 1 i - rq_gi ρ k t := rfl
    rw [← et]
    by_cases z : 0 ≤ rq_ti ρ i k t ∧ rq_ti ρ i k t ≤ ρ.1 0 2
    · rw [if_pos z, if_neg (by decide)]
      exact key _ (by unfold rq_tt; rw [if_pos z])
    · rw [if_neg z, if_pos rfl]
      exact key _ (by unfold rq_tt; rw [if_neg z])
  · rintro ⟨x, mm⟩ ⟨e1, e2, e3, hf⟩
    dsimp only at e1 e2 e3 hf
    unfold b_X1_measure_37
    dsimp only
    rw [q_g1, Option.bind_some, hf 118 0 rfl, h0, if_pos (by omega)]
    exact rq_some.mpr (rq_inre ⟨e2, e3, hf⟩)
theorem q_measure (h : rq_J r ρ A c m) {t : Nat} (ht : t < 1000000) : rq (f_X1_measure ((118 : Nat) : Int) (r : Int) (t : Int) m) (fun m1 => rq_ml ρ t m1 ∧ rq_fr rq_wTi m m1) := by
  have hb := h.1.2.2.1.1
  unfold f_X1_measure
  rw [q_gf4 h.1, Option.bind_some, q_p1, Option.bind_some]
  have f1 : rq_fr rq_wTi m (rt_up m 118 0 (m r 0)) := rq_fr.rfl.up rfl
  have h1 := rq_J_fr h (f1.mono (fun _ _ => rq_WQ_Ti)) (Nat.le_refl c)
  rw [q_gf4 h1.1, Option.bind_some, q_p1, Option.bind_some]
  have f2 : rq_fr rq_wTi m (rt_up (rt_up m 118 0 (m r 0)) 118 1 (rt_up m 118 0 (m r 0) r 1)) := f1.up rfl
  have e0 : rt_up (rt_up m 118 0 (m r 0)) 118 1 (rt_up m 118 0 (m r 0) r 1) 118 0 = ρ.1 0 0 := by
    rw [q_up, if_neg (by omega), q_up, if_pos ⟨rfl, rfl⟩]; exact h.1.2.2.2.1.1
  have e1 : rt_up (rt_up m 118 0 (m r 0)) 118 1 (rt_up m 118 0 (m r 0) r 1) 118 1 = ρ.1 0 1 := by
    rw [q_up, if_pos ⟨rfl, rfl⟩]; exact h1.1.2.2.2.1.2.1
  generalize rt_up (rt_up m 118 0 (m r 0)) 118 1 (rt_up m 118 0 (m r 0) r 1) = m2 at f2 e0 e1 ⊢
  refine rq_call (rq_up (Q := fun m1 => rq_ml ρ t m1 ∧ rq_fr rq_wTi m m1) (fun i s => s.1 = (i : Int) ∧ s.2 118 0 = ρ.1 0 0 ∧ s.2 118 1 = ρ.1 0 1 ∧ (∀ w h : Nat, w < (ρ.1 0 0).toNat → h < i → s.2 (120 + w) h = rq_tt ρ w h t) ∧ rq_fr rq_wTi m s.2) (ρ.1 0 1).toNat (by omega) ?_ ?_ (by exact ⟨rfl, e0, e1, fun w h _ hj => absurd hj (Nat.not_lt_zero _), f2⟩)) (fun m1 q => rq_some.mpr q)
  · rintro i ⟨x, mm⟩ hi ⟨a1, a2, a3, a4, hf⟩
    dsimp only at a1 a2 a3 a4 hf
    subst a1
    have hJ := rq_J_fr h (hf.mono (fun _ _ => rq_WQ_Ti)) (Nat.le_refl c)
    unfold b_X1_measure_18
    dsimp only
    rw [q_g1, Option.bind_some, a3, if_neg (by omega), q_gd4 hJ.1]
    refine rq_call (q_girth hJ.1 (k := i) (by omega) ht) ?_
    rintro ⟨g, m3⟩ ⟨e, f3⟩
    dsimp only at e f3 ⊢
    subst e
    have hJ3 := rq_J_fr hJ (rq_frE f3) (Nat.le_refl c)
    refine rq_call (q_meas1 hJ3 (k := i) (t := t) (by omega) ht (by rw [f3 118 0 rfl, a2])) ?_
    rintro m4 ⟨b1, b2, b3⟩
    rw [rq_n1 (by omega)]
    have k3 : ∀ w j, w < 6 → m3 (120 + w) j = mm (120 + w) j := fun w j hw => f3 _ j (by unfold rq_wE; simp only [Bool.or_eq_false_iff, beq_eq_false_iff_ne]; omega)
    refine rq_some.mpr (rq_inl ⟨rfl, by show m4 118 0 = _; rw [b3 118 0 rfl, f3 118 0 rfl, a2], by show m4 118 1 = _; rw [b3 118 1 rfl, f3 118 1 rfl, a3], fun w k hw hk => ?_, (hf.trans (f3.mono (fun _ _ => rq_wTi_E))).trans (b3.mono (fun k j q => by unfold rq_wTi at q; simp only [Bool.or_eq_false_iff] at q; exact q.2))⟩)
    show m4 (120 + w) k = _
    by_cases z : k = i
    · rw [z]; exact b1 w hw
    · rw [b2 w k z, k3 w k (by omega)]; exact a4 w k hw (by omega)
  · rintro ⟨x, mm⟩ ⟨a1, a2, a3, a4, hf⟩
    dsimp only at a1 a2 a3 a4 hf
    unfold b_X1_measure_18
    dsimp only
    rw [q_g1, Option.bind_some, a3, if_pos (by omega)]
    exact rq_some.mpr (rq_inre ⟨⟨a2, a3, a4⟩, hf⟩)
end
