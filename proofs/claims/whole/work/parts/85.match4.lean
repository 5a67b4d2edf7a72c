/-! Layer 3: match, the class's rounds -/
section
variable {r : Nat} {ρ : rq_R} {A : rq_A} {c : Nat} {m : rt_M} {S : rq_S} {a : Nat → Nat} {k : Nat → Int} {t : Nat}
/-- what the asking comes to -/
def rq_mR (ρ : rq_R) (S : rq_S) (t : Nat) (k : Nat → Int) : Prop := ∃ a, rq_mS (ρ.1 0 0).toNat (ρ.1 0 1).toNat (rq_mA ρ S t) (rq_mO ρ) (rq_mT ρ t) a k ∧ rq_mF (ρ.1 0 0).toNat (ρ.1 0 1).toNat (rq_mA ρ S t) a k ∧ rq_mL (ρ.1 0 0).toNat (ρ.1 0 1).toNat (rq_mA ρ S t) (rq_mO ρ) (rq_mT ρ t) a
theorem rq_mR_u {k2 : Nat → Int} (h1 : rq_mR ρ S t k) (h2 : rq_mR ρ S t k2) {w : Nat} (hw : w < (ρ.1 0 0).toNat) : k w = k2 w := by
  obtain ⟨a, a1, a2, a3⟩ := h1
  obtain ⟨b, b1, b2, b3⟩ := h2
  exact rq_m_uniq a1 a2 a3 b1 b2 b3 hw
/-- under way: u all that, or so many asked -/
def rq_mW (ρ : rq_R) (S : rq_S) (t : Nat) (U : (Nat → Nat) → (Nat → Int) → Prop) (m : rt_M) : Prop := ∃ a k, rq_mm ρ S t a k m ∧ rq_mS (ρ.1 0 0).toNat (ρ.1 0 1).toNat (rq_mA ρ S t) (rq_mO ρ) (rq_mT ρ t) a k ∧ rq_mL (ρ.1 0 0).toNat (ρ.1 0 1).toNat (rq_mA ρ S t) (rq_mO ρ) (rq_mT ρ t) a ∧ U a k
/-- head x has a wig, or has asked all -/
def rq_mX (ρ : rq_R) (S : rq_S) (t : Nat) (x : Nat) (a : Nat → Nat) (k : Nat → Int) : Prop := (∃ w, w < (ρ.1 0 0).toNat ∧ k w = (x : Int)) ∨ ∀ w, w < (ρ.1 0 0).toNat → rq_mA ρ S t x w → (a x).testBit w = true
theorem q_round (hJ : rq_J r ρ A c m) {n : Nat} (b d : Int) (h0 : rq_mW ρ S t (fun a k => rq_mF (ρ.1 0 0).toNat (ρ.1 0 1).toNat (rq_mA ρ S t) a k ∨ (n : Int) ≤ rq_mc (ρ.1 0 0).toNat a (ρ.1 0 1).toNat) m) : rq (rt_it (b_X1_matched_45 ((118 : Nat) : Int) (r : Int) b d) 4000 (0, m)) (fun m1 => rq_mW ρ S t (fun a k => rq_mF (ρ.1 0 0).toNat (ρ.1 0 1).toNat (rq_mA ρ S t) a k ∨ ((n + 1 : Nat) : Int) ≤ rq_mc (ρ.1 0 0).toNat a (ρ.1 0 1).toNat) m1 ∧ rq_fr rq_wK m m1) := by
  have hb := hJ.1.2.2.1.1
  refine rq_up (fun i s => s.1 = (i : Int) ∧ rq_mW ρ S t (fun a k => rq_mF (ρ.1 0 0).toNat (ρ.1 0 1).toNat (rq_mA ρ S t) a k ∨ ((n + 1 : Nat) : Int) ≤ rq_mc (ρ.1 0 0).toNat a (ρ.1 0 1).toNat ∨ ((n : Int) ≤ rq_mc (ρ.1 0 0).toNat a (ρ.1 0 1).toNat ∧ ∀ x, x < i → rq_mX ρ S t x a k)) s.2 ∧ rq_fr rq_wK m s.2) (ρ.1 0 1).toNat (by omega) ?_ ?_ ?_
  · rintro i ⟨x, mm⟩ hi ⟨e1, ⟨a, k, hm, hS, hL, hU⟩, hf⟩
    dsimp only at e1 hm hf
    subst e1
    have hJ1 := rq_J_fr hJ (hf.mono (fun _ _ => rq_WQ_K)) (Nat.le_refl c)
    -- nothing changes
    have same : rq_mX ρ S t i a k → rq (j_X1_matched_71_45 ((118 : Nat) : Int) (r : Int) b d (i : Int) mm) (fun t_1 => (∀ s', t_1 = .inl s' → s'.1 = ((i + 1 : Nat) : Int) ∧ rq_mW ρ S t (fun a k => rq_mF (ρ.1 0 0).toNat (ρ.1 0 1).toNat (rq_mA ρ S t) a k ∨ ((n + 1 : Nat) : Int) ≤ rq_mc (ρ.1 0 0).toNat a (ρ.1 0 1).toNat ∨ ((n : Int) ≤ rq_mc (ρ.1 0 0).toNat a (ρ.1 0 1).toNat ∧ ∀ x, x < i + 1 → rq_mX ρ S t x a k)) s'.2 ∧ rq_fr rq_wK m s'.2) ∧ (∀ e, t_1 = .inr e → rq_mW ρ S t (fun a k => rq_mF (ρ.1 0 0).toNat (ρ.1 0 1).toNat (rq_mA ρ S t) a k ∨ ((n + 1 : Nat) : Int) ≤ rq_mc (ρ.1 0 0).toNat a (ρ.1 0 1).toNat) e ∧ rq_fr rq_wK m e)) := by
      intro hx
      unfold j_X1_matched_71_45
      rw [rq_n1 (by omega)]
      refine rq_some.mpr (rq_inl ⟨rfl, ⟨a, k, hm, hS, hL, ?_⟩, hf⟩)
      rcases hU with u | u | ⟨u1, u2⟩
      · exact Or.inl u
      · exact Or.inr (Or.inl u)
      · refine Or.inr (Or.inr ⟨u1, fun x hx2 => ?_⟩)
        by_cases z : x = i
        · rw [z]; exact hx
        · exact u2 x (by omega)
    unfold b_X1_matched_45
    dsimp only
    rw [q_g1, Option.bind_some, hm.1.2.1, if_neg (by omega), q_keeping hJ1.1.1 hJ.1.2.2.1 hm, Option.bind_some]
    rcases rq_fst_cases (fun w => k w == (i : Int)) (ρ.1 0 0).toNat with ⟨w, hw, ew, pw, -⟩ | ⟨e, no⟩
    · rw [ew, if_neg (by omega)]
      exact same (Or.inl ⟨w, hw, by simpa using pw⟩)
    · rw [if_pos e]
      refine rq_call (q_askNext hJ1 hm hS (h := i) (by omega)) ?_
      intro m2 h2
      rcases rq_bw_at (rq_mp1 ρ S t a i) (rq_mO ρ) (ρ.1 0 0).toNat with ⟨e0, no0⟩ | ⟨w, hw, ew, pw, bst⟩
      · rw [if_pos e0] at h2
        subst h2
        exact same (Or.inr (fun w hw ac => rq_mp1_f (no0 w hw) ac))
      · rw [ew, if_neg (by omega), Int.toNat_natCast] at h2
        obtain ⟨h2a, h2b⟩ := h2
        obtain ⟨acw, unw⟩ := rq_mp1_i.mp pw
        have free : ∀ v, v < (ρ.1 0 0).toNat → k v ≠ (i : Int) := fun v hv y => by
          have := no v hv
          rw [y] at this
          simp at this
        have st := rq_m_step hS hL (h := i) (w := w) hi hw free acw unw (fun v hv av uv => bst v hv (rq_mp1_i.mpr ⟨av, uv⟩))
        have mc := rq_mc_step (N := (ρ.1 0 0).toNat) (H := (ρ.1 0 1).toNat) (a := a) hi hw unw
        unfold j_X1_matched_71_45
        rw [rq_n1 (by omega)]
        refine rq_some.mpr (rq_inl ⟨rfl, ⟨_, _, h2a, st.1, st.2, Or.inr (Or.inl ?_)⟩, hf.trans h2b⟩)
        rw [mc]
        rcases hU with u | u | ⟨u1, u2⟩
        · rcases u i hi with ⟨v, hv, y⟩ | all
          · exact absurd y (free v hv)
          · rw [all w hw acw] at unw; cases unw
        · omega
        · omega
  · rintro ⟨x, mm⟩ ⟨e1, ⟨a, k, hm, hS, hL, hU⟩, hf⟩
    dsimp only at e1 hm hf
    subst e1
    unfold b_X1_matched_45
    dsimp only
    rw [q_g1, Option.bind_some, hm.1.2.1, if_pos (by omega)]
    refine rq_some.mpr (rq_inre ⟨⟨a, k, hm, hS, hL, ?_⟩, hf⟩)
    rcases hU with u | u | ⟨u1, u2⟩
    · exact Or.inl u
    · exact Or.inr u
    · exact Or.inl (fun x hx => u2 x hx)
  · obtain ⟨a, k, hm, hS, hL, hU⟩ := h0
    refine ⟨rfl, ⟨a, k, hm, hS, hL, ?_⟩, rq_fr.rfl⟩
    rcases hU with u | u
    · exact Or.inl u
    · exact Or.inr (Or.inr ⟨u, fun x hx => absurd hx (Nat.not_lt_zero x)⟩)
theorem q_matched (hJ : rq_J r ρ A c m) (hm : rq_ml ρ t m) (d : Nat) : rq (f_X1_matched ((118 : Nat) : Int) (r : Int) ((rq_wt ρ S : Nat) : Int) (d : Int) m) (fun p => (∃ k, rq_mR ρ S t k ∧ p.1 = rq_fst (fun w => k w == (d : Int)) (ρ.1 0 0).toNat) ∧ rq_fr rq_wK m p.2) := by
  have hb := hJ.1.2.2.1.1
  have hv := hJ.1.2.2.1
  unfold f_X1_matched
  refine rq_call (rq_up (Q := fun m1 => rq_mm ρ S t (fun _ => 0) (fun _ => -1) m1 ∧ rq_fr rq_wK m m1) (fun i s => s.1 = (i : Int) ∧ (∀ j, j < i → s.2 128 j = -1 ∧ s.2 129 j = ((rq_wt ρ S : Nat) : Int)) ∧ rq_fr rq_wK m s.2) 6 (by decide) ?_ ?_ (by exact ⟨rfl, fun j hj => absurd hj (Nat.not_lt_zero _), rq_fr.rfl⟩)) ?_
  · rintro i ⟨x, mm⟩ hi ⟨e1, e2, hf⟩
    dsimp only at e1 e2 hf
    subst e1
    have hJ1 := rq_J_fr hJ (hf.mono (fun _ _ => rq_WQ_K)) (Nat.le_refl c)
    have f2 : rq_fr rq_wK m (rt_up mm 128 i (-1)) := hf.up rfl
    have hJ2 := rq_J_fr hJ (f2.mono (fun _ _ => rq_WQ_K)) (Nat.le_refl c)
    unfold b_X1_matched_3
    dsimp only
    rw [if_neg (by omega), q_g1, Option.bind_some, pt_118_5 hJ1.1.1, show (128 : Int) = ((128 : Nat) : Int) from rfl, q_sa kd_128 ln_128 hi, Option.bind_some, q_g1, Option.bind_some, pt_118_6 hJ2.1.1, show (129 : Int) = ((129 : Nat) : Int) from rfl, q_sa kd_129 ln_129 hi, Option.bind_some, rq_n1 (by omega)]
    refine rq_some.mpr (rq_inl ⟨rfl, fun j hj => ⟨?_, ?_⟩, f2.up rfl⟩)
    · show rt_up (rt_up mm 128 i (-1)) 129 i ((rq_wt ρ S : Nat) : Int) 128 j = _
      rw [q_up, if_neg (by omega), q_up]
      by_cases z : j = i
      · rw [if_pos ⟨rfl, z⟩]
      · rw [if_neg (fun y => z y.2)]; exact (e2 j (by omega)).1
    · show rt_up (rt_up mm 128 i (-1)) 129 i ((rq_wt ρ S : Nat) : Int) 129 j = _
      rw [q_up]
      by_cases z : j = i
      · rw [if_pos ⟨rfl, z⟩]
      · rw [if_neg (fun y => z y.2), q_up, if_neg (by omega)]; exact (e2 j (by omega)).2
  · rintro ⟨x, mm⟩ ⟨e1, e2, hf⟩
    dsimp only at e1 e2 hf
    unfold b_X1_matched_3
    dsimp only
    rw [if_pos (by omega)]
    refine rq_some.mpr (rq_inre ⟨⟨rq_ml_K hm hv hf, fun w hw => (e2 w hw).1, fun h hh => ⟨show 0 < 64 by decide, ?_⟩⟩, hf⟩)
    rw [(e2 h hh).2, Nat.or_zero]
  · rintro m1 ⟨hm1, f1⟩
    have hJ1 := rq_J_fr hJ (f1.mono (fun _ _ => rq_WQ_K)) (Nat.le_refl c)
    have z0 := @rq_m_0 (ρ.1 0 0).toNat (ρ.1 0 1).toNat (rq_mA ρ S t) (rq_mO ρ) (rq_mT ρ t)
    refine rq_call (rq_up (Q := fun m2 => rq_mW ρ S t (fun a k => rq_mF (ρ.1 0 0).toNat (ρ.1 0 1).toNat (rq_mA ρ S t) a k ∨ ((36 : Nat) : Int) ≤ rq_mc (ρ.1 0 0).toNat a (ρ.1 0 1).toNat) m2 ∧ rq_fr rq_wK m1 m2) (fun i s => s.1 = (i : Int) ∧ rq_mW ρ S t (fun a k => rq_mF (ρ.1 0 0).toNat (ρ.1 0 1).toNat (rq_mA ρ S t) a k ∨ (i : Int) ≤ rq_mc (ρ.1 0 0).toNat a (ρ.1 0 1).toNat) s.2 ∧ rq_fr rq_wK m1 s.2) 36 (by decide) ?_ ?_ ?_) ?_
    · rintro i ⟨x, mm⟩ hi ⟨e1, e2, hf⟩
      dsimp only at e1 e2 hf
      subst e1
      have hJ2 := rq_J_fr hJ1 (hf.mono (fun _ _ => rq_WQ_K)) (Nat.le_refl c)
      unfold b_X1_matched_35
      dsimp only
      rw [if_neg (by omega)]
      refine rq_call (q_round hJ2 (n := i) (d : Int) (i : Int) e2) ?_
      rintro m3 ⟨b1, b2⟩
      rw [rq_n1 (by omega)]
      exact rq_some.mpr (rq_inl ⟨rfl, b1, hf.trans b2⟩)
    · rintro ⟨x, mm⟩ ⟨e1, e2, hf⟩
      dsimp only at e1 e2 hf
      unfold b_X1_matched_35
      dsimp only
      rw [if_pos (by omega)]
      exact rq_some.mpr (rq_inre ⟨e2, hf⟩)
    · refine ⟨rfl, ⟨_, _, hm1, z0.1, z0.2, Or.inr ?_⟩, rq_fr.rfl⟩
      have := rq_sum_b (f := fun h : Nat => rq_sum (fun w : Nat => if (0 : Nat).testBit w = true then (1 : Int) else 0) (ρ.1 0 0).toNat) (c := 6) (by decide) (ρ.1 0 1).toNat (fun i _ => by
        have := rq_sum_b (f := fun w : Nat => if (0 : Nat).testBit w = true then (1 : Int) else 0) (c := 1) (by decide) (ρ.1 0 0).toNat (fun i _ => by split <;> decide)
        omega)
      exact this.1
    · rintro m2 ⟨⟨a, k, hm2, hS, hL, hU⟩, f2⟩
      have hJ2 := rq_J_fr hJ1 (f2.mono (fun _ _ => rq_WQ_K)) (Nat.le_refl c)
      rw [q_keeping hJ2.1.1 hv hm2, Option.bind_some]
      refine rq_some.mpr ⟨⟨k, ⟨a, hS, ?_, hL⟩, rfl⟩, f1.trans f2⟩
      rcases hU with u | u
      · exact u
      · intro h hh
        refine Or.inr (fun w hw _ => ?_)
        by_cases z : (a h).testBit w = true
        · exact z
        · exfalso
          have mc := rq_mc_step (N := (ρ.1 0 0).toNat) (H := (ρ.1 0 1).toNat) (a := a) hh hw (by simpa using z)
          have mb := rq_mc_b (ρ.1 0 0).toNat (ρ.1 0 1).toNat (rq_ma a h w) (by omega) (by omega)
          omega
end
