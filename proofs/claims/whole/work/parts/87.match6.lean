/-! Layer 3: match, the reference -/
section
variable {ρ : rq_R} {m : rt_M} {S : rq_S}
/-- under way: the heads up to i but h are done, those behind i have not asked; h is free and wishes w -/
def rq_mV (ρ : rq_R) (S : rq_S) (i : Nat) (hc wc : Int) (a : Nat → Nat) (k : Nat → Int) : Prop :=
  rq_mS (ρ.1 0 0).toNat (ρ.1 0 1).toNat (rq_mA ρ S (S 0).toNat) (rq_mO ρ) (rq_mT ρ (S 0).toNat) a k ∧ rq_mL (ρ.1 0 0).toNat (ρ.1 0 1).toNat (rq_mA ρ S (S 0).toNat) (rq_mO ρ) (rq_mT ρ (S 0).toNat) a ∧
  (∀ v u, v < (ρ.1 0 0).toNat → u < (ρ.1 0 0).toNat → k v = k u → k v ≠ -1 → v = u) ∧ (∀ x, i < x → a x = 0) ∧
  ((hc = -1 ∧ ∀ x, x ≤ i → rq_mX ρ S (S 0).toNat x a k) ∨ ∃ h, h < (ρ.1 0 1).toNat ∧ h ≤ i ∧ hc = (h : Int) ∧ wc = rq_bw (rq_mp1 ρ S (S 0).toNat a h) (rq_mO ρ) (ρ.1 0 0).toNat ∧ (∀ v, v < (ρ.1 0 0).toNat → k v ≠ (h : Int)) ∧ ∀ x, x ≤ i → x ≠ h → rq_mX ρ S (S 0).toNat x a k)
theorem rq_mX_up {t x h w : Nat} {a : Nat → Nat} {k k' : Nat → Int} (hx : rq_mX ρ S t x a k) (hk : ∀ v, v < (ρ.1 0 0).toNat → k v = (x : Int) → k' v = (x : Int)) : rq_mX ρ S t x (rq_ma a h w) k' := by
  rcases hx with ⟨v, hv, e⟩ | all
  · exact Or.inl ⟨v, hv, hk v hv e⟩
  · refine Or.inr (fun v hv ac => ?_)
    rw [rq_ma_tb, all v hv ac]; rfl
theorem q_chain (hD : rq_D ρ m) (hS : rq_sr S m) (hv : rq_vs ρ S) {i : Nat} (hi : i < (ρ.1 0 1).toNat) {n : Nat} {h w : Nat} {a : Nat → Nat} {k : Nat → Int} (hm : rq_mn a k m) (hV : rq_mV ρ S i (h : Int) (w : Int) a k) (hh : h < (ρ.1 0 1).toNat) (hn : (n : Int) ≤ rq_mc (ρ.1 0 0).toNat a (ρ.1 0 1).toNat) : rq (b_X12_laysMatch_48 248 (i : Int) ((h : Int), (w : Int), m)) (fun t => ∃ h' w' m' a' k', t = .inl (h', w', m') ∧ rq_mn a' k' m' ∧ rq_mV ρ S i h' w' a' k' ∧ ((n + 1 : Nat) : Int) ≤ rq_mc (ρ.1 0 0).toNat a' (ρ.1 0 1).toNat ∧ rq_fr rq_wLm m m') := by
  have hb := hD.2.1.1
  obtain ⟨vS, vL, vI, v0, vX⟩ := hV
  obtain ⟨h1, h1H, h1i, e1, ew, free, done⟩ : ∃ h', h' < (ρ.1 0 1).toNat ∧ h' ≤ i ∧ (h : Int) = (h' : Int) ∧ (w : Int) = rq_bw (rq_mp1 ρ S (S 0).toNat a h') (rq_mO ρ) (ρ.1 0 0).toNat ∧ (∀ v, v < (ρ.1 0 0).toNat → k v ≠ (h' : Int)) ∧ ∀ x, x ≤ i → x ≠ h' → rq_mX ρ S (S 0).toNat x a k := by
    rcases vX with ⟨e, -⟩ | e
    · omega
    · exact e
  clear vX
  have e1 : h1 = h := by omega
  subst e1
  rcases rq_bw_at (rq_mp1 ρ S (S 0).toNat a h1) (rq_mO ρ) (ρ.1 0 0).toNat with ⟨e0, -⟩ | ⟨w1, hw, ew1, pw, bst⟩
  · omega
  have ew2 : w1 = w := by omega
  subst ew2
  obtain ⟨acw, unw⟩ := rq_mp1_i.mp pw
  have st := rq_m_step vS vL hh hw free acw unw (fun v hv av uv => bst v hv (rq_mp1_i.mpr ⟨av, uv⟩))
  have mc := rq_mc_step (N := (ρ.1 0 0).toNat) (H := (ρ.1 0 1).toNat) (a := a) hh hw unw
  have hmc : ((n + 1 : Nat) : Int) ≤ rq_mc (ρ.1 0 0).toNat (rq_ma a h1 w1) (ρ.1 0 1).toNat := by rw [mc]; omega
  have ha := hm.2 h1 (by omega)
  have aw6 : a h1 ||| 2 ^ w1 < 64 := Nat.or_lt_two_pow (n := 6) ha.1 (Nat.pow_lt_pow_right (by decide) (by omega))
  have a0' : ∀ x, i < x → rq_ma a h1 w1 x = 0 := fun x hx => by unfold rq_ma; rw [if_neg (by omega)]; exact v0 x hx
  unfold b_X12_laysMatch_48
  dsimp only
  rw [if_neg (by omega), if_neg (by omega), q_gfr, Option.bind_some, q_a8 (k := 298) _ 6 (pt_248_69 hD.1) kd_298 ln_298 (by omega), Option.bind_some, ha.2, rq_sb _ (by omega) w1 (by omega), q_s8 (k := 298) _ 6 (pt_248_69 hD.1) kd_298 ln_298 (by omega), Option.bind_some]
  have f1 : rq_fr rq_wLm m (rt_up m 298 h1 ((a h1 ||| 2 ^ w1 : Nat) : Int)) := rq_fr.rfl.up rfl
  have a1 : ∀ x, x < 6 → rq_ma a h1 w1 x < 64 ∧ rt_up m 298 h1 ((a h1 ||| 2 ^ w1 : Nat) : Int) 298 x = ((rq_ma a h1 w1 x : Nat) : Int) := fun x hx => by
    unfold rq_ma
    rw [q_up]
    by_cases z : x = h1
    · rw [if_pos z, if_pos ⟨rfl, z⟩]; exact ⟨aw6, rfl⟩
    · rw [if_neg z, if_neg (fun y => z y.2)]; exact hm.2 x hx
  have k1 : ∀ x, x < 6 → rt_up m 298 h1 ((a h1 ||| 2 ^ w1 : Nat) : Int) 299 x = k x := fun x hx => by rw [q_up, if_neg (by omega)]; exact hm.1 x hx
  generalize rt_up m 298 h1 ((a h1 ||| 2 ^ w1 : Nat) : Int) = m1 at f1 a1 k1 ⊢
  have hD1 := rq_D_wL hD f1
  have hS1 := rq_sr_wL hS f1
  rw [q_gfr, Option.bind_some, q_a8 (k := 299) _ 6 (pt_248_70 hD1.1) kd_299 ln_299 (by omega), Option.bind_some, k1 w1 (by omega)]
  -- h stays free
  have keep : ∀ m2, rq_fr rq_wF m1 m2 → rq_mk2 (rq_mT ρ (S 0).toNat) k h1 w1 w1 = k w1 → rq (j_X12_laysMatch_102_48 248 (i : Int) (h1 : Int) m2) (fun t => ∃ h' w' m' a' k', t = .inl (h', w', m') ∧ rq_mn a' k' m' ∧ rq_mV ρ S i h' w' a' k' ∧ ((n + 1 : Nat) : Int) ≤ rq_mc (ρ.1 0 0).toNat a' (ρ.1 0 1).toNat ∧ rq_fr rq_wLm m m') := by
    intro m2 f2 e
    have ek : rq_mk2 (rq_mT ρ (S 0).toNat) k h1 w1 = k := funext fun x => by
      by_cases z : x = w1
      · rw [z, e]
      · unfold rq_mk2; rw [if_neg z]
    rw [ek] at st
    have hm2 : rq_mn (rq_ma a h1 w1) k m2 := rq_mn_F (m := m1) ⟨k1, a1⟩ f2
    have f2' : rq_fr rq_wLm m m2 := f1.trans (f2.mono (fun _ _ => rq_wL_F))
    unfold j_X12_laysMatch_102_48 j_X12_laysMatch_115_48
    rw [if_pos (by omega)]
    refine rq_call (q_wishes (rq_D_wL hD f2') (rq_sr_wL hS f2') hv hm2 (h := h1) (by omega)) ?_
    rintro ⟨x, m3⟩ ⟨e3, f3⟩
    dsimp only at e3 f3 ⊢
    refine rq_some.mpr ⟨_, _, m3, rq_ma a h1 w1, k, rfl, rq_mn_F hm2 f3, ⟨st.1, st.2, vI, a0', Or.inr ⟨h1, hh, h1i, rfl, e3, free, fun x hx hne => rq_mX_up (done x hx hne) (fun v _ y => y)⟩⟩, hmc, f2'.trans (f3.mono (fun _ _ => rq_wL_F))⟩
  -- w takes h
  have put : ∀ m2, rq_fr rq_wF m1 m2 → rq_mk2 (rq_mT ρ (S 0).toNat) k h1 w1 w1 = (h1 : Int) → rq (j_X12_laysMatch_92_48 248 (i : Int) (h1 : Int) (w1 : Int) (k w1) m2) (fun t => ∃ h' w' m' a' k', t = .inl (h', w', m') ∧ rq_mn a' k' m' ∧ rq_mV ρ S i h' w' a' k' ∧ ((n + 1 : Nat) : Int) ≤ rq_mc (ρ.1 0 0).toNat a' (ρ.1 0 1).toNat ∧ rq_fr rq_wLm m m') := by
    intro m2 f2 e
    have f2' : rq_fr rq_wLm m m2 := f1.trans (f2.mono (fun _ _ => rq_wL_F))
    have hm2 : rq_mn (rq_ma a h1 w1) k m2 := rq_mn_F (m := m1) ⟨k1, a1⟩ f2
    have hD2 := rq_D_wL hD f2'
    have kne : ∀ x, x ≠ w1 → rq_mk2 (rq_mT ρ (S 0).toNat) k h1 w1 x = k x := fun x z => by unfold rq_mk2; rw [if_neg z]
    unfold j_X12_laysMatch_92_48
    rw [q_gfr, Option.bind_some, q_s8 (k := 299) _ 6 (pt_248_70 hD2.1) kd_299 ln_299 (by omega), Option.bind_some]
    have f3 : rq_fr rq_wLm m (rt_up m2 299 w1 (h1 : Int)) := f2'.up rfl
    have hm3 : rq_mn (rq_ma a h1 w1) (rq_mk2 (rq_mT ρ (S 0).toNat) k h1 w1) (rt_up m2 299 w1 (h1 : Int)) := by
      refine ⟨fun x hx => ?_, fun x hx => ?_⟩
      · rw [q_up]
        by_cases z : x = w1
        · rw [if_pos ⟨rfl, z⟩, z, e]
        · rw [if_neg (fun y => z y.2), kne x z]; exact hm2.1 x hx
      · rw [q_up, if_neg (by omega)]; exact hm2.2 x hx
    have inj : ∀ v u, v < (ρ.1 0 0).toNat → u < (ρ.1 0 0).toNat → rq_mk2 (rq_mT ρ (S 0).toNat) k h1 w1 v = rq_mk2 (rq_mT ρ (S 0).toNat) k h1 w1 u → rq_mk2 (rq_mT ρ (S 0).toNat) k h1 w1 v ≠ -1 → v = u := by
      intro v u hv2 hu q1 q2
      by_cases z : v = w1
      · by_cases z2 : u = w1
        · rw [z, z2]
        · rw [z, e, kne u z2] at q1
          exact absurd q1.symm (free u hu)
      · by_cases z2 : u = w1
        · rw [z2, e, kne v z] at q1
          exact absurd q1 (free v hv2)
        · rw [kne v z, kne u z2] at q1
          rw [kne v z] at q2
          exact vI v u hv2 hu q1 q2
    have hX1 : rq_mX ρ S (S 0).toNat h1 (rq_ma a h1 w1) (rq_mk2 (rq_mT ρ (S 0).toNat) k h1 w1) := Or.inl ⟨w1, hw, e⟩
    generalize rt_up m2 299 w1 (h1 : Int) = m3 at f3 hm3 ⊢
    have hD3 := rq_D_wL hD f3
    have hS3 := rq_sr_wL hS f3
    unfold j_X12_laysMatch_102_48 j_X12_laysMatch_115_48
    by_cases z : k w1 = -1
    · rw [if_neg (by omega)]
      refine rq_some.mpr ⟨_, _, m3, _, _, rfl, hm3, ⟨st.1, st.2, inj, a0', Or.inl ⟨z, fun x hx => ?_⟩⟩, hmc, f3⟩
      by_cases y : x = h1
      · rw [y]; exact hX1
      · refine rq_mX_up (done x hx y) (fun v hv2 q => ?_)
        by_cases z2 : v = w1
        · rw [z2, z] at q; omega
        · rw [kne v z2]; exact q
    · rcases vS.2.2 w1 hw with ⟨q, -⟩ | ⟨h0, h0H, q, b1, -⟩
      · exact absurd q z
      have h0i : h0 ≤ i := Classical.byContradiction fun y => by
        rw [v0 h0 (by omega)] at b1
        simp at b1
      have ne : h0 ≠ h1 := fun y => free w1 hw (by rw [q, y])
      rw [q, if_pos (by omega)]
      refine rq_call (q_wishes hD3 hS3 hv hm3 (h := h0) (by omega)) ?_
      rintro ⟨x, m4⟩ ⟨e4, f4⟩
      dsimp only at e4 f4 ⊢
      refine rq_some.mpr ⟨_, _, m4, _, _, rfl, rq_mn_F hm3 f4, ⟨st.1, st.2, inj, a0', Or.inr ⟨h0, h0H, h0i, rfl, e4, fun v hv2 y => ?_, fun x hx hne => ?_⟩⟩, hmc, f3.trans (f4.mono (fun _ _ => rq_wL_F))⟩
      · by_cases z2 : v = w1
        · rw [z2, e] at y; omega
        · rw [kne v z2] at y
          exact z2 (vI v w1 hv2 hw (by rw [y, q]) (by omega))
      · by_cases y : x = h1
        · rw [y]; exact hX1
        · refine rq_mX_up (done x hx y) (fun v hv2 q2 => ?_)
          by_cases z2 : v = w1
          · rw [z2, q] at q2; omega
          · rw [kne v z2]; exact q2
  by_cases z : k w1 = -1
  · rw [if_pos (by omega)]
    exact put m1 rq_fr.rfl (by unfold rq_mk2; rw [if_pos rfl, if_pos z])
  · rcases vS.2.2 w1 hw with ⟨q, -⟩ | ⟨h0, h0H, q, b1, -⟩
    · exact absurd q z
    have ek : rq_mk2 (rq_mT ρ (S 0).toNat) k h1 w1 w1 = if rq_ti ρ w1 h1 (S 0).toNat < rq_ti ρ w1 h0 (S 0).toNat ∨ (rq_ti ρ w1 h1 (S 0).toNat = rq_ti ρ w1 h0 (S 0).toNat ∧ (h1 : Int) < (h0 : Int)) then (h1 : Int) else (h0 : Int) := by
      unfold rq_mk2
      rw [if_pos rfl, if_neg z, q, Int.toNat_natCast]
    have put2 := put
    rw [q] at put2
    rw [q, if_neg (by omega)]
    refine rq_call (q_risAhead hD1 hS1 hv (w := w1) (h := h1) (h0 := h0) (by omega) (by omega) (by omega)) ?_
    rintro ⟨x, m2⟩ ⟨e2, f2⟩
    dsimp only at e2 f2 ⊢
    by_cases y : rq_ti ρ w1 h1 (S 0).toNat < rq_ti ρ w1 h0 (S 0).toNat ∨ (rq_ti ρ w1 h1 (S 0).toNat = rq_ti ρ w1 h0 (S 0).toNat ∧ (h1 : Int) < (h0 : Int))
    · rw [if_pos y] at e2
      rw [if_neg (by omega)]
      exact put2 m2 f2 (by rw [ek, if_pos y])
    · rw [if_neg y] at e2
      rw [if_pos e2]
      exact keep m2 f2 (by rw [ek, if_neg y, q])
end
