/-! Layer 3: fill, the class -/
section
variable {r : Nat} {ρ : rq_R} {A : rq_A} {c : Nat} {m : rt_M} {S : rq_S}
def rq_vfi (ρ : rq_R) (S : rq_S) (n a : Int) : Int := if ¬ (1 ≤ n ∧ n ≤ 8) then -2 else if a = -1 then rq_bs (rq_fo ρ S n.toNat) (rq_fq ρ) false (ρ.1 0 0).toNat (ρ.1 0 0).toNat 0 else if 0 ≤ a ∧ a < ρ.1 0 0 then rq_ch (rq_fo ρ S n.toNat) (rq_fq ρ) false (ρ.1 0 0).toNat a.toNat (rq_ss (rq_fo ρ S n.toNat) (rq_fq ρ) false (ρ.1 0 0).toNat a.toNat) else -2
theorem rq_WQ_147 {k j : Nat} (h : rq_WQ k j = false) : rq_w147 k j = false := by
  have h := rq_WQ_C h
  unfold rq_WC at h
  unfold rq_w147 rq_w140
  simp only [Bool.or_eq_false_iff, Bool.and_eq_false_iff, beq_eq_false_iff_ne, decide_eq_false_iff_not] at h ⊢
  omega
theorem q_fill30 (h : rq_J r ρ A c m) (hc : c < 800000) {n : Nat} (h1 : 1 ≤ n) (hn : n ≤ 8) {a : Int} (ha : a = -1 ∨ (0 ≤ a ∧ a < ρ.1 0 0)) : rq (j_X11_fill_30 41 (n : Int) a m) (fun p => p.1 = rq_vfi ρ A.1 n a ∧ rq_fr rq_WQ m p.2) := by
  have hs := h.1.1
  have hb := h.1.2.2.1.1
  have e0 : ρ.1 0 0 = (((ρ.1 0 0).toNat : Nat) : Int) := by omega
  unfold j_X11_fill_30 j_X11_fill_124
  rw [q_rws hs, Option.bind_some, q_told h, Option.bind_some, q_gf4 h.1, Option.bind_some, h.1.2.2.2.1.1, q_gd5]
  have qb := q_begin hs (n := (ρ.1 0 0).toNat) (by omega) 0 (Or.inl rfl)
  rw [← e0] at qb
  refine rq_call qb ?_
  rintro m1 ⟨b1, b2, b3, b4⟩
  have f1 : rq_fr rq_WQ m m1 := b4.mono (fun _ _ => rq_WQ_N)
  have hJ1 := rq_J_fr h f1 (Nat.le_refl c)
  rw [q_now hJ1.1.1, Option.bind_some, q_nst hJ1.1.1, Option.bind_some, q_told hJ1, Option.bind_some, q_gd7 q_b49, q_wornOut hJ1.1 (q_Sc hJ1), Option.bind_some]
  refine rq_call (q_fillG hJ1 hc hn a (fun i hi => (b3 i hi).1) b1 b2) ?_
  rintro m2 ⟨hp, f2⟩
  have f2' : rq_fr rq_WQ m1 m2 := f2.mono (fun _ _ => rq_WQ_O)
  have hJ2 := rq_J_fr hJ1 f2' (Nat.le_refl c)
  rw [q_rws hJ2.1.1, Option.bind_some, q_gd5]
  refine rq_call (q_solve hJ2.1.1 hp (fun i => rq_fo_b h.1.2.2.1 n i) (fun i j => rq_fq_b h.1.2.2.1 i j) (by omega) (fun i hi => by rw [f2 147 i rfl]; exact (b3 i hi).2)) ?_
  rintro ⟨v, m3⟩ ⟨e, h3, f3⟩
  dsimp only at e h3 f3 ⊢
  have f3' : rq_fr rq_WQ m2 m3 := f3.mono (fun _ _ => rq_WQ_147)
  have hJ3 := rq_J_fr hJ2 f3' (Nat.le_refl c)
  have ff := (f1.trans f2').trans f3'
  unfold rq_vfi
  rw [if_neg (show ¬ ¬ (1 ≤ (n : Int) ∧ (n : Int) ≤ 8) by omega), Int.toNat_natCast]
  by_cases z : a = -1
  · rw [if_pos z, if_pos z]
    exact rq_some.mpr ⟨e, ff⟩
  · have ha := ha.resolve_left z
    obtain ⟨w, rfl⟩ := Int.eq_ofNat_of_zero_le ha.1
    rw [if_neg z, if_neg z, if_pos ha, q_rws hJ3.1.1, Option.bind_some, q_gd5, Int.toNat_natCast]
    unfold f_X5_chosen j_X5_chosen_20
    have w6 : w < 6 := by omega
    rw [if_neg (by omega), if_neg (by omega), q_g5, Option.bind_some, pt_130_5 hJ3.1.1, show (147 : Int) = ((147 : Nat) : Int) from rfl, q_al kd_147 ln_147 w6, Option.bind_some, h3 w w6, if_pos (by omega), Option.bind_some]
    exact rq_some.mpr ⟨rfl, ff⟩
theorem q_fill11 (h : rq_J r ρ A c m) (hc : c < 800000) (n a : Int) : rq (f_X11_fill 41 n a m) (fun p => p.1 = rq_vfi ρ A.1 n a ∧ rq_fr rq_WQ m p.2) := by
  unfold f_X11_fill j_X11_fill_27
  by_cases hn : 1 ≤ n ∧ n ≤ 8
  · obtain ⟨n, rfl⟩ := Int.eq_ofNat_of_zero_le (show 0 ≤ n by omega)
    rw [if_neg (by omega), if_neg (by omega)]
    by_cases z : a = -1
    · rw [if_pos z]
      exact q_fill30 h hc (by omega) (by omega) (Or.inl z)
    · rw [if_neg z, q_told h, Option.bind_some, q_gd4 h.1]
      by_cases ha : 0 ≤ a ∧ a < ρ.1 0 0
      · rw [q_isWigT h.1 ha.1 ha.2, Option.bind_some, if_neg (by decide)]
        exact q_fill30 h hc (by omega) (by omega) (Or.inr ha)
      · rw [q_isWigF h.1 ha, Option.bind_some, if_pos rfl]
        unfold rq_vfi
        rw [if_neg (fun y => y hn), if_neg z, if_neg ha]
        exact rq_some.mpr ⟨rfl, rq_fr.rfl⟩
  · have e : rq_vfi ρ A.1 n a = -2 := by unfold rq_vfi; rw [if_pos hn]
    rw [e]
    by_cases z : n < 1
    · rw [if_pos z]; exact rq_some.mpr ⟨rfl, rq_fr.rfl⟩
    · rw [if_neg z, if_pos (by omega)]; exact rq_some.mpr ⟨rfl, rq_fr.rfl⟩
end
