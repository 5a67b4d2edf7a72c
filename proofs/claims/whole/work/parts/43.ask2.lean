/-! Layer 3: questions: power, keeps, baths -/
section
variable {r : Nat} {ρ : rq_R} {A : rq_A} {c : Nat} {m : rt_M}
/-- sets that win by w alone -/
def rq_pw1 (ρ : rq_R) (w : Nat) (quota others : Int) (s : Nat) : Int := if rt_iand (s : Int) (rt_ixor others (-1)) = 0 ∧ rq_os ρ s < quota ∧ quota ≤ rq_os ρ s + ρ.1 2 w then 1 else 0
def rq_vpow (ρ : rq_R) (A : rq_A) (a b : Int) : Int := if (0 ≤ a ∧ a < ρ.1 0 0) ∧ (0 ≤ b ∧ b ≤ 999) ∧ A.1 (1 + a.toNat) ≠ -1 then rq_sum (rq_pw1 ρ a.toNat b (rt_iand ((rq_wn ρ A.1 : Nat) : Int) (rt_ixor (rt_ishl 1 a) (-1)))) 64 else -1
theorem rq_os_le (hv : rq_va ρ) (x : Int) : 0 ≤ rq_os ρ x ∧ rq_os ρ x ≤ 594 := by
  have := rq_os_b hv x (ρ.1 0 0).toNat (Nat.le_refl _)
  have hb := hv.1
  unfold rq_os
  omega
theorem L_power (hI : rq_I c m) (a b : Int) : rq (f_X11_power 41 a b m) (fun p => rq (f_X12_power 248 a b m) (fun q => q.1 = p ∧ rq_I (c + 1) q.2)) := by
  obtain ⟨r, ρ, A, h⟩ := hI
  have hC := h.1
  have hs := hC.1
  have hv := hC.2.2.1
  have hb := hv.1
  have hS := q_Sc h
  have hsv := h.2.2.2.2.2.1.1.2.2
  have pb : ∀ w q o n, 0 ≤ rq_sum (rq_pw1 ρ w q o) n ∧ rq_sum (rq_pw1 ρ w q o) n ≤ 1 * n := fun w q o n => rq_sum_b (by decide) n (fun i _ => by unfold rq_pw1; split <;> decide)
  refine rq_pair0 (v := rq_vpow ρ A a b) h ?_ ?_
  · unfold f_X11_power rq_vpow j_X11_power_37
    simp only [q_told h, Option.bind_some, q_gd4 hC]
    by_cases ha : 0 ≤ a ∧ a < ρ.1 0 0
    · rw [q_isWigT hC ha.1 ha.2, Option.bind_some, if_neg (by decide)]
      by_cases hq : 0 ≤ b ∧ b ≤ 999
      · obtain ⟨w, rfl⟩ := Int.eq_ofNat_of_zero_le ha.1
        rw [if_neg (by omega), if_neg (by omega)]
        simp only [q_now hs, q_nst hs, Option.bind_some, q_gd7 q_b49, q_headUnder hs hS (show w < 6 by omega), q_worn hC hS, Int.toNat_natCast]
        by_cases z : A.1 (1 + w) = -1
        · rw [if_pos z, if_neg (fun y => y.2.2 z)]
        · rw [if_neg z, if_pos ⟨ha, hq, z⟩]
          generalize rt_iand ((rq_wn ρ A.1 : Nat) : Int) (rt_ixor (rt_ishl 1 (w : Int)) (-1)) = o
          apply rq_of
          refine rq_call (rq_up (Q := fun e => e = rq_sum (rq_pw1 ρ w b o) 64) (fun i s => s.2 = (i : Int) ∧ s.1 = rq_sum (rq_pw1 ρ w b o) i) 64 (by decide) ?_ ?_ ⟨rfl, rfl⟩) (fun e q => rq_some.mpr q)
          · rintro i ⟨x, y⟩ hi ⟨e1, e2⟩
            dsimp only at e1 e2
            subst e1 e2
            have p1 := pb w b o i
            have o1 := rq_os_le hv (i : Int)
            have w1 := hv.2.1 w ha.2
            unfold b_X11_power_66 j_X11_power_117_66
            dsimp only
            rw [if_neg (by omega), rq_n1 (by omega), rq_sum_s]
            by_cases y1 : rt_iand (i : Int) (rt_ixor o (-1)) = 0
            · rw [if_pos y1, q_told h, Option.bind_some, q_gd4 hC, q_officeOfAll hC, Option.bind_some]
              by_cases y2 : b ≤ rq_os ρ i
              · rw [if_pos y2]
                refine rq_some.mpr (rq_inl ⟨rfl, ?_⟩)
                unfold rq_pw1; rw [if_neg (fun z => by omega)]; simp
              · rw [if_neg y2, Option.bind_some, q_gd4 hC, q_officeOf hC ha.2, Option.bind_some, rq_iadd (by omega) (by omega)]
                by_cases y3 : rq_os ρ i + ρ.1 2 w < b
                · rw [if_pos y3]
                  refine rq_some.mpr (rq_inl ⟨rfl, ?_⟩)
                  unfold rq_pw1; rw [if_neg (fun z => by omega)]; simp
                · rw [if_neg y3, rq_iadd (by omega) (by omega)]
                  refine rq_some.mpr (rq_inl ⟨rfl, ?_⟩)
                  show _ = _ + rq_pw1 ρ w b o i
                  unfold rq_pw1; rw [if_pos ⟨y1, by omega, by omega⟩]
            · rw [if_neg y1]
              refine rq_some.mpr (rq_inl ⟨rfl, ?_⟩)
              unfold rq_pw1; rw [if_neg (fun z => y1 z.1)]; simp
          · rintro ⟨x, y⟩ ⟨e1, e2⟩
            dsimp only at e1 e2
            subst e1 e2
            unfold b_X11_power_66
            dsimp only
            rw [if_pos (by omega)]
            exact rq_some.mpr (rq_inre rfl)
      · rw [if_neg (show ¬ ((0 ≤ a ∧ a < ρ.1 0 0) ∧ (0 ≤ b ∧ b ≤ 999) ∧ A.1 (1 + a.toNat) ≠ -1) from fun z => hq z.2.1)]
        by_cases z : b < 0
        · rw [if_pos z]
        · rw [if_neg z, if_pos (by omega)]
    · rw [q_isWigF hC ha, Option.bind_some, if_pos rfl, if_neg (fun z => ha z.1)]
  · obtain ⟨m2, e2, h2, f2⟩ := q_thr h 0
    have hD := h2.2.1
    have hs2 := hD.1
    have hS2 := q_Sr h2
    unfold f_X12_power rq_vpow j_X12_power_35
    rw [e2, Option.bind_some]
    by_cases ha : 0 ≤ a ∧ a < ρ.1 0 0
    · rw [q_riwT hD ha.1 ha.2, Option.bind_some, if_neg (by decide)]
      by_cases hq : 0 ≤ b ∧ b ≤ 999
      · obtain ⟨w, rfl⟩ := Int.eq_ofNat_of_zero_le ha.1
        have hw := (hsv w (by omega)).1
        rw [q_withinT hq.1 hq.2, Option.bind_some, if_neg (by decide), q_gfr, Option.bind_some, q_ron hs2 hS2 (by omega), Option.bind_some]
        simp only [Int.toNat_natCast]
        by_cases z : A.1 (1 + w) = -1
        · rw [if_neg (by omega), if_neg (fun y => y.2.2 z)]
          exact rq_some.mpr ⟨rfl, f2⟩
        · rw [if_pos (by omega), if_pos ⟨ha, hq, z⟩, q_onHeads hD hS2 h.2.2.2.2.2.1.1, Option.bind_some]
          generalize rt_iand ((rq_wn ρ A.1 : Nat) : Int) (rt_ixor (rt_ishl 1 (w : Int)) (-1)) = o
          refine rq_call (rq_up (Q := fun e => e.1 = rq_sum (rq_pw1 ρ w b o) 64 ∧ e.2 = m2) (fun i s => s.2.1 = (i : Int) ∧ s.1 = rq_sum (rq_pw1 ρ w b o) i ∧ s.2.2 = m2) 64 (by decide) ?_ ?_ ⟨rfl, rfl, rfl⟩) ?_
          · rintro i ⟨x, y, mm⟩ hi ⟨e1, e2, e3⟩
            dsimp only at e1 e2 e3
            subst e1 e2 e3
            have p1 := pb w b o i
            have o1 := rq_os_le hv (i : Int)
            have w1 := hv.2.1 w ha.2
            unfold b_X12_power_54 j_X12_power_106_54 j_X12_power_107_54 j_X12_power_110_54
            dsimp only
            rw [if_neg (by omega), rq_n1 (by omega), rq_sum_s, rq_iadd (by omega) (by omega), rq_iadd (by omega) (by omega)]
            by_cases y1 : rt_iand (i : Int) (rt_ixor o (-1)) = 0
            · rw [if_pos y1, q_rofficeOf hD, Option.bind_some]
              by_cases y2 : b ≤ rq_os ρ i
              · rw [if_pos y2]
                refine rq_some.mpr (rq_inl ⟨rfl, ?_, rfl⟩)
                unfold rq_pw1; rw [if_neg (fun z => by omega)]
              · rw [if_neg y2, q_gfr, Option.bind_some, q_a8 (k := 254) _ 12 (pt_248_14 hs2) kd_254 ln_254 (by omega), Option.bind_some, (hD.2.2.2.1 w ha.2).2.1, rq_iadd (by omega) (by omega)]
                by_cases y3 : rq_os ρ i + ρ.1 2 w < b
                · rw [if_pos y3]
                  refine rq_some.mpr (rq_inl ⟨rfl, ?_, rfl⟩)
                  unfold rq_pw1; rw [if_neg (fun z => by omega)]
                · rw [if_neg y3]
                  refine rq_some.mpr (rq_inl ⟨rfl, ?_, rfl⟩)
                  show _ = _ + rq_pw1 ρ w b o i
                  unfold rq_pw1; rw [if_pos ⟨y1, by omega, by omega⟩]
            · rw [if_neg y1]
              refine rq_some.mpr (rq_inl ⟨rfl, ?_, rfl⟩)
              unfold rq_pw1; rw [if_neg (fun z => y1 z.1)]; simp
          · rintro ⟨x, y, mm⟩ ⟨e1, e2, e3⟩
            dsimp only at e1 e2 e3
            subst e1 e2 e3
            unfold b_X12_power_54
            dsimp only
            rw [if_pos (by omega)]
            exact rq_some.mpr (rq_inre ⟨rfl, rfl⟩)
          · rintro ⟨x, mm⟩ ⟨e1, e3⟩
            dsimp only at e1 e3
            subst e1 e3
            exact rq_some.mpr ⟨rfl, f2⟩
      · rw [q_withinF hq, Option.bind_some, if_pos rfl, if_neg (fun z => hq z.2.1)]
        exact rq_some.mpr ⟨rfl, f2⟩
    · rw [q_riwF hD ha, Option.bind_some, if_pos rfl, if_neg (fun z => ha z.1)]
      exact rq_some.mpr ⟨rfl, f2⟩
/-- keeps -/
def rq_vkeep (ρ : rq_R) (A : rq_A) (a : Int) : Int := if (0 ≤ a ∧ a < ρ.1 0 0) ∧ A.1 (1 + a.toNat) ≠ -1 then (let v := rq_fst (fun i => (rq_fi ρ a.toNat (A.1 (1 + a.toNat)).toNat ((A.1 0).toNat + (i + 1)) == 0)) 40; if v = -1 then -1 else v + 1) else -1
theorem L_keeps (hI : rq_I c m) (hc : c < 800000) (a : Int) : rq (f_X11_keeps 41 a m) (fun p => rq (f_X12_keeps 248 a p.2) (fun q => q.1 = p.1 ∧ rq_I (c + 1) q.2)) := by
  obtain ⟨r, ρ, A, h⟩ := hI
  have hb := h.1.2.2.1.1
  have hsv := h.2.2.2.2.2.1.1.2.2
  have h0 := q_sea0 h
  have hcc := h.2.2.2.2.2.2.1
  refine rq_pair (v := rq_vkeep ρ A a) (o2 := f_X12_keeps 248 a) h ?_ (fun m1 h1 => ?_)
  · have hC := h.1
    have hs := hC.1
    have hS := q_Sc h
    unfold f_X11_keeps rq_vkeep
    simp only [q_told h, Option.bind_some, q_gd4 hC]
    by_cases ha : 0 ≤ a ∧ a < ρ.1 0 0
    · obtain ⟨w, rfl⟩ := Int.eq_ofNat_of_zero_le ha.1
      rw [q_isWigT hC ha.1 ha.2, Option.bind_some, if_neg (by decide)]
      simp only [q_now hs, q_nst hs, Option.bind_some, q_gd7 q_b49, q_headUnder hs hS (show w < 6 by omega), Int.toNat_natCast]
      unfold j_X11_keeps_26
      by_cases z : A.1 (1 + w) = -1
      · rw [if_pos z, if_neg (fun y => y.2 z)]
        exact rq_some.mpr ⟨rfl, rq_fr.rfl⟩
      · rw [if_neg z, if_pos ⟨ha, z⟩]
        have hw := (hsv w (by omega)).1
        obtain ⟨k, hk⟩ := Int.eq_ofNat_of_zero_le (show 0 ≤ A.1 (1 + w) by omega)
        have ek : (A.1 (1 + w)).toNat = k := by omega
        rw [ek]
        refine rq_call (rq_up (Q := fun e => match e with
            | .inl x => rq_fst (fun i => (rq_fi ρ w k ((A.1 0).toNat + (i + 1)) == 0)) 40 = -1 ∧ rq_fr rq_wE m x
            | .inr t => t.1 - 1 = rq_fst (fun i => (rq_fi ρ w k ((A.1 0).toNat + (i + 1)) == 0)) 40 ∧ rq_fr rq_wE m t.2 ∧ 0 ≤ t.1 - 1) (fun i s => s.1 = ((i + 1 : Nat) : Int) ∧ rq_fr rq_wE m s.2 ∧ ∀ j, j < i → (rq_fi ρ w k ((A.1 0).toNat + (j + 1)) == 0) = false) 40 (by decide) ?_ ?_ ⟨rfl, rq_fr.rfl, fun j hj => absurd hj (Nat.not_lt_zero _)⟩) ?_
        · rintro i ⟨x, mm⟩ hi ⟨e1, hf, hj⟩
          dsimp only at e1 hf hj
          subst e1
          have hJ := rq_J_fr h (rq_frE hf) (Nat.le_refl c)
          have hC1 := hJ.1
          unfold b_X11_keeps_36
          simp only [q_told hJ, q_now hC1.1, q_nst hC1.1, q_sea hJ, Option.bind_some, q_gd4 hC1]
          rw [if_neg (by omega), rq_iadd (by omega) (by omega), rq_iadd (by omega) (by omega)]
          have hg := q_isFit hC1 (w := w) (k := k) (t := (A.1 0).toNat + (i + 1)) ha.2 (by rw [← hk]; exact hw.2.1) (by omega)
          rw [show (((A.1 0).toNat + (i + 1) : Nat) : Int) = A.1 0 + ((i + 1 : Nat) : Int) by omega, ← hk] at hg
          refine rq_call hg ?_
          rintro ⟨y, m1⟩ ⟨rfl, hf1⟩
          dsimp only
          by_cases q : rq_fi ρ w k ((A.1 0).toNat + (i + 1)) = 0
          · rw [if_pos q]
            refine rq_some.mpr (rq_inr ⟨?_, hf.trans hf1, by omega⟩)
            rw [rq_fst_some hi (by simp [q]) hj]; omega
          · rw [if_neg q]
            refine rq_some.mpr (rq_inl ⟨by omega, hf.trans hf1, fun j hj2 => ?_⟩)
            by_cases y1 : j = i
            · subst y1; simp [q]
            · exact hj j (by omega)
        · rintro ⟨x, mm⟩ ⟨e1, hf, hj⟩
          dsimp only at e1 hf hj
          subst e1
          unfold b_X11_keeps_36
          dsimp only
          rw [if_pos (by omega)]
          exact rq_some.mpr (rq_inre ⟨rq_fst_none hj, hf⟩)
        · rintro (x | t) q
          · dsimp only at q ⊢
            rw [q.1, if_pos rfl]
            exact rq_some.mpr ⟨rfl, rq_frE q.2⟩
          · dsimp only at q ⊢
            rw [← q.1, if_neg (by omega)]
            exact rq_some.mpr ⟨by omega, rq_frE q.2.1⟩
    · rw [q_isWigF hC ha, Option.bind_some, if_pos rfl, if_neg (fun z => ha z.1)]
      exact rq_some.mpr ⟨rfl, rq_fr.rfl⟩
  · obtain ⟨m2, e2, h2, f2⟩ := q_thr h1 0
    have hD := h2.2.1
    have hs2 := hD.1
    have hS2 := q_Sr h2
    unfold f_X12_keeps rq_vkeep j_X12_keeps_24
    rw [e2, Option.bind_some]
    by_cases ha : 0 ≤ a ∧ a < ρ.1 0 0
    · obtain ⟨w, rfl⟩ := Int.eq_ofNat_of_zero_le ha.1
      have hw := (hsv w (by omega)).1
      rw [q_riwT hD ha.1 ha.2, Option.bind_some, if_neg (by decide), q_gfr, Option.bind_some, q_ron hs2 hS2 (by omega), Option.bind_some]
      simp only [Int.toNat_natCast]
      by_cases z : A.1 (1 + w) = -1
      · rw [if_neg (by omega), if_neg (fun y => y.2 z)]
        exact rq_some.mpr ⟨rfl, f2⟩
      · rw [if_pos (by omega), if_pos ⟨ha, z⟩]
        obtain ⟨k, hk⟩ := Int.eq_ofNat_of_zero_le (show 0 ≤ A.1 (1 + w) by omega)
        have ek : (A.1 (1 + w)).toNat = k := by omega
        rw [ek]
        refine rq_call (rq_up (Q := fun e => match e with
            | .inl x => rq_fst (fun i => (rq_fi ρ w k ((A.1 0).toNat + (i + 1)) == 0)) 40 = -1 ∧ rq_fr rq_wF m2 x
            | .inr t => t.1 - 1 = rq_fst (fun i => (rq_fi ρ w k ((A.1 0).toNat + (i + 1)) == 0)) 40 ∧ rq_fr rq_wF m2 t.2 ∧ 0 ≤ t.1 - 1) (fun i s => s.1 = ((i + 1 : Nat) : Int) ∧ rq_fr rq_wF m2 s.2 ∧ ∀ j, j < i → (rq_fi ρ w k ((A.1 0).toNat + (j + 1)) == 0) = false) 40 (by decide) ?_ ?_ ⟨rfl, rq_fr.rfl, fun j hj => absurd hj (Nat.not_lt_zero _)⟩) ?_
        · rintro i ⟨x, mm⟩ hi ⟨e1, hf, hj⟩
          dsimp only at e1 hf hj
          subst e1
          have hJ := rq_J_fr h2 (rq_frF hf) (Nat.le_refl c)
          have hD1 := hJ.2.1
          unfold b_X12_keeps_28
          simp only [q_gfr, Option.bind_some, q_ron hD1.1 (q_Sr hJ) (show w < 6 by omega), q_rs0 hD1.1 (q_Sr hJ) 0 rfl]
          rw [if_neg (by omega), rq_iadd (by omega) (by omega), rq_iadd (by omega) (by omega)]
          have hg := q_fitsIn hD1 (w := w) (k := k) (t := (A.1 0).toNat + (i + 1)) ha.2 (by rw [← hk]; exact hw.2.1) (by omega)
          rw [show (((A.1 0).toNat + (i + 1) : Nat) : Int) = A.1 0 + ((i + 1 : Nat) : Int) by omega, ← hk] at hg
          refine rq_call hg ?_
          rintro ⟨y, m1⟩ ⟨rfl, hf1⟩
          dsimp only
          by_cases q : rq_fi ρ w k ((A.1 0).toNat + (i + 1)) = 0
          · rw [if_pos q]
            refine rq_some.mpr (rq_inr ⟨?_, hf.trans hf1, by omega⟩)
            rw [rq_fst_some hi (by simp [q]) hj]; omega
          · rw [if_neg q]
            refine rq_some.mpr (rq_inl ⟨by omega, hf.trans hf1, fun j hj2 => ?_⟩)
            by_cases y1 : j = i
            · subst y1; simp [q]
            · exact hj j (by omega)
        · rintro ⟨x, mm⟩ ⟨e1, hf, hj⟩
          dsimp only at e1 hf hj
          subst e1
          unfold b_X12_keeps_28
          dsimp only
          rw [if_pos (by omega)]
          exact rq_some.mpr (rq_inre ⟨rq_fst_none hj, hf⟩)
        · rintro (x | t) q
          · dsimp only at q ⊢
            rw [q.1, if_pos rfl]
            exact rq_some.mpr ⟨rfl, f2.trans (rq_frF q.2)⟩
          · dsimp only at q ⊢
            rw [← q.1, if_neg (by omega)]
            exact rq_some.mpr ⟨by omega, f2.trans (rq_frF q.2.1)⟩
    · rw [q_riwF hD ha, Option.bind_some, if_pos rfl, if_neg (fun z => ha z.1)]
      exact rq_some.mpr ⟨rfl, f2⟩
end
