/-! Layer 3: centuries, pieces -/
theorem rq_ldiv {x y : Int} (h0 : 0 ≤ x) (h1 : x < 9223372036854775808) (h2 : 0 < y) (h3 : y < 9223372036854775808) : rt_ldiv x y = x / y := by
  unfold rt_ldiv
  rw [Int64.toInt_div, Int64.toInt_ofInt, Int64.toInt_ofInt]
  show ((x.bmod 18446744073709551616).tdiv (y.bmod 18446744073709551616)).bmod 18446744073709551616 = _
  rw [rq_bl (by omega) h1, rq_bl (by omega) h3, Int.tdiv_eq_ediv_of_nonneg h0]
  have a := Int.ediv_nonneg h0 (Int.le_of_lt h2)
  have b := Int.ediv_le_self y h0
  exact rq_bl (by omega) (by omega)
theorem rq_lrem {x y : Int} (h0 : 0 ≤ x) (h1 : x < 9223372036854775808) (h2 : 0 < y) (h3 : y < 9223372036854775808) : rt_lrem x y = x % y := by
  unfold rt_lrem
  rw [Int64.toInt_sub, Int64.toInt_mul, Int64.toInt_div, Int64.toInt_ofInt, Int64.toInt_ofInt]
  show (x.bmod 18446744073709551616 - (((x.bmod 18446744073709551616).tdiv (y.bmod 18446744073709551616)).bmod 18446744073709551616 * y.bmod 18446744073709551616).bmod 18446744073709551616).bmod 18446744073709551616 = _
  rw [rq_bl (x := x) (by omega) h1, rq_bl (x := y) (by omega) h3, Int.tdiv_eq_ediv_of_nonneg h0]
  have a := Int.ediv_nonneg h0 (Int.le_of_lt h2)
  have b := Int.ediv_le_self y h0
  rw [rq_bl (x := x / y) (by omega) (by omega)]
  have c : x % y = x - x / y * y := by have := Int.emod_add_mul_ediv x y; rw [Int.mul_comm] at this; omega
  have d := Int.emod_nonneg x (show y ≠ 0 by omega)
  have e := Int.emod_lt_of_pos x h2
  have f : 0 ≤ x / y * y := Int.mul_nonneg a (Int.le_of_lt h2)
  rw [rq_bl (x := x / y * y) (by omega) (by omega), ← c]
  exact rq_bl (by omega) (by omega)
theorem rq_l2i {x : Int} (h1 : -2147483648 ≤ x) (h2 : x < 2147483648) : rt_l2i x = x := by
  unfold rt_l2i
  rw [Int64.toInt_toInt32, Int64.toInt_ofInt]
  show (x.bmod 18446744073709551616).bmod 4294967296 = x
  rw [rq_bl (by omega) (by omega), rq_bm h1 h2]
def rq_dx (d : Int) : Int := (d * 1103515245 + 12345) % 2147483648
def rq_dw (d b : Int) : Int := rq_dx d / 65536 % b
theorem rq_dx_b (d : Int) : 0 ≤ rq_dx d ∧ rq_dx d < 2147483648 := by unfold rq_dx; omega
theorem rq_dw_b (d : Int) {b : Int} (h : 0 < b) : 0 ≤ rq_dw d b ∧ rq_dw d b < b := ⟨Int.emod_nonneg _ (by omega), Int.emod_lt_of_pos _ h⟩
theorem q_nxv {d : Int} (h0 : 0 ≤ d) (h1 : d < 2147483648) : rt_lrem (rt_ladd (rt_lmul d 1103515245) 12345) 2147483648 = rq_dx d := by
  rw [rq_lmul (by omega) (by omega), rq_ladd (by omega) (by omega), rq_lrem (by omega) (by omega) (by decide) (by decide)]; rfl
theorem q_dwv (d : Int) {b : Int} (h : 0 < b) (h2 : b < 1000) : rt_l2i (rt_lrem (rt_ldiv (rq_dx d) 65536) b) = rq_dw d b := by
  have a := rq_dx_b d
  have e := rq_dw_b d h
  rw [rq_ldiv a.1 (by omega) (by decide) (by decide), rq_lrem (by omega) (by omega) h (by omega)]
  show rt_l2i (rq_dw d b) = _
  exact rq_l2i (by omega) (by omega)
section
variable {r : Nat} {ρ : rq_R} {A : rq_A} {c : Nat} {m : rt_M} {S : rq_S} {d : Int}
theorem q_draw (hd : m 41 13 = d) (h0 : 0 ≤ d) (h1 : d < 2147483648) {b : Int} (hb : 0 < b) (hb2 : b < 1000) : f_X11_draw 41 b m = some (rq_dw d b, rt_up m 41 13 (rq_dx d)) := by
  unfold f_X11_draw j_X11_draw_40
  rw [q_g11, Option.bind_some, hd, q_nxv h0 h1, q_p11, Option.bind_some, if_neg (by omega), q_g11, Option.bind_some, show rt_up m 41 13 (rq_dx d) 41 13 = rq_dx d by rw [q_up, if_pos ⟨rfl, rfl⟩], if_neg (by omega), q_dwv d hb hb2]
theorem q_draws (hd : m 248 71 = d) (h0 : 0 ≤ d) (h1 : d < 2147483648) {b : Int} (hb : 0 < b) (hb2 : b < 1000) : f_X12_draws 248 b m = some (rq_dw d b, rt_up m 248 71 (rq_dx d)) := by
  unfold f_X12_draws
  rw [q_gfr, Option.bind_some, hd, q_nxv h0 h1, q_pfr, Option.bind_some, q_gfr, Option.bind_some, show rt_up m 248 71 (rq_dx d) 248 71 = rq_dx d by rw [q_up, if_pos ⟨rfl, rfl⟩], if_neg (by omega), q_dwv d hb hb2]
/-- a fever's end -/
def rq_fh (ρ : rq_R) (S : rq_S) : Int := rq_fst (fun h => !(rq_wo S (h : Int) == -1)) (ρ.1 0 1).toNat
def rq_fv (ρ : rq_R) (S : rq_S) : rq_S := if rq_fh ρ S = -1 then S else rq_at S (1 + (rq_wo S (rq_fh ρ S)).toNat) (-1)
theorem rq_fh_no (h : ∀ j : Nat, (j : Int) < ρ.1 0 1 → rq_wo S j = -1) : rq_fh ρ S = -1 := rq_fst_none (fun j hj => by rw [h j (by omega)]; rfl)
theorem rq_fh_at {i : Nat} (hi : (i : Int) < ρ.1 0 1) (h : ∀ j, j < i → rq_wo S ((j : Nat) : Int) = -1) (hw : rq_wo S i ≠ -1) : rq_fh ρ S = i := rq_fst_some (by omega) (by simpa using hw) (fun j hj => by rw [h j hj]; rfl)
theorem rq_wo_b (S : rq_S) (h : Int) : -1 ≤ rq_wo S h ∧ rq_wo S h < 6 ∧ (rq_wo S h ≠ -1 → S (1 + (rq_wo S h).toNat) = h) := by
  unfold rq_wo
  rcases rq_fst_cases (fun w => S (1 + w) == h) 6 with ⟨i, hi, e, p, -⟩ | ⟨e, -⟩
  · rw [e]
    refine ⟨by omega, by omega, fun _ => ?_⟩
    rw [Int.toNat_natCast]
    exact eq_of_beq p
  · rw [e]; exact ⟨by decide, by decide, fun q => absurd rfl q⟩
theorem rq_wo_w (hv : rq_vs ρ S) {h : Nat} (hw : rq_wo S h ≠ -1) : (((rq_wo S h).toNat : Nat) : Int) < ρ.1 0 0 := by
  obtain ⟨a, b, e⟩ := rq_wo_b S h
  have e := e hw
  have := (hv.2.2 (rq_wo S h).toNat (by omega)).2
  by_cases z : (((rq_wo S h).toNat : Nat) : Int) < ρ.1 0 0
  · exact z
  · have := (this z).1
    omega
theorem rq_fv_v (hb : 0 ≤ ρ.1 0 1) (hv : rq_vs ρ S) : rq_vs ρ (rq_fv ρ S) ∧ rq_fv ρ S 0 = S 0 := by
  unfold rq_fv
  by_cases z : rq_fh ρ S = -1
  · rw [if_pos z]; exact ⟨hv, rfl⟩
  · rw [if_neg z]
    rcases rq_fst_cases (fun h => !(rq_wo S ((h : Nat) : Int) == -1)) (ρ.1 0 1).toNat with ⟨i, hi, e, p, -⟩ | ⟨e, -⟩
    · have e : rq_fh ρ S = i := e
      have p : rq_wo S i ≠ -1 := by simpa using p
      rw [e]
      have w := rq_wo_w hv p
      have b := rq_wo_b S i
      refine ⟨rq_vs_at1 hv w (by omega) (by decide) (by omega), ?_⟩
      unfold rq_at
      rw [if_neg (by omega)]
    · exact absurd e z
theorem q_dfever (h : rq_J r ρ A c m) (sc : rq_sc 115 S m) (hv : rq_vs ρ S) (hd : m 41 13 = d) (h0 : 0 ≤ d) (h1 : d < 2147483648) : rq (f_X11_drawFever 41 m) (fun m1 => m1 41 13 = rq_dx d ∧ rq_sc 115 (if rq_dw d 5 = 0 then rq_fv ρ S else S) m1 ∧ rq_fr rq_WQ m m1) := by
  have hb := h.1.2.2.1.1
  unfold f_X11_drawFever
  rw [q_draw hd h0 h1 (by decide) (by decide), Option.bind_some]
  dsimp only
  have f1 : rq_fr rq_WQ m (rt_up m 41 13 (rq_dx d)) := rq_fr.rfl.up (by decide)
  have e1 : rt_up m 41 13 (rq_dx d) 41 13 = rq_dx d := by rw [q_up, if_pos ⟨rfl, rfl⟩]
  have sc1 : rq_sc 115 S (rt_up m 41 13 (rq_dx d)) := rq_sc_fr sc (by rw [q_up, if_neg (by omega)]) (fun w _ => by rw [q_up, if_neg (by omega)]) (fun w _ => by rw [q_up, if_neg (by omega)])
  generalize rt_up m 41 13 (rq_dx d) = m1 at f1 e1 sc1 ⊢
  have hJ1 := rq_J_fr h f1 (Nat.le_refl c)
  have hC1 := hJ1.1
  have hs1 := hC1.1
  have hS1 : rq_Sc 115 ρ S m1 := ⟨q_b115, sc1, hv⟩
  by_cases z : rq_dw d 5 = 0
  · rw [if_pos z, if_pos z]
    refine rq_call (rq_up (Q := fun e => ∃ m', (e = .inl m' ∨ e = .inr m') ∧ rq_sc 115 (rq_fv ρ S) m' ∧ rq_fr (rq_wS 115) m1 m') (fun i s => s.1 = (i : Int) ∧ s.2 = m1 ∧ ∀ j, j < i → rq_wo S ((j : Nat) : Int) = -1) (ρ.1 0 1).toNat (by omega) ?_ ?_ (by exact ⟨rfl, rfl, fun j hj => absurd hj (Nat.not_lt_zero _)⟩)) ?_
    · rintro i ⟨x, mm⟩ hi ⟨a1, a2, a3⟩
      dsimp only at a1 a2
      subst a1 a2
      unfold b_X11_drawFever_11
      simp only [q_told hJ1, Option.bind_some, q_gf4 hC1, hC1.2.2.2.1.2.1, q_tri hs1, q_gd7 q_b115, q_wigUpon hs1 hS1]
      rw [if_neg (by omega)]
      by_cases y : rq_wo S (i : Int) = -1
      · rw [if_pos y, rq_n1 (by omega)]
        refine rq_some.mpr (rq_inl ⟨rfl, rfl, fun j hj => ?_⟩)
        by_cases k : j = i
        · rw [k]; exact y
        · exact a3 j (by omega)
      · have b := rq_wo_b S i
        obtain ⟨w, hw⟩ := Int.eq_ofNat_of_zero_le (show 0 ≤ rq_wo S i by omega)
        have e : rq_fv ρ S = rq_at S (1 + w) (-1) := by
          unfold rq_fv
          rw [rq_fh_at (by omega) a3 y, if_neg (by omega), hw, Int.toNat_natCast]
        rw [if_neg y, hw]
        refine rq_map.mpr (rq_call (q_place hs1 hS1 (w := w) (by omega) (-1)) ?_)
        rintro m2 ⟨p1, p2⟩
        exact rq_some.mpr (rq_inr ⟨m2, Or.inr rfl, by rw [e]; exact p1, p2⟩)
    · rintro ⟨x, mm⟩ ⟨a1, a2, a3⟩
      dsimp only at a1 a2
      subst a1 a2
      unfold b_X11_drawFever_11
      simp only [q_told hJ1, Option.bind_some, q_gf4 hC1, hC1.2.2.2.1.2.1]
      rw [if_pos (by omega)]
      refine rq_some.mpr (rq_inre ⟨mm, Or.inl rfl, ?_, rq_fr.rfl⟩)
      have : rq_fh ρ S = -1 := rq_fh_no (fun j hj => a3 j (by omega))
      unfold rq_fv
      rw [if_pos this]; exact sc1
    · rintro e ⟨m', e', s', f'⟩
      have f2 : rq_fr rq_WQ m1 m' := f'.mono (fun _ _ => rq_WQ_115)
      have g : m' 41 13 = rq_dx d := by rw [f' 41 13 rfl, e1]
      rcases e' with rfl | rfl
      · exact rq_some.mpr ⟨g, s', f1.trans f2⟩
      · exact rq_some.mpr ⟨g, s', f1.trans f2⟩
  · rw [if_neg z, if_neg z]
    exact rq_some.mpr ⟨e1, sc1, f1⟩
def rq_p1 (ρ : rq_R) (d : Int) (S : rq_S) : Int × rq_S := if 0 < ρ.1 0 0 ∧ 0 < ρ.1 0 1 then (rq_dx (rq_dx d), if rq_cp ρ S (rq_dw d (ρ.1 0 0)).toNat (rq_dw (rq_dx d) (ρ.1 0 1)).toNat = 0 then S else rq_at S (1 + (rq_dw d (ρ.1 0 0)).toNat) (rq_dw (rq_dx d) (ρ.1 0 1))) else (d, S)
theorem rq_p1_v (hv : rq_va ρ) (h : rq_vs ρ S) (h0 : 0 ≤ d) (h1 : d < 2147483648) : rq_vs ρ (rq_p1 ρ d S).2 ∧ (rq_p1 ρ d S).2 0 = S 0 ∧ 0 ≤ (rq_p1 ρ d S).1 ∧ (rq_p1 ρ d S).1 < 2147483648 := by
  have hb := hv.1
  unfold rq_p1
  by_cases z : 0 < ρ.1 0 0 ∧ 0 < ρ.1 0 1
  · rw [if_pos z]
    have n := rq_dx_b (rq_dx d)
    have w := rq_dw_b d z.1
    have k := rq_dw_b (rq_dx d) z.2
    refine ⟨?_, ?_, n.1, n.2⟩
    · show rq_vs ρ (if _ then _ else _)
      split
      · exact h
      · exact rq_vs_at1 h (by omega) (by omega) (by omega) k.2
    · show (if _ then _ else _ : rq_S) 0 = _
      split
      · rfl
      · show (if 0 = 1 + (rq_dw d (ρ.1 0 0)).toNat then _ else S 0) = S 0
        rw [if_neg (by omega)]
  · rw [if_neg z]; exact ⟨h, rfl, h0, h1⟩
theorem q_dput (h : rq_J r ρ A c m) (sc : rq_sc 115 S m) (hv : rq_vs ρ S) (hd : m 41 13 = d) (h0 : 0 ≤ d) (h1 : d < 2147483648) : rq (f_X11_drawPut 41 m) (fun m1 => m1 41 13 = (rq_p1 ρ d S).1 ∧ rq_sc 115 (rq_p1 ρ d S).2 m1 ∧ rq_fr rq_WQ m m1) := by
  have hb := h.1.2.2.1.1
  have hC := h.1
  unfold f_X11_drawPut j_X11_drawPut_69 rq_p1
  simp only [q_told h, Option.bind_some, q_gf4 hC, hC.2.2.2.1.1, hC.2.2.2.1.2.1]
  by_cases z1 : ρ.1 0 0 ≤ 0
  · rw [if_pos z1, if_neg (by omega)]; exact rq_some.mpr ⟨hd, sc, rq_fr.rfl⟩
  · rw [if_neg z1]
    by_cases z2 : ρ.1 0 1 ≤ 0
    · rw [if_pos z2, if_neg (by omega)]; exact rq_some.mpr ⟨hd, sc, rq_fr.rfl⟩
    · rw [if_neg z2, if_pos ⟨by omega, by omega⟩, q_draw hd h0 h1 (by omega) (by omega), Option.bind_some]
      dsimp only
      have f1 : rq_fr rq_WQ m (rt_up m 41 13 (rq_dx d)) := rq_fr.rfl.up (by decide)
      have e1 : rt_up m 41 13 (rq_dx d) 41 13 = rq_dx d := by rw [q_up, if_pos ⟨rfl, rfl⟩]
      have sc1 : rq_sc 115 S (rt_up m 41 13 (rq_dx d)) := rq_sc_fr sc (by rw [q_up, if_neg (by omega)]) (fun w _ => by rw [q_up, if_neg (by omega)]) (fun w _ => by rw [q_up, if_neg (by omega)])
      generalize rt_up m 41 13 (rq_dx d) = m1 at f1 e1 sc1 ⊢
      have hJ1 := rq_J_fr h f1 (Nat.le_refl c)
      have n1 := rq_dx_b d
      rw [q_told hJ1, Option.bind_some, q_gf4 hJ1.1, hJ1.1.2.2.2.1.2.1, Option.bind_some, q_draw e1 n1.1 n1.2 (by omega) (by omega), Option.bind_some]
      dsimp only
      have f2 : rq_fr rq_WQ m (rt_up m1 41 13 (rq_dx (rq_dx d))) := f1.up (by decide)
      have e2 : rt_up m1 41 13 (rq_dx (rq_dx d)) 41 13 = rq_dx (rq_dx d) := by rw [q_up, if_pos ⟨rfl, rfl⟩]
      have sc2 : rq_sc 115 S (rt_up m1 41 13 (rq_dx (rq_dx d))) := rq_sc_fr sc1 (by rw [q_up, if_neg (by omega)]) (fun w _ => by rw [q_up, if_neg (by omega)]) (fun w _ => by rw [q_up, if_neg (by omega)])
      generalize rt_up m1 41 13 (rq_dx (rq_dx d)) = m2 at f2 e2 sc2 ⊢
      have hJ2 := rq_J_fr h f2 (Nat.le_refl c)
      have w := rq_dw_b d (show 0 < ρ.1 0 0 by omega)
      have k := rq_dw_b (rq_dx d) (show 0 < ρ.1 0 1 by omega)
      obtain ⟨w', hw⟩ := Int.eq_ofNat_of_zero_le w.1
      obtain ⟨k', hk⟩ := Int.eq_ofNat_of_zero_le k.1
      rw [hw] at w
      rw [hk] at k
      rw [hw, hk, Int.toNat_natCast, Int.toNat_natCast, q_tri hJ2.1.1, Option.bind_some, q_told hJ2, Option.bind_some, q_gd7 q_b115]
      refine rq_call (q_canPut hJ2.1 ⟨q_b115, sc2, hv⟩ w.2 k.2) ?_
      rintro ⟨x, m3⟩ ⟨e, hf⟩
      dsimp only at e hf ⊢
      subst e
      have f3 := rq_frE hf
      have sc3 : rq_sc 115 S m3 := rq_sc_fr sc2 (hf _ _ rfl) (fun w _ => hf _ _ rfl) (fun w _ => hf _ _ rfl)
      have hJ3 := rq_J_fr hJ2 f3 (Nat.le_refl c)
      by_cases z : rq_cp ρ S w' k' = 0
      · rw [if_pos z, if_pos z]
        exact rq_some.mpr ⟨by rw [hf 41 13 rfl, e2], sc3, f2.trans f3⟩
      · rw [if_neg z, if_neg z, q_tri hJ3.1.1, Option.bind_some, q_gd7 q_b115]
        refine rq_call (q_place hJ3.1.1 (ρ := ρ) ⟨q_b115, sc3, hv⟩ (w := w') (by omega) (k' : Int)) ?_
        rintro m4 ⟨p1, p2⟩
        exact rq_some.mpr ⟨by rw [p2 41 13 rfl, hf 41 13 rfl, e2], p1, (f2.trans f3).trans (p2.mono (fun _ _ => rq_WQ_115))⟩
end
