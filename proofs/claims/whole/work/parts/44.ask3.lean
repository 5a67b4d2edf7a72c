/-! Layer 3: questions: baths, leans, next -/
section
variable {r : Nat} {ρ : rq_R} {A : rq_A} {c : Nat} {m : rt_M}
theorem rq_ineg {x : Int} (h1 : -2147483647 ≤ x) (h2 : x < 2147483648) : rt_ineg x = -x := by
  unfold rt_ineg
  rw [Int32.toInt_neg, Int32.toInt_ofInt]
  show (-(x.bmod 4294967296)).bmod 4294967296 = _
  rw [rq_bm (x := x) (by omega) h2]
  exact rq_bm (by omega) (by omega)
def rq_bth (ρ : rq_R) (w k t : Nat) : Int := if rq_ti ρ w k t < 0 then -(rq_ti ρ w k t) else if 0 < rq_ti ρ w k t - ρ.1 0 2 then rq_ti ρ w k t - ρ.1 0 2 else 0
def rq_vbath (ρ : rq_R) (A : rq_A) (a b n : Int) : Int := if (0 ≤ a ∧ a < ρ.1 0 1) ∧ (0 ≤ b ∧ b < ρ.1 0 0) ∧ 1 ≤ n ∧ n ≤ 40 then rq_sum (fun i => rq_bth ρ b.toNat a.toNat ((A.1 0).toNat + i)) n.toNat else -1
theorem L_baths (hI : rq_I c m) (hc : c < 800000) (a b n : Int) : rq (f_X11_baths 41 a b n m) (fun p => rq (f_X12_baths 248 a b n p.2) (fun q => q.1 = p.1 ∧ rq_I (c + 1) q.2)) := by
  obtain ⟨r, ρ, A, h⟩ := hI
  have hv := h.1.2.2.1
  have hb := hv.1
  have h0 := q_sea0 h
  have hcc := h.2.2.2.2.2.2.1
  have bb : ∀ (w k : Nat), (w : Int) < ρ.1 0 0 → (k : Int) < ρ.1 0 1 → ∀ n, n ≤ 40 → 0 ≤ rq_sum (fun i => rq_bth ρ w k ((A.1 0).toNat + i)) n ∧ rq_sum (fun i => rq_bth ρ w k ((A.1 0).toNat + i)) n ≤ 1000100 * n := by
    intro w k hw hk n hn
    refine rq_sum_b (by decide) n (fun i hi => ?_)
    have g := rq_gi_b hv hk (show (A.1 0).toNat + i < 1000000 by omega)
    have v := hv.2.1 w hw
    unfold rq_bth rq_ti
    split
    · omega
    · split <;> omega
  refine rq_pair (v := rq_vbath ρ A a b n) (o2 := f_X12_baths 248 a b n) h ?_ (fun m1 h1 => ?_)
  · have hC := h.1
    unfold f_X11_baths rq_vbath j_X11_baths_33
    simp only [q_told h, Option.bind_some, q_gd4 hC]
    by_cases ha : 0 ≤ a ∧ a < ρ.1 0 1
    · rw [q_isHeadT hC ha.1 ha.2, Option.bind_some, if_neg (by decide)]
      by_cases hw : 0 ≤ b ∧ b < ρ.1 0 0
      · rw [q_isWigT hC hw.1 hw.2, Option.bind_some, if_neg (by decide)]
        by_cases hn : 1 ≤ n ∧ n ≤ 40
        · obtain ⟨k, rfl⟩ := Int.eq_ofNat_of_zero_le ha.1
          obtain ⟨w, rfl⟩ := Int.eq_ofNat_of_zero_le hw.1
          obtain ⟨u, rfl⟩ := Int.eq_ofNat_of_zero_le (show 0 ≤ n by omega)
          rw [if_neg (by omega), if_pos hn.2, if_pos ⟨ha, hw, hn⟩]
          simp only [Int.toNat_natCast]
          refine rq_call (rq_up (Q := fun e => e.1 = rq_sum (fun i => rq_bth ρ w k ((A.1 0).toNat + i)) u ∧ rq_fr rq_wE m e.2) (fun i s => s.2.1 = (i : Int) ∧ s.1 = rq_sum (fun i => rq_bth ρ w k ((A.1 0).toNat + i)) i ∧ rq_fr rq_wE m s.2.2) u (by omega) ?_ ?_ ⟨rfl, rfl, rq_fr.rfl⟩) ?_
          · rintro i ⟨x, y, mm⟩ hi ⟨e1, e2, hf⟩
            dsimp only at e1 e2 hf
            subst e1 e2
            have hJ := rq_J_fr h (rq_frE hf) (Nat.le_refl c)
            have hC1 := hJ.1
            have bi := bb w k hw.2 ha.2 i (by omega)
            have g := rq_gi_b hv ha.2 (show (A.1 0).toNat + i < 1000000 by omega)
            have v := hv.2.1 w hw.2
            unfold b_X11_baths_41
            simp only [q_told hJ, q_now hC1.1, q_nst hC1.1, q_sea hJ, Option.bind_some, q_gd4 hC1, q_sizeOfWig hC1 hw.2]
            rw [if_neg (by omega), rq_iadd (x := A.1 0) (by omega) (by omega)]
            have hg := q_girth hC1 (k := k) (t := (A.1 0).toNat + i) ha.2 (by omega)
            rw [show (((A.1 0).toNat + i : Nat) : Int) = A.1 0 + (i : Int) by omega] at hg
            refine rq_call hg ?_
            rintro ⟨y, m1⟩ ⟨rfl, hf1⟩
            have hJ1 : rq_J r ρ A c m1 := rq_J_fr hJ (rq_frE hf1) (Nat.le_refl c)
            dsimp only
            rw [q_told hJ1]
            simp only [Option.bind_some, q_gf4 hJ1.1, q_max, hJ1.1.2.2.2.1.2.2.1]
            rw [rq_isub (x := ρ.1 1 w) (by omega) (by omega), rq_ineg (by omega) (by omega), rq_isub (by omega) (by omega)]
            have e : (if (0 : Int) < -(ρ.1 1 w - rq_gi ρ k ((A.1 0).toNat + i)) then -(ρ.1 1 w - rq_gi ρ k ((A.1 0).toNat + i)) else 0) + (if (0 : Int) < ρ.1 1 w - rq_gi ρ k ((A.1 0).toNat + i) - ρ.1 0 2 then ρ.1 1 w - rq_gi ρ k ((A.1 0).toNat + i) - ρ.1 0 2 else 0) = rq_bth ρ w k ((A.1 0).toNat + i) := by
              unfold rq_bth rq_ti
              split <;> split <;> (try split) <;> omega
            have eb : 0 ≤ rq_bth ρ w k ((A.1 0).toNat + i) ∧ rq_bth ρ w k ((A.1 0).toNat + i) ≤ 1000100 := by
              unfold rq_bth rq_ti
              split
              · omega
              · split <;> omega
            rw [rq_iadd (x := if (0 : Int) < -(ρ.1 1 w - rq_gi ρ k ((A.1 0).toNat + i)) then -(ρ.1 1 w - rq_gi ρ k ((A.1 0).toNat + i)) else 0) (by rw [e]; omega) (by rw [e]; omega), e, rq_iadd (by omega) (by omega), rq_n1 (by omega)]
            exact rq_some.mpr (rq_inl ⟨rfl, rfl, hf.trans hf1⟩)
          · rintro ⟨x, y, mm⟩ ⟨e1, e2, hf⟩
            dsimp only at e1 e2 hf
            subst e1 e2
            unfold b_X11_baths_41
            dsimp only
            rw [if_pos (by omega)]
            exact rq_some.mpr (rq_inre ⟨rfl, hf⟩)
          · rintro ⟨x, mm⟩ ⟨e, hf⟩
            exact rq_some.mpr ⟨e, rq_frE hf⟩
        · rw [if_neg (show ¬ ((0 ≤ a ∧ a < ρ.1 0 1) ∧ (0 ≤ b ∧ b < ρ.1 0 0) ∧ 1 ≤ n ∧ n ≤ 40) from fun z => hn z.2.2)]
          by_cases z : n < 1
          · rw [if_pos z]; exact rq_some.mpr ⟨rfl, rq_fr.rfl⟩
          · rw [if_neg z, if_neg (by omega)]; exact rq_some.mpr ⟨rfl, rq_fr.rfl⟩
      · rw [q_isWigF hC hw, Option.bind_some, if_pos rfl, if_neg (fun z => hw z.2.1)]; exact rq_some.mpr ⟨rfl, rq_fr.rfl⟩
    · rw [q_isHeadF hC ha, Option.bind_some, if_pos rfl, if_neg (fun z => ha z.1)]; exact rq_some.mpr ⟨rfl, rq_fr.rfl⟩
  · obtain ⟨m2, e2, h2, f2⟩ := q_thr h1 0
    have hD := h2.2.1
    unfold f_X12_baths rq_vbath j_X12_baths_31
    rw [e2, Option.bind_some]
    by_cases ha : 0 ≤ a ∧ a < ρ.1 0 1
    · rw [q_rihT hD ha.1 ha.2, Option.bind_some, if_neg (by decide)]
      by_cases hw : 0 ≤ b ∧ b < ρ.1 0 0
      · rw [q_riwT hD hw.1 hw.2, Option.bind_some, if_neg (by decide)]
        by_cases hn : 1 ≤ n ∧ n ≤ 40
        · obtain ⟨k, rfl⟩ := Int.eq_ofNat_of_zero_le ha.1
          obtain ⟨w, rfl⟩ := Int.eq_ofNat_of_zero_le hw.1
          obtain ⟨u, rfl⟩ := Int.eq_ofNat_of_zero_le (show 0 ≤ n by omega)
          rw [q_withinT hn.1 hn.2, Option.bind_some, if_neg (by decide), if_pos ⟨ha, hw, hn⟩]
          simp only [Int.toNat_natCast]
          refine rq_call (rq_up (Q := fun e => e.1 = rq_sum (fun i => rq_bth ρ w k ((A.1 0).toNat + i)) u ∧ rq_fr rq_wF m2 e.2) (fun i s => s.2.1 = (i : Int) ∧ s.1 = rq_sum (fun i => rq_bth ρ w k ((A.1 0).toNat + i)) i ∧ rq_fr rq_wF m2 s.2.2) u (by omega) ?_ ?_ ⟨rfl, rfl, rq_fr.rfl⟩) ?_
          · rintro i ⟨x, y, mm⟩ hi ⟨e1, e2, hf⟩
            dsimp only at e1 e2 hf
            subst e1 e2
            have hJ := rq_J_fr h2 (rq_frF hf) (Nat.le_refl c)
            have hD1 := hJ.2.1
            have bi := bb w k hw.2 ha.2 i (by omega)
            have bi2 := bb w k hw.2 ha.2 (i + 1) (by omega)
            rw [rq_sum_s] at bi2
            have g := rq_gi_b hv ha.2 (show (A.1 0).toNat + i < 1000000 by omega)
            have v := hv.2.1 w hw.2
            have tb : rq_ti ρ w k ((A.1 0).toNat + i) = ρ.1 1 w - rq_gi ρ k ((A.1 0).toNat + i) := rfl
            unfold b_X12_baths_39 j_X12_baths_88_39
            simp only [q_gfr, Option.bind_some, q_rs0 hD1.1 (q_Sr hJ) 0 rfl]
            rw [if_neg (by omega), rq_iadd (x := A.1 0) (by omega) (by omega)]
            have hg := q_tiltIn hD1 (w := w) (k := k) (t := (A.1 0).toNat + i) hw.2 ha.2 (by omega)
            rw [show (((A.1 0).toNat + i : Nat) : Int) = A.1 0 + (i : Int) by omega] at hg
            refine rq_call hg ?_
            rintro ⟨y, m1⟩ ⟨rfl, hf1⟩
            have hD2 : rq_D ρ m1 := rq_D_wF hD1 hf1
            dsimp only
            rw [rq_n1 (by omega)]
            have e : rq_bth ρ w k ((A.1 0).toNat + i) = if rq_ti ρ w k ((A.1 0).toNat + i) < 0 then -(rq_ti ρ w k ((A.1 0).toNat + i)) else if 0 < rq_ti ρ w k ((A.1 0).toNat + i) - ρ.1 0 2 then rq_ti ρ w k ((A.1 0).toNat + i) - ρ.1 0 2 else 0 := rfl
            by_cases z : 0 ≤ rq_ti ρ w k ((A.1 0).toNat + i)
            · rw [if_neg (by omega)] at e
              rw [if_pos z, q_rn2 hD2 2 rfl, Option.bind_some, q_max, Option.bind_some, rq_isub (by omega) (by omega), ← e, rq_iadd (by omega) (by omega)]
              exact rq_some.mpr (rq_inl ⟨rfl, rfl, hf.trans hf1⟩)
            · rw [if_pos (by omega)] at e
              rw [if_neg z, rq_ineg (by omega) (by omega), ← e, rq_iadd (by omega) (by omega)]
              exact rq_some.mpr (rq_inl ⟨rfl, rfl, hf.trans hf1⟩)
          · rintro ⟨x, y, mm⟩ ⟨e1, e2, hf⟩
            dsimp only at e1 e2 hf
            subst e1 e2
            unfold b_X12_baths_39
            dsimp only
            rw [if_pos (by omega)]
            exact rq_some.mpr (rq_inre ⟨rfl, hf⟩)
          · rintro ⟨x, mm⟩ ⟨e, hf⟩
            exact rq_some.mpr ⟨e, f2.trans (rq_frF hf)⟩
        · rw [q_withinF hn, Option.bind_some, if_pos rfl, if_neg (fun z => hn z.2.2)]; exact rq_some.mpr ⟨rfl, f2⟩
      · rw [q_riwF hD hw, Option.bind_some, if_pos rfl, if_neg (fun z => hw z.2.1)]; exact rq_some.mpr ⟨rfl, f2⟩
    · rw [q_rihF hD ha, Option.bind_some, if_pos rfl, if_neg (fun z => ha z.1)]; exact rq_some.mpr ⟨rfl, f2⟩
/-- a lean by which all said is so -/
def rq_so (ρ : rq_R) (Z : rq_Y) (l : Nat) : Bool := (List.range (Z 0 0).toNat).all (fun i => rq_jf ρ (l : Int) (Z 1 i).toNat (Z 2 i) == Z 3 i)
theorem rq_so_t {Z : rq_Y} {l : Nat} : rq_so ρ Z l = true ↔ ∀ i, i < (Z 0 0).toNat → rq_jf ρ (l : Int) (Z 1 i).toNat (Z 2 i) = Z 3 i := by
  unfold rq_so
  rw [List.all_eq_true]
  constructor
  · intro h i hi
    have := h i (List.mem_range.mpr hi)
    simpa using this
  · intro h i hi
    simpa using h i (List.mem_range.mp hi)
theorem q_isSo (h : rq_J r ρ A c m) {l : Nat} (hl : l ≤ 9) (bits : Int) : rq (rt_it (b_X6_possible_16 ((56 : Nat) : Int) (r : Int) bits (l : Int)) 4000 (1, 0, m)) (fun e => e.1 = (if rq_so ρ A.2.2.1 l = true then 1 else 0) ∧ rq_fr rq_wE m e.2) := by
  have hz := h.2.2.2.2.2.1.2.2.1
  refine rq_up (fun i s => s.2.1 = (i : Int) ∧ rq_fr rq_wE m s.2.2 ∧ ((s.1 = 1 ∧ ∀ j, j < i → rq_jf ρ (l : Int) (A.2.2.1 1 j).toNat (A.2.2.1 2 j) = A.2.2.1 3 j) ∨ (s.1 = 0 ∧ rq_so ρ A.2.2.1 l = false))) (A.2.2.1 0 0).toNat (by have := hz.2.1; omega) ?_ ?_ ⟨rfl, rq_fr.rfl, Or.inl ⟨rfl, fun j hj => absurd hj (Nat.not_lt_zero _)⟩⟩
  · rintro i ⟨x, y, mm⟩ hi ⟨e1, hf, hor⟩
    dsimp only at e1 hf hor
    subst e1
    have hJ := rq_J_fr h (rq_frE hf) (Nat.le_refl c)
    have hC := hJ.1
    have hs := hC.1
    obtain ⟨za, zb⟩ := hJ.2.2.2.1.2.2.1
    obtain ⟨z1, z2, z3⟩ := zb i (by omega)
    have zv := hz.2.2 i (by omega)
    have g6 : ∀ j (m : rt_M), rt_gf 6 j ((56 : Nat) : Int) m = some (m 56 j) := fun j m => rfl
    have hi8 : i < 8 := by have := hz.2.1; omega
    unfold b_X6_possible_16 j_X6_possible_64_16
    simp only [g6, Option.bind_some]
    rw [show mm 56 0 = A.2.2.1 0 0 from za, if_neg (by omega)]
    rcases hor with ⟨rfl, hj⟩ | ⟨rfl, hn⟩
    · rw [if_neg (by decide), pt_56_1 hs, pt_56_2 hs, show (57 : Int) = ((57 : Nat) : Int) from rfl, show (58 : Int) = ((58 : Nat) : Int) from rfl, q_al kd_57 ln_57 hi8, Option.bind_some, q_al kd_58 ln_58 hi8, Option.bind_some, show mm 57 i = A.2.2.1 1 i from z1, show mm 58 i = A.2.2.1 2 i from z2, q_gd4 hC]
      obtain ⟨k, hk⟩ := Int.eq_ofNat_of_zero_le zv.1.1
      have hg := q_isFor hC (lean := (l : Int)) (hard := A.2.2.1 2 i) (k := k) ⟨by omega, by omega⟩ zv.2.1 (by rw [← hk]; exact zv.1.2)
      rw [← hk] at hg
      refine rq_call hg ?_
      rintro ⟨v, m1⟩ ⟨rfl, hf1⟩
      have hJ1 : rq_J r ρ A c m1 := rq_J_fr hJ (rq_frE hf1) (Nat.le_refl c)
      have z3' : m1 59 i = A.2.2.1 3 i := (hJ1.2.2.2.1.2.2.1.2 i (by omega)).2.2
      dsimp only
      rw [pt_56_3 hJ1.1.1, show (59 : Int) = ((59 : Nat) : Int) from rfl, q_al kd_59 ln_59 hi8, Option.bind_some, z3', rq_n1 (by omega)]
      have ek : (A.2.2.1 1 i).toNat = k := by omega
      by_cases q : rq_jf ρ (l : Int) k (A.2.2.1 2 i) = A.2.2.1 3 i
      · rw [if_pos q]
        refine rq_some.mpr (rq_inl ⟨rfl, hf.trans hf1, Or.inl ⟨rfl, fun j hj2 => ?_⟩⟩)
        by_cases y1 : j = i
        · subst y1; rw [ek]; exact q
        · exact hj j (by omega)
      · rw [if_neg q]
        refine rq_some.mpr (rq_inl ⟨rfl, hf.trans hf1, Or.inr ⟨rfl, ?_⟩⟩)
        cases hb : rq_so ρ A.2.2.1 l with
        | false => rfl
        | true => exact absurd (by rw [← ek]; exact rq_so_t.mp hb i hi) q
    · rw [if_pos rfl]
      refine rq_some.mpr (rq_inr ⟨?_, hf⟩)
      rw [hn]; rfl
  · rintro ⟨x, y, mm⟩ ⟨e1, hf, hor⟩
    dsimp only at e1 hf hor
    subst e1
    have hJ := rq_J_fr h (rq_frE hf) (Nat.le_refl c)
    have g6 : ∀ j (m : rt_M), rt_gf 6 j ((56 : Nat) : Int) m = some (m 56 j) := fun j m => rfl
    have z0 := hz.1
    unfold b_X6_possible_16
    simp only [g6, Option.bind_some]
    rw [show mm 56 0 = A.2.2.1 0 0 from hJ.2.2.2.1.2.2.1.1, if_pos (by omega)]
    refine rq_some.mpr (rq_inre ⟨?_, hf⟩)
    rcases hor with ⟨rfl, hj⟩ | ⟨rfl, hn⟩
    · rw [rq_so_t.mpr hj]; rfl
    · rw [hn]; rfl
theorem q_possible (h : rq_J r ρ A c m) : rq (f_X6_possible ((56 : Nat) : Int) (r : Int) m) (fun p => p.1 = ((rq_bn (rq_so ρ A.2.2.1) 10 : Nat) : Int) ∧ rq_fr rq_wE m p.2) := by
  unfold f_X6_possible
  refine rq_call (rq_up (Q := fun e => e.1 = ((rq_bn (rq_so ρ A.2.2.1) 10 : Nat) : Int) ∧ rq_fr rq_wE m e.2) (fun i s => s.2.1 = (i : Int) ∧ s.1 = ((rq_bn (rq_so ρ A.2.2.1) i : Nat) : Int) ∧ rq_fr rq_wE m s.2.2) 10 (by decide) ?_ ?_ ⟨rfl, rfl, rq_fr.rfl⟩) ?_
  · rintro i ⟨x, y, mm⟩ hi ⟨e1, e2, hf⟩
    dsimp only at e1 e2 hf
    subst e1 e2
    have hJ := rq_J_fr h (rq_frE hf) (Nat.le_refl c)
    have hlt := rq_bn_lt (rq_so ρ A.2.2.1) i
    have h64 : 2 ^ i ≤ 2 ^ 9 := Nat.pow_le_pow_right (by decide) (by omega)
    unfold b_X6_possible_4 j_X6_possible_83_4
    dsimp only
    rw [if_neg (by omega)]
    refine rq_call (q_isSo hJ (l := i) (by omega) _) ?_
    rintro ⟨v, m1⟩ ⟨rfl, hf1⟩
    dsimp only
    rw [rq_n1 (by omega), rq_bn_s]
    by_cases q : rq_so ρ A.2.2.1 i = true
    · rw [if_pos q, if_neg (by decide), if_pos q, rq_sb _ (by omega) i hi]
      exact rq_some.mpr (rq_inl ⟨rfl, rfl, hf.trans hf1⟩)
    · rw [if_neg q, if_pos rfl, if_neg q]
      exact rq_some.mpr (rq_inl ⟨rfl, rfl, hf.trans hf1⟩)
  · rintro ⟨x, y, mm⟩ ⟨e1, e2, hf⟩
    dsimp only at e1 e2 hf
    subst e1 e2
    unfold b_X6_possible_4
    dsimp only
    rw [if_pos (by omega)]
    exact rq_some.mpr (rq_inre ⟨rfl, hf⟩)
  · rintro ⟨x, mm⟩ q
    exact rq_some.mpr q
theorem q_isAsSaid (h : rq_J r ρ A c m) {l : Nat} (hl : l ≤ 9) : rq (f_X12_isAsSaid 248 (l : Int) m) (fun e => e.1 = (if rq_so ρ A.2.2.1 l = true then 1 else 0) ∧ rq_fr rq_wF m e.2) := by
  have hz := h.2.2.2.2.2.1.2.2.1
  unfold f_X12_isAsSaid
  refine rq_call (rq_up (Q := fun e => match e with
      | .inl x => rq_so ρ A.2.2.1 l = true ∧ rq_fr rq_wF m x
      | .inr t => t.1 = 0 ∧ rq_so ρ A.2.2.1 l = false ∧ rq_fr rq_wF m t.2) (fun i s => s.1 = (i : Int) ∧ rq_fr rq_wF m s.2 ∧ ∀ j, j < i → rq_jf ρ (l : Int) (A.2.2.1 1 j).toNat (A.2.2.1 2 j) = A.2.2.1 3 j) (A.2.2.1 0 0).toNat (by have := hz.2.1; omega) ?_ ?_ ⟨rfl, rq_fr.rfl, fun j hj => absurd hj (Nat.not_lt_zero _)⟩) ?_
  · rintro i ⟨y, mm⟩ hi ⟨e1, hf, hj⟩
    dsimp only at e1 hf hj
    subst e1
    have hJ := rq_J_fr h (rq_frF hf) (Nat.le_refl c)
    have hD := hJ.2.1
    have hs := hD.1
    obtain ⟨za, zb⟩ := hJ.2.2.2.2.1.2.2.1
    obtain ⟨z1, z2, z3⟩ := zb i (by omega)
    rw [show 8 * 0 + i = i by omega] at z1 z2 z3
    have zv := hz.2.2 i (by omega)
    have hi8 : i < 8 := by have := hz.2.1; omega
    unfold b_X12_isAsSaid_2
    simp only [q_gfr, Option.bind_some, q_a9 (k := 280) _ 0 5 0 (pt_248_45 hs) kd_280 ln_280 rfl (by decide), q_a8 (k := 281) _ 40 (pt_248_46 hs) kd_281 ln_281 (show i < 40 by omega), q_a8 (k := 282) _ 40 (pt_248_47 hs) kd_282 ln_282 (show i < 40 by omega)]
    rw [za, if_neg (by omega), z1, z2]
    obtain ⟨k, hk⟩ := Int.eq_ofNat_of_zero_le zv.1.1
    have hg := q_risFor hD (lean := (l : Int)) (hard := A.2.2.1 2 i) (k := k) ⟨by omega, by omega⟩ zv.2.1 (by rw [← hk]; exact zv.1.2)
    rw [← hk] at hg
    refine rq_call hg ?_
    rintro ⟨v, m1⟩ ⟨rfl, hf1⟩
    have hJ1 : rq_J r ρ A c m1 := rq_J_fr hJ (rq_frF hf1) (Nat.le_refl c)
    have z3' : m1 283 i = A.2.2.1 3 i := by
      have := (hJ1.2.2.2.2.1.2.2.1.2 i (by omega)).2.2
      rw [show 8 * 0 + i = i by omega] at this; exact this
    dsimp only
    rw [pt_248_48 hJ1.2.1.1, show (283 : Int) = ((283 : Nat) : Int) from rfl, q_al kd_283 ln_283 (show i < 40 by omega), Option.bind_some, z3', rq_n1 (by omega)]
    have ek : (A.2.2.1 1 i).toNat = k := by omega
    by_cases q : rq_jf ρ (l : Int) k (A.2.2.1 2 i) = A.2.2.1 3 i
    · rw [if_pos q]
      refine rq_some.mpr (rq_inl ⟨rfl, hf.trans hf1, fun j hj2 => ?_⟩)
      by_cases y1 : j = i
      · subst y1; rw [ek]; exact q
      · exact hj j (by omega)
    · rw [if_neg q]
      refine rq_some.mpr (rq_inr ⟨rfl, ?_, hf.trans hf1⟩)
      cases hb : rq_so ρ A.2.2.1 l with
      | false => rfl
      | true => exact absurd (by rw [← ek]; exact rq_so_t.mp hb i hi) q
  · rintro ⟨y, mm⟩ ⟨e1, hf, hj⟩
    dsimp only at e1 hf hj
    subst e1
    have hJ := rq_J_fr h (rq_frF hf) (Nat.le_refl c)
    have hs := hJ.2.1.1
    have z0 := hz.1
    unfold b_X12_isAsSaid_2
    simp only [q_gfr, Option.bind_some, q_a9 (k := 280) _ 0 5 0 (pt_248_45 hs) kd_280 ln_280 rfl (by decide)]
    rw [show mm 280 0 = A.2.2.1 0 0 from hJ.2.2.2.2.1.2.2.1.1, if_pos (by omega)]
    exact rq_some.mpr (rq_inre ⟨rq_so_t.mpr hj, hf⟩)
  · rintro (x | t) q
    · dsimp only at q ⊢
      exact rq_some.mpr ⟨by rw [q.1]; rfl, q.2⟩
    · dsimp only at q ⊢
      exact rq_some.mpr ⟨by rw [q.1, q.2.1]; rfl, q.2.2⟩
end
