/-! Layer 3: ask, the class -/
section
variable {r : Nat} {ρ : rq_R} {A : rq_A} {c : Nat} {m : rt_M} {t : Nat} {D : Nat → Int}
/-- of the ways with one more wig: all; those of a tilt j by the heads below n; the commonest -/
def rq_aA (ρ : rq_R) (t : Nat) (D : Nat → Int) (w n : Nat) : Int := rq_sum (fun h => if rq_tt ρ w h t = -1 then 0 else rq_uB ρ t D (-1) h) n
def rq_aL (ρ : rq_R) (t : Nat) (D : Nat → Int) (w n j : Nat) : Int := rq_sum (fun h => if rq_tt ρ w h t = (j : Int) then rq_uB ρ t D (-1) h else 0) n
def rq_aM (ρ : rq_R) (t : Nat) (D : Nat → Int) (w n : Nat) : Int := rq_mx (rq_aL ρ t D w n) 0 10
def rq_as (ρ : rq_R) (t : Nat) (D : Nat → Int) : Nat → Int × Int
  | 0 => (-1, 0)
  | n + 1 => if D n = -1 ∧ rq_aM ρ t D n (ρ.1 0 1).toNat < rq_aA ρ t D n (ρ.1 0 1).toNat ∧ ((rq_as ρ t D n).1 = -1 ∨ rq_aM ρ t D n (ρ.1 0 1).toNat < (rq_as ρ t D n).2) then ((n : Int), rq_aM ρ t D n (ρ.1 0 1).toNat) else rq_as ρ t D n
theorem rq_as_s (n : Nat) : rq_as ρ t D (n + 1) = if D n = -1 ∧ rq_aM ρ t D n (ρ.1 0 1).toNat < rq_aA ρ t D n (ρ.1 0 1).toNat ∧ ((rq_as ρ t D n).1 = -1 ∨ rq_aM ρ t D n (ρ.1 0 1).toNat < (rq_as ρ t D n).2) then ((n : Int), rq_aM ρ t D n (ρ.1 0 1).toNat) else rq_as ρ t D n := rfl
theorem rq_as_b : ∀ n, -1 ≤ (rq_as ρ t D n).1
  | 0 => Int.le_refl _
  | n + 1 => by
    rw [rq_as_s]
    split
    · show (-1 : Int) ≤ (n : Int); omega
    · exact rq_as_b n
theorem rq_mx_upd {f f' : Nat → Int} {x : Int} {τ : Nat} (h : ∀ j, j ≠ τ → f' j = f j) (hτ : f τ ≤ f' τ) : ∀ n, τ < n → rq_mx f' x n = if rq_mx f x n < f' τ then f' τ else rq_mx f x n
  | 0, hn => absurd hn (Nat.not_lt_zero τ)
  | n + 1, hn => by
    have same : ∀ k, k ≤ τ → rq_mx f' x k = rq_mx f x k := by
      intro k
      induction k with
      | zero => intro _; rfl
      | succ k ih =>
        intro hk
        show (if rq_mx f' x k < f' k then f' k else rq_mx f' x k) = if rq_mx f x k < f k then f k else rq_mx f x k
        rw [ih (by omega), h k (by omega)]
    show (if rq_mx f' x n < f' n then f' n else rq_mx f' x n) = if (if rq_mx f x n < f n then f n else rq_mx f x n) < f' τ then f' τ else (if rq_mx f x n < f n then f n else rq_mx f x n)
    by_cases z : τ = n
    · subst z
      rw [same τ (Nat.le_refl _)]
      split <;> split <;> (try split) <;> omega
    · rw [rq_mx_upd h hτ n (by omega), h n (fun q => z q.symm)]
      split <;> split <;> (try split) <;> (try split) <;> omega
theorem rq_uB_b (hv : rq_va ρ) (x : Int) (h : Nat) : 0 ≤ rq_uB ρ t D x h ∧ rq_uB ρ t D x h ≤ 46656 := by
  have hb := hv.1
  have cb := rq_cf_b (T := rq_uT D x) (F := rq_uF ρ t D) (H := (ρ.1 0 1).toNat) (by omega) (ρ.1 0 0).toNat 0 (2 ^ h)
  have h6 : (6 : Int) ^ (ρ.1 0 0).toNat ≤ 46656 := by
    have : (ρ.1 0 0).toNat = 0 ∨ (ρ.1 0 0).toNat = 1 ∨ (ρ.1 0 0).toNat = 2 ∨ (ρ.1 0 0).toNat = 3 ∨ (ρ.1 0 0).toNat = 4 ∨ (ρ.1 0 0).toNat = 5 ∨ (ρ.1 0 0).toNat = 6 := by omega
    rcases this with q | q | q | q | q | q | q <;> rw [q] <;> decide
  exact ⟨cb.1, Int.le_trans cb.2 h6⟩
theorem rq_aL_b (hv : rq_va ρ) (w n j : Nat) : 0 ≤ rq_aL ρ t D w n j ∧ rq_aL ρ t D w n j ≤ 46656 * n := rq_sum_b (by decide) n (fun h _ => by
  have := rq_uB_b (t := t) (D := D) hv (-1) h
  split <;> omega)
theorem rq_aA_b (hv : rq_va ρ) (w n : Nat) : 0 ≤ rq_aA ρ t D w n ∧ rq_aA ρ t D w n ≤ 46656 * n := rq_sum_b (by decide) n (fun h _ => by
  have := rq_uB_b (t := t) (D := D) hv (-1) h
  split <;> omega)
theorem rq_sum_le {f g : Nat → Int} : ∀ n, (∀ i, i < n → f i ≤ g i) → rq_sum f n ≤ rq_sum g n
  | 0, _ => Int.le_refl _
  | n + 1, h => by
    have a := rq_sum_le n (fun i hi => h i (by omega))
    have b := h n (by omega)
    rw [rq_sum_s, rq_sum_s]
    omega
theorem rq_aM_le (hv : rq_va ρ) (w n : Nat) : 0 ≤ rq_aM ρ t D w n ∧ rq_aM ρ t D w n ≤ rq_aA ρ t D w n := by
  refine rq_mx_b ⟨Int.le_refl 0, (rq_aA_b hv w n).1⟩ 10 (fun j hj => rq_sum_le n (fun h _ => ?_))
  have := rq_uB_b (t := t) (D := D) hv (-1) h
  split
  · rw [if_neg (by omega)]; omega
  · split <;> omega
def rq_w1k (k _j : Nat) : Bool := k == 127
theorem rq_w1k_st : (rq_P.all fun p => !(rq_w1k p.1 p.2.1)) = true := by decide +kernel
theorem rq_WQ_27 {k j : Nat} (h : rq_WQ k j = false) : rq_w1k k j = false := by
  have h := rq_WQ_C h
  unfold rq_WC at h
  unfold rq_w1k
  simp only [Bool.or_eq_false_iff, Bool.and_eq_false_iff, beq_eq_false_iff_ne, decide_eq_false_iff_not] at h ⊢
  omega
theorem rq_ml_27 {m' : rt_M} (h : rq_ml ρ t m) (hv : rq_va ρ) (f : rq_fr rq_w1k m m') : rq_ml ρ t m' := by
  have hb := hv.1
  refine ⟨by rw [f 118 0 rfl]; exact h.1, by rw [f 118 1 rfl]; exact h.2.1, fun w j hw hj => ?_⟩
  rw [f _ j (by unfold rq_w1k; simp only [beq_eq_false_iff_ne]; omega)]
  exact h.2.2 w j hw hj
theorem q_allWays (hs : rq_st m) (hv : rq_va ρ) (hm : rq_ml ρ t m) (hW : ∀ s, s < 64 → m 126 s = rq_uW ρ t D (-1) (ρ.1 0 0).toNat s) {w : Nat} (hw : (w : Int) < ρ.1 0 0) : f_X1_allWays ((118 : Nat) : Int) (w : Int) m = some (rq_aA ρ t D w (ρ.1 0 1).toNat) := by
  have hb := hv.1
  unfold f_X1_allWays
  apply rq_of
  refine rq_call (rq_up (Q := fun e => e = rq_aA ρ t D w (ρ.1 0 1).toNat) (fun i e => e.2 = (i : Int) ∧ e.1 = rq_aA ρ t D w i) (ρ.1 0 1).toNat (by omega) ?_ ?_ ⟨rfl, rfl⟩) (fun e q => rq_some.mpr q)
  · rintro i ⟨y, z⟩ hi ⟨e1, e2⟩
    dsimp only at e1 e2
    subst e1 e2
    have ab := rq_aA_b (t := t) (D := D) hv w i
    have ub := rq_uB_b (t := t) (D := D) hv (-1) i
    have es : rq_aA ρ t D w (i + 1) = rq_aA ρ t D w i + if rq_tt ρ w i t = -1 then 0 else rq_uB ρ t D (-1) i := rfl
    unfold b_X1_allWays_4 j_X1_allWays_32_4
    dsimp only
    rw [q_g1, Option.bind_some, hm.2.1, if_neg (by omega), q_tiltOf hs hv hm hw (show (i : Int) < ρ.1 0 1 by omega), Option.bind_some, rq_n1 (by omega)]
    by_cases z1 : rq_tt ρ w i t = -1
    · rw [if_pos z1]
      exact rq_some.mpr (rq_inl ⟨rfl, by rw [es, if_pos z1]; omega⟩)
    · rw [if_neg z1, q_withoutH hs hv hW (h := i) (by omega), Option.bind_some, rq_iadd (by omega) (by omega)]
      exact rq_some.mpr (rq_inl ⟨rfl, by rw [es, if_neg z1]⟩)
  · rintro ⟨y, z⟩ ⟨e1, e2⟩
    dsimp only at e1 e2
    subst e1 e2
    unfold b_X1_allWays_4
    dsimp only
    rw [q_g1, Option.bind_some, hm.2.1, if_pos (by omega)]
    exact rq_some.mpr (rq_inre rfl)
theorem q_greatest (hs : rq_st m) (hv : rq_va ρ) (hm : rq_ml ρ t m) (hW : ∀ s, s < 64 → m 126 s = rq_uW ρ t D (-1) (ρ.1 0 0).toNat s) {w : Nat} (hw : (w : Int) < ρ.1 0 0) : rq (f_X1_greatestLikeWays ((118 : Nat) : Int) (w : Int) m) (fun p => p.1 = rq_aM ρ t D w (ρ.1 0 1).toNat ∧ rq_fr rq_w1k m p.2) := by
  have hb := hv.1
  unfold f_X1_greatestLikeWays
  refine rq_call (rq_up (Q := fun m1 => (∀ j, j < 10 → m1 127 j = 0) ∧ rq_fr rq_w1k m m1) (fun i s => s.1 = (i : Int) ∧ (∀ j, j < i → s.2 127 j = 0) ∧ rq_fr rq_w1k m s.2) 10 (by decide) ?_ ?_ (by exact ⟨rfl, fun j hj => absurd hj (Nat.not_lt_zero _), rq_fr.rfl⟩)) ?_
  · rintro i ⟨x, mm⟩ hi ⟨e1, e2, hf⟩
    dsimp only at e1 e2 hf
    subst e1
    have hs1 : rq_st mm := rq_st_fr hs hf rq_w1k_st
    unfold b_X1_greatestLikeWays_2
    dsimp only
    rw [q_g1, Option.bind_some, pt_118_4 hs1, show (127 : Int) = ((127 : Nat) : Int) from rfl, q_len kd_127, Option.bind_some, ln_127, if_neg (by omega), Option.bind_some, q_sa kd_127 ln_127 hi, Option.bind_some, rq_n1 (by omega)]
    refine rq_some.mpr (rq_inl ⟨rfl, fun j hj => ?_, hf.up rfl⟩)
    show rt_up mm 127 i 0 127 j = 0
    rw [q_up]
    by_cases z : j = i
    · rw [if_pos ⟨rfl, z⟩]
    · rw [if_neg (fun y => z y.2)]; exact e2 j (by omega)
  · rintro ⟨x, mm⟩ ⟨e1, e2, hf⟩
    dsimp only at e1 e2 hf
    have hs1 : rq_st mm := rq_st_fr hs hf rq_w1k_st
    unfold b_X1_greatestLikeWays_2
    dsimp only
    rw [q_g1, Option.bind_some, pt_118_4 hs1, show (127 : Int) = ((127 : Nat) : Int) from rfl, q_len kd_127, Option.bind_some, ln_127, if_pos (by omega)]
    exact rq_some.mpr (rq_inre ⟨e2, hf⟩)
  · rintro m1 ⟨z1, f1⟩
    refine rq_call (rq_up (Q := fun e => e.1 = rq_aM ρ t D w (ρ.1 0 1).toNat ∧ rq_fr rq_w1k m e.2) (fun i e => e.2.1 = (i : Int) ∧ e.1 = rq_aM ρ t D w i ∧ (∀ j, j < 10 → e.2.2 127 j = rq_aL ρ t D w i j) ∧ rq_fr rq_w1k m e.2.2) (ρ.1 0 1).toNat (by omega) ?_ ?_ ?_) (fun e q => rq_some.mpr q)
    · rintro i ⟨y, z, mm⟩ hi ⟨e1, e2, e3, hf⟩
      dsimp only at e1 e2 e3 hf
      subst e1 e2
      have hs1 : rq_st mm := rq_st_fr hs hf rq_w1k_st
      have hm1 := rq_ml_27 hm hv hf
      have hW1 : ∀ s, s < 64 → mm 126 s = rq_uW ρ t D (-1) (ρ.1 0 0).toNat s := fun s hs6 => by rw [hf 126 s rfl]; exact hW s hs6
      have tb := rq_tt_b hv w i t
      have ub := rq_uB_b (t := t) (D := D) hv (-1) i
      have es : ∀ j, rq_aL ρ t D w (i + 1) j = rq_aL ρ t D w i j + if rq_tt ρ w i t = (j : Int) then rq_uB ρ t D (-1) i else 0 := fun j => rfl
      unfold b_X1_greatestLikeWays_28 j_X1_greatestLikeWays_88_28
      dsimp only
      rw [q_g1, Option.bind_some, hm1.2.1, if_neg (by omega), q_tiltOf hs1 hv hm1 hw (show (i : Int) < ρ.1 0 1 by omega), Option.bind_some, rq_n1 (by omega)]
      by_cases zt : rq_tt ρ w i t < 0
      · rw [if_pos zt]
        have same : rq_aL ρ t D w (i + 1) = rq_aL ρ t D w i := funext fun j => by rw [es, if_neg (by omega)]; omega
        refine rq_some.mpr (rq_inl ⟨rfl, ?_, ?_, hf⟩)
        · unfold rq_aM; rw [same]
        · rw [same]; exact e3
      · obtain ⟨τ, hτ⟩ := Int.eq_ofNat_of_zero_le (show 0 ≤ rq_tt ρ w i t by omega)
        have ab := rq_aL_b (t := t) (D := D) hv w i τ
        rw [if_neg zt, q_g1, Option.bind_some, pt_118_4 hs1, show (127 : Int) = ((127 : Nat) : Int) from rfl, q_len kd_127, Option.bind_some, ln_127, if_neg (by omega), Option.bind_some, hτ, q_al kd_127 ln_127 (show τ < 10 by omega), Option.bind_some, q_withoutH hs1 hv hW1 (h := i) (by omega), Option.bind_some, q_sa kd_127 ln_127 (show τ < 10 by omega), Option.bind_some, e3 τ (by omega), rq_iadd (by omega) (by omega)]
        have f2 : rq_fr rq_w1k m (rt_up mm 127 τ (rq_aL ρ t D w i τ + rq_uB ρ t D (-1) i)) := hf.up rfl
        have eτ : rt_up mm 127 τ (rq_aL ρ t D w i τ + rq_uB ρ t D (-1) i) 127 τ = rq_aL ρ t D w (i + 1) τ := by rw [q_up, if_pos ⟨rfl, rfl⟩, es, if_pos hτ]
        have eo : ∀ j, j ≠ τ → rt_up mm 127 τ (rq_aL ρ t D w i τ + rq_uB ρ t D (-1) i) 127 j = mm 127 j := fun j hj => by rw [q_up, if_neg (fun q => hj q.2)]
        generalize rt_up mm 127 τ (rq_aL ρ t D w i τ + rq_uB ρ t D (-1) i) = m3 at f2 eτ eo ⊢
        have hs3 : rq_st m3 := rq_st_fr hs f2 rq_w1k_st
        rw [q_g1, Option.bind_some, pt_118_4 hs3, show (127 : Int) = ((127 : Nat) : Int) from rfl, q_al kd_127 ln_127 (show τ < 10 by omega), Option.bind_some, eτ, q_max, Option.bind_some]
        have eso : ∀ j, j ≠ τ → rq_aL ρ t D w (i + 1) j = rq_aL ρ t D w i j := fun j hj => by rw [es, if_neg (by omega)]; omega
        refine rq_some.mpr (rq_inl ⟨rfl, ?_, fun j hj => ?_, f2⟩)
        · show (if rq_aM ρ t D w i < rq_aL ρ t D w (i + 1) τ then rq_aL ρ t D w (i + 1) τ else rq_aM ρ t D w i) = rq_aM ρ t D w (i + 1)
          unfold rq_aM
          rw [rq_mx_upd (f := rq_aL ρ t D w i) (τ := τ) eso (by rw [es, if_pos hτ]; omega) 10 (by omega)]
        · show m3 127 j = _
          by_cases q : j = τ
          · rw [q, eτ]
          · rw [eo j q, e3 j hj, eso j q]
    · rintro ⟨y, z, mm⟩ ⟨e1, e2, e3, hf⟩
      dsimp only at e1 e2 e3 hf
      subst e1 e2
      have hm1 := rq_ml_27 hm hv hf
      unfold b_X1_greatestLikeWays_28
      dsimp only
      rw [q_g1, Option.bind_some, hm1.2.1, if_pos (by omega)]
      exact rq_some.mpr (rq_inre ⟨rfl, hf⟩)
    · refine ⟨rfl, ?_, fun j hj => z1 j hj, f1⟩
      show (0 : Int) = rq_mx (rq_aL ρ t D w 0) 0 10
      have : ∀ n, rq_mx (rq_aL ρ t D w 0) 0 n = 0 := by
        intro n
        induction n with
        | zero => rfl
        | succ n ih =>
          show (if rq_mx (rq_aL ρ t D w 0) 0 n < rq_aL ρ t D w 0 n then rq_aL ρ t D w 0 n else rq_mx (rq_aL ρ t D w 0) 0 n) = 0
          rw [ih]
          show (if (0 : Int) < 0 then (0 : Int) else 0) = 0
          rfl
      exact (this 10).symm
theorem q_ask11 (h : rq_J r ρ A c m) : rq (f_X11_ask 41 m) (fun p => p.1 = (rq_as ρ (A.1 0).toNat A.2.2.2 (ρ.1 0 0).toNat).1 ∧ rq_fr rq_WQ m p.2) := by
  have s0 := q_sea0 h
  have hv := h.1.2.2.1
  have hb := hv.1
  have hvS := h.2.2.2.2.2.1.1
  unfold f_X11_ask
  rw [q_fit h.1.1, Option.bind_some, q_told h, Option.bind_some, q_now h.1.1, Option.bind_some, q_nst h.1.1, Option.bind_some, q_sea h, Option.bind_some, q_gd1]
  have hm := q_measure h (t := (A.1 0).toNat) (by have := hvS.2.1; omega)
  rw [← s0] at hm
  refine rq_call hm ?_
  rintro m2 ⟨ml, f2⟩
  have f2' : rq_fr rq_WQ m m2 := f2.mono (fun _ _ => rq_WQ_Ti)
  have h2 := rq_J_fr h f2' (Nat.le_refl c)
  rw [q_fit h2.1.1, Option.bind_some, q_now h2.1.1, Option.bind_some, q_nti h2.1.1, Option.bind_some, q_gd1]
  refine rq_call (q_layWays h2 ml (-1)) ?_
  rintro m3 ⟨w3, f3⟩
  have f3' : rq_fr rq_WQ m2 m3 := f3.mono (fun _ _ => rq_WQ_26)
  have h3 := rq_J_fr h2 f3' (Nat.le_refl c)
  have ml3 := rq_ml_26 ml hv f3
  refine rq_call (rq_up (Q := fun e => e.1 = (rq_as ρ (A.1 0).toNat A.2.2.2 (ρ.1 0 0).toNat).1 ∧ rq_fr rq_w1k m3 e.2) (fun i e => e.2.2.1 = (i : Int) ∧ e.2.1 = (rq_as ρ (A.1 0).toNat A.2.2.2 i).1 ∧ (e.2.1 ≠ -1 → e.1 = (rq_as ρ (A.1 0).toNat A.2.2.2 i).2) ∧ rq_fr rq_w1k m3 e.2.2.2) (ρ.1 0 0).toNat (by omega) ?_ ?_ (by exact ⟨rfl, rfl, fun q => absurd rfl q, rq_fr.rfl⟩)) (fun e q => rq_some.mpr ⟨q.1, (f2'.trans f3').trans (q.2.mono (fun _ _ => rq_WQ_27))⟩)
  · rintro i ⟨x, y, z, mm⟩ hi ⟨e1, e2, e3, hf⟩
    dsimp only at e1 e2 e3 hf
    subst e1 e2
    have hJ := rq_J_fr h3 (hf.mono (fun _ _ => rq_WQ_27)) (Nat.le_refl c)
    have ml4 := rq_ml_27 ml3 hv hf
    have w4 : ∀ s, s < 64 → mm 126 s = rq_uW ρ (A.1 0).toNat A.2.2.2 (-1) (ρ.1 0 0).toNat s := fun s hs6 => by rw [hf 126 s rfl]; exact w3 s hs6
    have d := hJ.2.2.2.1.2.2.2 i (by omega)
    have ab := rq_as_b (ρ := ρ) (t := (A.1 0).toNat) (D := A.2.2.2) i
    have stay : ∀ m4, rq_fr rq_w1k m3 m4 → ¬ (A.2.2.2 i = -1 ∧ rq_aM ρ (A.1 0).toNat A.2.2.2 i (ρ.1 0 1).toNat < rq_aA ρ (A.1 0).toNat A.2.2.2 i (ρ.1 0 1).toNat ∧ ((rq_as ρ (A.1 0).toNat A.2.2.2 i).1 = -1 ∨ rq_aM ρ (A.1 0).toNat A.2.2.2 i (ρ.1 0 1).toNat < (rq_as ρ (A.1 0).toNat A.2.2.2 i).2)) → rq (j_X11_ask_105_42 41 x (rq_as ρ (A.1 0).toNat A.2.2.2 i).1 (i : Int) m4) (fun t => (∀ s', t = .inl s' → s'.2.2.1 = ((i + 1 : Nat) : Int) ∧ s'.2.1 = (rq_as ρ (A.1 0).toNat A.2.2.2 (i + 1)).1 ∧ (s'.2.1 ≠ -1 → s'.1 = (rq_as ρ (A.1 0).toNat A.2.2.2 (i + 1)).2) ∧ rq_fr rq_w1k m3 s'.2.2.2) ∧ (∀ e, t = .inr e → e.1 = (rq_as ρ (A.1 0).toNat A.2.2.2 (ρ.1 0 0).toNat).1 ∧ rq_fr rq_w1k m3 e.2)) := by
      intro m4 f4 q
      unfold j_X11_ask_105_42
      rw [rq_n1 (by omega)]
      refine rq_some.mpr (rq_inl ⟨rfl, ?_, fun y => ?_, f4⟩)
      · rw [rq_as_s, if_neg q]
      · rw [rq_as_s, if_neg q]; exact e3 y
    have take : ∀ m4, rq_fr rq_w1k m3 m4 → (A.2.2.2 i = -1 ∧ rq_aM ρ (A.1 0).toNat A.2.2.2 i (ρ.1 0 1).toNat < rq_aA ρ (A.1 0).toNat A.2.2.2 i (ρ.1 0 1).toNat ∧ ((rq_as ρ (A.1 0).toNat A.2.2.2 i).1 = -1 ∨ rq_aM ρ (A.1 0).toNat A.2.2.2 i (ρ.1 0 1).toNat < (rq_as ρ (A.1 0).toNat A.2.2.2 i).2)) → rq (j_X11_ask_100_42 41 (i : Int) (rq_aM ρ (A.1 0).toNat A.2.2.2 i (ρ.1 0 1).toNat) m4) (fun t => (∀ s', t = .inl s' → s'.2.2.1 = ((i + 1 : Nat) : Int) ∧ s'.2.1 = (rq_as ρ (A.1 0).toNat A.2.2.2 (i + 1)).1 ∧ (s'.2.1 ≠ -1 → s'.1 = (rq_as ρ (A.1 0).toNat A.2.2.2 (i + 1)).2) ∧ rq_fr rq_w1k m3 s'.2.2.2) ∧ (∀ e, t = .inr e → e.1 = (rq_as ρ (A.1 0).toNat A.2.2.2 (ρ.1 0 0).toNat).1 ∧ rq_fr rq_w1k m3 e.2)) := by
      intro m4 f4 q
      unfold j_X11_ask_100_42 j_X11_ask_105_42
      rw [rq_n1 (by omega)]
      refine rq_some.mpr (rq_inl ⟨rfl, ?_, fun y => ?_, f4⟩)
      · rw [rq_as_s, if_pos q]
      · rw [rq_as_s, if_pos q]
    unfold b_X11_ask_42
    dsimp only
    rw [q_told hJ, Option.bind_some, q_gf4 hJ.1, Option.bind_some, hJ.1.2.2.2.1.1, if_neg (by omega), q_now hJ.1.1, Option.bind_some, q_nti hJ.1.1, Option.bind_some, q_al kd_60 ln_60 (show i < 6 by omega), Option.bind_some, d]
    by_cases z1 : A.2.2.2 i = -1
    · rw [if_pos z1, q_fit hJ.1.1, Option.bind_some, q_gd1]
      refine rq_call (q_greatest hJ.1.1 hv ml4 w4 (w := i) (by omega)) ?_
      rintro ⟨g, m4⟩ ⟨e, f4⟩
      dsimp only at e f4 ⊢
      subst e
      have f34 := hf.trans f4
      have hJ4 := rq_J_fr h3 (f34.mono (fun _ _ => rq_WQ_27)) (Nat.le_refl c)
      have ml5 := rq_ml_27 ml3 hv f34
      have w5 : ∀ s, s < 64 → m4 126 s = rq_uW ρ (A.1 0).toNat A.2.2.2 (-1) (ρ.1 0 0).toNat s := fun s hs6 => by rw [f34 126 s rfl]; exact w3 s hs6
      rw [q_fit hJ4.1.1, Option.bind_some, q_gd1, q_allWays hJ4.1.1 hv ml5 w5 (w := i) (by omega), Option.bind_some]
      by_cases z2 : rq_aA ρ (A.1 0).toNat A.2.2.2 i (ρ.1 0 1).toNat ≤ rq_aM ρ (A.1 0).toNat A.2.2.2 i (ρ.1 0 1).toNat
      · rw [if_pos z2]
        exact stay m4 f34 (fun q => by omega)
      · rw [if_neg z2]
        by_cases z3 : (rq_as ρ (A.1 0).toNat A.2.2.2 i).1 = -1
        · rw [if_pos z3]
          exact take m4 f34 ⟨z1, by omega, Or.inl z3⟩
        · rw [if_neg z3, e3 z3]
          by_cases z4 : (rq_as ρ (A.1 0).toNat A.2.2.2 i).2 ≤ rq_aM ρ (A.1 0).toNat A.2.2.2 i (ρ.1 0 1).toNat
          · rw [if_pos z4]
            rw [e3 z3] at stay
            exact stay m4 f34 (fun q => by omega)
          · rw [if_neg z4]
            exact take m4 f34 ⟨z1, by omega, Or.inr (by omega)⟩
    · rw [if_neg z1]
      exact stay mm hf (fun q => z1 q.1)
  · rintro ⟨x, y, z, mm⟩ ⟨e1, e2, e3, hf⟩
    dsimp only at e1 e2 e3 hf
    subst e1 e2
    have hJ := rq_J_fr h3 (hf.mono (fun _ _ => rq_WQ_27)) (Nat.le_refl c)
    unfold b_X11_ask_42
    dsimp only
    rw [q_told hJ, Option.bind_some, q_gf4 hJ.1, Option.bind_some, hJ.1.2.2.2.1.1, if_pos (by omega)]
    exact rq_some.mpr (rq_inre ⟨rfl, hf⟩)
end
