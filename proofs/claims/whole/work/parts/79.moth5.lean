/-! Layer 3: moths, the reference's search: a leaf, a choice -/
section
variable {r : Nat} {ρ : rq_R} {m : rt_M} {S X : rq_S}
def rq_w94 (k j : Nat) : Bool := rq_wR k j || (k == 248 && j == 64) || k == 293 || k == 294 || k == 295
theorem rq_w94_st : (rq_P.all fun p => !(rq_w94 p.1 p.2.1)) = true := by decide +kernel
theorem rq_D_w94 {m' : rt_M} (h : rq_D ρ m) (k : rq_fr rq_w94 m m') : rq_D ρ m' := by
  obtain ⟨hs, hv, hc⟩ := h
  refine ⟨rq_st_fr hs k rq_w94_st, hv, rq_rr_fr hc (fun a j h1 h2 => k a j ?_)⟩
  unfold rq_w94 rq_wR rq_wF
  simp only [Bool.or_eq_false_iff, Bool.and_eq_false_iff, beq_eq_false_iff_ne, decide_eq_false_iff_not]
  omega
theorem rq_w94_R {k j : Nat} (h : rq_w94 k j = false) : rq_wR k j = false := by
  unfold rq_w94 at h
  simp only [Bool.or_eq_false_iff] at h
  exact h.1.1.1.1
theorem q_mleaf (hs : rq_st m) (f : Int → Int → Int → rt_M → Option rt_M) : rq (rt_it (b_X12_mendsFrom_36 f 248) 4000 (0, m)) (fun m1 => (∀ w, w < 4 → m1 295 w = m 294 w) ∧ rq_fr (fun k _ => k == 295) m m1) := by
  refine rq_up (fun i s => s.1 = (i : Int) ∧ (∀ w, w < i → s.2 295 w = m 294 w) ∧ rq_fr (fun k _ => k == 295) m s.2) 4 (by decide) ?_ ?_ (by exact ⟨rfl, fun w hj => absurd hj (Nat.not_lt_zero _), rq_fr.rfl⟩)
  · rintro i ⟨x, mm⟩ hi ⟨e1, e2, hf⟩
    dsimp only at e1 e2 hf
    subst e1
    have hs1 : rq_st mm := rq_st_fr hs hf (by decide +kernel)
    unfold b_X12_mendsFrom_36
    dsimp only
    rw [if_neg (by omega), q_gfr, Option.bind_some, q_gfr, Option.bind_some, q_a8 (k := 294) _ 4 (pt_248_62 hs1) kd_294 ln_294 hi, Option.bind_some, q_s8 (k := 295) _ 4 (pt_248_63 hs1) kd_295 ln_295 hi, Option.bind_some, rq_n1 (by omega)]
    refine rq_some.mpr (rq_inl ⟨rfl, fun w hw => ?_, hf.up rfl⟩)
    show rt_up mm 295 i _ 295 w = _
    rw [q_up]
    by_cases z : w = i
    · rw [if_pos ⟨rfl, z⟩, z, hf 294 i rfl]
    · rw [if_neg (fun y => z y.2)]; exact e2 w (by omega)
  · rintro ⟨x, mm⟩ ⟨e1, e2, hf⟩
    dsimp only at e1 e2 hf
    unfold b_X12_mendsFrom_36
    dsimp only
    rw [if_pos (by omega)]
    exact rq_some.mpr (rq_inre ⟨e2, hf⟩)
/-- what the search from step i on, k steps left, comes to -/
def rq_mz (ρ : rq_R) (S : rq_S) (n i k s : Nat) (X : rq_S) (m m' : rt_M) : Prop :=
  rq_gz i n (rq_b9 ρ S n + rq_gs ρ S n s + rq_bs (rq_mo ρ S n) (rq_mg ρ S n) true n k s) (rq_rw (rq_mo ρ S n) (rq_mg ρ S n) true n k s) (m 294) (m 248 64) (m 295) (m' 248 64) (m' 295) ∧ (∀ w, w < i → m' 294 w = m 294 w) ∧ (∀ l, l < 13 * i → m' 293 l = m 293 l) ∧ rq_sr X m' ∧ rq_fr rq_w94 m m'
theorem q_mtail (hD : rq_D ρ m) {X0 : rq_S} (hX : rq_sr X m) {n i k s : Nat} (hn : n ≤ 4) (hi : i < n) (hm : rq_md ρ S i s X) (h0 : X 0 < 899000) (hrow : ∀ l, l < 13 → m 293 (13 * i + l) = X0 l) (v : Int) (j : Int) (f : Int → Int → Int → rt_M → Option rt_M)
    (ih : ∀ (X' : rq_S) (m1 : rt_M), rq_D ρ m1 → rq_sr X' m1 → rq_md ρ S (i + 1) s X' → rq (f 248 ((i + 1 : Nat) : Int) (n : Int) m1) (rq_mz ρ S n (i + 1) k s X' m1)) :
    rq (j_X12_mendsFrom_157_81 f 248 (i : Int) (n : Int) j (m 248 62) (i : Int) v m) (fun t => ∃ m', t = .inl (rt_iadd j 1, m') ∧ (∃ cu' : Nat → Int, cu' i = v ∧ (∀ w, w < i → cu' w = m 294 w) ∧ rq_gz (i + 1) n (rq_b9 ρ S n + rq_gs ρ S n s + rq_bs (rq_mo ρ S n) (rq_mg ρ S n) true n k s) (rq_rw (rq_mo ρ S n) (rq_mg ρ S n) true n k s) cu' (m 248 64) (m 295) (m' 248 64) (m' 295)) ∧ (∀ w, w < i → m' 294 w = m 294 w) ∧ (∀ l, l < 13 * (i + 1) → m' 293 l = m 293 l) ∧ rq_sr X0 m' ∧ rq_fr rq_w94 m m') := by
  unfold j_X12_mendsFrom_157_81 j_X12_mendsFrom_187_81
  rw [q_s8 (k := 294) _ 4 (pt_248_62 hD.1) kd_294 ln_294 (by omega), Option.bind_some]
  have f1 : rq_fr rq_w94 m (rt_up m 294 i v) := rq_fr.rfl.up rfl
  have e294 : ∀ w, rt_up m 294 i v 294 w = if w = i then v else m 294 w := fun w => by
    rw [q_up]; by_cases y : w = i
    · rw [if_pos ⟨rfl, y⟩, if_pos y]
    · rw [if_neg (fun q => y q.2), if_neg y]
  have e295 : ∀ w, rt_up m 294 i v 295 w = m 295 w := fun w => rfl
  have e293 : ∀ w, rt_up m 294 i v 293 w = m 293 w := fun w => rfl
  have e64 : rt_up m 294 i v 248 64 = m 248 64 := rfl
  have hX1 : rq_sr X (rt_up m 294 i v) := fun l hl => hX l hl
  generalize rt_up m 294 i v = m1 at f1 e294 e295 e293 e64 hX1 ⊢
  have hD1 := rq_D_w94 hD f1
  refine rq_call (q_passes hD1 hX1 hm.1) ?_
  rintro ⟨x, m2⟩ ⟨-, g2, f2⟩
  dsimp only at g2 f2 ⊢
  have f2' : rq_fr rq_w94 m1 m2 := f2.mono (fun _ _ => rq_w94_R)
  have hD2 := rq_D_w94 hD1 f2'
  rw [rq_n1 (by omega)]
  refine rq_call (ih _ m2 hD2 g2 (rq_md_pass hD.2.1 hm (by omega))) ?_
  rintro m3 ⟨a1, a2, a3, a4, f3⟩
  have hD3 := rq_D_w94 hD2 f3
  rw [q_gfr, Option.bind_some, q_gfr, Option.bind_some, rq_imul (by omega) (by omega)]
  refine rq_call (q_copies 293 285 (13 * i) 0 65 13 _ _ _ 0 (pt_248_61 hD3.1) (pt_248_50 hD3.1) (by omega) rfl kd_293 ln_293 (by omega) kd_285 ln_285 (by decide) (by decide) (by decide) (by decide)) ?_
  rintro m4 ⟨c4, f4⟩
  have f4' : rq_fr rq_w94 m3 m4 := f4.mono (fun k j q => by
    unfold rq_w94 rq_wR at q
    unfold rq_row
    simp only [Bool.or_eq_false_iff, Bool.and_eq_false_iff, beq_eq_false_iff_ne, decide_eq_false_iff_not] at q ⊢
    omega)
  have k4 : ∀ a l, a ≠ 285 → m4 a l = m3 a l := fun a l ha => f4 a l (by unfold rq_row; simp only [Bool.and_eq_false_iff, beq_eq_false_iff_ne]; omega)
  have k2 : ∀ a l, a = 293 ∨ a = 294 ∨ a = 295 ∨ a = 248 → m2 a l = m1 a l := fun a l ha => f2 a l (by unfold rq_wR rq_wF; simp only [Bool.or_eq_false_iff, Bool.and_eq_false_iff, beq_eq_false_iff_ne, decide_eq_false_iff_not]; omega)
  refine rq_some.mpr ⟨m4, rfl, ⟨m2 294, ?_, fun w hw => ?_, ?_⟩, fun w hw => ?_, fun l hl => ?_, fun l hl => ?_, ((f1.trans f2').trans f3).trans f4'⟩
  · rw [k2 294 _ (by omega), e294, if_pos rfl]
  · rw [k2 294 _ (by omega), e294, if_neg (by omega)]
  · have t1 : m2 295 = m 295 := funext fun w => by rw [k2 295 _ (by omega), e295]
    have t2 : m4 295 = m3 295 := funext fun w => k4 295 w (by omega)
    rw [k2 248 _ (by omega), e64, t1] at a1
    rw [t2, k4 248 64 (by omega)]
    exact a1
  · rw [k4 294 _ (by omega), a2 w (by omega), k2 294 _ (by omega), e294, if_neg (by omega)]
  · rw [k4 293 _ (by omega), a3 l hl, k2 293 _ (by omega), e293]
  · have := c4 l hl
    rw [Nat.zero_add] at this
    rw [this, a3 _ (by omega), k2 293 _ (by omega), e293]
    exact hrow l hl
end
