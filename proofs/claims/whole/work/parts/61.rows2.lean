/-! Layer 3: the class's rows: solved -/
section
variable {o : Nat → Nat} {g : Nat → Nat → Int} {ag : Bool} {n : Nat} {m : rt_M} {B : Nat → Int}
theorem q_g5 (j : Nat) : rt_gf 5 j ((130 : Nat) : Int) m = some (m 130 j) := rfl
theorem rq_st_140 {m' : rt_M} (hs : rq_st m) (f : rq_fr rq_w140 m m') : rq_st m' := rq_st_fr hs f rq_w140_st
theorem rq_140 {i : Nat} {m' : rt_M} (hi : i < 7) (f : rq_fr (fun k _ => k == 140 + i) m m') : rq_fr rq_w140 m m' := f.mono (fun k j q => by
  unfold rq_w140 at q
  simp only [Bool.and_eq_false_iff, decide_eq_false_iff_not] at q
  simp only [beq_eq_false_iff_ne]
  omega)
theorem q_solve1 (hs : rq_st m) (h0 : m 130 0 = (n : Int)) (hn : n ≤ 6) : rq (rt_it (b_X5_solve_2 ((130 : Nat) : Int)) 4000 (0, m)) (fun m1 => (∀ s, s < 64 → m1 (140 + n) s = 0) ∧ rq_fr rq_w140 m m1) := by
  have bk := q_bk n (by omega)
  refine rq_up (fun i s => s.1 = (i : Int) ∧ rq_fr (fun k _ => k == 140 + n) m s.2 ∧ ∀ j, j < i → s.2 (140 + n) j = 0) 64 (by decide) ?_ ?_ (by exact ⟨rfl, rq_fr.rfl, fun j hj => absurd hj (Nat.not_lt_zero _)⟩)
  · rintro i ⟨x, mm⟩ hi ⟨e1, hf, hz⟩
    dsimp only at e1 hf hz
    subst e1
    have hs1 := rq_st_140 hs (rq_140 (by omega) hf)
    have h01 : mm 130 0 = (n : Int) := by rw [hf 130 0 (by simp only [beq_eq_false_iff_ne]; omega)]; exact h0
    unfold b_X5_solve_2
    dsimp only
    rw [if_neg (by omega)]
    simp only [q_g5, Option.bind_some]
    rw [pt_130_4 hs1, h01, show (139 : Int) = ((139 : Nat) : Int) from rfl, q_al kd_139 ln_139 (by omega), Option.bind_some, hs1 _ bk.1, q_sa bk.2.1 bk.2.2 hi, Option.bind_some, rq_n1 (by omega)]
    refine rq_some.mpr (rq_inl ⟨rfl, hf.up (by simp), fun j hj => ?_⟩)
    dsimp only
    rw [q_up]
    by_cases z : j = i
    · rw [if_pos ⟨rfl, z⟩]
    · rw [if_neg (fun y => z y.2)]; exact hz j (by omega)
  · rintro ⟨x, mm⟩ ⟨e1, hf, hz⟩
    dsimp only at e1 hf hz
    unfold b_X5_solve_2
    dsimp only
    rw [if_pos (by omega)]
    exact rq_some.mpr (rq_inre ⟨hz, rq_140 (by omega) hf⟩)
theorem q_solve3 (hs : rq_st m) (hp : rq_rwp o g ag n m) (ho : ∀ i, o i < 64) (hg : ∀ i ch, 0 ≤ g i ch ∧ g i ch ≤ 1000) {i s : Nat} (hi : i < 6) (hs6 : s < 64) (hB : ∀ t, t < 64 → m (140 + (i + 1)) t = B t ∧ 0 ≤ B t ∧ B t ≤ 100000) (x : Int) : rq (rt_it (b_X5_solve_59 ((130 : Nat) : Int) (i : Int) (s : Int)) 4000 (x, 0, m)) (fun e => e = (rq_mx (rq_th o g ag B i s) x 6, m)) := by
  refine rq_up (fun j t => t.2.1 = (j : Int) ∧ t.1 = rq_mx (rq_th o g ag B i s) x j ∧ t.2.2 = m) 6 (by decide) ?_ ?_ (by exact ⟨rfl, rfl, rfl⟩)
  · rintro j ⟨y, z, mm⟩ hj ⟨e1, e2, e3⟩
    dsimp only at e1 e2 e3
    subst e1 e2 e3
    unfold b_X5_solve_59
    dsimp only
    rw [if_neg (by omega), q_through hs hp ho hg hi hs6 hj hB, Option.bind_some, q_max, Option.bind_some, rq_n1 (by omega)]
    exact rq_some.mpr (rq_inl ⟨rfl, rfl, rfl⟩)
  · rintro ⟨y, z, mm⟩ ⟨e1, e2, e3⟩
    dsimp only at e1 e2 e3
    subst e1 e2 e3
    unfold b_X5_solve_59
    dsimp only
    rw [if_pos (by omega)]
    exact rq_some.mpr (rq_inre rfl)
theorem q_solve2 (hs : rq_st m) (hp : rq_rwp o g ag n m) (ho : ∀ i, o i < 64) (hg : ∀ i ch, 0 ≤ g i ch ∧ g i ch ≤ 1000) {i : Nat} (hi : i < 6) (hB : ∀ t, t < 64 → m (140 + (i + 1)) t = B t ∧ 0 ≤ B t ∧ B t ≤ 100000) : rq (rt_it (b_X5_solve_39 ((130 : Nat) : Int) (i : Int)) 4000 (0, m)) (fun m1 => (∀ s, s < 64 → m1 (140 + i) s = rq_mx (rq_th o g ag B i s) (B s) 6) ∧ rq_fr (fun k _ => k == 140 + i) m m1) := by
  have bk := q_bk i (by omega)
  have bk1 := q_bk (i + 1) (by omega)
  refine rq_up (fun j s => s.1 = (j : Int) ∧ rq_fr (fun k _ => k == 140 + i) m s.2 ∧ ∀ t, t < j → s.2 (140 + i) t = rq_mx (rq_th o g ag B i t) (B t) 6) 64 (by decide) ?_ ?_ (by exact ⟨rfl, rq_fr.rfl, fun j hj => absurd hj (Nat.not_lt_zero _)⟩)
  · rintro j ⟨x, mm⟩ hj ⟨e1, hf, hz⟩
    dsimp only at e1 hf hz
    subst e1
    have f1 := rq_140 (by omega) hf
    have hs1 := rq_st_140 hs f1
    have hp1 := rq_rwp_fr hp f1
    have hB1 : ∀ t, t < 64 → mm (140 + (i + 1)) t = B t ∧ 0 ≤ B t ∧ B t ≤ 100000 := fun t ht => by
      rw [hf (140 + (i + 1)) t (by simp only [beq_eq_false_iff_ne]; omega)]; exact hB t ht
    unfold b_X5_solve_39
    dsimp only
    rw [if_neg (by omega), q_g5, Option.bind_some, pt_130_4 hs1, show (139 : Int) = ((139 : Nat) : Int) from rfl, rq_n1 (by omega), q_al kd_139 ln_139 (show i + 1 < 7 by omega), Option.bind_some, hs1 _ bk1.1, q_al bk1.2.1 bk1.2.2 hj, Option.bind_some, (hB1 j hj).1]
    refine rq_call (q_solve3 hs1 hp1 ho hg hi hj hB1 (B j)) ?_
    rintro e rfl
    dsimp only
    rw [q_g5, Option.bind_some, pt_130_4 hs1, show (139 : Int) = ((139 : Nat) : Int) from rfl, q_al kd_139 ln_139 (show i < 7 by omega), Option.bind_some, hs1 _ bk.1, q_sa bk.2.1 bk.2.2 hj, Option.bind_some, rq_n1 (by omega)]
    refine rq_some.mpr (rq_inl ⟨rfl, hf.up (by simp), fun t ht => ?_⟩)
    dsimp only
    rw [q_up]
    by_cases z : t = j
    · rw [if_pos ⟨rfl, z⟩, z]
    · rw [if_neg (fun y => z y.2)]; exact hz t (by omega)
  · rintro ⟨x, mm⟩ ⟨e1, hf, hz⟩
    dsimp only at e1 hf hz
    unfold b_X5_solve_39
    dsimp only
    rw [if_pos (by omega)]
    exact rq_some.mpr (rq_inre ⟨hz, hf⟩)
/-- the choice of step i, s chosen ahead of it; the set ahead of step i -/
def rq_ch (o : Nat → Nat) (g : Nat → Nat → Int) (ag : Bool) (n i s : Nat) : Int := rq_fst (fun ch => rq_th o g ag (rq_bs o g ag n (n - 1 - i)) i s ch == rq_bs o g ag n (n - i) s) 6
def rq_ss (o : Nat → Nat) (g : Nat → Nat → Int) (ag : Bool) (n : Nat) : Nat → Nat
  | 0 => 0
  | i + 1 => if rq_ch o g ag n i (rq_ss o g ag n i) = -1 then rq_ss o g ag n i else rq_ss o g ag n i ||| 2 ^ (rq_ch o g ag n i (rq_ss o g ag n i)).toNat
theorem rq_ch_b (i s : Nat) : -1 ≤ rq_ch o g ag n i s ∧ rq_ch o g ag n i s < 6 := by
  unfold rq_ch
  rcases rq_fst_cases (fun ch => rq_th o g ag (rq_bs o g ag n (n - 1 - i)) i s ch == rq_bs o g ag n (n - i) s) 6 with ⟨j, hj, e, -⟩ | ⟨e, -⟩
  · rw [e]; omega
  · rw [e]; decide
theorem rq_ss_b : ∀ i, rq_ss o g ag n i < 64
  | 0 => by show 0 < 64; decide
  | i + 1 => by
    have a := rq_ss_b i
    have b := rq_ch_b (o := o) (g := g) (ag := ag) (n := n) i (rq_ss o g ag n i)
    show (if _ then _ else _) < 64
    split
    · exact a
    · refine Nat.or_lt_two_pow (n := 6) a ?_
      exact Nat.pow_lt_pow_right (by decide) (by omega)
theorem q_keep1 (hs : rq_st m) (hp : rq_rwp o g ag n m) (ho : ∀ i, o i < 64) (hg : ∀ i ch, 0 ≤ g i ch ∧ g i ch ≤ 1000) {i s : Nat} (hi : i < n) (hn : n ≤ 6) (hs6 : s < 64) (hB : ∀ t, t < 64 → m (140 + (i + 1)) t = rq_bs o g ag n (n - 1 - i) t) (h47 : m 147 i = -1) : rq (rt_it (b_X5_keepFirstRow_24 ((130 : Nat) : Int) (i : Int) (rq_bs o g ag n (n - i) s)) 4000 ((s : Int), 0, m)) (fun e => e = if rq_ch o g ag n i s = -1 then ((s : Int), m) else (((s ||| 2 ^ (rq_ch o g ag n i s).toNat : Nat) : Int), rt_up m 147 i (rq_ch o g ag n i s))) := by
  have hB' : ∀ t, t < 64 → m (140 + (i + 1)) t = rq_bs o g ag n (n - 1 - i) t ∧ 0 ≤ rq_bs o g ag n (n - 1 - i) t ∧ rq_bs o g ag n (n - 1 - i) t ≤ 100000 := fun t ht => by
    have := rq_bs_b (o := o) (ag := ag) (n := n) hg (n - 1 - i) t
    exact ⟨hB t ht, this.1, by omega⟩
  have i6 : i < 6 := by omega
  refine rq_up (fun j t => t.2.1 = (j : Int) ∧ ((t.1 = (s : Int) ∧ t.2.2 = m ∧ ∀ c, c < j → (rq_th o g ag (rq_bs o g ag n (n - 1 - i)) i s c == rq_bs o g ag n (n - i) s) = false) ∨ (rq_ch o g ag n i s ≠ -1 ∧ t.1 = ((s ||| 2 ^ (rq_ch o g ag n i s).toNat : Nat) : Int) ∧ t.2.2 = rt_up m 147 i (rq_ch o g ag n i s)))) 6 (by decide) ?_ ?_ (by exact ⟨rfl, Or.inl ⟨rfl, rfl, fun j hj => absurd hj (Nat.not_lt_zero _)⟩⟩)
  · rintro j ⟨x, y, mm⟩ hj ⟨e1, hh⟩
    dsimp only at e1 hh
    subst e1
    unfold b_X5_keepFirstRow_24 j_X5_keepFirstRow_68_24
    dsimp only
    rw [if_neg (by omega)]
    rcases hh with ⟨e2, e3, hno⟩ | ⟨hc, e2, e3⟩
    · subst e2 e3
      rw [q_g5, Option.bind_some, pt_130_5 hs, show (147 : Int) = ((147 : Nat) : Int) from rfl, q_al kd_147 ln_147 i6, Option.bind_some, h47, if_pos rfl, q_through hs hp ho hg i6 hs6 hj hB', Option.bind_some, rq_n1 (by omega)]
      by_cases z : rq_th o g ag (rq_bs o g ag n (n - 1 - i)) i s j = rq_bs o g ag n (n - i) s
      · have hch : rq_ch o g ag n i s = j := rq_fst_some hj (by simp [z]) hno
        rw [if_pos z, Option.bind_some, q_sa kd_147 ln_147 i6, Option.bind_some, rq_sb s (by omega) j (by omega)]
        refine rq_some.mpr (rq_inl ⟨rfl, Or.inr ⟨by omega, ?_, ?_⟩⟩)
        · rw [hch, Int.toNat_natCast]
        · rw [hch]
      · rw [if_neg z]
        refine rq_some.mpr (rq_inl ⟨rfl, Or.inl ⟨rfl, rfl, fun c hc => ?_⟩⟩)
        by_cases y : c = j
        · rw [y]; simpa using z
        · exact hno c (by omega)
    · subst e2 e3
      have b := rq_ch_b (o := o) (g := g) (ag := ag) (n := n) i s
      have hs' : rq_st (rt_up m 147 i (rq_ch o g ag n i s)) := rq_st_fr hs (W := fun k _ => k == 147) (rq_fr.rfl.up rfl) (by decide +kernel)
      rw [q_g5, Option.bind_some, pt_130_5 hs', show (147 : Int) = ((147 : Nat) : Int) from rfl, q_al kd_147 ln_147 i6, Option.bind_some, show rt_up m 147 i (rq_ch o g ag n i s) 147 i = rq_ch o g ag n i s by rw [q_up, if_pos ⟨rfl, rfl⟩], if_neg hc]
      exact rq_some.mpr (rq_inr (by rw [if_neg hc]))
  · rintro ⟨x, y, mm⟩ ⟨e1, hh⟩
    dsimp only at e1 hh
    unfold b_X5_keepFirstRow_24
    dsimp only
    rw [if_pos (by omega)]
    rcases hh with ⟨e2, e3, hno⟩ | ⟨hc, e2, e3⟩
    · have : rq_ch o g ag n i s = -1 := rq_fst_none hno
      exact rq_some.mpr (rq_inre (by rw [if_pos this, e2, e3]))
    · exact rq_some.mpr (rq_inre (by rw [if_neg hc, e2, e3]))
end
