/-! Layer 3: the class's rows: the first row of the most gain -/
section
variable {o : Nat → Nat} {g : Nat → Nat → Int} {ag : Bool} {n : Nat} {m : rt_M}
def rq_w147 (k j : Nat) : Bool := rq_w140 k j || k == 147
theorem rq_w147_st : (rq_P.all fun p => !(rq_w147 p.1 p.2.1)) = true := by decide +kernel
theorem rq_rwp_147 {m' : rt_M} (hp : rq_rwp o g ag n m) (hf : rq_fr (fun k _ => k == 147) m m') : rq_rwp o g ag n m' := by
  refine ⟨by rw [hf 130 0 rfl]; exact hp.1, by rw [hf 130 1 rfl]; exact hp.2.1, fun i hi => ⟨by rw [hf 131 i rfl]; exact (hp.2.2 i hi).1, fun j hj ob => ?_⟩⟩
  rw [hf (133 + i) j (by simp only [beq_eq_false_iff_ne]; omega)]
  exact (hp.2.2 i hi).2 j hj ob
theorem q_keep (hs : rq_st m) (hp : rq_rwp o g ag n m) (ho : ∀ i, o i < 64) (hg : ∀ i ch, 0 ≤ g i ch ∧ g i ch ≤ 1000) (hn : n ≤ 6) (hB : ∀ j, j ≤ n → ∀ t, t < 64 → m (140 + (n - j)) t = rq_bs o g ag n j t) (h47 : ∀ i, i < 6 → m 147 i = -1) : rq (f_X5_keepFirstRow ((130 : Nat) : Int) m) (fun m1 => (∀ i, i < 6 → m1 147 i = if i < n then rq_ch o g ag n i (rq_ss o g ag n i) else -1) ∧ rq_fr (fun k _ => k == 147) m m1) := by
  unfold f_X5_keepFirstRow
  refine rq_call (rq_up (Q := fun m1 => (∀ i, i < 6 → m1 147 i = if i < n then rq_ch o g ag n i (rq_ss o g ag n i) else -1) ∧ rq_fr (fun k _ => k == 147) m m1) (fun i s => s.2.1 = (i : Int) ∧ s.1 = ((rq_ss o g ag n i : Nat) : Int) ∧ (∀ j, j < 6 → s.2.2 147 j = if j < i then rq_ch o g ag n j (rq_ss o g ag n j) else -1) ∧ rq_fr (fun k _ => k == 147) m s.2.2) n (by omega) ?_ ?_ (by exact ⟨rfl, rfl, fun j hj => by rw [if_neg (Nat.not_lt_zero _)]; exact h47 j hj, rq_fr.rfl⟩)) (fun e q => rq_some.mpr q)
  · rintro i ⟨x, y, mm⟩ hi ⟨e1, e2, h7, hf⟩
    dsimp only at e1 e2 h7 hf
    subst e1 e2
    have hs1 : rq_st mm := rq_st_fr hs hf (by decide +kernel)
    have hp1 := rq_rwp_147 hp hf
    have sb := rq_ss_b (o := o) (g := g) (ag := ag) (n := n) i
    have bk := q_bk i (by omega)
    have hB1 : ∀ j, j ≤ n → ∀ t, t < 64 → mm (140 + (n - j)) t = rq_bs o g ag n j t := fun j hj t ht => by
      rw [hf _ t (by simp only [beq_eq_false_iff_ne]; omega)]; exact hB j hj t ht
    have b1 := hB1 (n - i) (by omega) _ sb
    rw [show n - (n - i) = i by omega] at b1
    have b2 : ∀ t, t < 64 → mm (140 + (i + 1)) t = rq_bs o g ag n (n - 1 - i) t := fun t ht => by
      have := hB1 (n - 1 - i) (by omega) t ht
      rw [show n - (n - 1 - i) = i + 1 by omega] at this
      exact this
    unfold b_X5_keepFirstRow_4
    simp only [q_g5, Option.bind_some, hp1.1]
    rw [if_neg (by omega), pt_130_4 hs1, show (139 : Int) = ((139 : Nat) : Int) from rfl, q_al kd_139 ln_139 (show i < 7 by omega), Option.bind_some, hs1 _ bk.1, q_al bk.2.1 bk.2.2 sb, Option.bind_some, b1]
    refine rq_call (q_keep1 hs1 hp1 ho hg hi hn sb b2 (by rw [h7 i (by omega), if_neg (Nat.lt_irrefl _)])) ?_
    rintro e rfl
    have cb := rq_ch_b (o := o) (g := g) (ag := ag) (n := n) i (rq_ss o g ag n i)
    rw [rq_n1 (by omega)]
    refine rq_some.mpr (rq_inl ?_)
    by_cases z : rq_ch o g ag n i (rq_ss o g ag n i) = -1
    · rw [if_pos z]
      refine ⟨rfl, ?_, fun j hj => ?_, hf⟩
      · show _ = ((if _ then _ else _ : Nat) : Int)
        rw [if_pos z]
      · show mm 147 j = _
        rw [h7 j hj]
        by_cases y : j = i
        · rw [y, if_neg (Nat.lt_irrefl _), if_pos (Nat.lt_succ_self _), z]
        · by_cases w : j < i
          · rw [if_pos w, if_pos (by omega)]
          · rw [if_neg w, if_neg (by omega)]
    · rw [if_neg z]
      refine ⟨rfl, ?_, fun j hj => ?_, hf.up rfl⟩
      · show _ = ((if _ then _ else _ : Nat) : Int)
        rw [if_neg z]
      · show rt_up mm 147 i _ 147 j = _
        rw [q_up]
        by_cases y : j = i
        · rw [if_pos ⟨rfl, y⟩, y, if_pos (Nat.lt_succ_self _)]
        · rw [if_neg (fun q => y q.2), h7 j hj]
          by_cases w : j < i
          · rw [if_pos w, if_pos (by omega)]
          · rw [if_neg w, if_neg (by omega)]
  · rintro ⟨x, y, mm⟩ ⟨e1, e2, h7, hf⟩
    dsimp only at e1 e2 h7 hf
    have hp1 := rq_rwp_147 hp hf
    unfold b_X5_keepFirstRow_4
    simp only [q_g5, Option.bind_some, hp1.1]
    rw [if_pos (by omega)]
    exact rq_some.mpr (rq_inre ⟨h7, hf⟩)
theorem q_solve (hs : rq_st m) (hp : rq_rwp o g ag n m) (ho : ∀ i, o i < 64) (hg : ∀ i ch, 0 ≤ g i ch ∧ g i ch ≤ 1000) (hn : n ≤ 6) (h47 : ∀ i, i < 6 → m 147 i = -1) : rq (f_X5_solve ((130 : Nat) : Int) m) (fun p => p.1 = rq_bs o g ag n n 0 ∧ (∀ i, i < 6 → p.2 147 i = if i < n then rq_ch o g ag n i (rq_ss o g ag n i) else -1) ∧ rq_fr rq_w147 m p.2) := by
  unfold f_X5_solve
  refine rq_call (q_solve1 hs hp.1 hn) ?_
  rintro m1 ⟨z1, f1⟩
  have hs1 := rq_st_140 hs f1
  have hp1 := rq_rwp_fr hp f1
  rw [q_g5, Option.bind_some, hp1.1, rq_isub (by omega) (by omega)]
  refine rq_call (rq_up (Q := fun m2 => (∀ j, j ≤ n → ∀ t, t < 64 → m2 (140 + (n - j)) t = rq_bs o g ag n j t) ∧ rq_fr rq_w140 m1 m2) (fun k s => s.1 = (n : Int) - 1 - k ∧ (∀ j, j ≤ k → ∀ t, t < 64 → s.2 (140 + (n - j)) t = rq_bs o g ag n j t) ∧ rq_fr rq_w140 m1 s.2) n (by omega) ?_ ?_ ?_) ?_
  · rintro k ⟨x, mm⟩ hk ⟨e1, hB, hf⟩
    dsimp only at e1 hB hf
    obtain ⟨i, hi⟩ : ∃ i : Nat, i = n - 1 - k := ⟨_, rfl⟩
    have e1 : x = (i : Int) := by omega
    subst e1
    have hs2 := rq_st_140 hs1 hf
    have hp2 := rq_rwp_fr hp1 hf
    unfold b_X5_solve_33
    dsimp only
    rw [if_neg (by omega)]
    refine rq_call (q_solve2 (B := rq_bs o g ag n k) hs2 hp2 ho hg (i := i) (by omega) (fun t ht => ?_)) ?_
    · have a := hB k (Nat.le_refl k) t ht
      rw [show n - k = i + 1 by omega] at a
      have b := rq_bs_b (o := o) (ag := ag) (n := n) hg k t
      exact ⟨a, b.1, by omega⟩
    · rintro m3 ⟨h3, f3⟩
      rw [rq_iadd (by omega) (by omega)]
      refine rq_some.mpr (rq_inl ⟨by show (i : Int) + -1 = _; omega, fun j hj t ht => ?_, hf.trans (rq_140 (by omega) f3)⟩)
      show m3 _ t = _
      by_cases y : j = k + 1
      · rw [y, show n - (k + 1) = i by omega, h3 t ht, hi]
        rfl
      · rw [f3 _ t (by simp only [beq_eq_false_iff_ne]; omega)]
        exact hB j (by omega) t ht
  · rintro ⟨x, mm⟩ ⟨e1, hB, hf⟩
    dsimp only at e1 hB hf
    unfold b_X5_solve_33
    dsimp only
    rw [if_pos (by omega)]
    exact rq_some.mpr (rq_inre ⟨hB, hf⟩)
  · refine ⟨by show (n : Int) - 1 = _; omega, fun j hj t ht => ?_, rq_fr.rfl⟩
    have : j = 0 := by omega
    rw [this]
    exact z1 t ht
  · rintro m2 ⟨hB, f2⟩
    have hs2 := rq_st_140 hs1 f2
    have hp2 := rq_rwp_fr hp1 f2
    have f12 := f1.trans f2
    refine rq_call (q_keep hs2 hp2 ho hg hn hB (fun i hi => by rw [f12 147 i rfl]; exact h47 i hi)) ?_
    rintro m3 ⟨h3, f3⟩
    have hs3 : rq_st m3 := rq_st_fr hs2 f3 (by decide +kernel)
    have bk := q_bk 0 (by decide)
    have b0 := hB n (Nat.le_refl n) 0 (by decide)
    rw [show n - n = 0 by omega] at b0
    rw [q_g5, Option.bind_some, pt_130_4 hs3, show (139 : Int) = ((139 : Nat) : Int) from rfl, show (0 : Int) = ((0 : Nat) : Int) from rfl, q_al kd_139 ln_139 (by decide), Option.bind_some, hs3 _ bk.1, q_al bk.2.1 bk.2.2 (by decide), Option.bind_some, f3 _ 0 rfl]
    refine rq_some.mpr ⟨b0, h3, fun k j q => ?_⟩
    unfold rq_w147 at q
    simp only [Bool.or_eq_false_iff] at q
    show m3 k j = m k j
    rw [f3 k j q.2, f12 k j q.1]
end
