/-! Layer 3: fill, a leaf of the reference's search -/
section
variable {m : rt_M}
theorem q_fleaf (hs : rq_st m) (f : Int → Int → Int → Int → rt_M → Option rt_M) : rq (rt_it (b_X12_fillsFrom_27 f 248) 4000 (0, m)) (fun m1 => (∀ w, w < 6 → m1 291 w = m 290 w) ∧ rq_fr (fun k _ => k == 291) m m1) := by
  refine rq_up (fun i s => s.1 = (i : Int) ∧ (∀ w, w < i → s.2 291 w = m 290 w) ∧ rq_fr (fun k _ => k == 291) m s.2) 6 (by decide) ?_ ?_ (by exact ⟨rfl, fun w hj => absurd hj (Nat.not_lt_zero _), rq_fr.rfl⟩)
  · rintro i ⟨x, mm⟩ hi ⟨e1, e2, hf⟩
    dsimp only at e1 e2 hf
    subst e1
    have hs1 : rq_st mm := rq_st_fr hs hf (by decide +kernel)
    unfold b_X12_fillsFrom_27
    dsimp only
    rw [if_neg (by omega), q_gfr, Option.bind_some, q_gfr, Option.bind_some, q_a8 (k := 290) _ 6 (pt_248_56 hs1) kd_290 ln_290 hi, Option.bind_some, q_s8 (k := 291) _ 6 (pt_248_57 hs1) kd_291 ln_291 hi, Option.bind_some, rq_n1 (by omega)]
    refine rq_some.mpr (rq_inl ⟨rfl, fun w hw => ?_, hf.up rfl⟩)
    show rt_up mm 291 i _ 291 w = _
    rw [q_up]
    by_cases z : w = i
    · rw [if_pos ⟨rfl, z⟩, z, hf 290 i rfl]
    · rw [if_neg (fun y => z y.2)]; exact e2 w (by omega)
  · rintro ⟨x, mm⟩ ⟨e1, e2, hf⟩
    dsimp only at e1 e2 hf
    unfold b_X12_fillsFrom_27
    dsimp only
    rw [if_pos (by omega)]
    exact rq_some.mpr (rq_inre ⟨e2, hf⟩)
end
