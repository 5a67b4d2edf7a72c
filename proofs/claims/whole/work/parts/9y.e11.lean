/-! Layer 3: an E, the reference's machine: operands -/
section
variable {m : rt_M} {s : Nat → Int} {n line b k : Nat}
theorem rq_tn_2 (hok : rq_okT s n) (hp : rq_bp s n b) : rq_tn s n b = 2 ↔ rq_kd s n b = 36 := by
  rcases rq_kd_c2 hok hp with ⟨t, k, z⟩ | ⟨t, hb, lt, v, k⟩ | ⟨t, hb, k, v, v1, v2⟩ | ⟨t, hb, W', w1, w2, k, es⟩ | ⟨t, hb, k⟩
  · exact ⟨fun q => by omega, fun q => by omega⟩
  · rcases k with ⟨k, -⟩ | ⟨W', hW', k, -⟩
    · exact ⟨fun q => by omega, fun q => by omega⟩
    · exact ⟨fun q => by omega, fun q => by omega⟩
  · exact ⟨fun _ => k, fun _ => t⟩
  · exact ⟨fun q => by omega, fun q => by omega⟩
  · exact ⟨fun q => by omega, fun q => by omega⟩
theorem q_r8 (hok : rq_okT s n) (h : rq_rH s n line b k m) (z : rq_kd s n b = 36) : m 248 8 = rq_vl s n b := by
  obtain ⟨-, -, ts, hp, -⟩ := h
  have t2 := (rq_tn_2 hok hp).mpr z
  rw [ts.2.2.2.2.2 t2]
  rcases rq_kd_c2 hok hp with ⟨t, k, z⟩ | ⟨t, hb, lt, v, k⟩ | ⟨t, hb, k, v, v1, v2⟩ | ⟨t, hb, W', w1, w2, k, es⟩ | ⟨t, hb, k⟩
  · omega
  · omega
  · exact v.symm
  · omega
  · omega
/-- the machine wants an operand -/
theorem q_r65 (hok : rq_okT s n) (h : rq_rH s n line b k m) (hl : line < 2) (d : Nat) : (rq_pb line (rq_kd s n b) = true → b_X12_reads_11 248 ((d : Int), 1, m) = j_X12_reads_65_11 248 d 1 (if rq_fc line (rq_kd s n b) = 0 then 0 else 3 * (line : Int) - rq_fc line (rq_kd s n b)) (if rq_kd s n b = 18 then 1 else 0) (if rq_kd s n b = 27 then 1 else 0) m) ∧ (¬ rq_pb line (rq_kd s n b) = true → rq (b_X12_reads_11 248 ((d : Int), 1, m)) (fun x => ∃ p, x = .inr p ∧ rq_fE m 1 b p)) := by
  have e24 := q_isWord hok h.2.2.2.1 h.2.2.1 (W := 18) (by decide) (c := 10631) (by decide)
  have e32 := q_isSign h.1 h.2.1 hok h.2.2.2.1 h.2.2.1 (W := 27) (by decide) (by decide) (c := 40) (by decide)
  have t2 := rq_tn_2 hok h.2.2.2.1
  have h6 := h.2.2.1.2.2.2.1
  unfold b_X12_reads_11
  dsimp only
  rw [if_neg (by decide), q_rfact hok h hl, Option.bind_some, e24, Option.bind_some, e32, Option.bind_some, q_gfr]
  have k18 : ((18 : Nat) : Int) = 18 := rfl
  have k27 : ((27 : Nat) : Int) = 27 := rfl
  rw [k18, k27]
  by_cases zf : rq_fc line (rq_kd s n b) = 0
  · rw [if_pos zf, if_pos rfl]
    by_cases z18 : rq_kd s n b = 18
    · have q := (rq_pb_c line (rq_kd s n b)).mpr (Or.inr (Or.inr (Or.inl z18)))
      rw [if_pos z18, if_neg (by decide)]
      exact ⟨fun _ => rfl, fun y => absurd q y⟩
    rw [if_neg z18, if_pos rfl]
    by_cases z27 : rq_kd s n b = 27
    · have q := (rq_pb_c line (rq_kd s n b)).mpr (Or.inr (Or.inr (Or.inr z27)))
      rw [if_pos z27, if_neg (by decide)]
      exact ⟨fun _ => rfl, fun y => absurd q y⟩
    rw [if_neg z27, if_pos rfl, Option.bind_some, h6]
    by_cases z36 : rq_kd s n b = 36
    · have q := (rq_pb_c line (rq_kd s n b)).mpr (Or.inr (Or.inl z36))
      rw [if_pos (t2.mpr z36)]
      exact ⟨fun _ => rfl, fun y => absurd q y⟩
    · rw [if_neg (fun q => z36 (t2.mp q))]
      refine ⟨fun q => ?_, fun _ => ?_⟩
      · exfalso
        rcases (rq_pb_c _ _).mp q with q | q | q | q
        · exact q zf
        · exact z36 q
        · exact z18 q
        · exact z27 q
      · obtain ⟨p, e, a⟩ := q_rfE hok h (c := 1) (by decide) (by decide)
        rw [e]
        exact rq_map.mpr (rq_some.mpr ⟨p, rfl, a⟩)
  · have q := (rq_pb_c line (rq_kd s n b)).mpr (Or.inl zf)
    have fb := rq_fc_b hl zf
    rw [if_neg zf, if_neg (by omega)]
    exact ⟨fun _ => rfl, fun y => absurd q y⟩
theorem q_r5 (hok : rq_okT s n) (h : rq_rH s n line b k m) (hl : line < 2) (z : rq_pb line (rq_kd s n b) = true) : rq (b_X12_reads_11 248 (((5 : Nat) : Int), 1, m)) (fun x => ∃ p, x = .inr p ∧ rq_fE m 5 b p) := by
  rw [(q_r65 hok h hl 5).1 z]
  unfold j_X12_reads_65_11
  rw [if_pos (show ((5 : Nat) : Int) = 5 from rfl)]
  obtain ⟨p, e, a⟩ := q_rfE hok h (c := 5) (by decide) (by decide)
  rw [e]
  exact rq_map.mpr (rq_some.mpr ⟨p, rfl, a⟩)
/-- a bracket opens, or NOT stands -/
theorem q_r86 (hok : rq_okT s n) (h : rq_rH s n line b k m) (hl : line < 2) {d : Nat} (hd : d < 5) (z : rq_kd s n b = 27 ∨ rq_kd s n b = 18) : rq (b_X12_reads_11 248 ((d : Int), 1, m)) (fun x => ∃ m1, x = .inl (((d + 1 : Nat) : Int), 1, m1) ∧ rq_spE s n line b k (if rq_kd s n b = 18 then 30 else 28) (fun j => if j = d + 1 then (if rq_kd s n b = 18 then 1 else 2) else m 264 j) (fun j => if j = d + 1 then 0 else m 265 j) m m1) := by
  have hb : b < n := rq_kd_lt (s := s) (by rcases z with z | z <;> omega)
  have hn := hok.1
  have h7 := h.2.2.2.2.2.2
  have q : rq_pb line (rq_kd s n b) = true := (rq_pb_c _ _).mpr (by
    rcases z with z | z
    · exact Or.inr (Or.inr (Or.inr z))
    · exact Or.inr (Or.inr (Or.inl z)))
  rw [(q_r65 hok h hl d).1 q]
  have n1 : rt_iadd (d : Int) 1 = ((d + 1 : Nat) : Int) := rq_n1 (by omega)
  have fin : ∀ c o a4 : Int, (if a4 = 0 then (2 : Int) else 1) = o → rq (j_X12_reads_99_11 248 d 1 a4 248 c m) (fun x => ∃ m1, x = .inl (((d + 1 : Nat) : Int), 1, m1) ∧ rq_spE s n line b k c (fun j => if j = d + 1 then o else m 264 j) (fun j => if j = d + 1 then 0 else m 265 j) m m1) := by
    intro c o a4 ho
    have f1 : rq_fr rq_w63 m (rt_up (rt_up m 263 k c) 248 24 ((k + 1 : Nat) : Int)) := (rq_fr.rfl.up (rq_w63_k h.2.2.2.2.2.2.2)).up rfl
    have s1 : rq_st (rt_up (rt_up m 263 k c) 248 24 ((k + 1 : Nat) : Int)) := rq_st_fr h.1 f1 (by decide +kernel)
    have key : rq (j_X12_reads_120_11 248 ((d + 1 : Nat) : Int) 1 264 ((d + 1 : Nat) : Int) o (rt_up (rt_up m 263 k c) 248 24 ((k + 1 : Nat) : Int))) (fun x => ∃ m1, x = .inl (((d + 1 : Nat) : Int), 1, m1) ∧ rq_spE s n line b k c (fun j => if j = d + 1 then o else m 264 j) (fun j => if j = d + 1 then 0 else m 265 j) m m1) := by
      have c1 := rq_co_put (m := m) (k := k) (c := c) (by omega)
      have g1 : ∀ a j, a = 264 ∨ a = 265 → rt_up (rt_up m 263 k c) 248 24 ((k + 1 : Nat) : Int) a j = m a j := fun a j q => by rw [q_up, if_neg (by omega), q_up, if_neg (by omega)]
      generalize rt_up (rt_up m 263 k c) 248 24 ((k + 1 : Nat) : Int) = M at f1 c1 g1 s1 ⊢
      unfold j_X12_reads_120_11 j_X12_reads_172_11
      rw [q_s8 (k := 264) _ 7 (show (264 : Int) = ((264 : Nat) : Int) from rfl) kd_264 ln_264 (show d + 1 < 7 by omega), Option.bind_some, q_gfr, Option.bind_some]
      have f2 : rq_fr rq_w63 m (rt_up M 264 (d + 1) o) := f1.up rfl
      have s2 : rq_st (rt_up M 264 (d + 1) o) := rq_st_fr h.1 f2 (by decide +kernel)
      rw [q_s3 _ (pt_248_28 s2) kd_265 ln_265 (show d + 1 < 7 by omega), Option.bind_some]
      have f3 : rq_fr rq_w63 m (rt_up (rt_up M 264 (d + 1) o) 265 (d + 1) 0) := f2.up rfl
      have g2 : ∀ a j, a ≠ 264 → a ≠ 265 → rt_up (rt_up M 264 (d + 1) o) 265 (d + 1) 0 a j = M a j := fun a j q1 q2 => by rw [q_up, if_neg (fun z => q2 z.1), q_up, if_neg (fun z => q1 z.1)]
      have g3 : ∀ j, rt_up (rt_up M 264 (d + 1) o) 265 (d + 1) 0 264 j = if j = d + 1 then o else M 264 j := fun j => by
        rw [q_up, if_neg (by omega), q_up]
        by_cases z : j = d + 1
        · rw [if_pos ⟨rfl, z⟩, if_pos z]
        · rw [if_neg (fun q => z q.2), if_neg z]
      have g4 : ∀ j, rt_up (rt_up M 264 (d + 1) o) 265 (d + 1) 0 265 j = if j = d + 1 then 0 else M 265 j := fun j => by
        rw [q_up]
        by_cases z : j = d + 1
        · rw [if_pos ⟨rfl, z⟩, if_pos z]
        · rw [if_neg (fun q => z q.2), if_neg z, q_up, if_neg (by omega)]
      generalize rt_up (rt_up M 264 (d + 1) o) 265 (d + 1) 0 = M2 at f3 g2 g3 g4 ⊢
      refine rq_call (q_rnx hok h hb f3 (rq_co_fr c1 (g2 248 24 (by decide) (by decide)) (fun i => g2 263 i (by decide) (by decide))) (fun j => by rw [g3 j, g1 264 j (Or.inl rfl)]) (fun j => by rw [g4 j, g1 265 j (Or.inr rfl)])) ?_
      intro m1 a
      exact rq_some.mpr ⟨m1, rfl, a⟩
    unfold j_X12_reads_99_11
    rw [q_gd12, q_puts h.1 h.2.2.2.2.2.1 (by omega), Option.bind_some, q_gfr, Option.bind_some, pt_248_27 s1, n1]
    by_cases y : a4 = 0
    · rw [if_pos y] at ho ⊢
      subst ho
      exact key
    · rw [if_neg y] at ho ⊢
      subst ho
      exact key
  unfold j_X12_reads_65_11
  rw [if_neg (show ¬ (d : Int) = 5 by omega)]
  by_cases z18 : rq_kd s n b = 18
  · rw [if_pos z18, if_pos z18, if_pos z18, if_neg (by decide)]
    unfold j_X12_reads_86_11
    rw [if_neg (by decide)]
    exact fin 30 1 1 rfl
  · have z27 : rq_kd s n b = 27 := by rcases z with z | z <;> omega
    rw [if_neg z18, if_neg z18, if_neg z18, if_pos rfl, if_pos z27, if_neg (by decide)]
    unfold j_X12_reads_86_11
    rw [if_pos rfl]
    exact fin 28 2 0 rfl
/-- a number or a fact -/
theorem q_r147 (hok : rq_okT s n) (h : rq_rH s n line b k m) (hl : line < 2) {d : Nat} (hd : d < 5) (z : rq_pb line (rq_kd s n b) = true) (z27 : rq_kd s n b ≠ 27) (z18 : rq_kd s n b ≠ 18) : rq (b_X12_reads_11 248 ((d : Int), 1, m)) (fun x => ∃ m1 c, x = .inl (((rq_po m d : Nat) : Int), 0, m1) ∧ (rq_lf line (rq_kd s n b) (rq_vl s n b)).2.1 = [c] ∧ rq_spE s n line b k c (m 264) (m 265) m m1) := by
  have hb := rq_pb_lt hl z
  have hn := hok.1
  have h7 := h.2.2.2.2.2.2
  rw [(q_r65 hok h hl d).1 z]
  have fin : ∀ c : Int, (rq_lf line (rq_kd s n b) (rq_vl s n b)).2.1 = [c] → rq (j_X12_reads_147_11 248 d 248 c m) (fun x => ∃ m1 c, x = .inl (((rq_po m d : Nat) : Int), 0, m1) ∧ (rq_lf line (rq_kd s n b) (rq_vl s n b)).2.1 = [c] ∧ rq_spE s n line b k c (m 264) (m 265) m m1) := by
    intro c hc
    have f1 : rq_fr rq_w63 m (rt_up (rt_up m 263 k c) 248 24 ((k + 1 : Nat) : Int)) := (rq_fr.rfl.up (rq_w63_k h.2.2.2.2.2.2.2)).up rfl
    have s1 : rq_st (rt_up (rt_up m 263 k c) 248 24 ((k + 1 : Nat) : Int)) := rq_st_fr h.1 f1 (by decide +kernel)
    unfold j_X12_reads_147_11
    rw [q_gd12, q_puts h.1 h.2.2.2.2.2.1 (by omega), Option.bind_some]
    have c1 := rq_co_put (m := m) (k := k) (c := c) (by omega)
    have g1 : ∀ a j, a = 264 ∨ a = 265 → rt_up (rt_up m 263 k c) 248 24 ((k + 1 : Nat) : Int) a j = m a j := fun a j q => by rw [q_up, if_neg (by omega), q_up, if_neg (by omega)]
    generalize rt_up (rt_up m 263 k c) 248 24 ((k + 1 : Nat) : Int) = M at f1 c1 g1 s1 ⊢
    rw [(q_rpop s1 0 d 4000 (by omega) (by omega)).2, Option.bind_some, rq_po_e d (fun j _ => g1 264 j (Or.inl rfl))]
    unfold j_X12_reads_172_11
    refine rq_call (q_rnx hok h hb f1 c1 (fun j => g1 264 j (Or.inl rfl)) (fun j => g1 265 j (Or.inr rfl))) ?_
    intro m1 a
    exact rq_some.mpr ⟨m1, c, rfl, hc, a⟩
  unfold j_X12_reads_65_11
  rw [if_neg (show ¬ (d : Int) = 5 by omega), if_neg z18, if_pos rfl, if_neg z27, if_pos rfl]
  by_cases z36 : rq_kd s n b = 36
  · have zf : rq_fc line (rq_kd s n b) = 0 := by
      unfold rq_fc
      rw [if_neg (by omega), if_neg (by omega), if_neg (by omega)]
    have vb := rq_vl_36 hok h.2.2.2.1 z36
    rw [if_pos zf, if_pos (Int.le_refl 0), q_gfr, Option.bind_some, q_r8 hok h z36, rq_iadd (by omega) (by omega)]
    refine fin _ ?_
    unfold rq_lf
    rw [if_pos z36]
  · have zf : rq_fc line (rq_kd s n b) ≠ 0 := by
      rcases (rq_pb_c _ _).mp z with q | q | q | q
      · exact q
      · exact absurd q z36
      · exact absurd q z18
      · exact absurd q z27
    have fb := rq_fc_b hl zf
    rw [if_neg zf, if_neg (by omega)]
    refine fin _ ?_
    unfold rq_lf
    rw [if_neg z36]
end
