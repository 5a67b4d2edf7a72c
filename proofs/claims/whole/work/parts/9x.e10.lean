/-! Layer 3: an E, the reference's machine: joints, ends, operands -/
section
variable {m : rt_M} {s : Nat → Int} {n line b k : Nat}
/-- a place that fails -/
def rq_fE (m : rt_M) (c : Int) (b : Nat) (p : Int × rt_M) : Prop := p.1 = 0 ∧ p.2 248 9 = c + 16 * (b : Int) ∧ rq_fr rq_wRe m p.2
theorem q_rfE (hok : rq_okT s n) (h : rq_rH s n line b k m) {c : Int} (h0 : 0 ≤ c) (h9 : c ≤ 9) : ∃ p, ((f_X12_fails 248 c m).bind fun p => (rt_bz p.1).bind fun _ => some (p.1, p.2)) = some p ∧ rq_fE m c b p := by
  refine ⟨(0, rt_up m 248 9 (c + 16 * (b : Int))), ?_, rfl, ?_, ?_⟩
  · rw [q_fails h.2.2.1 hok.1 h0 h9, Option.bind_some, q_bz0]
  · exact rq_upE m 248 9 _
  · exact rq_fr.rfl.up rfl
theorem q_r324 (hok : rq_okT s n) (h : rq_rH s n line b k m) {d : Nat} (hd : d ≤ 5) (hj : rq_jk 0 (rq_kd s n b) ≠ 0) : rq (b_X12_reads_11 248 ((d : Int), 0, m)) (fun x => ∃ m1, x = .inl ((d : Int), 1, m1) ∧ rq_spE s n line b k (rq_cd (rq_jk 0 (rq_kd s n b))) (m 264) (fun j => if j = d then 0 else m 265 j) m m1) := by
  have hb := rq_jk_37 hj
  have hn := hok.1
  have h7 := h.2.2.2.2.2.2
  obtain ⟨p1, p0⟩ := q_wd hok h 19 1111 (by decide) (by decide)
  obtain ⟨q1, q0⟩ := q_wd hok h 20 423 (by decide) (by decide)
  have fin : ∀ c : Int, rq (j_X12_reads_342_11 248 d 248 c m) (fun x => ∃ m1, x = .inl ((d : Int), 1, m1) ∧ rq_spE s n line b k c (m 264) (fun j => if j = d then 0 else m 265 j) m m1) := by
    intro c
    unfold j_X12_reads_342_11 j_X12_reads_424_11
    have f1 : rq_fr rq_w63 m (rt_up (rt_up m 263 k c) 248 24 ((k + 1 : Nat) : Int)) := (rq_fr.rfl.up (rq_w63_k h.2.2.2.2.2.2.2)).up rfl
    have s1 : rq_st (rt_up (rt_up m 263 k c) 248 24 ((k + 1 : Nat) : Int)) := rq_st_fr h.1 f1 (by decide +kernel)
    rw [q_gd12, q_puts h.1 h.2.2.2.2.2.1 (by omega), Option.bind_some, q_gfr, Option.bind_some, q_s3 _ (pt_248_28 s1) kd_265 ln_265 (show d < 7 by omega), Option.bind_some]
    have c1 := rq_co_put (m := m) (k := k) (c := c) (by omega)
    have g1 : ∀ a j, a = 264 ∨ a = 265 → rt_up (rt_up m 263 k c) 248 24 ((k + 1 : Nat) : Int) a j = m a j := fun a j q => by rw [q_up, if_neg (by omega), q_up, if_neg (by omega)]
    generalize rt_up (rt_up m 263 k c) 248 24 ((k + 1 : Nat) : Int) = M at f1 c1 g1 ⊢
    have g2 : ∀ a j, a ≠ 265 → rt_up M 265 d 0 a j = M a j := fun a j q => by rw [q_up, if_neg (fun z => q z.1)]
    have g3 : ∀ j, rt_up M 265 d 0 265 j = if j = d then 0 else M 265 j := fun j => by
      rw [q_up]
      by_cases z : j = d
      · rw [if_pos ⟨rfl, z⟩, if_pos z]
      · rw [if_neg (fun q => z q.2), if_neg z]
    have f2 : rq_fr rq_w63 m (rt_up M 265 d 0) := f1.up rfl
    generalize rt_up M 265 d 0 = M2 at f2 g2 g3 ⊢
    refine rq_call (q_rnx hok h hb f2 (rq_co_fr c1 (g2 248 24 (by decide)) (fun i => g2 263 i (by decide))) (fun j => by rw [g2 264 j (by decide), g1 264 j (Or.inl rfl)]) (fun j => by rw [g3 j, g1 265 j (Or.inr rfl)])) ?_
    intro m1 a
    exact rq_some.mpr ⟨m1, rfl, a⟩
  have kc : (rq_kd s n b = 19 ∧ rq_jk 0 (rq_kd s n b) = -5) ∨ (rq_kd s n b = 20 ∧ rq_jk 0 (rq_kd s n b) = -6) := by
    unfold rq_jk at hj ⊢
    rw [if_pos rfl] at hj ⊢
    by_cases z1 : rq_kd s n b = 19
    · rw [if_pos z1]; exact Or.inl ⟨z1, rfl⟩
    · rw [if_neg z1] at hj ⊢
      by_cases z2 : rq_kd s n b = 20
      · rw [if_pos z2]; exact Or.inr ⟨z2, rfl⟩
      · rw [if_neg z2] at hj; exact absurd rfl hj
  rw [q_r304 hok h hd (by rcases kc with ⟨z, -⟩ | ⟨z, -⟩ <;> omega) (fun q => by rcases kc with ⟨z, -⟩ | ⟨z, -⟩ <;> omega)]
  unfold j_X12_reads_304_11
  rcases kc with ⟨z, e⟩ | ⟨z, e⟩
  · rw [e, p1 z, Option.bind_some, if_neg (by decide)]
    unfold j_X12_reads_324_11
    rw [p1 z, Option.bind_some, if_neg (by decide)]
    exact fin 26
  · rw [e, p0 (by omega), Option.bind_some, if_pos rfl, q1 z, Option.bind_some, if_neg (by decide)]
    unfold j_X12_reads_324_11
    rw [p0 (by omega), Option.bind_some, if_pos rfl]
    exact fin 27
/-- behind an E within brackets -/
theorem q_rcl (hok : rq_okT s n) (h : rq_rH s n line b k m) {d : Nat} (hd : d + 1 ≤ 5) (k1 : rq_kd s n b ≠ 31 ∧ rq_kd s n b ≠ 32 ∧ rq_kd s n b ≠ 33) (k2 : (rq_kd s n b = 29 ∨ rq_kd s n b = 30) → m 265 (d + 1) ≠ 0) (k3 : rq_kd s n b ≠ 19 ∧ rq_kd s n b ≠ 20) : (rq_kd s n b = 28 → rq (b_X12_reads_11 248 (((d + 1 : Nat) : Int), 0, m)) (fun x => ∃ m1, x = .inl (((rq_po m d : Nat) : Int), 0, m1) ∧ rq_spE s n line b k 29 (m 264) (m 265) m m1)) ∧ (rq_kd s n b ≠ 28 → rq (b_X12_reads_11 248 (((d + 1 : Nat) : Int), 0, m)) (fun x => ∃ p, x = .inr p ∧ rq_fE m 1 b p)) := by
  have hn := hok.1
  have h7 := h.2.2.2.2.2.2
  obtain ⟨p1, p0⟩ := q_wd hok h 19 1111 (by decide) (by decide)
  obtain ⟨q1, q0⟩ := q_wd hok h 20 423 (by decide) (by decide)
  obtain ⟨r1, r0⟩ := q_sg hok h 28 41 (by decide) (by decide) (by decide)
  rw [q_r304 hok h hd k1 k2]
  clear k2
  unfold j_X12_reads_304_11
  rw [p0 k3.1, Option.bind_some, if_pos rfl, q0 k3.2, Option.bind_some, if_pos rfl]
  constructor
  · intro z
    have hb : b < n := rq_kd_lt (s := s) (by omega)
    have f1 : rq_fr rq_w63 m (rt_up (rt_up m 263 k 29) 248 24 ((k + 1 : Nat) : Int)) := (rq_fr.rfl.up (rq_w63_k h.2.2.2.2.2.2.2)).up rfl
    have s1 : rq_st (rt_up (rt_up m 263 k 29) 248 24 ((k + 1 : Nat) : Int)) := rq_st_fr h.1 f1 (by decide +kernel)
    rw [r1 z, Option.bind_some, if_neg (by decide), if_neg (by omega), q_puts h.1 h.2.2.2.2.2.1 (by omega), Option.bind_some, show rt_iadd ((d + 1 : Nat) : Int) (-1) = (d : Int) by rw [rq_iadd (by omega) (by omega)]; omega]
    have c1 := rq_co_put (m := m) (k := k) (c := 29) (by omega)
    have g1 : ∀ a j, a = 264 ∨ a = 265 → rt_up (rt_up m 263 k 29) 248 24 ((k + 1 : Nat) : Int) a j = m a j := fun a j q => by rw [q_up, if_neg (by omega), q_up, if_neg (by omega)]
    generalize rt_up (rt_up m 263 k 29) 248 24 ((k + 1 : Nat) : Int) = M at f1 c1 g1 s1 ⊢
    rw [(q_rpop s1 0 d 4000 (by omega) (by omega)).1, Option.bind_some, rq_po_e d (fun j _ => g1 264 j (Or.inl rfl))]
    unfold j_X12_reads_424_11
    refine rq_call (q_rnx hok h hb f1 c1 (fun j => g1 264 j (Or.inl rfl)) (fun j => g1 265 j (Or.inr rfl))) ?_
    intro m1 a
    exact rq_some.mpr ⟨m1, rfl, a⟩
  · intro z
    rw [r0 z, Option.bind_some, if_pos rfl]
    unfold j_X12_reads_399 j_X12_reads_418
    rw [if_neg (by omega)]
    obtain ⟨p, e, a⟩ := q_rfE hok h (c := 1) (by decide) (by decide)
    rw [e]
    exact rq_some.mpr ⟨p, rfl, a⟩
/-- behind an E at the end of its line -/
theorem q_rend (hok : rq_okT s n) (h : rq_rH s n line b k m) (k1 : rq_kd s n b ≠ 31 ∧ rq_kd s n b ≠ 32 ∧ rq_kd s n b ≠ 33) (k2 : (rq_kd s n b = 29 ∨ rq_kd s n b = 30) → m 265 0 ≠ 0) (k3 : rq_kd s n b ≠ 19 ∧ rq_kd s n b ≠ 20) : (rq_kd s n b = 34 → rq (b_X12_reads_11 248 (0, 0, m)) (fun x => ∃ m1, x = .inr (1, m1) ∧ rq_ts s n (rq_nxp s n b) m1 ∧ rq_fr rq_wN2 m m1)) ∧ (rq_kd s n b ≠ 34 → rq (b_X12_reads_11 248 (0, 0, m)) (fun x => ∃ p, x = .inr p ∧ rq_fE m 1 b p)) := by
  have hn := hok.1
  obtain ⟨p1, p0⟩ := q_wd hok h 19 1111 (by decide) (by decide)
  obtain ⟨q1, q0⟩ := q_wd hok h 20 423 (by decide) (by decide)
  obtain ⟨r1, r0⟩ := q_sg hok h 28 41 (by decide) (by decide) (by decide)
  obtain ⟨t1, t0⟩ := q_sg hok h 34 59 (by decide) (by decide) (by decide)
  have e0 := q_r304 (d := 0) hok h (by decide) k1 k2
  rw [show (((0 : Nat) : Int), (0 : Int), m) = (0, 0, m) from rfl] at e0
  rw [e0]
  clear k2
  unfold j_X12_reads_304_11
  rw [p0 k3.1, Option.bind_some, if_pos rfl, q0 k3.2, Option.bind_some, if_pos rfl]
  have e399 : rq (Option.map (fun t => Sum.inr t) (j_X12_reads_399 248 ((0 : Nat) : Int) m)) (fun x : (Int × Int × rt_M) ⊕ (Int × rt_M) => if rq_kd s n b = 34 then (∃ m1, x = .inr (1, m1) ∧ rq_ts s n (rq_nxp s n b) m1 ∧ rq_fr rq_wN2 m m1) else ∃ p, x = .inr p ∧ rq_fE m 1 b p) := by
    unfold j_X12_reads_399 j_X12_reads_418
    rw [if_pos (show ((0 : Nat) : Int) = 0 from rfl)]
    by_cases z : rq_kd s n b = 34
    · have hb : b < n := rq_kd_lt (s := s) (by omega)
      rw [t1 z, Option.bind_some, if_neg (by decide)]
      refine rq_map.mpr (rq_call (q_nextAt h.1 h.2.1 hok h.2.2.1 hb) ?_)
      rintro m1 ⟨a1, a2⟩
      refine rq_some.mpr ?_
      rw [if_pos z]
      exact ⟨m1, rfl, a1, a2⟩
    · rw [t0 z, Option.bind_some, if_pos rfl]
      obtain ⟨p, e, a⟩ := q_rfE hok h (c := 1) (by decide) (by decide)
      rw [e]
      refine rq_map.mpr (rq_some.mpr ?_)
      rw [if_neg z]
      exact ⟨p, rfl, a⟩
  have all : rq ((f_X12_isSign 248 41 m).bind fun p360 => if p360 = 0 then Option.map (fun t => Sum.inr t) (j_X12_reads_399 248 ((0 : Nat) : Int) m) else if ((0 : Nat) : Int) ≤ 0 then Option.map (fun t => Sum.inr t) (j_X12_reads_399 248 ((0 : Nat) : Int) m) else (f_X12_puts 248 29 m).bind fun p373 => (rt_it (b_X12_reads_379 248 0) 4000 ((rt_iadd ((0 : Nat) : Int) (-1)), p373)).bind fun X379 => j_X12_reads_424_11 248 X379.1 0 X379.2) (fun x : (Int × Int × rt_M) ⊕ (Int × rt_M) => if rq_kd s n b = 34 then (∃ m1, x = .inr (1, m1) ∧ rq_ts s n (rq_nxp s n b) m1 ∧ rq_fr rq_wN2 m m1) else ∃ p, x = .inr p ∧ rq_fE m 1 b p) := by
    by_cases z : rq_kd s n b = 28
    · rw [r1 z, Option.bind_some, if_neg (by decide), if_pos (show ((0 : Nat) : Int) ≤ 0 from Int.le_refl 0)]
      exact e399
    · rw [r0 z, Option.bind_some, if_pos rfl]
      exact e399
  constructor
  · intro z
    refine rq_mono all ?_
    intro x hx
    rw [if_pos z] at hx
    exact hx
  · intro z
    refine rq_mono all ?_
    intro x hx
    rw [if_neg z] at hx
    exact hx
end
