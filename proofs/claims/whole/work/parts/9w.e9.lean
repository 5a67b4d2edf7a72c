/-! Layer 3: an E, the reference's machine: its steps -/
def rq_po (m : rt_M) : Nat → Nat
  | 0 => 0
  | d + 1 => if m 264 (d + 1) = 1 then rq_po m d else d + 1
theorem rq_po_le (m : rt_M) : ∀ d, rq_po m d ≤ d
  | 0 => Nat.le_refl 0
  | d + 1 => by
    unfold rq_po
    split
    · exact Nat.le_trans (rq_po_le m d) (Nat.le_succ d)
    · exact Nat.le_refl _
theorem rq_po_e {m m' : rt_M} : ∀ d, (∀ j, j ≤ d → m' 264 j = m 264 j) → rq_po m' d = rq_po m d
  | 0, _ => rfl
  | d + 1, h => by
    unfold rq_po
    rw [h (d + 1) (Nat.le_refl _), rq_po_e d (fun j hj => h j (by omega))]
section
variable {m : rt_M} {s : Nat → Int} {n line b k : Nat}
theorem q_rpop (hs : rq_st m) (a2 : Int) : ∀ (d N : Nat), d ≤ 6 → d < N → rt_it (b_X12_reads_379 248 a2) N ((d : Int), m) = some (((rq_po m d : Nat) : Int), m) ∧ rt_it (b_X12_reads_152 248 a2) N ((d : Int), m) = some (((rq_po m d : Nat) : Int), m) := by
  intro d
  induction d with
  | zero =>
    intro N _ hN
    obtain ⟨N, rfl⟩ : ∃ g, N = g + 1 := ⟨N - 1, by omega⟩
    constructor
    · refine rt_it_inr ?_
      unfold b_X12_reads_379
      rw [if_pos (show (((0 : Nat) : Int), m).1 ≤ 0 from Int.le_refl 0)]
      rfl
    · refine rt_it_inr ?_
      unfold b_X12_reads_152
      rw [if_pos (show (((0 : Nat) : Int), m).1 ≤ 0 from Int.le_refl 0)]
      rfl
  | succ d ih =>
    intro N hd hN
    obtain ⟨N, rfl⟩ : ∃ g, N = g + 1 := ⟨N - 1, by omega⟩
    obtain ⟨i1, i2⟩ := ih N (by omega) (by omega)
    have e1 : rt_iadd ((d + 1 : Nat) : Int) (-1) = (d : Int) := by rw [rq_iadd (by omega) (by omega)]; omega
    have b1 : b_X12_reads_379 248 a2 (((d + 1 : Nat) : Int), m) = if m 264 (d + 1) = 1 then some (.inl ((d : Int), m)) else some (.inr (((d + 1 : Nat) : Int), m)) := by
      unfold b_X12_reads_379
      dsimp only
      rw [if_neg (by omega), q_gfr, Option.bind_some, q_a8 (k := 264) _ 7 (pt_248_27 hs) kd_264 ln_264 (show d + 1 < 7 by omega), Option.bind_some, e1]
    have b2 : b_X12_reads_152 248 a2 (((d + 1 : Nat) : Int), m) = if m 264 (d + 1) = 1 then some (.inl ((d : Int), m)) else some (.inr (((d + 1 : Nat) : Int), m)) := by
      unfold b_X12_reads_152
      dsimp only
      rw [if_neg (by omega), q_gfr, Option.bind_some, q_a8 (k := 264) _ 7 (pt_248_27 hs) kd_264 ln_264 (show d + 1 < 7 by omega), Option.bind_some, e1]
    unfold rq_po
    by_cases z : m 264 (d + 1) = 1
    · rw [if_pos z] at b1 b2 ⊢
      rw [rt_it_inl b1, rt_it_inl b2]
      exact ⟨i1, i2⟩
    · rw [if_neg z] at b1 b2 ⊢
      rw [rt_it_inr b1, rt_it_inr b2]
      exact ⟨rfl, rfl⟩
/-- a code c is put; of the opened and the compared, what o and p say -/
def rq_spE (s : Nat → Int) (n line b k : Nat) (c : Int) (o p : Nat → Int) (m m1 : rt_M) : Prop := rq_rH s n line (rq_nxp s n b) (k + 1) m1 ∧ rq_fr rq_wRe m m1 ∧ rq_co k [c] m m1 ∧ (∀ j, m1 264 j = o j) ∧ ∀ j, m1 265 j = p j
/-- rows are written, a code is put: and on -/
theorem q_rnx (hok : rq_okT s n) (h : rq_rH s n line b k m) (hb : b < n) {c : Int} {o p : Nat → Int} {m1 : rt_M} (f : rq_fr rq_w63 m m1) (hc : rq_co k [c] m m1) (ho : ∀ j, m1 264 j = o j) (hp : ∀ j, m1 265 j = p j) : rq (f_X12_nextToken 248 m1) (rq_spE s n line b k c o p m) := by
  obtain ⟨h1, h2, h3, h4, h5, h6, h7⟩ := h
  have s1 : rq_st m1 := rq_st_fr h1 f (by decide +kernel)
  have t1 : rq_ty s n m1 := ⟨by rw [f 248 3 rfl]; exact h2.1, fun i hi => by rw [f 249 i rfl]; exact h2.2 i hi⟩
  have ts1 : rq_ts s n b m1 := rq_ts_fr h3 (fun j j1 j2 => f 248 j (by unfold rq_w63; simp; omega))
  refine rq_mono (q_nextAt s1 t1 hok ts1 hb) ?_
  rintro m2 ⟨a1, a2⟩
  have nx := rq_nxp_b (s := s) hb
  refine ⟨⟨rq_st_fr s1 a2 rq_wN2_st, rq_ty_fr t1 a2, a1, rq_bp_nx hb, by rw [a2 248 25 rfl, f 248 25 rfl]; exact h5, by rw [a2 248 24 rfl]; exact hc.1, by omega⟩, (f.mono (fun a j q => ?_)).trans (a2.mono (fun _ _ => rq_wRe_N)), rq_co_fr hc (a2 248 24 rfl) (fun i => a2 263 i rfl), fun j => by rw [a2 264 j rfl]; exact ho j, fun j => by rw [a2 265 j rfl]; exact hp j⟩
  unfold rq_wRe at q
  unfold rq_w63
  simp only [Bool.or_eq_false_iff, Bool.and_eq_false_iff, beq_eq_false_iff_ne, decide_eq_false_iff_not] at q ⊢
  omega
theorem q_sg (hok : rq_okT s n) (h : rq_rH s n line b k m) (W : Nat) (c : Int) (h27 : 27 ≤ W) (h35 : W < 35) (hc : c = rt_wp W) : (rq_kd s n b = (W : Int) → f_X12_isSign 248 c m = some 1) ∧ (rq_kd s n b ≠ (W : Int) → f_X12_isSign 248 c m = some 0) := by
  have := q_isSign h.1 h.2.1 hok h.2.2.2.1 h.2.2.1 h27 h35 hc
  exact ⟨fun q => by rw [this, if_pos q], fun q => by rw [this, if_neg q]⟩
theorem q_wd (hok : rq_okT s n) (h : rq_rH s n line b k m) (W : Nat) (c : Int) (hW : W < 27) (hc : c = rq_W27 W) : (rq_kd s n b = (W : Int) → f_X12_isWord 248 c m = some 1) ∧ (rq_kd s n b ≠ (W : Int) → f_X12_isWord 248 c m = some 0) := by
  have := q_isWord hok h.2.2.2.1 h.2.2.1 hW hc
  exact ⟨fun q => by rw [this, if_pos q], fun q => by rw [this, if_neg q]⟩
theorem q_s3 {a j N : Nat} (x : Int) (hx : x = (a : Int)) (hk : rt_kd a = 3) (hl : rt_ln a = N) (hj : j < N) (v : Int) : rt_sa 3 x (j : Int) v m = some (rt_up m a j v) := by subst hx; exact q_sa hk hl hj
theorem q_a3 {a j N : Nat} (x : Int) (hx : x = (a : Int)) (hk : rt_kd a = 3) (hl : rt_ln a = N) (hj : j < N) : rt_al 3 x (j : Int) m = some (m a j) := by subst hx; exact q_al hk hl hj
/-- an operation -/
theorem q_r206 (hok : rq_okT s n) (h : rq_rH s n line b k m) (d : Nat) {l : Int} (hl : l = 1 ∨ l = 2) (hj : rq_jk l (rq_kd s n b) ≠ 0) : rq (b_X12_reads_11 248 ((d : Int), 0, m)) (fun x => ∃ m1, x = .inl ((d : Int), 1, m1) ∧ rq_spE s n line b k (rq_cd (rq_jk l (rq_kd s n b))) (m 264) (m 265) m m1) := by
  have hb := rq_jk_37 hj
  have hn := hok.1
  have h7 := h.2.2.2.2.2.2
  obtain ⟨p1, p0⟩ := q_sg hok h 31 43 (by decide) (by decide) (by decide)
  obtain ⟨q1, q0⟩ := q_sg hok h 32 45 (by decide) (by decide) (by decide)
  obtain ⟨r1, r0⟩ := q_sg hok h 33 42 (by decide) (by decide) (by decide)
  have fin : ∀ c : Int, rq (j_X12_reads_237_11 248 d 248 c m) (fun x => ∃ m1, x = .inl ((d : Int), 1, m1) ∧ rq_spE s n line b k c (m 264) (m 265) m m1) := by
    intro c
    unfold j_X12_reads_237_11 j_X12_reads_424_11
    rw [q_gd12, q_puts h.1 h.2.2.2.2.2.1 (by omega), Option.bind_some]
    refine rq_call (q_rnx hok h hb ((rq_fr.rfl.up (rq_w63_k h.2.2.2.2.2.2.2)).up rfl) (rq_co_put (by omega)) (fun j => by rw [q_up, if_neg (by omega), q_up, if_neg (by omega)]) (fun j => by rw [q_up, if_neg (by omega), q_up, if_neg (by omega)])) ?_
    intro m1 a
    exact rq_some.mpr ⟨m1, rfl, a⟩
  have kc : (rq_kd s n b = 31 ∧ rq_jk l (rq_kd s n b) = -9) ∨ (rq_kd s n b = 32 ∧ rq_jk l (rq_kd s n b) = -10) ∨ (rq_kd s n b = 33 ∧ rq_jk l (rq_kd s n b) = -11) := by
    unfold rq_jk at hj ⊢
    rcases hl with rfl | rfl
    · rw [if_neg (by decide), if_pos rfl] at hj ⊢
      by_cases z1 : rq_kd s n b = 31
      · rw [if_pos z1]; exact Or.inl ⟨z1, rfl⟩
      · rw [if_neg z1] at hj ⊢
        by_cases z2 : rq_kd s n b = 32
        · rw [if_pos z2]; exact Or.inr (Or.inl ⟨z2, rfl⟩)
        · rw [if_neg z2] at hj; exact absurd rfl hj
    · rw [if_neg (by decide), if_neg (by decide)] at hj ⊢
      by_cases z1 : rq_kd s n b = 33
      · rw [if_pos z1]; exact Or.inr (Or.inr ⟨z1, rfl⟩)
      · rw [if_neg z1] at hj; exact absurd rfl hj
  unfold b_X12_reads_11
  dsimp only
  rw [if_pos rfl]
  rcases kc with ⟨z, e⟩ | ⟨z, e⟩ | ⟨z, e⟩
  · rw [e, p1 z, Option.bind_some, if_neg (by decide)]
    unfold j_X12_reads_206_11
    rw [p1 z, Option.bind_some, if_neg (by decide)]
    exact fin 20
  · rw [e, p0 (by omega), Option.bind_some, if_pos rfl, q1 z, Option.bind_some, if_neg (by decide)]
    unfold j_X12_reads_206_11
    rw [p0 (by omega), Option.bind_some, if_pos rfl, q1 z, Option.bind_some, if_neg (by decide)]
    exact fin 21
  · rw [e, p0 (by omega), Option.bind_some, if_pos rfl, q0 (by omega), Option.bind_some, if_pos rfl, r1 z, Option.bind_some, if_neg (by decide)]
    unfold j_X12_reads_206_11
    rw [p0 (by omega), Option.bind_some, if_pos rfl, q0 (by omega), Option.bind_some, if_pos rfl]
    exact fin 22
/-- no operation, no comparison that may stand -/
theorem q_r304 (hok : rq_okT s n) (h : rq_rH s n line b k m) {d : Nat} (hd : d ≤ 5) (k1 : rq_kd s n b ≠ 31 ∧ rq_kd s n b ≠ 32 ∧ rq_kd s n b ≠ 33) (k2 : (rq_kd s n b = 29 ∨ rq_kd s n b = 30) → m 265 d ≠ 0) : b_X12_reads_11 248 ((d : Int), 0, m) = j_X12_reads_304_11 248 d 0 m := by
  obtain ⟨p1, p0⟩ := q_sg hok h 31 43 (by decide) (by decide) (by decide)
  obtain ⟨q1, q0⟩ := q_sg hok h 32 45 (by decide) (by decide) (by decide)
  obtain ⟨r1, r0⟩ := q_sg hok h 33 42 (by decide) (by decide) (by decide)
  obtain ⟨t1, t0⟩ := q_sg hok h 29 60 (by decide) (by decide) (by decide)
  obtain ⟨u1, u0⟩ := q_sg hok h 30 61 (by decide) (by decide) (by decide)
  have cm : m 265 d ≠ 0 → j_X12_reads_263_11 248 d 0 m = j_X12_reads_304_11 248 d 0 m := by
    intro z
    unfold j_X12_reads_263_11
    rw [q_gfr, Option.bind_some, q_a3 _ (pt_248_28 h.1) kd_265 ln_265 (show d < 7 by omega), Option.bind_some, if_neg z]
  unfold b_X12_reads_11
  dsimp only
  rw [if_pos rfl, p0 k1.1, Option.bind_some, if_pos rfl, q0 k1.2.1, Option.bind_some, if_pos rfl, r0 k1.2.2, Option.bind_some, if_pos rfl]
  by_cases z1 : rq_kd s n b = 29
  · rw [t1 z1, Option.bind_some, if_neg (by decide), cm (k2 (Or.inl z1))]
  · rw [t0 z1, Option.bind_some, if_pos rfl]
    by_cases z2 : rq_kd s n b = 30
    · rw [u1 z2, Option.bind_some, if_neg (by decide), cm (k2 (Or.inr z2))]
    · rw [u0 z2, Option.bind_some, if_pos rfl]
/-- a comparison -/
theorem q_r263 (hok : rq_okT s n) (h : rq_rH s n line b k m) {d : Nat} (hd : d ≤ 5) (k1 : rq_kd s n b = 29 ∨ rq_kd s n b = 30) (k2 : m 265 d = 0) : rq (b_X12_reads_11 248 ((d : Int), 0, m)) (fun x => ∃ m1, x = .inl ((d : Int), 1, m1) ∧ rq_spE s n line b k (rq_cd (if rq_kd s n b = 29 then -7 else -8)) (m 264) (fun j => if j = d then 1 else m 265 j) m m1) := by
  have hb : b < n := rq_kd_lt (s := s) (by rcases k1 with z | z <;> omega)
  have hn := hok.1
  have h7 := h.2.2.2.2.2.2
  obtain ⟨p1, p0⟩ := q_sg hok h 31 43 (by decide) (by decide) (by decide)
  obtain ⟨q1, q0⟩ := q_sg hok h 32 45 (by decide) (by decide) (by decide)
  obtain ⟨r1, r0⟩ := q_sg hok h 33 42 (by decide) (by decide) (by decide)
  obtain ⟨t1, t0⟩ := q_sg hok h 29 60 (by decide) (by decide) (by decide)
  obtain ⟨u1, u0⟩ := q_sg hok h 30 61 (by decide) (by decide) (by decide)
  have fin : ∀ c : Int, rq (j_X12_reads_289_11 248 d 248 c m) (fun x => ∃ m1, x = .inl ((d : Int), 1, m1) ∧ rq_spE s n line b k c (m 264) (fun j => if j = d then 1 else m 265 j) m m1) := by
    intro c
    unfold j_X12_reads_289_11 j_X12_reads_424_11
    have f1 : rq_fr rq_w63 m (rt_up (rt_up m 263 k c) 248 24 ((k + 1 : Nat) : Int)) := (rq_fr.rfl.up (rq_w63_k h.2.2.2.2.2.2.2)).up rfl
    have s1 : rq_st (rt_up (rt_up m 263 k c) 248 24 ((k + 1 : Nat) : Int)) := rq_st_fr h.1 f1 (by decide +kernel)
    rw [q_gd12, q_puts h.1 h.2.2.2.2.2.1 (by omega), Option.bind_some, q_gfr, Option.bind_some, q_s3 _ (pt_248_28 s1) kd_265 ln_265 (show d < 7 by omega), Option.bind_some]
    have c1 := rq_co_put (m := m) (k := k) (c := c) (by omega)
    have g1 : ∀ a j, a = 264 ∨ a = 265 → rt_up (rt_up m 263 k c) 248 24 ((k + 1 : Nat) : Int) a j = m a j := fun a j q => by rw [q_up, if_neg (by omega), q_up, if_neg (by omega)]
    generalize rt_up (rt_up m 263 k c) 248 24 ((k + 1 : Nat) : Int) = M at f1 c1 g1 ⊢
    have g2 : ∀ a j, a ≠ 265 → rt_up M 265 d 1 a j = M a j := fun a j q => by rw [q_up, if_neg (fun z => q z.1)]
    have g3 : ∀ j, rt_up M 265 d 1 265 j = if j = d then 1 else M 265 j := fun j => by
      rw [q_up]
      by_cases z : j = d
      · rw [if_pos ⟨rfl, z⟩, if_pos z]
      · rw [if_neg (fun q => z q.2), if_neg z]
    have f2 : rq_fr rq_w63 m (rt_up M 265 d 1) := f1.up rfl
    generalize rt_up M 265 d 1 = M2 at f2 g2 g3 ⊢
    refine rq_call (q_rnx hok h hb f2 (rq_co_fr c1 (g2 248 24 (by decide)) (fun i => g2 263 i (by decide))) (fun j => by rw [g2 264 j (by decide), g1 264 j (Or.inl rfl)]) (fun j => by rw [g3 j, g1 265 j (Or.inr rfl)])) ?_
    intro m1 a
    exact rq_some.mpr ⟨m1, rfl, a⟩
  unfold b_X12_reads_11
  dsimp only
  rw [if_pos rfl, p0 (by rcases k1 with z | z <;> omega), Option.bind_some, if_pos rfl, q0 (by rcases k1 with z | z <;> omega), Option.bind_some, if_pos rfl, r0 (by rcases k1 with z | z <;> omega), Option.bind_some, if_pos rfl]
  by_cases z1 : rq_kd s n b = 29
  · rw [t1 z1, Option.bind_some, if_neg (by decide), if_pos z1]
    unfold j_X12_reads_263_11
    rw [q_gfr, Option.bind_some, q_a3 _ (pt_248_28 h.1) kd_265 ln_265 (show d < 7 by omega), Option.bind_some, if_pos k2, t1 z1, Option.bind_some, if_neg (by decide)]
    exact fin 24
  · have z2 : rq_kd s n b = 30 := by rcases k1 with z | z <;> omega
    rw [t0 z1, Option.bind_some, if_pos rfl, u1 z2, Option.bind_some, if_neg (by decide), if_neg z1]
    unfold j_X12_reads_263_11
    rw [q_gfr, Option.bind_some, q_a3 _ (pt_248_28 h.1) kd_265 ln_265 (show d < 7 by omega), Option.bind_some, if_pos k2, t0 z1, Option.bind_some, if_pos rfl]
    exact fin 25
end
