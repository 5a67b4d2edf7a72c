/-! Layer 3: the draft becomes the realm, the reference -/
def rq_sw (a : Nat) : Nat := if a = 250 then 4 else if a = 260 then 12 else if a = 263 then 1000 else if 251 ≤ a ∧ a ≤ 259 then 6 else 0
/-- all rows before t are shifted -/
def rq_sh (t : Nat) (m m1 : rt_M) : Prop := ∀ a j, m1 a j = if a < t ∧ j < rq_sw a then m a (rq_sw a + j) else m a j
def rq_wLa (k _j : Nat) : Bool := decide (250 ≤ k) && decide (k ≤ 263)
theorem rq_wLa_st : (rq_P.all fun p => !(rq_wLa p.1 p.2.1)) = true := by decide +kernel
theorem rq_sw_0 {a : Nat} (h : a < 250 ∨ 263 < a ∨ a = 261 ∨ a = 262) : rq_sw a = 0 := by
  unfold rq_sw
  rw [if_neg (by omega), if_neg (by omega), if_neg (by omega), if_neg (by omega)]
section
variable {m m1 m' : rt_M} {t b : Nat} {δ : rq_DR}
theorem rq_sh_0 : rq_sh 250 m m := fun a j => by
  by_cases z : a < 250
  · rw [rq_sw_0 (by omega), if_neg (by omega)]
  · rw [if_neg (by omega)]
theorem rq_sh_st (hs : rq_st m) (h : rq_sh t m m1) : rq_st m1 := by
  refine rq_st_fr (W := rq_wLa) hs (fun k j q => ?_) rq_wLa_st
  unfold rq_wLa at q
  simp only [Bool.and_eq_false_iff, decide_eq_false_iff_not] at q
  rw [h k j, rq_sw_0 (by omega), if_neg (by omega)]
theorem rq_sh_3 (h : rq_sh 261 m m1) : rq_sh 263 m m1 := fun a j => by
  rw [h a j]
  by_cases z : a = 261 ∨ a = 262
  · rw [rq_sw_0 (by omega), if_neg (by omega), if_neg (by omega)]
  · by_cases y : a < 261
    · by_cases x : j < rq_sw a
      · rw [if_pos ⟨y, x⟩, if_pos ⟨by omega, x⟩]
      · rw [if_neg (fun q => x q.2), if_neg (fun q => x q.2)]
    · rw [if_neg (fun q => y q.1), if_neg (by omega)]
theorem q_shifts {a w N : Nat} (hs : rq_sh a m m1) (ka : rt_kd a = 1) (la : rt_ln a = N) (hw : rq_sw a = w) (h2 : w + w ≤ N) (hN : N ≤ 2000) : rq (f_X12_shifts (a : Int) (w : Int) m1) (rq_sh (a + 1) m) := by
  unfold f_X12_shifts
  refine rq_call (rq_up (Q := rq_sh (a + 1) m) (fun i x => x.1 = (i : Int) ∧ i ≤ w ∧ ∀ k j, x.2 k j = if k = a ∧ j < i then m a (w + j) else m1 k j) w (by omega) ?_ ?_ ?_) (fun x q => rq_some.mpr q)
  · rintro i ⟨x, mm⟩ hi ⟨e1, hj, hf⟩
    dsimp only at e1 hf
    subst e1
    unfold b_X12_shifts_2
    dsimp only
    have ra : rt_al 1 (a : Int) (rt_iadd (w : Int) (i : Int)) mm = some (mm a (w + i)) := by
      rw [show rt_iadd (w : Int) (i : Int) = ((w + i : Nat) : Int) by rw [rq_iadd (by omega) (by omega)]; omega]
      exact q_al ka la (by omega)
    have e2 : mm a (w + i) = m a (w + i) := by
      rw [hf, if_neg (by omega), hs a, if_neg (by omega)]
    rw [if_neg (by omega), ra, Option.bind_some, q_sa ka la (by omega), Option.bind_some, rq_n1 (by omega), e2]
    refine rq_some.mpr (rq_inl ⟨rfl, by omega, fun k j => ?_⟩)
    show rt_up mm a i (m a (w + i)) k j = _
    rw [q_up]
    by_cases z : k = a ∧ j = i
    · rw [if_pos z, if_pos ⟨z.1, by omega⟩, z.2]
    · rw [if_neg z, hf]
      by_cases y : k = a ∧ j < i
      · rw [if_pos y, if_pos ⟨y.1, by omega⟩]
      · rw [if_neg y, if_neg (by omega)]
  · rintro ⟨x, mm⟩ ⟨e1, hj, hf⟩
    dsimp only at e1 hf
    subst e1
    unfold b_X12_shifts_2
    dsimp only
    rw [if_pos (by omega)]
    refine rq_some.mpr (rq_inre (fun k j => ?_))
    rw [hf, hs]
    by_cases z : k = a
    · subst z
      rw [hw]
      by_cases y : j < w
      · rw [if_pos ⟨rfl, y⟩, if_pos ⟨by omega, y⟩]
      · rw [if_neg (fun q => y q.2), if_neg (fun q => y q.2), if_neg (fun q => y q.2)]
    · rw [if_neg (fun q => z q.1)]
      by_cases y : k < a
      · by_cases x : j < rq_sw k
        · rw [if_pos ⟨y, x⟩, if_pos ⟨by omega, x⟩]
        · rw [if_neg (fun q => x q.2), if_neg (fun q => x q.2)]
      · rw [if_neg (fun q => y q.1), if_neg (by omega)]
  · refine ⟨rfl, Nat.zero_le w, fun k j => ?_⟩
    rw [if_neg (by omega)]
theorem q_shiftsN {a w N : Nat} (hs : rq_sh a m m1) (ka : rt_kd a = 2) (la : rt_ln a = N) (hw : rq_sw a = w) (h2 : w + w ≤ N) (hN : N ≤ 2000) : rq (f_X12_shiftsNames (a : Int) (w : Int) m1) (rq_sh (a + 1) m) := by
  unfold f_X12_shiftsNames
  refine rq_call (rq_up (Q := rq_sh (a + 1) m) (fun i x => x.1 = (i : Int) ∧ i ≤ w ∧ ∀ k j, x.2 k j = if k = a ∧ j < i then m a (w + j) else m1 k j) w (by omega) ?_ ?_ ?_) (fun x q => rq_some.mpr q)
  · rintro i ⟨x, mm⟩ hi ⟨e1, hj, hf⟩
    dsimp only at e1 hf
    subst e1
    unfold b_X12_shiftsNames_2
    dsimp only
    have ra : rt_al 2 (a : Int) (rt_iadd (w : Int) (i : Int)) mm = some (mm a (w + i)) := by
      rw [show rt_iadd (w : Int) (i : Int) = ((w + i : Nat) : Int) by rw [rq_iadd (by omega) (by omega)]; omega]
      exact q_al ka la (by omega)
    have e2 : mm a (w + i) = m a (w + i) := by
      rw [hf, if_neg (by omega), hs a, if_neg (by omega)]
    rw [if_neg (by omega), ra, Option.bind_some, q_sa ka la (by omega), Option.bind_some, rq_n1 (by omega), e2]
    refine rq_some.mpr (rq_inl ⟨rfl, by omega, fun k j => ?_⟩)
    show rt_up mm a i (m a (w + i)) k j = _
    rw [q_up]
    by_cases z : k = a ∧ j = i
    · rw [if_pos z, if_pos ⟨z.1, by omega⟩, z.2]
    · rw [if_neg z, hf]
      by_cases y : k = a ∧ j < i
      · rw [if_pos y, if_pos ⟨y.1, by omega⟩]
      · rw [if_neg y, if_neg (by omega)]
  · rintro ⟨x, mm⟩ ⟨e1, hj, hf⟩
    dsimp only at e1 hf
    subst e1
    unfold b_X12_shiftsNames_2
    dsimp only
    rw [if_pos (by omega)]
    refine rq_some.mpr (rq_inre (fun k j => ?_))
    rw [hf, hs]
    by_cases z : k = a
    · subst z
      rw [hw]
      by_cases y : j < w
      · rw [if_pos ⟨rfl, y⟩, if_pos ⟨by omega, y⟩]
      · rw [if_neg (fun q => y q.2), if_neg (fun q => y q.2), if_neg (fun q => y q.2)]
    · rw [if_neg (fun q => z q.1)]
      by_cases y : k < a
      · by_cases x : j < rq_sw k
        · rw [if_pos ⟨y, x⟩, if_pos ⟨by omega, x⟩]
        · rw [if_neg (fun q => x q.2), if_neg (fun q => x q.2)]
      · rw [if_neg (fun q => y q.1), if_neg (by omega)]
  · refine ⟨rfl, Nat.zero_le w, fun k j => ?_⟩
    rw [if_neg (by omega)]
/-- the laws' ends -/
theorem q_layL (hs : rq_st m) (hb : ∀ j, j < 2 → (0 ≤ m 261 (2 + j) ∧ m 261 (2 + j) ≤ 10000) ∧ 0 ≤ m 262 (2 + j) ∧ m 262 (2 + j) ≤ 10000) : rq (rt_it (b_X12_lays_110 248) 4000 ((0, m))) (fun x => (∀ j, j < 2 → x 261 j = m 261 (2 + j) - 1000 ∧ x 262 j = m 262 (2 + j) - 1000) ∧ rq_fr (fun k j => (k == 261 || k == 262) && (j == 0 || j == 1)) m x) := by
  refine rq_up (fun i x => x.1 = (i : Int) ∧ (∀ j, j < i → x.2 261 j = m 261 (2 + j) - 1000 ∧ x.2 262 j = m 262 (2 + j) - 1000) ∧ rq_fr (fun k j => (k == 261 || k == 262) && (j == 0 || j == 1)) m x.2) 2 (by decide) ?_ ?_ ?_
  · rintro i ⟨x, mm⟩ hi ⟨e1, hj, hf⟩
    dsimp only at e1 hj hf
    subst e1
    have s1 := rq_st_fr hs hf (by decide +kernel)
    have hbi := hb i hi
    have i01 : i = 0 ∨ i = 1 := by omega
    have k1 : mm 261 (2 + i) = m 261 (2 + i) := hf 261 (2 + i) (by rcases i01 with q | q <;> subst q <;> rfl)
    have k2 : mm 262 (2 + i) = m 262 (2 + i) := hf 262 (2 + i) (by rcases i01 with q | q <;> subst q <;> rfl)
    unfold b_X12_lays_110
    dsimp only
    have i2 : rt_iadd 2 (i : Int) = ((2 + i : Nat) : Int) := by rw [rq_iadd (by omega) (by omega)]; omega
    rw [if_neg (by omega), q_gfr, Option.bind_some, Option.bind_some, i2, q_a8 (k := 261) _ 4 (pt_248_21 s1) kd_261 ln_261 (show 2 + i < 4 by omega), Option.bind_some, q_s8 (k := 261) _ 4 (pt_248_21 s1) kd_261 ln_261 (show i < 4 by omega), Option.bind_some, k1, rq_isub (by omega) (by omega)]
    have f1 : rq_fr (fun k j => (k == 261 || k == 262) && (j == 0 || j == 1)) m (rt_up mm 261 i (m 261 (2 + i) - 1000)) := hf.up (by rcases i01 with q | q <;> subst q <;> rfl)
    have g1 : ∀ a j, ¬ (a = 261 ∧ j = i) → rt_up mm 261 i (m 261 (2 + i) - 1000) a j = mm a j := fun a j q => by rw [q_up, if_neg q]
    have c1 : rt_up mm 261 i (m 261 (2 + i) - 1000) 261 i = m 261 (2 + i) - 1000 := rq_upE _ _ _ _
    generalize rt_up mm 261 i (m 261 (2 + i) - 1000) = m2 at f1 g1 c1 ⊢
    have s2 := rq_st_fr hs f1 (by decide +kernel)
    rw [q_gfr, Option.bind_some, Option.bind_some, q_a8 (k := 262) _ 4 (pt_248_22 s2) kd_262 ln_262 (show 2 + i < 4 by omega), Option.bind_some, g1 262 (2 + i) (by omega), k2, rq_isub (by omega) (by omega), q_s8 (k := 262) _ 4 (pt_248_22 s2) kd_262 ln_262 (show i < 4 by omega), Option.bind_some, rq_n1 (by omega)]
    refine rq_some.mpr (rq_inl ⟨rfl, fun j hj2 => ?_, f1.up (by rcases i01 with q | q <;> subst q <;> rfl)⟩)
    show rt_up m2 262 i (m 262 (2 + i) - 1000) 261 j = _ ∧ rt_up m2 262 i (m 262 (2 + i) - 1000) 262 j = _
    by_cases z : j = i
    · rw [z]
      refine ⟨?_, rq_upE _ _ _ _⟩
      rw [q_up, if_neg (by omega), c1]
    · rw [q_up, if_neg (by omega), q_up, if_neg (by omega), g1 _ _ (by omega), g1 _ _ (by omega)]
      exact hj j (by omega)
  · rintro ⟨x, mm⟩ ⟨e1, hj, hf⟩
    dsimp only at e1 hj hf
    subst e1
    unfold b_X12_lays_110
    dsimp only
    rw [if_pos (by decide)]
    exact rq_some.mpr (rq_inre ⟨hj, hf⟩)
  · exact ⟨rfl, fun j hj => absurd hj (Nat.not_lt_zero j), rq_fr.rfl⟩
theorem rq_dl_b {line K : Nat} {D F : Int → Int → Int → Int} {t : Int} (h : rq_dl line K D F t m) (hK : K ≤ 1000) : (0 ≤ m 261 (2 + line) ∧ m 261 (2 + line) ≤ 10000) ∧ 0 ≤ m 262 (2 + line) ∧ m 262 (2 + line) ≤ 10000 := by
  rcases h with ⟨h1, h2, h3⟩ | ⟨h1, h2, k, cs, h3, h4, h5, h6, h7⟩
  · omega
  · omega
theorem rq_dl_lr {line K : Nat} {D F : Int → Int → Int → Int} {t : Int} (h : rq_dl line K D F t m) (hK : K ≤ 1000) (k1 : m' 261 line = m 261 (2 + line) - 1000) (k2 : m' 262 line = m 262 (2 + line) - 1000) (k3 : ∀ i, i < 1000 → m' 263 i = m 263 (1000 + i)) : rq_lr line D F m' := by
  rcases h with ⟨h1, h2, h3⟩ | ⟨h1, h2, k, cs, h3, h4, h5, h6, h7⟩
  · exact Or.inl ⟨by rw [k1, k2]; omega, h3⟩
  · refine Or.inr ⟨by rw [k1, k2]; omega, k, cs, by rw [k1]; omega, by rw [k2]; omega, by omega, fun i hi => ?_, h7⟩
    rw [k3 _ (by omega), ← h6 i hi, Nat.add_assoc]
/-- the draft is laid down -/
theorem q_lays (h : rq_RD b δ m) (hb : b ≤ 1000) : rq (f_X12_lays 248 m) (fun m' => rq_rr δ.1 m' ∧ rq_fr rq_wLa m m') := by
  obtain ⟨hs, hv, hd, -, K, hK, -, l0, l1⟩ := h
  have hv0 := hv.1
  unfold f_X12_lays
  have h0 : rq_sh 250 m m := rq_sh_0
  rw [q_gfr, Option.bind_some, pt_248_10 hs]
  refine rq_call (q_shifts (a := 250) (w := 4) h0 kd_250 ln_250 rfl (by decide) (by decide)) ?_
  intro m1 h1
  rw [q_gfr, Option.bind_some, pt_248_11 (rq_sh_st hs h1)]
  refine rq_call (q_shiftsN (a := 251) (w := 6) h1 kd_251 ln_251 rfl (by decide) (by decide)) ?_
  intro m2 h2
  rw [q_gfr, Option.bind_some, pt_248_12 (rq_sh_st hs h2)]
  refine rq_call (q_shiftsN (a := 252) (w := 6) h2 kd_252 ln_252 rfl (by decide) (by decide)) ?_
  intro m3 h3
  rw [q_gfr, Option.bind_some, pt_248_13 (rq_sh_st hs h3)]
  refine rq_call (q_shifts (a := 253) (w := 6) h3 kd_253 ln_253 rfl (by decide) (by decide)) ?_
  intro m4 h4
  rw [q_gfr, Option.bind_some, pt_248_14 (rq_sh_st hs h4)]
  refine rq_call (q_shifts (a := 254) (w := 6) h4 kd_254 ln_254 rfl (by decide) (by decide)) ?_
  intro m5 h5
  rw [q_gfr, Option.bind_some, pt_248_15 (rq_sh_st hs h5)]
  refine rq_call (q_shifts (a := 255) (w := 6) h5 kd_255 ln_255 rfl (by decide) (by decide)) ?_
  intro m6 h6
  rw [q_gfr, Option.bind_some, pt_248_16 (rq_sh_st hs h6)]
  refine rq_call (q_shifts (a := 256) (w := 6) h6 kd_256 ln_256 rfl (by decide) (by decide)) ?_
  intro m7 h7
  rw [q_gfr, Option.bind_some, pt_248_17 (rq_sh_st hs h7)]
  refine rq_call (q_shifts (a := 257) (w := 6) h7 kd_257 ln_257 rfl (by decide) (by decide)) ?_
  intro m8 h8
  rw [q_gfr, Option.bind_some, pt_248_18 (rq_sh_st hs h8)]
  refine rq_call (q_shifts (a := 258) (w := 6) h8 kd_258 ln_258 rfl (by decide) (by decide)) ?_
  intro m9 h9
  rw [q_gfr, Option.bind_some, pt_248_19 (rq_sh_st hs h9)]
  refine rq_call (q_shifts (a := 259) (w := 6) h9 kd_259 ln_259 rfl (by decide) (by decide)) ?_
  intro m10 h10
  rw [q_gfr, Option.bind_some, pt_248_20 (rq_sh_st hs h10)]
  refine rq_call (q_shifts (a := 260) (w := 12) h10 kd_260 ln_260 rfl (by decide) (by decide)) ?_
  intro m11 h11
  rw [q_gfr, Option.bind_some, pt_248_23 (rq_sh_st hs h11)]
  refine rq_call (q_shifts (a := 263) (w := 1000) (rq_sh_3 h11) kd_263 ln_263 rfl (by decide) (by decide)) ?_
  intro m12 h12
  have s12 := rq_sh_st hs h12
  clear h0 h1 h2 h3 h4 h5 h6 h7 h8 h9 h10 h11
  have e12 : ∀ j, m12 261 j = m 261 j ∧ m12 262 j = m 262 j := fun j => by
    rw [h12 261 j, h12 262 j, rq_sw_0 (by omega), rq_sw_0 (by omega), if_neg (by omega), if_neg (by omega)]
    exact ⟨rfl, rfl⟩
  refine rq_call (q_layL s12 (fun j hj => ?_)) ?_
  · rw [(e12 _).1, (e12 _).2]
    have : j = 0 ∨ j = 1 := by omega
    rcases this with q | q <;> subst q
    · exact rq_dl_b l0 (by omega)
    · exact rq_dl_b l1 (by omega)
  intro m13 ⟨g, f⟩
  have k13 : ∀ a j, a ≠ 261 → a ≠ 262 → m13 a j = m12 a j := fun a j q1 q2 => f a j (by
    simp only [Bool.or_eq_false_iff, Bool.and_eq_false_iff, beq_eq_false_iff_ne]
    omega)
  have sh : ∀ a w j, rq_sw a = w → a < 264 → a ≠ 261 → a ≠ 262 → j < w → m13 a j = m a (w + j) := fun a w j hw q1 q2 q3 hj => by
    rw [k13 a j q2 q3, h12 a j, hw, if_pos ⟨q1, hj⟩]
  have g0 := g 0 (by decide)
  have g1 := g 1 (by decide)
  rw [(e12 _).1, (e12 _).2] at g0 g1
  have c3 : ∀ i, i < 1000 → m13 263 i = m 263 (1000 + i) := fun i hi => sh 263 1000 i rfl (by decide) (by decide) (by decide) hi
  refine rq_some.mpr ⟨⟨⟨?_, ?_, ?_, ?_⟩, fun w hw => ?_, fun w hw => ?_, fun w hw => ?_, rq_dl_lr l0 (by omega) g0.1 g0.2 c3, rq_dl_lr l1 (by omega) g1.1 g1.2 c3⟩, fun k j q => ?_⟩
  · rw [sh 250 4 0 rfl (by decide) (by decide) (by decide) (by decide)]; exact hd.1.1
  · rw [sh 250 4 1 rfl (by decide) (by decide) (by decide) (by decide)]; exact hd.1.2.1
  · rw [sh 250 4 2 rfl (by decide) (by decide) (by decide) (by decide)]; exact hd.1.2.2.1
  · rw [sh 250 4 3 rfl (by decide) (by decide) (by decide) (by decide)]; exact hd.1.2.2.2
  · have w6 : w < 6 := by omega
    rw [sh 253 6 w rfl (by decide) (by decide) (by decide) w6, sh 254 6 w rfl (by decide) (by decide) (by decide) w6, sh 255 6 w rfl (by decide) (by decide) (by decide) w6, sh 251 6 w rfl (by decide) (by decide) (by decide) w6]
    exact hd.2.1 w hw
  · have w6 : w < 6 := by omega
    rw [sh 256 6 w rfl (by decide) (by decide) (by decide) w6, sh 257 6 w rfl (by decide) (by decide) (by decide) w6, sh 258 6 w rfl (by decide) (by decide) (by decide) w6, sh 259 6 w rfl (by decide) (by decide) (by decide) w6, sh 252 6 w rfl (by decide) (by decide) (by decide) w6]
    exact hd.2.2.1 w hw
  · have w12 : w < 12 := by omega
    rw [sh 260 12 w rfl (by decide) (by decide) (by decide) w12]
    exact hd.2.2.2 w hw
  · unfold rq_wLa at q
    simp only [Bool.and_eq_false_iff, decide_eq_false_iff_not] at q
    rw [k13 k j (by omega) (by omega), h12 k j, rq_sw_0 (by omega), if_neg (by omega)]
end
