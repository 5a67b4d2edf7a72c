/-! Layer 3: the reference's E at work -/
theorem rt_it_inl {S E : Type} {b : S → Option (S ⊕ E)} {n : Nat} {s s1 : S} (h : b s = some (.inl s1)) : rt_it b (n + 1) s = rt_it b n s1 := by
  show (match b s with
    | none => none
    | some (.inl s1) => rt_it b n s1
    | some (.inr e) => some e) = _
  rw [h]
theorem rt_it_inr {S E : Type} {b : S → Option (S ⊕ E)} {n : Nat} {s : S} {e : E} (h : b s = some (.inr e)) : rt_it b (n + 1) s = some e := by
  show (match b s with
    | none => none
    | some (.inl s1) => rt_it b n s1
    | some (.inr e) => some e) = _
  rw [h]
section
variable {m : rt_M}
theorem q_nn (hs : rq_st m) (a1 a3 : Int) : ∀ (d : Nat) (v : Int) (n : Nat), d ≤ 6 → d < n → rt_it (b_X12_worked_268 248 a1 a3) n ((d : Int), v, m) = some (((rq_nn m d v).1 : Int), (rq_nn m d v).2, m) := by
  intro d
  induction d with
  | zero =>
    intro v n _ hn
    obtain ⟨k, rfl⟩ : ∃ k, n = k + 1 := ⟨n - 1, by omega⟩
    refine rt_it_inr ?_
    unfold b_X12_worked_268
    dsimp only
    rw [if_pos (by omega)]
    rfl
  | succ d ih =>
    intro v n h6 hn
    obtain ⟨k, rfl⟩ : ∃ k, n = k + 1 := ⟨n - 1, by omega⟩
    have hb : ∀ w, b_X12_worked_268 248 a1 a3 (((d + 1 : Nat) : Int), w, m) = if m 274 (d + 1) = 1 then some (.inl ((d : Int), (if w = 0 then 1 else 0), m)) else some (.inr (((d + 1 : Nat) : Int), w, m)) := by
      intro w
      unfold b_X12_worked_268
      dsimp only
      rw [if_neg (by omega), q_gfr, Option.bind_some, q_a8 (k := 274) _ 7 (pt_248_37 hs) kd_274 ln_274 (show d + 1 < 7 by omega), Option.bind_some]
      unfold j_X12_worked_292_268
      rw [rq_iadd (by omega) (by omega), show ((d + 1 : Nat) : Int) + -1 = (d : Int) by omega]
      by_cases q : m 274 (d + 1) = 1
      · rw [if_pos q, if_pos q]
        by_cases z : w = 0
        · rw [if_pos z, if_pos z]
        · rw [if_neg z, if_neg z]
      · rw [if_neg q, if_neg q]
    by_cases q : m 274 (d + 1) = 1
    · have e := hb v
      rw [if_pos q] at e
      rw [rt_it_inl e, ih _ k (by omega) (by omega)]
      unfold rq_nn
      rw [if_pos q]
      cases d <;> rfl
    · have e := hb v
      rw [if_neg q] at e
      rw [rt_it_inr e]
      unfold rq_nn
      rw [if_neg q]
theorem rq_nn_le (m : rt_M) : ∀ d v, (rq_nn m d v).1 ≤ d
  | 0, v => Nat.le_refl 0
  | d + 1, v => by
    unfold rq_nn
    split
    · exact Nat.le_trans (rq_nn_le m d _) (Nat.le_succ d)
    · exact Nat.le_refl _
theorem q_pv (hs : rq_st m) (a1 : Int) {k d : Nat} (hk : k < 3000) (hd : d ≤ 6) (v : Int) : j_X12_worked_268_14 248 a1 d k v m = some (.inl (((rq_pv d v m).1 : Int), ((k + 1 : Nat) : Int), (rq_pv d v m).2)) := by
  have hle := rq_nn_le m d v
  unfold j_X12_worked_268_14 rq_pv rq_pv1
  rw [q_nn hs a1 k d v 4000 hd (by omega), Option.bind_some]
  dsimp only
  rw [q_gfr, Option.bind_some, q_gfr, Option.bind_some, q_a8 (k := 273) _ 7 (pt_248_36 hs) kd_273 ln_273 (by omega), Option.bind_some]
  have fin : ∀ x, j_X12_worked_328_14 248 a1 ((rq_nn m d v).1 : Int) k (m 248 35) ((rq_nn m d v).1 : Int) x m = some (.inl (((rq_nn m d v).1 : Int), ((k + 1 : Nat) : Int), rt_up m 272 (rq_nn m d v).1 x)) := by
    intro x
    unfold j_X12_worked_328_14 j_X12_worked_329_14
    rw [q_s8 (k := 272) _ 7 (pt_248_35 hs) kd_272 ln_272 (by omega), Option.bind_some, rq_n1 (by omega)]
  by_cases q : m 273 (rq_nn m d v).1 = 0
  · rw [if_pos q, if_pos q, fin]
  · rw [if_neg q, if_neg q, Option.bind_some, q_a8 (k := 272) _ 7 (pt_248_35 hs) kd_272 ln_272 (by omega), Option.bind_some, fin]
theorem q_r1 (hs : rq_st m) {V : Int → Int} (hV : ∀ c : Nat, c < 20 → m 275 c = V c) {c : Int} {line d k d' : Nat} {m' : rt_M} (hk : k < 2000) (hc : m 263 k = c) (hto : (k : Int) < m 262 line) (hl : line < 2) (hd : d ≤ 6) (h : rq_r1 V c (d, m) = some (d', m')) : b_X12_worked_14 248 line (d, k, m) = some (.inl (d', ((k + 1 : Nat) : Int), m')) ∧ d' ≤ 6 ∧ rq_fr rq_wF m m' ∧ (∀ c : Nat, c < 20 → m' 275 c = V c) := by
  have hn : ¬ m 262 line ≤ (k : Int) := by omega
  unfold b_X12_worked_14
  dsimp only
  rw [q_gfr, Option.bind_some, q_a8 (k := 262) _ 4 (pt_248_22 hs) kd_262 ln_262 (by omega), Option.bind_some, if_neg hn, q_gfr, Option.bind_some, q_a8 (k := 263) _ 2000 (pt_248_23 hs) kd_263 ln_263 hk, Option.bind_some, hc]
  have n1 := rq_n1 (i := k) (by omega)
  unfold rq_r1 at h
  dsimp only at h
  by_cases h1 : c = 28 ∨ c = 30
  · rw [if_pos h1] at h
    by_cases h6 : d < 6
    · rw [if_pos h6] at h
      cases h
      have e : j_X12_worked_46_14 248 line d k c m = some (.inl (((d + 1 : Nat) : Int), ((k + 1 : Nat) : Int), rq_op (d + 1) (rt_up m 274 (d + 1) (if c = 30 then 1 else 0)))) := by
        have key : ∀ x, j_X12_worked_66_14 248 line ((d + 1 : Nat) : Int) k (m 248 37) ((d + 1 : Nat) : Int) x m = some (.inl (((d + 1 : Nat) : Int), ((k + 1 : Nat) : Int), rq_op (d + 1) (rt_up m 274 (d + 1) x))) := by
          intro x
          have s1 := rq_st_fr (W := rq_wF) hs (rq_fr.rfl.up (k := 274) (j := d + 1) (v := x) rfl) rq_wF_st
          unfold j_X12_worked_66_14 j_X12_worked_329_14
          rw [q_s8 (k := 274) _ 7 (pt_248_37 hs) kd_274 ln_274 (by omega), Option.bind_some, q_opens s1 (by omega), Option.bind_some, n1]
        unfold j_X12_worked_46_14
        rw [q_gfr, Option.bind_some, rq_n1 (by omega)]
        by_cases q : c = 30
        · rw [if_pos q, if_pos q, key]
        · rw [if_neg q, if_neg q, key]
      refine ⟨?_, by omega, (rq_fr.rfl.up rfl).trans rq_op_fr, fun i hi => hV i hi⟩
      rcases h1 with h1 | h1
      · rw [if_pos h1, e]
      · rw [if_neg (by omega), if_pos h1, e]
    · rw [if_neg h6] at h; cases h
  rw [if_neg h1] at h
  rw [if_neg (fun z => h1 (Or.inl z)), if_neg (fun z => h1 (Or.inr z))]
  by_cases h2 : c = 20 ∨ c = 21
  · rw [if_pos h2] at h
    cases h
    have s1 := rq_st_fr (W := rq_wF) hs (rq_su_fr (d := d)) rq_wF_st
    have e : j_X12_worked_89_14 248 line d k c m = some (.inl ((d : Int), ((k + 1 : Nat) : Int), rt_up (rq_su d m) 271 d c)) := by
      unfold j_X12_worked_89_14 j_X12_worked_329_14
      rw [q_sums hs (by omega), Option.bind_some, q_gfr, Option.bind_some, q_s8 (k := 271) _ 7 (pt_248_34 s1) kd_271 ln_271 (by omega), Option.bind_some, n1]
    refine ⟨?_, hd, rq_su_fr.up rfl, fun i hi => hV i hi⟩
    rcases h2 with h2 | h2
    · rw [if_pos h2, e]
    · rw [if_neg (by omega), if_pos h2, e]
  rw [if_neg h2] at h
  rw [if_neg (fun z => h2 (Or.inl z)), if_neg (fun z => h2 (Or.inr z))]
  by_cases h3 : c = 22
  · rw [if_pos h3] at h
    cases h
    refine ⟨?_, hd, rq_fr.rfl.up rfl, fun i hi => hV i hi⟩
    rw [if_pos h3, q_gfr, Option.bind_some, q_s8 (k := 273) _ 7 (pt_248_36 hs) kd_273 ln_273 (by omega), Option.bind_some]
    unfold j_X12_worked_329_14
    rw [n1]
  rw [if_neg h3] at h
  rw [if_neg h3]
  by_cases h4 : c = 24 ∨ c = 25
  · rw [if_pos h4] at h
    cases h
    have e : j_X12_worked_137_14 248 line d k c m = some (.inl ((d : Int), ((k + 1 : Nat) : Int), rq_cmp d c (rq_su d m))) := by
      unfold j_X12_worked_137_14 j_X12_worked_329_14 rq_cmp
      have s0 := rq_st_fr (W := rq_wF) hs (rq_su_fr (d := d)) rq_wF_st
      rw [q_sums hs (by omega), Option.bind_some]
      generalize rq_su d m = m1 at s0
      have s1 := rq_st_fr (W := rq_wF) s0 (rq_fr.rfl.up (k := 268) (j := d) (v := m1 270 d) rfl) rq_wF_st
      have s2 := rq_st_fr (W := rq_wF) s1 (rq_fr.rfl.up (k := 269) (j := d) (v := c) rfl) rq_wF_st
      have s3 := rq_st_fr (W := rq_wF) s2 (rq_fr.rfl.up (k := 270) (j := d) (v := 0) rfl) rq_wF_st
      rw [q_gfr, Option.bind_some, q_gfr, Option.bind_some, q_a8 (k := 270) _ 7 (pt_248_33 s0) kd_270 ln_270 (by omega), Option.bind_some, q_s8 (k := 268) _ 7 (pt_248_31 s0) kd_268 ln_268 (by omega), Option.bind_some, q_gfr, Option.bind_some, q_s8 (k := 269) _ 7 (pt_248_32 s1) kd_269 ln_269 (by omega), Option.bind_some, q_gfr, Option.bind_some, q_s8 (k := 270) _ 7 (pt_248_33 s2) kd_270 ln_270 (by omega), Option.bind_some, q_gfr, Option.bind_some, q_s8 (k := 271) _ 7 (pt_248_34 s3) kd_271 ln_271 (by omega), Option.bind_some, n1]
    refine ⟨?_, hd, rq_su_fr.trans (by unfold rq_cmp; exact (((rq_fr.rfl.up rfl).up rfl).up rfl).up rfl), fun i hi => hV i hi⟩
    rcases h4 with h4 | h4
    · rw [if_pos h4, e]
    · rw [if_neg (by omega), if_pos h4, e]
  rw [if_neg h4] at h
  rw [if_neg (fun z => h4 (Or.inl z)), if_neg (fun z => h4 (Or.inr z))]
  by_cases h5 : c = 26 ∨ c = 27
  · rw [if_pos h5] at h
    cases h
    have e : j_X12_worked_194_14 248 line d k c m = some (.inl ((d : Int), ((k + 1 : Nat) : Int), rt_up (rq_te d m) 267 d c)) := by
      have s1 := rq_st_fr (W := rq_wF) hs (rq_te_fr (d := d)) rq_wF_st
      unfold j_X12_worked_194_14 j_X12_worked_329_14
      rw [q_tests hs (by omega), Option.bind_some, q_gfr, Option.bind_some, q_s8 (k := 267) _ 7 (pt_248_30 s1) kd_267 ln_267 (by omega), Option.bind_some, n1]
    refine ⟨?_, hd, rq_te_fr.up rfl, fun i hi => hV i hi⟩
    rcases h5 with h5 | h5
    · rw [if_pos h5, e]
    · rw [if_neg (by omega), if_pos h5, e]
  rw [if_neg h5] at h
  rw [if_neg (fun z => h5 (Or.inl z)), if_neg (fun z => h5 (Or.inr z))]
  by_cases h6 : c = 29
  · rw [if_pos h6] at h
    cases d with
    | zero => cases h
    | succ d =>
      dsimp only at h
      cases h
      have s1 := rq_st_fr (W := rq_wF) hs (rq_te_fr (d := d + 1)) rq_wF_st
      refine ⟨?_, Nat.le_trans (rq_nn_le _ d _) (by omega), rq_te_fr.trans rq_pv_fr, fun i hi => hV i hi⟩
      rw [if_pos (by omega), if_pos (by omega)]
      unfold j_X12_worked_243_14
      rw [if_pos h6, q_tests hs (by omega), Option.bind_some, q_gfr, Option.bind_some, q_a8 (k := 266) _ 7 (pt_248_29 s1) kd_266 ln_266 (by omega), Option.bind_some, rq_iadd (by omega) (by omega), show ((d + 1 : Nat) : Int) + -1 = (d : Int) by omega, q_pv s1 _ (by omega) (by omega)]
      rfl
  rw [if_neg h6] at h
  by_cases h7 : 100 ≤ c
  · rw [if_pos h7] at h
    cases h
    refine ⟨?_, Nat.le_trans (rq_nn_le _ d _) hd, rq_pv_fr, fun i hi => hV i hi⟩
    rw [if_neg (by omega)]
    unfold j_X12_worked_243_14
    rw [if_neg h6, q_pv hs _ (by omega) hd]
    rfl
  rw [if_neg h7] at h
  by_cases h8 : 0 ≤ c ∧ c < 20
  · rw [if_pos h8] at h
    cases h
    obtain ⟨u, rfl⟩ := Int.eq_ofNat_of_zero_le h8.1
    refine ⟨?_, Nat.le_trans (rq_nn_le _ d _) hd, rq_pv_fr, fun i hi => hV i hi⟩
    rw [if_pos (by omega), if_neg (by omega), q_gfr, Option.bind_some, q_a8 (k := 275) _ 20 (pt_248_38 hs) kd_275 ln_275 (by omega), Option.bind_some, hV u (by omega)]
    unfold j_X12_worked_243_14
    rw [if_neg h6, q_pv hs _ (by omega) hd]
    rfl
  rw [if_neg h8] at h
  cases h
theorem q_worked (hs : rq_st m) {line k : Nat} {cs : List Int} {F : Int → Int → Int → Int} (hl : line < 2) (hk : m 261 line = (k : Int)) (hk2 : m 262 line = ((k + cs.length : Nat) : Int)) (hlen : k + cs.length ≤ 1000) (hcs : ∀ i (h : i < cs.length), m 263 (k + i) = cs[i]) (hF : rq_rv line cs F) {a b c : Int} (ha : rq_i a) (hb : rq_i b) (hc : rq_i c) (va : m 275 (3 * line + 1) = a) (vb : m 275 (3 * line + 2) = b) (vc : m 275 (3 * line + 3) = c) :
    rq (f_X12_worked 248 line m) (fun p => p.1 = F a b c ∧ rq_fr rq_wF m p.2) := by
  obtain ⟨m', r1, r2⟩ := hF a b c (fun c => m 275 c.toNat) m ha hb hc (by show m 275 _ = _; rw [← va]; congr 1) (by show m 275 _ = _; rw [← vb]; congr 1) (by show m 275 _ = _; rw [← vc]; congr 1)
  have s0 := rq_st_fr (W := rq_wF) hs (rq_op_fr (d := 0)) rq_wF_st
  unfold f_X12_worked
  rw [show (0 : Int) = ((0 : Nat) : Int) from rfl, q_opens hs (by decide), Option.bind_some, q_gfr, Option.bind_some, q_a8 (k := 261) _ 4 (pt_248_21 s0) kd_261 ln_261 (by omega), Option.bind_some, show rq_op 0 m 261 line = (k : Int) from hk]
  refine rq_call (rq_up (Q := fun e => rq_fr rq_wF m e ∧ e = m') (fun i s => ∃ d : Nat, s.1 = (d : Int) ∧ s.2.1 = ((k + i : Nat) : Int) ∧ d ≤ 6 ∧ rq_fr rq_wF m s.2.2 ∧ (∀ c : Nat, c < 20 → s.2.2 275 c = m 275 c) ∧ rq_rn (fun c => m 275 c.toNat) (cs.drop i) (d, s.2.2) = some (0, m')) cs.length (by omega) ?_ ?_ ?_) ?_
  · rintro i ⟨x, y, mm⟩ hi ⟨d, e1, e2, hd, hf, hv, hr⟩
    dsimp only at e1 e2 hf hv hr
    subst e1 e2
    rw [List.drop_eq_getElem_cons hi, rq_rn] at hr
    obtain ⟨⟨d1, m1⟩, g1, g2⟩ := Option.bind_eq_some_iff.mp hr
    obtain ⟨z1, z2, z3, z4⟩ := q_r1 (m := mm) (rq_st_fr hs hf rq_wF_st) (V := fun c => m 275 c.toNat) (fun c hc => hv c hc) (c := cs[i]) (line := line) (k := k + i) (by omega) (by rw [hf 263 _ rfl]; exact hcs i hi) (by rw [hf 262 _ rfl, hk2]; omega) hl hd g1
    rw [z1]
    exact rq_some.mpr (rq_inl ⟨d1, rfl, rfl, z2, hf.trans z3, fun c hc => z4 c hc, g2⟩)
  · rintro ⟨x, y, mm⟩ ⟨d, e1, e2, hd, hf, hv, hr⟩
    dsimp only at e1 e2 hf hv hr
    subst e1 e2
    rw [List.drop_length, rq_rn] at hr
    cases hr
    unfold b_X12_worked_14
    dsimp only
    have s1 := rq_st_fr (W := rq_wF) hs hf rq_wF_st
    rw [q_gfr, Option.bind_some, q_a8 (k := 262) _ 4 (pt_248_22 s1) kd_262 ln_262 (by omega), Option.bind_some, hf 262 _ rfl, hk2, if_pos (by omega)]
    exact rq_some.mpr (rq_inre ⟨hf, rfl⟩)
  · exact ⟨0, rfl, rfl, by decide, rq_op_fr, fun c _ => rfl, r1⟩
  · rintro m1 ⟨hf, rfl⟩
    have s1 := rq_st_fr (W := rq_wF) hs hf rq_wF_st
    have s2 := rq_st_fr (W := rq_wF) s1 (rq_te_fr (d := 0)) rq_wF_st
    rw [q_tests s1 (by decide), Option.bind_some, q_gfr, Option.bind_some, q_a8 (k := 266) _ 7 (pt_248_29 s2) kd_266 ln_266 (by decide), Option.bind_some]
    exact rq_some.mpr ⟨r2, hf.trans rq_te_fr⟩
end
