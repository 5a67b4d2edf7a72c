/-! Layer 3: the class's reader -/
section
variable {m : rt_M} {s : Nat → Int} {n b : Nat} {r : Nat} {ρ : rq_R}
/-- the reader stands at the token that begins at b -/
def rq_pc (s : Nat → Int) (n b : Nat) (m : rt_M) : Prop := ∃ i K : Nat, m 47 1 = (i : Int) ∧ i ≤ K ∧ K ≤ 1000 ∧ rq_tks s n (K + 1) m ∧ rq_sti s n K = n ∧ (∀ j, j < K → rq_sti s n j < n) ∧ rq_sti s n i = b
theorem q_g3 (j : Nat) : rt_gf 3 j ((47 : Nat) : Int) m = some (m 47 j) := rfl
theorem q_p3 (j : Nat) (v : Int) : rt_pf 3 j ((47 : Nat) : Int) v m = some (rt_up m 47 j v) := rfl
theorem q_gd3 {α : Type} (q : Option α) : rt_gd 3 ((47 : Nat) : Int) q = q := rfl
theorem q_tap (hs : rq_st m) : m 47 0 = ((42 : Nat) : Int) := pt_47_0 hs
theorem rq_pc_b (h : rq_pc s n b m) : b ≤ n := by
  obtain ⟨i, K, -, h2, -, -, h5, h6, h7⟩ := h
  by_cases z : i = K
  · rw [← h7, z, h5]; exact Nat.le_refl n
  · have := h6 i (by omega); omega
theorem rq_pc_fr {m' : rt_M} (h : rq_pc s n b m) (k : ∀ a j, (a = 47 ∧ j = 1) ∨ (a = 42 ∧ j = 5) ∨ a = 44 ∨ a = 45 ∨ a = 46 → m' a j = m a j) : rq_pc s n b m' := by
  obtain ⟨i, K, h1, h2, h3, ⟨h4, h4'⟩, h5, h6, h7⟩ := h
  refine ⟨i, K, by rw [k _ _ (by omega)]; exact h1, h2, h3, ⟨by rw [k _ _ (by omega)]; exact h4, fun j hj => ?_⟩, h5, h6, h7⟩
  rw [k 44 _ (by omega), k 45 _ (by omega), k 46 _ (by omega)]
  exact h4' j hj
theorem q_kind (hs : rq_st m) (h : rq_pc s n b m) : f_X3_kind ((47 : Nat) : Int) m = some (rq_kd s n b) := by
  obtain ⟨i, K, h1, h2, h3, h4, h5, h6, h7⟩ := h
  unfold f_X3_kind j_X3_kind_32
  rw [q_g3, Option.bind_some, h1, q_g3, Option.bind_some, q_tap hs, q_g8, Option.bind_some, h4.1, if_neg (by omega), Option.bind_some, q_g8, Option.bind_some, Option.bind_some, pt_42_2 hs, show (44 : Int) = ((44 : Nat) : Int) from rfl, q_al kd_44 ln_44 (by omega), Option.bind_some, (h4.2 i (by omega)).1, h7]
theorem q_value (hs : rq_st m) (h : rq_pc s n b m) : f_X3_value ((47 : Nat) : Int) m = some (rq_vl s n b) := by
  obtain ⟨i, K, h1, h2, h3, h4, h5, h6, h7⟩ := h
  unfold f_X3_value j_X3_value_30
  rw [q_g3, Option.bind_some, h1, q_g3, Option.bind_some, q_tap hs, q_g8, Option.bind_some, h4.1, if_neg (by omega), Option.bind_some, q_g8, Option.bind_some, Option.bind_some, pt_42_4 hs, show (46 : Int) = ((46 : Nat) : Int) from rfl, q_al kd_46 ln_46 (by omega), Option.bind_some, (h4.2 i (by omega)).2.2, h7]
theorem q_fail (hs : rq_st m) (h : rq_pc s n b m) (hn : n ≤ 1000) {k : Int} (h0 : 0 ≤ k) (h9 : k ≤ 9) : f_X3_fail ((47 : Nat) : Int) k m = some (0, rt_up m 47 2 (k + 16 * (b : Int))) := by
  have hb := rq_pc_b h
  obtain ⟨i, K, h1, h2, h3, h4, h5, h6, h7⟩ := h
  unfold f_X3_fail j_X3_fail_30
  rw [q_g3, Option.bind_some, h1, q_g3, Option.bind_some, q_tap hs, q_g8, Option.bind_some, h4.1, if_neg (by omega), Option.bind_some, q_g8, Option.bind_some, Option.bind_some, pt_42_3 hs, show (45 : Int) = ((45 : Nat) : Int) from rfl, q_al kd_45 ln_45 (by omega), Option.bind_some, (h4.2 i (by omega)).2.1, h7, rq_imul (by omega) (by omega), rq_iadd (by omega) (by omega), q_p3, Option.bind_some]
theorem rq_pc_adv (h : rq_pc s n b m) (hb : b < n) : rt_iadd (m 47 1) 1 = m 47 1 + 1 ∧ rq_pc s n (rq_nxp s n b) (rt_up m 47 1 (rt_iadd (m 47 1) 1)) := by
  obtain ⟨i, K, h1, h2, h3, h4, h5, h6, h7⟩ := h
  have hi : i < K := by
    by_cases z : i = K
    · rw [z, h5] at h7; omega
    · omega
  have e : rt_iadd (m 47 1) 1 = ((i + 1 : Nat) : Int) := by rw [h1, rq_n1 (by omega)]
  refine ⟨by rw [e, h1]; omega, i + 1, K, ?_, hi, h3, ⟨?_, fun j hj => ?_⟩, h5, h6, ?_⟩
  · rw [q_up, if_pos ⟨rfl, rfl⟩, e]
  · rw [q_up, if_neg (by omega)]; exact h4.1
  · rw [q_up, if_neg (by omega), q_up, if_neg (by omega), q_up, if_neg (by omega)]
    exact h4.2 j hj
  · show rq_nxp s n (rq_sti s n i) = _
    rw [h7]
def rq_wPc (k j : Nat) : Bool := k == 47 && (j == 1 || j == 2)
theorem rq_wPc_st : (rq_P.all fun p => !(rq_wPc p.1 p.2.1)) = true := by decide +kernel
theorem q_take (hs : rq_st m) (h : rq_pc s n b m) (hn : n ≤ 1000) (W : Int) : (rq_kd s n b = W → f_X3_take ((47 : Nat) : Int) W m = some (1, rt_up m 47 1 (rt_iadd (m 47 1) 1))) ∧ (rq_kd s n b ≠ W → f_X3_take ((47 : Nat) : Int) W m = some (0, rt_up m 47 2 (1 + 16 * (b : Int)))) := by
  unfold f_X3_take
  rw [q_kind hs h, Option.bind_some]
  constructor
  · intro q
    rw [if_pos q, q_g3, Option.bind_some, q_p3, Option.bind_some]
  · intro q
    rw [if_neg q, q_fail hs h hn (by decide) (by decide), Option.bind_some]
    rfl
/-- the place of a name -/
theorem q_placeOf {a : Nat} (h2 : rt_kd a = 2) (hl : rt_ln a = 6) {N : Nat} (hN : N ≤ 6) {f : Nat → Int} (hf : ∀ i, i < N → m a i = f i ∧ 0 ≤ f i ∧ f i < 72057594037927936) {v : Int} (h0 : 0 ≤ v) (h1 : v < 72057594037927936) : f_X4_placeOf v ((a : Nat) : Int) (N : Int) m = some (rq_fst (fun i => f i == v) N) := by
  unfold f_X4_placeOf
  apply rq_of
  refine rq_call (rq_up (Q := fun e => match e with
      | .inl _ => rq_fst (fun i => f i == v) N = -1
      | .inr t => rq_fst (fun i => f i == v) N = t) (fun i x => x = (i : Int) ∧ ∀ j, j < i → (f j == v) = false) N (by omega) ?_ ?_ ⟨rfl, fun j hj => absurd hj (Nat.not_lt_zero _)⟩) ?_
  · rintro i x hi ⟨rfl, hj⟩
    obtain ⟨f1, f2, f3⟩ := hf i hi
    have c1 := rq_lcmp0 (x := f i) (y := v) (by omega) (by omega) (by omega) (by omega)
    unfold b_X4_placeOf_3
    rw [if_neg (by omega), q_len h2, Option.bind_some, hl, if_neg (by omega), q_al h2 hl (show i < 6 by omega), Option.bind_some, f1]
    by_cases q : f i = v
    · rw [if_pos (c1.mpr q)]
      exact rq_map.mpr (rq_some.mpr (rq_inr (rq_fst_some hi (by simp [q]) hj)))
    · rw [if_neg (fun z => q (c1.mp z)), rq_n1 (by omega)]
      refine rq_some.mpr (rq_inl ⟨rfl, fun j hj2 => ?_⟩)
      by_cases z : j = i
      · subst z; simp [q]
      · exact hj j (by omega)
  · rintro x ⟨rfl, hj⟩
    unfold b_X4_placeOf_3
    rw [if_pos (Int.le_refl _)]
    exact rq_some.mpr (rq_inre (rq_fst_none hj))
  · rintro (e | t) q
    · exact rq_some.mpr q.symm
    · exact rq_some.mpr q.symm
theorem rq_vl_b (hok : rq_okT s n) (hp : rq_bp s n b) (hne : rq_tn s n b ≠ 3) : 0 ≤ rq_vl s n b ∧ rq_vl s n b < 72057594037927936 := by
  rcases rq_kd_c2 hok hp with ⟨t, k, z⟩ | ⟨t, hb, lt, v, k⟩ | ⟨t, -, k, v, v1, v2⟩ | ⟨t, hb, W', w1, w2, k, es⟩ | ⟨t, hb, k⟩
  · unfold rq_vl; rw [if_neg z]; omega
  · have := rq_lt_b lt
    rw [v]; omega
  · omega
  · exact absurd t hne
  · unfold rq_kd at k
    unfold rq_vl
    rw [if_pos hb] at k ⊢
    have ch : ∀ c ∈ rq_cs s b (rq_en s n b), 0 ≤ c ∧ c < 128 := fun c hc => by
      obtain ⟨q, h1, h2, rfl⟩ := rq_cs_mem hc
      have hen := rq_en_b (s := s) hb
      have := hok.2 q (by omega)
      unfold rq_okS at this
      omega
    split
    · rename_i zd
      rw [if_pos zd] at k
      split
      · rename_i z4
        rw [if_pos z4] at k
        omega
      · omega
    · split
      · rename_i z8
        have := rq_pk_b (rq_en s n b - b) (rq_cs s b (rq_en s n b)) (rq_cs_len b _) ch
        have p8 : (128 : Int) ^ (rq_en s n b - b) ≤ 72057594037927936 := by
          have : rq_en s n b - b = 0 ∨ rq_en s n b - b = 1 ∨ rq_en s n b - b = 2 ∨ rq_en s n b - b = 3 ∨ rq_en s n b - b = 4 ∨ rq_en s n b - b = 5 ∨ rq_en s n b - b = 6 ∨ rq_en s n b - b = 7 ∨ rq_en s n b - b = 8 := by omega
          rcases this with q | q | q | q | q | q | q | q | q <;> rw [q] <;> decide
        omega
      · omega
theorem rq_vl_b2 (hok : rq_okT s n) (hp : rq_bp s n b) : 0 ≤ rq_vl s n b ∧ rq_vl s n b < 72057594037927936 := by
  by_cases z : rq_tn s n b = 3
  · rcases rq_kd_c2 hok hp with ⟨t, -⟩ | ⟨t, -⟩ | ⟨t, -⟩ | ⟨t, hb, -⟩ | ⟨t, -⟩
    · omega
    · omega
    · omega
    · have ch : ∀ c ∈ rq_cs s b (rq_en s n b), 0 ≤ c ∧ c < 128 := fun c hc => by
        obtain ⟨q, h1, h2, rfl⟩ := rq_cs_mem hc
        have hen := rq_en_b (s := s) hb
        have := hok.2 q (by omega)
        unfold rq_okS at this
        omega
      have nz : ¬ rq_dd (s b) = true := fun q => by
        unfold rq_tn at t
        rw [if_pos hb, if_neg (by unfold rq_dd at q; unfold rq_ll; simp only [Bool.and_eq_true, decide_eq_true_eq] at q ⊢; omega), if_pos q] at t
        split at t <;> omega
      unfold rq_vl
      rw [if_pos hb, if_neg nz]
      split
      · have := rq_pk_b (rq_en s n b - b) (rq_cs s b (rq_en s n b)) (rq_cs_len b _) ch
        have p8 : (128 : Int) ^ (rq_en s n b - b) ≤ 72057594037927936 := by
          have : rq_en s n b - b = 0 ∨ rq_en s n b - b = 1 ∨ rq_en s n b - b = 2 ∨ rq_en s n b - b = 3 ∨ rq_en s n b - b = 4 ∨ rq_en s n b - b = 5 ∨ rq_en s n b - b = 6 ∨ rq_en s n b - b = 7 ∨ rq_en s n b - b = 8 := by omega
          rcases this with q | q | q | q | q | q | q | q | q <;> rw [q] <;> decide
        omega
      · omega
    · omega
  · exact rq_vl_b hok hp z
def rq_nw (ρ : rq_R) (v : Int) : Int := rq_fst (fun i => ρ.1 9 i == v) (ρ.1 0 0).toNat
def rq_nh (ρ : rq_R) (v : Int) : Int := rq_fst (fun i => ρ.1 10 i == v) (ρ.1 0 1).toNat
/-- all names are letters, packed -/
def rq_nmb (ρ : rq_R) : Prop := (∀ i : Nat, (i : Int) < ρ.1 0 0 → 0 ≤ ρ.1 9 i ∧ ρ.1 9 i < 72057594037927936) ∧ ∀ i : Nat, (i : Int) < ρ.1 0 1 → 0 ≤ ρ.1 10 i ∧ ρ.1 10 i < 72057594037927936
theorem q_wigNamed (h : rq_C r ρ m) (hb : rq_nmb ρ) {v : Int} (h0 : 0 ≤ v) (h1 : v < 72057594037927936) : f_X4_wigNamed (r : Int) v m = some (rq_nw ρ v) := by
  have hv := h.2.2.1.1
  obtain ⟨o1, -, -, -, -, -, -, -, -, -, -, -, -, k1, l1, -⟩ := q_sh_o r h.2.1
  unfold f_X4_wigNamed
  rw [q_gf4 h, Option.bind_some, q_gf4 h, Option.bind_some, q_pt h.1 o1, h.2.2.2.1.1, show ρ.1 0 0 = (((ρ.1 0 0).toNat : Nat) : Int) by omega, q_placeOf k1 l1 (by omega) (f := ρ.1 9) (fun i hi => ⟨(h.2.2.2.2.1 i (by omega)).2.2.2, hb.1 i (by omega)⟩) h0 h1, Option.bind_some]
  rfl
theorem q_headNamed (h : rq_C r ρ m) (hb : rq_nmb ρ) {v : Int} (h0 : 0 ≤ v) (h1 : v < 72057594037927936) : f_X4_headNamed (r : Int) v m = some (rq_nh ρ v) := by
  have hv := h.2.2.1.1
  obtain ⟨-, o2, -, -, -, -, -, -, -, -, -, -, -, -, -, k2, l2, -⟩ := q_sh_o r h.2.1
  unfold f_X4_headNamed
  rw [q_gf4 h, Option.bind_some, q_gf4 h, Option.bind_some, q_pt h.1 o2, h.2.2.2.1.2.1, show ρ.1 0 1 = (((ρ.1 0 1).toNat : Nat) : Int) by omega, q_placeOf k2 l2 (by omega) (f := ρ.1 10) (fun i hi => ⟨(h.2.2.2.2.2.1 i (by omega)).2.2.2.2, hb.2 i (by omega)⟩) h0 h1, Option.bind_some]
  rfl
theorem q_oldName (hs : rq_st m) (h : rq_pc s n b m) (hn : n ≤ 1000) (x : Int) : (rq_cn s n b → x ≠ -1 → f_X3_oldName ((47 : Nat) : Int) x m = some (1, rt_up m 47 1 (rt_iadd (m 47 1) 1))) ∧ (rq_cn s n b → x = -1 → f_X3_oldName ((47 : Nat) : Int) x m = some (0, rt_up m 47 2 (2 + 16 * (b : Int)))) ∧ (¬ rq_cn s n b → f_X3_oldName ((47 : Nat) : Int) x m = some (0, rt_up m 47 2 (1 + 16 * (b : Int)))) := by
  obtain ⟨w1, w2⟩ := rq_wc_cn s n b
  unfold f_X3_oldName
  rw [q_kind hs h, Option.bind_some, w1, Option.bind_some]
  refine ⟨fun q y => ?_, fun q y => ?_, fun q => ?_⟩
  · rw [if_neg (fun z => (w2.mp z) q), if_neg y, q_g3, Option.bind_some, q_p3, Option.bind_some]
  · rw [if_neg (fun z => (w2.mp z) q), if_pos y, q_fail hs h hn (by decide) (by decide), Option.bind_some]
    rfl
  · rw [if_pos (w2.mpr q), q_fail hs h hn (by decide) (by decide), Option.bind_some]
    rfl
end
