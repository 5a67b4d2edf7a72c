/-! Layer 3: an E, the class reads it, to the end -/
section
variable {m : rt_M} {s : Nat → Int} {n b L line : Nat}
theorem rq_upE (m : rt_M) (k j : Nat) (v : Int) : rt_up m k j v k j = v := by rw [q_up, if_pos ⟨rfl, rfl⟩]
theorem rq_foE_l {R : Nat → rq_EX} {cs : List Int} {m m1 : rt_M} {q : Int × Nat} {p : Int × rt_M} (h : rq_foER s n L cs m1 (.inl q) p) (f : rq_fr (rq_wEc L) m m1) : p.1 = 0 ∧ rq_foER s n L cs m (.inl q) (0, p.2) := ⟨h.2.1, f.trans h.1, rfl, h.2.2⟩
theorem q_testE (h : rq_Ll L line) (hn : n ≤ 1000) {R : Nat → rq_EX} {d : Int} (hR : rq_ge s n R) {rec : Int → Int → Int → Int → rt_M → Option (Int × rt_M)} (hg : rq_foE s n L R (rec ((47 : Nat) : Int) L 1 d)) : rq_foE s n L (rq_et s n R) (f_X3_test rec ((47 : Nat) : Int) L d) := by
  intro m b cs hs pc bp ls hb
  unfold f_X3_test
  refine rq_call (hg m b cs hs pc bp ls hb) ?_
  rintro ⟨v, m1⟩ h1
  unfold rq_et
  cases e : R b with
  | inl q =>
    rw [e] at h1
    obtain ⟨f1, e0, ef⟩ := h1
    dsimp only at e0 ⊢
    rw [if_pos e0]
    exact rq_some.mpr ⟨f1, rfl, ef⟩
  | inr q =>
    obtain ⟨t, b1⟩ := q
    obtain ⟨g1, g2, g3, -⟩ := rq_ge_r hR bp e
    dsimp only at g1 g2 g3
    rw [e] at h1
    obtain ⟨f1, e0, pc1, ls1⟩ := h1
    dsimp only at e0 f1 pc1 ls1 ⊢
    have s1 := rq_st_fr hs f1 (rq_wEc_st h)
    rw [if_neg (by omega), q_kind s1 pc1, Option.bind_some]
    have len : (cs ++ t.1).length ≤ b1 := by rw [List.length_append]; omega
    have two : ∀ j : Int, rq_kd s n b1 ≠ 37 → j = (if rq_kd s n b1 = 29 then -7 else -8) → rq (j_X3_test_33 rec ((47 : Nat) : Int) L d (rq_kd s n b1) m1) (rq_foER s n L cs m (match R (rq_nxp s n b1) with
        | .inl p => .inl p
        | .inr p => .inr (rq_jt j t p.1, p.2))) := by
      intro j k37 ej
      have hbn : b1 < n := rq_kd_lt k37
      have nx := rq_nxp_b (s := s) hbn
      have bn := rq_bp_nx (s := s) hbn
      obtain ⟨s2, pc2, ls2, f2⟩ := q_advE h s1 pc1 hbn ls1
      unfold j_X3_test_33
      rw [q_g3, Option.bind_some, q_p3, Option.bind_some]
      refine rq_call (hg _ _ _ s2 pc2 bn ls2 (by omega)) ?_
      rintro ⟨v, m3⟩ x2
      cases e : R (rq_nxp s n b1) with
      | inl q =>
        rw [e] at x2
        obtain ⟨f3, e0, ef⟩ := x2
        dsimp only at e0 f3 ⊢
        rw [if_pos e0]
        exact rq_some.mpr ⟨(f1.trans f2).trans f3, rfl, ef⟩
      | inr q =>
        obtain ⟨u, b2⟩ := q
        obtain ⟨c1, c2, c3, -⟩ := rq_ge_r hR bn e
        dsimp only at c1 c2 c3
        rw [e] at x2
        obtain ⟨f3, e0, pc3, ls3⟩ := x2
        dsimp only at e0 f3 pc3 ls3 ⊢
        rw [if_neg (by omega)]
        have f13 := (f1.trans f2).trans f3
        have s3 := rq_st_fr hs f13 (rq_wEc_st h)
        have hc1 := c1.1
        have ll : (cs ++ t.1 ++ u.1).length < b2 := by
          rw [List.length_append]
          omega
        have fin : rq (j_X3_test_70 rec L j m3) (rq_foER s n L cs m (.inr (rq_jt j t u, b2))) := by
          unfold j_X3_test_70
          rw [q_gd2 h]
          refine rq_call (q_addE h s3 ls3 (by omega) j) ?_
          rintro m4 ⟨ls4, f4⟩
          have hL := rq_Ll_L h
          refine rq_some.mpr ⟨f13.trans (f4.mono (fun k j q => by
                unfold rq_wEc at q
                simp only [Bool.or_eq_false_iff] at q ⊢
                exact ⟨q.1.2, q.2⟩)), rfl, rq_pc_fr pc3 (fun a j q => f4 a j ?_), ?_⟩
          · simp only [Bool.or_eq_false_iff, Bool.and_eq_false_iff, beq_eq_false_iff_ne]
            clear h
            rcases hL with h | h | h | h <;> omega
          · show rq_ls L (cs ++ (t.1 ++ u.1 ++ [j])) m4
            rw [← List.append_assoc, ← List.append_assoc]
            exact ls4
        by_cases z : rq_kd s n b1 = 29
        · rw [if_pos z] at ej ⊢
          rw [ej] at fin ⊢
          exact fin
        · rw [if_neg z] at ej ⊢
          rw [ej] at fin ⊢
          exact fin
    unfold rq_tk2
    by_cases z1 : rq_kd s n b1 = 29
    · rw [if_pos z1, if_pos (Or.inl z1)]
      exact two _ (by omega) rfl
    · rw [if_neg z1]
      by_cases z2 : rq_kd s n b1 = 30
      · rw [if_pos z2, if_pos (Or.inr z2)]
        exact two _ (by omega) rfl
      · rw [if_neg z2, if_neg (fun q => q.elim z1 z2)]
        exact rq_some.mpr ⟨f1, rfl, pc1, ls1⟩
theorem q_partE (h : rq_Ll L line) (hn : n ≤ 1000) (hok : rq_okT s n) {k : Nat} {d : Int} (hd : d ≤ 4) {recC : Int → Int → Int → Int → rt_M → Option (Int × rt_M)} {recP : Int → Int → Int → rt_M → Option (Int × rt_M)} (hE : rq_foE s n L (rq_eE s n (rq_ep s n line k)) (recC ((47 : Nat) : Int) L 0 (rt_iadd d 1))) (hP : rq_foE s n L (rq_ep s n line k) (recP ((47 : Nat) : Int) L (rt_iadd d 1))) : rq_foE s n L (rq_ep s n line (k + 1)) (f_X3_part recC recP ((47 : Nat) : Int) L d) := by
  intro m b cs hs pc bp ls hb
  have h2 := rq_Ll_2 h
  unfold f_X3_part
  rw [q_kind hs pc, Option.bind_some, q_gd2 h, q_factOf h hs, Option.bind_some, rq_ep_s]
  have hL := rq_Ll_L h
  have add : ∀ (m1 : rt_M) (b1 : Nat) (t : List Int) (x : Int), rq_fr (rq_wEc L) m m1 → rq_pc s n b1 m1 → rq_ls L (cs ++ t) m1 → (cs ++ t).length < b1 → b1 ≤ n → rq (j_X3_part_154 recC recP L x m1) (fun p => rq_fr (rq_wEc L) m p.2 ∧ p.1 = 1 ∧ rq_pc s n b1 p.2 ∧ rq_ls L (cs ++ (t ++ [x])) p.2) := by
    intro m1 b1 t x f1 pc1 ls1 l1 bn
    unfold j_X3_part_154
    rw [q_gd2 h]
    refine rq_call (q_addE h (rq_st_fr hs f1 (rq_wEc_st h)) ls1 (by omega) x) ?_
    rintro m4 ⟨ls4, f4⟩
    refine rq_some.mpr ⟨f1.trans (f4.mono (fun k j q => by
                unfold rq_wEc at q
                simp only [Bool.or_eq_false_iff] at q ⊢
                exact ⟨q.1.2, q.2⟩)), rfl, rq_pc_fr pc1 (fun a j q => f4 a j ?_), ?_⟩
    · simp only [Bool.or_eq_false_iff, Bool.and_eq_false_iff, beq_eq_false_iff_ne]
      clear h
      rcases hL with h | h | h | h <;> omega
    · rw [← List.append_assoc]
      exact ls4
  have go : rq_pb line (rq_kd s n b) = true → rq (j_X3_part_44 recC recP ((47 : Nat) : Int) L d (rq_kd s n b) (rq_fc line (rq_kd s n b)) m) (rq_foER s n L cs m (if rq_kd s n b = 27 then (match rq_eE s n (rq_ep s n line k) (rq_nxp s n b) with
      | .inl q => .inl q
      | .inr q => rq_clo s n q.1 q.2) else if rq_kd s n b = 18 then (match rq_ep s n line k (rq_nxp s n b) with
      | .inl q => .inl q
      | .inr q => .inr (rq_nt q.1, q.2)) else .inr (rq_lf line (rq_kd s n b) (rq_vl s n b), rq_nxp s n b))) := by
    intro z
    have hbn := rq_pb_lt h2 z
    have nx := rq_nxp_b (s := s) hbn
    have bn := rq_bp_nx (s := s) hbn
    obtain ⟨s2, pc2, ls2, f2⟩ := q_advE h hs pc hbn ls
    unfold j_X3_part_44
    rw [if_pos hd, q_value hs pc, Option.bind_some, q_g3, Option.bind_some, q_p3, Option.bind_some]
    generalize rt_up m 47 1 (rt_iadd (m 47 1) 1) = m2 at s2 pc2 ls2 f2 ⊢
    by_cases z27 : rq_kd s n b = 27
    · rw [if_pos z27, if_pos z27]
      refine rq_call (hE m2 _ cs s2 pc2 bn ls2 (by omega)) ?_
      rintro ⟨v, m3⟩ x2
      cases e : rq_eE s n (rq_ep s n line k) (rq_nxp s n b) with
      | inl q =>
        rw [e] at x2
        obtain ⟨f3, e0, ef⟩ := x2
        dsimp only at e0 f3 ⊢
        rw [if_pos e0]
        unfold j_X3_part_105 j_X3_part_106
        rw [q_bz0]
        exact rq_some.mpr ⟨f2.trans f3, rfl, ef⟩
      | inr q =>
        obtain ⟨u, b2⟩ := q
        obtain ⟨c1, c2, c3, -⟩ := rq_ge_r (rq_eE_ge (rq_ep_ge h2 k)) bn e
        dsimp only at c1 c2 c3
        rw [e] at x2
        obtain ⟨f3, e0, pc3, ls3⟩ := x2
        dsimp only at e0 f3 pc3 ls3 ⊢
        rw [if_neg (by omega)]
        have f13 := f2.trans f3
        have s3 := rq_st_fr hs f13 (rq_wEc_st h)
        obtain ⟨k1, k2⟩ := q_take s3 pc3 hn 28
        unfold rq_clo
        by_cases z28 : rq_kd s n b2 = 28
        · have hb2 : b2 < n := rq_kd_lt (s := s) (by omega)
          obtain ⟨s4, pc4, ls4, f4⟩ := q_advE h s3 pc3 hb2 ls3
          rw [k1 z28, Option.bind_some, if_pos z28]
          dsimp only
          rw [if_neg (by decide)]
          unfold j_X3_part_106
          rw [q_bz1]
          exact rq_some.mpr ⟨f13.trans f4, rfl, pc4, ls4⟩
        · rw [k2 z28, Option.bind_some, if_neg z28]
          dsimp only
          rw [if_pos rfl]
          unfold j_X3_part_105 j_X3_part_106
          rw [q_bz0]
          exact rq_some.mpr ⟨f13.up rfl, rfl, rq_upE m3 47 2 _⟩
    rw [if_neg z27, if_neg z27]
    by_cases z18 : rq_kd s n b = 18
    · rw [if_pos z18, if_pos z18]
      refine rq_call (hP m2 _ cs s2 pc2 bn ls2 (by omega)) ?_
      rintro ⟨v, m3⟩ x2
      cases e : rq_ep s n line k (rq_nxp s n b) with
      | inl q =>
        rw [e] at x2
        obtain ⟨f3, e0, ef⟩ := x2
        dsimp only at e0 f3 ⊢
        rw [if_pos e0]
        exact rq_some.mpr ⟨f2.trans f3, rfl, ef⟩
      | inr q =>
        obtain ⟨u, b2⟩ := q
        obtain ⟨c1, c2, c3, -⟩ := rq_ge_r (rq_ep_ge h2 k) bn e
        dsimp only at c1 c2 c3
        rw [e] at x2
        obtain ⟨f3, e0, pc3, ls3⟩ := x2
        dsimp only at e0 f3 pc3 ls3 ⊢
        rw [if_neg (by omega)]
        unfold j_X3_part_127
        rw [if_pos z18]
        refine rq_mono (add m3 b2 u.1 (-4) (f2.trans f3) pc3 ls3 (by rw [List.length_append]; omega) c1.1) ?_
        rintro p ⟨a1, a2, a3, a4⟩
        exact ⟨a1, a2, a3, a4⟩
    rw [if_neg z18, if_neg z18]
    unfold j_X3_part_127
    rw [if_neg z18]
    have ls2' : rq_ls L (cs ++ []) m2 := by rw [List.append_nil]; exact ls2
    have ll : (cs ++ ([] : List Int)).length < rq_nxp s n b := by rw [List.append_nil]; omega
    unfold rq_lf
    by_cases z36 : rq_kd s n b = 36
    · rw [if_pos z36, if_pos z36]
      have vb : 0 ≤ rq_vl s n b ∧ rq_vl s n b ≤ 9999 := by
        rcases rq_kd_c2 hok bp with ⟨t, k, -⟩ | ⟨t, hb, lt, v, k⟩ | ⟨t, hb, k, v, v1, v2⟩ | ⟨t, hb, W', w1, w2, k, es⟩ | ⟨t, hb, k⟩
        · omega
        · rcases k with ⟨k, -⟩ | ⟨W', hW', k, -⟩ <;> omega
        · exact ⟨v1, v2⟩
        · omega
        · omega
      rw [rq_l2i (by omega) (by omega)]
      refine rq_mono (add m2 _ [] (rq_vl s n b) f2 pc2 ls2' ll bn.1) ?_
      rintro p ⟨a1, a2, a3, a4⟩
      exact ⟨a1, a2, a3, a4⟩
    · rw [if_neg z36, if_neg z36]
      refine rq_mono (add m2 _ [] (rq_fc line (rq_kd s n b)) f2 pc2 ls2' ll bn.1) ?_
      rintro p ⟨a1, a2, a3, a4⟩
      exact ⟨a1, a2, a3, a4⟩
  by_cases zf : rq_fc line (rq_kd s n b) = 0
  · rw [if_pos zf]
    by_cases z36 : rq_kd s n b = 36
    · have q := (rq_pb_c line (rq_kd s n b)).mpr (Or.inr (Or.inl z36))
      rw [if_pos z36, if_pos q]; exact go q
    rw [if_neg z36]
    by_cases z18 : rq_kd s n b = 18
    · have q := (rq_pb_c line (rq_kd s n b)).mpr (Or.inr (Or.inr (Or.inl z18)))
      rw [if_pos z18, if_pos q]; exact go q
    rw [if_neg z18]
    by_cases z27 : rq_kd s n b = 27
    · have q := (rq_pb_c line (rq_kd s n b)).mpr (Or.inr (Or.inr (Or.inr z27)))
      rw [if_pos z27, if_pos q]; exact go q
    rw [if_neg z27, if_neg (fun q => by
      rcases (rq_pb_c _ _).mp q with q | q | q | q
      · exact q zf
      · exact z36 q
      · exact z18 q
      · exact z27 q), q_fail hs pc hn (by decide) (by decide), Option.bind_some, q_bz0]
    exact rq_some.mpr ⟨rq_fr.rfl.up rfl, rfl, rq_upE m 47 2 _⟩
  · have q := (rq_pb_c line (rq_kd s n b)).mpr (Or.inl zf)
    rw [if_neg zf, if_pos q]
    exact go q
end
