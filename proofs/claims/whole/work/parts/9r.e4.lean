/-! Layer 3: an E, the class's law line -/
def rq_lawp (s : Nat → Int) (n line b : Nat) : rq_EX := match rq_eE s n (rq_ep s n line 5) (rq_nxp s n b) with
  | .inl q => .inl q
  | .inr q => if rq_kd s n q.2 = 34 then .inr (q.1, rq_nxp s n q.2) else .inl (1, q.2)
def rq_wEl (L k j : Nat) : Bool := rq_wEc L k j || (k == L && j == 6)
theorem rq_wEl_st {L line : Nat} (h : rq_Ll L line) : (rq_P.all fun p => !(rq_wEl L p.1 p.2.1)) = true := by
  rcases h with ⟨rfl | rfl, rfl⟩ | ⟨rfl | rfl, rfl⟩ <;> decide +kernel
section
variable {m : rt_M} {s : Nat → Int} {n b L line : Nat}
theorem q_part0 (h : rq_Ll L line) (hn : n ≤ 1000) {recC : Int → Int → Int → Int → rt_M → Option (Int × rt_M)} {recP : Int → Int → Int → rt_M → Option (Int × rt_M)} : rq_foE s n L (rq_ep s n line 0) (f_X3_part recC recP ((47 : Nat) : Int) L 5) := by
  intro m b cs hs pc bp ls hb
  unfold f_X3_part
  rw [q_kind hs pc, Option.bind_some, q_gd2 h, q_factOf h hs, Option.bind_some]
  show rq _ (rq_foER s n L cs m (if rq_pb line (rq_kd s n b) = true then (.inl (5, b) : rq_EX) else .inl (1, b)))
  have go : rq (j_X3_part_44 recC recP ((47 : Nat) : Int) L 5 (rq_kd s n b) (rq_fc line (rq_kd s n b)) m) (rq_foER s n L cs m (.inl (5, b))) := by
    unfold j_X3_part_44
    rw [if_neg (by decide), q_fail hs pc hn (by decide) (by decide), Option.bind_some, q_bz0]
    exact rq_some.mpr ⟨rq_fr.rfl.up rfl, rfl, rq_upE m 47 2 _⟩
  by_cases zf : rq_fc line (rq_kd s n b) = 0
  · rw [if_pos zf]
    by_cases z36 : rq_kd s n b = 36
    · have q := (rq_pb_c line (rq_kd s n b)).mpr (Or.inr (Or.inl z36))
      rw [if_pos z36, if_pos q]; exact go
    rw [if_neg z36]
    by_cases z18 : rq_kd s n b = 18
    · have q := (rq_pb_c line (rq_kd s n b)).mpr (Or.inr (Or.inr (Or.inl z18)))
      rw [if_pos z18, if_pos q]; exact go
    rw [if_neg z18]
    by_cases z27 : rq_kd s n b = 27
    · have q := (rq_pb_c line (rq_kd s n b)).mpr (Or.inr (Or.inr (Or.inr z27)))
      rw [if_pos z27, if_pos q]; exact go
    rw [if_neg z27, if_neg (fun q => by
      rcases (rq_pb_c _ _).mp q with q | q | q | q
      · exact q zf
      · exact z36 q
      · exact z18 q
      · exact z27 q), q_fail hs pc hn (by decide) (by decide), Option.bind_some, q_bz0]
    exact rq_some.mpr ⟨rq_fr.rfl.up rfl, rfl, rq_upE m 47 2 _⟩
  · have q := (rq_pb_c line (rq_kd s n b)).mpr (Or.inl zf)
    rw [if_neg zf, if_pos q]
    exact go
theorem q_ladE (h : rq_Ll L line) (hn : n ≤ 1000) {R : Nat → rq_EX} (hR : rq_ge s n R) {d : Int} {N : Nat} (hP : ∀ f, N < f → rq_foE s n L R (F_X3_part f ((47 : Nat) : Int) L d)) : ∀ f, N + 7 < f → rq_foE s n L (rq_eE s n R) (F_X3_chain f ((47 : Nat) : Int) L 0 d) := by
  have ch : ∀ f l, F_X3_chain (f + 1) ((47 : Nat) : Int) L l d = f_X3_chain (F_X3_link f) ((47 : Nat) : Int) L l d := fun f l => rfl
  have l2 : ∀ f, N + 1 < f → rq_foE s n L R (F_X3_link f ((47 : Nat) : Int) L 2 d) := by
    intro f hf
    obtain ⟨f, rfl⟩ : ∃ g, f = g + 1 := ⟨f - 1, by omega⟩
    exact q_linkE (hP f (by omega))
  have c2 : ∀ f, N + 2 < f → rq_foE s n L (rq_ec s n 2 R) (F_X3_chain f ((47 : Nat) : Int) L 2 d) := by
    intro f hf
    obtain ⟨f, rfl⟩ : ∃ g, f = g + 1 := ⟨f - 1, by omega⟩
    rw [ch]
    exact q_chainE h hn hR (l2 f (by omega))
  have l1 : ∀ f, N + 3 < f → rq_foE s n L (rq_ec s n 2 R) (F_X3_link f ((47 : Nat) : Int) L 1 d) := by
    intro f hf
    obtain ⟨f, rfl⟩ : ∃ g, f = g + 1 := ⟨f - 1, by omega⟩
    exact q_linkE (c2 f (by omega))
  have c1 : ∀ f, N + 4 < f → rq_foE s n L (rq_ec s n 1 (rq_ec s n 2 R)) (F_X3_chain f ((47 : Nat) : Int) L 1 d) := by
    intro f hf
    obtain ⟨f, rfl⟩ : ∃ g, f = g + 1 := ⟨f - 1, by omega⟩
    rw [ch]
    exact q_chainE h hn (rq_ec_ge hR) (l1 f (by omega))
  have t : ∀ f, N + 5 < f → rq_foE s n L (rq_et s n (rq_ec s n 1 (rq_ec s n 2 R))) (F_X3_test f ((47 : Nat) : Int) L d) := by
    intro f hf
    obtain ⟨f, rfl⟩ : ∃ g, f = g + 1 := ⟨f - 1, by omega⟩
    exact q_testE h hn (rq_ec_ge (rq_ec_ge hR)) (c1 f (by omega))
  have l0 : ∀ f, N + 6 < f → rq_foE s n L (rq_et s n (rq_ec s n 1 (rq_ec s n 2 R))) (F_X3_link f ((47 : Nat) : Int) L 0 d) := by
    intro f hf
    obtain ⟨f, rfl⟩ : ∃ g, f = g + 1 := ⟨f - 1, by omega⟩
    exact q_linkE (t f (by omega))
  intro f hf
  obtain ⟨f, rfl⟩ : ∃ g, f = g + 1 := ⟨f - 1, by omega⟩
  rw [ch]
  exact q_chainE h hn (rq_et_ge (rq_ec_ge (rq_ec_ge hR))) (l0 f (by omega))
theorem q_ladP (h : rq_Ll L line) (hok : rq_okT s n) : ∀ k : Nat, k ≤ 5 → ∀ f, 8 * k < f → rq_foE s n L (rq_ep s n line k) (F_X3_part f ((47 : Nat) : Int) L (5 - (k : Int))) := by
  intro k
  induction k with
  | zero =>
    intro _ f hf
    obtain ⟨f, rfl⟩ : ∃ g, f = g + 1 := ⟨f - 1, by omega⟩
    exact q_part0 h hok.1
  | succ k ih =>
    intro hk f hf
    obtain ⟨f, rfl⟩ : ∃ g, f = g + 1 := ⟨f - 1, by omega⟩
    have e : rt_iadd (5 - ((k + 1 : Nat) : Int)) 1 = 5 - (k : Int) := by rw [rq_iadd (by omega) (by omega)]; omega
    refine q_partE (recC := F_X3_chain f) (recP := F_X3_part f) h hok.1 hok (by omega) ?_ ?_
    · rw [e]
      exact q_ladE h hok.1 (rq_ep_ge (rq_Ll_2 h) k) (ih (by omega)) f (by omega)
    · rw [e]
      exact ih (by omega) f (by omega)
theorem q_topE (h : rq_Ll L line) (hok : rq_okT s n) : rq_foE s n L (rq_eE s n (rq_ep s n line 5)) (F_X3_chain 60 ((47 : Nat) : Int) L 0 0) := by
  have := q_ladE h hok.1 (rq_ep_ge (rq_Ll_2 h) 5) (d := 5 - ((5 : Nat) : Int)) (q_ladP h hok 5 (Nat.le_refl 5)) 60 (by decide)
  exact this
def rq_lawR (s : Nat → Int) (n L : Nat) (m : rt_M) (x : rq_EX) (p : Int × rt_M) : Prop := rq_fr (rq_wEl L) m p.2 ∧ match x with
  | .inl q => p.1 = 0 ∧ p.2 47 2 = q.1 + 16 * (q.2 : Int)
  | .inr q => p.1 = 1 ∧ rq_pc s n q.2 p.2 ∧ rq_ls L q.1.1 p.2 ∧ p.2 L 6 = 1
theorem q_lawLine (h : rq_Ll L line) (hs : rq_st m) (hok : rq_okT s n) (pc : rq_pc s n b m) (hb : b < n) (h5 : m L 6 = 0 → m L 5 = 0) : rq (f_X3_lawLine ((47 : Nat) : Int) L m) (rq_lawR s n L m (if m L 6 = 0 then rq_lawp s n line b else .inl (3, b))) := by
  have hn := hok.1
  have hL := rq_Ll_L h
  unfold f_X3_lawLine
  rw [q_gf2 hL, Option.bind_some]
  by_cases z : m L 6 = 0
  · rw [if_pos z, if_pos z, q_g3, Option.bind_some, q_p3, Option.bind_some, q_pf2 h, Option.bind_some]
    have ls0 : rq_ls L [] m := ⟨h5 z, fun i hi => absurd hi (Nat.not_lt_zero i)⟩
    have nx := rq_nxp_b (s := s) hb
    have bn := rq_bp_nx (s := s) hb
    obtain ⟨s2, pc2, ls2, f2⟩ := q_advE h hs pc hb ls0
    generalize rt_up m 47 1 (rt_iadd (m 47 1) 1) = m2 at s2 pc2 ls2 f2 ⊢
    have f3 : rq_fr (rq_wEl L) m (rt_up m2 L 6 1) := (f2.mono (fun k j q => by unfold rq_wEl at q; simp only [Bool.or_eq_false_iff] at q; exact q.1)).up (by unfold rq_wEl; simp)
    have s3 := rq_st_fr hs f3 (rq_wEl_st h)
    have pc3 : rq_pc s n (rq_nxp s n b) (rt_up m2 L 6 1) := rq_pc_fr pc2 (fun a j q => by
      rw [q_up, if_neg]
      clear h
      rcases hL with h | h | h | h <;> omega)
    have ls3 : rq_ls L [] (rt_up m2 L 6 1) := rq_ls_fr ls2 (fun a j q => by rw [q_up, if_neg (by omega)])
    have e6 : rt_up m2 L 6 1 L 6 = 1 := rq_upE m2 L 6 1
    generalize rt_up m2 L 6 1 = m3 at f3 s3 pc3 ls3 e6 ⊢
    refine rq_call (q_topE h hok m3 _ [] s3 pc3 bn ls3 (Nat.zero_le _)) ?_
    rintro ⟨v, m4⟩ x2
    have wl : ∀ {m4 m5 : rt_M}, rq_fr (rq_wEc L) m4 m5 → rq_fr (rq_wEl L) m4 m5 := fun f => f.mono (fun k j q => by unfold rq_wEl at q; simp only [Bool.or_eq_false_iff] at q; exact q.1)
    have k6 : ∀ {m4 m5 : rt_M}, rq_fr (rq_wEc L) m4 m5 → m5 L 6 = m4 L 6 := fun f => f L 6 (by
      unfold rq_wEc
      simp only [Bool.or_eq_false_iff, Bool.and_eq_false_iff, beq_eq_false_iff_ne]
      clear h
      rcases hL with h | h | h | h <;> omega)
    unfold rq_lawp
    cases e : rq_eE s n (rq_ep s n line 5) (rq_nxp s n b) with
    | inl q =>
      rw [e] at x2
      obtain ⟨f4, e0, ef⟩ := x2
      dsimp only at e0 f4 ⊢
      rw [if_pos e0]
      unfold j_X3_lawLine_52 j_X3_lawLine_53
      rw [q_bz0]
      exact rq_some.mpr ⟨f3.trans (wl f4), rfl, ef⟩
    | inr q =>
      obtain ⟨u, b2⟩ := q
      rw [e] at x2
      obtain ⟨f4, e0, pc4, ls4⟩ := x2
      dsimp only at e0 f4 pc4 ls4 ⊢
      rw [if_neg (by omega)]
      have s4 := rq_st_fr s3 f4 (rq_wEc_st h)
      obtain ⟨k1, k2⟩ := q_take s4 pc4 hn 34
      by_cases z34 : rq_kd s n b2 = 34
      · have hb2 : b2 < n := rq_kd_lt (s := s) (by omega)
        obtain ⟨s5, pc5, ls5, f5⟩ := q_advE h s4 pc4 hb2 ls4
        rw [k1 z34, Option.bind_some, if_pos z34]
        dsimp only
        rw [if_neg (by decide)]
        unfold j_X3_lawLine_53
        rw [q_bz1]
        refine rq_some.mpr ⟨(f3.trans (wl f4)).trans (wl f5), rfl, pc5, ls5, ?_⟩
        show rt_up m4 47 1 _ L 6 = 1
        rw [k6 f5, k6 f4, e6]
      · rw [k2 z34, Option.bind_some, if_neg z34]
        dsimp only
        rw [if_pos rfl]
        unfold j_X3_lawLine_52 j_X3_lawLine_53
        rw [q_bz0]
        exact rq_some.mpr ⟨(f3.trans (wl f4)).up rfl, rfl, rq_upE m4 47 2 _⟩
  · rw [if_neg z, if_neg z, q_fail hs pc hn (by decide) (by decide), Option.bind_some, q_bz0]
    exact rq_some.mpr ⟨rq_fr.rfl.up rfl, rfl, rq_upE m 47 2 _⟩
end
