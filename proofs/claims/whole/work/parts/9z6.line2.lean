/-! Layer 3: pieces of a line, the class reads them -/
section
variable {m : rt_M} {s : Nat → Int} {n b r : Nat} {ρ : rq_R}
theorem rq_w47_st : (rq_P.all fun p => !(rq_w47 p.1 p.2.1)) = true := by decide +kernel
def rq_wFx (a i k j : Nat) : Bool := rq_w47 k j || (k == a && j == i)
def rq_fxR (s : Nat → Int) (n a i : Nat) (m : rt_M) (x : (Int × Nat) ⊕ (Int × Nat)) (p : Int × rt_M) : Prop := rq_fr (rq_wFx a i) m p.2 ∧ match x with
  | .inl q => p.1 = 0 ∧ p.2 47 2 = q.1 + 16 * (q.2 : Int)
  | .inr q => p.1 = 1 ∧ rq_pc s n q.2 p.2 ∧ p.2 a i = q.1
theorem q_factX (hs : rq_st m) (h : rq_pc s n b m) (hok : rq_okT s n) (bp : rq_bp s n b) {W : Nat} (hW : W ≠ 37) {lo hi : Int} (l0 : 0 ≤ lo ∧ lo ≤ 9999) (l1 : 0 ≤ hi ∧ hi ≤ 9999) {a i N : Nat} (ka : rt_kd a = 1) (la : rt_ln a = N) (hi' : i < N) (a47 : 48 ≤ a) : rq (f_X3_fact ((47 : Nat) : Int) (W : Int) lo hi (a : Int) (i : Int) m) (rq_fxR s n a i m (rq_fa s n (W : Int) lo hi b)) := by
  have w47 : ∀ {k j : Nat}, rq_wFx a i k j = false → rq_w47 k j = false := fun q => by
    unfold rq_wFx at q
    simp only [Bool.or_eq_false_iff] at q
    exact q.1
  unfold f_X3_fact j_X3_fact_17 rq_fa
  refine rq_call (q_takeX hs h hok hW) ?_
  rintro ⟨v, m1⟩ ⟨f1, h1⟩
  dsimp only at f1 h1 ⊢
  by_cases z : rq_kd s n b = (W : Int)
  rotate_left
  · rw [if_neg z] at h1 ⊢
    obtain ⟨e0, ef⟩ := h1
    rw [if_pos e0]
    exact rq_some.mpr ⟨f1.mono (fun _ _ => w47), rfl, ef⟩
  rw [if_pos z] at h1 ⊢
  obtain ⟨e0, pc1⟩ := h1
  have hb : b < n := rq_kd_lt (s := s) (by omega)
  have bn := rq_bp_nx (s := s) hb
  have s1 := rq_st_fr hs f1 rq_w47_st
  rw [if_neg (by omega)]
  obtain ⟨k1, k2⟩ := q_isNum s1 pc1 hok bn l0 l1
  cases e : rq_nu s n lo hi (rq_nxp s n b) with
  | inl q =>
    refine rq_call (k1 q e) ?_
    rintro ⟨v2, m2⟩ ⟨f2, e2, ef⟩
    dsimp only at f2 e2 ef ⊢
    rw [if_pos e2]
    exact rq_some.mpr ⟨(f1.trans f2).mono (fun _ _ => w47), rfl, ef⟩
  | inr q =>
    obtain ⟨x, b'⟩ := q
    obtain ⟨y1, y2, y3, y4, y5, y6⟩ := k2 x b' e
    subst y2 y3
    rw [y1, Option.bind_some]
    dsimp only
    rw [if_neg (by decide), q_value s1 pc1, Option.bind_some, rq_l2i (by omega) (by omega), q_sa ka la hi', Option.bind_some, q_g3, Option.bind_some, q_p3, Option.bind_some]
    have pc2 : rq_pc s n (rq_nxp s n b) (rt_up m1 a i (rq_vl s n (rq_nxp s n b))) := rq_pc_fr pc1 (fun x j q => by rw [q_up, if_neg (by omega)])
    obtain ⟨-, pc3⟩ := rq_pc_adv pc2 y4
    refine rq_some.mpr ⟨((f1.mono (fun _ _ => w47)).up (by unfold rq_wFx; simp)).up rfl, rfl, pc3, ?_⟩
    show rt_up (rt_up m1 a i _) 47 1 _ a i = _
    rw [q_up, if_neg (by omega), rq_upE]
theorem q_newX (hC : rq_C r ρ m) (hb : rq_nmb ρ) (hok : rq_okT s n) (bp : rq_bp s n b) (h : rq_pc s n b m) : rq (f_X3_newName ((47 : Nat) : Int) (r : Int) m) (rq_pcX s n rq_w47 m (rq_nnw ρ s n b)) := by
  have hn := hok.1
  have hs := hC.1
  obtain ⟨w1, w2⟩ := rq_wc_cn s n b
  have vb := rq_vl_b2 hok bp
  have j40 : rq (j_X3_newName_40 ((47 : Nat) : Int) m) (rq_pcX s n rq_w47 m (.inl (3, b))) := by
    unfold j_X3_newName_40
    rw [q_fail hs h hn (by decide) (by decide), Option.bind_some, q_bz0]
    exact rq_some.mpr ⟨rq_fr.rfl.up rfl, rfl, rq_upE m 47 2 _⟩
  unfold f_X3_newName rq_nnw
  rw [q_kind hs h, Option.bind_some, w1, Option.bind_some]
  by_cases zc : rq_cn s n b
  rotate_left
  · rw [if_pos (w2.mpr zc), if_neg (fun q => zc ((rq_cnb_i s n b).mp q)), q_fail hs h hn (by decide) (by decide), Option.bind_some, q_bz0]
    exact rq_some.mpr ⟨rq_fr.rfl.up rfl, rfl, rq_upE m 47 2 _⟩
  obtain ⟨-, hbn, -, -⟩ := rq_cn_nm hok bp zc
  rw [if_neg (fun q => (w2.mp q) zc), if_pos ((rq_cnb_i s n b).mpr zc), q_value hs h, Option.bind_some, q_gd4 hC, q_wigNamed hC hb vb.1 vb.2, Option.bind_some]
  by_cases z1 : rq_nw ρ (rq_vl s n b) = -1
  rotate_left
  · rw [if_neg z1, if_neg (fun q => z1 q.1)]; exact j40
  rw [if_pos z1, Option.bind_some, q_gd4 hC, q_headNamed hC hb vb.1 vb.2, Option.bind_some]
  by_cases z2 : rq_nh ρ (rq_vl s n b) = -1
  rotate_left
  · rw [if_neg z2, if_neg (fun q => z2 q.2)]; exact j40
  rw [if_pos z2, if_pos ⟨z1, z2⟩, q_g3, Option.bind_some, q_p3, Option.bind_some]
  exact rq_some.mpr ⟨rq_fr.rfl.up rfl, rfl, (rq_pc_adv h hbn).2⟩
theorem q_headKindX (hs : rq_st m) (h : rq_pc s n b m) (hok : rq_okT s n) {a N : Nat} (ka : rt_kd a = 1) (la : rt_ln a = N) (hi' : 0 < N) (a47 : 48 ≤ a) : rq (f_X3_headKind ((47 : Nat) : Int) (a : Int) m) (rq_fxR s n a 0 m (rq_hk s n b)) := by
  have hn := hok.1
  have put : ∀ v : Int, b < n → rq (j_X3_headKind_75 ((47 : Nat) : Int) (a : Int) 0 v m) (rq_fxR s n a 0 m (.inr (v, rq_nxp s n b))) := by
    intro v hb
    unfold j_X3_headKind_75
    rw [show (0 : Int) = ((0 : Nat) : Int) from rfl, q_sa ka la hi', Option.bind_some, q_g3, Option.bind_some, q_p3, Option.bind_some]
    have pc2 : rq_pc s n b (rt_up m a 0 v) := rq_pc_fr h (fun x j q => by rw [q_up, if_neg (by omega)])
    obtain ⟨-, pc3⟩ := rq_pc_adv pc2 hb
    refine rq_some.mpr ⟨(rq_fr.rfl.up (by unfold rq_wFx; simp)).up rfl, rfl, pc3, ?_⟩
    show rt_up (rt_up m a 0 _) 47 1 _ a 0 = _
    rw [q_up, if_neg (by omega), rq_upE]
  have go : 14 ≤ rq_kd s n b → rq_kd s n b ≤ 17 → rq (j_X3_headKind_39 ((47 : Nat) : Int) (a : Int) (rq_kd s n b) m) (rq_fxR s n a 0 m (.inr (rq_kd s n b - 14, rq_nxp s n b))) := by
    intro h1 h2
    have hb : b < n := rq_kd_lt (s := s) (by omega)
    unfold j_X3_headKind_39
    by_cases y1 : rq_kd s n b = 15
    · rw [if_pos y1, y1]; exact put 1 hb
    rw [if_neg y1]
    by_cases y2 : rq_kd s n b = 16
    · rw [if_pos y2, y2]; exact put 2 hb
    rw [if_neg y2]
    by_cases y3 : rq_kd s n b = 17
    · rw [if_pos y3, y3]; exact put 3 hb
    rw [if_neg y3, show rq_kd s n b = 14 by omega]
    exact put 0 hb
  unfold f_X3_headKind rq_hk
  rw [q_kind hs h, Option.bind_some]
  by_cases y0 : rq_kd s n b = 14
  · rw [if_pos y0, if_pos (by omega)]; exact go (by omega) (by omega)
  rw [if_neg y0]
  by_cases y1 : rq_kd s n b = 15
  · rw [if_pos y1, if_pos (by omega)]; exact go (by omega) (by omega)
  rw [if_neg y1]
  by_cases y2 : rq_kd s n b = 16
  · rw [if_pos y2, if_pos (by omega)]; exact go (by omega) (by omega)
  rw [if_neg y2]
  by_cases y3 : rq_kd s n b = 17
  · rw [if_pos y3, if_pos (by omega)]; exact go (by omega) (by omega)
  rw [if_neg y3, if_neg (by omega), q_fail hs h hn (by decide) (by decide), Option.bind_some, q_bz0]
  exact rq_some.mpr ⟨rq_fr.rfl.up rfl, rfl, rq_upE m 47 2 _⟩
end
