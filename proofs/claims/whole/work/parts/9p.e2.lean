/-! Layer 3: an E, the class reads it -/
def rq_Ll (L line : Nat) : Prop := ((L = 81 ∨ L = 105) ∧ line = 0) ∨ ((L = 84 ∨ L = 108) ∧ line = 1)
theorem rq_Ll_L {L line : Nat} (h : rq_Ll L line) : L = 81 ∨ L = 84 ∨ L = 105 ∨ L = 108 := by
  rcases h with ⟨h | h, -⟩ | ⟨h | h, -⟩
  · exact Or.inl h
  · exact Or.inr (Or.inr (Or.inl h))
  · exact Or.inr (Or.inl h)
  · exact Or.inr (Or.inr (Or.inr h))
theorem rq_Ll_2 {L line : Nat} (h : rq_Ll L line) : line < 2 := by
  rcases h with ⟨-, h⟩ | ⟨-, h⟩ <;> omega
theorem rq_Ll_P {L line : Nat} (h : rq_Ll L line) : (L, 0, 21 + 3 * (line : Int)) ∈ rq_P ∧ (L, 1, 22 + 3 * (line : Int)) ∈ rq_P ∧ (L, 2, 23 + 3 * (line : Int)) ∈ rq_P := by
  rcases h with ⟨rfl | rfl, rfl⟩ | ⟨rfl | rfl, rfl⟩ <;> decide +kernel
def rq_ls (L : Nat) (cs : List Int) (m : rt_M) : Prop := m L 5 = (cs.length : Int) ∧ ∀ i (h : i < cs.length), m (L + 1) i = cs[i]
def rq_wEc (L k j : Nat) : Bool := (k == 47 && (j == 1 || j == 2)) || (k == L && j == 5) || k == L + 1
theorem rq_wEc_st {L line : Nat} (h : rq_Ll L line) : (rq_P.all fun p => !(rq_wEc L p.1 p.2.1)) = true := by
  rcases h with ⟨rfl | rfl, rfl⟩ | ⟨rfl | rfl, rfl⟩ <;> decide +kernel
def rq_foER (s : Nat → Int) (n L : Nat) (cs : List Int) (m : rt_M) (x : rq_EX) (p : Int × rt_M) : Prop := rq_fr (rq_wEc L) m p.2 ∧ match x with
  | .inl q => p.1 = 0 ∧ p.2 47 2 = q.1 + 16 * (q.2 : Int)
  | .inr q => p.1 = 1 ∧ rq_pc s n q.2 p.2 ∧ rq_ls L (cs ++ q.1.1) p.2
def rq_foE (s : Nat → Int) (n L : Nat) (R : Nat → rq_EX) (g : rt_M → Option (Int × rt_M)) : Prop := ∀ m b cs, rq_st m → rq_pc s n b m → rq_bp s n b → rq_ls L cs m → cs.length ≤ b → rq (g m) (rq_foER s n L cs m (R b))
section
variable {m : rt_M} {s : Nat → Int} {n b L line : Nat}
theorem q_pf2 (h : rq_Ll L line) (j : Nat) (v : Int) : rt_pf 2 j (L : Int) v m = some (rt_up m L j v) := if_pos (q_law L (rq_Ll_L h)).1
theorem q_gd2 {α : Type} (h : rq_Ll L line) (o : Option α) : rt_gd 2 (L : Int) o = o := if_pos (q_law L (rq_Ll_L h)).1
theorem q_factOf (h : rq_Ll L line) (hs : rq_st m) (k : Int) : f_X2_factOf L k m = some (rq_fc line k) := by
  obtain ⟨p0, p1, p2⟩ := rq_Ll_P h
  have hL := rq_Ll_L h
  unfold f_X2_factOf j_X2_factOf_39 rq_fc
  rw [q_gf2 hL, Option.bind_some, q_pt hs p0]
  by_cases z1 : k = 21 + 3 * (line : Int)
  · rw [if_pos z1, if_pos z1]
  · rw [if_neg z1, if_neg z1, q_gf2 hL, Option.bind_some, q_pt hs p1]
    by_cases z2 : k = 22 + 3 * (line : Int)
    · rw [if_pos z2, if_pos z2]
    · rw [if_neg z2, if_neg z2, q_gf2 hL, Option.bind_some, q_pt hs p2]
      by_cases z3 : k = 23 + 3 * (line : Int)
      · rw [if_pos z3, if_pos z3]
      · rw [if_neg z3, if_neg z3]
theorem rq_ls_fr {m' : rt_M} {cs : List Int} (h : rq_ls L cs m) (k : ∀ a j, (a = L ∧ j = 5) ∨ a = L + 1 → m' a j = m a j) : rq_ls L cs m' := ⟨by rw [k L 5 (Or.inl ⟨rfl, rfl⟩)]; exact h.1, fun i hi => by rw [k (L + 1) i (Or.inr rfl)]; exact h.2 i hi⟩
theorem q_addE (h : rq_Ll L line) (hs : rq_st m) {cs : List Int} (hc : rq_ls L cs m) (hl : cs.length < 1000) (v : Int) : rq (f_X2_add L v m) (fun m1 => rq_ls L (cs ++ [v]) m1 ∧ rq_fr (fun k j => (k == L && j == 5) || k == L + 1) m m1) := by
  have hL := rq_Ll_L h
  obtain ⟨kL, p3, p4, k1, l1, k2, l2⟩ := q_law L hL
  unfold f_X2_add j_X2_add_32
  rw [q_gf2 hL, Option.bind_some, q_gf2 hL, Option.bind_some, q_pt hs p3, q_len k1, Option.bind_some, l1, hc.1, if_neg (by omega), Option.bind_some, Option.bind_some, q_sa k1 l1 hl, Option.bind_some, q_gf2 hL, Option.bind_some]
  have e5 : rt_up m (L + 1) cs.length v L 5 = (cs.length : Int) := by rw [q_up, if_neg (by omega)]; exact hc.1
  rw [e5, q_pf2 h, Option.bind_some, rq_n1 (by omega)]
  refine rq_some.mpr ⟨⟨?_, fun i hi => ?_⟩, (rq_fr.rfl.up (by simp)).up (by simp)⟩
  · rw [q_up, if_pos ⟨rfl, rfl⟩, List.length_append]; rfl
  · rw [q_up, if_neg (by omega), q_up]
    simp only [List.length_append, List.length_cons, List.length_nil] at hi
    by_cases z : i = cs.length
    · rw [if_pos ⟨rfl, z⟩]
      subst z
      simp
    · rw [if_neg (fun q => z q.2), hc.2 i (by omega), List.getElem_append_left (by omega)]
theorem q_jointE (hs : rq_st m) (h : rq_pc s n b m) (l : Int) : f_X3_jointOf ((47 : Nat) : Int) l m = some (rq_jk l (rq_kd s n b)) := by
  unfold f_X3_jointOf j_X3_jointOf_34 j_X3_jointOf_65 j_X3_jointOf_79 rq_jk
  rw [q_kind hs h, Option.bind_some]
  by_cases z0 : l = 0
  · rw [if_pos z0, if_pos z0]
    by_cases z1 : rq_kd s n b = 19
    · rw [if_pos z1, if_pos z1]
    · rw [if_neg z1, if_neg z1]
      by_cases z2 : rq_kd s n b = 20
      · rw [if_pos z2, if_pos z2]
      · rw [if_neg z2, if_neg z2]
  · rw [if_neg z0, if_neg z0]
    by_cases z0 : l = 1
    · rw [if_pos z0, if_pos z0]
      by_cases z1 : rq_kd s n b = 31
      · rw [if_pos z1, if_pos z1]
      · rw [if_neg z1, if_neg z1]
        by_cases z2 : rq_kd s n b = 32
        · rw [if_pos z2, if_pos z2]
        · rw [if_neg z2, if_neg z2]
    · rw [if_neg z0, if_neg z0]
      by_cases z1 : rq_kd s n b = 33
      · rw [if_pos z1, if_pos z1]
      · rw [if_neg z1, if_neg z1]
/-- on to the next token -/
theorem q_advE (h : rq_Ll L line) (hs : rq_st m) (pc : rq_pc s n b m) (hb : b < n) {cs : List Int} (hc : rq_ls L cs m) : rq_st (rt_up m 47 1 (rt_iadd (m 47 1) 1)) ∧ rq_pc s n (rq_nxp s n b) (rt_up m 47 1 (rt_iadd (m 47 1) 1)) ∧ rq_ls L cs (rt_up m 47 1 (rt_iadd (m 47 1) 1)) ∧ rq_fr (rq_wEc L) m (rt_up m 47 1 (rt_iadd (m 47 1) 1)) := by
  have f : rq_fr (rq_wEc L) m (rt_up m 47 1 (rt_iadd (m 47 1) 1)) := rq_fr.rfl.up rfl
  have hL := rq_Ll_L h
  refine ⟨rq_st_fr hs f (rq_wEc_st h), (rq_pc_adv pc hb).2, rq_ls_fr hc (fun a j q => ?_), f⟩
  rw [q_up, if_neg]
  clear h
  rcases hL with h | h | h | h <;> omega
theorem q_linkE {R : Nat → rq_EX} {g : rt_M → Option (Int × rt_M)} (hg : rq_foE s n L R g) : rq_foE s n L R (fun m => (g m).bind fun p => (rt_bz p.1).bind fun _ => some (p.1, p.2)) := by
  intro m b cs hs pc bp ls hb
  refine rq_call (hg m b cs hs pc bp ls hb) ?_
  rintro ⟨v, m1⟩ h1
  dsimp only
  cases e : R b with
  | inl q =>
    rw [e] at h1
    obtain ⟨f1, e0, ef⟩ := h1
    dsimp only at e0
    rw [e0, q_bz0]
    exact rq_some.mpr ⟨f1, rfl, ef⟩
  | inr q =>
    rw [e] at h1
    obtain ⟨f1, e0, ef⟩ := h1
    dsimp only at e0
    rw [e0, q_bz1]
    exact rq_some.mpr ⟨f1, rfl, ef⟩
theorem q_chainE (h : rq_Ll L line) (hn : n ≤ 1000) {R : Nat → rq_EX} {l d : Int} (hR : rq_ge s n R) {link : Int → Int → Int → Int → rt_M → Option (Int × rt_M)} (hg : rq_foE s n L R (link ((47 : Nat) : Int) L l d)) : rq_foE s n L (rq_ec s n l R) (f_X3_chain link ((47 : Nat) : Int) L l d) := by
  intro m b cs hs pc bp ls hb
  unfold f_X3_chain
  refine rq_call (hg m b cs hs pc bp ls hb) ?_
  rintro ⟨v, m1⟩ h1
  unfold rq_ec
  cases e : R b with
  | inl q =>
    rw [e] at h1
    obtain ⟨f1, e0, ef⟩ := h1
    dsimp only at e0 ⊢
    rw [if_pos e0]
    exact rq_some.mpr ⟨f1, rfl, ef⟩
  | inr q =>
    obtain ⟨t, b1⟩ := q
    obtain ⟨g1, g2, g3, -⟩ := rq_ge_r hR bp e
    dsimp only at g1 g2 g3
    rw [e] at h1
    obtain ⟨f1, e0, pc1, ls1⟩ := h1
    dsimp only at e0 f1 pc1 ls1 ⊢
    rw [if_neg (by omega)]
    have loop : ∀ f (t : rq_ET) (b1 i : Nat) (m1 : rt_M) (N : Nat), n - b1 < f → n - b1 < N → i ≤ b1 → rq_bp s n b1 → rq_fr (rq_wEc L) m m1 → rq_pc s n b1 m1 → rq_ls L (cs ++ t.1) m1 → (cs ++ t.1).length ≤ b1 → rq (rt_it (b_X3_chain_15 link ((47 : Nat) : Int) L l d) N ((i : Int), m1)) (fun E => match E with
        | .inl x => rq_foER s n L cs m (rq_lpE s n l R f t b1) (1, x)
        | .inr p => rq_foER s n L cs m (rq_lpE s n l R f t b1) p) := by
      intro f
      induction f with
      | zero => intro t b1 i m1 N h1; omega
      | succ f ih =>
        intro t b1 i m1 N h1 h2 hi bp1 f1 pc1 ls1 len
        obtain ⟨N, rfl⟩ : ∃ k, N = k + 1 := ⟨N - 1, by omega⟩
        have s1 := rq_st_fr hs f1 (rq_wEc_st h)
        have hb1 := bp1.1
        rw [rq_lpE_s]
        by_cases zi : 1000 ≤ i
        · have e37 : rq_kd s n b1 = 37 := rq_kd_37.mpr (by omega)
          have j0 : rq_jk l (rq_kd s n b1) = 0 := by
            refine Classical.byContradiction fun q => ?_
            have := rq_jk_37 q
            omega
          rw [if_pos j0]
          refine rq_eq (a := .inl m1) (rt_it_inr ?_) ⟨f1, rfl, pc1, ls1⟩
          unfold b_X3_chain_15
          rw [if_pos (show (1000 : Int) ≤ ((i : Int), m1).1 by show (1000 : Int) ≤ (i : Int); omega)]
        · have body : b_X3_chain_15 link ((47 : Nat) : Int) L l d ((i : Int), m1) = (if rq_jk l (rq_kd s n b1) = 0 then some (.inr (.inr (1, m1))) else (link ((47 : Nat) : Int) L l d (rt_up m1 47 1 (rt_iadd (m1 47 1) 1))).bind fun p51 => if p51.1 = 0 then some (.inr (.inr (0, p51.2))) else (f_X2_add L (rq_jk l (rq_kd s n b1)) p51.2).bind fun p62 => some (.inl ((rt_iadd (i : Int) 1), p62))) := by
            unfold b_X3_chain_15
            dsimp only
            rw [if_neg (by omega), q_jointE s1 pc1, Option.bind_some]
            by_cases z : rq_jk l (rq_kd s n b1) = 0
            · rw [if_pos z, if_pos z]; rfl
            · rw [if_neg z, if_neg z, q_g3, Option.bind_some, q_p3, Option.bind_some]
              congr 1
              funext p51
              rw [q_gd2 h]
              rfl
          by_cases z : rq_jk l (rq_kd s n b1) = 0
          · rw [if_pos z] at body ⊢
            exact rq_eq (rt_it_inr body) ⟨f1, rfl, pc1, ls1⟩
          · rw [if_neg z] at body ⊢
            have hbn := rq_jk_37 z
            have nx := rq_nxp_b (s := s) hbn
            have bn := rq_bp_nx (s := s) hbn
            obtain ⟨s2, pc2, ls2, f2⟩ := q_advE h s1 pc1 hbn ls1
            obtain ⟨⟨v, m3⟩, x1, x2⟩ := hg _ _ _ s2 pc2 bn ls2 (by omega)
            rw [x1, Option.bind_some] at body
            dsimp only at body
            cases e : R (rq_nxp s n b1) with
            | inl q =>
              rw [e] at x2
              obtain ⟨f3, e0, ef⟩ := x2
              dsimp only at e0 f3
              rw [if_pos e0] at body
              exact rq_eq (rt_it_inr body) ⟨(f1.trans f2).trans f3, rfl, ef⟩
            | inr q =>
              obtain ⟨u, b2⟩ := q
              obtain ⟨c1, c2, c3, -⟩ := rq_ge_r hR bn e
              dsimp only at c1 c2 c3
              rw [e] at x2
              obtain ⟨f3, e0, pc3, ls3⟩ := x2
              dsimp only at e0 f3 pc3 ls3
              rw [if_neg (by omega)] at body
              have f13 := (f1.trans f2).trans f3
              have s3 := rq_st_fr hs f13 (rq_wEc_st h)
              have hc1 := c1.1
              have ll : (cs ++ t.1 ++ u.1).length < b2 := by
                rw [List.length_append]
                omega
              obtain ⟨m4, y1, ls4, f4⟩ := q_addE h s3 ls3 (by omega) (rq_jk l (rq_kd s n b1))
              rw [y1, Option.bind_some, rq_n1 (by omega)] at body
              have hL := rq_Ll_L h
              have f14 : rq_fr (rq_wEc L) m m4 := f13.trans (f4.mono (fun k j q => by
                unfold rq_wEc at q
                simp only [Bool.or_eq_false_iff] at q ⊢
                exact ⟨q.1.2, q.2⟩))
              rw [rt_it_inl body]
              refine ih (rq_jt (rq_jk l (rq_kd s n b1)) t u) b2 (i + 1) m4 N (by omega) (by omega) (by omega) c1 f14 (rq_pc_fr pc3 (fun a j q => f4 a j ?_)) ?_ ?_
              · simp only [Bool.or_eq_false_iff, Bool.and_eq_false_iff, beq_eq_false_iff_ne]
                clear h
                rcases hL with h | h | h | h <;> omega
              · show rq_ls L (cs ++ (t.1 ++ u.1 ++ [rq_jk l (rq_kd s n b1)])) m4
                rw [← List.append_assoc, ← List.append_assoc]
                exact ls4
              · show (cs ++ (t.1 ++ u.1 ++ [rq_jk l (rq_kd s n b1)])).length ≤ b2
                rw [← List.append_assoc, ← List.append_assoc, List.length_append]
                show _ + 1 ≤ b2
                omega
    have len : (cs ++ t.1).length ≤ b1 := by rw [List.length_append]; omega
    refine rq_call (loop 1001 t b1 0 m1 4000 (by omega) (by omega) (by omega) g1 f1 pc1 ls1 len) ?_
    rintro (x | p) q
    · exact rq_some.mpr q
    · exact rq_some.mpr q
end
