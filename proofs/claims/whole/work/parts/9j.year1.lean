/-! Layer 3: a line of years; the class reads it -/
abbrev rq_Ln : Type := Int × Int × Int
/-- the line behind those of Y -/
def rq_ya (Y : rq_Y) (l : rq_Ln) : rq_Y := fun a i => if a = 0 then (if i = 0 then Y 0 0 + 1 else Y 0 i) else if i = (Y 0 0).toNat then (if a = 1 then l.1 else if a = 2 then l.2.1 else l.2.2) else Y a i
def rq_cnb (s : Nat → Int) (n b : Nat) : Bool := (decide (21 ≤ rq_kd s n b) && decide (rq_kd s n b < 27)) || decide (rq_kd s n b = 35)
theorem rq_cnb_i (s : Nat → Int) (n b : Nat) : rq_cnb s n b = true ↔ rq_cn s n b := by unfold rq_cnb rq_cn; simp
def rq_yfin (s : Nat → Int) (n : Nat) (l : rq_Ln) (b : Nat) : (Int × Nat) ⊕ (rq_Ln × Nat) := if rq_kd s n b = 34 then .inr (l, rq_nxp s n b) else .inl (1, b)
def rq_yhd (ρ : rq_R) (s : Nat → Int) (n : Nat) (w : Int) (b : Nat) : (Int × Nat) ⊕ (rq_Ln × Nat) := if rq_cnb s n b = true then (if rq_nh ρ (rq_vl s n b) = -1 then .inl (2, b) else rq_yfin s n (0, w, rq_nh ρ (rq_vl s n b)) (rq_nxp s n b)) else .inl (1, b)
def rq_ywg (ρ : rq_R) (s : Nat → Int) (n : Nat) (k : Int) (b : Nat) : (Int × Nat) ⊕ (rq_Ln × Nat) := if rq_cnb s n b = true then (if rq_nw ρ (rq_vl s n b) = -1 then .inl (2, b) else if k = 10 then rq_yhd ρ s n (rq_nw ρ (rq_vl s n b)) (rq_nxp s n b) else rq_yfin s n (k - 10, rq_nw ρ (rq_vl s n b), -1) (rq_nxp s n b)) else .inl (1, b)
def rq_yl (ρ : rq_R) (s : Nat → Int) (n b : Nat) (cnt : Int) : (Int × Nat) ⊕ (rq_Ln × Nat) := if 10 ≤ rq_kd s n b ∧ rq_kd s n b ≤ 13 then (if cnt = 40 then .inl (5, b) else if rq_kd s n b = 13 then rq_yfin s n (3, -1, -1) (rq_nxp s n b) else rq_ywg ρ s n (rq_kd s n b) (rq_nxp s n b)) else .inl (1, b)
section
variable {m : rt_M} {s : Nat → Int} {n b : Nat} {r : Nat} {ρ : rq_R} {Y : rq_Y}
theorem rq_kd_lt (h : rq_kd s n b ≠ 37) : b < n := Classical.byContradiction fun q => h (rq_kd_37.mpr q)
def rq_wYc (k j : Nat) : Bool := (k == 47 && (j == 1 || j == 2)) || (k == 111 && j == 0) || k == 112 || k == 113 || k == 114
theorem rq_wYc_st : (rq_P.all fun p => !(rq_wYc p.1 p.2.1)) = true := by decide +kernel
theorem rq_C_Yc {m' : rt_M} (h : rq_C r ρ m) (k : rq_fr rq_wYc m m') : rq_C r ρ m' := by
  obtain ⟨hs, hr, hv, hc⟩ := h
  refine ⟨rq_st_fr hs k rq_wYc_st, hr, hv, rq_rc_fr hc hv (fun a j h1 h2 h3 h4 => k a j ?_)⟩
  unfold rq_wYc
  simp only [Bool.or_eq_false_iff, Bool.and_eq_false_iff, beq_eq_false_iff_ne]
  omega
theorem rq_yc_47 {m' : rt_M} (h : rq_yc 111 Y m) (k : ∀ a j, 111 ≤ a → a ≤ 114 → m' a j = m a j) : rq_yc 111 Y m' := rq_yc_fr h k
theorem q_yadd (hs : rq_st m) (h : rq_yc 111 Y m) (h0 : 0 ≤ Y 0 0) (h40 : Y 0 0 < 40) {l : rq_Ln} (hl : 0 ≤ l.1 ∧ l.1 ≤ 3) : rq (f_X10_add ((111 : Nat) : Int) (10 + l.1) l.2.1 l.2.2 m) (fun m1 => rq_yc 111 (rq_ya Y l) m1 ∧ rq_fr (fun k j => (k == 111 && j == 0) || k == 112 || k == 113 || k == 114) m m1) := by
  have y1 : (111 : Nat) ∈ rq_yL := by decide
  obtain ⟨c, hc⟩ := Int.eq_ofNat_of_zero_le h0
  have e0 : m 111 0 = (c : Int) := by rw [h.1, hc]
  have ec : (Y 0 0).toNat = c := by rw [hc]; rfl
  have s1 : rq_st (rt_up m 112 c (10 + l.1)) := rq_st_fr (W := rq_wYc) hs (rq_fr.rfl.up rfl) rq_wYc_st
  have s2 : rq_st (rt_up (rt_up m 112 c (10 + l.1)) 113 c l.2.1) := rq_st_fr (W := rq_wYc) s1 (rq_fr.rfl.up rfl) rq_wYc_st
  have d1 : rt_up m 112 c (10 + l.1) 111 0 = (c : Int) := e0
  have d2 : rt_up (rt_up m 112 c (10 + l.1)) 113 c l.2.1 111 0 = (c : Int) := e0
  have d3 : rt_up (rt_up (rt_up m 112 c (10 + l.1)) 113 c l.2.1) 114 c l.2.2 111 0 = (c : Int) := e0
  have ew : rt_saw ((112 : Nat) : Int) (c : Int) (10 + l.1) m = some (rt_up m 112 c (10 + l.1)) := by
    unfold rt_saw
    rw [if_pos (by omega), q_sa kd_112 ln_112 (by omega)]
  unfold f_X10_add j_X10_add_49
  rw [q_gf10 y1, Option.bind_some, e0, if_neg (by omega), q_gf10 y1, Option.bind_some, Option.bind_some, pt_111_1 hs, show (112 : Int) = ((112 : Nat) : Int) from rfl, ew, Option.bind_some, q_gf10 y1, Option.bind_some, q_gf10 y1, Option.bind_some, d1, pt_111_2 s1, show (113 : Int) = ((113 : Nat) : Int) from rfl, q_sa kd_113 ln_113 (show c < 40 by omega), Option.bind_some, q_gf10 y1, Option.bind_some, q_gf10 y1, Option.bind_some, d2, pt_111_3 s2, show (114 : Int) = ((114 : Nat) : Int) from rfl, q_sa kd_114 ln_114 (show c < 40 by omega), Option.bind_some, q_gf10 y1, Option.bind_some, d3, q_pf10 y1, Option.bind_some, rq_n1 (by omega)]
  refine rq_some.mpr ⟨⟨?_, fun i hi => ?_⟩, (((rq_fr.rfl.up rfl).up rfl).up rfl).up rfl⟩
  · rw [q_up, if_pos ⟨rfl, rfl⟩]
    show _ = (if (0 : Nat) = 0 then (if (0 : Nat) = 0 then Y 0 0 + 1 else Y 0 0) else _)
    rw [if_pos rfl, if_pos rfl, hc]
    omega
  · have hi' : (i : Int) < (c : Int) + 1 := by
      have : rq_ya Y l 0 0 = Y 0 0 + 1 := by unfold rq_ya; rw [if_pos rfl, if_pos rfl]
      rw [this, hc] at hi
      exact hi
    have g1 : rt_up (rt_up (rt_up (rt_up m 112 c (10 + l.1)) 113 c l.2.1) 114 c l.2.2) 111 0 ((c + 1 : Nat) : Int) (111 + 1) i = if i = c then 10 + l.1 else m 112 i := by simp [q_up]
    have g2 : rt_up (rt_up (rt_up (rt_up m 112 c (10 + l.1)) 113 c l.2.1) 114 c l.2.2) 111 0 ((c + 1 : Nat) : Int) (111 + 2) i = if i = c then l.2.1 else m 113 i := by simp [q_up]
    have g3 : rt_up (rt_up (rt_up (rt_up m 112 c (10 + l.1)) 113 c l.2.1) 114 c l.2.2) 111 0 ((c + 1 : Nat) : Int) (111 + 3) i = if i = c then l.2.2 else m 114 i := by simp [q_up]
    have v1 : rq_ya Y l 1 i = if i = c then l.1 else Y 1 i := by unfold rq_ya; rw [if_neg (by decide), if_pos rfl, ec]
    have v2 : rq_ya Y l 2 i = if i = c then l.2.1 else Y 2 i := by simp [rq_ya, ec]
    have v3 : rq_ya Y l 3 i = if i = c then l.2.2 else Y 3 i := by simp [rq_ya, ec]
    rw [g1, g2, g3, v1, v2, v3]
    by_cases z : i = c
    · rw [if_pos z, if_pos z, if_pos z, if_pos z, if_pos z, if_pos z]
      exact ⟨rfl, fun _ => rfl, fun _ => rfl⟩
    · rw [if_neg z, if_neg z, if_neg z, if_neg z, if_neg z, if_neg z]
      exact h.2 i (by omega)
/-- what a line comes to -/
def rq_ycR (s : Nat → Int) (n : Nat) (Y : rq_Y) (m : rt_M) (x : (Int × Nat) ⊕ (rq_Ln × Nat)) (p : Int × rt_M) : Prop := rq_fr rq_wYc m p.2 ∧ ((∃ k q, x = .inl (k, q) ∧ p.1 = 0 ∧ p.2 47 2 = k + 16 * (q : Int)) ∨ ∃ l q, x = .inr (l, q) ∧ p.1 = 1 ∧ rq_pc s n q p.2 ∧ rq_yc 111 (rq_ya Y l) p.2)
theorem q_yline (hC : rq_C r ρ m) (hb : rq_nmb ρ) (hok : rq_okT s n) (hp : rq_bp s n b) (h : rq_pc s n b m) (hy : rq_yc 111 Y m) (h0 : 0 ≤ Y 0 0) (h40 : Y 0 0 ≤ 40) : rq (f_X3_yearsLine ((47 : Nat) : Int) (r : Int) ((111 : Nat) : Int) m) (rq_ycR s n Y m (rq_yl ρ s n b (Y 0 0))) := by
  have hn := hok.1
  have y1 : (111 : Nat) ∈ rq_yL := by decide
  have gd10 : ∀ {α : Type} (o : Option α), rt_gd 10 ((111 : Nat) : Int) o = o := fun o => rfl
  -- a fault
  have bad : ∀ (m1 : rt_M) (b1 : Nat) (k : Int), rq_fr rq_wYc m m1 → rq_ycR s n Y m (.inl (k, b1)) (0, rt_up m1 47 2 (k + 16 * (b1 : Int))) := fun m1 b1 k f => ⟨f.up rfl, Or.inl ⟨k, b1, rfl, rfl, by show rt_up m1 47 2 (k + 16 * (b1 : Int)) 47 2 = _; rw [q_up, if_pos ⟨rfl, rfl⟩]⟩⟩
  have adv : ∀ {m1 : rt_M} {b1 : Nat}, rq_fr rq_wYc m m1 → rq_pc s n b1 m1 → b1 < n → rq_fr rq_wYc m (rt_up m1 47 1 (rt_iadd (m1 47 1) 1)) ∧ rq_pc s n (rq_nxp s n b1) (rt_up m1 47 1 (rt_iadd (m1 47 1) 1)) := fun f h q => ⟨f.up rfl, (rq_pc_adv h q).2⟩
  -- the end of a line
  have fin : ∀ (m1 : rt_M) (b1 : Nat) (l : rq_Ln), rq_fr rq_wYc m m1 → rq_pc s n b1 m1 → rq_yc 111 Y m1 → 0 ≤ l.1 ∧ l.1 ≤ 3 → Y 0 0 < 40 → rq (j_X3_yearsLine_126 ((47 : Nat) : Int) ((111 : Nat) : Int) (10 + l.1) l.2.1 l.2.2 m1) (rq_ycR s n Y m (rq_yfin s n l b1)) := by
    intro m1 b1 l f1 p1 c1 hl h39
    have s1 := rq_st_fr hC.1 f1 rq_wYc_st
    unfold j_X3_yearsLine_126
    rw [gd10]
    refine rq_call (q_yadd s1 c1 h0 h39 hl) ?_
    rintro m2 ⟨c2, f2⟩
    have f2' : rq_fr rq_wYc m m2 := f1.trans (f2.mono (fun k j q => by
      unfold rq_wYc at q
      simp only [Bool.or_eq_false_iff] at q ⊢
      exact ⟨⟨⟨q.1.1.1.2, q.1.1.2⟩, q.1.2⟩, q.2⟩))
    have s2 := rq_st_fr hC.1 f2' rq_wYc_st
    have p2 : rq_pc s n b1 m2 := rq_pc_fr p1 (fun a j q => f2 a j (by simp only [Bool.or_eq_false_iff, Bool.and_eq_false_iff, beq_eq_false_iff_ne]; omega))
    unfold rq_yfin
    by_cases z : rq_kd s n b1 = 34
    · obtain ⟨a1, a2⟩ := adv f2' p2 (rq_kd_lt (s := s) (by omega))
      rw [(q_take s2 p2 hn 34).1 z, Option.bind_some, q_bz1, if_pos z]
      refine rq_some.mpr ⟨a1, Or.inr ⟨l, _, rfl, rfl, a2, rq_yc_47 c2 (fun a j h1 h2 => by show rt_up m2 47 1 _ a j = m2 a j; rw [q_up, if_neg (by omega)])⟩⟩
    · rw [(q_take s2 p2 hn 34).2 z, Option.bind_some, q_bz0, if_neg z]
      exact rq_some.mpr (bad m2 b1 1 f2')
  unfold f_X3_yearsLine
  rw [q_kind hC.1 h, Option.bind_some]
  have line : 10 ≤ rq_kd s n b ∧ rq_kd s n b ≤ 13 → rq (j_X3_yearsLine_39 ((47 : Nat) : Int) (r : Int) ((111 : Nat) : Int) (rq_kd s n b) m) (rq_ycR s n Y m (rq_yl ρ s n b (Y 0 0))) := by
    intro hk
    have hbn : b < n := rq_kd_lt (s := s) (by omega)
    unfold j_X3_yearsLine_39 rq_yl
    rw [if_pos hk, q_gf10 y1, Option.bind_some, hy.1]
    by_cases z40 : Y 0 0 = 40
    · rw [if_neg (by omega), if_pos z40, q_fail hC.1 h hn (by decide) (by decide), Option.bind_some, q_bz0]
      exact rq_some.mpr (bad m b 5 rq_fr.rfl)
    · obtain ⟨f1, p1⟩ := adv rq_fr.rfl h hbn
      have cy1 : rq_yc 111 Y (rt_up m 47 1 (rt_iadd (m 47 1) 1)) := rq_yc_47 hy (fun a j h1 h2 => by rw [q_up, if_neg (by omega)])
      have bp1 := rq_bp_nx (s := s) hbn
      rw [if_pos (by omega), if_neg z40, q_g3, Option.bind_some, q_p3, Option.bind_some]
      generalize rt_up m 47 1 (rt_iadd (m 47 1) 1) = m1 at f1 p1 cy1 ⊢
      have hC1 := rq_C_Yc hC f1
      by_cases z13 : rq_kd s n b = 13
      · rw [if_pos z13, if_pos z13, z13]
        unfold j_X3_yearsLine_98
        rw [if_neg (by decide)]
        exact fin m1 _ (3, -1, -1) f1 p1 cy1 (by decide) (by omega)
      · rw [if_neg z13, if_neg z13]
        have vb := rq_vl_b2 hok bp1
        rw [q_value hC1.1 p1, Option.bind_some, q_gd4 hC1, q_wigNamed hC1 hb vb.1 vb.2, Option.bind_some]
        unfold rq_ywg
        obtain ⟨o1, o2, o3⟩ := q_oldName hC1.1 p1 hn (rq_nw ρ (rq_vl s n (rq_nxp s n b)))
        by_cases zc : rq_cn s n (rq_nxp s n b)
        · rw [if_pos ((rq_cnb_i s n _).mpr zc)]
          by_cases zw : rq_nw ρ (rq_vl s n (rq_nxp s n b)) = -1
          · rw [o2 zc zw, Option.bind_some, if_pos rfl, if_pos zw]
            exact rq_some.mpr (bad m1 _ 2 f1)
          · obtain ⟨-, hb1, -, -⟩ := rq_cn_nm hok bp1 zc
            obtain ⟨f2, p2⟩ := adv f1 p1 hb1
            have bp2 := rq_bp_nx (s := s) hb1
            have cy2 : rq_yc 111 Y (rt_up m1 47 1 (rt_iadd (m1 47 1) 1)) := rq_yc_47 cy1 (fun a j h1 h2 => by rw [q_up, if_neg (by omega)])
            rw [o1 zc zw, Option.bind_some, if_neg (show ¬ (1 : Int) = 0 by decide), if_neg zw]
            dsimp only
            generalize rt_up m1 47 1 (rt_iadd (m1 47 1) 1) = m2 at f2 p2 cy2 ⊢
            have hC2 := rq_C_Yc hC f2
            unfold j_X3_yearsLine_98
            by_cases z10 : rq_kd s n b = 10
            · rw [if_pos z10, if_pos z10]
              have vb2 := rq_vl_b2 hok bp2
              rw [q_value hC2.1 p2, Option.bind_some, q_gd4 hC2, q_headNamed hC2 hb vb2.1 vb2.2, Option.bind_some]
              unfold rq_yhd
              obtain ⟨o1, o2, o3⟩ := q_oldName hC2.1 p2 hn (rq_nh ρ (rq_vl s n (rq_nxp s n (rq_nxp s n b))))
              by_cases zc2 : rq_cn s n (rq_nxp s n (rq_nxp s n b))
              · rw [if_pos ((rq_cnb_i s n _).mpr zc2)]
                by_cases zh : rq_nh ρ (rq_vl s n (rq_nxp s n (rq_nxp s n b))) = -1
                · rw [o2 zc2 zh, Option.bind_some, if_pos rfl, if_pos zh]
                  exact rq_some.mpr (bad m2 _ 2 f2)
                · obtain ⟨-, hb2, -, -⟩ := rq_cn_nm hok bp2 zc2
                  obtain ⟨f3, p3⟩ := adv f2 p2 hb2
                  have cy3 : rq_yc 111 Y (rt_up m2 47 1 (rt_iadd (m2 47 1) 1)) := rq_yc_47 cy2 (fun a j h1 h2 => by rw [q_up, if_neg (by omega)])
                  rw [o1 zc2 zh, Option.bind_some, if_neg (show ¬ (1 : Int) = 0 by decide), if_neg zh, z10]
                  exact fin _ _ (0, _, _) f3 p3 cy3 ⟨Int.le_refl 0, show (0 : Int) ≤ 3 by decide⟩ (by omega)
              · rw [o3 zc2, Option.bind_some, if_pos rfl, if_neg (fun q => zc2 ((rq_cnb_i s n _).mp q))]
                exact rq_some.mpr (bad m2 _ 1 f2)
            · rw [if_neg z10, if_neg z10]
              have := fin m2 _ (rq_kd s n b - 10, rq_nw ρ (rq_vl s n (rq_nxp s n b)), -1) f2 p2 cy2 (by dsimp only; omega) (by omega)
              rw [show 10 + (rq_kd s n b - 10, rq_nw ρ (rq_vl s n (rq_nxp s n b)), (-1 : Int)).1 = rq_kd s n b by dsimp only; omega] at this
              exact this
        · rw [o3 zc, Option.bind_some, if_pos rfl, if_neg (fun q => zc ((rq_cnb_i s n _).mp q))]
          exact rq_some.mpr (bad m1 _ 1 f1)
  by_cases k10 : rq_kd s n b = 10
  · rw [if_pos k10]; exact line (by omega)
  · rw [if_neg k10]
    by_cases k11 : rq_kd s n b = 11
    · rw [if_pos k11]; exact line (by omega)
    · rw [if_neg k11]
      by_cases k12 : rq_kd s n b = 12
      · rw [if_pos k12]; exact line (by omega)
      · rw [if_neg k12]
        by_cases k13 : rq_kd s n b = 13
        · rw [if_pos k13]; exact line (by omega)
        · rw [if_neg k13, q_fail hC.1 h hn (by decide) (by decide), Option.bind_some, q_bz0]
          unfold rq_yl
          rw [if_neg (by omega)]
          exact rq_some.mpr (bad m b 1 rq_fr.rfl)
end
