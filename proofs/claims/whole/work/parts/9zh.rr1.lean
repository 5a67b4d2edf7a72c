/-! Layer 3: a line of a realm, the reference's words, numbers, names -/
def rq_w9 (k j : Nat) : Bool := rq_wN2 k j || (k == 248 && (j == 9 || j == 39))
theorem rq_w9_st : (rq_P.all fun p => !(rq_w9 p.1 p.2.1)) = true := by decide +kernel
theorem rq_w9_N {k j : Nat} (h : rq_w9 k j = false) : rq_wN2 k j = false := by
  unfold rq_w9 at h
  simp only [Bool.or_eq_false_iff] at h
  exact h.1
def rq_w40 (k j : Nat) : Bool := rq_w9 k j || (k == 248 && j == 40)
theorem rq_w40_st : (rq_P.all fun p => !(rq_w40 p.1 p.2.1)) = true := by decide +kernel
theorem rq_w40_9 {k j : Nat} (h : rq_w40 k j = false) : rq_w9 k j = false := by
  unfold rq_w40 at h
  simp only [Bool.or_eq_false_iff] at h
  exact h.1
/-- a piece that gives a number -/
def rq_yN (s : Nat → Int) (n : Nat) (m : rt_M) (x : (Int × Nat) ⊕ (Int × Nat)) (p : Int × rt_M) : Prop := rq_fr rq_w9 m p.2 ∧ match x with
  | .inl q => p.1 = 0 ∧ p.2 248 9 = q.1 + 16 * (q.2 : Int)
  | .inr q => p.1 = 1 ∧ rq_ts s n q.2 p.2 ∧ p.2 248 39 = q.1
def rq_yW (s : Nat → Int) (n : Nat) (m : rt_M) (x : (Int × Nat) ⊕ Nat) (p : Int × rt_M) : Prop := rq_fr rq_w9 m p.2 ∧ match x with
  | .inl q => p.1 = 0 ∧ p.2 248 9 = q.1 + 16 * (q.2 : Int)
  | .inr b' => p.1 = 1 ∧ rq_ts s n b' p.2
def rq_yM (s : Nat → Int) (n : Nat) (v : Int) (m : rt_M) (x : (Int × Nat) ⊕ Nat) (p : Int × rt_M) : Prop := rq_fr rq_w40 m p.2 ∧ match x with
  | .inl q => p.1 = 0 ∧ p.2 248 9 = q.1 + 16 * (q.2 : Int)
  | .inr b' => p.1 = 1 ∧ rq_ts s n b' p.2 ∧ rq_nm v (p.2 248 40)
section
variable {m m' : rt_M} {s : Nat → Int} {n b : Nat} {ρ : rq_R}
theorem rq_ty_9 (h : rq_ty s n m) (f : rq_fr rq_w40 m m') : rq_ty s n m' := ⟨by rw [f 248 3 rfl]; exact h.1, fun i hi => by rw [f 249 i rfl]; exact h.2 i hi⟩
theorem q_r8n (hok : rq_okT s n) (hp : rq_bp s n b) (ts : rq_ts s n b m) (z : rq_kd s n b = 36) : m 248 8 = rq_vl s n b := by
  have t2 := (rq_tn_2 hok hp).mpr z
  rw [ts.2.2.2.2.2 t2]
  rcases rq_kd_c2 hok hp with ⟨t, k, z⟩ | ⟨t, hb, lt, v, k⟩ | ⟨t, hb, k, v, v1, v2⟩ | ⟨t, hb, W', w1, w2, k, es⟩ | ⟨t, hb, k⟩
  · omega
  · omega
  · exact v.symm
  · omega
  · omega
theorem q_needsNumber (hs : rq_st m) (ht : rq_ty s n m) (hok : rq_okT s n) (hp : rq_bp s n b) (ts : rq_ts s n b m) {lo hi : Int} : rq (f_X12_needsNumber 248 lo hi m) (rq_yN s n m (rq_nu s n lo hi b)) := by
  have hn := hok.1
  have h6 := ts.2.2.2.1
  have t2 := rq_tn_2 hok hp
  unfold f_X12_needsNumber rq_nu
  rw [q_gfr, Option.bind_some, h6]
  by_cases z : rq_kd s n b = 36
  rotate_left
  · rw [if_neg z, if_neg (fun q => z (t2.mp q)), q_fails ts hn (by decide) (by decide), Option.bind_some, q_bz0]
    exact rq_some.mpr ⟨rq_fr.rfl.up rfl, rfl, rq_upE m 248 9 _⟩
  have hb : b < n := rq_kd_lt (s := s) (by omega)
  rw [if_pos z, if_pos (t2.mpr z), q_gfr, Option.bind_some, q_r8n hok hp ts z]
  by_cases z1 : lo ≤ rq_vl s n b ∧ rq_vl s n b ≤ hi
  rotate_left
  · rw [if_neg z1, q_withinF z1, Option.bind_some, if_pos rfl, q_fails ts hn (by decide) (by decide), Option.bind_some, q_bz0]
    exact rq_some.mpr ⟨rq_fr.rfl.up rfl, rfl, rq_upE m 248 9 _⟩
  rw [if_pos z1, q_withinT z1.1 z1.2, Option.bind_some, if_neg (by decide), Option.bind_some, q_pfr, Option.bind_some]
  have f1 : rq_fr rq_w9 m (rt_up m 248 39 (rq_vl s n b)) := rq_fr.rfl.up rfl
  have e39 : rt_up m 248 39 (rq_vl s n b) 248 39 = rq_vl s n b := rq_upE _ _ _ _
  have ts1 : rq_ts s n b (rt_up m 248 39 (rq_vl s n b)) := rq_ts_fr ts (fun j h1 h2 => by rw [q_up, if_neg (by omega)])
  generalize rt_up m 248 39 (rq_vl s n b) = m1 at f1 e39 ts1 ⊢
  have s1 := rq_st_fr hs f1 rq_w9_st
  have t1 := rq_ty_9 ht (f1.mono (fun _ _ => rq_w40_9))
  refine rq_call (q_nextAt s1 t1 hok ts1 hb) ?_
  rintro m2 ⟨ts2, f2⟩
  exact rq_some.mpr ⟨f1.trans (f2.mono (fun _ _ => rq_w9_N)), rfl, ts2, by show m2 248 39 = _; rw [f2 248 39 rfl, e39]⟩
theorem q_needsWord (hs : rq_st m) (ht : rq_ty s n m) (hok : rq_okT s n) (hp : rq_bp s n b) (ts : rq_ts s n b m) {W : Nat} (hW : W < 27) {c : Int} (hc : c = rq_W27 W) : rq (f_X12_needsWord 248 c m) (rq_yW s n m (if rq_kd s n b = (W : Int) then .inr (rq_nxp s n b) else .inl (1, b))) := by
  have hn := hok.1
  unfold f_X12_needsWord
  rw [q_isWord hok hp ts hW hc, Option.bind_some]
  by_cases z : rq_kd s n b = (W : Int)
  rotate_left
  · rw [if_neg z, if_neg z, if_pos rfl, q_fails ts hn (by decide) (by decide), Option.bind_some, q_bz0]
    exact rq_some.mpr ⟨rq_fr.rfl.up rfl, rfl, rq_upE m 248 9 _⟩
  have hb : b < n := rq_kd_lt (s := s) (by omega)
  rw [if_pos z, if_pos z, if_neg (by decide)]
  refine rq_call (q_nextAt hs ht hok ts hb) ?_
  rintro m2 ⟨ts2, f2⟩
  exact rq_some.mpr ⟨f2.mono (fun _ _ => rq_w9_N), rfl, ts2⟩
theorem q_needsBoth (hs : rq_st m) (ht : rq_ty s n m) (hok : rq_okT s n) (hp : rq_bp s n b) (ts : rq_ts s n b m) {W : Nat} (hW : W < 27) {c : Int} (hc : c = rq_W27 W) {lo hi : Int} : rq (f_X12_needsBoth 248 c lo hi m) (rq_yN s n m (rq_fa s n (W : Int) lo hi b)) := by
  unfold f_X12_needsBoth j_X12_needsBoth_22 j_X12_needsBoth_23 rq_fa
  refine rq_call (q_needsWord hs ht hok hp ts hW hc) ?_
  rintro ⟨v1, m1⟩ ⟨f1, h1⟩
  dsimp only at f1 h1 ⊢
  by_cases z : rq_kd s n b = (W : Int)
  rotate_left
  · rw [if_neg z] at h1 ⊢
    rw [if_pos h1.1, q_bz0]
    exact rq_some.mpr ⟨f1, rfl, h1.2⟩
  rw [if_pos z] at h1 ⊢
  have hb : b < n := rq_kd_lt (s := s) (by omega)
  obtain ⟨h1a, ts1⟩ := h1
  have s1 := rq_st_fr hs f1 rq_w9_st
  have t1 := rq_ty_9 ht (f1.mono (fun _ _ => rq_w40_9))
  rw [h1a, if_neg (by decide)]
  refine rq_call (q_needsNumber s1 t1 hok (rq_bp_nx hb) ts1) ?_
  rintro ⟨v2, m2⟩ ⟨f2, h2⟩
  dsimp only at f2 h2 ⊢
  cases e : rq_nu s n lo hi (rq_nxp s n b) with
  | inl q =>
    rw [e] at h2
    dsimp only at h2
    rw [if_pos h2.1, q_bz0]
    exact rq_some.mpr ⟨f1.trans f2, rfl, h2.2⟩
  | inr q =>
    rw [e] at h2
    dsimp only at h2
    rw [h2.1, if_neg (by decide), q_bz1]
    exact rq_some.mpr ⟨f1.trans f2, rfl, h2.2.1, h2.2.2⟩
/-- the draft's names -/
def rq_dn (ρ : rq_R) (m : rt_M) : Prop := m 250 4 = ρ.1 0 0 ∧ m 250 5 = ρ.1 0 1 ∧ (∀ i : Nat, (i : Int) < ρ.1 0 0 → rq_nm (ρ.1 9 i) (m 251 (6 + i))) ∧ ∀ i : Nat, (i : Int) < ρ.1 0 1 → rq_nm (ρ.1 10 i) (m 252 (6 + i))
theorem q_needsNew (hs : rq_st m) (ht : rq_ty s n m) (hok : rq_okT s n) (hp : rq_bp s n b) (ts : rq_ts s n b m) (hv : rq_va ρ) (hd : rq_dn ρ m) : rq (f_X12_needsNew 248 m) (rq_yM s n (rq_vl s n b) m (rq_nnw ρ s n b)) := by
  have hn := hok.1
  have hv0 := hv.1
  obtain ⟨ik0, ik1⟩ := q_isKept hok hp ts
  unfold f_X12_needsNew j_X12_needsNew_29 rq_nnw
  by_cases z : rq_cnb s n b = true
  rotate_left
  · rw [if_neg z, ik1 (fun q => z ((rq_cnb_i s n b).mpr q)), Option.bind_some, if_neg (by decide), q_fails ts hn (by decide) (by decide), Option.bind_some, q_bz0]
    exact rq_some.mpr ⟨rq_fr.rfl.up rfl, rfl, rq_upE m 248 9 _⟩
  have zc := (rq_cnb_i s n b).mp z
  obtain ⟨t1, hb, lt, ev⟩ := rq_cn_nm hok hp zc
  have ew := q_rwigNamed hs hok hp ts zc (q := 1) (N := (ρ.1 0 0).toNat) (by decide) (by omega) (by rw [hd.1]; omega) (f := ρ.1 9) (fun i hi => hd.2.2.1 i (by omega))
  have eh := q_rheadNamed hs hok hp ts zc (q := 1) (N := (ρ.1 0 1).toNat) (by decide) (by omega) (by rw [hd.2.1]; omega) (f := ρ.1 10) (fun i hi => hd.2.2.2 i (by omega))
  have ew' : f_X12_wigNamed 248 1 m = some (rq_nw ρ (rq_vl s n b)) := ew
  have eh' : f_X12_headNamed 248 1 m = some (rq_nh ρ (rq_vl s n b)) := eh
  have wb := rq_nw_b (ρ := ρ) (rq_vl s n b)
  have hb2 := rq_nh_b (ρ := ρ) (rq_vl s n b)
  have bad : rq ((f_X12_fails 248 3 m).bind fun p31 => (rt_bz p31.1).bind fun _ => some (p31.1, p31.2)) (rq_yM s n (rq_vl s n b) m (.inl (3, b))) := by
    rw [q_fails ts hn (by decide) (by decide), Option.bind_some, q_bz0]
    exact rq_some.mpr ⟨rq_fr.rfl.up rfl, rfl, rq_upE m 248 9 _⟩
  rw [if_pos z, ik0 zc, Option.bind_some, if_pos rfl, ew', Option.bind_some]
  by_cases z1 : rq_nw ρ (rq_vl s n b) = -1
  rotate_left
  · rw [if_pos (show 0 ≤ rq_nw ρ (rq_vl s n b) by omega), if_neg (show ¬ (rq_nw ρ (rq_vl s n b) = -1 ∧ rq_nh ρ (rq_vl s n b) = -1) from fun q => z1 q.1)]
    exact bad
  rw [if_neg (show ¬ 0 ≤ rq_nw ρ (rq_vl s n b) by omega), eh', Option.bind_some]
  by_cases z2 : rq_nh ρ (rq_vl s n b) = -1
  rotate_left
  · rw [if_neg (show ¬ rq_nh ρ (rq_vl s n b) < 0 by omega), if_neg (show ¬ (rq_nw ρ (rq_vl s n b) = -1 ∧ rq_nh ρ (rq_vl s n b) = -1) from fun q => z2 q.2)]
    exact bad
  rw [if_pos (show rq_nh ρ (rq_vl s n b) < 0 by omega), if_pos (show rq_nw ρ (rq_vl s n b) = -1 ∧ rq_nh ρ (rq_vl s n b) = -1 from ⟨z1, z2⟩), q_gfr, Option.bind_some, q_pfr, Option.bind_some]
  have f1 : rq_fr rq_w40 m (rt_up m 248 40 (m 248 7)) := rq_fr.rfl.up rfl
  have e40 : rt_up m 248 40 (m 248 7) 248 40 = m 248 7 := rq_upE _ _ _ _
  have ts1 : rq_ts s n b (rt_up m 248 40 (m 248 7)) := rq_ts_fr ts (fun j h1 h2 => by rw [q_up, if_neg (by omega)])
  generalize rt_up m 248 40 (m 248 7) = m1 at f1 e40 ts1 ⊢
  have s1 := rq_st_fr hs f1 rq_w40_st
  refine rq_call (q_nextAt s1 (rq_ty_9 ht f1) hok ts1 hb) ?_
  rintro m2 ⟨ts2, f2⟩
  refine rq_some.mpr ⟨f1.trans (f2.mono (fun _ _ q => rq_w9_N (rq_w40_9 q))), rfl, ts2, ?_⟩
  show rq_nm (rq_vl s n b) (m2 248 40)
  rw [f2 248 40 rfl, e40, ts.2.2.2.2.1 t1]
  exact ⟨_, lt, ev, rfl⟩
theorem q_closesX (hs : rq_st m) (ht : rq_ty s n m) (hok : rq_okT s n) (hp : rq_bp s n b) (ts : rq_ts s n b m) : rq (f_X12_closes 248 m) (rq_yW s n m (rq_stp s n b)) := by
  obtain ⟨k1, k2⟩ := q_closes hs ht hok hp ts
  unfold rq_stp
  by_cases z : rq_kd s n b = 34
  · rw [if_pos z]
    refine rq_mono (k1 z) ?_
    rintro ⟨v, m1⟩ ⟨e1, e2, e3⟩
    exact ⟨e3.mono (fun _ _ => rq_w9_N), e1, e2⟩
  · rw [if_neg z, k2 z]
    exact rq_some.mpr ⟨rq_fr.rfl.up rfl, rfl, rq_upE m 248 9 _⟩
end
