/-! Layer 3: lines of heats and of slack, the class reads them -/
def rq_at3 (ρ : rq_R) (t : Nat × (Nat → Int)) : rq_R := (fun a i => if a = 0 then (if i = 3 then (t.1 : Int) else ρ.1 0 i) else if a = 8 then t.2 i else ρ.1 a i, ρ.2)
def rq_asl (ρ : rq_R) (v : Int) : rq_R := (fun a i => if a = 0 ∧ i = 2 then v else ρ.1 a i, ρ.2)
section
variable {m : rt_M} {s : Nat → Int} {n b r : Nat} {ρ : rq_R}
theorem rq_at3_n (t : Nat × (Nat → Int)) (x i : Nat) (q0 : x ≠ 0) (q8 : x ≠ 8) : (rq_at3 ρ t).1 x i = ρ.1 x i := by
  unfold rq_at3
  dsimp only
  rw [if_neg q0, if_neg q8]
theorem rq_asl_n (v : Int) (x i : Nat) (q0 : x ≠ 0) : (rq_asl ρ v).1 x i = ρ.1 x i := by
  unfold rq_asl
  dsimp only
  rw [if_neg (by omega)]
theorem rq_at3_va (hv : rq_va ρ) {t : Nat × (Nat → Int)} (h1 : t.1 ≤ 12) (h2 : ∀ i, i < t.1 → 0 ≤ t.2 i ∧ t.2 i ≤ 9) : rq_va (rq_at3 ρ t) := by
  obtain ⟨a, b, c, d⟩ := hv
  have e0 : (rq_at3 ρ t).1 0 0 = ρ.1 0 0 := rfl
  have e1 : (rq_at3 ρ t).1 0 1 = ρ.1 0 1 := rfl
  have e2 : (rq_at3 ρ t).1 0 2 = ρ.1 0 2 := rfl
  have e3 : (rq_at3 ρ t).1 0 3 = (t.1 : Int) := rfl
  have e8 : ∀ i, (rq_at3 ρ t).1 8 i = t.2 i := fun i => rfl
  refine ⟨by rw [e0, e1, e2, e3]; omega, fun w hw => ?_, fun w hw => ?_, fun i hi => ?_⟩
  · rw [e0] at hw
    rw [rq_at3_n t 1 w (by decide) (by decide), rq_at3_n t 2 w (by decide) (by decide), rq_at3_n t 3 w (by decide) (by decide)]
    exact b w hw
  · rw [e1] at hw
    rw [rq_at3_n t 4 w (by decide) (by decide), rq_at3_n t 5 w (by decide) (by decide), rq_at3_n t 6 w (by decide) (by decide), rq_at3_n t 7 w (by decide) (by decide)]
    exact c w hw
  · rw [e3] at hi
    rw [e8]
    exact h2 i (by omega)
theorem rq_asl_va (hv : rq_va ρ) {v : Int} (h1 : 0 ≤ v ∧ v ≤ 9) : rq_va (rq_asl ρ v) := by
  obtain ⟨a, b, c, d⟩ := hv
  have e0 : (rq_asl ρ v).1 0 0 = ρ.1 0 0 := rfl
  have e1 : (rq_asl ρ v).1 0 1 = ρ.1 0 1 := rfl
  have e2 : (rq_asl ρ v).1 0 2 = v := rfl
  have e3 : (rq_asl ρ v).1 0 3 = ρ.1 0 3 := rfl
  refine ⟨by rw [e0, e1, e2, e3]; omega, fun w hw => ?_, fun w hw => ?_, fun i hi => ?_⟩
  · rw [e0] at hw
    rw [rq_asl_n v 1 w (by decide), rq_asl_n v 2 w (by decide), rq_asl_n v 3 w (by decide)]
    exact b w hw
  · rw [e1] at hw
    rw [rq_asl_n v 4 w (by decide), rq_asl_n v 5 w (by decide), rq_asl_n v 6 w (by decide), rq_asl_n v 7 w (by decide)]
    exact c w hw
  · rw [e3] at hi
    rw [rq_asl_n v 8 i (by decide)]
    exact d i hi
theorem rq_at3_C (h : rq_C r ρ m) {t : Nat × (Nat → Int)} (h1 : t.1 ≤ 12) (h2 : ∀ i, i < t.1 → 0 ≤ t.2 i ∧ t.2 i ≤ 9) {m' : rt_M} (hs' : rq_st m') (c0 : ∀ i, i < t.1 → m' (r + 17) i = t.2 i) (ct : m' r 7 = (t.1 : Int)) (k : ∀ a j, r ≤ a → a ≤ r + 23 → ¬ (a = r ∧ j = 7) → ¬ (a = r + 17) → m' a j = m a j) : rq_C r (rq_at3 ρ t) m' := by
  obtain ⟨hs, hr, hv, ⟨b0, b1, b2, b3⟩, q1, q2, q3, q4, q5⟩ := h
  have hv0 := hv.1
  have e0 : (rq_at3 ρ t).1 0 0 = ρ.1 0 0 := rfl
  have e1 : (rq_at3 ρ t).1 0 1 = ρ.1 0 1 := rfl
  have e2 : (rq_at3 ρ t).1 0 2 = ρ.1 0 2 := rfl
  have e3 : (rq_at3 ρ t).1 0 3 = (t.1 : Int) := rfl
  have e8 : ∀ i, (rq_at3 ρ t).1 8 i = t.2 i := fun i => rfl
  refine ⟨hs', hr, rq_at3_va hv h1 h2, ⟨by rw [e0, k r 0 (by omega) (by omega) (by omega) (by omega)]; exact b0, by rw [e1, k r 1 (by omega) (by omega) (by omega) (by omega)]; exact b1, by rw [e2, k r 8 (by omega) (by omega) (by omega) (by omega)]; exact b2, by rw [e3, ct]⟩, fun w hw => ?_, fun w hw => ?_, fun i hi => ?_, rq_lw_fr q4 (fun j => k _ j (by omega) (by omega) (by omega) (by omega)) (fun j => k _ j (by omega) (by omega) (by omega) (by omega)), rq_lw_fr q5 (fun j => k _ j (by omega) (by omega) (by omega) (by omega)) (fun j => k _ j (by omega) (by omega) (by omega) (by omega))⟩
  · rw [e0] at hw
    rw [rq_at3_n t 1 w (by decide) (by decide), rq_at3_n t 2 w (by decide) (by decide), rq_at3_n t 3 w (by decide) (by decide), rq_at3_n t 9 w (by decide) (by decide), k (r + 4 + w) 0 (by omega) (by omega) (by omega) (by omega), k (r + 4 + w) 1 (by omega) (by omega) (by omega) (by omega), k (r + 4 + w) 2 (by omega) (by omega) (by omega) (by omega), k (r + 1) w (by omega) (by omega) (by omega) (by omega)]
    exact q1 w hw
  · rw [e1] at hw
    rw [rq_at3_n t 4 w (by decide) (by decide), rq_at3_n t 5 w (by decide) (by decide), rq_at3_n t 6 w (by decide) (by decide), rq_at3_n t 7 w (by decide) (by decide), rq_at3_n t 10 w (by decide) (by decide), k (r + 11 + w) 0 (by omega) (by omega) (by omega) (by omega), k (r + 11 + w) 1 (by omega) (by omega) (by omega) (by omega), k (r + 11 + w) 2 (by omega) (by omega) (by omega) (by omega), k (r + 11 + w) 3 (by omega) (by omega) (by omega) (by omega), k (r + 2) w (by omega) (by omega) (by omega) (by omega)]
    exact q2 w hw
  · rw [e3] at hi
    rw [e8]
    exact c0 i (by omega)
theorem rq_asl_C (h : rq_C r ρ m) {v : Int} (h1 : 0 ≤ v ∧ v ≤ 9) {m' : rt_M} (hs' : rq_st m') (ct : m' r 8 = v) (k : ∀ a j, r ≤ a → a ≤ r + 23 → ¬ (a = r ∧ (j = 8 ∨ j = 9)) → m' a j = m a j) : rq_C r (rq_asl ρ v) m' := by
  obtain ⟨hs, hr, hv, ⟨b0, b1, b2, b3⟩, q1, q2, q3, q4, q5⟩ := h
  have hv0 := hv.1
  have e0 : (rq_asl ρ v).1 0 0 = ρ.1 0 0 := rfl
  have e1 : (rq_asl ρ v).1 0 1 = ρ.1 0 1 := rfl
  have e2 : (rq_asl ρ v).1 0 2 = v := rfl
  have e3 : (rq_asl ρ v).1 0 3 = ρ.1 0 3 := rfl
  refine ⟨hs', hr, rq_asl_va hv h1, ⟨by rw [e0, k r 0 (by omega) (by omega) (by omega)]; exact b0, by rw [e1, k r 1 (by omega) (by omega) (by omega)]; exact b1, by rw [e2, ct], by rw [e3, k r 7 (by omega) (by omega) (by omega)]; exact b3⟩, fun w hw => ?_, fun w hw => ?_, fun i hi => ?_, rq_lw_fr q4 (fun j => k _ j (by omega) (by omega) (by omega)) (fun j => k _ j (by omega) (by omega) (by omega)), rq_lw_fr q5 (fun j => k _ j (by omega) (by omega) (by omega)) (fun j => k _ j (by omega) (by omega) (by omega))⟩
  · rw [e0] at hw
    rw [rq_asl_n v 1 w (by decide), rq_asl_n v 2 w (by decide), rq_asl_n v 3 w (by decide), rq_asl_n v 9 w (by decide), k (r + 4 + w) 0 (by omega) (by omega) (by omega), k (r + 4 + w) 1 (by omega) (by omega) (by omega), k (r + 4 + w) 2 (by omega) (by omega) (by omega), k (r + 1) w (by omega) (by omega) (by omega)]
    exact q1 w hw
  · rw [e1] at hw
    rw [rq_asl_n v 4 w (by decide), rq_asl_n v 5 w (by decide), rq_asl_n v 6 w (by decide), rq_asl_n v 7 w (by decide), rq_asl_n v 10 w (by decide), k (r + 11 + w) 0 (by omega) (by omega) (by omega), k (r + 11 + w) 1 (by omega) (by omega) (by omega), k (r + 11 + w) 2 (by omega) (by omega) (by omega), k (r + 11 + w) 3 (by omega) (by omega) (by omega), k (r + 2) w (by omega) (by omega) (by omega)]
    exact q2 w hw
  · rw [e3] at hi
    rw [rq_asl_n v 8 i (by decide), k (r + 17) i (by omega) (by omega) (by omega)]
    exact q3 i hi
/-- slack's line writes that it is told -/
def rq_wDs (r k j : Nat) : Bool := rq_wDc r k j || (k == r && j == 9)
theorem rq_wDs_st {r : Nat} (h : r = 63 ∨ r = 87) : (rq_P.all fun p => !(rq_wDs r p.1 p.2.1)) = true := by
  rcases h with rfl | rfl <;> decide +kernel
theorem rq_wDs_47 {r k j : Nat} (h : rq_wDs r k j = false) : rq_w47 k j = false := by
  unfold rq_wDs at h
  simp only [Bool.or_eq_false_iff] at h
  exact rq_wDc_47 h.1
def rq_lnS {α : Type} (s : Nat → Int) (n r : Nat) (m : rt_M) (x : (Int × Nat) ⊕ (α × Nat)) (C : α → rt_M → Prop) (p : Int × rt_M) : Prop := rq_fr (rq_wDs r) m p.2 ∧ match x with
  | .inl q => p.1 = 0 ∧ p.2 47 2 = q.1 + 16 * (q.2 : Int)
  | .inr q => p.1 = 1 ∧ rq_pc s n q.2 p.2 ∧ C q.1 p.2
theorem q_slackLine (hC : rq_C r ρ m) (hok : rq_okT s n) (pc : rq_pc s n b m) (hbn : b < n) : rq (f_X3_slackLine ((47 : Nat) : Int) (r : Int) m) (rq_lnS s n r m (rq_skl (m r 9) s n b) (fun v m' => rq_C r (rq_asl ρ v) m' ∧ m' r 9 = 1)) := by
  have hn := hok.1
  have hs := hC.1
  have hr := hC.2.1
  unfold f_X3_slackLine rq_skl
  rw [q_gf4r hr, Option.bind_some]
  by_cases z : m r 9 = 0
  rotate_left
  · rw [if_neg z, if_neg z, q_fail hs pc hn (by decide) (by decide), Option.bind_some, q_bz0]
    exact rq_some.mpr ⟨rq_fr.rfl.up rfl, rfl, rq_upE m 47 2 _⟩
  rw [if_pos z, if_pos z, q_g3, Option.bind_some, q_p3, Option.bind_some]
  have bn := rq_bp_nx (s := s) hbn
  have pc1 := (rq_pc_adv pc hbn).2
  have f1 : rq_fr rq_w47 m (rt_up m 47 1 (rt_iadd (m 47 1) 1)) := rq_fr.rfl.up rfl
  generalize rt_up m 47 1 (rt_iadd (m 47 1) 1) = m1 at pc1 f1 ⊢
  have s1 := rq_st_fr hs f1 rq_w47_st
  have w47 : ∀ {x y : rt_M}, rq_fr rq_w47 x y → rq_fr (rq_wDs r) x y := fun f => f.mono (fun _ _ => rq_wDs_47)
  have g47 : ∀ {x y : rt_M}, rq_fr rq_w47 x y → ∀ a j, r ≤ a → y a j = x a j := fun {x y} f a j h1 => f a j (by
    unfold rq_w47
    simp only [Bool.or_eq_false_iff, Bool.and_eq_false_iff, beq_eq_false_iff_ne]
    clear hC
    rcases hr with h | h <;> omega)
  obtain ⟨k1, k2⟩ := q_isNum s1 pc1 hok bn (lo := 0) (hi := 9) (by decide) (by decide)
  cases e : rq_nu s n 0 9 (rq_nxp s n b) with
  | inl q =>
    rw [rq_sbd_l]
    refine rq_call (k1 q e) ?_
    rintro ⟨v2, m2⟩ ⟨f2, e2, ef⟩
    dsimp only at f2 e2 ef ⊢
    rw [if_pos e2]
    exact rq_some.mpr ⟨w47 (f1.trans f2), rfl, ef⟩
  | inr q =>
    obtain ⟨x, b'⟩ := q
    obtain ⟨y1, y2, y3, y4, y5, y6⟩ := k2 x b' e
    rw [rq_sbd_r, y1, Option.bind_some]
    dsimp only
    rw [if_neg (by decide), q_value s1 pc1, Option.bind_some, ← y2, rq_l2i (by omega) (by omega), q_pf4r hr, Option.bind_some, q_pf4r hr, Option.bind_some, q_g3, Option.bind_some, q_p3, Option.bind_some]
    have F2 : rq_fr (rq_wDs r) m (rt_up (rt_up m1 r 8 x) r 9 1) := ((w47 f1).up (by unfold rq_wDs rq_wDc; simp)).up (by unfold rq_wDs rq_wDc; simp)
    have pc2 : rq_pc s n (rq_nxp s n b) (rt_up (rt_up m1 r 8 x) r 9 1) := rq_pc_fr pc1 (fun a j q => by
      rw [q_up, if_neg (by clear hC; rcases hr with h | h <;> omega), q_up, if_neg (by clear hC; rcases hr with h | h <;> omega)])
    have e8 : rt_up (rt_up m1 r 8 x) r 9 1 r 8 = x := by rw [q_up, if_neg (by omega), rq_upE]
    have e9 : rt_up (rt_up m1 r 8 x) r 9 1 r 9 = 1 := rq_upE _ _ _ _
    have k3 : ∀ a j, ¬ (a = r ∧ (j = 8 ∨ j = 9)) → rt_up (rt_up m1 r 8 x) r 9 1 a j = m1 a j := fun a j q => by rw [q_up, if_neg (fun z => q ⟨z.1, Or.inr z.2⟩), q_up, if_neg (fun z => q ⟨z.1, Or.inl z.2⟩)]
    generalize rt_up (rt_up m1 r 8 x) r 9 1 = m2 at F2 pc2 e8 e9 k3 ⊢
    obtain ⟨-, pc3⟩ := rq_pc_adv pc2 y4
    have f3 : rq_fr rq_w47 m2 (rt_up m2 47 1 (rt_iadd (m2 47 1) 1)) := rq_fr.rfl.up rfl
    rw [← y3] at pc3
    generalize rt_up m2 47 1 (rt_iadd (m2 47 1) 1) = m3 at pc3 f3 ⊢
    have F3 := F2.trans (w47 f3)
    have s3 := rq_st_fr hs F3 (rq_wDs_st hr)
    refine rq_call (q_takeX (W := 34) s3 pc3 hok (by decide)) ?_
    rintro ⟨v6, m6⟩ ⟨f6, h6⟩
    dsimp only at f6 h6 ⊢
    rw [show ((34 : Nat) : Int) = 34 from rfl] at h6
    have F6 := F3.trans (w47 f6)
    unfold rq_stp
    by_cases z34 : rq_kd s n b' = 34
    rotate_left
    · rw [if_neg z34] at h6 ⊢
      rw [rq_sbd_l, h6.1, q_bz0]
      exact rq_some.mpr ⟨F6, rfl, h6.2⟩
    rw [if_pos z34] at h6 ⊢
    obtain ⟨h6a, pc6⟩ := h6
    rw [rq_sbd_r, h6a, q_bz1]
    refine rq_some.mpr ⟨F6, rfl, pc6, rq_asl_C hC ⟨y5, y6⟩ (rq_st_fr hs F6 (rq_wDs_st hr)) ?_ (fun a j h1 h2 h3 => ?_), ?_⟩
    · show m6 r 8 = x
      rw [g47 f6 r 8 (Nat.le_refl r), g47 f3 r 8 (Nat.le_refl r), e8]
    · show m6 a j = m a j
      rw [g47 f6 a j h1, g47 f3 a j h1, k3 a j h3, g47 f1 a j h1]
    · show m6 r 9 = 1
      rw [g47 f6 r 9 (Nat.le_refl r), g47 f3 r 9 (Nat.le_refl r), e9]
end
