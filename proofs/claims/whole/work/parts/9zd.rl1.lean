/-! Layer 3: a line of a realm, pure -/
def rq_ox {α : Type} (P : α → Prop) (x : (Int × Nat) ⊕ α) : Prop := match x with
  | .inl q => 1 ≤ q.1 ∧ q.1 ≤ 9
  | .inr a => P a
theorem rq_ox_bd {α β : Type} {P : α → Prop} {Q : β → Prop} {x : (Int × Nat) ⊕ α} {f : α → (Int × Nat) ⊕ β} (h : rq_ox P x) (k : ∀ a, P a → rq_ox Q (f a)) : rq_ox Q (rq_sbd x f) := by
  cases x with
  | inl q => exact h
  | inr a => exact k a h
theorem rq_ox_l {α : Type} {P : α → Prop} {q : Int} {b : Nat} (h : 1 ≤ q ∧ q ≤ 9) : rq_ox P (.inl (q, b)) := h
/-- what is told: a realm, and whether slack, swells, judges -/
abbrev rq_DR : Type := rq_R × Int × Int × Int
def rq_rl (δ : rq_DR) (s : Nat → Int) (n b : Nat) : (Int × Nat) ⊕ (rq_DR × Nat) := if rq_kd s n b = 0 then rq_sbd (rq_wgl δ.1 s n b) (fun q => .inr ((rq_aw δ.1 q.1, δ.2), q.2)) else if rq_kd s n b = 4 then rq_sbd (rq_hdl δ.1 s n b) (fun q => .inr ((rq_ah δ.1 q.1, δ.2), q.2)) else if rq_kd s n b = 6 then rq_sbd (rq_htl δ.1 s n b) (fun q => .inr ((rq_at3 δ.1 q.1, δ.2), q.2)) else if rq_kd s n b = 7 then rq_sbd (rq_skl δ.2.1 s n b) (fun q => .inr ((rq_asl δ.1 q.1, 1, δ.2.2), q.2)) else if rq_kd s n b = 8 then rq_sbd (if δ.2.2.1 = 0 then rq_lawp s n 0 b else .inl (3, b)) (fun q => .inr (((δ.1.1, q.1.2.2, δ.1.2.2), δ.2.1, 1, δ.2.2.2), q.2)) else if rq_kd s n b = 9 then rq_sbd (if δ.2.2.2 = 0 then rq_lawp s n 1 b else .inl (3, b)) (fun q => .inr (((δ.1.1, δ.1.2.1, q.1.2.2), δ.2.1, δ.2.2.1, 1), q.2)) else .inl (1, b)
def rq_rp (s : Nat → Int) (n : Nat) : Nat → Nat → rq_DR → Int × rq_DR
  | 0 => fun _ δ => (0, δ)
  | f + 1 => fun b δ => if rq_kd s n b = 37 then (0, δ) else match rq_rl δ s n b with
    | .inl q => (q.1 + 16 * (q.2 : Int), δ)
    | .inr q => rq_rp s n f q.2 q.1
theorem rq_rp_s (s : Nat → Int) (n f b : Nat) (δ : rq_DR) : rq_rp s n (f + 1) b δ = if rq_kd s n b = 37 then (0, δ) else match rq_rl δ s n b with
    | .inl q => (q.1 + 16 * (q.2 : Int), δ)
    | .inr q => rq_rp s n f q.2 q.1 := rfl
/-- codes are never none -/
def rq_gp (R : Nat → rq_EX) : Prop := ∀ b q, R b = .inr q → 0 < q.1.2.1.length
section
variable {s : Nat → Int} {n b : Nat} {ρ : rq_R} {R : Nat → rq_EX} {l : Int}
theorem rq_lpE_gp : ∀ f t b q, 0 < t.2.1.length → rq_lpE s n l R f t b = .inr q → 0 < q.1.2.1.length := by
  intro f
  induction f with
  | zero => intro t b q h e; cases e; exact h
  | succ f ih =>
    intro t b q h e
    rw [rq_lpE_s] at e
    by_cases z : rq_jk l (rq_kd s n b) = 0
    · rw [if_pos z] at e; cases e; exact h
    · rw [if_neg z] at e
      cases e2 : R (rq_nxp s n b) with
      | inl p => rw [e2] at e; cases e
      | inr p =>
        rw [e2] at e
        refine ih _ _ _ ?_ e
        have := (rq_jt_len (rq_jk l (rq_kd s n b)) t p.1).2
        omega
theorem rq_ec_gp (h : rq_gp R) : rq_gp (rq_ec s n l R) := by
  intro b q e
  unfold rq_ec at e
  cases e2 : R b with
  | inl p => rw [e2] at e; cases e
  | inr p => rw [e2] at e; exact rq_lpE_gp _ _ _ _ (h _ _ e2) e
theorem rq_et_gp (h : rq_gp R) : rq_gp (rq_et s n R) := by
  intro b q e
  unfold rq_et at e
  cases e2 : R b with
  | inl p => rw [e2] at e; cases e
  | inr p =>
    rw [e2] at e
    have h1 := h _ _ e2
    dsimp only at e
    unfold rq_tk2 at e
    by_cases z : rq_kd s n p.2 = 29 ∨ rq_kd s n p.2 = 30
    · rw [if_pos z] at e
      cases e3 : R (rq_nxp s n p.2) with
      | inl p3 => rw [e3] at e; cases e
      | inr p3 =>
        rw [e3] at e
        have := (rq_jt_len (if rq_kd s n p.2 = 29 then -7 else -8) p.1 p3.1).2
        cases e
        dsimp only
        clear z
        omega
    · rw [if_neg z] at e; cases e; exact h1
theorem rq_eE_gp (h : rq_gp R) : rq_gp (rq_eE s n R) := rq_ec_gp (rq_et_gp (rq_ec_gp (rq_ec_gp h)))
theorem rq_ep_gp (line : Nat) : ∀ k, rq_gp (rq_ep s n line k) := by
  intro k
  induction k with
  | zero =>
    intro b q e
    have e' : (if rq_pb line (rq_kd s n b) = true then (.inl (5, b) : rq_EX) else .inl (1, b)) = .inr q := e
    split at e' <;> cases e'
  | succ k ih =>
    intro b q e
    rw [rq_ep_s] at e
    by_cases z : rq_pb line (rq_kd s n b) = true
    rotate_left
    · rw [if_neg z] at e; cases e
    rw [if_pos z] at e
    by_cases z2 : rq_kd s n b = 27
    · rw [if_pos z2] at e
      cases e2 : rq_eE s n (rq_ep s n line k) (rq_nxp s n b) with
      | inl p => rw [e2] at e; cases e
      | inr p =>
        rw [e2] at e
        dsimp only at e
        unfold rq_clo at e
        split at e
        · cases e
          show 0 < (28 :: (p.1.2.1 ++ [29])).length
          simp
        · cases e
    · rw [if_neg z2] at e
      by_cases z3 : rq_kd s n b = 18
      · rw [if_pos z3] at e
        cases e2 : rq_ep s n line k (rq_nxp s n b) with
        | inl p => rw [e2] at e; cases e
        | inr p =>
          rw [e2] at e
          cases e
          show 0 < (30 :: p.1.2.1).length
          simp
      · rw [if_neg z3] at e
        have := (rq_lf_len line (rq_kd s n b) (rq_vl s n b)).2
        cases e
        dsimp only
        omega
/-- a law line that is read -/
theorem rq_lawp_v {line : Nat} (hl : line < 2) (hok : rq_okT s n) (hb : b < n) : rq_ox (fun q : rq_ET × Nat => rq_bp s n q.2 ∧ b < q.2 ∧ (∀ a b c, rq_i a → rq_i b → rq_i c → rq_ev a b c q.1.1 [] = some [q.1.2.2 a b c]) ∧ rq_rv line q.1.2.1 q.1.2.2 ∧ q.1.1.length ≤ 1000 ∧ b + q.1.2.1.length ≤ q.2 ∧ 0 < q.1.2.1.length) (rq_lawp s n line b) := by
  have bn := rq_bp_nx (s := s) hb
  have nx := rq_nxp_b (s := s) hb
  unfold rq_lawp
  cases e : rq_eE s n (rq_ep s n line 5) (rq_nxp s n b) with
  | inl q => exact (rq_ge_l (rq_eE_ge (rq_ep_ge hl 5)) bn e).1
  | inr q =>
    obtain ⟨a1, a2, a3, a4⟩ := rq_ge_r (rq_eE_ge (rq_ep_ge hl 5)) bn e
    have gp := rq_eE_gp (rq_ep_gp line 5) _ _ e
    obtain ⟨t, p'⟩ := q
    obtain ⟨v1, v2⟩ := rq_top hl hok bn e
    dsimp only at a1 a2 a3 a4 gp ⊢
    have pn := a1.1
    have n1 := hok.1
    by_cases z : rq_kd s n p' = 34
    · rw [if_pos z]
      have hp : p' < n := rq_kd_lt (s := s) (by omega)
      have nx2 := rq_nxp_b (s := s) hp
      exact ⟨rq_bp_nx hp, by dsimp only; omega, v1, v2, by dsimp only; omega, by dsimp only; omega, gp⟩
    · rw [if_neg z]
      exact rq_ox_l (by decide)
theorem rq_stp_v : rq_ox (fun b' => rq_bp s n b' ∧ b < b' ∧ b < n) (rq_stp s n b) := by
  unfold rq_stp
  by_cases z : rq_kd s n b = 34
  · rw [if_pos z]
    have hb : b < n := rq_kd_lt (s := s) (by omega)
    have := rq_nxp_b (s := s) hb
    exact ⟨rq_bp_nx hb, by omega, hb⟩
  · rw [if_neg z]; exact rq_ox_l (by decide)
theorem rq_nu_v {lo hi : Int} : rq_ox (fun q : Int × Nat => lo ≤ q.1 ∧ q.1 ≤ hi ∧ rq_bp s n q.2 ∧ b < q.2) (rq_nu s n lo hi b) := by
  unfold rq_nu
  by_cases z : rq_kd s n b = 36
  · rw [if_pos z]
    have hb : b < n := rq_kd_lt (s := s) (by omega)
    have := rq_nxp_b (s := s) hb
    by_cases z2 : lo ≤ rq_vl s n b ∧ rq_vl s n b ≤ hi
    · rw [if_pos z2]; exact ⟨z2.1, z2.2, rq_bp_nx hb, by dsimp only; omega⟩
    · rw [if_neg z2]; exact rq_ox_l (by decide)
  · rw [if_neg z]; exact rq_ox_l (by decide)
theorem rq_fa_o {W lo hi : Int} (hW : W ≠ 37) : rq_ox (fun q : Int × Nat => lo ≤ q.1 ∧ q.1 ≤ hi ∧ rq_bp s n q.2 ∧ b < q.2) (rq_fa s n W lo hi b) := by
  unfold rq_fa
  by_cases z : rq_kd s n b = W
  · rw [if_pos z]
    have hb : b < n := rq_kd_lt (s := s) (by omega)
    have := rq_nxp_b (s := s) hb
    have h := rq_nu_v (s := s) (n := n) (b := rq_nxp s n b) (lo := lo) (hi := hi)
    cases e : rq_nu s n lo hi (rq_nxp s n b) with
    | inl q => rw [e] at h; exact h
    | inr q =>
      rw [e] at h
      obtain ⟨h1, h2, h3, h4⟩ := h
      exact ⟨h1, h2, h3, by omega⟩
  · rw [if_neg z]; exact rq_ox_l (by decide)
theorem rq_nnw_o (hok : rq_okT s n) (bp : rq_bp s n b) : rq_ox (fun b' => rq_bp s n b' ∧ b < b' ∧ rq_cn s n b ∧ rq_nw ρ (rq_vl s n b) = -1 ∧ rq_nh ρ (rq_vl s n b) = -1) (rq_nnw ρ s n b) := by
  unfold rq_nnw
  by_cases z : rq_cnb s n b = true
  rotate_left
  · rw [if_neg z]; exact rq_ox_l (by decide)
  rw [if_pos z]
  have zc := (rq_cnb_i s n b).mp z
  have hb := (rq_cn_nm hok bp zc).2.1
  have := rq_nxp_b (s := s) hb
  by_cases z2 : rq_nw ρ (rq_vl s n b) = -1 ∧ rq_nh ρ (rq_vl s n b) = -1
  · rw [if_pos z2]; exact ⟨rq_bp_nx hb, by omega, zc, z2.1, z2.2⟩
  · rw [if_neg z2]; exact rq_ox_l (by decide)
theorem rq_hk_o : rq_ox (fun q : Int × Nat => 0 ≤ q.1 ∧ q.1 ≤ 3 ∧ rq_bp s n q.2 ∧ b < q.2) (rq_hk s n b) := by
  unfold rq_hk
  by_cases z : 14 ≤ rq_kd s n b ∧ rq_kd s n b ≤ 17
  · rw [if_pos z]
    have hb : b < n := rq_kd_lt (s := s) (by omega)
    have := rq_nxp_b (s := s) hb
    exact ⟨by dsimp only; omega, by dsimp only; omega, rq_bp_nx hb, by dsimp only; omega⟩
  · rw [if_neg z]; exact rq_ox_l (by decide)
/-- a wig, a head, that may be added -/
def rq_wok (ρ : rq_R) (t : rq_WT) : Prop := ρ.1 0 0 ≠ 6 ∧ (40 ≤ t.1 ∧ t.1 ≤ 79) ∧ (0 ≤ t.2.1 ∧ t.2.1 ≤ 99) ∧ (0 ≤ t.2.2.1 ∧ t.2.2.1 ≤ 9) ∧ 0 ≤ t.2.2.2 ∧ t.2.2.2 < 72057594037927936
def rq_hok (ρ : rq_R) (t : rq_HT) : Prop := ρ.1 0 1 ≠ 6 ∧ (0 ≤ t.1 ∧ t.1 ≤ 3) ∧ (40 ≤ t.2.1 ∧ t.2.1 ≤ 79) ∧ (0 ≤ t.2.2.1 ∧ t.2.2.1 ≤ 99) ∧ (0 ≤ t.2.2.2.1 ∧ t.2.2.2.1 ≤ 9) ∧ 0 ≤ t.2.2.2.2 ∧ t.2.2.2.2 < 72057594037927936
theorem rq_wgl_o (hok : rq_okT s n) (hb : b < n) : rq_ox (fun q : rq_WT × Nat => rq_bp s n q.2 ∧ b < q.2 ∧ rq_wok ρ q.1) (rq_wgl ρ s n b) := by
  unfold rq_wgl
  have bn := rq_bp_nx (s := s) hb
  have nx := rq_nxp_b (s := s) hb
  by_cases z : ρ.1 0 0 = 6
  · rw [if_pos z]; exact rq_ox_l (by decide)
  rw [if_neg z]
  refine rq_ox_bd (rq_nnw_o hok bn) ?_
  rintro b2 ⟨p1, p2, zc, -⟩
  have vb := rq_vl_b2 hok bn
  refine rq_ox_bd (rq_fa_o (by decide)) ?_
  rintro ⟨x, b3⟩ ⟨x1, x2, x3, x4⟩
  refine rq_ox_bd (rq_fa_o (by decide)) ?_
  rintro ⟨y, b4⟩ ⟨y1, y2, y3, y4⟩
  refine rq_ox_bd (rq_fa_o (by decide)) ?_
  rintro ⟨w, b5⟩ ⟨w1, w2, w3, w4⟩
  refine rq_ox_bd rq_stp_v ?_
  rintro b6 ⟨u1, u2, u3⟩
  dsimp only at *
  exact ⟨u1, by dsimp only; omega, z, ⟨x1, x2⟩, ⟨y1, y2⟩, ⟨w1, w2⟩, vb.1, vb.2⟩
theorem rq_hdl_o (hok : rq_okT s n) (hb : b < n) : rq_ox (fun q : rq_HT × Nat => rq_bp s n q.2 ∧ b < q.2 ∧ rq_hok ρ q.1) (rq_hdl ρ s n b) := by
  unfold rq_hdl
  have bn := rq_bp_nx (s := s) hb
  have nx := rq_nxp_b (s := s) hb
  by_cases z : ρ.1 0 1 = 6
  · rw [if_pos z]; exact rq_ox_l (by decide)
  rw [if_neg z]
  refine rq_ox_bd (rq_nnw_o hok bn) ?_
  rintro b2 ⟨p1, p2, zc, -⟩
  have vb := rq_vl_b2 hok bn
  refine rq_ox_bd rq_hk_o ?_
  rintro ⟨k, bk⟩ ⟨k1, k2, k3, k4⟩
  refine rq_ox_bd (rq_fa_o (by decide)) ?_
  rintro ⟨x, b3⟩ ⟨x1, x2, x3, x4⟩
  refine rq_ox_bd (rq_fa_o (by decide)) ?_
  rintro ⟨y, b4⟩ ⟨y1, y2, y3, y4⟩
  refine rq_ox_bd (rq_fa_o (by decide)) ?_
  rintro ⟨w, b5⟩ ⟨w1, w2, w3, w4⟩
  refine rq_ox_bd rq_stp_v ?_
  rintro b6 ⟨u1, u2, u3⟩
  dsimp only at *
  exact ⟨u1, by dsimp only; omega, z, ⟨k1, k2⟩, ⟨x1, x2⟩, ⟨y1, y2⟩, ⟨w1, w2⟩, vb.1, vb.2⟩
def rq_Hok (t : Nat × (Nat → Int)) : Prop := 1 ≤ t.1 ∧ t.1 ≤ 12 ∧ ∀ i, i < t.1 → 0 ≤ t.2 i ∧ t.2 i ≤ 9
theorem rq_hh_o (hok : rq_okT s n) (b0 : Nat) : ∀ f i H b, i + f ≤ 13 → rq_bp s n b → b0 ≤ b → (∀ j, j < i → 0 ≤ H j ∧ H j ≤ 9) → rq_ox (fun q : (Nat × (Nat → Int)) × Nat => rq_bp s n q.2 ∧ b0 < q.2 ∧ rq_Hok q.1) (rq_hh s n f i H b) := by
  intro f
  induction f with
  | zero => intro i H b _ _ _ _; exact rq_ox_l (by decide)
  | succ f ih =>
    intro i H b hi bp h0 hH
    rw [rq_hh_s]
    by_cases z : i ≠ 0 ∧ rq_kd s n b = 34
    · rw [if_pos z]
      have hb : b < n := rq_kd_lt (s := s) (by omega)
      have := rq_nxp_b (s := s) hb
      exact ⟨rq_bp_nx hb, by dsimp only; omega, by dsimp only; omega, by dsimp only; omega, hH⟩
    rw [if_neg z]
    by_cases z36 : rq_kd s n b = 36
    rotate_left
    · rw [if_neg z36]; exact rq_ox_l (by decide)
    rw [if_pos z36]
    have hb : b < n := rq_kd_lt (s := s) (by omega)
    have nx := rq_nxp_b (s := s) hb
    have vb := rq_vl_36 hok bp z36
    by_cases z9 : rq_vl s n b ≤ 9
    rotate_left
    · rw [if_neg z9]; exact rq_ox_l (by decide)
    rw [if_pos z9]
    by_cases z12 : i = 12
    · rw [if_pos z12]; exact rq_ox_l (by decide)
    rw [if_neg z12]
    clear z
    refine ih _ _ _ (by omega) (rq_bp_nx hb) (by omega) (fun j hj => ?_)
    show 0 ≤ (if j = i then rq_vl s n b else H j) ∧ (if j = i then rq_vl s n b else H j) ≤ 9
    by_cases zj : j = i
    · rw [if_pos zj]; exact ⟨vb.1, z9⟩
    · rw [if_neg zj]; exact hH j (by omega)
theorem rq_htl_o (hok : rq_okT s n) (hb : b < n) : rq_ox (fun q : (Nat × (Nat → Int)) × Nat => rq_bp s n q.2 ∧ b < q.2 ∧ rq_Hok q.1) (rq_htl ρ s n b) := by
  unfold rq_htl
  have bn := rq_bp_nx (s := s) hb
  have nx := rq_nxp_b (s := s) hb
  by_cases z : ρ.1 0 3 ≤ 0
  · rw [if_pos z]; exact rq_hh_o hok b 13 0 _ _ (by decide) bn (by omega) (fun j hj => absurd hj (Nat.not_lt_zero j))
  · rw [if_neg z]; exact rq_ox_l (by decide)
theorem rq_skl_o {told : Int} (hb : b < n) : rq_ox (fun q : Int × Nat => rq_bp s n q.2 ∧ b < q.2 ∧ 0 ≤ q.1 ∧ q.1 ≤ 9) (rq_skl told s n b) := by
  unfold rq_skl
  have nx := rq_nxp_b (s := s) hb
  by_cases z : told = 0
  · rw [if_pos z]
    refine rq_ox_bd rq_nu_v ?_
    rintro ⟨x, b3⟩ ⟨x1, x2, x3, x4⟩
    refine rq_ox_bd rq_stp_v ?_
    rintro b6 ⟨u1, u2, u3⟩
    dsimp only at *
    exact ⟨u1, by dsimp only; omega, x1, x2⟩
  · rw [if_neg z]; exact rq_ox_l (by decide)
end
