/-! Layer 3: a law line, the reference reads it -/
def rq_wRl (line k j : Nat) : Bool := rq_wRe k j || (k == 248 && j == 25) || ((k == 261 || k == 262) && j == 2 + line)
theorem rq_wRl_st {line : Nat} (h : line < 2) : (rq_P.all fun p => !(rq_wRl line p.1 p.2.1)) = true := by
  have : line = 0 ∨ line = 1 := by omega
  rcases this with rfl | rfl <;> decide +kernel
theorem rq_wRl_e {line k j : Nat} (h : rq_wRl line k j = false) : rq_wRe k j = false := by
  unfold rq_wRl at h
  simp only [Bool.or_eq_false_iff] at h
  exact h.1.1
def rq_rlR (s : Nat → Int) (n line k : Nat) (m : rt_M) (x : rq_EX) (p : Int × rt_M) : Prop := rq_fr (rq_wRl line) m p.2 ∧ match x with
  | .inl q => p.1 = 0 ∧ p.2 248 9 = q.1 + 16 * (q.2 : Int)
  | .inr q => p.1 = 1 ∧ rq_ts s n q.2 p.2 ∧ rq_co k q.1.2.1 m p.2 ∧ p.2 261 (2 + line) = (k : Int) ∧ p.2 262 (2 + line) = ((k + q.1.2.1.length : Nat) : Int)
section
variable {s : Nat → Int} {n line b k : Nat} {m : rt_M}
theorem q_readsLaw (hok : rq_okT s n) (hl : line < 2) (hs : rq_st m) (ht : rq_ty s n m) (ts : rq_ts s n b m) (hb : b < n) (h24 : m 248 24 = (k : Int)) (hk : k ≤ 1000 + b ∧ 1000 ≤ k) : rq (f_X12_readsLaw 248 (line : Int) m) (rq_rlR s n line k m (if m 262 (2 + line) ≤ m 261 (2 + line) then rq_lawp s n line b else .inl (3, b))) := by
  have hn := hok.1
  have i2 : rt_iadd 2 (line : Int) = ((2 + line : Nat) : Int) := by rw [rq_iadd (by omega) (by omega)]; omega
  unfold f_X12_readsLaw
  rw [q_gfr, Option.bind_some, i2, q_a8 (k := 262) _ 4 (pt_248_22 hs) kd_262 ln_262 (by omega), Option.bind_some, q_gfr, Option.bind_some, q_a8 (k := 261) _ 4 (pt_248_21 hs) kd_261 ln_261 (by omega), Option.bind_some]
  by_cases z : m 262 (2 + line) ≤ m 261 (2 + line)
  rotate_left
  · rw [if_neg z, if_neg z, q_fails ts hn (by decide) (by decide), Option.bind_some, q_bz0]
    exact rq_some.mpr ⟨rq_fr.rfl.up rfl, rfl, rq_upE m 248 9 _⟩
  rw [if_pos z, if_pos z, q_pfr, Option.bind_some]
  have f1 : rq_fr (rq_wRl line) m (rt_up m 248 25 (line : Int)) := rq_fr.rfl.up rfl
  have e25 : rt_up m 248 25 (line : Int) 248 25 = (line : Int) := rq_upE m 248 25 _
  have g1 : ∀ a j, ¬ (a = 248 ∧ j = 25) → rt_up m 248 25 (line : Int) a j = m a j := fun a j q => by rw [q_up, if_neg q]
  generalize rt_up m 248 25 (line : Int) = m1 at f1 e25 g1 ⊢
  have s1 := rq_st_fr hs f1 (rq_wRl_st hl)
  have t1 : rq_ty s n m1 := ⟨by rw [g1 248 3 (by omega)]; exact ht.1, fun i hi => by rw [g1 249 i (by omega)]; exact ht.2 i hi⟩
  have ts1 : rq_ts s n b m1 := rq_ts_fr ts (fun j _ _ => g1 248 j (by omega))
  refine rq_call (q_nextAt s1 t1 hok ts1 hb) ?_
  rintro m2 ⟨ts2, f2⟩
  have wl : ∀ {a j : Nat}, rq_wRl line a j = false → rq_wN2 a j = false := fun q => rq_wRe_N (rq_wRl_e q)
  have f12 : rq_fr (rq_wRl line) m m2 := f1.trans (f2.mono (fun _ _ => wl))
  have s2 := rq_st_fr hs f12 (rq_wRl_st hl)
  have e24 : m2 248 24 = (k : Int) := by rw [f2 248 24 rfl, g1 248 24 (by omega), h24]
  rw [q_gfr, Option.bind_some, q_gfr, Option.bind_some, e24, q_s8 (k := 261) _ 4 (pt_248_21 s2) kd_261 ln_261 (by omega), Option.bind_some]
  have nx := rq_nxp_b (s := s) hb
  have f3 : rq_fr (rq_wRl line) m (rt_up m2 261 (2 + line) (k : Int)) := f12.up (by unfold rq_wRl; simp)
  have e61 : rt_up m2 261 (2 + line) (k : Int) 261 (2 + line) = (k : Int) := rq_upE m2 261 _ _
  have g3 : ∀ a j, a ≠ 261 → rt_up m2 261 (2 + line) (k : Int) a j = m2 a j := fun a j q => by rw [q_up, if_neg (fun z => q z.1)]
  have t3 : rq_ty s n m2 := rq_ty_fr t1 f2
  generalize rt_up m2 261 (2 + line) (k : Int) = m3 at f3 e61 g3 ⊢
  have s3 := rq_st_fr hs f3 (rq_wRl_st hl)
  have hH : rq_rH s n line (rq_nxp s n b) k m3 := ⟨s3, ⟨by rw [g3 248 3 (by decide)]; exact t3.1, fun i hi => by rw [g3 249 i (by decide)]; exact t3.2 i hi⟩, rq_ts_fr ts2 (fun j _ _ => g3 248 j (by decide)), rq_bp_nx hb, by rw [g3 248 25 (by decide), f2 248 25 rfl]; exact e25, by rw [g3 248 24 (by decide)]; exact e24, by omega⟩
  have c3 : ∀ i, m3 263 i = m 263 i := fun i => by rw [g3 263 i (by decide), f2 263 i rfl, g1 263 i (by omega)]
  refine rq_call (q_reads hok hl hH) ?_
  rintro ⟨v, m4⟩ h4
  have h4' : rq_rdR s n k m3 (rq_lawp s n line b) (v, m4) := h4
  clear h4
  dsimp only
  generalize rq_lawp s n line b = x at h4' ⊢
  cases x with
  | inl q =>
    obtain ⟨a1, a2, a3⟩ := h4'
    dsimp only at a1 a2 a3
    rw [if_pos a1]
    exact rq_some.mpr ⟨f3.trans (a3.mono (fun _ _ => rq_wRl_e)), rfl, a2⟩
  | inr q =>
    obtain ⟨a1, a2, a3, a4⟩ := h4'
    dsimp only at a1 a2 a3 a4
    have s4 := rq_st_fr s3 a3 rq_wRe_st
    rw [if_neg (by omega), q_gfr, Option.bind_some, q_gfr, Option.bind_some, a4.1, q_s8 (k := 262) _ 4 (pt_248_22 s4) kd_262 ln_262 (by omega), Option.bind_some]
    have g5 : ∀ a j, a ≠ 262 → rt_up m4 262 (2 + line) ((k + q.1.2.1.length : Nat) : Int) a j = m4 a j := fun a j q => by rw [q_up, if_neg (fun z => q z.1)]
    have f5 : rq_fr (rq_wRl line) m (rt_up m4 262 (2 + line) ((k + q.1.2.1.length : Nat) : Int)) := (f3.trans (a3.mono (fun _ _ => rq_wRl_e))).up (by unfold rq_wRl; simp)
    have e5 := rq_upE m4 262 (2 + line) ((k + q.1.2.1.length : Nat) : Int)
    have c5 : rq_co k q.1.2.1 m (rt_up m4 262 (2 + line) ((k + q.1.2.1.length : Nat) : Int)) := ⟨by rw [g5 248 24 (by decide)]; exact a4.1, fun i hi => by rw [g5 263 _ (by decide)]; exact a4.2.1 i hi, fun i hi => by rw [g5 263 _ (by decide), a4.2.2 i hi, c3]⟩
    generalize rt_up m4 262 (2 + line) ((k + q.1.2.1.length : Nat) : Int) = m5 at g5 f5 e5 c5 ⊢
    exact rq_some.mpr ⟨f5, rfl, rq_ts_fr a2 (fun j _ _ => g5 248 j (by decide)), c5, by show m5 261 _ = _; rw [g5 261 _ (by decide), a3 261 _ rfl, e61], e5⟩
end
