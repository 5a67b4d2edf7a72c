/-! Layer 3: questions: leans, next, count -/
def rq_m0 : rt_M := fun _ _ => 0
theorem q_bc0 : ∀ x, x < 1024 → f_J6_bitCount_0f7a4 ((x : Nat) : Int) rq_m0 = some (rq_sum (fun i => if Nat.testBit x i = true then 1 else 0) 10) := by decide +kernel
def rq_le (p : Nat → Bool) : Nat → Int
  | 0 => -1
  | n + 1 => if rq_le p n = -1 then (if p n then (n : Int) else -1) else rq_le p n
def rq_gr (p : Nat → Bool) : Nat → Int
  | 0 => -1
  | n + 1 => if p n then (n : Int) else rq_gr p n
def rq_ct (p : Nat → Bool) (n : Nat) : Int := rq_sum (fun i => if p i = true then 1 else 0) n
theorem rq_ct_s (p : Nat → Bool) (n : Nat) : rq_ct p (n + 1) = rq_ct p n + if p n = true then 1 else 0 := rfl
theorem rq_le_s (p : Nat → Bool) (n : Nat) : rq_le p (n + 1) = if rq_le p n = -1 then (if p n then (n : Int) else -1) else rq_le p n := rfl
theorem rq_gr_s (p : Nat → Bool) (n : Nat) : rq_gr p (n + 1) = if p n then (n : Int) else rq_gr p n := rfl
theorem rq_le_b (p : Nat → Bool) : ∀ n, -1 ≤ rq_le p n
  | 0 => Int.le_refl _
  | n + 1 => by
    have := rq_le_b p n
    rw [rq_le_s]
    split
    · split <;> omega
    · exact this
theorem rq_le_gr (p : Nat → Bool) : ∀ n, rq_le p n = -1 ↔ rq_gr p n = -1
  | 0 => Iff.rfl
  | n + 1 => by
    have := rq_le_gr p n
    rw [rq_le_s, rq_gr_s]
    by_cases q : p n = true
    · rw [if_pos q, if_pos q]
      by_cases z : rq_le p n = -1
      · rw [if_pos z]
      · rw [if_neg z]; exact ⟨fun y => absurd y z, fun y => by omega⟩
    · rw [if_neg q, if_neg q]
      by_cases z : rq_le p n = -1
      · rw [if_pos z]; exact ⟨fun _ => this.mp z, fun _ => rfl⟩
      · rw [if_neg z]; exact this
theorem rq_ct_b (p : Nat → Bool) (n : Nat) : 0 ≤ rq_ct p n ∧ rq_ct p n ≤ 1 * n := rq_sum_b (by decide) n (fun i _ => by split <;> decide)
section
variable {r : Nat} {ρ : rq_R} {A : rq_A} {c : Nat} {m : rt_M}
theorem q_bc (p : Nat → Bool) : f_J6_bitCount_0f7a4 ((rq_bn p 10 : Nat) : Int) m = some (rq_ct p 10) := by
  have h := q_bc0 (rq_bn p 10) (rq_bn_lt p 10)
  have e : rq_sum (fun i => if Nat.testBit (rq_bn p 10) i = true then (1 : Int) else 0) 10 = rq_ct p 10 := by
    unfold rq_ct
    refine rq_sum_c 10 (fun i hi => ?_)
    rw [rq_bn_tb]
    simp [hi]
  rw [e] at h
  exact h
theorem q_gd6 {α : Type} (o : Option α) : rt_gd 6 ((56 : Nat) : Int) o = o := rfl
def rq_vlean (ρ : rq_R) (A : rq_A) (a : Int) : Int := if a = 0 then rq_ct (rq_so ρ A.2.2.1) 10 else if a = 1 then rq_le (rq_so ρ A.2.2.1) 10 else if a = 2 then rq_gr (rq_so ρ A.2.2.1) 10 else -1
theorem q_leans (h : rq_J r ρ A c m) (a : Int) : rq (f_X11_leans 41 a m) (fun p => p.1 = rq_vlean ρ A a ∧ rq_fr rq_WQ m p.2) := by
  have hs := h.1.1
  unfold f_X11_leans rq_vlean
  simp only [q_now hs, q_nsa hs, Option.bind_some, q_told h, q_gd6]
  refine rq_call (q_possible h) ?_
  rintro ⟨x, m1⟩ ⟨e, hf⟩
  dsimp only at e hf ⊢
  subst e
  have lp : ∀ a, a = 1 ∨ a = 2 → rq (j_X11_leans_36 a ((rq_bn (rq_so ρ A.2.2.1) 10 : Nat) : Int) m1) (fun p => p.1 = (if a = 1 then rq_le (rq_so ρ A.2.2.1) 10 else rq_gr (rq_so ρ A.2.2.1) 10) ∧ rq_fr rq_WQ m p.2) := by
    intro a ha
    unfold j_X11_leans_36
    refine rq_call (rq_up (Q := fun e => e.1 = (if a = 1 then rq_le (rq_so ρ A.2.2.1) 10 else rq_gr (rq_so ρ A.2.2.1) 10) ∧ e.2 = m1) (fun i s => s.2.1 = (i : Int) ∧ s.1 = (if a = 1 then rq_le (rq_so ρ A.2.2.1) i else rq_gr (rq_so ρ A.2.2.1) i) ∧ s.2.2 = m1) 10 (by decide) ?_ ?_ ⟨rfl, by split <;> rfl, rfl⟩) ?_
    · rintro i ⟨x, y, mm⟩ hi ⟨e1, e2, e3⟩
      dsimp only at e1 e2 e3
      subst e1 e2 e3
      have hg := rq_le_gr (rq_so ρ A.2.2.1) i
      unfold b_X11_leans_41 j_X11_leans_68_41 j_X11_leans_71_41
      dsimp only
      rw [if_neg (by omega), rq_n1 (by omega), rq_tb _ (rq_bn_lt _ 10) i hi, rq_bn_tb]
      simp only [hi, decide_true, Bool.true_and]
      by_cases q : rq_so ρ A.2.2.1 i = true
      · rw [if_pos q, if_pos rfl]
        by_cases a1 : a = 1
        · subst a1
          rw [if_pos rfl]
          by_cases z : rq_le (rq_so ρ A.2.2.1) i = -1
          · rw [if_pos z]
            refine rq_some.mpr (rq_inl ⟨rfl, ?_, rfl⟩)
            rw [if_pos rfl, rq_le_s, if_pos z, if_pos q]
          · rw [if_neg z, if_neg (by decide)]
            refine rq_some.mpr (rq_inl ⟨rfl, ?_, rfl⟩)
            rw [if_pos rfl, rq_le_s, if_neg z]
        · have a2 : a = 2 := ha.resolve_left a1
          rw [if_neg a1, if_pos a2]
          have gs : rq_gr (rq_so ρ A.2.2.1) (i + 1) = (i : Int) := by rw [rq_gr_s, if_pos q]
          split
          · exact rq_some.mpr (rq_inl ⟨rfl, gs.symm, rfl⟩)
          · exact rq_some.mpr (rq_inl ⟨rfl, gs.symm, rfl⟩)
      · rw [if_neg q, if_neg (by decide)]
        refine rq_some.mpr (rq_inl ⟨rfl, ?_, rfl⟩)
        by_cases a1 : a = 1
        · rw [if_pos a1, if_pos a1, rq_le_s, if_neg q]
          by_cases z : rq_le (rq_so ρ A.2.2.1) i = -1
          · rw [if_pos z, z]
          · rw [if_neg z]
        · rw [if_neg a1, if_neg a1, rq_gr_s, if_neg q]
    · rintro ⟨x, y, mm⟩ ⟨e1, e2, e3⟩
      dsimp only at e1 e2 e3
      subst e1 e2 e3
      unfold b_X11_leans_41
      dsimp only
      rw [if_pos (by omega)]
      exact rq_some.mpr (rq_inre ⟨rfl, rfl⟩)
    · rintro ⟨x, mm⟩ ⟨e1, e2⟩
      dsimp only at e1 e2
      subst e1 e2
      exact rq_some.mpr ⟨rfl, rq_frE hf⟩
  by_cases a0 : a = 0
  · rw [if_pos a0, if_pos a0, q_bc, Option.bind_some]
    exact rq_some.mpr ⟨rfl, rq_frE hf⟩
  · rw [if_neg a0, if_neg a0]
    by_cases a1 : a = 1
    · have := lp a (Or.inl a1)
      rw [if_pos a1] at this
      rw [if_pos a1, if_pos a1]; exact this
    · rw [if_neg a1, if_neg a1]
      by_cases a2 : a = 2
      · have := lp a (Or.inr a2)
        rw [if_neg a1] at this
        rw [if_pos a2, if_pos a2]; exact this
      · rw [if_neg a2, if_neg a2]
        exact rq_some.mpr ⟨rfl, rq_frE hf⟩
theorem q_rleans (h : rq_J r ρ A c m) (a : Int) : rq (f_X12_leans 248 a m) (fun p => p.1 = rq_vlean ρ A a ∧ rq_fr rq_WQ m p.2) := by
  obtain ⟨m2, e2, h2, f2⟩ := q_thr h 0
  unfold f_X12_leans rq_vlean
  rw [e2, Option.bind_some]
  by_cases ha : 0 ≤ a ∧ a ≤ 2
  · rw [q_withinT ha.1 ha.2, Option.bind_some, if_neg (by decide)]
    refine rq_call (rq_up (Q := fun e => e.1 = rq_ct (rq_so ρ A.2.2.1) 10 ∧ e.2.1 = rq_le (rq_so ρ A.2.2.1) 10 ∧ e.2.2.1 = rq_gr (rq_so ρ A.2.2.1) 10 ∧ rq_fr rq_wF m2 e.2.2.2) (fun i s => s.2.2.2.1 = (i : Int) ∧ s.1 = rq_ct (rq_so ρ A.2.2.1) i ∧ s.2.1 = rq_le (rq_so ρ A.2.2.1) i ∧ s.2.2.1 = rq_gr (rq_so ρ A.2.2.1) i ∧ rq_fr rq_wF m2 s.2.2.2.2) 10 (by decide) ?_ ?_ ⟨rfl, rfl, rfl, rfl, rq_fr.rfl⟩) ?_
    · rintro i ⟨x, y, z, u, mm⟩ hi ⟨e1, e2, e3, e4, hf⟩
      dsimp only at e1 e2 e3 e4 hf
      subst e1 e2 e3 e4
      have hJ := rq_J_fr h2 (rq_frF hf) (Nat.le_refl c)
      have cb := rq_ct_b (rq_so ρ A.2.2.1) i
      have lb := rq_le_b (rq_so ρ A.2.2.1) i
      unfold b_X12_leans_26 j_X12_leans_55_26 j_X12_leans_59_26
      dsimp only
      rw [if_neg (by omega)]
      refine rq_call (q_isAsSaid hJ (l := i) (by omega)) ?_
      rintro ⟨v, m1⟩ ⟨rfl, hf1⟩
      dsimp only
      rw [rq_n1 (by omega), rq_iadd (by omega) (by omega)]
      by_cases q : rq_so ρ A.2.2.1 i = true
      · rw [if_pos q, if_neg (by decide)]
        by_cases z : rq_le (rq_so ρ A.2.2.1) i = -1
        · rw [if_neg (by omega)]
          refine rq_some.mpr (rq_inl ⟨rfl, ?_, ?_, ?_, hf.trans hf1⟩)
          · rw [rq_ct_s, if_pos q]
          · rw [rq_le_s, if_pos z, if_pos q]
          · rw [rq_gr_s, if_pos q]
        · rw [if_pos (by omega)]
          refine rq_some.mpr (rq_inl ⟨rfl, ?_, ?_, ?_, hf.trans hf1⟩)
          · rw [rq_ct_s, if_pos q]
          · rw [rq_le_s, if_neg z]
          · rw [rq_gr_s, if_pos q]
      · rw [if_neg q, if_pos rfl]
        refine rq_some.mpr (rq_inl ⟨rfl, ?_, ?_, ?_, hf.trans hf1⟩)
        · rw [rq_ct_s, if_neg q]; simp
        · rw [rq_le_s, if_neg q]
          by_cases z : rq_le (rq_so ρ A.2.2.1) i = -1
          · rw [if_pos z, z]
          · rw [if_neg z]
        · rw [rq_gr_s, if_neg q]
    · rintro ⟨x, y, z, u, mm⟩ ⟨e1, e2, e3, e4, hf⟩
      dsimp only at e1 e2 e3 e4 hf
      subst e1 e2 e3 e4
      unfold b_X12_leans_26
      dsimp only
      rw [if_pos (by omega)]
      exact rq_some.mpr (rq_inre ⟨rfl, rfl, rfl, hf⟩)
    · rintro ⟨x, y, z, mm⟩ ⟨e1, e2, e3, hf⟩
      dsimp only at e1 e2 e3 hf ⊢
      subst e1 e2 e3
      unfold j_X12_leans_84
      by_cases a0 : a = 0
      · rw [if_pos a0, if_pos a0]; exact rq_some.mpr ⟨rfl, f2.trans (rq_frF hf)⟩
      · rw [if_neg a0, if_neg a0]
        by_cases a1 : a = 1
        · rw [if_pos a1, if_pos a1]; exact rq_some.mpr ⟨rfl, f2.trans (rq_frF hf)⟩
        · rw [if_neg a1, if_neg a1, if_pos (by omega)]; exact rq_some.mpr ⟨rfl, f2.trans (rq_frF hf)⟩
  · rw [q_withinF ha, Option.bind_some, if_pos rfl, if_neg (by omega), if_neg (by omega), if_neg (by omega)]
    exact rq_some.mpr ⟨rfl, f2⟩
theorem L_leans (hI : rq_I c m) (a : Int) : rq (f_X11_leans 41 a m) (fun p => rq (f_X12_leans 248 a p.2) (fun q => q.1 = p.1 ∧ rq_I (c + 1) q.2)) := by
  obtain ⟨r, ρ, A, h⟩ := hI
  exact rq_pair (o2 := f_X12_leans 248 a) h (q_leans h a) (fun m1 h1 => q_rleans h1 a)
/-- of head k's cases -/
def rq_fy (ρ : rq_R) (Z : rq_Y) (k hard : Nat) (n : Nat) : Int := rq_sum (fun l => if rq_so ρ Z l = true ∧ rq_jf ρ (l : Int) k (hard : Int) ≠ 0 then 1 else 0) n
def rq_fg (ρ : rq_R) (Z : rq_Y) (k hard : Nat) : Int := if rq_fy ρ Z k hard 10 < rq_ct (rq_so ρ Z) 10 - rq_fy ρ Z k hard 10 then rq_ct (rq_so ρ Z) 10 - rq_fy ρ Z k hard 10 else rq_fy ρ Z k hard 10
/-- the least so far, and whose -/
def rq_nx (ρ : rq_R) (Z : rq_Y) (k : Nat) : Nat → Int × Int
  | 0 => (rq_ct (rq_so ρ Z) 10, -1)
  | n + 1 => if rq_fg ρ Z k n < (rq_nx ρ Z k n).1 then (rq_fg ρ Z k n, (n : Int)) else rq_nx ρ Z k n
theorem rq_nx_s (ρ : rq_R) (Z : rq_Y) (k n : Nat) : rq_nx ρ Z k (n + 1) = if rq_fg ρ Z k n < (rq_nx ρ Z k n).1 then (rq_fg ρ Z k n, (n : Int)) else rq_nx ρ Z k n := rfl
theorem rq_fy_b (ρ : rq_R) (Z : rq_Y) (k hard n : Nat) : 0 ≤ rq_fy ρ Z k hard n ∧ rq_fy ρ Z k hard n ≤ 1 * n := rq_sum_b (by decide) n (fun i _ => by split <;> decide)
theorem L_next (hI : rq_I c m) (a : Int) : rq (f_X11_next 41 a m) (fun p => rq (f_X12_next 248 a p.2) (fun q => q.1 = p.1 ∧ rq_I (c + 1) q.2)) := by
  obtain ⟨r, ρ, A, h⟩ := hI
  have cb := rq_ct_b (rq_so ρ A.2.2.1) 10
  refine rq_pair (v := if 0 ≤ a ∧ a < ρ.1 0 1 then (rq_nx ρ A.2.2.1 a.toNat 10).2 else -1) (o2 := f_X12_next 248 a) h ?_ (fun m1 h1 => ?_)
  · have hC := h.1
    have hs := hC.1
    unfold f_X11_next
    simp only [q_told h, Option.bind_some, q_gd4 hC]
    by_cases ha : 0 ≤ a ∧ a < ρ.1 0 1
    · obtain ⟨k, rfl⟩ := Int.eq_ofNat_of_zero_le ha.1
      rw [q_isHeadT hC ha.1 ha.2, Option.bind_some, if_neg (by decide), if_pos ha]
      simp only [q_now hs, q_nsa hs, Option.bind_some, q_gd6, Int.toNat_natCast]
      refine rq_call (q_possible h) ?_
      rintro ⟨x, m1⟩ ⟨e, hf⟩
      dsimp only at e hf ⊢
      subst e
      rw [q_bc, Option.bind_some]
      refine rq_call (rq_up (Q := fun e => e.1 = (rq_nx ρ A.2.2.1 k 10).2 ∧ rq_fr rq_wE m e.2) (fun i s => s.2.2.1 = (i : Int) ∧ s.1 = (rq_nx ρ A.2.2.1 k i).1 ∧ s.2.1 = (rq_nx ρ A.2.2.1 k i).2 ∧ rq_fr rq_wE m s.2.2.2) 10 (by decide) ?_ ?_ ⟨rfl, rfl, rfl, hf⟩) ?_
      · rintro i ⟨x, y, z, mm⟩ hi ⟨e1, e2, e3, hf⟩
        dsimp only at e1 e2 e3 hf
        subst e1 e2 e3
        unfold b_X11_next_42 j_X11_next_122_42
        dsimp only
        rw [if_neg (by omega)]
        refine rq_call (rq_up (Q := fun e => e.1 = rq_fy ρ A.2.2.1 k i 10 ∧ rq_fr rq_wE m e.2) (fun l s => s.2.1 = (l : Int) ∧ s.1 = rq_fy ρ A.2.2.1 k i l ∧ rq_fr rq_wE m s.2.2) 10 (by decide) ?_ ?_ ⟨rfl, rfl, hf⟩) ?_
        · rintro l ⟨x, y, mm⟩ hl ⟨e1, e2, hf⟩
          dsimp only at e1 e2 hf
          subst e1 e2
          have hJ := rq_J_fr h (rq_frE hf) (Nat.le_refl c)
          have fb := rq_fy_b ρ A.2.2.1 k i l
          have fs : rq_fy ρ A.2.2.1 k i (l + 1) = rq_fy ρ A.2.2.1 k i l + if rq_so ρ A.2.2.1 l = true ∧ rq_jf ρ (l : Int) k (i : Int) ≠ 0 then 1 else 0 := rfl
          unfold b_X11_next_55 j_X11_next_90_55
          dsimp only
          rw [if_neg (by omega), rq_n1 (by omega), rq_iadd (by omega) (by omega), rq_tb _ (rq_bn_lt _ 10) l hl, rq_bn_tb]
          simp only [hl, decide_true, Bool.true_and]
          by_cases q : rq_so ρ A.2.2.1 l = true
          · rw [if_pos q, if_pos rfl, q_told hJ, Option.bind_some, q_gd4 hJ.1]
            refine rq_call (q_isFor hJ.1 (lean := (l : Int)) (hard := (i : Int)) (k := k) ⟨by omega, by omega⟩ ⟨by omega, by omega⟩ ha.2) ?_
            rintro ⟨v, m2⟩ ⟨rfl, hf2⟩
            dsimp only
            by_cases z : rq_jf ρ (l : Int) k (i : Int) = 0
            · rw [if_pos z]
              refine rq_some.mpr (rq_inl ⟨rfl, ?_, hf.trans hf2⟩)
              rw [fs, if_neg (fun y => y.2 z)]; simp
            · rw [if_neg z]
              refine rq_some.mpr (rq_inl ⟨rfl, ?_, hf.trans hf2⟩)
              rw [fs, if_pos ⟨q, z⟩]
          · rw [if_neg q, if_neg (by decide)]
            refine rq_some.mpr (rq_inl ⟨rfl, ?_, hf⟩)
            rw [fs, if_neg (fun y => q y.1)]; simp
        · rintro ⟨x, y, mm⟩ ⟨e1, e2, hf⟩
          dsimp only at e1 e2 hf
          subst e1 e2
          unfold b_X11_next_55
          dsimp only
          rw [if_pos (by omega)]
          exact rq_some.mpr (rq_inre ⟨rfl, hf⟩)
        · rintro ⟨x, m2⟩ ⟨e, hf2⟩
          dsimp only at e hf2 ⊢
          subst e
          have fb := rq_fy_b ρ A.2.2.1 k i 10
          rw [q_max, Option.bind_some, rq_isub (by omega) (by omega), rq_n1 (by omega)]
          have fg : (if rq_fy ρ A.2.2.1 k i 10 < rq_ct (rq_so ρ A.2.2.1) 10 - rq_fy ρ A.2.2.1 k i 10 then rq_ct (rq_so ρ A.2.2.1) 10 - rq_fy ρ A.2.2.1 k i 10 else rq_fy ρ A.2.2.1 k i 10) = rq_fg ρ A.2.2.1 k i := rfl
          rw [fg]
          by_cases q : (rq_nx ρ A.2.2.1 k i).1 ≤ rq_fg ρ A.2.2.1 k i
          · rw [if_pos q]
            refine rq_some.mpr (rq_inl ⟨rfl, ?_, ?_, hf2⟩)
            · rw [rq_nx_s, if_neg (by omega)]
            · rw [rq_nx_s, if_neg (by omega)]
          · rw [if_neg q]
            refine rq_some.mpr (rq_inl ⟨rfl, ?_, ?_, hf2⟩)
            · rw [rq_nx_s, if_pos (by omega)]
            · rw [rq_nx_s, if_pos (by omega)]
      · rintro ⟨x, y, z, mm⟩ ⟨e1, e2, e3, hf⟩
        dsimp only at e1 e2 e3 hf
        subst e1 e2 e3
        unfold b_X11_next_42
        dsimp only
        rw [if_pos (by omega)]
        exact rq_some.mpr (rq_inre ⟨rfl, hf⟩)
      · rintro ⟨x, m2⟩ ⟨e, hf2⟩
        exact rq_some.mpr ⟨e, rq_frE hf2⟩
    · rw [q_isHeadF hC ha, Option.bind_some, if_pos rfl, if_neg ha]
      exact rq_some.mpr ⟨rfl, rq_fr.rfl⟩
  · obtain ⟨m2, e2, h2, f2⟩ := q_thr h1 0
    have hD := h2.2.1
    unfold f_X12_next
    rw [e2, Option.bind_some]
    by_cases ha : 0 ≤ a ∧ a < ρ.1 0 1
    · obtain ⟨k, rfl⟩ := Int.eq_ofNat_of_zero_le ha.1
      rw [q_rihT hD ha.1 ha.2, Option.bind_some, if_neg (by decide), if_pos ha]
      simp only [Int.toNat_natCast]
      refine rq_call (q_rleans h2 0) ?_
      rintro ⟨x, m3⟩ ⟨e, hf⟩
      dsimp only at e hf ⊢
      have ee : x = rq_ct (rq_so ρ A.2.2.1) 10 := by rw [e]; unfold rq_vlean; rw [if_pos rfl]
      subst ee
      refine rq_call (rq_up (Q := fun e => e.1 = (rq_nx ρ A.2.2.1 k 10).2 ∧ rq_fr rq_WQ m2 e.2) (fun i s => s.2.2.1 = (i : Int) ∧ s.2.1 = (rq_nx ρ A.2.2.1 k i).1 ∧ s.1 = (rq_nx ρ A.2.2.1 k i).2 ∧ rq_fr rq_WQ m2 s.2.2.2) 10 (by decide) ?_ ?_ ⟨rfl, rfl, rfl, hf⟩) ?_
      · rintro i ⟨x, y, z, mm⟩ hi ⟨e1, e2, e3, hf⟩
        dsimp only at e1 e2 e3 hf
        subst e1 e2 e3
        unfold b_X12_next_29 j_X12_next_114_29
        dsimp only
        rw [if_neg (by omega)]
        refine rq_call (rq_up (Q := fun e => e.1 = rq_fy ρ A.2.2.1 k i 10 ∧ rq_fr rq_WQ m2 e.2) (fun l s => s.2.1 = (l : Int) ∧ s.1 = rq_fy ρ A.2.2.1 k i l ∧ rq_fr rq_WQ m2 s.2.2) 10 (by decide) ?_ ?_ ⟨rfl, rfl, hf⟩) ?_
        · rintro l ⟨x, y, mm⟩ hl ⟨e1, e2, hf⟩
          dsimp only at e1 e2 hf
          subst e1 e2
          have hJ := rq_J_fr h2 hf (Nat.le_refl c)
          have fb := rq_fy_b ρ A.2.2.1 k i l
          have fs : rq_fy ρ A.2.2.1 k i (l + 1) = rq_fy ρ A.2.2.1 k i l + if rq_so ρ A.2.2.1 l = true ∧ rq_jf ρ (l : Int) k (i : Int) ≠ 0 then 1 else 0 := rfl
          unfold b_X12_next_42 j_X12_next_76_42 j_X12_next_77_42
          dsimp only
          rw [if_neg (by omega), rq_n1 (by omega), rq_iadd (by omega) (by omega), rq_iadd (by omega) (by omega)]
          refine rq_call (q_isAsSaid hJ (l := l) (by omega)) ?_
          rintro ⟨v, m3⟩ ⟨rfl, hf3⟩
          have hJ3 : rq_J r ρ A c m3 := rq_J_fr hJ (rq_frF hf3) (Nat.le_refl c)
          dsimp only
          by_cases q : rq_so ρ A.2.2.1 l = true
          · rw [if_pos q, if_neg (by decide)]
            refine rq_call (q_risFor hJ3.2.1 (lean := (l : Int)) (hard := (i : Int)) (k := k) ⟨by omega, by omega⟩ ⟨by omega, by omega⟩ ha.2) ?_
            rintro ⟨v, m4⟩ ⟨rfl, hf4⟩
            dsimp only
            by_cases z : rq_jf ρ (l : Int) k (i : Int) = 0
            · rw [if_pos z]
              refine rq_some.mpr (rq_inl ⟨rfl, ?_, hf.trans ((rq_frF hf3).trans (rq_frF hf4))⟩)
              rw [fs, if_neg (fun y => y.2 z)]
            · rw [if_neg z]
              refine rq_some.mpr (rq_inl ⟨rfl, ?_, hf.trans ((rq_frF hf3).trans (rq_frF hf4))⟩)
              rw [fs, if_pos ⟨q, z⟩]
          · rw [if_neg q, if_pos rfl]
            refine rq_some.mpr (rq_inl ⟨rfl, ?_, hf.trans (rq_frF hf3)⟩)
            rw [fs, if_neg (fun y => q y.1)]
        · rintro ⟨x, y, mm⟩ ⟨e1, e2, hf⟩
          dsimp only at e1 e2 hf
          subst e1 e2
          unfold b_X12_next_42
          dsimp only
          rw [if_pos (by omega)]
          exact rq_some.mpr (rq_inre ⟨rfl, hf⟩)
        · rintro ⟨x, m5⟩ ⟨e, hf2⟩
          dsimp only at e hf2 ⊢
          subst e
          have fb := rq_fy_b ρ A.2.2.1 k i 10
          rw [q_max, Option.bind_some, rq_isub (by omega) (by omega), rq_n1 (by omega)]
          have fg : (if rq_fy ρ A.2.2.1 k i 10 < rq_ct (rq_so ρ A.2.2.1) 10 - rq_fy ρ A.2.2.1 k i 10 then rq_ct (rq_so ρ A.2.2.1) 10 - rq_fy ρ A.2.2.1 k i 10 else rq_fy ρ A.2.2.1 k i 10) = rq_fg ρ A.2.2.1 k i := rfl
          rw [fg]
          by_cases q : rq_fg ρ A.2.2.1 k i < (rq_nx ρ A.2.2.1 k i).1
          · rw [if_pos q]
            refine rq_some.mpr (rq_inl ⟨rfl, ?_, ?_, hf2⟩)
            · rw [rq_nx_s, if_pos q]
            · rw [rq_nx_s, if_pos q]
          · rw [if_neg q]
            refine rq_some.mpr (rq_inl ⟨rfl, ?_, ?_, hf2⟩)
            · rw [rq_nx_s, if_neg q]
            · rw [rq_nx_s, if_neg q]
      · rintro ⟨x, y, z, mm⟩ ⟨e1, e2, e3, hf⟩
        dsimp only at e1 e2 e3 hf
        subst e1 e2 e3
        unfold b_X12_next_29
        dsimp only
        rw [if_pos (by omega)]
        exact rq_some.mpr (rq_inre ⟨rfl, hf⟩)
      · rintro ⟨x, m5⟩ ⟨e, hf2⟩
        exact rq_some.mpr ⟨e, f2.trans hf2⟩
    · rw [q_rihF hD ha, Option.bind_some, if_pos rfl, if_neg ha]
      exact rq_some.mpr ⟨rfl, f2⟩
end
