/-! Layer 3: say, tell -/
section
variable {r : Nat} {ρ : rq_R} {A : rq_A} {c : Nat} {m m' : rt_M}
def rq_zadd (Z : rq_Y) (a b f : Int) : rq_Y := fun k i => if k = 0 then (if i = 0 then Z 0 0 + 1 else Z 0 i) else if (i : Int) = Z 0 0 then (if k = 1 then a else if k = 2 then b else f) else Z k i
theorem rq_z1 {Z : rq_Y} {a b f : Int} {i : Nat} (h : (i : Int) = Z 0 0) : rq_zadd Z a b f 1 i = a := by unfold rq_zadd; rw [if_neg (by decide), if_pos h]; rfl
theorem rq_z2 {Z : rq_Y} {a b f : Int} {i : Nat} (h : (i : Int) = Z 0 0) : rq_zadd Z a b f 2 i = b := by unfold rq_zadd; rw [if_neg (by decide), if_pos h]; rfl
theorem rq_z3 {Z : rq_Y} {a b f : Int} {i : Nat} (h : (i : Int) = Z 0 0) : rq_zadd Z a b f 3 i = f := by unfold rq_zadd; rw [if_neg (by decide), if_pos h]; rfl
theorem rq_zF {Z : rq_Y} {a b f : Int} {i : Nat} (k : Nat) (h : ¬ (i : Int) = Z 0 0) : rq_zadd Z a b f (k + 1) i = Z (k + 1) i := by unfold rq_zadd; rw [if_neg (by omega), if_neg h]
theorem rq_ud_S (h : rq_J r ρ A c m) (k : rq_fr rq_WS m m') (k1 : m' 41 5 = m 41 5) (k2 : m' 41 6 = m 41 6) (k3 : m' 248 55 = m 248 55) (k4 : ∀ a j, 200 ≤ a → a < 248 → m' a j = m a j) (k5 : ∀ j, m' 288 j = m 288 j) : rq_ud ρ (c + 1) m' := rq_ud_fr (Nat.le_succ c) h.2.2.2.2.2.2.2.2.1 k1 k2 k3 k4 k5
theorem L_say (hI : rq_I c m) (a b f : Int) (hf : f = 0 ∨ f = 1) : rq (f_X11_say 41 a b f m) (fun p => rq (f_X12_say 248 a b f p.2) (fun q => q.1 = p.1 ∧ rq_I (c + 1) q.2)) := by
  obtain ⟨r, ρ, A, h⟩ := hI
  have hC := h.1
  have hs := hC.1
  have hz := h.2.2.2.2.2.1.2.2.1
  have g6 : ∀ (j : Nat) (m : rt_M), rt_gf 6 j ((56 : Nat) : Int) m = some (m 56 j) := fun j m => rfl
  have p6 : ∀ (j : Nat) (v : Int) (m : rt_M), rt_pf 6 j ((56 : Nat) : Int) v m = some (rt_up m 56 j v) := fun j v m => rfl
  by_cases hab : (0 ≤ a ∧ a < ρ.1 0 1) ∧ (0 ≤ b ∧ b ≤ 9) ∧ A.2.2.1 0 0 < 8
  · obtain ⟨ha, hb, h8⟩ := hab
    obtain ⟨n, hn⟩ := Int.eq_ofNat_of_zero_le hz.1
    have n8 : n < 8 := by omega
    have hz0 : m 56 0 = (n : Int) := by rw [h.2.2.2.1.2.2.1.1]; exact hn
    unfold f_X11_say
    simp only [q_told h, Option.bind_some, q_gd4 hC]
    rw [q_isHeadT hC ha.1 ha.2, Option.bind_some, if_neg (by decide), q_isHardness, if_pos hb, Option.bind_some, if_neg (by decide), q_now hs, Option.bind_some, q_nsa hs, Option.bind_some, q_gd6]
    unfold f_X6_add
    have f1 : rq_fr rq_WS m (rt_up m 57 n a) := rq_fr.rfl.up rfl
    have s1 := rq_st_fr hs f1 rq_WS_st
    have f2 : rq_fr rq_WS m (rt_up (rt_up m 57 n a) 58 n b) := f1.up rfl
    have s2 := rq_st_fr hs f2 rq_WS_st
    have e58 : rt_up m 57 n a 56 2 = 58 := pt_56_2 s1
    have e59 : rt_up (rt_up m 57 n a) 58 n b 56 3 = 59 := pt_56_3 s2
    simp only [g6, p6, Option.bind_some]
    rw [hz0, if_pos (by omega), pt_56_1 hs, show (57 : Int) = ((57 : Nat) : Int) from rfl, q_sa kd_57 ln_57 n8, Option.bind_some, e58, show rt_up m 57 n a 56 0 = (n : Int) from hz0, show (58 : Int) = ((58 : Nat) : Int) from rfl, q_sa kd_58 ln_58 n8, Option.bind_some, e59, show rt_up (rt_up m 57 n a) 58 n b 56 0 = (n : Int) from hz0, show rt_bz f = some f from if_pos hf, Option.bind_some, show (59 : Int) = ((59 : Nat) : Int) from rfl, q_sa kd_59 ln_59 n8, Option.bind_some, show rt_up (rt_up (rt_up m 57 n a) 58 n b) 59 n f 56 0 = (n : Int) from hz0, rq_n1 (by omega)]
    generalize hm3 : rt_up (rt_up (rt_up (rt_up m 57 n a) 58 n b) 59 n f) 56 0 ((n + 1 : Nat) : Int) = m3
    have f3 : rq_fr rq_WS m m3 := by rw [← hm3]; exact ((f2.up rfl).up rfl)
    have v56 : m3 56 0 = ((n + 1 : Nat) : Int) := by rw [← hm3, q_up, if_pos ⟨rfl, rfl⟩]
    have v57 : ∀ i, m3 57 i = if i = n then a else m 57 i := by
      intro i
      rw [← hm3, q_up, if_neg (by omega), q_up, if_neg (by omega), q_up, if_neg (by omega), q_up]
      by_cases z : i = n
      · rw [if_pos ⟨rfl, z⟩, if_pos z]
      · rw [if_neg (fun y => z y.2), if_neg z]
    have v58 : ∀ i, m3 58 i = if i = n then b else m 58 i := by
      intro i
      rw [← hm3, q_up, if_neg (by omega), q_up, if_neg (by omega), q_up]
      by_cases z : i = n
      · rw [if_pos ⟨rfl, z⟩, if_pos z]
      · rw [if_neg (fun y => z y.2), if_neg z, q_up, if_neg (by omega)]
    have v59 : ∀ i, m3 59 i = if i = n then f else m 59 i := by
      intro i
      rw [← hm3, q_up, if_neg (by omega), q_up]
      by_cases z : i = n
      · rw [if_pos ⟨rfl, z⟩, if_pos z]
      · rw [if_neg (fun y => z y.2), if_neg z, q_up, if_neg (by omega), q_up, if_neg (by omega)]
    have vne : ∀ k j, k ≠ 56 → k ≠ 57 → k ≠ 58 → k ≠ 59 → m3 k j = m k j := by
      intro k j z1 z2 z3 z4
      rw [← hm3, q_up, if_neg (fun y => z1 y.1), q_up, if_neg (fun y => z4 y.1), q_up, if_neg (fun y => z3 y.1), q_up, if_neg (fun y => z2 y.1)]
    refine rq_some.mpr ?_
    dsimp only
    have hD3 := rq_D_WS h.2.1 f3
    unfold f_X12_say
    rw [q_pfr, Option.bind_some]
    have f4 : rq_fr rq_WS m3 (rt_up m3 248 0 0) := rq_fr.rfl.up rfl
    have hD4 := rq_D_WS hD3 f4
    have hs4 := hD4.1
    have r0 : rt_up m3 248 0 0 280 0 = (n : Int) := by
      rw [q_up, if_neg (by omega), vne 280 0 (by omega) (by omega) (by omega) (by omega), h.2.2.2.2.1.2.2.1.1]; exact hn
    rw [q_rihT hD4 ha.1 ha.2, Option.bind_some, if_neg (by decide), q_withinT hb.1 hb.2, Option.bind_some, if_neg (by decide)]
    have vne3 : ∀ k j, 200 ≤ k → m3 k j = m k j := fun k j z => vne k j (by omega) (by omega) (by omega) (by omega)
    generalize hm4 : rt_up m3 248 0 0 = m4 at f4 hD4 hs4 r0 ⊢
    have v4 : ∀ k j, k ≠ 248 → m4 k j = m3 k j := fun k j z => by rw [← hm4, q_up, if_neg (fun y => z y.1)]
    have g1 : rq_fr rq_WS m4 (rt_up m4 281 n a) := rq_fr.rfl.up (by unfold rq_WS; simp; omega)
    have t1 := rq_st_fr hs4 g1 rq_WS_st
    have g2 : rq_fr rq_WS m4 (rt_up (rt_up m4 281 n a) 282 n b) := g1.up (by unfold rq_WS; simp; omega)
    have t2 := rq_st_fr hs4 g2 rq_WS_st
    have g3 : rq_fr rq_WS m4 (rt_up (rt_up (rt_up m4 281 n a) 282 n b) 283 n f) := g2.up (by unfold rq_WS; simp; omega)
    have t3 := rq_st_fr hs4 g3 rq_WS_st
    have n40 : n < 40 := by omega
    have sz : ∀ (M : rt_M), rq_st M → rt_sa 3 (M 248 48) (n : Int) f M = some (rt_up M 283 n f) := by
      intro M hM
      rw [pt_248_48 hM, show (283 : Int) = ((283 : Nat) : Int) from rfl, q_sa kd_283 ln_283 n40]
    simp only [q_gfr, Option.bind_some]
    rw [q_a9 (k := 280) _ 0 5 0 (pt_248_45 hs4) kd_280 ln_280 rfl (by decide), Option.bind_some, r0, if_neg (by omega), Option.bind_some, q_s8 (k := 281) _ 40 (pt_248_46 hs4) kd_281 ln_281 n40, Option.bind_some, q_a9 (k := 280) _ 0 5 0 (pt_248_45 t1) kd_280 ln_280 rfl (by decide), Option.bind_some, show rt_up m4 281 n a 280 0 = (n : Int) from r0, q_s8 (k := 282) _ 40 (pt_248_47 t1) kd_282 ln_282 n40, Option.bind_some, q_a9 (k := 280) _ 0 5 0 (pt_248_45 t2) kd_280 ln_280 rfl (by decide), Option.bind_some, show rt_up (rt_up m4 281 n a) 282 n b 280 0 = (n : Int) from r0, show rt_bz f = some f from if_pos hf, Option.bind_some, sz _ t2, Option.bind_some, q_a9 (k := 280) _ 0 5 0 (pt_248_45 t3) kd_280 ln_280 rfl (by decide), Option.bind_some, show rt_up (rt_up (rt_up m4 281 n a) 282 n b) 283 n f 280 0 = (n : Int) from r0, rq_n1 (by omega), q_s9 (k := 280) _ 0 5 0 (pt_248_45 t3) kd_280 ln_280 rfl (by decide), Option.bind_some]
    generalize hm5 : rt_up (rt_up (rt_up (rt_up m4 281 n a) 282 n b) 283 n f) 280 0 ((n + 1 : Nat) : Int) = m5
    have f5 : rq_fr rq_WS m4 m5 := by rw [← hm5]; exact g3.up rfl
    have w280 : m5 280 0 = ((n + 1 : Nat) : Int) := by rw [← hm5, q_up, if_pos ⟨rfl, rfl⟩]
    have w281 : ∀ i, m5 281 i = if i = n then a else m 281 i := by
      intro i
      rw [← hm5, q_up, if_neg (by omega), q_up, if_neg (by omega), q_up, if_neg (by omega), q_up]
      by_cases z : i = n
      · rw [if_pos ⟨rfl, z⟩, if_pos z]
      · rw [if_neg (fun y => z y.2), if_neg z, v4 _ _ (by omega), vne3 _ _ (by omega)]
    have w282 : ∀ i, m5 282 i = if i = n then b else m 282 i := by
      intro i
      rw [← hm5, q_up, if_neg (by omega), q_up, if_neg (by omega), q_up]
      by_cases z : i = n
      · rw [if_pos ⟨rfl, z⟩, if_pos z]
      · rw [if_neg (fun y => z y.2), if_neg z, q_up, if_neg (by omega), v4 _ _ (by omega), vne3 _ _ (by omega)]
    have w283 : ∀ i, m5 283 i = if i = n then f else m 283 i := by
      intro i
      rw [← hm5, q_up, if_neg (by omega), q_up]
      by_cases z : i = n
      · rw [if_pos ⟨rfl, z⟩, if_pos z]
      · rw [if_neg (fun y => z y.2), if_neg z, q_up, if_neg (by omega), q_up, if_neg (by omega), v4 _ _ (by omega), vne3 _ _ (by omega)]
    have wne : ∀ k j, k ≠ 248 → k ≠ 280 → k ≠ 281 → k ≠ 282 → k ≠ 283 → m5 k j = m3 k j := by
      intro k j z0 z1 z2 z3 z4
      rw [← hm5, q_up, if_neg (fun y => z1 y.1), q_up, if_neg (fun y => z4 y.1), q_up, if_neg (fun y => z3 y.1), q_up, if_neg (fun y => z2 y.1), v4 _ _ z0]
    have wall : ∀ k j, k ≠ 248 → k ≠ 280 → k ≠ 281 → k ≠ 282 → k ≠ 283 → k ≠ 56 → k ≠ 57 → k ≠ 58 → k ≠ 59 → m5 k j = m k j := fun k j z0 z1 z2 z3 z4 z5 z6 z7 z8 => by rw [wne k j z0 z1 z2 z3 z4, vne k j z5 z6 z7 z8]
    refine rq_some.mpr ⟨rfl, r, ρ, (A.1, A.2.1, rq_zadd A.2.2.1 a b f, A.2.2.2), ?_⟩
    have hfr : rq_fr rq_WS m m5 := f3.trans (f4.trans f5)
    have hAc := h.2.2.2.1
    have hAr := h.2.2.2.2.1
    have hvA := h.2.2.2.2.2.1
    have hb283 : ∀ i, i < 8 → m5 283 i = 0 ∨ m5 283 i = 1 := by
      intro i hi
      rw [w283]
      by_cases z : i = n
      · rw [if_pos z]; exact hf
      · rw [if_neg z]; exact h.2.2.2.2.2.2.2.2.2.2 i (by omega)
    have e0 : rq_zadd A.2.2.1 a b f 0 0 = ((n + 1 : Nat) : Int) := by
      show A.2.2.1 0 0 + 1 = _; omega
    refine rq_J_set h hfr (Nat.le_succ c) ⟨?_, ?_, ⟨?_, fun i hi => ?_⟩, fun w hw => ?_⟩ ⟨fun i hi => ?_, ?_, ⟨?_, fun i hi => ?_⟩, fun w hw => ?_⟩ ⟨hvA.1, hvA.2.1, ⟨?_, ?_, fun i hi => ?_⟩, hvA.2.2.2⟩ (by have := h.2.2.2.2.2.2.1; show A.1 0 ≤ _; omega) (rq_ud_S h hfr (wall _ _ (by omega) (by omega) (by omega) (by omega) (by omega) (by omega) (by omega) (by omega) (by omega)) (wall _ _ (by omega) (by omega) (by omega) (by omega) (by omega) (by omega) (by omega) (by omega) (by omega)) ?_ (fun k j z1 z2 => wall _ _ (by omega) (by omega) (by omega) (by omega) (by omega) (by omega) (by omega) (by omega) (by omega)) (fun j => wall _ _ (by omega) (by omega) (by omega) (by omega) (by omega) (by omega) (by omega) (by omega) (by omega))) hb283
    · exact rq_sc_fr hAc.1 (wall _ _ (by omega) (by omega) (by omega) (by omega) (by omega) (by omega) (by omega) (by omega) (by omega)) (fun w _ => wall _ _ (by omega) (by omega) (by omega) (by omega) (by omega) (by omega) (by omega) (by omega) (by omega)) (fun w _ => wall _ _ (by omega) (by omega) (by omega) (by omega) (by omega) (by omega) (by omega) (by omega) (by omega))
    · exact rq_yc_fr hAc.2.1 (fun k j z1 z2 => wall _ _ (by omega) (by omega) (by omega) (by omega) (by omega) (by omega) (by omega) (by omega) (by omega))
    · show m5 56 0 = rq_zadd A.2.2.1 a b f 0 0
      rw [wne 56 0 (by omega) (by omega) (by omega) (by omega) (by omega), v56, e0]
    · change (i : Int) < rq_zadd A.2.2.1 a b f 0 0 at hi
      rw [e0] at hi
      have q := hAc.2.2.1.2 i
      show m5 57 i = rq_zadd A.2.2.1 a b f 1 i ∧ m5 58 i = rq_zadd A.2.2.1 a b f 2 i ∧ m5 59 i = rq_zadd A.2.2.1 a b f 3 i
      rw [wne 57 i (by omega) (by omega) (by omega) (by omega) (by omega), wne 58 i (by omega) (by omega) (by omega) (by omega) (by omega), wne 59 i (by omega) (by omega) (by omega) (by omega) (by omega), v57, v58, v59]
      by_cases z : i = n
      · have z2 : (i : Int) = A.2.2.1 0 0 := by omega
        rw [if_pos z, if_pos z, if_pos z, rq_z1 z2, rq_z2 z2, rq_z3 z2]
        exact ⟨rfl, rfl, rfl⟩
      · have z2 : ¬ (i : Int) = A.2.2.1 0 0 := by omega
        rw [if_neg z, if_neg z, if_neg z, rq_zF 0 z2, rq_zF 1 z2, rq_zF 2 z2]
        exact q (by omega)
    · show m5 60 w = A.2.2.2 w
      rw [wall 60 w (by omega) (by omega) (by omega) (by omega) (by omega) (by omega) (by omega) (by omega) (by omega)]
      exact hAc.2.2.2 w hw
    · show m5 285 i = A.1 i
      rw [wall 285 i (by omega) (by omega) (by omega) (by omega) (by omega) (by omega) (by omega) (by omega) (by omega)]
      exact q_Sr h i hi
    · exact rq_yr_fr hAr.2.1 (fun k j z1 z2 => wall _ _ (by omega) (by omega) (by omega) (by omega) (by omega) (by omega) (by omega) (by omega) (by omega))
    · show m5 280 0 = rq_zadd A.2.2.1 a b f 0 0
      rw [w280, e0]
    · change (i : Int) < rq_zadd A.2.2.1 a b f 0 0 at hi
      rw [e0] at hi
      have q := hAr.2.2.1.2 i
      rw [show 8 * 0 + i = i by omega] at q ⊢
      show m5 281 i = rq_zadd A.2.2.1 a b f 1 i ∧ m5 282 i = rq_zadd A.2.2.1 a b f 2 i ∧ m5 283 i = rq_zadd A.2.2.1 a b f 3 i
      rw [w281, w282, w283]
      by_cases z : i = n
      · have z2 : (i : Int) = A.2.2.1 0 0 := by omega
        rw [if_pos z, if_pos z, if_pos z, rq_z1 z2, rq_z2 z2, rq_z3 z2]
        exact ⟨rfl, rfl, rfl⟩
      · have z2 : ¬ (i : Int) = A.2.2.1 0 0 := by omega
        rw [if_neg z, if_neg z, if_neg z, rq_zF 0 z2, rq_zF 1 z2, rq_zF 2 z2]
        exact q (by omega)
    · show m5 284 (6 * 0 + w) = A.2.2.2 w
      rw [wall 284 _ (by omega) (by omega) (by omega) (by omega) (by omega) (by omega) (by omega) (by omega) (by omega)]
      exact hAr.2.2.2 w hw
    · show 0 ≤ rq_zadd A.2.2.1 a b f 0 0
      rw [e0]; omega
    · show rq_zadd A.2.2.1 a b f 0 0 ≤ 8
      rw [e0]; omega
    · change (i : Int) < rq_zadd A.2.2.1 a b f 0 0 at hi
      rw [e0] at hi
      show (0 ≤ rq_zadd A.2.2.1 a b f 1 i ∧ rq_zadd A.2.2.1 a b f 1 i < ρ.1 0 1) ∧ (0 ≤ rq_zadd A.2.2.1 a b f 2 i ∧ rq_zadd A.2.2.1 a b f 2 i ≤ 9) ∧ (rq_zadd A.2.2.1 a b f 3 i = 0 ∨ rq_zadd A.2.2.1 a b f 3 i = 1)
      unfold rq_zadd
      by_cases z : i = n
      · have z2 : (i : Int) = A.2.2.1 0 0 := by omega
        simp only [z2, if_true]
        exact ⟨ha, hb, hf⟩
      · have z2 : ¬ (i : Int) = A.2.2.1 0 0 := by omega
        simp only [z2, if_false]
        exact hz.2.2 i (by omega)
    · show m5 248 55 = m 248 55
      rw [← hm5, q_up, if_neg (by omega), q_up, if_neg (by omega), q_up, if_neg (by omega), q_up, if_neg (by omega), ← hm4, q_up, if_neg (by omega), vne3 _ _ (by omega)]
  · refine rq_pair (v := 0) (o2 := f_X12_say 248 a b f) h ?_ (fun m1 h1 => ?_)
    · unfold f_X11_say j_X11_say_38
      simp only [q_told h, Option.bind_some, q_gd4 hC]
      by_cases ha : 0 ≤ a ∧ a < ρ.1 0 1
      · rw [q_isHeadT hC ha.1 ha.2, Option.bind_some, if_neg (by decide), q_isHardness]
        by_cases hb : 0 ≤ b ∧ b ≤ 9
        · rw [if_pos hb, Option.bind_some, if_neg (by decide), q_now hs, Option.bind_some, q_nsa hs, Option.bind_some, q_gd6]
          unfold f_X6_add
          rw [g6, Option.bind_some, show m 56 0 = A.2.2.1 0 0 from h.2.2.2.1.2.2.1.1, if_neg (fun z => hab ⟨ha, hb, z⟩), Option.bind_some, if_pos rfl]
          exact rq_some.mpr ⟨rfl, rq_fr.rfl⟩
        · rw [if_neg hb, Option.bind_some, if_pos rfl]
          exact rq_some.mpr ⟨rfl, rq_fr.rfl⟩
      · rw [q_isHeadF hC ha, Option.bind_some, if_pos rfl]
        exact rq_some.mpr ⟨rfl, rq_fr.rfl⟩
    · obtain ⟨m2, e2, h2, f2⟩ := q_thr h1 0
      unfold f_X12_say j_X12_say_34
      rw [e2, Option.bind_some]
      by_cases ha : 0 ≤ a ∧ a < ρ.1 0 1
      · rw [q_rihT h2.2.1 ha.1 ha.2, Option.bind_some, if_neg (by decide)]
        by_cases hb : 0 ≤ b ∧ b ≤ 9
        · have hz2 := hz.2.1
          have h8 : A.2.2.1 0 0 = 8 := by
            have : ¬ A.2.2.1 0 0 < 8 := fun z => hab ⟨ha, hb, z⟩
            omega
          rw [q_withinT hb.1 hb.2, Option.bind_some, if_neg (by decide), q_gfr, Option.bind_some, q_a9 (k := 280) _ 0 5 0 (pt_248_45 h2.2.1.1) kd_280 ln_280 rfl (by decide), Option.bind_some, show m2 280 0 = A.2.2.1 0 0 from h2.2.2.2.2.1.2.2.1.1, if_pos h8]
          exact rq_some.mpr ⟨rfl, f2⟩
        · rw [q_withinF hb, Option.bind_some, if_pos rfl]
          exact rq_some.mpr ⟨rfl, f2⟩
      · rw [q_rihF h2.2.1 ha, Option.bind_some, if_pos rfl]
        exact rq_some.mpr ⟨rfl, f2⟩
theorem L_tell (hI : rq_I c m) (a b : Int) : rq (f_X11_tell 41 a b m) (fun p => rq (f_X12_tell 248 a b p.2) (fun q => q.1 = p.1 ∧ rq_I (c + 1) q.2)) := by
  obtain ⟨r, ρ, A, h⟩ := hI
  have hC := h.1
  have hs := hC.1
  have hb0 := hC.2.2.1.1
  by_cases hab : (0 ≤ a ∧ a < ρ.1 0 0) ∧ 0 ≤ b ∧ b ≤ 9
  · obtain ⟨ha, hb⟩ := hab
    obtain ⟨w, rfl⟩ := Int.eq_ofNat_of_zero_le ha.1
    have h6 : w < 6 := by omega
    unfold f_X11_tell
    rw [q_told h, Option.bind_some, q_gd4 hC, q_isWigT hC ha.1 ha.2, Option.bind_some, if_neg (by decide), if_neg (by omega), if_pos hb.2, q_now hs, Option.bind_some, q_nti hs, Option.bind_some, q_sa kd_60 ln_60 h6, Option.bind_some]
    have f1 : rq_fr rq_WD m (rt_up m 60 w b) := rq_fr.rfl.up (by unfold rq_WD rq_row; simp; omega)
    refine rq_some.mpr ?_
    dsimp only
    obtain ⟨hD, hSr, hT, hU⟩ := rq_half h f1
    obtain ⟨n, p, U, hu1, hu2, hu3⟩ := h.2.2.2.2.2.2.2.2.1
    have f4 : rq_fr rq_WE (rt_up m 60 w b) (rt_up (rt_up m 60 w b) 248 0 0) := rq_fr.rfl.up rfl
    have hD4 := rq_D_WS hD (rq_frR f4)
    unfold f_X12_tell
    rw [q_pfr, Option.bind_some, q_riwT hD4 ha.1 ha.2, Option.bind_some, if_neg (by decide), q_withinT hb.1 hb.2, Option.bind_some, if_neg (by decide), q_gfr, Option.bind_some, q_s8 (k := 284) _ 30 (pt_248_49 hD4.1) kd_284 ln_284 (by omega), Option.bind_some]
    refine rq_some.mpr ⟨rfl, ?_⟩
    refine rq_deed h f1 (f4.up (by unfold rq_WE rq_row; simp; omega)) (S' := A.1) (D' := fun u => if u = w then b else A.2.2.2 u) (U' := U) (n' := n) (p' := p) ?_ (rq_uc_fr hu1 rfl rfl (fun a j z1 z2 => by rw [q_up, if_neg (by omega)])) (fun u hu => ?_) (fun i hi => ?_) (rq_ur_fr hu2 rfl (fun j => rfl)) (fun u hu => ?_) h.2.2.2.2.2.1.1 (fun u hu => ?_) (by have := h.2.2.2.2.2.2.1; omega) (rq_uv_le (Nat.le_succ c) hu3)
    · exact rq_sc_fr h.2.2.2.1.1 rfl (fun w _ => rfl) (fun w _ => rfl)
    · rw [q_up]
      by_cases z : u = w
      · rw [if_pos ⟨rfl, z⟩, if_pos z]
      · rw [if_neg (fun y => z y.2), if_neg z]; exact h.2.2.2.1.2.2.2 u hu
    · exact q_Sr h i hi
    · show rt_up (rt_up (rt_up m 60 w b) 248 0 0) 284 w b 284 u = _
      rw [q_up]
      by_cases z : u = w
      · rw [if_pos ⟨rfl, z⟩, if_pos z]
      · rw [if_neg (fun y => z y.2), if_neg z]; exact hT u hu
    · dsimp only
      have vd := h.2.2.2.2.2.1.2.2.2 u hu
      by_cases z : u = w
      · rw [if_pos z]; exact ⟨by omega, hb.2, fun y => absurd (by rw [z]; exact ha.2) y⟩
      · rw [if_neg z]; exact vd
  · refine rq_pair (v := 0) (o2 := f_X12_tell 248 a b) h ?_ (fun m1 h1 => ?_)
    · unfold f_X11_tell j_X11_tell_21
      rw [q_told h, Option.bind_some, q_gd4 hC]
      by_cases ha : 0 ≤ a ∧ a < ρ.1 0 0
      · rw [q_isWigT hC ha.1 ha.2, Option.bind_some, if_neg (by decide)]
        by_cases hb : b < 0
        · rw [if_pos hb]; exact rq_some.mpr ⟨rfl, rq_fr.rfl⟩
        · rw [if_neg hb, if_neg (fun z => hab ⟨ha, by omega, z⟩)]; exact rq_some.mpr ⟨rfl, rq_fr.rfl⟩
      · rw [q_isWigF hC ha, Option.bind_some, if_pos rfl]; exact rq_some.mpr ⟨rfl, rq_fr.rfl⟩
    · obtain ⟨m2, e2, h2, f2⟩ := q_thr h1 0
      unfold f_X12_tell j_X12_tell_23
      rw [e2, Option.bind_some]
      by_cases ha : 0 ≤ a ∧ a < ρ.1 0 0
      · rw [q_riwT h2.2.1 ha.1 ha.2, Option.bind_some, if_neg (by decide), q_withinF (fun z => hab ⟨ha, z⟩), Option.bind_some, if_pos rfl]
        exact rq_some.mpr ⟨rfl, f2⟩
      · rw [q_riwF h2.2.1 ha, Option.bind_some, if_pos rfl]
        exact rq_some.mpr ⟨rfl, f2⟩
end
