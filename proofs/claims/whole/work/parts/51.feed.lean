/-! Layer 3: feed -/
abbrev rq_X : Type := Nat × (Nat → Int)
def rq_sg (w : Int) (sh : Nat) : Int := rt_l2i (rt_land (rt_lushr w (sh : Int)) 255)
theorem rq_l2i255 : ∀ x, x < 256 → rt_l2i ((x : Nat) : Int) = (x : Int) ∧ rt_i2c ((x : Nat) : Int) = (x : Int) := by decide +kernel
theorem rq_land255 (x : Int) : ∃ n : Nat, n < 256 ∧ rt_land x 255 = (n : Int) := by
  unfold rt_land
  refine ⟨((Int64.ofInt x).toBitVec &&& (255#64)).toNat, ?_, ?_⟩
  · rw [BitVec.toNat_and]
    exact Nat.lt_of_le_of_lt Nat.and_le_right (by decide)
  · show ((Int64.ofInt x).toBitVec &&& (255#64)).toInt = _
    refine BitVec.toInt_eq_toNat_of_lt ?_
    rw [BitVec.toNat_and]
    have : (Int64.ofInt x).toBitVec.toNat &&& (255#64).toNat ≤ 255 := Nat.and_le_right
    omega
theorem rq_sg_b (w : Int) (sh : Nat) : 0 ≤ rq_sg w sh ∧ rq_sg w sh < 256 ∧ rt_i2c (rq_sg w sh) = rq_sg w sh := by
  unfold rq_sg
  obtain ⟨n, h1, h2⟩ := rq_land255 (rt_lushr w (sh : Int))
  rw [h2, (rq_l2i255 n h1).1]
  exact ⟨by omega, by omega, (rq_l2i255 n h1).2⟩
def rq_okS (s : Int) : Prop := s = 10 ∨ (32 ≤ s ∧ s ≤ 126)
def rq_tpa (s : Int) (T : rq_X) : rq_X := if s = 10 then (if T.1 < 1000 then (T.1 + 1, fun i => if i = T.1 then s else T.2 i) else T) else if 32 ≤ s ∧ s ≤ 126 then (if T.1 < 1000 then (T.1 + 1, fun i => if i = T.1 then s else T.2 i) else T) else T
def rq_f8 (w : Int) (T : rq_X) : Nat → rq_X
  | 0 => T
  | i + 1 => rq_tpa (rq_sg w (56 - 8 * i)) (rq_f8 w T i)
theorem rq_f8_s (w : Int) (T : rq_X) (i : Nat) : rq_f8 w T (i + 1) = rq_tpa (rq_sg w (56 - 8 * i)) (rq_f8 w T i) := rfl
def rq_tc (T : rq_X) (m : rt_M) : Prop := T.1 ≤ 1000 ∧ m 42 1 = (T.1 : Int) ∧ (∀ i, i < T.1 → m 43 i = T.2 i) ∧ ∀ i, i < T.1 → rq_okS (T.2 i)
def rq_tr (T : rq_X) (m : rt_M) : Prop := T.1 ≤ 1000 ∧ m 248 1 = (T.1 : Int) ∧ ∀ i, i < T.1 → m 249 i = T.2 i
def rq_wT (k j : Nat) : Bool := (k == 42 && j == 1) || k == 43
def rq_wTr (k j : Nat) : Bool := (k == 248 && (j == 0 || j == 1)) || k == 249
theorem rq_wT_st : (rq_P.all fun p => !(rq_wT p.1 p.2.1)) = true := by decide +kernel
theorem rq_wTr_st : (rq_P.all fun p => !(rq_wTr p.1 p.2.1)) = true := by decide +kernel
theorem rq_shf : ∀ k, k < 24 → rt_isub 56 (rt_imul 8 (rt_iand ((k : Nat) : Int) 7)) = ((56 - 8 * (k % 8) : Nat) : Int) := by decide +kernel
section
variable {m : rt_M}
theorem q_add (hs : rq_st m) {T : rq_X} (h : rq_tc T m) (w : Int) : rq (f_X8_add ((42 : Nat) : Int) w m) (fun m1 => rq_tc (rq_f8 w T 8) m1 ∧ rq_fr rq_wT m m1) := by
  have g8 : ∀ (j : Nat) (m : rt_M), rt_gf 8 j ((42 : Nat) : Int) m = some (m 42 j) := fun j m => rfl
  have p8 : ∀ (j : Nat) (v : Int) (m : rt_M), rt_pf 8 j ((42 : Nat) : Int) v m = some (rt_up m 42 j v) := fun j v m => rfl
  unfold f_X8_add
  refine rq_call (rq_up (Q := fun m1 => rq_tc (rq_f8 w T 8) m1 ∧ rq_fr rq_wT m m1) (fun i s => s.1 = 56 - 8 * (i : Int) ∧ rq_tc (rq_f8 w T i) s.2 ∧ rq_fr rq_wT m s.2) 8 (by decide) ?_ ?_ (by exact ⟨rfl, h, rq_fr.rfl⟩)) (fun e q => rq_some.mpr q)
  · rintro i ⟨x, mm⟩ hi ⟨e1, ht, hf⟩
    dsimp only at e1 ht hf
    have esh : x = ((56 - 8 * i : Nat) : Int) := by omega
    have hs1 := rq_st_fr hs hf rq_wT_st
    obtain ⟨sb1, sb2, sb3⟩ := rq_sg_b w (56 - 8 * i)
    unfold b_X8_add_3
    dsimp only
    rw [if_neg (by omega), esh]
    have e0 : rt_i2c (rt_l2i (rt_land (rt_lushr w ((56 - 8 * i : Nat) : Int)) 255)) = rq_sg w (56 - 8 * i) := sb3
    rw [e0]
    have nx : rt_iadd ((56 - 8 * i : Nat) : Int) (-8) = 56 - 8 * ((i + 1 : Nat) : Int) := by rw [rq_iadd (by omega) (by omega)]; omega
    have put : rq_okS (rq_sg w (56 - 8 * i)) → (rq_f8 w T (i + 1) = if (rq_f8 w T i).1 < 1000 then ((rq_f8 w T i).1 + 1, fun j => if j = (rq_f8 w T i).1 then rq_sg w (56 - 8 * i) else (rq_f8 w T i).2 j) else rq_f8 w T i) → rq (j_X8_add_39_3 ((42 : Nat) : Int) w ((56 - 8 * i : Nat) : Int) (rq_sg w (56 - 8 * i)) mm) (fun t => (∀ s' : Int × rt_M, t = Sum.inl s' → s'.1 = 56 - 8 * ((i + 1 : Nat) : Int) ∧ rq_tc (rq_f8 w T (i + 1)) s'.2 ∧ rq_fr rq_wT m s'.2) ∧ ∀ e : rt_M, t = Sum.inr e → rq_tc (rq_f8 w T 8) e ∧ rq_fr rq_wT m e) := by
      intro hok hs8
      obtain ⟨t1, t2, t3, t4⟩ := ht
      unfold j_X8_add_39_3 j_X8_add_70_3
      simp only [g8, p8, Option.bind_some, nx]
      rw [t2]
      by_cases q : (rq_f8 w T i).1 < 1000
      · rw [if_pos q] at hs8
        have hb : rt_cz (rq_sg w (56 - 8 * i)) = some (rq_sg w (56 - 8 * i)) := if_pos ⟨sb1, by omega⟩
        rw [if_neg (by omega), hb, Option.bind_some, pt_42_0 hs1, show (43 : Int) = ((43 : Nat) : Int) from rfl, q_sa kd_43 ln_43 q, Option.bind_some, show ∀ v, rt_up mm 43 (rq_f8 w T i).1 v 42 1 = mm 42 1 from fun v => rfl, t2, rq_n1 (by omega)]
        refine rq_some.mpr (rq_inl ⟨rfl, ?_, (hf.up rfl).up rfl⟩)
        rw [hs8]
        refine ⟨by show (rq_f8 w T i).1 + 1 ≤ 1000; omega, ?_, fun j hj => ?_, fun j hj => ?_⟩
        · dsimp only
          rw [q_up, if_pos ⟨rfl, rfl⟩]
        · dsimp only
          change j < (rq_f8 w T i).1 + 1 at hj
          rw [q_up, if_neg (by omega), q_up]
          by_cases z : j = (rq_f8 w T i).1
          · rw [if_pos ⟨rfl, z⟩, if_pos z]
          · rw [if_neg (fun y => z y.2), if_neg z]; exact t3 j (by omega)
        · dsimp only
          change j < (rq_f8 w T i).1 + 1 at hj
          by_cases z : j = (rq_f8 w T i).1
          · rw [if_pos z]; exact hok
          · rw [if_neg z]; exact t4 j (by omega)
      · rw [if_neg q] at hs8
        rw [if_pos (by omega)]
        refine rq_some.mpr (rq_inl ⟨rfl, ?_, hf⟩)
        rw [hs8]
        exact ⟨t1, t2, t3, t4⟩
    by_cases q1 : rq_sg w (56 - 8 * i) = 10
    · rw [if_pos q1]
      exact put (Or.inl q1) (by rw [rq_f8_s]; unfold rq_tpa; rw [if_pos q1])
    · rw [if_neg q1]
      have no : ¬ (32 ≤ rq_sg w (56 - 8 * i) ∧ rq_sg w (56 - 8 * i) ≤ 126) → rq_f8 w T (i + 1) = rq_f8 w T i := by
        intro z
        rw [rq_f8_s]; unfold rq_tpa; rw [if_neg q1, if_neg z]
      by_cases q2 : rq_sg w (56 - 8 * i) < 32
      · rw [if_pos q2]
        unfold j_X8_add_70_3
        rw [nx]
        refine rq_some.mpr (rq_inl ⟨rfl, ?_, hf⟩)
        rw [no (by omega)]; exact ht
      · rw [if_neg q2]
        by_cases q3 : 126 < rq_sg w (56 - 8 * i)
        · rw [if_pos q3]
          unfold j_X8_add_70_3
          rw [nx]
          refine rq_some.mpr (rq_inl ⟨rfl, ?_, hf⟩)
          rw [no (by omega)]; exact ht
        · rw [if_neg q3]
          exact put (Or.inr ⟨by omega, by omega⟩) (by rw [rq_f8_s]; unfold rq_tpa; rw [if_neg q1, if_pos (by omega)])
  · rintro ⟨x, mm⟩ ⟨e1, ht, hf⟩
    dsimp only at e1 ht hf
    unfold b_X8_add_3
    dsimp only
    rw [if_pos (by omega)]
    exact rq_some.mpr (rq_inre ⟨ht, hf⟩)
/-- three words, as the reference reads them -/
def rq_w3 (a b d : Int) (k : Nat) : Int := if k < 8 then a else if k < 16 then b else d
def rq_f24 (a b d : Int) (T : rq_X) : Nat → rq_X
  | 0 => T
  | i + 1 => rq_tpa (rq_sg (rq_w3 a b d i) (56 - 8 * (i % 8))) (rq_f24 a b d T i)
theorem rq_f24_s (a b d : Int) (T : rq_X) (i : Nat) : rq_f24 a b d T (i + 1) = rq_tpa (rq_sg (rq_w3 a b d i) (56 - 8 * (i % 8))) (rq_f24 a b d T i) := rfl
theorem rq_f24_8 (a b d : Int) (T : rq_X) : rq_f24 a b d T 24 = rq_f8 d (rq_f8 b (rq_f8 a T 8) 8) 8 := rfl
theorem q_rfeed (hs : rq_st m) {T : rq_X} (h : rq_tr T m) (a b d : Int) : rq (f_X12_feed 248 a b d m) (fun p => p.1 = (((rq_f24 a b d T 24).1 : Nat) : Int) ∧ rq_tr (rq_f24 a b d T 24) p.2 ∧ rq_fr rq_wTr m p.2) := by
  unfold f_X12_feed
  rw [q_pfr, Option.bind_some]
  have f0 : rq_fr rq_wTr m (rt_up m 248 0 0) := rq_fr.rfl.up rfl
  refine rq_call (rq_up (Q := fun m1 => rq_tr (rq_f24 a b d T 24) m1 ∧ rq_fr rq_wTr m m1) (fun i s => s.1 = (i : Int) ∧ rq_tr (rq_f24 a b d T i) s.2 ∧ rq_fr rq_wTr m s.2) 24 (by decide) ?_ ?_ (by exact ⟨rfl, h, f0⟩)) ?_
  · rintro i ⟨x, mm⟩ hi ⟨e1, ht, hf⟩
    dsimp only at e1 ht hf
    subst e1
    have hs1 := rq_st_fr hs hf rq_wTr_st
    obtain ⟨sb1, sb2, sb3⟩ := rq_sg_b (rq_w3 a b d i) (56 - 8 * (i % 8))
    obtain ⟨t1, t2, t3⟩ := ht
    have key : ∀ w, w = rq_w3 a b d i → rq (j_X12_feed_39_8 248 a b d (i : Int) w mm) (fun t => (∀ s' : Int × rt_M, t = Sum.inl s' → s'.1 = ((i + 1 : Nat) : Int) ∧ rq_tr (rq_f24 a b d T (i + 1)) s'.2 ∧ rq_fr rq_wTr m s'.2) ∧ ∀ e : rt_M, t = Sum.inr e → rq_tr (rq_f24 a b d T 24) e ∧ rq_fr rq_wTr m e) := by
      intro w hw
      subst hw
      unfold j_X12_feed_39_8
      rw [rq_shf i hi]
      have e0 : rt_l2i (rt_land (rt_lushr (rq_w3 a b d i) ((56 - 8 * (i % 8) : Nat) : Int)) 255) = rq_sg (rq_w3 a b d i) (56 - 8 * (i % 8)) := rfl
      rw [e0, q_gfr, Option.bind_some, t2]
      generalize hsg : rq_sg (rq_w3 a b d i) (56 - 8 * (i % 8)) = sg at sb1 sb2
      have hstep : rq_f24 a b d T (i + 1) = rq_tpa sg (rq_f24 a b d T i) := by rw [rq_f24_s, hsg]
      have skip : rq_tpa sg (rq_f24 a b d T i) = rq_f24 a b d T i → rq (j_X12_feed_114_8 248 a b d (i : Int) mm) (fun t => (∀ s' : Int × rt_M, t = Sum.inl s' → s'.1 = ((i + 1 : Nat) : Int) ∧ rq_tr (rq_f24 a b d T (i + 1)) s'.2 ∧ rq_fr rq_wTr m s'.2) ∧ ∀ e : rt_M, t = Sum.inr e → rq_tr (rq_f24 a b d T 24) e ∧ rq_fr rq_wTr m e) := by
        intro z
        unfold j_X12_feed_114_8
        rw [rq_n1 (by omega), hstep, z]
        exact rq_some.mpr (rq_inl ⟨rfl, ⟨t1, t2, t3⟩, hf⟩)
      have put : (rq_f24 a b d T i).1 < 1000 → rq_tpa sg (rq_f24 a b d T i) = ((rq_f24 a b d T i).1 + 1, fun j => if j = (rq_f24 a b d T i).1 then sg else (rq_f24 a b d T i).2 j) → rq (j_X12_feed_93_8 248 a b d (i : Int) sg mm) (fun t => (∀ s' : Int × rt_M, t = Sum.inl s' → s'.1 = ((i + 1 : Nat) : Int) ∧ rq_tr (rq_f24 a b d T (i + 1)) s'.2 ∧ rq_fr rq_wTr m s'.2) ∧ ∀ e : rt_M, t = Sum.inr e → rq_tr (rq_f24 a b d T 24) e ∧ rq_fr rq_wTr m e) := by
        intro q z
        unfold j_X12_feed_93_8 j_X12_feed_114_8
        simp only [q_gfr, q_pfr, Option.bind_some]
        rw [t2, q_s8 (k := 249) _ 1000 (pt_248_2 hs1) kd_249 ln_249 q, Option.bind_some, show ∀ v, rt_up mm 249 (rq_f24 a b d T i).1 v 248 1 = mm 248 1 from fun v => rfl, t2, rq_n1 (by omega), rq_n1 (by omega), hstep, z]
        refine rq_some.mpr (rq_inl ⟨rfl, ⟨by show (rq_f24 a b d T i).1 + 1 ≤ 1000; omega, ?_, fun j hj => ?_⟩, (hf.up rfl).up rfl⟩)
        · dsimp only
          rw [q_up, if_pos ⟨rfl, rfl⟩]
        · dsimp only
          change j < (rq_f24 a b d T i).1 + 1 at hj
          rw [q_up, if_neg (by omega), q_up]
          by_cases z : j = (rq_f24 a b d T i).1
          · rw [if_pos ⟨rfl, z⟩, if_pos z]
          · rw [if_neg (fun y => z y.2), if_neg z]; exact t3 j (by omega)
      by_cases q : (rq_f24 a b d T i).1 < 1000
      · rw [if_neg (by omega)]
        by_cases q1 : sg = 10
        · rw [if_pos q1]
          exact put q (by unfold rq_tpa; rw [if_pos q1, if_pos q])
        · rw [if_neg q1]
          by_cases q2 : sg < 32
          · rw [if_pos q2]
            exact skip (by unfold rq_tpa; rw [if_neg q1, if_neg (by omega)])
          · rw [if_neg q2]
            by_cases q3 : 126 < sg
            · rw [if_pos q3]
              exact skip (by unfold rq_tpa; rw [if_neg q1, if_neg (by omega)])
            · rw [if_neg q3]
              exact put q (by unfold rq_tpa; rw [if_neg q1, if_pos (by omega), if_pos q])
      · rw [if_pos (by omega)]
        refine skip ?_
        unfold rq_tpa
        rw [if_neg q]
        split
        · rfl
        · split <;> rfl
    unfold b_X12_feed_8
    dsimp only
    rw [if_neg (by omega)]
    by_cases k8 : i < 8
    · rw [if_neg (by omega)]
      exact key a (by unfold rq_w3; rw [if_pos k8])
    · rw [if_pos (by omega)]
      by_cases k16 : i < 16
      · rw [if_neg (by omega)]
        exact key b (by unfold rq_w3; rw [if_neg k8, if_pos k16])
      · rw [if_pos (by omega)]
        exact key d (by unfold rq_w3; rw [if_neg k8, if_neg k16])
  · rintro ⟨x, mm⟩ ⟨e1, ht, hf⟩
    dsimp only at e1 ht hf
    subst e1
    unfold b_X12_feed_8
    dsimp only
    rw [if_pos (by omega)]
    exact rq_some.mpr (rq_inre ⟨ht, hf⟩)
  · rintro m1 ⟨ht, hf⟩
    rw [q_gfr, Option.bind_some]
    exact rq_some.mpr ⟨ht.2.1, ht, hf⟩
end
section
variable {r : Nat} {ρ : rq_R} {A : rq_A} {c : Nat} {m m' : rt_M}
theorem rq_J_tp (h : rq_J r ρ A c m) (z : ∀ {a j : Nat}, ((a = 41 ∧ j ≠ 13) ∨ (44 ≤ a ∧ a < 248) ∨ (a = 248 ∧ j = 55) ∨ (250 ≤ a ∧ a < 300)) → m' a j = m a j) (hs : rq_st m') (ht : rq_tp m') : rq_J r ρ A (c + 1) m' := by
  obtain ⟨hC, hD, h7, hAc, hAr, hv, hcc, htp, hud, hmk⟩ := h
  refine ⟨⟨hs, hC.2.1, hC.2.2.1, rq_rc_fr hC.2.2.2 hC.2.2.1 (fun a j h1 h2 h3 h4 => z ?_)⟩, ⟨hs, hD.2.1, rq_rr_fr hD.2.2 (fun a j h1 h2 => z (by omega))⟩, ⟨by rw [z (by omega)]; exact h7.1, by rw [z (by omega)]; exact h7.2⟩, rq_Ac_fr hAc (fun a j h1 h2 => z (by omega)), rq_Ar_fr hAr (fun a j h1 h2 h3 h4 => z (by omega)), hv, by omega, ht, rq_ud_fr (Nat.le_succ c) hud (z (by omega)) (z (by omega)) (z (by omega)) (fun a j h1 h2 => z (by omega)) (fun j => z (by omega)), rq_mk_fr (Nat.le_succ c) hmk (fun a j h1 h2 => z (by omega)) (fun j => z (by omega)) (fun a j h1 _ _ _ _ => z (by omega)) (fun i hi => by rw [z (by omega)]; exact hmk.2 i (by omega))⟩
  rcases hC.2.1 with rfl | rfl <;> omega
theorem L_feed (hI : rq_I c m) (a b d : Int) : rq (f_X11_feed 41 a b d m) (fun p => rq (f_X12_feed 248 a b d p.2) (fun q => q.1 = p.1 ∧ rq_I (c + 1) q.2)) := by
  obtain ⟨r, ρ, A, h⟩ := hI
  have hs := h.1.1
  obtain ⟨n, n1, n2, n3, n4⟩ := h.2.2.2.2.2.2.2.1
  have gt : ∀ {m : rt_M}, rq_st m → rt_gf 11 0 41 m = some ((42 : Nat) : Int) := fun hs => by rw [q_g11, pt_41_0 hs]; rfl
  have gd : ∀ {α : Type} (o : Option α), rt_gd 8 ((42 : Nat) : Int) o = o := fun o => rfl
  have ht : rq_tc (n, fun i => m 43 i) m := ⟨n1, n2, fun i hi => rfl, fun i hi => (n4 i hi).2⟩
  unfold f_X11_feed
  rw [gt hs, Option.bind_some, gd]
  refine rq_call (q_add hs ht a) ?_
  rintro m1 ⟨t1, f1⟩
  have hs1 := rq_st_fr hs f1 rq_wT_st
  rw [gt hs1, Option.bind_some, gd]
  refine rq_call (q_add hs1 t1 b) ?_
  rintro m2 ⟨t2, f2⟩
  have hs2 := rq_st_fr hs1 f2 rq_wT_st
  rw [gt hs2, Option.bind_some, gd]
  refine rq_call (q_add hs2 t2 d) ?_
  rintro m3 ⟨t3, f3⟩
  have hs3 := rq_st_fr hs2 f3 rq_wT_st
  have hf := (f1.trans f2).trans f3
  rw [gt hs3, Option.bind_some, show rt_gf 8 1 ((42 : Nat) : Int) m3 = some (m3 42 1) from rfl, Option.bind_some]
  refine rq_some.mpr ?_
  dsimp only
  have tr : rq_tr (n, fun i => m 43 i) m3 := ⟨n1, by rw [hf 248 1 rfl]; exact n3, fun i hi => by rw [hf 249 i rfl]; exact (n4 i hi).1.symm⟩
  refine rq_mono (q_rfeed hs3 tr a b d) ?_
  rintro ⟨x, m4⟩ ⟨e, t4, f4⟩
  dsimp only at e t4 f4 ⊢
  rw [rq_f24_8] at e t4
  refine ⟨by rw [e, t3.2.1], r, ρ, A, rq_J_tp h (fun {a j} q => ?_) (rq_st_fr hs3 f4 rq_wTr_st) ⟨_, t3.1, ?_, t4.2.1, fun i hi => ?_⟩⟩
  · rw [f4 a j ?_, hf a j ?_]
    · unfold rq_wT
      simp only [Bool.or_eq_false_iff, Bool.and_eq_false_iff, beq_eq_false_iff_ne]
      omega
    · unfold rq_wTr
      simp only [Bool.or_eq_false_iff, Bool.and_eq_false_iff, beq_eq_false_iff_ne]
      omega
  · rw [f4 42 1 rfl]; exact t3.2.1
  · rw [f4 43 i rfl, t3.2.2.1 i hi, t4.2.2 i hi]
    exact ⟨rfl, t3.2.2.2 i hi⟩
end
