/-! Layer 3: under, the reference's search -/
section
variable {ρ : rq_R} {m : rt_M} {S : rq_S} {D : Nat → Int} {a : Int}
theorem q_tilts (hv : rq_vs ρ S) (hvd : rq_vd ρ D) (ha : a < ρ.1 0 0) : ∀ (k f i u : Nat) (m : rt_M), k < f → i + k = (ρ.1 0 0).toNat → u < 64 → rq_D ρ m → rq_sr S m → (∀ w, w < 6 → m 284 w = D w) → m 248 67 = a → rq (F_X12_tiltsFrom f 248 (i : Int) (u : Int) m) (fun m' => rq_su3 m' = (rq_lv (rq_uT D (-1)) (rq_uF ρ (S 0).toNat D) (ρ.1 0 1).toNat k i (m 290) u).foldl (rq_sp ρ (S 0).toNat a (ρ.1 0 1).toNat) (rq_su3 m) ∧ (∀ j, j < i ∨ (ρ.1 0 0).toNat ≤ j → m' 290 j = m 290 j) ∧ rq_fr rq_w96 m m') := by
  have s0 : S 0 = (((S 0).toNat : Nat) : Int) := by have := hv.1; omega
  have s1 := hv.2.1
  intro k
  induction k with
  | zero =>
    intro f i u m hf hik hu hD hS hd h67
    obtain ⟨f, rfl⟩ : ∃ f', f = f' + 1 := ⟨f - 1, by omega⟩
    have hb := hD.2.1.1
    show rq (f_X12_tiltsFrom (F_X12_tiltsFrom f) 248 (i : Int) (u : Int) m) _
    unfold f_X12_tiltsFrom
    rw [q_gfr, Option.bind_some, q_rn0 hD 0 rfl, Option.bind_some, if_pos (by omega)]
    refine rq_call (q_alw hD.1 _ _) ?_
    rintro m1 ⟨e1, f1⟩
    have f1' : rq_fr rq_w96 m m1 := f1.mono (fun k j q => by
      unfold rq_w96 at q
      simp only [Bool.or_eq_false_iff] at q
      exact q.1.2)
    rw [q_gfr, Option.bind_some, q_pfr, Option.bind_some]
    have f2 : rq_fr rq_w96 m (rt_up m1 248 65 (rt_iadd (m1 248 65) 1)) := f1'.up rfl
    have e65 : rt_up m1 248 65 (rt_iadd (m1 248 65) 1) 248 65 = rt_iadd (m 248 65) 1 := by rw [q_up, if_pos ⟨rfl, rfl⟩, f1 248 65 rfl]
    have e296 : rt_up m1 248 65 (rt_iadd (m1 248 65) 1) 296 = m1 296 := rfl
    have e297 : rt_up m1 248 65 (rt_iadd (m1 248 65) 1) 297 = m1 297 := rfl
    have e67 : rt_up m1 248 65 (rt_iadd (m1 248 65) 1) 248 67 = a := by rw [q_up, if_neg (by omega), f1 248 67 rfl, h67]
    have e290 : ∀ j, rt_up m1 248 65 (rt_iadd (m1 248 65) 1) 290 j = m 290 j := fun j => by rw [q_up, if_neg (by omega), f1 290 j rfl]
    generalize rt_up m1 248 65 (rt_iadd (m1 248 65) 1) = m2 at f2 e65 e296 e297 e67 e290 ⊢
    refine rq_call (q_byt (rq_D_w96 hD f2) (rq_sr_w96 hS f2) hv e67 ha hu _) ?_
    rintro m3 ⟨b1, f3⟩
    have f3' : rq_fr rq_w96 m2 m3 := f3.mono (fun k j q => by
      unfold rq_w96 at q
      simp only [Bool.or_eq_false_iff] at q ⊢
      exact ⟨q.1.1.1.1, q.2⟩)
    refine rq_some.mpr ⟨?_, fun j _ => by rw [f3 290 j rfl, e290], f2.trans f3'⟩
    show (m3 248 65, m3 296, m3 297) = rq_sp ρ (S 0).toNat a (ρ.1 0 1).toNat (m 248 65, m 296, m 297) (m 290, u)
    have r296 : m3 296 = m2 296 := funext fun j => f3 296 j rfl
    have r297 : m1 297 = m 297 := funext fun j => f1 297 j rfl
    rw [f3 248 65 rfl, e65, r296, e296, e1, b1, e297, r297]
    rfl
  | succ k ih =>
    intro f i u m hf hik hu hD hS hd h67
    obtain ⟨f, rfl⟩ : ∃ f', f = f' + 1 := ⟨f - 1, by omega⟩
    have hb := hD.2.1.1
    have di := hvd i (by omega)
    show rq (f_X12_tiltsFrom (F_X12_tiltsFrom f) 248 (i : Int) (u : Int) m) _
    unfold f_X12_tiltsFrom
    rw [q_gfr, Option.bind_some, q_rn0 hD 0 rfl, Option.bind_some, if_neg (by omega), q_gfr, Option.bind_some, q_s8 (k := 290) _ 6 (pt_248_56 hD.1) kd_290 ln_290 (by omega), Option.bind_some]
    have f1 : rq_fr rq_w96 m (rt_up m 290 i (-1)) := rq_fr.rfl.up rfl
    have hD1 := rq_D_w96 hD f1
    rw [q_gfr, Option.bind_some, q_a8 (k := 284) _ 30 (pt_248_49 hD1.1) kd_284 ln_284 (by omega), Option.bind_some, show rt_up m 290 i (-1) 284 i = D i from hd i (by omega)]
    rw [rq_lv_s]
    by_cases z : 0 ≤ D i
    · have hT : rq_uT D (-1) i = true := by unfold rq_uT; simp; omega
      rw [if_pos z, if_pos hT]
      refine rq_call (rq_up (Q := fun m' => rq_su3 m' = ((List.range (ρ.1 0 1).toNat).flatMap (fun h => if u.testBit h = false ∧ rq_uF ρ (S 0).toNat D i h = true then rq_lv (rq_uT D (-1)) (rq_uF ρ (S 0).toNat D) (ρ.1 0 1).toNat k (i + 1) (rq_at (m 290) i (h : Int)) (u ||| 2 ^ h) else [])).foldl (rq_sp ρ (S 0).toNat a (ρ.1 0 1).toNat) (rq_su3 m) ∧ (∀ j, j < i ∨ (ρ.1 0 0).toNat ≤ j → m' 290 j = m 290 j) ∧ rq_fr rq_w96 m m') (fun j s => s.1 = (j : Int) ∧ rq_su3 s.2 = ((List.range j).flatMap (fun h => if u.testBit h = false ∧ rq_uF ρ (S 0).toNat D i h = true then rq_lv (rq_uT D (-1)) (rq_uF ρ (S 0).toNat D) (ρ.1 0 1).toNat k (i + 1) (rq_at (m 290) i (h : Int)) (u ||| 2 ^ h) else [])).foldl (rq_sp ρ (S 0).toNat a (ρ.1 0 1).toNat) (rq_su3 m) ∧ (∀ j, j < i ∨ (ρ.1 0 0).toNat ≤ j → s.2 290 j = m 290 j) ∧ rq_fr rq_w96 m s.2) (ρ.1 0 1).toNat (by omega) ?_ ?_ ?_) (fun m2 q => rq_some.mpr q)
      · rintro j ⟨x, mm⟩ hj ⟨e1, e2, e3, hf⟩
        dsimp only at e1 e2 e3 hf
        subst e1
        have hDm := rq_D_w96 hD hf
        have hSm := rq_sr_w96 hS hf
        have tf := rq_tt_fi ρ i j (S 0).toNat
        have stay : ∀ m2, rq_fr rq_wF mm m2 → ¬ (u.testBit j = false ∧ rq_uF ρ (S 0).toNat D i j = true) → rq (j_X12_tiltsFrom_253_176 (F_X12_tiltsFrom f) 248 (i : Int) (u : Int) (j : Int) m2) (fun t => (∀ s', t = .inl s' → s'.1 = ((j + 1 : Nat) : Int) ∧ rq_su3 s'.2 = ((List.range (j + 1)).flatMap (fun h => if u.testBit h = false ∧ rq_uF ρ (S 0).toNat D i h = true then rq_lv (rq_uT D (-1)) (rq_uF ρ (S 0).toNat D) (ρ.1 0 1).toNat k (i + 1) (rq_at (m 290) i (h : Int)) (u ||| 2 ^ h) else [])).foldl (rq_sp ρ (S 0).toNat a (ρ.1 0 1).toNat) (rq_su3 m) ∧ (∀ j, j < i ∨ (ρ.1 0 0).toNat ≤ j → s'.2 290 j = m 290 j) ∧ rq_fr rq_w96 m s'.2) ∧ (∀ e, t = .inr e → rq_su3 e = ((List.range (ρ.1 0 1).toNat).flatMap (fun h => if u.testBit h = false ∧ rq_uF ρ (S 0).toNat D i h = true then rq_lv (rq_uT D (-1)) (rq_uF ρ (S 0).toNat D) (ρ.1 0 1).toNat k (i + 1) (rq_at (m 290) i (h : Int)) (u ||| 2 ^ h) else [])).foldl (rq_sp ρ (S 0).toNat a (ρ.1 0 1).toNat) (rq_su3 m) ∧ (∀ j, j < i ∨ (ρ.1 0 0).toNat ≤ j → e 290 j = m 290 j) ∧ rq_fr rq_w96 m e)) := by
          intro m2 f2 q
          unfold j_X12_tiltsFrom_253_176
          rw [rq_n1 (by omega)]
          have r3 : rq_su3 m2 = rq_su3 mm := by
            show (m2 248 65, m2 296, m2 297) = (mm 248 65, mm 296, mm 297)
            rw [f2 248 65 rfl, show m2 296 = mm 296 from funext fun j => f2 296 j rfl, show m2 297 = mm 297 from funext fun j => f2 297 j rfl]
          refine rq_some.mpr (rq_inl ⟨rfl, ?_, fun x hx => by show m2 290 x = _; rw [f2 290 x rfl]; exact e3 x hx, hf.trans (f2.mono (fun _ _ => rq_w96_F))⟩)
          show rq_su3 m2 = _
          rw [r3, e2, List.range_succ, List.flatMap_append, List.flatMap_singleton, if_neg q, List.append_nil]
        unfold b_X12_tiltsFrom_176
        dsimp only
        rw [q_gfr, Option.bind_some, q_rn1 hDm 1 rfl, Option.bind_some, if_neg (by omega), rq_tb u (by omega) j (by omega)]
        by_cases z1 : u.testBit j = true
        · rw [if_pos z1, if_pos rfl]
          exact stay mm rq_fr.rfl (fun q => by rw [z1] at q; cases q.1)
        rw [if_neg z1, if_neg (by decide), q_gfr, Option.bind_some, q_rs0 hDm.1 hSm 0 rfl, Option.bind_some]
        have hfit := q_fitsIn hDm (w := i) (k := j) (t := (S 0).toNat) (by omega) (by omega) (by omega)
        rw [← s0] at hfit
        refine rq_call hfit ?_
        rintro ⟨v, m2⟩ ⟨e, f2⟩
        dsimp only at e f2 ⊢
        subst e
        have hD2 := rq_D_wF hDm f2
        have hS2 := rq_sr_wF hSm f2
        by_cases z2 : rq_fi ρ i j (S 0).toNat = 0
        · rw [if_pos z2]
          refine stay m2 f2 (fun q => ?_)
          have t1 := tf.1.mpr (by omega)
          have t2 := q.2
          unfold rq_uF at t2
          rw [t1] at t2
          have : (-1 : Int) = D i := by simpa using t2
          omega
        have fi : rq_fi ρ i j (S 0).toNat = 1 := (rq_fi01 ρ i j _).resolve_left z2
        have tt := tf.2 fi
        rw [if_neg z2, q_gfr, Option.bind_some, q_rs0 hD2.1 hS2 0 rfl, Option.bind_some]
        have htil := q_tiltIn hD2 (w := i) (k := j) (t := (S 0).toNat) (by omega) (by omega) (by omega)
        rw [← s0] at htil
        refine rq_call htil ?_
        rintro ⟨v, m3⟩ ⟨e, f3⟩
        dsimp only at e f3 ⊢
        subst e
        have f23 := f2.trans f3
        have hD3 := rq_D_wF hDm f23
        have f3' : rq_fr rq_w96 m m3 := hf.trans (f23.mono (fun _ _ => rq_w96_F))
        rw [q_gfr, Option.bind_some, q_a8 (k := 284) _ 30 (pt_248_49 hD3.1) kd_284 ln_284 (by omega), Option.bind_some, f3' 284 i rfl, hd i (by omega), ← tt]
        by_cases z3 : rq_tt ρ i j (S 0).toNat = D i
        · have hq : u.testBit j = false ∧ rq_uF ρ (S 0).toNat D i j = true := ⟨by simpa using z1, by unfold rq_uF; simp [z3]⟩
          have os : u ||| 2 ^ j < 64 := Nat.or_lt_two_pow (n := 6) hu (by have : 2 ^ j < 2 ^ 6 := Nat.pow_lt_pow_right (by decide) (by omega); omega)
          rw [if_pos z3, q_gfr, Option.bind_some, q_s8 (k := 290) _ 6 (pt_248_56 hD3.1) kd_290 ln_290 (by omega), Option.bind_some, rq_n1 (by omega), rq_sb u (by omega) j (by omega)]
          have f4 : rq_fr rq_w96 m (rt_up m3 290 i (j : Int)) := f3'.up rfl
          refine rq_call (ih f (i + 1) (u ||| 2 ^ j) _ (by omega) (by omega) os (rq_D_w96 hD f4) (rq_sr_w96 hS f4) (fun w hw => by rw [f4 284 w rfl]; exact hd w hw) (by rw [f4 248 67 rfl]; exact h67)) ?_
          rintro m5 ⟨g1, g2, g3⟩
          unfold j_X12_tiltsFrom_253_176
          rw [rq_n1 (by omega)]
          have r3 : rq_su3 (rt_up m3 290 i (j : Int)) = rq_su3 mm := by
            show (m3 248 65, m3 296, m3 297) = (mm 248 65, mm 296, mm 297)
            rw [f23 248 65 rfl, show m3 296 = mm 296 from funext fun j => f23 296 j rfl, show m3 297 = mm 297 from funext fun j => f23 297 j rfl]
          have e290 : ∀ x, rt_up m3 290 i (j : Int) 290 x = if x = i then (j : Int) else mm 290 x := fun x => by
            rw [q_up]
            by_cases y : x = i
            · rw [if_pos ⟨rfl, y⟩, if_pos y]
            · rw [if_neg (fun q => y q.2), if_neg y, f23 290 x rfl]
          have lc := rq_lv_cong (T := rq_uT D (-1)) (F := rq_uF ρ (S 0).toNat D) (H := (ρ.1 0 1).toNat) k (i + 1) (rt_up m3 290 i (j : Int) 290) (rq_at (m 290) i (j : Int)) (u ||| 2 ^ j) (fun x hx => by
            rw [e290]
            unfold rq_at
            by_cases y : x = i
            · rw [if_pos y, if_pos y]
            · rw [if_neg y, if_neg y]; exact e3 x (by omega))
          refine rq_some.mpr (rq_inl ⟨rfl, ?_, fun x hx => ?_, f4.trans g3⟩)
          · show rq_su3 m5 = _
            rw [g1, r3, e2, lc, List.range_succ, List.flatMap_append, List.flatMap_singleton, if_pos hq, List.foldl_append]
          · show m5 290 x = _
            rw [g2 x (by omega), e290, if_neg (by omega)]
            exact e3 x hx
        · rw [if_neg z3]
          exact stay m3 f23 (fun q => z3 (by have := q.2; unfold rq_uF at this; simpa using this))
      · rintro ⟨x, mm⟩ ⟨e1, e2, e3, hf⟩
        dsimp only at e1 e2 e3 hf
        have hDm := rq_D_w96 hD hf
        unfold b_X12_tiltsFrom_176
        dsimp only
        rw [q_gfr, Option.bind_some, q_rn1 hDm 1 rfl, Option.bind_some, if_pos (by omega)]
        exact rq_some.mpr (rq_inre ⟨e2, e3, hf⟩)
      · refine ⟨rfl, rfl, fun x hx => ?_, f1⟩
        show rt_up m 290 i (-1) 290 x = _
        rw [q_up, if_neg (by omega)]
    · have hT : ¬ rq_uT D (-1) i = true := by unfold rq_uT; simp; omega
      rw [if_neg z, if_neg hT, rq_n1 (by omega)]
      refine rq_call (ih f (i + 1) u _ (by omega) (by omega) hu hD1 (rq_sr_w96 hS f1) (fun w hw => hd w hw) (by rw [f1 248 67 rfl]; exact h67)) ?_
      rintro m5 ⟨g1, g2, g3⟩
      have e290 : ∀ x, rt_up m 290 i (-1) 290 x = if x = i then -1 else m 290 x := fun x => by
        rw [q_up]
        by_cases y : x = i
        · rw [if_pos ⟨rfl, y⟩, if_pos y]
        · rw [if_neg (fun q => y q.2), if_neg y]
      have lc := rq_lv_cong (T := rq_uT D (-1)) (F := rq_uF ρ (S 0).toNat D) (H := (ρ.1 0 1).toNat) k (i + 1) (rt_up m 290 i (-1) 290) (rq_at (m 290) i (-1)) u (fun x _ => by rw [e290]; rfl)
      refine rq_some.mpr ⟨?_, fun x hx => ?_, f1.trans g3⟩
      · rw [g1, lc]; rfl
      · rw [g2 x (by omega), e290, if_neg (by omega)]
end
