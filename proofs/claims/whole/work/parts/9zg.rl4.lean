/-! Layer 3: realm, the class -/
section
variable {m m' : rt_M} {s : Nat → Int} {n b : Nat} {r c : Nat} {ρ : rq_R} {A : rq_A}
/-- all that stands when a realm is new -/
def rq_A0 : rq_A := (rq_S0, rq_Y0, rq_Y0, fun _ => -1)
theorem rq_A0_v : rq_vA ρ rq_A0 ↔ rq_vs ρ rq_S0 := ⟨fun h => h.1, fun h => ⟨h, rq_Y0_v, ⟨Int.le_refl 0, by show (0 : Int) ≤ 8; decide, fun i hi => by have : (i : Int) < 0 := hi; omega⟩, fun w _ => ⟨Int.le_refl _, by show (-1 : Int) ≤ 9; decide, fun _ => rfl⟩⟩⟩
theorem rq_S0_vs (hv : rq_va ρ) : rq_vs ρ rq_S0 := by
  have := hv.1
  refine ⟨Int.le_refl 0, by show (0 : Int) < 900000; decide, fun w hw => ?_⟩
  have e1 : rq_S0 (1 + w) = -1 := if_pos ⟨by omega, by omega⟩
  have e2 : rq_S0 (7 + w) = 0 := if_neg (by omega)
  rw [e1, e2]
  exact ⟨⟨by decide, by omega, by decide, by decide⟩, fun _ => ⟨rfl, rfl⟩⟩
theorem q_gf0c (j : Nat) : rt_gf 0 j ((48 : Nat) : Int) m = some (m 48 j) := rfl
def rq_wX0 (k j : Nat) : Bool := rq_wA 48 k j
theorem rq_wX0_st : (rq_P.all fun p => !(rq_wX0 p.1 p.2.1)) = true := by decide +kernel
theorem q_clear0 (hs : rq_st m) : rq (f_X0_clear ((48 : Nat) : Int) m) (fun m' => rq_Ac 48 rq_A0 m' ∧ rq_fr rq_wX0 m m') := by
  unfold f_X0_clear
  have b49 : (49 : Nat) ∈ rq_sbL := by decide
  have y52 : (52 : Nat) ∈ rq_yL := by decide
  have z56 : (56 : Nat) ∈ rq_zL := by decide
  have gd7 : ∀ {α : Type} (o : Option α), rt_gd 7 ((49 : Nat) : Int) o = o := fun o => rfl
  rw [q_gf0c, pt_48_0 hs, Option.bind_some, show (49 : Int) = ((49 : Nat) : Int) from rfl, gd7]
  refine rq_call (q_sclear hs b49) ?_
  rintro m1 ⟨c1, f1⟩
  have F1 : rq_fr rq_wX0 m m1 := f1.mono (fun k j q => by
    unfold rq_wX0 rq_wA at q
    simp only [Bool.or_eq_false_iff] at q
    exact q.1.1.1)
  have s1 := rq_st_fr hs F1 rq_wX0_st
  rw [q_nye s1, Option.bind_some, q_pf10 y52, Option.bind_some]
  have F2 : rq_fr rq_wX0 m (rt_up m1 52 0 0) := F1.up rfl
  have c2 : rq_sc 49 rq_S0 (rt_up m1 52 0 0) := rq_sc_fr c1 rfl (fun _ _ => rfl) (fun _ _ => rfl)
  have e2 : rt_up m1 52 0 0 52 0 = 0 := rfl
  generalize rt_up m1 52 0 0 = m2 at F2 c2 e2 ⊢
  have s2 := rq_st_fr hs F2 rq_wX0_st
  rw [q_gf0c, pt_48_2 s2, Option.bind_some, show (56 : Int) = ((56 : Nat) : Int) from rfl, q_pf6 z56, Option.bind_some]
  have F3 : rq_fr rq_wX0 m (rt_up m2 56 0 0) := F2.up rfl
  have c3 : rq_sc 49 rq_S0 (rt_up m2 56 0 0) := rq_sc_fr c2 rfl (fun _ _ => rfl) (fun _ _ => rfl)
  have e3 : rt_up m2 56 0 0 52 0 = 0 := e2
  have g3 : rt_up m2 56 0 0 56 0 = 0 := rfl
  generalize rt_up m2 56 0 0 = m3 at F3 c3 e3 g3 ⊢
  have s3 := rq_st_fr hs F3 rq_wX0_st
  refine rq_call (q_forgets s3) ?_
  rintro m4 ⟨c4, f4⟩
  have F4 : rq_fr rq_wX0 m m4 := F3.trans (f4.mono (fun k j q => by
    unfold rq_wX0 rq_wA at q
    simp only [Bool.or_eq_false_iff, beq_eq_false_iff_ne] at q
    unfold rq_row
    simp only [Bool.and_eq_false_iff, beq_eq_false_iff_ne]
    exact Or.inl (Or.inl q.2)))
  have k4 : ∀ a j, a ≠ 60 → m4 a j = m3 a j := fun a j q => f4 a j (by
    unfold rq_row
    simp only [Bool.and_eq_false_iff, beq_eq_false_iff_ne]
    exact Or.inl (Or.inl q))
  refine rq_some.mpr ⟨⟨rq_sc_fr c3 (k4 _ _ (by decide)) (fun _ _ => k4 _ _ (by decide)) (fun _ _ => k4 _ _ (by decide)), ⟨by rw [k4 _ _ (by decide), e3]; rfl, fun i hi => by have : (i : Int) < 0 := hi; omega⟩, ⟨by rw [k4 _ _ (by decide), g3]; rfl, fun i hi => by have : (i : Int) < 0 := hi; omega⟩, fun w hw => c4 w hw⟩, F4⟩
def rq_wRa (r k j : Nat) : Bool := rq_wRk r k j || (k == 42 && j == 1)
theorem rq_wRa_st {r : Nat} (h : r = 63 ∨ r = 87) : (rq_P.all fun p => !(rq_wRa r p.1 p.2.1)) = true := by
  rcases h with rfl | rfl <;> decide +kernel
theorem rq_wRa_0 {r k j : Nat} (hr : r = 63 ∨ r = 87) (h : (k < r ∧ k ≠ 42 ∧ k ≠ 44 ∧ k ≠ 45 ∧ k ≠ 46 ∧ k ≠ 47) ∨ r + 23 < k) : rq_wRa r k j = false := by
  have hx : rq_wDx r k j = false := rq_wDx_0 (by omega) hr
  unfold rq_wRa rq_wRk rq_wTk
  rw [hx]
  simp only [Bool.or_false, Bool.false_or, Bool.or_eq_false_iff, Bool.and_eq_false_iff, beq_eq_false_iff_ne]
  omega
def rq_wRb (r k j : Nat) : Bool := rq_wRa r k j || (k == 41 && (j == 5 || j == 7 || j == 8)) || rq_wX0 k j || ((k == 148 || k == 161 || k == 174 || k == 187) && j == 4)
/-- 41 7 and 41 8 are no standing places -/
theorem rq_wRb_st {r : Nat} (h : r = 63 ∨ r = 87) : (rq_P.all fun p => !(rq_wRb r p.1 p.2.1)) = true := by
  rcases h with rfl | rfl <;> decide +kernel
theorem rq_wRb_0 {r k j : Nat} (hr : r = 63 ∨ r = 87) (h : (k = 41 ∧ j ≠ 5 ∧ j ≠ 7 ∧ j ≠ 8) ∨ (60 < k ∧ k < r) ∨ (r + 23 < k ∧ k ≠ 148 ∧ k ≠ 161 ∧ k ≠ 174 ∧ k ≠ 187) ∨ k = 43) : rq_wRb r k j = false := by
  have hx : rq_wRa r k j = false := rq_wRa_0 hr (by rcases hr with e | e <;> omega)
  unfold rq_wRb rq_wX0 rq_wA rq_wB rq_wY
  rw [hx]
  simp only [Bool.or_false, Bool.false_or, Bool.or_eq_false_iff, Bool.and_eq_false_iff, beq_eq_false_iff_ne]
  clear hx
  rcases hr with e | e <;> omega
def rq_r11 (r : Nat) (s : Nat → Int) (n : Nat) (m : rt_M) (p : Int × rt_M) : Prop := p.1 = (rq_rpA s n).1 ∧ p.2 42 1 = 0 ∧ (p.1 ≠ 0 → rq_fr (rq_wRa (150 - r)) m p.2) ∧ (p.1 = 0 → rq_C (150 - r) (rq_rpA s n).2.1 p.2 ∧ p.2 41 7 = 150 - (r : Int) ∧ p.2 41 8 = (r : Int) ∧ p.2 41 5 = 0 ∧ rq_Ac 48 rq_A0 p.2 ∧ (∀ k, k < 4 → p.2 (148 + 13 * k) 4 = 0) ∧ rq_fr (rq_wRb (150 - r)) m p.2)
theorem q_realm11 (h : rq_J r ρ A c m) (ht : rq_tx s n m) (hok : rq_okT s n) : rq (f_X11_realm 41 m) (rq_r11 r s n m) := by
  have hs := h.1.1
  have hr := h.1.2.1
  have hr' : 150 - r = 63 ∨ 150 - r = 87 := by rcases hr with e | e <;> omega
  have e8 : m 41 8 = ((150 - r : Nat) : Int) := by rw [h.2.2.1.2]; rcases hr with e | e <;> omega
  unfold f_X11_realm
  rw [q_rdr hs, Option.bind_some, q_g11, e8, Option.bind_some, q_gd3]
  refine rq_call (q_readRealm hs hr' ht hok) ?_
  rintro ⟨v, m1⟩ ⟨e1, y1, f1⟩
  dsimp only at e1 y1 f1 ⊢
  have s1 := rq_st_fr hs f1 (rq_wRk_st hr')
  have f1' : rq_fr (rq_wRa (150 - r)) m m1 := f1.mono (fun k j q => by unfold rq_wRa at q; simp only [Bool.or_eq_false_iff] at q; exact q.1)
  rw [q_tpe s1, Option.bind_some, q_gd8]
  unfold f_X8_clear
  rw [q_p8, Option.bind_some, Option.bind_some]
  have f2 : rq_fr (rq_wRa (150 - r)) m (rt_up m1 42 1 0) := f1'.up (by unfold rq_wRa; simp)
  have e42 : rt_up m1 42 1 0 42 1 = 0 := rq_upE _ _ _ _
  have y2 : v = 0 → rq_CD (150 - r) (rq_rpA s n).2 (rt_up m1 42 1 0) := fun q => by
    have := y1 q
    have kk : ∀ a j, 63 ≤ a → rt_up m1 42 1 0 a j = m1 a j := fun a j q => by rw [q_up, if_neg (by omega)]
    have hC : rq_C (150 - r) (rq_rpA s n).2.1 (rt_up m1 42 1 0) := ⟨rq_st_fr hs f2 (rq_wRa_st hr'), hr', this.1.2.2.1, rq_rc_fr this.1.2.2.2 this.1.2.2.1 (fun a j h1 h2 h3 h4 => kk a j (by omega))⟩
    exact rq_CD_k this (kk _ _ (by omega)) (fun j _ => ⟨kk _ _ (by omega), kk _ _ (by omega)⟩) hC
  clear y1 f1 f1' s1
  generalize rt_up m1 42 1 0 = m2 at f2 e42 y2 ⊢
  have s2 := rq_st_fr hs f2 (rq_wRa_st hr')
  by_cases z : v = 0
  rotate_left
  · rw [if_neg z]
    exact rq_some.mpr ⟨e1, e42, fun _ => f2, fun q => absurd q z⟩
  have k41 : ∀ j, m2 41 j = m 41 j := fun j => f2 41 j (rq_wRa_0 hr' (by rcases hr' with e | e <;> omega))
  have hC2 := (y2 z).1
  rw [if_pos z, q_g11, Option.bind_some, q_g11, Option.bind_some, k41, k41, h.2.2.1.1, e8, q_p11, Option.bind_some, q_p11, Option.bind_some]
  have f3 : rq_fr (rq_wRb (150 - r)) m (rt_up (rt_up m2 41 7 ((150 - r : Nat) : Int)) 41 8 (r : Int)) := ((f2.mono (fun k j q => by unfold rq_wRb at q; simp only [Bool.or_eq_false_iff] at q; exact q.1.1.1)).up (by unfold rq_wRb; simp)).up (by unfold rq_wRb; simp)
  have a7 : rt_up (rt_up m2 41 7 ((150 - r : Nat) : Int)) 41 8 (r : Int) 41 7 = ((150 - r : Nat) : Int) := by rw [q_up, if_neg (by omega), rq_upE]
  have a8 : rt_up (rt_up m2 41 7 ((150 - r : Nat) : Int)) 41 8 (r : Int) 41 8 = (r : Int) := rq_upE _ _ _ _
  have k3 : ∀ a j, a ≠ 41 → rt_up (rt_up m2 41 7 ((150 - r : Nat) : Int)) 41 8 (r : Int) a j = m2 a j := fun a j q => by rw [q_up, if_neg (fun w => q w.1), q_up, if_neg (fun w => q w.1)]
  generalize rt_up (rt_up m2 41 7 ((150 - r : Nat) : Int)) 41 8 (r : Int) = m3 at f3 a7 a8 k3 ⊢
  have s3 := rq_st_fr hs f3 (rq_wRb_st hr')
  rw [q_now s3, Option.bind_some, show ∀ {α : Type} (o : Option α), rt_gd 0 ((48 : Nat) : Int) o = o from fun o => rfl]
  refine rq_call (q_clear0 s3) ?_
  rintro m4 ⟨c4, g4⟩
  have f4 : rq_fr (rq_wRb (150 - r)) m m4 := f3.trans (g4.mono (fun k j q => by unfold rq_wRb at q; simp only [Bool.or_eq_false_iff] at q; exact q.1.2))
  have k4 : ∀ a j, a < 49 ∨ 60 < a → m4 a j = m3 a j := fun a j q => g4 a j (by
    unfold rq_wX0 rq_wA rq_wB rq_wY
    simp only [Bool.or_eq_false_iff, Bool.and_eq_false_iff, beq_eq_false_iff_ne]
    omega)
  rw [q_p11, Option.bind_some]
  have f5 : rq_fr (rq_wRb (150 - r)) m (rt_up m4 41 5 0) := f4.up (by unfold rq_wRb; simp)
  have k5 : ∀ a j, ¬ (a = 41 ∧ j = 5) → rt_up m4 41 5 0 a j = m4 a j := fun a j q => by rw [q_up, if_neg q]
  have a5 : rt_up m4 41 5 0 41 5 = 0 := rfl
  generalize rt_up m4 41 5 0 = m5 at f5 k5 a5 ⊢
  refine rq_call (rq_up (Q := fun x => (∀ k, k < 4 → x (148 + 13 * k) 4 = 0) ∧ rq_fr (fun a j => (a == 148 || a == 161 || a == 174 || a == 187) && j == 4) m5 x) (fun i x => x.1 = (i : Int) ∧ (∀ k, k < i → x.2 (148 + 13 * k) 4 = 0) ∧ rq_fr (fun a j => (a == 148 || a == 161 || a == 174 || a == 187) && j == 4) m5 x.2) 4 (by decide) ?_ ?_ ?_) ?_
  · rintro i ⟨x, mm⟩ hi ⟨e1, hj, hf⟩
    dsimp only at e1 hj hf
    subst e1
    have F5 : rq_fr (rq_wRb (150 - r)) m mm := f5.trans (hf.mono (fun k j q => by unfold rq_wRb at q; simp only [Bool.or_eq_false_iff] at q; exact q.2))
    have s5 := rq_st_fr hs F5 (rq_wRb_st hr')
    have kf := q_fk _ (q_mk4 i hi).1
    unfold b_X11_realm_57
    dsimp only
    rw [if_neg (by omega), q_g11, Option.bind_some, q_g11m s5 hi, Option.bind_some, show ∀ v, rt_pf 0 4 ((148 + 13 * i : Nat) : Int) v mm = some (rt_up mm (148 + 13 * i) 4 v) from fun v => if_pos kf.1.1, Option.bind_some, rq_n1 (by omega)]
    refine rq_some.mpr (rq_inl ⟨rfl, fun k hk => ?_, hf.up ?_⟩)
    · show rt_up mm (148 + 13 * i) 4 0 (148 + 13 * k) 4 = 0
      rw [q_up]
      by_cases y : k = i
      · rw [if_pos ⟨by omega, rfl⟩]
      · rw [if_neg (by omega)]; exact hj k (by omega)
    · have : i = 0 ∨ i = 1 ∨ i = 2 ∨ i = 3 := by omega
      rcases this with q | q | q | q <;> subst q <;> rfl
  · rintro ⟨x, mm⟩ ⟨e1, hj, hf⟩
    dsimp only at e1 hj hf
    subst e1
    unfold b_X11_realm_57
    dsimp only
    rw [if_pos (by decide)]
    exact rq_some.mpr (rq_inre ⟨hj, hf⟩)
  · exact ⟨rfl, fun k hk => absurd hk (Nat.not_lt_zero k), rq_fr.rfl⟩
  rintro m6 ⟨c6, g6⟩
  have f6 : rq_fr (rq_wRb (150 - r)) m m6 := f5.trans (g6.mono (fun k j q => by unfold rq_wRb at q; simp only [Bool.or_eq_false_iff] at q; exact q.2))
  have k6 : ∀ a j, a < 148 → m6 a j = m5 a j := fun a j q => g6 a j (by
    simp only [Bool.or_eq_false_iff, Bool.and_eq_false_iff, beq_eq_false_iff_ne]
    omega)
  have s6 := rq_st_fr hs f6 (rq_wRb_st hr')
  have k62 : ∀ a j, 61 ≤ a → a < 148 → m6 a j = m2 a j := fun a j h1 h2 => by
    rw [k6 a j h2, k5 a j (by omega), k4 a j (by omega), k3 a j (by omega)]
  refine rq_some.mpr ⟨z.symm.trans e1, ?_, fun q => absurd rfl q, fun _ => ⟨⟨s6, hr', hC2.2.2.1, rq_rc_fr hC2.2.2.2 hC2.2.2.1 (fun a j h1 h2 h3 h4 => k62 a j (by rcases hr' with e | e <;> omega) (by rcases hr' with e | e <;> omega))⟩, ?_, ?_, ?_, ?_, c6, f6⟩⟩
  · show m6 42 1 = 0
    rw [k6 42 1 (by omega), k5 42 1 (by omega), k4 42 1 (by omega), k3 42 1 (by omega), e42]
  · show m6 41 7 = _
    rw [k6 41 7 (by omega), k5 41 7 (by omega), k4 41 7 (by omega), a7]
    rcases hr with e | e <;> omega
  · show m6 41 8 = _
    rw [k6 41 8 (by omega), k5 41 8 (by omega), k4 41 8 (by omega), a8]
  · show m6 41 5 = 0
    rw [k6 41 5 (by omega), a5]
  · refine rq_Ac_fr c4 (fun a j h1 h2 => ?_)
    show m6 a j = m4 a j
    rw [k6 a j (by omega), k5 a j (by omega)]
end
