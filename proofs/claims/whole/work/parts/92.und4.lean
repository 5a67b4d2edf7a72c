/-! Layer 3: under, the class -/
section
variable {r : Nat} {ρ : rq_R} {A : rq_A} {c : Nat} {m : rt_M} {t : Nat} {D : Nat → Int}
/-- all ways; those that leave h bare, but for x -/
def rq_uN (ρ : rq_R) (t : Nat) (D : Nat → Int) : Int := rq_cf (rq_uT D (-1)) (rq_uF ρ t D) (ρ.1 0 1).toNat (ρ.1 0 0).toNat 0 0
def rq_uB (ρ : rq_R) (t : Nat) (D : Nat → Int) (x : Int) (h : Nat) : Int := rq_cf (rq_uT D x) (rq_uF ρ t D) (ρ.1 0 1).toNat (ρ.1 0 0).toNat 0 (2 ^ h)
def rq_vun (ρ : rq_R) (t : Nat) (D : Nat → Int) (a : Int) : Int := if a = -1 then rq_uN ρ t D else if 0 ≤ a ∧ a < ρ.1 0 0 then (if D a.toNat = -1 ∨ rq_uN ρ t D = 0 then -1 else rq_fst (fun h => rq_uF ρ t D a.toNat h && (rq_uB ρ t D a h == rq_uN ρ t D)) (ρ.1 0 1).toNat) else -2
theorem rq_an0 : ∀ s, s < 64 → rt_iand ((s : Nat) : Int) 0 = ((s &&& 0 : Nat) : Int) := by decide +kernel
theorem rq_w26_T {k j : Nat} (h : rq_WQ k j = false) : rq_w26 k j = false := rq_WQ_26 h
theorem q_without0 (hs : rq_st m) (hv : rq_va ρ) (hW : ∀ s, s < 64 → m 126 s = rq_uW ρ t D (-1) (ρ.1 0 0).toNat s) : f_X1_waysWithout ((118 : Nat) : Int) 0 m = some (rq_uN ρ t D) := by
  have hb := hv.1
  rw [q_waysWithout hs hv (B := 0) hW rq_an0, rq_tw_cl (by omega) _ _ (by decide), ← (rq_cf_cl _ _ _).1]
  rfl
theorem q_withoutH (hs : rq_st m) (hv : rq_va ρ) {x : Int} (hW : ∀ s, s < 64 → m 126 s = rq_uW ρ t D x (ρ.1 0 0).toNat s) {h : Nat} (hh : h < 6) : f_X1_waysWithout ((118 : Nat) : Int) (rt_ishl 1 (h : Int)) m = some (rq_uB ρ t D x h) := by
  have hb := hv.1
  have h64 : 2 ^ h < 64 := by have : 2 ^ h < 2 ^ 6 := Nat.pow_lt_pow_right (by decide) hh; omega
  rw [q_waysWithout hs hv (B := 2 ^ h) hW (fun s hs6 => rq_an s hs6 h hh), rq_tw_cl (by omega) _ _ h64, ← (rq_cf_cl _ _ _).1]
  rfl
theorem q_tiltOf (hs : rq_st m) (hv : rq_va ρ) (hm : rq_ml ρ t m) {w h : Nat} (hw : (w : Int) < ρ.1 0 0) (hh : (h : Int) < ρ.1 0 1) : f_X1_tiltOf ((118 : Nat) : Int) (w : Int) (h : Int) m = some (rq_tt ρ w h t) := by
  have hb := hv.1
  have tk := q_tk w (by omega)
  unfold f_X1_tiltOf j_X1_tiltOf_36
  rw [if_neg (by omega), q_g1, Option.bind_some, hm.1, if_neg (by omega), if_neg (by omega), q_g1, Option.bind_some, hm.2.1, if_neg (by omega), q_g1, Option.bind_some, pt_118_2 hs, show (119 : Int) = ((119 : Nat) : Int) from rfl, q_al kd_119 ln_119 (show w < 6 by omega), Option.bind_some, hs _ tk.1, q_al tk.2.1 tk.2.2 (show h < 6 by omega), Option.bind_some, hm.2.2 w h (by omega) (by omega)]
theorem q_und19 (h : rq_J r ρ A c m) {a : Int} (ha : a = -1 ∨ (0 ≤ a ∧ a < ρ.1 0 0)) : rq (j_X11_under_19 41 a m) (fun p => p.1 = rq_vun ρ (A.1 0).toNat A.2.2.2 a ∧ rq_fr rq_WQ m p.2) := by
  have s0 := q_sea0 h
  have hv := h.1.2.2.1
  have hb := hv.1
  have hvS := h.2.2.2.2.2.1.1
  unfold j_X11_under_19 j_X11_under_88
  rw [q_fit h.1.1, Option.bind_some, q_told h, Option.bind_some, q_now h.1.1, Option.bind_some, q_nst h.1.1, Option.bind_some, q_sea h, Option.bind_some, q_gd1]
  have hm := q_measure h (t := (A.1 0).toNat) (by have := hvS.2.1; omega)
  rw [← s0] at hm
  refine rq_call hm ?_
  rintro m2 ⟨ml, f2⟩
  have f2' : rq_fr rq_WQ m m2 := f2.mono (fun _ _ => rq_WQ_Ti)
  have h2 := rq_J_fr h f2' (Nat.le_refl c)
  rw [q_fit h2.1.1, Option.bind_some, q_now h2.1.1, Option.bind_some, q_nti h2.1.1, Option.bind_some, q_gd1]
  refine rq_call (q_layWays h2 ml (-1)) ?_
  rintro m3 ⟨w3, f3⟩
  have f3' : rq_fr rq_WQ m2 m3 := f3.mono (fun _ _ => rq_WQ_26)
  have h3 := rq_J_fr h2 f3' (Nat.le_refl c)
  have ml3 := rq_ml_26 ml hv f3
  rw [q_fit h3.1.1, Option.bind_some, q_gd1, q_without0 h3.1.1 hv w3, Option.bind_some]
  unfold rq_vun
  by_cases z : a = -1
  · rw [if_pos z, if_pos z]
    exact rq_some.mpr ⟨rfl, f2'.trans f3'⟩
  · have ha := ha.resolve_left z
    obtain ⟨w, rfl⟩ := Int.eq_ofNat_of_zero_le ha.1
    have d3 := h3.2.2.2.1.2.2.2 w (by omega)
    rw [if_neg z, if_neg z, if_pos ha, q_now h3.1.1, Option.bind_some, q_nti h3.1.1, Option.bind_some, q_al kd_60 ln_60 (show w < 6 by omega), Option.bind_some, d3, Int.toNat_natCast]
    by_cases y1 : A.2.2.2 w = -1
    · rw [if_pos y1, if_pos (Or.inl y1)]
      exact rq_some.mpr ⟨rfl, f2'.trans f3'⟩
    · rw [if_neg y1]
      by_cases y2 : rq_uN ρ (A.1 0).toNat A.2.2.2 = 0
      · rw [if_pos y2, if_pos (Or.inr y2)]
        exact rq_some.mpr ⟨rfl, f2'.trans f3'⟩
      · rw [if_neg y2, if_neg (fun q => q.elim y1 y2), Option.bind_some, Option.bind_some, q_nti h3.1.1, Option.bind_some, q_gd1]
        refine rq_call (q_layWays h3 ml3 (w : Int)) ?_
        rintro m4 ⟨w4, f4⟩
        have f4' : rq_fr rq_WQ m3 m4 := f4.mono (fun _ _ => rq_WQ_26)
        have h4 := rq_J_fr h3 f4' (Nat.le_refl c)
        have ml4 := rq_ml_26 ml3 hv f4
        have d4 := h4.2.2.2.1.2.2.2 w (by omega)
        have ff := (f2'.trans f3').trans f4'
        refine rq_call (rq_up (Q := fun e => match e with
            | .inl x => rq_fst (fun h => rq_uF ρ (A.1 0).toNat A.2.2.2 w h && (rq_uB ρ (A.1 0).toNat A.2.2.2 (w : Int) h == rq_uN ρ (A.1 0).toNat A.2.2.2)) (ρ.1 0 1).toNat = -1 ∧ x = m4
            | .inr q => rq_fst (fun h => rq_uF ρ (A.1 0).toNat A.2.2.2 w h && (rq_uB ρ (A.1 0).toNat A.2.2.2 (w : Int) h == rq_uN ρ (A.1 0).toNat A.2.2.2)) (ρ.1 0 1).toNat = q.1 ∧ q.2 = m4) (fun i s => s.1 = (i : Int) ∧ s.2 = m4 ∧ ∀ j, j < i → (rq_uF ρ (A.1 0).toNat A.2.2.2 w j && (rq_uB ρ (A.1 0).toNat A.2.2.2 (w : Int) j == rq_uN ρ (A.1 0).toNat A.2.2.2)) = false) (ρ.1 0 1).toNat (by omega) ?_ ?_ ⟨rfl, rfl, fun j hj => absurd hj (Nat.not_lt_zero _)⟩) ?_
        · rintro i ⟨x, mm⟩ hi ⟨e1, e3, hj⟩
          dsimp only at e1 e3
          subst e1 e3
          have stay : (rq_uF ρ (A.1 0).toNat A.2.2.2 w i && (rq_uB ρ (A.1 0).toNat A.2.2.2 (w : Int) i == rq_uN ρ (A.1 0).toNat A.2.2.2)) = false → rq (j_X11_under_155_107 41 (w : Int) (rq_uN ρ (A.1 0).toNat A.2.2.2) (i : Int) mm) (fun t => (∀ s', t = .inl s' → s'.1 = ((i + 1 : Nat) : Int) ∧ s'.2 = mm ∧ ∀ j, j < i + 1 → (rq_uF ρ (A.1 0).toNat A.2.2.2 w j && (rq_uB ρ (A.1 0).toNat A.2.2.2 (w : Int) j == rq_uN ρ (A.1 0).toNat A.2.2.2)) = false) ∧ (∀ e, t = .inr e → match e with
            | .inl x => rq_fst (fun h => rq_uF ρ (A.1 0).toNat A.2.2.2 w h && (rq_uB ρ (A.1 0).toNat A.2.2.2 (w : Int) h == rq_uN ρ (A.1 0).toNat A.2.2.2)) (ρ.1 0 1).toNat = -1 ∧ x = mm
            | .inr q => rq_fst (fun h => rq_uF ρ (A.1 0).toNat A.2.2.2 w h && (rq_uB ρ (A.1 0).toNat A.2.2.2 (w : Int) h == rq_uN ρ (A.1 0).toNat A.2.2.2)) (ρ.1 0 1).toNat = q.1 ∧ q.2 = mm)) := by
            intro q
            unfold j_X11_under_155_107
            rw [rq_n1 (by omega)]
            refine rq_some.mpr (rq_inl ⟨rfl, rfl, fun j hj2 => ?_⟩)
            by_cases zz : j = i
            · rw [zz]; exact q
            · exact hj j (by omega)
          unfold b_X11_under_107
          dsimp only
          rw [q_told h4, Option.bind_some, q_gf4 h4.1, Option.bind_some, h4.1.2.2.2.1.2.1, if_neg (by omega), q_fit h4.1.1, Option.bind_some, q_gd1, q_tiltOf h4.1.1 hv ml4 ha.2 (show (i : Int) < ρ.1 0 1 by omega), Option.bind_some, q_now h4.1.1, Option.bind_some, q_nti h4.1.1, Option.bind_some, q_al kd_60 ln_60 (show w < 6 by omega), Option.bind_some, d4]
          by_cases z1 : rq_tt ρ w i (A.1 0).toNat = A.2.2.2 w
          · have f1 : rq_uF ρ (A.1 0).toNat A.2.2.2 w i = true := by unfold rq_uF; simp [z1]
            rw [if_pos z1, Option.bind_some, q_gd1, q_withoutH h4.1.1 hv w4 (h := i) (by omega), Option.bind_some]
            by_cases z2 : rq_uB ρ (A.1 0).toNat A.2.2.2 (w : Int) i = rq_uN ρ (A.1 0).toNat A.2.2.2
            · rw [if_pos z2]
              exact rq_map.mpr (rq_some.mpr (rq_inr ⟨rq_fst_some hi (by simp [f1, z2]) hj, rfl⟩))
            · rw [if_neg z2]
              exact stay (by simp [z2])
          · rw [if_neg z1]
            exact stay (by unfold rq_uF; simp [z1])
        · rintro ⟨x, mm⟩ ⟨e1, e3, hj⟩
          dsimp only at e1 e3
          subst e1 e3
          unfold b_X11_under_107
          dsimp only
          rw [q_told h4, Option.bind_some, q_gf4 h4.1, Option.bind_some, h4.1.2.2.2.1.2.1, if_pos (by omega)]
          exact rq_some.mpr (rq_inre ⟨rq_fst_none hj, rfl⟩)
        · rintro (e | t) ⟨q1, q2⟩
          · subst q2
            exact rq_some.mpr ⟨q1.symm, ff⟩
          · refine rq_some.mpr ⟨q1.symm, ?_⟩
            rw [q2]; exact ff
theorem q_under11 (h : rq_J r ρ A c m) (a : Int) : rq (f_X11_under 41 a m) (fun p => p.1 = rq_vun ρ (A.1 0).toNat A.2.2.2 a ∧ rq_fr rq_WQ m p.2) := by
  unfold f_X11_under
  by_cases z : a = -1
  · rw [if_pos z]; exact q_und19 h (Or.inl z)
  · rw [if_neg z, q_told h, Option.bind_some, q_gd4 h.1]
    by_cases ha : 0 ≤ a ∧ a < ρ.1 0 0
    · rw [q_isWigT h.1 ha.1 ha.2, Option.bind_some, if_neg (by decide)]
      exact q_und19 h (Or.inr ha)
    · rw [q_isWigF h.1 ha, Option.bind_some, if_pos rfl]
      unfold rq_vun
      rw [if_neg z, if_neg ha]
      exact rq_some.mpr ⟨rfl, rq_fr.rfl⟩
end
