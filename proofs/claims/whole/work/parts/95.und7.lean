/-! Layer 3: under, the reference's search: a way -/
section
variable {ρ : rq_R} {m : rt_M} {S : rq_S} {D : Nat → Int} {a : Int}
def rq_w96 (k j : Nat) : Bool := rq_wF k j || (k == 248 && j == 65) || k == 290 || k == 296 || k == 297
theorem rq_w96_st : (rq_P.all fun p => !(rq_w96 p.1 p.2.1)) = true := by decide +kernel
theorem rq_w96_F {k j : Nat} (h : rq_w96 k j = false) : rq_wF k j = false := by
  unfold rq_w96 at h
  simp only [Bool.or_eq_false_iff] at h
  exact h.1.1.1.1
theorem rq_D_w96 {m' : rt_M} (h : rq_D ρ m) (k : rq_fr rq_w96 m m') : rq_D ρ m' := by
  obtain ⟨hs, hv, hc⟩ := h
  refine ⟨rq_st_fr hs k rq_w96_st, hv, rq_rr_fr hc (fun a j h1 h2 => k a j ?_)⟩
  unfold rq_w96 rq_wF
  simp only [Bool.or_eq_false_iff, Bool.and_eq_false_iff, beq_eq_false_iff_ne, decide_eq_false_iff_not]
  omega
theorem rq_sr_w96 {m' : rt_M} (h : rq_sr S m) (k : rq_fr rq_w96 m m') : rq_sr S m' := fun i hi => by rw [k 285 i rfl]; exact h i hi
abbrev rq_su3 (m : rt_M) : rq_Su := (m 248 65, m 296, m 297)
/-- who is under whom by all ways -/
theorem q_alw (hs : rq_st m) (f : Int → Int → Int → rt_M → Option rt_M) (u : Int) : rq (rt_it (b_X12_tiltsFrom_12 f 248 u) 4000 (0, m)) (fun m1 => (m1 296 = fun j => if j < 6 then (if m 248 65 = 0 ∨ m 296 j = m 290 j then m 290 j else 6) else m 296 j) ∧ rq_fr (fun k _ => k == 296) m m1) := by
  refine rq_up (fun i s => s.1 = (i : Int) ∧ (∀ j, s.2 296 j = if j < i then (if m 248 65 = 0 ∨ m 296 j = m 290 j then m 290 j else 6) else m 296 j) ∧ rq_fr (fun k _ => k == 296) m s.2) 6 (by decide) ?_ ?_ (by exact ⟨rfl, fun j => by rw [if_neg (Nat.not_lt_zero j)], rq_fr.rfl⟩)
  · rintro i ⟨x, mm⟩ hi ⟨e1, e2, hf⟩
    dsimp only at e1 e2 hf
    subst e1
    have hs1 : rq_st mm := rq_st_fr hs hf (by decide +kernel)
    have ei := e2 i
    rw [if_neg (Nat.lt_irrefl i)] at ei
    have key : ∀ v, v = (if m 248 65 = 0 ∨ m 296 i = m 290 i then m 290 i else 6) → rq (j_X12_tiltsFrom_56_12 f 248 u (i : Int) 296 (i : Int) v mm) (fun t => (∀ s', t = .inl s' → s'.1 = ((i + 1 : Nat) : Int) ∧ (∀ j, s'.2 296 j = if j < i + 1 then (if m 248 65 = 0 ∨ m 296 j = m 290 j then m 290 j else 6) else m 296 j) ∧ rq_fr (fun k _ => k == 296) m s'.2) ∧ (∀ e, t = .inr e → (e 296 = fun j => if j < 6 then (if m 248 65 = 0 ∨ m 296 j = m 290 j then m 290 j else 6) else m 296 j) ∧ rq_fr (fun k _ => k == 296) m e)) := by
      intro v ev
      unfold j_X12_tiltsFrom_56_12
      rw [show (296 : Int) = ((296 : Nat) : Int) from rfl, q_sa kd_296 ln_296 (show i < 6 by omega), Option.bind_some, rq_n1 (by omega)]
      refine rq_some.mpr (rq_inl ⟨rfl, fun j => ?_, hf.up rfl⟩)
      show rt_up mm 296 i v 296 j = _
      rw [q_up]
      by_cases z : j = i
      · rw [if_pos ⟨rfl, z⟩, if_pos (by omega), ev, z]
      · rw [if_neg (fun q => z q.2), e2 j]
        by_cases y : j < i
        · rw [if_pos y, if_pos (show j < i + 1 by omega)]
        · rw [if_neg y, if_neg (show ¬ j < i + 1 by omega)]
    have key2 : (m 248 65 = 0 ∨ m 296 i = m 290 i) → rq (j_X12_tiltsFrom_45_12 f 248 u (i : Int) 296 (i : Int) mm) (fun t => (∀ s', t = .inl s' → s'.1 = ((i + 1 : Nat) : Int) ∧ (∀ j, s'.2 296 j = if j < i + 1 then (if m 248 65 = 0 ∨ m 296 j = m 290 j then m 290 j else 6) else m 296 j) ∧ rq_fr (fun k _ => k == 296) m s'.2) ∧ (∀ e, t = .inr e → (e 296 = fun j => if j < 6 then (if m 248 65 = 0 ∨ m 296 j = m 290 j then m 290 j else 6) else m 296 j) ∧ rq_fr (fun k _ => k == 296) m e)) := by
      intro q
      unfold j_X12_tiltsFrom_45_12
      rw [q_gfr, Option.bind_some, q_a8 (k := 290) _ 6 (pt_248_56 hs1) kd_290 ln_290 hi, Option.bind_some, hf 290 i rfl]
      exact key _ (by rw [if_pos q])
    unfold b_X12_tiltsFrom_12
    dsimp only
    rw [if_neg (by omega), q_gfr, Option.bind_some, q_gfr, Option.bind_some, hf 248 65 rfl, pt_248_66 hs1]
    by_cases z0 : m 248 65 = 0
    · rw [if_pos z0]
      exact key2 (Or.inl z0)
    · rw [if_neg z0, Option.bind_some, show (296 : Int) = ((296 : Nat) : Int) from rfl, q_al kd_296 ln_296 (show i < 6 by omega), Option.bind_some, q_gfr, Option.bind_some, q_a8 (k := 290) _ 6 (pt_248_56 hs1) kd_290 ln_290 hi, Option.bind_some, hf 290 i rfl, ei]
      by_cases z : m 296 i = m 290 i
      · rw [if_pos z]
        exact key2 (Or.inr z)
      · rw [if_neg z]
        exact key 6 (by rw [if_neg (fun q => q.elim z0 z)])
  · rintro ⟨x, mm⟩ ⟨e1, e2, hf⟩
    dsimp only at e1 e2 hf
    unfold b_X12_tiltsFrom_12
    dsimp only
    rw [if_pos (by omega)]
    exact rq_some.mpr (rq_inre ⟨funext e2, hf⟩)
/-- the bare heads by their tilts -/
theorem q_byt (hD : rq_D ρ m) (hS : rq_sr S m) (hv : rq_vs ρ S) (h67 : m 248 67 = a) (ha : a < ρ.1 0 0) {u : Nat} (hu : u < 64) (f : Int → Int → Int → rt_M → Option rt_M) : rq (rt_it (b_X12_tiltsFrom_75 f 248 (u : Int)) 4000 (0, m)) (fun m1 => (m1 297 = fun j => if a < 0 then m 297 j else rq_bx ρ (S 0).toNat a u j (m 297 j) (ρ.1 0 1).toNat) ∧ rq_fr (fun k j => rq_wF k j || k == 297) m m1) := by
  have hb := hD.2.1.1
  have s0 : S 0 = (((S 0).toNat : Nat) : Int) := by have := hv.1; omega
  have s1 := hv.2.1
  have wst : (rq_P.all fun p => !((fun k j => rq_wF k j || k == 297) p.1 p.2.1)) = true := by decide +kernel
  have w96 : ∀ {m' : rt_M}, rq_fr (fun k j => rq_wF k j || k == 297) m m' → rq_fr rq_w96 m m' := fun h => h.mono (fun k j q => by
    unfold rq_w96 at q
    simp only [Bool.or_eq_false_iff] at q ⊢
    exact ⟨q.1.1.1.1, q.2⟩)
  refine rq_up (fun i s => s.1 = (i : Int) ∧ (∀ j, s.2 297 j = if a < 0 then m 297 j else rq_bx ρ (S 0).toNat a u j (m 297 j) i) ∧ rq_fr (fun k j => rq_wF k j || k == 297) m s.2) (ρ.1 0 1).toNat (by omega) ?_ ?_ (by exact ⟨rfl, fun j => by dsimp only; split <;> rfl, rq_fr.rfl⟩)
  · rintro i ⟨x, mm⟩ hi ⟨e1, e2, hf⟩
    dsimp only at e1 e2 hf
    subst e1
    have hD1 := rq_D_w96 hD (w96 hf)
    have hS1 := rq_sr_w96 hS (w96 hf)
    unfold b_X12_tiltsFrom_75
    dsimp only
    rw [q_gfr, Option.bind_some, q_rn1 hD1 1 rfl, Option.bind_some, if_neg (by omega), q_gfr, Option.bind_some, hf 248 67 rfl, h67]
    by_cases za : a < 0
    · rw [if_pos za]
      refine rq_some.mpr (rq_inr ⟨funext fun j => ?_, hf⟩)
      rw [e2 j, if_pos za, if_pos za]
    obtain ⟨w, rfl⟩ := Int.eq_ofNat_of_zero_le (show 0 ≤ a by omega)
    simp only [if_neg za] at e2 ⊢
    have tf := rq_tt_fi ρ w i (S 0).toNat
    have tb := rq_tt_b hD.2.1 w i (S 0).toNat
    have stay : ∀ m2, rq_fr rq_wF mm m2 → (∀ j : Nat, ¬ (u.testBit i = false ∧ rq_tt ρ w i (S 0).toNat = (j : Int))) → rq (j_X12_tiltsFrom_142_75 f 248 (u : Int) (i : Int) m2) (fun t => (∀ s', t = .inl s' → s'.1 = ((i + 1 : Nat) : Int) ∧ (∀ j, s'.2 297 j = rq_bx ρ (S 0).toNat (w : Int) u j (m 297 j) (i + 1)) ∧ rq_fr (fun k j => rq_wF k j || k == 297) m s'.2) ∧ (∀ e, t = .inr e → (e 297 = fun j => rq_bx ρ (S 0).toNat (w : Int) u j (m 297 j) (ρ.1 0 1).toNat) ∧ rq_fr (fun k j => rq_wF k j || k == 297) m e)) := by
      intro m2 f2 q
      unfold j_X12_tiltsFrom_142_75
      rw [rq_n1 (by omega)]
      refine rq_some.mpr (rq_inl ⟨rfl, fun j => ?_, hf.trans (f2.mono (fun k j q => by simp only [Bool.or_eq_false_iff] at q; exact q.1))⟩)
      show m2 297 j = _
      rw [f2 297 j rfl, e2 j, rq_bx_s, Int.toNat_natCast, if_neg (q j)]
    rw [rq_tb u (by omega) i (by omega)]
    by_cases z1 : u.testBit i = true
    · rw [if_pos z1, if_neg (by decide)]
      exact stay mm rq_fr.rfl (fun j q => by rw [z1] at q; cases q.1)
    · rw [if_neg z1, if_pos rfl, Option.bind_some, q_gfr, Option.bind_some, q_rs0 hD1.1 hS1 0 rfl, Option.bind_some]
      have hfit := q_fitsIn hD1 (w := w) (k := i) (t := (S 0).toNat) ha (by omega) (by omega)
      rw [← s0] at hfit
      refine rq_call hfit ?_
      rintro ⟨v, m2⟩ ⟨e, f2⟩
      dsimp only at e f2 ⊢
      subst e
      have f2' : rq_fr (fun k j => rq_wF k j || k == 297) m m2 := hf.trans (f2.mono (fun k j q => by simp only [Bool.or_eq_false_iff] at q; exact q.1))
      have hD2 := rq_D_w96 hD (w96 f2')
      have hS2 := rq_sr_w96 hS (w96 f2')
      by_cases z2 : rq_fi ρ w i (S 0).toNat = 0
      · rw [if_pos z2]
        refine stay m2 f2 (fun j q => ?_)
        have := tf.1.mpr (by omega)
        omega
      · have fi : rq_fi ρ w i (S 0).toNat = 1 := (rq_fi01 ρ w i _).resolve_left z2
        have tt := tf.2 fi
        have tne : rq_tt ρ w i (S 0).toNat ≠ -1 := fun q => (tf.1.mp q) fi
        rw [if_neg z2, q_gfr, Option.bind_some, q_gfr, Option.bind_some, f2' 248 67 rfl, h67, q_gfr, Option.bind_some, q_rs0 hD2.1 hS2 0 rfl, Option.bind_some]
        have htil := q_tiltIn hD2 (w := w) (k := i) (t := (S 0).toNat) ha (by omega) (by omega)
        rw [← s0] at htil
        refine rq_call htil ?_
        rintro ⟨v, m3⟩ ⟨e, f3⟩
        dsimp only at e f3 ⊢
        subst e
        have f3' : rq_fr (fun k j => rq_wF k j || k == 297) m m3 := f2'.trans (f3.mono (fun k j q => by simp only [Bool.or_eq_false_iff] at q; exact q.1))
        rw [← tt, pt_248_68 hD2.1]
        obtain ⟨τ, hτ⟩ := Int.eq_ofNat_of_zero_le (show 0 ≤ rq_tt ρ w i (S 0).toNat by omega)
        have e297 : ∀ j, m3 297 j = mm 297 j := fun j => by rw [f3 297 j rfl, f2 297 j rfl]
        rw [hτ, show (297 : Int) = ((297 : Nat) : Int) from rfl, q_al kd_297 ln_297 (show τ < 10 by omega), Option.bind_some, q_sa kd_297 ln_297 (show τ < 10 by omega), Option.bind_some]
        unfold j_X12_tiltsFrom_142_75
        rw [rq_n1 (by omega)]
        refine rq_some.mpr (rq_inl ⟨rfl, fun j => ?_, f3'.up (by simp)⟩)
        show rt_up m3 297 τ _ 297 j = _
        rw [q_up, rq_bx_s, Int.toNat_natCast, hτ]
        by_cases y : j = τ
        · rw [if_pos ⟨rfl, y⟩, if_pos ⟨by simpa using z1, by omega⟩, e297, e2, y]
        · rw [if_neg (fun q => y q.2), if_neg (fun q => y (by omega)), e297, e2]
  · rintro ⟨x, mm⟩ ⟨e1, e2, hf⟩
    dsimp only at e1 e2 hf
    have hD1 := rq_D_w96 hD (w96 hf)
    unfold b_X12_tiltsFrom_75
    dsimp only
    rw [q_gfr, Option.bind_some, q_rn1 hD1 1 rfl, Option.bind_some, if_pos (by omega)]
    exact rq_some.mpr (rq_inre ⟨funext e2, hf⟩)
end
