/-! Layer 3: what is remembered, the class -/
section
variable {r : Nat} {ρ : rq_R} {A A' : rq_A} {c c' : Nat} {m m' : rt_M}
/-- the class's past: the stands of now, then what was -/
def rq_cons (S : rq_S) (U : Nat → rq_S) : Nat → rq_S := fun i => if i = 0 then S else U (i - 1)
theorem q_base : ∀ j, j < 16 → (200 + 3 * j) ∈ rq_sbL ∧ (62, j, ((200 + 3 * j : Nat) : Int)) ∈ rq_P ∧ (200 + 3 * j) ≠ 49 := by decide +kernel
theorem q_remember (hs : rq_st m) {S : rq_S} (hS : rq_sc 49 S m) {U : Nat → rq_S} {n p : Nat} (hu : rq_uc U n p m) : rq (f_X11_remember 41 m) (fun m1 => rq_uc (rq_cons S U) (if n < 16 then n + 1 else 16) ((p + 1) % 16) m1 ∧ rq_sc 49 S m1 ∧ rq_fr (fun k j => (k == 41 && (j == 5 || j == 6)) || (decide (200 ≤ k) && decide (k < 248) && (j == 0 || !(k % 3 == 2)))) m m1) := by
  obtain ⟨u1, u2, u3, u4, u5⟩ := hu
  obtain ⟨b1, b2, b3⟩ := q_base p u2
  unfold f_X11_remember
  simp only [q_g11, Option.bind_some]
  rw [pt_41_4 hs, u4]
  have e : rt_al 8 62 (p : Int) m = some ((200 + 3 * p : Nat) : Int) := by
    have := q_al (m := m) kd_62 ln_62 u2
    rw [q_pt hs b2] at this; exact this
  rw [e, Option.bind_some, pt_41_2 hs, show (48 : Int) = ((48 : Nat) : Int) from rfl, q_nst hs, Option.bind_some, q_gd7 b1]
  refine rq_call (q_scopy hs b1 q_b49 b3 hS) ?_
  rintro m1 ⟨c1, hf⟩
  have fW : ∀ k j, ((k == 41 && (j == 5 || j == 6)) || (decide (200 ≤ k) && decide (k < 248) && (j == 0 || !(k % 3 == 2)))) = false → rq_wB (200 + 3 * p) k j = false := by
    intro k j q
    unfold rq_wB
    simp only [Bool.or_eq_false_iff, Bool.and_eq_false_iff, beq_eq_false_iff_ne, decide_eq_false_iff_not, Bool.not_eq_false', beq_iff_eq] at q ⊢
    omega
  have g5 : m1 41 5 = (n : Int) := by rw [hf 41 5 (by unfold rq_wB; simp; omega)]; exact u3
  have g6 : m1 41 6 = (p : Int) := by rw [hf 41 6 (by unfold rq_wB; simp; omega)]; exact u4
  rw [g6, rq_iadd (by omega) (by omega), q_floorMod (by omega) (by omega) (by decide) (by decide), Option.bind_some, q_p11, Option.bind_some]
  have e5 : rt_up m1 41 6 (((p : Int) + 1) % 16) 41 5 = (n : Int) := g5
  rw [e5, rq_iadd (by omega) (by omega), q_min, Option.bind_some, q_p11, Option.bind_some]
  refine rq_some.mpr ⟨⟨by split <;> omega, Nat.mod_lt _ (by decide), ?_, ?_, ?_⟩, ?_, ((hf.mono fW).up rfl).up rfl⟩
  · rw [q_up, if_pos ⟨rfl, rfl⟩]; split <;> split <;> omega
  · rw [q_up, if_neg (by omega), q_up, if_pos ⟨rfl, rfl⟩]; omega
  · intro i hi
    have hne : ∀ a j, a ≠ 41 → rt_up (rt_up m1 41 6 (((p : Int) + 1) % 16)) 41 5 (if (16 : Int) < (n : Int) + 1 then 16 else (n : Int) + 1) a j = m1 a j := by
      intro a j q
      rw [q_up, if_neg (fun z => q z.1), q_up, if_neg (fun z => q z.1)]
    by_cases i0 : i = 0
    · subst i0
      have eb : ((p + 1) % 16 + 15 - 0) % 16 = p := by omega
      rw [eb]
      unfold rq_cons
      rw [if_pos rfl]
      exact rq_sc_fr c1 (hne _ _ (by omega)) (fun w _ => hne _ _ (by omega)) (fun w _ => hne _ _ (by omega))
    · have eb : ((p + 1) % 16 + 15 - i) % 16 = (p + 15 - (i - 1)) % 16 := by split at hi <;> omega
      have i15 : i ≤ 15 := by split at hi <;> omega
      have hin : i - 1 < n := by split at hi <;> omega
      rw [eb]
      unfold rq_cons
      rw [if_neg i0]
      have h1 := u5 (i - 1) hin
      have hlt := Nat.mod_lt (p + 15 - (i - 1)) (show 0 < 16 by decide)
      have hd : (p + 15 - (i - 1)) % 16 ≠ p := by omega
      have hf0 : ∀ a j, 200 + 3 * ((p + 15 - (i - 1)) % 16) ≤ a → a ≤ 200 + 3 * ((p + 15 - (i - 1)) % 16) + 2 → m1 a j = m a j := by
        intro a j q1 q2
        refine hf a j ?_
        unfold rq_wB
        simp only [Bool.or_eq_false_iff, Bool.and_eq_false_iff, beq_eq_false_iff_ne]
        omega
      refine rq_sc_fr h1 ?_ (fun w _ => ?_) (fun w _ => ?_)
      · rw [hne _ _ (by omega), hf0 _ _ (by omega) (by omega)]
      · rw [hne _ _ (by omega), hf0 _ _ (by omega) (by omega)]
      · rw [hne _ _ (by omega), hf0 _ _ (by omega) (by omega)]
  · refine rq_sc_fr hS ?_ (fun w _ => ?_) (fun w _ => ?_)
    · rw [q_up, if_neg (by omega), q_up, if_neg (by omega), hf 49 0 (by unfold rq_wB; simp; omega)]
    · rw [q_up, if_neg (by omega), q_up, if_neg (by omega), hf _ _ (by unfold rq_wB; simp; omega)]
    · rw [q_up, if_neg (by omega), q_up, if_neg (by omega), hf _ _ (by unfold rq_wB; simp; omega)]
end
