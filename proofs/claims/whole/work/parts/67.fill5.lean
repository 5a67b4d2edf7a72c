/-! Layer 3: fill, the reference's table -/
section
variable {ρ : rq_R} {m : rt_M} {S : rq_S}
theorem q_fitsAll (h : rq_D ρ m) (hS : rq_sr S m) (hv : rq_vs ρ S) {w k n : Nat} (hw : (w : Int) < ρ.1 0 0) (hk : (k : Int) < ρ.1 0 1) (hn : n ≤ 8) (h59 : m 248 59 = (n : Int)) : rq (f_X12_fitsAll 248 (w : Int) (k : Int) m) (fun p => (p.1 = if rq_ftb ρ w k (S 0).toNat n = true then 1 else 0) ∧ rq_fr rq_wF m p.2) := by
  have s0 : S 0 = (((S 0).toNat : Nat) : Int) := by have := hv.1; omega
  have sc := hv.2.1
  unfold f_X12_fitsAll
  refine rq_call (rq_up (Q := fun e => ∃ v m', (e = .inl m' ∧ v = 1 ∨ e = .inr (v, m')) ∧ (v = if rq_ftb ρ w k (S 0).toNat n = true then (1 : Int) else 0) ∧ rq_fr rq_wF m m') (fun i s => s.1 = (i : Int) ∧ rq_ftb ρ w k (S 0).toNat i = true ∧ rq_fr rq_wF m s.2) n (by omega) ?_ ?_ (by exact ⟨rfl, rfl, rq_fr.rfl⟩)) ?_
  · rintro i ⟨x, mm⟩ hi ⟨e1, e2, hf⟩
    dsimp only at e1 e2 hf
    subst e1
    have hD := rq_D_wF h hf
    have hS1 := rq_sr_wF hS hf
    have ea : rt_iadd (S 0) (i : Int) = (((S 0).toNat + i : Nat) : Int) := by rw [rq_iadd (by omega) (by omega)]; omega
    unfold b_X12_fitsAll_2
    dsimp only
    rw [q_gfr, Option.bind_some, hf 248 59 rfl, h59, if_neg (by omega), q_gfr, Option.bind_some, q_rs0 hD.1 hS1 0 rfl, Option.bind_some, ea]
    refine rq_call (q_fitsIn hD hw hk (by omega)) ?_
    rintro ⟨v, m2⟩ ⟨e, f2⟩
    dsimp only at e f2 ⊢
    subst e
    have fb : rq_fi ρ w k ((S 0).toNat + i) = 0 ∨ rq_fi ρ w k ((S 0).toNat + i) = 1 := by unfold rq_fi; split <;> simp
    by_cases z : rq_fi ρ w k ((S 0).toNat + i) = 0
    · rw [if_pos z]
      refine rq_map.mpr (rq_some.mpr (rq_inr ⟨0, m2, Or.inr rfl, ?_, hf.trans f2⟩))
      rw [rq_ftb_no (w := w) (k := k) (t := (S 0).toNat) hi (by rw [z]; decide)]; rfl
    · rw [if_neg z, rq_n1 (by omega)]
      refine rq_some.mpr (rq_inl ⟨rfl, ?_, hf.trans f2⟩)
      show rq_ftb ρ w k (S 0).toNat (i + 1) = true
      unfold rq_ftb
      rw [e2, show rq_fi ρ w k ((S 0).toNat + i) = 1 by omega]; rfl
  · rintro ⟨x, mm⟩ ⟨e1, e2, hf⟩
    dsimp only at e1 e2 hf
    unfold b_X12_fitsAll_2
    dsimp only
    rw [q_gfr, Option.bind_some, hf 248 59 rfl, h59, if_pos (by omega)]
    exact rq_some.mpr (rq_inre ⟨1, mm, Or.inl ⟨rfl, rfl⟩, by rw [e2]; rfl, hf⟩)
  · rintro e ⟨v, m', e', hv, hf⟩
    rcases e' with ⟨rfl, rfl⟩ | rfl
    · exact rq_some.mpr ⟨hv, hf⟩
    · exact rq_some.mpr ⟨hv, hf⟩
end
