/-! Layer 3: tokens, as both have them -/
def rq_sp0 : List (List Int) := [[119, 105, 103], [115, 105, 122, 101], [111, 102, 102, 105, 99, 101], [108, 101, 97, 110], [104, 101, 97, 100], [97, 103, 101, 100], [104, 101, 97, 116, 115], [115, 108, 97, 99, 107], [115, 119, 101, 108, 108, 115], [106, 117, 100, 103, 101, 115], [112, 117, 116], [111, 102, 102], [109, 101, 110, 100], [115, 101, 97, 115, 111, 110], [112, 108, 97, 105, 110], [104, 111, 116], [98, 97, 108, 100], [98, 111, 121], [110, 111, 116], [97, 110, 100], [111, 114], [104, 101, 97, 116], [121, 101, 97, 114, 115], [115, 111, 114, 116], [119, 105, 103, 103, 101, 100], [104, 101, 97, 100, 101, 100], [104, 97, 114, 100]]
def rq_sW (W : Nat) : List Int := rq_sp0.getD W []
def rq_W27 (W : Nat) : Int := [17017, 381245, 218546996, 239882, 161140, 24925, 4351231, 10334396, 284959882, 154733320, 12251, 11103, 259906, 275320391, 8740238, 6257, 40423, 1888, 10631, 1111, 423, 161156, 13385674, 385418, 334950853, 117471199, 158683].getD W 0
theorem rq_sW_t : ∀ W, W < 27 → rt_wp W = rq_pk (rq_sW W) ∧ rq_W27 W = rq_w27 (rq_sW W) ∧ (∀ c ∈ rq_sW W, 97 ≤ c ∧ c ≤ 122) ∧ 97 ≤ rt_wp W ∧ 126 < rt_wp W := by decide +kernel
theorem rq_wp_inj : ∀ i, i < 35 → ∀ j, j < 35 → rt_wp i = rt_wp j → i = j := by decide +kernel
theorem rq_wp_s : ∀ i, i < 39 → (27 ≤ i → rt_wp i < 97 ∧ 0 ≤ rt_wp i) ∧ (35 ≤ i → rt_wp i = 0) ∧ (i < 35 → rt_wp i ≠ 0) := by decide +kernel
theorem rq_spf_eq {v : Int} {i : Nat} (hv : v ≠ 0) (hi : i < 35) (h : rt_wp i = v) : rq_spf v = (i : Int) := by
  refine rq_fst_some (by omega) (by simp [h, hv]) (fun j hj => ?_)
  by_cases z : rt_wp j = v
  · have := rq_wp_inj j (by omega) i hi (by rw [z, h])
    omega
  · simp [z]
theorem rq_spf_in {v : Int} (h : rq_spf v ≠ -1) : ∃ i : Nat, i < 35 ∧ rq_spf v = (i : Int) ∧ rt_wp i = v ∧ v ≠ 0 := by
  unfold rq_spf at h ⊢
  rcases rq_fst_cases (fun i => (rt_wp i == v) && !(v == 0)) 39 with ⟨i, hi, e, p, -⟩ | ⟨e, -⟩
  · simp only [Bool.and_eq_true, beq_iff_eq, Bool.not_eq_true', beq_eq_false_iff_ne] at p
    refine ⟨i, ?_, e, p.1, p.2⟩
    by_cases z : i < 35
    · exact z
    · have := (rq_wp_s i hi).2.1 (by omega)
      exact absurd (by rw [← p.1, this]) p.2
  · exact absurd e h
section
variable {s : Nat → Int} {n b : Nat}
abbrev rq_tl (s : Nat → Int) (n b : Nat) : List Int := rq_cs s b (rq_en s n b)
theorem rq_tl_a (hb : b < n) (hl : rq_ll (s b) = true) : rq_al' (rq_tl s n b) ∧ rq_tl s n b ≠ [] := by
  have hen := rq_en_b (s := s) hb
  have een : rq_en s n b = rq_ru rq_ll s n (b + 1) := by unfold rq_en; rw [if_pos hl]
  refine ⟨fun c hc => ?_, fun q => ?_⟩
  · obtain ⟨q, h1, h2, rfl⟩ := rq_cs_mem hc
    have : rq_ll (s q) = true := by
      by_cases z : q = b
      · rw [z]; exact hl
      · rw [een] at h2
        exact (rq_ru_in (by omega) h2).2
    unfold rq_ll at this
    simpa using this
  · have := rq_cs_len (s := s) b (rq_en s n b)
    rw [show rq_cs s b (rq_en s n b) = [] from q] at this
    simp at this
    omega
/-- what kinds a token may have -/
theorem rq_kd_c (hok : rq_okT s n) : (rq_tn s n b = 0 ∧ rq_kd s n b = 37 ∧ ¬ b < n) ∨
    (rq_tn s n b = 1 ∧ b < n ∧ rq_lt (rq_tl s n b) ∧ rq_vl s n b = rq_pk (rq_tl s n b) ∧ ((rq_kd s n b = 35 ∧ ∀ W, W < 27 → rq_w27 (rq_tl s n b) ≠ rq_W27 W) ∨ ∃ W : Nat, W < 27 ∧ rq_kd s n b = (W : Int) ∧ rq_w27 (rq_tl s n b) = rq_W27 W)) ∨
    (rq_tn s n b = 2 ∧ b < n ∧ rq_kd s n b = 36 ∧ rq_vl s n b = rq_w10 (rq_tl s n b) ∧ 0 ≤ rq_vl s n b ∧ rq_vl s n b ≤ 9999) ∨
    (rq_tn s n b = 3 ∧ b < n ∧ ∃ W : Nat, 27 ≤ W ∧ W < 35 ∧ rq_kd s n b = (W : Int) ∧ s b = rt_wp W) ∨
    (rq_tn s n b = 4 ∧ b < n ∧ rq_kd s n b = 38) ∨ (b < n ∧ rq_bla (s b) = true) := by
  by_cases zb : b < n
  · by_cases zk : rq_bla (s b) = true
    · exact Or.inr (Or.inr (Or.inr (Or.inr (Or.inr ⟨zb, zk⟩))))
    have hen := rq_en_b (s := s) zb
    by_cases zl : rq_ll (s b) = true
    · have nd : ¬ rq_dd (s b) = true := by
        unfold rq_ll at zl
        unfold rq_dd
        simp only [Bool.and_eq_true, decide_eq_true_eq] at zl ⊢
        omega
      obtain ⟨al, ne⟩ := rq_tl_a zb zl
      by_cases z8 : rq_en s n b - b ≤ 8
      · refine Or.inr (Or.inl ⟨by unfold rq_tn; rw [if_pos zb, if_pos zl, if_pos z8], zb, ⟨ne, by rw [rq_cs_len]; exact z8, al⟩, by unfold rq_vl; rw [if_pos zb, if_neg nd, if_pos z8], ?_⟩)
        have ek : rq_kd s n b = if rq_spf (rq_pk (rq_tl s n b)) = -1 then 35 else rq_spf (rq_pk (rq_tl s n b)) := by unfold rq_kd; rw [if_pos zb, if_neg nd, if_pos z8, if_pos zl]
        have pp := (rq_pk_pos _ _ rfl al).2 ne
        by_cases zs : rq_spf (rq_pk (rq_tl s n b)) = -1
        · rw [if_pos zs] at ek
          refine Or.inl ⟨ek, fun W hW q => ?_⟩
          obtain ⟨t1, t2, t3, -⟩ := rq_sW_t W hW
          rw [t2] at q
          have e := rq_w27_inj _ _ _ rfl al t3 q
          have := rq_spf_eq (v := rq_pk (rq_tl s n b)) (by omega) (show W < 35 by omega) (by rw [t1, e])
          omega
        · rw [if_neg zs] at ek
          obtain ⟨i, hi, e, hw, -⟩ := rq_spf_in zs
          have i27 : i < 27 := by
            by_cases q : i < 27
            · exact q
            · have := ((rq_wp_s i (by omega)).1 (by omega)).1
              omega
          obtain ⟨t1, t2, t3, -⟩ := rq_sW_t i i27
          refine Or.inr ⟨i, i27, by rw [ek, e], ?_⟩
          rw [t2, rq_pk_inj _ _ _ rfl al t3 (by rw [← hw, t1])]
      · exact Or.inr (Or.inr (Or.inr (Or.inr (Or.inl ⟨by unfold rq_tn; rw [if_pos zb, if_pos zl, if_neg z8], zb, by unfold rq_kd; rw [if_pos zb, if_neg nd, if_neg z8]⟩))))
    · by_cases zd : rq_dd (s b) = true
      · by_cases z4 : rq_en s n b - b ≤ 4
        · have dg : ∀ c ∈ rq_tl s n b, 48 ≤ c ∧ c ≤ 57 := fun c hc => by
            obtain ⟨q, h1, h2, rfl⟩ := rq_cs_mem hc
            have : rq_dd (s q) = true := by
              by_cases z : q = b
              · rw [z]; exact zd
              · have een : rq_en s n b = rq_ru rq_dd s n (b + 1) := by unfold rq_en; rw [if_neg zl, if_pos zd]
                rw [een] at h2
                exact (rq_ru_in (by omega) h2).2
            unfold rq_dd at this
            simpa using this
          have wb := rq_w10_b (rq_en s n b - b) (rq_tl s n b) (rq_cs_len b _) dg
          have w4 : (10 : Int) ^ (rq_en s n b - b) ≤ 10000 := by
            have : rq_en s n b - b = 0 ∨ rq_en s n b - b = 1 ∨ rq_en s n b - b = 2 ∨ rq_en s n b - b = 3 ∨ rq_en s n b - b = 4 := by omega
            rcases this with q | q | q | q | q <;> rw [q] <;> decide
          have ev : rq_vl s n b = rq_w10 (rq_tl s n b) := by unfold rq_vl; rw [if_pos zb, if_pos zd, if_pos z4]
          exact Or.inr (Or.inr (Or.inl ⟨by unfold rq_tn; rw [if_pos zb, if_neg zl, if_pos zd, if_pos z4], zb, by unfold rq_kd; rw [if_pos zb, if_pos zd, if_pos z4], ev, by omega, by omega⟩))
        · exact Or.inr (Or.inr (Or.inr (Or.inr (Or.inl ⟨by unfold rq_tn; rw [if_pos zb, if_neg zl, if_pos zd, if_neg z4], zb, by unfold rq_kd; rw [if_pos zb, if_pos zd, if_neg z4]⟩))))
      · have een : rq_en s n b = b + 1 := by unfold rq_en; rw [if_neg zl, if_neg zd]
        have etl : rq_tl s n b = [s b] := by unfold rq_tl rq_cs; rw [een, show b + 1 - b = 1 by omega]; rfl
        have epk : rq_pk (rq_tl s n b) = s b := by rw [etl]; show 0 * 128 + s b = s b; omega
        have ek : rq_kd s n b = if rq_spf (s b) = -1 then 38 else rq_spf (s b) := by
          unfold rq_kd
          rw [if_pos zb, if_neg zd, if_pos (by omega), show rq_pk (rq_cs s b (rq_en s n b)) = s b from epk, if_neg zl]
        have okb := hok.2 b zb
        unfold rq_okS at okb
        by_cases zg : rq_sgb (s b) = true
        · refine Or.inr (Or.inr (Or.inr (Or.inl ⟨by unfold rq_tn; rw [if_pos zb, if_neg zl, if_neg zd, if_pos zg], zb, ?_⟩)))
          have hs : s b = 40 ∨ s b = 41 ∨ s b = 60 ∨ s b = 61 ∨ s b = 43 ∨ s b = 45 ∨ s b = 42 ∨ s b = 59 := by
            unfold rq_sgb at zg
            simp only [Bool.or_eq_true, Bool.and_eq_true, decide_eq_true_eq] at zg
            omega
          have go : ∀ W, 27 ≤ W → W < 35 → s b = rt_wp W → ∃ W : Nat, 27 ≤ W ∧ W < 35 ∧ rq_kd s n b = (W : Int) ∧ s b = rt_wp W := fun W h1 h2 h3 => by
            have e := rq_spf_eq (v := s b) (by rw [h3]; exact (rq_wp_s W (by omega)).2.2 h2) h2 h3.symm
            exact ⟨W, h1, h2, by rw [ek, e, if_neg (by omega)], h3⟩
          rcases hs with q | q | q | q | q | q | q | q
          · exact go 27 (by decide) (by decide) q
          · exact go 28 (by decide) (by decide) q
          · exact go 29 (by decide) (by decide) q
          · exact go 30 (by decide) (by decide) q
          · exact go 31 (by decide) (by decide) q
          · exact go 32 (by decide) (by decide) q
          · exact go 33 (by decide) (by decide) q
          · exact go 34 (by decide) (by decide) q
        · refine Or.inr (Or.inr (Or.inr (Or.inr (Or.inl ⟨by unfold rq_tn; rw [if_pos zb, if_neg zl, if_neg zd, if_neg zg], zb, ?_⟩))))
          rw [ek]
          by_cases zs : rq_spf (s b) = -1
          · rw [if_pos zs]
          · obtain ⟨i, hi, e, hw, h0⟩ := rq_spf_in zs
            exfalso
            by_cases i27 : i < 27
            · have := (rq_sW_t i i27).2.2.2.2
              omega
            · have i8 : i = 27 ∨ i = 28 ∨ i = 29 ∨ i = 30 ∨ i = 31 ∨ i = 32 ∨ i = 33 ∨ i = 34 := by omega
              apply zg
              unfold rq_sgb
              rcases i8 with rfl | rfl | rfl | rfl | rfl | rfl | rfl | rfl <;> (rw [← hw]; decide)
  · exact Or.inl ⟨by unfold rq_tn; rw [if_neg zb], by unfold rq_kd; rw [if_neg zb], zb⟩
end
