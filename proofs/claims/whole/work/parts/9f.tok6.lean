/-! Layer 3: the reference's next token -/
section
variable {m : rt_M} {s : Nat → Int} {n : Nat}
theorem q_nt224 (hs : rq_st m) (ht : rq_ty s n m) (hn : n ≤ 1000) {b : Nat} (hb : b < n) (hl : rq_dd (s b) = true) (h4 : m 248 4 = (b : Int)) (h5 : m 248 5 = (b : Int)) (h8 : m 248 8 = 0) : rq (rt_it (b_X12_nextToken_224 248) 4000 m) (fun m1 => m1 248 4 = ((rq_en s n b : Nat) : Int) ∧ m1 248 5 = (b : Int) ∧ (rq_en s n b - b ≤ 4 → m1 248 8 = rq_w10 (rq_cs s b (rq_en s n b))) ∧ rq_fr rq_wN2 m m1) := by
  have nl : ¬ rq_ll (s b) = true := by
    unfold rq_dd at hl
    unfold rq_ll
    simp only [Bool.and_eq_true, decide_eq_true_eq] at hl ⊢
    omega
  have een : rq_en s n b = rq_ru rq_dd s n (b + 1) := by unfold rq_en; rw [if_neg nl, if_pos hl]
  have fin : ∀ (i : Nat) (mm : rt_M), mm 248 4 = ((b + i : Nat) : Int) → b + i ≤ n → (∀ q, b ≤ q → q < b + i → rq_dd (s q) = true) → (b + i < n → rq_dd (s (b + i)) = false) → mm 248 5 = (b : Int) → (i ≤ 4 → mm 248 8 = rq_w10 (rq_cs s b (b + i))) → rq_fr rq_wN2 m mm → (mm 248 4 = ((rq_en s n b : Nat) : Int) ∧ mm 248 5 = (b : Int) ∧ (rq_en s n b - b ≤ 4 → mm 248 8 = rq_w10 (rq_cs s b (rq_en s n b))) ∧ rq_fr rq_wN2 m mm) := by
    intro i mm e1 e2 e3 e4 e5 e7 hf
    have i0 : 1 ≤ i := by
      by_cases z : i = 0
      · subst z
        have := e4 (by omega)
        rw [Nat.add_zero, hl] at this
        cases this
      · omega
    have e : rq_en s n b = b + i := by rw [een]; exact rq_ru_u (by omega) e2 (fun q h1 h2 => e3 q (by omega) h2) e4
    rw [e]
    exact ⟨e1, e5, fun q => e7 (by omega), hf⟩
  refine rq_up (fun i mm => mm 248 4 = ((b + i : Nat) : Int) ∧ b + i ≤ n ∧ (∀ q, b ≤ q → q < b + i → rq_dd (s q) = true) ∧ mm 248 5 = (b : Int) ∧ mm 248 8 = rq_w10 (rq_cs s b (b + (if i < 4 then i else 4))) ∧ rq_fr rq_wN2 m mm) (n - b) (by omega) ?_ ?_ ?_
  · rintro i mm hi ⟨e1, e2, e3, e5, e7, hf⟩
    have s1 := rq_st_fr hs hf rq_wN2_st
    have t1 := rq_ty_fr ht hf
    have sa : f_X12_signAt 248 ((b + i : Nat) : Int) mm = some (s (b + i)) := by rw [q_signAt s1 t1 hn, if_pos (by omega)]
    unfold b_X12_nextToken_224 j_X12_nextToken_286_224
    rw [q_gfr, Option.bind_some, e1, sa, Option.bind_some]
    by_cases z1 : s (b + i) < 48
    · rw [if_pos z1]
      refine rq_some.mpr (rq_inr (fin i mm e1 e2 e3 (fun _ => by unfold rq_dd; simp; omega) e5 (fun q => ?_) hf))
      rw [e7]
      by_cases y : i < 4
      · rw [if_pos y]
      · rw [if_neg y, show i = 4 by omega]
    · rw [if_neg z1, Option.bind_some, sa, Option.bind_some]
      by_cases z2 : 57 < s (b + i)
      · rw [if_pos z2]
        refine rq_some.mpr (rq_inr (fin i mm e1 e2 e3 (fun _ => by unfold rq_dd; simp; omega) e5 (fun q => ?_) hf))
        rw [e7]
        by_cases y : i < 4
        · rw [if_pos y]
        · rw [if_neg y, show i = 4 by omega]
      · rw [if_neg z2, Option.bind_some, q_gfr, Option.bind_some, e5, rq_isub (by omega) (by omega)]
        have hin : ∀ q, b ≤ q → q < b + (i + 1) → rq_dd (s q) = true := fun q h1 h2 => by
          by_cases z : q = b + i
          · rw [z]; unfold rq_dd; simp; omega
          · exact e3 q h1 (by omega)
        by_cases y : i < 4
        · rw [if_pos y] at e7
          have dg : ∀ c ∈ rq_cs s b (b + i), 48 ≤ c ∧ c ≤ 57 := fun c hc => by
            obtain ⟨q, h1, h2, rfl⟩ := rq_cs_mem hc
            have := e3 q h1 h2
            unfold rq_dd at this
            simpa using this
          have wb := rq_w10_b i (rq_cs s b (b + i)) (by rw [rq_cs_len]; omega) dg
          have w8 : (10 : Int) ^ i ≤ 10000 := by
            have : i = 0 ∨ i = 1 ∨ i = 2 ∨ i = 3 := by omega
            rcases this with rfl | rfl | rfl | rfl <;> decide
          rw [if_neg (by omega), q_gfr, Option.bind_some, Option.bind_some, sa, Option.bind_some, e7, rq_imul (by omega) (by omega), rq_iadd (by omega) (by omega), rq_isub (by omega) (by omega), q_pfr, Option.bind_some, q_gfr, Option.bind_some]
          have e4' : rt_up mm 248 8 (rq_w10 (rq_cs s b (b + i)) * 10 + s (b + i) - 48) 248 4 = ((b + i : Nat) : Int) := e1
          rw [e4', q_pfr, Option.bind_some, rq_n1 (by omega)]
          refine rq_some.mpr (rq_inl ⟨?_, by omega, hin, e5, ?_, (hf.up rfl).up rfl⟩)
          · rw [q_up, if_pos ⟨rfl, rfl⟩]; omega
          · rw [q_up, if_neg (by omega), q_up, if_pos ⟨rfl, rfl⟩]
            have : b + (if i + 1 < 4 then i + 1 else 4) = b + i + 1 := by split <;> omega
            rw [this, rq_cs_s, rq_w10_s]
            omega
        · rw [if_neg y] at e7
          rw [if_pos (by omega), Option.bind_some, q_pfr, Option.bind_some, rq_n1 (by omega)]
          refine rq_some.mpr (rq_inl ⟨?_, by omega, hin, e5, ?_, hf.up rfl⟩)
          · rw [q_up, if_pos ⟨rfl, rfl⟩]; omega
          · rw [q_up, if_neg (by omega), if_neg (by omega)]
            exact e7
  · rintro mm ⟨e1, e2, e3, e5, e7, hf⟩
    have s1 := rq_st_fr hs hf rq_wN2_st
    have t1 := rq_ty_fr ht hf
    unfold b_X12_nextToken_224
    rw [q_gfr, Option.bind_some, e1, q_signAt s1 t1 hn, if_neg (by omega), Option.bind_some, if_pos (by decide)]
    refine rq_some.mpr (rq_inre (fin (n - b) mm e1 e2 e3 (fun q => by omega) e5 (fun q => ?_) hf))
    rw [e7]
    by_cases y : n - b < 4
    · rw [if_pos y]
    · rw [if_neg y, show n - b = 4 by omega]
  · refine ⟨h4, by omega, fun q h1 h2 => by omega, h5, ?_, rq_fr.rfl⟩
    rw [h8]
    have : rq_cs s b (b + (if 0 < 4 then 0 else 4)) = [] := by
      rw [if_pos (by decide)]
      unfold rq_cs
      rw [Nat.add_zero, Nat.sub_self]
      rfl
    rw [this]
    rfl
/-- from place p on -/
theorem q_nextToken (hs : rq_st m) (ht : rq_ty s n m) (hok : rq_okT s n) {p : Nat} (hp : p ≤ n) (h4 : m 248 4 = (p : Int)) : rq (f_X12_nextToken 248 m) (fun m1 => rq_ts s n (rq_sk' s n p) m1 ∧ rq_fr rq_wN2 m m1) := by
  have hn := hok.1
  unfold f_X12_nextToken
  refine rq_call (q_nt0 hs ht hn hp h4) ?_
  rintro m1 ⟨e4, f1⟩
  have hb := rq_sk_b (s := s) hp
  generalize rq_sk' s n p = b at e4 hb ⊢
  rw [q_gfr, Option.bind_some, e4, q_pfr, Option.bind_some, q_pfr, Option.bind_some, q_pfr, Option.bind_some, q_gfr, Option.bind_some, q_gfr, Option.bind_some]
  have f2 : rq_fr rq_wN2 m (rt_up (rt_up (rt_up m1 248 5 (b : Int)) 248 7 0) 248 8 0) := ((f1.up rfl).up rfl).up rfl
  have g4 : rt_up (rt_up (rt_up m1 248 5 (b : Int)) 248 7 0) 248 8 0 248 4 = (b : Int) := e4
  have g5 : rt_up (rt_up (rt_up m1 248 5 (b : Int)) 248 7 0) 248 8 0 248 5 = (b : Int) := by rw [q_up, if_neg (by omega), q_up, if_neg (by omega), q_up, if_pos ⟨rfl, rfl⟩]
  have g7 : rt_up (rt_up (rt_up m1 248 5 (b : Int)) 248 7 0) 248 8 0 248 7 = 0 := by rw [q_up, if_neg (by omega), q_up, if_pos ⟨rfl, rfl⟩]
  have g8 : rt_up (rt_up (rt_up m1 248 5 (b : Int)) 248 7 0) 248 8 0 248 8 = 0 := by rw [q_up, if_pos ⟨rfl, rfl⟩]
  generalize rt_up (rt_up (rt_up m1 248 5 (b : Int)) 248 7 0) 248 8 0 = m2 at f2 g4 g5 g7 g8 ⊢
  have s2 := rq_st_fr hs f2 rq_wN2_st
  have t2 := rq_ty_fr ht f2
  rw [g4, t2.1]
  -- the end
  have put : ∀ (m3 : rt_M) (v : Int) (e : Nat), rq_fr rq_wN2 m m3 → m3 248 4 = (e : Int) → m3 248 5 = (b : Int) → e = (if b < n then rq_en s n b else n) → v = rq_tn s n b → (v = 1 → m3 248 7 = rq_w27 (rq_cs s b (rq_en s n b))) → (v = 2 → m3 248 8 = rq_w10 (rq_cs s b (rq_en s n b))) → (rq_ts s n b (rt_up m3 248 6 v) ∧ rq_fr rq_wN2 m (rt_up m3 248 6 v)) := by
    intro m3 v e f3 a4 a5 ae av a7 a8
    refine ⟨⟨hb.2, ?_, ?_, ?_, fun q => ?_, fun q => ?_⟩, f3.up rfl⟩
    · rw [q_up, if_neg (by omega), a5]
    · rw [q_up, if_neg (by omega), a4, ae]
    · rw [q_up, if_pos ⟨rfl, rfl⟩, av]
    · rw [q_up, if_neg (by omega), a7 (by rw [av, q])]
    · rw [q_up, if_neg (by omega), a8 (by rw [av, q])]
  by_cases zn : b < n
  · have hen := rq_en_b (s := s) zn
    have etn : rq_tn s n b = if rq_ll (s b) = true then (if rq_en s n b - b ≤ 8 then 1 else 4) else if rq_dd (s b) = true then (if rq_en s n b - b ≤ 4 then 2 else 4) else if rq_sgb (s b) = true then 3 else 4 := by unfold rq_tn; rw [if_pos zn]
    rw [if_neg (by omega), q_gfr, Option.bind_some, Option.bind_some, q_rsgn s2 t2 hn zn, Option.bind_some]
    have other : ¬ rq_ll (s b) = true → rq (j_X12_nextToken_212 248 (s b) m2) (fun m1 => rq_ts s n b m1 ∧ rq_fr rq_wN2 m m1) := by
      intro nl
      rw [if_neg nl] at etn
      have last : ¬ rq_dd (s b) = true → rq (j_X12_nextToken_322 248 (s b) m2) (fun m1 => rq_ts s n b m1 ∧ rq_fr rq_wN2 m m1) := by
        intro nd
        rw [if_neg nd] at etn
        have een : rq_en s n b = b + 1 := by unfold rq_en; rw [if_neg nl, if_neg nd]
        unfold j_X12_nextToken_322 j_X12_nextToken_345 j_X12_nextToken_363 j_X12_nextToken_367 j_X12_nextToken_368
        rw [q_gfr, Option.bind_some, g4, q_pfr, Option.bind_some, rq_n1 (by omega)]
        have f3 : rq_fr rq_wN2 m (rt_up m2 248 4 ((b + 1 : Nat) : Int)) := f2.up rfl
        have a4 : rt_up m2 248 4 ((b + 1 : Nat) : Int) 248 4 = ((b + 1 : Nat) : Int) := by rw [q_up, if_pos ⟨rfl, rfl⟩]
        have a5 : rt_up m2 248 4 ((b + 1 : Nat) : Int) 248 5 = (b : Int) := g5
        simp only [q_pfr, Option.bind_some]
        have p3 : rq_sgb (s b) = true → rq (some (rt_up (rt_up m2 248 4 ((b + 1 : Nat) : Int)) 248 6 3)) (fun m1 => rq_ts s n b m1 ∧ rq_fr rq_wN2 m m1) := fun q => rq_some.mpr (put _ 3 (b + 1) f3 a4 a5 (by rw [if_pos zn, een]) (by rw [etn, if_pos q]) (fun q => by omega) (fun q => by omega))
        have p4 : ¬ rq_sgb (s b) = true → rq (some (rt_up (rt_up m2 248 4 ((b + 1 : Nat) : Int)) 248 6 4)) (fun m1 => rq_ts s n b m1 ∧ rq_fr rq_wN2 m m1) := fun q => rq_some.mpr (put _ 4 (b + 1) f3 a4 a5 (by rw [if_pos zn, een]) (by rw [etn, if_neg q]) (fun q => by omega) (fun q => by omega))
        have sg : rq_sgb (s b) = true ↔ ((40 ≤ s b ∧ s b ≤ 43) ∨ s b = 45) ∨ (59 ≤ s b ∧ s b ≤ 61) := by unfold rq_sgb; simp
        have tail : ¬ (40 ≤ s b ∧ s b ≤ 43) → rq (if s b = 45 then some (rt_up (rt_up m2 248 4 ((b + 1 : Nat) : Int)) 248 6 3) else if s b < 59 then some (rt_up (rt_up m2 248 4 ((b + 1 : Nat) : Int)) 248 6 4) else if 61 < s b then some (rt_up (rt_up m2 248 4 ((b + 1 : Nat) : Int)) 248 6 4) else some (rt_up (rt_up m2 248 4 ((b + 1 : Nat) : Int)) 248 6 3)) (fun m1 => rq_ts s n b m1 ∧ rq_fr rq_wN2 m m1) := by
          intro q
          by_cases y1 : s b = 45
          · rw [if_pos y1]; exact p3 (sg.mpr (Or.inl (Or.inr y1)))
          · rw [if_neg y1]
            by_cases y2 : s b < 59
            · rw [if_pos y2]; exact p4 (fun w => by have := sg.mp w; omega)
            · rw [if_neg y2]
              by_cases y3 : 61 < s b
              · rw [if_pos y3]; exact p4 (fun w => by have := sg.mp w; omega)
              · rw [if_neg y3]; exact p3 (sg.mpr (Or.inr (by omega)))
        by_cases y1 : s b < 40
        · rw [if_pos y1]; exact tail (by omega)
        · rw [if_neg y1]
          by_cases y2 : s b ≤ 43
          · rw [if_pos y2]; exact p3 (sg.mpr (Or.inl (Or.inl ⟨by omega, y2⟩)))
          · rw [if_neg y2]; exact tail (by omega)
      unfold j_X12_nextToken_212 j_X12_nextToken_318
      by_cases y1 : s b < 48
      · rw [if_pos y1]; exact last (by unfold rq_dd; simp; omega)
      · rw [if_neg y1]
        by_cases y2 : 57 < s b
        · rw [if_pos y2]; exact last (by unfold rq_dd; simp; omega)
        · have hd : rq_dd (s b) = true := by unfold rq_dd; simp; omega
          rw [if_pos hd] at etn
          rw [if_neg y2]
          refine rq_call (q_nt224 s2 t2 hn zn hd g4 g5 g8) ?_
          rintro m3 ⟨b1, b2, b3, b4⟩
          rw [q_gfr, Option.bind_some, q_gfr, Option.bind_some, b1, b2, rq_isub (by omega) (by omega), q_pfr, q_pfr, Option.bind_some, Option.bind_some]
          by_cases y3 : rq_en s n b - b ≤ 4
          · rw [if_pos y3] at etn
            rw [if_pos (by omega)]
            exact rq_some.mpr (put m3 2 _ (f2.trans b4) b1 b2 (by rw [if_pos zn]) etn.symm (fun q => by omega) (fun _ => b3 y3))
          · rw [if_neg y3] at etn
            rw [if_neg (by omega)]
            exact rq_some.mpr (put m3 4 _ (f2.trans b4) b1 b2 (by rw [if_pos zn]) etn.symm (fun q => by omega) (fun q => by omega))
    by_cases y1 : s b < 97
    · rw [if_pos y1]; exact other (by unfold rq_ll; simp; omega)
    · rw [if_neg y1]
      by_cases y2 : 122 < s b
      · rw [if_pos y2]; exact other (by unfold rq_ll; simp; omega)
      · have hl : rq_ll (s b) = true := by unfold rq_ll; simp; omega
        rw [if_pos hl] at etn
        rw [if_neg y2]
        refine rq_call (q_nt109 s2 t2 hn zn hl g4 g5 g7) ?_
        rintro m3 ⟨b1, b2, b3, b4⟩
        unfold j_X12_nextToken_208
        rw [q_gfr, Option.bind_some, q_gfr, Option.bind_some, b1, b2, rq_isub (by omega) (by omega), q_pfr, q_pfr, Option.bind_some, Option.bind_some]
        by_cases y3 : rq_en s n b - b ≤ 8
        · rw [if_pos y3] at etn
          rw [if_pos (by omega)]
          exact rq_some.mpr (put m3 1 _ (f2.trans b4) b1 b2 (by rw [if_pos zn]) etn.symm (fun _ => b3 y3) (fun q => by omega))
        · rw [if_neg y3] at etn
          rw [if_neg (by omega)]
          exact rq_some.mpr (put m3 4 _ (f2.trans b4) b1 b2 (by rw [if_pos zn]) etn.symm (fun q => by omega) (fun q => by omega))
  · have en : b = n := by omega
    have etn : rq_tn s n b = 0 := by unfold rq_tn; rw [if_neg zn]
    rw [if_pos (by omega), q_pfr, Option.bind_some]
    exact rq_some.mpr (put m2 0 b f2 g4 g5 (by rw [if_neg zn, en]) etn.symm (fun q => by omega) (fun q => by omega))
/-- the next token behind the one at b -/
theorem q_nextAt (hs : rq_st m) (ht : rq_ty s n m) (hok : rq_okT s n) {b : Nat} (h : rq_ts s n b m) (hb : b < n) : rq (f_X12_nextToken 248 m) (fun m1 => rq_ts s n (rq_nxp s n b) m1 ∧ rq_fr rq_wN2 m m1) := by
  have h4 := h.2.2.1
  rw [if_pos hb] at h4
  exact q_nextToken hs ht hok (rq_en_b hb).2 h4
end
