/-! Layer 3: the reference's tokens -/
section
variable {m : rt_M} {s : Nat → Int} {n : Nat}
def rq_sgb (c : Int) : Bool := (decide (40 ≤ c) && decide (c ≤ 43)) || decide (c = 45) || (decide (59 ≤ c) && decide (c ≤ 61))
def rq_tn (s : Nat → Int) (n b : Nat) : Int := if b < n then (if rq_ll (s b) = true then (if rq_en s n b - b ≤ 8 then 1 else 4) else if rq_dd (s b) = true then (if rq_en s n b - b ≤ 4 then 2 else 4) else if rq_sgb (s b) = true then 3 else 4) else 0
/-- the text that the reference reads; where it stands in it -/
def rq_ty (s : Nat → Int) (n : Nat) (m : rt_M) : Prop := m 248 3 = (n : Int) ∧ ∀ i, i < n → m 249 i = s i
def rq_ts (s : Nat → Int) (n b : Nat) (m : rt_M) : Prop := b ≤ n ∧ m 248 5 = (b : Int) ∧ m 248 4 = ((if b < n then rq_en s n b else n : Nat) : Int) ∧ m 248 6 = rq_tn s n b ∧ (rq_tn s n b = 1 → m 248 7 = rq_w27 (rq_cs s b (rq_en s n b))) ∧ (rq_tn s n b = 2 → m 248 8 = rq_w10 (rq_cs s b (rq_en s n b)))
def rq_wN2 (k j : Nat) : Bool := k == 248 && decide (4 ≤ j) && decide (j ≤ 8)
theorem rq_wN2_st : (rq_P.all fun p => !(rq_wN2 p.1 p.2.1)) = true := by decide +kernel
theorem rq_ty_fr {m' : rt_M} (h : rq_ty s n m) (f : rq_fr rq_wN2 m m') : rq_ty s n m' := ⟨by rw [f 248 3 rfl]; exact h.1, fun i hi => by rw [f 249 i rfl]; exact h.2 i hi⟩
theorem q_rsgn (hs : rq_st m) (ht : rq_ty s n m) (hn : n ≤ 1000) {i : Nat} (hi : i < n) : rt_al 1 (m 248 2) (i : Int) m = some (s i) := by
  rw [q_a8 (k := 249) _ 1000 (pt_248_2 hs) kd_249 ln_249 (by omega), ht.2 i hi]
theorem q_signAt (hs : rq_st m) (ht : rq_ty s n m) (hn : n ≤ 1000) (i : Nat) : f_X12_signAt 248 (i : Int) m = some (if i < n then s i else 0) := by
  unfold f_X12_signAt j_X12_signAt_18
  rw [q_gfr, Option.bind_some, ht.1]
  by_cases z : i < n
  · rw [if_neg (by omega), q_gfr, Option.bind_some, q_rsgn hs ht hn z, Option.bind_some, if_pos z]
  · rw [if_pos (by omega), if_neg z]
theorem q_nt0 (hs : rq_st m) (ht : rq_ty s n m) (hn : n ≤ 1000) {p : Nat} (hp : p ≤ n) (h4 : m 248 4 = (p : Int)) : rq (rt_it (b_X12_nextToken_0 248) 4000 m) (fun m1 => m1 248 4 = ((rq_sk' s n p : Nat) : Int) ∧ rq_fr rq_wN2 m m1) := by
  refine rq_up (fun i mm => mm 248 4 = ((p + i : Nat) : Int) ∧ p + i ≤ n ∧ (∀ q, p ≤ q → q < p + i → rq_bla (s q) = true) ∧ rq_fr rq_wN2 m mm) (n - p) (by omega) ?_ ?_ (by exact ⟨h4, hp, fun q h1 h2 => by omega, rq_fr.rfl⟩)
  · rintro i mm hi ⟨e1, e2, e3, hf⟩
    have s1 := rq_st_fr hs hf rq_wN2_st
    have t1 := rq_ty_fr ht hf
    have go : rq_bla (s (p + i)) = true → rq (j_X12_nextToken_39_0 248 mm) (fun t => (∀ s', t = .inl s' → s' 248 4 = ((p + (i + 1) : Nat) : Int) ∧ p + (i + 1) ≤ n ∧ (∀ q, p ≤ q → q < p + (i + 1) → rq_bla (s q) = true) ∧ rq_fr rq_wN2 m s') ∧ (∀ e, t = .inr e → e 248 4 = ((rq_sk' s n p : Nat) : Int) ∧ rq_fr rq_wN2 m e)) := by
      intro hb
      unfold j_X12_nextToken_39_0
      rw [q_gfr, Option.bind_some, e1, q_pfr, Option.bind_some, rq_n1 (by omega)]
      refine rq_some.mpr (rq_inl ⟨?_, by omega, fun q h1 h2 => ?_, hf.up rfl⟩)
      · rw [q_up, if_pos ⟨rfl, rfl⟩]; omega
      · by_cases z : q = p + i
        · rw [z]; exact hb
        · exact e3 q h1 (by omega)
    unfold b_X12_nextToken_0
    rw [q_gfr, Option.bind_some, q_gfr, Option.bind_some, e1, t1.1, if_neg (by omega), q_gfr, Option.bind_some, Option.bind_some, q_rsgn s1 t1 hn (show p + i < n by omega), Option.bind_some]
    by_cases z1 : s (p + i) = 32
    · rw [if_pos z1]
      exact go (by unfold rq_bla; simp [z1])
    · rw [if_neg z1, Option.bind_some, Option.bind_some, q_rsgn s1 t1 hn (show p + i < n by omega), Option.bind_some]
      by_cases z2 : s (p + i) = 10
      · rw [if_pos z2]
        exact go (by unfold rq_bla; simp [z2])
      · rw [if_neg z2]
        refine rq_some.mpr (rq_inr ⟨?_, hf⟩)
        rw [e1]
        unfold rq_sk'
        rw [rq_ru_u (by omega) e2 e3 (fun _ => by unfold rq_bla; simp [z1, z2])]
  · rintro mm ⟨e1, e2, e3, hf⟩
    have t1 := rq_ty_fr ht hf
    unfold b_X12_nextToken_0
    rw [q_gfr, Option.bind_some, q_gfr, Option.bind_some, e1, t1.1, if_pos (by omega)]
    refine rq_some.mpr (rq_inre ⟨?_, hf⟩)
    rw [e1]
    unfold rq_sk'
    rw [rq_ru_u (by omega) e2 e3 (fun q => by omega)]
theorem q_nt109 (hs : rq_st m) (ht : rq_ty s n m) (hn : n ≤ 1000) {b : Nat} (hb : b < n) (hl : rq_ll (s b) = true) (h4 : m 248 4 = (b : Int)) (h5 : m 248 5 = (b : Int)) (h7 : m 248 7 = 0) : rq (rt_it (b_X12_nextToken_109 248) 4000 m) (fun m1 => m1 248 4 = ((rq_en s n b : Nat) : Int) ∧ m1 248 5 = (b : Int) ∧ (rq_en s n b - b ≤ 8 → m1 248 7 = rq_w27 (rq_cs s b (rq_en s n b))) ∧ rq_fr rq_wN2 m m1) := by
  have een : rq_en s n b = rq_ru rq_ll s n (b + 1) := by unfold rq_en; rw [if_pos hl]
  have fin : ∀ (i : Nat) (mm : rt_M), mm 248 4 = ((b + i : Nat) : Int) → b + i ≤ n → (∀ q, b ≤ q → q < b + i → rq_ll (s q) = true) → (b + i < n → rq_ll (s (b + i)) = false) → mm 248 5 = (b : Int) → (i ≤ 8 → mm 248 7 = rq_w27 (rq_cs s b (b + i))) → rq_fr rq_wN2 m mm → (mm 248 4 = ((rq_en s n b : Nat) : Int) ∧ mm 248 5 = (b : Int) ∧ (rq_en s n b - b ≤ 8 → mm 248 7 = rq_w27 (rq_cs s b (rq_en s n b))) ∧ rq_fr rq_wN2 m mm) := by
    intro i mm e1 e2 e3 e4 e5 e7 hf
    have i0 : 1 ≤ i := by
      by_cases z : i = 0
      · subst z
        have := e4 (by omega)
        rw [Nat.add_zero, hl] at this
        cases this
      · omega
    have e : rq_en s n b = b + i := by rw [een]; exact rq_ru_u (by omega) e2 (fun q h1 h2 => e3 q (by omega) h2) e4
    rw [e]
    exact ⟨e1, e5, fun q => e7 (by omega), hf⟩
  refine rq_up (fun i mm => mm 248 4 = ((b + i : Nat) : Int) ∧ b + i ≤ n ∧ (∀ q, b ≤ q → q < b + i → rq_ll (s q) = true) ∧ mm 248 5 = (b : Int) ∧ mm 248 7 = rq_w27 (rq_cs s b (b + (if i < 8 then i else 8))) ∧ rq_fr rq_wN2 m mm) (n - b) (by omega) ?_ ?_ ?_
  · rintro i mm hi ⟨e1, e2, e3, e5, e7, hf⟩
    have s1 := rq_st_fr hs hf rq_wN2_st
    have t1 := rq_ty_fr ht hf
    have sa : f_X12_signAt 248 ((b + i : Nat) : Int) mm = some (s (b + i)) := by rw [q_signAt s1 t1 hn, if_pos (by omega)]
    unfold b_X12_nextToken_109 j_X12_nextToken_175_109
    rw [q_gfr, Option.bind_some, e1, sa, Option.bind_some]
    by_cases z1 : s (b + i) < 97
    · rw [if_pos z1]
      refine rq_some.mpr (rq_inr (fin i mm e1 e2 e3 (fun _ => by unfold rq_ll; simp; omega) e5 (fun q => ?_) hf))
      rw [e7]
      by_cases y : i < 8
      · rw [if_pos y]
      · rw [if_neg y, show i = 8 by omega]
    · rw [if_neg z1, Option.bind_some, sa, Option.bind_some]
      by_cases z2 : 122 < s (b + i)
      · rw [if_pos z2]
        refine rq_some.mpr (rq_inr (fin i mm e1 e2 e3 (fun _ => by unfold rq_ll; simp; omega) e5 (fun q => ?_) hf))
        rw [e7]
        by_cases y : i < 8
        · rw [if_pos y]
        · rw [if_neg y, show i = 8 by omega]
      · rw [if_neg z2, Option.bind_some, q_gfr, Option.bind_some, e5, rq_isub (by omega) (by omega)]
        have hin : ∀ q, b ≤ q → q < b + (i + 1) → rq_ll (s q) = true := fun q h1 h2 => by
          by_cases z : q = b + i
          · rw [z]; unfold rq_ll; simp; omega
          · exact e3 q h1 (by omega)
        by_cases y : i < 8
        · rw [if_pos y] at e7
          have alp : rq_al' (rq_cs s b (b + i)) := fun c hc => by
            obtain ⟨q, h1, h2, rfl⟩ := rq_cs_mem hc
            have := e3 q h1 h2
            unfold rq_ll at this
            simpa using this
          have wb := rq_w27_b i (rq_cs s b (b + i)) (by rw [rq_cs_len]; omega) alp
          have wp := (rq_w27_pos i (rq_cs s b (b + i)) (by rw [rq_cs_len]; omega) alp).1
          have w8 : (27 : Int) ^ i ≤ 282429536481 := by
            have : i = 0 ∨ i = 1 ∨ i = 2 ∨ i = 3 ∨ i = 4 ∨ i = 5 ∨ i = 6 ∨ i = 7 := by omega
            rcases this with rfl | rfl | rfl | rfl | rfl | rfl | rfl | rfl <;> decide
          rw [if_neg (by omega), q_gfr, Option.bind_some, Option.bind_some, sa, Option.bind_some, e7, rq_lmul (by omega) (by omega), rq_ladd (by omega) (by omega), rq_lsub (by omega) (by omega), q_pfr, Option.bind_some, q_gfr, Option.bind_some]
          have e4' : rt_up mm 248 7 (rq_w27 (rq_cs s b (b + i)) * 27 + s (b + i) - 96) 248 4 = ((b + i : Nat) : Int) := e1
          rw [e4', q_pfr, Option.bind_some, rq_n1 (by omega)]
          refine rq_some.mpr (rq_inl ⟨?_, by omega, hin, e5, ?_, (hf.up rfl).up rfl⟩)
          · rw [q_up, if_pos ⟨rfl, rfl⟩]; omega
          · rw [q_up, if_neg (by omega), q_up, if_pos ⟨rfl, rfl⟩]
            have : b + (if i + 1 < 8 then i + 1 else 8) = b + i + 1 := by split <;> omega
            rw [this, rq_cs_s, rq_w27_s]
            omega
        · rw [if_neg y] at e7
          rw [if_pos (by omega), Option.bind_some, q_pfr, Option.bind_some, rq_n1 (by omega)]
          refine rq_some.mpr (rq_inl ⟨?_, by omega, hin, e5, ?_, hf.up rfl⟩)
          · rw [q_up, if_pos ⟨rfl, rfl⟩]; omega
          · rw [q_up, if_neg (by omega), if_neg (by omega)]
            exact e7
  · rintro mm ⟨e1, e2, e3, e5, e7, hf⟩
    have s1 := rq_st_fr hs hf rq_wN2_st
    have t1 := rq_ty_fr ht hf
    unfold b_X12_nextToken_109
    rw [q_gfr, Option.bind_some, e1, q_signAt s1 t1 hn, if_neg (by omega), Option.bind_some, if_pos (by decide)]
    refine rq_some.mpr (rq_inre (fin (n - b) mm e1 e2 e3 (fun q => by omega) e5 (fun q => ?_) hf))
    rw [e7]
    by_cases y : n - b < 8
    · rw [if_pos y]
    · rw [if_neg y, show n - b = 8 by omega]
  · refine ⟨h4, by omega, fun q h1 h2 => by omega, h5, ?_, rq_fr.rfl⟩
    rw [h7]
    have : rq_cs s b (b + (if 0 < 8 then 0 else 8)) = [] := by
      rw [if_pos (by decide)]
      unfold rq_cs
      rw [Nat.add_zero, Nat.sub_self]
      rfl
    rw [this]
    rfl
end
