/-! Layer 3: the reference's realm, and its E at work -/
def rq_pk (l : List Int) : Int := l.foldl (fun v c => v * 128 + c) 0
def rq_w27 (l : List Int) : Int := l.foldl (fun v c => v * 27 + (c - 96)) 0
def rq_lt (l : List Int) : Prop := l ≠ [] ∧ l.length ≤ 8 ∧ ∀ c ∈ l, 97 ≤ c ∧ c ≤ 122
/-- the class's and the reference's number of one name -/
def rq_nm (v u : Int) : Prop := ∃ l, rq_lt l ∧ v = rq_pk l ∧ u = rq_w27 l
def rq_op (d : Nat) (m : rt_M) : rt_M := rt_up (rt_up (rt_up (rt_up (rt_up m 267 d 0) 269 d 0) 270 d 0) 271 d 20) 273 d 0
def rq_su (d : Nat) (m : rt_M) : rt_M := rt_up (rt_up m 270 d (if m 271 d = 21 then rt_isub (m 270 d) (m 272 d) else rt_iadd (m 270 d) (m 272 d))) 273 d 0
def rq_tv1 (d : Nat) (m : rt_M) : Int := if m 269 d = 24 then (if m 268 d < m 270 d then 1 else 0) else if m 269 d = 25 then (if m 268 d = m 270 d then 1 else 0) else m 270 d
def rq_tv (d : Nat) (m : rt_M) : Int := if m 267 d = 26 then (if m 266 d ≠ 0 ∧ rq_tv1 d m ≠ 0 then 1 else 0) else if m 267 d = 27 then (if m 266 d ≠ 0 ∨ rq_tv1 d m ≠ 0 then 1 else 0) else rq_tv1 d m
def rq_te1 (d : Nat) (m : rt_M) : rt_M := rt_up (rt_up (rt_up (rt_up m 266 d (rq_tv d m)) 269 d 0) 270 d 0) 271 d 20
def rq_te (d : Nat) (m : rt_M) : rt_M := rq_te1 d (rq_su d m)
def rq_nn (m : rt_M) : Nat → Int → Nat × Int
  | 0, v => (0, v)
  | d + 1, v => if m 274 (d + 1) = 1 then rq_nn m d (if v = 0 then 1 else 0) else (d + 1, v)
def rq_pv1 (p : Nat × Int) (m : rt_M) : Nat × rt_M := (p.1, rt_up m 272 p.1 (if m 273 p.1 = 0 then p.2 else rt_imul (m 272 p.1) p.2))
def rq_pv (d : Nat) (v : Int) (m : rt_M) : Nat × rt_M := rq_pv1 (rq_nn m d v) m
def rq_cmp (d : Nat) (c : Int) (m : rt_M) : rt_M := rt_up (rt_up (rt_up (rt_up m 268 d (m 270 d)) 269 d c) 270 d 0) 271 d 20
def rq_r1 (V : Int → Int) (c : Int) (s : Nat × rt_M) : Option (Nat × rt_M) :=
  if c = 28 ∨ c = 30 then (if s.1 < 6 then some (s.1 + 1, rq_op (s.1 + 1) (rt_up s.2 274 (s.1 + 1) (if c = 30 then 1 else 0))) else none)
  else if c = 20 ∨ c = 21 then some (s.1, rt_up (rq_su s.1 s.2) 271 s.1 c)
  else if c = 22 then some (s.1, rt_up s.2 273 s.1 c)
  else if c = 24 ∨ c = 25 then some (s.1, rq_cmp s.1 c (rq_su s.1 s.2))
  else if c = 26 ∨ c = 27 then some (s.1, rt_up (rq_te s.1 s.2) 267 s.1 c)
  else if c = 29 then (match s.1 with
    | 0 => none
    | d + 1 => some (rq_pv d ((rq_te (d + 1) s.2) 266 (d + 1)) (rq_te (d + 1) s.2)))
  else if 100 ≤ c then some (rq_pv s.1 (rt_isub c 100) s.2)
  else if 0 ≤ c ∧ c < 20 then some (rq_pv s.1 (V c) s.2)
  else none
def rq_rn (V : Int → Int) : List Int → Nat × rt_M → Option (Nat × rt_M)
  | [], s => some s
  | c :: cs, s => (rq_r1 V c s).bind (rq_rn V cs)
theorem rq_rn_app (V : Int → Int) (ds : List Int) : ∀ (cs : List Int) (s : Nat × rt_M), rq_rn V (cs ++ ds) s = (rq_rn V cs s).bind (rq_rn V ds)
  | [], s => rfl
  | c :: cs, s => by
    rw [List.cons_append, rq_rn, rq_rn]
    cases h : rq_r1 V c s with
    | none => rfl
    | some t => exact rq_rn_app V ds cs t
/-- codes that give F -/
def rq_rv (line : Nat) (cs : List Int) (F : Int → Int → Int → Int) : Prop := ∀ (a b c : Int) (V : Int → Int) (m : rt_M), rq_i a → rq_i b → rq_i c → V (3 * line + 1) = a → V (3 * line + 2) = b → V (3 * line + 3) = c → ∃ m', rq_rn V cs (0, rq_op 0 m) = some (0, m') ∧ rq_te 0 m' 266 0 = F a b c
def rq_lr (line : Nat) (D F : Int → Int → Int → Int) (m : rt_M) : Prop := (m 262 line ≤ m 261 line ∧ ∀ a b c, F a b c = D a b c) ∨ (m 261 line < m 262 line ∧ ∃ (k : Nat) (cs : List Int), m 261 line = (k : Int) ∧ m 262 line = ((k + cs.length : Nat) : Int) ∧ k + cs.length ≤ 1000 ∧ (∀ i (h : i < cs.length), m 263 (k + i) = cs[i]) ∧ rq_rv line cs F)
def rq_rr (ρ : rq_R) (m : rt_M) : Prop :=
  (m 250 0 = ρ.1 0 0 ∧ m 250 1 = ρ.1 0 1 ∧ m 250 2 = ρ.1 0 2 ∧ m 250 3 = ρ.1 0 3) ∧
  (∀ w : Nat, (w : Int) < ρ.1 0 0 → m 253 w = ρ.1 1 w ∧ m 254 w = ρ.1 2 w ∧ m 255 w = ρ.1 3 w ∧ rq_nm (ρ.1 9 w) (m 251 w)) ∧
  (∀ h : Nat, (h : Int) < ρ.1 0 1 → m 256 h = ρ.1 4 h ∧ m 257 h = ρ.1 5 h ∧ m 258 h = ρ.1 6 h ∧ m 259 h = ρ.1 7 h ∧ rq_nm (ρ.1 10 h) (m 252 h)) ∧
  (∀ i : Nat, (i : Int) < ρ.1 0 3 → m 260 i = ρ.1 8 i) ∧
  rq_lr 0 rq_dsw ρ.2.1 m ∧ rq_lr 1 rq_dju ρ.2.2 m
def rq_D (ρ : rq_R) (m : rt_M) : Prop := rq_st m ∧ rq_va ρ ∧ rq_rr ρ m
def rq_wF (k _j : Nat) : Bool := decide (266 ≤ k) && decide (k ≤ 275)
theorem rq_wF_st : (rq_P.all fun p => !(rq_wF p.1 p.2.1)) = true := by decide +kernel
theorem rq_lr_fr {line : Nat} {D F : Int → Int → Int → Int} {m m' : rt_M} (h : rq_lr line D F m) (k : ∀ j, m' 261 j = m 261 j) (k1 : ∀ j, m' 262 j = m 262 j) (k2 : ∀ j, m' 263 j = m 263 j) : rq_lr line D F m' := by
  unfold rq_lr
  simp only [k, k1, k2]
  exact h
theorem rq_rr_fr {ρ : rq_R} {m m' : rt_M} (h : rq_rr ρ m) (k : ∀ a j, 250 ≤ a → a ≤ 263 → m' a j = m a j) : rq_rr ρ m' := by
  obtain ⟨h0, h1, h2, h3, h4, h5⟩ := h
  refine ⟨?_, ?_, ?_, ?_, rq_lr_fr h4 (fun j => k _ j (by omega) (by omega)) (fun j => k _ j (by omega) (by omega)) (fun j => k _ j (by omega) (by omega)), rq_lr_fr h5 (fun j => k _ j (by omega) (by omega)) (fun j => k _ j (by omega) (by omega)) (fun j => k _ j (by omega) (by omega))⟩
  · simp only [k 250 _ (by omega) (by omega)]; exact h0
  · intro w hw
    simp only [k 253 _ (by omega) (by omega), k 254 _ (by omega) (by omega), k 255 _ (by omega) (by omega), k 251 _ (by omega) (by omega)]; exact h1 w hw
  · intro w hw
    simp only [k 256 _ (by omega) (by omega), k 257 _ (by omega) (by omega), k 258 _ (by omega) (by omega), k 259 _ (by omega) (by omega), k 252 _ (by omega) (by omega)]; exact h2 w hw
  · intro i hi
    simp only [k 260 _ (by omega) (by omega)]; exact h3 i hi
theorem rq_D_wF {ρ : rq_R} {m m' : rt_M} (h : rq_D ρ m) (k : rq_fr rq_wF m m') : rq_D ρ m' := by
  obtain ⟨hs, hv, hc⟩ := h
  refine ⟨rq_st_fr hs k rq_wF_st, hv, rq_rr_fr hc (fun a j h1 h2 => k a j ?_)⟩
  unfold rq_wF
  simp
  omega
section
variable {m : rt_M}
theorem q_gfr (j : Nat) : rt_gf 12 j 248 m = some (m 248 j) := rfl
theorem q_pfr (j : Nat) (v : Int) : rt_pf 12 j 248 v m = some (rt_up m 248 j v) := rfl
theorem q_a8 {k : Nat} (x : Int) (n : Nat) (hx : x = (k : Int)) (hk : rt_kd k = 1) (hl : rt_ln k = n) {j : Nat} (hj : j < n) : rt_al 1 x (j : Int) m = some (m k j) := by subst hx; exact q_al hk hl hj
theorem q_s8 {k : Nat} (x : Int) (n : Nat) (hx : x = (k : Int)) (hk : rt_kd k = 1) (hl : rt_ln k = n) {j : Nat} (hj : j < n) (v : Int) : rt_sa 1 x (j : Int) v m = some (rt_up m k j v) := by subst hx; exact q_sa hk hl hj
theorem q_opens (hs : rq_st m) {d : Nat} (hd : d < 7) : f_X12_opens 248 d m = some (rq_op d m) := by
  have s1 := rq_st_fr (W := rq_wF) hs (rq_fr.rfl.up (k := 267) (j := d) (v := 0) rfl) rq_wF_st
  have s2 := rq_st_fr (W := rq_wF) s1 (rq_fr.rfl.up (k := 269) (j := d) (v := 0) rfl) rq_wF_st
  have s3 := rq_st_fr (W := rq_wF) s2 (rq_fr.rfl.up (k := 270) (j := d) (v := 0) rfl) rq_wF_st
  have s4 := rq_st_fr (W := rq_wF) s3 (rq_fr.rfl.up (k := 271) (j := d) (v := 20) rfl) rq_wF_st
  unfold f_X12_opens rq_op
  rw [q_gfr, Option.bind_some, q_s8 (k := 267) _ 7 (pt_248_30 hs) kd_267 ln_267 hd, Option.bind_some, q_gfr, Option.bind_some, q_s8 (k := 269) _ 7 (pt_248_32 s1) kd_269 ln_269 hd, Option.bind_some, q_gfr, Option.bind_some, q_s8 (k := 270) _ 7 (pt_248_33 s2) kd_270 ln_270 hd, Option.bind_some, q_gfr, Option.bind_some, q_s8 (k := 271) _ 7 (pt_248_34 s3) kd_271 ln_271 hd, Option.bind_some, q_gfr, Option.bind_some, q_s8 (k := 273) _ 7 (pt_248_36 s4) kd_273 ln_273 hd, Option.bind_some]
theorem q_sums (hs : rq_st m) {d : Nat} (hd : d < 7) : f_X12_sums 248 d m = some (rq_su d m) := by
  have fin : ∀ v, j_X12_sums_45 248 d (m 248 33) d v m = some (rt_up (rt_up m 270 d v) 273 d 0) := by
    intro v
    have s1 := rq_st_fr (W := rq_wF) hs (rq_fr.rfl.up (k := 270) (j := d) (v := v) rfl) rq_wF_st
    unfold j_X12_sums_45
    rw [q_s8 (k := 270) _ 7 (pt_248_33 hs) kd_270 ln_270 hd, Option.bind_some, q_gfr, Option.bind_some, q_s8 (k := 273) _ 7 (pt_248_36 s1) kd_273 ln_273 hd, Option.bind_some]
  unfold f_X12_sums rq_su
  rw [q_gfr, Option.bind_some, q_gfr, Option.bind_some, q_a8 (k := 271) _ 7 (pt_248_34 hs) kd_271 ln_271 hd, Option.bind_some]
  by_cases q : m 271 d = 21
  · rw [if_pos q, if_pos q, Option.bind_some, q_a8 (k := 270) _ 7 (pt_248_33 hs) kd_270 ln_270 hd, Option.bind_some, q_gfr, Option.bind_some, q_a8 (k := 272) _ 7 (pt_248_35 hs) kd_272 ln_272 hd, Option.bind_some, fin]
  · rw [if_neg q, if_neg q, Option.bind_some, q_a8 (k := 270) _ 7 (pt_248_33 hs) kd_270 ln_270 hd, Option.bind_some, q_gfr, Option.bind_some, q_a8 (k := 272) _ 7 (pt_248_35 hs) kd_272 ln_272 hd, Option.bind_some, fin]
theorem rq_su_fr {d : Nat} : rq_fr rq_wF m (rq_su d m) := by unfold rq_su; exact (rq_fr.rfl.up rfl).up rfl
theorem rq_te1_fr {d : Nat} : rq_fr rq_wF m (rq_te1 d m) := by unfold rq_te1; exact (((rq_fr.rfl.up rfl).up rfl).up rfl).up rfl
theorem rq_te_fr {d : Nat} : rq_fr rq_wF m (rq_te d m) := rq_su_fr.trans rq_te1_fr
theorem rq_op_fr {d : Nat} : rq_fr rq_wF m (rq_op d m) := by unfold rq_op; exact ((((rq_fr.rfl.up rfl).up rfl).up rfl).up rfl).up rfl
theorem rq_pv_fr {d : Nat} {v : Int} : rq_fr rq_wF m (rq_pv d v m).2 := by unfold rq_pv rq_pv1; exact rq_fr.rfl.up rfl
theorem q_tests (hs : rq_st m) {d : Nat} (hd : d < 7) : f_X12_tests 248 d m = some (rq_te d m) := by
  unfold f_X12_tests
  rw [q_sums hs hd, Option.bind_some]
  unfold rq_te
  generalize hm : rq_su d m = m1
  have hs1 : rq_st m1 := by rw [← hm]; exact rq_st_fr hs rq_su_fr rq_wF_st
  have fin : ∀ v, j_X12_tests_136 248 d v m1 = some (rt_up (rt_up (rt_up (rt_up m1 266 d v) 269 d 0) 270 d 0) 271 d 20) := by
    intro v
    have s1 := rq_st_fr (W := rq_wF) hs1 (rq_fr.rfl.up (k := 266) (j := d) (v := v) rfl) rq_wF_st
    have s2 := rq_st_fr (W := rq_wF) s1 (rq_fr.rfl.up (k := 269) (j := d) (v := 0) rfl) rq_wF_st
    have s3 := rq_st_fr (W := rq_wF) s2 (rq_fr.rfl.up (k := 270) (j := d) (v := 0) rfl) rq_wF_st
    unfold j_X12_tests_136
    rw [q_gfr, Option.bind_some, q_s8 (k := 266) _ 7 (pt_248_29 hs1) kd_266 ln_266 hd, Option.bind_some, q_gfr, Option.bind_some, q_s8 (k := 269) _ 7 (pt_248_32 s1) kd_269 ln_269 hd, Option.bind_some, q_gfr, Option.bind_some, q_s8 (k := 270) _ 7 (pt_248_33 s2) kd_270 ln_270 hd, Option.bind_some, q_gfr, Option.bind_some, q_s8 (k := 271) _ 7 (pt_248_34 s3) kd_271 ln_271 hd, Option.bind_some]
  have f2 : ∀ v, j_X12_tests_76 248 d v m1 = some (rt_up (rt_up (rt_up (rt_up m1 266 d (if m1 267 d = 26 then (if m1 266 d ≠ 0 ∧ v ≠ 0 then 1 else 0) else if m1 267 d = 27 then (if m1 266 d ≠ 0 ∨ v ≠ 0 then 1 else 0) else v)) 269 d 0) 270 d 0) 271 d 20) := by
    intro v
    have f106 : m1 267 d ≠ 26 → j_X12_tests_106 248 d v m1 = some (rt_up (rt_up (rt_up (rt_up m1 266 d (if m1 267 d = 26 then (if m1 266 d ≠ 0 ∧ v ≠ 0 then 1 else 0) else if m1 267 d = 27 then (if m1 266 d ≠ 0 ∨ v ≠ 0 then 1 else 0) else v)) 269 d 0) 270 d 0) 271 d 20) := by
      intro q
      unfold j_X12_tests_106
      rw [q_gfr, Option.bind_some, q_a8 (k := 267) _ 7 (pt_248_30 hs1) kd_267 ln_267 hd, Option.bind_some, if_neg q]
      by_cases q2 : m1 267 d = 27
      · rw [if_pos q2, if_pos q2, q_gfr, Option.bind_some, q_a8 (k := 266) _ 7 (pt_248_29 hs1) kd_266 ln_266 hd, Option.bind_some]
        unfold j_X12_tests_130 j_X12_tests_135
        by_cases q3 : m1 266 d = 0
        · rw [if_pos q3]
          by_cases q4 : v = 0
          · rw [if_pos q4, fin, if_neg (fun z => z.elim (fun y => y q3) (fun y => y q4))]
          · rw [if_neg q4, fin, if_pos (Or.inr q4)]
        · rw [if_neg q3, fin, if_pos (Or.inl q3)]
      · rw [if_neg q2, if_neg q2, fin]
    unfold j_X12_tests_76
    rw [q_gfr, Option.bind_some, q_a8 (k := 267) _ 7 (pt_248_30 hs1) kd_267 ln_267 hd, Option.bind_some]
    by_cases q : m1 267 d = 26
    · rw [if_pos q, if_pos q, q_gfr, Option.bind_some, q_a8 (k := 266) _ 7 (pt_248_29 hs1) kd_266 ln_266 hd, Option.bind_some]
      have g : ∀ u, j_X12_tests_105 248 d u m1 = some (rt_up (rt_up (rt_up (rt_up m1 266 d u) 269 d 0) 270 d 0) 271 d 20) := by
        intro u
        unfold j_X12_tests_105 j_X12_tests_106
        rw [q_gfr, Option.bind_some, q_a8 (k := 267) _ 7 (pt_248_30 hs1) kd_267 ln_267 hd, Option.bind_some, if_neg (by rw [q]; decide), fin]
      unfold j_X12_tests_104
      by_cases q3 : m1 266 d = 0
      · rw [if_pos q3, g, if_neg (fun z => z.1 q3)]
      · rw [if_neg q3]
        by_cases q4 : v = 0
        · rw [if_pos q4, g, if_neg (fun z => z.2 q4)]
        · rw [if_neg q4, g, if_pos ⟨q3, q4⟩]
    · rw [if_neg q, f106 q]
  have f44 : ∀ v, m1 269 d ≠ 25 → j_X12_tests_44 248 d v m1 = j_X12_tests_76 248 d v m1 := by
    intro v q
    unfold j_X12_tests_44
    rw [q_gfr, Option.bind_some, q_a8 (k := 269) _ 7 (pt_248_32 hs1) kd_269 ln_269 hd, Option.bind_some, if_neg q]
  unfold rq_te1 rq_tv
  rw [q_gfr, Option.bind_some, q_a8 (k := 270) _ 7 (pt_248_33 hs1) kd_270 ln_270 hd, Option.bind_some, q_gfr, Option.bind_some, q_a8 (k := 269) _ 7 (pt_248_32 hs1) kd_269 ln_269 hd, Option.bind_some]
  by_cases q : m1 269 d = 24
  · rw [if_pos q, q_gfr, Option.bind_some, q_a8 (k := 268) _ 7 (pt_248_31 hs1) kd_268 ln_268 hd, Option.bind_some, Option.bind_some, q_a8 (k := 270) _ 7 (pt_248_33 hs1) kd_270 ln_270 hd, Option.bind_some]
    unfold j_X12_tests_43
    rw [f44 _ (by omega), f44 _ (by omega), f2, f2]
    have e : rq_tv1 d m1 = if m1 270 d ≤ m1 268 d then 0 else 1 := by
      unfold rq_tv1; rw [if_pos q]
      by_cases z : m1 270 d ≤ m1 268 d
      · rw [if_neg (by omega), if_pos z]
      · rw [if_pos (by omega), if_neg z]
    rw [e]
    by_cases z : m1 270 d ≤ m1 268 d
    · rw [if_pos z, if_pos z]
    · rw [if_neg z, if_neg z]
  · rw [if_neg q]
    by_cases q2 : m1 269 d = 25
    · unfold j_X12_tests_44
      rw [q_gfr, Option.bind_some, q_a8 (k := 269) _ 7 (pt_248_32 hs1) kd_269 ln_269 hd, Option.bind_some, if_pos q2, q_gfr, Option.bind_some, q_a8 (k := 268) _ 7 (pt_248_31 hs1) kd_268 ln_268 hd, Option.bind_some, q_gfr, Option.bind_some, q_a8 (k := 270) _ 7 (pt_248_33 hs1) kd_270 ln_270 hd, Option.bind_some]
      unfold j_X12_tests_75
      rw [f2, f2]
      have e : rq_tv1 d m1 = if m1 268 d = m1 270 d then 1 else 0 := by
        unfold rq_tv1; rw [if_neg q, if_pos q2]
      rw [e]
      by_cases z : m1 268 d = m1 270 d
      · rw [if_pos z, if_pos z]
      · rw [if_neg z, if_neg z]
    · rw [f44 _ q2, f2]
      have e : rq_tv1 d m1 = m1 270 d := by
        unfold rq_tv1; rw [if_neg q, if_neg q2]
      rw [e]
end
