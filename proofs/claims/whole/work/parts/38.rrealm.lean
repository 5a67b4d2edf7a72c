/-! Layer 3: the reference's girths and fits -/
section
variable {ρ : rq_R} {m : rt_M}
theorem q_a9 {k : Nat} (x i : Int) (n j : Nat) (hx : x = (k : Int)) (hk : rt_kd k = 1) (hl : rt_ln k = n) (hi : i = (j : Int)) (hj : j < n) : rt_al 1 x i m = some (m k j) := by subst hi; exact q_a8 x n hx hk hl hj
theorem q_s9 {k : Nat} (x i : Int) (n j : Nat) (hx : x = (k : Int)) (hk : rt_kd k = 1) (hl : rt_ln k = n) (hi : i = (j : Int)) (hj : j < n) (v : Int) : rt_sa 1 x i v m = some (rt_up m k j v) := by subst hi; exact q_s8 x n hx hk hl hj v
theorem q_within (v a b : Int) : f_X12_within v a b m = some (if a ≤ v ∧ v ≤ b then 1 else 0) := by
  unfold f_X12_within j_X12_within_14
  by_cases h1 : v < a
  · rw [if_pos h1, if_neg (by omega)]; rfl
  · rw [if_neg h1]
    by_cases h2 : b < v
    · rw [if_pos h2, if_neg (by omega)]; rfl
    · rw [if_neg h2, if_pos (by omega)]; rfl
theorem q_withinT {v a b : Int} (h : a ≤ v) (k : v ≤ b) : f_X12_within v a b m = some 1 := by rw [q_within, if_pos ⟨h, k⟩]
theorem q_withinF {v a b : Int} (h : ¬ (a ≤ v ∧ v ≤ b)) : f_X12_within v a b m = some 0 := by rw [q_within, if_neg h]
theorem q_between (v : Int) : f_X12_between v (-9) 9 m = some (rq_cl v) := by
  unfold f_X12_between rq_cl j_X12_between_19
  by_cases h1 : -9 ≤ v
  · rw [if_pos h1]
    by_cases h2 : v ≤ 9
    · rw [if_pos h2]
      congr 1
      split <;> split <;> omega
    · rw [if_neg h2]
      congr 1
      split <;> split <;> omega
  · rw [if_neg h1]
    congr 1
    split <;> split <;> omega
theorem q_rn0 (h : rq_D ρ m) (i : Int) (hi : i = 0) : rt_al 1 (m 248 10) i m = some (ρ.1 0 0) := by
  subst hi
  rw [q_a9 (k := 250) _ 0 8 0 (pt_248_10 h.1) kd_250 ln_250 rfl (by decide), h.2.2.1.1]
theorem q_rn1 (h : rq_D ρ m) (i : Int) (hi : i = 1) : rt_al 1 (m 248 10) i m = some (ρ.1 0 1) := by
  subst hi
  rw [q_a9 (k := 250) _ 1 8 1 (pt_248_10 h.1) kd_250 ln_250 rfl (by decide), h.2.2.1.2.1]
theorem q_rn2 (h : rq_D ρ m) (i : Int) (hi : i = 2) : rt_al 1 (m 248 10) i m = some (ρ.1 0 2) := by
  subst hi
  rw [q_a9 (k := 250) _ 2 8 2 (pt_248_10 h.1) kd_250 ln_250 rfl (by decide), h.2.2.1.2.2.1]
theorem q_rn3 (h : rq_D ρ m) (i : Int) (hi : i = 3) : rt_al 1 (m 248 10) i m = some (ρ.1 0 3) := by
  subst hi
  rw [q_a9 (k := 250) _ 3 8 3 (pt_248_10 h.1) kd_250 ln_250 rfl (by decide), h.2.2.1.2.2.2]
theorem q_riw (h : rq_D ρ m) (a : Int) : f_X12_isWig 248 a m = some (if 0 ≤ a ∧ a < ρ.1 0 0 then 1 else 0) := by
  unfold f_X12_isWig j_X12_isWig_18
  by_cases h1 : a < 0
  · rw [if_pos h1, if_neg (by omega)]; rfl
  · rw [if_neg h1, q_gfr, Option.bind_some, q_rn0 h 0 rfl, Option.bind_some]
    by_cases h2 : ρ.1 0 0 ≤ a
    · rw [if_pos h2, if_neg (by omega)]; rfl
    · rw [if_neg h2, if_pos (by omega)]; rfl
theorem q_rih (h : rq_D ρ m) (a : Int) : f_X12_isHead 248 a m = some (if 0 ≤ a ∧ a < ρ.1 0 1 then 1 else 0) := by
  unfold f_X12_isHead j_X12_isHead_18
  by_cases h1 : a < 0
  · rw [if_pos h1, if_neg (by omega)]; rfl
  · rw [if_neg h1, q_gfr, Option.bind_some, q_rn1 h 1 rfl, Option.bind_some]
    by_cases h2 : ρ.1 0 1 ≤ a
    · rw [if_pos h2, if_neg (by omega)]; rfl
    · rw [if_neg h2, if_pos (by omega)]; rfl
theorem q_riwT (h : rq_D ρ m) {a : Int} (h0 : 0 ≤ a) (h1 : a < ρ.1 0 0) : f_X12_isWig 248 a m = some 1 := by rw [q_riw h, if_pos ⟨h0, h1⟩]
theorem q_riwF (h : rq_D ρ m) {a : Int} (h0 : ¬ (0 ≤ a ∧ a < ρ.1 0 0)) : f_X12_isWig 248 a m = some 0 := by rw [q_riw h, if_neg h0]
theorem q_rihT (h : rq_D ρ m) {a : Int} (h0 : 0 ≤ a) (h1 : a < ρ.1 0 1) : f_X12_isHead 248 a m = some 1 := by rw [q_rih h, if_pos ⟨h0, h1⟩]
theorem q_rihF (h : rq_D ρ m) {a : Int} (h0 : ¬ (0 ≤ a ∧ a < ρ.1 0 1)) : f_X12_isHead 248 a m = some 0 := by rw [q_rih h, if_neg h0]
theorem q_heatIn (h : rq_D ρ m) {t : Nat} (ht : t < 2000000) : f_X12_heatIn 248 t m = some (rq_ht ρ t) := by
  have hb := h.2.1.1
  unfold f_X12_heatIn rq_ht j_X12_heatIn_26
  rw [q_gfr, Option.bind_some, q_rn3 h 3 rfl, Option.bind_some]
  by_cases h0 : ρ.1 0 3 = 0
  · rw [if_pos h0, if_pos h0]
  · have hn : 0 < (ρ.1 0 3).toNat := by omega
    have hm := Nat.mod_lt t hn
    have e : (t : Int) % ρ.1 0 3 = ((t % (ρ.1 0 3).toNat : Nat) : Int) := by
      rw [Int.natCast_emod, Int.toNat_of_nonneg (by omega)]
    rw [if_neg h0, if_neg h0, q_gfr, Option.bind_some, Option.bind_some, q_rn3 h 3 rfl, Option.bind_some, if_neg h0, rq_irem (by omega) (by omega) (by omega) (by omega), e, q_a8 (k := 260) _ 24 (pt_248_20 h.1) kd_260 ln_260 (by omega), Option.bind_some, h.2.2.2.2.2.1 _ (by omega)]
theorem q_girthIn (h : rq_D ρ m) {k t : Nat} (hk : (k : Int) < ρ.1 0 1) (ht : t < 1000000) : rq (f_X12_girthIn 248 k t m) (fun p => p.1 = rq_gi ρ k t ∧ rq_fr rq_wF m p.2) := by
  have hb := h.2.1.1
  have hvh := h.2.1.2.2.1 k hk
  have hhb := rq_ht_b h.2.1 t
  have t4 : rt_idiv (t : Int) 4 = ((t / 4 : Nat) : Int) := by rw [rq_idiv (by omega) (by omega) (by decide) (by decide)]; omega
  have tb : t / 4 < 250000 := by omega
  have fin : ∀ {m1 : rt_M} (x : Int), rq_D ρ m1 → rq_fr rq_wF m m1 → x = ρ.2.1 (rq_ht ρ t) (ρ.1 6 k + ((t / 4 : Nat) : Int)) (ρ.1 4 k) → rq (j_X12_girthIn_82 248 k t x m1) (fun p => p.1 = rq_gi ρ k t ∧ rq_fr rq_wF m p.2) := by
    intro m1 x h1 hf hx
    have hr := h1.2.2.2.2.1 k hk
    have hcl := rq_cl_b x
    unfold j_X12_girthIn_82 rq_gi
    rw [q_gfr, Option.bind_some, q_a8 (k := 257) _ 12 (pt_248_17 h1.1) kd_257 ln_257 (by omega), Option.bind_some, q_between, Option.bind_some, q_gfr, Option.bind_some, q_a8 (k := 256) _ 12 (pt_248_16 h1.1) kd_256 ln_256 (by omega), Option.bind_some, hr.1, hr.2.1, t4, ← hx]
    rw [rq_iadd (x := ρ.1 5 k) (y := rq_cl x) (by omega) (by omega)]
    have last : ∀ y : Int, -2000000 ≤ y → y ≤ 2000000 → rq (j_X12_girthIn_115 248 k (ρ.1 5 k + rq_cl x) y m1) (fun p => p.1 = ρ.1 5 k + rq_cl x + y - (if ρ.1 4 k = 2 then 1 else 0) ∧ rq_fr rq_wF m p.2) := by
      intro y y1 y2
      unfold j_X12_girthIn_115 j_X12_girthIn_131
      rw [q_gfr, Option.bind_some, q_a8 (k := 256) _ 12 (pt_248_16 h1.1) kd_256 ln_256 (by omega), Option.bind_some, hr.1, rq_iadd (by omega) (by omega)]
      by_cases q : ρ.1 4 k = 2
      · rw [if_pos q, if_pos q, rq_isub (by omega) (by omega)]; exact rq_some.mpr ⟨rfl, hf⟩
      · rw [if_neg q, if_neg q, rq_isub (by omega) (by omega)]; exact rq_some.mpr ⟨rfl, hf⟩
    by_cases q3 : ρ.1 4 k = 3
    · rw [if_pos q3, if_pos q3]; exact last _ (by omega) (by omega)
    · rw [if_neg q3, if_neg q3]; exact last _ (by omega) (by omega)
  have mid : ∀ x : Int, x = rq_dsw (rq_ht ρ t) (ρ.1 6 k + ((t / 4 : Nat) : Int)) (ρ.1 4 k) → rq (j_X12_girthIn_23 248 k t (rq_ht ρ t) x m) (fun p => p.1 = rq_gi ρ k t ∧ rq_fr rq_wF m p.2) := by
    intro x hx
    unfold j_X12_girthIn_23
    rw [q_gfr, Option.bind_some, q_a9 (k := 262) _ 0 4 0 (pt_248_22 h.1) kd_262 ln_262 rfl (by decide), Option.bind_some, q_gfr, Option.bind_some, q_a9 (k := 261) _ 0 4 0 (pt_248_21 h.1) kd_261 ln_261 rfl (by decide), Option.bind_some]
    rcases h.2.2.2.2.2.2.1 with ⟨e6, hF⟩ | ⟨e6, k0, cs, e5, e7, hl, hcs, hev⟩
    · rw [if_pos e6]
      exact fin x h rq_fr.rfl (by rw [hx, hF])
    · have hr := h.2.2.2.2.1 k hk
      have s1 := rq_st_fr (W := rq_wF) h.1 (rq_fr.rfl.up (k := 275) (j := 1) (v := rq_ht ρ t) rfl) rq_wF_st
      have s2 := rq_st_fr (W := rq_wF) s1 (rq_fr.rfl.up (k := 275) (j := 2) (v := ρ.1 6 k + ((t / 4 : Nat) : Int)) rfl) rq_wF_st
      have f3 : rq_fr rq_wF m (rt_up (rt_up (rt_up m 275 1 (rq_ht ρ t)) 275 2 (ρ.1 6 k + ((t / 4 : Nat) : Int))) 275 3 (ρ.1 4 k)) := ((rq_fr.rfl.up rfl).up rfl).up rfl
      have s3 := rq_st_fr h.1 f3 rq_wF_st
      rw [if_neg (by omega), q_gfr, Option.bind_some, q_s9 (k := 275) _ 1 20 1 (pt_248_38 h.1) kd_275 ln_275 rfl (by decide), Option.bind_some, q_gfr, Option.bind_some, q_gfr, Option.bind_some, q_a8 (k := 258) _ 12 (pt_248_18 s1) kd_258 ln_258 (by omega), Option.bind_some, show rt_up m 275 1 (rq_ht ρ t) 258 k = ρ.1 6 k from hr.2.2.1, t4, rq_iadd (by omega) (by omega), q_s9 (k := 275) _ 2 20 2 (pt_248_38 s1) kd_275 ln_275 rfl (by decide), Option.bind_some, q_gfr, Option.bind_some, q_gfr, Option.bind_some, q_a8 (k := 256) _ 12 (pt_248_16 s2) kd_256 ln_256 (by omega), Option.bind_some, show rt_up (rt_up m 275 1 (rq_ht ρ t)) 275 2 (ρ.1 6 k + ((t / 4 : Nat) : Int)) 256 k = ρ.1 4 k from hr.1, q_s9 (k := 275) _ 3 20 3 (pt_248_38 s2) kd_275 ln_275 rfl (by decide), Option.bind_some]
      refine rq_call (q_worked s3 (line := 0) (by decide) e5 e7 hl hcs hev (a := rq_ht ρ t) (b := ρ.1 6 k + ((t / 4 : Nat) : Int)) (c := ρ.1 4 k) (by unfold rq_i; omega) (by unfold rq_i; omega) (by unfold rq_i; omega) rfl rfl rfl) ?_
      rintro ⟨y, m1⟩ ⟨rfl, hf⟩
      exact fin _ (rq_D_wF h (f3.trans hf)) (f3.trans hf) rfl
  have hr := h.2.2.2.2.1 k hk
  unfold f_X12_girthIn
  rw [q_heatIn h (by omega), Option.bind_some, q_gfr, Option.bind_some, q_a8 (k := 256) _ 12 (pt_248_16 h.1) kd_256 ln_256 (by omega), Option.bind_some, hr.1]
  by_cases q1 : ρ.1 4 k = 1
  · rw [if_pos q1]
    exact mid _ (by unfold rq_dsw; rw [if_pos q1])
  · rw [if_neg q1]
    exact mid _ (by unfold rq_dsw; rw [if_neg q1])
theorem q_tiltIn (h : rq_D ρ m) {w k t : Nat} (hw : (w : Int) < ρ.1 0 0) (hk : (k : Int) < ρ.1 0 1) (ht : t < 1000000) : rq (f_X12_tiltIn 248 w k t m) (fun p => p.1 = rq_ti ρ w k t ∧ rq_fr rq_wF m p.2) := by
  have hb := h.2.1.1
  have hvw := h.2.1.2.1 w hw
  have hg := rq_gi_b h.2.1 hk ht
  unfold f_X12_tiltIn rq_ti
  rw [q_gfr, Option.bind_some, q_a8 (k := 253) _ 12 (pt_248_13 h.1) kd_253 ln_253 (by omega), Option.bind_some, (h.2.2.2.1 w hw).1]
  refine rq_call (q_girthIn h hk ht) ?_
  rintro ⟨g, m1⟩ ⟨rfl, hf⟩
  dsimp only
  rw [rq_isub (by omega) (by omega)]
  exact rq_some.mpr ⟨rfl, hf⟩
theorem q_fitsIn (h : rq_D ρ m) {w k t : Nat} (hw : (w : Int) < ρ.1 0 0) (hk : (k : Int) < ρ.1 0 1) (ht : t < 1000000) : rq (f_X12_fitsIn 248 w k t m) (fun p => p.1 = rq_fi ρ w k t ∧ rq_fr rq_wF m p.2) := by
  unfold f_X12_fitsIn
  refine rq_call (q_tiltIn h hw hk ht) ?_
  rintro ⟨g, m1⟩ ⟨rfl, hf⟩
  dsimp only
  have h1 : rq_D ρ m1 := rq_D_wF h hf
  rw [q_gfr, Option.bind_some, q_rn2 h1 2 rfl, Option.bind_some, q_within, Option.bind_some]
  unfold rq_fi
  refine rq_bind.mpr (rq_bz.mpr ⟨?_, rq_some.mpr ⟨rfl, hf⟩⟩)
  split
  · exact Or.inr rfl
  · exact Or.inl rfl
theorem q_risFor (h : rq_D ρ m) {lean hard : Int} (hl : 0 ≤ lean ∧ lean ≤ 9) (hh : 0 ≤ hard ∧ hard ≤ 9) {k : Nat} (hk : (k : Int) < ρ.1 0 1) : rq (f_X12_isFor 248 lean k hard m) (fun p => p.1 = rq_jf ρ lean k hard ∧ rq_fr rq_wF m p.2) := by
  have hb := h.2.1.1
  have hvh := h.2.1.2.2.1 k hk
  have hr := h.2.2.2.2.1 k hk
  have fin : ∀ (x : Int) (m1 : rt_M), rq_fr rq_wF m m1 → x = ρ.2.2 lean (ρ.1 7 k) hard → rq (j_X12_isFor_71 x m1) (fun p => p.1 = rq_jf ρ lean k hard ∧ rq_fr rq_wF m p.2) := by
    intro x m1 hf hx
    unfold j_X12_isFor_71 j_X12_isFor_81 rq_jf
    rw [← hx]
    by_cases q : x = 0
    · rw [if_pos q, if_pos q]; exact rq_some.mpr ⟨rfl, hf⟩
    · rw [if_neg q, if_neg q]; exact rq_some.mpr ⟨rfl, hf⟩
  have mid : ∀ x : Int, x = rq_dju lean (ρ.1 7 k) hard → rq (j_X12_isFor_20 248 lean k hard x m) (fun p => p.1 = rq_jf ρ lean k hard ∧ rq_fr rq_wF m p.2) := by
    intro x hx
    unfold j_X12_isFor_20
    rw [q_gfr, Option.bind_some, q_a9 (k := 262) _ 1 4 1 (pt_248_22 h.1) kd_262 ln_262 rfl (by decide), Option.bind_some, q_gfr, Option.bind_some, q_a9 (k := 261) _ 1 4 1 (pt_248_21 h.1) kd_261 ln_261 rfl (by decide), Option.bind_some]
    rcases h.2.2.2.2.2.2.2 with ⟨e6, hF⟩ | ⟨e6, k0, cs, e5, e7, hl2, hcs, hev⟩
    · rw [if_pos e6]
      exact fin x m rq_fr.rfl (by rw [hx, hF])
    · have s1 := rq_st_fr (W := rq_wF) h.1 (rq_fr.rfl.up (k := 275) (j := 4) (v := lean) rfl) rq_wF_st
      have s2 := rq_st_fr (W := rq_wF) s1 (rq_fr.rfl.up (k := 275) (j := 5) (v := ρ.1 7 k) rfl) rq_wF_st
      have f3 : rq_fr rq_wF m (rt_up (rt_up (rt_up m 275 4 lean) 275 5 (ρ.1 7 k)) 275 6 hard) := ((rq_fr.rfl.up rfl).up rfl).up rfl
      have s3 := rq_st_fr h.1 f3 rq_wF_st
      rw [if_neg (by omega), q_gfr, Option.bind_some, q_s9 (k := 275) _ 4 20 4 (pt_248_38 h.1) kd_275 ln_275 rfl (by decide), Option.bind_some, q_gfr, Option.bind_some, q_gfr, Option.bind_some, q_a8 (k := 259) _ 12 (pt_248_19 s1) kd_259 ln_259 (by omega), Option.bind_some, show rt_up m 275 4 lean 259 k = ρ.1 7 k from hr.2.2.2.1, q_s9 (k := 275) _ 5 20 5 (pt_248_38 s1) kd_275 ln_275 rfl (by decide), Option.bind_some, q_gfr, Option.bind_some, q_s9 (k := 275) _ 6 20 6 (pt_248_38 s2) kd_275 ln_275 rfl (by decide), Option.bind_some]
      refine rq_call (q_worked s3 (line := 1) (by decide) e5 e7 hl2 hcs hev (a := lean) (b := ρ.1 7 k) (c := hard) (by unfold rq_i; omega) (by unfold rq_i; omega) (by unfold rq_i; omega) rfl rfl rfl) ?_
      rintro ⟨y, m1⟩ ⟨rfl, hf⟩
      exact fin _ m1 (f3.trans hf) rfl
  unfold f_X12_isFor
  rw [q_gfr, Option.bind_some, q_a8 (k := 259) _ 12 (pt_248_19 h.1) kd_259 ln_259 (by omega), Option.bind_some, hr.2.2.2.1]
  by_cases q : rt_imul (ρ.1 7 k) 9 ≤ rt_imul lean hard
  · rw [if_pos q]; exact mid _ (by unfold rq_dju; rw [if_pos q])
  · rw [if_neg q]; exact mid _ (by unfold rq_dju; rw [if_neg q])
end
