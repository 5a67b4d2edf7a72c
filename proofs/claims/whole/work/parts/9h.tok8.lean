/-! Layer 3: what both ask of a token -/
/-- a place where a token may begin -/
def rq_bp (s : Nat → Int) (n b : Nat) : Prop := b ≤ n ∧ (b < n → rq_bla (s b) = false)
section
variable {m : rt_M} {s : Nat → Int} {n b : Nat}
theorem rq_bp_sk {p : Nat} (hp : p ≤ n) : rq_bp s n (rq_sk' s n p) := ⟨(rq_sk_b hp).2, fun h => rq_ru_at h⟩
theorem rq_bp_nx (hb : b < n) : rq_bp s n (rq_nxp s n b) := rq_bp_sk (rq_en_b hb).2
theorem rq_kd_37 : rq_kd s n b = 37 ↔ ¬ b < n := by
  constructor
  · intro h hb
    unfold rq_kd at h
    rw [if_pos hb] at h
    split at h
    · split at h <;> omega
    · split at h
      · split at h
        · split at h <;> omega
        · rename_i q
          obtain ⟨i, hi, e, -⟩ := rq_spf_in q
          omega
      · omega
  · intro h
    unfold rq_kd
    rw [if_neg h]
theorem rq_kd_c2 (hok : rq_okT s n) (hp : rq_bp s n b) : (rq_tn s n b = 0 ∧ rq_kd s n b = 37 ∧ ¬ b < n) ∨
    (rq_tn s n b = 1 ∧ b < n ∧ rq_lt (rq_tl s n b) ∧ rq_vl s n b = rq_pk (rq_tl s n b) ∧ ((rq_kd s n b = 35 ∧ ∀ W, W < 27 → rq_w27 (rq_tl s n b) ≠ rq_W27 W) ∨ ∃ W : Nat, W < 27 ∧ rq_kd s n b = (W : Int) ∧ rq_w27 (rq_tl s n b) = rq_W27 W)) ∨
    (rq_tn s n b = 2 ∧ b < n ∧ rq_kd s n b = 36 ∧ rq_vl s n b = rq_w10 (rq_tl s n b) ∧ 0 ≤ rq_vl s n b ∧ rq_vl s n b ≤ 9999) ∨
    (rq_tn s n b = 3 ∧ b < n ∧ ∃ W : Nat, 27 ≤ W ∧ W < 35 ∧ rq_kd s n b = (W : Int) ∧ s b = rt_wp W) ∨
    (rq_tn s n b = 4 ∧ b < n ∧ rq_kd s n b = 38) := by
  rcases rq_kd_c (b := b) hok with h | h | h | h | h | ⟨h1, h2⟩
  · exact Or.inl h
  · exact Or.inr (Or.inl h)
  · exact Or.inr (Or.inr (Or.inl h))
  · exact Or.inr (Or.inr (Or.inr (Or.inl h)))
  · exact Or.inr (Or.inr (Or.inr (Or.inr h)))
  · rw [hp.2 h1] at h2; cases h2
theorem rq_W27_inj : ∀ i, i < 27 → ∀ j, j < 27 → rq_W27 i = rq_W27 j → i = j := by decide +kernel
theorem rq_W27_b : ∀ i, i < 27 → 0 ≤ rq_W27 i ∧ rq_W27 i < 400000000 := by decide +kernel
theorem rq_lt_b {l : List Int} (h : rq_lt l) : 0 ≤ rq_w27 l ∧ rq_w27 l < 282429536481 ∧ 0 ≤ rq_pk l ∧ rq_pk l < 72057594037927936 := by
  obtain ⟨h1, h2, h3⟩ := h
  have a := (rq_w27_pos _ l rfl h3).1
  have c := rq_w27_b _ l rfl h3
  have d := rq_pk_b _ l rfl (fun c hc => by have := h3 c hc; omega)
  have p : (27 : Int) ^ l.length ≤ 282429536481 ∧ (128 : Int) ^ l.length ≤ 72057594037927936 := by
    have : l.length = 0 ∨ l.length = 1 ∨ l.length = 2 ∨ l.length = 3 ∨ l.length = 4 ∨ l.length = 5 ∨ l.length = 6 ∨ l.length = 7 ∨ l.length = 8 := by omega
    rcases this with q | q | q | q | q | q | q | q | q <;> rw [q] <;> exact ⟨by decide, by decide⟩
  omega
theorem q_isWord (hok : rq_okT s n) (hp : rq_bp s n b) (h : rq_ts s n b m) {W : Nat} (hW : W < 27) {c : Int} (hc : c = rq_W27 W) : f_X12_isWord 248 c m = some (if rq_kd s n b = (W : Int) then 1 else 0) := by
  subst hc
  obtain ⟨-, -, -, h6, h7, -⟩ := h
  have wb := rq_W27_b W hW
  unfold f_X12_isWord j_X12_isWord_21 j_X12_isWord_22
  rw [q_gfr, Option.bind_some, h6]
  rcases rq_kd_c2 hok hp with ⟨t, k, -⟩ | ⟨t, -, lt, -, k⟩ | ⟨t, -, k, -⟩ | ⟨t, -, W', w1, w2, k, -⟩ | ⟨t, -, k⟩
  · rw [if_neg (by omega), q_bz0, if_neg (by omega)]
  · have lb := rq_lt_b lt
    rw [if_pos t, q_gfr, Option.bind_some, h7 t]
    have e := rq_lcmp0 (x := rq_w27 (rq_tl s n b)) (y := rq_W27 W) (by omega) (by omega) (by omega) (by omega)
    rcases k with ⟨k, no⟩ | ⟨W', hW', k, ew⟩
    · rw [if_neg (fun q => no W hW (e.mp q)), q_bz0, if_neg (by omega)]
    · by_cases z : W' = W
      · rw [if_pos (e.mpr (by rw [ew, z])), q_bz1, if_pos (by omega)]
      · rw [if_neg (fun q => z (rq_W27_inj W' hW' W hW (by rw [← ew]; exact e.mp q))), q_bz0, if_neg (by omega)]
  · rw [if_neg (by omega), q_bz0, if_neg (by omega)]
  · rw [if_neg (by omega), q_bz0, if_neg (by omega)]
  · rw [if_neg (by omega), q_bz0, if_neg (by omega)]
theorem q_isSign (hs : rq_st m) (ht : rq_ty s n m) (hok : rq_okT s n) (hp : rq_bp s n b) (h : rq_ts s n b m) {W : Nat} (h27 : 27 ≤ W) (h35 : W < 35) {c : Int} (hc : c = rt_wp W) : f_X12_isSign 248 c m = some (if rq_kd s n b = (W : Int) then 1 else 0) := by
  subst hc
  obtain ⟨-, h5, -, h6, -, -⟩ := h
  unfold f_X12_isSign j_X12_isSign_25 j_X12_isSign_26
  rw [q_gfr, Option.bind_some, h6]
  rcases rq_kd_c2 hok hp with ⟨t, k, -⟩ | ⟨t, -, lt, -, k⟩ | ⟨t, -, k, -⟩ | ⟨t, hb, W', w1, w2, k, es⟩ | ⟨t, -, k⟩
  · rw [if_neg (by omega), q_bz0, if_neg (by omega)]
  · rw [if_neg (by omega), q_bz0, if_neg]
    rcases k with ⟨k, -⟩ | ⟨W', hW', k, -⟩ <;> omega
  · rw [if_neg (by omega), q_bz0, if_neg (by omega)]
  · rw [if_pos t, q_gfr, Option.bind_some, q_gfr, Option.bind_some, h5, q_rsgn hs ht hok.1 hb, Option.bind_some, es]
    by_cases z : W' = W
    · rw [if_pos (by rw [z]), q_bz1, if_pos (by omega)]
    · rw [if_neg (fun q => z (rq_wp_inj W' w2 W h35 q)), q_bz0, if_neg (by omega)]
  · rw [if_neg (by omega), q_bz0, if_neg (by omega)]
def rq_kp (v : Int) : Prop := v = 17017 ∨ v = 381245 ∨ v = 218546996 ∨ v = 239882 ∨ v = 161140 ∨ v = 24925 ∨ v = 4351231 ∨ v = 10334396 ∨ v = 284959882 ∨ v = 154733320 ∨ v = 12251 ∨ v = 11103 ∨ v = 259906 ∨ v = 275320391 ∨ v = 8740238 ∨ v = 6257 ∨ v = 40423 ∨ v = 1888 ∨ v = 10631 ∨ v = 1111 ∨ v = 423
theorem rq_kp_W (W : Nat) (hW : W < 27) : rq_kp (rq_W27 W) ↔ W < 21 := by
  have d : ∀ W, W < 27 → (rq_W27 W = 17017 ∨ rq_W27 W = 381245 ∨ rq_W27 W = 218546996 ∨ rq_W27 W = 239882 ∨ rq_W27 W = 161140 ∨ rq_W27 W = 24925 ∨ rq_W27 W = 4351231 ∨ rq_W27 W = 10334396 ∨ rq_W27 W = 284959882 ∨ rq_W27 W = 154733320 ∨ rq_W27 W = 12251 ∨ rq_W27 W = 11103 ∨ rq_W27 W = 259906 ∨ rq_W27 W = 275320391 ∨ rq_W27 W = 8740238 ∨ rq_W27 W = 6257 ∨ rq_W27 W = 40423 ∨ rq_W27 W = 1888 ∨ rq_W27 W = 10631 ∨ rq_W27 W = 1111 ∨ rq_W27 W = 423 ↔ W < 21) := by decide +kernel
  exact d W hW
theorem rq_kp_ex {v : Int} (h : rq_kp v) : ∃ W, W < 27 ∧ v = rq_W27 W := by
  unfold rq_kp at h
  rcases h with q | q | q | q | q | q | q | q | q | q | q | q | q | q | q | q | q | q | q | q | q
  · exact ⟨0, by decide, q⟩
  · exact ⟨1, by decide, q⟩
  · exact ⟨2, by decide, q⟩
  · exact ⟨3, by decide, q⟩
  · exact ⟨4, by decide, q⟩
  · exact ⟨5, by decide, q⟩
  · exact ⟨6, by decide, q⟩
  · exact ⟨7, by decide, q⟩
  · exact ⟨8, by decide, q⟩
  · exact ⟨9, by decide, q⟩
  · exact ⟨10, by decide, q⟩
  · exact ⟨11, by decide, q⟩
  · exact ⟨12, by decide, q⟩
  · exact ⟨13, by decide, q⟩
  · exact ⟨14, by decide, q⟩
  · exact ⟨15, by decide, q⟩
  · exact ⟨16, by decide, q⟩
  · exact ⟨17, by decide, q⟩
  · exact ⟨18, by decide, q⟩
  · exact ⟨19, by decide, q⟩
  · exact ⟨20, by decide, q⟩
/-- may be a name -/
def rq_cn (s : Nat → Int) (n b : Nat) : Prop := (21 ≤ rq_kd s n b ∧ rq_kd s n b < 27) ∨ rq_kd s n b = 35
theorem rq_cn_nm (hok : rq_okT s n) (hp : rq_bp s n b) (h : rq_cn s n b) : rq_tn s n b = 1 ∧ b < n ∧ rq_lt (rq_tl s n b) ∧ rq_vl s n b = rq_pk (rq_tl s n b) := by
  unfold rq_cn at h
  rcases rq_kd_c2 hok hp with ⟨t, k, -⟩ | ⟨t, hb, lt, v, k⟩ | ⟨t, -, k, -⟩ | ⟨t, hb, W', w1, w2, k, es⟩ | ⟨t, -, k⟩
  · omega
  · exact ⟨t, hb, lt, v⟩
  · omega
  · omega
  · omega
theorem rq_wc_cn (s : Nat → Int) (n b : Nat) : rt_gwc (rq_kd s n b) = some (rt_wc (rq_kd s n b).toNat) ∧ (rt_wc (rq_kd s n b).toNat = 0 ↔ ¬ rq_cn s n b) := by
  have kb := rq_kd_b s n b
  refine ⟨if_pos kb, ?_⟩
  unfold rt_wc rq_cn
  by_cases z : (21 ≤ (rq_kd s n b).toNat ∧ (rq_kd s n b).toNat < 27) ∨ (rq_kd s n b).toNat = 35
  · rw [if_pos z]
    constructor
    · intro q; omega
    · intro q; omega
  · rw [if_neg z]
    constructor
    · intro _; omega
    · intro _; rfl
theorem q_isKept (hok : rq_okT s n) (hp : rq_bp s n b) (h : rq_ts s n b m) : (rq_cn s n b → f_X12_isKept 248 m = some 0) ∧ (¬ rq_cn s n b → f_X12_isKept 248 m = some 1) := by
  obtain ⟨-, -, -, h6, h7, -⟩ := h
  have other : rq_tn s n b ≠ 1 → f_X12_isKept 248 m = some 1 := fun q => by
    unfold f_X12_isKept
    rw [q_gfr, Option.bind_some, h6, if_neg q]
  have one : rq_tn s n b = 1 → rq_lt (rq_tl s n b) → (rq_kp (rq_w27 (rq_tl s n b)) → f_X12_isKept 248 m = some 1) ∧ (¬ rq_kp (rq_w27 (rq_tl s n b)) → f_X12_isKept 248 m = some 0) := fun t lt => by
    have lb := rq_lt_b lt
    have e : ∀ C : Int, 0 ≤ C → C < 400000000 → (rt_lcmp (rq_w27 (rq_tl s n b)) C = 0 ↔ rq_w27 (rq_tl s n b) = C) := fun C h1 h2 => rq_lcmp0 (by omega) (by omega) (by omega) (by omega)
    unfold f_X12_isKept j_X12_isKept_241 j_X12_isKept_246
    simp only [q_gfr, Option.bind_some, h6, t, h7 t, if_true]
    generalize rq_w27 (rq_tl s n b) = v at e ⊢
    have e1 := (e 17017 (by decide) (by decide))
    have e2 := (e 381245 (by decide) (by decide))
    have e3 := (e 218546996 (by decide) (by decide))
    have e4 := (e 239882 (by decide) (by decide))
    have e5 := (e 161140 (by decide) (by decide))
    have e6 := (e 24925 (by decide) (by decide))
    have e7 := (e 4351231 (by decide) (by decide))
    have e8 := (e 10334396 (by decide) (by decide))
    have e9 := (e 284959882 (by decide) (by decide))
    have e10 := (e 154733320 (by decide) (by decide))
    have e11 := (e 12251 (by decide) (by decide))
    have e12 := (e 11103 (by decide) (by decide))
    have e13 := (e 259906 (by decide) (by decide))
    have e14 := (e 275320391 (by decide) (by decide))
    have e15 := (e 8740238 (by decide) (by decide))
    have e16 := (e 6257 (by decide) (by decide))
    have e17 := (e 40423 (by decide) (by decide))
    have e18 := (e 1888 (by decide) (by decide))
    have e19 := (e 10631 (by decide) (by decide))
    have e20 := (e 1111 (by decide) (by decide))
    have e21 := (e 423 (by decide) (by decide))
    simp only [e1, e2, e3, e4, e5, e6, e7, e8, e9, e10, e11, e12, e13, e14, e15, e16, e17, e18, e19, e20, e21]
    unfold rq_kp
    constructor
    · intro q
      rcases q with q | q | q | q | q | q | q | q | q | q | q | q | q | q | q | q | q | q | q | q | q <;> (subst q; rfl)
    · intro q
      simp only [not_or] at q
      simp only [if_neg q.1, if_neg q.2.1, if_neg q.2.2.1, if_neg q.2.2.2.1, if_neg q.2.2.2.2.1, if_neg q.2.2.2.2.2.1, if_neg q.2.2.2.2.2.2.1, if_neg q.2.2.2.2.2.2.2.1, if_neg q.2.2.2.2.2.2.2.2.1, if_neg q.2.2.2.2.2.2.2.2.2.1, if_neg q.2.2.2.2.2.2.2.2.2.2.1, if_neg q.2.2.2.2.2.2.2.2.2.2.2.1, if_neg q.2.2.2.2.2.2.2.2.2.2.2.2.1, if_neg q.2.2.2.2.2.2.2.2.2.2.2.2.2.1, if_neg q.2.2.2.2.2.2.2.2.2.2.2.2.2.2.1, if_neg q.2.2.2.2.2.2.2.2.2.2.2.2.2.2.2.1, if_neg q.2.2.2.2.2.2.2.2.2.2.2.2.2.2.2.2.1, if_neg q.2.2.2.2.2.2.2.2.2.2.2.2.2.2.2.2.2.1, if_neg q.2.2.2.2.2.2.2.2.2.2.2.2.2.2.2.2.2.2.1, if_neg q.2.2.2.2.2.2.2.2.2.2.2.2.2.2.2.2.2.2.2.1, if_neg q.2.2.2.2.2.2.2.2.2.2.2.2.2.2.2.2.2.2.2.2]
      rfl
  unfold rq_cn
  rcases rq_kd_c2 hok hp with ⟨t, k, -⟩ | ⟨t, hb, lt, v, k⟩ | ⟨t, -, k, -⟩ | ⟨t, hb, W', w1, w2, k, es⟩ | ⟨t, -, k⟩
  · exact ⟨fun q => by omega, fun _ => other (by omega)⟩
  · obtain ⟨o1, o2⟩ := one t lt
    rcases k with ⟨k, no⟩ | ⟨W, hW, k, ew⟩
    · refine ⟨fun _ => o2 (fun q => ?_), fun q => by omega⟩
      obtain ⟨W, hW, e⟩ := rq_kp_ex q
      exact no W hW e
    · rw [ew, rq_kp_W W hW] at o1 o2
      exact ⟨fun q => o2 (by omega), fun q => o1 (by omega)⟩
  · exact ⟨fun q => by omega, fun _ => other (by omega)⟩
  · exact ⟨fun q => by omega, fun _ => other (by omega)⟩
  · exact ⟨fun q => by omega, fun _ => other (by omega)⟩
theorem q_fails (h : rq_ts s n b m) (hn : n ≤ 1000) {k : Int} (h0 : 0 ≤ k) (h9 : k ≤ 9) : f_X12_fails 248 k m = some (0, rt_up m 248 9 (k + 16 * (b : Int))) := by
  have hb := h.1
  unfold f_X12_fails
  rw [q_gfr, Option.bind_some, h.2.1, q_pfr, Option.bind_some, rq_imul (by omega) (by omega), rq_iadd (by omega) (by omega)]
end
