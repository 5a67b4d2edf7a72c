/-! Layer 4: what is made: rules -/
def rt_df (t : Nat) : Int := if t = 2 then -1 else 0
def rt_mk (mem : rt_M) (k : Nat) (f : Nat → Int) : rt_M := fun a j => if a = k then f j else mem a j
theorem rt_dv (G : rt_G) (ty : FieldType) (h1 : ty ≠ .float) (h2 : ty ≠ .double) : defaultValue ty = rt_tv G (rt_fty ty, rt_df (rt_fty ty)) := by
  cases ty <;> first | rfl | exact absurd rfl h1 | exact absurd rfl h2
theorem rt_HR_push {G : rt_G} {nx nx' : Nat} {mem mem' : rt_M} {H H1 : Heap} (hH : rt_HR G nx mem H) (hs : rt_base G + (nx - 41) ≤ H.size) (hm : ∀ k j, 41 ≤ k → k < nx → mem' k j = mem k j) (o : ∀ q, q < H.size → H1[q]? = H[q]?) (hn : ∀ k, nx ≤ k → k < nx' → 41 ≤ k → rt_HC G mem' H1 k) : rt_HR G nx' mem' H1 := by
  intro k h1 h2
  by_cases z : k < nx
  · exact rt_HC_kept (hH k h1 z) (fun j => hm k j h1 z) (o _ (by rw [rt_ad_new h1]; omega))
  · exact hn k (by omega) h2 h1
theorem rt_ss_s {k : Nat} (h : 41 ≤ k) (h2 : k < 301) : rt_ss (k + 1) = rt_ss k + rt_ln k := by
  have hl : k - 41 < rt_shL.length := by rw [rt_shL_len]; omega
  unfold rt_ss
  rw [show k + 1 - 41 = (k - 41) + 1 by omega, List.take_add_one, List.getElem?_eq_getElem hl]
  simp only [Option.toList_some, List.map_append, List.sum_append, List.map_cons, List.map_nil, List.sum_cons, List.sum_nil, Nat.add_zero]
  have : rt_sh k = rt_shL[k - 41] := by
    unfold rt_sh
    rw [if_neg (by omega), List.getD_eq_getElem?_getD, List.getElem?_eq_getElem hl]
    rfl
  show _ + _ = _ + (rt_sh k).2
  rw [this]
theorem rt_ss_le {a b : Nat} (h : 41 ≤ a) (hb : b ≤ 301) : a ≤ b → rt_ss a ≤ rt_ss b := by
  intro hab
  obtain ⟨n, rfl⟩ := Nat.exists_eq_add_of_le hab
  clear hab
  induction n with
  | zero => exact Nat.le_refl _
  | succ n ih =>
    rw [show a + (n + 1) = (a + n) + 1 by omega, rt_ss_s (by omega) (by omega)]
    have := ih (by omega)
    omega
theorem rt_sz {z0 : Nat × Nat} {k n : Nat} (h0 : 41 ≤ z0.1) (h1 : z0.1 ≤ k) (h2 : k < 301) (hl : rt_ln k = n) (h3 : z0.2 = 0) : rt_cells z0 (k + 1, 0) = rt_cells z0 (k, 0) + 1 ∧ rt_slots z0 (k + 1, 0) = rt_slots z0 (k, 0) + n := by
  have a := rt_ss_le h0 (by omega) h1
  unfold rt_cells rt_slots
  dsimp only
  rw [rt_ss_s (by omega) h2, hl]
  omega
theorem rt_sh_lt {k t n : Nat} (h : rt_sh k = (t, n)) (ht : t ≠ 0) : 41 ≤ k ∧ k < 301 ∧ n < 3000 := by
  have hk : rt_kd k = t := by show (rt_sh k).1 = t; rw [h]
  have hn : rt_ln k = n := by show (rt_sh k).2 = n; rw [h]
  exact ⟨rt_kd_ge (by omega), rt_kd_lt (by omega), by rw [← hn]; exact rt_ln_small k⟩
section
variable {G : rt_G} {M M' : rt_Mt} {d d' n k0 k : Nat} {Q Q' : rt_P} {pc idx : Nat} {L st stk As : List rt_V} {mem : rt_M}
theorem rt_hs {H H1 : Heap} (h : rt_HS G (k, 0) H) {c : Nat} (hk : 41 ≤ k) (e : H1.size = H.size + c) : rt_HS G (k + c, 0) H1 := by
  have := h.2 rfl
  have h1 := h.1
  dsimp only at this h1
  exact ⟨by dsimp only; omega, fun _ => by dsimp only; omega⟩
/-- a new row of numbers -/
theorem RT.newa (tc : Nat) {at' : ArrayType} (hd : decode (rt_c M) pc = .ok (.newarray at', 2)) (hty : newarray.typeOf at' = rt_aty tc) (harr : Cond.arrayClass (rt_aty tc) ∈ rt_mG) (htc : 1 ≤ tc ∧ tc ≤ 4 ∨ tc = 9) (hsh : rt_sh k = (tc, n)) (hk0 : 41 ≤ k0) (hk : k0 ≤ k) (hc : rt_cells (k0, 0) (k + 1, 0) ≤ rt_mc M) (hs2 : rt_slots (k0, 0) (k + 1, 0) ≤ rt_ms M) (h : RT G M d (k0, 0) Q (pc + 2) L ((2, (k : Int)) :: st) (k + 1, 0) (rt_mk mem k (fun _ => 0))) : RT G M d (k0, 0) Q pc L ((0, (n : Int)) :: st) (k, 0) mem := by
  intro p l e R s m args below meth c H locs ls Z hC hK hl hL hst hM hS hH hz hZ
  obtain ⟨b1, b2, b3⟩ := rt_sh_lt hsh (by omega)
  have hkd : rt_kd k = tc := by show (rt_sh k).1 = tc; rw [hsh]
  have hln : rt_ln k = n := by show (rt_sh k).2 = n; rw [hsh]
  obtain ⟨s1, s2⟩ := rt_sz (z0 := (k0, 0)) hk0 hk b2 hln rfl
  have hts := hC.2.2.2.2.2.2.2.1
  have hRc := hC.2.2.2.2.2.2.2.2.2.2.1
  have hRs := hC.2.2.2.2.2.2.2.2.2.2.2.1
  have hsz := hz.2 rfl
  dsimp only at hsz
  have e32 : (Int32.ofInt (n : Int)).toInt = (n : Int) := rt_i_id ⟨by omega, by omega⟩
  have hnn : ¬ Int32.ofInt (n : Int) < 0 := by rw [Int32.lt_iff_toInt_lt, e32]; show ¬ ((n : Int) < 0); omega
  have hnc : (Int32.ofInt (n : Int)).toNatClampNeg = n := by
    show (Int32.ofInt (n : Int)).toInt.toNat = n
    rw [e32]; rfl
  have hby : n * componentBytes (newarray.typeOf at') ≤ 536870912 := by
    have : componentBytes (newarray.typeOf at') ≤ 8 := by rw [hty]; rcases htc with q | q <;> (first | (subst q; decide) | skip); have : tc = 1 ∨ tc = 2 ∨ tc = 3 ∨ tc = 4 := by omega
                                                          rcases this with q | q | q | q <;> subst q <;> decide
    calc n * componentBytes (newarray.typeOf at') ≤ 3000 * 8 := Nat.mul_le_mul (by omega) this
      _ ≤ 536870912 := by decide
  rw [List.map_cons]
  show W p l e R s m args below meth c H locs _ _ Z (F0 m pc ls (.int (Int32.ofInt (n : Int)) :: st.map (rt_tv G)))
  refine va_newaK hC.1 hC.2.1 (by rw [hty]; exact hts _ harr) (g := F0 m pc ls (.int (Int32.ofInt (n : Int)) :: st.map (rt_tv G))) rfl hd rfl hnn hnc hby (by omega) (by omega) rfl (fun H1 cA e1 z1 o1 hAr hNm => ?_)
  rw [hty] at e1 hNm
  have hcA : cA = rt_cA G tc := Option.some.inj (hNm.symm.trans (hK.2.2.2.2.2.2.2.2.2.2.1 tc (by omega) (by omega)))
  have had : rt_ad G k = H.size := by rw [rt_ad_new b1, hsz]
  have hat : rt_at tc < 2 := by
    rcases htc with q | q
    · have : tc = 1 ∨ tc = 2 ∨ tc = 3 ∨ tc = 4 := by omega
      rcases this with q | q | q | q <;> subst q <;> decide
    · subst q; decide
  have hdv : defaultValue (rt_aty tc) = rt_tv G (rt_at tc, 0) := by
    rcases htc with q | q
    · have : tc = 1 ∨ tc = 2 ∨ tc = 3 ∨ tc = 4 := by omega
      rcases this with q | q | q | q <;> subst q <;> rfl
    · subst q; rfl
  have htg : ∀ j, rt_tg k j = rt_at tc := fun j => by rw [rt_tg_a (by omega), hkd]
  have kk := h p l e R s m args below meth c H1 locs ls Z hC hK hl hL (rt_okc (show rt_ok (2, (k : Int)) from by show (-1 : Int) ≤ (k : Int); omega) (rt_okt hst)) ?_ ⟨Nat.le_trans hS.1 (by omega), fun x h1 h2 => (o1 x (Nat.lt_of_lt_of_le h1 hS.1)).trans (hS.2.1 x h1 h2), hS.2.2⟩ ?_ (rt_hs hz b1 z1) hZ
  · rw [s1, s2, List.map_cons, show rt_tv G (2, (k : Int)) = .ref H.size from by rw [rt_tv_r (by rw [Int.toNat_natCast]; exact b1), Int.toNat_natCast, had]] at kk
    exact kk
  · intro a j ha
    unfold rt_mk
    by_cases q : a = k
    · rw [if_pos q, q, htg j]
      show rt_ok (rt_at tc, 0)
      rcases (show rt_at tc = 0 ∨ rt_at tc = 1 by omega) with q | q <;> rw [q] <;> exact ⟨by decide, by decide⟩
    · rw [if_neg q]; exact hM a j ha
  · refine rt_HR_push hH hz.1 (fun a j h1 h2 => if_neg (by dsimp only at h2; omega)) o1 (fun a h1 h2 h3 => ?_)
    dsimp only at h1 h2
    obtain rfl : a = k := by omega
    unfold rt_HC
    rw [if_pos (by omega), had, e1, hkd, hln, hcA, hdv]
    congr 2
    funext j
    show _ = rt_tv G (rt_tg a j, rt_mk mem a (fun _ => 0) a j)
    rw [htg j]
    unfold rt_mk
    rw [if_pos rfl]
end
