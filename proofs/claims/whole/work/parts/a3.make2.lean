/-! Layer 4: what is made: rules (2) -/
section
variable {G : rt_G} {M M' : rt_Mt} {d d' n k0 k : Nat} {Q Q' : rt_P} {pc idx : Nat} {L st stk As : List rt_V} {mem : rt_M}
theorem rt_tv_null (G : rt_G) : rt_tv G (2, -1) = .null := by
  show va_rf (rt_rf G (-1)) = .null
  unfold rt_rf
  rw [if_pos (by decide)]
  rfl
theorem rt_n32 {n : Nat} (h : n < 3000) : (Int32.ofInt (n : Int)).toInt = (n : Int) ∧ ¬ Int32.ofInt (n : Int) < 0 ∧ (Int32.ofInt (n : Int)).toNatClampNeg = n := by
  have e32 : (Int32.ofInt (n : Int)).toInt = (n : Int) := rt_i_id ⟨by omega, by omega⟩
  refine ⟨e32, ?_, ?_⟩
  · rw [Int32.lt_iff_toInt_lt, e32]; show ¬ ((n : Int) < 0); omega
  · show (Int32.ofInt (n : Int)).toInt.toNat = n
    rw [e32]; rfl
theorem rt_kp {G : rt_G} {s : State} {H H1 : Heap} {locs : List Loc} (hS : va_S (rt_A G) s.heap H locs) {c : Nat} (z1 : H1.size = H.size + c) (o1 : ∀ q, q < H.size → H1[q]? = H[q]?) : va_S (rt_A G) s.heap H1 locs := ⟨Nat.le_trans hS.1 (by omega), fun x h1 h2 => (o1 x (Nat.lt_of_lt_of_le h1 hS.1)).trans (hS.2.1 x h1 h2), hS.2.2⟩
/-- a new row of objects -/
theorem RT.newr (tc : Nat) {C : String} (hd : decode (rt_c M) pc = .ok (.anewarray idx, 3)) (hty : rt_aty tc = .object C) (hcl : Cond.classLink (rt_y M).cls idx C ∈ rt_mG) (hov : Cond.arrayOver (.object C) ∈ rt_mN) (htc : 5 ≤ tc ∧ tc ≤ 8) (hsh : rt_sh k = (tc, n)) (hk0 : 41 ≤ k0) (hk : k0 ≤ k) (hc : rt_cells (k0, 0) (k + 1, 0) ≤ rt_mc M) (hs2 : rt_slots (k0, 0) (k + 1, 0) ≤ rt_ms M) (h : RT G M d (k0, 0) Q (pc + 3) L ((2, (k : Int)) :: st) (k + 1, 0) (rt_mk mem k (fun _ => -1))) : RT G M d (k0, 0) Q pc L ((0, (n : Int)) :: st) (k, 0) mem := by
  intro p l e R s m args below meth c H locs ls Z hC hK hl hL hst hM hS hH hz hZ
  obtain ⟨b1, b2, b3⟩ := rt_sh_lt hsh (by omega)
  have hkd : rt_kd k = tc := by show (rt_sh k).1 = tc; rw [hsh]
  have hln : rt_ln k = n := by show (rt_sh k).2 = n; rw [hsh]
  obtain ⟨s1, s2⟩ := rt_sz (z0 := (k0, 0)) hk0 hk b2 hln rfl
  have hts := hC.2.2.2.2.2.2.2.1
  have hRc := hC.2.2.2.2.2.2.2.2.2.2.1
  have hRs := hC.2.2.2.2.2.2.2.2.2.2.2.1
  have hsz := hz.2 rfl
  dsimp only at hsz
  obtain ⟨e32, hnn, hnc⟩ := rt_n32 b3
  rw [List.map_cons]
  show W p l e R s m args below meth c H locs _ _ Z (F0 m pc ls (.int (Int32.ofInt (n : Int)) :: st.map (rt_tv G)))
  refine W.anew hC.1 hC.2.1 hC.2.2.2.1 (hts _ hcl) (show (Cond.arrayOver (.object C)).before args s = true from hK.2.2.2.1 _ hov) (g := F0 m pc ls (.int (Int32.ofInt (n : Int)) :: st.map (rt_tv G))) rfl hd rfl hnn (by rw [hnc]; omega) (by omega) (by rw [hnc]; omega) (fun cA kA comp f1 f2 f3 f4 => ?_)
  rw [hnc]
  have had : rt_ad G k = H.size := by rw [rt_ad_new b1, hsz]
  generalize hH1 : H.push ({ cls := cA, slots := Array.replicate n .null, vm := .none } : Cell) = H1
  have z1 : H1.size = H.size + 1 := by rw [← hH1, Array.size_push]
  have e1 : H1[H.size]? = some (arrV cA n (fun _ => .null)) := by rw [← hH1, Array.getElem?_push_size, ← arrV_new]
  have o1 : ∀ q : Nat, q < H.size → H1[q]? = H[q]? := fun q hq => by rw [← hH1, Array.getElem?_push, if_neg (Nat.ne_of_lt hq)]
  have hcA : cA = rt_cA G tc := Option.some.inj (f1.symm.trans (by have := hK.2.2.2.2.2.2.2.2.2.2.1 tc (by omega) (by omega); rw [hty] at this; exact this))
  have htg : ∀ j, rt_tg k j = 2 := fun j => by
    rw [rt_tg_a (by omega), hkd]
    show rt_fty (rt_aty tc) = 2
    rw [hty]; rfl
  have kk := h p l e R s m args below meth c H1 locs ls Z hC hK hl hL (rt_okc (show rt_ok (2, (k : Int)) from by show (-1 : Int) ≤ (k : Int); omega) (rt_okt hst)) ?_ (rt_kp hS z1 o1) ?_ (rt_hs hz b1 z1) hZ
  · rw [s1, s2, List.map_cons, show rt_tv G (2, (k : Int)) = .ref H.size from by rw [rt_tv_r (by rw [Int.toNat_natCast]; exact b1), Int.toNat_natCast, had]] at kk
    exact kk
  · intro a j ha
    unfold rt_mk
    by_cases q : a = k
    · rw [if_pos q, q, htg j]
      show (-1 : Int) ≤ -1
      decide
    · rw [if_neg q]; exact hM a j ha
  · refine rt_HR_push hH hz.1 (fun a j h1 h2 => if_neg (by dsimp only at h2; omega)) o1 (fun a h1 h2 h3 => ?_)
    dsimp only at h1 h2
    obtain rfl : a = k := by omega
    unfold rt_HC
    rw [if_pos (by omega), had, e1, hkd, hln, hcA]
    congr 2
    funext j
    show _ = rt_tv G (rt_tg a j, rt_mk mem a (fun _ => -1) a j)
    rw [htg j]
    unfold rt_mk
    rw [if_pos rfl, rt_tv_null]
/-- a new object -/
theorem RT.newo (ci : Nat) (hd : decode (rt_c M) pc = .ok (.new idx, 3)) (hcl : Cond.classLink (rt_y M).cls idx (rt_R ci) ∈ rt_mG) (hin : Cond.instantiable (rt_R ci) (rt_N ci) ∈ rt_mG) (hini : Cond.initialized (rt_R ci) ∈ rt_mG) (hCL : rt_CL ci) (hff : ∀ j, rt_ty ci j ≠ .float ∧ rt_ty ci j ≠ .double) (hkd : rt_kd k = 20 + ci) (hk0 : 41 ≤ k0) (hk : k0 ≤ k) (hc : rt_cells (k0, 0) (k + 1, 0) ≤ rt_mc M) (hs2 : rt_slots (k0, 0) (k + 1, 0) ≤ rt_ms M) (h : RT G M d (k0, 0) Q (pc + 3) L ((2, (k : Int)) :: st) (k + 1, 0) (rt_mk mem k (fun j => rt_df (rt_ft ci j)))) : RT G M d (k0, 0) Q pc L st (k, 0) mem := by
  intro p l e R s m args below meth c H locs ls Z hC hK hl hL hst hM hS hH hz hZ
  have b1 := rt_kd_ge (k := k) (by omega)
  have b2 := rt_kd_lt (k := k) (by omega)
  have hln := hCL.2.2.2.2 k hkd
  obtain ⟨s1, s2⟩ := rt_sz (z0 := (k0, 0)) hk0 hk b2 hln rfl
  have hts := hC.2.2.2.2.2.2.2.1
  have hRc := hC.2.2.2.2.2.2.2.2.2.2.1
  have hRs := hC.2.2.2.2.2.2.2.2.2.2.2.1
  have hsz := hz.2 rfl
  dsimp only at hsz
  have had : rt_ad G k = H.size := by rw [rt_ad_new b1, hsz]
  have hKn := hK.1 ci _ hCL.1
  refine W.newcK hC.1 hC.2.1 hC.2.2.2.1 (hts _ hcl) (hts _ hin) (hts _ hini) (g := F0 m pc ls (st.map (rt_tv G))) rfl hd (by omega) (by omega) hKn.2.1 rfl (fun H1 kC hkC e1 z1 o1 => ?_)
  have hob := u_born (rt_ty ci) hts hCL.2.1 hKn hkC e1 hCL.2.2.1
  have htg : ∀ j, rt_tg k j = rt_ft ci j := fun j => rt_tg_o hkd
  have kk := h p l e R s m args below meth c H1 locs ls Z hC hK hl hL (rt_okc (show rt_ok (2, (k : Int)) from by show (-1 : Int) ≤ (k : Int); omega) hst) ?_ (rt_kp hS z1 o1) ?_ (rt_hs hz b1 z1) hZ
  · rw [s1, s2, List.map_cons, show rt_tv G (2, (k : Int)) = .ref H.size from by rw [rt_tv_r (by rw [Int.toNat_natCast]; exact b1), Int.toNat_natCast, had]] at kk
    exact kk
  · intro a j ha
    unfold rt_mk
    by_cases q : a = k
    · rw [if_pos q, q, htg j]
      unfold rt_ok rt_df
      dsimp only
      generalize rt_ft ci j = t
      match t with
      | 0 => exact ⟨by decide, by decide⟩
      | 1 => exact ⟨by decide, by decide⟩
      | 2 => show (-1 : Int) ≤ _; decide
      | t + 3 => show (-1 : Int) ≤ _; rw [if_neg (by omega)]; decide
    · rw [if_neg q]; exact hM a j ha
  · refine rt_HR_push hH hz.1 (fun a j h1 h2 => if_neg (by dsimp only at h2; omega)) o1 (fun a h1 h2 h3 => ?_)
    dsimp only at h1 h2
    obtain rfl : a = k := by omega
    unfold rt_HC
    rw [if_neg (by omega), had, show rt_kd a - 20 = ci by omega, hln]
    refine t_OB.to hob (fun j hj => ?_)
    rw [htg j]
    unfold rt_mk
    rw [if_pos rfl]
    exact rt_dv G _ (hff j).1 (hff j).2
end
