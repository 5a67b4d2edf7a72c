/-! memory -/
def rt_up (mem : rt_M) (k j : Nat) (v : Int) : rt_M := fun a i => if a = k ∧ i = j then v else mem a i
theorem rt_up_same (mem : rt_M) (k j : Nat) (v : Int) : rt_up mem k j v k j = v := if_pos ⟨rfl, rfl⟩
theorem rt_up_ne (mem : rt_M) {k j a i : Nat} (v : Int) (h : ¬ (a = k ∧ i = j)) : rt_up mem k j v a i = mem a i := if_neg h
theorem rt_kd_ge {k : Nat} (h : ¬ rt_kd k = 0) : 41 ≤ k := by
  apply Classical.byContradiction
  intro q
  exact h (by unfold rt_kd rt_sh; rw [if_pos (by omega)])
theorem rt_shL_len : rt_shL.length = 260 := by decide +kernel
theorem rt_kd_lt {k : Nat} (h : ¬ rt_kd k = 0) : k < 301 := by
  apply Classical.byContradiction
  intro q
  refine h ?_
  unfold rt_kd rt_sh
  rw [if_neg (by omega), List.getD_eq_getElem?_getD, List.getElem?_eq_none (by rw [rt_shL_len]; omega)]
  rfl
theorem rt_kd_300 {k : Nat} (h : ¬ rt_kd k = 0) (h9 : ¬ rt_kd k = 9) : k < 300 := by
  have := rt_kd_lt h
  by_cases e : k = 300
  · subst e; exact absurd (by decide +kernel) h9
  · omega
theorem rt_ad_new {G : rt_G} {k : Nat} (h : 41 ≤ k) : rt_ad G k = rt_base G + (k - 41) := if_neg (by omega)
theorem rt_ad_ne {G : rt_G} {k k' : Nat} (h : 41 ≤ k) (h' : 41 ≤ k') (hn : k' ≠ k) : rt_ad G k' ≠ rt_ad G k := by
  rw [rt_ad_new h, rt_ad_new h']; omega
theorem rt_ad_A {G : rt_G} {k : Nat} (h : 41 ≤ k) : rt_A G (rt_ad G k) := by rw [rt_ad_new h]; exact Nat.le_add_right _ _
/-- a new cell's address from its reference -/
theorem rt_tv_r {G : rt_G} {x : Int} (h : 41 ≤ x.toNat) : rt_tv G (2, x) = .ref (rt_ad G x.toNat) := by
  show va_rf (rt_rf G x) = _
  rw [rt_rf_some (by omega)]; rfl
theorem rt_HC_kept {G : rt_G} {mem mem' : rt_M} {H H1 : Heap} {k : Nat} (h : rt_HC G mem H k) (hm : ∀ j, mem' k j = mem k j) (hq : H1[rt_ad G k]? = H[rt_ad G k]?) : rt_HC G mem' H1 k := by
  unfold rt_HC at h ⊢
  have e : (fun j => rt_tv G (rt_tg k j, mem' k j)) = (fun j => rt_tv G (rt_tg k j, mem k j)) := funext fun j => by rw [hm j]
  rw [e]
  split
  · rename_i q; rw [if_pos q] at h; rw [hq]; exact h
  · rename_i q; rw [if_neg q] at h; exact h.kept hq
theorem rt_HR_put {G : rt_G} {nx : Nat} {mem : rt_M} {H H1 : Heap} {k j : Nat} {v : Int} (hH : rt_HR G nx mem H) (hk : 41 ≤ k) (hc : rt_HC G (rt_up mem k j v) H1 k) (oq : ∀ q, q ≠ rt_ad G k → H1[q]? = H[q]?) : rt_HR G nx (rt_up mem k j v) H1 := by
  intro k' h1 h2
  by_cases e : k' = k
  · subst e; exact hc
  · exact rt_HC_kept (hH k' h1 h2) (fun i => rt_up_ne _ _ (fun q => e q.1)) (oq _ (rt_ad_ne hk h1 e))
theorem rt_okM_put {mem : rt_M} {k j : Nat} {v : Int} (h : rt_okM mem) (hv : rt_ok (rt_tg k j, v)) : rt_okM (rt_up mem k j v) := by
  intro a i ha
  by_cases e : a = k ∧ i = j
  · obtain ⟨rfl, rfl⟩ := e
    rw [rt_up_same]; exact hv
  · rw [rt_up_ne _ _ e]; exact h a i ha
theorem rt_HS_put {G : rt_G} {z : Nat × Nat} {H H1 : Heap} (h : rt_HS G z H) (e : H1.size = H.size) : rt_HS G z H1 := ⟨by rw [e]; exact h.1, fun q => by rw [e]; exact h.2 q⟩
/-- an array's cell written -/
theorem rt_arr_put {G : rt_G} {mem : rt_M} {H1 : Heap} {k j : Nat} {v : Int} (hkd : rt_kd k < 20) (e : H1[rt_ad G k]? = some ((arrV (rt_cA G (rt_kd k)) (rt_ln k) (fun j => rt_tv G (rt_tg k j, mem k j))).setSlot j (rt_tv G (rt_tg k j, v)))) : rt_HC G (rt_up mem k j v) H1 k := by
  unfold rt_HC
  rw [if_pos hkd, e, arrV_store]
  congr 2
  funext i
  unfold updV
  by_cases h : i = j
  · subst h; rw [if_pos rfl, rt_up_same]
  · rw [if_neg h, rt_up_ne _ _ (fun q => h q.2)]
theorem rt_arr {G : rt_G} {mem : rt_M} {H : Heap} {k : Nat} (h : rt_HC G mem H k) (hkd : rt_kd k < 20) : H[rt_ad G k]? = some (arrV (rt_cA G (rt_kd k)) (rt_ln k) (fun j => rt_tv G (rt_tg k j, mem k j))) := by
  unfold rt_HC at h; rw [if_pos hkd] at h; exact h
theorem rt_obj {G : rt_G} {mem : rt_M} {H : Heap} {k ci : Nat} (h : rt_HC G mem H k) (hkd : rt_kd k = 20 + ci) : t_OB (rt_ad G k) (rt_dC G ci) (rt_ln k) (rt_dI G ci) H (fun j => rt_tv G (rt_ft ci j, mem k j)) := by
  unfold rt_HC at h
  have e : rt_kd k - 20 = ci := by omega
  have e2 : ∀ j, rt_tg k j = rt_ft ci j := fun j => by unfold rt_tg; rw [if_neg (by omega), e]
  rw [if_neg (by omega), e] at h
  simp only [e2] at h
  exact h
theorem rt_tg_a {k j : Nat} (h : rt_kd k < 20) : rt_tg k j = rt_at (rt_kd k) := if_pos h
theorem rt_tg_o {k j ci : Nat} (h : rt_kd k = 20 + ci) : rt_tg k j = rt_ft ci j := by
  unfold rt_tg; rw [if_neg (by omega), show rt_kd k - 20 = ci by omega]
/-! the words of memory: none where the machine would throw -/
def rt_gf (ci j : Nat) (x : Int) (mem : rt_M) : Option Int := if rt_kd x.toNat = 20 + ci then some (mem x.toNat j) else none
def rt_pf (ci j : Nat) (x v : Int) (mem : rt_M) : Option rt_M := if rt_kd x.toNat = 20 + ci then some (rt_up mem x.toNat j v) else none
def rt_bz (v : Int) : Option Int := if v = 0 ∨ v = 1 then some v else none
def rt_al (tc : Nat) (x i : Int) (mem : rt_M) : Option Int := if rt_kd x.toNat = tc ∧ 0 ≤ i ∧ i < (rt_ln x.toNat : Int) then some (mem x.toNat i.toNat) else none
def rt_sa (tc : Nat) (x i v : Int) (mem : rt_M) : Option rt_M := if rt_kd x.toNat = tc ∧ 0 ≤ i ∧ i < (rt_ln x.toNat : Int) then some (rt_up mem x.toNat i.toNat v) else none
def rt_cz (v : Int) : Option Int := if 0 ≤ v ∧ v < 65536 then some v else none
def rt_len (tc : Nat) (x : Int) : Option Int := if rt_kd x.toNat = tc then some (rt_ln x.toNat : Int) else none
/-- a class as the tables have it -/
def rt_CL (ci : Nat) : Prop := rt_cl[ci]? = some (rt_R ci, rt_T ci, rt_N ci) ∧ (∀ w ∈ u_ws (rt_R ci) (rt_T ci) (rt_N ci), w ∈ rt_mG) ∧ (∀ k, k < rt_N ci → parseFieldDescriptor (rt_T ci k).2.2.1 = some (rt_ty ci k)) ∧ (∀ a, a < rt_N ci → ∀ b, b < rt_N ci → a ≠ b → (rt_T ci a).2.1 ≠ (rt_T ci b).2.1) ∧ (∀ k, rt_kd k = 20 + ci → rt_ln k = rt_N ci)
/-- a field's link -/
def rt_FL (own : String) (idx ci j : Nat) : Prop := rt_CL ci ∧ j < rt_N ci ∧ (rt_T ci j).1 = rt_R ci ∧ (Cond.fieldLink own idx (rt_R ci) (rt_T ci j).2.1 (rt_T ci j).2.2.1 ∈ rt_mG ∨ ∃ host, Cond.fieldLinkNest own idx (rt_R ci) (rt_T ci j).2.1 (rt_T ci j).2.2.1 host ∈ rt_mN)
section
variable {G : rt_G} {M : rt_Mt} {d : Nat} {z0 z : Nat × Nat} {Q : rt_P} {pc : Nat} {L st : List rt_V} {mem : rt_M}
theorem RT.getf (ci j : Nat) {idx : Nat} {x v : Int} (hd : decode (rt_c M) pc = .ok (.getfield idx, 3)) (hw : rt_FL (rt_y M).cls idx ci j) (hn : x.toNat < z.1) (hv : rt_gf ci j x mem = some v) (h : RT G M d z0 Q (pc + 3) L ((rt_ft ci j, v) :: st) z mem) : RT G M d z0 Q pc L ((2, x) :: st) z mem := by
  intro p l e R s m args below meth c H locs ls Z hC hK hl hL hst hM hS hH hz hZ
  obtain ⟨⟨hcl, hin, -, -, hln⟩, hj, hdecl, hlink⟩ := hw
  unfold rt_gf at hv
  split at hv
  · rename_i hkd
    have hv := Option.some.inj hv
    subst hv
    have hge := rt_kd_ge (k := x.toNat) (by omega)
    have hts := hC.2.2.2.2.2.2.2.1
    obtain ⟨cell, q1, q2, q3, q4⟩ := rt_obj (hH _ hge hn) hkd
    obtain ⟨hSl, hfc, kC, hkC, hkind⟩ := hK.1 ci _ hcl
    obtain ⟨cf, kf, fi, f, hi, hsl⟩ := hSl j hj
    have hi' : s.fieldFound? (rt_R ci) (rt_T ci j).2.1 (rt_T ci j).2.2.1 = some (cf, kf, fi, f) := by rw [← hdecl]; exact hi
    have ok : rt_ok (rt_ft ci j, mem x.toNat j) := by rw [← rt_tg_o hkd]; exact hM _ _ hge
    have k2 := h p l e R s m args below meth c H locs ls Z hC hK hl hL (rt_okc ok (rt_okt hst)) hM hS hH hz hZ
    have hslot : cell.slots[f.slot]? = some (rt_tv G (rt_ft ci j, mem x.toNat j)) := by rw [hsl]; exact q4 j (by rw [hln _ hkd]; exact hj)
    rw [List.map_cons, rt_tv_r hge]
    rcases hlink with hlk | ⟨host, hlk⟩
    · exact W.getf hC.1 hC.2.1 hC.2.2.2.1 (hts _ hlk) hi' (u_facts hfc hkC (u_lays hts hin hj) hi).1 q1 (by rw [q3]; exact fun h => by cases h) hslot rfl rfl hd k2
    · exact va_Wgetf hC.1 hC.2.1 hC.2.2.2.1 (va_Nw.use rfl (hK.2.2.2.1 _ hlk)) hi' (u_facts hfc hkC (u_lays hts hin hj) hi).1 q1 (by rw [q3]; exact fun h => by cases h) hslot rfl rfl hd k2
  · cases hv
theorem RT.putf (ci j : Nat) {idx t : Nat} {x v : Int} {mem1 : rt_M} (hd : decode (rt_c M) pc = .ok (.putfield idx, 3)) (hw : rt_FL (rt_y M).cls idx ci j) (hfin : (rt_T ci j).2.2.2 = false) (ht : rt_ft ci j = t) (hnar : ∀ G, narrow (rt_ty ci j) (rt_tv G (t, v)) = rt_tv G (t, v)) (hfit : ∀ G, fits (rt_ty ci j) (rt_tv G (t, v)) = true) (hn : x.toNat < z.1) (hv : rt_pf ci j x v mem = some mem1) (h : RT G M d z0 Q (pc + 3) L st z mem1) : RT G M d z0 Q pc L ((t, v) :: (2, x) :: st) z mem := by
  intro p l e R s m args below meth c H locs ls Z hC hK hl hL hst hM hS hH hz hZ
  obtain ⟨⟨hcl, hin, hty, hnm, hln⟩, hj, hdecl, hlink⟩ := hw
  subst ht
  unfold rt_pf at hv
  split at hv
  · rename_i hkd
    have hv := Option.some.inj hv
    subst hv
    have hge := rt_kd_ge (k := x.toNat) (by omega)
    have hts := hC.2.2.2.2.2.2.2.1
    obtain ⟨cell, q1, q2, q3, q4⟩ := rt_obj (hH _ hge hn) hkd
    obtain ⟨hSl, hfc, kC, hkC, hkind⟩ := hK.1 ci _ hcl
    obtain ⟨cf, kf, fi, f, hi, hsl⟩ := hSl j hj
    have hi' : s.fieldFound? (rt_R ci) (rt_T ci j).2.1 (rt_T ci j).2.2.1 = some (cf, kf, fi, f) := by rw [← hdecl]; exact hi
    have hap := va_apart (D := (rt_dC G, rt_dI G)) (cl := rt_cl) (tys := []) (own := (rt_y M).cls) hts hin (rt_ty ci) hty hnm ⟨hK.1, fun k q h => by simp at h⟩ hcl
    have hlay := hts _ (hin _ (u_in_lay hj))
    unfold u_lay at hlay
    rw [if_neg (by rw [hfin]; decide)] at hlay
    have hst0 := (u_facts hfc hkC (u_lays hts hin hj) hi).1
    have h6 := u_store hfc hkC hkind hlay hi (hty j hj) (hnar G) (hfit G)
    have hlen := hln _ hkd
    have fin : ∀ (H1 : Heap), H1[rt_ad G x.toNat]? = some (cell.setSlot f.slot (rt_tv G (rt_ft ci j, v))) → H1.size = H.size → (∀ q, q ≠ rt_ad G x.toNat → H1[q]? = H[q]?) → W p l e R s m args below meth c H1 (locs ++ [⟨rt_ad G x.toNat, f.slot⟩]) (rt_cells z0 z) (rt_slots z0 z) Z (F0 m (pc + 3) ls (st.map (rt_tv G))) := by
      intro H1 e1 e2 e3
      refine h p l e R s m args below meth c H1 _ ls Z hC hK hl hL (rt_okt (rt_okt hst)) (rt_okM_put hM (by rw [rt_tg_o hkd]; exact rt_okh hst)) (hS.put e2 e3 (rt_ad_A hge)) (rt_HR_put hH hge ?_ e3) (rt_HS_put hz e2) hZ
      unfold rt_HC
      rw [if_neg (by omega), show rt_kd x.toNat - 20 = ci by omega]
      rw [hsl] at e1
      refine t_OB.to (V := updV (fun j => rt_tv G (rt_ft ci j, mem x.toNat j)) j (rt_tv G (rt_ft ci j, v))) ⟨_, e1, q2, q3, t_set q4 (by rw [hlen]; exact hap) (by rw [hlen]; exact hj) _⟩ (fun i _ => ?_)
      unfold updV
      rw [rt_tg_o hkd]
      by_cases hij : i = j
      · subst hij; rw [if_pos rfl, rt_up_same]
      · rw [if_neg hij, rt_up_ne _ _ (fun q => hij q.2)]
    rw [List.map_cons, List.map_cons, rt_tv_r hge]
    rcases hlink with hlk | ⟨host, hlk⟩
    · exact W.putK hC.1 hC.2.1 (f := f) ⟨hC.2.2.2.1, hts _ hlk, ⟨_, _, _, hi'⟩, hst0⟩ (by rw [q2]; exact h6) q1 q3 (by rw [hsl]; exact k2_hasslot (q4 j (by rw [hlen]; exact hj))) rfl rfl hd fin
    · exact va_WputK hC.1 hC.2.1 (f := f) hC.2.2.2.1 (va_Nw.use rfl (hK.2.2.2.1 _ hlk)) hi' hst0 (by rw [q2]; exact h6) q1 q3 (by rw [hsl]; exact k2_hasslot (q4 j (by rw [hlen]; exact hj))) rfl rfl hd fin
  · cases hv
end
section
variable {G : rt_G} {M : rt_Mt} {d : Nat} {z0 z : Nat × Nat} {Q : rt_P} {pc : Nat} {L st : List rt_V} {mem : rt_M}
theorem rt_in {i : Int} {n : Nat} (ho : rt_ok (0, i)) (h0 : 0 ≤ i) (h1 : i < (n : Int)) : ¬ (Int32.ofInt i < 0 ∨ n ≤ (Int32.ofInt i).toNatClampNeg) ∧ (Int32.ofInt i).toNatClampNeg = i.toNat := by
  have e : (Int32.ofInt i).toNatClampNeg = i.toNat := Int32.toNatClampNeg_ofInt_of_le ho.1 ho.2
  refine ⟨?_, e⟩
  rintro (q | q)
  · have := (rt_i_lt ho rt_ok0).mp q
    omega
  · rw [e] at q; omega
theorem rt_al_spec {tc : Nat} {x i v : Int} (h : rt_al tc x i mem = some v) : rt_kd x.toNat = tc ∧ 0 ≤ i ∧ i < (rt_ln x.toNat : Int) ∧ v = mem x.toNat i.toNat := by
  unfold rt_al at h
  split at h
  · rename_i q
    exact ⟨q.1, q.2.1, q.2.2, (Option.some.inj h).symm⟩
  · cases h
theorem rt_sa_spec {tc : Nat} {x i v : Int} {mem1 : rt_M} (h : rt_sa tc x i v mem = some mem1) : rt_kd x.toNat = tc ∧ 0 ≤ i ∧ i < (rt_ln x.toNat : Int) ∧ mem1 = rt_up mem x.toNat i.toNat v := by
  unfold rt_sa at h
  split at h
  · rename_i q
    exact ⟨q.1, q.2.1, q.2.2, (Option.some.inj h).symm⟩
  · cases h
theorem RT.iald {x i v : Int} (hd : decode (rt_c M) pc = .ok (.iaload, 1)) (hn : x.toNat < z.1) (hv : rt_al 1 x i mem = some v) (h : RT G M d z0 Q (pc + 1) L ((0, v) :: st) z mem) : RT G M d z0 Q pc L ((0, i) :: (2, x) :: st) z mem := by
  intro p l e R s m args below meth c H locs ls Z hC hK hl hL hst hM hS hH hz hZ
  obtain ⟨hkd, h0, h1, rfl⟩ := rt_al_spec hv
  have hge := rt_kd_ge (k := x.toNat) (by omega)
  have hlt : rt_kd x.toNat < 20 := by omega
  have hc := rt_arr (hH _ hge hn) hlt
  obtain ⟨hin, hix⟩ := rt_in (rt_okh hst) h0 h1
  have htg : rt_tg x.toNat i.toNat = 0 := by rw [rt_tg_a hlt, hkd]; rfl
  have ok : rt_ok (0, mem x.toNat i.toNat) := by rw [← htg]; exact hM _ _ hge
  have k2 := h p l e R s m args below meth c H locs ls Z hC hK hl hL (rt_okc ok (rt_okt (rt_okt hst))) hM hS hH hz hZ
  have hat : ArrOfT s (rt_cA G (rt_kd x.toNat)) .int := by rw [hkd]; exact hK.2.1 1 (by decide) (by decide)
  rw [List.map_cons, List.map_cons, rt_tv_r hge]
  exact W.iald hC.1 hC.2.1 hc (hat _ _) (fun q => by cases q) (by rw [arrV_size]; exact hin) (by rw [hix, arrV_read _ _ (by omega), htg]) rfl rfl hd k2
theorem RT.lald {x i v : Int} (hd : decode (rt_c M) pc = .ok (.laload, 1)) (hn : x.toNat < z.1) (hv : rt_al 2 x i mem = some v) (h : RT G M d z0 Q (pc + 1) L ((1, v) :: st) z mem) : RT G M d z0 Q pc L ((0, i) :: (2, x) :: st) z mem := by
  intro p l e R s m args below meth c H locs ls Z hC hK hl hL hst hM hS hH hz hZ
  obtain ⟨hkd, h0, h1, rfl⟩ := rt_al_spec hv
  have hge := rt_kd_ge (k := x.toNat) (by omega)
  have hlt : rt_kd x.toNat < 20 := by omega
  have hc := rt_arr (hH _ hge hn) hlt
  obtain ⟨hin, hix⟩ := rt_in (rt_okh hst) h0 h1
  have htg : rt_tg x.toNat i.toNat = 1 := by rw [rt_tg_a hlt, hkd]; rfl
  have ok : rt_ok (1, mem x.toNat i.toNat) := by rw [← htg]; exact hM _ _ hge
  have k2 := h p l e R s m args below meth c H locs ls Z hC hK hl hL (rt_okc ok (rt_okt (rt_okt hst))) hM hS hH hz hZ
  have hat : ArrOfT s (rt_cA G (rt_kd x.toNat)) .long := by rw [hkd]; exact hK.2.1 2 (by decide) (by decide)
  rw [List.map_cons, List.map_cons, rt_tv_r hge]
  exact W.lald hC.1 hC.2.1 hc (hat _ _) (fun q => by cases q) (by rw [arrV_size]; exact hin) (by rw [hix, arrV_read _ _ (by omega), htg]) rfl rfl hd k2
theorem RT.lald9 {x i v : Int} (hd : decode (rt_c M) pc = .ok (.laload, 1)) (hn : x.toNat < z.1) (hv : rt_al 9 x i mem = some v) (h : RT G M d z0 Q (pc + 1) L ((1, v) :: st) z mem) : RT G M d z0 Q pc L ((0, i) :: (2, x) :: st) z mem := by
  intro p l e R s m args below meth c H locs ls Z hC hK hl hL hst hM hS hH hz hZ
  obtain ⟨hkd, h0, h1, rfl⟩ := rt_al_spec hv
  have hge := rt_kd_ge (k := x.toNat) (by omega)
  have hlt : rt_kd x.toNat < 20 := by omega
  have hc := rt_arr (hH _ hge hn) hlt
  obtain ⟨hin, hix⟩ := rt_in (rt_okh hst) h0 h1
  have htg : rt_tg x.toNat i.toNat = 1 := by rw [rt_tg_a hlt, hkd]; rfl
  have ok : rt_ok (1, mem x.toNat i.toNat) := by rw [← htg]; exact hM _ _ hge
  have k2 := h p l e R s m args below meth c H locs ls Z hC hK hl hL (rt_okc ok (rt_okt (rt_okt hst))) hM hS hH hz hZ
  have hat : ArrOfT s (rt_cA G (rt_kd x.toNat)) .long := by rw [hkd]; exact hK.2.1 9 (by decide) (by decide)
  rw [List.map_cons, List.map_cons, rt_tv_r hge]
  exact W.lald hC.1 hC.2.1 hc (hat _ _) (fun q => by cases q) (by rw [arrV_size]; exact hin) (by rw [hix, arrV_read _ _ (by omega), htg]) rfl rfl hd k2
theorem RT.zald {x i v : Int} (hd : decode (rt_c M) pc = .ok (.baload, 1)) (hn : x.toNat < z.1) (hv : rt_al 3 x i mem = some v) (h : RT G M d z0 Q (pc + 1) L ((0, v) :: st) z mem) : RT G M d z0 Q pc L ((0, i) :: (2, x) :: st) z mem := by
  intro p l e R s m args below meth c H locs ls Z hC hK hl hL hst hM hS hH hz hZ
  obtain ⟨hkd, h0, h1, rfl⟩ := rt_al_spec hv
  have hge := rt_kd_ge (k := x.toNat) (by omega)
  have hlt : rt_kd x.toNat < 20 := by omega
  have hc := rt_arr (hH _ hge hn) hlt
  obtain ⟨hin, hix⟩ := rt_in (rt_okh hst) h0 h1
  have htg : rt_tg x.toNat i.toNat = 0 := by rw [rt_tg_a hlt, hkd]; rfl
  have ok : rt_ok (0, mem x.toNat i.toNat) := by rw [← htg]; exact hM _ _ hge
  have k2 := h p l e R s m args below meth c H locs ls Z hC hK hl hL (rt_okc ok (rt_okt (rt_okt hst))) hM hS hH hz hZ
  have hat : ArrOfT s (rt_cA G (rt_kd x.toNat)) .boolean := by rw [hkd]; exact hK.2.1 3 (by decide) (by decide)
  rw [List.map_cons, List.map_cons, rt_tv_r hge]
  exact W.zald hC.1 hC.2.1 hc (hat _ _) (fun q => by cases q) (by rw [arrV_size]; exact hin) (by rw [hix, arrV_read _ _ (by omega), htg]) rfl rfl hd k2
theorem RT.cald {x i v : Int} (hd : decode (rt_c M) pc = .ok (.caload, 1)) (hn : x.toNat < z.1) (hv : rt_al 4 x i mem = some v) (h : RT G M d z0 Q (pc + 1) L ((0, v) :: st) z mem) : RT G M d z0 Q pc L ((0, i) :: (2, x) :: st) z mem := by
  intro p l e R s m args below meth c H locs ls Z hC hK hl hL hst hM hS hH hz hZ
  obtain ⟨hkd, h0, h1, rfl⟩ := rt_al_spec hv
  have hge := rt_kd_ge (k := x.toNat) (by omega)
  have hlt : rt_kd x.toNat < 20 := by omega
  have hc := rt_arr (hH _ hge hn) hlt
  obtain ⟨hin, hix⟩ := rt_in (rt_okh hst) h0 h1
  have htg : rt_tg x.toNat i.toNat = 0 := by rw [rt_tg_a hlt, hkd]; rfl
  have ok : rt_ok (0, mem x.toNat i.toNat) := by rw [← htg]; exact hM _ _ hge
  have k2 := h p l e R s m args below meth c H locs ls Z hC hK hl hL (rt_okc ok (rt_okt (rt_okt hst))) hM hS hH hz hZ
  have hat : ArrOfT s (rt_cA G (rt_kd x.toNat)) .char := by rw [hkd]; exact hK.2.1 4 (by decide) (by decide)
  rw [List.map_cons, List.map_cons, rt_tv_r hge]
  exact W.cald hC.1 hC.2.1 hc (hat _ _) (fun q => by cases q) (by rw [arrV_size]; exact hin) (by rw [hix, arrV_read _ _ (by omega), htg]) rfl rfl hd k2
theorem RT.aald5 {x i v : Int} (hd : decode (rt_c M) pc = .ok (.aaload, 1)) (hn : x.toNat < z.1) (hv : rt_al 5 x i mem = some v) (h : RT G M d z0 Q (pc + 1) L ((2, v) :: st) z mem) : RT G M d z0 Q pc L ((0, i) :: (2, x) :: st) z mem := by
  intro p l e R s m args below meth c H locs ls Z hC hK hl hL hst hM hS hH hz hZ
  obtain ⟨hkd, h0, h1, rfl⟩ := rt_al_spec hv
  have hge := rt_kd_ge (k := x.toNat) (by omega)
  have hlt : rt_kd x.toNat < 20 := by omega
  have hc := rt_arr (hH _ hge hn) hlt
  obtain ⟨hin, hix⟩ := rt_in (rt_okh hst) h0 h1
  have htg : rt_tg x.toNat i.toNat = 2 := by rw [rt_tg_a hlt, hkd]; rfl
  have ok : rt_ok (2, mem x.toNat i.toNat) := by rw [← htg]; exact hM _ _ hge
  have k2 := h p l e R s m args below meth c H locs ls Z hC hK hl hL (rt_okc ok (rt_okt (rt_okt hst))) hM hS hH hz hZ
  have hat : ArrOfT s (rt_cA G (rt_kd x.toNat)) (.object "WigOffice$Word") := by rw [hkd]; exact hK.2.1 5 (by decide) (by decide)
  rw [List.map_cons, List.map_cons, rt_tv_r hge]
  exact W.aald hC.1 hC.2.1 hc (hat _ _) rfl (fun q => by cases q) (by rw [arrV_size]; exact hin) (by rw [hix, arrV_read _ _ (by omega), htg]) rfl rfl hd k2
theorem RT.aald6 {x i v : Int} (hd : decode (rt_c M) pc = .ok (.aaload, 1)) (hn : x.toNat < z.1) (hv : rt_al 6 x i mem = some v) (h : RT G M d z0 Q (pc + 1) L ((2, v) :: st) z mem) : RT G M d z0 Q pc L ((0, i) :: (2, x) :: st) z mem := by
  intro p l e R s m args below meth c H locs ls Z hC hK hl hL hst hM hS hH hz hZ
  obtain ⟨hkd, h0, h1, rfl⟩ := rt_al_spec hv
  have hge := rt_kd_ge (k := x.toNat) (by omega)
  have hlt : rt_kd x.toNat < 20 := by omega
  have hc := rt_arr (hH _ hge hn) hlt
  obtain ⟨hin, hix⟩ := rt_in (rt_okh hst) h0 h1
  have htg : rt_tg x.toNat i.toNat = 2 := by rw [rt_tg_a hlt, hkd]; rfl
  have ok : rt_ok (2, mem x.toNat i.toNat) := by rw [← htg]; exact hM _ _ hge
  have k2 := h p l e R s m args below meth c H locs ls Z hC hK hl hL (rt_okc ok (rt_okt (rt_okt hst))) hM hS hH hz hZ
  have hat : ArrOfT s (rt_cA G (rt_kd x.toNat)) (.array .int) := by rw [hkd]; exact hK.2.1 6 (by decide) (by decide)
  rw [List.map_cons, List.map_cons, rt_tv_r hge]
  exact W.aald hC.1 hC.2.1 hc (hat _ _) rfl (fun q => by cases q) (by rw [arrV_size]; exact hin) (by rw [hix, arrV_read _ _ (by omega), htg]) rfl rfl hd k2
theorem RT.aald7 {x i v : Int} (hd : decode (rt_c M) pc = .ok (.aaload, 1)) (hn : x.toNat < z.1) (hv : rt_al 7 x i mem = some v) (h : RT G M d z0 Q (pc + 1) L ((2, v) :: st) z mem) : RT G M d z0 Q pc L ((0, i) :: (2, x) :: st) z mem := by
  intro p l e R s m args below meth c H locs ls Z hC hK hl hL hst hM hS hH hz hZ
  obtain ⟨hkd, h0, h1, rfl⟩ := rt_al_spec hv
  have hge := rt_kd_ge (k := x.toNat) (by omega)
  have hlt : rt_kd x.toNat < 20 := by omega
  have hc := rt_arr (hH _ hge hn) hlt
  obtain ⟨hin, hix⟩ := rt_in (rt_okh hst) h0 h1
  have htg : rt_tg x.toNat i.toNat = 2 := by rw [rt_tg_a hlt, hkd]; rfl
  have ok : rt_ok (2, mem x.toNat i.toNat) := by rw [← htg]; exact hM _ _ hge
  have k2 := h p l e R s m args below meth c H locs ls Z hC hK hl hL (rt_okc ok (rt_okt (rt_okt hst))) hM hS hH hz hZ
  have hat : ArrOfT s (rt_cA G (rt_kd x.toNat)) (.object "WigOffice$Affairs") := by rw [hkd]; exact hK.2.1 7 (by decide) (by decide)
  rw [List.map_cons, List.map_cons, rt_tv_r hge]
  exact W.aald hC.1 hC.2.1 hc (hat _ _) rfl (fun q => by cases q) (by rw [arrV_size]; exact hin) (by rw [hix, arrV_read _ _ (by omega), htg]) rfl rfl hd k2
theorem RT.aald8 {x i v : Int} (hd : decode (rt_c M) pc = .ok (.aaload, 1)) (hn : x.toNat < z.1) (hv : rt_al 8 x i mem = some v) (h : RT G M d z0 Q (pc + 1) L ((2, v) :: st) z mem) : RT G M d z0 Q pc L ((0, i) :: (2, x) :: st) z mem := by
  intro p l e R s m args below meth c H locs ls Z hC hK hl hL hst hM hS hH hz hZ
  obtain ⟨hkd, h0, h1, rfl⟩ := rt_al_spec hv
  have hge := rt_kd_ge (k := x.toNat) (by omega)
  have hlt : rt_kd x.toNat < 20 := by omega
  have hc := rt_arr (hH _ hge hn) hlt
  obtain ⟨hin, hix⟩ := rt_in (rt_okh hst) h0 h1
  have htg : rt_tg x.toNat i.toNat = 2 := by rw [rt_tg_a hlt, hkd]; rfl
  have ok : rt_ok (2, mem x.toNat i.toNat) := by rw [← htg]; exact hM _ _ hge
  have k2 := h p l e R s m args below meth c H locs ls Z hC hK hl hL (rt_okc ok (rt_okt (rt_okt hst))) hM hS hH hz hZ
  have hat : ArrOfT s (rt_cA G (rt_kd x.toNat)) (.object "WigOffice$Stands") := by rw [hkd]; exact hK.2.1 8 (by decide) (by decide)
  rw [List.map_cons, List.map_cons, rt_tv_r hge]
  exact W.aald hC.1 hC.2.1 hc (hat _ _) rfl (fun q => by cases q) (by rw [arrV_size]; exact hin) (by rw [hix, arrV_read _ _ (by omega), htg]) rfl rfl hd k2
theorem RT.iast {x i v : Int} {mem1 : rt_M} (hd : decode (rt_c M) pc = .ok (.iastore, 1)) (hn : x.toNat < z.1) (hv : rt_sa 1 x i v mem = some mem1) (h : RT G M d z0 Q (pc + 1) L st z mem1) : RT G M d z0 Q pc L ((0, v) :: (0, i) :: (2, x) :: st) z mem := by
  intro p l e R s m args below meth c H locs ls Z hC hK hl hL hst hM hS hH hz hZ
  obtain ⟨hkd, h0, h1, rfl⟩ := rt_sa_spec hv
  have hge := rt_kd_ge (k := x.toNat) (by omega)
  have hlt : rt_kd x.toNat < 20 := by omega
  have hc := rt_arr (hH _ hge hn) hlt
  obtain ⟨hin, hix⟩ := rt_in (rt_okh (rt_okt hst)) h0 h1
  have htg : rt_tg x.toNat i.toNat = 0 := by rw [rt_tg_a hlt, hkd]; rfl
  have hat : ArrOfT s (rt_cA G (rt_kd x.toNat)) .int := by rw [hkd]; exact hK.2.1 1 (by decide) (by decide)
  rw [List.map_cons, List.map_cons, List.map_cons, rt_tv_r hge]
  refine W.iast hC.1 hC.2.1 hc (hat _ _) (fun q => by cases q) (by rw [arrV_size]; exact hin) rfl rfl hd (fun H1 e1 e2 e3 => ?_)
  rw [hix] at e1
  exact h p l e R s m args below meth c H1 _ ls Z hC hK hl hL (rt_okt (rt_okt (rt_okt hst))) (rt_okM_put hM (by rw [htg]; exact rt_okh hst)) (hS.put e2 e3 (rt_ad_A hge)) (rt_HR_put hH hge (rt_arr_put hlt (by rw [htg]; exact e1)) e3) (rt_HS_put hz e2) hZ
theorem RT.last {x i v : Int} {mem1 : rt_M} (hd : decode (rt_c M) pc = .ok (.lastore, 1)) (hn : x.toNat < z.1) (hv : rt_sa 2 x i v mem = some mem1) (h : RT G M d z0 Q (pc + 1) L st z mem1) : RT G M d z0 Q pc L ((1, v) :: (0, i) :: (2, x) :: st) z mem := by
  intro p l e R s m args below meth c H locs ls Z hC hK hl hL hst hM hS hH hz hZ
  obtain ⟨hkd, h0, h1, rfl⟩ := rt_sa_spec hv
  have hge := rt_kd_ge (k := x.toNat) (by omega)
  have hlt : rt_kd x.toNat < 20 := by omega
  have hc := rt_arr (hH _ hge hn) hlt
  obtain ⟨hin, hix⟩ := rt_in (rt_okh (rt_okt hst)) h0 h1
  have htg : rt_tg x.toNat i.toNat = 1 := by rw [rt_tg_a hlt, hkd]; rfl
  have hat : ArrOfT s (rt_cA G (rt_kd x.toNat)) .long := by rw [hkd]; exact hK.2.1 2 (by decide) (by decide)
  rw [List.map_cons, List.map_cons, List.map_cons, rt_tv_r hge]
  refine W.last hC.1 hC.2.1 hc (hat _ _) (fun q => by cases q) (by rw [arrV_size]; exact hin) rfl rfl hd (fun H1 e1 e2 e3 => ?_)
  rw [hix] at e1
  exact h p l e R s m args below meth c H1 _ ls Z hC hK hl hL (rt_okt (rt_okt (rt_okt hst))) (rt_okM_put hM (by rw [htg]; exact rt_okh hst)) (hS.put e2 e3 (rt_ad_A hge)) (rt_HR_put hH hge (rt_arr_put hlt (by rw [htg]; exact e1)) e3) (rt_HS_put hz e2) hZ
theorem RT.last9 {x i v : Int} {mem1 : rt_M} (hd : decode (rt_c M) pc = .ok (.lastore, 1)) (hn : x.toNat < z.1) (hv : rt_sa 9 x i v mem = some mem1) (h : RT G M d z0 Q (pc + 1) L st z mem1) : RT G M d z0 Q pc L ((1, v) :: (0, i) :: (2, x) :: st) z mem := by
  intro p l e R s m args below meth c H locs ls Z hC hK hl hL hst hM hS hH hz hZ
  obtain ⟨hkd, h0, h1, rfl⟩ := rt_sa_spec hv
  have hge := rt_kd_ge (k := x.toNat) (by omega)
  have hlt : rt_kd x.toNat < 20 := by omega
  have hc := rt_arr (hH _ hge hn) hlt
  obtain ⟨hin, hix⟩ := rt_in (rt_okh (rt_okt hst)) h0 h1
  have htg : rt_tg x.toNat i.toNat = 1 := by rw [rt_tg_a hlt, hkd]; rfl
  have hat : ArrOfT s (rt_cA G (rt_kd x.toNat)) .long := by rw [hkd]; exact hK.2.1 9 (by decide) (by decide)
  rw [List.map_cons, List.map_cons, List.map_cons, rt_tv_r hge]
  refine W.last hC.1 hC.2.1 hc (hat _ _) (fun q => by cases q) (by rw [arrV_size]; exact hin) rfl rfl hd (fun H1 e1 e2 e3 => ?_)
  rw [hix] at e1
  exact h p l e R s m args below meth c H1 _ ls Z hC hK hl hL (rt_okt (rt_okt (rt_okt hst))) (rt_okM_put hM (by rw [htg]; exact rt_okh hst)) (hS.put e2 e3 (rt_ad_A hge)) (rt_HR_put hH hge (rt_arr_put hlt (by rw [htg]; exact e1)) e3) (rt_HS_put hz e2) hZ
theorem RT.zast {x i v : Int} {mem1 : rt_M} (hd : decode (rt_c M) pc = .ok (.bastore, 1)) (hb : v = 0 ∨ v = 1) (hn : x.toNat < z.1) (hv : rt_sa 3 x i v mem = some mem1) (h : RT G M d z0 Q (pc + 1) L st z mem1) : RT G M d z0 Q pc L ((0, v) :: (0, i) :: (2, x) :: st) z mem := by
  intro p l e R s m args below meth c H locs ls Z hC hK hl hL hst hM hS hH hz hZ
  obtain ⟨hkd, h0, h1, rfl⟩ := rt_sa_spec hv
  have hge := rt_kd_ge (k := x.toNat) (by omega)
  have hlt : rt_kd x.toNat < 20 := by omega
  have hc := rt_arr (hH _ hge hn) hlt
  obtain ⟨hin, hix⟩ := rt_in (rt_okh (rt_okt hst)) h0 h1
  have htg : rt_tg x.toNat i.toNat = 0 := by rw [rt_tg_a hlt, hkd]; rfl
  have hat : ArrOfT s (rt_cA G (rt_kd x.toNat)) .boolean := by rw [hkd]; exact hK.2.1 3 (by decide) (by decide)
  rw [List.map_cons, List.map_cons, List.map_cons, rt_tv_r hge]
  refine W.zast hC.1 hC.2.1 hc (hat _ _) (fun q => by cases q) (by rw [arrV_size]; exact hin) rfl rfl hd (fun H1 e1 e2 e3 => ?_)
  rw [show narrow .boolean (.int (Int32.ofInt v)) = .int (Int32.ofInt v) by rcases hb with rfl | rfl <;> rfl] at e1
  rw [hix] at e1
  exact h p l e R s m args below meth c H1 _ ls Z hC hK hl hL (rt_okt (rt_okt (rt_okt hst))) (rt_okM_put hM (by rw [htg]; exact rt_okh hst)) (hS.put e2 e3 (rt_ad_A hge)) (rt_HR_put hH hge (rt_arr_put hlt (by rw [htg]; exact e1)) e3) (rt_HS_put hz e2) hZ
theorem RT.cast {x i v : Int} {mem1 : rt_M} (hd : decode (rt_c M) pc = .ok (.castore, 1)) (hb : 0 ≤ v ∧ v < 65536) (hn : x.toNat < z.1) (hv : rt_sa 4 x i v mem = some mem1) (h : RT G M d z0 Q (pc + 1) L st z mem1) : RT G M d z0 Q pc L ((0, v) :: (0, i) :: (2, x) :: st) z mem := by
  intro p l e R s m args below meth c H locs ls Z hC hK hl hL hst hM hS hH hz hZ
  obtain ⟨hkd, h0, h1, rfl⟩ := rt_sa_spec hv
  have hge := rt_kd_ge (k := x.toNat) (by omega)
  have hlt : rt_kd x.toNat < 20 := by omega
  have hc := rt_arr (hH _ hge hn) hlt
  obtain ⟨hin, hix⟩ := rt_in (rt_okh (rt_okt hst)) h0 h1
  have htg : rt_tg x.toNat i.toNat = 0 := by rw [rt_tg_a hlt, hkd]; rfl
  have hat : ArrOfT s (rt_cA G (rt_kd x.toNat)) .char := by rw [hkd]; exact hK.2.1 4 (by decide) (by decide)
  rw [List.map_cons, List.map_cons, List.map_cons, rt_tv_r hge]
  refine W.cast hC.1 hC.2.1 hc (hat _ _) (fun q => by cases q) (by rw [arrV_size]; exact hin) rfl rfl hd (fun H1 e1 e2 e3 => ?_)
  rw [show narrow .char (.int (Int32.ofInt v)) = .int (Int32.ofInt v) by obtain ⟨k, rfl⟩ := Int.eq_ofNat_of_zero_le hb.1; rw [show Int32.ofInt (k : Int) = nI k from Int32.ofInt_eq_ofNat]; exact (pk_charN (by omega)).1] at e1
  rw [hix] at e1
  exact h p l e R s m args below meth c H1 _ ls Z hC hK hl hL (rt_okt (rt_okt (rt_okt hst))) (rt_okM_put hM (by rw [htg]; exact rt_okh hst)) (hS.put e2 e3 (rt_ad_A hge)) (rt_HR_put hH hge (rt_arr_put hlt (by rw [htg]; exact e1)) e3) (rt_HS_put hz e2) hZ
theorem rt_len_spec {tc : Nat} {x v : Int} (h : rt_len tc x = some v) : rt_kd x.toNat = tc ∧ v = (rt_ln x.toNat : Int) := by
  unfold rt_len at h
  split at h
  · rename_i q
    exact ⟨q, (Option.some.inj h).symm⟩
  · cases h
theorem rt_sh_all : rt_shL.all (fun q => decide (q.2 < 3000)) = true := by decide +kernel
theorem rt_ln_small (k : Nat) : rt_ln k < 3000 := by
  unfold rt_ln rt_sh
  split
  · decide
  · rw [List.getD_eq_getElem?_getD]
    cases h : rt_shL[k - 41]? with
    | none => decide
    | some q =>
      have := List.all_eq_true.mp rt_sh_all q (List.mem_of_getElem? h)
      exact of_decide_eq_true this
theorem RT.alen (tc : Nat) {x v : Int} (hd : decode (rt_c M) pc = .ok (.arraylength, 1)) (htc : 1 ≤ tc ∧ tc ≤ 9) (hn : x.toNat < z.1) (hv : rt_len tc x = some v) (h : RT G M d z0 Q (pc + 1) L ((0, v) :: st) z mem) : RT G M d z0 Q pc L ((2, x) :: st) z mem := by
  intro p l e R s m args below meth c H locs ls Z hC hK hl hL hst hM hS hH hz hZ
  obtain ⟨hkd, rfl⟩ := rt_len_spec hv
  have hge := rt_kd_ge (k := x.toNat) (by omega)
  have hlt : rt_kd x.toNat < 20 := by omega
  have hc := rt_arr (hH _ hge hn) hlt
  have hsm := rt_ln_small x.toNat
  have k2 := h p l e R s m args below meth c H locs ls Z hC hK hl hL (rt_okc (show rt_ok (0, (rt_ln x.toNat : Int)) from ⟨by show (_ : Int) ≤ (rt_ln x.toNat : Int); omega, by show (rt_ln x.toNat : Int) < _; omega⟩) (rt_okt hst)) hM hS hH hz hZ
  rw [List.map_cons, rt_tv_r hge]
  exact W.alen hC.1 hC.2.1 hc (hK.2.1 (rt_kd x.toNat) (by omega) (by omega) _ _) (by rw [arrV_size]; exact (Int32.ofInt_eq_ofNat).symm) rfl rfl hd k2
end
