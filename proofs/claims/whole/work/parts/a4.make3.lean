/-! Layer 4: what is made: rules (3) -/
theorem rt_ss_rows {a N M : Nat} (h : 41 ≤ a) (hb : a + N ≤ 301) (hr : ∀ j, j < N → rt_ln (a + j) = M) : rt_ss (a + N) = rt_ss a + N * M := by
  induction N with
  | zero => simp
  | succ N ih =>
    rw [show a + (N + 1) = (a + N) + 1 by omega, rt_ss_s (by omega) (by omega), ih (by omega) (fun j hj => hr j (by omega)), hr N (by omega), Nat.succ_mul]
    omega
def rt_mr (mem : rt_M) (k N : Nat) : rt_M := fun a j => if a = k then ((k + 1 + j : Nat) : Int) else if k < a ∧ a ≤ k + N then 0 else mem a j
/-- an element of the script -/
def rt_sl (n : Nat) (xs : Nat → Int) (i : Int) : Option Int := if 0 ≤ i ∧ i < (n : Int) then some (xs i.toNat) else none
section
variable {G : rt_G} {M M' : rt_Mt} {d d' n k0 k : Nat} {Q Q' : rt_P} {pc idx : Nat} {L st stk As : List rt_V} {mem : rt_M} {z0 z : Nat × Nat}
/-- rows of rows -/
theorem RT.multi {N R0 : Nat} (hd : decode (rt_c M) pc = .ok (.multianewarray idx 2, 4)) (hcl : Cond.classLink (rt_y M).cls idx "[[I" ∈ rt_mG) (hov : Cond.arrayOver (.array .int) ∈ rt_mN) (harr : Cond.arrayClass .int ∈ rt_mG) (hsh : rt_sh k = (6, N)) (hr : ∀ j, j < N → rt_sh (k + 1 + j) = (1, R0)) (hR0 : R0 ≤ 1000) (hN0 : 0 < N) (hk0 : 41 ≤ k0) (hk : k0 ≤ k) (hc : rt_cells (k0, 0) (k + 1 + N, 0) ≤ rt_mc M) (hs2 : rt_slots (k0, 0) (k + 1 + N, 0) ≤ rt_ms M) (h : RT G M d (k0, 0) Q (pc + 4) L ((2, (k : Int)) :: st) (k + 1 + N, 0) (rt_mr mem k N)) : RT G M d (k0, 0) Q pc L ((0, (R0 : Int)) :: (0, (N : Int)) :: st) (k, 0) mem := by
  intro p l e R s m args below meth c H locs ls Z hC hK hl hL hst hM hS hH hz hZ
  obtain ⟨b1, b2, b3⟩ := rt_sh_lt hsh (by decide)
  have b5 := (rt_sh_lt (hr (N - 1) (by omega)) (by decide)).2.1
  have hkd : rt_kd k = 6 := by show (rt_sh k).1 = 6; rw [hsh]
  have hln : rt_ln k = N := by show (rt_sh k).2 = N; rw [hsh]
  have hlr : ∀ j, j < N → rt_kd (k + 1 + j) = 1 ∧ rt_ln (k + 1 + j) = R0 := fun j hj => by
    have := hr j hj
    exact ⟨by show (rt_sh _).1 = 1; rw [this], by show (rt_sh _).2 = R0; rw [this]⟩
  have e1 := rt_ss_s b1 b2
  have e2 := rt_ss_rows (a := k + 1) (N := N) (M := R0) (by omega) (by omega) (fun j hj => (hlr j hj).2)
  have e3 := rt_ss_le hk0 (by omega) hk
  have s1 : rt_cells (k0, 0) (k + 1 + N, 0) = rt_cells (k0, 0) (k, 0) + 1 + N := by unfold rt_cells; dsimp only; omega
  have s2 : rt_slots (k0, 0) (k + 1 + N, 0) = rt_slots (k0, 0) (k, 0) + N + N * R0 := by unfold rt_slots; dsimp only; rw [e2, e1, hln]; omega
  have hts := hC.2.2.2.2.2.2.2.1
  have hRc := hC.2.2.2.2.2.2.2.2.2.2.1
  have hRs := hC.2.2.2.2.2.2.2.2.2.2.2.1
  have hsz := hz.2 rfl
  dsimp only at hsz
  obtain ⟨-, hnn, hnc⟩ := rt_n32 b3
  obtain ⟨-, hmn, hmc⟩ := rt_n32 (n := R0) (by omega)
  have had : rt_ad G k = H.size := by rw [rt_ad_new b1, hsz]
  rw [List.map_cons, List.map_cons]
  show W p l e R s m args below meth c H locs _ _ Z (F0 m pc ls (.int (Int32.ofInt (R0 : Int)) :: .int (Int32.ofInt (N : Int)) :: st.map (rt_tv G)))
  refine mu_W hC.1 hC.2.1 hC.2.2.2.1 (hts _ hcl) (show (Cond.arrayOver (.array .int)).before args s = true from hK.2.2.2.1 _ hov) (hts _ harr) (g := F0 m pc ls (.int (Int32.ofInt (R0 : Int)) :: .int (Int32.ofInt (N : Int)) :: st.map (rt_tv G))) rfl hd rfl hnn hmn hnc hmc (by omega) hR0 (by omega) (by omega) (fun c1 c2 H1 locs1 f1 f2 z1 o1 g1 g2 hlo => ?_)
  have z1' : H1.size = H.size + (1 + N) := by omega
  have hc2 : c2 = rt_cA G 6 := Option.some.inj (f1.symm.trans (hK.2.2.2.2.2.2.2.2.2.2.1 6 (by decide) (by decide)))
  have hc1 : c1 = rt_cA G 1 := Option.some.inj (f2.symm.trans (hK.2.2.2.2.2.2.2.2.2.2.1 1 (by decide) (by decide)))
  have hS1 : va_S (rt_A G) s.heap H1 locs1 := by
    obtain ⟨v1, v2, v3⟩ := rt_kp hS z1' o1
    refine ⟨v1, v2, fun q hq => ?_⟩
    rcases hlo q hq with y | y
    · exact v3 q y
    · rw [y, ← had]; exact rt_ad_A b1
  have hzz : rt_HS G (k + 1 + N, 0) H1 := by
    have := rt_hs hz b1 z1'
    rw [← Nat.add_assoc] at this
    exact this
  have kk := h p l e R s m args below meth c H1 locs1 ls Z hC hK hl hL (rt_okc (show rt_ok (2, (k : Int)) from by show (-1 : Int) ≤ (k : Int); omega) (rt_okt (rt_okt hst))) ?_ hS1 ?_ hzz hZ
  · rw [s1, s2, List.map_cons, show rt_tv G (2, (k : Int)) = .ref H.size from by rw [rt_tv_r (by rw [Int.toNat_natCast]; exact b1), Int.toNat_natCast, had]] at kk
    exact kk
  · intro a j ha
    unfold rt_mr
    by_cases q : a = k
    · rw [if_pos q, q, rt_tg_a (by omega), hkd]
      show (-1 : Int) ≤ _
      omega
    · rw [if_neg q]
      by_cases q2 : k < a ∧ a ≤ k + N
      · rw [if_pos q2]
        have h1 := (hlr (a - (k + 1)) (by omega)).1
        rw [show k + 1 + (a - (k + 1)) = a by omega] at h1
        rw [rt_tg_a (by omega), h1]
        exact ⟨by decide, by decide⟩
      · rw [if_neg q2]; exact hM a j ha
  · refine rt_HR_push hH hz.1 (fun a j h1 h2 => ?_) o1 (fun a h1 h2 h3 => ?_)
    · dsimp only at h2
      unfold rt_mr
      rw [if_neg (by omega), if_neg (by omega)]
    · dsimp only at h1 h2
      unfold rt_HC
      by_cases q : a = k
      · subst q
        rw [if_pos (by omega), had, g1, hkd, hln, hc2]
        congr 1
        unfold arrV
        congr 2
        funext j
        have hj := j.isLt
        rw [mu_g_at, if_pos hj]
        show _ = rt_tv G (rt_tg a j, rt_mr mem a N a j)
        rw [rt_tg_a (by omega), hkd]
        unfold rt_mr
        rw [if_pos rfl]
        show _ = rt_tv G (2, _)
        rw [rt_tv_r (by rw [Int.toNat_natCast]; omega), Int.toNat_natCast, rt_ad_new (by omega), hsz, show rt_base G + (a - 41) + 1 + (j : Nat) = rt_base G + (a + 1 + (j : Nat) - 41) by omega]
      · have h1' := hlr (a - (k + 1)) (by omega)
        have g2' := g2 (a - (k + 1)) (by omega)
        rw [show k + 1 + (a - (k + 1)) = a by omega] at h1'
        rw [if_pos (by omega), rt_ad_new h3, h1'.1, h1'.2, show rt_base G + (a - 41) = H.size + 1 + (a - (k + 1)) by omega, g2', hc1]
        congr 2
        funext j
        show _ = rt_tv G (rt_tg a j, rt_mr mem k N a j)
        rw [rt_tg_a (by omega), h1'.1]
        unfold rt_mr
        rw [if_neg q, if_pos (by omega)]
        rfl
/-- an object laid into a row of objects -/
theorem RT.aastO (tc ci : Nat) {x i v : Int} {mem1 : rt_M} (hd : decode (rt_c M) pc = .ok (.aastore, 1)) (htc : 5 ≤ tc ∧ tc ≤ 8) (hty : rt_aty tc = .object (rt_R ci)) (hCL : rt_CL ci) (hn : x.toNat < z.1) (hvk : rt_kd v.toNat = 20 + ci) (hvn : v.toNat < z.1) (hv : rt_sa tc x i v mem = some mem1) (h : RT G M d z0 Q (pc + 1) L st z mem1) : RT G M d z0 Q pc L ((2, v) :: (0, i) :: (2, x) :: st) z mem := by
  intro p l e R s m args below meth c H locs ls Z hC hK hl hL hst hM hS hH hz hZ
  obtain ⟨hkd, h0, h1, rfl⟩ := rt_sa_spec hv
  have hge := rt_kd_ge (k := x.toNat) (by omega)
  have hgev := rt_kd_ge (k := v.toNat) (by omega)
  have hlt : rt_kd x.toNat < 20 := by omega
  have hc := rt_arr (hH _ hge hn) hlt
  obtain ⟨hin, hix⟩ := rt_in (rt_okh (rt_okt hst)) h0 h1
  have htg : rt_tg x.toNat i.toNat = 2 := by
    rw [rt_tg_a hlt, hkd]
    show rt_fty (rt_aty tc) = 2
    rw [hty]; rfl
  rw [List.map_cons, List.map_cons, List.map_cons, rt_tv_r hge, rt_tv_r hgev]
  obtain ⟨kA, comp, b1, b2, b3, kc, hkc⟩ := hK.2.2.1 tc htc.1 htc.2
  obtain ⟨cell, q1, q2, q3, q4⟩ := rt_obj (hH _ hgev hvn) hvk
  have hfc := (hK.1 ci _ hCL.1).2.1
  have hcomp := b3 (rt_R ci) hty
  have hcc : cell.cls = comp := by rw [q2]; exact Option.some.inj (hfc.symm.trans hcomp)
  refine W.aast (t := rt_aty tc) (kv := kc) (kcomp := kc) hC.1 hC.2.1 hc (fun q h => by cases h) (fun h => by cases h) (by rw [hkd]; exact b1) b2 (by rw [hty]; rfl) hkc ⟨fun q => hin (Or.inl q), by rw [arrV_size, hix]; omega⟩ q1 (fun q h => by rw [q3] at h; cases h) (by rw [hcc]; exact hkc) (by rw [hcc]; exact va_asg _ _) rfl rfl hd (fun H1 e1 e2 e3 => ?_)
  rw [hix] at e1
  refine h p l e R s m args below meth c H1 _ ls Z hC hK hl hL (rt_okt (rt_okt (rt_okt hst))) (rt_okM_put hM (by rw [htg]; exact rt_okh hst)) (hS.put e2 e3 (rt_ad_A hge)) (rt_HR_put hH hge (rt_arr_put hlt ?_) e3) (rt_HS_put hz e2) hZ
  rw [htg, rt_tv_r hgev]
  exact e1
theorem RT.sld {i v : Int} (hd : decode (rt_c M) pc = .ok (.iaload, 1)) (hv : rt_sl (rt_L G) (fun j => (rt_xs G j).toInt) i = some v) (h : RT G M d z0 Q (pc + 1) L ((0, v) :: st) z mem) : RT G M d z0 Q pc L ((0, i) :: (2, 40) :: st) z mem := by
  intro p l e R s m args below meth c H locs ls Z hC hK hl hL hst hM hS hH hz hZ
  unfold rt_sl at hv
  split at hv
  · rename_i hi
    cases hv
    obtain ⟨hin, hix⟩ := rt_in (rt_okh hst) hi.1 hi.2
    have k8 := hK.2.2.2.2.2.2.2.1 40 (by decide)
    have k9 := hK.2.2.2.2.2.2.2.2.1
    have k10 := hK.2.2.2.2.2.2.2.2.2.1
    have kk := h p l e R s m args below meth c H locs ls Z hC hK hl hL (rt_okc (rt_ok_i _) (rt_okt (rt_okt hst))) hM hS hH hz hZ
    rw [List.map_cons, rt_tv_i] at kk
    rw [List.map_cons, List.map_cons, show rt_tv G (2, 40) = .ref (G.1 40) from rt_rf_old (i := 40) (by decide)]
    refine va_sld hC.1 hC.2.1 k10 (Nat.lt_of_lt_of_le k8 k9) (Nat.not_le.mpr k8) hS hin hd ?_
    rw [hix]
    exact kk
  · cases hv
theorem RT.slen (hL0 : rt_L G ≤ 3584) (hd : decode (rt_c M) pc = .ok (.arraylength, 1)) (h : RT G M d z0 Q (pc + 1) L ((0, (rt_L G : Int)) :: st) z mem) : RT G M d z0 Q pc L ((2, 40) :: st) z mem := by
  intro p l e R s m args below meth c H locs ls Z hC hK hl hL hst hM hS hH hz hZ
  have k8 := hK.2.2.2.2.2.2.2.1 40 (by decide)
  have k9 := hK.2.2.2.2.2.2.2.2.1
  have k10 := hK.2.2.2.2.2.2.2.2.2.1
  have kk := h p l e R s m args below meth c H locs ls Z hC hK hl hL (rt_okc (show rt_ok (0, (rt_L G : Int)) from ⟨by omega, by omega⟩) (rt_okt hst)) hM hS hH hz hZ
  rw [List.map_cons] at kk
  rw [List.map_cons, show rt_tv G (2, 40) = .ref (G.1 40) from rt_rf_old (i := 40) (by decide)]
  exact va_slen hC.1 hC.2.1 k10 (Nat.lt_of_lt_of_le k8 k9) (Nat.not_le.mpr k8) hS hd kk
end
