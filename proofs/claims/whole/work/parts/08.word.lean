/-! the Words: statics, their fields, their array; references compared -/
theorem rt_rf_old {G : rt_G} {i : Nat} (h : i < 41) : rt_tv G (2, (i : Int)) = .ref (G.1 i) := by
  show va_rf (rt_rf G (i : Int)) = _
  rw [rt_rf_some (by omega)]
  show Value.ref (rt_ad G (i : Int).toNat) = _
  rw [Int.toNat_natCast]
  unfold rt_ad
  rw [if_pos h]
theorem rt_ad_inj {G : rt_G} {s : State} (hK : rt_K G s) {a b : Nat} (h : rt_ad G a = rt_ad G b) : a = b := by
  obtain ⟨-, -, -, -, -, -, k7, k8, -, -⟩ := hK
  unfold rt_ad at h
  by_cases ha : a < 41
  · rw [if_pos ha] at h
    by_cases hb : b < 41
    · rw [if_pos hb] at h
      exact k7 a b ha hb h
    · rw [if_neg hb] at h
      have := k8 a ha
      omega
  · rw [if_neg ha] at h
    by_cases hb : b < 41
    · rw [if_pos hb] at h
      have := k8 b hb
      omega
    · rw [if_neg hb] at h
      omega
theorem rt_rf_inj {G : rt_G} {s : State} (hK : rt_K G s) {x y : Int} (hx : rt_ok (2, x)) (hy : rt_ok (2, y)) : rt_rf G x = rt_rf G y ↔ x = y := by
  have hx' : -1 ≤ x := hx
  have hy' : -1 ≤ y := hy
  refine ⟨fun h => ?_, fun h => by rw [h]⟩
  unfold rt_rf at h
  by_cases h1 : x < 0
  · rw [if_pos h1] at h
    by_cases h2 : y < 0
    · omega
    · rw [if_neg h2] at h; cases h
  · rw [if_neg h1] at h
    by_cases h2 : y < 0
    · rw [if_pos h2] at h; cases h
    · rw [if_neg h2] at h
      have := rt_ad_inj hK (Option.some.inj h)
      omega
/-- a Word's link: its static's place among the names -/
def rt_SL (own : String) (idx i : Nat) : Prop := i < 39 ∧ (Cond.fieldLink own idx RX9 (rt_wn.getD i "") "LWigOffice$Word;" ∈ rt_mG ∨ ∃ host, Cond.fieldLinkNest own idx RX9 (rt_wn.getD i "") "LWigOffice$Word;" host ∈ rt_mN)
def rt_gwp (x : Int) : Option Int := if 0 ≤ x ∧ x < 39 then some (rt_wp x.toNat) else none
def rt_gwc (x : Int) : Option Int := if 0 ≤ x ∧ x < 39 then some (rt_wc x.toNat) else none
/-- an element of the Words' array -/
def rt_alw (x i : Int) : Option Int := if x = 39 ∧ 0 ≤ i ∧ i < 39 then some i else none
def rt_saw (x i v : Int) (mem : rt_M) : Option rt_M := if 0 ≤ v ∧ v < 39 then rt_sa 5 x i v mem else none
theorem rt_wp_ok (i : Nat) : rt_ok (1, rt_wp i) := by
  have : ∀ v ∈ ([1963239, 242908517, 3841527017957, 228159726, 219771108, 205124324, 28130703987, 31098171883, 3983527327347, 3673750631155, 1850100, 1831782, 230258532, 3978687215598, 30292866286, 1718260, 207124068, 1619961, 1816564, 1603428, 14322, 219771124, 32694106483, 243005812, 4117212295908, 3600729846500, 219707748, 40, 41, 60, 61, 43, 45, 42, 59, 0, 0, 0, 0] : List Int), -9223372036854775808 ≤ v ∧ v < 9223372036854775808 := by decide
  show -9223372036854775808 ≤ rt_wp i ∧ rt_wp i < 9223372036854775808
  unfold rt_wp
  rw [List.getD_eq_getElem?_getD]
  generalize hl : ([1963239, 242908517, 3841527017957, 228159726, 219771108, 205124324, 28130703987, 31098171883, 3983527327347, 3673750631155, 1850100, 1831782, 230258532, 3978687215598, 30292866286, 1718260, 207124068, 1619961, 1816564, 1603428, 14322, 219771124, 32694106483, 243005812, 4117212295908, 3600729846500, 219707748, 40, 41, 60, 61, 43, 45, 42, 59, 0, 0, 0, 0] : List Int) = l at this ⊢
  cases h : l[i]? with
  | none => exact ⟨by decide, by decide⟩
  | some v => exact this v (List.mem_of_getElem? h)
section
variable {G : rt_G} {M : rt_Mt} {d : Nat} {z0 z : Nat × Nat} {Q : rt_P} {pc : Nat} {L st : List rt_V} {mem : rt_M}
theorem RT.gets (i : Nat) {idx : Nat} {x : Int} (hd : decode (rt_c M) pc = .ok (.getstatic idx, 3)) (hw : rt_SL (rt_y M).cls idx i) (hx : (i : Int) = x) (h : RT G M d z0 Q (pc + 3) L ((2, x) :: st) z mem) : RT G M d z0 Q pc L st z mem := by
  intro p l e R s m args below meth c H locs ls Z hC hK hl hL hst hM hS hH hz hZ
  subst hx
  obtain ⟨hi, hlk⟩ := hw
  have k := h p l e R s m args below meth c H locs ls Z hC hK hl hL (rt_okc (show rt_ok (2, (i : Int)) from by show (-1 : Int) ≤ (i : Int); omega) hst) hM hS hH hz hZ
  rw [List.map_cons, rt_rf_old (by omega)] at k
  have hZ0 := (hK.2.2.2.2.1 i hi).1
  rcases hlk with h0 | ⟨host, h0⟩
  · exact va_gets hC.1 hC.2.1 hZ0 hS hC.2.2.2.1 (hC.2.2.2.2.2.2.2.1 _ h0) (fun x h => h) hd k
  · exact va_getsN hC.1 hC.2.1 hZ0 hS hC.2.2.2.1 (va_Nw.use rfl (hK.2.2.2.1 _ h0)) (fun x h => h) hd k
theorem RT.getsAll {idx : Nat} (hd : decode (rt_c M) pc = .ok (.getstatic idx, 3)) (hw : Cond.fieldLink (rt_y M).cls idx RX9 "ALL" "[LWigOffice$Word;" ∈ rt_mG) (h : RT G M d z0 Q (pc + 3) L ((2, 39) :: st) z mem) : RT G M d z0 Q pc L st z mem := by
  intro p l e R s m args below meth c H locs ls Z hC hK hl hL hst hM hS hH hz hZ
  have k := h p l e R s m args below meth c H locs ls Z hC hK hl hL (rt_okc (show rt_ok (2, 39) from by show (-1 : Int) ≤ 39; decide) hst) hM hS hH hz hZ
  rw [List.map_cons, show rt_tv G (2, 39) = .ref (G.1 39) from rt_rf_old (i := 39) (by decide)] at k
  exact va_gets hC.1 hC.2.1 hK.2.2.2.2.2.1.1 hS hC.2.2.2.1 (hC.2.2.2.2.2.2.2.1 _ hw) (fun x h => h) hd k
theorem RT.wpk {idx : Nat} {x v : Int} (hd : decode (rt_c M) pc = .ok (.getfield idx, 3)) (hw : Cond.fieldLink (rt_y M).cls idx RX9 "packed" "J" ∈ rt_mG) (hv : rt_gwp x = some v) (h : RT G M d z0 Q (pc + 3) L ((1, v) :: st) z mem) : RT G M d z0 Q pc L ((2, x) :: st) z mem := by
  intro p l e R s m args below meth c H locs ls Z hC hK hl hL hst hM hS hH hz hZ
  unfold rt_gwp at hv
  split at hv
  · rename_i hx
    cases hv
    obtain ⟨i, rfl⟩ := Int.eq_ofNat_of_zero_le hx.1
    have k := h p l e R s m args below meth c H locs ls Z hC hK hl hL (rt_okc (rt_wp_ok _) (rt_okt hst)) hM hS hH hz hZ
    rw [List.map_cons, rt_rf_old (by omega)]
    obtain ⟨cf, kf, fi, f, cell, h1, h2, h3, h4, h5, h6⟩ := (hK.2.2.2.2.1 i (by omega)).2.2.1
    exact W.getf hC.1 hC.2.1 hC.2.2.2.1 (hC.2.2.2.2.2.2.2.1 _ hw) h1 h2 (by rw [hS.2.1 _ (Array.getElem?_eq_some_iff.mp h3).1 h6]; exact h3) h4 h5 rfl rfl hd k
  · cases hv
theorem RT.wcn {idx : Nat} {host : String} {x v : Int} (hd : decode (rt_c M) pc = .ok (.getfield idx, 3)) (hw : Cond.fieldLinkNest (rt_y M).cls idx RX9 "canName" "Z" host ∈ rt_mN) (hv : rt_gwc x = some v) (h : RT G M d z0 Q (pc + 3) L ((0, v) :: st) z mem) : RT G M d z0 Q pc L ((2, x) :: st) z mem := by
  intro p l e R s m args below meth c H locs ls Z hC hK hl hL hst hM hS hH hz hZ
  unfold rt_gwc at hv
  split at hv
  · rename_i hx
    cases hv
    obtain ⟨i, rfl⟩ := Int.eq_ofNat_of_zero_le hx.1
    have ok : rt_ok (0, rt_wc (i : Int).toNat) := by unfold rt_wc; split <;> exact ⟨by decide, by decide⟩
    have k := h p l e R s m args below meth c H locs ls Z hC hK hl hL (rt_okc ok (rt_okt hst)) hM hS hH hz hZ
    rw [List.map_cons, rt_rf_old (by omega)]
    obtain ⟨cf, kf, fi, f, cell, h1, h2, h3, h4, h5, h6⟩ := (hK.2.2.2.2.1 i (by omega)).2.2.2
    exact va_Wgetf hC.1 hC.2.1 hC.2.2.2.1 (va_Nw.use rfl (hK.2.2.2.1 _ hw)) h1 h2 (by rw [hS.2.1 _ (Array.getElem?_eq_some_iff.mp h3).1 h6]; exact h3) h4 h5 rfl rfl hd k
  · cases hv
theorem RT.alenW (hd : decode (rt_c M) pc = .ok (.arraylength, 1)) (h : RT G M d z0 Q (pc + 1) L ((0, 39) :: st) z mem) : RT G M d z0 Q pc L ((2, 39) :: st) z mem := by
  intro p l e R s m args below meth c H locs ls Z hC hK hl hL hst hM hS hH hz hZ
  have k := h p l e R s m args below meth c H locs ls Z hC hK hl hL (rt_okc ⟨by decide, by decide⟩ (rt_okt hst)) hM hS hH hz hZ
  rw [List.map_cons, show rt_tv G (2, 39) = .ref (G.1 39) from rt_rf_old (i := 39) (by decide)]
  exact va_tlen hC.1 hC.2.1 hK.2.2.2.2.2.1.2 hS rfl hd k
theorem RT.aldW {x i v : Int} (hd : decode (rt_c M) pc = .ok (.aaload, 1)) (hv : rt_alw x i = some v) (h : RT G M d z0 Q (pc + 1) L ((2, v) :: st) z mem) : RT G M d z0 Q pc L ((0, i) :: (2, x) :: st) z mem := by
  intro p l e R s m args below meth c H locs ls Z hC hK hl hL hst hM hS hH hz hZ
  unfold rt_alw at hv
  split at hv
  · rename_i hx
    obtain ⟨rfl, h0, h1⟩ := hx
    cases hv
    have k := h p l e R s m args below meth c H locs ls Z hC hK hl hL (rt_okc (show rt_ok (2, i) from by show (-1 : Int) ≤ i; omega) (rt_okt (rt_okt hst))) hM hS hH hz hZ
    obtain ⟨hin, hix⟩ := rt_in (n := 39) (rt_okh hst) h0 h1
    rw [List.map_cons, List.map_cons, show rt_tv G (2, 39) = .ref (G.1 39) from rt_rf_old (i := 39) (by decide)]
    obtain ⟨j, rfl⟩ := Int.eq_ofNat_of_zero_le h0
    rw [List.map_cons, rt_rf_old (by omega)] at k
    obtain ⟨cell, a1, a2, a3, a4, a5, a6, a7⟩ := hK.2.2.2.2.2.1.2
    rw [Int.toNat_natCast] at hix
    refine W.aald hC.1 hC.2.1 (by rw [hS.2.1 _ (Array.getElem?_eq_some_iff.mp a1).1 a7]; exact a1) a2 rfl a3 ?_ (by rw [hix]; exact a6 j (by omega)) rfl rfl hd k
    rintro (q | q)
    · exact hin (Or.inl q)
    · rw [hix] at q; omega
  · cases hv
theorem RT.acmp_eq {x y off : Int} {tgt : Nat} (hd : decode (rt_c M) pc = .ok (.if_acmp .eq off, 3)) (ht : (pc : Int) + off = (tgt : Int)) (kt : x = y → RT G M d z0 Q tgt L st z mem) (kf : ¬ x = y → RT G M d z0 Q (pc + 3) L st z mem) : RT G M d z0 Q pc L ((2, y) :: (2, x) :: st) z mem := by
  intro p l e R s m args below meth c H locs ls Z hC hK hl hL hst hM hS hH hz hZ
  have i := rt_rf_inj hK (rt_okh (rt_okt hst)) (rt_okh hst)
  exact lv_acmp_eq hC.1 hC.2.1 hd ht (fun q => kt (i.mp q) p l e R s m args below meth c H locs ls Z hC hK hl hL (rt_okt (rt_okt hst)) hM hS hH hz hZ) (fun q => kf (fun r => q (i.mpr r)) p l e R s m args below meth c H locs ls Z hC hK hl hL (rt_okt (rt_okt hst)) hM hS hH hz hZ)
theorem RT.acmp_ne {x y off : Int} {tgt : Nat} (hd : decode (rt_c M) pc = .ok (.if_acmp .ne off, 3)) (ht : (pc : Int) + off = (tgt : Int)) (kt : ¬ x = y → RT G M d z0 Q tgt L st z mem) (kf : ¬ ¬ x = y → RT G M d z0 Q (pc + 3) L st z mem) : RT G M d z0 Q pc L ((2, y) :: (2, x) :: st) z mem := by
  intro p l e R s m args below meth c H locs ls Z hC hK hl hL hst hM hS hH hz hZ
  have i := rt_rf_inj hK (rt_okh (rt_okt hst)) (rt_okh hst)
  exact lv_acmp_ne hC.1 hC.2.1 hd ht (fun q => kt (fun r => q (i.mpr r)) p l e R s m args below meth c H locs ls Z hC hK hl hL (rt_okt (rt_okt hst)) hM hS hH hz hZ) (fun q => kf (fun r => r (i.mp q)) p l e R s m args below meth c H locs ls Z hC hK hl hL (rt_okt (rt_okt hst)) hM hS hH hz hZ)
theorem RT.astW {x i v : Int} {mem1 : rt_M} (hd : decode (rt_c M) pc = .ok (.aastore, 1)) (hn : x.toNat < z.1) (hv : rt_saw x i v mem = some mem1) (h : RT G M d z0 Q (pc + 1) L st z mem1) : RT G M d z0 Q pc L ((2, v) :: (0, i) :: (2, x) :: st) z mem := by
  intro p l e R s m args below meth c H locs ls Z hC hK hl hL hst hM hS hH hz hZ
  unfold rt_saw at hv
  split at hv
  · rename_i hvv
    obtain ⟨hkd, h0, h1, rfl⟩ := rt_sa_spec hv
    have hge := rt_kd_ge (k := x.toNat) (by omega)
    have hlt : rt_kd x.toNat < 20 := by omega
    have hc := rt_arr (hH _ hge hn) hlt
    obtain ⟨hin, hix⟩ := rt_in (rt_okh (rt_okt hst)) h0 h1
    have htg : rt_tg x.toNat i.toNat = 2 := by rw [rt_tg_a hlt, hkd]; rfl
    obtain ⟨j, rfl⟩ := Int.eq_ofNat_of_zero_le hvv.1
    rw [List.map_cons, List.map_cons, List.map_cons, rt_tv_r hge, rt_rf_old (by omega)]
    obtain ⟨kA, comp, b1, b2, b3, kc, hkc⟩ := hK.2.2.1 5 (by decide) (by decide)
    obtain ⟨cw, c1, c2, c3, c4⟩ := (hK.2.2.2.2.1 j (by omega)).2.1
    have hcomp := b3 "WigOffice$Word" rfl
    have hcc : cw.cls = comp := Option.some.inj (c3.symm.trans hcomp)
    refine W.aast (t := rt_aty 5) (kv := kc) (kcomp := kc) hC.1 hC.2.1 hc (fun q h => by cases h) (fun h => by cases h) (by rw [hkd]; exact b1) b2 rfl hkc ⟨fun q => hin (Or.inl q), by rw [arrV_size, hix]; omega⟩ (by rw [hS.2.1 _ (Array.getElem?_eq_some_iff.mp c1).1 c4]; exact c1) (fun q h => by rw [h] at c2; cases c2) (by rw [hcc]; exact hkc) (by rw [hcc]; exact va_asg _ _) rfl rfl hd (fun H1 e1 e2 e3 => ?_)
    rw [hix] at e1
    refine h p l e R s m args below meth c H1 _ ls Z hC hK hl hL (rt_okt (rt_okt (rt_okt hst))) (rt_okM_put hM (by rw [htg]; exact rt_okh hst)) (hS.put e2 e3 (rt_ad_A hge)) (rt_HR_put hH hge (rt_arr_put hlt ?_) e3) (rt_HS_put hz e2) hZ
    rw [htg, rt_rf_old (by omega)]
    exact e1
  · cases hv
end
