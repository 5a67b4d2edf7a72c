/-! Layer 4: the throw of rests and horsehair -/
def rx_NS : String := "java/util/NoSuchElementException"
def rx_L : List Cond := (rx_own RX11 311 "java/util/NoSuchElementException" "java/lang/RuntimeException" ["java/lang/Exception"] 13 prog_23_method_4_code).filter vx_no
theorem rx_Le : rx_L = [17, 1067, 1076, 1078, 1081, 1083, 1068, 1069, 27, 28, 1070, 1075, 1079, 1099, 1057, 1100, 1059, 1101, 1061, 1071, 1073, 1063, 1095, 1096, 1098, 1063, 1086, 1087, 1088, 1089, 1049, 1089, 1090, 1091, 1092, 1051, 1092, 1093, 1094, 1095, 1053, 1085, 1046, 1054, 1055, 1056, 1058, 1060, 1062, 1066, 1065, 1064].filterMap (fun i => tables_1[i]?) := by decide +kernel
theorem rx_Lin : ∀ w ∈ rx_L, w ∈ lw_tbl := fun w hw => by
  rw [rx_Le] at hw
  obtain ⟨i, -, hi⟩ := List.mem_filterMap.mp hw
  exact List.mem_append_right _ (List.mem_of_getElem? hi)
theorem rx_Lgood : ∀ w ∈ rx_L, (goodWord w || (rt_nest w && w.onTables)) = true := by decide +kernel
theorem rx_Lot : ∀ w ∈ rx_L, vx_ot w = true := fun w hw => by
  have h := rx_Lgood w hw
  unfold vx_ot
  cases hg : goodWord w
  · rw [hg] at h
    have h2 : (rt_nest w && w.onTables) = true := h
    rw [Bool.and_eq_true] at h2
    rw [h2.2]; rfl
  · exact Bool.or_true _
theorem rx_Lat {G : rt_G} {s : State} {args : Array Value} (hK : rt_K G s) (hts : ∀ w ∈ rt_mG, w.before args s = true) : ∀ w ∈ rx_L, w.before args s = true := fun w hw => by
  have h := rx_Lgood w hw
  cases hg : goodWord w
  · rw [hg] at h
    have h2 : (rt_nest w && w.onTables) = true := h
    rw [Bool.and_eq_true] at h2
    exact va_Nw.use h2.2 (hK.2.2.2.1 w (List.mem_filter.mpr ⟨rx_Lin w hw, h2.1⟩))
  · exact hts w (List.mem_filter.mpr ⟨rx_Lin w hw, hg⟩)
theorem rx_k307 : Cond.classLink RX11 307 "java/util/NoSuchElementException" ∈ rt_mG := (rt_inG (rt_t5 85 (by decide +kernel)) rfl)
theorem rx_ini : Cond.initialized "java/util/NoSuchElementException" ∈ rt_mG := (rt_inG (rt_t1 20 (by decide +kernel)) rfl)
theorem rx_cells8 (z : Nat × Nat) : rt_cells z (z.1, z.2 + 1) = 8 := by
  show (z.1 - z.1) + 8 * (z.2 + 1 - z.2) = 8
  omega
theorem rx_slots8 (z : Nat × Nat) : rt_slots z (z.1, z.2 + 1) = 200 := by
  show (rt_ss z.1 - rt_ss z.1) + 200 * (z.2 + 1 - z.2) = 200
  omega
section
variable {G : rt_G} {M : rt_Mt} {d n : Nat} {z0 z : Nat × Nat} {Q : rt_P} {X : Nat × Nat → rt_M → Prop} {pc : Nat} {L As : List rt_V} {mem : rt_M}
set_option maxHeartbeats 1000000 in
theorem RTx.thr {is : Nat} {text : String} (hM : (rt_y M).cls = RX11) (hs : (is, text) ∈ rt_str) (d0 : decode (rt_c M) pc = .ok (.new 307, 3)) (d3 : decode (rt_c M) (pc + 3) = .ok (.dup, 1)) (d4 : decode (rt_c M) (pc + 4) = .ok (.ldc_w is, 3)) (d7 : decode (rt_c M) (pc + 7) = .ok (.invokespecial 311, 3)) (d10 : decode (rt_c M) (pc + 10) = .ok (.athrow, 1))
    (hd : 7 ≤ d) (hc : rt_cells z0 (z.1, z.2 + 1) ≤ rt_mc M) (hsl : rt_slots z0 (z.1, z.2 + 1) ≤ rt_ms M) (hz0 : z0.2 ≤ z.2) (h : X (z.1, z.2 + 1) mem) : RTx G M d z0 Q X pc L [] z mem := by
  intro p l e R s m args below meth c H locs ls Z hC hK hl hL hst hMm hS hH hz hZ
  obtain ⟨hx, hb, hml, hown, hret, hlk, hnm, hts, hRf, hRl, hRc2, hRs, hstt⟩ := id hC
  obtain ⟨sa, hstr⟩ := hK.2.2.2.2.2.2.2.2.2.2.2.1 _ hs
  have c1 : rt_cells z0 z + 1 ≤ rt_mc M := by
    refine Nat.le_trans ?_ hc
    show (z.1 - z0.1) + 8 * (z.2 - z0.2) + 1 ≤ (z.1 - z0.1) + 8 * (z.2 + 1 - z0.2)
    omega
  have c2 : rt_slots z0 z + 6 ≤ rt_ms M := by
    refine Nat.le_trans ?_ hsl
    show (rt_ss z.1 - rt_ss z0.1) + 200 * (z.2 - z0.2) + 6 ≤ (rt_ss z.1 - rt_ss z0.1) + 200 * (z.2 + 1 - z0.2)
    omega
  refine rt_W_mono (rx_throw (own := RX11) (cls := "java/util/NoSuchElementException") (text := text) (Y := "java/lang/RuntimeException") (r := ["java/lang/Exception"]) (ik := 307) (is := is) (ic := 311) (ix := 13) (sa := sa) (rx := prog_23_method_4_code) (A := rt_A G) hx hb hstt (by rw [← hM]; exact hown) (by decide +kernel) (by decide +kernel) (by decide +kernel) (by decide +kernel) (by decide +kernel) (by decide +kernel) (by decide +kernel)
    (hts _ rx_k307) (hts _ rx_ini) hstr (rx_Lat hK hts) ?_ hK.2.2.2.2.2.2.2.2.2.2.2.2.1 hK.2.2.2.2.2.2.2.2.2.2.2.2.2 hS (hl.1.trans hml.symm) d0 d3 d4 d7 d10 (fun x hx => (hZ.1 x hx).elim) ?_ ?_ (Nat.le_trans c1 hRc2) (Nat.le_trans c2 hRs) hlk ?_ hS.2.2 c1 c2) hZ.2
  · intro w hw
    rcases List.mem_cons.mp hw with rfl | hw
    · rfl
    · rcases List.mem_cons.mp hw with rfl | hw
      · rfl
      · exact rx_Lot w hw
  · show 1 + 4 < R.frames
    omega
  · show 0 + (13 * (1 + 2) + 43) ≤ R.locals
    omega
  · intro t al f1 f2
    refine ⟨rfl, ⟨(z.1, z.2 + 1), mem, h, hMm, rt_HR_push hH hz.1 (fun _ _ _ _ => rfl) f2 (fun k h1 h2 _ => absurd h1 (Nat.not_le.mpr h2)), ⟨Nat.le_trans hz.1 f1, fun q => by cases q⟩⟩, ⟨Nat.le_trans hS.1 f1, fun q h1 h2 => (f2 q (Nat.lt_of_lt_of_le h1 hS.1)).trans (hS.2.1 q h1 h2)⟩⟩
/-- called with As from mem: it returns r and leaves mem, or throws, leaving mem and what it threw -/
def RMx (G : rt_G) (M : rt_Mt) (d : Nat) (As : List rt_V) (z : Nat × Nat) (mem : rt_M) (t : Int ⊕ Unit) : Prop :=
  RTx G M d z (fun v z' m' => z' = z ∧ m' = mem ∧ ∃ r, t = .inl r ∧ v = some (0, r)) (fun z' m' => z' = (z.1, z.2 + 1) ∧ m' = mem ∧ t = .inr ()) 0 (rt_entry (rt_n M) As) [] z mem
theorem rtx_met (l : Launch) (hstt : l.stackTraces = false) (hw : rt_Mw M n) (hpn : plainName (rt_y M).cls = true) (hlen : (rt_ent As).length ≤ rt_n M) (h : RTx G M d z Q X 0 (rt_entry (rt_n M) As) [] z mem) : vx_Met l (rt_y M) (rt_ws M) (rt_rm M d) (rt_Pc G As z mem) (rt_Qc G Q) (rx_XC G X) (rt_mc M) (rt_ms M) (rt_A G) := by
  refine vx_ofW (cc := rt_c M) (maxL := rt_n M) (ret := rt_r M) hpn rfl ?_
  intro p e s m args below meth c s₁ B hml hex hv
  obtain ⟨rfl, hK, hM, hH, hz, hok⟩ := hv
  have hts := atoms_spec (ws := rt_ws M) B.pre
  rw [lg_entry_eq]
  have k := h p l e (headSpec (rt_ws M) (rt_rm M d)).room s m _ below meth c s.heap [] _ _ ⟨B.exec, B.bytes, hml, findClass_of_methodNamed B.named, B.returns, B.notSynchronized, (name_of_methodNamed B.named B.method).1, fun w hw => hts w (List.mem_cons_of_mem _ hw), Nat.le_refl _, Nat.le_refl _, Nat.le_refl _, Nat.le_refl _, hstt⟩ hK (rt_entry_has hlen) (rt_entry_ok hok) (fun v h => by cases h) hM va_S.rf hH hz ⟨hex, fun t h => h⟩
  rw [rt_cells_0, rt_slots_0] at k
  exact k
end
