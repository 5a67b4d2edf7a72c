/-! Layer 4: the judgement of a body that may throw; its rules, printed by program (wip/whole/genrx.py) -/
def rx_XC (G : rt_G) (X : Nat × Nat → rt_M → Prop) : String → State → State → Prop := fun E st t =>
  E = "java/util/NoSuchElementException" ∧ (∃ (z : Nat × Nat) (mem : rt_M), X z mem ∧ rt_okM mem ∧ rt_HR G z.1 mem t.heap ∧ rt_HS G z t.heap) ∧ va_F (rt_A G) st t
def RTx (G : rt_G) (M : rt_Mt) (d : Nat) (z0 : Nat × Nat) (Q : rt_P) (X : Nat × Nat → rt_M → Prop) (pc : Nat) (L st : List rt_V) (z : Nat × Nat) (mem : rt_M) : Prop :=
  ∀ (p : Program) (l : Launch) (e : Env) (R : Room) (s : State) (m : MethodId) (args : Array Value) (below : List Frame) (meth : Method) (c : Code) (H : Heap) (locs : List Loc) (ls : Array Slot) (Z : State → Prop),
    rt_C M d p l R s m args meth c → rt_K G s → lv_has ls (rt_n M) (rt_as G L) → (∀ v ∈ L, rt_ok v) → (∀ v ∈ st, rt_ok v) → rt_okM mem → va_S (rt_A G) s.heap H locs → rt_HR G z.1 mem H → rt_HS G z H →
    ((∀ x ∈ c.exceptionTable.toList, False) ∧ ∀ t, vx_MQ below (rt_Qc G Q) (rx_XC G X) args s (rt_mc M) (rt_ms M) (rt_A G) t → Z t) →
    W p l e R s m args below meth c H locs (rt_cells z0 z) (rt_slots z0 z) Z (F0 m pc ls (st.map (rt_tv G)))
section
variable {G : rt_G} {M M' : rt_Mt} {d d' n : Nat} {z0 z : Nat × Nat} {Q Q' : rt_P} {X : Nat × Nat → rt_M → Prop} {pc idx : Nat} {L st stk As : List rt_V} {mem : rt_M}
theorem RTx.of (h : RT G M d z0 Q pc L st z mem) : RTx G M d z0 Q X pc L st z mem := by
  intro p l e R s m args below meth c H locs ls Z hC hK hl hL hst hM hS hH hz hZ
  refine h p l e R s m args below meth c H locs ls Z hC hK hl hL hst hM hS hH hz (fun t ht => hZ.2 t ?_)
  obtain ⟨o, b1, b2, b3, b4⟩ := ht
  exact ⟨o, b1, b2, Or.inl ⟨b3, b4⟩⟩
theorem RTx.iret {x : Int} (hd : decode (rt_c M) pc = .ok (.ireturn, 1)) (hr : rt_r M = some .int) (hc : rt_cells z0 z ≤ rt_mc M) (hs : rt_slots z0 z ≤ rt_ms M) (h : Q (some (0, x)) z mem) : RTx G M d z0 Q X pc L ([(0, x)]) z mem := RTx.of (RT.iret hd hr hc hs h)
theorem RTx.iadd {x y : Int} (hd : decode (rt_c M) pc = .ok (.iadd, 1)) (h : RTx G M d z0 Q X (pc + 1) L ((0, rt_iadd x y) :: st) z mem) : RTx G M d z0 Q X pc L ((0, y) :: (0, x) :: st) z mem := by
  intro p l e R s m args below meth c H locs ls Z hC hK hl hL hst hM hS hH hz hZ
  have k := h p l e R s m args below meth c H locs ls Z hC hK hl hL (rt_okc (rt_ok_i _) (rt_okt (rt_okt hst))) hM hS hH hz hZ
  rw [List.map_cons, rt_iadd, rt_tv_i] at k
  exact lv_iadd hC.1 hC.2.1 hd k
theorem RTx.isub {x y : Int} (hd : decode (rt_c M) pc = .ok (.isub, 1)) (h : RTx G M d z0 Q X (pc + 1) L ((0, rt_isub x y) :: st) z mem) : RTx G M d z0 Q X pc L ((0, y) :: (0, x) :: st) z mem := by
  intro p l e R s m args below meth c H locs ls Z hC hK hl hL hst hM hS hH hz hZ
  have k := h p l e R s m args below meth c H locs ls Z hC hK hl hL (rt_okc (rt_ok_i _) (rt_okt (rt_okt hst))) hM hS hH hz hZ
  rw [List.map_cons, rt_isub, rt_tv_i] at k
  exact lv_isub hC.1 hC.2.1 hd k
theorem RTx.imul {x y : Int} (hd : decode (rt_c M) pc = .ok (.imul, 1)) (h : RTx G M d z0 Q X (pc + 1) L ((0, rt_imul x y) :: st) z mem) : RTx G M d z0 Q X pc L ((0, y) :: (0, x) :: st) z mem := by
  intro p l e R s m args below meth c H locs ls Z hC hK hl hL hst hM hS hH hz hZ
  have k := h p l e R s m args below meth c H locs ls Z hC hK hl hL (rt_okc (rt_ok_i _) (rt_okt (rt_okt hst))) hM hS hH hz hZ
  rw [List.map_cons, rt_imul, rt_tv_i] at k
  exact lv_imul hC.1 hC.2.1 hd k
theorem RTx.ladd {x y : Int} (hd : decode (rt_c M) pc = .ok (.ladd, 1)) (h : RTx G M d z0 Q X (pc + 1) L ((1, rt_ladd x y) :: st) z mem) : RTx G M d z0 Q X pc L ((1, y) :: (1, x) :: st) z mem := by
  intro p l e R s m args below meth c H locs ls Z hC hK hl hL hst hM hS hH hz hZ
  have k := h p l e R s m args below meth c H locs ls Z hC hK hl hL (rt_okc (rt_ok_l _) (rt_okt (rt_okt hst))) hM hS hH hz hZ
  rw [List.map_cons, rt_ladd, rt_tv_l] at k
  exact lv_ladd hC.1 hC.2.1 hd k
theorem RTx.lmul {x y : Int} (hd : decode (rt_c M) pc = .ok (.lmul, 1)) (h : RTx G M d z0 Q X (pc + 1) L ((1, rt_lmul x y) :: st) z mem) : RTx G M d z0 Q X pc L ((1, y) :: (1, x) :: st) z mem := by
  intro p l e R s m args below meth c H locs ls Z hC hK hl hL hst hM hS hH hz hZ
  have k := h p l e R s m args below meth c H locs ls Z hC hK hl hL (rt_okc (rt_ok_l _) (rt_okt (rt_okt hst))) hM hS hH hz hZ
  rw [List.map_cons, rt_lmul, rt_tv_l] at k
  exact lv_lmul hC.1 hC.2.1 hd k
theorem RTx.ldiv {x y : Int} (hd : decode (rt_c M) pc = .ok (.ldiv, 1)) (hy : ¬ y = 0) (h : RTx G M d z0 Q X (pc + 1) L ((1, rt_ldiv x y) :: st) z mem) : RTx G M d z0 Q X pc L ((1, y) :: (1, x) :: st) z mem := by
  intro p l e R s m args below meth c H locs ls Z hC hK hl hL hst hM hS hH hz hZ
  have k := h p l e R s m args below meth c H locs ls Z hC hK hl hL (rt_okc (rt_ok_l _) (rt_okt (rt_okt hst))) hM hS hH hz hZ
  rw [List.map_cons, rt_ldiv, rt_tv_l] at k
  exact lv_ldiv hC.1 hC.2.1 hd (fun q => hy (by have q2 := congrArg Int64.toInt q; rw [rt_l_id (rt_okh hst)] at q2; exact q2)) k
theorem RTx.i2l {x : Int} (hd : decode (rt_c M) pc = .ok (.i2l, 1)) (h : RTx G M d z0 Q X (pc + 1) L ((1, x) :: st) z mem) : RTx G M d z0 Q X pc L ((0, x) :: st) z mem := by
  intro p l e R s m args below meth c H locs ls Z hC hK hl hL hst hM hS hH hz hZ
  have o := rt_okh hst
  have k := h p l e R s m args below meth c H locs ls Z hC hK hl hL (rt_okc (show rt_ok (1, x) from ⟨Int.le_trans (by decide) o.1, Int.lt_trans o.2 (by decide)⟩) (rt_okt hst)) hM hS hH hz hZ
  exact lv_i2l hC.1 hC.2.1 hd (by show (Int32.ofInt x).toInt64 = Int64.ofInt x; apply Int64.toInt.inj; rw [Int32.toInt_toInt64, rt_i_id o, rt_l_id (x := x) ⟨Int.le_trans (by decide) o.1, Int.lt_trans o.2 (by decide)⟩]) k
theorem RTx.l2i {x : Int} (hd : decode (rt_c M) pc = .ok (.l2i, 1)) (h : RTx G M d z0 Q X (pc + 1) L ((0, rt_l2i x) :: st) z mem) : RTx G M d z0 Q X pc L ((1, x) :: st) z mem := by
  intro p l e R s m args below meth c H locs ls Z hC hK hl hL hst hM hS hH hz hZ
  have k := h p l e R s m args below meth c H locs ls Z hC hK hl hL (rt_okc (rt_ok_i _) (rt_okt hst)) hM hS hH hz hZ
  rw [List.map_cons, rt_l2i, rt_tv_i] at k
  exact lv_l2i hC.1 hC.2.1 hd rfl k
theorem RTx.lcmp {x y : Int} (hd : decode (rt_c M) pc = .ok (.lcmp, 1)) (h : RTx G M d z0 Q X (pc + 1) L ((0, rt_lcmp x y) :: st) z mem) : RTx G M d z0 Q X pc L ((1, y) :: (1, x) :: st) z mem := by
  intro p l e R s m args below meth c H locs ls Z hC hK hl hL hst hM hS hH hz hZ
  have k := h p l e R s m args below meth c H locs ls Z hC hK hl hL (rt_okc (rt_ok_i _) (rt_okt (rt_okt hst))) hM hS hH hz hZ
  rw [List.map_cons, rt_lcmp, rt_tv_i] at k
  exact W.lcmp hC.1 hC.2.1 hd k
theorem RTx.iconst {n : Int} (hd : decode (rt_c M) pc = .ok (.iconst n, 1)) (hn : -2147483648 ≤ n ∧ n < 2147483648) (h : RTx G M d z0 Q X (pc + 1) L ((0, n) :: st) z mem) : RTx G M d z0 Q X pc L (st) z mem := by
  intro p l e R s m args below meth c H locs ls Z hC hK hl hL hst hM hS hH hz hZ
  exact lv_iconst hC.1 hC.2.1 hd rfl (h p l e R s m args below meth c H locs ls Z hC hK hl hL (rt_okc hn hst) hM hS hH hz hZ)
theorem RTx.bipush {n : Int} (hd : decode (rt_c M) pc = .ok (.bipush n, 2)) (hn : -2147483648 ≤ n ∧ n < 2147483648) (he : (Int8.ofInt n).toInt32 = Int32.ofInt n) (h : RTx G M d z0 Q X (pc + 2) L ((0, n) :: st) z mem) : RTx G M d z0 Q X pc L (st) z mem := by
  intro p l e R s m args below meth c H locs ls Z hC hK hl hL hst hM hS hH hz hZ
  exact lv_bipush hC.1 hC.2.1 hd he (h p l e R s m args below meth c H locs ls Z hC hK hl hL (rt_okc hn hst) hM hS hH hz hZ)
theorem RTx.sipush {n : Int} (hd : decode (rt_c M) pc = .ok (.sipush n, 3)) (hn : -2147483648 ≤ n ∧ n < 2147483648) (he : (Int16.ofInt n).toInt32 = Int32.ofInt n) (h : RTx G M d z0 Q X (pc + 3) L ((0, n) :: st) z mem) : RTx G M d z0 Q X pc L (st) z mem := by
  intro p l e R s m args below meth c H locs ls Z hC hK hl hL hst hM hS hH hz hZ
  exact lv_sipush hC.1 hC.2.1 hd he (h p l e R s m args below meth c H locs ls Z hC hK hl hL (rt_okc hn hst) hM hS hH hz hZ)
theorem RTx.lconst {n : Fin 2} {v : Int} (hd : decode (rt_c M) pc = .ok (.lconst n, 1)) (hv : ((n : Nat) : Int) = v) (h : RTx G M d z0 Q X (pc + 1) L ((1, v) :: st) z mem) : RTx G M d z0 Q X pc L (st) z mem := by
  intro p l e R s m args below meth c H locs ls Z hC hK hl hL hst hM hS hH hz hZ
  subst hv
  have hn : rt_ok (1, ((n : Nat) : Int)) := ⟨by show (_ : Int) ≤ ((n : Nat) : Int); have := n.isLt; omega, by show ((n : Nat) : Int) < _; have := n.isLt; omega⟩
  exact lv_lconst hC.1 hC.2.1 hd (Int64.ofInt_eq_ofNat).symm (h p l e R s m args below meth c H locs ls Z hC hK hl hL (rt_okc hn hst) hM hS hH hz hZ)
theorem RTx.ldc2 {idx : Nat} {v : Int} (hd : decode (rt_c M) pc = .ok (.ldc2_w idx, 3)) (hw : Cond.constantLong (rt_y M).cls idx (Int64.ofInt v) ∈ rt_mG) (hv : rt_ok (1, v)) (h : RTx G M d z0 Q X (pc + 3) L ((1, v) :: st) z mem) : RTx G M d z0 Q X pc L (st) z mem := by
  intro p l e R s m args below meth c H locs ls Z hC hK hl hL hst hM hS hH hz hZ
  exact lv_ldc2 hC.1 hC.2.1 hC.2.2.2.1 (hC.2.2.2.2.2.2.2.1 _ hw) hd (h p l e R s m args below meth c H locs ls Z hC hK hl hL (rt_okc hv hst) hM hS hH hz hZ)
theorem RTx.iload_n {k : Fin 4} {x : Int} (hd : decode (rt_c M) pc = .ok (.iload_n k, 1)) (hx : L[(k : Nat)]? = some (0, x)) (h : RTx G M d z0 Q X (pc + 1) L ((0, x) :: st) z mem) : RTx G M d z0 Q X pc L (st) z mem := by
  intro p l e R s m args below meth c H locs ls Z hC hK hl hL hst hM hS hH hz hZ
  exact lv_iload_n hC.1 hC.2.1 hd rfl (rt_as_at hl hx (by show (0 : Nat) < 3; decide)) (h p l e R s m args below meth c H locs ls Z hC hK hl hL (rt_okc (hL _ (List.mem_of_getElem? hx)) hst) hM hS hH hz hZ)
theorem RTx.iload {k : Nat} {x : Int} (hd : decode (rt_c M) pc = .ok (.iload k, 2)) (hx : L[k]? = some (0, x)) (h : RTx G M d z0 Q X (pc + 2) L ((0, x) :: st) z mem) : RTx G M d z0 Q X pc L (st) z mem := by
  intro p l e R s m args below meth c H locs ls Z hC hK hl hL hst hM hS hH hz hZ
  exact lv_iload hC.1 hC.2.1 hd (rt_as_at hl hx (by show (0 : Nat) < 3; decide)) (h p l e R s m args below meth c H locs ls Z hC hK hl hL (rt_okc (hL _ (List.mem_of_getElem? hx)) hst) hM hS hH hz hZ)
theorem RTx.lload_n {k : Fin 4} {x : Int} (hd : decode (rt_c M) pc = .ok (.lload_n k, 1)) (hx : L[(k : Nat)]? = some (1, x)) (h : RTx G M d z0 Q X (pc + 1) L ((1, x) :: st) z mem) : RTx G M d z0 Q X pc L (st) z mem := by
  intro p l e R s m args below meth c H locs ls Z hC hK hl hL hst hM hS hH hz hZ
  exact lv_lload_n hC.1 hC.2.1 hd rfl (rt_as_at hl hx (by show (1 : Nat) < 3; decide)) (h p l e R s m args below meth c H locs ls Z hC hK hl hL (rt_okc (hL _ (List.mem_of_getElem? hx)) hst) hM hS hH hz hZ)
theorem RTx.lload {k : Nat} {x : Int} (hd : decode (rt_c M) pc = .ok (.lload k, 2)) (hx : L[k]? = some (1, x)) (h : RTx G M d z0 Q X (pc + 2) L ((1, x) :: st) z mem) : RTx G M d z0 Q X pc L (st) z mem := by
  intro p l e R s m args below meth c H locs ls Z hC hK hl hL hst hM hS hH hz hZ
  exact lv_lload hC.1 hC.2.1 hd (rt_as_at hl hx (by show (1 : Nat) < 3; decide)) (h p l e R s m args below meth c H locs ls Z hC hK hl hL (rt_okc (hL _ (List.mem_of_getElem? hx)) hst) hM hS hH hz hZ)
theorem RTx.istore_n {k : Fin 4} {x : Int} {L1 : List rt_V} (hd : decode (rt_c M) pc = .ok (.istore_n k, 1)) (hn : (k : Nat) < rt_n M) (hL1 : rt_st1 (k : Nat) (0, x) L = L1) (h : RTx G M d z0 Q X (pc + 1) L1 (st) z mem) : RTx G M d z0 Q X pc L ((0, x) :: st) z mem := by
  intro p l e R s m args below meth c H locs ls Z hC hK hl hL hst hM hS hH hz hZ
  subst hL1
  exact lv_istore_n hC.1 hC.2.1 hd rfl hl hn rfl (fun ls' hl' => h p l e R s m args below meth c H locs ls' Z hC hK (rt_st1_has hl') (rt_st1_ok hL (rt_okh hst)) (rt_okt hst) hM hS hH hz hZ)
theorem RTx.istore {k : Nat} {x : Int} {L1 : List rt_V} (hd : decode (rt_c M) pc = .ok (.istore k, 2)) (hn : k < rt_n M) (hL1 : rt_st1 k (0, x) L = L1) (h : RTx G M d z0 Q X (pc + 2) L1 (st) z mem) : RTx G M d z0 Q X pc L ((0, x) :: st) z mem := by
  intro p l e R s m args below meth c H locs ls Z hC hK hl hL hst hM hS hH hz hZ
  subst hL1
  exact lv_istore hC.1 hC.2.1 hd hl hn rfl (fun ls' hl' => h p l e R s m args below meth c H locs ls' Z hC hK (rt_st1_has hl') (rt_st1_ok hL (rt_okh hst)) (rt_okt hst) hM hS hH hz hZ)
theorem RTx.lstore_n {k : Fin 4} {x : Int} {L1 : List rt_V} (hd : decode (rt_c M) pc = .ok (.lstore_n k, 1)) (hn : (k : Nat) + 1 < rt_n M) (hL1 : rt_st2 (k : Nat) (1, x) L = L1) (h : RTx G M d z0 Q X (pc + 1) L1 (st) z mem) : RTx G M d z0 Q X pc L ((1, x) :: st) z mem := by
  intro p l e R s m args below meth c H locs ls Z hC hK hl hL hst hM hS hH hz hZ
  subst hL1
  exact lv_lstore_n hC.1 hC.2.1 hd rfl hl hn rfl (fun ls' hl' => h p l e R s m args below meth c H locs ls' Z hC hK (rt_st2_has hl') (rt_st2_ok hL (rt_okh hst)) (rt_okt hst) hM hS hH hz hZ)
theorem RTx.lstore {k : Nat} {x : Int} {L1 : List rt_V} (hd : decode (rt_c M) pc = .ok (.lstore k, 2)) (hn : k + 1 < rt_n M) (hL1 : rt_st2 k (1, x) L = L1) (h : RTx G M d z0 Q X (pc + 2) L1 (st) z mem) : RTx G M d z0 Q X pc L ((1, x) :: st) z mem := by
  intro p l e R s m args below meth c H locs ls Z hC hK hl hL hst hM hS hH hz hZ
  subst hL1
  exact lv_lstore hC.1 hC.2.1 hd hl hn rfl (fun ls' hl' => h p l e R s m args below meth c H locs ls' Z hC hK (rt_st2_has hl') (rt_st2_ok hL (rt_okh hst)) (rt_okt hst) hM hS hH hz hZ)
theorem RTx.iinc {i : Nat} {n x : Int} {L1 : List rt_V} (hd : decode (rt_c M) pc = .ok (.iinc i n, 3)) (hx : L[i]? = some (0, x)) (hn : i < rt_n M) (hb : -2147483648 ≤ n ∧ n < 2147483648) (hL1 : rt_st1 i (0, rt_iadd x n) L = L1) (h : RTx G M d z0 Q X (pc + 3) L1 (st) z mem) : RTx G M d z0 Q X pc L (st) z mem := by
  intro p l e R s m args below meth c H locs ls Z hC hK hl hL hst hM hS hH hz hZ
  subst hL1
  obtain ⟨k, hk⟩ := List.getElem?_of_mem (rt_as_mem.mpr ⟨_, hx, (by show (0 : Nat) < 3; decide), rfl⟩ : (i, rt_tv G (0, x)) ∈ rt_as G L)
  refine lv_iinc hC.1 hC.2.1 hd hl (k := k) hk rfl hn rfl (fun ls' hl' => ?_)
  have ee : rt_tv G (0, rt_iadd x n) = .int (Int32.ofInt x + Int32.ofInt n) := by rw [rt_iadd, rt_tv_i]
  exact h p l _ R s m args below meth c H locs ls' Z hC hK (rt_st1_has (by rw [ee]; exact hl')) (rt_st1_ok hL (rt_ok_i _)) hst hM hS hH hz hZ
theorem RTx.if_eq {x off : Int} {tgt : Nat} (hd : decode (rt_c M) pc = .ok (.ifCond .eq off, 3)) (ht : (pc : Int) + off = (tgt : Int)) (kt : x = 0 → RTx G M d z0 Q X (tgt) L (st) z mem) (kf : ¬ (x = 0) → RTx G M d z0 Q X (pc + 3) L (st) z mem) : RTx G M d z0 Q X pc L ((0, x) :: st) z mem := by
  intro p l e R s m args below meth c H locs ls Z hC hK hl hL hst hM hS hH hz hZ
  have kt2 := fun q => kt q p l e R s m args below meth c H locs ls Z hC hK hl hL (rt_okt hst) hM hS hH hz hZ
  have kf2 := fun q => kf q p l e R s m args below meth c H locs ls Z hC hK hl hL (rt_okt hst) hM hS hH hz hZ
  exact lv_if_eq hC.1 hC.2.1 hd ht (fun q => kt2 ((rt_i_inj (rt_okh hst) rt_ok0).mp q)) (fun q => kf2 (fun r => q ((rt_i_inj (rt_okh hst) rt_ok0).mpr r)))
theorem RTx.if_ne {x off : Int} {tgt : Nat} (hd : decode (rt_c M) pc = .ok (.ifCond .ne off, 3)) (ht : (pc : Int) + off = (tgt : Int)) (kt : ¬ x = 0 → RTx G M d z0 Q X (tgt) L (st) z mem) (kf : ¬ (¬ x = 0) → RTx G M d z0 Q X (pc + 3) L (st) z mem) : RTx G M d z0 Q X pc L ((0, x) :: st) z mem := by
  intro p l e R s m args below meth c H locs ls Z hC hK hl hL hst hM hS hH hz hZ
  have kt2 := fun q => kt q p l e R s m args below meth c H locs ls Z hC hK hl hL (rt_okt hst) hM hS hH hz hZ
  have kf2 := fun q => kf q p l e R s m args below meth c H locs ls Z hC hK hl hL (rt_okt hst) hM hS hH hz hZ
  exact lv_if_ne hC.1 hC.2.1 hd ht (fun q => kt2 ((not_congr (rt_i_inj (rt_okh hst) rt_ok0)).mp q)) (fun q => kf2 (fun r => r ((rt_i_inj (rt_okh hst) rt_ok0).mp q)))
theorem RTx.if_lt {x off : Int} {tgt : Nat} (hd : decode (rt_c M) pc = .ok (.ifCond .lt off, 3)) (ht : (pc : Int) + off = (tgt : Int)) (kt : x < 0 → RTx G M d z0 Q X (tgt) L (st) z mem) (kf : ¬ (x < 0) → RTx G M d z0 Q X (pc + 3) L (st) z mem) : RTx G M d z0 Q X pc L ((0, x) :: st) z mem := by
  intro p l e R s m args below meth c H locs ls Z hC hK hl hL hst hM hS hH hz hZ
  have kt2 := fun q => kt q p l e R s m args below meth c H locs ls Z hC hK hl hL (rt_okt hst) hM hS hH hz hZ
  have kf2 := fun q => kf q p l e R s m args below meth c H locs ls Z hC hK hl hL (rt_okt hst) hM hS hH hz hZ
  exact lv_if_lt hC.1 hC.2.1 hd ht (fun q => kt2 ((rt_i_lt (rt_okh hst) rt_ok0).mp q)) (fun q => kf2 (fun r => q ((rt_i_lt (rt_okh hst) rt_ok0).mpr r)))
theorem RTx.if_ge {x off : Int} {tgt : Nat} (hd : decode (rt_c M) pc = .ok (.ifCond .ge off, 3)) (ht : (pc : Int) + off = (tgt : Int)) (kt : 0 ≤ x → RTx G M d z0 Q X (tgt) L (st) z mem) (kf : ¬ (0 ≤ x) → RTx G M d z0 Q X (pc + 3) L (st) z mem) : RTx G M d z0 Q X pc L ((0, x) :: st) z mem := by
  intro p l e R s m args below meth c H locs ls Z hC hK hl hL hst hM hS hH hz hZ
  have kt2 := fun q => kt q p l e R s m args below meth c H locs ls Z hC hK hl hL (rt_okt hst) hM hS hH hz hZ
  have kf2 := fun q => kf q p l e R s m args below meth c H locs ls Z hC hK hl hL (rt_okt hst) hM hS hH hz hZ
  exact lv_if_ge hC.1 hC.2.1 hd ht (fun q => kt2 ((rt_i_le rt_ok0 (rt_okh hst)).mp q)) (fun q => kf2 (fun r => q ((rt_i_le rt_ok0 (rt_okh hst)).mpr r)))
theorem RTx.if_gt {x off : Int} {tgt : Nat} (hd : decode (rt_c M) pc = .ok (.ifCond .gt off, 3)) (ht : (pc : Int) + off = (tgt : Int)) (kt : 0 < x → RTx G M d z0 Q X (tgt) L (st) z mem) (kf : ¬ (0 < x) → RTx G M d z0 Q X (pc + 3) L (st) z mem) : RTx G M d z0 Q X pc L ((0, x) :: st) z mem := by
  intro p l e R s m args below meth c H locs ls Z hC hK hl hL hst hM hS hH hz hZ
  have kt2 := fun q => kt q p l e R s m args below meth c H locs ls Z hC hK hl hL (rt_okt hst) hM hS hH hz hZ
  have kf2 := fun q => kf q p l e R s m args below meth c H locs ls Z hC hK hl hL (rt_okt hst) hM hS hH hz hZ
  exact lv_if_gt hC.1 hC.2.1 hd ht (fun q => kt2 ((rt_i_lt rt_ok0 (rt_okh hst)).mp q)) (fun q => kf2 (fun r => q ((rt_i_lt rt_ok0 (rt_okh hst)).mpr r)))
theorem RTx.if_le {x off : Int} {tgt : Nat} (hd : decode (rt_c M) pc = .ok (.ifCond .le off, 3)) (ht : (pc : Int) + off = (tgt : Int)) (kt : x ≤ 0 → RTx G M d z0 Q X (tgt) L (st) z mem) (kf : ¬ (x ≤ 0) → RTx G M d z0 Q X (pc + 3) L (st) z mem) : RTx G M d z0 Q X pc L ((0, x) :: st) z mem := by
  intro p l e R s m args below meth c H locs ls Z hC hK hl hL hst hM hS hH hz hZ
  have kt2 := fun q => kt q p l e R s m args below meth c H locs ls Z hC hK hl hL (rt_okt hst) hM hS hH hz hZ
  have kf2 := fun q => kf q p l e R s m args below meth c H locs ls Z hC hK hl hL (rt_okt hst) hM hS hH hz hZ
  exact lv_if_le hC.1 hC.2.1 hd ht (fun q => kt2 ((rt_i_le (rt_okh hst) rt_ok0).mp q)) (fun q => kf2 (fun r => q ((rt_i_le (rt_okh hst) rt_ok0).mpr r)))
theorem RTx.icmp_eq {x y off : Int} {tgt : Nat} (hd : decode (rt_c M) pc = .ok (.if_icmp .eq off, 3)) (ht : (pc : Int) + off = (tgt : Int)) (kt : x = y → RTx G M d z0 Q X (tgt) L (st) z mem) (kf : ¬ (x = y) → RTx G M d z0 Q X (pc + 3) L (st) z mem) : RTx G M d z0 Q X pc L ((0, y) :: (0, x) :: st) z mem := by
  intro p l e R s m args below meth c H locs ls Z hC hK hl hL hst hM hS hH hz hZ
  have kt2 := fun q => kt q p l e R s m args below meth c H locs ls Z hC hK hl hL (rt_okt (rt_okt hst)) hM hS hH hz hZ
  have kf2 := fun q => kf q p l e R s m args below meth c H locs ls Z hC hK hl hL (rt_okt (rt_okt hst)) hM hS hH hz hZ
  exact lv_icmp_eq hC.1 hC.2.1 hd ht (fun q => kt2 ((rt_i_inj (rt_okh (rt_okt hst)) (rt_okh hst)).mp q)) (fun q => kf2 (fun r => q ((rt_i_inj (rt_okh (rt_okt hst)) (rt_okh hst)).mpr r)))
theorem RTx.icmp_ne {x y off : Int} {tgt : Nat} (hd : decode (rt_c M) pc = .ok (.if_icmp .ne off, 3)) (ht : (pc : Int) + off = (tgt : Int)) (kt : ¬ x = y → RTx G M d z0 Q X (tgt) L (st) z mem) (kf : ¬ (¬ x = y) → RTx G M d z0 Q X (pc + 3) L (st) z mem) : RTx G M d z0 Q X pc L ((0, y) :: (0, x) :: st) z mem := by
  intro p l e R s m args below meth c H locs ls Z hC hK hl hL hst hM hS hH hz hZ
  have kt2 := fun q => kt q p l e R s m args below meth c H locs ls Z hC hK hl hL (rt_okt (rt_okt hst)) hM hS hH hz hZ
  have kf2 := fun q => kf q p l e R s m args below meth c H locs ls Z hC hK hl hL (rt_okt (rt_okt hst)) hM hS hH hz hZ
  exact lv_icmp_ne hC.1 hC.2.1 hd ht (fun q => kt2 ((not_congr (rt_i_inj (rt_okh (rt_okt hst)) (rt_okh hst))).mp q)) (fun q => kf2 (fun r => r ((rt_i_inj (rt_okh (rt_okt hst)) (rt_okh hst)).mp q)))
theorem RTx.icmp_lt {x y off : Int} {tgt : Nat} (hd : decode (rt_c M) pc = .ok (.if_icmp .lt off, 3)) (ht : (pc : Int) + off = (tgt : Int)) (kt : x < y → RTx G M d z0 Q X (tgt) L (st) z mem) (kf : ¬ (x < y) → RTx G M d z0 Q X (pc + 3) L (st) z mem) : RTx G M d z0 Q X pc L ((0, y) :: (0, x) :: st) z mem := by
  intro p l e R s m args below meth c H locs ls Z hC hK hl hL hst hM hS hH hz hZ
  have kt2 := fun q => kt q p l e R s m args below meth c H locs ls Z hC hK hl hL (rt_okt (rt_okt hst)) hM hS hH hz hZ
  have kf2 := fun q => kf q p l e R s m args below meth c H locs ls Z hC hK hl hL (rt_okt (rt_okt hst)) hM hS hH hz hZ
  exact lv_icmp_lt hC.1 hC.2.1 hd ht (fun q => kt2 ((rt_i_lt (rt_okh (rt_okt hst)) (rt_okh hst)).mp q)) (fun q => kf2 (fun r => q ((rt_i_lt (rt_okh (rt_okt hst)) (rt_okh hst)).mpr r)))
theorem RTx.icmp_ge {x y off : Int} {tgt : Nat} (hd : decode (rt_c M) pc = .ok (.if_icmp .ge off, 3)) (ht : (pc : Int) + off = (tgt : Int)) (kt : y ≤ x → RTx G M d z0 Q X (tgt) L (st) z mem) (kf : ¬ (y ≤ x) → RTx G M d z0 Q X (pc + 3) L (st) z mem) : RTx G M d z0 Q X pc L ((0, y) :: (0, x) :: st) z mem := by
  intro p l e R s m args below meth c H locs ls Z hC hK hl hL hst hM hS hH hz hZ
  have kt2 := fun q => kt q p l e R s m args below meth c H locs ls Z hC hK hl hL (rt_okt (rt_okt hst)) hM hS hH hz hZ
  have kf2 := fun q => kf q p l e R s m args below meth c H locs ls Z hC hK hl hL (rt_okt (rt_okt hst)) hM hS hH hz hZ
  exact lv_icmp_ge hC.1 hC.2.1 hd ht (fun q => kt2 ((rt_i_le (rt_okh hst) (rt_okh (rt_okt hst))).mp q)) (fun q => kf2 (fun r => q ((rt_i_le (rt_okh hst) (rt_okh (rt_okt hst))).mpr r)))
theorem RTx.icmp_gt {x y off : Int} {tgt : Nat} (hd : decode (rt_c M) pc = .ok (.if_icmp .gt off, 3)) (ht : (pc : Int) + off = (tgt : Int)) (kt : y < x → RTx G M d z0 Q X (tgt) L (st) z mem) (kf : ¬ (y < x) → RTx G M d z0 Q X (pc + 3) L (st) z mem) : RTx G M d z0 Q X pc L ((0, y) :: (0, x) :: st) z mem := by
  intro p l e R s m args below meth c H locs ls Z hC hK hl hL hst hM hS hH hz hZ
  have kt2 := fun q => kt q p l e R s m args below meth c H locs ls Z hC hK hl hL (rt_okt (rt_okt hst)) hM hS hH hz hZ
  have kf2 := fun q => kf q p l e R s m args below meth c H locs ls Z hC hK hl hL (rt_okt (rt_okt hst)) hM hS hH hz hZ
  exact lv_icmp_gt hC.1 hC.2.1 hd ht (fun q => kt2 ((rt_i_lt (rt_okh hst) (rt_okh (rt_okt hst))).mp q)) (fun q => kf2 (fun r => q ((rt_i_lt (rt_okh hst) (rt_okh (rt_okt hst))).mpr r)))
theorem RTx.icmp_le {x y off : Int} {tgt : Nat} (hd : decode (rt_c M) pc = .ok (.if_icmp .le off, 3)) (ht : (pc : Int) + off = (tgt : Int)) (kt : x ≤ y → RTx G M d z0 Q X (tgt) L (st) z mem) (kf : ¬ (x ≤ y) → RTx G M d z0 Q X (pc + 3) L (st) z mem) : RTx G M d z0 Q X pc L ((0, y) :: (0, x) :: st) z mem := by
  intro p l e R s m args below meth c H locs ls Z hC hK hl hL hst hM hS hH hz hZ
  have kt2 := fun q => kt q p l e R s m args below meth c H locs ls Z hC hK hl hL (rt_okt (rt_okt hst)) hM hS hH hz hZ
  have kf2 := fun q => kf q p l e R s m args below meth c H locs ls Z hC hK hl hL (rt_okt (rt_okt hst)) hM hS hH hz hZ
  exact lv_icmp_le hC.1 hC.2.1 hd ht (fun q => kt2 ((rt_i_le (rt_okh (rt_okt hst)) (rt_okh hst)).mp q)) (fun q => kf2 (fun r => q ((rt_i_le (rt_okh (rt_okt hst)) (rt_okh hst)).mpr r)))
theorem RTx.goto {off : Int} {tgt : Nat} (hd : decode (rt_c M) pc = .ok (.goto off, 3)) (ht : (pc : Int) + off = (tgt : Int)) (h : RTx G M d z0 Q X (tgt) L (st) z mem) : RTx G M d z0 Q X pc L (st) z mem := by
  intro p l e R s m args below meth c H locs ls Z hC hK hl hL hst hM hS hH hz hZ
  exact lv_goto hC.1 hC.2.1 hd ht (h p l e R s m args below meth c H locs ls Z hC hK hl hL hst hM hS hH hz hZ)
theorem RTx.wk {L1 : List rt_V} (h : rt_le L1 L) (k : RTx G M d z0 Q X pc L1 st z mem) : RTx G M d z0 Q X pc L st z mem := by
  intro p l e R s m args below meth c H locs ls Z hC hK hl hL hst hM hS hH hz hZ
  refine k p l e R s m args below meth c H locs ls Z hC hK ⟨hl.1, hl.2.1, fun q hq => ?_⟩ (fun v hv => ?_) hst hM hS hH hz hZ
  · obtain ⟨v, hv, h3, he⟩ := rt_as_mem.mp hq
    rcases h _ _ hv with rfl | h2
    · exact absurd h3 (by decide)
    · exact hl.2.2 q (rt_as_mem.mpr ⟨v, h2, h3, he⟩)
  · obtain ⟨i, hi⟩ := List.getElem?_of_mem hv
    rcases h i v hi with rfl | h2
    · exact rt_ok9
    · exact hL v (List.mem_of_getElem? h2)
theorem RTx.callS (hd : decode (rt_c M) pc = .ok (.invokestatic idx, 3)) (hw : rt_Mw M' n) (hl0 : rt_Ml (rt_y M).cls idx M') (hi : Cond.static (rt_y M') ∈ rt_mG)
    (hstk : stk = As.reverse ++ st) (hlen : As.length = n) (hloc : (rt_ent As).length ≤ rt_n M') (hcap : (st.map (fun v => if v.1 = 1 then 2 else 1)).sum ≤ 8) (hdd : d' + 1 ≤ d) (hcm : rt_cells z0 z + rt_mc M' ≤ rt_mc M) (hsm : rt_slots z0 z + rt_ms M' ≤ rt_ms M)
    (hc : RT G M' d' z Q' 0 (rt_entry (rt_n M') As) [] z mem) (hz' : ∀ v z' mem', Q' v z' mem' → rt_cells z0 z + rt_mc M' ≤ rt_cells z0 z' ∧ rt_slots z0 z + rt_ms M' ≤ rt_slots z0 z')
    (k : ∀ v z' mem', Q' v z' mem' → RTx G M d z0 Q X (pc + 3) L (v.toList ++ st) z' mem') : RTx G M d z0 Q X pc L stk z mem := by
  subst hstk
  intro p l e R s m args below meth c H locs ls Z hC hK hl hL hst hM hS hH hz hZ
  obtain ⟨hx, hb, hml, hown, hret, hlk, hnm, hts, hRf, hRl, hRc2, hRs, hstt⟩ := id hC
  have hokA : ∀ v ∈ As, rt_ok v := fun v hv => hst v (List.mem_append_left _ (List.mem_reverse.mpr hv))
  have hMet := rt_met l hstt hw hloc hc
  have hp : PreS s H (rt_Pc G As z mem) (As.map (rt_tv G)) := ⟨rt_blind, fun U hU hW => ⟨rfl, rt_K_moved hK hS hU hW, hM, by rw [hU]; exact hH, by rw [hU]; exact hz, hokA⟩⟩
  have hfit : rt_cells z0 z + rt_mc M' ≤ R.cells ∧ rt_slots z0 z + rt_ms M' ≤ R.slots := ⟨Nat.le_trans hcm hRc2, Nat.le_trans hsm hRs⟩
  have hcw : ((st.map (rt_tv G)).map fun v => v.category).sum ≤ 8 := by rw [rt_capl]; exact hcap
  have hn21 := hw.2.2.2.2
  have hroom : (rt_rm M' d').frames + 1 ≤ R.frames ∧ 8 + (rt_n M' + 11) + (rt_rm M' d').locals ≤ R.locals := ⟨Nat.le_trans hdd hRf, by show 8 + (rt_n M' + 11) + 40 * d' ≤ R.locals; omega⟩
  have hstk2 : ((As.reverse ++ st).map (rt_tv G)) = (As.map (rt_tv G)).reverse ++ st.map (rt_tv G) := by rw [List.map_append, List.map_reverse]
  have hrun : va_Run p l e R s m args below meth c H locs (rt_cells z0 z) (rt_slots z0 z) (rt_mc M') (rt_ms M') (F0 m pc ls ((As.map (rt_tv G)).reverse ++ st.map (rt_tv G))) (st.map (rt_tv G)) (rt_Qc G Q' (As.map (rt_tv G)).toArray) (rt_A G) := by
    rcases hl0 with h0 | ⟨host, h0⟩
    · exact va_runS ⟨hx, hb, hml, hown, hts⟩ hMet ⟨callB_of n hts (rt_GoodIn hw.1) rfl rfl rfl (hts _ hw.2.1) (hts _ h0) hw.2.2.2.1 hroom, hts _ hi⟩ hp rfl (by rw [List.length_map]; exact hlen) hl.1 rfl (lv_room hcw) hd hfit
    · exact va_runSN ⟨hx, hb, hml, hown, hts⟩ hMet ⟨va_cnB n hts (rt_GoodIn hw.1) rfl rfl rfl (hK.2.2.2.1 _ h0) (hts _ hw.2.1) hw.2.2.2.1 hroom, hts _ hi, trivial⟩ hp rfl (by rw [List.length_map]; exact hlen) hl.1 rfl (lv_room hcw) hd hfit
  rw [hstk2]
  refine rt_call hrun hS (fun v z' mem' H1 locs1 hq hok1 hM1 hH1 hz1 hS1 => ?_)
  obtain ⟨u1, u2⟩ := hz' v z' mem' hq
  have hokst : ∀ w ∈ v.toList ++ st, rt_ok w := fun w hw => by
    rcases List.mem_append.mp hw with h | h
    · cases v with
      | none => cases h
      | some y => rcases List.mem_cons.mp h with rfl | h
                  · exact hok1 _ rfl
                  · cases h
    · exact hst w (List.mem_append_right _ h)
  have kk := k v z' mem' hq p l e R s m args below meth c H1 locs1 ls Z hC hK hl hL hokst hM1 hS1 hH1 hz1 hZ
  have e9 : (v.toList ++ st).map (rt_tv G) = (v.map (rt_tv G)).toList ++ st.map (rt_tv G) := by cases v <;> simp
  rw [e9] at kk
  exact W.widen u1 u2 kk
theorem RTx.cS {r : Option rt_V} {mem1 : rt_M} (hd : decode (rt_c M) pc = .ok (.invokestatic idx, 3)) (hw : rt_Mw M' n) (hl0 : rt_Ml (rt_y M).cls idx M') (hi : Cond.static (rt_y M') ∈ rt_mG ∧ rt_mc M' = 0 ∧ rt_ms M' = 0)
    (hstk : stk = As.reverse ++ st) (hlen : As.length = n) (hloc : (rt_ent As).length ≤ rt_n M') (hcap : (st.map (fun v => if v.1 = 1 then 2 else 1)).sum ≤ 8) (hdd : d' + 1 ≤ d) (hcm : rt_cells z0 z ≤ rt_mc M) (hsm : rt_slots z0 z ≤ rt_ms M)
    (hc : RM G M' d' As z mem r mem1) (k : RTx G M d z0 Q X (pc + 3) L (r.toList ++ st) z mem1) : RTx G M d z0 Q X pc L stk z mem := by
  obtain ⟨i1, i5, i6⟩ := hi
  refine RTx.callS hd hw hl0 i1 hstk hlen hloc hcap hdd (by rw [i5]; exact hcm) (by rw [i6]; exact hsm) hc (fun v z' mem' h => ?_) (fun v z' mem' h => ?_)
  · obtain ⟨rfl, -, -⟩ := h
    rw [i5, i6]
    exact ⟨Nat.le_refl _, Nat.le_refl _⟩
  · obtain ⟨rfl, rfl, rfl⟩ := h
    exact k
theorem RTx.cSz {r : Option rt_V} {mem1 : rt_M} (hd : decode (rt_c M) pc = .ok (.invokestatic idx, 3)) (hw : rt_Mw M' n) (hl0 : rt_Ml (rt_y M).cls idx M') (hi : Cond.static (rt_y M') ∈ rt_mG ∧ rt_mc M' = 0 ∧ rt_ms M' = 0)
    (hstk : stk = As.reverse ++ st) (hlen : As.length = n) (hloc : (rt_ent As).length ≤ rt_n M') (hcap : (st.map (fun v => if v.1 = 1 then 2 else 1)).sum ≤ 8) (hdd : d' + 1 ≤ d) (hcm : rt_md M = 1) (hsm : rt_md M = 1)
    (hc : RM G M' d' As z mem r mem1) (k : RTx G M d z Q X (pc + 3) L (r.toList ++ st) z mem1) : RTx G M d z Q X pc L stk z mem :=
  RTx.cS hd hw hl0 hi hstk hlen hloc hcap hdd (by rw [rt_cells_0]; exact Nat.zero_le _) (by rw [rt_slots_0]; exact Nat.zero_le _) hc k
end
