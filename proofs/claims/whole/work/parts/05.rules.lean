section
variable {G : rt_G} {M : rt_Mt} {d : Nat} {z0 z : Nat × Nat} {Q : rt_P} {pc : Nat} {L st : List rt_V} {mem : rt_M}
def rt_iadd (x y : Int) : Int := (Int32.ofInt x + Int32.ofInt y).toInt
theorem RT.iadd {x y : Int} (hd : decode (rt_c M) pc = .ok (.iadd, 1)) (h : RT G M d z0 Q (pc + 1) L ((0, rt_iadd x y) :: st) z mem) : RT G M d z0 Q pc L ((0, y) :: (0, x) :: st) z mem := by
  intro p l e R s m args below meth c H locs ls Z hC hK hl hL hst hM hS hH hz hZ
  have k := h p l e R s m args below meth c H locs ls Z hC hK hl hL (rt_okc (rt_ok_i _) (rt_okt (rt_okt hst))) hM hS hH hz hZ
  rw [List.map_cons, rt_iadd, rt_tv_i] at k
  exact lv_iadd hC.1 hC.2.1 hd k
def rt_isub (x y : Int) : Int := (Int32.ofInt x - Int32.ofInt y).toInt
theorem RT.isub {x y : Int} (hd : decode (rt_c M) pc = .ok (.isub, 1)) (h : RT G M d z0 Q (pc + 1) L ((0, rt_isub x y) :: st) z mem) : RT G M d z0 Q pc L ((0, y) :: (0, x) :: st) z mem := by
  intro p l e R s m args below meth c H locs ls Z hC hK hl hL hst hM hS hH hz hZ
  have k := h p l e R s m args below meth c H locs ls Z hC hK hl hL (rt_okc (rt_ok_i _) (rt_okt (rt_okt hst))) hM hS hH hz hZ
  rw [List.map_cons, rt_isub, rt_tv_i] at k
  exact lv_isub hC.1 hC.2.1 hd k
def rt_imul (x y : Int) : Int := (Int32.ofInt x * Int32.ofInt y).toInt
theorem RT.imul {x y : Int} (hd : decode (rt_c M) pc = .ok (.imul, 1)) (h : RT G M d z0 Q (pc + 1) L ((0, rt_imul x y) :: st) z mem) : RT G M d z0 Q pc L ((0, y) :: (0, x) :: st) z mem := by
  intro p l e R s m args below meth c H locs ls Z hC hK hl hL hst hM hS hH hz hZ
  have k := h p l e R s m args below meth c H locs ls Z hC hK hl hL (rt_okc (rt_ok_i _) (rt_okt (rt_okt hst))) hM hS hH hz hZ
  rw [List.map_cons, rt_imul, rt_tv_i] at k
  exact lv_imul hC.1 hC.2.1 hd k
def rt_iand (x y : Int) : Int := (Int32.ofInt x &&& Int32.ofInt y).toInt
theorem RT.iand {x y : Int} (hd : decode (rt_c M) pc = .ok (.iand, 1)) (h : RT G M d z0 Q (pc + 1) L ((0, rt_iand x y) :: st) z mem) : RT G M d z0 Q pc L ((0, y) :: (0, x) :: st) z mem := by
  intro p l e R s m args below meth c H locs ls Z hC hK hl hL hst hM hS hH hz hZ
  have k := h p l e R s m args below meth c H locs ls Z hC hK hl hL (rt_okc (rt_ok_i _) (rt_okt (rt_okt hst))) hM hS hH hz hZ
  rw [List.map_cons, rt_iand, rt_tv_i] at k
  exact lv_iand hC.1 hC.2.1 hd k
def rt_ior (x y : Int) : Int := (Int32.ofInt x ||| Int32.ofInt y).toInt
theorem RT.ior {x y : Int} (hd : decode (rt_c M) pc = .ok (.ior, 1)) (h : RT G M d z0 Q (pc + 1) L ((0, rt_ior x y) :: st) z mem) : RT G M d z0 Q pc L ((0, y) :: (0, x) :: st) z mem := by
  intro p l e R s m args below meth c H locs ls Z hC hK hl hL hst hM hS hH hz hZ
  have k := h p l e R s m args below meth c H locs ls Z hC hK hl hL (rt_okc (rt_ok_i _) (rt_okt (rt_okt hst))) hM hS hH hz hZ
  rw [List.map_cons, rt_ior, rt_tv_i] at k
  exact lv_ior hC.1 hC.2.1 hd k
def rt_ixor (x y : Int) : Int := (Int32.ofInt x ^^^ Int32.ofInt y).toInt
theorem RT.ixor {x y : Int} (hd : decode (rt_c M) pc = .ok (.ixor, 1)) (h : RT G M d z0 Q (pc + 1) L ((0, rt_ixor x y) :: st) z mem) : RT G M d z0 Q pc L ((0, y) :: (0, x) :: st) z mem := by
  intro p l e R s m args below meth c H locs ls Z hC hK hl hL hst hM hS hH hz hZ
  have k := h p l e R s m args below meth c H locs ls Z hC hK hl hL (rt_okc (rt_ok_i _) (rt_okt (rt_okt hst))) hM hS hH hz hZ
  rw [List.map_cons, rt_ixor, rt_tv_i] at k
  exact lv_ixor hC.1 hC.2.1 hd k
def rt_ishl (x y : Int) : Int := (Int32.ofInt x <<< (Int32.ofInt y &&& 31)).toInt
theorem RT.ishl {x y : Int} (hd : decode (rt_c M) pc = .ok (.ishl, 1)) (h : RT G M d z0 Q (pc + 1) L ((0, rt_ishl x y) :: st) z mem) : RT G M d z0 Q pc L ((0, y) :: (0, x) :: st) z mem := by
  intro p l e R s m args below meth c H locs ls Z hC hK hl hL hst hM hS hH hz hZ
  have k := h p l e R s m args below meth c H locs ls Z hC hK hl hL (rt_okc (rt_ok_i _) (rt_okt (rt_okt hst))) hM hS hH hz hZ
  rw [List.map_cons, rt_ishl, rt_tv_i] at k
  exact lv_ishl hC.1 hC.2.1 hd k
def rt_ishr (x y : Int) : Int := (Int32.ofInt x >>> (Int32.ofInt y &&& 31)).toInt
theorem RT.ishr {x y : Int} (hd : decode (rt_c M) pc = .ok (.ishr, 1)) (h : RT G M d z0 Q (pc + 1) L ((0, rt_ishr x y) :: st) z mem) : RT G M d z0 Q pc L ((0, y) :: (0, x) :: st) z mem := by
  intro p l e R s m args below meth c H locs ls Z hC hK hl hL hst hM hS hH hz hZ
  have k := h p l e R s m args below meth c H locs ls Z hC hK hl hL (rt_okc (rt_ok_i _) (rt_okt (rt_okt hst))) hM hS hH hz hZ
  rw [List.map_cons, rt_ishr, rt_tv_i] at k
  exact lv_ishr hC.1 hC.2.1 hd k
def rt_idiv (x y : Int) : Int := (Int32.ofInt x / Int32.ofInt y).toInt
theorem RT.idiv {x y : Int} (hd : decode (rt_c M) pc = .ok (.idiv, 1)) (hy : ¬ y = 0) (h : RT G M d z0 Q (pc + 1) L ((0, rt_idiv x y) :: st) z mem) : RT G M d z0 Q pc L ((0, y) :: (0, x) :: st) z mem := by
  intro p l e R s m args below meth c H locs ls Z hC hK hl hL hst hM hS hH hz hZ
  have k := h p l e R s m args below meth c H locs ls Z hC hK hl hL (rt_okc (rt_ok_i _) (rt_okt (rt_okt hst))) hM hS hH hz hZ
  rw [List.map_cons, rt_idiv, rt_tv_i] at k
  exact lv_idiv hC.1 hC.2.1 hd (fun q => hy ((rt_i_inj (rt_okh hst) rt_ok0).mp q)) k
def rt_irem (x y : Int) : Int := (Int32.ofInt x - Int32.ofInt x / Int32.ofInt y * Int32.ofInt y).toInt
theorem RT.irem {x y : Int} (hd : decode (rt_c M) pc = .ok (.irem, 1)) (hy : ¬ y = 0) (h : RT G M d z0 Q (pc + 1) L ((0, rt_irem x y) :: st) z mem) : RT G M d z0 Q pc L ((0, y) :: (0, x) :: st) z mem := by
  intro p l e R s m args below meth c H locs ls Z hC hK hl hL hst hM hS hH hz hZ
  have k := h p l e R s m args below meth c H locs ls Z hC hK hl hL (rt_okc (rt_ok_i _) (rt_okt (rt_okt hst))) hM hS hH hz hZ
  rw [List.map_cons, rt_irem, rt_tv_i] at k
  exact lv_irem hC.1 hC.2.1 hd (fun q => hy ((rt_i_inj (rt_okh hst) rt_ok0).mp q)) k
def rt_ineg (x : Int) : Int := (-(Int32.ofInt x)).toInt
theorem RT.ineg {x : Int} (hd : decode (rt_c M) pc = .ok (.ineg, 1)) (h : RT G M d z0 Q (pc + 1) L ((0, rt_ineg x) :: st) z mem) : RT G M d z0 Q pc L ((0, x) :: st) z mem := by
  intro p l e R s m args below meth c H locs ls Z hC hK hl hL hst hM hS hH hz hZ
  have k := h p l e R s m args below meth c H locs ls Z hC hK hl hL (rt_okc (rt_ok_i _) (rt_okt hst)) hM hS hH hz hZ
  rw [List.map_cons, rt_ineg, rt_tv_i] at k
  exact lv_ineg hC.1 hC.2.1 hd k
def rt_iushr (x y : Int) : Int := ((Int32.ofInt x).toUInt32 >>> ((Int32.ofInt y).toUInt32 &&& Int32.toUInt32 31)).toInt32.toInt
theorem RT.iushr {x y : Int} (hd : decode (rt_c M) pc = .ok (.iushr, 1)) (h : RT G M d z0 Q (pc + 1) L ((0, rt_iushr x y) :: st) z mem) : RT G M d z0 Q pc L ((0, y) :: (0, x) :: st) z mem := by
  intro p l e R s m args below meth c H locs ls Z hC hK hl hL hst hM hS hH hz hZ
  have k := h p l e R s m args below meth c H locs ls Z hC hK hl hL (rt_okc (rt_ok_i _) (rt_okt (rt_okt hst))) hM hS hH hz hZ
  rw [List.map_cons, rt_iushr, rt_tv_i] at k
  exact lv_iushr hC.1 hC.2.1 hd rfl k
def rt_ladd (x y : Int) : Int := (Int64.ofInt x + Int64.ofInt y).toInt
theorem RT.ladd {x y : Int} (hd : decode (rt_c M) pc = .ok (.ladd, 1)) (h : RT G M d z0 Q (pc + 1) L ((1, rt_ladd x y) :: st) z mem) : RT G M d z0 Q pc L ((1, y) :: (1, x) :: st) z mem := by
  intro p l e R s m args below meth c H locs ls Z hC hK hl hL hst hM hS hH hz hZ
  have k := h p l e R s m args below meth c H locs ls Z hC hK hl hL (rt_okc (rt_ok_l _) (rt_okt (rt_okt hst))) hM hS hH hz hZ
  rw [List.map_cons, rt_ladd, rt_tv_l] at k
  exact lv_ladd hC.1 hC.2.1 hd k
def rt_lsub (x y : Int) : Int := (Int64.ofInt x - Int64.ofInt y).toInt
theorem RT.lsub {x y : Int} (hd : decode (rt_c M) pc = .ok (.lsub, 1)) (h : RT G M d z0 Q (pc + 1) L ((1, rt_lsub x y) :: st) z mem) : RT G M d z0 Q pc L ((1, y) :: (1, x) :: st) z mem := by
  intro p l e R s m args below meth c H locs ls Z hC hK hl hL hst hM hS hH hz hZ
  have k := h p l e R s m args below meth c H locs ls Z hC hK hl hL (rt_okc (rt_ok_l _) (rt_okt (rt_okt hst))) hM hS hH hz hZ
  rw [List.map_cons, rt_lsub, rt_tv_l] at k
  exact lv_lsub hC.1 hC.2.1 hd k
def rt_lmul (x y : Int) : Int := (Int64.ofInt x * Int64.ofInt y).toInt
theorem RT.lmul {x y : Int} (hd : decode (rt_c M) pc = .ok (.lmul, 1)) (h : RT G M d z0 Q (pc + 1) L ((1, rt_lmul x y) :: st) z mem) : RT G M d z0 Q pc L ((1, y) :: (1, x) :: st) z mem := by
  intro p l e R s m args below meth c H locs ls Z hC hK hl hL hst hM hS hH hz hZ
  have k := h p l e R s m args below meth c H locs ls Z hC hK hl hL (rt_okc (rt_ok_l _) (rt_okt (rt_okt hst))) hM hS hH hz hZ
  rw [List.map_cons, rt_lmul, rt_tv_l] at k
  exact lv_lmul hC.1 hC.2.1 hd k
def rt_land (x y : Int) : Int := (Int64.ofInt x &&& Int64.ofInt y).toInt
theorem RT.land {x y : Int} (hd : decode (rt_c M) pc = .ok (.land, 1)) (h : RT G M d z0 Q (pc + 1) L ((1, rt_land x y) :: st) z mem) : RT G M d z0 Q pc L ((1, y) :: (1, x) :: st) z mem := by
  intro p l e R s m args below meth c H locs ls Z hC hK hl hL hst hM hS hH hz hZ
  have k := h p l e R s m args below meth c H locs ls Z hC hK hl hL (rt_okc (rt_ok_l _) (rt_okt (rt_okt hst))) hM hS hH hz hZ
  rw [List.map_cons, rt_land, rt_tv_l] at k
  exact lv_land hC.1 hC.2.1 hd k
def rt_lor (x y : Int) : Int := (Int64.ofInt x ||| Int64.ofInt y).toInt
theorem RT.lor {x y : Int} (hd : decode (rt_c M) pc = .ok (.lor, 1)) (h : RT G M d z0 Q (pc + 1) L ((1, rt_lor x y) :: st) z mem) : RT G M d z0 Q pc L ((1, y) :: (1, x) :: st) z mem := by
  intro p l e R s m args below meth c H locs ls Z hC hK hl hL hst hM hS hH hz hZ
  have k := h p l e R s m args below meth c H locs ls Z hC hK hl hL (rt_okc (rt_ok_l _) (rt_okt (rt_okt hst))) hM hS hH hz hZ
  rw [List.map_cons, rt_lor, rt_tv_l] at k
  exact lv_lor hC.1 hC.2.1 hd k
def rt_ldiv (x y : Int) : Int := (Int64.ofInt x / Int64.ofInt y).toInt
theorem RT.ldiv {x y : Int} (hd : decode (rt_c M) pc = .ok (.ldiv, 1)) (hy : ¬ y = 0) (h : RT G M d z0 Q (pc + 1) L ((1, rt_ldiv x y) :: st) z mem) : RT G M d z0 Q pc L ((1, y) :: (1, x) :: st) z mem := by
  intro p l e R s m args below meth c H locs ls Z hC hK hl hL hst hM hS hH hz hZ
  have k := h p l e R s m args below meth c H locs ls Z hC hK hl hL (rt_okc (rt_ok_l _) (rt_okt (rt_okt hst))) hM hS hH hz hZ
  rw [List.map_cons, rt_ldiv, rt_tv_l] at k
  exact lv_ldiv hC.1 hC.2.1 hd (fun q => hy (by have q2 := congrArg Int64.toInt q; rw [rt_l_id (rt_okh hst)] at q2; exact q2)) k
def rt_lrem (x y : Int) : Int := (Int64.ofInt x - Int64.ofInt x / Int64.ofInt y * Int64.ofInt y).toInt
theorem RT.lrem {x y : Int} (hd : decode (rt_c M) pc = .ok (.lrem, 1)) (hy : ¬ y = 0) (h : RT G M d z0 Q (pc + 1) L ((1, rt_lrem x y) :: st) z mem) : RT G M d z0 Q pc L ((1, y) :: (1, x) :: st) z mem := by
  intro p l e R s m args below meth c H locs ls Z hC hK hl hL hst hM hS hH hz hZ
  have k := h p l e R s m args below meth c H locs ls Z hC hK hl hL (rt_okc (rt_ok_l _) (rt_okt (rt_okt hst))) hM hS hH hz hZ
  rw [List.map_cons, rt_lrem, rt_tv_l] at k
  exact lv_lrem hC.1 hC.2.1 hd (fun q => hy (by have q2 := congrArg Int64.toInt q; rw [rt_l_id (rt_okh hst)] at q2; exact q2)) k
def rt_lshl (x y : Int) : Int := (Int64.ofInt x <<< ((Int32.ofInt y).toInt64 &&& 63)).toInt
def rt_lushr (x y : Int) : Int := ((Int64.ofInt x).toUInt64 >>> ((Int32.ofInt y).toInt64.toUInt64 &&& Int64.toUInt64 63)).toInt64.toInt
theorem RT.lshl {x y : Int} (hd : decode (rt_c M) pc = .ok (.lshl, 1)) (h : RT G M d z0 Q (pc + 1) L ((1, rt_lshl x y) :: st) z mem) : RT G M d z0 Q pc L ((0, y) :: (1, x) :: st) z mem := by
  intro p l e R s m args below meth c H locs ls Z hC hK hl hL hst hM hS hH hz hZ
  have k := h p l e R s m args below meth c H locs ls Z hC hK hl hL (rt_okc (rt_ok_l _) (rt_okt (rt_okt hst))) hM hS hH hz hZ
  rw [List.map_cons, rt_lshl, rt_tv_l] at k
  exact lv_lshl hC.1 hC.2.1 hd rfl k
theorem RT.lushr {x y : Int} (hd : decode (rt_c M) pc = .ok (.lushr, 1)) (h : RT G M d z0 Q (pc + 1) L ((1, rt_lushr x y) :: st) z mem) : RT G M d z0 Q pc L ((0, y) :: (1, x) :: st) z mem := by
  intro p l e R s m args below meth c H locs ls Z hC hK hl hL hst hM hS hH hz hZ
  have k := h p l e R s m args below meth c H locs ls Z hC hK hl hL (rt_okc (rt_ok_l _) (rt_okt (rt_okt hst))) hM hS hH hz hZ
  rw [List.map_cons, rt_lushr, rt_tv_l] at k
  exact lv_lushr hC.1 hC.2.1 hd rfl k
theorem RT.i2l {x : Int} (hd : decode (rt_c M) pc = .ok (.i2l, 1)) (h : RT G M d z0 Q (pc + 1) L ((1, x) :: st) z mem) : RT G M d z0 Q pc L ((0, x) :: st) z mem := by
  intro p l e R s m args below meth c H locs ls Z hC hK hl hL hst hM hS hH hz hZ
  have o := rt_okh hst
  have k := h p l e R s m args below meth c H locs ls Z hC hK hl hL (rt_okc (show rt_ok (1, x) from ⟨Int.le_trans (by decide) o.1, Int.lt_trans o.2 (by decide)⟩) (rt_okt hst)) hM hS hH hz hZ
  exact lv_i2l hC.1 hC.2.1 hd (by show (Int32.ofInt x).toInt64 = Int64.ofInt x; apply Int64.toInt.inj; rw [Int32.toInt_toInt64, rt_i_id o, rt_l_id (x := x) ⟨Int.le_trans (by decide) o.1, Int.lt_trans o.2 (by decide)⟩]) k
def rt_l2i (x : Int) : Int := (Int64.ofInt x).toInt32.toInt
theorem RT.l2i {x : Int} (hd : decode (rt_c M) pc = .ok (.l2i, 1)) (h : RT G M d z0 Q (pc + 1) L ((0, rt_l2i x) :: st) z mem) : RT G M d z0 Q pc L ((1, x) :: st) z mem := by
  intro p l e R s m args below meth c H locs ls Z hC hK hl hL hst hM hS hH hz hZ
  have k := h p l e R s m args below meth c H locs ls Z hC hK hl hL (rt_okc (rt_ok_i _) (rt_okt hst)) hM hS hH hz hZ
  rw [List.map_cons, rt_l2i, rt_tv_i] at k
  exact lv_l2i hC.1 hC.2.1 hd rfl k
def rt_i2c (x : Int) : Int := ((Int32.ofInt x).toUInt32 % 65536).toInt32.toInt
theorem RT.i2c {x : Int} (hd : decode (rt_c M) pc = .ok (.i2c, 1)) (h : RT G M d z0 Q (pc + 1) L ((0, rt_i2c x) :: st) z mem) : RT G M d z0 Q pc L ((0, x) :: st) z mem := by
  intro p l e R s m args below meth c H locs ls Z hC hK hl hL hst hM hS hH hz hZ
  have k := h p l e R s m args below meth c H locs ls Z hC hK hl hL (rt_okc (rt_ok_i _) (rt_okt hst)) hM hS hH hz hZ
  rw [List.map_cons, rt_i2c, rt_tv_i] at k
  exact lv_i2c hC.1 hC.2.1 hd rfl k
def rt_lcmp (x y : Int) : Int := (lg_cmp (Int64.ofInt x) (Int64.ofInt y)).toInt
theorem RT.lcmp {x y : Int} (hd : decode (rt_c M) pc = .ok (.lcmp, 1)) (h : RT G M d z0 Q (pc + 1) L ((0, rt_lcmp x y) :: st) z mem) : RT G M d z0 Q pc L ((1, y) :: (1, x) :: st) z mem := by
  intro p l e R s m args below meth c H locs ls Z hC hK hl hL hst hM hS hH hz hZ
  have k := h p l e R s m args below meth c H locs ls Z hC hK hl hL (rt_okc (rt_ok_i _) (rt_okt (rt_okt hst))) hM hS hH hz hZ
  rw [List.map_cons, rt_lcmp, rt_tv_i] at k
  exact W.lcmp hC.1 hC.2.1 hd k
theorem RT.iconst {n : Int} (hd : decode (rt_c M) pc = .ok (.iconst n, 1)) (hn : -2147483648 ≤ n ∧ n < 2147483648) (h : RT G M d z0 Q (pc + 1) L ((0, n) :: st) z mem) : RT G M d z0 Q pc L (st) z mem := by
  intro p l e R s m args below meth c H locs ls Z hC hK hl hL hst hM hS hH hz hZ
  exact lv_iconst hC.1 hC.2.1 hd rfl (h p l e R s m args below meth c H locs ls Z hC hK hl hL (rt_okc hn hst) hM hS hH hz hZ)
theorem RT.bipush {n : Int} (hd : decode (rt_c M) pc = .ok (.bipush n, 2)) (hn : -2147483648 ≤ n ∧ n < 2147483648) (he : (Int8.ofInt n).toInt32 = Int32.ofInt n) (h : RT G M d z0 Q (pc + 2) L ((0, n) :: st) z mem) : RT G M d z0 Q pc L (st) z mem := by
  intro p l e R s m args below meth c H locs ls Z hC hK hl hL hst hM hS hH hz hZ
  exact lv_bipush hC.1 hC.2.1 hd he (h p l e R s m args below meth c H locs ls Z hC hK hl hL (rt_okc hn hst) hM hS hH hz hZ)
theorem RT.sipush {n : Int} (hd : decode (rt_c M) pc = .ok (.sipush n, 3)) (hn : -2147483648 ≤ n ∧ n < 2147483648) (he : (Int16.ofInt n).toInt32 = Int32.ofInt n) (h : RT G M d z0 Q (pc + 3) L ((0, n) :: st) z mem) : RT G M d z0 Q pc L (st) z mem := by
  intro p l e R s m args below meth c H locs ls Z hC hK hl hL hst hM hS hH hz hZ
  exact lv_sipush hC.1 hC.2.1 hd he (h p l e R s m args below meth c H locs ls Z hC hK hl hL (rt_okc hn hst) hM hS hH hz hZ)
theorem RT.lconst {n : Fin 2} {v : Int} (hd : decode (rt_c M) pc = .ok (.lconst n, 1)) (hv : ((n : Nat) : Int) = v) (h : RT G M d z0 Q (pc + 1) L ((1, v) :: st) z mem) : RT G M d z0 Q pc L (st) z mem := by
  intro p l e R s m args below meth c H locs ls Z hC hK hl hL hst hM hS hH hz hZ
  subst hv
  have hn : rt_ok (1, ((n : Nat) : Int)) := ⟨by show (_ : Int) ≤ ((n : Nat) : Int); have := n.isLt; omega, by show ((n : Nat) : Int) < _; have := n.isLt; omega⟩
  exact lv_lconst hC.1 hC.2.1 hd (Int64.ofInt_eq_ofNat).symm (h p l e R s m args below meth c H locs ls Z hC hK hl hL (rt_okc hn hst) hM hS hH hz hZ)
theorem RT.ldc2 {idx : Nat} {v : Int} (hd : decode (rt_c M) pc = .ok (.ldc2_w idx, 3)) (hw : Cond.constantLong (rt_y M).cls idx (Int64.ofInt v) ∈ rt_mG) (hv : rt_ok (1, v)) (h : RT G M d z0 Q (pc + 3) L ((1, v) :: st) z mem) : RT G M d z0 Q pc L (st) z mem := by
  intro p l e R s m args below meth c H locs ls Z hC hK hl hL hst hM hS hH hz hZ
  exact lv_ldc2 hC.1 hC.2.1 hC.2.2.2.1 (hC.2.2.2.2.2.2.2.1 _ hw) hd (h p l e R s m args below meth c H locs ls Z hC hK hl hL (rt_okc hv hst) hM hS hH hz hZ)
theorem RT.ldcw {idx : Nat} {v : Int} (hd : decode (rt_c M) pc = .ok (.ldc_w idx, 3)) (hw : Cond.constant (rt_y M).cls idx (Int32.ofInt v) ∈ rt_mG) (hv : rt_ok (0, v)) (h : RT G M d z0 Q (pc + 3) L ((0, v) :: st) z mem) : RT G M d z0 Q pc L (st) z mem := by
  intro p l e R s m args below meth c H locs ls Z hC hK hl hL hst hM hS hH hz hZ
  exact lv_ldcw hC.1 hC.2.1 hC.2.2.2.1 (hC.2.2.2.2.2.2.2.1 _ hw) hd (h p l e R s m args below meth c H locs ls Z hC hK hl hL (rt_okc hv hst) hM hS hH hz hZ)
theorem RT.ldc {idx : Nat} {v : Int} (hd : decode (rt_c M) pc = .ok (.ldc idx, 2)) (hw : Cond.constant (rt_y M).cls idx (Int32.ofInt v) ∈ rt_mG) (hv : rt_ok (0, v)) (h : RT G M d z0 Q (pc + 2) L ((0, v) :: st) z mem) : RT G M d z0 Q pc L (st) z mem := by
  intro p l e R s m args below meth c H locs ls Z hC hK hl hL hst hM hS hH hz hZ
  exact lv_ldc hC.1 hC.2.1 hC.2.2.2.1 (hC.2.2.2.2.2.2.2.1 _ hw) hd (h p l e R s m args below meth c H locs ls Z hC hK hl hL (rt_okc hv hst) hM hS hH hz hZ)
theorem RT.iload_n {k : Fin 4} {x : Int} (hd : decode (rt_c M) pc = .ok (.iload_n k, 1)) (hx : L[(k : Nat)]? = some (0, x)) (h : RT G M d z0 Q (pc + 1) L ((0, x) :: st) z mem) : RT G M d z0 Q pc L (st) z mem := by
  intro p l e R s m args below meth c H locs ls Z hC hK hl hL hst hM hS hH hz hZ
  exact lv_iload_n hC.1 hC.2.1 hd rfl (rt_as_at hl hx (by show (0 : Nat) < 3; decide)) (h p l e R s m args below meth c H locs ls Z hC hK hl hL (rt_okc (hL _ (List.mem_of_getElem? hx)) hst) hM hS hH hz hZ)
theorem RT.iload {k : Nat} {x : Int} (hd : decode (rt_c M) pc = .ok (.iload k, 2)) (hx : L[k]? = some (0, x)) (h : RT G M d z0 Q (pc + 2) L ((0, x) :: st) z mem) : RT G M d z0 Q pc L (st) z mem := by
  intro p l e R s m args below meth c H locs ls Z hC hK hl hL hst hM hS hH hz hZ
  exact lv_iload hC.1 hC.2.1 hd (rt_as_at hl hx (by show (0 : Nat) < 3; decide)) (h p l e R s m args below meth c H locs ls Z hC hK hl hL (rt_okc (hL _ (List.mem_of_getElem? hx)) hst) hM hS hH hz hZ)
theorem RT.lload_n {k : Fin 4} {x : Int} (hd : decode (rt_c M) pc = .ok (.lload_n k, 1)) (hx : L[(k : Nat)]? = some (1, x)) (h : RT G M d z0 Q (pc + 1) L ((1, x) :: st) z mem) : RT G M d z0 Q pc L (st) z mem := by
  intro p l e R s m args below meth c H locs ls Z hC hK hl hL hst hM hS hH hz hZ
  exact lv_lload_n hC.1 hC.2.1 hd rfl (rt_as_at hl hx (by show (1 : Nat) < 3; decide)) (h p l e R s m args below meth c H locs ls Z hC hK hl hL (rt_okc (hL _ (List.mem_of_getElem? hx)) hst) hM hS hH hz hZ)
theorem RT.lload {k : Nat} {x : Int} (hd : decode (rt_c M) pc = .ok (.lload k, 2)) (hx : L[k]? = some (1, x)) (h : RT G M d z0 Q (pc + 2) L ((1, x) :: st) z mem) : RT G M d z0 Q pc L (st) z mem := by
  intro p l e R s m args below meth c H locs ls Z hC hK hl hL hst hM hS hH hz hZ
  exact lv_lload hC.1 hC.2.1 hd (rt_as_at hl hx (by show (1 : Nat) < 3; decide)) (h p l e R s m args below meth c H locs ls Z hC hK hl hL (rt_okc (hL _ (List.mem_of_getElem? hx)) hst) hM hS hH hz hZ)
theorem RT.aload_n {k : Fin 4} {x : Int} (hd : decode (rt_c M) pc = .ok (.aload_n k, 1)) (hx : L[(k : Nat)]? = some (2, x)) (h : RT G M d z0 Q (pc + 1) L ((2, x) :: st) z mem) : RT G M d z0 Q pc L (st) z mem := by
  intro p l e R s m args below meth c H locs ls Z hC hK hl hL hst hM hS hH hz hZ
  have a := rt_as_at hl hx (by show (2 : Nat) < 3; decide)
  have k2 := h p l e R s m args below meth c H locs ls Z hC hK hl hL (rt_okc (hL _ (List.mem_of_getElem? hx)) hst) hM hS hH hz hZ
  rw [List.map_cons] at k2
  change ls[(k : Nat)]? = some (.val (va_rf (rt_rf G x))) at a
  change W p l e R s m args below meth c H locs _ _ Z (F0 m (pc + 1) ls (va_rf (rt_rf G x) :: _)) at k2
  cases hr : rt_rf G x with
  | none => rw [hr] at a k2; exact lv_aload_nN hC.1 hC.2.1 hd rfl a k2
  | some q => rw [hr] at a k2; exact lv_aload_n hC.1 hC.2.1 hd rfl a k2
theorem RT.aload {k : Nat} {x : Int} (hd : decode (rt_c M) pc = .ok (.aload k, 2)) (hx : L[k]? = some (2, x)) (h : RT G M d z0 Q (pc + 2) L ((2, x) :: st) z mem) : RT G M d z0 Q pc L (st) z mem := by
  intro p l e R s m args below meth c H locs ls Z hC hK hl hL hst hM hS hH hz hZ
  have a := rt_as_at hl hx (by show (2 : Nat) < 3; decide)
  have k2 := h p l e R s m args below meth c H locs ls Z hC hK hl hL (rt_okc (hL _ (List.mem_of_getElem? hx)) hst) hM hS hH hz hZ
  rw [List.map_cons] at k2
  change ls[k]? = some (.val (va_rf (rt_rf G x))) at a
  change W p l e R s m args below meth c H locs _ _ Z (F0 m (pc + 2) ls (va_rf (rt_rf G x) :: _)) at k2
  cases hr : rt_rf G x with
  | none => rw [hr] at a k2; exact lv_aloadN hC.1 hC.2.1 hd a k2
  | some q => rw [hr] at a k2; exact lv_aload hC.1 hC.2.1 hd a k2
/-- a value of one slot stored: a long ahead of it is gone -/
def rt_pre (i : Nat) (L : List rt_V) : List rt_V := match i with
  | 0 => L
  | j + 1 => match L[j]? with
    | some w => if w.1 = 1 then L.set j (9, 0) else L
    | none => L
def rt_st1 (i : Nat) (v : rt_V) (L : List rt_V) : List rt_V := (rt_pre i L).set i v
def rt_st2 (i : Nat) (v : rt_V) (L : List rt_V) : List rt_V := (rt_st1 i v L).set (i + 1) (9, 0)
theorem rt_st1_get {i : Nat} {v : rt_V} {L : List rt_V} {j : Nat} {w : rt_V} (h : (rt_st1 i v L)[j]? = some w) : (j = i ∧ w = v) ∨ w = (9, 0) ∨ (j ≠ i ∧ L[j]? = some w ∧ ¬ (j + 1 = i ∧ w.1 = 1)) := by
  unfold rt_st1 at h
  by_cases hji : j = i
  · subst hji
    rw [List.getElem?_set] at h
    simp only [if_true] at h
    split at h
    · exact Or.inl ⟨rfl, (Option.some.inj h).symm⟩
    · cases h
  · rw [List.getElem?_set_ne (fun q => hji q.symm)] at h
    unfold rt_pre at h
    cases i with
    | zero => exact Or.inr (Or.inr ⟨hji, h, fun q => by omega⟩)
    | succ i =>
      dsimp only at h
      cases hw : L[i]? with
      | none =>
        rw [hw] at h
        dsimp only at h
        refine Or.inr (Or.inr ⟨hji, h, fun q => ?_⟩)
        have : j = i := by omega
        rw [this, hw] at h
        cases h
      | some x =>
        rw [hw] at h
        dsimp only at h
        by_cases h1 : x.1 = 1
        · rw [if_pos h1] at h
          by_cases hj : j = i
          · subst hj
            rw [List.getElem?_set] at h
            simp only [if_true] at h
            split at h
            · exact Or.inr (Or.inl (Option.some.inj h).symm)
            · cases h
          · rw [List.getElem?_set_ne (fun q => hj q.symm)] at h
            exact Or.inr (Or.inr ⟨hji, h, fun q => hj (by omega)⟩)
        · rw [if_neg h1] at h
          refine Or.inr (Or.inr ⟨hji, h, fun q => ?_⟩)
          have : j = i := by omega
          rw [this, hw] at h
          cases h
          exact h1 q.2
theorem rt_ok9 : rt_ok (9, 0) := by show (-1 : Int) ≤ 0; decide
theorem rt_st1_ok {i : Nat} {v : rt_V} {L : List rt_V} (hL : ∀ w ∈ L, rt_ok w) (hv : rt_ok v) : ∀ w ∈ rt_st1 i v L, rt_ok w := fun w hw => by
  obtain ⟨j, hj⟩ := List.getElem?_of_mem hw
  rcases rt_st1_get hj with ⟨-, h⟩ | h | ⟨-, h, -⟩
  · rw [h]; exact hv
  · rw [h]; exact rt_ok9
  · exact hL w (List.mem_of_getElem? h)
theorem rt_st2_ok {i : Nat} {v : rt_V} {L : List rt_V} (hL : ∀ w ∈ L, rt_ok w) (hv : rt_ok v) : ∀ w ∈ rt_st2 i v L, rt_ok w := fun w hw => by
  rcases List.mem_or_eq_of_mem_set hw with h | h
  · exact rt_st1_ok hL hv w h
  · rw [h]; exact rt_ok9
theorem rt_st1_has {G : rt_G} {ls : Array Slot} {n i : Nat} {v : rt_V} {L : List rt_V} (h : lv_has ls n ((i, rt_tv G v) :: (rt_as G L).filter (fun q => !(q.1 == i) && !(q.1 + 1 == i && q.2.category == 2)))) : lv_has ls n (rt_as G (rt_st1 i v L)) := by
  refine ⟨h.1, h.2.1, fun q hq => h.2.2 q ?_⟩
  obtain ⟨w, hw, h3, he⟩ := rt_as_mem.mp hq
  rcases rt_st1_get hw with ⟨h1, h2⟩ | h1 | ⟨h1, h2, h4⟩
  · subst h2
    exact List.mem_cons.mpr (Or.inl (Prod.ext h1 he))
  · rw [h1] at h3; exact absurd h3 (by decide)
  · refine List.mem_cons_of_mem _ (List.mem_filter.mpr ⟨rt_as_mem.mpr ⟨w, h2, h3, he⟩, ?_⟩)
    rw [he, rt_cat]
    by_cases h5 : q.1 + 1 = i
    · have h6 : ¬ w.1 = 1 := fun z => h4 ⟨h5, z⟩
      simp [h1, h6]
    · simp [h1, h5]
theorem rt_st2_has {G : rt_G} {ls : Array Slot} {n i : Nat} {v : rt_V} {L : List rt_V} (h : lv_has ls n ((i, rt_tv G v) :: (rt_as G L).filter (fun q => !(q.1 == i) && (!(q.1 == i + 1) && !(q.1 + 1 == i && q.2.category == 2))))) : lv_has ls n (rt_as G (rt_st2 i v L)) := by
  refine ⟨h.1, h.2.1, fun q hq => h.2.2 q ?_⟩
  obtain ⟨w, hw, h3, he⟩ := rt_as_mem.mp hq
  unfold rt_st2 at hw
  by_cases h7 : q.1 = i + 1
  · rw [h7, List.getElem?_set] at hw
    simp only [if_true] at hw
    split at hw
    · have := (Option.some.inj hw).symm
      rw [this] at h3
      exact absurd h3 (by decide)
    · cases hw
  · rw [List.getElem?_set_ne (fun z => h7 z.symm)] at hw
    rcases rt_st1_get hw with ⟨h1, h2⟩ | h1 | ⟨h1, h2, h4⟩
    · subst h2
      exact List.mem_cons.mpr (Or.inl (Prod.ext h1 he))
    · rw [h1] at h3; exact absurd h3 (by decide)
    · refine List.mem_cons_of_mem _ (List.mem_filter.mpr ⟨rt_as_mem.mpr ⟨w, h2, h3, he⟩, ?_⟩)
      rw [he, rt_cat]
      by_cases h5 : q.1 + 1 = i
      · have h6 : ¬ w.1 = 1 := fun z => h4 ⟨h5, z⟩
        simp [h1, h6, h7]
      · simp [h1, h5, h7]
theorem RT.istore_n {k : Fin 4} {x : Int} {L1 : List rt_V} (hd : decode (rt_c M) pc = .ok (.istore_n k, 1)) (hn : (k : Nat) < rt_n M) (hL1 : rt_st1 (k : Nat) (0, x) L = L1) (h : RT G M d z0 Q (pc + 1) L1 (st) z mem) : RT G M d z0 Q pc L ((0, x) :: st) z mem := by
  intro p l e R s m args below meth c H locs ls Z hC hK hl hL hst hM hS hH hz hZ
  subst hL1
  exact lv_istore_n hC.1 hC.2.1 hd rfl hl hn rfl (fun ls' hl' => h p l e R s m args below meth c H locs ls' Z hC hK (rt_st1_has hl') (rt_st1_ok hL (rt_okh hst)) (rt_okt hst) hM hS hH hz hZ)
theorem RT.istore {k : Nat} {x : Int} {L1 : List rt_V} (hd : decode (rt_c M) pc = .ok (.istore k, 2)) (hn : k < rt_n M) (hL1 : rt_st1 k (0, x) L = L1) (h : RT G M d z0 Q (pc + 2) L1 (st) z mem) : RT G M d z0 Q pc L ((0, x) :: st) z mem := by
  intro p l e R s m args below meth c H locs ls Z hC hK hl hL hst hM hS hH hz hZ
  subst hL1
  exact lv_istore hC.1 hC.2.1 hd hl hn rfl (fun ls' hl' => h p l e R s m args below meth c H locs ls' Z hC hK (rt_st1_has hl') (rt_st1_ok hL (rt_okh hst)) (rt_okt hst) hM hS hH hz hZ)
theorem RT.lstore_n {k : Fin 4} {x : Int} {L1 : List rt_V} (hd : decode (rt_c M) pc = .ok (.lstore_n k, 1)) (hn : (k : Nat) + 1 < rt_n M) (hL1 : rt_st2 (k : Nat) (1, x) L = L1) (h : RT G M d z0 Q (pc + 1) L1 (st) z mem) : RT G M d z0 Q pc L ((1, x) :: st) z mem := by
  intro p l e R s m args below meth c H locs ls Z hC hK hl hL hst hM hS hH hz hZ
  subst hL1
  exact lv_lstore_n hC.1 hC.2.1 hd rfl hl hn rfl (fun ls' hl' => h p l e R s m args below meth c H locs ls' Z hC hK (rt_st2_has hl') (rt_st2_ok hL (rt_okh hst)) (rt_okt hst) hM hS hH hz hZ)
theorem RT.lstore {k : Nat} {x : Int} {L1 : List rt_V} (hd : decode (rt_c M) pc = .ok (.lstore k, 2)) (hn : k + 1 < rt_n M) (hL1 : rt_st2 k (1, x) L = L1) (h : RT G M d z0 Q (pc + 2) L1 (st) z mem) : RT G M d z0 Q pc L ((1, x) :: st) z mem := by
  intro p l e R s m args below meth c H locs ls Z hC hK hl hL hst hM hS hH hz hZ
  subst hL1
  exact lv_lstore hC.1 hC.2.1 hd hl hn rfl (fun ls' hl' => h p l e R s m args below meth c H locs ls' Z hC hK (rt_st2_has hl') (rt_st2_ok hL (rt_okh hst)) (rt_okt hst) hM hS hH hz hZ)
theorem rt_rf_some {G : rt_G} {x : Int} (hx : 0 ≤ x) : rt_rf G x = some (rt_ad G x.toNat) := if_neg (Int.not_lt.mpr hx)
theorem RT.astore_n {k : Fin 4} {x : Int} {L1 : List rt_V} (hd : decode (rt_c M) pc = .ok (.astore_n k, 1)) (hn : (k : Nat) < rt_n M) (hL1 : rt_st1 (k : Nat) (2, x) L = L1) (h : RT G M d z0 Q (pc + 1) L1 (st) z mem) : RT G M d z0 Q pc L ((2, x) :: st) z mem := by
  intro p l e R s m args below meth c H locs ls Z hC hK hl hL hst hM hS hH hz hZ
  subst hL1
  have go : ∀ ls', lv_has ls' (rt_n M) (((k : Nat), rt_tv G (2, x)) :: (rt_as G L).filter (fun q => !(q.1 == (k : Nat)) && !(q.1 + 1 == (k : Nat) && q.2.category == 2))) → W p l e R s m args below meth c H locs (rt_cells z0 z) (rt_slots z0 z) Z (F0 m (pc + 1) ls' (st.map (rt_tv G))) :=
    fun ls' hl' => h p l e R s m args below meth c H locs ls' Z hC hK (rt_st1_has hl') (rt_st1_ok hL (rt_okh hst)) (rt_okt hst) hM hS hH hz hZ
  change W p l e R s m args below meth c H locs _ _ Z (F0 m pc ls (va_rf (rt_rf G x) :: st.map (rt_tv G)))
  change ∀ ls', lv_has ls' (rt_n M) (((k : Nat), va_rf (rt_rf G x)) :: (rt_as G L).filter _) → _ at go
  cases hr : rt_rf G x with
  | none => rw [hr] at go; exact lv_astore_nN hC.1 hC.2.1 hd rfl hl hn rfl go
  | some q => rw [hr] at go; exact lv_astore_n hC.1 hC.2.1 hd rfl hl hn rfl go
theorem RT.astore {k : Nat} {x : Int} {L1 : List rt_V} (hd : decode (rt_c M) pc = .ok (.astore k, 2)) (hn : k < rt_n M) (hL1 : rt_st1 k (2, x) L = L1) (h : RT G M d z0 Q (pc + 2) L1 (st) z mem) : RT G M d z0 Q pc L ((2, x) :: st) z mem := by
  intro p l e R s m args below meth c H locs ls Z hC hK hl hL hst hM hS hH hz hZ
  subst hL1
  have go : ∀ ls', lv_has ls' (rt_n M) ((k, rt_tv G (2, x)) :: (rt_as G L).filter (fun q => !(q.1 == k) && !(q.1 + 1 == k && q.2.category == 2))) → W p l e R s m args below meth c H locs (rt_cells z0 z) (rt_slots z0 z) Z (F0 m (pc + 2) ls' (st.map (rt_tv G))) :=
    fun ls' hl' => h p l e R s m args below meth c H locs ls' Z hC hK (rt_st1_has hl') (rt_st1_ok hL (rt_okh hst)) (rt_okt hst) hM hS hH hz hZ
  change W p l e R s m args below meth c H locs _ _ Z (F0 m pc ls (va_rf (rt_rf G x) :: st.map (rt_tv G)))
  change ∀ ls', lv_has ls' (rt_n M) ((k, va_rf (rt_rf G x)) :: (rt_as G L).filter _) → _ at go
  cases hr : rt_rf G x with
  | none => rw [hr] at go; exact lv_astoreN hC.1 hC.2.1 hd  hl hn rfl go
  | some q => rw [hr] at go; exact lv_astore hC.1 hC.2.1 hd  hl hn rfl go
theorem RT.iinc {i : Nat} {n x : Int} {L1 : List rt_V} (hd : decode (rt_c M) pc = .ok (.iinc i n, 3)) (hx : L[i]? = some (0, x)) (hn : i < rt_n M) (hb : -2147483648 ≤ n ∧ n < 2147483648) (hL1 : rt_st1 i (0, rt_iadd x n) L = L1) (h : RT G M d z0 Q (pc + 3) L1 (st) z mem) : RT G M d z0 Q pc L (st) z mem := by
  intro p l e R s m args below meth c H locs ls Z hC hK hl hL hst hM hS hH hz hZ
  subst hL1
  obtain ⟨k, hk⟩ := List.getElem?_of_mem (rt_as_mem.mpr ⟨_, hx, (by show (0 : Nat) < 3; decide), rfl⟩ : (i, rt_tv G (0, x)) ∈ rt_as G L)
  refine lv_iinc hC.1 hC.2.1 hd hl (k := k) hk rfl hn rfl (fun ls' hl' => ?_)
  have ee : rt_tv G (0, rt_iadd x n) = .int (Int32.ofInt x + Int32.ofInt n) := by rw [rt_iadd, rt_tv_i]
  exact h p l _ R s m args below meth c H locs ls' Z hC hK (rt_st1_has (by rw [ee]; exact hl')) (rt_st1_ok hL (rt_ok_i _)) hst hM hS hH hz hZ
theorem RT.dup {v : rt_V} (hd : decode (rt_c M) pc = .ok (.dup, 1)) (hv : ¬ v.1 = 1) (h : RT G M d z0 Q (pc + 1) L (v :: v :: st) z mem) : RT G M d z0 Q pc L (v :: st) z mem := by
  intro p l e R s m args below meth c H locs ls Z hC hK hl hL hst hM hS hH hz hZ
  exact lv_dup hC.1 hC.2.1 hd (by rw [rt_cat]; simp [hv]) (h p l e R s m args below meth c H locs ls Z hC hK hl hL (rt_okc (rt_okh hst) hst) hM hS hH hz hZ)
theorem RT.pop {v : rt_V} (hd : decode (rt_c M) pc = .ok (.pop, 1)) (hv : ¬ v.1 = 1) (h : RT G M d z0 Q (pc + 1) L (st) z mem) : RT G M d z0 Q pc L (v :: st) z mem := by
  intro p l e R s m args below meth c H locs ls Z hC hK hl hL hst hM hS hH hz hZ
  exact lv_pop hC.1 hC.2.1 hd (by rw [rt_cat]; simp [hv]) (h p l e R s m args below meth c H locs ls Z hC hK hl hL (rt_okt hst) hM hS hH hz hZ)
theorem RT.dup2 {v w : rt_V} (hd : decode (rt_c M) pc = .ok (.dup2, 1)) (hv : ¬ v.1 = 1) (hw : ¬ w.1 = 1) (h : RT G M d z0 Q (pc + 1) L (v :: w :: v :: w :: st) z mem) : RT G M d z0 Q pc L (v :: w :: st) z mem := by
  intro p l e R s m args below meth c H locs ls Z hC hK hl hL hst hM hS hH hz hZ
  exact lv_dup2_11 hC.1 hC.2.1 hd (by rw [rt_cat]; simp [hv]) (by rw [rt_cat]; simp [hw]) (h p l e R s m args below meth c H locs ls Z hC hK hl hL (rt_okc (rt_okh hst) (rt_okc (rt_okh (rt_okt hst)) hst)) hM hS hH hz hZ)
theorem RT.if_eq {x off : Int} {tgt : Nat} (hd : decode (rt_c M) pc = .ok (.ifCond .eq off, 3)) (ht : (pc : Int) + off = (tgt : Int)) (kt : x = 0 → RT G M d z0 Q (tgt) L (st) z mem) (kf : ¬ (x = 0) → RT G M d z0 Q (pc + 3) L (st) z mem) : RT G M d z0 Q pc L ((0, x) :: st) z mem := by
  intro p l e R s m args below meth c H locs ls Z hC hK hl hL hst hM hS hH hz hZ
  have kt2 := fun q => kt q p l e R s m args below meth c H locs ls Z hC hK hl hL (rt_okt hst) hM hS hH hz hZ
  have kf2 := fun q => kf q p l e R s m args below meth c H locs ls Z hC hK hl hL (rt_okt hst) hM hS hH hz hZ
  exact lv_if_eq hC.1 hC.2.1 hd ht (fun q => kt2 ((rt_i_inj (rt_okh hst) rt_ok0).mp q)) (fun q => kf2 (fun r => q ((rt_i_inj (rt_okh hst) rt_ok0).mpr r)))
theorem RT.icmp_eq {x y off : Int} {tgt : Nat} (hd : decode (rt_c M) pc = .ok (.if_icmp .eq off, 3)) (ht : (pc : Int) + off = (tgt : Int)) (kt : x = y → RT G M d z0 Q (tgt) L (st) z mem) (kf : ¬ (x = y) → RT G M d z0 Q (pc + 3) L (st) z mem) : RT G M d z0 Q pc L ((0, y) :: (0, x) :: st) z mem := by
  intro p l e R s m args below meth c H locs ls Z hC hK hl hL hst hM hS hH hz hZ
  have kt2 := fun q => kt q p l e R s m args below meth c H locs ls Z hC hK hl hL (rt_okt (rt_okt hst)) hM hS hH hz hZ
  have kf2 := fun q => kf q p l e R s m args below meth c H locs ls Z hC hK hl hL (rt_okt (rt_okt hst)) hM hS hH hz hZ
  exact lv_icmp_eq hC.1 hC.2.1 hd ht (fun q => kt2 ((rt_i_inj (rt_okh (rt_okt hst)) (rt_okh hst)).mp q)) (fun q => kf2 (fun r => q ((rt_i_inj (rt_okh (rt_okt hst)) (rt_okh hst)).mpr r)))
theorem RT.if_ne {x off : Int} {tgt : Nat} (hd : decode (rt_c M) pc = .ok (.ifCond .ne off, 3)) (ht : (pc : Int) + off = (tgt : Int)) (kt : ¬ x = 0 → RT G M d z0 Q (tgt) L (st) z mem) (kf : ¬ (¬ x = 0) → RT G M d z0 Q (pc + 3) L (st) z mem) : RT G M d z0 Q pc L ((0, x) :: st) z mem := by
  intro p l e R s m args below meth c H locs ls Z hC hK hl hL hst hM hS hH hz hZ
  have kt2 := fun q => kt q p l e R s m args below meth c H locs ls Z hC hK hl hL (rt_okt hst) hM hS hH hz hZ
  have kf2 := fun q => kf q p l e R s m args below meth c H locs ls Z hC hK hl hL (rt_okt hst) hM hS hH hz hZ
  exact lv_if_ne hC.1 hC.2.1 hd ht (fun q => kt2 ((not_congr (rt_i_inj (rt_okh hst) rt_ok0)).mp q)) (fun q => kf2 (fun r => r ((rt_i_inj (rt_okh hst) rt_ok0).mp q)))
theorem RT.icmp_ne {x y off : Int} {tgt : Nat} (hd : decode (rt_c M) pc = .ok (.if_icmp .ne off, 3)) (ht : (pc : Int) + off = (tgt : Int)) (kt : ¬ x = y → RT G M d z0 Q (tgt) L (st) z mem) (kf : ¬ (¬ x = y) → RT G M d z0 Q (pc + 3) L (st) z mem) : RT G M d z0 Q pc L ((0, y) :: (0, x) :: st) z mem := by
  intro p l e R s m args below meth c H locs ls Z hC hK hl hL hst hM hS hH hz hZ
  have kt2 := fun q => kt q p l e R s m args below meth c H locs ls Z hC hK hl hL (rt_okt (rt_okt hst)) hM hS hH hz hZ
  have kf2 := fun q => kf q p l e R s m args below meth c H locs ls Z hC hK hl hL (rt_okt (rt_okt hst)) hM hS hH hz hZ
  exact lv_icmp_ne hC.1 hC.2.1 hd ht (fun q => kt2 ((not_congr (rt_i_inj (rt_okh (rt_okt hst)) (rt_okh hst))).mp q)) (fun q => kf2 (fun r => r ((rt_i_inj (rt_okh (rt_okt hst)) (rt_okh hst)).mp q)))
theorem RT.if_lt {x off : Int} {tgt : Nat} (hd : decode (rt_c M) pc = .ok (.ifCond .lt off, 3)) (ht : (pc : Int) + off = (tgt : Int)) (kt : x < 0 → RT G M d z0 Q (tgt) L (st) z mem) (kf : ¬ (x < 0) → RT G M d z0 Q (pc + 3) L (st) z mem) : RT G M d z0 Q pc L ((0, x) :: st) z mem := by
  intro p l e R s m args below meth c H locs ls Z hC hK hl hL hst hM hS hH hz hZ
  have kt2 := fun q => kt q p l e R s m args below meth c H locs ls Z hC hK hl hL (rt_okt hst) hM hS hH hz hZ
  have kf2 := fun q => kf q p l e R s m args below meth c H locs ls Z hC hK hl hL (rt_okt hst) hM hS hH hz hZ
  exact lv_if_lt hC.1 hC.2.1 hd ht (fun q => kt2 ((rt_i_lt (rt_okh hst) rt_ok0).mp q)) (fun q => kf2 (fun r => q ((rt_i_lt (rt_okh hst) rt_ok0).mpr r)))
theorem RT.icmp_lt {x y off : Int} {tgt : Nat} (hd : decode (rt_c M) pc = .ok (.if_icmp .lt off, 3)) (ht : (pc : Int) + off = (tgt : Int)) (kt : x < y → RT G M d z0 Q (tgt) L (st) z mem) (kf : ¬ (x < y) → RT G M d z0 Q (pc + 3) L (st) z mem) : RT G M d z0 Q pc L ((0, y) :: (0, x) :: st) z mem := by
  intro p l e R s m args below meth c H locs ls Z hC hK hl hL hst hM hS hH hz hZ
  have kt2 := fun q => kt q p l e R s m args below meth c H locs ls Z hC hK hl hL (rt_okt (rt_okt hst)) hM hS hH hz hZ
  have kf2 := fun q => kf q p l e R s m args below meth c H locs ls Z hC hK hl hL (rt_okt (rt_okt hst)) hM hS hH hz hZ
  exact lv_icmp_lt hC.1 hC.2.1 hd ht (fun q => kt2 ((rt_i_lt (rt_okh (rt_okt hst)) (rt_okh hst)).mp q)) (fun q => kf2 (fun r => q ((rt_i_lt (rt_okh (rt_okt hst)) (rt_okh hst)).mpr r)))
theorem RT.if_ge {x off : Int} {tgt : Nat} (hd : decode (rt_c M) pc = .ok (.ifCond .ge off, 3)) (ht : (pc : Int) + off = (tgt : Int)) (kt : 0 ≤ x → RT G M d z0 Q (tgt) L (st) z mem) (kf : ¬ (0 ≤ x) → RT G M d z0 Q (pc + 3) L (st) z mem) : RT G M d z0 Q pc L ((0, x) :: st) z mem := by
  intro p l e R s m args below meth c H locs ls Z hC hK hl hL hst hM hS hH hz hZ
  have kt2 := fun q => kt q p l e R s m args below meth c H locs ls Z hC hK hl hL (rt_okt hst) hM hS hH hz hZ
  have kf2 := fun q => kf q p l e R s m args below meth c H locs ls Z hC hK hl hL (rt_okt hst) hM hS hH hz hZ
  exact lv_if_ge hC.1 hC.2.1 hd ht (fun q => kt2 ((rt_i_le rt_ok0 (rt_okh hst)).mp q)) (fun q => kf2 (fun r => q ((rt_i_le rt_ok0 (rt_okh hst)).mpr r)))
theorem RT.icmp_ge {x y off : Int} {tgt : Nat} (hd : decode (rt_c M) pc = .ok (.if_icmp .ge off, 3)) (ht : (pc : Int) + off = (tgt : Int)) (kt : y ≤ x → RT G M d z0 Q (tgt) L (st) z mem) (kf : ¬ (y ≤ x) → RT G M d z0 Q (pc + 3) L (st) z mem) : RT G M d z0 Q pc L ((0, y) :: (0, x) :: st) z mem := by
  intro p l e R s m args below meth c H locs ls Z hC hK hl hL hst hM hS hH hz hZ
  have kt2 := fun q => kt q p l e R s m args below meth c H locs ls Z hC hK hl hL (rt_okt (rt_okt hst)) hM hS hH hz hZ
  have kf2 := fun q => kf q p l e R s m args below meth c H locs ls Z hC hK hl hL (rt_okt (rt_okt hst)) hM hS hH hz hZ
  exact lv_icmp_ge hC.1 hC.2.1 hd ht (fun q => kt2 ((rt_i_le (rt_okh hst) (rt_okh (rt_okt hst))).mp q)) (fun q => kf2 (fun r => q ((rt_i_le (rt_okh hst) (rt_okh (rt_okt hst))).mpr r)))
theorem RT.if_gt {x off : Int} {tgt : Nat} (hd : decode (rt_c M) pc = .ok (.ifCond .gt off, 3)) (ht : (pc : Int) + off = (tgt : Int)) (kt : 0 < x → RT G M d z0 Q (tgt) L (st) z mem) (kf : ¬ (0 < x) → RT G M d z0 Q (pc + 3) L (st) z mem) : RT G M d z0 Q pc L ((0, x) :: st) z mem := by
  intro p l e R s m args below meth c H locs ls Z hC hK hl hL hst hM hS hH hz hZ
  have kt2 := fun q => kt q p l e R s m args below meth c H locs ls Z hC hK hl hL (rt_okt hst) hM hS hH hz hZ
  have kf2 := fun q => kf q p l e R s m args below meth c H locs ls Z hC hK hl hL (rt_okt hst) hM hS hH hz hZ
  exact lv_if_gt hC.1 hC.2.1 hd ht (fun q => kt2 ((rt_i_lt rt_ok0 (rt_okh hst)).mp q)) (fun q => kf2 (fun r => q ((rt_i_lt rt_ok0 (rt_okh hst)).mpr r)))
theorem RT.icmp_gt {x y off : Int} {tgt : Nat} (hd : decode (rt_c M) pc = .ok (.if_icmp .gt off, 3)) (ht : (pc : Int) + off = (tgt : Int)) (kt : y < x → RT G M d z0 Q (tgt) L (st) z mem) (kf : ¬ (y < x) → RT G M d z0 Q (pc + 3) L (st) z mem) : RT G M d z0 Q pc L ((0, y) :: (0, x) :: st) z mem := by
  intro p l e R s m args below meth c H locs ls Z hC hK hl hL hst hM hS hH hz hZ
  have kt2 := fun q => kt q p l e R s m args below meth c H locs ls Z hC hK hl hL (rt_okt (rt_okt hst)) hM hS hH hz hZ
  have kf2 := fun q => kf q p l e R s m args below meth c H locs ls Z hC hK hl hL (rt_okt (rt_okt hst)) hM hS hH hz hZ
  exact lv_icmp_gt hC.1 hC.2.1 hd ht (fun q => kt2 ((rt_i_lt (rt_okh hst) (rt_okh (rt_okt hst))).mp q)) (fun q => kf2 (fun r => q ((rt_i_lt (rt_okh hst) (rt_okh (rt_okt hst))).mpr r)))
theorem RT.if_le {x off : Int} {tgt : Nat} (hd : decode (rt_c M) pc = .ok (.ifCond .le off, 3)) (ht : (pc : Int) + off = (tgt : Int)) (kt : x ≤ 0 → RT G M d z0 Q (tgt) L (st) z mem) (kf : ¬ (x ≤ 0) → RT G M d z0 Q (pc + 3) L (st) z mem) : RT G M d z0 Q pc L ((0, x) :: st) z mem := by
  intro p l e R s m args below meth c H locs ls Z hC hK hl hL hst hM hS hH hz hZ
  have kt2 := fun q => kt q p l e R s m args below meth c H locs ls Z hC hK hl hL (rt_okt hst) hM hS hH hz hZ
  have kf2 := fun q => kf q p l e R s m args below meth c H locs ls Z hC hK hl hL (rt_okt hst) hM hS hH hz hZ
  exact lv_if_le hC.1 hC.2.1 hd ht (fun q => kt2 ((rt_i_le (rt_okh hst) rt_ok0).mp q)) (fun q => kf2 (fun r => q ((rt_i_le (rt_okh hst) rt_ok0).mpr r)))
theorem RT.icmp_le {x y off : Int} {tgt : Nat} (hd : decode (rt_c M) pc = .ok (.if_icmp .le off, 3)) (ht : (pc : Int) + off = (tgt : Int)) (kt : x ≤ y → RT G M d z0 Q (tgt) L (st) z mem) (kf : ¬ (x ≤ y) → RT G M d z0 Q (pc + 3) L (st) z mem) : RT G M d z0 Q pc L ((0, y) :: (0, x) :: st) z mem := by
  intro p l e R s m args below meth c H locs ls Z hC hK hl hL hst hM hS hH hz hZ
  have kt2 := fun q => kt q p l e R s m args below meth c H locs ls Z hC hK hl hL (rt_okt (rt_okt hst)) hM hS hH hz hZ
  have kf2 := fun q => kf q p l e R s m args below meth c H locs ls Z hC hK hl hL (rt_okt (rt_okt hst)) hM hS hH hz hZ
  exact lv_icmp_le hC.1 hC.2.1 hd ht (fun q => kt2 ((rt_i_le (rt_okh (rt_okt hst)) (rt_okh hst)).mp q)) (fun q => kf2 (fun r => q ((rt_i_le (rt_okh (rt_okt hst)) (rt_okh hst)).mpr r)))
theorem RT.goto {off : Int} {tgt : Nat} (hd : decode (rt_c M) pc = .ok (.goto off, 3)) (ht : (pc : Int) + off = (tgt : Int)) (h : RT G M d z0 Q (tgt) L (st) z mem) : RT G M d z0 Q pc L (st) z mem := by
  intro p l e R s m args below meth c H locs ls Z hC hK hl hL hst hM hS hH hz hZ
  exact lv_goto hC.1 hC.2.1 hd ht (h p l e R s m args below meth c H locs ls Z hC hK hl hL hst hM hS hH hz hZ)
theorem RT.tsIn {x dflt lo hi off : Int} {offs : Array Int} {len tgt : Nat} (hd : decode (rt_c M) pc = .ok (.tableswitch dflt lo hi offs, len)) (h1 : ¬ x < lo) (h2 : ¬ hi < x) (ho : offs[(x - lo).toNat]? = some off) (ht : (pc : Int) + off = (tgt : Int)) (h : RT G M d z0 Q (tgt) L (st) z mem) : RT G M d z0 Q pc L ((0, x) :: st) z mem := by
  intro p l e R s m args below meth c H locs ls Z hC hK hl hL hst hM hS hH hz hZ
  have i := rt_i_id (rt_okh hst)
  exact lv_tableIn hC.1 hC.2.1 hd (by rw [i]; exact h1) (by rw [i]; exact h2) (by rw [i]; exact ho) ht (h p l e R s m args below meth c H locs ls Z hC hK hl hL (rt_okt hst) hM hS hH hz hZ)
theorem RT.tsOut {x dflt lo hi : Int} {offs : Array Int} {len tgt : Nat} (hd : decode (rt_c M) pc = .ok (.tableswitch dflt lo hi offs, len)) (h1 : x < lo ∨ hi < x) (ht : (pc : Int) + dflt = (tgt : Int)) (h : RT G M d z0 Q (tgt) L (st) z mem) : RT G M d z0 Q pc L ((0, x) :: st) z mem := by
  intro p l e R s m args below meth c H locs ls Z hC hK hl hL hst hM hS hH hz hZ
  have i := rt_i_id (rt_okh hst)
  exact lv_tableOut hC.1 hC.2.1 hd (by rw [i]; exact h1) ht (h p l e R s m args below meth c H locs ls Z hC hK hl hL (rt_okt hst) hM hS hH hz hZ)
theorem RT.iret {x : Int} (hd : decode (rt_c M) pc = .ok (.ireturn, 1)) (hr : rt_r M = some .int) (hc : rt_cells z0 z ≤ rt_mc M) (hs : rt_slots z0 z ≤ rt_ms M) (h : Q (some (0, x)) z mem) : RT G M d z0 Q pc L ([(0, x)]) z mem := by
  intro p l e R s m args below meth c H locs ls Z hC hK hl hL hst hM hS hH hz hZ
  refine W.widen hc hs (rt_W_mono ?_ hZ)
  refine W.iret hC.1 hC.2.1 (hC.2.2.2.2.1.trans hr) ?_ hS.2.2 hd hC.2.2.2.2.2.1
  intro t ht _
  exact ⟨⟨some (0, x), z, mem, rfl, h, (fun w q => by cases q; exact rt_okh hst), hM, by rw [ht]; exact hH, by rw [ht]; exact hz⟩, hS.F ht⟩
theorem RT.zret {x : Int} (hd : decode (rt_c M) pc = .ok (.ireturn, 1)) (hr : rt_r M = some .boolean) (hv : x = 0 ∨ x = 1) (hc : rt_cells z0 z ≤ rt_mc M) (hs : rt_slots z0 z ≤ rt_ms M) (h : Q (some (0, x)) z mem) : RT G M d z0 Q pc L ([(0, x)]) z mem := by
  intro p l e R s m args below meth c H locs ls Z hC hK hl hL hst hM hS hH hz hZ
  refine W.widen hc hs (rt_W_mono ?_ hZ)
  refine W.zret hC.1 hC.2.1 (hC.2.2.2.2.1.trans hr) (by rcases hv with rfl | rfl <;> rfl) ?_ hS.2.2 hd hC.2.2.2.2.2.1
  intro t ht _
  exact ⟨⟨some (0, x), z, mem, rfl, h, (fun w q => by cases q; exact rt_okh hst), hM, by rw [ht]; exact hH, by rw [ht]; exact hz⟩, hS.F ht⟩
theorem RT.lret {x : Int} (hd : decode (rt_c M) pc = .ok (.lreturn, 1)) (hr : rt_r M = some .long) (hc : rt_cells z0 z ≤ rt_mc M) (hs : rt_slots z0 z ≤ rt_ms M) (h : Q (some (1, x)) z mem) : RT G M d z0 Q pc L ([(1, x)]) z mem := by
  intro p l e R s m args below meth c H locs ls Z hC hK hl hL hst hM hS hH hz hZ
  refine W.widen hc hs (rt_W_mono ?_ hZ)
  refine W.lret hC.1 hC.2.1 (hC.2.2.2.2.1.trans hr) ?_ hS.2.2 hd hC.2.2.2.2.2.1
  intro t ht _
  exact ⟨⟨some (1, x), z, mem, rfl, h, (fun w q => by cases q; exact rt_okh hst), hM, by rw [ht]; exact hH, by rw [ht]; exact hz⟩, hS.F ht⟩
theorem RT.aret {x : Int} (hd : decode (rt_c M) pc = .ok (.areturn, 1)) {C : String} (hr : rt_r M = some (.object C)) (hc : rt_cells z0 z ≤ rt_mc M) (hs : rt_slots z0 z ≤ rt_ms M) (h : Q (some (2, x)) z mem) : RT G M d z0 Q pc L ([(2, x)]) z mem := by
  intro p l e R s m args below meth c H locs ls Z hC hK hl hL hst hM hS hH hz hZ
  refine W.widen hc hs (rt_W_mono ?_ hZ)
  refine W.aret hC.1 hC.2.1 (hC.2.2.2.2.1.trans hr) (Or.inl ⟨C, rfl⟩) (by show (va_rf (rt_rf G x) = .null ∨ ∃ a, va_rf (rt_rf G x) = .ref a); cases rt_rf G x with | none => exact Or.inl rfl | some q => exact Or.inr ⟨q, rfl⟩) ?_ hS.2.2 hd hC.2.2.2.2.2.1
  intro t ht _
  exact ⟨⟨some (2, x), z, mem, rfl, h, (fun w q => by cases q; exact rt_okh hst), hM, by rw [ht]; exact hH, by rw [ht]; exact hz⟩, hS.F ht⟩
theorem RT.vret (hd : decode (rt_c M) pc = .ok (.return_, 1)) (hr : rt_r M = none) (hc : rt_cells z0 z ≤ rt_mc M) (hs : rt_slots z0 z ≤ rt_ms M) (h : Q (none) z mem) : RT G M d z0 Q pc L ([]) z mem := by
  intro p l e R s m args below meth c H locs ls Z hC hK hl hL hst hM hS hH hz hZ
  refine W.widen hc hs (rt_W_mono ?_ hZ)
  refine W.vret hC.1 hC.2.1 (hC.2.2.2.2.1.trans hr) ?_ hS.2.2 hd hC.2.2.2.2.2.1
  intro t ht _
  exact ⟨⟨none, z, mem, rfl, h, (fun w q => by cases q), hM, by rw [ht]; exact hH, by rw [ht]; exact hz⟩, hS.F ht⟩
end
