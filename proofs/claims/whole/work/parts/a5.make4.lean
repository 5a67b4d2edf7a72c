/-! Layer 4: constructors: rules -/
def rt_gu (M : rt_Mt) (k0 k k' : Nat) : Prop := 41 ≤ k0 ∧ k0 ≤ k ∧ rt_cells (k0, 0) (k', 0) ≤ rt_mc M ∧ rt_slots (k0, 0) (k', 0) ≤ rt_ms M
/-- a row is made; an object; rows of rows; a method's making -/
def rt_na (M : rt_Mt) (k0 tc n k : Nat) (mem : rt_M) : Option (Nat × rt_M) := if rt_sh k = (tc, n) ∧ 41 ≤ k0 ∧ k0 ≤ k ∧ rt_cells (k0, 0) (k + 1, 0) ≤ rt_mc M ∧ rt_slots (k0, 0) (k + 1, 0) ≤ rt_ms M then some (k + 1, rt_mk mem k (fun _ => if 5 ≤ tc ∧ tc ≤ 8 then -1 else 0)) else none
def rt_no (M : rt_Mt) (k0 ci k : Nat) (mem : rt_M) : Option (Nat × rt_M) := if rt_kd k = 20 + ci ∧ 41 ≤ k0 ∧ k0 ≤ k ∧ rt_cells (k0, 0) (k + 1, 0) ≤ rt_mc M ∧ rt_slots (k0, 0) (k + 1, 0) ≤ rt_ms M then some (k + 1, rt_mk mem k (fun j => rt_df (rt_ft ci j))) else none
def rt_nm (M : rt_Mt) (k0 n r k : Nat) (mem : rt_M) : Option (Nat × rt_M) := if rt_sh k = (6, n) ∧ (List.range n).all (fun j => rt_sh (k + 1 + j) == (1, r)) = true ∧ r ≤ 1000 ∧ 0 < n ∧ 41 ≤ k0 ∧ k0 ≤ k ∧ rt_cells (k0, 0) (k + 1 + n, 0) ≤ rt_mc M ∧ rt_slots (k0, 0) (k + 1 + n, 0) ≤ rt_ms M then some (k + 1 + n, rt_mr mem k n) else none
def rt_gc (M M' : rt_Mt) (k0 k : Nat) (p : Nat × rt_M) : Option (Nat × rt_M) := if k ≤ p.1 ∧ rt_cells (k0, 0) (k, 0) + rt_mc M' ≤ rt_mc M ∧ rt_slots (k0, 0) (k, 0) + rt_ms M' ≤ rt_ms M ∧ rt_cells (k0, 0) (k, 0) + rt_mc M' ≤ rt_cells (k0, 0) (p.1, 0) ∧ rt_slots (k0, 0) (k, 0) + rt_ms M' ≤ rt_slots (k0, 0) (p.1, 0) then some p else none
def rt_ge (M : rt_Mt) (k0 : Nat) (p : Nat × rt_M) : Option (Nat × rt_M) := if rt_cells (k0, 0) (p.1, 0) ≤ rt_mc M ∧ rt_slots (k0, 0) (p.1, 0) ≤ rt_ms M then some p else none
section
variable {G : rt_G} {M M' : rt_Mt} {d d' n k0 k : Nat} {Q Q' : rt_P} {pc idx : Nat} {L st stk As : List rt_V} {mem : rt_M} {z0 z : Nat × Nat} {t : Nat × rt_M}
theorem rt_na_lt {tc : Nat} (h : rt_na M k0 tc n k mem = some t) : k < t.1 := by
  unfold rt_na at h
  split at h
  · cases h; exact Nat.lt_succ_self k
  · cases h
theorem rt_no_lt {ci : Nat} (h : rt_no M k0 ci k mem = some t) : k < t.1 := by
  unfold rt_no at h
  split at h
  · cases h; exact Nat.lt_succ_self k
  · cases h
theorem rt_no_kd {ci : Nat} (h : rt_no M k0 ci k mem = some t) : rt_kd ((k : Nat) : Int).toNat = 20 + ci := by
  unfold rt_no at h
  split at h
  · rename_i q; rw [Int.toNat_natCast]; exact q.1
  · cases h
theorem rt_nm_lt {r : Nat} (h : rt_nm M k0 n r k mem = some t) : k < t.1 := by
  unfold rt_nm at h
  split at h
  · cases h; show k < k + 1 + n; omega
  · cases h
theorem rt_gc_le {p : Nat × rt_M} (h : rt_gc M M' k0 k p = some t) : k ≤ t.1 := by
  unfold rt_gc at h
  split at h
  · rename_i q; cases h; exact q.1
  · cases h
theorem RT.na (tc : Nat) {at' : ArrayType} (hd : decode (rt_c M) pc = .ok (.newarray at', 2)) (hty : newarray.typeOf at' = rt_aty tc) (harr : Cond.arrayClass (rt_aty tc) ∈ rt_mG) (htc : 1 ≤ tc ∧ tc ≤ 4 ∨ tc = 9) (hv : rt_na M k0 tc n k mem = some t) (h : RT G M d (k0, 0) Q (pc + 2) L ((2, (k : Int)) :: st) (t.1, 0) t.2) : RT G M d (k0, 0) Q pc L ((0, (n : Int)) :: st) (k, 0) mem := by
  unfold rt_na at hv
  split at hv
  · rename_i q
    cases hv
    refine RT.newa tc hd hty harr htc q.1 q.2.1 q.2.2.1 q.2.2.2.1 q.2.2.2.2 ?_
    have e : (fun _ : Nat => (if 5 ≤ tc ∧ tc ≤ 8 then (-1 : Int) else 0)) = (fun _ => 0) := funext fun _ => if_neg (by omega)
    rw [e] at h
    exact h
  · cases hv
theorem RT.nr (tc : Nat) {C : String} (hd : decode (rt_c M) pc = .ok (.anewarray idx, 3)) (hty : rt_aty tc = .object C) (hcl : Cond.classLink (rt_y M).cls idx C ∈ rt_mG) (hov : Cond.arrayOver (.object C) ∈ rt_mN) (htc : 5 ≤ tc ∧ tc ≤ 8) (hv : rt_na M k0 tc n k mem = some t) (h : RT G M d (k0, 0) Q (pc + 3) L ((2, (k : Int)) :: st) (t.1, 0) t.2) : RT G M d (k0, 0) Q pc L ((0, (n : Int)) :: st) (k, 0) mem := by
  unfold rt_na at hv
  split at hv
  · rename_i q
    cases hv
    refine RT.newr tc hd hty hcl hov htc q.1 q.2.1 q.2.2.1 q.2.2.2.1 q.2.2.2.2 ?_
    have e : (fun _ : Nat => (if 5 ≤ tc ∧ tc ≤ 8 then (-1 : Int) else 0)) = (fun _ => -1) := funext fun _ => if_pos htc
    first | exact h | (rw [e] at h; exact h)
  · cases hv
theorem RT.no (ci : Nat) (hd : decode (rt_c M) pc = .ok (.new idx, 3)) (hcl : Cond.classLink (rt_y M).cls idx (rt_R ci) ∈ rt_mG) (hin : Cond.instantiable (rt_R ci) (rt_N ci) ∈ rt_mG) (hini : Cond.initialized (rt_R ci) ∈ rt_mG) (hCL : rt_CL ci) (hff : ∀ j, rt_ty ci j ≠ .float ∧ rt_ty ci j ≠ .double) (hv : rt_no M k0 ci k mem = some t) (h : RT G M d (k0, 0) Q (pc + 3) L ((2, (k : Int)) :: st) (t.1, 0) t.2) : RT G M d (k0, 0) Q pc L st (k, 0) mem := by
  unfold rt_no at hv
  split at hv
  · rename_i q
    cases hv
    exact RT.newo ci hd hcl hin hini hCL hff q.1 q.2.1 q.2.2.1 q.2.2.2.1 q.2.2.2.2 h
  · cases hv
theorem RT.nm {r : Nat} (hd : decode (rt_c M) pc = .ok (.multianewarray idx 2, 4)) (hcl : Cond.classLink (rt_y M).cls idx "[[I" ∈ rt_mG) (hov : Cond.arrayOver (.array .int) ∈ rt_mN) (harr : Cond.arrayClass .int ∈ rt_mG) (hv : rt_nm M k0 n r k mem = some t) (h : RT G M d (k0, 0) Q (pc + 4) L ((2, (k : Int)) :: st) (t.1, 0) t.2) : RT G M d (k0, 0) Q pc L ((0, (r : Int)) :: (0, (n : Int)) :: st) (k, 0) mem := by
  unfold rt_nm at hv
  split at hv
  · rename_i q
    cases hv
    obtain ⟨q1, q2, q3, q4, q5, q6, q7, q8⟩ := q
    refine RT.multi hd hcl hov harr q1 (fun j hj => ?_) q3 q4 q5 q6 q7 q8 h
    have := List.all_eq_true.mp q2 j (List.mem_range.mpr hj)
    exact eq_of_beq this
  · cases hv
/-- Object's own constructor -/
theorem RT.objI {x : Int} (hd : decode (rt_c M) pc = .ok (.invokespecial idx, 3)) (hl0 : Cond.methodLink (rt_y M).cls idx Lib.objectInit ∈ rt_mG) (hi : Cond.instanceMethod Lib.objectInit ∈ rt_mG) (hco : Cond.code Lib.objectInit ⟨#[0xb1]⟩ 1 none ∈ rt_mG) (hge : 41 ≤ x.toNat) (hd1 : 1 ≤ d) (hcap : (st.map (fun v => if v.1 = 1 then 2 else 1)).sum ≤ 8) (h : RT G M d z0 Q (pc + 3) L st z mem) : RT G M d z0 Q pc L ((2, x) :: st) z mem := by
  intro p l e R s m args below meth c H locs ls Z hC hK hl hL hst hM hS hH hz hZ
  have hts := hC.2.2.2.2.2.2.2.1
  have hRf := hC.2.2.2.2.2.2.2.2.1
  have hRl := hC.2.2.2.2.2.2.2.2.2.1
  have hcw : ((st.map (rt_tv G)).map fun v => v.category).sum ≤ 8 := by rw [rt_capl]; exact hcap
  have hroom : 2 * (F0 m pc ls (.ref (rt_ad G x.toNat) :: st.map (rt_tv G))).monitorRoom + ((st.map (rt_tv G)).map fun v => v.category).sum ≤ 8 := lv_room hcw
  rw [List.map_cons, rt_tv_r hge]
  refine W.objInit hC.1 hC.2.1 hC.2.2.2.1 (hts _ hl0) (hts _ hi) (hts _ hco) (g := F0 m pc ls (.ref (rt_ad G x.toNat) :: st.map (rt_tv G))) rfl (hl.1.trans hC.2.2.1.symm) rfl hd (by omega) (by omega) ?_
  exact h p l e R s m args below meth c H locs ls Z hC hK hl hL (rt_okt hst) hM hS hH hz hZ
end
