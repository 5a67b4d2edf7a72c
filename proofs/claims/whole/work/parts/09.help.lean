/-! what the printed proofs use -/
def rt_it {S E : Type} (b : S → Option (S ⊕ E)) : Nat → S → Option E
  | 0, _ => none
  | n + 1, s => match b s with
    | none => none
    | some (.inl s1) => rt_it b n s1
    | some (.inr e) => some e
theorem rt_it_ind {S E : Type} {b : S → Option (S ⊕ E)} {P : S → Prop} {X : E → Prop} (hb : ∀ s t, b s = some t → (∀ s1, t = .inl s1 → P s1) → (∀ x, t = .inr x → X x) → P s) : ∀ n s e, rt_it b n s = some e → X e → P s
  | 0, s, e, h, _ => by cases h
  | n + 1, s, e, h, hX => by
    unfold rt_it at h
    cases hs : b s with
    | none => rw [hs] at h; cases h
    | some t =>
      rw [hs] at h
      cases t with
      | inl s1 => exact hb s _ hs (fun s2 q => by cases q; exact rt_it_ind hb n s1 e h hX) (fun x q => by cases q)
      | inr x =>
        cases h
        exact hb s _ hs (fun s2 q => by cases q) (fun x2 q => by cases q; exact hX)
def rt_gd {α : Type} (ci : Nat) (x : Int) (o : Option α) : Option α := if rt_kd x.toNat = 20 + ci then o else none
theorem rt_gd_some {α : Type} {ci : Nat} {x : Int} {o : Option α} {t : α} (h : rt_gd ci x o = some t) : rt_kd x.toNat = 20 + ci ∧ o = some t := by
  unfold rt_gd at h
  split at h
  · rename_i q; exact ⟨q, h⟩
  · cases h
theorem rt_bz_ok {v w : Int} (h : rt_bz v = some w) : v = 0 ∨ v = 1 := by
  unfold rt_bz at h
  split at h
  · rename_i q; exact q
  · cases h
theorem rt_cz_ok {v w : Int} (h : rt_cz v = some w) : 0 ≤ v ∧ v < 65536 := by
  unfold rt_cz at h
  split at h
  · rename_i q; exact q
  · cases h
theorem rt_lto {z : Nat × Nat} {k ci : Nat} (hz : 300 ≤ z.1) (h : rt_kd k = 20 + ci) : k < z.1 := Nat.lt_of_lt_of_le (rt_kd_300 (by omega) (by omega)) hz
theorem rt_ltg {z : Nat × Nat} {ci j : Nat} {x v : Int} {mem : rt_M} (hz : 300 ≤ z.1) (h : rt_gf ci j x mem = some v) : x.toNat < z.1 := by
  unfold rt_gf at h
  split at h
  · rename_i q; exact rt_lto hz q
  · cases h
theorem rt_ltp {z : Nat × Nat} {ci j : Nat} {x v : Int} {mem mem1 : rt_M} (hz : 300 ≤ z.1) (h : rt_pf ci j x v mem = some mem1) : x.toNat < z.1 := by
  unfold rt_pf at h
  split at h
  · rename_i q; exact rt_lto hz q
  · cases h
theorem rt_lta {z : Nat × Nat} {tc : Nat} {x i v : Int} {mem : rt_M} (hz : 300 ≤ z.1) (h0 : ¬ tc = 0) (h9 : ¬ tc = 9) (h : rt_al tc x i mem = some v) : x.toNat < z.1 := by
  obtain ⟨q, -⟩ := rt_al_spec h
  exact Nat.lt_of_lt_of_le (rt_kd_300 (by rw [q]; exact h0) (by rw [q]; exact h9)) hz
theorem rt_lts {z : Nat × Nat} {tc : Nat} {x i v : Int} {mem mem1 : rt_M} (hz : 300 ≤ z.1) (h0 : ¬ tc = 0) (h9 : ¬ tc = 9) (h : rt_sa tc x i v mem = some mem1) : x.toNat < z.1 := by
  obtain ⟨q, -⟩ := rt_sa_spec h
  exact Nat.lt_of_lt_of_le (rt_kd_300 (by rw [q]; exact h0) (by rw [q]; exact h9)) hz
theorem rt_ltw {z : Nat × Nat} {x i v : Int} {mem mem1 : rt_M} (hz : 300 ≤ z.1) (h : rt_saw x i v mem = some mem1) : x.toNat < z.1 := by
  unfold rt_saw at h
  split at h
  · exact rt_lts hz (by decide) (by decide) h
  · cases h
theorem rt_ltl {z : Nat × Nat} {tc : Nat} {x v : Int} (hz : 300 ≤ z.1) (h0 : ¬ tc = 0) (h9 : ¬ tc = 9) (h : rt_len tc x = some v) : x.toNat < z.1 := by
  obtain ⟨q, -⟩ := rt_len_spec h
  exact Nat.lt_of_lt_of_le (rt_kd_300 (by rw [q]; exact h0) (by rw [q]; exact h9)) hz
/-- fewer locals spoken of -/
def rt_le (l L : List rt_V) : Prop := ∀ (i : Nat) (v : rt_V), l[i]? = some v → v = (9, 0) ∨ L[i]? = some v
theorem rt_le_n {L : List rt_V} : rt_le [] L := fun i v h => by simp at h
theorem rt_le_s {v : rt_V} {l L : List rt_V} (h : rt_le l L) : rt_le (v :: l) (v :: L) := fun i w hw => by
  cases i with
  | zero => exact Or.inr hw
  | succ i => exact h i w hw
theorem rt_le_j {v : rt_V} {l L : List rt_V} (h : rt_le l L) : rt_le ((9, 0) :: l) (v :: L) := fun i w hw => by
  cases i with
  | zero => cases hw; exact Or.inl rfl
  | succ i => exact h i w hw
section
variable {G : rt_G} {M M' : rt_Mt} {d d' n : Nat} {z0 z : Nat × Nat} {Q : rt_P} {pc idx : Nat} {L st stk As : List rt_V} {mem : rt_M}
theorem RT.wk {L1 : List rt_V} (h : rt_le L1 L) (k : RT G M d z0 Q pc L1 st z mem) : RT G M d z0 Q pc L st z mem := by
  intro p l e R s m args below meth c H locs ls Z hC hK hl hL hst hM hS hH hz hZ
  refine k p l e R s m args below meth c H locs ls Z hC hK ⟨hl.1, hl.2.1, fun q hq => ?_⟩ (fun v hv => ?_) hst hM hS hH hz hZ
  · obtain ⟨v, hv, h3, he⟩ := rt_as_mem.mp hq
    rcases h _ _ hv with rfl | h2
    · exact absurd h3 (by decide)
    · exact hl.2.2 q (rt_as_mem.mpr ⟨v, h2, h3, he⟩)
  · obtain ⟨i, hi⟩ := List.getElem?_of_mem hv
    rcases h i v hi with rfl | h2
    · exact rt_ok9
    · exact hL v (List.mem_of_getElem? h2)
theorem RT.gf (ci j t : Nat) {x v : Int} (hz : 300 ≤ z.1) (hd : decode (rt_c M) pc = .ok (.getfield idx, 3)) (hw : rt_FL (rt_y M).cls idx ci j) (ht : rt_ft ci j = t) (hv : rt_gf ci j x mem = some v) (h : RT G M d z0 Q (pc + 3) L ((t, v) :: st) z mem) : RT G M d z0 Q pc L ((2, x) :: st) z mem := by
  subst ht
  exact RT.getf ci j hd hw (rt_ltg hz hv) hv h
theorem RT.pf_i (ci j : Nat) {x v : Int} {mem1 : rt_M} (hz : 300 ≤ z.1) (hd : decode (rt_c M) pc = .ok (.putfield idx, 3)) (hw : rt_FL (rt_y M).cls idx ci j) (hfin : (rt_T ci j).2.2.2 = false) (hty : rt_ty ci j = .int) (ht : rt_ft ci j = 0) (hv : rt_pf ci j x v mem = some mem1) (h : RT G M d z0 Q (pc + 3) L st z mem1) : RT G M d z0 Q pc L ((0, v) :: (2, x) :: st) z mem :=
  RT.putf ci j hd hw hfin ht (fun G => by rw [hty]; rfl) (fun G => by rw [hty]; rfl) (rt_ltp hz hv) hv h
theorem RT.pf_l (ci j : Nat) {x v : Int} {mem1 : rt_M} (hz : 300 ≤ z.1) (hd : decode (rt_c M) pc = .ok (.putfield idx, 3)) (hw : rt_FL (rt_y M).cls idx ci j) (hfin : (rt_T ci j).2.2.2 = false) (hty : rt_ty ci j = .long) (ht : rt_ft ci j = 1) (hv : rt_pf ci j x v mem = some mem1) (h : RT G M d z0 Q (pc + 3) L st z mem1) : RT G M d z0 Q pc L ((1, v) :: (2, x) :: st) z mem :=
  RT.putf ci j hd hw hfin ht (fun G => by rw [hty]; rfl) (fun G => by rw [hty]; rfl) (rt_ltp hz hv) hv h
theorem RT.pf_z (ci j : Nat) {x v : Int} {mem1 : rt_M} (hz : 300 ≤ z.1) (hd : decode (rt_c M) pc = .ok (.putfield idx, 3)) (hw : rt_FL (rt_y M).cls idx ci j) (hfin : (rt_T ci j).2.2.2 = false) (hty : rt_ty ci j = .boolean) (ht : rt_ft ci j = 0) (hb : v = 0 ∨ v = 1) (hv : rt_pf ci j x v mem = some mem1) (h : RT G M d z0 Q (pc + 3) L st z mem1) : RT G M d z0 Q pc L ((0, v) :: (2, x) :: st) z mem :=
  RT.putf ci j hd hw hfin ht (fun G => by rw [hty]; rcases hb with rfl | rfl <;> rfl) (fun G => by rw [hty]; rcases hb with rfl | rfl <;> rfl) (rt_ltp hz hv) hv h
theorem RT.pf_r (ci j : Nat) {C : String} {x v : Int} {mem1 : rt_M} (hz : 300 ≤ z.1) (hd : decode (rt_c M) pc = .ok (.putfield idx, 3)) (hw : rt_FL (rt_y M).cls idx ci j) (hfin : (rt_T ci j).2.2.2 = false) (hty : rt_ty ci j = .object C) (ht : rt_ft ci j = 2) (hv : rt_pf ci j x v mem = some mem1) (h : RT G M d z0 Q (pc + 3) L st z mem1) : RT G M d z0 Q pc L ((2, v) :: (2, x) :: st) z mem :=
  RT.putf ci j hd hw hfin ht (fun G => by rw [hty]; show narrow (.object C) (va_rf (rt_rf G v)) = va_rf (rt_rf G v); cases rt_rf G v <;> rfl) (fun G => by rw [hty]; show fits (.object C) (va_rf (rt_rf G v)) = true; cases rt_rf G v <;> rfl) (rt_ltp hz hv) hv h
/-- calls of methods that make nothing, from methods that make nothing -/
theorem RT.cVz {ci : Nat} {x : Int} {r : Option rt_V} {mem1 : rt_M} (hz : 300 ≤ z.1) (hd : decode (rt_c M) pc = .ok (.invokevirtual idx, 3)) (hw : rt_Mw M' n) (hl0 : rt_Ml (rt_y M).cls idx M') (hi : Cond.instanceMethod (rt_y M') ∈ rt_mG ∧ Cond.selects (rt_R ci) (rt_y M') (rt_y M') ∈ rt_mG ∧ rt_CL ci ∧ (rt_y M').cls = rt_R ci ∧ rt_mc M' = 0 ∧ rt_ms M' = 0) (hkd : rt_kd x.toNat = 20 + ci)
    (hstk : stk = As.reverse ++ (2, x) :: st) (hlen : As.length = n) (hloc : (rt_ent ((2, x) :: As)).length ≤ rt_n M') (hcap : (st.map (fun v => if v.1 = 1 then 2 else 1)).sum ≤ 8) (hdd : d' + 1 ≤ d) (hcm : rt_mc M = 0) (hsm : rt_ms M = 0)
    (hc : RM G M' d' ((2, x) :: As) z mem r mem1) (k : RT G M d z Q (pc + 3) L (r.toList ++ st) z mem1) : RT G M d z Q pc L stk z mem :=
  RT.cV hd hw hl0 hi hkd (rt_lto hz hkd) hstk hlen hloc hcap hdd (by rw [rt_cells_0]; exact Nat.zero_le _) (by rw [rt_slots_0]; exact Nat.zero_le _) hc k
theorem RT.cSz {r : Option rt_V} {mem1 : rt_M} (hd : decode (rt_c M) pc = .ok (.invokestatic idx, 3)) (hw : rt_Mw M' n) (hl0 : rt_Ml (rt_y M).cls idx M') (hi : Cond.static (rt_y M') ∈ rt_mG ∧ rt_mc M' = 0 ∧ rt_ms M' = 0)
    (hstk : stk = As.reverse ++ st) (hlen : As.length = n) (hloc : (rt_ent As).length ≤ rt_n M') (hcap : (st.map (fun v => if v.1 = 1 then 2 else 1)).sum ≤ 8) (hdd : d' + 1 ≤ d) (hcm : rt_mc M = 0) (hsm : rt_ms M = 0)
    (hc : RM G M' d' As z mem r mem1) (k : RT G M d z Q (pc + 3) L (r.toList ++ st) z mem1) : RT G M d z Q pc L stk z mem :=
  RT.cS hd hw hl0 hi hstk hlen hloc hcap hdd (by rw [rt_cells_0]; exact Nat.zero_le _) (by rw [rt_slots_0]; exact Nat.zero_le _) hc k
end
theorem rt_inG {w : Cond} (h : w ∈ lw_tbl) (hg : goodWord w = true) : w ∈ rt_mG := List.mem_filter.mpr ⟨h, hg⟩
theorem rt_inN {w : Cond} (h : w ∈ lw_tbl) (hg : rt_nest w = true) : w ∈ rt_mN := List.mem_filter.mpr ⟨h, hg⟩
theorem rt_t0 {w : Cond} (n : Nat) (h : (k2_sels lw_privs)[n]? = some w) : w ∈ lw_tbl := List.mem_append_left _ (List.mem_of_getElem? h)
theorem rt_t1 {w : Cond} (n : Nat) (h : tables_1_1[n]? = some w) : w ∈ lw_tbl := List.mem_append_right _ (show w ∈ tables_1_1 ++ (tables_1_2 ++ (tables_1_3 ++ (tables_1_4 ++ (tables_1_5 ++ (tables_1_6 ++ (tables_1_7 ++ tables_1_8)))))) from List.mem_append_left _ (List.mem_of_getElem? h))
theorem rt_t2 {w : Cond} (n : Nat) (h : tables_1_2[n]? = some w) : w ∈ lw_tbl := List.mem_append_right _ (show w ∈ tables_1_1 ++ (tables_1_2 ++ (tables_1_3 ++ (tables_1_4 ++ (tables_1_5 ++ (tables_1_6 ++ (tables_1_7 ++ tables_1_8)))))) from List.mem_append_right _ (List.mem_append_left _ (List.mem_of_getElem? h)))
theorem rt_t3 {w : Cond} (n : Nat) (h : tables_1_3[n]? = some w) : w ∈ lw_tbl := List.mem_append_right _ (show w ∈ tables_1_1 ++ (tables_1_2 ++ (tables_1_3 ++ (tables_1_4 ++ (tables_1_5 ++ (tables_1_6 ++ (tables_1_7 ++ tables_1_8)))))) from List.mem_append_right _ (List.mem_append_right _ (List.mem_append_left _ (List.mem_of_getElem? h))))
theorem rt_t4 {w : Cond} (n : Nat) (h : tables_1_4[n]? = some w) : w ∈ lw_tbl := List.mem_append_right _ (show w ∈ tables_1_1 ++ (tables_1_2 ++ (tables_1_3 ++ (tables_1_4 ++ (tables_1_5 ++ (tables_1_6 ++ (tables_1_7 ++ tables_1_8)))))) from List.mem_append_right _ (List.mem_append_right _ (List.mem_append_right _ (List.mem_append_left _ (List.mem_of_getElem? h)))))
theorem rt_t5 {w : Cond} (n : Nat) (h : tables_1_5[n]? = some w) : w ∈ lw_tbl := List.mem_append_right _ (show w ∈ tables_1_1 ++ (tables_1_2 ++ (tables_1_3 ++ (tables_1_4 ++ (tables_1_5 ++ (tables_1_6 ++ (tables_1_7 ++ tables_1_8)))))) from List.mem_append_right _ (List.mem_append_right _ (List.mem_append_right _ (List.mem_append_right _ (List.mem_append_left _ (List.mem_of_getElem? h))))))
theorem rt_t6 {w : Cond} (n : Nat) (h : tables_1_6[n]? = some w) : w ∈ lw_tbl := List.mem_append_right _ (show w ∈ tables_1_1 ++ (tables_1_2 ++ (tables_1_3 ++ (tables_1_4 ++ (tables_1_5 ++ (tables_1_6 ++ (tables_1_7 ++ tables_1_8)))))) from List.mem_append_right _ (List.mem_append_right _ (List.mem_append_right _ (List.mem_append_right _ (List.mem_append_right _ (List.mem_append_left _ (List.mem_of_getElem? h)))))))
theorem rt_t7 {w : Cond} (n : Nat) (h : tables_1_7[n]? = some w) : w ∈ lw_tbl := List.mem_append_right _ (show w ∈ tables_1_1 ++ (tables_1_2 ++ (tables_1_3 ++ (tables_1_4 ++ (tables_1_5 ++ (tables_1_6 ++ (tables_1_7 ++ tables_1_8)))))) from List.mem_append_right _ (List.mem_append_right _ (List.mem_append_right _ (List.mem_append_right _ (List.mem_append_right _ (List.mem_append_right _ (List.mem_append_left _ (List.mem_of_getElem? h))))))))
theorem rt_t8 {w : Cond} (n : Nat) (h : tables_1_8[n]? = some w) : w ∈ lw_tbl := List.mem_append_right _ (show w ∈ tables_1_1 ++ (tables_1_2 ++ (tables_1_3 ++ (tables_1_4 ++ (tables_1_5 ++ (tables_1_6 ++ (tables_1_7 ++ tables_1_8)))))) from List.mem_append_right _ (List.mem_append_right _ (List.mem_append_right _ (List.mem_append_right _ (List.mem_append_right _ (List.mem_append_right _ (List.mem_append_right _ (List.mem_of_getElem? h))))))))
