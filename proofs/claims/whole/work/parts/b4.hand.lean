/-! Layer 4: the judgement of a body with handlers; its rules, in part printed by program (wip/whole/genrx.py) -/
def RTh (G : rt_G) (M : rt_Mt) (d : Nat) (z0 : Nat × Nat) (Q : rt_P) (hh : List (Nat × Nat × Nat × Nat)) (pc : Nat) (L st : List rt_V) (z : Nat × Nat) (mem : rt_M) : Prop :=
  ∀ (p : Program) (l : Launch) (e : Env) (R : Room) (s : State) (m : MethodId) (args : Array Value) (below : List Frame) (meth : Method) (c : Code) (H : Heap) (locs : List Loc) (ls : Array Slot) (Z : State → Prop),
    rt_C M d p l R s m args meth c → rt_K G s → lv_has ls (rt_n M) (rt_as G L) → (∀ v ∈ L, rt_ok v) → (∀ v ∈ st, rt_ok v) → rt_okM mem → va_S (rt_A G) s.heap H locs → rt_HR G z.1 mem H → rt_HS G z H →
    (c.exceptionTable.toList = tableOf hh ∧ ∀ t, MQ below (rt_Qc G Q) args s (rt_mc M) (rt_ms M) (rt_A G) t → Z t) →
    W p l e R s m args below meth c H locs (rt_cells z0 z) (rt_slots z0 z) Z (F0 m pc ls (st.map (rt_tv G)))
theorem rx_cast : Cond.castable "java/util/NoSuchElementException" "java/util/NoSuchElementException" ∈ rt_mN := (rt_inN (rt_t5 87 (by decide +kernel)) rfl)
theorem rx_k13 : Cond.classLink RL 13 "java/util/NoSuchElementException" ∈ rt_mG := (rt_inG (rt_t5 80 (by decide +kernel)) rfl)
theorem rx_as0 {G : rt_G} {n : Nat} : rt_as G (List.replicate n (9, 0)) = [] := by
  refine List.eq_nil_iff_forall_not_mem.mpr (fun q hq => ?_)
  obtain ⟨v, hv, h3, -⟩ := rt_as_mem.mp hq
  have := (List.mem_replicate.mp (List.mem_of_getElem? hv)).2
  rw [this] at h3
  exact absurd h3 (by decide)
section
variable {G : rt_G} {M M' : rt_Mt} {d d' n : Nat} {z0 z : Nat × Nat} {Q Q' : rt_P} {X' : Nat × Nat → rt_M → Prop} {hh : List (Nat × Nat × Nat × Nat)} {pc idx : Nat} {L st stk As : List rt_V} {mem : rt_M}
theorem RTh.iconst {n : Int} (hd : decode (rt_c M) pc = .ok (.iconst n, 1)) (hn : -2147483648 ≤ n ∧ n < 2147483648) (h : RTh G M d z0 Q hh (pc + 1) L ((0, n) :: st) z mem) : RTh G M d z0 Q hh pc L (st) z mem := by
  intro p l e R s m args below meth c H locs ls Z hC hK hl hL hst hM hS hH hz hZ
  exact lv_iconst hC.1 hC.2.1 hd rfl (h p l e R s m args below meth c H locs ls Z hC hK hl hL (rt_okc hn hst) hM hS hH hz hZ)
theorem RTh.iload_n {k : Fin 4} {x : Int} (hd : decode (rt_c M) pc = .ok (.iload_n k, 1)) (hx : L[(k : Nat)]? = some (0, x)) (h : RTh G M d z0 Q hh (pc + 1) L ((0, x) :: st) z mem) : RTh G M d z0 Q hh pc L (st) z mem := by
  intro p l e R s m args below meth c H locs ls Z hC hK hl hL hst hM hS hH hz hZ
  exact lv_iload_n hC.1 hC.2.1 hd rfl (rt_as_at hl hx (by show (0 : Nat) < 3; decide)) (h p l e R s m args below meth c H locs ls Z hC hK hl hL (rt_okc (hL _ (List.mem_of_getElem? hx)) hst) hM hS hH hz hZ)
theorem RTh.iload {k : Nat} {x : Int} (hd : decode (rt_c M) pc = .ok (.iload k, 2)) (hx : L[k]? = some (0, x)) (h : RTh G M d z0 Q hh (pc + 2) L ((0, x) :: st) z mem) : RTh G M d z0 Q hh pc L (st) z mem := by
  intro p l e R s m args below meth c H locs ls Z hC hK hl hL hst hM hS hH hz hZ
  exact lv_iload hC.1 hC.2.1 hd (rt_as_at hl hx (by show (0 : Nat) < 3; decide)) (h p l e R s m args below meth c H locs ls Z hC hK hl hL (rt_okc (hL _ (List.mem_of_getElem? hx)) hst) hM hS hH hz hZ)
theorem RTh.aload_n {k : Fin 4} {x : Int} (hd : decode (rt_c M) pc = .ok (.aload_n k, 1)) (hx : L[(k : Nat)]? = some (2, x)) (h : RTh G M d z0 Q hh (pc + 1) L ((2, x) :: st) z mem) : RTh G M d z0 Q hh pc L (st) z mem := by
  intro p l e R s m args below meth c H locs ls Z hC hK hl hL hst hM hS hH hz hZ
  have a := rt_as_at hl hx (by show (2 : Nat) < 3; decide)
  have k2 := h p l e R s m args below meth c H locs ls Z hC hK hl hL (rt_okc (hL _ (List.mem_of_getElem? hx)) hst) hM hS hH hz hZ
  rw [List.map_cons] at k2
  change ls[(k : Nat)]? = some (.val (va_rf (rt_rf G x))) at a
  change W p l e R s m args below meth c H locs _ _ Z (F0 m (pc + 1) ls (va_rf (rt_rf G x) :: _)) at k2
  cases hr : rt_rf G x with
  | none => rw [hr] at a k2; exact lv_aload_nN hC.1 hC.2.1 hd rfl a k2
  | some q => rw [hr] at a k2; exact lv_aload_n hC.1 hC.2.1 hd rfl a k2
theorem RTh.aload {k : Nat} {x : Int} (hd : decode (rt_c M) pc = .ok (.aload k, 2)) (hx : L[k]? = some (2, x)) (h : RTh G M d z0 Q hh (pc + 2) L ((2, x) :: st) z mem) : RTh G M d z0 Q hh pc L (st) z mem := by
  intro p l e R s m args below meth c H locs ls Z hC hK hl hL hst hM hS hH hz hZ
  have a := rt_as_at hl hx (by show (2 : Nat) < 3; decide)
  have k2 := h p l e R s m args below meth c H locs ls Z hC hK hl hL (rt_okc (hL _ (List.mem_of_getElem? hx)) hst) hM hS hH hz hZ
  rw [List.map_cons] at k2
  change ls[k]? = some (.val (va_rf (rt_rf G x))) at a
  change W p l e R s m args below meth c H locs _ _ Z (F0 m (pc + 2) ls (va_rf (rt_rf G x) :: _)) at k2
  cases hr : rt_rf G x with
  | none => rw [hr] at a k2; exact lv_aloadN hC.1 hC.2.1 hd a k2
  | some q => rw [hr] at a k2; exact lv_aload hC.1 hC.2.1 hd a k2
set_option maxHeartbeats 1000000 in
/-- an instance method of ours that may throw, called under a handler for what it throws -/
theorem RTh.callX {ci e1 hp j : Nat} {x : Int} (hh1 : hh = [(0, e1, hp, 13)]) (hpc : pc < e1) (hRL : (rt_y M).cls = RL) (hd : decode (rt_c M) pc = .ok (.invokevirtual idx, 3)) (hast : decode (rt_c M) hp = .ok (.astore j, 2)) (hj : j < rt_n M) (hw : rt_Mw M' n) (hpn : plainName (rt_y M').cls = true) (hl0 : Cond.methodLink (rt_y M).cls idx (rt_y M') ∈ rt_mG) (hi : Cond.instanceMethod (rt_y M') ∈ rt_mG) (hse : Cond.selects (rt_R ci) (rt_y M') (rt_y M') ∈ rt_mG) (hci : rt_CL ci) (hRc : (rt_y M').cls = rt_R ci) (hkd : rt_kd x.toNat = 20 + ci) (hn : x.toNat < z.1)
    (hstk : stk = As.reverse ++ (2, x) :: st) (hlen : As.length = n) (hloc : (rt_ent ((2, x) :: As)).length ≤ rt_n M') (hcap : (st.map (fun v => if v.1 = 1 then 2 else 1)).sum ≤ 8) (hdd : d' + 1 ≤ d) (hcm : rt_cells z0 z + rt_mc M' ≤ rt_mc M) (hsm : rt_slots z0 z + rt_ms M' ≤ rt_ms M)
    (hc : RTx G M' d' z Q' X' 0 (rt_entry (rt_n M') ((2, x) :: As)) [] z mem)
    (k : ∀ v z' mem', Q' v z' mem' → RT G M d z0 Q (pc + 3) L (v.toList ++ st) (z'.1, z'.2 + 1) mem' ∧ rt_cells z0 z + rt_mc M' ≤ rt_cells z0 (z'.1, z'.2 + 1) ∧ rt_slots z0 z + rt_ms M' ≤ rt_slots z0 (z'.1, z'.2 + 1))
    (kx : ∀ z' mem', X' z' mem' → RT G M d z0 Q (hp + 2) (List.replicate (rt_n M) (9, 0)) [] z' mem' ∧ rt_cells z0 z + rt_mc M' ≤ rt_cells z0 z' ∧ rt_slots z0 z + rt_ms M' ≤ rt_slots z0 z') : RTh G M d z0 Q hh pc L stk z mem := by
  subst hstk
  intro p l e R s m args below meth c H locs ls Z hC hK hl hL hst hM hS hH hz hZ
  obtain ⟨hx, hb, hml, hown, hret, hlk, hnm, hts, hRf, hRl, hRc2, hRs, hstt⟩ := id hC
  have hge := rt_kd_ge (k := x.toNat) (by omega)
  have hokA : ∀ v ∈ (2, x) :: As, rt_ok v := fun v hv => hst v (by
    rcases List.mem_cons.mp hv with rfl | h
    · exact List.mem_append_right _ List.mem_cons_self
    · exact List.mem_append_left _ (List.mem_reverse.mpr h))
  have hMet := rtx_met l hstt hw hpn hloc hc
  obtain ⟨cell, q1, q2, q3, q4⟩ := rt_obj (hH _ hge hn) hkd
  obtain ⟨-, hfc, kC, hkC, hkind⟩ := hK.1 ci _ hci.1
  have hp0 : PreV s H (rt_R ci) (rt_ad G x.toNat) (rt_Pc G ((2, x) :: As) z mem) (As.map (rt_tv G)) :=
    ⟨rt_blind, ⟨cell, q1, by rw [q3]; rfl, by rw [q2]; exact hfc⟩, fun U hU hW => ⟨by rw [List.map_cons, rt_tv_r hge], rt_K_moved hK hS hU hW, hM, by rw [hU]; exact hH, by rw [hU]; exact hz, hokA⟩⟩
  have hfit : rt_cells z0 z + rt_mc M' ≤ R.cells ∧ rt_slots z0 z + rt_ms M' ≤ R.slots := ⟨Nat.le_trans hcm hRc2, Nat.le_trans hsm hRs⟩
  have hcw : ((st.map (rt_tv G)).map fun v => v.category).sum ≤ 8 := by rw [rt_capl]; exact hcap
  have hn21 := hw.2.2.2.2
  have hroom : (rt_rm M' d').frames + 1 ≤ R.frames ∧ 8 + (rt_n M' + 11) + (rt_rm M' d').locals ≤ R.locals := ⟨Nat.le_trans hdd hRf, by show 8 + (rt_n M' + 11) + 40 * d' ≤ R.locals; omega⟩
  have hstk2 : ((As.reverse ++ (2, x) :: st).map (rt_tv G)) = (As.map (rt_tv G)).reverse ++ .ref (rt_ad G x.toNat) :: st.map (rt_tv G) := by rw [List.map_append, List.map_reverse, List.map_cons, rt_tv_r hge]
  have hrun : vx_Run p l e R s m args below meth c H locs (rt_cells z0 z) (rt_slots z0 z) (rt_mc M') (rt_ms M') (F0 m pc ls ((As.map (rt_tv G)).reverse ++ .ref (rt_ad G x.toNat) :: st.map (rt_tv G))) (st.map (rt_tv G)) (rt_Qc G Q' (Value.ref (rt_ad G x.toNat) :: As.map (rt_tv G)).toArray) (rx_XC G X') (rt_A G) :=
    vx_runV ⟨hx, hb, hml, hown, hts⟩ hMet ⟨callB_of n hts (rt_GoodIn hw.1) rfl rfl rfl (hts _ hw.2.1) (hts _ hl0) hw.2.2.2.1 hroom, hts _ hi, hts _ hse⟩ hp0 rfl (by rw [List.length_map]; exact hlen) hl.1 rfl (lv_room hcw) hd hfit
  rw [hstk2]
  intro T hT X
  rcases hrun T hT X with ⟨v, st₀, t, T', LL, h0, X', hLL, e1', e2', ⟨⟨r, z', mem', hv, hq, hok, hM1, hH1, hz1⟩, hF⟩, sts⟩ | ⟨q, st₀, t, T', LL, E, ce, h0, X', hLL, e1', e2', ⟨hE, ⟨z', mem', hq, hM1, hH1, hz1⟩, hF⟩, hce, hcv, hcl, sts⟩
  · cases hv
    obtain ⟨hf1, hf2⟩ := hF
    rw [h0] at hf1 hf2
    have hS1 : va_S (rt_A G) s.heap T'.heap (locs ++ LL) := ⟨Nat.le_trans hS.1 (by rw [e1']; exact hf1), fun q h1 h2 => by rw [e1', hf2 q (Nat.lt_of_lt_of_le h1 hS.1) h2]; exact hS.2.1 q h1 h2, fun q hq => by
      rcases List.mem_append.mp hq with h | h
      · exact hS.2.2 q h
      · exact hLL q h⟩
    have hokst : ∀ w ∈ r.toList ++ st, rt_ok w := fun w hw => by
      rcases List.mem_append.mp hw with h | h
      · cases r with
        | none => cases h
        | some y => rcases List.mem_cons.mp h with rfl | h
                    · exact hok _ rfl
                    · cases h
      · exact hst w (List.mem_append_right _ (List.mem_cons_of_mem _ h))
    obtain ⟨k1, u1, u2⟩ := k r z' mem' hq
    have kk := k1 p l e R s m args below meth c T'.heap (locs ++ LL) ls Z hC hK hl hL hokst hM1 hS1 (by rw [e1']; exact hH1) ⟨by rw [e1']; exact hz1.1, fun q => by cases q⟩ hZ.2
    have e9 : (r.toList ++ st).map (rt_tv G) = (r.map (rt_tv G)).toList ++ st.map (rt_tv G) := by cases r <;> simp
    rw [e9] at kk
    obtain ⟨t2, a1, b1⟩ := (W.widen u1 u2 kk) T' rfl X'
    exact ⟨t2, sts t2 a1, b1⟩
  · subst hE
    obtain ⟨hf1, hf2⟩ := hF
    rw [h0] at hf1 hf2
    have hS1 : va_S (rt_A G) s.heap T'.heap (locs ++ LL) := ⟨Nat.le_trans hS.1 (by rw [e1']; exact hf1), fun q h1 h2 => by rw [e1', hf2 q (Nat.lt_of_lt_of_le h1 hS.1) h2]; exact hS.2.1 q h1 h2, fun q hq => by
      rcases List.mem_append.mp hq with h | h
      · exact hS.2.2 q h
      · exact hLL q h⟩
    obtain ⟨k1, u1, u2⟩ := kx z' mem' hq
    have hW : vx_W p l e R s m args below meth c T'.heap (locs ++ LL) (rt_cells z0 z + rt_mc M') (rt_slots z0 z + rt_ms M') Z (F0 m pc ls (st.map (rt_tv G))) q := by
      refine vx_catch (own := RL) (name := "java/util/NoSuchElementException") (E := "java/util/NoSuchElementException") (ce := ce) (by rw [← hRL]; exact hown) [] ⟨0, e1, hp, 13⟩ [] (by rw [hZ.1, hh1]; rfl) (fun z hz => by cases hz) ?_ (show (13 : Nat) ≠ 0 by decide) (hts _ rx_k13) (va_Nw.use rfl (hK.2.2.2.1 _ rx_cast)) (by rw [e1']; exact hce) hcv hcl ?_
      · show (decide (0 ≤ pc) && decide (pc < e1)) = true
        rw [decide_eq_true (Nat.zero_le pc), decide_eq_true hpc]; rfl
      · refine W.widen u1 u2 (lv_astore hC.1 hC.2.1 hast hl hj rfl (fun ls' hl' => ?_))
        refine k1 p l e R s m args below meth c T'.heap (locs ++ LL) ls' Z hC hK ⟨hl'.1, hl'.2.1, fun q hq => ?_⟩ (fun v hv => ?_) (fun v hv => by cases hv) hM1 hS1 (by rw [e1']; exact hH1) (by rw [e1']; exact hz1) hZ.2
        · rw [rx_as0] at hq; cases hq
        · rw [(List.mem_replicate.mp hv).2]; exact rt_ok9
    obtain ⟨t2, a1, b1⟩ := hW T' rfl X'
    exact ⟨t2, sts.trans a1, b1⟩
end
/-- the words of a method with handlers -/
def rx_ws (M : rt_Mt) (hh : List (Nat × Nat × Nat × Nat)) : List Cond := Cond.codeWith (rt_y M) (rt_c M) (rt_n M) (rt_r M) hh :: rt_mG
def rx_Mw (M : rt_Mt) (hh : List (Nat × Nat × Nat × Nat)) (n : Nat) : Prop := Cond.codeWith (rt_y M) (rt_c M) (rt_n M) (rt_r M) hh ∈ rt_mG ∧ Cond.initialized (rt_y M).cls ∈ rt_mG ∧ plainName (rt_y M).cls = true ∧ ((rt_y M).cls ≠ "java/lang/invoke/MethodHandle" ∧ (rt_y M).cls ≠ "java/lang/invoke/VarHandle" ∧ (parseMethodDescriptor (rt_y M).desc).map (fun d => d.parameters.length) = some n) ∧ rt_n M ≤ 21
theorem rx_ofWH {l : Launch} {y : MethodName} {ws ws' : List Cond} {rm : Room} {Pc : Array Value → State → Prop} {Qc : Array Value → State → Outcome → State → Prop} {mc ms : Nat} {free : Addr → Prop} {cc : ByteArray} {maxL : Nat} {ret : Option FieldType} {hh : List (Nat × Nat × Nat × Nat)}
    (hy : plainName y.cls = true) (hw : ws = Cond.codeWith y cc maxL ret hh :: ws')
    (body : ∀ p e s m args below meth c s₁, BodyLoose p l y (headSpec ws rm) cc maxL ret e s m args below meth c s₁ → c.maxLocals = maxL → Pc args s →
      W p l e (headSpec ws rm).room s m args below meth c s.heap [] 0 0 (MQ below Qc args s mc ms free) (entryFrame m args maxL)) : Met l y ws rm Pc Qc mc ms free := by
  refine MetFree.of_bodyS (code := cc) (maxLocals := maxL) (ret := ret) hy ?_ ?_
  · intro args s m h hn
    obtain ⟨m9, meth, c, hn9, h1, h2, h3, h4, -, h5, h6, -⟩ := Cond.codeWith_spec (atoms_spec (ws := ws) h _ (by rw [hw]; exact List.mem_cons_self))
    cases hn.symm.trans hn9
    exact ⟨meth, c, h1, h2, h3, h4, h5, h6⟩
  · intro p e s m args below meth c s₁ B hml hP _
    have hh0 : s₁.heap = s.heap := by rw [B.state]; rfl
    obtain ⟨t, a1, o, b1, b2, b3⟩ := body p e s m args below meth c s₁ B hml hP s₁ hh0 (Stand.of_body B)
    exact ⟨t, o, a1, b1, b2, ⟨b3.1, b3.2⟩⟩
theorem rth_met {G : rt_G} {M : rt_Mt} {d n : Nat} {As : List rt_V} {z : Nat × Nat} {mem : rt_M} {Q : rt_P} {hh : List (Nat × Nat × Nat × Nat)} (l : Launch) (hstt : l.stackTraces = false) (hw : rx_Mw M hh n) (hlen : (rt_ent As).length ≤ rt_n M) (h : RTh G M d z Q hh 0 (rt_entry (rt_n M) As) [] z mem) : Met l (rt_y M) (rx_ws M hh) (rt_rm M d) (rt_Pc G As z mem) (rt_Qc G Q) (rt_mc M) (rt_ms M) (rt_A G) := by
  refine rx_ofWH (cc := rt_c M) (maxL := rt_n M) (ret := rt_r M) (hh := hh) hw.2.2.1 rfl ?_
  intro p e s m args below meth c s₁ B hml hv
  obtain ⟨rfl, hK, hM, hH, hz, hok⟩ := hv
  have hts := atoms_spec (ws := rx_ws M hh) B.pre
  rw [lg_entry_eq]
  have k := h p l e (headSpec (rx_ws M hh) (rt_rm M d)).room s m _ below meth c s.heap [] _ _ ⟨B.exec, B.bytes, hml, findClass_of_methodNamed B.named, B.returns, B.notSynchronized, (name_of_methodNamed B.named B.method).1, fun w hw => hts w (List.mem_cons_of_mem _ hw), Nat.le_refl _, Nat.le_refl _, Nat.le_refl _, Nat.le_refl _, hstt⟩ hK (rt_entry_has hlen) (rt_entry_ok hok) (fun v h => by cases h) hM va_S.rf hH hz ⟨vx_table (x := rt_y M) B (hts _ List.mem_cons_self), fun t h => h⟩
  rw [rt_cells_0, rt_slots_0] at k
  exact k
section
variable {G : rt_G} {M M' : rt_Mt} {d d' n : Nat} {z0 z : Nat × Nat} {Q Q' : rt_P} {hh : List (Nat × Nat × Nat × Nat)} {pc idx : Nat} {L st stk As : List rt_V} {mem : rt_M}
/-- a static method with handlers -/
theorem RT.callSW (hd : decode (rt_c M) pc = .ok (.invokestatic idx, 3)) (hw : rx_Mw M' hh n) (hl0 : Cond.methodLink (rt_y M).cls idx (rt_y M') ∈ rt_mG) (hi : Cond.static (rt_y M') ∈ rt_mG)
    (hstk : stk = As.reverse ++ st) (hlen : As.length = n) (hloc : (rt_ent As).length ≤ rt_n M') (hcap : (st.map (fun v => if v.1 = 1 then 2 else 1)).sum ≤ 8) (hdd : d' + 1 ≤ d) (hcm : rt_cells z0 z + rt_mc M' ≤ rt_mc M) (hsm : rt_slots z0 z + rt_ms M' ≤ rt_ms M)
    (hc : RTh G M' d' z Q' hh 0 (rt_entry (rt_n M') As) [] z mem)
    (k : ∀ v z' mem', Q' v z' mem' → RT G M d z0 Q (pc + 3) L (v.toList ++ st) z' mem' ∧ rt_cells z0 z + rt_mc M' ≤ rt_cells z0 z' ∧ rt_slots z0 z + rt_ms M' ≤ rt_slots z0 z') : RT G M d z0 Q pc L stk z mem := by
  subst hstk
  intro p l e R s m args below meth c H locs ls Z hC hK hl hL hst hM hS hH hz hZ
  obtain ⟨hx, hb, hml, hown, hret, hlk, hnm, hts, hRf, hRl, hRc2, hRs, hstt⟩ := id hC
  have hokA : ∀ v ∈ As, rt_ok v := fun v hv => hst v (List.mem_append_left _ (List.mem_reverse.mpr hv))
  have hMet := rth_met l hstt hw hloc hc
  have hp : PreS s H (rt_Pc G As z mem) (As.map (rt_tv G)) := ⟨rt_blind, fun U hU hW => ⟨rfl, rt_K_moved hK hS hU hW, hM, by rw [hU]; exact hH, by rw [hU]; exact hz, hokA⟩⟩
  have hfit : rt_cells z0 z + rt_mc M' ≤ R.cells ∧ rt_slots z0 z + rt_ms M' ≤ R.slots := ⟨Nat.le_trans hcm hRc2, Nat.le_trans hsm hRs⟩
  have hcw : ((st.map (rt_tv G)).map fun v => v.category).sum ≤ 8 := by rw [rt_capl]; exact hcap
  have hn21 := hw.2.2.2.2
  have hroom : (rt_rm M' d').frames + 1 ≤ R.frames ∧ 8 + (rt_n M' + 11) + (rt_rm M' d').locals ≤ R.locals := ⟨Nat.le_trans hdd hRf, by show 8 + (rt_n M' + 11) + 40 * d' ≤ R.locals; omega⟩
  have hstk2 : ((As.reverse ++ st).map (rt_tv G)) = (As.map (rt_tv G)).reverse ++ st.map (rt_tv G) := by rw [List.map_append, List.map_reverse]
  have hGI : GoodIn rt_mG (va_wsS (rt_y M).cls idx (rt_y M') (rx_ws M' hh)) := fun w hw1 => by
    have hm : w ∈ rt_mG := by
      rcases List.mem_append.mp hw1 with h | h
      · rcases List.mem_cons.mp h with rfl | h
        · exact hl0
        · rcases List.mem_cons.mp h with rfl | h
          · exact hi
          · rcases List.mem_cons.mp h with rfl | h
            · exact hw.2.1
            · cases h
      · rcases List.mem_cons.mp h with rfl | h
        · exact hw.1
        · exact h
    exact ⟨hm, good_of_word (rt_mG_good hm)⟩
  have hrun : va_Run p l e R s m args below meth c H locs (rt_cells z0 z) (rt_slots z0 z) (rt_mc M') (rt_ms M') (F0 m pc ls ((As.map (rt_tv G)).reverse ++ st.map (rt_tv G))) (st.map (rt_tv G)) (rt_Qc G Q' (As.map (rt_tv G)).toArray) (rt_A G) :=
    vx_runSW ⟨hx, hb, hml, hown, hts⟩ hMet (vx_cwSW n hts hGI rfl rfl rfl hw.2.2.2.1 hroom) hp rfl (by rw [List.length_map]; exact hlen) hl.1 rfl (lv_room hcw) hd hfit
  rw [hstk2]
  refine rt_call hrun hS (fun v z' mem' H1 locs1 hq hok1 hM1 hH1 hz1 hS1 => ?_)
  obtain ⟨k1, u1, u2⟩ := k v z' mem' hq
  have hokst : ∀ w ∈ v.toList ++ st, rt_ok w := fun w hw => by
    rcases List.mem_append.mp hw with h | h
    · cases v with
      | none => cases h
      | some y => rcases List.mem_cons.mp h with rfl | h
                  · exact hok1 _ rfl
                  · cases h
    · exact hst w (List.mem_append_right _ h)
  have kk := k1 p l e R s m args below meth c H1 locs1 ls Z hC hK hl hL hokst hM1 hS1 hH1 hz1 hZ
  have e9 : (v.toList ++ st).map (rt_tv G) = (v.map (rt_tv G)).toList ++ st.map (rt_tv G) := by cases v <;> simp
  rw [e9] at kk
  exact W.widen u1 u2 kk
end
