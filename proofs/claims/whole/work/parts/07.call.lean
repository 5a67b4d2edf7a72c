/-! calls -/
def rt_ent : List rt_V → List rt_V
  | [] => []
  | v :: vs => if v.1 = 1 then v :: (9, 0) :: rt_ent vs else v :: rt_ent vs
def rt_entry (n : Nat) (As : List rt_V) : List rt_V := rt_ent As ++ List.replicate (n - (rt_ent As).length) (9, 0)
theorem rt_ent_args (G : rt_G) : ∀ (As : List rt_V) (k i : Nat) (v : rt_V), (rt_ent As)[i]? = some v → v.1 < 3 → (k + i, rt_tv G v) ∈ lv_args k (As.map (rt_tv G))
  | [], k, i, v, h, _ => by simp [rt_ent] at h
  | w :: vs, k, i, v, h, h3 => by
    unfold rt_ent at h
    rw [List.map_cons]
    show _ ∈ (k, rt_tv G w) :: lv_args (if (rt_tv G w).category = 2 then k + 2 else k + 1) (vs.map (rt_tv G))
    by_cases hw : w.1 = 1
    · rw [if_pos hw] at h
      have hc : (rt_tv G w).category = 2 := by rw [rt_cat, if_pos hw]
      rw [if_pos hc]
      match i, h with
      | 0, h => cases h; exact List.mem_cons_self
      | 1, h => cases h; exact absurd h3 (by decide)
      | i + 2, h => exact List.mem_cons_of_mem _ (by have := rt_ent_args G vs (k + 2) i v h h3; rw [show k + 2 + i = k + (i + 2) by omega] at this; exact this)
    · rw [if_neg hw] at h
      have hc : ¬ (rt_tv G w).category = 2 := by rw [rt_cat, if_neg hw]; decide
      rw [if_neg hc]
      match i, h with
      | 0, h => cases h; exact List.mem_cons_self
      | i + 1, h => exact List.mem_cons_of_mem _ (by have := rt_ent_args G vs (k + 1) i v h h3; rw [show k + 1 + i = k + (i + 1) by omega] at this; exact this)
theorem rt_ent_len (G : rt_G) : ∀ (As : List rt_V), (lg_sl (As.map (rt_tv G))).length = (rt_ent As).length
  | [] => rfl
  | w :: vs => by
    have ih := rt_ent_len G vs
    unfold lg_sl at ih ⊢
    rw [List.map_cons, List.flatMap_cons, List.length_append, ih, rt_cat]
    rw [show rt_ent (w :: vs) = (if w.1 = 1 then w :: (9, 0) :: rt_ent vs else w :: rt_ent vs) from rfl]
    by_cases hw : w.1 = 1
    · simp [hw]; omega
    · simp [hw]; omega
theorem rt_ent_ok : ∀ (As : List rt_V), (∀ v ∈ As, rt_ok v) → ∀ v ∈ rt_ent As, rt_ok v
  | [], _, v, h => by simp [rt_ent] at h
  | w :: vs, hA, v, h => by
    unfold rt_ent at h
    split at h
    · rcases List.mem_cons.mp h with rfl | h
      · exact rt_okh hA
      · rcases List.mem_cons.mp h with rfl | h
        · exact rt_ok9
        · exact rt_ent_ok vs (rt_okt hA) v h
    · rcases List.mem_cons.mp h with rfl | h
      · exact rt_okh hA
      · exact rt_ent_ok vs (rt_okt hA) v h
theorem rt_entry_ok {n : Nat} {As : List rt_V} (hA : ∀ v ∈ As, rt_ok v) : ∀ v ∈ rt_entry n As, rt_ok v := fun v h => by
  rcases List.mem_append.mp h with h | h
  · exact rt_ent_ok As hA v h
  · rw [(List.mem_replicate.mp h).2]; exact rt_ok9
theorem rt_entry_has {G : rt_G} {n : Nat} {As : List rt_V} (h : (rt_ent As).length ≤ n) : lv_has ((lg_sl (As.map (rt_tv G)) ++ List.replicate (n - (lg_sl (As.map (rt_tv G))).length) Slot.unset).toArray) n (rt_as G (rt_entry n As)) := by
  have hl := lv_entry (As.map (rt_tv G)) (n := n) (by rw [rt_ent_len]; exact h)
  refine ⟨hl.1, hl.2.1, fun q hq => hl.2.2 q ?_⟩
  obtain ⟨v, hv, h3, he⟩ := rt_as_mem.mp hq
  unfold rt_entry at hv
  by_cases hi : q.1 < (rt_ent As).length
  · rw [List.getElem?_append_left hi] at hv
    have := rt_ent_args G As 0 q.1 v hv h3
    rw [Nat.zero_add, ← he] at this
    exact this
  · rw [List.getElem?_append_right (by omega), List.getElem?_replicate] at hv
    split at hv
    · cases hv; exact absurd h3 (by decide)
    · cases hv
/-- a method's words -/
def rt_Mw (M : rt_Mt) (n : Nat) : Prop := Cond.code (rt_y M) (rt_c M) (rt_n M) (rt_r M) ∈ rt_mG ∧ Cond.initialized (rt_y M).cls ∈ rt_mG ∧ plainFor (rt_y M) = true ∧ ((rt_y M).cls ≠ "java/lang/invoke/MethodHandle" ∧ (rt_y M).cls ≠ "java/lang/invoke/VarHandle" ∧ (parseMethodDescriptor (rt_y M).desc).map (fun d => d.parameters.length) = some n) ∧ rt_n M ≤ 21
def rt_Ml (own : String) (idx : Nat) (M : rt_Mt) : Prop := Cond.methodLink own idx (rt_y M) ∈ rt_mG ∨ ∃ host, Cond.methodLinkNest own idx (rt_y M) host ∈ rt_mN
def rt_ws (M : rt_Mt) : List Cond := Cond.code (rt_y M) (rt_c M) (rt_n M) (rt_r M) :: rt_mG
def rt_rm (M : rt_Mt) (d : Nat) : Room := { frames := d, cells := rt_mc M, slots := rt_ms M, locals := 40 * d }
theorem rt_mG_good {w : Cond} (h : w ∈ rt_mG) : goodWord w = true := (List.mem_filter.mp h).2
theorem rt_GoodIn {M : rt_Mt} (h : Cond.code (rt_y M) (rt_c M) (rt_n M) (rt_r M) ∈ rt_mG) : GoodIn rt_mG (rt_ws M) := fun w hw => by
  rcases List.mem_cons.mp hw with rfl | hw
  · exact ⟨h, good_of_word (rt_mG_good h)⟩
  · exact ⟨hw, good_of_word (rt_mG_good hw)⟩
def rt_Pc (G : rt_G) (As : List rt_V) (z : Nat × Nat) (mem : rt_M) : Array Value → State → Prop := fun a U =>
  a = (As.map (rt_tv G)).toArray ∧ rt_K G U ∧ rt_okM mem ∧ rt_HR G z.1 mem U.heap ∧ rt_HS G z U.heap ∧ (∀ v ∈ As, rt_ok v)
theorem rt_ao {s U : State} (al : s.vm.Alike U.vm) {ty : FieldType} (h : va_Nw (.arrayOver ty) s) : va_Nw (.arrayOver ty) U := by
  have e : (Cond.arrayOver ty).before #[] U = (Cond.arrayOver ty).before #[] s := by
    simp only [Cond.before, Cond.holds, Cond.value, al.findClass]
    congr 1
    congr 1
    funext comp
    have e1 : (U.vm.classes.findIdx? fun (x : Class) => match x.kind with | .array component _ => component == comp | _ => false) = (s.vm.classes.findIdx? fun (x : Class) => match x.kind with | .array component _ => component == comp | _ => false) := by
      have a := va_idx_bare U.vm comp
      have b := va_idx_bare s.vm comp
      rw [show U.vm.bare = s.vm.bare from by first | exact al.bare_eq | exact al.bare_eq.symm] at a
      exact a.symm.trans b
    refine (congrArg (fun o : Option Nat => o.bind _) e1).trans ?_
    congr 1
    funext c
    exact al.class_map _ (fun k r _ _ => rfl) c
  exact e.trans h
theorem rt_mN_nest {w : Cond} (h : w ∈ rt_mN) : rt_nest w = true := (List.mem_filter.mp h).2
/-- the tables and what was there before, at another state of the same run -/
theorem rt_K_moved {G : rt_G} {s U : State} {H : Heap} {locs : List Loc} (hK : rt_K G s) (hS : va_S (rt_A G) s.heap H locs) (hU : U.heap = H) (hW : s.WarmedH U.vm) : rt_K G U := by
  obtain ⟨k1, k2, k3, k4, k5, k6, k7, k8, k9, k10, k11, k12, k13, k14⟩ := hK
  have al := hW.alike
  have kp : ∀ a : Nat, a < s.heap.size → ¬ rt_A G a → H[a]? = s.heap[a]? := fun a h1 h2 => hS.2.1 a h1 h2
  refine ⟨fun c q h => u_Kn_moved al (k1 c q h), fun tc h1 h2 => arrOfT_moved al (k2 tc h1 h2), fun tc h1 h2 => ?_, fun w hw => ?_, fun i hi => ?_, ?_, k7, k8, ?_, ?_, fun tc h1 h2 => by rw [al.findClass]; exact k11 tc h1 h2, fun q hq => ?_, by rw [hU]; exact (k13.moved al).kept kp, by rw [hU]; exact (k14.moved al).kept kp⟩
  · obtain ⟨kA, comp, a1, a2, a3, kc, a4⟩ := k3 tc h1 h2
    obtain ⟨k', hk', he⟩ := al.2.2 _ _ a1
    obtain ⟨k2', hk2', -⟩ := al.2.2 _ _ a4
    exact ⟨k', comp, hk', by rw [he]; exact a2, fun C h => by rw [al.findClass]; exact a3 C h, k2', hk2'⟩
  · have hn := rt_mN_nest hw
    have h0 := k4 w hw
    cases w <;> first | exact va_Nw.warmF hW h0 | exact va_Nw.warmM hW h0 | exact va_Nw.warmC hW h0 | exact va_Nw.warmD hW h0 | exact rt_ao al h0 | exact absurd hn Bool.false_ne_true
  · obtain ⟨a1, a2, a3, a4⟩ := k5 i hi
    rw [hU]
    exact ⟨(va_Z.moved al a1).kept kp, (va_O.moved al a2).kept kp, (va_OF.moved al a3).kept kp, (va_OF.moved al a4).kept kp⟩
  · rw [hU]
    exact ⟨(va_Z.moved al k6.1).kept kp, (va_T.moved al k6.2).kept kp⟩
  · rw [hU]; exact Nat.le_trans k9 hS.1
  · rw [hU]; exact (k10.moved al).kept (by obtain ⟨scr, q, -⟩ := k10; exact kp _ (Array.getElem?_eq_some_iff.mp q).1 (Nat.not_le.mpr (k8 40 (by decide))))
  · obtain ⟨sa, h⟩ := k12 q hq
    exact ⟨sa, h.warm hW⟩
theorem rt_blind {G : rt_G} {As : List rt_V} {z : Nat × Nat} {mem : rt_M} : FrameBlind (rt_Pc G As z mem) := fun a U g mk h => by
  obtain ⟨h1, h2, h3, h4, h5, h6⟩ := h
  exact ⟨h1, rt_K_moved h2 va_S.rf rfl (State.WarmedH.refl U), h3, h4, h5, h6⟩
/-- called with As from mem the method returns r and leaves mem1 -/
def RM (G : rt_G) (M : rt_Mt) (d : Nat) (As : List rt_V) (z : Nat × Nat) (mem : rt_M) (r : Option rt_V) (mem1 : rt_M) : Prop :=
  RT G M d z (fun v z' m' => z' = z ∧ v = r ∧ m' = mem1) 0 (rt_entry (rt_n M) As) [] z mem
theorem rt_cells_0 (z : Nat × Nat) : rt_cells z z = 0 := by simp [rt_cells]
theorem rt_slots_0 (z : Nat × Nat) : rt_slots z z = 0 := by simp [rt_slots]
theorem rt_ofW {l : Launch} {y : MethodName} {ws ws' : List Cond} {rm : Room} {Pc : Array Value → State → Prop} {Qc : Array Value → State → Outcome → State → Prop} {mc ms : Nat} {free : Addr → Prop} {cc : ByteArray} {maxL : Nat} {ret : Option FieldType}
    (hy : plainFor y = true) (hw : ws = Cond.code y cc maxL ret :: ws')
    (body : ∀ p e s m args below meth c s₁, BodyLoose p l y (headSpec ws rm) cc maxL ret e s m args below meth c s₁ → c.maxLocals = maxL → Pc args s →
      W p l e (headSpec ws rm).room s m args below meth c s.heap [] 0 0 (MQ below Qc args s mc ms free) (entryFrame m args maxL)) : Met l y ws rm Pc Qc mc ms free := by
  refine MetFree.of_bodySF (code := cc) (maxLocals := maxL) (ret := ret) hy ?_ ?_
  · intro args s m h hn
    obtain ⟨meth, c, h1, h2, h3, h4, h5, h6, -, -⟩ := Cond.code_spec hn (atoms_spec (ws := ws) h _ (by rw [hw]; exact List.mem_cons_self))
    exact ⟨meth, c, h1, h2, h3, h4, h5, h6⟩
  · intro p e s m args below meth c s₁ B hml hP _
    have hh0 : s₁.heap = s.heap := by rw [B.state]; rfl
    obtain ⟨t, a1, o, b1, b2, b3⟩ := body p e s m args below meth c s₁ B hml hP s₁ hh0 (Stand.of_body B)
    exact ⟨t, o, a1, b1, b2, ⟨b3.1, b3.2⟩⟩
theorem rt_met {G : rt_G} {M : rt_Mt} {d n : Nat} {As : List rt_V} {z : Nat × Nat} {mem : rt_M} {Q : rt_P} (l : Launch) (hstt : l.stackTraces = false) (hw : rt_Mw M n) (hlen : (rt_ent As).length ≤ rt_n M) (h : RT G M d z Q 0 (rt_entry (rt_n M) As) [] z mem) : Met l (rt_y M) (rt_ws M) (rt_rm M d) (rt_Pc G As z mem) (rt_Qc G Q) (rt_mc M) (rt_ms M) (rt_A G) := by
  refine rt_ofW (cc := rt_c M) (maxL := rt_n M) (ret := rt_r M) hw.2.2.1 rfl ?_
  intro p e s m args below meth c s₁ B hml hv
  obtain ⟨rfl, hK, hM, hH, hz, hok⟩ := hv
  have hts := atoms_spec (ws := rt_ws M) B.pre
  rw [lg_entry_eq]
  have k := h p l e (headSpec (rt_ws M) (rt_rm M d)).room s m _ below meth c s.heap [] _ _ ⟨B.exec, B.bytes, hml, findClass_of_methodNamed B.named, B.returns, B.notSynchronized, (name_of_methodNamed B.named B.method).1, fun w hw => hts w (List.mem_cons_of_mem _ hw), Nat.le_refl _, Nat.le_refl _, Nat.le_refl _, Nat.le_refl _, hstt⟩ hK (rt_entry_has hlen) (rt_entry_ok hok) (fun v h => by cases h) hM va_S.rf hH hz (fun t h => h)
  rw [rt_cells_0, rt_slots_0] at k
  exact k
section
variable {p : Program} {l : Launch} {e : Env} {R : Room} {s : State} {m : MethodId} {args : Array Value} {below : List Frame} {meth : Method} {c : Code} {H : Heap} {locs : List Loc} {cells slots mc ms : Nat} {Z : State → Prop}
theorem rt_call {G : rt_G} {Q : rt_P} {a : Array Value} {pc : Nat} {ls : Array Slot} {st0 rest : List Value} (hr : va_Run p l e R s m args below meth c H locs cells slots mc ms (F0 m pc ls st0) rest (rt_Qc G Q a) (rt_A G)) (hS : va_S (rt_A G) s.heap H locs)
    (kk : ∀ (v : Option rt_V) (z : Nat × Nat) (mem : rt_M) (H1 : Heap) (locs1 : List Loc), Q v z mem → (∀ w, v = some w → rt_ok w) → rt_okM mem → rt_HR G z.1 mem H1 → rt_HS G z H1 → va_S (rt_A G) s.heap H1 locs1 → W p l e R s m args below meth c H1 locs1 (cells + mc) (slots + ms) Z (F0 m (pc + 3) ls ((v.map (rt_tv G)).toList ++ rest))) : W p l e R s m args below meth c H locs cells slots Z (F0 m pc ls st0) := by
  intro T hT X
  obtain ⟨v, st₀, t, T', LL, h0, X', hLL, e1, e2, ⟨⟨r, z, mem, hv, hq, hok, hM, hH, hz⟩, hF⟩, st⟩ := hr T hT X
  cases hv
  obtain ⟨hf1, hf2⟩ := hF
  rw [h0] at hf1 hf2
  obtain ⟨t2, a1, b1⟩ := kk r z mem T'.heap (locs ++ LL) hq hok hM (by rw [e1]; exact hH) (by rw [e1]; exact hz)
    ⟨Nat.le_trans hS.1 (by rw [e1]; exact hf1), fun q h1 h2 => by rw [e1, hf2 q (Nat.lt_of_lt_of_le h1 hS.1) h2]; exact hS.2.1 q h1 h2, fun q hq => by
      rcases List.mem_append.mp hq with h | h
      · exact hS.2.2 q h
      · exact hLL q h⟩ T' rfl X'
  exact ⟨t2, st t2 a1, b1⟩
end
theorem rt_capl (G : rt_G) (st : List rt_V) : ((st.map (rt_tv G)).map fun v => v.category).sum = (st.map (fun v => if v.1 = 1 then 2 else 1)).sum := by
  rw [List.map_map]
  congr 1
  apply List.map_congr_left
  intro v _
  exact rt_cat G v
section
variable {G : rt_G} {M M' : rt_Mt} {d d' n : Nat} {z0 z : Nat × Nat} {Q Q' : rt_P} {pc idx : Nat} {L st stk As : List rt_V} {mem : rt_M}
/-- an instance method of an object of ours -/
theorem RT.callV {ci : Nat} {x : Int} (hd : decode (rt_c M) pc = .ok (.invokevirtual idx, 3)) (hw : rt_Mw M' n) (hl0 : rt_Ml (rt_y M).cls idx M') (hi : Cond.instanceMethod (rt_y M') ∈ rt_mG) (hse : Cond.selects (rt_R ci) (rt_y M') (rt_y M') ∈ rt_mG) (hci : rt_CL ci) (hRc : (rt_y M').cls = rt_R ci) (hkd : rt_kd x.toNat = 20 + ci) (hn : x.toNat < z.1)
    (hstk : stk = As.reverse ++ (2, x) :: st) (hlen : As.length = n) (hloc : (rt_ent ((2, x) :: As)).length ≤ rt_n M') (hcap : (st.map (fun v => if v.1 = 1 then 2 else 1)).sum ≤ 8) (hdd : d' + 1 ≤ d) (hcm : rt_cells z0 z + rt_mc M' ≤ rt_mc M) (hsm : rt_slots z0 z + rt_ms M' ≤ rt_ms M)
    (hc : RT G M' d' z Q' 0 (rt_entry (rt_n M') ((2, x) :: As)) [] z mem) (hz' : ∀ v z' mem', Q' v z' mem' → rt_cells z0 z + rt_mc M' ≤ rt_cells z0 z' ∧ rt_slots z0 z + rt_ms M' ≤ rt_slots z0 z')
    (k : ∀ v z' mem', Q' v z' mem' → RT G M d z0 Q (pc + 3) L (v.toList ++ st) z' mem') : RT G M d z0 Q pc L stk z mem := by
  subst hstk
  intro p l e R s m args below meth c H locs ls Z hC hK hl hL hst hM hS hH hz hZ
  obtain ⟨hx, hb, hml, hown, hret, hlk, hnm, hts, hRf, hRl, hRc2, hRs, hstt⟩ := id hC
  have hge := rt_kd_ge (k := x.toNat) (by omega)
  have hokA : ∀ v ∈ (2, x) :: As, rt_ok v := fun v hv => hst v (by
    rcases List.mem_cons.mp hv with rfl | h
    · exact List.mem_append_right _ List.mem_cons_self
    · exact List.mem_append_left _ (List.mem_reverse.mpr h))
  have hMet := rt_met l hstt hw hloc hc
  obtain ⟨cell, q1, q2, q3, q4⟩ := rt_obj (hH _ hge hn) hkd
  obtain ⟨-, hfc, kC, hkC, hkind⟩ := hK.1 ci _ hci.1
  have hp : PreV s H (rt_R ci) (rt_ad G x.toNat) (rt_Pc G ((2, x) :: As) z mem) (As.map (rt_tv G)) :=
    ⟨rt_blind, ⟨cell, q1, by rw [q3]; rfl, by rw [q2]; exact hfc⟩, fun U hU hW => ⟨by rw [List.map_cons, rt_tv_r hge], rt_K_moved hK hS hU hW, hM, by rw [hU]; exact hH, by rw [hU]; exact hz, hokA⟩⟩
  have hfit : rt_cells z0 z + rt_mc M' ≤ R.cells ∧ rt_slots z0 z + rt_ms M' ≤ R.slots := ⟨Nat.le_trans hcm hRc2, Nat.le_trans hsm hRs⟩
  have hcw : ((st.map (rt_tv G)).map fun v => v.category).sum ≤ 8 := by rw [rt_capl]; exact hcap
  have hn21 := hw.2.2.2.2
  have hroom : (rt_rm M' d').frames + 1 ≤ R.frames ∧ 8 + (rt_n M' + 11) + (rt_rm M' d').locals ≤ R.locals := ⟨Nat.le_trans hdd hRf, by show 8 + (rt_n M' + 11) + 40 * d' ≤ R.locals; omega⟩
  have hstk2 : ((As.reverse ++ (2, x) :: st).map (rt_tv G)) = (As.map (rt_tv G)).reverse ++ .ref (rt_ad G x.toNat) :: st.map (rt_tv G) := by rw [List.map_append, List.map_reverse, List.map_cons, rt_tv_r hge]
  have hrun : va_Run p l e R s m args below meth c H locs (rt_cells z0 z) (rt_slots z0 z) (rt_mc M') (rt_ms M') (F0 m pc ls ((As.map (rt_tv G)).reverse ++ .ref (rt_ad G x.toNat) :: st.map (rt_tv G))) (st.map (rt_tv G)) (rt_Qc G Q' (Value.ref (rt_ad G x.toNat) :: As.map (rt_tv G)).toArray) (rt_A G) := by
    rcases hl0 with h0 | ⟨host, h0⟩
    · exact va_runV ⟨hx, hb, hml, hown, hts⟩ hMet ⟨callB_of n hts (rt_GoodIn hw.1) rfl rfl rfl (hts _ hw.2.1) (hts _ h0) hw.2.2.2.1 hroom, hts _ hi, hts _ hse⟩ hp rfl (by rw [List.length_map]; exact hlen) hl.1 rfl (lv_room hcw) hd hfit
    · exact va_runVN ⟨hx, hb, hml, hown, hts⟩ hMet ⟨va_cnB n hts (rt_GoodIn hw.1) rfl rfl rfl (hK.2.2.2.1 _ h0) (hts _ hw.2.1) hw.2.2.2.1 hroom, hts _ hi, hts _ hse⟩ hp rfl (by rw [List.length_map]; exact hlen) hl.1 rfl (lv_room hcw) hd hfit
  rw [hstk2]
  refine rt_call hrun hS (fun v z' mem' H1 locs1 hq hok1 hM1 hH1 hz1 hS1 => ?_)
  obtain ⟨u1, u2⟩ := hz' v z' mem' hq
  have hokst : ∀ w ∈ v.toList ++ st, rt_ok w := fun w hw => by
    rcases List.mem_append.mp hw with h | h
    · cases v with
      | none => cases h
      | some y => rcases List.mem_cons.mp h with rfl | h
                  · exact hok1 _ rfl
                  · cases h
    · exact hst w (List.mem_append_right _ (List.mem_cons_of_mem _ h))
  have kk := k v z' mem' hq p l e R s m args below meth c H1 locs1 ls Z hC hK hl hL hokst hM1 hS1 hH1 hz1 hZ
  have e9 : (v.toList ++ st).map (rt_tv G) = (v.map (rt_tv G)).toList ++ st.map (rt_tv G) := by cases v <;> simp
  rw [e9] at kk
  exact W.widen u1 u2 kk
/-- a static method -/
theorem RT.callS (hd : decode (rt_c M) pc = .ok (.invokestatic idx, 3)) (hw : rt_Mw M' n) (hl0 : rt_Ml (rt_y M).cls idx M') (hi : Cond.static (rt_y M') ∈ rt_mG)
    (hstk : stk = As.reverse ++ st) (hlen : As.length = n) (hloc : (rt_ent As).length ≤ rt_n M') (hcap : (st.map (fun v => if v.1 = 1 then 2 else 1)).sum ≤ 8) (hdd : d' + 1 ≤ d) (hcm : rt_cells z0 z + rt_mc M' ≤ rt_mc M) (hsm : rt_slots z0 z + rt_ms M' ≤ rt_ms M)
    (hc : RT G M' d' z Q' 0 (rt_entry (rt_n M') As) [] z mem) (hz' : ∀ v z' mem', Q' v z' mem' → rt_cells z0 z + rt_mc M' ≤ rt_cells z0 z' ∧ rt_slots z0 z + rt_ms M' ≤ rt_slots z0 z')
    (k : ∀ v z' mem', Q' v z' mem' → RT G M d z0 Q (pc + 3) L (v.toList ++ st) z' mem') : RT G M d z0 Q pc L stk z mem := by
  subst hstk
  intro p l e R s m args below meth c H locs ls Z hC hK hl hL hst hM hS hH hz hZ
  obtain ⟨hx, hb, hml, hown, hret, hlk, hnm, hts, hRf, hRl, hRc2, hRs, hstt⟩ := id hC
  have hokA : ∀ v ∈ As, rt_ok v := fun v hv => hst v (List.mem_append_left _ (List.mem_reverse.mpr hv))
  have hMet := rt_met l hstt hw hloc hc
  have hp : PreS s H (rt_Pc G As z mem) (As.map (rt_tv G)) := ⟨rt_blind, fun U hU hW => ⟨rfl, rt_K_moved hK hS hU hW, hM, by rw [hU]; exact hH, by rw [hU]; exact hz, hokA⟩⟩
  have hfit : rt_cells z0 z + rt_mc M' ≤ R.cells ∧ rt_slots z0 z + rt_ms M' ≤ R.slots := ⟨Nat.le_trans hcm hRc2, Nat.le_trans hsm hRs⟩
  have hcw : ((st.map (rt_tv G)).map fun v => v.category).sum ≤ 8 := by rw [rt_capl]; exact hcap
  have hn21 := hw.2.2.2.2
  have hroom : (rt_rm M' d').frames + 1 ≤ R.frames ∧ 8 + (rt_n M' + 11) + (rt_rm M' d').locals ≤ R.locals := ⟨Nat.le_trans hdd hRf, by show 8 + (rt_n M' + 11) + 40 * d' ≤ R.locals; omega⟩
  have hstk2 : ((As.reverse ++ st).map (rt_tv G)) = (As.map (rt_tv G)).reverse ++ st.map (rt_tv G) := by rw [List.map_append, List.map_reverse]
  have hrun : va_Run p l e R s m args below meth c H locs (rt_cells z0 z) (rt_slots z0 z) (rt_mc M') (rt_ms M') (F0 m pc ls ((As.map (rt_tv G)).reverse ++ st.map (rt_tv G))) (st.map (rt_tv G)) (rt_Qc G Q' (As.map (rt_tv G)).toArray) (rt_A G) := by
    rcases hl0 with h0 | ⟨host, h0⟩
    · exact va_runS ⟨hx, hb, hml, hown, hts⟩ hMet ⟨callB_of n hts (rt_GoodIn hw.1) rfl rfl rfl (hts _ hw.2.1) (hts _ h0) hw.2.2.2.1 hroom, hts _ hi⟩ hp rfl (by rw [List.length_map]; exact hlen) hl.1 rfl (lv_room hcw) hd hfit
    · exact va_runSN ⟨hx, hb, hml, hown, hts⟩ hMet ⟨va_cnB n hts (rt_GoodIn hw.1) rfl rfl rfl (hK.2.2.2.1 _ h0) (hts _ hw.2.1) hw.2.2.2.1 hroom, hts _ hi, trivial⟩ hp rfl (by rw [List.length_map]; exact hlen) hl.1 rfl (lv_room hcw) hd hfit
  rw [hstk2]
  refine rt_call hrun hS (fun v z' mem' H1 locs1 hq hok1 hM1 hH1 hz1 hS1 => ?_)
  obtain ⟨u1, u2⟩ := hz' v z' mem' hq
  have hokst : ∀ w ∈ v.toList ++ st, rt_ok w := fun w hw => by
    rcases List.mem_append.mp hw with h | h
    · cases v with
      | none => cases h
      | some y => rcases List.mem_cons.mp h with rfl | h
                  · exact hok1 _ rfl
                  · cases h
    · exact hst w (List.mem_append_right _ h)
  have kk := k v z' mem' hq p l e R s m args below meth c H1 locs1 ls Z hC hK hl hL hokst hM1 hS1 hH1 hz1 hZ
  have e9 : (v.toList ++ st).map (rt_tv G) = (v.map (rt_tv G)).toList ++ st.map (rt_tv G) := by cases v <;> simp
  rw [e9] at kk
  exact W.widen u1 u2 kk
/-- a method that makes nothing -/
theorem RT.cV {ci : Nat} {x : Int} {r : Option rt_V} {mem1 : rt_M} (hd : decode (rt_c M) pc = .ok (.invokevirtual idx, 3)) (hw : rt_Mw M' n) (hl0 : rt_Ml (rt_y M).cls idx M') (hi : Cond.instanceMethod (rt_y M') ∈ rt_mG ∧ Cond.selects (rt_R ci) (rt_y M') (rt_y M') ∈ rt_mG ∧ rt_CL ci ∧ (rt_y M').cls = rt_R ci ∧ rt_mc M' = 0 ∧ rt_ms M' = 0) (hkd : rt_kd x.toNat = 20 + ci) (hn : x.toNat < z.1)
    (hstk : stk = As.reverse ++ (2, x) :: st) (hlen : As.length = n) (hloc : (rt_ent ((2, x) :: As)).length ≤ rt_n M') (hcap : (st.map (fun v => if v.1 = 1 then 2 else 1)).sum ≤ 8) (hdd : d' + 1 ≤ d) (hcm : rt_cells z0 z ≤ rt_mc M) (hsm : rt_slots z0 z ≤ rt_ms M)
    (hc : RM G M' d' ((2, x) :: As) z mem r mem1) (k : RT G M d z0 Q (pc + 3) L (r.toList ++ st) z mem1) : RT G M d z0 Q pc L stk z mem := by
  obtain ⟨i1, i2, i3, i4, i5, i6⟩ := hi
  refine RT.callV (ci := ci) hd hw hl0 i1 i2 i3 i4 hkd hn hstk hlen hloc hcap hdd (by rw [i5]; exact hcm) (by rw [i6]; exact hsm) hc (fun v z' mem' h => ?_) (fun v z' mem' h => ?_)
  · obtain ⟨rfl, -, -⟩ := h
    rw [i5, i6]
    exact ⟨Nat.le_refl _, Nat.le_refl _⟩
  · obtain ⟨rfl, rfl, rfl⟩ := h
    exact k
theorem RT.cS {r : Option rt_V} {mem1 : rt_M} (hd : decode (rt_c M) pc = .ok (.invokestatic idx, 3)) (hw : rt_Mw M' n) (hl0 : rt_Ml (rt_y M).cls idx M') (hi : Cond.static (rt_y M') ∈ rt_mG ∧ rt_mc M' = 0 ∧ rt_ms M' = 0)
    (hstk : stk = As.reverse ++ st) (hlen : As.length = n) (hloc : (rt_ent As).length ≤ rt_n M') (hcap : (st.map (fun v => if v.1 = 1 then 2 else 1)).sum ≤ 8) (hdd : d' + 1 ≤ d) (hcm : rt_cells z0 z ≤ rt_mc M) (hsm : rt_slots z0 z ≤ rt_ms M)
    (hc : RM G M' d' As z mem r mem1) (k : RT G M d z0 Q (pc + 3) L (r.toList ++ st) z mem1) : RT G M d z0 Q pc L stk z mem := by
  obtain ⟨i1, i5, i6⟩ := hi
  refine RT.callS hd hw hl0 i1 hstk hlen hloc hcap hdd (by rw [i5]; exact hcm) (by rw [i6]; exact hsm) hc (fun v z' mem' h => ?_) (fun v z' mem' h => ?_)
  · obtain ⟨rfl, -, -⟩ := h
    rw [i5, i6]
    exact ⟨Nat.le_refl _, Nat.le_refl _⟩
  · obtain ⟨rfl, rfl, rfl⟩ := h
    exact k
end
