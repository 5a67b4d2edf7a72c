/-! Layer 4: constructors: their calls, final fields -/
section
variable {G : rt_G} {M M' : rt_Mt} {d d' n k0 k : Nat} {Q Q' : rt_P} {pc idx : Nat} {L st stk As : List rt_V} {mem : rt_M} {z0 z : Nat × Nat} {t p' : Nat × rt_M}
/-- a constructor -/
theorem RT.callI {x : Int} (hd : decode (rt_c M) pc = .ok (.invokespecial idx, 3)) (hw : rt_Mw M' n) (hl0 : rt_Ml (rt_y M).cls idx M') (hi : Cond.instanceMethod (rt_y M') ∈ rt_mG) (hini : (rt_y M').name = "<init>") (hret : rt_r M' = none) (hge : 41 ≤ x.toNat)
    (hstk : stk = As.reverse ++ (2, x) :: st) (hlen : As.length = n) (hloc : (rt_ent ((2, x) :: As)).length ≤ rt_n M') (hcap : (st.map (fun v => if v.1 = 1 then 2 else 1)).sum ≤ 8) (hdd : d' + 1 ≤ d) (hcm : rt_cells z0 z + rt_mc M' ≤ rt_mc M) (hsm : rt_slots z0 z + rt_ms M' ≤ rt_ms M)
    (hc : RT G M' d' z Q' 0 (rt_entry (rt_n M') ((2, x) :: As)) [] z mem) (hz' : ∀ v z' mem', Q' v z' mem' → rt_cells z0 z + rt_mc M' ≤ rt_cells z0 z' ∧ rt_slots z0 z + rt_ms M' ≤ rt_slots z0 z')
    (k : ∀ v z' mem', Q' v z' mem' → RT G M d z0 Q (pc + 3) L (v.toList ++ st) z' mem') : RT G M d z0 Q pc L stk z mem := by
  subst hstk
  intro p l e R s m args below meth c H locs ls Z hC hK hl hL hst hM hS hH hz hZ
  obtain ⟨hx, hb, hml, hown, hret0, hlk, hnm, hts, hRf, hRl, hRc2, hRs, hstt⟩ := id hC
  have hokA : ∀ v ∈ (2, x) :: As, rt_ok v := fun v hv => hst v (by
    rcases List.mem_cons.mp hv with rfl | h
    · exact List.mem_append_right _ List.mem_cons_self
    · exact List.mem_append_left _ (List.mem_reverse.mpr h))
  have hMet := rt_met l hstt hw hloc hc
  have hp : PreS s H (rt_Pc G ((2, x) :: As) z mem) (Value.ref (rt_ad G x.toNat) :: As.map (rt_tv G)) :=
    ⟨rt_blind, fun U hU hW => ⟨by rw [List.map_cons, rt_tv_r hge], rt_K_moved hK hS hU hW, hM, by rw [hU]; exact hH, by rw [hU]; exact hz, hokA⟩⟩
  have hfit : rt_cells z0 z + rt_mc M' ≤ R.cells ∧ rt_slots z0 z + rt_ms M' ≤ R.slots := ⟨Nat.le_trans hcm hRc2, Nat.le_trans hsm hRs⟩
  have hcw : ((st.map (rt_tv G)).map fun v => v.category).sum ≤ 8 := by rw [rt_capl]; exact hcap
  have hn21 := hw.2.2.2.2
  have hroom : (rt_rm M' d').frames + 1 ≤ R.frames ∧ 8 + (rt_n M' + 11) + (rt_rm M' d').locals ≤ R.locals := ⟨Nat.le_trans hdd hRf, by show 8 + (rt_n M' + 11) + 40 * d' ≤ R.locals; omega⟩
  have hstk2 : ((As.reverse ++ (2, x) :: st).map (rt_tv G)) = (As.map (rt_tv G)).reverse ++ .ref (rt_ad G x.toNat) :: st.map (rt_tv G) := by rw [List.map_append, List.map_reverse, List.map_cons, rt_tv_r hge]
  have hws : rt_ws M' = Cond.code (rt_y M') (rt_c M') (rt_n M') none :: rt_mG := by unfold rt_ws; rw [hret]
  have hGI := rt_GoodIn hw.1
  have hrun : va_Run p l e R s m args below meth c H locs (rt_cells z0 z) (rt_slots z0 z) (rt_mc M') (rt_ms M') (F0 m pc ls ((As.map (rt_tv G)).reverse ++ .ref (rt_ad G x.toNat) :: st.map (rt_tv G))) (st.map (rt_tv G)) (rt_Qc G Q' (Value.ref (rt_ad G x.toNat) :: As.map (rt_tv G)).toArray) (rt_A G) := by
    rcases hl0 with h0 | ⟨host, h0⟩
    · exact va_runI ⟨hx, hb, hml, hown, hts⟩ hMet ⟨callB_of n hts hGI hws rfl rfl (hts _ hw.2.1) (hts _ h0) hw.2.2.2.1 hroom, hini, hts _ hi⟩ hp rfl (by rw [List.length_map]; exact hlen) hl.1 rfl (lv_room hcw) hd hfit
    · exact va_runIN ⟨hx, hb, hml, hown, hts⟩ hMet ⟨va_cnB n hts hGI hws rfl rfl (hK.2.2.2.1 _ h0) (hts _ hw.2.1) hw.2.2.2.1 hroom, hini, hts _ hi⟩ hp rfl (by rw [List.length_map]; exact hlen) hl.1 rfl (lv_room hcw) hd hfit
  rw [hstk2]
  refine rt_call hrun hS (fun v z' mem' H1 locs1 hq hok1 hM1 hH1 hz1 hS1 => ?_)
  obtain ⟨u1, u2⟩ := hz' v z' mem' hq
  have hokst : ∀ w ∈ v.toList ++ st, rt_ok w := fun w hw => by
    rcases List.mem_append.mp hw with h | h
    · cases v with
      | none => cases h
      | some y => rcases List.mem_cons.mp h with rfl | h
                  · exact hok1 _ rfl
                  · cases h
    · exact hst w (List.mem_append_right _ (List.mem_cons_of_mem _ h))
  have kk := k v z' mem' hq p l e R s m args below meth c H1 locs1 ls Z hC hK hl hL hokst hM1 hS1 hH1 hz1 hZ
  have e9 : (v.toList ++ st).map (rt_tv G) = (v.map (rt_tv G)).toList ++ st.map (rt_tv G) := by cases v <;> simp
  rw [e9] at kk
  exact W.widen u1 u2 kk
/-- what a constructor does -/
def RK (G : rt_G) (M : rt_Mt) (d : Nat) (As : List rt_V) (k : Nat) (mem : rt_M) (t : Nat × rt_M) : Prop := RT G M d (k, 0) (fun v z' m' => v = none ∧ z' = (t.1, 0) ∧ m' = t.2) 0 (rt_entry (rt_n M) As) [] (k, 0) mem
theorem RT.ci {x : Int} (hd : decode (rt_c M) pc = .ok (.invokespecial idx, 3)) (hw : rt_Mw M' n) (hl0 : rt_Ml (rt_y M).cls idx M') (hi : Cond.instanceMethod (rt_y M') ∈ rt_mG) (hini : (rt_y M').name = "<init>") (hret : rt_r M' = none) (hge : 41 ≤ x.toNat)
    (hstk : stk = As.reverse ++ (2, x) :: st) (hlen : As.length = n) (hloc : (rt_ent ((2, x) :: As)).length ≤ rt_n M') (hcap : (st.map (fun v => if v.1 = 1 then 2 else 1)).sum ≤ 8) (hdd : d' + 1 ≤ d) (hv : rt_gc M M' k0 k p' = some t) (hc : RK G M' d' ((2, x) :: As) k mem p')
    (h : RT G M d (k0, 0) Q (pc + 3) L st (t.1, 0) t.2) : RT G M d (k0, 0) Q pc L stk (k, 0) mem := by
  unfold rt_gc at hv
  split at hv
  · rename_i q
    cases hv
    obtain ⟨q1, q2, q3, q4, q5⟩ := q
    refine RT.callI hd hw hl0 hi hini hret hge hstk hlen hloc hcap hdd q2 q3 hc (fun v z' m' e => ?_) (fun v z' m' e => ?_)
    · obtain ⟨-, rfl, -⟩ := e
      exact ⟨q4, q5⟩
    · obtain ⟨rfl, rfl, rfl⟩ := e
      exact h
  · cases hv
/-- a final field, in its class's constructor -/
theorem RT.putfF (ci j : Nat) {idx t : Nat} {x v : Int} {mem1 : rt_M} (hd : decode (rt_c M) pc = .ok (.putfield idx, 3)) (hw : rt_FL (rt_y M).cls idx ci j) (hfin : (rt_T ci j).2.2.2 = true) (hini : (rt_y M).name = "<init>") (hown2 : rt_R ci = (rt_y M).cls) (hlk : Cond.fieldLink (rt_y M).cls idx (rt_R ci) (rt_T ci j).2.1 (rt_T ci j).2.2.1 ∈ rt_mG) (ht : rt_ft ci j = t) (hnar : ∀ G, narrow (rt_ty ci j) (rt_tv G (t, v)) = rt_tv G (t, v)) (hfit : ∀ G, fits (rt_ty ci j) (rt_tv G (t, v)) = true) (hn : x.toNat < z.1) (hv : rt_pf ci j x v mem = some mem1) (h : RT G M d z0 Q (pc + 3) L st z mem1) : RT G M d z0 Q pc L ((t, v) :: (2, x) :: st) z mem := by
  intro p l e R s m args below meth c H locs ls Z hC hK hl hL hst hM hS hH hz hZ
  obtain ⟨⟨hcl, hin, hty, hnm, hln⟩, hj, hdecl, -⟩ := hw
  subst ht
  unfold rt_pf at hv
  split at hv
  · rename_i hkd
    have hv := Option.some.inj hv
    subst hv
    have hge := rt_kd_ge (k := x.toNat) (by omega)
    have hts := hC.2.2.2.2.2.2.2.1
    have hown := hC.2.2.2.1
    have hmn := hC.2.2.2.2.2.2.1
    obtain ⟨cell, q1, q2, q3, q4⟩ := rt_obj (hH _ hge hn) hkd
    obtain ⟨hSl, hfc, kC, hkC, hkind⟩ := hK.1 ci _ hcl
    obtain ⟨cf, kf, fi, f, hi, hsl⟩ := hSl j hj
    have hi' : s.fieldFound? (rt_R ci) (rt_T ci j).2.1 (rt_T ci j).2.2.1 = some (cf, kf, fi, f) := by rw [← hdecl]; exact hi
    have hap := va_apart (D := (rt_dC G, rt_dI G)) (cl := rt_cl) (tys := []) (own := (rt_y M).cls) hts hin (rt_ty ci) hty hnm ⟨hK.1, fun k q h => by simp at h⟩ hcl
    have hlay := hts _ (hin _ (u_in_lay hj))
    unfold u_lay at hlay
    rw [if_pos hfin] at hlay
    have hst0 := (u_facts hfc hkC (u_lays hts hin hj) hi).1
    have hcf : m.cls = cf := by
      obtain ⟨_, _, c', _, _, _, -, -, hf', -, -, -, hown2', -⟩ := Cond.laysFinal_spec hlay
      have e1 : c' = cf := by have := hi.symm.trans hf'; simp at this; exact this.1.symm
      rw [hdecl, hown2] at hown2'
      rw [← e1]; exact Option.some.inj (hown.symm.trans hown2')
    have h6 := u_fits hfc hkC hkind (Or.inr hlay) hi (hty j hj) (hnar G) (hfit G)
    have hlen := hln _ hkd
    have fin : ∀ (H1 : Heap), H1[rt_ad G x.toNat]? = some (cell.setSlot f.slot (rt_tv G (rt_ft ci j, v))) → H1.size = H.size → (∀ q, q ≠ rt_ad G x.toNat → H1[q]? = H[q]?) → W p l e R s m args below meth c H1 (locs ++ [⟨rt_ad G x.toNat, f.slot⟩]) (rt_cells z0 z) (rt_slots z0 z) Z (F0 m (pc + 3) ls (st.map (rt_tv G))) := by
      intro H1 e1 e2 e3
      refine h p l e R s m args below meth c H1 _ ls Z hC hK hl hL (rt_okt (rt_okt hst)) (rt_okM_put hM (by rw [rt_tg_o hkd]; exact rt_okh hst)) (hS.put e2 e3 (rt_ad_A hge)) (rt_HR_put hH hge ?_ e3) (rt_HS_put hz e2) hZ
      unfold rt_HC
      rw [if_neg (by omega), show rt_kd x.toNat - 20 = ci by omega]
      rw [hsl] at e1
      refine t_OB.to (V := updV (fun j => rt_tv G (rt_ft ci j, mem x.toNat j)) j (rt_tv G (rt_ft ci j, v))) ⟨_, e1, q2, q3, t_set q4 (by rw [hlen]; exact hap) (by rw [hlen]; exact hj) _⟩ (fun i _ => ?_)
      unfold updV
      rw [rt_tg_o hkd]
      by_cases hij : i = j
      · subst hij; rw [if_pos rfl, rt_up_same]
      · rw [if_neg hij, rt_up_ne _ _ (fun q => hij q.2)]
    rw [List.map_cons, List.map_cons, rt_tv_r hge]
    exact W.putFinK hC.1 hC.2.1 hown (hts _ hlk) hi' hst0 hcf (hmn.trans hini) (by rw [q2]; exact h6) q1 q3 (by rw [hsl]; exact k2_hasslot (q4 j (by rw [hlen]; exact hj))) rfl rfl hd fin
  · cases hv
end
