/-! Layer 4: the picture at the law's entry -/
theorem rz_ofn : ∀ i, i < 39 → ∀ j, j < 39 → Int32.ofNat i = Int32.ofNat j → i = j := by decide +kernel
theorem rz_nm : RX9 ≠ "[LWigOffice$Word;" := by decide +kernel
set_option maxHeartbeats 1000000 in
theorem rz_K {s : State} {b L : Nat} {xs : Nat → Int32} (hts : ∀ w ∈ lw_tbl, w.before #[Value.ref b] s = true) (hX : va_X b L xs s s.heap) (hb : b < s.heap.size) (hP : (Jvm.Cond.and given_1 narrow_1).before #[Value.ref b] s = true) :
    ∃ G : rt_G, rt_base G = s.heap.size ∧ rt_L G = L ∧ rt_ad G 40 = b ∧ rt_K G s := by
  have hs : ∀ c ∈ rz_P, c.before #[Value.ref b] s = true := flat_of_before _ hP
  have htg : ∀ w ∈ rt_mG, w.before #[Value.ref b] s = true := fun w hw => hts w (List.mem_filter.mp hw).1
  have t1 : ∀ {k : Nat} {w : Cond}, tables_1[k]? = some w → w.before #[Value.ref b] s = true := fun h => hts _ (List.mem_append_right _ (List.mem_of_getElem? h))
  obtain ⟨dC, hdC⟩ := Classical.axiomOfChoice (rz_cl htg)
  obtain ⟨dI, hdI⟩ := Classical.axiomOfChoice hdC
  obtain ⟨cA, hcA⟩ := Classical.axiomOfChoice (rz_ar hts)
  have hA : ∀ a : Nat, a < s.heap.size → ¬ s.heap.size ≤ a := fun a h => Nat.not_le.mpr h
  have h0 : ∀ i : Nat, ∃ t : Nat, i < 39 → (rz_t i).eval #[Value.ref b] s none [] s = some (.ref t) := by
    intro i
    by_cases hi : i < 39
    · obtain ⟨a, c, cell, k, q1, -⟩ := Cond.exactly_spec (hs _ (rz_p1 i hi))
      exact ⟨a, fun _ => q1⟩
    · exact ⟨0, fun h => absurd h hi⟩
  obtain ⟨ad, had⟩ := Classical.axiomOfChoice h0
  have hini : (Cond.initialized RX9).before #[Value.ref b] s = true := t1 rz_q1.2.1
  have hiniT : (Cond.initialized Bundle.tN).before #[Value.ref b] s = true := t1 rz_q1.2.2.1
  have eall : ∀ j : Nat, j < 39 → (Term.elem rz_all (.int (Int32.ofNat j))).eval #[Value.ref b] s none [] s = some (.ref (ad j)) := fun j hj => va_eqv (hs _ (rz_p5 j hj)) (had j hj)
  obtain ⟨t, ht, cell0, g1, g2, g3, g4, g5, g6, g7⟩ := va_Tof (A := fun q => s.heap.size ≤ q) (N := 39) (f := fun j => .ref (ad j)) (by decide) (hs _ rz_p6.2.1) (va_eqt (hs _ rz_p6.2.2.1)) eall hA
  have pk : va_Ef 39 RX9 "packed" "J" (fun i => .long (Int64.ofInt (rt_wp i))) ad (fun q => s.heap.size ≤ q) s s.heap := va_Efof (E := RX9) (d0 := "LWigOffice$Word;") (nm := rt_wn) (tm := fun i => .long (Int64.ofInt (rt_wp i))) had (fun i hi => hs _ (rz_p3 i hi)) (fun i hi => rfl) hA
  have cn : va_Ef 39 RX9 "canName" "Z" (fun i => .int (Int32.ofInt (rt_wc i))) ad (fun q => s.heap.size ≤ q) s s.heap := va_Efof (E := RX9) (d0 := "LWigOffice$Word;") (nm := rt_wn) (tm := fun i => .int (Int32.ofInt (rt_wc i))) had (fun i hi => hs _ (rz_p4 i hi)) (fun i hi => rfl) hA
  have hO : ∀ i, i < 39 → va_O RX9 (ad i) (fun q => s.heap.size ≤ q) s s.heap := fun i hi => va_Oof (hs _ (rz_p1 i hi)) (had i hi) hA
  obtain ⟨G1, hG1⟩ : ∃ G1 : Nat → Nat, G1 = fun k => if k < 39 then ad k else if k = 39 then t else b := ⟨_, rfl⟩
  have e0 : ∀ i, i < 39 → G1 i = ad i := fun i hi => by rw [hG1]; exact if_pos hi
  have e39 : G1 39 = t := by rw [hG1]; rfl
  have e40 : G1 40 = b := by rw [hG1]; rfl
  obtain ⟨scr, x1, x2, x3, x4, x5⟩ := id hX
  have n1 : ∀ i, i < 39 → ∀ j, j < 39 → ad i = ad j → i = j := fun i hi j hj e => by
    have a1 := va_eqt (hs _ (rz_p2 i hi))
    have a2 := va_eqt (hs _ (rz_p2 j hj))
    rw [va_fe (had i hi)] at a1
    rw [va_fe (had j hj), ← e, a1] at a2
    exact rz_ofn i hi j hj (Value.int.inj (Option.some.inj a2))
  have n2 : ∀ i, i < 39 → ad i ≠ t := fun i hi e => by
    obtain ⟨a, c, cell, k, q1, q2, q3, q4, q5, q6, -⟩ := Cond.exactly_spec (hs _ (rz_p1 i hi))
    obtain ⟨a', c', cell', k', p1, p2, p3, p4, p5, p6, -⟩ := Cond.exactly_spec (hs _ rz_p6.1)
    cases (had i hi).symm.trans q1
    cases ht.symm.trans p1
    rw [e] at q3
    cases q3.symm.trans p3
    obtain ⟨k1, h1, h2⟩ := Vm.findClass_spec q2
    obtain ⟨k2, h3, h4⟩ := Vm.findClass_spec p2
    rw [← q6, p6] at h1
    cases h1.symm.trans h3
    exact rz_nm (h2.symm.trans h4)
  have n3 : ∀ i, i < 39 → ad i ≠ b := fun i hi e => by
    obtain ⟨cf, k, fi, f, cell, -, -, h1, -, h2, -⟩ := pk i hi
    rw [e] at h1
    cases h1.symm.trans x1
    have hl := (Array.getElem?_eq_some_iff.mp h2).1
    rw [x4] at hl
    cases h2.symm.trans (x5 _ hl)
  have n4 : t ≠ b := fun e => by
    rw [e] at g1
    cases g1.symm.trans x1
    cases (g6 0 (by decide)).symm.trans (x5 0 (by rw [← x4]; exact Nat.lt_of_lt_of_le (by decide) g4))
  refine ⟨(G1, dC, dI, cA, s.heap.size, L, xs), rfl, rfl, e40, fun c q hq => hdI c q hq, fun tc h1 h2 => (hcA tc h1 h2).1.1, fun tc h1 h2 => (hcA tc (by omega) (by omega)).2 h1 h2, rz_mN hts, fun i hi => ?_, ⟨?_, ?_⟩, ?_, ?_, Nat.le_refl _, ?_, fun tc h1 h2 => (hcA tc h1 h2).1.2, fun q hq => ?_, ?_, ?_⟩
  · show va_Z RX9 (rt_wn.getD i "") "LWigOffice$Word;" (.ref (G1 i)) (fun q => s.heap.size ≤ q) s s.heap ∧ va_O RX9 (G1 i) (fun q => s.heap.size ≤ q) s s.heap ∧ va_OF RX9 "packed" "J" (.long (Int64.ofInt (rt_wp i))) (G1 i) (fun q => s.heap.size ≤ q) s s.heap ∧ va_OF RX9 "canName" "Z" (.int (Int32.ofInt (rt_wc i))) (G1 i) (fun q => s.heap.size ≤ q) s s.heap
    rw [e0 i hi]
    exact ⟨va_Zref (rz_ls hts i hi) hini (had i hi) hA, hO i hi, pk i hi, cn i hi⟩
  · show va_Z RX9 "ALL" "[LWigOffice$Word;" (.ref (G1 39)) (fun q => s.heap.size ≤ q) s s.heap
    rw [e39]
    exact va_Zref (t1 rz_q1.1) hini ht hA
  · show va_T (.object RX9) (G1 39) 39 (fun j => .ref (G1 j)) (fun q => s.heap.size ≤ q) s s.heap
    rw [e39]
    exact ⟨cell0, g1, g2, g3, g4, g5, fun j hj => (g6 j hj).trans (by show some (Value.ref (ad j)) = some (Value.ref (G1 j)); rw [e0 j hj]), g7⟩
  · intro i j hi hj e
    have e' : G1 i = G1 j := e
    have ci : i < 39 ∨ i = 39 ∨ i = 40 := by omega
    have cj : j < 39 ∨ j = 39 ∨ j = 40 := by omega
    rcases ci with ci | rfl | rfl
    · rcases cj with cj | rfl | rfl
      · rw [e0 i ci, e0 j cj] at e'; exact n1 i ci j cj e'
      · rw [e0 i ci, e39] at e'; exact absurd e' (n2 i ci)
      · rw [e0 i ci, e40] at e'; exact absurd e' (n3 i ci)
    · rcases cj with cj | rfl | rfl
      · rw [e0 j cj, e39] at e'; exact absurd e'.symm (n2 j cj)
      · rfl
      · rw [e39, e40] at e'; exact absurd e' n4
    · rcases cj with cj | rfl | rfl
      · rw [e0 j cj, e40] at e'; exact absurd e'.symm (n3 j cj)
      · rw [e39, e40] at e'; exact absurd e'.symm n4
      · rfl
  · intro i hi
    show G1 i < s.heap.size
    have ci : i < 39 ∨ i = 39 ∨ i = 40 := by omega
    rcases ci with ci | rfl | rfl
    · rw [e0 i ci]
      obtain ⟨cell, h1, -⟩ := hO i ci
      exact (Array.getElem?_eq_some_iff.mp h1).1
    · rw [e39]; exact (Array.getElem?_eq_some_iff.mp g1).1
    · rw [e40]; exact hb
  · show va_X (G1 40) L xs s s.heap
    rw [e40]; exact hX
  · obtain ⟨a, c, cell, k, q1, -⟩ := Cond.exactly_spec (hs _ (rz_p7 q hq))
    exact ⟨a, vk_R.of (hts _ (List.mem_append_right _ (rz_q2 q hq))) q1⟩
  · exact vx_Zqof (t1 rz_q1.2.2.2.1) hiniT (hs _ rz_p6.2.2.2.1) hA
  · exact vx_Zqof (t1 rz_q1.2.2.2.2) hiniT (hs _ rz_p6.2.2.2.2) hA
