/-! Layer 4: what holds at the law's entry -/
theorem rz_mN {s : State} {args : Array Value} (hts : ∀ w ∈ lw_tbl, w.before args s = true) : ∀ w ∈ rt_mN, va_Nw w s := fun w hw => by
  have hn := rt_mN_nest hw
  have h := hts w (List.mem_filter.mp hw).1
  cases w <;> first | exact va_tabs rfl rfl h | exact absurd hn Bool.false_ne_true | exact h
theorem rz_cl {s : State} {args : Array Value} (hts : ∀ w ∈ rt_mG, w.before args s = true) : ∀ c : Nat, ∃ (cC : ClassId) (iS : Nat → Nat), ∀ q, rt_cl[c]? = some q → u_Kn s q.1 q.2.1 q.2.2 cC iS := by
  have k : ∀ ci n, rt_CL ci → Cond.instantiable (rt_R ci) n ∈ rt_mG → ∃ (cC : ClassId) (iS : Nat → Nat), u_Kn s (rt_R ci) (rt_T ci) (rt_N ci) cC iS := fun ci n hc hi => u_known hts hc.2.1 (hts _ hi)
  intro c
  match c with
  | 0 => obtain ⟨a, b, h⟩ := k 0 _ cl_X0 ib_X0; exact ⟨a, b, fun q hq => by cases hq; exact h⟩
  | 1 => obtain ⟨a, b, h⟩ := k 1 _ cl_X1 ib_X1; exact ⟨a, b, fun q hq => by cases hq; exact h⟩
  | 2 => obtain ⟨a, b, h⟩ := k 2 _ cl_X2 ib_X2; exact ⟨a, b, fun q hq => by cases hq; exact h⟩
  | 3 => obtain ⟨a, b, h⟩ := k 3 _ cl_X3 ib_X3; exact ⟨a, b, fun q hq => by cases hq; exact h⟩
  | 4 => obtain ⟨a, b, h⟩ := k 4 _ cl_X4 ib_X4; exact ⟨a, b, fun q hq => by cases hq; exact h⟩
  | 5 => obtain ⟨a, b, h⟩ := k 5 _ cl_X5 ib_X5; exact ⟨a, b, fun q hq => by cases hq; exact h⟩
  | 6 => obtain ⟨a, b, h⟩ := k 6 _ cl_X6 ib_X6; exact ⟨a, b, fun q hq => by cases hq; exact h⟩
  | 7 => obtain ⟨a, b, h⟩ := k 7 _ cl_X7 ib_X7; exact ⟨a, b, fun q hq => by cases hq; exact h⟩
  | 8 => obtain ⟨a, b, h⟩ := k 8 _ cl_X8 ib_X8; exact ⟨a, b, fun q hq => by cases hq; exact h⟩
  | 9 => obtain ⟨a, b, h⟩ := k 0 _ cl_X0 ib_X0; exact ⟨a, b, fun q hq => by cases hq; exact h⟩
  | 10 => obtain ⟨a, b, h⟩ := k 10 _ cl_X10 ib_X10; exact ⟨a, b, fun q hq => by cases hq; exact h⟩
  | 11 => obtain ⟨a, b, h⟩ := k 11 _ cl_X11 ib_X11; exact ⟨a, b, fun q hq => by cases hq; exact h⟩
  | 12 => obtain ⟨a, b, h⟩ := k 12 _ cl_X12 ib_X12; exact ⟨a, b, fun q hq => by cases hq; exact h⟩
  | c + 13 => obtain ⟨a, b, -⟩ := k 0 _ cl_X0 ib_X0; exact ⟨a, b, fun q hq => by rw [List.getElem?_eq_none (by show 13 ≤ c + 13; omega)] at hq; cases hq⟩
/-- an array class -/
def rz_A (s : State) (tc : Nat) (cA : ClassId) : Prop := (ArrOfT s cA (rt_aty tc) ∧ s.vm.findClass ("[" ++ (rt_aty tc).toString) = some cA) ∧ (5 ≤ tc → tc ≤ 8 → ∃ (kA : Class) (comp : ClassId), s.vm.classes[cA]? = some kA ∧ kA.kind = .array comp (rt_aty tc) ∧ (∀ C, rt_aty tc = .object C → s.vm.findClass C = some comp) ∧ ∃ kc : Class, s.vm.classes[comp]? = some kc)
theorem rz_ar {s : State} {args : Array Value} (hts : ∀ w ∈ lw_tbl, w.before args s = true) : ∀ tc : Nat, ∃ cA : ClassId, 1 ≤ tc → tc ≤ 9 → rz_A s tc cA := by
  have k1 : ∀ tc ty, rt_aty tc = ty → Cond.arrayClass ty ∈ rt_mG → (¬ (5 ≤ tc ∧ tc ≤ 8)) → ∃ cA : ClassId, 1 ≤ tc → tc ≤ 9 → rz_A s tc cA := by
    rintro tc ty rfl h hn
    obtain ⟨c, k, comp, h1, h2, h3⟩ := Cond.arrayClass_spec (hts _ (List.mem_filter.mp h).1)
    exact ⟨c, fun _ _ => ⟨⟨fun n z => ⟨fun k h => (by cases h), k, h2, comp, h3⟩, h1⟩, fun a b => absurd ⟨a, b⟩ hn⟩⟩
  have k2 : ∀ tc C, rt_aty tc = .object C → Cond.arrayOver (.object C) ∈ rt_mN → ∃ cA : ClassId, 1 ≤ tc → tc ≤ 9 → rz_A s tc cA := by
    intro tc C e h
    obtain ⟨comp, c, k, h1, -, h2, h3, h4⟩ := Cond.arrayOver_spec (hts _ (List.mem_filter.mp h).1)
    obtain ⟨kc, hkc, -⟩ := Vm.findClass_spec h1
    refine ⟨c, fun _ _ => ?_⟩
    unfold rz_A
    rw [e]
    exact ⟨⟨fun n z => ⟨fun k h => (by cases h), k, h2, comp, h3⟩, h4⟩, fun _ _ => ⟨k, comp, h2, h3, fun C' q => by cases q; exact h1, kc, hkc⟩⟩
  intro tc
  match tc with
  | 0 => obtain ⟨a, -⟩ := k1 1 .int rfl ac_1 (by decide); exact ⟨a, fun q => absurd q (by decide)⟩
  | 1 => exact k1 1 .int rfl ac_1 (by decide)
  | 2 => exact k1 2 .long rfl ac_2 (by decide)
  | 3 => exact k1 3 .boolean rfl ac_3 (by decide)
  | 4 => exact k1 4 .char rfl ac_4 (by decide)
  | 5 => exact k2 5 _ rfl ao_5
  | 6 =>
    obtain ⟨comp, c, k, h1, -, h2, h3, h4⟩ := arrayOverA_spec (hts _ (List.mem_filter.mp ao_i).1)
    obtain ⟨kc, hkc, -⟩ := Vm.findClass_spec h1
    exact ⟨c, fun _ _ => ⟨⟨fun n z => ⟨fun k h => (by cases h), k, h2, comp, h3⟩, h4⟩, fun _ _ => ⟨k, comp, h2, h3, fun C' q => (by cases q), kc, hkc⟩⟩⟩
  | 7 => exact k2 7 _ rfl ao_7
  | 8 => exact k2 8 _ rfl ao_8
  | 9 => exact k1 9 .long rfl ac_2 (by decide)
  | tc + 10 => obtain ⟨a, -⟩ := k1 1 .int rfl ac_1 (by decide); exact ⟨a, fun _ q => absurd q (by omega)⟩
/-- where the Words' statics stand in the tables -/
def rz_ix : List Nat := [452, 481, 496, 498, 502, 520, 522, 528, 534, 588, 618, 620, 622, 624, 512, 514, 516, 518, 568, 578, 580, 182, 184, 186, 216, 218, 220, 570, 572, 552, 554, 582, 584, 586, 500, 424, 426, 433, 417]
theorem rz_ls0 : ∀ i, i < 39 → tables_1[rz_ix.getD i 0]? = some (Cond.laysStatic RX9 (rt_wn.getD i "") "LWigOffice$Word;") := by decide +kernel
theorem rz_ls {s : State} {args : Array Value} (hts : ∀ w ∈ lw_tbl, w.before args s = true) (i : Nat) (hi : i < 39) : (Cond.laysStatic RX9 (rt_wn.getD i "") "LWigOffice$Word;").before args s = true := hts _ (List.mem_append_right _ (List.mem_of_getElem? (rz_ls0 i hi)))
abbrev rz_P : List Cond := flatC (Jvm.Cond.and given_1 narrow_1)
abbrev rz_t (i : Nat) : Term := .static RX9 (rt_wn.getD i "") "LWigOffice$Word;"
theorem rz_p1 : ∀ i, i < 39 → Cond.exactly (rz_t i) RX9 ∈ rz_P := by decide +kernel
theorem rz_p2 : ∀ i, i < 39 → Cond.eq (.field (rz_t i) "java/lang/Enum" "ordinal" "I") (.int (Int32.ofNat i)) ∈ rz_P := by decide +kernel
theorem rz_p3 : ∀ i, i < 39 → Cond.eq (.field (rz_t i) RX9 "packed" "J") (.long (Int64.ofInt (rt_wp i))) ∈ rz_P := by decide +kernel
theorem rz_p4 : ∀ i, i < 39 → Cond.eq (.field (rz_t i) RX9 "canName" "Z") (.int (Int32.ofInt (rt_wc i))) ∈ rz_P := by decide +kernel
abbrev rz_all : Term := .static RX9 "ALL" "[LWigOffice$Word;"
theorem rz_p5 : ∀ i, i < 39 → Cond.eq (.elem rz_all (.int (Int32.ofNat i))) (rz_t i) ∈ rz_P := by decide +kernel
theorem rz_p6 : Cond.exactly rz_all "[LWigOffice$Word;" ∈ rz_P ∧ Cond.arrayOf rz_all (.object RX9) ∈ rz_P ∧ Cond.eq (.length rz_all) (.int (Int32.ofNat 39)) ∈ rz_P ∧ Cond.isRef (.static Bundle.tN "UNASSIGNED_STACK" Bundle.steD) ∈ rz_P ∧ Cond.isRef (.static Bundle.tN "SUPPRESSED_SENTINEL" Bundle.listD) ∈ rz_P := by decide +kernel
theorem rz_p7 : ∀ q ∈ rt_str, Cond.exactly (.string RX11 q.1) "java/lang/String" ∈ rz_P := by decide +kernel
theorem rz_q1 : tables_1[431]? = some (Cond.laysStatic RX9 "ALL" "[LWigOffice$Word;") ∧ tables_1[11]? = some (Cond.initialized RX9) ∧ tables_1[17]? = some (Cond.initialized Bundle.tN) ∧ tables_1[1072]? = some (Cond.laysStatic Bundle.tN "UNASSIGNED_STACK" Bundle.steD) ∧ tables_1[1074]? = some (Cond.laysStatic Bundle.tN "SUPPRESSED_SENTINEL" Bundle.listD) := by decide +kernel
theorem rz_q2 : ∀ q ∈ rt_str, Cond.stringRef RX11 q.1 q.2 ∈ tables_1 := by decide +kernel
