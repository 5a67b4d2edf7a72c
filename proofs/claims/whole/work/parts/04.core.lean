/-! the pure picture: a value is a tag (0 int, 1 long, 2 reference, 9 nothing) and a number; a reference is a cell's number: 0 .. 38 the Words, 39 their array, 40 the script, from 41 on the cells in the order of their making -/
abbrev rt_V : Type := Nat × Int
abbrev rt_M : Type := Nat → Nat → Int
/-- old addresses, classes, slots, array classes, the first new address, the script's length, the script -/
abbrev rt_G : Type := (Nat → Nat) × (Nat → ClassId) × (Nat → Nat → Nat) × (Nat → ClassId) × Nat × Nat × (Nat → Int32)
abbrev rt_dC (G : rt_G) : Nat → ClassId := G.2.1
abbrev rt_dI (G : rt_G) : Nat → Nat → Nat := G.2.2.1
abbrev rt_cA (G : rt_G) : Nat → ClassId := G.2.2.2.1
abbrev rt_base (G : rt_G) : Nat := G.2.2.2.2.1
abbrev rt_L (G : rt_G) : Nat := G.2.2.2.2.2.1
abbrev rt_xs (G : rt_G) : Nat → Int32 := G.2.2.2.2.2.2
def rt_ad (G : rt_G) (k : Nat) : Nat := if k < 41 then G.1 k else rt_base G + (k - 41)
def rt_A (G : rt_G) : Nat → Prop := fun q => rt_base G ≤ q
def rt_rf (G : rt_G) (x : Int) : Option Nat := if x < 0 then none else some (rt_ad G x.toNat)
def rt_tv (G : rt_G) (v : rt_V) : Value := match v.1 with
  | 0 => .int (Int32.ofInt v.2)
  | 1 => .long (Int64.ofInt v.2)
  | _ => va_rf (rt_rf G v.2)
def rt_ok (v : rt_V) : Prop := match v.1 with
  | 0 => -2147483648 ≤ v.2 ∧ v.2 < 2147483648
  | 1 => -9223372036854775808 ≤ v.2 ∧ v.2 < 9223372036854775808
  | _ => -1 ≤ v.2
def rt_sh (k : Nat) : Nat × Nat := if k < 41 then (0, 0) else rt_shL.getD (k - 41) (0, 0)
abbrev rt_kd (k : Nat) : Nat := (rt_sh k).1
abbrev rt_ln (k : Nat) : Nat := (rt_sh k).2
def rt_fty (ty : FieldType) : Nat := match ty with
  | .long => 1
  | .object _ => 2
  | .array _ => 2
  | _ => 0
def rt_aty (tc : Nat) : FieldType := match tc with
  | 1 => .int
  | 2 => .long
  | 3 => .boolean
  | 4 => .char
  | 5 => .object "WigOffice$Word"
  | 6 => .array .int
  | 7 => .object "WigOffice$Affairs"
  | 8 => .object "WigOffice$Stands"
  | _ => .long
def rt_at (tc : Nat) : Nat := rt_fty (rt_aty tc)
def rt_ft (ci j : Nat) : Nat := rt_fty (rt_ty ci j)
/-- the tag of a cell's place -/
def rt_tg (k j : Nat) : Nat := if rt_kd k < 20 then rt_at (rt_kd k) else rt_ft (rt_kd k - 20) j
/-- a cell of the heap, as the picture has it -/
def rt_HC (G : rt_G) (mem : rt_M) (H : Heap) (k : Nat) : Prop :=
  if rt_kd k < 20 then H[rt_ad G k]? = some (arrV (rt_cA G (rt_kd k)) (rt_ln k) (fun j => rt_tv G (rt_tg k j, mem k j)))
  else t_OB (rt_ad G k) (rt_dC G (rt_kd k - 20)) (rt_ln k) (rt_dI G (rt_kd k - 20)) H (fun j => rt_tv G (rt_tg k j, mem k j))
def rt_HR (G : rt_G) (nx : Nat) (mem : rt_M) (H : Heap) : Prop := ∀ k, 41 ≤ k → k < nx → rt_HC G mem H k
/-- how many cells there are; exactly so many while nothing was thrown -/
def rt_HS (G : rt_G) (z : Nat × Nat) (H : Heap) : Prop := rt_base G + (z.1 - 41) ≤ H.size ∧ (z.2 = 0 → H.size = rt_base G + (z.1 - 41))
def rt_okM (mem : rt_M) : Prop := ∀ k j, 41 ≤ k → rt_ok (rt_tg k j, mem k j)
/-- locals: by their places; what is nothing is not spoken of -/
def rt_as (G : rt_G) (L : List rt_V) : List (Nat × Value) := (List.range L.length).filterMap (fun i => match L[i]? with
  | some v => if v.1 < 3 then some (i, rt_tv G v) else none
  | none => none)
def rt_mG : List Cond := lw_tbl.filter goodWord
def rt_nest (w : Cond) : Bool := match w with
  | .fieldLinkNest _ _ _ _ _ _ => true
  | .methodLinkNest _ _ _ _ => true
  | .arrayOver _ => true
  | .castable _ _ => true
  | .declares _ => true
  | _ => false
def rt_mN : List Cond := lw_tbl.filter rt_nest
def rt_wn : List String := ["WIG", "SIZE", "OFFICE", "LEAN", "HEAD", "AGED", "HEATS", "SLACK", "SWELLS", "JUDGES", "PUT", "OFF", "MEND", "SEASON", "PLAIN", "HOT", "BALD", "BOY", "NOT", "AND", "OR", "HEAT", "YEARS", "SORT", "WIGGED", "HEADED", "HARD", "OPEN", "CLOSE", "LESS", "SAME", "PLUS", "MINUS", "TIMES", "STOP", "NAME", "NUMBER", "END", "WRONG"]
/-- what a Word's letters are, packed; whether it may be a name -/
def rt_wp (i : Nat) : Int := [1963239, 242908517, 3841527017957, 228159726, 219771108, 205124324, 28130703987, 31098171883, 3983527327347, 3673750631155, 1850100, 1831782, 230258532, 3978687215598, 30292866286, 1718260, 207124068, 1619961, 1816564, 1603428, 14322, 219771124, 32694106483, 243005812, 4117212295908, 3600729846500, 219707748, 40, 41, 60, 61, 43, 45, 42, 59, 0, 0, 0, 0].getD i 0
def rt_wc (i : Nat) : Int := if (21 ≤ i ∧ i < 27) ∨ i = 35 then 1 else 0
/-- the texts of the throws -/
def rt_str : List (Nat × String) := [(309, "not 0 to 9, or no such number"), (318, "fewer are at rest"), (327, "not of a hundred, or not 1 to 3 tests"), (329, "it is never told")]
/-- what holds of the machine's tables and of what was there before, at a method's start -/
def rt_K (G : rt_G) (s : State) : Prop :=
  (∀ (c : Nat) (q : vw_C), rt_cl[c]? = some q → u_Kn s q.1 q.2.1 q.2.2 (rt_dC G c) (rt_dI G c)) ∧
  (∀ tc, 1 ≤ tc → tc ≤ 9 → ArrOfT s (rt_cA G tc) (rt_aty tc)) ∧
  (∀ tc, 5 ≤ tc → tc ≤ 8 → ∃ (kA : Class) (comp : ClassId), s.vm.classes[rt_cA G tc]? = some kA ∧ kA.kind = .array comp (rt_aty tc) ∧ (∀ C, rt_aty tc = .object C → s.vm.findClass C = some comp) ∧ ∃ kc : Class, s.vm.classes[comp]? = some kc) ∧
  (∀ w ∈ rt_mN, va_Nw w s) ∧
  (∀ i, i < 39 → va_Z RX9 (rt_wn.getD i "") "LWigOffice$Word;" (.ref (G.1 i)) (rt_A G) s s.heap ∧ va_O RX9 (G.1 i) (rt_A G) s s.heap ∧ va_OF RX9 "packed" "J" (.long (Int64.ofInt (rt_wp i))) (G.1 i) (rt_A G) s s.heap ∧ va_OF RX9 "canName" "Z" (.int (Int32.ofInt (rt_wc i))) (G.1 i) (rt_A G) s s.heap) ∧
  (va_Z RX9 "ALL" "[LWigOffice$Word;" (.ref (G.1 39)) (rt_A G) s s.heap ∧ va_T (.object RX9) (G.1 39) 39 (fun j => .ref (G.1 j)) (rt_A G) s s.heap) ∧
  (∀ i j, i < 41 → j < 41 → G.1 i = G.1 j → i = j) ∧ (∀ i, i < 41 → G.1 i < rt_base G) ∧ rt_base G ≤ s.heap.size ∧
  va_X (G.1 40) (rt_L G) (rt_xs G) s s.heap ∧
  (∀ tc, 1 ≤ tc → tc ≤ 9 → s.vm.findClass ("[" ++ (rt_aty tc).toString) = some (rt_cA G tc)) ∧
  (∀ q ∈ rt_str, ∃ sa, vk_R RX11 q.1 q.2 sa s) ∧ vx_Zq Bundle.tN "UNASSIGNED_STACK" Bundle.steD (rt_A G) s s.heap ∧ vx_Zq Bundle.tN "SUPPRESSED_SENTINEL" Bundle.listD (rt_A G) s s.heap
/-- a method: name, code, locals, what it returns, cells and places that it makes, mode (0: it returns; 1: or throws) -/
abbrev rt_Mt : Type := MethodName × ByteArray × Nat × Option FieldType × (Nat × Nat) × Nat
abbrev rt_y (M : rt_Mt) : MethodName := M.1
abbrev rt_c (M : rt_Mt) : ByteArray := M.2.1
abbrev rt_n (M : rt_Mt) : Nat := M.2.2.1
abbrev rt_r (M : rt_Mt) : Option FieldType := M.2.2.2.1
abbrev rt_mc (M : rt_Mt) : Nat := M.2.2.2.2.1.1
abbrev rt_ms (M : rt_Mt) : Nat := M.2.2.2.2.1.2
abbrev rt_md (M : rt_Mt) : Nat := M.2.2.2.2.2
abbrev rt_P : Type := Option rt_V → Nat × Nat → rt_M → Prop
def rt_Qc (G : rt_G) (Q : rt_P) : Array Value → State → Outcome → State → Prop := fun _ st o t =>
  (∃ (v : Option rt_V) (z : Nat × Nat) (mem : rt_M), o = .returned (v.map (rt_tv G)) ∧ Q v z mem ∧ (∀ w, v = some w → rt_ok w) ∧ rt_okM mem ∧ rt_HR G z.1 mem t.heap ∧ rt_HS G z t.heap) ∧ va_F (rt_A G) st t
/-- the places that the cells below n have -/
def rt_ss (n : Nat) : Nat := ((rt_shL.take (n - 41)).map (fun q => q.2)).sum
def rt_cells (z0 z : Nat × Nat) : Nat := (z.1 - z0.1) + 8 * (z.2 - z0.2)
def rt_slots (z0 z : Nat × Nat) : Nat := (rt_ss z.1 - rt_ss z0.1) + 200 * (z.2 - z0.2)
/-- where a method stands -/
def rt_C (M : rt_Mt) (d : Nat) (p : Program) (l : Launch) (R : Room) (s : State) (m : MethodId) (args : Array Value) (meth : Method) (c : Code) : Prop :=
  p.tables.exec = Jvm.exec ∧ c.code = rt_c M ∧ c.maxLocals = rt_n M ∧ s.vm.findClass (rt_y M).cls = some m.cls ∧ meth.sig.returnType = rt_r M ∧ meth.locks = false ∧ meth.name = (rt_y M).name ∧
  (∀ w ∈ rt_mG, w.before args s = true) ∧ d ≤ R.frames ∧ 40 * d ≤ R.locals ∧ rt_mc M ≤ R.cells ∧ rt_ms M ≤ R.slots ∧ l.stackTraces = false
/-- the judgement: from here the method comes to its end, and Q holds there -/
def RT (G : rt_G) (M : rt_Mt) (d : Nat) (z0 : Nat × Nat) (Q : rt_P) (pc : Nat) (L st : List rt_V) (z : Nat × Nat) (mem : rt_M) : Prop :=
  ∀ (p : Program) (l : Launch) (e : Env) (R : Room) (s : State) (m : MethodId) (args : Array Value) (below : List Frame) (meth : Method) (c : Code) (H : Heap) (locs : List Loc) (ls : Array Slot) (Z : State → Prop),
    rt_C M d p l R s m args meth c → rt_K G s → lv_has ls (rt_n M) (rt_as G L) → (∀ v ∈ L, rt_ok v) → (∀ v ∈ st, rt_ok v) → rt_okM mem → va_S (rt_A G) s.heap H locs → rt_HR G z.1 mem H → rt_HS G z H →
    (∀ t, MQ below (rt_Qc G Q) args s (rt_mc M) (rt_ms M) (rt_A G) t → Z t) →
    W p l e R s m args below meth c H locs (rt_cells z0 z) (rt_slots z0 z) Z (F0 m pc ls (st.map (rt_tv G)))
theorem rt_tv_i (G : rt_G) (x : Int32) : rt_tv G (0, x.toInt) = .int x := by simp [rt_tv]
theorem rt_tv_l (G : rt_G) (x : Int64) : rt_tv G (1, x.toInt) = .long x := by simp [rt_tv]
theorem rt_ok_i (x : Int32) : rt_ok (0, x.toInt) := ⟨x.le_toInt, x.toInt_lt⟩
theorem rt_ok_l (x : Int64) : rt_ok (1, x.toInt) := ⟨x.le_toInt, x.toInt_lt⟩
theorem rt_okc {v : rt_V} {st : List rt_V} (h : rt_ok v) (hs : ∀ w ∈ st, rt_ok w) : ∀ w ∈ v :: st, rt_ok w := fun w hw => by
  rcases List.mem_cons.mp hw with rfl | h'
  · exact h
  · exact hs w h'
theorem rt_okt {v : rt_V} {st : List rt_V} (hs : ∀ w ∈ v :: st, rt_ok w) : ∀ w ∈ st, rt_ok w := fun w hw => hs w (List.mem_cons_of_mem _ hw)
theorem rt_okh {v : rt_V} {st : List rt_V} (hs : ∀ w ∈ v :: st, rt_ok w) : rt_ok v := hs v List.mem_cons_self
theorem rt_i_id {x : Int} (h : rt_ok (0, x)) : (Int32.ofInt x).toInt = x := Int32.toInt_ofInt_of_le h.1 h.2
theorem rt_l_id {x : Int} (h : rt_ok (1, x)) : (Int64.ofInt x).toInt = x := Int64.toInt_ofInt_of_le h.1 h.2
theorem rt_i_inj {x y : Int} (hx : rt_ok (0, x)) (hy : rt_ok (0, y)) : Int32.ofInt x = Int32.ofInt y ↔ x = y :=
  ⟨fun h => by rw [← rt_i_id hx, ← rt_i_id hy, h], fun h => by rw [h]⟩
theorem rt_i_lt {x y : Int} (hx : rt_ok (0, x)) (hy : rt_ok (0, y)) : Int32.ofInt x < Int32.ofInt y ↔ x < y := by rw [Int32.lt_iff_toInt_lt, rt_i_id hx, rt_i_id hy]
theorem rt_i_le {x y : Int} (hx : rt_ok (0, x)) (hy : rt_ok (0, y)) : Int32.ofInt x ≤ Int32.ofInt y ↔ x ≤ y := by rw [Int32.le_iff_toInt_le, rt_i_id hx, rt_i_id hy]
theorem rt_ok0 : rt_ok (0, 0) := ⟨by decide, by decide⟩
theorem rt_as_mem {G : rt_G} {L : List rt_V} {q : Nat × Value} : q ∈ rt_as G L ↔ ∃ v, L[q.1]? = some v ∧ v.1 < 3 ∧ q.2 = rt_tv G v := by
  unfold rt_as
  rw [List.mem_filterMap]
  constructor
  · rintro ⟨i, hi, h⟩
    cases hv : L[i]? with
    | none => rw [hv] at h; cases h
    | some v =>
      rw [hv] at h
      by_cases h3 : v.1 < 3
      · simp only [h3, if_true, Option.some.injEq] at h
        subst h
        exact ⟨v, hv, h3, rfl⟩
      · simp only [h3, if_false] at h; cases h
  · rintro ⟨v, hv, h3, e⟩
    have hl : q.1 < L.length := (List.getElem?_eq_some_iff.mp hv).1
    refine ⟨q.1, List.mem_range.mpr hl, ?_⟩
    rw [hv]
    simp only [h3, if_true]
    rw [← e]
theorem rt_as_at {G : rt_G} {L : List rt_V} {ls : Array Slot} {n i : Nat} {v : rt_V} (h : lv_has ls n (rt_as G L)) (hv : L[i]? = some v) (h3 : v.1 < 3) : ls[i]? = some (.val (rt_tv G v)) :=
  h.2.2 (i, rt_tv G v) (rt_as_mem.mpr ⟨v, hv, h3, rfl⟩)
theorem rt_W_mono {p : Program} {l : Launch} {e : Env} {R : Room} {s : State} {m : MethodId} {args : Array Value} {below : List Frame} {meth : Method} {c : Code} {H : Heap} {locs : List Loc} {cells slots : Nat} {Q Z : State → Prop} {g : JFrame} (h : W p l e R s m args below meth c H locs cells slots Q g) (hz : ∀ t, Q t → Z t) : W p l e R s m args below meth c H locs cells slots Z g := fun T hT X => by
  obtain ⟨t, a, b⟩ := h T hT X
  exact ⟨t, a, hz t b⟩
theorem rt_cat (G : rt_G) (v : rt_V) : (rt_tv G v).category = if v.1 = 1 then 2 else 1 := by
  obtain ⟨t, x⟩ := v
  match t with
  | 0 => rfl
  | 1 => rfl
  | t + 2 =>
    have : ¬ (t + 2 = 1) := by omega
    simp only [this, if_false]
    show (va_rf (rt_rf G x)).category = 1
    cases rt_rf G x <;> rfl
