/-! Layer 4: rows of rows made at once -/
section
/-- what the outer row holds when i of its rows are made -/
def mu_g (h : Nat) : Nat → Nat → Value
  | 0 => fun _ => .null
  | i + 1 => updV (mu_g h i) i (.ref (h + 1 + i))
theorem mu_g_at (h : Nat) : ∀ i j, mu_g h i j = if j < i then .ref (h + 1 + j) else .null
  | 0, j => by rw [if_neg (Nat.not_lt_zero j)]; rfl
  | i + 1, j => by
    show (if j = i then _ else mu_g h i j) = _
    by_cases z : j = i
    · rw [if_pos z, if_pos (by omega), z]
    · rw [if_neg z, mu_g_at h i j]
      by_cases y : j < i
      · rw [if_pos y, if_pos (by omega)]
      · rw [if_neg y, if_neg (by omega)]
/-- the state when i rows are made -/
def mu_s (s : State) (c1 c2 : ClassId) (N M : Nat) : Nat → State
  | 0 => s.pushCell (arrV c2 N (mu_g s.heap.size 0))
  | i + 1 => ((mu_s s c1 c2 N M i).pushCell (arrV c1 M (fun _ => .int 0))).setCell s.heap.size (arrV c2 N (mu_g s.heap.size (i + 1)))
variable {s : State} {c1 c2 : ClassId} {N M : Nat}
theorem mu_s_f (s : State) (c1 c2 : ClassId) (N M : Nat) : ∀ i, (mu_s s c1 c2 N M i).heap.size = s.heap.size + 1 + i ∧ (mu_s s c1 c2 N M i).heap[s.heap.size]? = some (arrV c2 N (mu_g s.heap.size i)) ∧ (mu_s s c1 c2 N M i).vm = s.vm ∧ (mu_s s c1 c2 N M i).slotsUsed = s.slotsUsed + N + i * M ∧ (∀ q, q < s.heap.size → (mu_s s c1 c2 N M i).heap[q]? = s.heap[q]?) ∧ ∀ j, j < i → (mu_s s c1 c2 N M i).heap[s.heap.size + 1 + j]? = some (arrV c1 M (fun _ => .int 0))
  | 0 => ⟨by simp [mu_s], by simp [mu_s], rfl, by simp [mu_s, arrV_size], fun q hq => State.heap_pushCell_of_lt _ _ hq, fun j hj => absurd hj (Nat.not_lt_zero j)⟩
  | i + 1 => by
    obtain ⟨f1, f2, f3, f4, f5, f6⟩ := mu_s_f s c1 c2 N M i
    have hlt : s.heap.size < (mu_s s c1 c2 N M i).heap.size := by omega
    have hb : ((mu_s s c1 c2 N M i).pushCell (arrV c1 M (fun _ => .int 0))).heap[s.heap.size]? = some (arrV c2 N (mu_g s.heap.size i)) := by rw [State.heap_pushCell_of_lt (h := hlt)]; exact f2
    refine ⟨?_, State.heap_setCell_self hb, by simp [mu_s, f3], ?_, fun q hq => ?_, fun j hj => ?_⟩
    · simp [mu_s, State.setCell, f1]; omega
    · simp [mu_s, f4, arrV_size, Nat.succ_mul]; omega
    · show (((mu_s s c1 c2 N M i).pushCell (arrV c1 M (fun _ => .int 0))).setCell s.heap.size _).heap[q]? = _
      have hq2 : q < (mu_s s c1 c2 N M i).heap.size := by omega
      rw [State.heap_setCell_other (Nat.ne_of_gt hq), State.heap_pushCell_of_lt _ _ hq2]
      exact f5 q hq
    · show (((mu_s s c1 c2 N M i).pushCell (arrV c1 M (fun _ => .int 0))).setCell s.heap.size _).heap[s.heap.size + 1 + j]? = _
      rw [State.heap_setCell_other (show s.heap.size ≠ s.heap.size + 1 + j by omega)]
      by_cases z : j < i
      · have hq2 : s.heap.size + 1 + j < (mu_s s c1 c2 N M i).heap.size := by omega
        rw [State.heap_pushCell_of_lt _ _ hq2]
        exact f6 j z
      · obtain rfl : j = i := by omega
        rw [← f1]
        exact State.heap_pushCell_size _ _
theorem mu_s_top (s : State) (f : JFrame) (c1 c2 : ClassId) (N M : Nat) : ∀ i, mu_s (s.setTop f) c1 c2 N M i = (mu_s s c1 c2 N M i).setTop f
  | 0 => rfl
  | i + 1 => by simp only [mu_s, mu_s_top s f c1 c2 N M i, State.heap_setTop, State.pushCell_setTop, State.setCell_setTop]
variable {E : CtlPost} {e : Env} {d : Bool} {acts : List Action}
theorem mu_row {k1 : Class} {ci : ClassId} {m : Int32} (hk : s.vm.classes[c1]? = some k1) (hkind : k1.kind = .array ci .int) (hm : ¬ m < 0) (hM : m.toNatClampNeg = M) (hl : ¬ M > e.platform.arrayLengthLimit) (hh : ¬ M * componentBytes .int > e.platform.maxHeapBytes) (h1 : s.heap.size < e.platform.maxCells) (h2 : s.slotsUsed + M ≤ e.platform.maxSlots) {Q : Addr → Pre} (hq : ∀ a', Q s.heap.size d a' (s.pushCell (arrV c1 M (fun _ => .int 0)))) : wp (Jvm.Op.multianewarray.make c1 [m]) Q E e d acts s := by
  subst hM
  rw [Jvm.Op.multianewarray.make]
  simp only [wp_bind', W.ite, hm, if_false, wp_pure', W.theClass, hk, hkind, Option.some.injEq, exists_eq_left']
  exact W.newArray_of hk hkind hl hh h1 h2 rfl (fun a' => by rw [← arrV_new] at hq; exact hq a')
theorem mu_rows {k1 k2 : Class} {ci : ClassId} {n m : Int32} (hk2 : s.vm.classes[c2]? = some k2) (hkind2 : k2.kind = .array c1 (.array .int)) (hk1 : s.vm.classes[c1]? = some k1) (hkind1 : k1.kind = .array ci .int) (hn : ¬ n < 0) (hm : ¬ m < 0) (hN : n.toNatClampNeg = N) (hM : m.toNatClampNeg = M) (hl1 : ¬ N > e.platform.arrayLengthLimit) (hh1 : ¬ N * componentBytes (.array .int) > e.platform.maxHeapBytes) (hl2 : ¬ M > e.platform.arrayLengthLimit) (hh2 : ¬ M * componentBytes .int > e.platform.maxHeapBytes) (h1 : s.heap.size + 1 + N ≤ e.platform.maxCells) (h2 : s.slotsUsed + N + N * M ≤ e.platform.maxSlots) {Q : Addr → Pre} (hq : ∀ d' a', Q s.heap.size d' a' (mu_s s c1 c2 N M N)) : wp (Jvm.Op.multianewarray.make c2 [n, m]) Q E e d acts s := by
  have hf : ([m].find? (· < 0)) = none := by simp [hm]
  subst hN
  rw [Jvm.Op.multianewarray.make]
  simp only [wp_bind', W.ite, hn, if_false, wp_pure', W.theClass, hk2, hkind2, Option.some.injEq, exists_eq_left']
  refine W.newArray_of hk2 hkind2 hl1 hh1 (by omega) (by have := Nat.zero_le (n.toNatClampNeg * M); omega) rfl (fun a' => ?_)
  simp only [hf]
  rw [ite_self, wp_bind', Std.Legacy.Range.forIn_eq_forIn_range']
  have hsz : ([:n.toNatClampNeg] : Std.Legacy.Range).size = n.toNatClampNeg := by simp [Std.Legacy.Range.size]
  rw [hsz]
  show wp (forIn (List.range' 0 n.toNatClampNeg 1) PUnit.unit _) _ E e d _ _
  refine wp_forIn_inv (fun rest s' => ∃ i, i ≤ n.toNatClampNeg ∧ rest = List.range' i (n.toNatClampNeg - i) ∧ s' = mu_s s c1 c2 n.toNatClampNeg M i) _ _ ⟨0, Nat.zero_le _, rfl, by show State.pushCell _ _ = _; rw [arrV_new]; rfl⟩ ?_ ?_
  · rintro x rest s' d' acts' Q' ⟨i, hi, hl, rfl⟩ hnext
    have hlt : i < n.toNatClampNeg := by
      by_cases y : i < n.toNatClampNeg
      · exact y
      · rw [show n.toNatClampNeg - i = 0 by omega] at hl
        cases hl
    rw [show n.toNatClampNeg - i = (n.toNatClampNeg - (i + 1)) + 1 by omega, List.range'_succ] at hl
    obtain ⟨rfl, rfl⟩ := List.cons.inj hl
    obtain ⟨f1, f2, f3, f4, f5, f6⟩ := mu_s_f s c1 c2 n.toNatClampNeg M x
    have hmul : x * M + M ≤ n.toNatClampNeg * M := by
      have := Nat.mul_le_mul_right M (show x + 1 ≤ n.toNatClampNeg from hlt)
      rw [Nat.succ_mul] at this
      exact this
    simp only [wp_bind']
    refine mu_row (by rw [f3]; exact hk1) hkind1 hm hM hl2 hh2 (by rw [f1]; omega) (by rw [f4]; omega) (fun a2 => ?_)
    have hq2 : s.heap.size < (mu_s s c1 c2 n.toNatClampNeg M x).heap.size := by omega
    simp only [wp_bind', W.writeLoc, wp_pure']
    refine ⟨arrV c2 n.toNatClampNeg (mu_g s.heap.size x), by rw [State.heap_pushCell_of_lt _ _ hq2]; exact f2, (fun z => by cases z), by rw [arrV_size]; exact hlt, ?_, hnext _ _ _ ⟨x + 1, hlt, rfl, ?_⟩⟩
    · simp [State.fitsSlot, State.slotType?, f3, hk2, hkind2, arrV, fits]
    · rw [f1, arrV_store]; rfl
  · rintro s' d' acts' ⟨i, hi, hl, rfl⟩
    have hiN : i = n.toNatClampNeg := by
      by_cases y : i < n.toNatClampNeg
      · rw [show n.toNatClampNeg - i = (n.toNatClampNeg - (i + 1)) + 1 by omega, List.range'_succ] at hl
        cases hl
      · omega
    subst hiN
    simp only [wp_pure']
    exact hq _ _
end
