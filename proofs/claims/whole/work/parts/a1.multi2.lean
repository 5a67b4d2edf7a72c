/-! Layer 4: rows of rows made at once (2) -/
section
variable {p : Program} {l : Launch} {e : Env} {R : Room} {s : State} {m : MethodId} {args : Array Value} {below : List Frame} {meth : Method} {c : Code} {T : State} {H : Heap} {locs : List Loc} {cells slots : Nat} {Q : State → Prop}
theorem mu_stand (X : Stand p l e R s m args below meth c T locs cells slots) (c1 c2 : ClassId) (N M : Nat) : ∀ i, ∃ locs', Stand p l e R s m args below meth c (mu_s T c1 c2 N M i) locs' (cells + 1 + i) (slots + N + i * M) ∧ ∀ q ∈ locs', q ∈ locs ∨ q.base = T.heap.size
  | 0 => by
    have h := X.pushed (arrV c2 N (mu_g T.heap.size 0))
    rw [arrV_size] at h
    exact ⟨locs, by simpa [mu_s] using h, fun q hq => Or.inl hq⟩
  | i + 1 => by
    obtain ⟨locs', X', hl⟩ := mu_stand X c1 c2 N M i
    obtain ⟨f1, f2, f3, f4, f5, f6⟩ := mu_s_f T c1 c2 N M i
    have hq2 : T.heap.size < (mu_s T c1 c2 N M i).heap.size := by omega
    have hcell : ((mu_s T c1 c2 N M i).pushCell (arrV c1 M (fun _ => .int 0))).heap[T.heap.size]? = some (arrV c2 N (mu_g T.heap.size i)) := by rw [State.heap_pushCell_of_lt _ _ hq2]; exact f2
    have h := (X'.pushed (arrV c1 M (fun _ => .int 0))).stored hcell i (.ref (T.heap.size + 1 + i))
    rw [arrV_size, arrV_store] at h
    refine ⟨locs' ++ [⟨T.heap.size, i⟩], ?_, fun q hq => ?_⟩
    rotate_left
    · rcases List.mem_append.mp hq with q1 | q1
      · exact hl q q1
      · rw [List.mem_singleton.mp q1]; exact Or.inr rfl
    · rw [show slots + N + (i + 1) * M = slots + N + i * M + M by rw [Nat.succ_mul]; omega]
      exact h
theorem mu_W {cc : ByteArray} (hexec : p.tables.exec = Jvm.exec) (hb : c.code = cc) {own : String} {idx : Nat} (hown : s.vm.findClass own = some m.cls) (hclink : (Cond.classLink own idx "[[I").before args s = true) (hover : (Cond.arrayOver (.array .int)).before args s = true) (harr : (Cond.arrayClass .int).before args s = true)
    {g : JFrame} (hg : g.method = m) (hdg : decode cc g.pc = .ok (.multianewarray idx 2, 4)) {n k : Int32} {rest : List Value} {N M : Nat} (hstack : g.stack = .int k :: .int n :: rest) (hn : ¬ n < 0) (hk : ¬ k < 0) (hN : n.toNatClampNeg = N) (hM : k.toNatClampNeg = M) (n1 : N ≤ 1000) (m1 : M ≤ 1000) (hcells : cells + (1 + N) ≤ R.cells) (hslots : slots + (N + N * M) ≤ R.slots)
    (kk : ∀ (c1 c2 : ClassId) (H1 : Heap) (locs1 : List Loc), s.vm.findClass "[[I" = some c2 → s.vm.findClass "[I" = some c1 → H1.size = H.size + 1 + N → (∀ q, q < H.size → H1[q]? = H[q]?) → H1[H.size]? = some (arrV c2 N (mu_g H.size N)) → (∀ j, j < N → H1[H.size + 1 + j]? = some (arrV c1 M (fun _ => .int 0))) → (∀ q ∈ locs1, q ∈ locs ∨ q.base = H.size) →
      W p l e R s m args below meth c H1 locs1 (cells + 1 + N) (slots + N + N * M) Q { g with pc := g.pc + 4, stack := .ref H.size :: rest }) : W p l e R s m args below meth c H locs cells slots Q g := by
  intro T hT X
  subst hT; subst hb; subst hg
  have hpl : e.platform.magicAccessors = ({} : Platform).magicAccessors := by rw [X.admits.platform]
  obtain ⟨c1, c2, k2, hc1, -, hk2, hkind2, hname2⟩ := arrayOverA_spec hover
  obtain ⟨c1', k1, ci, hc1', hk1, hkind1⟩ := Cond.arrayClass_spec harr
  cases hc1.symm.trans hc1'
  obtain ⟨c0, hfc0, hcl⟩ := Cond.classLink_spec hown hclink e.platform hpl
  cases hname2.symm.trans hfc0
  obtain ⟨hg₁, hwarm₁, hready₁⟩ := State.classEntry (e := e) X.warmed hcl
  generalize T.vm.noted g.method.cls idx (.cls c2) = vm₁ at hg₁ hwarm₁ hready₁
  have hal : s.vm.Alike vm₁ := hwarm₁.alike
  obtain ⟨k2', hk2', he2⟩ := hal.2.2 _ _ hk2
  obtain ⟨k1', hk1', he1⟩ := hal.2.2 _ _ hk1
  have hkind2' : k2'.kind = .array c1 (.array .int) := by rw [he2]; exact hkind2
  have hkind1' : k1'.kind = .array ci .int := by rw [he1]; exact hkind1
  have X₁ := X.noted hwarm₁
  obtain ⟨hr1, hr2⟩ := X.roomAbove hcells hslots
  obtain ⟨locs1, XF, hl⟩ := mu_stand X₁ c1 c2 N M N
  obtain ⟨f1, f2, f3, f4, f5, f6⟩ := mu_s_f (T.setVm vm₁) c1 c2 N M N
  obtain ⟨t, a1, b1⟩ := kk c1 c2 _ locs1 hname2 hc1 f1 f5 f2 f6 hl (mu_s (T.setVm vm₁) c1 c2 N M N) rfl XF
  refine ⟨t, ?_, b1⟩
  have hl1 : ¬ N > e.platform.arrayLengthLimit := by rw [Launch.admits_arrayLengthLimit X.admits]; omega
  have hh1 : ¬ N * componentBytes (.array .int) > e.platform.maxHeapBytes := by
    rw [Launch.admits_maxHeapBytes X.admits]; show ¬ N * 4 > 536870912; omega
  have hl2 : ¬ M > e.platform.arrayLengthLimit := by rw [Launch.admits_arrayLengthLimit X.admits]; omega
  have hh2 : ¬ M * componentBytes .int > e.platform.maxHeapBytes := by
    rw [Launch.admits_maxHeapBytes X.admits]; show ¬ M * 4 > 536870912; omega
  jvm_step X.here [hexec, hdg]
  simp only [Jvm.Op.multianewarray.sem, wp_bind', W.resolveClassAt_links (State.method?_setTop g X.here.top) hg₁]
  rw [W.popN, if_neg (by decide)]
  refine ⟨g, State.topJava?_setTop' (s := T.setVm vm₁) g X.here.top, [.int n, .int k], rest, rfl, hstack, ?_⟩
  simp only [List.mapM_cons, List.mapM_nil, wp_bind', wp_pure']
  refine mu_rows (N := N) (M := M) hk2' hkind2' hk1' hkind1' hn hk hN hM hl1 hh1 hl2 hh2 (by show T.heap.size + 1 + _ ≤ _; omega) (by show T.slotsUsed + _ + _ ≤ _; omega) (fun d' acts' => ?_)
  have eS : ((T.setTop g).setVm vm₁).setTop { g with stack := rest } = (T.setVm vm₁).setTop { g with stack := rest } := by
    show ((T.setVm vm₁).setTop g).setTop _ = _
    rw [State.setTop_setTop]
  rw [eS, mu_s_top]
  simp only [wp_bind', W.mark, W.pushRef, State.topJava?_setTop' _ XF.here.top, Option.some.injEq, exists_eq_left', State.setTop_setTop, State.heap_setTop]
  intro acts
  simp [jvm, XF.here.top]
  exact a1
end
