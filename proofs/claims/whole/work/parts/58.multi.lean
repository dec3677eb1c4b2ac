/-! A ROW OF ROWS OF INTS IS MADE (two lengths). The heap is said as one row of cells: what was there, the outer row, as many inner rows as are made; one lemma tells each place of it. That the loop comes to an end somewhere is told apart from what the machine does there (rr_run). -/
/-- the outer row, i of its places laid -/
def rrO (cA : ClassId) (h N i : Nat) : Cell := arrV cA N (fun j => if j < i then .ref (h + 1 + j) else .null)
/-- an inner row -/
abbrev rrI (cI : ClassId) (M : Nat) : Cell := arrV cI M (fun _ => .int 0)
/-- the heap with i inner rows -/
def rrH (H : Heap) (cA cI : ClassId) (N M i : Nat) : Heap := H.push (rrO cA H.size N i) ++ Array.replicate i (rrI cI M)
theorem rrH_size (H : Heap) (cA cI : ClassId) (N M i : Nat) : (rrH H cA cI N M i).size = H.size + 1 + i := by simp [rrH]
theorem rrH_at (H : Heap) (cA cI : ClassId) (N M i q : Nat) : (rrH H cA cI N M i)[q]? = if q < H.size then H[q]? else if q = H.size then some (rrO cA H.size N i) else if q < H.size + 1 + i then some (rrI cI M) else none := by
  rcases Nat.lt_trichotomy q H.size with h | h | h
  · rw [if_pos h, rrH, Array.getElem?_append_left (by rw [Array.size_push]; omega), Array.getElem?_push, if_neg (Nat.ne_of_lt h)]
  · rw [if_neg (by omega), if_pos h, rrH, Array.getElem?_append_left (by rw [Array.size_push]; omega), Array.getElem?_push, if_pos h]
  · rw [if_neg (by omega), if_neg (by omega), rrH, Array.getElem?_append_right (by rw [Array.size_push]; omega), Array.getElem?_replicate, Array.size_push]
    by_cases h2 : q < H.size + 1 + i
    · rw [if_pos h2, if_pos (by omega)]
    · rw [if_neg h2, if_neg (by omega)]
theorem rrO_next (cA : ClassId) (h N i : Nat) : (rrO cA h N i).setSlot i (.ref (h + 1 + i)) = rrO cA h N (i + 1) := by
  rw [rrO, arrV_store, rrO]
  refine congrArg (arrV cA N) (funext fun j => ?_)
  rcases Nat.lt_trichotomy j i with h1 | h1 | h1
  · simp [updV, Nat.ne_of_lt h1, h1, Nat.lt_succ_of_lt h1]
  · simp [updV, h1]
  · simp [updV, Nat.ne_of_gt h1, Nat.not_lt_of_gt h1, show ¬ j < i + 1 by omega]
theorem rrH_next (H : Heap) (cA cI : ClassId) (N M i : Nat) : ((rrH H cA cI N M i).push (rrI cI M)).setIfInBounds H.size (rrO cA H.size N (i + 1)) = rrH H cA cI N M (i + 1) := by
  apply Array.ext_getElem?
  intro q
  rw [Array.getElem?_setIfInBounds, Array.getElem?_push, rrH_at, rrH_at, Array.size_push, rrH_size]
  rcases Nat.lt_trichotomy q H.size with h | h | h
  · rw [if_neg (by omega), if_neg (by omega), if_pos h, if_pos h]
  · rw [if_pos h.symm, if_pos (by omega), if_neg (by omega), if_pos h]
  · rw [if_neg (by omega)]
    by_cases h2 : q = H.size + 1 + i
    · rw [if_pos h2, if_neg (by omega), if_neg (by omega), if_pos (by omega)]
    · rw [if_neg h2, if_neg (by omega), if_neg (by omega)]
      by_cases h3 : q < H.size + 1 + i
      · rw [if_pos h3, if_neg (by omega), if_neg (by omega), if_pos (by omega)]
      · rw [if_neg h3, if_neg (by omega), if_neg (by omega), if_neg (by omega)]
/-- A LOOP WHOSE ROUNDS ARE KNOWN ENDS IN A STATE THAT NEITHER FRAME NOR AIM DECIDES: so the state can be named ahead of the machine's step. -/
theorem rr_run {e : Env} {N : Nat} (J : Nat → State → Prop) (nx : Nat → State → State) (hJ : ∀ i U, i < N → J i U → J (i + 1) (nx i U)) :
    ∀ (r i : Nat) (U : State), i + r = N → J i U → ∃ U', J N U' ∧ ∀ (g : JFrame) (E : CtlPost) (f : Nat → PUnit → Sem (ForInStep PUnit)),
      (∀ (x : Nat) (V : State) (d : Bool) (acts : List Action) (Q : ForInStep PUnit → Pre), x < N → J x V → (∀ d' acts', Q (.yield PUnit.unit) d' acts' ((nx x V).setTop g)) → wp (f x PUnit.unit) Q E e d acts (V.setTop g)) →
      ∀ (Q : PUnit → Pre) (d : Bool) (acts : List Action), (∀ d' acts', Q PUnit.unit d' acts' (U'.setTop g)) → wp (forIn (List.range' i r) PUnit.unit f) Q E e d acts (U.setTop g)
  | 0, i, U, hi, hU => ⟨U, (show i = N by omega) ▸ hU, fun g E f _ Q d acts hq => by
      rw [List.range'_zero, List.forIn_nil, wp_pure']
      exact hq d acts⟩
  | r + 1, i, U, hi, hU => by
    obtain ⟨U', h1, h2⟩ := rr_run (e := e) J nx hJ r (i + 1) (nx i U) (by omega) (hJ i U (by omega) hU)
    refine ⟨U', h1, fun g E f hf Q d acts hq => ?_⟩
    rw [List.range'_succ, List.forIn_cons, wp_bind']
    exact hf i U d acts _ (by omega) hU (fun d' acts' => h2 g E f hf Q d' acts' hq)
/-- one inner row is made and laid -/
theorem rr_body {E : CtlPost} {e : Env} {d : Bool} {acts : List Action} {s : State} {cA cI c0 : ClassId} {kA kI : Class} {k : Int32} {h N x : Nat} {Q : ForInStep PUnit → Pre} (hkA : s.vm.classes[cA]? = some kA) (hA : kA.kind = .array cI (.array .int)) (hkI : s.vm.classes[cI]? = some kI) (hI : kI.kind = .array c0 .int) (hk : ¬ k < 0) (hx : x < N)
    (l1 : ¬ k.toNatClampNeg > e.platform.arrayLengthLimit) (l2 : ¬ k.toNatClampNeg * componentBytes .int > e.platform.maxHeapBytes) (l3 : s.heap.size < e.platform.maxCells) (l4 : s.slotsUsed + k.toNatClampNeg ≤ e.platform.maxSlots) (hh : h < s.heap.size) (ho : s.heap[h]? = some (rrO cA h N x))
    (hq : ∀ d' acts', Q (.yield PUnit.unit) d' acts' ((s.pushCell (rrI cI k.toNatClampNeg)).setCell h ((rrO cA h N x).setSlot x (.ref s.heap.size)))) :
    wp (do let a ← multianewarray.make cI [k]; writeLoc h x (.ref a); Pure.pure (ForInStep.yield PUnit.unit)) Q E e d acts s := by
  simp only [multianewarray.make, wp_bind', W.ite, if_neg hk, W.theClass, hkI, hI, wp_pure']
  refine ⟨kI, rfl, ?_⟩
  rw [hI]
  refine W.newArray_of hkI hI l1 l2 l3 l4 (init := .int 0) rfl (fun acts' => ?_)
  rw [arrV_new, wp_bind', W.writeLoc]
  have hne : (s.pushCell (rrI cI k.toNatClampNeg)).heap[h]? = some (rrO cA h N x) := (State.heap_pushCell_of_lt _ _ hh).trans ho
  have hfit : (s.pushCell (rrI cI k.toNatClampNeg)).fitsSlot cA .none x (.ref s.heap.size) = true := by
    simp only [State.fitsSlot, State.slotType?, State.pushCell, hkA, Option.bind_eq_bind, Option.bind_some, hA]
    rfl
  refine ⟨_, hne, fun h9 => ?_, ?_, hfit, ?_⟩
  · cases h9
  · rw [rrO, arrV_size]; exact hx
  · rw [wp_pure']; exact hq _ _
/-- the class of rows of rows, out of the word for it -/
theorem mg_over {args : Array Value} {s : State} (h : (Cond.arrayOver (.array .int)).before args s = true) : ∃ cI cA k, s.vm.findClass "[I" = some cI ∧ s.vm.classes[cA]? = some k ∧ k.kind = .array cI (.array .int) ∧ s.vm.findClass "[[I" = some cA := by
  have h0 : (Cond.arrayOver (.array .int)).holds args s none s [] = true := h
  rw [Cond.holds, beq_iff_eq, Cond.value] at h0
  obtain ⟨cI, a1, a2⟩ := Option.bind_eq_some_iff.mp h0
  obtain ⟨cA, b1, b2⟩ := Option.bind_eq_some_iff.mp a2
  obtain ⟨k, c1, c2⟩ := Option.map_eq_some_iff.mp b2
  have d1 := Array.of_findIdx?_eq_some b1
  rw [c1] at d1
  refine ⟨cI, cA, k, a1, c1, ?_⟩
  rcases hq : k.kind with _ | ⟨q1, q2⟩ | q3
  · rw [hq] at c2; cases c2
  · rw [hq] at c2
    replace d1 : (match k.kind with | .array component _ => component == cI | _ => false) = true := d1
    rw [hq] at d1
    have c3 := Bool.and_eq_true_iff.mp c2
    exact ⟨by rw [beq_iff_eq.mp d1, of_decide_eq_true c3.1], of_decide_eq_true c3.2⟩
  · rw [hq] at c2; cases c2
theorem rrO_none (cA : ClassId) (h N : Nat) : rrO cA h N 0 = arrV cA N (fun _ => .null) := congrArg (arrV cA N) (funext fun j => if_neg (Nat.not_lt_zero j))
theorem rrO_full (cA : ClassId) (h N : Nat) : rrO cA h N N = arrV cA N (fun j => .ref (h + 1 + j)) := by
  rw [rrO, arrV, arrV]
  congr 2
  funext j
  exact if_pos j.isLt
/-- the next state of the loop -/
def rrN (h : Nat) (cA cI : ClassId) (N M i : Nat) (U : State) : State := (U.pushCell (rrI cI M)).setCell h ((rrO cA h N i).setSlot i (.ref U.heap.size))
/-- what is known of the state with i rows made -/
def rrJ (p : Program) (l : Launch) (e : Env) (R : Room) (s : State) (m : MethodId) (args : Array Value) (below : List Frame) (meth : Method) (c : Code) (H : Heap) (vm : Vm) (b : Nat) (locs : List Loc) (cells slots : Nat) (cA cI : ClassId) (N M i : Nat) (U : State) : Prop :=
  U.heap = rrH H cA cI N M i ∧ U.vm = vm ∧ U.slotsUsed = b + N + i * M ∧ ∃ lo, (∀ x ∈ lo, x ∈ locs ∨ x.base = H.size) ∧ Stand p l e R s m args below meth c U lo (cells + 1 + i) (slots + N + i * M)
theorem rrJ_next {p : Program} {l : Launch} {e : Env} {R : Room} {s : State} {m : MethodId} {args : Array Value} {below : List Frame} {meth : Method} {c : Code} {H : Heap} {vm : Vm} {b : Nat} {locs : List Loc} {cells slots : Nat} {cA cI : ClassId} {N M i : Nat} {U : State}
    (hU : rrJ p l e R s m args below meth c H vm b locs cells slots cA cI N M i U) : rrJ p l e R s m args below meth c H vm b locs cells slots cA cI N M (i + 1) (rrN H.size cA cI N M i U) := by
  obtain ⟨h1, h2, h3, lo, h4, X⟩ := hU
  have hs : U.heap.size = H.size + 1 + i := by rw [h1, rrH_size]
  have ho : (U.pushCell (rrI cI M)).heap[H.size]? = some (rrO cA H.size N i) := by
    show (U.heap.push _)[H.size]? = _
    rw [Array.getElem?_push, if_neg (by omega), h1, rrH_at, if_neg (Nat.lt_irrefl _), if_pos rfl]
  have hm : b + N + (i + 1) * M = b + N + i * M + M := by rw [Nat.add_mul, Nat.one_mul]; omega
  have hm2 : slots + N + (i + 1) * M = slots + N + i * M + M := by rw [Nat.add_mul, Nat.one_mul]; omega
  have Y := (X.pushed (rrI cI M)).stored ho i (.ref U.heap.size)
  rw [show (rrI cI M).slots.size = M from arrV_size _ _ _, ← hm2] at Y
  refine ⟨?_, h2, ?_, _, fun x hx => ?_, Y⟩
  · show (U.heap.push (rrI cI M)).setIfInBounds H.size ((rrO cA H.size N i).setSlot i (.ref U.heap.size)) = _
    rw [hs, rrO_next, h1, rrH_next]
  · show U.slotsUsed + (rrI cI M).slots.size = _
    rw [h3, hm, show (rrI cI M).slots.size = M from arrV_size _ _ _]
  · rcases List.mem_append.mp hx with q | q
    · exact h4 x q
    · exact .inr (by rw [List.mem_singleton.mp q])
theorem rrJ_first {p : Program} {l : Launch} {e : Env} {R : Room} {s : State} {m : MethodId} {args : Array Value} {below : List Frame} {meth : Method} {c : Code} {T : State} {locs : List Loc} {cells slots : Nat} (X : Stand p l e R s m args below meth c T locs cells slots) (cA cI : ClassId) (N M : Nat) :
    rrJ p l e R s m args below meth c T.heap T.vm T.slotsUsed locs cells slots cA cI N M 0 (T.pushCell (rrO cA T.heap.size N 0)) := by
  have Y := X.pushed (rrO cA T.heap.size N 0)
  have hz : (rrO cA T.heap.size N 0).slots.size = N := arrV_size _ _ _
  rw [hz] at Y
  refine ⟨?_, rfl, ?_, locs, fun x hx => .inl hx, by rw [Nat.zero_mul]; exact Y⟩
  · show T.heap.push _ = T.heap.push _ ++ Array.replicate 0 _
    rw [Array.replicate_zero, Array.append_empty]
  · show T.slotsUsed + (rrO cA T.heap.size N 0).slots.size = _
    rw [hz, Nat.zero_mul, Nat.add_zero]
theorem W_multi {p : Program} {l : Launch} {e : Env} {R : Room} {s : State} {m : MethodId} {args : Array Value} {below : List Frame} {meth : Method} {c : Code} {H : Heap} {locs : List Loc} {cells slots : Nat} {Q : State → Prop} {cc : ByteArray} {pc : Nat} {ls : Array Slot} {rest : List Value}
    (hexec : p.tables.exec = Jvm.exec) (hb : c.code = cc) {own : String} {index : Nat} (hown : s.vm.findClass own = some m.cls) (hclink : (Cond.classLink own index "[[I").before args s = true) (hov : ∃ cI cA k, s.vm.findClass "[I" = some cI ∧ s.vm.classes[cA]? = some k ∧ k.kind = .array cI (.array .int) ∧ s.vm.findClass "[[I" = some cA) (harr : (Cond.arrayClass .int).before args s = true)
    {n k : Int32} {N M : Nat} (hN : n.toNatClampNeg = N) (hM : k.toNatClampNeg = M) (hn : ¬ n < 0) (hk : ¬ k < 0) (hN1 : N ≤ 1000) (hM1 : M ≤ 1000) (hcells : cells + (1 + N) ≤ R.cells) (hslots : slots + (N + N * M) ≤ R.slots) (hdg : decode cc pc = .ok (.multianewarray index 2, 4))
    (kk : ∀ (H1 : Heap) (locs1 : List Loc) (cA cI : ClassId), H1.size = H.size + 1 + N → H1[H.size]? = some (arrV cA N (fun j => .ref (H.size + 1 + j))) → (∀ j, j < N → H1[H.size + 1 + j]? = some (arrV cI M (fun _ => .int 0))) → (∀ q, q < H.size → H1[q]? = H[q]?) → ArrOfT s cA (.array .int) → s.vm.findClass "[[I" = some cA → s.vm.findClass "[I" = some cI → (∀ x ∈ locs1, x ∈ locs ∨ x.base = H.size) →
      W p l e R s m args below meth c H1 locs1 (cells + 1 + N) (slots + N + N * M) Q (F0 m (pc + 4) ls (.ref H.size :: rest))) : W p l e R s m args below meth c H locs cells slots Q (F0 m pc ls (.int k :: .int n :: rest)) := by
  intro T hT X
  subst hT hN hM hb
  obtain ⟨cI, cA, kA, i1, i2, i3, i4⟩ := hov
  obtain ⟨cJ, kI, c0, j1, j2, j3⟩ := Cond.arrayClass_spec harr
  obtain rfl : cI = cJ := Option.some.inj (i1.symm.trans j1)
  obtain ⟨cB, b1, b2⟩ := Cond.classLink_spec hown hclink e.platform (by rw [X.admits.platform])
  obtain rfl : cA = cB := Option.some.inj (i4.symm.trans b1)
  obtain ⟨v1, v2, -⟩ := State.classEntry (e := e) X.warmed b2
  generalize T.vm.noted m.cls index (.cls cA) = vm at v1 v2
  obtain ⟨kA', u1, u2⟩ := v2.alike.2.2 _ _ i2
  obtain ⟨kI', w1, w2⟩ := v2.alike.2.2 _ _ j2
  obtain ⟨r1, r2⟩ := X.roomAbove hcells hslots
  obtain ⟨U, ⟨q1, q2, q3, lo, q4, Y⟩, run⟩ := rr_run (e := e) (N := n.toNatClampNeg) _ (rrN T.heap.size cA cI n.toNatClampNeg k.toNatClampNeg) (fun i V _ hV => rrJ_next hV) n.toNatClampNeg 0 _ (Nat.zero_add _) (rrJ_first (X.noted v2) cA cI n.toNatClampNeg k.toNatClampNeg)
  replace q1 : U.heap = rrH T.heap cA cI n.toNatClampNeg k.toNatClampNeg n.toNatClampNeg := q1
  obtain ⟨t, a1, a2⟩ := kk U.heap lo cA cI (by rw [q1, rrH_size]) (by rw [q1, rrH_at, if_neg (Nat.lt_irrefl _), if_pos rfl, rrO_full]) (fun j hj => by rw [q1, rrH_at, if_neg (by omega), if_neg (by omega), if_pos (by omega)]) (fun q hq => by rw [q1, rrH_at, if_pos hq]) (fun _ _ => ⟨fun _ h => (by cases h), kA, i2, cI, i3⟩) i4 i1 q4 U rfl Y
  refine ⟨t, ?_, a2⟩
  jvm_step X.here [hexec, hdg]
  have top : (T.setVm vm).topJava?.isSome := X.here.top
  rw [multianewarray.sem, wp_bind', W.resolveClassAt_links (State.method?_setTop _ X.here.top) v1, wp_bind']
  refine (popN_top (s := T.setVm vm) (f := F0 m pc ls (.int k :: .int n :: rest)) (args := [.int n, .int k]) (rest := rest) top rfl).mpr ?_
  rw [List.mapM_cons, List.mapM_cons, List.mapM_nil]
  simp only [wp_bind', wp_pure']
  rw [multianewarray.make]
  simp only [wp_bind', wp_pure', W.ite, if_neg hn]
  rw [W.theClass]
  refine ⟨kA', u1, ?_⟩
  have hA : kA'.kind = .array cI (.array .int) := by rw [u2]; exact i3
  have hI : kI'.kind = .array c0 .int := by rw [w2]; exact j3
  have hL := Launch.admits_arrayLengthLimit X.admits
  have hB := Launch.admits_maxHeapBytes X.admits
  have hno : List.find? (fun x => decide (x < 0)) [k] = none := by rw [List.find?_cons_of_neg (by simpa using hk), List.find?_nil]
  rw [hA, hno]
  simp only [ite_self]
  rw [wp_bind']
  refine W.newArray_of u1 hA (by rw [hL]; omega) (by rw [hB]; show ¬ n.toNatClampNeg * 4 > 536870912; omega) (by show T.heap.size < _; omega) (by show T.slotsUsed + _ ≤ _; omega) rfl (fun acts0 => ?_)
  rw [arrV_new, wp_bind', Std.Legacy.Range.forIn_eq_forIn_range', show ([:n.toNatClampNeg] : Std.Legacy.Range).size = n.toNatClampNeg from by simp [Std.Legacy.Range.size]]
  rw [rrO_none] at run
  refine run _ _ _ (fun x V d acts Q9 hx hV hq => ?_) _ _ _ (fun d9 acts9 => ?_)
  · obtain ⟨y1, y2, y3, -⟩ := hV
    have ys : V.heap.size = T.heap.size + 1 + x := by rw [y1, rrH_size]
    have hle : (x + 1) * k.toNatClampNeg ≤ n.toNatClampNeg * k.toNatClampNeg := Nat.mul_le_mul_right _ hx
    rw [Nat.add_mul, Nat.one_mul] at hle
    replace y3 : V.slotsUsed = T.slotsUsed + n.toNatClampNeg + x * k.toNatClampNeg := y3
    exact rr_body (s := V.setTop _) (by show V.vm.classes[cA]? = _; rw [y2]; exact u1) hA (by show V.vm.classes[cI]? = _; rw [y2]; exact w1) hI hk hx (by rw [hL]; omega) (by rw [hB]; show ¬ k.toNatClampNeg * 4 > 536870912; omega) (by show V.heap.size < _; omega) (by show V.slotsUsed + _ ≤ _; omega) (by show T.heap.size < V.heap.size; omega) (by show V.heap[T.heap.size]? = _; rw [y1]; exact (rrH_at _ _ _ _ _ _ _).trans (by rw [if_neg (Nat.lt_irrefl _), if_pos rfl]; rfl)) hq
  · rw [wp_pure', wp_bind', W.mark, W.pushRef]
    refine ⟨_, State.topJava?_setTop' _ Y.here.top, fun acts => ?_⟩
    rw [State.setTop_setTop]
    simpa [jvm, Y.here.top] using a1
