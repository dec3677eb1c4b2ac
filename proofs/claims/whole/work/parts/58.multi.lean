/-! A ROW OF ROWS OF INTS IS MADE (multianewarray, two lengths): the outer row first, then row by row, each laid as it is made -/
/-- the outer row, its first i places laid -/
def mgO (cA : ClassId) (N h i : Nat) : Cell := arrV cA N (fun j => if j < i then .ref (h + 1 + j) else .null)
theorem mgO_up (cA : ClassId) (N h i : Nat) : (mgO cA N h i).setSlot i (.ref (h + 1 + i)) = mgO cA N h (i + 1) := by
  unfold mgO
  rw [arrV_store]
  congr 1
  funext j
  unfold updV
  by_cases e : j = i
  · rw [if_pos e, if_pos (by omega), e]
  · rw [if_neg e]
    dsimp only
    by_cases e2 : j < i
    · rw [if_pos e2, if_pos (by omega)]
    · rw [if_neg e2, if_neg (by omega)]
/-- the state with i rows made -/
def mgT (s : State) (cA cI : ClassId) (N M : Nat) : Nat → State
  | 0 => s.pushCell (mgO cA N s.heap.size 0)
  | i + 1 => ((mgT s cA cI N M i).pushCell (arrV cI M (fun _ => .int 0))).setCell s.heap.size ((mgO cA N s.heap.size i).setSlot i (.ref (s.heap.size + 1 + i)))
theorem mgT_top (s : State) (f : JFrame) (cA cI : ClassId) (N M : Nat) : ∀ i, mgT (s.setTop f) cA cI N M i = (mgT s cA cI N M i).setTop f
  | 0 => rfl
  | i + 1 => by
    rw [mgT, mgT, mgT_top s f cA cI N M i]
    rfl
theorem mgT_is (s : State) (cA cI : ClassId) (N M : Nat) : ∀ i, (mgT s cA cI N M i).heap.size = s.heap.size + 1 + i ∧ (mgT s cA cI N M i).heap[s.heap.size]? = some (mgO cA N s.heap.size i) ∧ (mgT s cA cI N M i).vm = s.vm ∧ (mgT s cA cI N M i).slotsUsed = s.slotsUsed + N + i * M
  | 0 => ⟨by simp [mgT], by simp [mgT], rfl, by simp [mgT, mgO, arrV]⟩
  | i + 1 => by
    obtain ⟨h1, h2, h3, h4⟩ := mgT_is s cA cI N M i
    have hlt : s.heap.size < (mgT s cA cI N M i).heap.size := by omega
    have h5 : ((mgT s cA cI N M i).pushCell (arrV cI M (fun _ => .int 0))).heap[s.heap.size]? = some (mgO cA N s.heap.size i) := by rw [State.heap_pushCell_of_lt (h := hlt)]; exact h2
    refine ⟨?_, ?_, ?_, ?_⟩
    · simp [mgT, State.setCell, h1]
      omega
    · rw [mgT, State.heap_setCell_self h5, mgO_up]
    · simp [mgT, h3]
    · simp [mgT, h4, arrV, Nat.succ_mul]
      omega
theorem mgT_old (s : State) (cA cI : ClassId) (N M : Nat) {q : Nat} (hq : q < s.heap.size) : ∀ i, (mgT s cA cI N M i).heap[q]? = s.heap[q]?
  | 0 => State.heap_pushCell_of_lt _ _ hq
  | i + 1 => by
    have h1 := (mgT_is s cA cI N M i).1
    have hlt : q < (mgT s cA cI N M i).heap.size := by omega
    rw [mgT, State.heap_setCell_other (Nat.ne_of_gt hq), State.heap_pushCell_of_lt (h := hlt)]
    exact mgT_old s cA cI N M hq i
theorem mgT_row (s : State) (cA cI : ClassId) (N M : Nat) : ∀ i j, j < i → (mgT s cA cI N M i).heap[s.heap.size + 1 + j]? = some (arrV cI M (fun _ => .int 0))
  | 0, _, h => absurd h (by omega)
  | i + 1, j, h => by
    have h1 := (mgT_is s cA cI N M i).1
    rw [mgT, State.heap_setCell_other (show s.heap.size ≠ s.heap.size + 1 + j by omega)]
    by_cases e : j = i
    · rw [e, ← h1]
      exact State.heap_pushCell_size _ _
    · have hlt : s.heap.size + 1 + j < (mgT s cA cI N M i).heap.size := by omega
      rw [State.heap_pushCell_of_lt (h := hlt)]
      exact mgT_row s cA cI N M i j (by omega)
theorem mg_one {E : CtlPost} {e : Env} {d : Bool} {acts : List Action} {s : State} {cI c0 : ClassId} {kI : Class} {m : Int32} {Q : Addr → Pre} (hk : s.vm.classes[cI]? = some kI) (hkind : kI.kind = .array c0 .int) (hm : ¬ m < 0)
    (h1 : ¬ m.toNatClampNeg > e.platform.arrayLengthLimit) (h2 : ¬ m.toNatClampNeg * componentBytes .int > e.platform.maxHeapBytes) (h3 : s.heap.size < e.platform.maxCells) (h4 : s.slotsUsed + m.toNatClampNeg ≤ e.platform.maxSlots)
    (hq : ∀ acts', Q s.heap.size d acts' (s.pushCell (arrV cI m.toNatClampNeg (fun _ => .int 0)))) : wp (multianewarray.make cI [m]) Q E e d acts s := by
  rw [multianewarray.make]
  simp only [wp_bind', W.ite, hm, if_false, wp_pure', W.theClass, hk, hkind, Option.some.injEq, exists_eq_left']
  refine W.newArray_of hk hkind h1 h2 h3 h4 rfl (fun acts' => ?_)
  have := hq acts'
  rw [← arrV_new] at this
  exact this
theorem mg_two {E : CtlPost} {e : Env} {d : Bool} {acts : List Action} {s : State} {cA cI c0 : ClassId} {kA kI : Class} {n m : Int32} {Q : Addr → Pre} (hkA : s.vm.classes[cA]? = some kA) (hkindA : kA.kind = .array cI (.array .int)) (hk : s.vm.classes[cI]? = some kI) (hkind : kI.kind = .array c0 .int) (hn : ¬ n < 0) (hm : ¬ m < 0)
    (g1 : ¬ n.toNatClampNeg > e.platform.arrayLengthLimit) (g2 : ¬ n.toNatClampNeg * componentBytes (.array .int) > e.platform.maxHeapBytes) (h1 : ¬ m.toNatClampNeg > e.platform.arrayLengthLimit) (h2 : ¬ m.toNatClampNeg * componentBytes .int > e.platform.maxHeapBytes)
    (h3 : s.heap.size + 1 + n.toNatClampNeg ≤ e.platform.maxCells) (h4 : s.slotsUsed + n.toNatClampNeg + n.toNatClampNeg * m.toNatClampNeg ≤ e.platform.maxSlots)
    (hq : ∀ d' acts', Q s.heap.size d' acts' (mgT s cA cI n.toNatClampNeg m.toNatClampNeg n.toNatClampNeg)) : wp (multianewarray.make cA [n, m]) Q E e d acts s := by
  have hnone : ([m].find? (· < 0)) = none := by simp [hm]
  rw [multianewarray.make]
  simp only [wp_bind', W.ite, hn, if_false, wp_pure', W.theClass, hkA, hkindA, Option.some.injEq, exists_eq_left']
  refine W.newArray_of hkA hkindA g1 g2 (by omega) (by omega) rfl (fun acts' => ?_)
  rw [arrV_new]
  simp only [hnone]
  rw [ite_self, wp_bind', Std.Legacy.Range.forIn_eq_forIn_range']
  have hsz : ([:n.toNatClampNeg] : Std.Legacy.Range).size = n.toNatClampNeg := by simp [Std.Legacy.Range.size]
  rw [hsz]
  show wp (forIn (List.range' 0 n.toNatClampNeg 1) PUnit.unit _) _ E e d acts' _
  refine wp_forIn_inv (fun rest t => ∃ i, i + rest.length = n.toNatClampNeg ∧ rest = List.range' i rest.length ∧ t = mgT s cA cI n.toNatClampNeg m.toNatClampNeg i) _ _ ⟨0, by simp, by simp, ?_⟩ ?_ ?_
  · show _ = s.pushCell (mgO cA n.toNatClampNeg s.heap.size 0)
    congr 1
  · rintro x rest t d' acts2 Q' ⟨i, hi, hl, rfl⟩ hnext
    rw [List.length_cons, List.range'_succ] at hl
    obtain ⟨rfl, hl⟩ := List.cons.inj hl
    rw [List.length_cons] at hi
    obtain ⟨f1, f2, f3, f4⟩ := mgT_is s cA cI n.toNatClampNeg m.toNatClampNeg x
    have hmul : x * m.toNatClampNeg + m.toNatClampNeg ≤ n.toNatClampNeg * m.toNatClampNeg := by
      have := Nat.mul_le_mul_right m.toNatClampNeg (show x + 1 ≤ n.toNatClampNeg by omega)
      rw [Nat.succ_mul] at this
      exact this
    have hlt0 : s.heap.size < (mgT s cA cI n.toNatClampNeg m.toNatClampNeg x).heap.size := by omega
    simp only [wp_bind']
    refine mg_one (kI := kI) (c0 := c0) (by rw [f3]; exact hk) hkind hm h1 h2 (by omega) (by omega) (fun acts3 => ?_)
    simp only [wp_bind', W.writeLoc, wp_pure']
    refine ⟨mgO cA n.toNatClampNeg s.heap.size x, by rw [State.heap_pushCell_of_lt (h := hlt0)]; exact f2, by simp [mgO, arrV], by rw [mgO, arrV_size]; omega, ?_, hnext _ _ _ ⟨x + 1, by omega, hl, ?_⟩⟩
    · show State.fitsSlot _ cA .none x _ = true
      simp [State.fitsSlot, State.slotType?, f3, hkA, hkindA, fits]
    · rw [mgT, f1]
  · rintro t d' acts2 ⟨i, hi, hl, rfl⟩
    simp only [wp_pure']
    rw [show i = n.toNatClampNeg by simpa using hi]
    exact hq _ _
/-- what was made so far stands -/
theorem mg_stand {p : Program} {l : Launch} {e : Env} {R : Room} {s : State} {m : MethodId} {args : Array Value} {below : List Frame} {meth : Method} {c : Code} {T : State} {locs : List Loc} {cells slots : Nat} (X : Stand p l e R s m args below meth c T locs cells slots) (cA cI : ClassId) (N M : Nat) :
    ∀ i, ∃ locs', (∀ x ∈ locs', x ∈ locs ∨ x.base = T.heap.size) ∧ Stand p l e R s m args below meth c (mgT T cA cI N M i) locs' (cells + 1 + i) (slots + N + i * M)
  | 0 => by
    refine ⟨locs, fun x hx => Or.inl hx, ?_⟩
    have h := X.pushed (mgO cA N T.heap.size 0)
    rw [show (mgO cA N T.heap.size 0).slots.size = N from arrV_size _ _ _] at h
    rw [Nat.zero_mul, Nat.add_zero, Nat.add_zero]
    exact h
  | i + 1 => by
    obtain ⟨locs', h1, Xi⟩ := mg_stand X cA cI N M i
    obtain ⟨f1, f2, f3, f4⟩ := mgT_is T cA cI N M i
    have hlt0 : T.heap.size < (mgT T cA cI N M i).heap.size := by omega
    have hcell : ((mgT T cA cI N M i).pushCell (arrV cI M (fun _ => .int 0))).heap[T.heap.size]? = some (mgO cA N T.heap.size i) := by rw [State.heap_pushCell_of_lt (h := hlt0)]; exact f2
    have h := (Xi.pushed (arrV cI M (fun _ => .int 0))).stored hcell i (.ref (T.heap.size + 1 + i))
    rw [arrV_size] at h
    refine ⟨locs' ++ [⟨T.heap.size, i⟩], fun x hx => ?_, ?_⟩
    · rcases List.mem_append.mp hx with q | q
      · exact h1 x q
      · rw [List.mem_singleton.mp q]; exact Or.inr rfl
    · rw [Nat.succ_mul, show slots + N + (i * M + M) = slots + N + i * M + M by omega, show cells + 1 + (i + 1) = cells + 1 + i + 1 by omega]
      exact h
/-- the array class over rows of ints -/
theorem mg_over {args : Array Value} {s : State} (h : (Cond.arrayOver (.array .int)).before args s = true) : ∃ cI cA k, s.vm.findClass "[I" = some cI ∧ s.vm.classes[cA]? = some k ∧ k.kind = .array cI (.array .int) ∧ s.vm.findClass "[[I" = some cA := by
  have h : (Cond.arrayOver (.array .int)).holds args s none s [] = true := h
  simp only [Cond.holds, Cond.value, beq_iff_eq] at h
  cases hc : s.vm.findClass (FieldType.array .int).toString with
  | none => simp [hc] at h
  | some cI =>
    simp only [hc, Option.bind_some, Option.bind_eq_some_iff, Option.map_eq_some_iff] at h
    obtain ⟨cA, h1, k, h2, h3⟩ := h
    obtain ⟨hlt, hp, -⟩ := Array.findIdx?_eq_some_iff_getElem.mp h1
    rw [(Array.getElem?_eq_some_iff.mp h2).2] at hp
    cases hkind : k.kind with
    | array component ty =>
      rw [hkind] at h3 hp
      simp at h3 hp
      exact ⟨cI, cA, k, hc, h2, by rw [hkind, hp, h3.1], h3.2⟩
    | _ => rw [hkind] at h3; simp at h3
theorem W_multi {p : Program} {l : Launch} {e : Env} {R : Room} {s : State} {m : MethodId} {args : Array Value} {below : List Frame} {meth : Method} {c : Code} {H : Heap} {locs : List Loc} {cells slots : Nat} {Q : State → Prop} {cc : ByteArray} {pc : Nat} {ls : Array Slot} {rest : List Value}
    (hexec : p.tables.exec = Jvm.exec) (hb : c.code = cc) {own : String} {index : Nat} (hown : s.vm.findClass own = some m.cls) (hclink : (Cond.classLink own index "[[I").before args s = true) (hov : ∃ cI cA k, s.vm.findClass "[I" = some cI ∧ s.vm.classes[cA]? = some k ∧ k.kind = .array cI (.array .int) ∧ s.vm.findClass "[[I" = some cA) (harr : (Cond.arrayClass .int).before args s = true)
    {n k : Int32} {N M : Nat} (hN : n.toNatClampNeg = N) (hM : k.toNatClampNeg = M) (hn : ¬ n < 0) (hk : ¬ k < 0) (hN1 : N ≤ 1000) (hM1 : M ≤ 1000) (hcells : cells + (1 + N) ≤ R.cells) (hslots : slots + (N + N * M) ≤ R.slots) (hdg : decode cc pc = .ok (.multianewarray index 2, 4))
    (kk : ∀ (H1 : Heap) (locs1 : List Loc) (cA cI : ClassId), H1.size = H.size + 1 + N → H1[H.size]? = some (arrV cA N (fun j => .ref (H.size + 1 + j))) → (∀ j, j < N → H1[H.size + 1 + j]? = some (arrV cI M (fun _ => .int 0))) → (∀ q, q < H.size → H1[q]? = H[q]?) → ArrOfT s cA (.array .int) → s.vm.findClass "[[I" = some cA → s.vm.findClass "[I" = some cI → (∀ x ∈ locs1, x ∈ locs ∨ x.base = H.size) →
      W p l e R s m args below meth c H1 locs1 (cells + 1 + N) (slots + N + N * M) Q (F0 m (pc + 4) ls (.ref H.size :: rest))) : W p l e R s m args below meth c H locs cells slots Q (F0 m pc ls (.int k :: .int n :: rest)) := by
  intro T hT X
  subst hT
  subst hN
  subst hM
  have hpl : e.platform.magicAccessors = ({} : Platform).magicAccessors := by rw [X.admits.platform]
  obtain ⟨cI, cA, kA, i1, i2, i3, i4⟩ := hov
  obtain ⟨cI', kI, c0, j1, j2, j3⟩ := Cond.arrayClass_spec harr
  have eI : cI' = cI := Option.some.inj (j1.symm.trans i1)
  subst eI
  obtain ⟨cA', hf, hcl⟩ := Cond.classLink_spec hown hclink e.platform hpl
  have eA : cA' = cA := Option.some.inj (hf.symm.trans i4)
  subst eA
  obtain ⟨hg1, hw1, hr1⟩ := State.classEntry (e := e) X.warmed hcl
  generalize T.vm.noted m.cls index (.cls cA') = vm1 at hg1 hw1 hr1
  obtain ⟨kA1, hkA1, heA⟩ := hw1.alike.2.2 _ _ i2
  obtain ⟨kI1, hkI1, heI⟩ := hw1.alike.2.2 _ _ j2
  have hkindA : kA1.kind = .array cI' (.array .int) := by rw [heA]; exact i3
  have hkindI : kI1.kind = .array c0 .int := by rw [heI]; exact j3
  have X1 := X.noted hw1
  obtain ⟨r1, r2⟩ := X.roomAbove hcells hslots
  obtain ⟨locs1, hlocs, XF⟩ := mg_stand X1 cA' cI' n.toNatClampNeg k.toNatClampNeg n.toNatClampNeg
  obtain ⟨f1, f2, f3, f4⟩ := mgT_is (T.setVm vm1) cA' cI' n.toNatClampNeg k.toNatClampNeg n.toNatClampNeg
  have hmgo : mgO cA' n.toNatClampNeg T.heap.size n.toNatClampNeg = arrV cA' n.toNatClampNeg (fun j => .ref (T.heap.size + 1 + j)) := by
    unfold mgO arrV
    congr 1
    apply Array.ext
    · simp
    · intro j h1 h2
      simp at h1 ⊢
  obtain ⟨t, a1, b1⟩ := kk (mgT (T.setVm vm1) cA' cI' n.toNatClampNeg k.toNatClampNeg n.toNatClampNeg).heap locs1 cA' cI' f1 (by rw [← hmgo]; exact f2) (fun j hj => mgT_row (T.setVm vm1) cA' cI' _ _ _ j hj) (fun q hq => mgT_old (T.setVm vm1) cA' cI' _ _ hq _) (fun n z => ⟨fun k h => (by cases h), kA, i2, cI', i3⟩) i4 i1 hlocs _ rfl XF
  refine ⟨t, ?_, b1⟩
  have hl1 : ¬ n.toNatClampNeg > e.platform.arrayLengthLimit := by rw [Launch.admits_arrayLengthLimit X.admits]; omega
  have hh1 : ¬ n.toNatClampNeg * componentBytes (.array .int) > e.platform.maxHeapBytes := by rw [Launch.admits_maxHeapBytes X.admits]; show ¬ n.toNatClampNeg * 4 > 536870912; omega
  have hl2 : ¬ k.toNatClampNeg > e.platform.arrayLengthLimit := by rw [Launch.admits_arrayLengthLimit X.admits]; omega
  have hh2 : ¬ k.toNatClampNeg * componentBytes .int > e.platform.maxHeapBytes := by rw [Launch.admits_maxHeapBytes X.admits]; show ¬ k.toNatClampNeg * 4 > 536870912; omega
  rw [← hb] at hdg
  jvm_step X.here [hexec, hdg]
  simp only [multianewarray.sem, wp_bind', W.resolveClassAt_links (State.method?_setTop (F0 m pc ls (.int k :: .int n :: rest)) X.here.top) hg1]
  rw [W.popN, if_neg (by decide)]
  refine ⟨F0 m pc ls (.int k :: .int n :: rest), State.topJava?_setTop' (s := T.setVm vm1) _ X.here.top, [.int n, .int k], rest, rfl, rfl, ?_⟩
  simp only [List.mapM_cons, List.mapM_nil, wp_bind', wp_pure']
  refine mg_two (kA := kA1) (kI := kI1) (cI := cI') (c0 := c0) hkA1 hkindA hkI1 hkindI hn hk hl1 hh1 hl2 hh2 (by show T.heap.size + 1 + _ ≤ _; omega) (by show T.slotsUsed + _ + _ ≤ _; omega) (fun d' acts' => ?_)
  have eS : ∀ f : JFrame, ((T.setTop (F0 m pc ls (.int k :: .int n :: rest))).setVm vm1).setTop f = (T.setVm vm1).setTop f := fun f => by
    show ((T.setVm vm1).setTop (F0 m pc ls (.int k :: .int n :: rest))).setTop _ = _
    rw [State.setTop_setTop]
  rw [eS, mgT_top]
  simp only [wp_bind', W.mark, W.pushRef, State.topJava?_setTop' _ XF.here.top, Option.some.injEq, exists_eq_left', State.setTop_setTop, State.heap_setTop]
  intro acts
  simp [jvm, XF.here.top]
  exact a1
