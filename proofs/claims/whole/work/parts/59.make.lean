/-! MAKING: worlds that grow; a judgement for constructors, goal first -/
abbrev QW (D : va_G) (A : Nat → Prop) (Pst : va_W → Prop) : Array Value → State → Outcome → State → Prop := va_Qv (S := va_W) Pst (fun ws t => va_P D vwCl ws t.heap ∧ va_D A ws) A
/-- rows of rows of ints: their class -/
def OV (γ : Nat → ClassId) (U : State) : Prop := ∃ k, U.vm.classes[γ 4]? = some k ∧ k.kind = .array (γ 1) (.array .int)
theorem OV.moved {γ : Nat → ClassId} {u U : State} (hvm : u.vm.Alike U.vm) (h : OV γ u) : OV γ U := by
  obtain ⟨k, h1, h2⟩ := h
  obtain ⟨k', h3, h4⟩ := hvm.2.2 _ _ h1
  exact ⟨k', h3, by rw [h4]; exact h2⟩
def Gx (M : MI) (d kT nT : Nat) (p : Program) (R : Room) (s : State) (m : MethodId) (args : Array Value) (meth : Method) (c : Code) (D : va_G) (γ : Nat → ClassId) (A : Nat → Prop) : Prop :=
  p.tables.exec = Jvm.exec ∧ c.code = M.2.1 ∧ c.maxLocals = M.2.2.1 ∧ meth.sig.returnType = M.2.2.2 ∧ meth.locks = false ∧ s.vm.findClass M.1.cls = some m.cls ∧ (∀ w ∈ tb2, w.before args s = true) ∧ meth.name = "<init>" ∧ (va_K D vwCl (tyl γ) s ∧ OV γ s) ∧ (∀ q, s.heap.size ≤ q → A q) ∧ (d ≤ R.frames ∧ 64 * d ≤ R.locals ∧ kT ≤ R.cells ∧ nT ≤ R.slots)
def Gj (d kT nT : Nat) (M : MI) (D : va_G) (γ : Nat → ClassId) (A : Nat → Prop) (pc : Nat) (lv : List (Nat × Value)) (st : List Value) (ws : va_W) (k n : Nat) (Pst : va_W → Prop) : Prop :=
  ∀ (p : Program) (l : Launch) (e : Env) (R : Room) (s : State) (m : MethodId) (args : Array Value) (below : List Frame) (meth : Method) (c : Code) (H : Heap) (locs : List Loc) (lsa : Array Slot),
    Gx M d kT nT p R s m args meth c D γ A → va_P D vwCl ws H → va_D A ws → va_S A s.heap H locs → lv_has lsa M.2.2.1 lv →
    W p l e R s m args below meth c H locs k n (MQ below (QW D A Pst) args s kT nT A) (F0 m pc lsa st)
section
variable {d kT nT : Nat} {M : MI} {D : va_G} {γ : Nat → ClassId} {A : Nat → Prop} {pc : Nat} {lv : List (Nat × Value)} {st : List Value} {ws : va_W} {k n : Nat} {Pst : va_W → Prop}
theorem g_aload {q : Fin 4} {i x : Nat} (j : Nat) (hd : decode M.2.1 pc = .ok (.aload_n q, 1)) (hi : (q : Nat) = i) (hj : lv[j]? = some (i, .ref x)) (kk : Gj d kT nT M D γ A (pc + 1) lv (.ref x :: st) ws k n Pst) : Gj d kT nT M D γ A pc lv st ws k n Pst := by
  intro p l e R s m args below meth c H locs lsa X hP hD hS hl
  exact lv_aload_n X.1 X.2.1 hd hi (lv_at hl j hj) (kk p l e R s m args below meth c H locs lsa X hP hD hS hl)
theorem g_iconst {v : Int} (hd : decode M.2.1 pc = .ok (.iconst v, 1)) (kk : Gj d kT nT M D γ A (pc + 1) lv (.int (Int32.ofInt v) :: st) ws k n Pst) : Gj d kT nT M D γ A pc lv st ws k n Pst := by
  intro p l e R s m args below meth c H locs lsa X hP hD hS hl
  exact lv_iconst X.1 X.2.1 hd rfl (kk p l e R s m args below meth c H locs lsa X hP hD hS hl)
theorem g_bipush {v : Int} (hd : decode M.2.1 pc = .ok (.bipush v, 2)) (hv : (Int8.ofInt v).toInt32 = Int32.ofInt v) (kk : Gj d kT nT M D γ A (pc + 2) lv (.int (Int32.ofInt v) :: st) ws k n Pst) : Gj d kT nT M D γ A pc lv st ws k n Pst := by
  intro p l e R s m args below meth c H locs lsa X hP hD hS hl
  exact lv_bipush X.1 X.2.1 hd hv (kk p l e R s m args below meth c H locs lsa X hP hD hS hl)
theorem g_sipush {v : Int} (hd : decode M.2.1 pc = .ok (.sipush v, 3)) (hv : (Int16.ofInt v).toInt32 = Int32.ofInt v) (kk : Gj d kT nT M D γ A (pc + 3) lv (.int (Int32.ofInt v) :: st) ws k n Pst) : Gj d kT nT M D γ A pc lv st ws k n Pst := by
  intro p l e R s m args below meth c H locs lsa X hP hD hS hl
  exact lv_sipush X.1 X.2.1 hd hv (kk p l e R s m args below meth c H locs lsa X hP hD hS hl)
theorem g_dup {x : Nat} (hd : decode M.2.1 pc = .ok (.dup, 1)) (kk : Gj d kT nT M D γ A (pc + 1) lv (.ref x :: .ref x :: st) ws k n Pst) : Gj d kT nT M D γ A pc lv (.ref x :: st) ws k n Pst := by
  intro p l e R s m args below meth c H locs lsa X hP hD hS hl
  exact lv_dup X.1 X.2.1 hd rfl (kk p l e R s m args below meth c H locs lsa X hP hD hS hl)
theorem g_obj {ix x : Nat} (hw : Cond.methodLink M.1.cls ix objectInit ∈ tb2) (hw1 : Cond.instanceMethod objectInit ∈ tb2) (hw2 : Cond.code objectInit ⟨#[0xb1]⟩ 1 none ∈ tb2) (hd : decode M.2.1 pc = .ok (.invokespecial ix, 3)) (h1 : 1 ≤ d) (kk : Gj d kT nT M D γ A (pc + 3) lv [] ws k n Pst) : Gj d kT nT M D γ A pc lv [.ref x] ws k n Pst := by
  intro p l e R s m args below meth c H locs lsa X hP hD hS hl
  obtain ⟨x1, x2, x3, x4, x5, x6, x7, x8, x9, x10, y1, y2, y3, y4⟩ := id X
  refine W.objInit x1 x2 x6 (x7 _ hw) (x7 _ hw1) (x7 _ hw2) rfl (hl.1.trans x3.symm) rfl hd (by omega) (by show 2 * 0 + 0 + 12 ≤ R.locals; omega) ?_
  exact W.eq (g2 := F0 m (pc + 3) lsa []) rfl (kk p l e R s m args below meth c H locs lsa X hP hD hS hl)
theorem g_get {ix a ci N : Nat} {C : String} {T : u_T} {fs : List Value} {v : Value} (q0 j : Nat) (hc : vwCl[ci]? = some (C, T, N)) (hin : ∀ w ∈ u_ws C T N, w ∈ tb2) (hj : j < N) (hw : Cond.fieldLink M.1.cls ix C (T j).2.1 (T j).2.2.1 ∈ tb2) (hC : (T j).1 = C) (he : ws[q0]? = some (a, .inr (ci, fs))) (hv : fs[j]? = some v) (hd : decode M.2.1 pc = .ok (.getfield ix, 3))
    (kk : Gj d kT nT M D γ A (pc + 3) lv (v :: st) ws k n Pst) : Gj d kT nT M D γ A pc lv (.ref a :: st) ws k n Pst := by
  intro p l e R s m args below meth c H locs lsa X hP hD hS hl
  obtain ⟨x1, x2, x3, x4, x5, x6, x7, x8, x9, x10, y1, y2, y3, y4⟩ := id X
  exact va_get x1 x2 x7 hin x6 x9.1 hP q0 he hc j hj (x7 _ hw) (fun x hx => by rw [hC] at hx; exact hx) hv hd (kk p l e R s m args below meth c H locs lsa X hP hD hS hl)
theorem g_put {ix a ci N : Nat} {C : String} {T : u_T} {ty0 : Nat → FieldType} {fs : List Value} {v : Value} (q0 j : Nat) (hc : vwCl[ci]? = some (C, T, N)) (hin : ∀ w ∈ u_ws C T N, w ∈ tb2) (hty : ∀ k, k < N → parseFieldDescriptor (T k).2.2.1 = some (ty0 k)) (hnm : ∀ a, a < N → ∀ b, b < N → a ≠ b → (T a).2.1 ≠ (T b).2.1) (hj : j < N) (hw : Cond.fieldLink M.1.cls ix C (T j).2.1 (T j).2.2.1 ∈ tb2) (hC : (T j).1 = C) (hfin : (T j).2.2.2 = false) (he : ws[q0]? = some (a, .inr (ci, fs))) (hn : narrow (ty0 j) v = v) (hf : fits (ty0 j) v = true) (hl9 : j < fs.length) (hd : decode M.2.1 pc = .ok (.putfield ix, 3))
    (kk : Gj d kT nT M D γ A (pc + 3) lv st (ws.set q0 (a, .inr (ci, fs.set j v))) k n Pst) : Gj d kT nT M D γ A pc lv (v :: .ref a :: st) ws k n Pst := by
  intro p l e R s m args below meth c H locs lsa X hP hD hS hl
  obtain ⟨x1, x2, x3, x4, x5, x6, x7, x8, x9, x10, y1, y2, y3, y4⟩ := id X
  exact va_put x1 x2 x7 hin ty0 hty hnm x6 x9.1 hP hD hS q0 he hc j hj (x7 _ hw) (fun x hx => by rw [hC] at hx; exact hx) hfin (hty j hj) hn hf hl9 hd (fun H1 locs1 hP1 hD1 hS1 => kk p l e R s m args below meth c H1 locs1 lsa X hP1 hD1 hS1 hl)
theorem g_putF {ix a ci N : Nat} {C : String} {T : u_T} {ty0 : Nat → FieldType} {fs : List Value} {v : Value} (q0 j : Nat) (hc : vwCl[ci]? = some (C, T, N)) (hin : ∀ w ∈ u_ws C T N, w ∈ tb2) (hty : ∀ k, k < N → parseFieldDescriptor (T k).2.2.1 = some (ty0 k)) (hnm : ∀ a, a < N → ∀ b, b < N → a ≠ b → (T a).2.1 ≠ (T b).2.1) (hj : j < N) (hw : Cond.fieldLink M.1.cls ix C (T j).2.1 (T j).2.2.1 ∈ tb2) (hC : (T j).1 = C) (hM : M.1.cls = C) (hfin : (T j).2.2.2 = true) (he : ws[q0]? = some (a, .inr (ci, fs))) (hn : narrow (ty0 j) v = v) (hf : fits (ty0 j) v = true) (hl9 : j < fs.length) (hd : decode M.2.1 pc = .ok (.putfield ix, 3))
    (kk : Gj d kT nT M D γ A (pc + 3) lv st (ws.set q0 (a, .inr (ci, fs.set j v))) k n Pst) : Gj d kT nT M D γ A pc lv (v :: .ref a :: st) ws k n Pst := by
  intro p l e R s m args below meth c H locs lsa X hP hD hS hl
  obtain ⟨x1, x2, x3, x4, x5, x6, x7, x8, x9, x10, y1, y2, y3, y4⟩ := id X
  exact va_putF x1 x2 x7 hin ty0 hty hnm x6 x9.1 hP hD hS q0 he hc j hj (x7 _ hw) (fun x hx => by rw [hC] at hx; exact hx) hfin x8 (hC.trans hM.symm) (hty j hj) hn hf hl9 hd (fun H1 locs1 hP1 hD1 hS1 => kk p l e R s m args below meth c H1 locs1 lsa X hP1 hD1 hS1 hl)
theorem g_new {ix ci N : Nat} {C : String} {T : u_T} {ty0 : Nat → FieldType} (fs : List Value) (hc : vwCl[ci]? = some (C, T, N)) (hin : ∀ w ∈ u_ws C T N, w ∈ tb2) (hty : ∀ k, k < N → parseFieldDescriptor (T k).2.2.1 = some (ty0 k)) (hw : Cond.classLink M.1.cls ix C ∈ tb2) (hw1 : Cond.instantiable C N ∈ tb2) (hw2 : Cond.initialized C ∈ tb2) (hfs : ∀ j, j < N → defaultValue (ty0 j) = vp_V fs j) (h1 : k + 1 ≤ kT) (h2 : n + N ≤ nT) (hd : decode M.2.1 pc = .ok (.new ix, 3))
    (kk : ∀ q, Gj d kT nT M D γ A (pc + 3) lv (.ref q :: st) (ws ++ [(q, .inr (ci, fs))]) (k + 1) (n + N) Pst) : Gj d kT nT M D γ A pc lv st ws k n Pst := by
  intro p l e R s m args below meth c H locs lsa X hP hD hS hl
  obtain ⟨x1, x2, x3, x4, x5, x6, x7, x8, x9, x10, y1, y2, y3, y4⟩ := id X
  exact va_new x1 x2 x7 hin ty0 hty x6 (x7 _ hw) (x7 _ hw1) (x7 _ hw2) x9.1 hP hD hS x10 hc hfs (by omega) (by omega) hd (fun q H1 hP1 hD1 hS1 => kk q p l e R s m args below meth c H1 locs lsa X hP1 hD1 hS1 hl)
/-- a row of zeros -/
abbrev aZ (γ : Nat → ClassId) (t N : Nat) : va_E := .inl (γ t, N, .inl (fun _ => Int32.ofInt 0))
theorem g_newa {atype : ArrayType} {v : Int} (t j N : Nat) (hidx : (tyl γ)[j]? = some (γ t, newarray.typeOf atype)) (hRA : ∀ U c, va_RA U c (newarray.typeOf atype) → U.vm.findClass ("[" ++ (newarray.typeOf atype).toString) = some c) (hdef : defaultValue (newarray.typeOf atype) = .int (Int32.ofInt 0)) (hw : Cond.arrayClass (newarray.typeOf atype) ∈ tb2) (hn : ¬ Int32.ofInt v < 0) (hN : (Int32.ofInt v).toNatClampNeg = N) (hby : N * componentBytes (newarray.typeOf atype) ≤ 536870912) (h1 : k + 1 ≤ kT) (h2 : n + N ≤ nT) (hd : decode M.2.1 pc = .ok (.newarray atype, 2))
    (kk : ∀ q, Gj d kT nT M D γ A (pc + 2) lv (.ref q :: st) (ws ++ [(q, aZ γ t N)]) (k + 1) (n + N) Pst) : Gj d kT nT M D γ A pc lv (.int (Int32.ofInt v) :: st) ws k n Pst := by
  intro p l e R s m args below meth c H locs lsa X hP hD hS hl
  obtain ⟨x1, x2, x3, x4, x5, x6, x7, x8, x9, x10, y1, y2, y3, y4⟩ := id X
  refine va_newaK x1 x2 (x7 _ hw) rfl hd rfl hn hN hby (by omega) (by omega) rfl (fun H1 cA e1 z1 o1 hAr hNm => ?_)
  have hcA : cA = γ t := Option.some.inj (hNm.symm.trans (hRA s (γ t) (x9.1.2 j _ hidx).2))
  subst hcA
  have hk9 : ∀ (k : Nat) (x : Nat × va_E), ws[k]? = some x → H1[x.1]? = H[x.1]? := fun k x hx => o1 x.1 ((hP k x hx).lt)
  refine kk H.size p l e R s m args below meth c H1 locs lsa X ((hP.kept hk9).app (fun k x hx => ?_)) (hD.push hP rfl (x10 _ hS.1)) ⟨Nat.le_trans hS.1 (by omega), fun x h1 h2 => (o1 x (Nat.lt_of_lt_of_le h1 hS.1)).trans (hS.2.1 x h1 h2), hS.2.2⟩ hl
  have hz : k < 1 := (List.getElem?_eq_some_iff.mp hx).1
  rw [show k = 0 by omega] at hx
  cases hx
  show H1[H.size]? = some (vp_cell _ _)
  rw [e1, hdef]
  rfl
theorem g_vret (hk : k ≤ kT) (hn : n ≤ nT) (hr : M.2.2.2 = none) (hd : decode M.2.1 pc = .ok (.return_, 1)) (hw : Pst ws) : Gj d kT nT M D γ A pc lv [] ws k n Pst := by
  intro p l e R s m args below meth c H locs lsa X hP hD hS hl
  obtain ⟨x1, x2, x3, x4, x5, x6, x7, x8, x9, x10, y1, y2, y3, y4⟩ := id X
  refine W.widen (k := kT) (n := nT) hk hn ?_
  exact W.vret x1 x2 (x4.trans hr) (fun t ht hW => ⟨⟨ws, rfl, hw, by rw [ht]; exact hP, hD⟩, hS.F ht⟩) hS.2.2 hd
theorem g_ws {ws' : va_W} (h : ws = ws') (kk : Gj d kT nT M D γ A pc lv st ws' k n Pst) : Gj d kT nT M D γ A pc lv st ws k n Pst := h ▸ kk
/-- behind the making: the judgement of methods -/
theorem g_V {K : List KD} {σ : Nat → Nat} {ls : LSt} {st0 : List AV} {h : HP} {Q : QT} (hV : V K d M pc ls st0 h Q) (hls : ∀ lsa, lv_has lsa M.2.2.1 lv → lhas σ lsa M.2.2.1 ls) (hst : st = st0.map (cvv σ)) (hws : ws = wdl γ σ h K) (hk : k ≤ kT) (hn : n ≤ nT) (hQ : ∀ r h', Q r h' → r = none ∧ Pst (wdl γ σ h' K)) : Gj d kT nT M D γ A pc lv st ws k n Pst := by
  intro p l e R s m args below meth c H locs lsa X hP hD hS hl
  obtain ⟨x1, x2, x3, x4, x5, x6, x7, x8, x9, x10, y1, y2, y3, y4⟩ := id X
  subst hst
  subst hws
  refine W.widen (k := kT) (n := nT) hk hn ?_
  intro T hT XX
  obtain ⟨t, a, o, b1, b2, ⟨⟨r, h', c1, c2, c3⟩, c4⟩, b4⟩ := hV p l e R s m args below meth c H locs kT nT D γ σ A lsa ⟨x1, x2, x3, x4, x5, x6, x7, ⟨y1, y2, y3, y4⟩, x9.1, hP, hD, hS⟩ (hls lsa hl) T hT XX
  obtain ⟨r0, hp⟩ := hQ r h' c2
  subst r0
  exact ⟨t, a, o, b1, b2, ⟨⟨wdl γ σ h' K, c1, hp, c3, wdl_D hD⟩, c4⟩, b4⟩
end
/-- a constructor's contract: its own new object alone, then with what it made -/
def CtI (d kT nT : Nat) (M : MI) (ci : Nat) (as fs0 : List Value) (Pst : (Nat → ClassId) → Nat → va_W → Prop) : Prop := ∀ (l : Launch) (D : va_G) (γ : Nat → ClassId) (q sz : Nat),
  Met l M.1 (Cond.code M.1 M.2.1 M.2.2.1 M.2.2.2 :: tb2) ({ frames := d, cells := kT, slots := nT, locals := 64 * d }) (va_Pc (.ref q :: as) (fun U => U.heap.size = sz ∧ va_P D vwCl [(q, .inr (ci, fs0))] U.heap ∧ va_K D vwCl (tyl γ) U ∧ OV γ U)) (QW D (va_A [(q, .inr (ci, fs0))] sz) (Pst γ q)) kT nT (va_A [(q, .inr (ci, fs0))] sz)
theorem D_one {A : Nat → Prop} {x : Nat × va_E} (h : A x.1) : va_D A [x] := by
  refine ⟨fun i j p q hi hj _ => ?_, fun k q hk => ?_⟩
  · have h1 : i < 1 := (List.getElem?_eq_some_iff.mp hi).1
    have h2 : j < 1 := (List.getElem?_eq_some_iff.mp hj).1
    omega
  · have h1 : k < 1 := (List.getElem?_eq_some_iff.mp hk).1
    rw [show k = 0 by omega] at hk
    cases hk
    exact h
theorem ctI_of {d kT nT : Nat} {M : MI} {ci : Nat} {as fs0 : List Value} {Pst : (Nat → ClassId) → Nat → va_W → Prop} (hM : plainName M.1.cls = true) (hn : M.1.name = "<init>") (hlen : ∀ q, (lg_sl (.ref q :: as)).length ≤ M.2.2.1) (h : ∀ D γ A q, Gj d kT nT M D γ A 0 (lv_args 0 (.ref q :: as)) [] [(q, .inr (ci, fs0))] 0 0 (Pst γ q)) : CtI d kT nT M ci as fs0 Pst := by
  intro l D γ q sz
  refine Met.ofW (cc := M.2.1) (maxL := M.2.2.1) (ret := M.2.2.2) hM rfl ?_
  intro p e s m args below meth c s₁ B hml hv
  obtain ⟨rfl, hsz, hP, hK⟩ := hv
  subst hsz
  have hts := atoms_spec (ws := Cond.code M.1 M.2.1 M.2.2.1 M.2.2.2 :: tb2) B.pre
  have hl := lv_entry (.ref q :: as) (n := M.2.2.1) (hlen q)
  rw [lg_entry_eq]
  exact h D γ _ q p l e _ s m _ below meth c s.heap [] _ ⟨B.exec, B.bytes, hml, B.returns, B.notSynchronized, findClass_of_methodNamed B.named, fun w hw => hts w (List.mem_cons_of_mem _ hw), (name_of_methodNamed B.named B.method).1.trans hn, hK, fun q hq => Or.inr hq, Nat.le_refl _, Nat.le_refl _, Nat.le_refl _, Nat.le_refl _⟩ hP (D_one (Or.inl ⟨0, _, rfl⟩)) va_S.rf hl
theorem g_callI {d kT nT : Nat} {M : MI} {D : va_G} {γ : Nat → ClassId} {A : Nat → Prop} {pc : Nat} {lv : List (Nat × Value)} {rest : List Value} {wr : va_W} {k n : Nat} {Pst : va_W → Prop} {d1 k1 n1 : Nat} {M1 : MI} {ci : Nat} {as fs0 : List Value} {Pst1 : (Nat → ClassId) → Nat → va_W → Prop} {q ix np : Nat} {host : String}
    (hct : CtI d1 k1 n1 M1 ci as fs0 Pst1) (hM : okM M1 np) (hret : M1.2.2.2 = none) (hnm : M1.1.name = "<init>") (hin : Cond.instanceMethod M1.1 ∈ tb2) (hw : Cond.methodLinkNest M.1.cls ix M1.1 host ∈ tb2) (hd : decode M.2.1 pc = .ok (.invokespecial ix, 3)) (hd1 : d1 + 1 ≤ d) (hnp : as.length = np) (hcat : (rest.map fun v => v.category).sum ≤ 8) (hk : k + k1 ≤ kT) (hn : n + n1 ≤ nT) (L : Nat) (hL : wr.length = L) (isR : List Nat) (hC : [L].map (fun i => (wr ++ [(q, .inr (ci, fs0))])[i]?) = ([(q, .inr (ci, fs0))] : va_W).map some) (hR : isR.map (fun i => (wr ++ [(q, .inr (ci, fs0))])[i]?) = wr.map some) (hnd : va_nd isR = true) (hdis : ∀ i ∈ isR, i ∉ [L])
    (kk : ∀ w1, Pst1 γ q w1 → Gj d kT nT M D γ A (pc + 3) lv rest (wr ++ w1) (k + k1) (n + n1) Pst) : Gj d kT nT M D γ A pc lv (as.reverse ++ .ref q :: rest) (wr ++ [(q, .inr (ci, fs0))]) k n Pst := by
  intro p l e R s m args below meth c H locs lsa X hP hD hS hl
  obtain ⟨x1, x2, x3, x4, x5, x6, x7, x8, x9, x10, y1, y2, y3, y4⟩ := id X
  obtain ⟨m1, m2, m3, m4, m5, m6, m7⟩ := id hM
  have hPc : va_P D vwCl [(q, .inr (ci, fs0))] H := by
    intro j x hj
    have h1 : j < 1 := (List.getElem?_eq_some_iff.mp hj).1
    rw [show j = 0 by omega] at hj
    cases hj
    exact hP wr.length _ (by simp)
  have hFc := va_free (wc := [(q, .inr (ci, fs0))]) hD hS x10 [L] hC
  refine va_callv (va_runIN (As := as) (rest := rest) (n := np) (b := q) (bytes := M1.2.1) (maxL := M1.2.2.1) ⟨x1, x2, x3, x6, x7⟩ (hct l D γ q H.size) ⟨⟨⟨rfl, rfl, by show d1 + 1 ≤ R.frames; omega, by show 8 + (M1.2.2.1 + 11) + 64 * d1 ≤ R.locals; omega, tb2_pay hM x7, by rw [hret]; exact List.mem_cons_self⟩, by have := x7 _ m4; rw [hret] at this; exact this, x7 _ m5, ⟨m2, m3⟩, okM_len hM, x7 _ hw⟩, hnm, x7 _ hin⟩ ⟨fun a U g mk q => by obtain ⟨q0, q1, qP, qK⟩ := q; exact ⟨q0, q1, qP, va_K.moved (u := U) (U := U.calling g mk a) (Vm.Alike.refl U.vm) qK.1, OV.moved (u := U) (U := U.calling g mk a) (Vm.Alike.refl U.vm) qK.2⟩, fun U hU hW => ⟨rfl, by rw [hU], by rw [hU]; exact hPc, va_K.moved hW.alike x9.1, OV.moved hW.alike x9.2⟩⟩ rfl hnp hl.1 rfl (by show 2 * 0 + _ ≤ 8; omega) hd ⟨by omega, by omega⟩) hS (fun q _ h => hFc q h) hFc (fun u t H1 locs1 ht hvm hw1 hB hz1 hk1 hS1 => ?_)
  obtain ⟨hP1, hD1⟩ := hB
  rw [ht] at hP1
  obtain ⟨hP2, hD2⟩ := va_join (wr := wr) (w1 := u) hP hD [L] isR hC hR hnd hdis hk1 hFc hP1 hD1
  exact kk u hw1 p l e R s m args below meth c H1 locs1 lsa X hP2 hD2 hS1 hl
