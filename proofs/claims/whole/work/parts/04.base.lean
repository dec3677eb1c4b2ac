/-! THE ABSTRACT MACHINE: values, cells, heaps, the judgement V -/
abbrev AV : Type := Int ⊕ (Int ⊕ Nat)
abbrev aI (x : Int) : AV := Sum.inl x
abbrev aL (x : Int) : AV := Sum.inr (Sum.inl x)
abbrev aR (k : Nat) : AV := Sum.inr (Sum.inr k)
/-- a world's numbers: cell, slot or index -/
abbrev HP : Type := Nat → Int → Int
/-- a cell's kind: (0, class, its fields: a number or a cell), (1 int, 2 byte, 3 boolean array, length, []), (4, length, the rows) -/
abbrev KD : Type := Nat × Nat × List (Option Nat)
abbrev LS : Type := List (Option AV)
abbrev MI : Type := MethodName × ByteArray × Nat × Option FieldType
abbrev KT : Type := LS → List AV → HP → Prop
abbrev QT : Type := Option AV → HP → Prop
def cvv (σ : Nat → Nat) (v : AV) : Value := match v with
  | .inl x => .int (Int32.ofInt x)
  | .inr (.inl x) => .long (Int64.ofInt x)
  | .inr (.inr k) => .ref (σ k)
def ofv (σ : Nat → Nat) (f : Int → Int) (i : Nat) (o : Option Nat) : Value := match o with
  | none => .int (Int32.ofInt (f i))
  | some q => .ref (σ q)
def cEl (γ : Nat → ClassId) (σ : Nat → Nat) (f : Int → Int) (q : KD) : va_E := match q.1 with
  | 0 => .inr (q.2.1, q.2.2.mapIdx (ofv σ f))
  | 4 => .inl (γ 4, q.2.1, .inr (.inr (.inr (.inr (fun i => (q.2.2.getD i none).map σ)))))
  | t => .inl (γ t, q.2.1, .inl (fun i => Int32.ofInt (f i)))
def wdl (γ : Nat → ClassId) (σ : Nat → Nat) (h : HP) (K : List KD) : va_W := K.mapIdx (fun k q => (σ k, cEl γ σ (h k) q))
def tyl (γ : Nat → ClassId) : List (ClassId × FieldType) := [(γ 1, .int), (γ 2, .byte), (γ 3, .boolean), (γ 4, .array .int)]
def hset (h : HP) (k : Nat) (i v : Int) : HP := fun a b => if a = k ∧ b = i then v else h a b
theorem hset_s {h : HP} {k : Nat} {i v : Int} : hset h k i v k i = v := by simp [hset]
theorem hset_n {h : HP} {k a : Nat} {i v : Int} (ha : a ≠ k) : hset h k i v a = h a := by funext b; simp [hset, ha]
theorem hset_m {h : HP} {k : Nat} {i v b : Int} (hb : b ≠ i) : hset h k i v k b = h k b := by simp [hset, hb]
theorem wdl_at {γ : Nat → ClassId} {σ : Nat → Nat} {h : HP} {K : List KD} {k : Nat} {q : KD} (hk : K[k]? = some q) : (wdl γ σ h K)[k]? = some (σ k, cEl γ σ (h k) q) := by
  simp [wdl, List.getElem?_mapIdx, hk]
theorem wdl_len {γ : Nat → ClassId} {σ : Nat → Nat} {h : HP} {K : List KD} : (wdl γ σ h K).length = K.length := by simp [wdl]
theorem cEl_arr {γ : Nat → ClassId} {σ : Nat → Nat} {f : Int → Int} {t n : Nat} {l : List (Option Nat)} (h0 : t ≠ 0) (h4 : t ≠ 4) : cEl γ σ f (t, n, l) = .inl (γ t, n, .inl (fun i => Int32.ofInt (f i))) := by
  unfold cEl
  split
  · rename_i h; exact absurd h h0
  · rename_i h; exact absurd h h4
  · rfl
theorem wdl_setA {γ : Nat → ClassId} {σ : Nat → Nat} {h : HP} {K : List KD} {k t n : Nat} {l : List (Option Nat)} (hk : K[k]? = some (t, n, l)) (h0 : t ≠ 0) (h4 : t ≠ 4) (j : Nat) (v : Int) :
    (wdl γ σ h K).set k (σ k, .inl (γ t, n, .inl (upd (fun i => Int32.ofInt (h k i)) j (Int32.ofInt v)))) = wdl γ σ (hset h k j v) K := by
  apply List.ext_getElem?
  intro i
  by_cases hi : i = k
  · subst hi
    rw [List.getElem?_set_self (by rw [wdl_len]; exact (List.getElem?_eq_some_iff.mp hk).1), wdl_at hk, cEl_arr h0 h4]
    congr 5
    funext x
    by_cases hx : x = j
    · subst hx; simp [upd, hset]
    · have : ¬ (x : Int) = (j : Int) := fun q => hx (by omega)
      simp [upd, hset, hx, this]
  · rw [List.getElem?_set_ne (Ne.symm hi)]
    simp only [wdl, List.getElem?_mapIdx, hset_n hi]
/-- a whole row is put in the place of another -/
def hrow (h : HP) (k : Nat) (f : Int → Int) : HP := fun a => if a = k then f else h a
theorem hrow_s {h : HP} {k : Nat} {f : Int → Int} : hrow h k f k = f := by simp [hrow]
theorem hrow_n {h : HP} {k a : Nat} {f : Int → Int} (ha : a ≠ k) : hrow h k f a = h a := by simp [hrow, ha]
theorem wdl_setR {γ : Nat → ClassId} {σ : Nat → Nat} {h : HP} {K : List KD} {k t n : Nat} {l : List (Option Nat)} (hk : K[k]? = some (t, n, l)) (h0 : t ≠ 0) (h4 : t ≠ 4) (f : Int → Int) (g : Nat → Int32) (hg : ∀ i : Nat, g i = Int32.ofInt (f i)) :
    (wdl γ σ h K).set k (σ k, .inl (γ t, n, .inl g)) = wdl γ σ (hrow h k f) K := by
  have eg : g = fun i => Int32.ofInt (f i) := funext hg
  subst eg
  apply List.ext_getElem?
  intro i
  by_cases hi : i = k
  · subst hi
    rw [List.getElem?_set_self (by rw [wdl_len]; exact (List.getElem?_eq_some_iff.mp hk).1), wdl_at hk, cEl_arr h0 h4, hrow_s]
  · rw [List.getElem?_set_ne (Ne.symm hi)]
    simp only [wdl, List.getElem?_mapIdx, hrow_n hi]
theorem wdl_setF {γ : Nat → ClassId} {σ : Nat → Nat} {h : HP} {K : List KD} {k ci j : Nat} {l : List (Option Nat)} (hk : K[k]? = some (0, ci, l)) (hj : l[j]? = some none) (v : Int) :
    (wdl γ σ h K).set k (σ k, .inr (ci, (l.mapIdx (ofv σ (h k))).set j (.int (Int32.ofInt v)))) = wdl γ σ (hset h k j v) K := by
  apply List.ext_getElem?
  intro i
  by_cases hi : i = k
  · subst hi
    rw [List.getElem?_set_self (by rw [wdl_len]; exact (List.getElem?_eq_some_iff.mp hk).1), wdl_at hk]
    show some (σ i, Sum.inr (ci, _)) = some (σ i, Sum.inr (ci, _))
    congr 4
    apply List.ext_getElem?
    intro x
    by_cases hx : x = j
    · subst hx
      rw [List.getElem?_set_self (by simp; exact (List.getElem?_eq_some_iff.mp hj).1), List.getElem?_mapIdx, hj]
      simp [ofv, hset]
    · rw [List.getElem?_set_ne (Ne.symm hx), List.getElem?_mapIdx, List.getElem?_mapIdx]
      cases hl : l[x]? with
      | none => rfl
      | some o =>
        have : ¬ (x : Int) = (j : Int) := fun q => hx (by omega)
        cases o <;> simp [ofv, hset, this]
  · rw [List.getElem?_set_ne (Ne.symm hi)]
    simp only [wdl, List.getElem?_mapIdx, hset_n hi]
theorem wdl_D {γ : Nat → ClassId} {σ : Nat → Nat} {h h' : HP} {K : List KD} {A : Nat → Prop} (hD : va_D A (wdl γ σ h K)) : va_D A (wdl γ σ h' K) := by
  have key : ∀ (k : Nat) (q : Nat × va_E), (wdl γ σ h' K)[k]? = some q → ∃ q', (wdl γ σ h K)[k]? = some q' ∧ q'.1 = q.1 := by
    intro k q hk
    simp only [wdl, List.getElem?_mapIdx] at hk ⊢
    cases hK : K[k]? with
    | none => rw [hK] at hk; cases hk
    | some z =>
      rw [hK] at hk
      have := Option.some.inj hk
      subst this
      exact ⟨_, rfl, rfl⟩
  refine ⟨fun i j x y hi hj hxy => ?_, fun k q hk => ?_⟩
  · obtain ⟨x0, h1, h2⟩ := key i x hi
    obtain ⟨y0, h3, h4⟩ := key j y hj
    exact hD.1 i j x0 y0 h1 h3 (h2.trans (hxy.trans h4.symm))
  · obtain ⟨q0, h1, h2⟩ := key k q hk
    rw [← h2]
    exact hD.2 k q0 h1
/-! locals -/
def islong (o : Option AV) : Bool := match o with
  | some (.inr (.inl _)) => true
  | _ => false
def lkill (ls : LS) (i : Nat) : LS := match i with
  | 0 => ls
  | j + 1 => bif islong (ls.getD j none) then ls.set j none else ls
def lst1 (ls : LS) (i : Nat) (v : AV) : LS := (lkill ls i).set i (some v)
def lst2 (ls : LS) (i : Nat) (v : AV) : LS := ((lkill ls i).set i (some v)).set (i + 1) none
def lpl (σ : Nat → Nat) : Nat → LS → List (Nat × Value)
  | _, [] => []
  | i, none :: r => lpl σ (i + 1) r
  | i, some v :: r => (i, cvv σ v) :: lpl σ (i + 1) r
theorem lpl_mem (σ : Nat → Nat) : ∀ (ls : LS) (b : Nat) (q : Nat × Value), q ∈ lpl σ b ls ↔ ∃ (i : Nat) (v : AV), ls[i]? = some (some v) ∧ q = (b + i, cvv σ v)
  | [], b, q => by simp [lpl]
  | none :: r, b, q => by
    rw [lpl, lpl_mem σ r (b + 1) q]
    constructor
    · rintro ⟨i, v, h1, h2⟩
      exact ⟨i + 1, v, by simpa using h1, by rw [h2]; congr 1; omega⟩
    · rintro ⟨i, v, h1, h2⟩
      cases i with
      | zero => simp at h1
      | succ i => exact ⟨i, v, by simpa using h1, by rw [h2]; congr 1; omega⟩
  | some w :: r, b, q => by
    rw [lpl, List.mem_cons, lpl_mem σ r (b + 1) q]
    constructor
    · rintro (h | ⟨i, v, h1, h2⟩)
      · exact ⟨0, w, rfl, by rw [h]; rfl⟩
      · exact ⟨i + 1, v, by simpa using h1, by rw [h2]; congr 1; omega⟩
    · rintro ⟨i, v, h1, h2⟩
      cases i with
      | zero => simp at h1; subst h1; exact Or.inl (by rw [h2]; rfl)
      | succ i => exact Or.inr ⟨i, v, by simpa using h1, by rw [h2]; congr 1; omega⟩
def lhas (σ : Nat → Nat) (lsa : Array Slot) (nL : Nat) (ls : LS) : Prop := lv_has lsa nL (lpl σ 0 ls)
theorem lhas_at {σ : Nat → Nat} {lsa : Array Slot} {nL : Nat} {ls : LS} (h : lhas σ lsa nL ls) {i : Nat} {v : AV} (hi : ls.getD i none = some v) : lsa[i]? = some (.val (cvv σ v)) := by
  have h2 := h.2.2 (i, cvv σ v) ((lpl_mem σ ls 0 _).mpr ⟨i, v, ?_, by simp⟩)
  · exact h2
  · rw [List.getD_eq_getElem?_getD] at hi
    cases hl : ls[i]? with
    | none => rw [hl] at hi; simp at hi
    | some o => rw [hl] at hi; simp at hi; rw [hi]
theorem lhas_mem {σ : Nat → Nat} {ls : LS} {i : Nat} {w : Value} : (i, w) ∈ lpl σ 0 ls ↔ ∃ v, ls[i]? = some (some v) ∧ w = cvv σ v := by
  rw [lpl_mem]
  constructor
  · rintro ⟨j, v, h1, h2⟩
    simp at h2
    obtain ⟨rfl, rfl⟩ := h2
    exact ⟨v, h1, rfl⟩
  · rintro ⟨v, h1, rfl⟩
    exact ⟨i, v, h1, by simp⟩
theorem cvv_cat {σ : Nat → Nat} {v : AV} : ((cvv σ v).category == 2) = islong (some v) := by
  obtain x | x | x := v <;> rfl
theorem lkill_at {ls : LS} {i j : Nat} {v : AV} (h : (lkill ls i)[j]? = some (some v)) : ls[j]? = some (some v) ∧ ¬ (j + 1 = i ∧ islong (some v) = true) := by
  unfold lkill at h
  cases i with
  | zero => exact ⟨h, fun q => by omega⟩
  | succ i =>
    simp only at h
    cases hb : islong (ls.getD i none) with
    | true =>
      rw [hb, cond_true] at h
      by_cases hj : j = i
      · subst hj
        by_cases hl : j < ls.length
        · rw [List.getElem?_set_self hl] at h; cases h
        · rw [List.getElem?_eq_none (by simp; omega)] at h; cases h
      · rw [List.getElem?_set_ne (Ne.symm hj)] at h
        exact ⟨h, fun q => hj (by omega)⟩
    | false =>
      rw [hb, cond_false] at h
      refine ⟨h, fun q => ?_⟩
      have : j = i := by omega
      subst this
      rw [List.getD_eq_getElem?_getD, h] at hb
      simp only [Option.getD_some] at hb
      rw [hb] at q
      exact absurd q.2 (by decide)
theorem lhas_st1 {σ : Nat → Nat} {lsa : Array Slot} {nL : Nat} {ls : LS} {i : Nat} {v : AV} (h : lv_has lsa nL ((i, cvv σ v) :: (lpl σ 0 ls).filter (fun q => !(q.1 == i) && !(q.1 + 1 == i && q.2.category == 2)))) : lhas σ lsa nL (lst1 ls i v) := by
  refine ⟨h.1, h.2.1, fun q hq => h.2.2 q ?_⟩
  obtain ⟨j, w⟩ := q
  obtain ⟨u, h1, rfl⟩ := lhas_mem.mp hq
  by_cases hj : j = i
  · subst hj
    unfold lst1 at h1
    by_cases hl : j < (lkill ls j).length
    · rw [List.getElem?_set_self hl] at h1
      cases h1
      exact List.mem_cons_self
    · rw [List.getElem?_eq_none (by simp; omega)] at h1; cases h1
  · unfold lst1 at h1
    rw [List.getElem?_set_ne (Ne.symm hj)] at h1
    obtain ⟨h2, h3⟩ := lkill_at h1
    refine List.mem_cons_of_mem _ (List.mem_filter.mpr ⟨lhas_mem.mpr ⟨u, h2, rfl⟩, ?_⟩)
    simp only [cvv_cat, Bool.and_eq_true, Bool.not_eq_true', beq_eq_false_iff_ne, ne_eq, Bool.and_eq_false_iff]
    refine ⟨hj, ?_⟩
    by_cases hq1 : j + 1 = i
    · right
      cases hb : islong (some u) with
      | true => exact absurd ⟨hq1, hb⟩ h3
      | false => rfl
    · exact Or.inl hq1
theorem lhas_st2 {σ : Nat → Nat} {lsa : Array Slot} {nL : Nat} {ls : LS} {i : Nat} {v : AV} (h : lv_has lsa nL ((i, cvv σ v) :: (lpl σ 0 ls).filter (fun q => !(q.1 == i) && (!(q.1 == i + 1) && !(q.1 + 1 == i && q.2.category == 2))))) : lhas σ lsa nL (lst2 ls i v) := by
  refine ⟨h.1, h.2.1, fun q hq => h.2.2 q ?_⟩
  obtain ⟨j, w⟩ := q
  obtain ⟨u, h1, rfl⟩ := lhas_mem.mp hq
  unfold lst2 at h1
  by_cases hj1 : j = i + 1
  · subst hj1
    by_cases hl : i + 1 < ((lkill ls i).set i (some v)).length
    · rw [List.getElem?_set_self hl] at h1; cases h1
    · rw [List.getElem?_eq_none (by simp at hl ⊢; omega)] at h1; cases h1
  rw [List.getElem?_set_ne (Ne.symm hj1)] at h1
  by_cases hj : j = i
  · subst hj
    by_cases hl : j < (lkill ls j).length
    · rw [List.getElem?_set_self hl] at h1
      cases h1
      exact List.mem_cons_self
    · rw [List.getElem?_eq_none (by simp; omega)] at h1; cases h1
  · rw [List.getElem?_set_ne (Ne.symm hj)] at h1
    obtain ⟨h2, h3⟩ := lkill_at h1
    refine List.mem_cons_of_mem _ (List.mem_filter.mpr ⟨lhas_mem.mpr ⟨u, h2, rfl⟩, ?_⟩)
    simp only [cvv_cat, Bool.and_eq_true, Bool.not_eq_true', beq_eq_false_iff_ne, ne_eq, Bool.and_eq_false_iff]
    refine ⟨hj, hj1, ?_⟩
    by_cases hq1 : j + 1 = i
    · right
      cases hb : islong (some u) with
      | true => exact absurd ⟨hq1, hb⟩ h3
      | false => rfl
    · exact Or.inl hq1
/-! the judgement -/
def Qv (D : va_G) (γ : Nat → ClassId) (σ : Nat → Nat) (K : List KD) (A : Nat → Prop) (Q : QT) : Array Value → State → Outcome → State → Prop := fun _ st oc t =>
  (∃ (r : Option AV) (h : HP), oc = .returned (r.map (cvv σ)) ∧ Q r h ∧ va_P D vwCl (wdl γ σ h K) t.heap) ∧ va_F A st t
def Cn (K : List KD) (d : Nat) (M : MI) (h : HP) (p : Program) (R : Room) (s : State) (m : MethodId) (args : Array Value) (meth : Method) (c : Code) (H : Heap) (locs : List Loc) (cells slots : Nat) (D : va_G) (γ : Nat → ClassId) (σ : Nat → Nat) (A : Nat → Prop) : Prop :=
  p.tables.exec = Jvm.exec ∧ c.code = M.2.1 ∧ c.maxLocals = M.2.2.1 ∧ meth.sig.returnType = M.2.2.2 ∧ meth.locks = false ∧ s.vm.findClass M.1.cls = some m.cls ∧ (∀ w ∈ lw_tbl, w.before args s = true) ∧
  (d ≤ R.frames ∧ 64 * d ≤ R.locals ∧ cells ≤ R.cells ∧ slots ≤ R.slots) ∧ va_K D vwCl (tyl γ) s ∧ va_P D vwCl (wdl γ σ h K) H ∧ va_D A (wdl γ σ h K) ∧ va_S A s.heap H locs
def V (K : List KD) (d : Nat) (M : MI) (pc : Nat) (ls : LS) (st : List AV) (h : HP) (Q : QT) : Prop :=
  ∀ (p : Program) (l : Launch) (e : Env) (R : Room) (s : State) (m : MethodId) (args : Array Value) (below : List Frame) (meth : Method) (c : Code) (H : Heap) (locs : List Loc) (cells slots : Nat) (D : va_G) (γ : Nat → ClassId) (σ : Nat → Nat) (A : Nat → Prop) (lsa : Array Slot),
    Cn K d M h p R s m args meth c H locs cells slots D γ σ A → lhas σ lsa M.2.2.1 ls →
    W p l e R s m args below meth c H locs cells slots (MQ below (Qv D γ σ K A Q) args s cells slots A) (F0 m pc lsa (st.map (cvv σ)))
def lay (n : Nat) : List AV → LS
  | [] => List.replicate n none
  | .inr (.inl x) :: r => some (.inr (.inl x)) :: none :: lay (n - 2) r
  | v :: r => some v :: lay (n - 1) r
/-- a method's contract: from its entry -/
def Ct (K : List KD) (d : Nat) (M : MI) (as : List AV) (h : HP) (Q : QT) : Prop := V K d M 0 (lay M.2.2.1 as) [] h Q
