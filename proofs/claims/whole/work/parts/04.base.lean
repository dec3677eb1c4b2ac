/-- the words that stay as the machine warms -/
def okw (w : Cond) : Bool := match w with
  | .fieldLinkNest .. => true
  | .methodLinkNest .. => true
  | w => goodWord w
def tb2 : List Cond := lw_tbl.filter okw
theorem mem2 {w : Cond} (i : Nat) (h : lw_tbl[i]? = some w) (h2 : okw w = true) : w ∈ tb2 := List.mem_filter.mpr ⟨List.mem_of_getElem? h, h2⟩
theorem tb2_warm {args a' : Array Value} {s U : State} (h : ∀ w ∈ tb2, w.before args s = true) (hW : s.WarmedH U.vm) : ∀ w ∈ tb2, w.before a' U = true := by
  intro w hw
  have h1 := h w hw
  have h2 := (List.mem_filter.mp hw).2
  by_cases hn : goodWord w = true
  · exact word_at hW (good_of_word hn) h1
  · cases w <;> first | (exact absurd h2 hn) | (exact va_Nw.use rfl (va_Nw.warmF hW (va_Nw.of rfl h1))) | (exact va_Nw.use rfl (va_Nw.warmM hW (va_Nw.of rfl h1)))
/-! THE ABSTRACT MACHINE: values, cells, heaps, the judgement V -/
abbrev AV : Type := Int ⊕ (Int ⊕ Nat)
abbrev aI (x : Int) : AV := Sum.inl x
abbrev aL (x : Int) : AV := Sum.inr (Sum.inl x)
abbrev aR (k : Nat) : AV := Sum.inr (Sum.inr k)
/-- a world's numbers: cell, slot or index -/
abbrev HP : Type := Nat → Int → Int
/-- a cell's kind: (0, class, its fields: a number or a cell), (1 int, 2 byte, 3 boolean array, length, []), (4, length, the rows) -/
abbrev KD : Type := Nat × Nat × List (Option Nat)
abbrev LSt : Type := List (Option AV)
abbrev MI : Type := MethodName × ByteArray × Nat × Option FieldType
abbrev KT : Type := LSt → List AV → HP → Prop
abbrev QT : Type := Option AV → HP → Prop
def cvv (σ : Nat → Nat) (v : AV) : Value := match v with
  | .inl x => .int (Int32.ofInt x)
  | .inr (.inl x) => .long (Int64.ofInt x)
  | .inr (.inr k) => .ref (σ k)
def ofv (σ : Nat → Nat) (f : Int → Int) (i : Nat) (o : Option Nat) : Value := match o with
  | none => .int (Int32.ofInt (f i))
  | some q => .ref (σ q)
def cEl (γ : Nat → ClassId) (σ : Nat → Nat) (f : Int → Int) (q : KD) : va_E := match q.1 with
  | 0 => .inr (q.2.1, q.2.2.mapIdx (ofv σ f))
  | 4 => .inl (γ 4, q.2.1, .inr (.inr (.inr (.inr (fun i => (q.2.2.getD i none).map σ)))))
  | t => .inl (γ t, q.2.1, .inl (fun i => Int32.ofInt (f i)))
def wdl (γ : Nat → ClassId) (σ : Nat → Nat) (h : HP) (K : List KD) : va_W := K.mapIdx (fun k q => (σ k, cEl γ σ (h k) q))
def tyl (γ : Nat → ClassId) : List (ClassId × FieldType) := [(γ 1, .int), (γ 2, .byte), (γ 3, .boolean), (γ 4, .array .int)]
def hset (h : HP) (k : Nat) (i v : Int) : HP := fun a b => if a = k ∧ b = i then v else h a b
theorem hset_s {h : HP} {k : Nat} {i v : Int} : hset h k i v k i = v := by simp [hset]
theorem hset_n {h : HP} {k a : Nat} {i v : Int} (ha : a ≠ k) : hset h k i v a = h a := by funext b; simp [hset, ha]
theorem hset_m {h : HP} {k : Nat} {i v b : Int} (hb : b ≠ i) : hset h k i v k b = h k b := by simp [hset, hb]
theorem wdl_at {γ : Nat → ClassId} {σ : Nat → Nat} {h : HP} {K : List KD} {k : Nat} {q : KD} (hk : K[k]? = some q) : (wdl γ σ h K)[k]? = some (σ k, cEl γ σ (h k) q) := by
  simp [wdl, List.getElem?_mapIdx, hk]
theorem wdl_len {γ : Nat → ClassId} {σ : Nat → Nat} {h : HP} {K : List KD} : (wdl γ σ h K).length = K.length := by simp [wdl]
theorem cEl_arr {γ : Nat → ClassId} {σ : Nat → Nat} {f : Int → Int} {t n : Nat} {l : List (Option Nat)} (h0 : t ≠ 0) (h4 : t ≠ 4) : cEl γ σ f (t, n, l) = .inl (γ t, n, .inl (fun i => Int32.ofInt (f i))) := by
  unfold cEl
  split
  · rename_i h; exact absurd h h0
  · rename_i h; exact absurd h h4
  · rfl
theorem wdl_setA {γ : Nat → ClassId} {σ : Nat → Nat} {h : HP} {K : List KD} {k t n : Nat} {l : List (Option Nat)} (hk : K[k]? = some (t, n, l)) (h0 : t ≠ 0) (h4 : t ≠ 4) (j : Nat) (v : Int) :
    (wdl γ σ h K).set k (σ k, .inl (γ t, n, .inl (upd (fun i => Int32.ofInt (h k i)) j (Int32.ofInt v)))) = wdl γ σ (hset h k j v) K := by
  apply List.ext_getElem?
  intro i
  by_cases hi : i = k
  · subst hi
    rw [List.getElem?_set_self (by rw [wdl_len]; exact (List.getElem?_eq_some_iff.mp hk).1), wdl_at hk, cEl_arr h0 h4]
    congr 6
    funext x
    by_cases hx : x = j
    · subst hx; simp [upd, hset]
    · have : ¬ (x : Int) = (j : Int) := fun q => hx (by omega)
      simp [upd, hset, hx, this]
  · rw [List.getElem?_set_ne (Ne.symm hi)]
    simp only [wdl, List.getElem?_mapIdx, hset_n hi]
/-- a whole row is put in the place of another -/
def hrow (h : HP) (k : Nat) (f : Int → Int) : HP := fun a => if a = k then f else h a
theorem hrow_s {h : HP} {k : Nat} {f : Int → Int} : hrow h k f k = f := by simp [hrow]
theorem hrow_n {h : HP} {k a : Nat} {f : Int → Int} (ha : a ≠ k) : hrow h k f a = h a := by simp [hrow, ha]
theorem wdl_setR {γ : Nat → ClassId} {σ : Nat → Nat} {h : HP} {K : List KD} {k t n : Nat} {l : List (Option Nat)} (hk : K[k]? = some (t, n, l)) (h0 : t ≠ 0) (h4 : t ≠ 4) (f : Int → Int) (g : Nat → Int32) (hg : ∀ i : Nat, g i = Int32.ofInt (f i)) :
    (wdl γ σ h K).set k (σ k, .inl (γ t, n, .inl g)) = wdl γ σ (hrow h k f) K := by
  have eg : g = fun (i : Nat) => Int32.ofInt (f i) := funext hg
  subst eg
  apply List.ext_getElem?
  intro i
  by_cases hi : i = k
  · subst hi
    rw [List.getElem?_set_self (by rw [wdl_len]; exact (List.getElem?_eq_some_iff.mp hk).1), wdl_at hk, cEl_arr h0 h4, hrow_s]
  · rw [List.getElem?_set_ne (Ne.symm hi)]
    simp only [wdl, List.getElem?_mapIdx, hrow_n hi]
theorem wdl_setF {γ : Nat → ClassId} {σ : Nat → Nat} {h : HP} {K : List KD} {k ci j : Nat} {l : List (Option Nat)} (hk : K[k]? = some (0, ci, l)) (hj : l[j]? = some none) (v : Int) :
    (wdl γ σ h K).set k (σ k, .inr (ci, (l.mapIdx (ofv σ (h k))).set j (.int (Int32.ofInt v)))) = wdl γ σ (hset h k j v) K := by
  apply List.ext_getElem?
  intro i
  by_cases hi : i = k
  · subst hi
    rw [List.getElem?_set_self (by rw [wdl_len]; exact (List.getElem?_eq_some_iff.mp hk).1), wdl_at hk]
    show some (σ i, Sum.inr (ci, _)) = some (σ i, Sum.inr (ci, _))
    congr 4
    apply List.ext_getElem?
    intro x
    by_cases hx : x = j
    · subst hx
      rw [List.getElem?_set_self (by simp; exact (List.getElem?_eq_some_iff.mp hj).1), List.getElem?_mapIdx, hj]
      simp [ofv, hset]
    · rw [List.getElem?_set_ne (Ne.symm hx), List.getElem?_mapIdx, List.getElem?_mapIdx]
      cases hl : l[x]? with
      | none => rfl
      | some o =>
        have : ¬ (x : Int) = (j : Int) := fun q => hx (by omega)
        cases o <;> simp [ofv, hset, this]
  · rw [List.getElem?_set_ne (Ne.symm hi)]
    simp only [wdl, List.getElem?_mapIdx, hset_n hi]
theorem wdl_D {γ : Nat → ClassId} {σ : Nat → Nat} {h h' : HP} {K : List KD} {A : Nat → Prop} (hD : va_D A (wdl γ σ h K)) : va_D A (wdl γ σ h' K) := by
  have key : ∀ (k : Nat) (q : Nat × va_E), (wdl γ σ h' K)[k]? = some q → ∃ q', (wdl γ σ h K)[k]? = some q' ∧ q'.1 = q.1 := by
    intro k q hk
    simp only [wdl, List.getElem?_mapIdx] at hk ⊢
    cases hK : K[k]? with
    | none => rw [hK] at hk; cases hk
    | some z =>
      rw [hK] at hk
      have := Option.some.inj hk
      subst this
      exact ⟨_, rfl, rfl⟩
  refine ⟨fun i j x y hi hj hxy => ?_, fun k q hk => ?_⟩
  · obtain ⟨x0, h1, h2⟩ := key i x hi
    obtain ⟨y0, h3, h4⟩ := key j y hj
    exact hD.1 i j x0 y0 h1 h3 (h2.trans (hxy.trans h4.symm))
  · obtain ⟨q0, h1, h2⟩ := key k q hk
    rw [← h2]
    exact hD.2 k q0 h1
/-! locals -/
def islong (o : Option AV) : Bool := match o with
  | some (.inr (.inl _)) => true
  | _ => false
def lkill (ls : LSt) (i : Nat) : LSt := match i with
  | 0 => ls
  | j + 1 => bif islong (ls.getD j none) then ls.set j none else ls
def lst1 (ls : LSt) (i : Nat) (v : AV) : LSt := (lkill ls i).set i (some v)
def lst2 (ls : LSt) (i : Nat) (v : AV) : LSt := ((lkill ls i).set i (some v)).set (i + 1) none
def lpl (σ : Nat → Nat) : Nat → LSt → List (Nat × Value)
  | _, [] => []
  | i, none :: r => lpl σ (i + 1) r
  | i, some v :: r => (i, cvv σ v) :: lpl σ (i + 1) r
theorem lpl_mem (σ : Nat → Nat) : ∀ (ls : LSt) (b : Nat) (q : Nat × Value), q ∈ lpl σ b ls ↔ ∃ (i : Nat) (v : AV), ls[i]? = some (some v) ∧ q = (b + i, cvv σ v)
  | [], b, q => by simp [lpl]
  | none :: r, b, q => by
    rw [lpl, lpl_mem σ r (b + 1) q]
    constructor
    · rintro ⟨i, v, h1, h2⟩
      exact ⟨i + 1, v, by simpa using h1, by rw [h2]; congr 1; omega⟩
    · rintro ⟨i, v, h1, h2⟩
      cases i with
      | zero => simp at h1
      | succ i => exact ⟨i, v, by simpa using h1, by rw [h2]; congr 1; omega⟩
  | some w :: r, b, q => by
    rw [lpl, List.mem_cons, lpl_mem σ r (b + 1) q]
    constructor
    · rintro (h | ⟨i, v, h1, h2⟩)
      · exact ⟨0, w, rfl, by rw [h]; rfl⟩
      · exact ⟨i + 1, v, by simpa using h1, by rw [h2]; congr 1; omega⟩
    · rintro ⟨i, v, h1, h2⟩
      cases i with
      | zero => simp at h1; subst h1; exact Or.inl (by rw [h2]; rfl)
      | succ i => exact Or.inr ⟨i, v, by simpa using h1, by rw [h2]; congr 1; omega⟩
def lhas (σ : Nat → Nat) (lsa : Array Slot) (nL : Nat) (ls : LSt) : Prop := lv_has lsa nL (lpl σ 0 ls)
theorem lhas_at {σ : Nat → Nat} {lsa : Array Slot} {nL : Nat} {ls : LSt} (h : lhas σ lsa nL ls) {i : Nat} {v : AV} (hi : ls.getD i none = some v) : lsa[i]? = some (.val (cvv σ v)) := by
  have h2 := h.2.2 (i, cvv σ v) ((lpl_mem σ ls 0 _).mpr ⟨i, v, ?_, by simp⟩)
  · exact h2
  · rw [List.getD_eq_getElem?_getD] at hi
    cases hl : ls[i]? with
    | none => rw [hl] at hi; simp at hi
    | some o => rw [hl] at hi; simp at hi; rw [hi]
theorem lhas_mem {σ : Nat → Nat} {ls : LSt} {i : Nat} {w : Value} : (i, w) ∈ lpl σ 0 ls ↔ ∃ v, ls[i]? = some (some v) ∧ w = cvv σ v := by
  rw [lpl_mem]
  constructor
  · rintro ⟨j, v, h1, h2⟩
    simp at h2
    obtain ⟨rfl, rfl⟩ := h2
    exact ⟨v, h1, rfl⟩
  · rintro ⟨v, h1, rfl⟩
    exact ⟨i, v, h1, by simp⟩
theorem cvv_cat {σ : Nat → Nat} {v : AV} : ((cvv σ v).category == 2) = islong (some v) := by
  obtain x | x | x := v <;> rfl
theorem lkill_at {ls : LSt} {i j : Nat} {v : AV} (h : (lkill ls i)[j]? = some (some v)) : ls[j]? = some (some v) ∧ ¬ (j + 1 = i ∧ islong (some v) = true) := by
  unfold lkill at h
  cases i with
  | zero => exact ⟨h, fun q => by omega⟩
  | succ i =>
    simp only at h
    cases hb : islong (ls.getD i none) with
    | true =>
      rw [hb, cond_true] at h
      by_cases hj : j = i
      · subst hj
        by_cases hl : j < ls.length
        · rw [List.getElem?_set_self hl] at h; cases h
        · rw [List.getElem?_eq_none (by simp; omega)] at h; cases h
      · rw [List.getElem?_set_ne (Ne.symm hj)] at h
        exact ⟨h, fun q => hj (by omega)⟩
    | false =>
      rw [hb, cond_false] at h
      refine ⟨h, fun q => ?_⟩
      have : j = i := by omega
      subst this
      rw [List.getD_eq_getElem?_getD, h] at hb
      simp only [Option.getD_some] at hb
      rw [hb] at q
      exact absurd q.2 (by decide)
theorem lhas_st1 {σ : Nat → Nat} {lsa : Array Slot} {nL : Nat} {ls : LSt} {i : Nat} {v : AV} (h : lv_has lsa nL ((i, cvv σ v) :: (lpl σ 0 ls).filter (fun q => !(q.1 == i) && !(q.1 + 1 == i && q.2.category == 2)))) : lhas σ lsa nL (lst1 ls i v) := by
  refine ⟨h.1, h.2.1, fun q hq => h.2.2 q ?_⟩
  obtain ⟨j, w⟩ := q
  obtain ⟨u, h1, rfl⟩ := lhas_mem.mp hq
  by_cases hj : j = i
  · subst hj
    unfold lst1 at h1
    by_cases hl : j < (lkill ls j).length
    · rw [List.getElem?_set_self hl] at h1
      cases h1
      exact List.mem_cons_self
    · rw [List.getElem?_eq_none (by simp; omega)] at h1; cases h1
  · unfold lst1 at h1
    rw [List.getElem?_set_ne (Ne.symm hj)] at h1
    obtain ⟨h2, h3⟩ := lkill_at h1
    refine List.mem_cons_of_mem _ (List.mem_filter.mpr ⟨lhas_mem.mpr ⟨u, h2, rfl⟩, ?_⟩)
    simp only [cvv_cat, Bool.and_eq_true, Bool.not_eq_true', beq_eq_false_iff_ne, ne_eq, Bool.and_eq_false_iff]
    refine ⟨hj, ?_⟩
    by_cases hq1 : j + 1 = i
    · right
      cases hb : islong (some u) with
      | true => exact absurd ⟨hq1, hb⟩ h3
      | false => rfl
    · exact Or.inl hq1
theorem lhas_st2 {σ : Nat → Nat} {lsa : Array Slot} {nL : Nat} {ls : LSt} {i : Nat} {v : AV} (h : lv_has lsa nL ((i, cvv σ v) :: (lpl σ 0 ls).filter (fun q => !(q.1 == i) && (!(q.1 == i + 1) && !(q.1 + 1 == i && q.2.category == 2))))) : lhas σ lsa nL (lst2 ls i v) := by
  refine ⟨h.1, h.2.1, fun q hq => h.2.2 q ?_⟩
  obtain ⟨j, w⟩ := q
  obtain ⟨u, h1, rfl⟩ := lhas_mem.mp hq
  unfold lst2 at h1
  by_cases hj1 : j = i + 1
  · subst hj1
    by_cases hl : i + 1 < ((lkill ls i).set i (some v)).length
    · rw [List.getElem?_set_self hl] at h1; cases h1
    · rw [List.getElem?_eq_none (by simp at hl ⊢; omega)] at h1; cases h1
  rw [List.getElem?_set_ne (Ne.symm hj1)] at h1
  by_cases hj : j = i
  · subst hj
    by_cases hl : j < (lkill ls j).length
    · rw [List.getElem?_set_self hl] at h1
      cases h1
      exact List.mem_cons_self
    · rw [List.getElem?_eq_none (by simp; omega)] at h1; cases h1
  · rw [List.getElem?_set_ne (Ne.symm hj)] at h1
    obtain ⟨h2, h3⟩ := lkill_at h1
    refine List.mem_cons_of_mem _ (List.mem_filter.mpr ⟨lhas_mem.mpr ⟨u, h2, rfl⟩, ?_⟩)
    simp only [cvv_cat, Bool.and_eq_true, Bool.not_eq_true', beq_eq_false_iff_ne, ne_eq, Bool.and_eq_false_iff]
    refine ⟨hj, hj1, ?_⟩
    by_cases hq1 : j + 1 = i
    · right
      cases hb : islong (some u) with
      | true => exact absurd ⟨hq1, hb⟩ h3
      | false => rfl
    · exact Or.inl hq1
/-! the judgement -/
def Qv (D : va_G) (γ : Nat → ClassId) (σ : Nat → Nat) (K : List KD) (A : Nat → Prop) (Q : QT) : Array Value → State → Outcome → State → Prop := fun _ st oc t =>
  (∃ (r : Option AV) (h : HP), oc = .returned (r.map (cvv σ)) ∧ Q r h ∧ va_P D vwCl (wdl γ σ h K) t.heap) ∧ va_F A st t
def Cn (K : List KD) (d : Nat) (M : MI) (h : HP) (p : Program) (R : Room) (s : State) (m : MethodId) (args : Array Value) (meth : Method) (c : Code) (H : Heap) (locs : List Loc) (cells slots : Nat) (D : va_G) (γ : Nat → ClassId) (σ : Nat → Nat) (A : Nat → Prop) : Prop :=
  p.tables.exec = Jvm.exec ∧ c.code = M.2.1 ∧ c.maxLocals = M.2.2.1 ∧ meth.sig.returnType = M.2.2.2 ∧ meth.locks = false ∧ s.vm.findClass M.1.cls = some m.cls ∧ (∀ w ∈ tb2, w.before args s = true) ∧
  (d ≤ R.frames ∧ 64 * d ≤ R.locals ∧ cells ≤ R.cells ∧ slots ≤ R.slots) ∧ va_K D vwCl (tyl γ) s ∧ va_P D vwCl (wdl γ σ h K) H ∧ va_D A (wdl γ σ h K) ∧ va_S A s.heap H locs
def V (K : List KD) (d : Nat) (M : MI) (pc : Nat) (ls : LSt) (st : List AV) (h : HP) (Q : QT) : Prop :=
  ∀ (p : Program) (l : Launch) (e : Env) (R : Room) (s : State) (m : MethodId) (args : Array Value) (below : List Frame) (meth : Method) (c : Code) (H : Heap) (locs : List Loc) (cells slots : Nat) (D : va_G) (γ : Nat → ClassId) (σ : Nat → Nat) (A : Nat → Prop) (lsa : Array Slot),
    Cn K d M h p R s m args meth c H locs cells slots D γ σ A → lhas σ lsa M.2.2.1 ls →
    W p l e R s m args below meth c H locs cells slots (MQ below (Qv D γ σ K A Q) args s cells slots A) (F0 m pc lsa (st.map (cvv σ)))
def lay : Nat → List AV → LSt
  | n, [] => List.replicate n none
  | n, .inr (.inl x) :: r => some (.inr (.inl x)) :: none :: lay (n - 2) r
  | n, .inl x :: r => some (.inl x) :: lay (n - 1) r
  | n, .inr (.inr x) :: r => some (.inr (.inr x)) :: lay (n - 1) r
/-- a method's contract: from its entry -/
def Ct (K : List KD) (d : Nat) (M : MI) (as : List AV) (h : HP) (Q : QT) : Prop := V K d M 0 (lay M.2.2.1 as) [] h Q
/-- an int is answered; nothing is -/
abbrev rI (P : Int → HP → Prop) : QT := fun r h => ∃ v, r = some (aI v) ∧ P v h
abbrev rV (P : HP → Prop) : QT := fun r h => r = none ∧ P h
theorem V_mono {K : List KD} {d : Nat} {M : MI} {pc : Nat} {ls : LSt} {st : List AV} {h : HP} {Q Q' : QT} (hV : V K d M pc ls st h Q) (hQ : ∀ r h, Q r h → Q' r h) : V K d M pc ls st h Q' := by
  intro p l e R s m args below meth c H locs cells slots D γ σ A lsa C hl T hT X
  obtain ⟨t, a, o, b1, b2, ⟨⟨r, h', c1, c2, c3⟩, c4⟩, b4⟩ := hV p l e R s m args below meth c H locs cells slots D γ σ A lsa C hl T hT X
  exact ⟨t, a, o, b1, b2, ⟨⟨r, h', c1, hQ _ _ c2, c3⟩, c4⟩, b4⟩
theorem V_deep {K : List KD} {d d' : Nat} {M : MI} {pc : Nat} {ls : LSt} {st : List AV} {h : HP} {Q : QT} (hV : V K d M pc ls st h Q) (hd : d ≤ d') : V K d' M pc ls st h Q := by
  intro p l e R s m args below meth c H locs cells slots D γ σ A lsa C hl
  obtain ⟨c1, c2, c3, c4, c5, c6, c7, ⟨e1, e2, e3, e4⟩, c9⟩ := C
  exact hV p l e R s m args below meth c H locs cells slots D γ σ A lsa ⟨c1, c2, c3, c4, c5, c6, c7, ⟨by omega, by omega, e3, e4⟩, c9⟩ hl
theorem Ct_I {K : List KD} {d d' : Nat} {M : MI} {as : List AV} {h : HP} {P P' : Int → HP → Prop} (hC : Ct K d M as h (rI P)) (hd : d ≤ d') (hP : ∀ v h', P v h' → P' v h') : Ct K d' M as h (rI P') :=
  V_deep (V_mono hC (fun _ _ ⟨v, e, q⟩ => ⟨v, e, hP v _ q⟩)) hd
theorem Ct_V {K : List KD} {d d' : Nat} {M : MI} {as : List AV} {h : HP} {P P' : HP → Prop} (hC : Ct K d M as h (rV P)) (hd : d ≤ d') (hP : ∀ h', P h' → P' h') : Ct K d' M as h (rV P') :=
  V_deep (V_mono hC (fun _ _ ⟨e, q⟩ => ⟨e, hP _ q⟩)) hd
theorem lay_sub (σ : Nat → Nat) : ∀ (as : List AV) (b n : Nat) (q : Nat × Value), q ∈ lpl σ b (lay n as) → q ∈ lv_args b (as.map (cvv σ))
  | [], b, n, q, h => by
    obtain ⟨i, v, h1, -⟩ := (lpl_mem σ _ b q).mp h
    rw [lay, List.getElem?_replicate] at h1
    split at h1 <;> cases h1
  | .inr (.inl x) :: r, b, n, q, h => by
    rw [lay, lpl, List.mem_cons, lpl] at h
    show q ∈ (b, cvv σ (.inr (.inl x))) :: lv_args (b + 2) (r.map (cvv σ))
    rcases h with h | h
    · rw [h]; exact List.mem_cons_self
    · exact List.mem_cons_of_mem _ (lay_sub σ r (b + 1 + 1) (n - 2) q h)
  | .inl x :: r, b, n, q, h => by
    rw [lay, lpl, List.mem_cons] at h
    show q ∈ (b, cvv σ (.inl x)) :: lv_args (b + 1) (r.map (cvv σ))
    rcases h with h | h
    · rw [h]; exact List.mem_cons_self
    · exact List.mem_cons_of_mem _ (lay_sub σ r (b + 1) (n - 1) q h)
  | .inr (.inr x) :: r, b, n, q, h => by
    rw [lay, lpl, List.mem_cons] at h
    show q ∈ (b, cvv σ (.inr (.inr x))) :: lv_args (b + 1) (r.map (cvv σ))
    rcases h with h | h
    · rw [h]; exact List.mem_cons_self
    · exact List.mem_cons_of_mem _ (lay_sub σ r (b + 1) (n - 1) q h)
def slen : List AV → Nat
  | [] => 0
  | .inr (.inl _) :: r => slen r + 2
  | .inl _ :: r => slen r + 1
  | .inr (.inr _) :: r => slen r + 1
theorem slen_sl (σ : Nat → Nat) : ∀ as : List AV, (lg_sl (as.map (cvv σ))).length = slen as
  | [] => rfl
  | .inr (.inl x) :: r => by
    have e : lg_sl (((.inr (.inl x) : AV) :: r).map (cvv σ)) = [Slot.val (.long (Int64.ofInt x)), Slot.second] ++ lg_sl (r.map (cvv σ)) := by simp [lg_sl, cvv, Value.category]
    rw [e, List.length_append, slen_sl σ r]
    show 2 + slen r = slen r + 2
    omega
  | .inl x :: r => by
    have e : lg_sl (((.inl x : AV) :: r).map (cvv σ)) = [Slot.val (.int (Int32.ofInt x))] ++ lg_sl (r.map (cvv σ)) := by simp [lg_sl, cvv, Value.category]
    rw [e, List.length_append, slen_sl σ r]
    show 1 + slen r = slen r + 1
    omega
  | .inr (.inr x) :: r => by
    have e : lg_sl (((.inr (.inr x) : AV) :: r).map (cvv σ)) = [Slot.val (.ref (σ x))] ++ lg_sl (r.map (cvv σ)) := by simp [lg_sl, cvv, Value.category]
    rw [e, List.length_append, slen_sl σ r]
    show 1 + slen r = slen r + 1
    omega
theorem slen_cat (σ : Nat → Nat) : ∀ as : List AV, ((as.map (cvv σ)).map fun v => v.category).sum = slen as
  | [] => rfl
  | .inr (.inl x) :: r => by
    have := slen_cat σ r
    simp [cvv, Value.category, slen] at this ⊢
    omega
  | .inl x :: r => by
    have := slen_cat σ r
    simp [cvv, Value.category, slen] at this ⊢
    omega
  | .inr (.inr x) :: r => by
    have := slen_cat σ r
    simp [cvv, Value.category, slen] at this ⊢
    omega
/-- what a callee's contract is to the kit -/
theorem met_of {K : List KD} {d : Nat} {M : MI} {as : List AV} {h : HP} {Q : QT} (hct : Ct K d M as h Q) (hM : plainName M.1.cls = true) (hlen : slen as ≤ M.2.2.1) (l : Launch) (D : va_G) (γ : Nat → ClassId) (σ : Nat → Nat) (A : Nat → Prop) :
    Met l M.1 (Cond.code M.1 M.2.1 M.2.2.1 M.2.2.2 :: tb2) ({ frames := d, cells := 0, slots := 0, locals := 64 * d }) (va_Pc (as.map (cvv σ)) (fun U => va_P D vwCl (wdl γ σ h K) U.heap ∧ va_K D vwCl (tyl γ) U ∧ va_D A (wdl γ σ h K))) (Qv D γ σ K A Q) 0 0 A := by
  refine Met.ofW (cc := M.2.1) (maxL := M.2.2.1) (ret := M.2.2.2) hM rfl ?_
  intro p e s m args below meth c s₁ B hml hv
  obtain ⟨rfl, hP, hK, hD⟩ := hv
  have hts := atoms_spec (ws := Cond.code M.1 M.2.1 M.2.2.1 M.2.2.2 :: tb2) B.pre
  have hl := lv_entry (as.map (cvv σ)) (n := M.2.2.1) (by rw [slen_sl]; exact hlen)
  rw [lg_entry_eq]
  refine hct p l e _ s m _ below meth c s.heap [] 0 0 D γ σ A _ ⟨B.exec, B.bytes, hml, B.returns, B.notSynchronized, findClass_of_methodNamed B.named, fun w hw => hts w (List.mem_cons_of_mem _ hw), ⟨Nat.le_refl _, Nat.le_refl _, Nat.zero_le _, Nat.zero_le _⟩, hK, hP, hD, va_S.rf⟩ ?_
  exact ⟨hl.1, hl.2.1, fun q hq => hl.2.2 q (lay_sub σ as 0 _ q hq)⟩
