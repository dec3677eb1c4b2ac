/-! rows of rows, Math, arraycopy, calls -/
def rwk (K : List KD) (c b n : Nat) : Bool := match K[c]? with
  | some (4, n', l) => n' == n && l == (List.range n).map (fun i => some (b + i))
  | _ => false
theorem rwk_some {K : List KD} {c b n : Nat} (h : rwk K c b n = true) : K[c]? = some (4, n, (List.range n).map (fun i => some (b + i))) := by
  unfold rwk at h
  split at h
  · rename_i n' l hk
    simp only [Bool.and_eq_true, beq_iff_eq] at h
    obtain ⟨rfl, rfl⟩ := h
    exact hk
  · cases h
def p_aald (K : List KD) (b n : Nat) (k : KT) : KT := fun ls st h => match st with
  | .inl i :: .inr (.inr c) :: st => bif rwk K c b n then (0 ≤ i ∧ i < (n : Int)) ∧ k ls (aR (b + i.toNat) :: st) h else False
  | _ => False
theorem s_aald {K : List KD} {d : Nat} {M : MI} {pc : Nat} {Q : QT} {k : KT} {b n : Nat} (hn : n < 2147483648) (hd : decode M.2.1 pc = .ok (.aaload, 1)) (hk : ∀ ls st h, k ls st h → V K d M (pc + 1) ls st h Q) : ∀ ls st h, p_aald K b n k ls st h → V K d M pc ls st h Q := by
  intro ls st h hh
  unfold p_aald at hh
  split at hh
  · rename_i i c st
    cases hb : rwk K c b n with
    | false => rw [hb, cond_false] at hh; exact hh.elim
    | true =>
    rw [hb, cond_true] at hh
    obtain ⟨⟨h1, h2⟩, hh⟩ := hh
    have hl1 := rwk_some hb
    intro p l0 e R s m args below meth c0 H locs cells slots D γ σ A lsa C hl
    obtain ⟨c1, c2, c3, c4, c5, c6, c7, c8, c9, c10, c11, c12⟩ := id C
    have h9 := hk _ _ _ hh p l0 e R s m args below meth c0 H locs cells slots D γ σ A lsa C hl
    have hlt : i.toNat < n := by omega
    have hcell : H[σ c]? = some (vp_cell (γ 4) (n, .inr (.inr (.inr (.inr (fun i => (((List.range n).map (fun i => some (b + i))).getD i none).map σ)))))) := c10 c _ (wdl_at hl1)
    refine W.aald (v := .ref (σ (b + i.toNat))) (ty := .array .int) c1 c2 hcell ((c9.2 3 _ rfl).1 n (fun j => va_rf ((((List.range n).map (fun i => some (b + i))).getD j none).map σ))) rfl (fun q => by cases q) (by show ¬ (Int32.ofInt i < 0 ∨ (arrV _ _ _).slots.size ≤ _); rw [arrV_size]; exact oI_in h1 h2 hn) ?_ rfl rfl hd h9
    rw [oI_nat h1 ⟨by omega, by omega⟩]
    show (arrV _ _ _).slots[_]? = _
    rw [arrV_read _ _ hlt]
    simp [List.getD_eq_getElem?_getD, hlt, va_rf]
  · exact hh.elim
def p_imax (k : KT) : KT := fun ls st h => match st with
  | .inl y :: .inl x :: st => bif Nat.ble (slen st) 8 then (iR x ∧ iR y) ∧ k ls (aI (max x y) :: st) h else False
  | _ => False
theorem s_imax {K : List KD} {d : Nat} {M : MI} {pc : Nat} {Q : QT} {k : KT} {ix : Nat} (hw : Cond.methodLink M.1.cls ix Lib.Math.max.name ∈ tb2) (hw1 : Cond.static Lib.Math.max.name ∈ tb2) (hw2 : Cond.initialized "java/lang/Math" ∈ tb2) (hw3 : Cond.code Lib.Math.max.name Lib.Math.max.code 2 (some .int) ∈ tb2) (hd : decode M.2.1 pc = .ok (.invokestatic ix, 3)) (hk : ∀ ls st h, k ls st h → V K (d + 1) M (pc + 3) ls st h Q) : ∀ ls st h, p_imax k ls st h → V K (d + 1) M pc ls st h Q := by
  intro ls st h hh
  unfold p_imax at hh
  split at hh
  · rename_i y x st
    cases hb8 : Nat.ble (slen st) 8 with
    | false => rw [hb8, cond_false] at hh; exact hh.elim
    | true =>
    rw [hb8, cond_true] at hh
    have hs8 := Nat.le_of_ble_eq_true hb8
    obtain ⟨hq, hh⟩ := hh
    intro p l0 e R s m args below meth c0 H locs cells slots D γ σ A lsa C hl
    obtain ⟨c1, c2, c3, c4, c5, c6, c7, ⟨e1, e2, e3, e4⟩, c9, c10, c11, c12⟩ := id C
    have h9 := hk _ _ _ hh p l0 e R s m args below meth c0 H locs cells slots D γ σ A lsa C hl
    refine va_mmax c1 c2 (c3.trans hl.1.symm) c6 (c7 _ hw) (c7 _ hw1) (c7 _ hw2) (c7 _ hw3) (by omega) (by rw [slen_cat]; have : slen st ≤ 8 := hs8; omega) e3 e4 hd ?_
    have e9 : (if Int32.ofInt x < Int32.ofInt y then Int32.ofInt y else Int32.ofInt x) = Int32.ofInt (max x y) := by
      by_cases hxy : x < y
      · rw [if_pos ((oI_lt hq.1 hq.2).mpr hxy), show max x y = y by omega]
      · rw [if_neg (fun z => hxy ((oI_lt hq.1 hq.2).mp z)), show max x y = x by omega]
    rw [e9]
    exact h9
  · exact hh.elim
def p_imin (k : KT) : KT := fun ls st h => match st with
  | .inl y :: .inl x :: st => bif Nat.ble (slen st) 8 then (iR x ∧ iR y) ∧ k ls (aI (min x y) :: st) h else False
  | _ => False
theorem s_imin {K : List KD} {d : Nat} {M : MI} {pc : Nat} {Q : QT} {k : KT} {ix : Nat} (hw : Cond.methodLink M.1.cls ix Lib.Math.min.name ∈ tb2) (hw1 : Cond.static Lib.Math.min.name ∈ tb2) (hw2 : Cond.initialized "java/lang/Math" ∈ tb2) (hw3 : Cond.code Lib.Math.min.name Lib.Math.min.code 2 (some .int) ∈ tb2) (hd : decode M.2.1 pc = .ok (.invokestatic ix, 3)) (hk : ∀ ls st h, k ls st h → V K (d + 1) M (pc + 3) ls st h Q) : ∀ ls st h, p_imin k ls st h → V K (d + 1) M pc ls st h Q := by
  intro ls st h hh
  unfold p_imin at hh
  split at hh
  · rename_i y x st
    cases hb8 : Nat.ble (slen st) 8 with
    | false => rw [hb8, cond_false] at hh; exact hh.elim
    | true =>
    rw [hb8, cond_true] at hh
    have hs8 := Nat.le_of_ble_eq_true hb8
    obtain ⟨hq, hh⟩ := hh
    intro p l0 e R s m args below meth c0 H locs cells slots D γ σ A lsa C hl
    obtain ⟨c1, c2, c3, c4, c5, c6, c7, ⟨e1, e2, e3, e4⟩, c9, c10, c11, c12⟩ := id C
    have h9 := hk _ _ _ hh p l0 e R s m args below meth c0 H locs cells slots D γ σ A lsa C hl
    refine va_mmin c1 c2 (c3.trans hl.1.symm) c6 (c7 _ hw) (c7 _ hw1) (c7 _ hw2) (c7 _ hw3) (by omega) (by rw [slen_cat]; have : slen st ≤ 8 := hs8; omega) e3 e4 hd ?_
    have e9 : (if Int32.ofInt y < Int32.ofInt x then Int32.ofInt y else Int32.ofInt x) = Int32.ofInt (min x y) := by
      by_cases hxy : y < x
      · rw [if_pos ((oI_lt hq.2 hq.1).mpr hxy), show min x y = y by omega]
      · rw [if_neg (fun z => hxy ((oI_lt hq.2 hq.1).mp z)), show min x y = x by omega]
    rw [e9]
    exact h9
  · exact hh.elim
/-- a row is copied over another -/
def hcpy (h : HP) (a b : Nat) (n : Int) : HP := hrow h b (fun i => if 0 ≤ i ∧ i < n then h a i else h b i)
def p_acopy (K : List KD) (n : Nat) (k : KT) : KT := fun ls st h => match st with
  | .inl x :: .inl dp :: .inr (.inr b) :: .inl sp :: .inr (.inr a) :: st => bif Nat.ble (slen st) 8 then (x = (n : Int) ∧ dp = 0 ∧ sp = 0 ∧ akd K a 1 n = true ∧ akd K b 1 n = true) ∧ k ls st (hcpy h a b n) else False
  | _ => False
theorem s_acopy {K : List KD} {d : Nat} {M : MI} {pc : Nat} {Q : QT} {k : KT} {ix n : Nat} (hn : n < 2147483648) (hw : Cond.methodLink M.1.cls ix arraycopyName ∈ tb2) (hw1 : Cond.native arraycopyName ∈ tb2) (hw2 : Cond.static arraycopyName ∈ tb2) (hw3 : Cond.initialized "java/lang/System" ∈ tb2) (hd : decode M.2.1 pc = .ok (.invokestatic ix, 3)) (hk : ∀ ls st h, k ls st h → V K (d + 1) M (pc + 3) ls st h Q) : ∀ ls st h, p_acopy K n k ls st h → V K (d + 1) M pc ls st h Q := by
  intro ls st h hh
  unfold p_acopy at hh
  split at hh
  · rename_i x dp b sp a st
    cases hb8 : Nat.ble (slen st) 8 with
    | false => rw [hb8, cond_false] at hh; exact hh.elim
    | true =>
    rw [hb8, cond_true] at hh
    have hs8 := Nat.le_of_ble_eq_true hb8
    obtain ⟨⟨rfl, rfl, rfl, ha, hb⟩, hh⟩ := hh
    obtain ⟨la, ha⟩ := akd_some ha
    obtain ⟨lb, hb⟩ := akd_some hb
    intro p l0 e R s m args below meth c0 H locs cells slots D γ σ A lsa C hl
    obtain ⟨c1, c2, c3, c4, c5, c6, c7, ⟨e1, e2, e3, e4⟩, c9, c10, c11, c12⟩ := id C
    have hnn : (Int32.ofInt (n : Int)).toNatClampNeg = n := by rw [oI_nat (by omega) ⟨by omega, by omega⟩]; omega
    have hz : (Int32.ofInt 0).toNatClampNeg = 0 := rfl
    refine va_copyi (ty := .int) c1 c2 (c3.trans hl.1.symm) c6 (c7 _ hw) (c7 _ hw1) (c7 _ hw2) (c7 _ hw3) c9 c10 c11 c12 a b 0 0 (arr_at ha (by decide) (by decide)) (arr_at hb (by decide) (by decide)) rfl rfl rfl (by decide) (by decide) ?_ ?_ ?_ (fun _ _ => rfl) (by omega) ?_ hd (fun H1 locs1 hP hD hS => ?_)
    · intro q
      have := (oI_lt (x := (n : Int)) (y := 0) ⟨by omega, by omega⟩ iR_0).mp q
      omega
    · rw [hnn, hz]; omega
    · rw [hnn, hz]; omega
    · rw [slen_cat]
      have : slen st ≤ 8 := hs8
      have : nativeFrameWords "java/lang/System" "arraycopy" 5 = 7 := by decide
      omega
    · rw [hnn, hz] at hP
      have hP : va_P D vwCl (wdl γ σ (hcpy h a b n) K) H1 := by
        rw [hcpy, ← wdl_setR (g := va_cpy (fun i => Int32.ofInt (h a i)) (fun i => Int32.ofInt (h b i)) 0 0 n) hb (by decide) (by decide)]
        · exact hP
        · intro i
          by_cases hi : i < n
          · have : (0 : Int) ≤ i ∧ (i : Int) < n := ⟨by omega, by omega⟩
            simp [va_cpy, hi]
          · simp [va_cpy, hi]
      exact hk _ _ _ hh p l0 e R s m args below meth c0 H1 locs1 cells slots D γ σ A lsa ⟨c1, c2, c3, c4, c5, c6, c7, ⟨e1, e2, e3, e4⟩, c9, hP, wdl_D c11, hS⟩ hl
  · exact hh.elim
/-! calls -/
def ocl (K : List KD) (c ci : Nat) : Bool := match K[c]? with
  | some (0, ci', _) => ci' == ci
  | _ => false
theorem ocl_some {K : List KD} {c ci : Nat} (h : ocl K c ci = true) : ∃ l, K[c]? = some (0, ci, l) := by
  unfold ocl at h
  split at h
  · rename_i ci' l hk
    have : ci' = ci := by simpa using h
    subst this
    exact ⟨l, hk⟩
  · cases h
def ccv (K : List KD) (ci np : Nat) (M : MI) (as rest : List AV) : Bool := match as with
  | .inr (.inr c) :: r => ocl K c ci && (r.length == np && (Nat.ble (slen as) M.2.2.1 && Nat.ble (slen rest) 8))
  | _ => false
def ccs (np : Nat) (M : MI) (as rest : List AV) : Bool := as.length == np && (Nat.ble (slen as) M.2.2.1 && Nat.ble (slen rest) 8)
def okM (M : MI) (np : Nat) : Prop := plainName M.1.cls = true ∧ M.1.cls ≠ "java/lang/invoke/MethodHandle" ∧ M.1.cls ≠ "java/lang/invoke/VarHandle" ∧ Cond.code M.1 M.2.1 M.2.2.1 M.2.2.2 ∈ tb2 ∧ Cond.initialized M.1.cls ∈ tb2 ∧ M.2.2.1 ≤ 45 ∧ (parseMethodDescriptor M.1.desc).map (fun d => d.parameters.length) = some np
def okV (M : MI) (ci np : Nat) : Prop := okM M np ∧ Cond.instanceMethod M.1 ∈ tb2 ∧ Cond.selects M.1.cls M.1 M.1 ∈ tb2 ∧ ∃ (T : u_T) (N : Nat), vwCl[ci]? = some (M.1.cls, T, N)
def okS (M : MI) (np : Nat) : Prop := okM M np ∧ Cond.static M.1 ∈ tb2
theorem okM_len {M : MI} {np : Nat} (h : okM M np) : ∀ sig, parseMethodDescriptor M.1.desc = some sig → np = sig.parameters.length := fun sig hs => by
  have h2 := h.2.2.2.2.2.2
  rw [hs] at h2
  exact (Option.some.inj h2).symm
theorem tb2_pay {M : MI} {args : Array Value} {s : State} {np : Nat} (hM : okM M np) (h : ∀ w ∈ tb2, w.before args s = true) : ∀ w ∈ (Cond.code M.1 M.2.1 M.2.2.1 M.2.2.2 :: tb2), ∀ (a' : Array Value) (U : State), s.WarmedH U.vm → w.before a' U = true := by
  intro w hw a' U hW
  have hw : w ∈ tb2 := by
    rcases List.mem_cons.mp hw with rfl | hw
    · exact hM.2.2.2.1
    · exact hw
  exact tb2_warm h hW w hw
theorem pc_blind {D : va_G} {γ : Nat → ClassId} {σ : Nat → Nat} {h : HP} {K : List KD} {A : Nat → Prop} {av : List Value} : FrameBlind (va_Pc av (fun U => va_P D vwCl (wdl γ σ h K) U.heap ∧ va_K D vwCl (tyl γ) U ∧ va_D A (wdl γ σ h K))) := by
  intro a U g mk q
  obtain ⟨q0, qP, qK, qD⟩ := q
  exact ⟨q0, qP, va_K.moved (u := U) (U := U.calling g mk a) (Vm.Alike.refl U.vm) qK, qD⟩
/-- behind a call -/
theorem call_on {p : Program} {l : Launch} {e : Env} {R : Room} {s : State} {m : MethodId} {args : Array Value} {below : List Frame} {meth : Method} {c : Code} {H : Heap} {locs : List Loc} {cells slots : Nat} {D : va_G} {γ : Nat → ClassId} {σ : Nat → Nat} {A : Nat → Prop} {lsa : Array Slot} {K : List KD} {d : Nat} {M : MI} {pc : Nat} {ls : LSt} {st0 : List Value} {rest : List AV} {h : HP} {Q Q1 : QT} {a : Array Value}
    (C : Cn K d M h p R s m args meth c H locs cells slots D γ σ A) (hl : lhas σ lsa M.2.2.1 ls)
    (hr : va_Run p l e R s m args below meth c H locs cells slots 0 0 (F0 m pc lsa st0) (rest.map (cvv σ)) (Qv D γ σ K A Q1 a) A)
    (kk : ∀ r h', Q1 r h' → V K d M (pc + 3) ls (r.toList ++ rest) h' Q) : W p l e R s m args below meth c H locs cells slots (MQ below (Qv D γ σ K A Q) args s cells slots A) (F0 m pc lsa st0) := by
  obtain ⟨c1, c2, c3, c4, c5, c6, c7, c8, c9, c10, c11, c12⟩ := C
  intro T hT X
  obtain ⟨v, st₀, t, T', L, h0, X', hL, e1, e2, ⟨⟨r, h', hv, hq, hP'⟩, hz, hk⟩, st⟩ := hr T hT X
  have hv : v = r.map (cvv σ) := by injection hv
  subst hv
  rw [h0] at hz hk
  have hS : va_S A s.heap T'.heap (locs ++ L) := ⟨Nat.le_trans c12.1 (by rw [e1]; exact hz), fun q h1 h2 => by rw [e1, hk q (Nat.lt_of_lt_of_le h1 c12.1) h2]; exact c12.2.1 q h1 h2, fun q hq => by
      rcases List.mem_append.mp hq with h | h
      · exact c12.2.2 q h
      · exact hL q h⟩
  obtain ⟨t2, a1, b1⟩ := kk r h' hq p l e R s m args below meth c T'.heap (locs ++ L) cells slots D γ σ A lsa ⟨c1, c2, c3, c4, c5, c6, c7, c8, c9, by rw [e1]; exact hP', wdl_D c11, hS⟩ hl T' rfl X'
  refine ⟨t2, st t2 ?_, b1⟩
  have e9 : (r.map (cvv σ)).toList ++ rest.map (cvv σ) = (r.toList ++ rest).map (cvv σ) := by cases r <;> rfl
  show Steps _ _ _ (T'.setTop { F0 m pc lsa st0 with pc := pc + 3, stack := (r.map (cvv σ)).toList ++ rest.map (cvv σ) }) t2
  rw [e9]
  exact a1
theorem ccv_ok {K : List KD} {ci np : Nat} {M : MI} {as rest : List AV} (h : ccv K ci np M as rest = true) : ∃ (c : Nat) (r : List AV) (l : List (Option Nat)), as = aR c :: r ∧ K[c]? = some (0, ci, l) ∧ r.length = np ∧ slen as ≤ M.2.2.1 ∧ slen rest ≤ 8 := by
  unfold ccv at h
  split at h
  · rename_i c r
    simp only [Bool.and_eq_true, beq_iff_eq] at h
    obtain ⟨h1, h2, h3, h4⟩ := h
    obtain ⟨l, hl⟩ := ocl_some h1
    exact ⟨c, r, l, rfl, hl, h2, Nat.le_of_ble_eq_true h3, Nat.le_of_ble_eq_true h4⟩
  · cases h
theorem stk_v {σ : Nat → Nat} {st : List AV} {n c : Nat} {r : List AV} (h : (st.take n).reverse = aR c :: r) : st.map (cvv σ) = (r.map (cvv σ)).reverse ++ .ref (σ c) :: (st.drop n).map (cvv σ) := by
  have h1 : st.take n = r.reverse ++ [aR c] := by
    have := congrArg List.reverse h
    simpa using this
  conv => lhs; rw [← List.take_append_drop n st, h1]
  simp [cvv, List.map_reverse]
theorem stk_s {σ : Nat → Nat} {st : List AV} {n : Nat} : st.map (cvv σ) = (((st.take n).reverse).map (cvv σ)).reverse ++ (st.drop n).map (cvv σ) := by
  conv => lhs; rw [← List.take_append_drop n st]
  simp [List.map_reverse]
def p_cV (K : List KD) (d : Nat) (M' : MI) (ci np : Nat) (Q1 : LSt → List AV → QT) : KT := fun ls st h => bif ccv K ci np M' (st.take (np + 1)).reverse (st.drop (np + 1)) then Ct K d M' (st.take (np + 1)).reverse h (Q1 ls (st.drop (np + 1))) else False
def p_cS (K : List KD) (d : Nat) (M' : MI) (np : Nat) (Q1 : LSt → List AV → QT) : KT := fun ls st h => bif ccs np M' (st.take np).reverse (st.drop np) then Ct K d M' (st.take np).reverse h (Q1 ls (st.drop np)) else False
theorem rm_ok {d maxL : Nat} {R : Room} (h1 : d + 1 ≤ R.frames) (h2 : 64 * (d + 1) ≤ R.locals) (hm : maxL ≤ 45) : d + 1 ≤ R.frames ∧ 8 + (maxL + 11) + 64 * d ≤ R.locals := ⟨h1, by omega⟩
theorem s_cV {K : List KD} {d : Nat} {M M' : MI} {pc : Nat} {Q : QT} {ci np ix : Nat} {Q1 : LSt → List AV → QT} (hM : okV M' ci np) (hw : Cond.methodLink M.1.cls ix M'.1 ∈ tb2) (hd : decode M.2.1 pc = .ok (.invokevirtual ix, 3)) (hk : ∀ ls st r h, Q1 ls st r h → V K (d + 1) M (pc + 3) ls (r.toList ++ st) h Q) : ∀ ls st h, p_cV K d M' ci np Q1 ls st h → V K (d + 1) M pc ls st h Q := by
  intro ls st h hh
  unfold p_cV at hh
  cases hb : ccv K ci np M' (st.take (np + 1)).reverse (st.drop (np + 1)) with
  | false => rw [hb, cond_false] at hh; exact hh.elim
  | true =>
  rw [hb, cond_true] at hh
  obtain ⟨c, r, l, has, hl1, hr, hs1, hs2⟩ := ccv_ok hb
  intro p l0 e R s m args below meth c0 H locs cells slots D γ σ A lsa C hl
  obtain ⟨c1, c2, c3, c4, c5, c6, c7, ⟨e1, e2, e3, e4⟩, c9, c10, c11, c12⟩ := id C
  obtain ⟨⟨m1, m2, m3, m4, m5, m6, m7⟩, m8, m9, T, N, m10⟩ := id hM
  have hrun := va_runV (C := M'.1.cls) (n := np) (As := r.map (cvv σ)) (b := σ c) (rest := (st.drop (np + 1)).map (cvv σ)) (locs := locs) (cells := cells) (slots := slots) (below := below) (meth := meth) (R := R) (e := e) (g := F0 m pc lsa (st.map (cvv σ))) ⟨c1, c2, c3, c6, c7⟩ (met_of hh m1 hs1 l0 D γ σ A)
    ⟨⟨rfl, rfl, (rm_ok e1 e2 m6).1, (rm_ok e1 e2 m6).2, tb2_pay hM.1 c7, List.mem_cons_self, c7 _ m4, c7 _ m5, ⟨m2, m3⟩, okM_len hM.1, c7 _ hw⟩, c7 _ m8, c7 _ m9⟩
    ⟨pc_blind, va_recv (q := (M'.1.cls, T, N)) c9 c10 m10 (wdl_at hl1), fun U hU hW => ⟨by rw [has]; rfl, by rw [hU]; exact c10, va_K.moved hW.alike c9, c11⟩⟩ rfl (by simp [hr]) hl.1 (stk_v has) (by show 2 * 0 + _ ≤ 8; rw [slen_cat]; omega) hd ⟨e3, e4⟩
  exact call_on C hl hrun (fun r h' hq => hk _ _ _ _ hq)
theorem s_cVN {K : List KD} {d : Nat} {M M' : MI} {pc : Nat} {Q : QT} {ci np ix : Nat} {host : String} {Q1 : LSt → List AV → QT} (hM : okV M' ci np) (hw : Cond.methodLinkNest M.1.cls ix M'.1 host ∈ tb2) (hd : decode M.2.1 pc = .ok (.invokevirtual ix, 3)) (hk : ∀ ls st r h, Q1 ls st r h → V K (d + 1) M (pc + 3) ls (r.toList ++ st) h Q) : ∀ ls st h, p_cV K d M' ci np Q1 ls st h → V K (d + 1) M pc ls st h Q := by
  intro ls st h hh
  unfold p_cV at hh
  cases hb : ccv K ci np M' (st.take (np + 1)).reverse (st.drop (np + 1)) with
  | false => rw [hb, cond_false] at hh; exact hh.elim
  | true =>
  rw [hb, cond_true] at hh
  obtain ⟨c, r, l, has, hl1, hr, hs1, hs2⟩ := ccv_ok hb
  intro p l0 e R s m args below meth c0 H locs cells slots D γ σ A lsa C hl
  obtain ⟨c1, c2, c3, c4, c5, c6, c7, ⟨e1, e2, e3, e4⟩, c9, c10, c11, c12⟩ := id C
  obtain ⟨⟨m1, m2, m3, m4, m5, m6, m7⟩, m8, m9, T, N, m10⟩ := id hM
  have hrun := va_runVN (C := M'.1.cls) (n := np) (As := r.map (cvv σ)) (b := σ c) (rest := (st.drop (np + 1)).map (cvv σ)) (locs := locs) (cells := cells) (slots := slots) (below := below) (meth := meth) (R := R) (e := e) (g := F0 m pc lsa (st.map (cvv σ))) ⟨c1, c2, c3, c6, c7⟩ (met_of hh m1 hs1 l0 D γ σ A)
    ⟨⟨⟨rfl, rfl, (rm_ok e1 e2 m6).1, (rm_ok e1 e2 m6).2, tb2_pay hM.1 c7, List.mem_cons_self⟩, c7 _ m4, c7 _ m5, ⟨m2, m3⟩, okM_len hM.1, c7 _ hw⟩, c7 _ m8, c7 _ m9⟩
    ⟨pc_blind, va_recv (q := (M'.1.cls, T, N)) c9 c10 m10 (wdl_at hl1), fun U hU hW => ⟨by rw [has]; rfl, by rw [hU]; exact c10, va_K.moved hW.alike c9, c11⟩⟩ rfl (by simp [hr]) hl.1 (stk_v has) (by show 2 * 0 + _ ≤ 8; rw [slen_cat]; omega) hd ⟨e3, e4⟩
  exact call_on C hl hrun (fun r h' hq => hk _ _ _ _ hq)
theorem ccs_ok {np : Nat} {M : MI} {as rest : List AV} (h : ccs np M as rest = true) : as.length = np ∧ slen as ≤ M.2.2.1 ∧ slen rest ≤ 8 := by
  unfold ccs at h
  simp only [Bool.and_eq_true, beq_iff_eq] at h
  exact ⟨h.1, Nat.le_of_ble_eq_true h.2.1, Nat.le_of_ble_eq_true h.2.2⟩
theorem s_cS {K : List KD} {d : Nat} {M M' : MI} {pc : Nat} {Q : QT} {np ix : Nat} {Q1 : LSt → List AV → QT} (hM : okS M' np) (hw : Cond.methodLink M.1.cls ix M'.1 ∈ tb2) (hd : decode M.2.1 pc = .ok (.invokestatic ix, 3)) (hk : ∀ ls st r h, Q1 ls st r h → V K (d + 1) M (pc + 3) ls (r.toList ++ st) h Q) : ∀ ls st h, p_cS K d M' np Q1 ls st h → V K (d + 1) M pc ls st h Q := by
  intro ls st h hh
  unfold p_cS at hh
  cases hb : ccs np M' (st.take np).reverse (st.drop np) with
  | false => rw [hb, cond_false] at hh; exact hh.elim
  | true =>
  rw [hb, cond_true] at hh
  obtain ⟨hr, hs1, hs2⟩ := ccs_ok hb
  intro p l0 e R s m args below meth c0 H locs cells slots D γ σ A lsa C hl
  obtain ⟨c1, c2, c3, c4, c5, c6, c7, ⟨e1, e2, e3, e4⟩, c9, c10, c11, c12⟩ := id C
  obtain ⟨⟨m1, m2, m3, m4, m5, m6, m7⟩, m8⟩ := id hM
  have hrun := va_runS (n := np) (As := ((st.take np).reverse).map (cvv σ)) (rest := (st.drop np).map (cvv σ)) (locs := locs) (cells := cells) (slots := slots) (below := below) (meth := meth) (R := R) (e := e) (H := H) (g := F0 m pc lsa (st.map (cvv σ))) ⟨c1, c2, c3, c6, c7⟩ (met_of hh m1 hs1 l0 D γ σ A)
    ⟨⟨rfl, rfl, (rm_ok e1 e2 m6).1, (rm_ok e1 e2 m6).2, tb2_pay hM.1 c7, List.mem_cons_self, c7 _ m4, c7 _ m5, ⟨m2, m3⟩, okM_len hM.1, c7 _ hw⟩, c7 _ m8⟩
    ⟨pc_blind, fun U hU hW => ⟨rfl, by rw [hU]; exact c10, va_K.moved hW.alike c9, c11⟩⟩ rfl (by simpa using hr) hl.1 stk_s (by show 2 * 0 + _ ≤ 8; rw [slen_cat]; omega) hd ⟨e3, e4⟩
  exact call_on C hl hrun (fun r h' hq => hk _ _ _ _ hq)
theorem s_cSN {K : List KD} {d : Nat} {M M' : MI} {pc : Nat} {Q : QT} {np ix : Nat} {host : String} {Q1 : LSt → List AV → QT} (hM : okS M' np) (hw : Cond.methodLinkNest M.1.cls ix M'.1 host ∈ tb2) (hd : decode M.2.1 pc = .ok (.invokestatic ix, 3)) (hk : ∀ ls st r h, Q1 ls st r h → V K (d + 1) M (pc + 3) ls (r.toList ++ st) h Q) : ∀ ls st h, p_cS K d M' np Q1 ls st h → V K (d + 1) M pc ls st h Q := by
  intro ls st h hh
  unfold p_cS at hh
  cases hb : ccs np M' (st.take np).reverse (st.drop np) with
  | false => rw [hb, cond_false] at hh; exact hh.elim
  | true =>
  rw [hb, cond_true] at hh
  obtain ⟨hr, hs1, hs2⟩ := ccs_ok hb
  intro p l0 e R s m args below meth c0 H locs cells slots D γ σ A lsa C hl
  obtain ⟨c1, c2, c3, c4, c5, c6, c7, ⟨e1, e2, e3, e4⟩, c9, c10, c11, c12⟩ := id C
  obtain ⟨⟨m1, m2, m3, m4, m5, m6, m7⟩, m8⟩ := id hM
  have hrun := va_runSN (n := np) (As := ((st.take np).reverse).map (cvv σ)) (rest := (st.drop np).map (cvv σ)) (locs := locs) (cells := cells) (slots := slots) (below := below) (meth := meth) (R := R) (e := e) (H := H) (g := F0 m pc lsa (st.map (cvv σ))) ⟨c1, c2, c3, c6, c7⟩ (met_of hh m1 hs1 l0 D γ σ A)
    ⟨⟨⟨rfl, rfl, (rm_ok e1 e2 m6).1, (rm_ok e1 e2 m6).2, tb2_pay hM.1 c7, List.mem_cons_self⟩, c7 _ m4, c7 _ m5, ⟨m2, m3⟩, okM_len hM.1, c7 _ hw⟩, c7 _ m8, trivial⟩
    ⟨pc_blind, fun U hU hW => ⟨rfl, by rw [hU]; exact c10, va_K.moved hW.alike c9, c11⟩⟩ rfl (by simpa using hr) hl.1 stk_s (by show 2 * 0 + _ ≤ 8; rw [slen_cat]; omega) hd ⟨e3, e4⟩
  exact call_on C hl hrun (fun r h' hq => hk _ _ _ _ hq)
/-- what goes on behind a call that answers an int, nothing -/
abbrev qI (k : KT) : LSt → List AV → QT := fun ls st => rI (fun v h => k ls (aI v :: st) h)
abbrev qV (k : KT) : LSt → List AV → QT := fun ls st => rV (fun h => k ls st h)
theorem kI {K : List KD} {d : Nat} {M : MI} {pc : Nat} {Q : QT} {k : KT} (hk : ∀ ls st h, k ls st h → V K d M pc ls st h Q) : ∀ ls st r h, qI k ls st r h → V K d M pc ls (r.toList ++ st) h Q := by
  rintro ls st r h ⟨v, rfl, hq⟩
  exact hk _ _ _ hq
theorem kV {K : List KD} {d : Nat} {M : MI} {pc : Nat} {Q : QT} {k : KT} (hk : ∀ ls st h, k ls st h → V K d M pc ls st h Q) : ∀ ls st r h, qV k ls st r h → V K d M pc ls (r.toList ++ st) h Q := by
  rintro ls st r h ⟨rfl, hq⟩
  exact hk _ _ _ hq
