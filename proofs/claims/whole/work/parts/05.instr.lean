abbrev iR (x : Int) : Prop := -2147483648 ≤ x ∧ x ≤ 2147483647
abbrev lR (x : Int) : Prop := -9223372036854775808 ≤ x ∧ x ≤ 9223372036854775807
theorem oI_lt {x y : Int} (hx : iR x) (hy : iR y) : Int32.ofInt x < Int32.ofInt y ↔ x < y := Int32.ofInt_lt_iff_lt hx.1 hx.2 hy.1 hy.2
theorem oI_le {x y : Int} (hx : iR x) (hy : iR y) : Int32.ofInt x ≤ Int32.ofInt y ↔ x ≤ y := Int32.ofInt_le_iff_le hx.1 hx.2 hy.1 hy.2
theorem oI_toInt {x : Int} (hx : iR x) : (Int32.ofInt x).toInt = x := Int32.toInt_ofInt_of_le hx.1 (by have := hx.2; omega)
theorem oI_eq {x y : Int} (hx : iR x) (hy : iR y) : Int32.ofInt x = Int32.ofInt y ↔ x = y := ⟨fun h => by rw [← oI_toInt hx, h, oI_toInt hy], fun h => by rw [h]⟩
theorem oI_0 : (0 : Int32) = Int32.ofInt 0 := rfl
theorem iR_0 : iR 0 := by decide
theorem oL_toInt {x : Int} (hx : lR x) : (Int64.ofInt x).toInt = x := Int64.toInt_ofInt_of_le hx.1 (by have := hx.2; omega)
theorem oI_nat {x : Int} (h0 : 0 ≤ x) (hx : iR x) : (Int32.ofInt x).toNatClampNeg = x.toNat := by
  show (Int32.ofInt x).toInt.toNat = x.toNat
  rw [oI_toInt hx]
theorem oI_in {x : Int} {n : Nat} (h0 : 0 ≤ x) (h1 : x < n) (hn : n < 2147483648) : vp_in (Int32.ofInt x) n := by
  have hR : iR x := ⟨by omega, by omega⟩
  rw [vp_in_iff, oI_toInt hR]
  exact ⟨h0, h1⟩
theorem oI_div {x y : Int} (hx : 0 ≤ x) (hx' : iR x) (hy : 0 < y) (hy' : iR y) : Int32.ofInt x / Int32.ofInt y = Int32.ofInt (x / y) := by
  apply Int32.toInt_inj.mp
  have hq : 0 ≤ x / y := Int.ediv_nonneg hx (by omega)
  have hq2 : x / y ≤ x := Int.ediv_le_self _ hx
  rw [Int32.toInt_div_of_ne_right, oI_toInt hx', oI_toInt hy', oI_toInt ⟨by omega, by have := hx'.2; omega⟩, Int.tdiv_eq_ediv_of_nonneg hx]
  intro h
  have := congrArg Int32.toInt h
  rw [oI_toInt hy', show ((-1 : Int32)).toInt = -1 from rfl] at this
  omega
theorem oI_rem {x y : Int} (hx : 0 ≤ x) (hx' : iR x) (hy : 0 < y) (hy' : iR y) : Int32.ofInt x - Int32.ofInt x / Int32.ofInt y * Int32.ofInt y = Int32.ofInt (x % y) := by
  rw [oI_div hx hx' hy hy', ← Int32.ofInt_mul, ← Int32.ofInt_sub]
  congr 1
  have := Int.mul_ediv_add_emod x y
  rw [Int.mul_comm] at this
  omega
theorem oL_div {x y : Int} (hx : 0 ≤ x) (hx' : lR x) (hy : 0 < y) (hy' : lR y) : Int64.ofInt x / Int64.ofInt y = Int64.ofInt (x / y) := by
  apply Int64.toInt_inj.mp
  have hq : 0 ≤ x / y := Int.ediv_nonneg hx (by omega)
  have hq2 : x / y ≤ x := Int.ediv_le_self _ hx
  rw [Int64.toInt_div_of_ne_right, oL_toInt hx', oL_toInt hy', oL_toInt ⟨by omega, by have := hx'.2; omega⟩, Int.tdiv_eq_ediv_of_nonneg hx]
  intro h
  have := congrArg Int64.toInt h
  rw [oL_toInt hy', show ((-1 : Int64)).toInt = -1 from rfl] at this
  omega
theorem oL_rem {x y : Int} (hx : 0 ≤ x) (hx' : lR x) (hy : 0 < y) (hy' : lR y) : Int64.ofInt x - Int64.ofInt x / Int64.ofInt y * Int64.ofInt y = Int64.ofInt (x % y) := by
  rw [oL_div hx hx' hy hy', ← Int64.ofInt_mul, ← Int64.ofInt_sub]
  congr 1
  have := Int.mul_ediv_add_emod x y
  rw [Int.mul_comm] at this
  omega
def p_push (x : Int) (k : KT) : KT := fun ls st h => k ls (aI x :: st) h
theorem s_iconst {K : List KD} {d : Nat} {M : MI} {pc : Nat} {Q : QT} {k : KT} {n : Int} (hd : decode M.2.1 pc = .ok (.iconst n, 1)) (hk : ∀ ls st h, k ls st h → V K d M (pc + 1) ls st h Q) : ∀ ls st h, p_push n k ls st h → V K d M pc ls st h Q := by
  intro ls st h hh
  intro p l e R s m args below meth c H locs cells slots D γ σ A lsa C hl
  exact lv_iconst C.1 C.2.1 hd rfl (hk _ _ _ hh p l e R s m args below meth c H locs cells slots D γ σ A lsa C hl)
theorem s_bipush {K : List KD} {d : Nat} {M : MI} {pc : Nat} {Q : QT} {k : KT} {n : Int} (hd : decode M.2.1 pc = .ok (.bipush n, 2)) (hv : (Int8.ofInt n).toInt32 = Int32.ofInt n) (hk : ∀ ls st h, k ls st h → V K d M (pc + 2) ls st h Q) : ∀ ls st h, p_push n k ls st h → V K d M pc ls st h Q := by
  intro ls st h hh
  intro p l e R s m args below meth c H locs cells slots D γ σ A lsa C hl
  exact lv_bipush C.1 C.2.1 hd hv (hk _ _ _ hh p l e R s m args below meth c H locs cells slots D γ σ A lsa C hl)
theorem s_sipush {K : List KD} {d : Nat} {M : MI} {pc : Nat} {Q : QT} {k : KT} {n : Int} (hd : decode M.2.1 pc = .ok (.sipush n, 3)) (hv : (Int16.ofInt n).toInt32 = Int32.ofInt n) (hk : ∀ ls st h, k ls st h → V K d M (pc + 3) ls st h Q) : ∀ ls st h, p_push n k ls st h → V K d M pc ls st h Q := by
  intro ls st h hh
  intro p l e R s m args below meth c H locs cells slots D γ σ A lsa C hl
  exact lv_sipush C.1 C.2.1 hd hv (hk _ _ _ hh p l e R s m args below meth c H locs cells slots D γ σ A lsa C hl)
theorem s_ldc {K : List KD} {d : Nat} {M : MI} {pc : Nat} {Q : QT} {k : KT} {n : Int} {ix : Nat} (hw : Cond.constant M.1.cls ix (Int32.ofInt n) ∈ tb2) (hd : decode M.2.1 pc = .ok (.ldc ix, 2)) (hk : ∀ ls st h, k ls st h → V K d M (pc + 2) ls st h Q) : ∀ ls st h, p_push n k ls st h → V K d M pc ls st h Q := by
  intro ls st h hh
  intro p l e R s m args below meth c H locs cells slots D γ σ A lsa C hl
  exact lv_ldc C.1 C.2.1 C.2.2.2.2.2.1 (C.2.2.2.2.2.2.1 _ hw) hd (hk _ _ _ hh p l e R s m args below meth c H locs cells slots D γ σ A lsa C hl)
def p_lpush (x : Int) (k : KT) : KT := fun ls st h => k ls (aL x :: st) h
theorem s_lconst {K : List KD} {d : Nat} {M : MI} {pc : Nat} {Q : QT} {k : KT} {n : Fin 2} {x : Int} (hd : decode M.2.1 pc = .ok (.lconst n, 1)) (hv : Int64.ofNat (n : Nat) = Int64.ofInt x) (hk : ∀ ls st h, k ls st h → V K d M (pc + 1) ls st h Q) : ∀ ls st h, p_lpush x k ls st h → V K d M pc ls st h Q := by
  intro ls st h hh
  intro p l e R s m args below meth c H locs cells slots D γ σ A lsa C hl
  exact lv_lconst C.1 C.2.1 hd hv (hk _ _ _ hh p l e R s m args below meth c H locs cells slots D γ σ A lsa C hl)
theorem s_ldc2 {K : List KD} {d : Nat} {M : MI} {pc : Nat} {Q : QT} {k : KT} {n : Int} {ix : Nat} (hw : Cond.constantLong M.1.cls ix (Int64.ofInt n) ∈ tb2) (hd : decode M.2.1 pc = .ok (.ldc2_w ix, 3)) (hk : ∀ ls st h, k ls st h → V K d M (pc + 3) ls st h Q) : ∀ ls st h, p_lpush n k ls st h → V K d M pc ls st h Q := by
  intro ls st h hh
  intro p l e R s m args below meth c H locs cells slots D γ σ A lsa C hl
  exact lv_ldc2 C.1 C.2.1 C.2.2.2.2.2.1 (C.2.2.2.2.2.2.1 _ hw) hd (hk _ _ _ hh p l e R s m args below meth c H locs cells slots D γ σ A lsa C hl)
def p_iload (i : Nat) (k : KT) : KT := fun ls st h => match ls.getD i none with
  | some (.inl x) => k ls (aI x :: st) h
  | _ => False
theorem s_iload_n {K : List KD} {d : Nat} {M : MI} {pc : Nat} {Q : QT} {k : KT} {q : Fin 4} {i : Nat} (hd : decode M.2.1 pc = .ok (.iload_n q, 1)) (hi : (q : Nat) = i) (hk : ∀ ls st h, k ls st h → V K d M (pc + 1) ls st h Q) : ∀ ls st h, p_iload i k ls st h → V K d M pc ls st h Q := by
  intro ls st h hh
  unfold p_iload at hh
  split at hh
  · rename_i x hx
    intro p l e R s m args below meth c H locs cells slots D γ σ A lsa C hl
    exact lv_iload_n C.1 C.2.1 hd hi (lhas_at hl hx) (hk _ _ _ hh p l e R s m args below meth c H locs cells slots D γ σ A lsa C hl)
  · exact hh.elim
theorem s_iload {K : List KD} {d : Nat} {M : MI} {pc : Nat} {Q : QT} {k : KT} {i : Nat} (hd : decode M.2.1 pc = .ok (.iload i, 2)) (hk : ∀ ls st h, k ls st h → V K d M (pc + 2) ls st h Q) : ∀ ls st h, p_iload i k ls st h → V K d M pc ls st h Q := by
  intro ls st h hh
  unfold p_iload at hh
  split at hh
  · rename_i x hx
    intro p l e R s m args below meth c H locs cells slots D γ σ A lsa C hl
    exact lv_iload C.1 C.2.1 hd (lhas_at hl hx) (hk _ _ _ hh p l e R s m args below meth c H locs cells slots D γ σ A lsa C hl)
  · exact hh.elim
def p_lload (i : Nat) (k : KT) : KT := fun ls st h => match ls.getD i none with
  | some (.inr (.inl x)) => k ls (aL x :: st) h
  | _ => False
theorem s_lload_n {K : List KD} {d : Nat} {M : MI} {pc : Nat} {Q : QT} {k : KT} {q : Fin 4} {i : Nat} (hd : decode M.2.1 pc = .ok (.lload_n q, 1)) (hi : (q : Nat) = i) (hk : ∀ ls st h, k ls st h → V K d M (pc + 1) ls st h Q) : ∀ ls st h, p_lload i k ls st h → V K d M pc ls st h Q := by
  intro ls st h hh
  unfold p_lload at hh
  split at hh
  · rename_i x hx
    intro p l e R s m args below meth c H locs cells slots D γ σ A lsa C hl
    exact lv_lload_n C.1 C.2.1 hd hi (lhas_at hl hx) (hk _ _ _ hh p l e R s m args below meth c H locs cells slots D γ σ A lsa C hl)
  · exact hh.elim
theorem s_lload {K : List KD} {d : Nat} {M : MI} {pc : Nat} {Q : QT} {k : KT} {i : Nat} (hd : decode M.2.1 pc = .ok (.lload i, 2)) (hk : ∀ ls st h, k ls st h → V K d M (pc + 2) ls st h Q) : ∀ ls st h, p_lload i k ls st h → V K d M pc ls st h Q := by
  intro ls st h hh
  unfold p_lload at hh
  split at hh
  · rename_i x hx
    intro p l e R s m args below meth c H locs cells slots D γ σ A lsa C hl
    exact lv_lload C.1 C.2.1 hd (lhas_at hl hx) (hk _ _ _ hh p l e R s m args below meth c H locs cells slots D γ σ A lsa C hl)
  · exact hh.elim
def p_aload (i : Nat) (k : KT) : KT := fun ls st h => match ls.getD i none with
  | some (.inr (.inr x)) => k ls (aR x :: st) h
  | _ => False
theorem s_aload_n {K : List KD} {d : Nat} {M : MI} {pc : Nat} {Q : QT} {k : KT} {q : Fin 4} {i : Nat} (hd : decode M.2.1 pc = .ok (.aload_n q, 1)) (hi : (q : Nat) = i) (hk : ∀ ls st h, k ls st h → V K d M (pc + 1) ls st h Q) : ∀ ls st h, p_aload i k ls st h → V K d M pc ls st h Q := by
  intro ls st h hh
  unfold p_aload at hh
  split at hh
  · rename_i x hx
    intro p l e R s m args below meth c H locs cells slots D γ σ A lsa C hl
    exact lv_aload_n C.1 C.2.1 hd hi (lhas_at hl hx) (hk _ _ _ hh p l e R s m args below meth c H locs cells slots D γ σ A lsa C hl)
  · exact hh.elim
theorem s_aload {K : List KD} {d : Nat} {M : MI} {pc : Nat} {Q : QT} {k : KT} {i : Nat} (hd : decode M.2.1 pc = .ok (.aload i, 2)) (hk : ∀ ls st h, k ls st h → V K d M (pc + 2) ls st h Q) : ∀ ls st h, p_aload i k ls st h → V K d M pc ls st h Q := by
  intro ls st h hh
  unfold p_aload at hh
  split at hh
  · rename_i x hx
    intro p l e R s m args below meth c H locs cells slots D γ σ A lsa C hl
    exact lv_aload C.1 C.2.1 hd (lhas_at hl hx) (hk _ _ _ hh p l e R s m args below meth c H locs cells slots D γ σ A lsa C hl)
  · exact hh.elim
def p_istore (i : Nat) (k : KT) : KT := fun ls st h => match st with
  | .inl x :: st => k (lst1 ls i (aI x)) st h
  | _ => False
theorem s_istore_n {K : List KD} {d : Nat} {M : MI} {pc : Nat} {Q : QT} {k : KT} {q : Fin 4} {i : Nat} (hd : decode M.2.1 pc = .ok (.istore_n q, 1)) (hi : (q : Nat) = i) (hn : i < M.2.2.1) (hk : ∀ ls st h, k ls st h → V K d M (pc + 1) ls st h Q) : ∀ ls st h, p_istore i k ls st h → V K d M pc ls st h Q := by
  intro ls st h hh
  unfold p_istore at hh
  split at hh
  · rename_i x st
    intro p l e R s m args below meth c H locs cells slots D γ σ A lsa C hl
    exact lv_istore_n C.1 C.2.1 hd hi hl hn rfl (fun lsa2 hl2 => hk _ _ _ hh p l e R s m args below meth c H locs cells slots D γ σ A lsa2 C (lhas_st1 hl2))
  · exact hh.elim
theorem s_istore {K : List KD} {d : Nat} {M : MI} {pc : Nat} {Q : QT} {k : KT} {i : Nat} (hd : decode M.2.1 pc = .ok (.istore i, 2)) (hn : i < M.2.2.1) (hk : ∀ ls st h, k ls st h → V K d M (pc + 2) ls st h Q) : ∀ ls st h, p_istore i k ls st h → V K d M pc ls st h Q := by
  intro ls st h hh
  unfold p_istore at hh
  split at hh
  · rename_i x st
    intro p l e R s m args below meth c H locs cells slots D γ σ A lsa C hl
    exact lv_istore C.1 C.2.1 hd hl hn rfl (fun lsa2 hl2 => hk _ _ _ hh p l e R s m args below meth c H locs cells slots D γ σ A lsa2 C (lhas_st1 hl2))
  · exact hh.elim
def p_lstore (i : Nat) (k : KT) : KT := fun ls st h => match st with
  | .inr (.inl x) :: st => k (lst2 ls i (aL x)) st h
  | _ => False
theorem s_lstore_n {K : List KD} {d : Nat} {M : MI} {pc : Nat} {Q : QT} {k : KT} {q : Fin 4} {i : Nat} (hd : decode M.2.1 pc = .ok (.lstore_n q, 1)) (hi : (q : Nat) = i) (hn : i + 1 < M.2.2.1) (hk : ∀ ls st h, k ls st h → V K d M (pc + 1) ls st h Q) : ∀ ls st h, p_lstore i k ls st h → V K d M pc ls st h Q := by
  intro ls st h hh
  unfold p_lstore at hh
  split at hh
  · rename_i x st
    intro p l e R s m args below meth c H locs cells slots D γ σ A lsa C hl
    exact lv_lstore_n C.1 C.2.1 hd hi hl hn rfl (fun lsa2 hl2 => hk _ _ _ hh p l e R s m args below meth c H locs cells slots D γ σ A lsa2 C (lhas_st2 hl2))
  · exact hh.elim
theorem s_lstore {K : List KD} {d : Nat} {M : MI} {pc : Nat} {Q : QT} {k : KT} {i : Nat} (hd : decode M.2.1 pc = .ok (.lstore i, 2)) (hn : i + 1 < M.2.2.1) (hk : ∀ ls st h, k ls st h → V K d M (pc + 2) ls st h Q) : ∀ ls st h, p_lstore i k ls st h → V K d M pc ls st h Q := by
  intro ls st h hh
  unfold p_lstore at hh
  split at hh
  · rename_i x st
    intro p l e R s m args below meth c H locs cells slots D γ σ A lsa C hl
    exact lv_lstore C.1 C.2.1 hd hl hn rfl (fun lsa2 hl2 => hk _ _ _ hh p l e R s m args below meth c H locs cells slots D γ σ A lsa2 C (lhas_st2 hl2))
  · exact hh.elim
def p_astore (i : Nat) (k : KT) : KT := fun ls st h => match st with
  | .inr (.inr x) :: st => k (lst1 ls i (aR x)) st h
  | _ => False
theorem s_astore_n {K : List KD} {d : Nat} {M : MI} {pc : Nat} {Q : QT} {k : KT} {q : Fin 4} {i : Nat} (hd : decode M.2.1 pc = .ok (.astore_n q, 1)) (hi : (q : Nat) = i) (hn : i < M.2.2.1) (hk : ∀ ls st h, k ls st h → V K d M (pc + 1) ls st h Q) : ∀ ls st h, p_astore i k ls st h → V K d M pc ls st h Q := by
  intro ls st h hh
  unfold p_astore at hh
  split at hh
  · rename_i x st
    intro p l e R s m args below meth c H locs cells slots D γ σ A lsa C hl
    exact lv_astore_n C.1 C.2.1 hd hi hl hn rfl (fun lsa2 hl2 => hk _ _ _ hh p l e R s m args below meth c H locs cells slots D γ σ A lsa2 C (lhas_st1 hl2))
  · exact hh.elim
theorem s_astore {K : List KD} {d : Nat} {M : MI} {pc : Nat} {Q : QT} {k : KT} {i : Nat} (hd : decode M.2.1 pc = .ok (.astore i, 2)) (hn : i < M.2.2.1) (hk : ∀ ls st h, k ls st h → V K d M (pc + 2) ls st h Q) : ∀ ls st h, p_astore i k ls st h → V K d M pc ls st h Q := by
  intro ls st h hh
  unfold p_astore at hh
  split at hh
  · rename_i x st
    intro p l e R s m args below meth c H locs cells slots D γ σ A lsa C hl
    exact lv_astore C.1 C.2.1 hd hl hn rfl (fun lsa2 hl2 => hk _ _ _ hh p l e R s m args below meth c H locs cells slots D γ σ A lsa2 C (lhas_st1 hl2))
  · exact hh.elim
def p_iinc (i : Nat) (n : Int) (k : KT) : KT := fun ls st h => match ls.getD i none with
  | some (.inl x) => k (lst1 ls i (aI (x + n))) st h
  | _ => False
theorem s_iinc {K : List KD} {d : Nat} {M : MI} {pc : Nat} {Q : QT} {k : KT} {i : Nat} {n : Int} (hd : decode M.2.1 pc = .ok (.iinc i n, 3)) (hn : i < M.2.2.1) (hk : ∀ ls st h, k ls st h → V K d M (pc + 3) ls st h Q) : ∀ ls st h, p_iinc i n k ls st h → V K d M pc ls st h Q := by
  intro ls st h hh
  unfold p_iinc at hh
  split at hh
  · rename_i x hx
    intro p l e R s m args below meth c H locs cells slots D γ σ A lsa C hl
    have hm : (i, cvv σ (.inl x)) ∈ lpl σ 0 ls := lhas_mem.mpr ⟨_, by rw [List.getD_eq_getElem?_getD] at hx; cases hq : ls[i]? with | none => (rw [hq] at hx; cases hx) | some o => (rw [hq] at hx; simp at hx; rw [hx]), rfl⟩
    obtain ⟨j, hj⟩ := List.getElem?_of_mem hm
    exact lv_iinc C.1 C.2.1 hd hl hj (Int32.ofInt_add x n).symm hn rfl (fun lsa2 hl2 => hk _ _ _ hh p l e R s m args below meth c H locs cells slots D γ σ A lsa2 C (lhas_st1 (v := .inl (x + n)) hl2))
  · exact hh.elim
def p_iadd (k : KT) : KT := fun ls st h => match st with
  | .inl y :: .inl x :: st => k ls (aI (x + y) :: st) h
  | _ => False
theorem s_iadd {K : List KD} {d : Nat} {M : MI} {pc : Nat} {Q : QT} {k : KT} (hd : decode M.2.1 pc = .ok (.iadd, 1)) (hk : ∀ ls st h, k ls st h → V K d M (pc + 1) ls st h Q) : ∀ ls st h, p_iadd k ls st h → V K d M pc ls st h Q := by
  intro ls st h hh
  unfold p_iadd at hh
  split at hh
  · rename_i y x st
    intro p l e R s m args below meth c H locs cells slots D γ σ A lsa C hl
    refine lv_iadd C.1 C.2.1 hd  ?_
    have h9 := hk _ _ _ hh p l e R s m args below meth c H locs cells slots D γ σ A lsa C hl
    have e9 : Int32.ofInt x + Int32.ofInt y = Int32.ofInt (x + y) := (Int32.ofInt_add x y).symm
    rw [e9]
    exact h9
  · exact hh.elim
def p_isub (k : KT) : KT := fun ls st h => match st with
  | .inl y :: .inl x :: st => k ls (aI (x - y) :: st) h
  | _ => False
theorem s_isub {K : List KD} {d : Nat} {M : MI} {pc : Nat} {Q : QT} {k : KT} (hd : decode M.2.1 pc = .ok (.isub, 1)) (hk : ∀ ls st h, k ls st h → V K d M (pc + 1) ls st h Q) : ∀ ls st h, p_isub k ls st h → V K d M pc ls st h Q := by
  intro ls st h hh
  unfold p_isub at hh
  split at hh
  · rename_i y x st
    intro p l e R s m args below meth c H locs cells slots D γ σ A lsa C hl
    refine lv_isub C.1 C.2.1 hd  ?_
    have h9 := hk _ _ _ hh p l e R s m args below meth c H locs cells slots D γ σ A lsa C hl
    have e9 : Int32.ofInt x - Int32.ofInt y = Int32.ofInt (x - y) := (Int32.ofInt_sub x y).symm
    rw [e9]
    exact h9
  · exact hh.elim
def p_imul (k : KT) : KT := fun ls st h => match st with
  | .inl y :: .inl x :: st => k ls (aI (x * y) :: st) h
  | _ => False
theorem s_imul {K : List KD} {d : Nat} {M : MI} {pc : Nat} {Q : QT} {k : KT} (hd : decode M.2.1 pc = .ok (.imul, 1)) (hk : ∀ ls st h, k ls st h → V K d M (pc + 1) ls st h Q) : ∀ ls st h, p_imul k ls st h → V K d M pc ls st h Q := by
  intro ls st h hh
  unfold p_imul at hh
  split at hh
  · rename_i y x st
    intro p l e R s m args below meth c H locs cells slots D γ σ A lsa C hl
    refine lv_imul C.1 C.2.1 hd  ?_
    have h9 := hk _ _ _ hh p l e R s m args below meth c H locs cells slots D γ σ A lsa C hl
    have e9 : Int32.ofInt x * Int32.ofInt y = Int32.ofInt (x * y) := (Int32.ofInt_mul x y).symm
    rw [e9]
    exact h9
  · exact hh.elim
def p_ladd (k : KT) : KT := fun ls st h => match st with
  | .inr (.inl y) :: .inr (.inl x) :: st => k ls (aL (x + y) :: st) h
  | _ => False
theorem s_ladd {K : List KD} {d : Nat} {M : MI} {pc : Nat} {Q : QT} {k : KT} (hd : decode M.2.1 pc = .ok (.ladd, 1)) (hk : ∀ ls st h, k ls st h → V K d M (pc + 1) ls st h Q) : ∀ ls st h, p_ladd k ls st h → V K d M pc ls st h Q := by
  intro ls st h hh
  unfold p_ladd at hh
  split at hh
  · rename_i y x st
    intro p l e R s m args below meth c H locs cells slots D γ σ A lsa C hl
    refine lv_ladd C.1 C.2.1 hd  ?_
    have h9 := hk _ _ _ hh p l e R s m args below meth c H locs cells slots D γ σ A lsa C hl
    have e9 : Int64.ofInt x + Int64.ofInt y = Int64.ofInt (x + y) := (Int64.ofInt_add x y).symm
    rw [e9]
    exact h9
  · exact hh.elim
def p_lmul (k : KT) : KT := fun ls st h => match st with
  | .inr (.inl y) :: .inr (.inl x) :: st => k ls (aL (x * y) :: st) h
  | _ => False
theorem s_lmul {K : List KD} {d : Nat} {M : MI} {pc : Nat} {Q : QT} {k : KT} (hd : decode M.2.1 pc = .ok (.lmul, 1)) (hk : ∀ ls st h, k ls st h → V K d M (pc + 1) ls st h Q) : ∀ ls st h, p_lmul k ls st h → V K d M pc ls st h Q := by
  intro ls st h hh
  unfold p_lmul at hh
  split at hh
  · rename_i y x st
    intro p l e R s m args below meth c H locs cells slots D γ σ A lsa C hl
    refine lv_lmul C.1 C.2.1 hd  ?_
    have h9 := hk _ _ _ hh p l e R s m args below meth c H locs cells slots D γ σ A lsa C hl
    have e9 : Int64.ofInt x * Int64.ofInt y = Int64.ofInt (x * y) := (Int64.ofInt_mul x y).symm
    rw [e9]
    exact h9
  · exact hh.elim
def p_idiv (k : KT) : KT := fun ls st h => match st with
  | .inl y :: .inl x :: st => (0 ≤ x ∧ iR x ∧ 0 < y ∧ iR y) ∧ k ls (aI (x / y) :: st) h
  | _ => False
theorem s_idiv {K : List KD} {d : Nat} {M : MI} {pc : Nat} {Q : QT} {k : KT} (hd : decode M.2.1 pc = .ok (.idiv, 1)) (hk : ∀ ls st h, k ls st h → V K d M (pc + 1) ls st h Q) : ∀ ls st h, p_idiv k ls st h → V K d M pc ls st h Q := by
  intro ls st h hh
  unfold p_idiv at hh
  split at hh
  · rename_i y x st
    intro p l e R s m args below meth c H locs cells slots D γ σ A lsa C hl
    obtain ⟨hq, hh⟩ := hh
    refine lv_idiv C.1 C.2.1 hd (fun q => by have := (oI_eq hq.2.2.2 iR_0).mp (by rw [q]; rfl); have := hq.2.2.1; omega) ?_
    have h9 := hk _ _ _ hh p l e R s m args below meth c H locs cells slots D γ σ A lsa C hl
    have e9 : Int32.ofInt x / Int32.ofInt y = Int32.ofInt (x / y) := oI_div hq.1 hq.2.1 hq.2.2.1 hq.2.2.2
    rw [e9]
    exact h9
  · exact hh.elim
def p_irem (k : KT) : KT := fun ls st h => match st with
  | .inl y :: .inl x :: st => (0 ≤ x ∧ iR x ∧ 0 < y ∧ iR y) ∧ k ls (aI (x % y) :: st) h
  | _ => False
theorem s_irem {K : List KD} {d : Nat} {M : MI} {pc : Nat} {Q : QT} {k : KT} (hd : decode M.2.1 pc = .ok (.irem, 1)) (hk : ∀ ls st h, k ls st h → V K d M (pc + 1) ls st h Q) : ∀ ls st h, p_irem k ls st h → V K d M pc ls st h Q := by
  intro ls st h hh
  unfold p_irem at hh
  split at hh
  · rename_i y x st
    intro p l e R s m args below meth c H locs cells slots D γ σ A lsa C hl
    obtain ⟨hq, hh⟩ := hh
    refine lv_irem C.1 C.2.1 hd (fun q => by have := (oI_eq hq.2.2.2 iR_0).mp (by rw [q]; rfl); have := hq.2.2.1; omega) ?_
    have h9 := hk _ _ _ hh p l e R s m args below meth c H locs cells slots D γ σ A lsa C hl
    have e9 : Int32.ofInt x - Int32.ofInt x / Int32.ofInt y * Int32.ofInt y = Int32.ofInt (x % y) := oI_rem hq.1 hq.2.1 hq.2.2.1 hq.2.2.2
    rw [e9]
    exact h9
  · exact hh.elim
def p_lrem (k : KT) : KT := fun ls st h => match st with
  | .inr (.inl y) :: .inr (.inl x) :: st => (0 ≤ x ∧ lR x ∧ 0 < y ∧ lR y) ∧ k ls (aL (x % y) :: st) h
  | _ => False
theorem s_lrem {K : List KD} {d : Nat} {M : MI} {pc : Nat} {Q : QT} {k : KT} (hd : decode M.2.1 pc = .ok (.lrem, 1)) (hk : ∀ ls st h, k ls st h → V K d M (pc + 1) ls st h Q) : ∀ ls st h, p_lrem k ls st h → V K d M pc ls st h Q := by
  intro ls st h hh
  unfold p_lrem at hh
  split at hh
  · rename_i y x st
    intro p l e R s m args below meth c H locs cells slots D γ σ A lsa C hl
    obtain ⟨hq, hh⟩ := hh
    refine lv_lrem C.1 C.2.1 hd (fun q => by have h8 := congrArg Int64.toInt q; rw [oL_toInt hq.2.2.2, show ((0 : Int64)).toInt = 0 from rfl] at h8; have := hq.2.2.1; omega) ?_
    have h9 := hk _ _ _ hh p l e R s m args below meth c H locs cells slots D γ σ A lsa C hl
    have e9 : Int64.ofInt x - Int64.ofInt x / Int64.ofInt y * Int64.ofInt y = Int64.ofInt (x % y) := oL_rem hq.1 hq.2.1 hq.2.2.1 hq.2.2.2
    rw [e9]
    exact h9
  · exact hh.elim
def b_iand (x y : Int) : Int := (Int32.ofInt x &&& Int32.ofInt y).toInt
def p_iand (k : KT) : KT := fun ls st h => match st with
  | .inl y :: .inl x :: st => k ls (aI (b_iand x y) :: st) h
  | _ => False
theorem s_iand {K : List KD} {d : Nat} {M : MI} {pc : Nat} {Q : QT} {k : KT} (hd : decode M.2.1 pc = .ok (.iand, 1)) (hk : ∀ ls st h, k ls st h → V K d M (pc + 1) ls st h Q) : ∀ ls st h, p_iand k ls st h → V K d M pc ls st h Q := by
  intro ls st h hh
  unfold p_iand at hh
  split at hh
  · rename_i y x st
    intro p l e R s m args below meth c H locs cells slots D γ σ A lsa C hl
    refine lv_iand C.1 C.2.1 hd  ?_
    have h9 := hk _ _ _ hh p l e R s m args below meth c H locs cells slots D γ σ A lsa C hl
    have e9 : Int32.ofInt x &&& Int32.ofInt y = Int32.ofInt (b_iand x y) := (Int32.ofInt_toInt _).symm
    rw [e9]
    exact h9
  · exact hh.elim
def b_ior (x y : Int) : Int := (Int32.ofInt x ||| Int32.ofInt y).toInt
def p_ior (k : KT) : KT := fun ls st h => match st with
  | .inl y :: .inl x :: st => k ls (aI (b_ior x y) :: st) h
  | _ => False
theorem s_ior {K : List KD} {d : Nat} {M : MI} {pc : Nat} {Q : QT} {k : KT} (hd : decode M.2.1 pc = .ok (.ior, 1)) (hk : ∀ ls st h, k ls st h → V K d M (pc + 1) ls st h Q) : ∀ ls st h, p_ior k ls st h → V K d M pc ls st h Q := by
  intro ls st h hh
  unfold p_ior at hh
  split at hh
  · rename_i y x st
    intro p l e R s m args below meth c H locs cells slots D γ σ A lsa C hl
    refine lv_ior C.1 C.2.1 hd  ?_
    have h9 := hk _ _ _ hh p l e R s m args below meth c H locs cells slots D γ σ A lsa C hl
    have e9 : Int32.ofInt x ||| Int32.ofInt y = Int32.ofInt (b_ior x y) := (Int32.ofInt_toInt _).symm
    rw [e9]
    exact h9
  · exact hh.elim
def b_ixor (x y : Int) : Int := (Int32.ofInt x ^^^ Int32.ofInt y).toInt
def p_ixor (k : KT) : KT := fun ls st h => match st with
  | .inl y :: .inl x :: st => k ls (aI (b_ixor x y) :: st) h
  | _ => False
theorem s_ixor {K : List KD} {d : Nat} {M : MI} {pc : Nat} {Q : QT} {k : KT} (hd : decode M.2.1 pc = .ok (.ixor, 1)) (hk : ∀ ls st h, k ls st h → V K d M (pc + 1) ls st h Q) : ∀ ls st h, p_ixor k ls st h → V K d M pc ls st h Q := by
  intro ls st h hh
  unfold p_ixor at hh
  split at hh
  · rename_i y x st
    intro p l e R s m args below meth c H locs cells slots D γ σ A lsa C hl
    refine lv_ixor C.1 C.2.1 hd  ?_
    have h9 := hk _ _ _ hh p l e R s m args below meth c H locs cells slots D γ σ A lsa C hl
    have e9 : Int32.ofInt x ^^^ Int32.ofInt y = Int32.ofInt (b_ixor x y) := (Int32.ofInt_toInt _).symm
    rw [e9]
    exact h9
  · exact hh.elim
def b_ishl (x y : Int) : Int := (Int32.ofInt x <<< (Int32.ofInt y &&& 31)).toInt
def p_ishl (k : KT) : KT := fun ls st h => match st with
  | .inl y :: .inl x :: st => k ls (aI (b_ishl x y) :: st) h
  | _ => False
theorem s_ishl {K : List KD} {d : Nat} {M : MI} {pc : Nat} {Q : QT} {k : KT} (hd : decode M.2.1 pc = .ok (.ishl, 1)) (hk : ∀ ls st h, k ls st h → V K d M (pc + 1) ls st h Q) : ∀ ls st h, p_ishl k ls st h → V K d M pc ls st h Q := by
  intro ls st h hh
  unfold p_ishl at hh
  split at hh
  · rename_i y x st
    intro p l e R s m args below meth c H locs cells slots D γ σ A lsa C hl
    refine lv_ishl C.1 C.2.1 hd  ?_
    have h9 := hk _ _ _ hh p l e R s m args below meth c H locs cells slots D γ σ A lsa C hl
    have e9 : Int32.ofInt x <<< (Int32.ofInt y &&& 31) = Int32.ofInt (b_ishl x y) := (Int32.ofInt_toInt _).symm
    rw [e9]
    exact h9
  · exact hh.elim
def b_ishr (x y : Int) : Int := (Int32.ofInt x >>> (Int32.ofInt y &&& 31)).toInt
def p_ishr (k : KT) : KT := fun ls st h => match st with
  | .inl y :: .inl x :: st => k ls (aI (b_ishr x y) :: st) h
  | _ => False
theorem s_ishr {K : List KD} {d : Nat} {M : MI} {pc : Nat} {Q : QT} {k : KT} (hd : decode M.2.1 pc = .ok (.ishr, 1)) (hk : ∀ ls st h, k ls st h → V K d M (pc + 1) ls st h Q) : ∀ ls st h, p_ishr k ls st h → V K d M pc ls st h Q := by
  intro ls st h hh
  unfold p_ishr at hh
  split at hh
  · rename_i y x st
    intro p l e R s m args below meth c H locs cells slots D γ σ A lsa C hl
    refine lv_ishr C.1 C.2.1 hd  ?_
    have h9 := hk _ _ _ hh p l e R s m args below meth c H locs cells slots D γ σ A lsa C hl
    have e9 : Int32.ofInt x >>> (Int32.ofInt y &&& 31) = Int32.ofInt (b_ishr x y) := (Int32.ofInt_toInt _).symm
    rw [e9]
    exact h9
  · exact hh.elim
def p_ineg (k : KT) : KT := fun ls st h => match st with
  | .inl x :: st => k ls (aI (-x) :: st) h
  | _ => False
theorem s_ineg {K : List KD} {d : Nat} {M : MI} {pc : Nat} {Q : QT} {k : KT} (hd : decode M.2.1 pc = .ok (.ineg, 1)) (hk : ∀ ls st h, k ls st h → V K d M (pc + 1) ls st h Q) : ∀ ls st h, p_ineg k ls st h → V K d M pc ls st h Q := by
  intro ls st h hh
  unfold p_ineg at hh
  split at hh
  · rename_i x st
    intro p l e R s m args below meth c H locs cells slots D γ σ A lsa C hl
    refine lv_ineg C.1 C.2.1 hd ?_
    have h9 := hk _ _ _ hh p l e R s m args below meth c H locs cells slots D γ σ A lsa C hl
    rw [show -Int32.ofInt x = Int32.ofInt (-x) from (Int32.ofInt_neg x).symm]
    exact h9
  · exact hh.elim
def p_i2l (k : KT) : KT := fun ls st h => match st with
  | .inl x :: st => iR x ∧ k ls (aL x :: st) h
  | _ => False
theorem s_i2l {K : List KD} {d : Nat} {M : MI} {pc : Nat} {Q : QT} {k : KT} (hd : decode M.2.1 pc = .ok (.i2l, 1)) (hk : ∀ ls st h, k ls st h → V K d M (pc + 1) ls st h Q) : ∀ ls st h, p_i2l k ls st h → V K d M pc ls st h Q := by
  intro ls st h hh
  unfold p_i2l at hh
  split at hh
  · rename_i x st
    obtain ⟨hq, hh⟩ := hh
    intro p l e R s m args below meth c H locs cells slots D γ σ A lsa C hl
    exact lv_i2l C.1 C.2.1 hd (Int32.toInt64_ofInt hq.1 hq.2) (hk _ _ _ hh p l e R s m args below meth c H locs cells slots D γ σ A lsa C hl)
  · exact hh.elim
def p_l2i (k : KT) : KT := fun ls st h => match st with
  | .inr (.inl x) :: st => k ls (aI x :: st) h
  | _ => False
theorem s_l2i {K : List KD} {d : Nat} {M : MI} {pc : Nat} {Q : QT} {k : KT} (hd : decode M.2.1 pc = .ok (.l2i, 1)) (hk : ∀ ls st h, k ls st h → V K d M (pc + 1) ls st h Q) : ∀ ls st h, p_l2i k ls st h → V K d M pc ls st h Q := by
  intro ls st h hh
  unfold p_l2i at hh
  split at hh
  · rename_i x st
    intro p l e R s m args below meth c H locs cells slots D γ σ A lsa C hl
    exact lv_l2i C.1 C.2.1 hd Int64.toInt32_ofInt (hk _ _ _ hh p l e R s m args below meth c H locs cells slots D γ σ A lsa C hl)
  · exact hh.elim
def b_i2b (x : Int) : Int := x.bmod 256
theorem b_i2b_ok (x : Int) : (Int32.ofInt x).toInt8.toInt32 = Int32.ofInt (b_i2b x) := by
  apply Int32.toInt_inj.mp
  have h1 : -128 ≤ x.bmod 256 := by have := Int.le_bmod (x := x) (m := 256) (by decide); omega
  have h2 : x.bmod 256 < 128 := by have := Int.bmod_lt (x := x) (m := 256) (by decide); omega
  rw [Int8.toInt_toInt32, Int32.toInt_toInt8, Int32.toInt_ofInt, b_i2b, oI_toInt ⟨by omega, by omega⟩]
  rw [Int.bmod_bmod_of_dvd]
  decide
def p_i2b (k : KT) : KT := fun ls st h => match st with
  | .inl x :: st => k ls (aI (b_i2b x) :: st) h
  | _ => False
theorem s_i2b {K : List KD} {d : Nat} {M : MI} {pc : Nat} {Q : QT} {k : KT} (hd : decode M.2.1 pc = .ok (.i2b, 1)) (hk : ∀ ls st h, k ls st h → V K d M (pc + 1) ls st h Q) : ∀ ls st h, p_i2b k ls st h → V K d M pc ls st h Q := by
  intro ls st h hh
  unfold p_i2b at hh
  split at hh
  · rename_i x st
    intro p l e R s m args below meth c H locs cells slots D γ σ A lsa C hl
    exact lv_i2b C.1 C.2.1 hd (b_i2b_ok x) (hk _ _ _ hh p l e R s m args below meth c H locs cells slots D γ σ A lsa C hl)
  · exact hh.elim
def b_lushr (x y : Int) : Int := (((Int64.ofInt x).toUInt64 >>> ((Int32.ofInt y).toInt64.toUInt64 &&& Int64.toUInt64 63)).toInt64).toInt
def p_lushr (k : KT) : KT := fun ls st h => match st with
  | .inl y :: .inr (.inl x) :: st => k ls (aL (b_lushr x y) :: st) h
  | _ => False
theorem s_lushr {K : List KD} {d : Nat} {M : MI} {pc : Nat} {Q : QT} {k : KT} (hd : decode M.2.1 pc = .ok (.lushr, 1)) (hk : ∀ ls st h, k ls st h → V K d M (pc + 1) ls st h Q) : ∀ ls st h, p_lushr k ls st h → V K d M pc ls st h Q := by
  intro ls st h hh
  unfold p_lushr at hh
  split at hh
  · rename_i y x st
    intro p l e R s m args below meth c H locs cells slots D γ σ A lsa C hl
    exact lv_lushr C.1 C.2.1 hd (Int64.ofInt_toInt _).symm (hk _ _ _ hh p l e R s m args below meth c H locs cells slots D γ σ A lsa C hl)
  · exact hh.elim
def b_lshr (x y : Int) : Int := ((Int64.ofInt x >>> ((Int32.ofInt y).toInt64 &&& 63))).toInt
def p_lshr (k : KT) : KT := fun ls st h => match st with
  | .inl y :: .inr (.inl x) :: st => k ls (aL (b_lshr x y) :: st) h
  | _ => False
theorem s_lshr {K : List KD} {d : Nat} {M : MI} {pc : Nat} {Q : QT} {k : KT} (hd : decode M.2.1 pc = .ok (.lshr, 1)) (hk : ∀ ls st h, k ls st h → V K d M (pc + 1) ls st h Q) : ∀ ls st h, p_lshr k ls st h → V K d M pc ls st h Q := by
  intro ls st h hh
  unfold p_lshr at hh
  split at hh
  · rename_i y x st
    intro p l e R s m args below meth c H locs cells slots D γ σ A lsa C hl
    exact lv_lshr C.1 C.2.1 hd (Int64.ofInt_toInt _).symm (hk _ _ _ hh p l e R s m args below meth c H locs cells slots D γ σ A lsa C hl)
  · exact hh.elim
def b_lcmp (x y : Int) : Int := if y < x then 1 else if x = y then 0 else -1
theorem b_lcmp_ok {x y : Int} (hx : lR x) (hy : lR y) : lg_cmp (Int64.ofInt x) (Int64.ofInt y) = Int32.ofInt (b_lcmp x y) := by
  unfold lg_cmp b_lcmp
  simp only [gt_iff_lt, Int64.lt_iff_toInt_lt, ← Int64.toInt_inj, oL_toInt hx, oL_toInt hy]
  repeat' split
  all_goals rfl
def p_lcmp (k : KT) : KT := fun ls st h => match st with
  | .inr (.inl y) :: .inr (.inl x) :: st => (lR x ∧ lR y) ∧ k ls (aI (b_lcmp x y) :: st) h
  | _ => False
theorem s_lcmp {K : List KD} {d : Nat} {M : MI} {pc : Nat} {Q : QT} {k : KT} (hd : decode M.2.1 pc = .ok (.lcmp, 1)) (hk : ∀ ls st h, k ls st h → V K d M (pc + 1) ls st h Q) : ∀ ls st h, p_lcmp k ls st h → V K d M pc ls st h Q := by
  intro ls st h hh
  unfold p_lcmp at hh
  split at hh
  · rename_i y x st
    obtain ⟨hq, hh⟩ := hh
    intro p l e R s m args below meth c H locs cells slots D γ σ A lsa C hl
    refine W.lcmp C.1 C.2.1 hd ?_
    have h9 := hk _ _ _ hh p l e R s m args below meth c H locs cells slots D γ σ A lsa C hl
    rw [b_lcmp_ok hq.1 hq.2]
    exact h9
  · exact hh.elim
def p_dup (k : KT) : KT := fun ls st h => match st with
  | .inl x :: st => k ls (aI x :: aI x :: st) h
  | .inr (.inr x) :: st => k ls (aR x :: aR x :: st) h
  | _ => False
theorem s_dup {K : List KD} {d : Nat} {M : MI} {pc : Nat} {Q : QT} {k : KT} (hd : decode M.2.1 pc = .ok (.dup, 1)) (hk : ∀ ls st h, k ls st h → V K d M (pc + 1) ls st h Q) : ∀ ls st h, p_dup k ls st h → V K d M pc ls st h Q := by
  intro ls st h hh
  unfold p_dup at hh
  split at hh
  · intro p l e R s m args below meth c H locs cells slots D γ σ A lsa C hl
    exact lv_dup C.1 C.2.1 hd rfl (hk _ _ _ hh p l e R s m args below meth c H locs cells slots D γ σ A lsa C hl)
  · intro p l e R s m args below meth c H locs cells slots D γ σ A lsa C hl
    exact lv_dup C.1 C.2.1 hd rfl (hk _ _ _ hh p l e R s m args below meth c H locs cells slots D γ σ A lsa C hl)
  · exact hh.elim
def p_dup2 (k : KT) : KT := fun ls st h => match st with
  | .inl x :: .inr (.inr y) :: st => k ls (aI x :: aR y :: aI x :: aR y :: st) h
  | _ => False
theorem s_dup2 {K : List KD} {d : Nat} {M : MI} {pc : Nat} {Q : QT} {k : KT} (hd : decode M.2.1 pc = .ok (.dup2, 1)) (hk : ∀ ls st h, k ls st h → V K d M (pc + 1) ls st h Q) : ∀ ls st h, p_dup2 k ls st h → V K d M pc ls st h Q := by
  intro ls st h hh
  unfold p_dup2 at hh
  split at hh
  · intro p l e R s m args below meth c H locs cells slots D γ σ A lsa C hl
    exact lv_dup2_11 C.1 C.2.1 hd rfl rfl (hk _ _ _ hh p l e R s m args below meth c H locs cells slots D γ σ A lsa C hl)
  · exact hh.elim
def p_pop (k : KT) : KT := fun ls st h => match st with
  | .inl _ :: st => k ls st h
  | _ => False
theorem s_pop {K : List KD} {d : Nat} {M : MI} {pc : Nat} {Q : QT} {k : KT} (hd : decode M.2.1 pc = .ok (.pop, 1)) (hk : ∀ ls st h, k ls st h → V K d M (pc + 1) ls st h Q) : ∀ ls st h, p_pop k ls st h → V K d M pc ls st h Q := by
  intro ls st h hh
  unfold p_pop at hh
  split at hh
  · intro p l e R s m args below meth c H locs cells slots D γ σ A lsa C hl
    exact lv_pop C.1 C.2.1 hd rfl (hk _ _ _ hh p l e R s m args below meth c H locs cells slots D γ σ A lsa C hl)
  · exact hh.elim
def p_ceq (kt k : KT) : KT := fun ls st h => match st with
  | .inl y :: .inl x :: st => (iR x ∧ iR y) ∧ (x = y → kt ls st h) ∧ (x ≠ y → k ls st h)
  | _ => False
theorem s_ceq {K : List KD} {d : Nat} {M : MI} {pc : Nat} {Q : QT} {kt k : KT} {off : Int} {tgt : Nat} (hd : decode M.2.1 pc = .ok (.if_icmp .eq off, 3)) (ht : (pc : Int) + off = (tgt : Int)) (hkt : ∀ ls st h, kt ls st h → V K d M tgt ls st h Q) (hk : ∀ ls st h, k ls st h → V K d M (pc + 3) ls st h Q) : ∀ ls st h, p_ceq kt k ls st h → V K d M pc ls st h Q := by
  intro ls st h hh
  unfold p_ceq at hh
  split at hh
  · rename_i y x st
    obtain ⟨hq, hh⟩ := hh
    intro p l e R s m args below meth c H locs cells slots D γ σ A lsa C hl
    exact lv_icmp_eq C.1 C.2.1 hd ht (fun q => hkt _ _ _ (hh.1 ((oI_eq hq.1 hq.2).mp q)) p l e R s m args below meth c H locs cells slots D γ σ A lsa C hl) (fun q => hk _ _ _ (hh.2 (fun z => q ((oI_eq hq.1 hq.2).mpr z))) p l e R s m args below meth c H locs cells slots D γ σ A lsa C hl)
  · exact hh.elim
def p_zeq (kt k : KT) : KT := fun ls st h => match st with
  | .inl x :: st => iR x ∧ (x = 0 → kt ls st h) ∧ (x ≠ 0 → k ls st h)
  | _ => False
theorem s_zeq {K : List KD} {d : Nat} {M : MI} {pc : Nat} {Q : QT} {kt k : KT} {off : Int} {tgt : Nat} (hd : decode M.2.1 pc = .ok (.ifCond .eq off, 3)) (ht : (pc : Int) + off = (tgt : Int)) (hkt : ∀ ls st h, kt ls st h → V K d M tgt ls st h Q) (hk : ∀ ls st h, k ls st h → V K d M (pc + 3) ls st h Q) : ∀ ls st h, p_zeq kt k ls st h → V K d M pc ls st h Q := by
  intro ls st h hh
  unfold p_zeq at hh
  split at hh
  · rename_i x st
    obtain ⟨hq1, hh⟩ := hh
    have hq : iR x ∧ iR 0 := ⟨hq1, iR_0⟩
    intro p l e R s m args below meth c H locs cells slots D γ σ A lsa C hl
    exact lv_if_eq C.1 C.2.1 hd ht (fun q => hkt _ _ _ (hh.1 ((oI_eq hq.1 hq.2).mp q)) p l e R s m args below meth c H locs cells slots D γ σ A lsa C hl) (fun q => hk _ _ _ (hh.2 (fun z => q ((oI_eq hq.1 hq.2).mpr z))) p l e R s m args below meth c H locs cells slots D γ σ A lsa C hl)
  · exact hh.elim
def p_cne (kt k : KT) : KT := fun ls st h => match st with
  | .inl y :: .inl x :: st => (iR x ∧ iR y) ∧ (x ≠ y → kt ls st h) ∧ (x = y → k ls st h)
  | _ => False
theorem s_cne {K : List KD} {d : Nat} {M : MI} {pc : Nat} {Q : QT} {kt k : KT} {off : Int} {tgt : Nat} (hd : decode M.2.1 pc = .ok (.if_icmp .ne off, 3)) (ht : (pc : Int) + off = (tgt : Int)) (hkt : ∀ ls st h, kt ls st h → V K d M tgt ls st h Q) (hk : ∀ ls st h, k ls st h → V K d M (pc + 3) ls st h Q) : ∀ ls st h, p_cne kt k ls st h → V K d M pc ls st h Q := by
  intro ls st h hh
  unfold p_cne at hh
  split at hh
  · rename_i y x st
    obtain ⟨hq, hh⟩ := hh
    intro p l e R s m args below meth c H locs cells slots D γ σ A lsa C hl
    exact lv_icmp_ne C.1 C.2.1 hd ht (fun q => hkt _ _ _ (hh.1 (fun z => q ((oI_eq hq.1 hq.2).mpr z))) p l e R s m args below meth c H locs cells slots D γ σ A lsa C hl) (fun q => hk _ _ _ (hh.2 ((oI_eq hq.1 hq.2).mp q)) p l e R s m args below meth c H locs cells slots D γ σ A lsa C hl)
  · exact hh.elim
def p_zne (kt k : KT) : KT := fun ls st h => match st with
  | .inl x :: st => iR x ∧ (x ≠ 0 → kt ls st h) ∧ (x = 0 → k ls st h)
  | _ => False
theorem s_zne {K : List KD} {d : Nat} {M : MI} {pc : Nat} {Q : QT} {kt k : KT} {off : Int} {tgt : Nat} (hd : decode M.2.1 pc = .ok (.ifCond .ne off, 3)) (ht : (pc : Int) + off = (tgt : Int)) (hkt : ∀ ls st h, kt ls st h → V K d M tgt ls st h Q) (hk : ∀ ls st h, k ls st h → V K d M (pc + 3) ls st h Q) : ∀ ls st h, p_zne kt k ls st h → V K d M pc ls st h Q := by
  intro ls st h hh
  unfold p_zne at hh
  split at hh
  · rename_i x st
    obtain ⟨hq1, hh⟩ := hh
    have hq : iR x ∧ iR 0 := ⟨hq1, iR_0⟩
    intro p l e R s m args below meth c H locs cells slots D γ σ A lsa C hl
    exact lv_if_ne C.1 C.2.1 hd ht (fun q => hkt _ _ _ (hh.1 (fun z => q ((oI_eq hq.1 hq.2).mpr z))) p l e R s m args below meth c H locs cells slots D γ σ A lsa C hl) (fun q => hk _ _ _ (hh.2 ((oI_eq hq.1 hq.2).mp q)) p l e R s m args below meth c H locs cells slots D γ σ A lsa C hl)
  · exact hh.elim
def p_clt (kt k : KT) : KT := fun ls st h => match st with
  | .inl y :: .inl x :: st => (iR x ∧ iR y) ∧ (x < y → kt ls st h) ∧ (y ≤ x → k ls st h)
  | _ => False
theorem s_clt {K : List KD} {d : Nat} {M : MI} {pc : Nat} {Q : QT} {kt k : KT} {off : Int} {tgt : Nat} (hd : decode M.2.1 pc = .ok (.if_icmp .lt off, 3)) (ht : (pc : Int) + off = (tgt : Int)) (hkt : ∀ ls st h, kt ls st h → V K d M tgt ls st h Q) (hk : ∀ ls st h, k ls st h → V K d M (pc + 3) ls st h Q) : ∀ ls st h, p_clt kt k ls st h → V K d M pc ls st h Q := by
  intro ls st h hh
  unfold p_clt at hh
  split at hh
  · rename_i y x st
    obtain ⟨hq, hh⟩ := hh
    intro p l e R s m args below meth c H locs cells slots D γ σ A lsa C hl
    exact lv_icmp_lt C.1 C.2.1 hd ht (fun q => hkt _ _ _ (hh.1 ((oI_lt hq.1 hq.2).mp q)) p l e R s m args below meth c H locs cells slots D γ σ A lsa C hl) (fun q => hk _ _ _ (hh.2 (Int.not_lt.mp (fun z => q ((oI_lt hq.1 hq.2).mpr z)))) p l e R s m args below meth c H locs cells slots D γ σ A lsa C hl)
  · exact hh.elim
def p_zlt (kt k : KT) : KT := fun ls st h => match st with
  | .inl x :: st => iR x ∧ (x < 0 → kt ls st h) ∧ (0 ≤ x → k ls st h)
  | _ => False
theorem s_zlt {K : List KD} {d : Nat} {M : MI} {pc : Nat} {Q : QT} {kt k : KT} {off : Int} {tgt : Nat} (hd : decode M.2.1 pc = .ok (.ifCond .lt off, 3)) (ht : (pc : Int) + off = (tgt : Int)) (hkt : ∀ ls st h, kt ls st h → V K d M tgt ls st h Q) (hk : ∀ ls st h, k ls st h → V K d M (pc + 3) ls st h Q) : ∀ ls st h, p_zlt kt k ls st h → V K d M pc ls st h Q := by
  intro ls st h hh
  unfold p_zlt at hh
  split at hh
  · rename_i x st
    obtain ⟨hq1, hh⟩ := hh
    have hq : iR x ∧ iR 0 := ⟨hq1, iR_0⟩
    intro p l e R s m args below meth c H locs cells slots D γ σ A lsa C hl
    exact lv_if_lt C.1 C.2.1 hd ht (fun q => hkt _ _ _ (hh.1 ((oI_lt hq.1 hq.2).mp q)) p l e R s m args below meth c H locs cells slots D γ σ A lsa C hl) (fun q => hk _ _ _ (hh.2 (Int.not_lt.mp (fun z => q ((oI_lt hq.1 hq.2).mpr z)))) p l e R s m args below meth c H locs cells slots D γ σ A lsa C hl)
  · exact hh.elim
def p_cge (kt k : KT) : KT := fun ls st h => match st with
  | .inl y :: .inl x :: st => (iR x ∧ iR y) ∧ (y ≤ x → kt ls st h) ∧ (x < y → k ls st h)
  | _ => False
theorem s_cge {K : List KD} {d : Nat} {M : MI} {pc : Nat} {Q : QT} {kt k : KT} {off : Int} {tgt : Nat} (hd : decode M.2.1 pc = .ok (.if_icmp .ge off, 3)) (ht : (pc : Int) + off = (tgt : Int)) (hkt : ∀ ls st h, kt ls st h → V K d M tgt ls st h Q) (hk : ∀ ls st h, k ls st h → V K d M (pc + 3) ls st h Q) : ∀ ls st h, p_cge kt k ls st h → V K d M pc ls st h Q := by
  intro ls st h hh
  unfold p_cge at hh
  split at hh
  · rename_i y x st
    obtain ⟨hq, hh⟩ := hh
    intro p l e R s m args below meth c H locs cells slots D γ σ A lsa C hl
    exact lv_icmp_ge C.1 C.2.1 hd ht (fun q => hkt _ _ _ (hh.1 ((oI_le hq.2 hq.1).mp q)) p l e R s m args below meth c H locs cells slots D γ σ A lsa C hl) (fun q => hk _ _ _ (hh.2 (Int.not_le.mp (fun z => q ((oI_le hq.2 hq.1).mpr z)))) p l e R s m args below meth c H locs cells slots D γ σ A lsa C hl)
  · exact hh.elim
def p_zge (kt k : KT) : KT := fun ls st h => match st with
  | .inl x :: st => iR x ∧ (0 ≤ x → kt ls st h) ∧ (x < 0 → k ls st h)
  | _ => False
theorem s_zge {K : List KD} {d : Nat} {M : MI} {pc : Nat} {Q : QT} {kt k : KT} {off : Int} {tgt : Nat} (hd : decode M.2.1 pc = .ok (.ifCond .ge off, 3)) (ht : (pc : Int) + off = (tgt : Int)) (hkt : ∀ ls st h, kt ls st h → V K d M tgt ls st h Q) (hk : ∀ ls st h, k ls st h → V K d M (pc + 3) ls st h Q) : ∀ ls st h, p_zge kt k ls st h → V K d M pc ls st h Q := by
  intro ls st h hh
  unfold p_zge at hh
  split at hh
  · rename_i x st
    obtain ⟨hq1, hh⟩ := hh
    have hq : iR x ∧ iR 0 := ⟨hq1, iR_0⟩
    intro p l e R s m args below meth c H locs cells slots D γ σ A lsa C hl
    exact lv_if_ge C.1 C.2.1 hd ht (fun q => hkt _ _ _ (hh.1 ((oI_le hq.2 hq.1).mp q)) p l e R s m args below meth c H locs cells slots D γ σ A lsa C hl) (fun q => hk _ _ _ (hh.2 (Int.not_le.mp (fun z => q ((oI_le hq.2 hq.1).mpr z)))) p l e R s m args below meth c H locs cells slots D γ σ A lsa C hl)
  · exact hh.elim
def p_cgt (kt k : KT) : KT := fun ls st h => match st with
  | .inl y :: .inl x :: st => (iR x ∧ iR y) ∧ (y < x → kt ls st h) ∧ (x ≤ y → k ls st h)
  | _ => False
theorem s_cgt {K : List KD} {d : Nat} {M : MI} {pc : Nat} {Q : QT} {kt k : KT} {off : Int} {tgt : Nat} (hd : decode M.2.1 pc = .ok (.if_icmp .gt off, 3)) (ht : (pc : Int) + off = (tgt : Int)) (hkt : ∀ ls st h, kt ls st h → V K d M tgt ls st h Q) (hk : ∀ ls st h, k ls st h → V K d M (pc + 3) ls st h Q) : ∀ ls st h, p_cgt kt k ls st h → V K d M pc ls st h Q := by
  intro ls st h hh
  unfold p_cgt at hh
  split at hh
  · rename_i y x st
    obtain ⟨hq, hh⟩ := hh
    intro p l e R s m args below meth c H locs cells slots D γ σ A lsa C hl
    exact lv_icmp_gt C.1 C.2.1 hd ht (fun q => hkt _ _ _ (hh.1 ((oI_lt hq.2 hq.1).mp q)) p l e R s m args below meth c H locs cells slots D γ σ A lsa C hl) (fun q => hk _ _ _ (hh.2 (Int.not_lt.mp (fun z => q ((oI_lt hq.2 hq.1).mpr z)))) p l e R s m args below meth c H locs cells slots D γ σ A lsa C hl)
  · exact hh.elim
def p_zgt (kt k : KT) : KT := fun ls st h => match st with
  | .inl x :: st => iR x ∧ (0 < x → kt ls st h) ∧ (x ≤ 0 → k ls st h)
  | _ => False
theorem s_zgt {K : List KD} {d : Nat} {M : MI} {pc : Nat} {Q : QT} {kt k : KT} {off : Int} {tgt : Nat} (hd : decode M.2.1 pc = .ok (.ifCond .gt off, 3)) (ht : (pc : Int) + off = (tgt : Int)) (hkt : ∀ ls st h, kt ls st h → V K d M tgt ls st h Q) (hk : ∀ ls st h, k ls st h → V K d M (pc + 3) ls st h Q) : ∀ ls st h, p_zgt kt k ls st h → V K d M pc ls st h Q := by
  intro ls st h hh
  unfold p_zgt at hh
  split at hh
  · rename_i x st
    obtain ⟨hq1, hh⟩ := hh
    have hq : iR x ∧ iR 0 := ⟨hq1, iR_0⟩
    intro p l e R s m args below meth c H locs cells slots D γ σ A lsa C hl
    exact lv_if_gt C.1 C.2.1 hd ht (fun q => hkt _ _ _ (hh.1 ((oI_lt hq.2 hq.1).mp q)) p l e R s m args below meth c H locs cells slots D γ σ A lsa C hl) (fun q => hk _ _ _ (hh.2 (Int.not_lt.mp (fun z => q ((oI_lt hq.2 hq.1).mpr z)))) p l e R s m args below meth c H locs cells slots D γ σ A lsa C hl)
  · exact hh.elim
def p_cle (kt k : KT) : KT := fun ls st h => match st with
  | .inl y :: .inl x :: st => (iR x ∧ iR y) ∧ (x ≤ y → kt ls st h) ∧ (y < x → k ls st h)
  | _ => False
theorem s_cle {K : List KD} {d : Nat} {M : MI} {pc : Nat} {Q : QT} {kt k : KT} {off : Int} {tgt : Nat} (hd : decode M.2.1 pc = .ok (.if_icmp .le off, 3)) (ht : (pc : Int) + off = (tgt : Int)) (hkt : ∀ ls st h, kt ls st h → V K d M tgt ls st h Q) (hk : ∀ ls st h, k ls st h → V K d M (pc + 3) ls st h Q) : ∀ ls st h, p_cle kt k ls st h → V K d M pc ls st h Q := by
  intro ls st h hh
  unfold p_cle at hh
  split at hh
  · rename_i y x st
    obtain ⟨hq, hh⟩ := hh
    intro p l e R s m args below meth c H locs cells slots D γ σ A lsa C hl
    exact lv_icmp_le C.1 C.2.1 hd ht (fun q => hkt _ _ _ (hh.1 ((oI_le hq.1 hq.2).mp q)) p l e R s m args below meth c H locs cells slots D γ σ A lsa C hl) (fun q => hk _ _ _ (hh.2 (Int.not_le.mp (fun z => q ((oI_le hq.1 hq.2).mpr z)))) p l e R s m args below meth c H locs cells slots D γ σ A lsa C hl)
  · exact hh.elim
def p_zle (kt k : KT) : KT := fun ls st h => match st with
  | .inl x :: st => iR x ∧ (x ≤ 0 → kt ls st h) ∧ (0 < x → k ls st h)
  | _ => False
theorem s_zle {K : List KD} {d : Nat} {M : MI} {pc : Nat} {Q : QT} {kt k : KT} {off : Int} {tgt : Nat} (hd : decode M.2.1 pc = .ok (.ifCond .le off, 3)) (ht : (pc : Int) + off = (tgt : Int)) (hkt : ∀ ls st h, kt ls st h → V K d M tgt ls st h Q) (hk : ∀ ls st h, k ls st h → V K d M (pc + 3) ls st h Q) : ∀ ls st h, p_zle kt k ls st h → V K d M pc ls st h Q := by
  intro ls st h hh
  unfold p_zle at hh
  split at hh
  · rename_i x st
    obtain ⟨hq1, hh⟩ := hh
    have hq : iR x ∧ iR 0 := ⟨hq1, iR_0⟩
    intro p l e R s m args below meth c H locs cells slots D γ σ A lsa C hl
    exact lv_if_le C.1 C.2.1 hd ht (fun q => hkt _ _ _ (hh.1 ((oI_le hq.1 hq.2).mp q)) p l e R s m args below meth c H locs cells slots D γ σ A lsa C hl) (fun q => hk _ _ _ (hh.2 (Int.not_le.mp (fun z => q ((oI_le hq.1 hq.2).mpr z)))) p l e R s m args below meth c H locs cells slots D γ σ A lsa C hl)
  · exact hh.elim
/-- locals that nobody reads any more are forgotten -/
def mkl : List Bool → LSt → LSt
  | true :: m, v :: r => v :: mkl m r
  | false :: m, _ :: r => none :: mkl m r
  | _, r => r
theorem mkl_sub (σ : Nat → Nat) : ∀ (m : List Bool) (ls : LSt) (b : Nat) (q : Nat × Value), q ∈ lpl σ b (mkl m ls) → q ∈ lpl σ b ls
  | [], ls, b, q, h => by cases ls <;> exact h
  | true :: m, [], b, q, h => h
  | false :: m, [], b, q, h => h
  | true :: m, none :: r, b, q, h => by
    rw [mkl, lpl] at h
    rw [lpl]
    exact mkl_sub σ m r (b + 1) q h
  | true :: m, some v :: r, b, q, h => by
    rw [mkl, lpl] at h
    rw [lpl]
    rcases List.mem_cons.mp h with h | h
    · rw [h]; exact List.mem_cons_self
    · exact List.mem_cons_of_mem _ (mkl_sub σ m r (b + 1) q h)
  | false :: m, none :: r, b, q, h => by
    rw [mkl, lpl] at h
    rw [lpl]
    exact mkl_sub σ m r (b + 1) q h
  | false :: m, some v :: r, b, q, h => by
    rw [mkl, lpl] at h
    rw [lpl]
    exact List.mem_cons_of_mem _ (mkl_sub σ m r (b + 1) q h)
def p_to (K : List KD) (d : Nat) (M : MI) (Q : QT) (mk : List Bool) (pc : Nat) : KT := fun ls st h => V K d M pc (mkl mk ls) st h Q
theorem s_to {K : List KD} {d : Nat} {M : MI} {Q : QT} {mk : List Bool} {pc : Nat} : ∀ ls st h, p_to K d M Q mk pc ls st h → V K d M pc ls st h Q := by
  intro ls st h hV p l e R s m args below meth c H locs cells slots D γ σ A lsa C hl
  exact hV p l e R s m args below meth c H locs cells slots D γ σ A lsa C ⟨hl.1, hl.2.1, fun q hq => hl.2.2 q (mkl_sub σ mk ls 0 q hq)⟩
theorem s_goto {K : List KD} {d : Nat} {M : MI} {pc : Nat} {Q : QT} {kt : KT} {off : Int} {tgt : Nat} (hd : decode M.2.1 pc = .ok (.goto off, 3)) (ht : (pc : Int) + off = (tgt : Int)) (hkt : ∀ ls st h, kt ls st h → V K d M tgt ls st h Q) : ∀ ls st h, kt ls st h → V K d M pc ls st h Q := by
  intro ls st h hh
  intro p l e R s m args below meth c H locs cells slots D γ σ A lsa C hl
  exact lv_goto C.1 C.2.1 hd ht (hkt _ _ _ hh p l e R s m args below meth c H locs cells slots D γ σ A lsa C hl)
def p_lsw (K : List KD) (d : Nat) (M : MI) (Q : QT) (ps : List (Int × Nat)) (df : Nat) : KT := fun ls st h => match st with
  | .inl x :: st => iR x ∧ (∀ q ∈ ps, x = q.1 → V K d M q.2 ls st h Q) ∧ ((∀ q ∈ ps, x ≠ q.1) → V K d M df ls st h Q)
  | _ => False
def lswo (pc : Nat) (ps : List (Int × Nat)) : List (Int × Int) := ps.map fun q => (q.1, (q.2 : Int) - pc)
theorem lswo_hit {pc : Nat} {df : Int} {x : Int} : ∀ (ps : List (Int × Nat)), (∃ q ∈ ps, x = q.1 ∧ Op.lookupswitch.offset (lswo pc ps) df x = (q.2 : Int) - pc) ∨ ((∀ q ∈ ps, x ≠ q.1) ∧ Op.lookupswitch.offset (lswo pc ps) df x = df)
  | [] => Or.inr ⟨fun _ h => absurd h List.not_mem_nil, rfl⟩
  | q :: r => by
    by_cases hx : x = q.1
    · refine Or.inl ⟨q, List.mem_cons_self, hx, ?_⟩
      show Op.lookupswitch.offset ((q.1, (q.2 : Int) - pc) :: lswo pc r) df x = _
      rw [Op.lookupswitch.offset_cons, if_pos (by rw [hx])]
    · have e : Op.lookupswitch.offset (lswo pc (q :: r)) df x = Op.lookupswitch.offset (lswo pc r) df x := by
        show Op.lookupswitch.offset ((q.1, (q.2 : Int) - pc) :: lswo pc r) df x = _
        rw [Op.lookupswitch.offset_cons, if_neg (fun z => hx z.symm)]
      rcases lswo_hit (pc := pc) (df := df) (x := x) r with ⟨z, h1, h2, h3⟩ | ⟨h1, h2⟩
      · exact Or.inl ⟨z, List.mem_cons_of_mem _ h1, h2, by rw [e]; exact h3⟩
      · exact Or.inr ⟨fun z hz => by rcases List.mem_cons.mp hz with rfl | hz; exact hx; exact h1 z hz, by rw [e]; exact h2⟩
theorem s_lsw {K : List KD} {d : Nat} {M : MI} {pc : Nat} {Q : QT} {dflt : Int} {pa : Array (Int × Int)} {len df : Nat} (ps : List (Int × Nat)) (hd : decode M.2.1 pc = .ok (.lookupswitch dflt pa, len)) (hp : (pa.toList.zip (pa.toList.drop 1)).all (fun (a, next) => a.1 < next.1) = true) (hpa : pa.toList = lswo pc ps) (hdf : (pc : Int) + dflt = (df : Int)) : ∀ ls st h, p_lsw K d M Q ps df ls st h → V K d M pc ls st h Q := by
  intro ls st h hh
  unfold p_lsw at hh
  split at hh
  · rename_i x st
    obtain ⟨hq, h1, h2⟩ := hh
    intro p l e R s m args below meth c H locs cells slots D γ σ A lsa C hl
    rcases lswo_hit (pc := pc) (df := dflt) (x := x) ps with ⟨q, g1, g2, g3⟩ | ⟨g1, g2⟩
    · exact lv_lookup C.1 C.2.1 hd hp (by rw [hpa, oI_toInt hq]) (by rw [g3]; omega) (h1 q g1 g2 p l e R s m args below meth c H locs cells slots D γ σ A lsa C hl)
    · exact lv_lookup C.1 C.2.1 hd hp (by rw [hpa, oI_toInt hq]) (by rw [g2]; exact hdf) (h2 g1 p l e R s m args below meth c H locs cells slots D γ σ A lsa C hl)
  · exact hh.elim
def p_tsw (K : List KD) (d : Nat) (M : MI) (Q : QT) (lo : Int) (ts : List Nat) (df : Nat) : KT := fun ls st h => match st with
  | .inl x :: st => iR x ∧ (∀ (i t : Nat), ts[i]? = some t → x = lo + i → V K d M t ls st h Q) ∧ (x < lo ∨ lo + ts.length ≤ x → V K d M df ls st h Q)
  | _ => False
theorem s_tsw {K : List KD} {d : Nat} {M : MI} {pc : Nat} {Q : QT} {dflt lo hi : Int} {offs : Array Int} {len df : Nat} (ts : List Nat) (hd : decode M.2.1 pc = .ok (.tableswitch dflt lo hi offs, len)) (hts : offs.toList = ts.map (fun (t : Nat) => (t : Int) - pc)) (hhi : lo + ts.length = hi + 1) (hdf : (pc : Int) + dflt = (df : Int)) : ∀ ls st h, p_tsw K d M Q lo ts df ls st h → V K d M pc ls st h Q := by
  intro ls st h hh
  unfold p_tsw at hh
  split at hh
  · rename_i x st
    obtain ⟨hq, h1, h2⟩ := hh
    intro p l e R s m args below meth c H locs cells slots D γ σ A lsa C hl
    by_cases hin : x < lo ∨ hi < x
    · exact lv_tableOut C.1 C.2.1 hd (by rw [oI_toInt hq]; exact hin) hdf (h2 (by omega) p l e R s m args below meth c H locs cells slots D γ σ A lsa C hl)
    · have hlt : (x - lo).toNat < ts.length := by omega
      have hg : ts[(x - lo).toNat]? = some (ts[(x - lo).toNat]) := List.getElem?_eq_getElem hlt
      have ho : offs[(x - lo).toNat]? = some ((ts[(x - lo).toNat] : Int) - pc) := by rw [← Array.getElem?_toList, hts, List.getElem?_map, hg]; rfl
      exact lv_tableIn C.1 C.2.1 hd (by rw [oI_toInt hq]; omega) (by rw [oI_toInt hq]; omega) (by rw [oI_toInt hq]; exact ho) (by omega) (h1 _ _ hg (by omega) p l e R s m args below meth c H locs cells slots D γ σ A lsa C hl)
  · exact hh.elim
def p_iret (P : Int → HP → Prop) : KT := fun _ st h => match st with
  | [.inl x] => P x h
  | _ => False
theorem s_iret {K : List KD} {d : Nat} {M : MI} {pc : Nat} {P : Int → HP → Prop} (hr : M.2.2.2 = some .int) (hd : decode M.2.1 pc = .ok (.ireturn, 1)) : ∀ ls st h, p_iret P ls st h → V K d M pc ls st h (rI P) := by
  intro ls st h hh
  unfold p_iret at hh
  split at hh
  · rename_i x
    intro p l e R s m args below meth c H locs cells slots D γ σ A lsa C hl
    obtain ⟨c1, c2, c3, c4, c5, c6, c7, c8, c9, c10, c11, c12⟩ := C
    exact W.iret c1 c2 (c4.trans hr) (fun t ht hW => ⟨⟨some (aI x), h, rfl, ⟨x, rfl, hh⟩, by rw [ht]; exact c10⟩, c12.F ht⟩) c12.2.2 hd c5
  · exact hh.elim
def p_zret (P : Int → HP → Prop) : KT := fun _ st h => match st with
  | [.inl x] => (x = 0 ∨ x = 1) ∧ P x h
  | _ => False
theorem s_zret {K : List KD} {d : Nat} {M : MI} {pc : Nat} {P : Int → HP → Prop} (hr : M.2.2.2 = some .boolean) (hd : decode M.2.1 pc = .ok (.ireturn, 1)) : ∀ ls st h, p_zret P ls st h → V K d M pc ls st h (rI P) := by
  intro ls st h hh
  unfold p_zret at hh
  split at hh
  · rename_i x
    obtain ⟨hx, hh⟩ := hh
    intro p l e R s m args below meth c H locs cells slots D γ σ A lsa C hl
    obtain ⟨c1, c2, c3, c4, c5, c6, c7, c8, c9, c10, c11, c12⟩ := C
    exact W.zret c1 c2 (c4.trans hr) (by rcases hx with rfl | rfl <;> rfl) (fun t ht hW => ⟨⟨some (aI x), h, rfl, ⟨x, rfl, hh⟩, by rw [ht]; exact c10⟩, c12.F ht⟩) c12.2.2 hd c5
  · exact hh.elim
def p_vret (P : HP → Prop) : KT := fun _ st h => match st with
  | [] => P h
  | _ => False
theorem s_vret {K : List KD} {d : Nat} {M : MI} {pc : Nat} {P : HP → Prop} (hr : M.2.2.2 = none) (hd : decode M.2.1 pc = .ok (.return_, 1)) : ∀ ls st h, p_vret P ls st h → V K d M pc ls st h (rV P) := by
  intro ls st h hh
  unfold p_vret at hh
  split at hh
  · intro p l e R s m args below meth c H locs cells slots D γ σ A lsa C hl
    obtain ⟨c1, c2, c3, c4, c5, c6, c7, c8, c9, c10, c11, c12⟩ := C
    exact W.vret c1 c2 (c4.trans hr) (fun t ht hW => ⟨⟨none, h, rfl, ⟨rfl, hh⟩, by rw [ht]; exact c10⟩, c12.F ht⟩) c12.2.2 hd c5
  · exact hh.elim
