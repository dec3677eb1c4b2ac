/-! fields, arrays, calls -/
def fkd (K : List KD) (c ci j : Nat) : Option (Option Nat) := match K[c]? with
  | some (0, ci', l) => bif ci' == ci then l[j]? else none
  | _ => none
theorem fkd_some {K : List KD} {c ci j : Nat} {o : Option Nat} (h : fkd K c ci j = some o) : ∃ l, K[c]? = some (0, ci, l) ∧ l[j]? = some o := by
  unfold fkd at h
  split at h
  · rename_i ci' l hk
    cases hb : ci' == ci with
    | true =>
      rw [hb, cond_true] at h
      have : ci' = ci := by simpa using hb
      subst this
      exact ⟨l, hk, h⟩
    | false => rw [hb, cond_false] at h; cases h
  · cases h
def p_get (K : List KD) (ci j : Nat) (k : KT) : KT := fun ls st h => match st with
  | .inr (.inr c) :: st => (match fkd K c ci j with
    | some none => k ls (aI (h c j) :: st) h
    | some (some r) => k ls (aR r :: st) h
    | none => False)
  | _ => False
theorem s_get {K : List KD} {d : Nat} {M : MI} {pc : Nat} {Q : QT} {k : KT} {ci j N ix : Nat} {C : String} {T : u_T} (hc : vwCl[ci]? = some (C, T, N)) (hin : ∀ w ∈ u_ws C T N, w ∈ tb2) (hj : j < N) (hw : Cond.fieldLink M.1.cls ix C (T j).2.1 (T j).2.2.1 ∈ tb2) (hT : (T j).1 = C) (hd : decode M.2.1 pc = .ok (.getfield ix, 3)) (hk : ∀ ls st h, k ls st h → V K d M (pc + 3) ls st h Q) : ∀ ls st h, p_get K ci j k ls st h → V K d M pc ls st h Q := by
  intro ls st h hh
  unfold p_get at hh
  split at hh
  · rename_i c st
    split at hh
    · rename_i hf
      obtain ⟨l, hl1, hl2⟩ := fkd_some hf
      intro p l e R s m args below meth c0 H locs cells slots D γ σ A lsa C hl
      obtain ⟨c1, c2, c3, c4, c5, c6, c7, c8, c9, c10, c11, c12⟩ := id C
      exact va_get c1 c2 c7 hin c6 c9 c10 c (wdl_at hl1) hc j hj (c7 _ hw) (fun x hx => by rw [hT] at hx; exact hx) (v := .int (Int32.ofInt (h c j))) (by simp [List.getElem?_mapIdx, hl2, ofv]) hd (hk _ _ _ hh p l e R s m args below meth c0 H locs cells slots D γ σ A lsa C hl)
    · rename_i r hf
      obtain ⟨l, hl1, hl2⟩ := fkd_some hf
      intro p l e R s m args below meth c0 H locs cells slots D γ σ A lsa C hl
      obtain ⟨c1, c2, c3, c4, c5, c6, c7, c8, c9, c10, c11, c12⟩ := id C
      exact va_get c1 c2 c7 hin c6 c9 c10 c (wdl_at hl1) hc j hj (c7 _ hw) (fun x hx => by rw [hT] at hx; exact hx) (v := .ref (σ r)) (by simp [List.getElem?_mapIdx, hl2, ofv]) hd (hk _ _ _ hh p l e R s m args below meth c0 H locs cells slots D γ σ A lsa C hl)
    · exact hh.elim
  · exact hh.elim
theorem s_getN {K : List KD} {d : Nat} {M : MI} {pc : Nat} {Q : QT} {k : KT} {ci j N ix : Nat} {C host : String} {T : u_T} (hc : vwCl[ci]? = some (C, T, N)) (hin : ∀ w ∈ u_ws C T N, w ∈ tb2) (hj : j < N) (hw : Cond.fieldLinkNest M.1.cls ix C (T j).2.1 (T j).2.2.1 host ∈ tb2) (hT : (T j).1 = C) (hd : decode M.2.1 pc = .ok (.getfield ix, 3)) (hk : ∀ ls st h, k ls st h → V K d M (pc + 3) ls st h Q) : ∀ ls st h, p_get K ci j k ls st h → V K d M pc ls st h Q := by
  intro ls st h hh
  unfold p_get at hh
  split at hh
  · rename_i c st
    split at hh
    · rename_i hf
      obtain ⟨l, hl1, hl2⟩ := fkd_some hf
      intro p l e R s m args below meth c0 H locs cells slots D γ σ A lsa C hl
      obtain ⟨c1, c2, c3, c4, c5, c6, c7, c8, c9, c10, c11, c12⟩ := id C
      exact va_getN c1 c2 c7 hin c6 c9 c10 c (wdl_at hl1) hc j hj (c7 _ hw) (fun x hx => by rw [hT] at hx; exact hx) (v := .int (Int32.ofInt (h c j))) (by simp [List.getElem?_mapIdx, hl2, ofv]) hd (hk _ _ _ hh p l e R s m args below meth c0 H locs cells slots D γ σ A lsa C hl)
    · rename_i r hf
      obtain ⟨l, hl1, hl2⟩ := fkd_some hf
      intro p l e R s m args below meth c0 H locs cells slots D γ σ A lsa C hl
      obtain ⟨c1, c2, c3, c4, c5, c6, c7, c8, c9, c10, c11, c12⟩ := id C
      exact va_getN c1 c2 c7 hin c6 c9 c10 c (wdl_at hl1) hc j hj (c7 _ hw) (fun x hx => by rw [hT] at hx; exact hx) (v := .ref (σ r)) (by simp [List.getElem?_mapIdx, hl2, ofv]) hd (hk _ _ _ hh p l e R s m args below meth c0 H locs cells slots D γ σ A lsa C hl)
    · exact hh.elim
  · exact hh.elim
def p_put (K : List KD) (ci j : Nat) (k : KT) : KT := fun ls st h => match st with
  | .inl x :: .inr (.inr c) :: st => (match fkd K c ci j with
    | some none => k ls st (hset h c j x)
    | _ => False)
  | _ => False
theorem s_put {K : List KD} {d : Nat} {M : MI} {pc : Nat} {Q : QT} {k : KT} {ci j N ix : Nat} {C : String} {T : u_T} {ty : Nat → FieldType} (hc : vwCl[ci]? = some (C, T, N)) (hin : ∀ w ∈ u_ws C T N, w ∈ tb2) (hty : ∀ k, k < N → parseFieldDescriptor (T k).2.2.1 = some (ty k)) (hnm : ∀ a, a < N → ∀ b, b < N → a ≠ b → (T a).2.1 ≠ (T b).2.1) (hj : j < N) (hw : Cond.fieldLink M.1.cls ix C (T j).2.1 (T j).2.2.1 ∈ tb2) (hT : (T j).1 = C) (hf0 : (T j).2.2.2 = false) (hi : ty j = .int) (hd : decode M.2.1 pc = .ok (.putfield ix, 3)) (hk : ∀ ls st h, k ls st h → V K d M (pc + 3) ls st h Q) : ∀ ls st h, p_put K ci j k ls st h → V K d M pc ls st h Q := by
  intro ls st h hh
  unfold p_put at hh
  split at hh
  · rename_i x c st
    split at hh
    · rename_i hf
      obtain ⟨l, hl1, hl2⟩ := fkd_some hf
      intro p l0 e R s m args below meth c0 H locs cells slots D γ σ A lsa C hl
      obtain ⟨c1, c2, c3, c4, c5, c6, c7, c8, c9, c10, c11, c12⟩ := id C
      refine va_put c1 c2 c7 hin ty hty hnm c6 c9 c10 c11 c12 c (wdl_at hl1) hc j hj (c7 _ hw) (fun x hx => by rw [hT] at hx; exact hx) hf0 (ty := .int) (by rw [hty j hj, hi]) rfl rfl (by simp; exact (List.getElem?_eq_some_iff.mp hl2).1) hd (fun H1 locs1 hP hD hS => ?_)
      have hP : va_P D vwCl (wdl γ σ (hset h c j x) K) H1 := by rw [← wdl_setF hl1 hl2]; exact hP
      have hD : va_D A (wdl γ σ (hset h c j x) K) := wdl_D c11
      exact hk _ _ _ hh p l0 e R s m args below meth c0 H1 locs1 cells slots D γ σ A lsa ⟨c1, c2, c3, c4, c5, c6, c7, c8, c9, hP, hD, hS⟩ hl
    · exact hh.elim
  · exact hh.elim
theorem s_putN {K : List KD} {d : Nat} {M : MI} {pc : Nat} {Q : QT} {k : KT} {ci j N ix : Nat} {C host : String} {T : u_T} {ty : Nat → FieldType} (hc : vwCl[ci]? = some (C, T, N)) (hin : ∀ w ∈ u_ws C T N, w ∈ tb2) (hty : ∀ k, k < N → parseFieldDescriptor (T k).2.2.1 = some (ty k)) (hnm : ∀ a, a < N → ∀ b, b < N → a ≠ b → (T a).2.1 ≠ (T b).2.1) (hj : j < N) (hw : Cond.fieldLinkNest M.1.cls ix C (T j).2.1 (T j).2.2.1 host ∈ tb2) (hT : (T j).1 = C) (hf0 : (T j).2.2.2 = false) (hi : ty j = .int) (hd : decode M.2.1 pc = .ok (.putfield ix, 3)) (hk : ∀ ls st h, k ls st h → V K d M (pc + 3) ls st h Q) : ∀ ls st h, p_put K ci j k ls st h → V K d M pc ls st h Q := by
  intro ls st h hh
  unfold p_put at hh
  split at hh
  · rename_i x c st
    split at hh
    · rename_i hf
      obtain ⟨l, hl1, hl2⟩ := fkd_some hf
      intro p l0 e R s m args below meth c0 H locs cells slots D γ σ A lsa C hl
      obtain ⟨c1, c2, c3, c4, c5, c6, c7, c8, c9, c10, c11, c12⟩ := id C
      refine va_putN c1 c2 c7 hin ty hty hnm c6 c9 c10 c11 c12 c (wdl_at hl1) hc j hj (c7 _ hw) (fun x hx => by rw [hT] at hx; exact hx) hf0 (ty := .int) (by rw [hty j hj, hi]) rfl rfl (by simp; exact (List.getElem?_eq_some_iff.mp hl2).1) hd (fun H1 locs1 hP hD hS => ?_)
      have hP : va_P D vwCl (wdl γ σ (hset h c j x) K) H1 := by rw [← wdl_setF hl1 hl2]; exact hP
      have hD : va_D A (wdl γ σ (hset h c j x) K) := wdl_D c11
      exact hk _ _ _ hh p l0 e R s m args below meth c0 H1 locs1 cells slots D γ σ A lsa ⟨c1, c2, c3, c4, c5, c6, c7, c8, c9, hP, hD, hS⟩ hl
    · exact hh.elim
  · exact hh.elim
def akd (K : List KD) (c t n : Nat) : Bool := match K[c]? with
  | some (t', n', _) => t' == t && n' == n
  | none => false
theorem akd_some {K : List KD} {c t n : Nat} (h : akd K c t n = true) : ∃ l, K[c]? = some (t, n, l) := by
  unfold akd at h
  split at h
  · rename_i t' n' l hk
    simp only [Bool.and_eq_true, beq_iff_eq] at h
    obtain ⟨rfl, rfl⟩ := h
    exact ⟨l, hk⟩
  · cases h
theorem arr_at {γ : Nat → ClassId} {σ : Nat → Nat} {h : HP} {K : List KD} {c t n : Nat} {l : List (Option Nat)} (hk : K[c]? = some (t, n, l)) (h0 : t ≠ 0) (h4 : t ≠ 4) : (wdl γ σ h K)[c]? = some (σ c, .inl (γ t, n, .inl (fun i => Int32.ofInt (h c i)))) := by
  rw [wdl_at hk, cEl_arr h0 h4]
theorem nar_b {x : Int} (h1 : -128 ≤ x) (h2 : x ≤ 127) : vp_nar .byte (Int32.ofInt x) = Int32.ofInt x := by
  rw [vp_nar_byte, b_i2b_ok, b_i2b, Int.bmod_eq_of_le (by omega) (by omega)]
theorem nar_z {x : Int} (h1 : 0 ≤ x) (h2 : x ≤ 1) : vp_nar .boolean (Int32.ofInt x) = Int32.ofInt x := by
  rcases (show x = 0 ∨ x = 1 by omega) with rfl | rfl <;> rfl
def p_iald (K : List KD) (n : Nat) (k : KT) : KT := fun ls st h => match st with
  | .inl i :: .inr (.inr c) :: st => bif akd K c 1 n then (0 ≤ i ∧ i < (n : Int)) ∧ k ls (aI (h c i) :: st) h else False
  | _ => False
theorem s_iald {K : List KD} {d : Nat} {M : MI} {pc : Nat} {Q : QT} {k : KT} {n : Nat} (hn : n < 2147483648) (hd : decode M.2.1 pc = .ok (.iaload, 1)) (hk : ∀ ls st h, k ls st h → V K d M (pc + 1) ls st h Q) : ∀ ls st h, p_iald K n k ls st h → V K d M pc ls st h Q := by
  intro ls st h hh
  unfold p_iald at hh
  split at hh
  · rename_i i c st
    cases hb : akd K c 1 n with
    | false => rw [hb, cond_false] at hh; exact hh.elim
    | true =>
    rw [hb, cond_true] at hh
    obtain ⟨⟨h1, h2⟩, hh⟩ := hh
    obtain ⟨l, hl1⟩ := akd_some hb
    intro p l0 e R s m args below meth c0 H locs cells slots D γ σ A lsa C hl
    obtain ⟨c1, c2, c3, c4, c5, c6, c7, c8, c9, c10, c11, c12⟩ := id C
    have h9 := hk _ _ _ hh p l0 e R s m args below meth c0 H locs cells slots D γ σ A lsa C hl
    refine va_iald c1 c2 c9 c10 c 0 (arr_at hl1 (by decide) (by decide)) rfl (oI_in h1 h2 hn) hd ?_
    rw [oI_nat h1 ⟨by omega, by omega⟩, Int.toNat_of_nonneg h1]
    exact h9
  · exact hh.elim
def p_ialdv (K : List KD) (n : Nat) (k : KT) : KT := fun ls st h => match st with
  | .inl i :: .inr (.inr c) :: st => (akd K c 1 n = true ∧ 0 ≤ i ∧ i < (n : Int)) ∧ k ls (aI (h c i) :: st) h
  | _ => False
theorem s_ialdv {K : List KD} {d : Nat} {M : MI} {pc : Nat} {Q : QT} {k : KT} {n : Nat} (hn : n < 2147483648) (hd : decode M.2.1 pc = .ok (.iaload, 1)) (hk : ∀ ls st h, k ls st h → V K d M (pc + 1) ls st h Q) : ∀ ls st h, p_ialdv K n k ls st h → V K d M pc ls st h Q := by
  intro ls st h hh
  unfold p_ialdv at hh
  split at hh
  · rename_i i c st
    obtain ⟨⟨hb, h1, h2⟩, hh⟩ := hh
    obtain ⟨l, hl1⟩ := akd_some hb
    intro p l0 e R s m args below meth c0 H locs cells slots D γ σ A lsa C hl
    obtain ⟨c1, c2, c3, c4, c5, c6, c7, c8, c9, c10, c11, c12⟩ := id C
    have h9 := hk _ _ _ hh p l0 e R s m args below meth c0 H locs cells slots D γ σ A lsa C hl
    refine va_iald c1 c2 c9 c10 c 0 (arr_at hl1 (by decide) (by decide)) rfl (oI_in h1 h2 hn) hd ?_
    rw [oI_nat h1 ⟨by omega, by omega⟩, Int.toNat_of_nonneg h1]
    exact h9
  · exact hh.elim
def p_bald (K : List KD) (n : Nat) (k : KT) : KT := fun ls st h => match st with
  | .inl i :: .inr (.inr c) :: st => bif akd K c 2 n then (0 ≤ i ∧ i < (n : Int)) ∧ k ls (aI (h c i) :: st) h else False
  | _ => False
theorem s_bald {K : List KD} {d : Nat} {M : MI} {pc : Nat} {Q : QT} {k : KT} {n : Nat} (hn : n < 2147483648) (hd : decode M.2.1 pc = .ok (.baload, 1)) (hk : ∀ ls st h, k ls st h → V K d M (pc + 1) ls st h Q) : ∀ ls st h, p_bald K n k ls st h → V K d M pc ls st h Q := by
  intro ls st h hh
  unfold p_bald at hh
  split at hh
  · rename_i i c st
    cases hb : akd K c 2 n with
    | false => rw [hb, cond_false] at hh; exact hh.elim
    | true =>
    rw [hb, cond_true] at hh
    obtain ⟨⟨h1, h2⟩, hh⟩ := hh
    obtain ⟨l, hl1⟩ := akd_some hb
    intro p l0 e R s m args below meth c0 H locs cells slots D γ σ A lsa C hl
    obtain ⟨c1, c2, c3, c4, c5, c6, c7, c8, c9, c10, c11, c12⟩ := id C
    have h9 := hk _ _ _ hh p l0 e R s m args below meth c0 H locs cells slots D γ σ A lsa C hl
    refine va_bald c1 c2 c9 c10 c 1 (arr_at hl1 (by decide) (by decide)) rfl (oI_in h1 h2 hn) hd ?_
    rw [oI_nat h1 ⟨by omega, by omega⟩, Int.toNat_of_nonneg h1]
    exact h9
  · exact hh.elim
def p_baldv (K : List KD) (n : Nat) (k : KT) : KT := fun ls st h => match st with
  | .inl i :: .inr (.inr c) :: st => (akd K c 2 n = true ∧ 0 ≤ i ∧ i < (n : Int)) ∧ k ls (aI (h c i) :: st) h
  | _ => False
theorem s_baldv {K : List KD} {d : Nat} {M : MI} {pc : Nat} {Q : QT} {k : KT} {n : Nat} (hn : n < 2147483648) (hd : decode M.2.1 pc = .ok (.baload, 1)) (hk : ∀ ls st h, k ls st h → V K d M (pc + 1) ls st h Q) : ∀ ls st h, p_baldv K n k ls st h → V K d M pc ls st h Q := by
  intro ls st h hh
  unfold p_baldv at hh
  split at hh
  · rename_i i c st
    obtain ⟨⟨hb, h1, h2⟩, hh⟩ := hh
    obtain ⟨l, hl1⟩ := akd_some hb
    intro p l0 e R s m args below meth c0 H locs cells slots D γ σ A lsa C hl
    obtain ⟨c1, c2, c3, c4, c5, c6, c7, c8, c9, c10, c11, c12⟩ := id C
    have h9 := hk _ _ _ hh p l0 e R s m args below meth c0 H locs cells slots D γ σ A lsa C hl
    refine va_bald c1 c2 c9 c10 c 1 (arr_at hl1 (by decide) (by decide)) rfl (oI_in h1 h2 hn) hd ?_
    rw [oI_nat h1 ⟨by omega, by omega⟩, Int.toNat_of_nonneg h1]
    exact h9
  · exact hh.elim
def p_zald (K : List KD) (n : Nat) (k : KT) : KT := fun ls st h => match st with
  | .inl i :: .inr (.inr c) :: st => bif akd K c 3 n then (0 ≤ i ∧ i < (n : Int)) ∧ k ls (aI (h c i) :: st) h else False
  | _ => False
theorem s_zald {K : List KD} {d : Nat} {M : MI} {pc : Nat} {Q : QT} {k : KT} {n : Nat} (hn : n < 2147483648) (hd : decode M.2.1 pc = .ok (.baload, 1)) (hk : ∀ ls st h, k ls st h → V K d M (pc + 1) ls st h Q) : ∀ ls st h, p_zald K n k ls st h → V K d M pc ls st h Q := by
  intro ls st h hh
  unfold p_zald at hh
  split at hh
  · rename_i i c st
    cases hb : akd K c 3 n with
    | false => rw [hb, cond_false] at hh; exact hh.elim
    | true =>
    rw [hb, cond_true] at hh
    obtain ⟨⟨h1, h2⟩, hh⟩ := hh
    obtain ⟨l, hl1⟩ := akd_some hb
    intro p l0 e R s m args below meth c0 H locs cells slots D γ σ A lsa C hl
    obtain ⟨c1, c2, c3, c4, c5, c6, c7, c8, c9, c10, c11, c12⟩ := id C
    have h9 := hk _ _ _ hh p l0 e R s m args below meth c0 H locs cells slots D γ σ A lsa C hl
    refine va_zald c1 c2 c9 c10 c 2 (arr_at hl1 (by decide) (by decide)) rfl (oI_in h1 h2 hn) hd ?_
    rw [oI_nat h1 ⟨by omega, by omega⟩, Int.toNat_of_nonneg h1]
    exact h9
  · exact hh.elim
def p_zaldv (K : List KD) (n : Nat) (k : KT) : KT := fun ls st h => match st with
  | .inl i :: .inr (.inr c) :: st => (akd K c 3 n = true ∧ 0 ≤ i ∧ i < (n : Int)) ∧ k ls (aI (h c i) :: st) h
  | _ => False
theorem s_zaldv {K : List KD} {d : Nat} {M : MI} {pc : Nat} {Q : QT} {k : KT} {n : Nat} (hn : n < 2147483648) (hd : decode M.2.1 pc = .ok (.baload, 1)) (hk : ∀ ls st h, k ls st h → V K d M (pc + 1) ls st h Q) : ∀ ls st h, p_zaldv K n k ls st h → V K d M pc ls st h Q := by
  intro ls st h hh
  unfold p_zaldv at hh
  split at hh
  · rename_i i c st
    obtain ⟨⟨hb, h1, h2⟩, hh⟩ := hh
    obtain ⟨l, hl1⟩ := akd_some hb
    intro p l0 e R s m args below meth c0 H locs cells slots D γ σ A lsa C hl
    obtain ⟨c1, c2, c3, c4, c5, c6, c7, c8, c9, c10, c11, c12⟩ := id C
    have h9 := hk _ _ _ hh p l0 e R s m args below meth c0 H locs cells slots D γ σ A lsa C hl
    refine va_zald c1 c2 c9 c10 c 2 (arr_at hl1 (by decide) (by decide)) rfl (oI_in h1 h2 hn) hd ?_
    rw [oI_nat h1 ⟨by omega, by omega⟩, Int.toNat_of_nonneg h1]
    exact h9
  · exact hh.elim
def p_iast (K : List KD) (n : Nat) (k : KT) : KT := fun ls st h => match st with
  | .inl x :: .inl i :: .inr (.inr c) :: st => bif akd K c 1 n then (0 ≤ i ∧ i < (n : Int)) ∧ k ls st (hset h c i x) else False
  | _ => False
theorem s_iast {K : List KD} {d : Nat} {M : MI} {pc : Nat} {Q : QT} {k : KT} {n : Nat} (hn : n < 2147483648) (hd : decode M.2.1 pc = .ok (.iastore, 1)) (hk : ∀ ls st h, k ls st h → V K d M (pc + 1) ls st h Q) : ∀ ls st h, p_iast K n k ls st h → V K d M pc ls st h Q := by
  intro ls st h hh
  unfold p_iast at hh
  split at hh
  · rename_i x i c st
    cases hb : akd K c 1 n with
    | false => rw [hb, cond_false] at hh; exact hh.elim
    | true =>
    rw [hb, cond_true] at hh
    obtain ⟨⟨h1, h2⟩, hh⟩ := hh
    obtain ⟨l, hl1⟩ := akd_some hb
    intro p l0 e R s m args below meth c0 H locs cells slots D γ σ A lsa C hl
    obtain ⟨c1, c2, c3, c4, c5, c6, c7, c8, c9, c10, c11, c12⟩ := id C
    refine va_iast c1 c2 c9 c10 c11 c12 c 0 (arr_at hl1 (by decide) (by decide)) rfl (oI_in h1 h2 hn) hd (fun H1 locs1 hP hD hS => ?_)
    rw [oI_nat h1 ⟨by omega, by omega⟩] at hP hD
    rw [wdl_setA hl1 (by decide) (by decide), Int.toNat_of_nonneg h1] at hP hD
    exact hk _ _ _ hh p l0 e R s m args below meth c0 H1 locs1 cells slots D γ σ A lsa ⟨c1, c2, c3, c4, c5, c6, c7, c8, c9, hP, hD, hS⟩ hl
  · exact hh.elim
def p_iastv (K : List KD) (n : Nat) (k : KT) : KT := fun ls st h => match st with
  | .inl x :: .inl i :: .inr (.inr c) :: st => (akd K c 1 n = true ∧ 0 ≤ i ∧ i < (n : Int)) ∧ k ls st (hset h c i x)
  | _ => False
theorem s_iastv {K : List KD} {d : Nat} {M : MI} {pc : Nat} {Q : QT} {k : KT} {n : Nat} (hn : n < 2147483648) (hd : decode M.2.1 pc = .ok (.iastore, 1)) (hk : ∀ ls st h, k ls st h → V K d M (pc + 1) ls st h Q) : ∀ ls st h, p_iastv K n k ls st h → V K d M pc ls st h Q := by
  intro ls st h hh
  unfold p_iastv at hh
  split at hh
  · rename_i x i c st
    obtain ⟨⟨hb, h1, h2⟩, hh⟩ := hh
    obtain ⟨l, hl1⟩ := akd_some hb
    intro p l0 e R s m args below meth c0 H locs cells slots D γ σ A lsa C hl
    obtain ⟨c1, c2, c3, c4, c5, c6, c7, c8, c9, c10, c11, c12⟩ := id C
    refine va_iast c1 c2 c9 c10 c11 c12 c 0 (arr_at hl1 (by decide) (by decide)) rfl (oI_in h1 h2 hn) hd (fun H1 locs1 hP hD hS => ?_)
    rw [oI_nat h1 ⟨by omega, by omega⟩] at hP hD
    rw [wdl_setA hl1 (by decide) (by decide), Int.toNat_of_nonneg h1] at hP hD
    exact hk _ _ _ hh p l0 e R s m args below meth c0 H1 locs1 cells slots D γ σ A lsa ⟨c1, c2, c3, c4, c5, c6, c7, c8, c9, hP, hD, hS⟩ hl
  · exact hh.elim
def p_bast (K : List KD) (n : Nat) (k : KT) : KT := fun ls st h => match st with
  | .inl x :: .inl i :: .inr (.inr c) :: st => bif akd K c 2 n then (0 ≤ i ∧ i < (n : Int) ∧ -128 ≤ x ∧ x ≤ 127) ∧ k ls st (hset h c i x) else False
  | _ => False
theorem s_bast {K : List KD} {d : Nat} {M : MI} {pc : Nat} {Q : QT} {k : KT} {n : Nat} (hn : n < 2147483648) (hd : decode M.2.1 pc = .ok (.bastore, 1)) (hk : ∀ ls st h, k ls st h → V K d M (pc + 1) ls st h Q) : ∀ ls st h, p_bast K n k ls st h → V K d M pc ls st h Q := by
  intro ls st h hh
  unfold p_bast at hh
  split at hh
  · rename_i x i c st
    cases hb : akd K c 2 n with
    | false => rw [hb, cond_false] at hh; exact hh.elim
    | true =>
    rw [hb, cond_true] at hh
    obtain ⟨⟨h1, h2, h3, h4⟩, hh⟩ := hh
    obtain ⟨l, hl1⟩ := akd_some hb
    intro p l0 e R s m args below meth c0 H locs cells slots D γ σ A lsa C hl
    obtain ⟨c1, c2, c3, c4, c5, c6, c7, c8, c9, c10, c11, c12⟩ := id C
    refine va_bast c1 c2 c9 c10 c11 c12 c 1 (arr_at hl1 (by decide) (by decide)) rfl (oI_in h1 h2 hn) hd (fun H1 locs1 hP hD hS => ?_)
    rw [oI_nat h1 ⟨by omega, by omega⟩] at hP hD
    rw [show vp_nar .byte (Int32.ofInt x) = Int32.ofInt x from nar_b h3 h4] at hP hD
    rw [wdl_setA hl1 (by decide) (by decide), Int.toNat_of_nonneg h1] at hP hD
    exact hk _ _ _ hh p l0 e R s m args below meth c0 H1 locs1 cells slots D γ σ A lsa ⟨c1, c2, c3, c4, c5, c6, c7, c8, c9, hP, hD, hS⟩ hl
  · exact hh.elim
def p_bastv (K : List KD) (n : Nat) (k : KT) : KT := fun ls st h => match st with
  | .inl x :: .inl i :: .inr (.inr c) :: st => (akd K c 2 n = true ∧ 0 ≤ i ∧ i < (n : Int) ∧ -128 ≤ x ∧ x ≤ 127) ∧ k ls st (hset h c i x)
  | _ => False
theorem s_bastv {K : List KD} {d : Nat} {M : MI} {pc : Nat} {Q : QT} {k : KT} {n : Nat} (hn : n < 2147483648) (hd : decode M.2.1 pc = .ok (.bastore, 1)) (hk : ∀ ls st h, k ls st h → V K d M (pc + 1) ls st h Q) : ∀ ls st h, p_bastv K n k ls st h → V K d M pc ls st h Q := by
  intro ls st h hh
  unfold p_bastv at hh
  split at hh
  · rename_i x i c st
    obtain ⟨⟨hb, h1, h2, h3, h4⟩, hh⟩ := hh
    obtain ⟨l, hl1⟩ := akd_some hb
    intro p l0 e R s m args below meth c0 H locs cells slots D γ σ A lsa C hl
    obtain ⟨c1, c2, c3, c4, c5, c6, c7, c8, c9, c10, c11, c12⟩ := id C
    refine va_bast c1 c2 c9 c10 c11 c12 c 1 (arr_at hl1 (by decide) (by decide)) rfl (oI_in h1 h2 hn) hd (fun H1 locs1 hP hD hS => ?_)
    rw [oI_nat h1 ⟨by omega, by omega⟩] at hP hD
    rw [show vp_nar .byte (Int32.ofInt x) = Int32.ofInt x from nar_b h3 h4] at hP hD
    rw [wdl_setA hl1 (by decide) (by decide), Int.toNat_of_nonneg h1] at hP hD
    exact hk _ _ _ hh p l0 e R s m args below meth c0 H1 locs1 cells slots D γ σ A lsa ⟨c1, c2, c3, c4, c5, c6, c7, c8, c9, hP, hD, hS⟩ hl
  · exact hh.elim
def p_zast (K : List KD) (n : Nat) (k : KT) : KT := fun ls st h => match st with
  | .inl x :: .inl i :: .inr (.inr c) :: st => bif akd K c 3 n then (0 ≤ i ∧ i < (n : Int) ∧ 0 ≤ x ∧ x ≤ 1) ∧ k ls st (hset h c i x) else False
  | _ => False
theorem s_zast {K : List KD} {d : Nat} {M : MI} {pc : Nat} {Q : QT} {k : KT} {n : Nat} (hn : n < 2147483648) (hd : decode M.2.1 pc = .ok (.bastore, 1)) (hk : ∀ ls st h, k ls st h → V K d M (pc + 1) ls st h Q) : ∀ ls st h, p_zast K n k ls st h → V K d M pc ls st h Q := by
  intro ls st h hh
  unfold p_zast at hh
  split at hh
  · rename_i x i c st
    cases hb : akd K c 3 n with
    | false => rw [hb, cond_false] at hh; exact hh.elim
    | true =>
    rw [hb, cond_true] at hh
    obtain ⟨⟨h1, h2, h3, h4⟩, hh⟩ := hh
    obtain ⟨l, hl1⟩ := akd_some hb
    intro p l0 e R s m args below meth c0 H locs cells slots D γ σ A lsa C hl
    obtain ⟨c1, c2, c3, c4, c5, c6, c7, c8, c9, c10, c11, c12⟩ := id C
    refine va_zast c1 c2 c9 c10 c11 c12 c 2 (arr_at hl1 (by decide) (by decide)) rfl (oI_in h1 h2 hn) hd (fun H1 locs1 hP hD hS => ?_)
    rw [oI_nat h1 ⟨by omega, by omega⟩] at hP hD
    rw [show vp_nar .boolean (Int32.ofInt x) = Int32.ofInt x from nar_z h3 h4] at hP hD
    rw [wdl_setA hl1 (by decide) (by decide), Int.toNat_of_nonneg h1] at hP hD
    exact hk _ _ _ hh p l0 e R s m args below meth c0 H1 locs1 cells slots D γ σ A lsa ⟨c1, c2, c3, c4, c5, c6, c7, c8, c9, hP, hD, hS⟩ hl
  · exact hh.elim
def p_zastv (K : List KD) (n : Nat) (k : KT) : KT := fun ls st h => match st with
  | .inl x :: .inl i :: .inr (.inr c) :: st => (akd K c 3 n = true ∧ 0 ≤ i ∧ i < (n : Int) ∧ 0 ≤ x ∧ x ≤ 1) ∧ k ls st (hset h c i x)
  | _ => False
theorem s_zastv {K : List KD} {d : Nat} {M : MI} {pc : Nat} {Q : QT} {k : KT} {n : Nat} (hn : n < 2147483648) (hd : decode M.2.1 pc = .ok (.bastore, 1)) (hk : ∀ ls st h, k ls st h → V K d M (pc + 1) ls st h Q) : ∀ ls st h, p_zastv K n k ls st h → V K d M pc ls st h Q := by
  intro ls st h hh
  unfold p_zastv at hh
  split at hh
  · rename_i x i c st
    obtain ⟨⟨hb, h1, h2, h3, h4⟩, hh⟩ := hh
    obtain ⟨l, hl1⟩ := akd_some hb
    intro p l0 e R s m args below meth c0 H locs cells slots D γ σ A lsa C hl
    obtain ⟨c1, c2, c3, c4, c5, c6, c7, c8, c9, c10, c11, c12⟩ := id C
    refine va_zast c1 c2 c9 c10 c11 c12 c 2 (arr_at hl1 (by decide) (by decide)) rfl (oI_in h1 h2 hn) hd (fun H1 locs1 hP hD hS => ?_)
    rw [oI_nat h1 ⟨by omega, by omega⟩] at hP hD
    rw [show vp_nar .boolean (Int32.ofInt x) = Int32.ofInt x from nar_z h3 h4] at hP hD
    rw [wdl_setA hl1 (by decide) (by decide), Int.toNat_of_nonneg h1] at hP hD
    exact hk _ _ _ hh p l0 e R s m args below meth c0 H1 locs1 cells slots D γ σ A lsa ⟨c1, c2, c3, c4, c5, c6, c7, c8, c9, hP, hD, hS⟩ hl
  · exact hh.elim
