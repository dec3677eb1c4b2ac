/-! MAKING: a row of rows -/
abbrev aQ (γ : Nat → ClassId) (N h : Nat) : va_E := .inl (γ 4, N, .inr (.inr (.inr (.inr (fun i => if i < N then some (h + 1 + i) else none)))))
def mL (γ : Nat → ClassId) (N Mm h : Nat) : va_W := (List.range (N + 1)).map (fun i => (h + i, if i = 0 then aQ γ N h else aZ γ 1 Mm))
theorem mL_at {γ : Nat → ClassId} {N Mm h i : Nat} {x : Nat × va_E} (hi : (mL γ N Mm h)[i]? = some x) : i < N + 1 ∧ x = (h + i, if i = 0 then aQ γ N h else aZ γ 1 Mm) := by
  unfold mL at hi
  rw [List.getElem?_map] at hi
  by_cases c : i < N + 1
  · rw [List.getElem?_range c] at hi
    exact ⟨c, (Option.some.inj hi).symm⟩
  · rw [List.getElem?_eq_none (by rw [List.length_range]; omega)] at hi
    cases hi
theorem arrV_cg {c : ClassId} {N : Nat} {f g : Nat → Value} (h : ∀ j, j < N → f j = g j) : arrV c N f = arrV c N g := by
  unfold arrV
  congr 2
  funext j
  exact h j.1 j.2
theorem w96 : Cond.arrayClass .int ∈ tb2 := mem2 96 (by decide +kernel) rfl
theorem g_multi {d kT nT : Nat} {M : MI} {D : va_G} {γ : Nat → ClassId} {A : Nat → Prop} {pc : Nat} {lv : List (Nat × Value)} {st : List Value} {ws : va_W} {k n : Nat} {Pst : va_W → Prop} {ix : Nat} {v w : Int} (N Mm : Nat) (hw : Cond.classLink M.1.cls ix "[[I" ∈ tb2) (hN : (Int32.ofInt v).toNatClampNeg = N) (hM : (Int32.ofInt w).toNatClampNeg = Mm) (h0 : ¬ Int32.ofInt v < 0) (h1 : ¬ Int32.ofInt w < 0) (hN1 : N ≤ 1000) (hM1 : Mm ≤ 1000) (hk : k + (1 + N) ≤ kT) (hn : n + (N + N * Mm) ≤ nT) (hd : decode M.2.1 pc = .ok (.multianewarray ix 2, 4))
    (kk : ∀ h, Gj d kT nT M D γ A (pc + 4) lv (.ref h :: st) (ws ++ mL γ N Mm h) (k + 1 + N) (n + N + N * Mm) Pst) : Gj d kT nT M D γ A pc lv (.int (Int32.ofInt w) :: .int (Int32.ofInt v) :: st) ws k n Pst := by
  intro p l e R s m args below meth c H locs lsa X hP hD hS hl
  obtain ⟨x1, x2, x3, x4, x5, x6, x7, x8, x9, x10, y1, y2, y3, y4⟩ := id X
  refine W_multi x1 x2 x6 (x7 _ hw) ⟨γ 1, γ 4, x9.2.choose, (x9.1.2 0 _ rfl).2, x9.2.choose_spec.1, x9.2.choose_spec.2, (x9.1.2 3 _ rfl).2⟩ (x7 _ w96) hN hM h0 h1 hN1 hM1 (by omega) (by omega) hd (fun H1 locs1 cA cI z1 e1 e2 o1 hAr hNm hNi hlo => ?_)
  have hcA : cA = γ 4 := Option.some.inj (hNm.symm.trans (x9.1.2 3 _ rfl).2)
  have hcI : cI = γ 1 := Option.some.inj (hNi.symm.trans (x9.1.2 0 _ rfl).2)
  subst hcA
  subst hcI
  have hk9 : ∀ (k : Nat) (x : Nat × va_E), ws[k]? = some x → H1[x.1]? = H[x.1]? := fun k x hx => o1 x.1 ((hP k x hx).lt)
  refine kk H.size p l e R s m args below meth c H1 locs1 lsa X ((hP.kept hk9).app (fun j x hx => ?_)) (va_D.app hD ⟨fun i j a b hi hj hab => ?_, fun j x hx => ?_⟩ (fun i j a b ha hb hab => ?_)) ⟨Nat.le_trans hS.1 (by omega), fun x h1 h2 => (o1 x (Nat.lt_of_lt_of_le h1 hS.1)).trans (hS.2.1 x h1 h2), fun x hx => ?_⟩ hl
  · obtain ⟨hj, rfl⟩ := mL_at hx
    by_cases c0 : j = 0
    · rw [if_pos c0, c0]
      show H1[H.size]? = some (vp_cell _ _)
      rw [e1, vp_cell_q]
      refine congrArg some (arrV_cg (fun i hi => ?_))
      rw [if_pos hi]
      rfl
    · rw [if_neg c0]
      show H1[H.size + j]? = some (vp_cell _ _)
      have := e2 (j - 1) (by omega)
      rw [show H.size + 1 + (j - 1) = H.size + j by omega] at this
      rw [this]
      rfl
  · obtain ⟨_, rfl⟩ := mL_at hi
    obtain ⟨_, rfl⟩ := mL_at hj
    have hab : H.size + i = H.size + j := hab
    omega
  · obtain ⟨_, rfl⟩ := mL_at hx
    exact x10 _ (by show s.heap.size ≤ H.size + j; have := hS.1; omega)
  · obtain ⟨_, rfl⟩ := mL_at hb
    have h1 := (hP i a ha).lt
    have hab : a.1 = H.size + j := hab
    omega
  · rcases hlo x hx with q | q
    · exact hS.2.2 x q
    · rw [q]; exact x10 _ hS.1
