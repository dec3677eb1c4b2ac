/-! ORDERS: the rank of a row -/
def ltc (p : Int → Int) (v a : Int) (n : Nat) : Int := Sm (fun x => if a ≤ x ∧ p x < v then 1 else 0) n
theorem ltc_swp {n : Nat} {p : Int → Int} {v a i j : Int} (hi : a ≤ i ∧ 0 ≤ i ∧ i < n) (hj : a ≤ j ∧ 0 ≤ j ∧ j < n) : ltc (swp p i j) v a n = ltc p v a n := by
  by_cases e : i = j
  · rw [e, swp_id]
  · have s1 := Sm_upd (f := fun x => if a ≤ x ∧ swp p i j x < v then (1 : Int) else 0) (g := fun x => if a ≤ x ∧ udf p j (p i) x < v then (1 : Int) else 0) (j := i.toNat) n (by omega) (fun x hx hne => by
      have hxi : (x : Int) ≠ i := by omega
      unfold swp udf
      by_cases e2 : (x : Int) = j
      · rw [if_pos e2, if_pos e2]
      · rw [if_neg e2, if_neg e2, if_neg hxi])
    have s2 := Sm_upd (f := fun x => if a ≤ x ∧ udf p j (p i) x < v then (1 : Int) else 0) (g := fun x => if a ≤ x ∧ p x < v then (1 : Int) else 0) (j := j.toNat) n (by omega) (fun x hx hne => by
      have hxj : (x : Int) ≠ j := by omega
      unfold udf
      rw [if_neg hxj])
    have f1 : swp p i j i = p j := by unfold swp; rw [if_neg e, if_pos rfl]
    have f2 : udf p j (p i) i = p i := by unfold udf; rw [if_neg e]
    have f3 : udf p j (p i) j = p i := by unfold udf; rw [if_pos rfl]
    rw [show ((i.toNat : Nat) : Int) = i by omega, f1, f2] at s1
    rw [show ((j.toNat : Nat) : Int) = j by omega, f3] at s2
    have g1 : (if a ≤ i ∧ p j < v then (1 : Int) else 0) = if a ≤ j ∧ p j < v then 1 else 0 := by
      by_cases c : p j < v
      · rw [if_pos ⟨hi.1, c⟩, if_pos ⟨hj.1, c⟩]
      · rw [if_neg (fun z => c z.2), if_neg (fun z => c z.2)]
    have g2 : (if a ≤ i ∧ p i < v then (1 : Int) else 0) = if a ≤ j ∧ p i < v then 1 else 0 := by
      by_cases c : p i < v
      · rw [if_pos ⟨hi.1, c⟩, if_pos ⟨hj.1, c⟩]
      · rw [if_neg (fun z => c z.2), if_neg (fun z => c z.2)]
    unfold ltc
    omega
theorem ltc_rvs {n : Nat} {v a : Int} : ∀ (f : Nat) (p : Int → Int) (x y : Int), a ≤ x → 0 ≤ x → y < n → ltc (rvs f p x y) v a n = ltc p v a n
  | 0, _, _, _, _, _, _ => rfl
  | f + 1, p, x, y, h0, h1, h2 => by
    rw [rvs]
    split
    · rw [ltc_rvs f _ _ _ (by omega) (by omega) (by omega), ltc_swp ⟨by omega, by omega, by omega⟩ ⟨by omega, by omega, by omega⟩]
    · rfl
theorem rvs_low {z : Int} : ∀ (f : Nat) (p : Int → Int) (x y : Int), z < x → rvs f p x y z = p z
  | 0, _, _, _, _ => rfl
  | f + 1, p, x, y, h => by
    rw [rvs]
    split
    · rw [rvs_low f _ _ _ (by omega)]
      unfold swp
      rw [if_neg (by omega), if_neg (by omega)]
    · rfl
theorem ltc_nn {p : Int → Int} {v a : Int} (n : Nat) : 0 ≤ ltc p v a n := Sm_nn n (fun i _ => by split <;> omega)
