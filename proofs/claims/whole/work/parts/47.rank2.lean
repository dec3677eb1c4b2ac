/-! ORDERS: the rank rises -/
def fct : Nat → Int
  | 0 => 1
  | m + 1 => ((m : Int) + 1) * fct m
theorem fct_pos : ∀ m : Nat, 1 ≤ fct m
  | 0 => by rw [fct]; omega
  | m + 1 => by
    have h := fct_pos m
    rw [fct, Int.add_mul, Int.one_mul]
    have : 0 ≤ (m : Int) * fct m := Int.mul_nonneg (by omega) (by omega)
    omega
theorem ltc_le {p : Int → Int} {v a : Int} : ∀ n : Nat, ltc p v a n ≤ 0 ∨ ltc p v a n ≤ n - a
  | 0 => Or.inl (by unfold ltc; rw [Sm]; omega)
  | n + 1 => by
    have h := ltc_le (p := p) (v := v) (a := a) n
    unfold ltc at h ⊢
    rw [Sm]
    split
    · rename_i c
      omega
    · omega
def RS (p : Int → Int) (n : Nat) : Nat → Int
  | 0 => 0
  | m + 1 => ltc p (p ((n : Int) - 1 - m)) ((n : Int) - m) n * fct m + RS p n m
theorem RS_in {p : Int → Int} {n : Nat} : ∀ m : Nat, m ≤ n → 0 ≤ RS p n m ∧ RS p n m + 1 ≤ fct m
  | 0, _ => ⟨by rw [RS]; omega, by rw [RS, fct]; omega⟩
  | m + 1, hm => by
    have h := RS_in (p := p) (n := n) m (by omega)
    have h1 := ltc_nn (p := p) (v := p ((n : Int) - 1 - m)) (a := (n : Int) - m) n
    have h2 := ltc_le (p := p) (v := p ((n : Int) - 1 - m)) (a := (n : Int) - m) n
    have h3 := fct_pos m
    have h4 : 0 ≤ ltc p (p ((n : Int) - 1 - m)) ((n : Int) - m) n * fct m := Int.mul_nonneg h1 (by omega)
    have h5 : ltc p (p ((n : Int) - 1 - m)) ((n : Int) - m) n * fct m ≤ (m : Int) * fct m := Int.mul_le_mul_of_nonneg_right (by omega) (by omega)
    rw [RS, fct, Int.add_mul, Int.one_mul]
    omega
theorem fj_gt {p : Int → Int} {v k1 : Int} (h : v < p k1) : ∀ e : Nat, v < p (fj p v k1 e)
  | 0 => by rw [fj]; exact h
  | e + 1 => by
    rw [fj]
    split
    · rename_i c
      exact c
    · exact fj_gt h e
theorem ltc_up {p : Int → Int} {v w a : Int} (h : v ≤ w) (n : Nat) : ltc p v a n ≤ ltc p w a n := Sm_le n (fun i _ => by
  by_cases c : a ≤ (i : Int) ∧ p i < v
  · rw [if_pos c, if_pos ⟨c.1, by omega⟩]
    omega
  · rw [if_neg c]
    split <;> omega)
theorem ltc_one {p : Int → Int} {k j : Int} {n : Nat} (hk : 0 ≤ k) (hkj : k < j) (hj : j < n) (h : p k < p j) : ltc (swp p k j) (p j) (k + 1) n = ltc p (p j) (k + 1) n + 1 := by
  have s := Sm_upd (f := fun x => if k + 1 ≤ x ∧ swp p k j x < p j then (1 : Int) else 0) (g := fun x => if k + 1 ≤ x ∧ p x < p j then (1 : Int) else 0) (j := j.toNat) n (by omega) (fun x hx hne => by
    have hxj : (x : Int) ≠ j := by omega
    by_cases c : k + 1 ≤ (x : Int)
    · have hxk : (x : Int) ≠ k := by omega
      have e9 : swp p k j x = p x := by unfold swp; rw [if_neg hxj, if_neg hxk]
      rw [e9]
    · rw [if_neg (fun z => c z.1), if_neg (fun z => c z.1)])
  have f1 : swp p k j j = p k := by unfold swp; rw [if_pos rfl]
  rw [show ((j.toNat : Nat) : Int) = j by omega, f1, if_pos ⟨by omega, h⟩, if_neg (fun z => absurd z.2 (by omega))] at s
  unfold ltc
  omega
theorem NX_rank {n : Nat} {p q : Int → Int} (hn : 1 ≤ n) (h : NX n p = some q) : RS p n n + 1 ≤ RS q n n := by
  unfold NX at h
  have h1 := fk_in (p := p) ((n : Int) - 1).toNat
  split at h
  · cases h
  · rename_i hk
    have hlt := h1.2.2 (by omega)
    have h2 := fj_in (p := p) (v := p (fk p ((n : Int) - 1).toNat)) (k1 := fk p ((n : Int) - 1).toNat + 1) ((n : Int) - 2 - fk p ((n : Int) - 1).toNat).toNat
    have h3 := fj_gt (p := p) (v := p (fk p ((n : Int) - 1).toNat)) (k1 := fk p ((n : Int) - 1).toNat + 1) hlt ((n : Int) - 2 - fk p ((n : Int) - 1).toNat).toNat
    have hq := Option.some.inj h
    generalize fj p (p (fk p ((n : Int) - 1).toNat)) (fk p ((n : Int) - 1).toNat + 1) ((n : Int) - 2 - fk p ((n : Int) - 1).toNat).toNat = j at h2 h3 hq
    generalize fk p ((n : Int) - 1).toNat = k at h1 hk h2 h3 hq
    have low : ∀ z, z < k → q z = p z := fun z hz => by
      rw [← hq, rvs_low 8 _ _ _ (by omega)]
      unfold swp
      rw [if_neg (by omega), if_neg (by omega)]
    have atk : q k = p j := by
      rw [← hq, rvs_low 8 _ _ _ (by omega)]
      unfold swp
      rw [if_neg (by omega), if_pos rfl]
    have key : ∀ e : Nat, (n : Int) - k + e ≤ n → RS p n (((n : Int) - k).toNat + e) + 1 ≤ RS q n (((n : Int) - k).toNat + e) := by
      intro e
      induction e with
      | zero =>
        intro he
        have em : ((n : Int) - k).toNat + 0 = ((n : Int) - 1 - k).toNat + 1 := by omega
        rw [em, RS, RS, show (n : Int) - 1 - (((n : Int) - 1 - k).toNat : Nat) = k by omega, show (n : Int) - (((n : Int) - 1 - k).toNat : Nat) = k + 1 by omega]
        have b1 := RS_in (p := p) (n := n) ((n : Int) - 1 - k).toNat (by omega)
        have b2 := RS_in (p := q) (n := n) ((n : Int) - 1 - k).toNat (by omega)
        have c1 : ltc q (q k) (k + 1) n = ltc p (p j) (k + 1) n + 1 := by
          rw [atk, ← hq, ltc_rvs 8 _ _ _ (by omega) (by omega) (by omega)]
          exact ltc_one (by omega) (by omega) (by omega) h3
        have c2 := ltc_up (p := p) (a := k + 1) (Int.le_of_lt h3) n
        have c3 : (ltc p (p k) (k + 1) n + 1) * fct ((n : Int) - 1 - k).toNat ≤ ltc q (q k) (k + 1) n * fct ((n : Int) - 1 - k).toNat := Int.mul_le_mul_of_nonneg_right (by omega) (by omega)
        rw [Int.add_mul, Int.one_mul] at c3
        omega
      | succ e ih =>
        intro he
        have i1 := ih (by omega)
        rw [show ((n : Int) - k).toNat + (e + 1) = (((n : Int) - k).toNat + e) + 1 by omega, RS, RS, low _ (by omega)]
        have c1 : ltc q (p ((n : Int) - 1 - (((n : Int) - k).toNat + e : Nat))) ((n : Int) - (((n : Int) - k).toNat + e : Nat)) n = ltc p (p ((n : Int) - 1 - (((n : Int) - k).toNat + e : Nat))) ((n : Int) - (((n : Int) - k).toNat + e : Nat)) n := by
          rw [← hq, ltc_rvs 8 _ _ _ (by omega) (by omega) (by omega), ltc_swp ⟨by omega, by omega, by omega⟩ ⟨by omega, by omega, by omega⟩]
        rw [c1]
        omega
    have := key k.toNat (by omega)
    rwa [show ((n : Int) - k).toNat + k.toNat = n by omega] at this
