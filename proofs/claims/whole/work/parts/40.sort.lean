/-! ORDERS: sorted rows -/
def cnt (p : Int → Int) (v : Int) (n : Nat) : Int := Sm (fun x => if p x = v then 1 else 0) n
def srt (n : Int) (p : Int → Int) : Prop := ∀ x, 0 ≤ x → x + 1 < n → p x ≤ p (x + 1)
def prm (n : Int) (p q : Int → Int) : Prop := ∀ v, cnt p v n.toNat = cnt q v n.toNat
theorem prm_rf (n : Int) (p : Int → Int) : prm n p p := fun _ => rfl
theorem prm_tr {n : Int} {p q r : Int → Int} (h : prm n p q) (g : prm n q r) : prm n p r := fun v => (h v).trans (g v)
theorem prm_sy {n : Int} {p q : Int → Int} (h : prm n p q) : prm n q p := fun v => (h v).symm
theorem prm_eq {n : Int} {p q : Int → Int} (h : eqN n p q) : prm n p q := fun v => Sm_congr _ (fun i hi => by rw [h i (by omega) (by omega)])
theorem swp_prm {n : Int} {p : Int → Int} {i j : Int} (hi : 0 ≤ i ∧ i < n) (hj : 0 ≤ j ∧ j < n) : prm n (swp p i j) p := by
  intro v
  by_cases e : i = j
  · rw [e, swp_id]
  · have s1 := Sm_upd (f := fun x => if swp p i j x = v then (1 : Int) else 0) (g := fun x => if udf p j (p i) x = v then (1 : Int) else 0) (j := i.toNat) n.toNat (by omega) (fun x hx hne => by
      have hxi : (x : Int) ≠ i := by omega
      unfold swp udf
      by_cases e2 : (x : Int) = j
      · rw [if_pos e2, if_pos e2]
      · rw [if_neg e2, if_neg e2, if_neg hxi])
    have s2 := Sm_upd (f := fun x => if udf p j (p i) x = v then (1 : Int) else 0) (g := fun x => if p x = v then (1 : Int) else 0) (j := j.toNat) n.toNat (by omega) (fun x hx hne => by
      have hxj : (x : Int) ≠ j := by omega
      unfold udf
      rw [if_neg hxj])
    have f1 : swp p i j i = p j := by unfold swp; rw [if_neg e, if_pos rfl]
    have f2 : udf p j (p i) i = p i := by unfold udf; rw [if_neg e]
    have f3 : udf p j (p i) j = p i := by unfold udf; rw [if_pos rfl]
    rw [show ((i.toNat : Nat) : Int) = i by omega] at s1
    rw [show ((j.toNat : Nat) : Int) = j by omega] at s2
    rw [f1, f2] at s1
    rw [f3] at s2
    unfold cnt
    omega
theorem srt_le {n : Int} {p : Int → Int} (h : srt n p) {x : Int} (h0 : 0 ≤ x) : ∀ k : Nat, x + k < n → p x ≤ p (x + k)
  | 0, _ => by rw [show x + ((0 : Nat) : Int) = x by omega]; exact Int.le_refl _
  | k + 1, hk => by
    have h1 := srt_le h h0 k (by omega)
    have h2 := h (x + k) (by omega) (by omega)
    rw [show x + ((k + 1 : Nat) : Int) = x + k + 1 by omega]
    omega
theorem cnt_nn {p : Int → Int} {v : Int} (n : Nat) : 0 ≤ cnt p v n := Sm_nn n (fun i _ => by split <;> omega)
theorem cnt_0 {p : Int → Int} {v : Int} : ∀ n : Nat, (∀ i : Nat, i < n → p i ≠ v) → cnt p v n = 0
  | 0, _ => rfl
  | n + 1, h => by
    have h1 := cnt_0 n (fun i hi => h i (by omega))
    unfold cnt at h1 ⊢
    rw [Sm, h1, if_neg (h n (by omega))]
    rfl
theorem srt_one : ∀ (n : Nat) (p q : Int → Int), srt n p → srt n q → (∀ v, cnt p v n = cnt q v n) → eqN n p q
  | 0, _, _, _, _, _ => fun x h0 h1 => absurd h1 (by omega)
  | n + 1, p, q, hp, hq, hc => by
    have top : ∀ a b : Int → Int, srt ((n + 1 : Nat) : Int) b → (∀ v, cnt a v (n + 1) = cnt b v (n + 1)) → a n ≤ b n := fun a b hb hab => by
      by_cases e : a n ≤ b n
      · exact e
      · have h1 := cnt_0 (p := b) (v := a n) (n + 1) (fun i hi z => by
          have h2 := srt_le hb (x := i) (by omega) (n - i) (by omega)
          rw [show (i : Int) + ((n - i : Nat) : Int) = n by omega] at h2
          omega)
        have h2 := hab (a n)
        rw [h1] at h2
        have h3 := cnt_nn (p := a) (v := a n) n
        unfold cnt at h2 h3
        rw [Sm, if_pos rfl] at h2
        omega
    have e1 := top p q hq hc
    have e2 := top q p hp (fun v => (hc v).symm)
    have e3 : p n = q n := by omega
    have ih := srt_one n p q (fun x h0 h1 => hp x h0 (by omega)) (fun x h0 h1 => hq x h0 (by omega)) (fun v => by
      have h2 := hc v
      unfold cnt at h2 ⊢
      rw [Sm, Sm, e3] at h2
      omega)
    intro x h0 h1
    by_cases e : x = n
    · rw [e]; exact e3
    · exact ih x h0 (by omega)
