/-! POURS: codes; pure -/
def pfr (n q c : Nat) : Nat := (c - 1) / q / n
def pto (n q c : Nat) : Nat := (c - 1) / q % n
def pmn (q c : Nat) : Nat := (c - 1) % q + 1
def pcs (n q : Nat) : Nat := 1 + n * n * q
def pok (n q : Nat) (p : Int → Int) (c : Nat) : Bool := decide (c = 0 ∨ (pfr n q c ≠ pto n q c ∧ (pmn q c : Int) ≤ p (pfr n q c : Nat) ∧ p (pto n q c : Nat) + (pmn q c : Nat) ≤ 199))
def prw (n q : Nat) (p : Int → Int) (c : Nat) : Int → Int := if c = 0 then p else udf (udf p (pfr n q c : Nat) (p (pfr n q c : Nat) - (pmn q c : Nat))) (pto n q c : Nat) (p (pto n q c : Nat) + (pmn q c : Nat))
theorem pok_0 {n q : Nat} {p : Int → Int} : pok n q p 0 = true := by unfold pok; exact decide_eq_true (Or.inl rfl)
theorem pok_iff {n q : Nat} {p : Int → Int} {c : Nat} (hc : 0 < c) : pok n q p c = true ↔ (pfr n q c ≠ pto n q c ∧ (pmn q c : Int) ≤ p (pfr n q c : Nat) ∧ p (pto n q c : Nat) + (pmn q c : Nat) ≤ 199) := by
  unfold pok
  rw [decide_eq_true_iff]
  constructor
  · rintro (h | h)
    · omega
    · exact h
  · exact fun h => Or.inr h
theorem pok_no {n q : Nat} {p : Int → Int} {c : Nat} (h : ¬ pok n q p c = true) : pok n q p c = false := by
  cases e : pok n q p c with
  | false => rfl
  | true => exact absurd e h
theorem pmn_in {q c : Nat} (hq : 0 < q) : 1 ≤ pmn q c ∧ pmn q c ≤ q := by
  unfold pmn
  have := Nat.mod_lt (c - 1) hq
  omega
theorem pto_lt {n q c : Nat} (hn : 0 < n) : pto n q c < n := Nat.mod_lt _ hn
theorem pfr_lt {n q c : Nat} (hn : 0 < n) (hq : 0 < q) (hc : c < pcs n q) : pfr n q c < n := by
  unfold pfr
  unfold pcs at hc
  rw [Nat.div_lt_iff_lt_mul hn, Nat.div_lt_iff_lt_mul hq]
  have : 0 < n * n * q := Nat.mul_pos (Nat.mul_pos hn hn) hq
  omega
/-- a code is what it says -/
theorem pcd {n q c : Nat} (hc : 0 < c) : c = 1 + (pfr n q c * n + pto n q c) * q + (pmn q c - 1) := by
  unfold pfr pto pmn
  have h1 := Nat.div_add_mod ((c - 1) / q) n
  have h2 := Nat.div_add_mod (c - 1) q
  have h3 : (c - 1) / q / n * n + (c - 1) / q % n = (c - 1) / q := by rw [Nat.mul_comm]; exact h1
  rw [h3]
  have h4 : (c - 1) / q * q = q * ((c - 1) / q) := Nat.mul_comm _ _
  omega
theorem pcd_of {n q f t m : Nat} (ht : t < n) (hm : m < q) : pfr n q (1 + (f * n + t) * q + m) = f ∧ pto n q (1 + (f * n + t) * q + m) = t ∧ pmn q (1 + (f * n + t) * q + m) = m + 1 := by
  have hn : 0 < n := by omega
  have hq : 0 < q := by omega
  have e0 : 1 + (f * n + t) * q + m - 1 = m + (f * n + t) * q := by omega
  have e1 : (m + (f * n + t) * q) / q = f * n + t := by rw [Nat.add_mul_div_right _ _ hq, Nat.div_eq_of_lt hm]; omega
  have e2 : (m + (f * n + t) * q) % q = m := by rw [Nat.add_mul_mod_self_right, Nat.mod_eq_of_lt hm]
  unfold pfr pto pmn
  rw [e0, e1, e2, Nat.add_comm (f * n) t]
  refine ⟨?_, ?_, rfl⟩
  · rw [Nat.add_mul_div_right _ _ hn, Nat.div_eq_of_lt ht]; omega
  · rw [Nat.add_mul_mod_self_right, Nat.mod_eq_of_lt ht]
/-- the first code of a pair -/
def fcd (n q k : Nat) : Nat := 1 + (k / 8 * n + min (k % 8) n) * q
theorem fcd_in {n q k x : Nat} (hk : k % 8 < n) (h0 : fcd n q k ≤ x) (h1 : x < fcd n q k + q) : pfr n q x = k / 8 ∧ pto n q x = k % 8 ∧ pmn q x = x - fcd n q k + 1 := by
  have e : fcd n q k = 1 + (k / 8 * n + k % 8) * q := by unfold fcd; rw [Nat.min_eq_left (Nat.le_of_lt hk)]
  have := pcd_of (n := n) (q := q) (f := k / 8) (t := k % 8) (m := x - fcd n q k) hk (by omega)
  rw [← e, show fcd n q k + (x - fcd n q k) = x by omega] at this
  exact this
theorem fcd_up {n q k : Nat} (hk : k % 8 < n) (hn : n ≤ 8) : fcd n q (k + 1) = fcd n q k + q := by
  unfold fcd
  rw [Nat.min_eq_left (Nat.le_of_lt hk)]
  have key : (k + 1) / 8 * n + min ((k + 1) % 8) n = k / 8 * n + k % 8 + 1 := by
    by_cases e : k % 8 = 7
    · rw [show (k + 1) / 8 = k / 8 + 1 by omega, show (k + 1) % 8 = 0 by omega, Nat.succ_mul]
      omega
    · rw [show (k + 1) / 8 = k / 8 by omega, show (k + 1) % 8 = k % 8 + 1 by omega]
      omega
  rw [key, Nat.succ_mul]
  omega
theorem fcd_st {n q k : Nat} (hk : n ≤ k % 8) : fcd n q (k + 1) = fcd n q k := by
  unfold fcd
  have key : (k + 1) / 8 * n + min ((k + 1) % 8) n = k / 8 * n + min (k % 8) n := by
    by_cases e : k % 8 = 7
    · rw [show (k + 1) / 8 = k / 8 + 1 by omega, show (k + 1) % 8 = 0 by omega, Nat.succ_mul]
      omega
    · rw [show (k + 1) / 8 = k / 8 by omega, show (k + 1) % 8 = k % 8 + 1 by omega]
      omega
  rw [key]
theorem fcd_end {n q : Nat} : fcd n q (n * 8) = pcs n q := by
  unfold fcd pcs
  rw [show n * 8 / 8 = n by omega, show n * 8 % 8 = 0 by omega, Nat.min_eq_left (by omega), Nat.add_zero]
theorem fcd_cur {n q c : Nat} (hc : 0 < c) (hq : 0 < q) (hn : 0 < n) (hn8 : n ≤ 8) : fcd n q (pfr n q c * 8 + pto n q c) + (pmn q c - 1) = c ∧ (pfr n q c * 8 + pto n q c) % 8 = pto n q c ∧ (pfr n q c * 8 + pto n q c) / 8 = pfr n q c := by
  have h1 := pto_lt (n := n) (q := q) (c := c) hn
  have h2 := pcd (n := n) (q := q) hc
  have e1 : (pfr n q c * 8 + pto n q c) % 8 = pto n q c := by omega
  have e2 : (pfr n q c * 8 + pto n q c) / 8 = pfr n q c := by omega
  refine ⟨?_, e1, e2⟩
  unfold fcd
  rw [e1, e2, Nat.min_eq_left (by omega)]
  exact h2.symm
/-- how many pours are ahead of one, at most -/
def prk (n q c : Nat) : Nat := if c = 0 then 0 else 1 + (pfr n q c * 7 + (if pto n q c < pfr n q c then pto n q c else pto n q c - 1)) * 5 + (pmn q c - 1)
theorem prk_up {n q c c' : Nat} (hn : 0 < n ∧ n ≤ 8) (hq : 0 < q ∧ q ≤ 5) (h : c < c') (hc : c' < pcs n q) (h1 : c = 0 ∨ pfr n q c ≠ pto n q c) (h2 : pfr n q c' ≠ pto n q c') : prk n q c + 1 ≤ prk n q c' := by
  unfold prk
  rw [if_neg (show ¬ c' = 0 by omega)]
  by_cases e : c = 0
  · rw [if_pos e]
    omega
  · rw [if_neg e]
    have h1 : pfr n q c ≠ pto n q c := by rcases h1 with h1 | h1; (exact absurd h1 e); exact h1
    have m1 := pmn_in (q := q) (c := c) hq.1
    have m2 := pmn_in (q := q) (c := c') hq.1
    have t1 := pto_lt (n := n) (q := q) (c := c) hn.1
    have t2 := pto_lt (n := n) (q := q) (c := c') hn.1
    have f2 := pfr_lt hn.1 hq.1 hc
    have d1 : (c - 1) / q ≤ (c' - 1) / q := Nat.div_le_div_right (by omega)
    have d2 : pfr n q c ≤ pfr n q c' := Nat.div_le_div_right d1
    have r1 : (c - 1) / q = pfr n q c * n + pto n q c := by
      unfold pfr pto
      rw [Nat.mul_comm]
      exact (Nat.div_add_mod _ _).symm
    have r2 : (c' - 1) / q = pfr n q c' * n + pto n q c' := by
      unfold pfr pto
      rw [Nat.mul_comm]
      exact (Nat.div_add_mod _ _).symm
    have s1 := pcd (n := n) (q := q) (c := c) (by omega)
    have s2 := pcd (n := n) (q := q) (c := c') (by omega)
    by_cases ef : pfr n q c = pfr n q c'
    · rw [← ef] at r2 s2 h2 ⊢
      have t3 : pto n q c ≤ pto n q c' := by omega
      by_cases et : pto n q c = pto n q c'
      · rw [← et] at s2 h2 ⊢
        omega
      · split <;> split <;> omega
    · split <;> split <;> omega
theorem prk_le {n q c : Nat} (hn : 0 < n ∧ n ≤ 8) (hq : 0 < q ∧ q ≤ 5) (hc : c < pcs n q) (h1 : c = 0 ∨ pfr n q c ≠ pto n q c) : prk n q c ≤ 280 := by
  unfold prk
  split
  · omega
  · rename_i e
    have h1 : pfr n q c ≠ pto n q c := by rcases h1 with h1 | h1; (exact absurd h1 e); exact h1
    have m1 := pmn_in (q := q) (c := c) hq.1
    have t1 := pto_lt (n := n) (q := q) (c := c) hn.1
    have f1 := pfr_lt hn.1 hq.1 hc
    split <;> omega
/-! the least -/
def LTm (b : BB) (r t : Int) (n q : Nat) (p : Int → Int) : Nat → Int
  | 0 => 1000000
  | c + 1 => if pok n q p c = true then min (LTm b r t n q p c) (lossN b r z0 (prw n q p c) t 1) else LTm b r t n q p c
def pvl (b : BB) (r t N : Int) (n q : Nat) (p : Int → Int) (c : Nat) : Int := lossN b r z0 (prw n q p c) t 1 + (if N = 2 then LTm b r (t + 1) n q (ngt b r t z0 (prw n q p c)) (pcs n q) else 0)
def SPr (b : BB) (r t N : Int) (n q : Nat) (p : Int → Int) : Nat → Int × Nat
  | 0 => (1000000, 0)
  | c + 1 => if pok n q p c = true ∧ pvl b r t N n q p c < (SPr b r t N n q p c).1 then (pvl b r t N n q p c, c) else SPr b r t N n q p c
def sPo (l : LV) (N q : Int) : Int × Nat := SPr (qb l) (qr l) (qt l) N (bn (qb l)).toNat q.toNat (qp l) (pcs (bn (qb l)).toNat q.toNat)
def sp_pours (l : LV) (N q w : Int) : Int := if (1 ≤ N ∧ N ≤ 2) ∧ (1 ≤ q ∧ q ≤ 5) ∧ 0 ≤ w ∧ w ≤ 3 then (if w = 0 then (sPo l N q).1 else if (sPo l N q).2 = 0 then -4 else if w = 1 then ((pfr (bn (qb l)).toNat q.toNat (sPo l N q).2 : Nat) : Int) else if w = 2 then ((pto (bn (qb l)).toNat q.toNat (sPo l N q).2 : Nat) : Int) else ((pmn q.toNat (sPo l N q).2 : Nat) : Int)) else -1
theorem prw_ok {n q c : Nat} {p : Int → Int} (hn : 0 < n) (hq : 0 < q) (hp : rowOK n p) (hk : pok n q p c = true) (hc : c < pcs n q) : rowOK n (prw n q p c) := by
  unfold prw
  split
  · exact hp
  · rename_i e
    obtain ⟨h1, h2, h3⟩ := (pok_iff (by omega)).mp hk
    have m1 := pmn_in (q := q) (c := c) hq
    have t1 := pto_lt (n := n) (q := q) (c := c) hn
    have f1 := pfr_lt hn hq hc
    have a1 := hp (pfr n q c : Nat) (by omega) (by omega)
    have a2 := hp (pto n q c : Nat) (by omega) (by omega)
    exact udf_ok (udf_ok hp ⟨by omega, by omega⟩) ⟨by omega, by omega⟩
theorem pok_ag {n q c : Nat} {p p' : Int → Int} (hn : 0 < n) (hq : 0 < q) (hp : eqN n p p') (hc : c < pcs n q) : pok n q p c = pok n q p' c := by
  have t1 := pto_lt (n := n) (q := q) (c := c) hn
  have f1 := pfr_lt hn hq hc
  unfold pok
  rw [hp (pfr n q c : Nat) (by omega) (by omega), hp (pto n q c : Nat) (by omega) (by omega)]
theorem prw_ag {n q c : Nat} {p p' : Int → Int} (hn : 0 < n) (hq : 0 < q) (hp : eqN n p p') (hc : c < pcs n q) : eqN n (prw n q p c) (prw n q p' c) := by
  have t1 := pto_lt (n := n) (q := q) (c := c) hn
  have f1 := pfr_lt hn hq hc
  unfold prw
  split
  · exact hp
  · rw [hp (pfr n q c : Nat) (by omega) (by omega), hp (pto n q c : Nat) (by omega) (by omega)]
    exact udf_ag (udf_ag hp rfl) rfl
theorem LTm_ag {b b' : BB} {r t : Int} {n q : Nat} {p p' : Int → Int} (hb : wfB b) (ha : agB b b') (hn : (n : Int) = bn b) (hq : 0 < q) (hp : eqN n p p') : ∀ c : Nat, c ≤ pcs n q → LTm b r t n q p c = LTm b' r t n q p' c
  | 0, _ => rfl
  | c + 1, hc => by
    have hn0 : 0 < n := by have := hb.1.1; omega
    rw [LTm, LTm, pok_ag hn0 hq hp (by omega), LTm_ag hb ha hn hq hp c (by omega), lossN_ag (ct := z0) (ct' := z0) hb ha (by rw [← hn]; exact prw_ag hn0 hq hp (by omega)) (eqN_rf _ _)]
theorem LTm_in {b : BB} {r t : Int} {n q : Nat} {p : Int → Int} (hb : wfB b) (hn : (n : Int) = bn b) (hq : 0 < q) (hp : rowOK n p) : ∀ c : Nat, c ≤ pcs n q → 0 ≤ LTm b r t n q p c ∧ LTm b r t n q p c ≤ 1000000
  | 0, _ => ⟨by rw [LTm]; omega, by rw [LTm]; omega⟩
  | c + 1, hc => by
    have hn0 : 0 < n := by have := hb.1.1; omega
    have h := LTm_in (r := r) (t := t) hb hn hq hp c (by omega)
    rw [LTm]
    split
    · rename_i hk
      have := lossN_in (r := r) (ct := z0) (t := t) hb (by rw [← hn]; exact prw_ok hn0 hq hp hk (by omega)) 1
      omega
    · exact h
theorem LTm_lt {b : BB} {r t : Int} {n q : Nat} {p : Int → Int} (hb : wfB b) (hn : (n : Int) = bn b) (hq : 0 < q) (hp : rowOK n p) : LTm b r t n q p (pcs n q) ≤ 2400 := by
  have key : ∀ k : Nat, k + 1 ≤ pcs n q → LTm b r t n q p (k + 1) ≤ 2400 := by
    intro k
    induction k with
    | zero =>
      intro _
      have hl := lossN_in (r := r) (ct := z0) (t := t) (p := p) hb (by rw [← hn]; exact hp) 1
      rw [LTm, LTm, if_pos pok_0]
      have : prw n q p 0 = p := by unfold prw; rw [if_pos rfl]
      rw [this]
      omega
    | succ k ih =>
      intro hk
      have := ih (by omega)
      rw [LTm]
      split <;> omega
  have h1 : pcs n q = (pcs n q - 1) + 1 := by unfold pcs; omega
  rw [h1]
  exact key _ (by omega)
theorem LTm_skip {b : BB} {r t : Int} {n q : Nat} {p : Int → Int} {c : Nat} : ∀ k : Nat, (∀ x, c ≤ x → x < c + k → pok n q p x = false) → LTm b r t n q p (c + k) = LTm b r t n q p c
  | 0, _ => rfl
  | k + 1, h => by
    rw [show c + (k + 1) = (c + k) + 1 by omega, LTm, if_neg (by rw [h (c + k) (by omega) (by omega)]; decide)]
    exact LTm_skip k (fun x q0 q1 => h x q0 (by omega))
theorem LTm_dn {b : BB} {r t : Int} {n q : Nat} {p : Int → Int} {c : Nat} : ∀ k : Nat, LTm b r t n q p (c + k) ≤ LTm b r t n q p c
  | 0 => Int.le_refl _
  | k + 1 => by
    have := LTm_dn (b := b) (r := r) (t := t) (n := n) (q := q) (p := p) (c := c) k
    rw [show c + (k + 1) = (c + k) + 1 by omega, LTm]
    split <;> omega
theorem SPr_skip {b : BB} {r t N : Int} {n q : Nat} {p : Int → Int} {c : Nat} : ∀ k : Nat, (∀ x, c ≤ x → x < c + k → pok n q p x = false) → SPr b r t N n q p (c + k) = SPr b r t N n q p c
  | 0, _ => rfl
  | k + 1, h => by
    rw [show c + (k + 1) = (c + k) + 1 by omega, SPr, if_neg (by rw [h (c + k) (by omega) (by omega)]; exact fun z => absurd z.1 (by decide))]
    exact SPr_skip k (fun x q0 q1 => h x q0 (by omega))
theorem pvl_in {b : BB} {r t N : Int} {n q : Nat} {p : Int → Int} {c : Nat} (hb : wfB b) (hn : (n : Int) = bn b) (hq : 0 < q) (hp : rowOK n p) (hk : pok n q p c = true) (hc : c < pcs n q) : 0 ≤ pvl b r t N n q p c ∧ pvl b r t N n q p c ≤ 4800 := by
  have hn0 : 0 < n := by have := hb.1.1; omega
  have h1 := prw_ok hn0 hq hp hk hc
  have h2 := lossN_in (r := r) (ct := z0) (t := t) hb (by rw [← hn]; exact h1) 1
  have h3 := ngt_ok (rats := r) (t := t) (ct := z0) hb (by rw [← hn]; exact h1)
  rw [← hn] at h3
  have h4 := LTm_lt (r := r) (t := t + 1) hb hn hq h3
  have h5 := LTm_in (r := r) (t := t + 1) hb hn hq h3 (pcs n q) (Nat.le_refl _)
  unfold pvl
  split <;> omega
theorem SPr_in {b : BB} {r t N : Int} {n q : Nat} {p : Int → Int} (hb : wfB b) (hn : (n : Int) = bn b) (hq : 0 < q) (hp : rowOK n p) : ∀ c : Nat, c ≤ pcs n q → (0 ≤ (SPr b r t N n q p c).1 ∧ (SPr b r t N n q p c).1 ≤ 1000000) ∧ (0 < c → (SPr b r t N n q p c).1 ≤ 4800) ∧ (SPr b r t N n q p c).2 < pcs n q
  | 0, _ => ⟨⟨by rw [SPr]; omega, by rw [SPr]; omega⟩, fun h => absurd h (by omega), by rw [SPr]; unfold pcs; omega⟩
  | c + 1, hc => by
    have h := SPr_in (r := r) (t := t) (N := N) hb hn hq hp c (by omega)
    rw [SPr]
    split
    · rename_i hk
      have := pvl_in (r := r) (t := t) (N := N) hb hn hq hp hk.1 (by omega)
      exact ⟨⟨this.1, by show pvl b r t N n q p c ≤ 1000000; omega⟩, fun _ => this.2, by show c < pcs n q; omega⟩
    · rename_i hk
      refine ⟨h.1, fun _ => ?_, h.2.2⟩
      by_cases e : 0 < c
      · exact h.2.1 e
      · have e0 : c = 0 := by omega
        subst e0
        have := pvl_in (r := r) (t := t) (N := N) hb hn hq hp pok_0 (by omega)
        exact absurd ⟨pok_0, by rw [SPr]; show _ < (1000000 : Int); omega⟩ hk
theorem SPr_ag {b b' : BB} {r t N : Int} {n q : Nat} {p p' : Int → Int} (hb : wfB b) (ha : agB b b') (hn : (n : Int) = bn b) (hq : 0 < q) (hp : eqN n p p') : ∀ c : Nat, c ≤ pcs n q → SPr b r t N n q p c = SPr b' r t N n q p' c
  | 0, _ => rfl
  | c + 1, hc => by
    have hn0 : 0 < n := by have := hb.1.1; omega
    have e1 := prw_ag hn0 hq hp (c := c) (by omega)
    have e2 : eqN n (ngt b r t z0 (prw n q p c)) (ngt b' r t z0 (prw n q p' c)) := by
      have := ngt_ag (rats := r) (t := t) (ct := z0) (ct' := z0) hb ha (by rw [← hn]; exact e1) (eqN_rf _ _)
      rwa [← hn] at this
    have e3 : pvl b r t N n q p c = pvl b' r t N n q p' c := by
      unfold pvl
      rw [lossN_ag (ct := z0) (ct' := z0) hb ha (by rw [← hn]; exact e1) (eqN_rf _ _), LTm_ag hb ha hn hq e2 _ (Nat.le_refl _)]
    rw [SPr, SPr, SPr_ag hb ha hn hq hp c (by omega), pok_ag hn0 hq hp (by omega), e3]
theorem sp_pours_ag {M : Int} {l l' : LV} (ha : AgV l l') (hw : WV M l') (N q w : Int) : sp_pours l N q w = sp_pours l' N q w := by
  have hb := (AgV_W ha hw).2.2.1
  have hbn := hb.1
  obtain ⟨a1, a2, a3, a4, a5, a6, a7, a8, a9, -⟩ := ha
  unfold sp_pours
  by_cases c : (1 ≤ N ∧ N ≤ 2) ∧ (1 ≤ q ∧ q ≤ 5) ∧ 0 ≤ w ∧ w ≤ 3
  · rw [if_pos c, if_pos c]
    have e : sPo l N q = sPo l' N q := by
      unfold sPo
      rw [← a3.1, ← a4, ← a9]
      exact SPr_ag hb a3 (by omega) (by omega) (by rw [show (((bn (qb l)).toNat : Nat) : Int) = bn (qb l) by omega]; exact a8) _ (Nat.le_refl _)
    rw [e, a3.1]
  · rw [if_neg c, if_neg c]
