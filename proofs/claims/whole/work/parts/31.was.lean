/-! WHAT WAS: codes, digits, what passes -/
def dg (B n c : Nat) (x : Int) : Int := ((c / B ^ (n - 1 - x.toNat) % B : Nat) : Int)
def okN (f g : Int → Int) : Nat → Bool
  | 0 => true
  | k + 1 => okN f g k && decide (f k = g k)
theorem okN_iff {f g : Int → Int} : ∀ k : Nat, okN f g k = true ↔ ∀ i : Nat, i < k → f i = g i
  | 0 => ⟨fun _ i hi => absurd hi (by omega), fun _ => rfl⟩
  | k + 1 => by
    rw [okN, Bool.and_eq_true, okN_iff k, decide_eq_true_eq]
    constructor
    · rintro ⟨h1, h2⟩ i hi
      by_cases e : i = k
      · subst e; exact h2
      · exact h1 i (by omega)
    · intro h
      exact ⟨fun i hi => h i (by omega), h k (by omega)⟩
theorem okN_ag {f f' g g' : Int → Int} {n : Int} (hf : eqN n f f') (hg : eqN n g g') : okN f g n.toNat = okN f' g' n.toNat := by
  rw [Bool.eq_iff_iff, okN_iff, okN_iff]
  constructor
  · intro h i hi
    rw [← hf i (by omega) (by omega), ← hg i (by omega) (by omega)]
    exact h i hi
  · intro h i hi
    rw [hf i (by omega) (by omega), hg i (by omega) (by omega)]
    exact h i hi
def okW (b : BB) (r t : Int) (now : Int → Int) (B c : Nat) : Bool := okN (ngt b r t z0 (dg B (bn b).toNat c)) now (bn b).toNat
def GW (ok : Nat → Bool) : Nat → Int × Option Nat
  | 0 => (0, none)
  | c + 1 => if ok c = true then ((GW ok c).1 + 1, some ((GW ok c).2.getD c)) else GW ok c
theorem GW_skip {ok : Nat → Bool} {a : Nat} : ∀ k : Nat, (∀ x, a ≤ x → x < a + k → ok x = false) → GW ok (a + k) = GW ok a
  | 0, _ => rfl
  | k + 1, h => by
    rw [show a + (k + 1) = (a + k) + 1 by omega, GW, if_neg (by rw [h (a + k) (by omega) (by omega)]; decide)]
    exact GW_skip k (fun x q0 q1 => h x q0 (by omega))
theorem GW_in {ok : Nat → Bool} : ∀ c : Nat, (0 ≤ (GW ok c).1 ∧ (GW ok c).1 ≤ c) ∧ ((GW ok c).1 = 0 ↔ (GW ok c).2 = none)
  | 0 => ⟨⟨by show (0 : Int) ≤ 0; omega, by show (0 : Int) ≤ ((0 : Nat) : Int); omega⟩, ⟨fun _ => rfl, fun _ => rfl⟩⟩
  | c + 1 => by
    have h := GW_in (ok := ok) c
    rw [GW]
    split
    · refine ⟨⟨by show (0 : Int) ≤ _ + 1; omega, by show _ + 1 ≤ ((c + 1 : Nat) : Int); omega⟩, ⟨fun q => ?_, fun q => ?_⟩⟩
      · have q : (GW ok c).1 + 1 = 0 := q
        omega
      · cases q
    · exact ⟨⟨h.1.1, by omega⟩, h.2⟩
theorem GW_keep {ok : Nat → Bool} {a q : Nat} (h : (GW ok a).2 = some q) : ∀ k : Nat, (GW ok (a + k)).2 = some q
  | 0 => h
  | k + 1 => by
    have := GW_keep h k
    rw [show a + (k + 1) = (a + k) + 1 by omega, GW]
    split
    · show some ((GW ok (a + k)).2.getD (a + k)) = _
      rw [this]
      rfl
    · exact this
theorem GW_ag {ok ok' : Nat → Bool} (h : ∀ c, ok c = ok' c) (c : Nat) : GW ok c = GW ok' c := by
  rw [show ok = ok' from funext h]
def hv (B : Nat) (p : Int → Int) : Nat → Nat
  | 0 => 0
  | k + 1 => hv B p k * B + (p k).toNat
theorem hv_ag {B : Nat} {p q : Int → Int} : ∀ k : Nat, (∀ x : Nat, x < k → p x = q x) → hv B p k = hv B q k
  | 0, _ => rfl
  | k + 1, h => by rw [hv, hv, hv_ag k (fun x hx => h x (by omega)), h k (by omega)]
theorem hv_lt {B : Nat} {p : Int → Int} : ∀ k : Nat, (∀ x : Nat, x < k → (p x).toNat < B) → hv B p k < B ^ k
  | 0, _ => by rw [hv]; exact Nat.one_pos
  | k + 1, h => by
    have h1 := hv_lt k (fun x hx => h x (by omega))
    have h2 := h k (by omega)
    rw [hv, Nat.pow_succ]
    calc hv B p k * B + (p k).toNat < hv B p k * B + B := by omega
      _ = (hv B p k + 1) * B := by rw [Nat.add_mul, Nat.one_mul]
      _ ≤ B ^ k * B := Nat.mul_le_mul_right B h1
theorem hv_ge {B : Nat} {p : Int → Int} {k : Nat} : ∀ j : Nat, hv B p k * B ^ j ≤ hv B p (k + j)
  | 0 => by rw [Nat.pow_zero, Nat.mul_one]; exact Nat.le_refl _
  | j + 1 => by
    have h := hv_ge (B := B) (p := p) (k := k) j
    show _ ≤ hv B p (k + j) * B + _
    rw [Nat.pow_succ, ← Nat.mul_assoc]
    have := Nat.mul_le_mul_right B h
    omega
theorem hv_div {B : Nat} {p : Int → Int} {k : Nat} : ∀ j : Nat, (∀ x : Nat, x < k + j → (p x).toNat < B) → hv B p (k + j) / B ^ j = hv B p k
  | 0, _ => by rw [Nat.pow_zero, Nat.div_one]; rfl
  | j + 1, h => by
    have h1 := hv_div (k := k) j (fun x hx => h x (by omega))
    have h2 := h (k + j) (by omega)
    show (hv B p (k + j) * B + (p ((k + j : Nat) : Int)).toNat) / B ^ (j + 1) = _
    rw [Nat.pow_succ, Nat.mul_comm (B ^ j) B, ← Nat.div_div_eq_div_mul, Nat.add_comm, Nat.add_mul_div_right _ _ (by omega), Nat.div_eq_of_lt h2, Nat.zero_add]
    exact h1
theorem hv_dg {B n : Nat} {p : Int → Int} (h : ∀ x : Nat, x < n → 0 ≤ p x ∧ (p x).toNat < B) : eqN n (dg B n (hv B p n)) p := by
  intro x h0 h1
  have hx : x.toNat < n := by omega
  have h2 := hv_div (B := B) (p := p) (k := x.toNat + 1) (n - 1 - x.toNat) (fun y hy => (h y (by omega)).2)
  rw [show x.toNat + 1 + (n - 1 - x.toNat) = n by omega] at h2
  have h3 := h x.toNat hx
  rw [show ((x.toNat : Nat) : Int) = x by omega] at h3
  unfold dg
  rw [h2, hv, Nat.mul_add_mod_self_right, show ((x.toNat : Nat) : Int) = x by omega, Nat.mod_eq_of_lt h3.2]
  omega
theorem hv_max {B : Nat} {p : Int → Int} {k : Nat} : ∀ j : Nat, (∀ x : Nat, k ≤ x → x < k + j → (p x).toNat + 1 = B) → hv B p (k + j) + 1 = (hv B p k + 1) * B ^ j
  | 0, _ => by rw [Nat.pow_zero, Nat.mul_one]; rfl
  | j + 1, h => by
    have h1 := hv_max (k := k) j (fun x q0 q1 => h x q0 (by omega))
    have h2 := h (k + j) (by omega) (by omega)
    show hv B p (k + j) * B + (p ((k + j : Nat) : Int)).toNat + 1 = _
    rw [Nat.pow_succ, ← Nat.mul_assoc, ← h1, Nat.add_mul, Nat.one_mul]
    omega
theorem dg_nn (B n c : Nat) (x : Int) : 0 ≤ dg B n c x := by unfold dg; omega
theorem dg_lt {B n c : Nat} (hB : 0 < B) (x : Int) : dg B n c x < B := by
  unfold dg
  have := Nat.mod_lt (c / B ^ (n - 1 - x.toNat)) hB
  omega
theorem dg_row {B n c : Nat} (hB : 0 < B) (h : B ≤ 21) {k : Int} : rowOK k (dg B n c) := fun x _ _ => by
  have h1 := dg_nn B n c x
  have h2 := dg_lt (n := n) (c := c) hB x
  omega
theorem ok_less {b : BB} {r t : Int} {now : Int → Int} {B c : Nat} (hb : wfB b) {x : Nat} (hx : x < (bn b).toNat) (hl : dg B (bn b).toNat c x < now x) : okW b r t now B c = false := by
  rw [← Bool.not_eq_true]
  intro h
  have h1 := (okN_iff _).mp h x hx
  have h2 := ngt_in (rats := r) (t := t) (ct := z0) (p := dg B (bn b).toNat c) (x := (x : Int)) hb (dg_nn B _ c x)
  omega
theorem GW_tail {b : BB} {r t : Int} {now q : Int → Int} {B : Nat} (hb : wfB b) (hB : 0 < B) {k : Nat} : ∀ j : Nat, k + j = (bn b).toNat → (∀ x : Nat, k ≤ x → x < (bn b).toNat → q x = now x ∧ 0 ≤ now x ∧ (now x).toNat < B) → GW (okW b r t now B) (hv B q (bn b).toNat) = GW (okW b r t now B) (hv B q k * B ^ j) := by
  intro j
  induction j generalizing k with
  | zero =>
    intro hk _
    rw [Nat.pow_zero, Nat.mul_one, ← hk]
    rfl
  | succ j ih =>
    intro hk h
    have h1 := h k (Nat.le_refl _) (by omega)
    rw [ih (k := k + 1) (by omega) (fun x q0 q1 => h x (by omega) q1), hv, Nat.pow_succ, Nat.mul_comm (B ^ j) B, ← Nat.mul_assoc, Nat.add_mul]
    refine GW_skip _ (fun x q0 q1 => ok_less hb (x := k) (by omega) ?_)
    have hp : 0 < B ^ j := Nat.pow_pos hB
    have e1 : hv B q k * B ≤ x / B ^ j := (Nat.le_div_iff_mul_le hp).mpr q0
    have e2 : x / B ^ j < hv B q k * B + (q k).toNat := by
      rw [Nat.div_lt_iff_lt_mul hp, Nat.add_mul]
      exact q1
    have e3 : (x / B ^ j) % B = x / B ^ j - hv B q k * B := by
      have e4 : x / B ^ j = hv B q k * B + (x / B ^ j - hv B q k * B) := by omega
      rw [e4, Nat.mul_add_mod_self_right, Nat.mod_eq_of_lt (by rw [h1.1] at e2; omega)]
      omega
    unfold dg
    rw [show (bn b).toNat - 1 - ((k : Nat) : Int).toNat = j by omega, e3]
    rw [h1.1] at e2
    omega
theorem GW_none {b : BB} {r t : Int} {now : Int → Int} {B : Nat} (hb : wfB b) (hB : 0 < B) {x : Nat} (hx : x < (bn b).toNat) (h : (B : Int) ≤ now x) (c : Nat) : GW (okW b r t now B) c = (0, none) := by
  have := GW_skip (ok := okW b r t now B) (a := 0) c (fun y _ _ => ok_less hb hx (by have := dg_lt (n := (bn b).toNat) (c := y) hB (x : Int); omega))
  rw [Nat.zero_add] at this
  rw [this]
  rfl
abbrev Bm (m : Int) : Nat := (m + 1).toNat
def GA (l : LV) (m t : Int) : Int × Option Nat := GW (okW (qb l) (qr l) t (qp l) (Bm m)) (Bm m ^ (bn (qb l)).toNat)
def sp_was (l : LV) (m t i : Int) : Int := if (0 ≤ m ∧ m ≤ 20) ∧ (0 ≤ t ∧ t ≤ 6) ∧ -1 ≤ i ∧ i < bn (qb l) then (if 4 < bn (qb l) then -2 else if i = -1 then (GA l m t).1 else (match (GA l m t).2 with
  | none => -4
  | some q => dg (Bm m) (bn (qb l)).toNat q i)) else -1
theorem sp_was_ag {N : Int} {l l' : LV} (ha : AgV l l') (hw : WV N l') (m t i : Int) : sp_was l m t i = sp_was l' m t i := by
  have hb := (AgV_W ha hw).2.2.1
  obtain ⟨a1, a2, a3, a4, a5, a6, a7, a8, a9, -⟩ := ha
  have e : GA l m t = GA l' m t := by
    unfold GA
    rw [a3.1, a4]
    refine GW_ag (fun c => ?_) _
    unfold okW
    rw [← a3.1]
    exact okN_ag (ngt_ag (ct := z0) (ct' := z0) hb a3 (eqN_rf _ _) (eqN_rf _ _)) a8
  unfold sp_was
  rw [e, a3.1]
theorem pw_le {m n : Int} (hm : 0 ≤ m ∧ m ≤ 20) (hn : n ≤ 4) : Bm m ^ n.toNat ≤ 194481 := by
  have h1 : Bm m ^ n.toNat ≤ 21 ^ n.toNat := Nat.pow_le_pow_left (by show (m + 1).toNat ≤ 21; omega) _
  have h2 : 21 ^ n.toNat ≤ 21 ^ 4 := Nat.pow_le_pow_right (by omega) (by omega)
  have h3 : 21 ^ 4 = 194481 := by simp
  omega
