/-! PURE: sums, what rats take, a night, nights -/
def Sm (f : Int → Int) : Nat → Int
  | 0 => 0
  | k + 1 => Sm f k + f k
theorem Sm_congr {f g : Int → Int} : ∀ n : Nat, (∀ i : Nat, i < n → f i = g i) → Sm f n = Sm g n
  | 0, _ => rfl
  | n + 1, h => by
    rw [Sm, Sm, Sm_congr n (fun i hi => h i (by omega)), h n (by omega)]
theorem Sm_le {f g : Int → Int} : ∀ n : Nat, (∀ i : Nat, i < n → f i ≤ g i) → Sm f n ≤ Sm g n
  | 0, _ => Int.le_refl _
  | n + 1, h => by
    have h1 := Sm_le n (fun i hi => h i (by omega))
    have h2 := h n (by omega)
    rw [Sm, Sm]
    omega
theorem Sm_nn {f : Int → Int} : ∀ n : Nat, (∀ i : Nat, i < n → 0 ≤ f i) → 0 ≤ Sm f n
  | 0, _ => Int.le_refl _
  | n + 1, h => by
    have h1 := Sm_nn n (fun i hi => h i (by omega))
    have h2 := h n (by omega)
    rw [Sm]
    omega
theorem Sm_bd {f : Int → Int} {M : Int} : ∀ n : Nat, (∀ i : Nat, i < n → f i ≤ M) → Sm f n ≤ n * M
  | 0, _ => by simp [Sm]
  | n + 1, h => by
    have h1 := Sm_bd n (fun i hi => h i (by omega))
    have h2 := h n (by omega)
    have h3 : ((n + 1 : Nat) : Int) * M = n * M + M := by rw [Int.natCast_succ, Int.add_mul]; omega
    rw [Sm, h3]
    omega
theorem Sm_upd {f g : Int → Int} {j : Nat} : ∀ n : Nat, j < n → (∀ i : Nat, i < n → i ≠ j → f i = g i) → Sm f n = Sm g n + (f j - g j)
  | 0, hj, _ => by omega
  | n + 1, hj, h => by
    rw [Sm, Sm]
    by_cases e : j = n
    · subst e
      rw [Sm_congr j (fun i hi => h i (by omega) (by omega))]
      omega
    · rw [Sm_upd n (by omega) (fun i hi hne => h i (by omega) hne), h n (by omega) (by omega)]
      omega
theorem Sm_eq0 {f g : Int → Int} : ∀ n : Nat, (∀ i : Nat, i < n → f i ≤ g i) → Sm f n = Sm g n → ∀ i : Nat, i < n → f i = g i
  | 0, _, _, i, hi => by omega
  | n + 1, h, e, i, hi => by
    have h1 := Sm_le n (fun i hi => h i (by omega))
    have h2 := h n (by omega)
    rw [Sm, Sm] at e
    by_cases hin : i = n
    · subst hin; omega
    · exact Sm_eq0 n (fun i hi => h i (by omega)) (by omega) i (by omega)
/-- a barn: bins, gaps, V; a gap's low and high bin, its wall; a bin's owner -/
abbrev BB : Type := Int × Int × Int × (Int → Int) × (Int → Int) × (Int → Int) × (Int → Int)
abbrev bn (b : BB) : Int := b.1
abbrev bG (b : BB) : Int := b.2.1
abbrev bV (b : BB) : Int := b.2.2.1
abbrev blo (b : BB) : Int → Int := b.2.2.2.1
abbrev bhi (b : BB) : Int → Int := b.2.2.2.2.1
abbrev bwl (b : BB) : Int → Int := b.2.2.2.2.2.1
abbrev bow (b : BB) : Int → Int := b.2.2.2.2.2.2
def wfB (b : BB) : Prop := (1 ≤ bn b ∧ bn b ≤ 8) ∧ (0 ≤ bG b ∧ bG b ≤ 10) ∧ (0 ≤ bV b ∧ bV b ≤ 30) ∧
  (∀ k, 0 ≤ k → k < bG b → (0 ≤ blo b k ∧ blo b k < bhi b k ∧ bhi b k < bn b) ∧ (bwl b k = 0 ∨ bwl b k = 1)) ∧ (∀ x, 0 ≤ x → x < bn b → bow b x = 0 ∨ bow b x = 1)
def rowOK (n : Int) (p : Int → Int) : Prop := ∀ x, 0 ≤ x → x < n → 0 ≤ p x ∧ p x ≤ 300
def eqN (n : Int) (p q : Int → Int) : Prop := ∀ x, 0 ≤ x → x < n → p x = q x
def eatD (rats v t d : Int) : Int := if rats = 0 then d else if rats = 1 then d / 2 else if rats = 2 then (if v < d then d - v else 0) else if t % 7 = v % 7 then d else d / 3
theorem eatD_in {rats v t d : Int} (hd : 0 ≤ d) (hv : 0 ≤ v) : 0 ≤ eatD rats v t d ∧ eatD rats v t d ≤ d := by
  unfold eatD
  split
  · omega
  · split
    · omega
    · split
      · split <;> omega
      · split <;> omega
def iabs (x : Int) : Int := if x < 0 then -x else x
def gdf (b : BB) (p : Int → Int) (k : Int) : Int := p (blo b k) - p (bhi b k)
def gtk (b : BB) (rats t : Int) (ct : Int → Int) (p : Int → Int) (k : Int) : Int := if bwl b k = 1 ∨ ct k = 1 then 0 else eatD rats (bV b) t (iabs (gdf b p k))
def gfr (b : BB) (p : Int → Int) (k : Int) : Int := if 0 < gdf b p k then blo b k else bhi b k
/-- what is wanted of bin x by the first k gaps -/
def wnt (b : BB) (rats t : Int) (ct : Int → Int) (p : Int → Int) (x : Int) : Nat → Int
  | 0 => 0
  | k + 1 => wnt b rats t ct p x k + (if gfr b p k = x then gtk b rats t ct p k else 0)
def ngt (b : BB) (rats t : Int) (ct : Int → Int) (p : Int → Int) : Int → Int := fun x => p x - min (p x) (wnt b rats t ct p x (bG b).toNat)
/-- the row behind k nights from t on -/
def NN (b : BB) (rats : Int) (ct : Int → Int) (p : Int → Int) (t : Int) : Nat → Int → Int
  | 0 => p
  | k + 1 => ngt b rats (t + k) ct (NN b rats ct p t k)
def tot (b : BB) (p : Int → Int) : Int := Sm p (bn b).toNat
def totO (b : BB) (o : Int) (p : Int → Int) : Int := Sm (fun x => if bow b x = o then p x else 0) (bn b).toNat
theorem gtk_in {b : BB} {rats t : Int} {ct p : Int → Int} {k : Int} (hb : wfB b) : 0 ≤ gtk b rats t ct p k ∧ gtk b rats t ct p k ≤ iabs (gdf b p k) := by
  have h0 : 0 ≤ iabs (gdf b p k) := by unfold iabs; split <;> omega
  unfold gtk
  split
  · exact ⟨by omega, h0⟩
  · exact eatD_in h0 hb.2.2.1.1
theorem wnt_nn {b : BB} {rats t : Int} {ct p : Int → Int} {x : Int} (hb : wfB b) : ∀ k : Nat, 0 ≤ wnt b rats t ct p x k
  | 0 => Int.le_refl _
  | k + 1 => by
    have h1 := wnt_nn (rats := rats) (t := t) (ct := ct) (p := p) (x := x) hb k
    have h2 := (gtk_in (rats := rats) (t := t) (ct := ct) (p := p) (k := k) hb).1
    rw [wnt]
    split <;> omega
theorem ngt_in {b : BB} {rats t : Int} {ct p : Int → Int} {x : Int} (hb : wfB b) (h0 : 0 ≤ p x) : 0 ≤ ngt b rats t ct p x ∧ ngt b rats t ct p x ≤ p x := by
  have h1 := wnt_nn (rats := rats) (t := t) (ct := ct) (p := p) (x := x) hb (bG b).toNat
  unfold ngt
  omega
theorem ngt_ok {b : BB} {rats t : Int} {ct p : Int → Int} (hb : wfB b) (h : rowOK (bn b) p) : rowOK (bn b) (ngt b rats t ct p) := fun x h0 h1 => by
  have h2 := h x h0 h1
  have h3 := ngt_in (rats := rats) (t := t) (ct := ct) (p := p) (x := x) hb h2.1
  omega
theorem NN_ok {b : BB} {rats t : Int} {ct p : Int → Int} (hb : wfB b) (h : rowOK (bn b) p) : ∀ k : Nat, rowOK (bn b) (NN b rats ct p t k)
  | 0 => h
  | k + 1 => ngt_ok hb (NN_ok hb h k)
/-- two barns are alike, two rows, two sets of cats -/
def agB (b b' : BB) : Prop := bn b = bn b' ∧ bG b = bG b' ∧ bV b = bV b' ∧ (∀ k, 0 ≤ k → k < bG b → blo b k = blo b' k ∧ bhi b k = bhi b' k ∧ bwl b k = bwl b' k) ∧ (∀ x, 0 ≤ x → x < bn b → bow b x = bow b' x)
theorem wnt_ag {b b' : BB} {rats t : Int} {ct ct' p p' : Int → Int} {x : Int} (hb : wfB b) (ha : agB b b') (hp : eqN (bn b) p p') (hc : eqN (bG b) ct ct') : ∀ k : Nat, (k : Int) ≤ bG b → wnt b rats t ct p x k = wnt b' rats t ct' p' x k
  | 0, _ => rfl
  | k + 1, hk => by
    obtain ⟨a1, a2, a3, a4, a5⟩ := ha
    have hk' : (k : Int) < bG b := by omega
    obtain ⟨q1, q2, q3⟩ := a4 k (by omega) hk'
    obtain ⟨⟨z1, z2, z3⟩, z4⟩ := hb.2.2.2.1 k (by omega) hk'
    have e1 : gdf b p k = gdf b' p' k := by
      unfold gdf
      rw [← q1, ← q2, hp _ z1 (by omega), hp _ (by omega) z3]
    have e2 : gfr b p k = gfr b' p' k := by unfold gfr; rw [e1, q1, q2]
    have e3 : gtk b rats t ct p k = gtk b' rats t ct' p' k := by unfold gtk; rw [e1, q3, a3, hc k (by omega) hk']
    rw [wnt, wnt, wnt_ag hb ⟨a1, a2, a3, a4, a5⟩ hp hc k (by omega), e2, e3]
theorem ngt_ag {b b' : BB} {rats t : Int} {ct ct' p p' : Int → Int} (hb : wfB b) (ha : agB b b') (hp : eqN (bn b) p p') (hc : eqN (bG b) ct ct') : eqN (bn b) (ngt b rats t ct p) (ngt b' rats t ct' p') := fun x h0 h1 => by
  have hG := hb.2.1.1
  unfold ngt
  rw [hp x h0 h1, wnt_ag hb ha hp hc (bG b).toNat (by omega), ha.2.1]
theorem NN_ag {b b' : BB} {rats t : Int} {ct ct' p p' : Int → Int} (hb : wfB b) (ha : agB b b') (hp : eqN (bn b) p p') (hc : eqN (bG b) ct ct') : ∀ k : Nat, eqN (bn b) (NN b rats ct p t k) (NN b' rats ct' p' t k)
  | 0 => hp
  | k + 1 => ngt_ag hb ha (NN_ag hb ha hp hc k) hc
theorem tot_ag {b b' : BB} {p p' : Int → Int} (ha : agB b b') (hp : eqN (bn b) p p') : tot b p = tot b' p' := by
  unfold tot
  rw [← ha.1]
  exact Sm_congr _ (fun i hi => hp i (by omega) (by omega))
theorem totO_ag {b b' : BB} {o : Int} {p p' : Int → Int} (ha : agB b b') (hp : eqN (bn b) p p') : totO b o p = totO b' o p' := by
  unfold totO
  rw [← ha.1]
  refine Sm_congr _ (fun i hi => ?_)
  rw [ha.2.2.2.2 i (by omega) (by omega), hp i (by omega) (by omega)]
theorem agB_rf (b : BB) : agB b b := ⟨rfl, rfl, rfl, fun _ _ _ => ⟨rfl, rfl, rfl⟩, fun _ _ _ => rfl⟩
theorem eqN_rf (n : Int) (p : Int → Int) : eqN n p p := fun _ _ _ => rfl
theorem tot_le {b : BB} {rats t : Int} {ct p : Int → Int} (hb : wfB b) (h : rowOK (bn b) p) : tot b (ngt b rats t ct p) ≤ tot b p := Sm_le _ (fun i hi => (ngt_in hb (h i (by omega) (by omega)).1).2)
theorem tot_in {b : BB} {p : Int → Int} (hb : wfB b) (h : rowOK (bn b) p) : 0 ≤ tot b p ∧ tot b p ≤ 2400 := by
  refine ⟨Sm_nn _ (fun i hi => (h i (by omega) (by omega)).1), ?_⟩
  have h1 := Sm_bd (f := p) (M := 300) (bn b).toNat (fun i hi => (h i (by omega) (by omega)).2)
  have h2 := hb.1
  unfold tot
  have h3 : (((bn b).toNat : Nat) : Int) = bn b := by omega
  rw [h3] at h1
  omega
