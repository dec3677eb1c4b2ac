/-! ORDERS: the next order of a row, both sides -/
def fk (p : Int → Int) : Nat → Int
  | 0 => -1
  | u + 1 => if p u < p ((u : Int) + 1) then u else fk p u
theorem fk_in {p : Int → Int} : ∀ u : Nat, -1 ≤ fk p u ∧ fk p u < u ∧ (0 ≤ fk p u → p (fk p u) < p (fk p u + 1))
  | 0 => ⟨by rw [fk]; omega, by rw [fk]; omega, fun h => absurd h (by rw [fk]; omega)⟩
  | u + 1 => by
    have h := fk_in (p := p) u
    rw [fk]
    split
    · rename_i e
      exact ⟨by omega, by omega, fun _ => e⟩
    · exact ⟨h.1, by omega, h.2.2⟩
def fj (p : Int → Int) (v k1 : Int) : Nat → Int
  | 0 => k1
  | e + 1 => if v < p (k1 + e + 1) then k1 + e + 1 else fj p v k1 e
theorem fj_in {p : Int → Int} {v k1 : Int} : ∀ e : Nat, k1 ≤ fj p v k1 e ∧ fj p v k1 e ≤ k1 + e
  | 0 => ⟨by rw [fj]; omega, by rw [fj]; omega⟩
  | e + 1 => by
    have h := fj_in (p := p) (v := v) (k1 := k1) e
    rw [fj]
    split <;> omega
def rvs : Nat → (Int → Int) → Int → Int → (Int → Int)
  | 0, p, _, _ => p
  | f + 1, p, a, b => if a < b then rvs f (swp p a b) (a + 1) (b - 1) else p
def NX (n : Int) (p : Int → Int) : Option (Int → Int) := if fk p (n - 1).toNat < 0 then none else some (rvs 8 (swp p (fk p (n - 1).toNat) (fj p (p (fk p (n - 1).toNat)) (fk p (n - 1).toNat + 1) (n - 2 - fk p (n - 1).toNat).toNat)) (fk p (n - 1).toNat + 1) (n - 1))
theorem x_next {d : Nat} {P : Int → HP → Prop} {h : HP} (hn : 1 ≤ h 14 2 ∧ h 14 2 ≤ 8) (hp : rowOK (h 14 2) (h 35)) (h1 : ∀ q, NX (h 14 2) (h 35) = some q → ∀ g, (∀ a, a ≠ 35 → g a = h a) → g 35 = q → P 1 g) (h0 : NX (h 14 2) (h 35) = none → P 0 h) : Ct KX (d + 1) mX6_nextOrder [aR 34] h (rI P) := by
  refine e_X6_nextOrder h ?_
  have hI : ∀ x, 0 ≤ x → x < h 14 2 → iR (h 35 x) := fun x q0 q1 => by have := hp x q0 q1; exact ⟨by omega, by omega⟩
  unfold NX at h1 h0
  have turn : ∀ (f : Nat) (k j x y : Int) (g : HP), y - x < 2 * f → 0 ≤ x → y < 8 → -2 ≤ y → (∀ a, a ≠ 35 → g a = h a) → (∀ g', (∀ a, a ≠ 35 → g' a = h a) → g' 35 = rvs f (g 35) x y → P 1 g') → x ≤ 9 → V KX (d + 1) mX6_nextOrder 105 [some (aR 34), some (aI k), some (aI j), some (aI x), some (aI y)] [] g (rI P) := by
    intro f
    induction f with
    | zero =>
      intro k j x y g hf hx hy hy2 hg hP hx9
      exact v_X6_nextOrder_105 k j x y g ⟨⟨⟨by omega, by omega⟩, ⟨by omega, by omega⟩⟩, fun _ => ⟨by omega, hP g hg rfl⟩, fun q => absurd q (by omega)⟩
    | succ f ih =>
      intro k j x y g hf hx hy hy2 hg hP hx9
      refine v_X6_nextOrder_105 k j x y g ⟨⟨⟨by omega, by omega⟩, ⟨by omega, by omega⟩⟩, fun q => ⟨by omega, hP g hg ?_⟩, fun q => e_X10_swapBins 35 x y g ⟨⟨by decide, by omega, by omega⟩, ⟨by decide, by omega, by omega⟩, ⟨by decide, by omega, by omega⟩, ⟨by decide, by omega, by omega⟩, ih k j (x + 1) (y + (-1)) _ (by omega) (by omega) (by omega) (by omega) (fun a ha => by rw [hsw_n ha]; exact hg a ha) (fun g' a1 a2 => hP g' a1 ?_) (by omega)⟩⟩
      · rw [rvs, if_neg (by omega)]
      · rw [rvs, if_pos q, a2, hsw, show y + (-1) = y - 1 by omega]
  have swapAt : ∀ k j : Int, 0 ≤ k → k < j → j < h 14 2 → (∀ g', (∀ a, a ≠ 35 → g' a = h a) → g' 35 = rvs 8 (swp (h 35) k j) (k + 1) (h 14 2 - 1) → P 1 g') → V KX (d + 1) mX6_nextOrder 81 [some (aR 34), some (aI k), some (aI j), none, none] [] h (rI P) := by
    intro k j hk hkj hj hP
    refine v_X6_nextOrder_81 k j h (e_X10_swapBins 35 k j h ⟨⟨by decide, by omega, by omega⟩, ⟨by decide, by omega, by omega⟩, ⟨by decide, by omega, by omega⟩, ⟨by decide, by omega, by omega⟩, ?_⟩)
    rw [hsw_n (show (14 : Nat) ≠ 35 by decide)]
    refine turn 8 k j (k + 1) (h 14 2 - 1) _ (by omega) (by omega) (by omega) (by omega) (fun a ha => hsw_n ha) (fun g' a1 a2 => hP g' a1 ?_) (by omega)
    rw [a2, hsw]
  have other : ∀ k : Int, 0 ≤ k → k < h 14 2 - 1 → (∀ g', (∀ a, a ≠ 35 → g' a = h a) → g' 35 = rvs 8 (swp (h 35) k (fj (h 35) (h 35 k) (k + 1) (h 14 2 - 2 - k).toNat)) (k + 1) (h 14 2 - 1) → P 1 g') → ∀ e : Nat, k + 1 + e < h 14 2 → fj (h 35) (h 35 k) (k + 1) e = fj (h 35) (h 35 k) (k + 1) (h 14 2 - 2 - k).toNat → V KX (d + 1) mX6_nextOrder 53 [some (aR 34), some (aI k), some (aI (k + 1 + e)), none, none] [] h (rI P) := by
    intro k hk hk2 hP e
    induction e with
    | zero =>
      intro he hR
      refine v_X6_nextOrder_53 k _ h ⟨⟨⟨by omega, by omega⟩, ⟨by omega, by omega⟩⟩, fun _ => ?_, fun q => absurd q (by omega)⟩
      rw [fj] at hR
      rw [← hR] at hP
      have := swapAt k (k + 1) hk (by omega) (by omega) hP
      rwa [show k + 1 + ((0 : Nat) : Int) = k + 1 by omega]
    | succ e ih =>
      intro he hR
      rw [fj] at hR
      refine v_X6_nextOrder_53 k _ h ⟨⟨⟨by omega, by omega⟩, ⟨by omega, by omega⟩⟩, fun q => absurd q (by omega), fun _ => ⟨by omega, by omega, ⟨hI _ (by omega) (by omega), hI _ (by omega) (by omega)⟩, fun q => ?_, fun q => ?_⟩⟩
      · rw [show k + 1 + ((e + 1 : Nat) : Int) = k + 1 + e + 1 by omega] at q ⊢
        rw [if_pos q] at hR
        rw [← hR] at hP
        exact swapAt k _ hk (by omega) (by omega) hP
      · rw [show k + 1 + ((e + 1 : Nat) : Int) = k + 1 + e + 1 by omega] at q ⊢
        rw [if_neg (by omega)] at hR
        have := ih (by omega) hR
        rwa [show k + 1 + (e : Int) + 1 + (-1) = k + 1 + e by omega]
  have first : ∀ u : Nat, (u : Int) ≤ h 14 2 - 1 → fk (h 35) u = fk (h 35) (h 14 2 - 1).toNat → V KX (d + 1) mX6_nextOrder 10 [some (aR 34), some (aI ((u : Int) - 1)), none, none, none] [] h (rI P) := by
    intro u
    induction u with
    | zero =>
      intro hu hR
      rw [fk] at hR
      rw [← hR, if_pos (by omega)] at h0
      exact v_X6_nextOrder_10 _ h ⟨⟨by omega, by omega⟩, fun _ => v_X6_nextOrder_37 _ h ⟨⟨by omega, by omega⟩, fun q => absurd q (by omega), fun _ => ⟨by omega, h0 rfl⟩⟩, fun q => absurd q (by omega)⟩
    | succ u ih =>
      intro hu hR
      rw [fk] at hR
      rw [show ((u + 1 : Nat) : Int) - 1 = u by omega]
      refine v_X6_nextOrder_10 u h ⟨⟨by omega, by omega⟩, fun q => absurd q (by omega), fun _ => ⟨by omega, by omega, ⟨hI _ (by omega) (by omega), hI _ (by omega) (by omega)⟩, fun q => ?_, fun q => ?_⟩⟩
      · rw [if_pos q] at hR
        rw [← hR, if_neg (by omega)] at h1
        refine v_X6_nextOrder_37 u h ⟨⟨by omega, by omega⟩, fun _ => ?_, fun z => absurd z (by omega)⟩
        have := other u (by omega) (by omega) (fun g' a1 a2 => h1 _ rfl g' a1 a2) (h 14 2 - 2 - u).toNat (by omega) rfl
        rwa [show (u : Int) + 1 + ((h 14 2 - 2 - u).toNat : Int) = h 14 2 - 1 by omega] at this
      · rw [if_neg (by omega)] at hR
        have := ih (by omega) hR
        rwa [show (u : Int) + (-1) = (u : Int) - 1 by omega]
  have := first (h 14 2 - 1).toNat (by omega) rfl
  rwa [show (((h 14 2 - 1).toNat : Nat) : Int) - 1 = h 14 2 - 2 by omega] at this
