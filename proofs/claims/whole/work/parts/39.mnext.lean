/-! the model: the next order -/
theorem m_follows {d : Nat} {P : Int → HP → Prop} {h : HP} (hn : 1 ≤ h 2 0 ∧ h 2 0 ≤ 8) (hp : rowOK (h 2 0) (h 19)) (h1 : ∀ q, NX (h 2 0) (h 19) = some q → ∀ g, (∀ a, a ≠ 19 → g a = h a) → g 19 = q → P 1 g) (h0 : NX (h 2 0) (h 19) = none → P 0 h) : Ct KM (d + 1) mX11_follows [aR 0] h (rI P) := by
  refine e_X11_follows h ⟨by omega, ?_⟩
  have hI : ∀ x, 0 ≤ x → x < h 2 0 → iR (h 19 x) := fun x q0 q1 => by have := hp x q0 q1; exact ⟨by omega, by omega⟩
  have hk3 := (fk_in (p := h 19) (h 2 0 - 1).toNat).2.2
  unfold NX at h1 h0
  have turn : ∀ (f : Nat) (k j x y : Int) (g : HP), y - x < 2 * f → 0 ≤ x → y < 8 → -2 ≤ y → (∀ a, a ≠ 19 → g a = h a) → (∀ g', (∀ a, a ≠ 19 → g' a = h a) → g' 19 = rvs f (g 19) x y → P 1 g') → x ≤ 9 → V KM (d + 1) mX11_follows 92 [some (aR 0), some (aI k), some (aI j), some (aI x), some (aI y)] [] g (rI P) := by
    intro f
    induction f with
    | zero =>
      intro k j x y g hf hx hy hy2 hg hP hx9
      exact v_X11_follows_92 k j x y g ⟨⟨⟨by omega, by omega⟩, ⟨by omega, by omega⟩⟩, fun _ => ⟨by omega, hP g hg rfl⟩, fun q => absurd q (by omega)⟩
    | succ f ih =>
      intro k j x y g hf hx hy hy2 hg hP hx9
      refine v_X11_follows_92 k j x y g ⟨⟨⟨by omega, by omega⟩, ⟨by omega, by omega⟩⟩, fun q => ⟨by omega, hP g hg ?_⟩, fun q => e_X11_swaps x y g ⟨⟨by omega, by omega⟩, ⟨by omega, by omega⟩, ⟨by omega, by omega⟩, ⟨by omega, by omega⟩, ih k j (x + 1) (y + (-1)) _ (by omega) (by omega) (by omega) (by omega) (fun a ha => by rw [hsw_n ha]; exact hg a ha) (fun g' a1 a2 => hP g' a1 ?_) (by omega)⟩⟩
      · rw [rvs, if_neg (by omega)]
      · rw [rvs, if_pos q, a2, hsw, show y + (-1) = y - 1 by omega]
  have other : ∀ k : Int, 0 ≤ k → k < h 2 0 - 1 → h 19 k < h 19 (k + 1) → (∀ g', (∀ a, a ≠ 19 → g' a = h a) → g' 19 = rvs 8 (swp (h 19) k (fj (h 19) (h 19 k) (k + 1) (h 2 0 - 2 - k).toNat)) (k + 1) (h 2 0 - 1) → P 1 g') → ∀ e : Nat, k + 1 + e < h 2 0 → fj (h 19) (h 19 k) (k + 1) e = fj (h 19) (h 19 k) (k + 1) (h 2 0 - 2 - k).toNat → V KM (d + 1) mX11_follows 51 [some (aR 0), some (aI k), some (aI (k + 1 + e)), none, none] [] h (rI P) := by
    intro k hk hk2 hlt hP
    have swapAt : ∀ j : Int, k < j → j < h 2 0 → (∀ g', (∀ a, a ≠ 19 → g' a = h a) → g' 19 = rvs 8 (swp (h 19) k j) (k + 1) (h 2 0 - 1) → P 1 g') → Ct KM d mX11_swaps [aR 0, aI k, aI j] h (rV fun (h1 : HP) => ((0 : Int) ≤ 0 ∧ (0 : Int) < 2) ∧ V KM (d + 1) mX11_follows 92 [some (aR 0), some (aI k), some (aI j), some (aI (k + 1)), some (aI ((h1 2 0) - 1))] [] h1 (rI P)) := by
      intro j hkj hj hP
      refine e_X11_swaps k j h ⟨⟨by omega, by omega⟩, ⟨by omega, by omega⟩, ⟨by omega, by omega⟩, ⟨by omega, by omega⟩, by omega, ?_⟩
      rw [hsw_n (show (2 : Nat) ≠ 19 by decide)]
      refine turn 8 k j (k + 1) (h 2 0 - 1) _ (by omega) (by omega) (by omega) (by omega) (fun a ha => hsw_n ha) (fun g' a1 a2 => hP g' a1 ?_) (by omega)
      rw [a2, hsw]
    intro e
    induction e with
    | zero =>
      intro he hR
      rw [fj] at hR
      rw [← hR] at hP
      have e0 : k + 1 + ((0 : Nat) : Int) = k + 1 := by omega
      rw [e0]
      exact v_X11_follows_51 k _ h ⟨⟨by omega, by omega⟩, ⟨by omega, by omega⟩, ⟨hI _ (by omega) (by omega), hI _ (by omega) (by omega)⟩, fun _ => swapAt (k + 1) (by omega) (by omega) hP, fun q => absurd q (by omega)⟩
    | succ e ih =>
      intro he hR
      rw [fj] at hR
      have e1 : k + 1 + ((e + 1 : Nat) : Int) = k + 1 + e + 1 := by omega
      rw [e1]
      refine v_X11_follows_51 k _ h ⟨⟨by omega, by omega⟩, ⟨by omega, by omega⟩, ⟨hI _ (by omega) (by omega), hI _ (by omega) (by omega)⟩, fun q => ?_, fun q => ?_⟩
      · rw [if_pos q] at hR
        rw [← hR] at hP
        exact swapAt _ (by omega) (by omega) hP
      · rw [if_neg (by omega)] at hR
        have := ih (by omega) hR
        rwa [show k + 1 + (e : Int) + 1 + (-1) = k + 1 + e by omega]
  have first : ∀ u : Nat, (u : Int) ≤ h 2 0 - 1 → fk (h 19) u = fk (h 19) (h 2 0 - 1).toNat → V KM (d + 1) mX11_follows 9 [some (aR 0), some (aI ((u : Int) - 1)), none, none, none] [] h (rI P) := by
    intro u
    induction u with
    | zero =>
      intro hu hR
      rw [fk] at hR
      rw [← hR, if_pos (by omega)] at h0
      exact v_X11_follows_9 _ h ⟨⟨by omega, by omega⟩, fun _ => v_X11_follows_36 _ h ⟨⟨by omega, by omega⟩, fun q => absurd q (by omega), fun _ => ⟨by omega, h0 rfl⟩⟩, fun q => absurd q (by omega)⟩
    | succ u ih =>
      intro hu hR
      rw [fk] at hR
      rw [show ((u + 1 : Nat) : Int) - 1 = u by omega]
      refine v_X11_follows_9 u h ⟨⟨by omega, by omega⟩, fun q => absurd q (by omega), fun _ => ⟨by omega, by omega, ⟨hI _ (by omega) (by omega), hI _ (by omega) (by omega)⟩, fun q => ?_, fun q => ?_⟩⟩
      · rw [if_pos q] at hR
        rw [← hR, if_neg (by omega)] at h1
        refine v_X11_follows_36 u h ⟨⟨by omega, by omega⟩, fun _ => ⟨by omega, ?_⟩, fun z => absurd z (by omega)⟩
        have := other u (by omega) (by omega) q (fun g' a1 a2 => h1 _ rfl g' a1 a2) (h 2 0 - 2 - u).toNat (by omega) rfl
        rwa [show (u : Int) + 1 + ((h 2 0 - 2 - u).toNat : Int) = h 2 0 - 1 by omega] at this
      · rw [if_neg (by omega)] at hR
        have := ih (by omega) hR
        rwa [show (u : Int) + (-1) = (u : Int) - 1 by omega]
  have := first (h 2 0 - 1).toNat (by omega) rfl
  rwa [show (((h 2 0 - 1).toNat : Nat) : Int) - 1 = h 2 0 - 2 by omega] at this
