/-! the model sorts -/
theorem m_sort {d : Nat} {P : Int → HP → Prop} {n i : Int} {h : HP} (hn : 1 ≤ h 2 0 ∧ h 2 0 ≤ 8) (hp : rowOK (h 2 0) (h 19)) (hP : ∀ g, (∀ a, a ≠ 19 → g a = h a) → srt (h 2 0) (g 19) → prm (h 2 0) (g 19) (h 19) → rowOK (h 2 0) (g 19) → V KM (d + 1) mX11_order 132 [some (aR 0), some (aI n), some (aI i), some (aI (-1)), some (aI 1), none, none] [] g (rI P)) : V KM (d + 1) mX11_order 66 [some (aR 0), some (aI n), some (aI i), some (aI 0), none, none, none] [] h (rI P) := by
  have inner : ∀ k : Int, 0 ≤ k → k < h 2 0 → (∀ g, (∀ a, a ≠ 19 → g a = h a) → (∀ y z : Int, 0 ≤ y → y < k + 1 → y ≤ z → z < h 2 0 → g 19 y ≤ g 19 z) → prm (h 2 0) (g 19) (h 19) → rowOK (h 2 0) (g 19) → V KM (d + 1) mX11_order 66 [some (aR 0), some (aI n), some (aI i), some (aI (k + 1)), none, none, none] [] g (rI P)) →
      ∀ (u : Nat) (j : Int) (g : HP), k < j → j + u = h 2 0 → (∀ a, a ≠ 19 → g a = h a) → (∀ y z : Int, 0 ≤ y → y < k → y ≤ z → z < h 2 0 → g 19 y ≤ g 19 z) → (∀ z : Int, k ≤ z → z < j → g 19 k ≤ g 19 z) → prm (h 2 0) (g 19) (h 19) → rowOK (h 2 0) (g 19) → V KM (d + 1) mX11_order 81 [some (aR 0), some (aI n), some (aI i), some (aI k), some (aI j), none, none] [] g (rI P) := by
    intro k hk0 hk1 hout u
    induction u with
    | zero =>
      intro j g hj hu hg hs hm hq hr
      refine v_X11_order_81 n i k j g ?_
      rw [hg 2 (by decide)]
      refine ⟨by omega, ⟨⟨by omega, by omega⟩, ⟨by omega, by omega⟩⟩, fun _ => hout g hg (fun y z y0 y1 y2 y3 => ?_) hq hr, fun q => absurd q (by omega)⟩
      by_cases e : y = k
      · rw [e] at y2 ⊢
        exact hm z y2 (by omega)
      · exact hs y z y0 (by omega) y2 y3
    | succ u ih =>
      intro j g hj hu hg hs hm hq hr
      have r1 := hr k (by omega) (by omega)
      have r2 := hr j (by omega) (by omega)
      refine v_X11_order_81 n i k j g ?_
      rw [hg 2 (by decide)]
      refine ⟨by omega, ⟨⟨by omega, by omega⟩, ⟨by omega, by omega⟩⟩, fun q => absurd q (by omega), fun _ => ⟨by omega, by omega, ⟨⟨by omega, by omega⟩, ⟨by omega, by omega⟩⟩, fun q => v_X11_order_115 n i k j g (ih (j + 1) g (by omega) (by omega) hg hs (fun z z0 z1 => ?_) hq hr), fun q => e_X11_swaps k j g ⟨⟨by omega, by omega⟩, ⟨by omega, by omega⟩, ⟨by omega, by omega⟩, ⟨by omega, by omega⟩, ?_⟩⟩⟩
      · by_cases e : z = j
        · rw [e]; exact q
        · exact hm z z0 (by omega)
      · have w : ∀ z, (hset (hset g 19 k (g 19 j)) 19 j (g 19 k)) 19 z = if z = j then g 19 k else if z = k then g 19 j else g 19 z := fun z => by rw [hsw]; rfl
        have wp : prm (h 2 0) ((hset (hset g 19 k (g 19 j)) 19 j (g 19 k)) 19) (h 19) := by rw [hsw]; exact prm_tr (swp_prm ⟨by omega, by omega⟩ ⟨by omega, by omega⟩) hq
        have wr : rowOK (h 2 0) ((hset (hset g 19 k (g 19 j)) 19 j (g 19 k)) 19) := by rw [hsw]; exact swp_ok hr ⟨by omega, by omega⟩ ⟨by omega, by omega⟩
        refine v_X11_order_115 n i k j _ (ih (j + 1) _ (by omega) (by omega) (fun a ha => by rw [hsw_n ha]; exact hg a ha) (fun y z y0 y1 y2 y3 => ?_) (fun z z0 z1 => ?_) wp wr)
        · rw [w y, w z, if_neg (by omega), if_neg (by omega)]
          by_cases e1 : z = j
          · rw [if_pos e1]; exact hs y k y0 y1 (by omega) (by omega)
          · rw [if_neg e1]
            by_cases e2 : z = k
            · rw [if_pos e2]; exact hs y j y0 y1 (by omega) (by omega)
            · rw [if_neg e2]; exact hs y z y0 y1 y2 y3
        · rw [w k, w z, if_neg (by omega), if_pos rfl]
          by_cases e1 : z = j
          · rw [if_pos e1]; omega
          · rw [if_neg e1]
            by_cases e2 : z = k
            · rw [if_pos e2]; omega
            · rw [if_neg e2]
              have := hm z z0 (by omega)
              omega
  have outer : ∀ (u : Nat) (k : Int) (g : HP), 0 ≤ k → k + u = h 2 0 → (∀ a, a ≠ 19 → g a = h a) → (∀ y z : Int, 0 ≤ y → y < k → y ≤ z → z < h 2 0 → g 19 y ≤ g 19 z) → prm (h 2 0) (g 19) (h 19) → rowOK (h 2 0) (g 19) → V KM (d + 1) mX11_order 66 [some (aR 0), some (aI n), some (aI i), some (aI k), none, none, none] [] g (rI P) := by
    intro u
    induction u with
    | zero =>
      intro k g hk hu hg hs hq hr
      refine v_X11_order_66 n i k g ?_
      rw [hg 2 (by decide)]
      exact ⟨by omega, ⟨⟨by omega, by omega⟩, ⟨by omega, by omega⟩⟩, fun _ => hP g hg (fun x x0 x1 => hs x (x + 1) x0 (by omega) (by omega) x1) hq hr, fun q => absurd q (by omega)⟩
    | succ u ih =>
      intro k g hk hu hg hs hq hr
      refine v_X11_order_66 n i k g ?_
      rw [hg 2 (by decide)]
      exact ⟨by omega, ⟨⟨by omega, by omega⟩, ⟨by omega, by omega⟩⟩, fun q => absurd q (by omega), fun _ => inner k hk (by omega) (fun g2 a1 a2 a3 a4 => ih (k + 1) g2 (by omega) (by omega) a1 a2 a3 a4) u (k + 1) g (by omega) (by omega) hg hs (fun z z0 z1 => by rw [show z = k by omega]; exact Int.le_refl _) hq hr⟩
  exact outer (h 2 0).toNat 0 h (by omega) (by omega) (fun _ _ => rfl) (fun y z y0 y1 _ _ => absurd y1 (by omega)) (prm_rf _ _) hp
