/-! the class sorts -/
theorem x_sort {d : Nat} {P : HP → Prop} {h : HP} (hn : 1 ≤ h 14 2 ∧ h 14 2 ≤ 8) (hp : rowOK (h 14 2) (h 35)) (hP : ∀ g, (∀ a, a ≠ 35 → g a = h a) → srt (h 14 2) (g 35) → prm (h 14 2) (g 35) (h 35) → rowOK (h 14 2) (g 35) → P g) : Ct KX (d + 1) mX6_sortRow [aR 34] h (rV P) := by
  refine e_X6_sortRow h ?_
  have inner : ∀ x : Int, 1 ≤ x → x < h 14 2 → (∀ g, (∀ a, a ≠ 35 → g a = h a) → srt (x + 1) (g 35) → prm (h 14 2) (g 35) (h 35) → rowOK (h 14 2) (g 35) → V KX (d + 1) mX6_sortRow 2 [some (aR 34), some (aI (x + 1)), none] [] g (rV P)) →
      ∀ (y : Nat) (g : HP), (y : Int) ≤ x → (∀ a, a ≠ 35 → g a = h a) → (∀ z : Int, 0 ≤ z → z + 1 < x + 1 → z + 1 ≠ y → g 35 z ≤ g 35 (z + 1)) → (∀ z : Int, 0 ≤ z → z + 1 = y → z + 2 < x + 1 → g 35 z ≤ g 35 (z + 2)) → prm (h 14 2) (g 35) (h 35) → rowOK (h 14 2) (g 35) → V KX (d + 1) mX6_sortRow 15 [some (aR 34), some (aI x), some (aI y)] [] g (rV P) := by
    intro x hx0 hx1 hout y
    induction y with
    | zero =>
      intro g hy hg hs hs2 hq hr
      exact v_X6_sortRow_15 x _ g ⟨⟨by omega, by omega⟩, fun _ => v_X6_sortRow_53 x _ g (hout g hg (fun z z0 z1 => hs z z0 z1 (by omega)) hq hr), fun q => absurd q (by omega)⟩
    | succ y ih =>
      intro g hy hg hs hs2 hq hr
      have r1 := hr y (by omega) (by omega)
      have r2 := hr ((y : Int) + 1) (by omega) (by omega)
      have ey : ((y + 1 : Nat) : Int) = (y : Int) + 1 := by omega
      have ey1 : (y : Int) + 1 - 1 = y := by omega
      rw [ey]
      refine v_X6_sortRow_15 x _ g ?_
      rw [ey1]
      refine ⟨⟨by omega, by omega⟩, fun q => absurd q (by omega), fun _ => ⟨by omega, by omega, ⟨⟨by omega, by omega⟩, ⟨by omega, by omega⟩⟩, fun q => v_X6_sortRow_53 x _ g (hout g hg (fun z z0 z1 => ?_) hq hr), fun q => e_X10_swapBins 35 _ _ g ⟨⟨by decide, by omega, by omega⟩, ⟨by decide, by omega, by omega⟩, ⟨by decide, by omega, by omega⟩, ⟨by decide, by omega, by omega⟩, ?_⟩⟩⟩
      · by_cases e : z = y
        · rw [e]; exact q
        · exact hs z z0 z1 (by omega)
      · rw [show (y : Int) + 1 + (-1) = y by omega]
        have w : ∀ z, (hset (hset g 35 ((y : Int) + 1) (g 35 y)) 35 y (g 35 ((y : Int) + 1))) 35 z = if z = y then g 35 ((y : Int) + 1) else if z = y + 1 then g 35 y else g 35 z := fun z => by rw [hsw]; rfl
        have wp : prm (h 14 2) ((hset (hset g 35 ((y : Int) + 1) (g 35 y)) 35 y (g 35 ((y : Int) + 1))) 35) (h 35) := by rw [hsw]; exact prm_tr (swp_prm ⟨by omega, by omega⟩ ⟨by omega, by omega⟩) hq
        have wr : rowOK (h 14 2) ((hset (hset g 35 ((y : Int) + 1) (g 35 y)) 35 y (g 35 ((y : Int) + 1))) 35) := by rw [hsw]; exact swp_ok hr ⟨by omega, by omega⟩ ⟨by omega, by omega⟩
        refine ih _ (by omega) (fun a ha => by rw [hsw_n ha]; exact hg a ha) (fun z z0 z1 z2 => ?_) (fun z z0 z1 z2 => ?_) wp wr
        · rw [w z, w (z + 1)]
          by_cases e1 : z = y
          · rw [if_pos e1, if_neg (by omega), if_pos (by omega)]
            omega
          · rw [if_neg e1]
            by_cases e2 : z = y + 1
            · rw [if_pos e2, if_neg (by omega), if_neg (by omega), e2]
              have := hs2 y (by omega) (by omega) (by omega)
              rwa [show (y : Int) + 2 = y + 1 + 1 by omega] at this
            · rw [if_neg e2, if_neg (by omega), if_neg (by omega)]
              exact hs z z0 z1 (by omega)
        · rw [w z, w (z + 2), if_neg (by omega), if_neg (by omega), if_neg (by omega), if_pos (by omega)]
          have := hs z z0 (by omega) (by omega)
          rwa [show z + 1 = (y : Int) by omega] at this
  have outer : ∀ (u : Nat) (x : Int) (g : HP), 1 ≤ x → x + u = h 14 2 → (∀ a, a ≠ 35 → g a = h a) → srt x (g 35) → prm (h 14 2) (g 35) (h 35) → rowOK (h 14 2) (g 35) → V KX (d + 1) mX6_sortRow 2 [some (aR 34), some (aI x), none] [] g (rV P) := by
    intro u
    induction u with
    | zero =>
      intro x g hx hu hg hs hq hr
      refine v_X6_sortRow_2 x g ?_
      rw [hg 14 (by decide)]
      refine ⟨⟨⟨by omega, by omega⟩, ⟨by omega, by omega⟩⟩, fun _ => hP g hg ?_ hq hr, fun q => absurd q (by omega)⟩
      rw [show h 14 2 = x by omega]
      exact hs
    | succ u ih =>
      intro x g hx hu hg hs hq hr
      refine v_X6_sortRow_2 x g ?_
      rw [hg 14 (by decide)]
      refine ⟨⟨⟨by omega, by omega⟩, ⟨by omega, by omega⟩⟩, fun q => absurd q (by omega), fun _ => ?_⟩
      have := inner x hx (by omega) (fun g2 a1 a2 a3 a4 => ih (x + 1) g2 (by omega) (by omega) a1 a2 a3 a4) x.toNat g (by omega) hg (fun z z0 z1 z2 => hs z z0 (by omega)) (fun z z0 z1 z2 => absurd z2 (by omega)) hq hr
      rwa [show ((x.toNat : Nat) : Int) = x by omega] at this
  exact outer (h 14 2 - 1).toNat 1 h (by omega) (by omega) (fun _ _ => rfl) (fun z z0 z1 => absurd z1 (by omega)) (prm_rf _ _) hp
