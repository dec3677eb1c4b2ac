/-! the class: changes in turn -/
theorem los_in {b : BB} {r t o : Int} {p : Int → Int} (hb : wfB b) (hp : rowOK (bn b) p) : -3000 ≤ los b r t o p ∧ los b r t o p ≤ 3000 := by
  unfold los
  split
  · have := lossN_in (r := r) (ct := z0) (t := t) hb hp 1
    omega
  · have k1 : ∀ q : Int → Int, rowOK (bn b) q → 0 ≤ totO b o q ∧ totO b o q ≤ 2400 := fun q hq => by
      have h9 := hb.1
      refine ⟨Sm_nn _ (fun i hi => ?_), ?_⟩
      · split
        · exact (hq i (by omega) (by omega)).1
        · omega
      · have h1 := Sm_bd (f := fun x => if bow b x = o then q x else 0) (M := 300) (bn b).toNat (fun i hi => by
          split
          · exact (hq i (by omega) (by omega)).2
          · omega)
        unfold totO
        omega
    have h1 := k1 p hp
    have h2 := k1 _ (NN_ok (rats := r) (t := t) (ct := z0) hb hp 1)
    unfold lossO
    omega
theorem los_iR {b : BB} {r t o : Int} {p : Int → Int} (hb : wfB b) (hp : rowOK (bn b) p) : iR (los b r t o p) := by
  have := los_in (r := r) (t := t) (o := o) hb hp
  exact ⟨by omega, by omega⟩
theorem x_best {d : Nat} {P : Int → HP → Prop} {t o : Int} {h g : HP} {p : Int → Int} (hb : wfB (bx h)) (hz : cz h) (hr : 0 ≤ h 14 4 ∧ h 14 4 ≤ 3) (ht : 0 ≤ t ∧ t ≤ 900000) (ho : o = 0 ∨ o = 1) (kg : kC h g) (he : eqN (h 14 2) (g 39) p) (hrow : rowOK (h 14 2) p)
    (h1 : 0 ≤ (MB (bx h) (h 14 4) t o p).2.1 → ∀ g', kC h g' → g' 38 6 = g 38 6 → eqN (h 14 2) (g' 39) (swp p (MB (bx h) (h 14 4) t o p).2.1 (MB (bx h) (h 14 4) t o p).2.2) → P 1 g') (h0 : ¬ 0 ≤ (MB (bx h) (h 14 4) t o p).2.1 → ∀ g', kC h g' → g' 38 6 = g 38 6 → eqN (h 14 2) (g' 39) p → P 0 g') : Ct KX (d + 4) mX3_changeBest [aR 38, aI o, aI t] g (rI P) := by
  have hn : 1 ≤ h 14 2 ∧ h 14 2 ≤ 8 := hb.1
  have how : ∀ x, 0 ≤ x → x < h 14 2 → h 16 x = 0 ∨ h 16 x = 1 := fun x q0 q1 => hb.2.2.2.2 x q0 q1
  have ho3 : o = -1 ∨ o = 0 ∨ o = 1 := by omega
  unfold MB at h1 h0
  -- what the state says of the two found
  have inner : ∀ (i : Int), 0 ≤ i → i < h 14 2 → (∀ (s : S3) (x4 : Int) (g1 : HP), iR s.1 → S3ok (h 14 2) s → (x4 = if 0 ≤ s.2.1 then 1 else 0) → (0 ≤ s.2.1 → g1 38 4 = s.2.1 ∧ g1 38 5 = s.2.2) → kC h g1 → g1 38 6 = g 38 6 → eqN (h 14 2) (g1 39) p → fout (FM (bx h) (h 14 4) t o p) (h 14 2) (h 14 2 - i - 1).toNat (i + 1) s = fout (FM (bx h) (h 14 4) t o p) (h 14 2) (h 14 2).toNat 0 (los (bx h) (h 14 4) t o p, -1, -1) → V KX (d + 4) mX3_changeBest 13 [some (aR 38), some (aI o), some (aI t), some (aI s.1), some (aI x4), some (aI (i + 1)), none, none] [] g1 (rI P)) →
      ∀ (k : Nat) (j : Int) (s : S3) (x4 : Int) (g1 : HP), i < j → j + k = h 14 2 → iR s.1 → S3ok (h 14 2) s → (x4 = if 0 ≤ s.2.1 then 1 else 0) → (0 ≤ s.2.1 → g1 38 4 = s.2.1 ∧ g1 38 5 = s.2.2) → kC h g1 → g1 38 6 = g 38 6 → eqN (h 14 2) (g1 39) p → fout (FM (bx h) (h 14 4) t o p) (h 14 2) (h 14 2 - i - 1).toNat (i + 1) (fin (FM (bx h) (h 14 4) t o p) i k j s) = fout (FM (bx h) (h 14 4) t o p) (h 14 2) (h 14 2).toNat 0 (los (bx h) (h 14 4) t o p, -1, -1) → V KX (d + 4) mX3_changeBest 31 [some (aR 38), some (aI o), some (aI t), some (aI s.1), some (aI x4), some (aI i), some (aI j), none] [] g1 (rI P) := by
    intro i hi0 hi1 hout k
    induction k with
    | zero =>
      intro j s x4 g1 hij hj hs hok hx h45 k1 k6 e39 hR
      have e14 : g1 14 = h 14 := k1 14 (by decide) (by decide) (by decide) (by decide) (by decide)
      refine v_X3_changeBest_31 o t _ x4 i j g1 ?_
      rw [e14]
      exact ⟨⟨⟨by omega, by omega⟩, ⟨by omega, by omega⟩⟩, fun _ => hout s x4 g1 hs hok hx h45 k1 k6 e39 hR, fun q => absurd q (by omega)⟩
    | succ k ih =>
      intro j s x4 g1 hij hj hs hok hx h45 k1 k6 e39 hR
      have e14 : g1 14 = h 14 := k1 14 (by decide) (by decide) (by decide) (by decide) (by decide)
      have e16 : g1 16 = h 16 := k1 16 (by decide) (by decide) (by decide) (by decide) (by decide)
      have oi := how i hi0 hi1
      have oj := how j (by omega) (by omega)
      have next : ¬ (h 16 i = o ∧ h 16 j = o ∧ los (bx h) (h 14 4) t o (swp p i j) < s.1) → ∀ g2 : HP, g2 38 = g1 38 → kC h g2 → eqN (h 14 2) (g2 39) p → V KX (d + 4) mX3_changeBest 128 [some (aR 38), some (aI o), some (aI t), some (aI s.1), some (aI x4), some (aI i), some (aI j), none] [] g2 (rI P) := fun z g2 e38 k2 e39' => by
        refine v_X3_changeBest_128 o t _ x4 i j g2 (ih (j + 1) s x4 g2 (by omega) (by omega) hs hok hx (by rw [e38]; exact h45) k2 (by rw [e38]; exact k6) e39' ?_)
        rw [fin, FM, if_neg z] at hR
        exact hR
      refine v_X3_changeBest_31 o t _ x4 i j g1 ?_
      rw [e14, e16]
      refine ⟨⟨⟨by omega, by omega⟩, ⟨by omega, by omega⟩⟩, fun q => absurd q (by omega), fun _ => ⟨by omega, ⟨⟨by omega, by omega⟩, ⟨by omega, by omega⟩⟩, fun q => next (fun z => q z.1) g1 rfl k1 e39, fun q => ⟨by omega, ⟨⟨by omega, by omega⟩, ⟨by omega, by omega⟩⟩, fun q2 => ?_, fun q2 => next (fun z => q2 z.2.1) g1 rfl k1 e39⟩⟩⟩
      refine x_try (h := h) (p := p) hb hz hr ht ho3 k1 e39 hrow ⟨hi0, hi1⟩ ⟨by omega, by omega⟩ (fun g' a1 a2 a3 => ⟨⟨los_iR hb (swp_ok hrow ⟨hi0, hi1⟩ ⟨by omega, by omega⟩), hs⟩, fun q3 => next (fun z => by have := z.2.2; omega) g' a2 a1 a3, fun q3 => ?_⟩)
      rw [fin, FM, if_pos ⟨q, q2, q3⟩] at hR
      refine v_X3_changeBest_128 o t _ 1 i j _ (ih (j + 1) (los (bx h) (h 14 4) t o (swp p i j), i, j) 1 _ (by omega) (by omega) (los_iR hb (swp_ok hrow ⟨hi0, hi1⟩ ⟨by omega, by omega⟩)) (Or.inr ⟨hi0, hij, by show j < h 14 2; omega⟩) (by rw [if_pos (show 0 ≤ i from hi0)]) (fun _ => ⟨by rw [hset_m (by decide), hset_s], by rw [hset_s]⟩) (fun a q1 q2 q3 q4 q5 => by rw [hset_n q1, hset_n q1]; exact a1 a q1 q2 q3 q4 q5) (by rw [hset_m (by decide), hset_m (by decide), a2]; exact k6) (by rw [hset_n (by decide), hset_n (by decide)]; exact a3) hR)
  have outer : ∀ (k : Nat) (i : Int) (s : S3) (x4 : Int) (g1 : HP), 0 ≤ i → i + k = h 14 2 → iR s.1 → S3ok (h 14 2) s → (x4 = if 0 ≤ s.2.1 then 1 else 0) → (0 ≤ s.2.1 → g1 38 4 = s.2.1 ∧ g1 38 5 = s.2.2) → kC h g1 → g1 38 6 = g 38 6 → eqN (h 14 2) (g1 39) p → fout (FM (bx h) (h 14 4) t o p) (h 14 2) k i s = fout (FM (bx h) (h 14 4) t o p) (h 14 2) (h 14 2).toNat 0 (los (bx h) (h 14 4) t o p, -1, -1) → V KX (d + 4) mX3_changeBest 13 [some (aR 38), some (aI o), some (aI t), some (aI s.1), some (aI x4), some (aI i), none, none] [] g1 (rI P) := by
    intro k
    induction k with
    | zero =>
      intro i s x4 g1 hi hk hs hok hx h45 k1 k6 e39 hR
      have e14 : g1 14 = h 14 := k1 14 (by decide) (by decide) (by decide) (by decide) (by decide)
      have hR : s = fout (FM (bx h) (h 14 4) t o p) (h 14 2) (h 14 2).toNat 0 (los (bx h) (h 14 4) t o p, -1, -1) := hR
      dsimp only [bn, bx] at h1 h0
      rw [← hR] at h1 h0
      refine v_X3_changeBest_13 o t _ x4 i g1 ?_
      rw [e14]
      refine ⟨⟨⟨by omega, by omega⟩, ⟨by omega, by omega⟩⟩, fun _ => ?_, fun q => absurd q (by omega)⟩
      by_cases c : 0 ≤ s.2.1
      · rw [if_pos c] at hx
        subst hx
        have h45 := h45 c
        rw [h45.1, h45.2]
        refine ⟨by decide, fun q => absurd q (by decide), fun _ => e_X10_swapBins 39 _ _ g1 ⟨⟨by decide, by omega, by omega⟩, ⟨by decide, by omega, by omega⟩, ⟨by decide, by omega, by omega⟩, ⟨by decide, by omega, by omega⟩, by omega, h1 c _ (fun a q1 q2 q3 q4 q5 => by rw [hsw_n q2]; exact k1 a q1 q2 q3 q4 q5) (by rw [hsw_n (by decide)]; exact k6) ?_⟩⟩
        rw [hsw]
        exact swp_ag e39 ⟨by omega, by omega⟩ ⟨by omega, by omega⟩
      · rw [if_neg c] at hx
        subst hx
        exact ⟨by decide, fun _ => ⟨by omega, h0 c g1 k1 k6 e39⟩, fun q => absurd rfl q⟩
    | succ k ih =>
      intro i s x4 g1 hi hk hs hok hx h45 k1 k6 e39 hR
      have e14 : g1 14 = h 14 := k1 14 (by decide) (by decide) (by decide) (by decide) (by decide)
      refine v_X3_changeBest_13 o t _ x4 i g1 ?_
      rw [e14]
      refine ⟨⟨⟨by omega, by omega⟩, ⟨by omega, by omega⟩⟩, fun q => absurd q (by omega), fun _ => ?_⟩
      refine inner i hi (by omega) (fun s2 x42 g2 c1 c2 c3 c4 c5 c6 c7 R2 => ih (i + 1) s2 x42 g2 (by omega) (by omega) c1 c2 c3 c4 c5 c6 c7 (by rw [show (h 14 2 - i - 1).toNat = k by omega] at R2; exact R2)) (h 14 2 - i - 1).toNat (i + 1) s x4 g1 (by omega) (by omega) hs hok hx h45 k1 k6 e39 ?_
      rw [fout] at hR
      rw [show (h 14 2 - i - 1).toNat = k by omega] at hR ⊢
      exact hR
  refine e_X3_changeBest o t g (x_loss (h := h) (p := p) hb hz hr ht ho3 kg he hrow (fun g' a1 a2 a3 => outer (h 14 2).toNat 0 (los (bx h) (h 14 4) t o p, -1, -1) 0 g' (by omega) (by omega) (los_iR hb hrow) (Or.inl ⟨rfl, rfl⟩) (by rw [if_neg (show ¬ (0 : Int) ≤ -1 by decide)]) (fun z => absurd z (show ¬ (0 : Int) ≤ -1 by decide)) a1 (by rw [a2]) (by rw [a3]; exact he) rfl))
theorem x_settle {d : Nat} {P : HP → Prop} {t : Int} {h : HP} (hb : wfB (bx h)) (hz : cz h) (hr : 0 ≤ h 14 4 ∧ h 14 4 ≤ 3) (ht : 0 ≤ t ∧ t ≤ 900000) (hp : r199 (h 14 2) (h 28))
    (hP : ∀ g, kC h g → g 38 6 = (ST (bx h) (h 14 4) t 82 (h 28) 0 0 0).2 → (0 ≤ g 38 6 ∧ g 38 6 ≤ 40) → eqN (h 14 2) (g 39) (ST (bx h) (h 14 4) t 82 (h 28) 0 0 0).1 → rowOK (h 14 2) (ST (bx h) (h 14 4) t 82 (h 28) 0 0 0).1 → P g) : Ct KX (d + 5) mX3_settle [aR 38, aR 28, aI t] h (rV P) := by
  have hn : 1 ≤ h 14 2 ∧ h 14 2 ≤ 8 := hb.1
  have key : ∀ (f : Nat) (p : Int → Int) (dn st tu : Int) (g : HP), tu + f = 82 → 0 ≤ tu → 0 ≤ dn → dn ≤ 40 → 0 ≤ st → st ≤ 2 → kC h g → g 38 6 = dn → eqN (h 14 2) (g 39) p → rowOK (h 14 2) p → ST (bx h) (h 14 4) t f p dn st (tu % 2) = ST (bx h) (h 14 4) t 82 (h 28) 0 0 0 → V KX (d + 5) mX3_settle 18 [some (aR 38), some (aR 28), some (aI t), some (aI st), some (aI tu)] [] g (rV P) := by
    intro f
    induction f with
    | zero =>
      intro p dn st tu g hf hu hd0 hd1 hs0 hs1 kg e6 e39 hrow hR
      rw [← hR] at hP
      exact v_X3_settle_18 t st tu g ⟨⟨⟨by omega, by omega⟩, by decide⟩, fun _ => hP g kg e6 (by omega) e39 hrow, fun q => absurd q (by omega)⟩
    | succ f ih =>
      intro p dn st tu g hf hu hd0 hd1 hs0 hs1 kg e6 e39 hrow hR
      have stop : ¬ (st < 2 ∧ dn < 40) → P g := fun z => by
        rw [ST, if_neg z] at hR
        rw [← hR] at hP
        exact hP g kg e6 (by omega) e39 hrow
      refine v_X3_settle_18 t st tu g ⟨⟨⟨by omega, by omega⟩, by decide⟩, fun q => absurd q (by omega), fun _ => ⟨⟨⟨by omega, by omega⟩, by decide⟩, fun q => stop (by omega), fun q => ⟨⟨⟨by omega, by omega⟩, by decide⟩, fun q2 => stop (by omega), fun q2 => ⟨⟨by omega, ⟨by omega, by omega⟩, by decide, by decide⟩, ?_⟩⟩⟩⟩
      rw [ST, if_pos ⟨q, by omega⟩] at hR
      have hmb := MB_ok (r := h 14 4) (t := t) (o := tu % 2) (p := p) hb
      have hmb : S3ok (h 14 2) (MB (bx h) (h 14 4) t (tu % 2) p) := hmb
      refine x_best (h := h) (p := p) hb hz hr ht (by omega) kg e39 hrow (fun c g' a1 a2 a3 => bT ?_) (fun c g' a1 a2 a3 => bF ?_)
      · rw [if_pos c] at hR
        refine v_X3_settle_69 t 0 tu _ (ih _ (dn + 1) 0 (tu + 1) _ (by omega) (by omega) (by omega) (by omega) (by omega) (by omega) (fun a q1 q2 q3 q4 q5 => by rw [hset_n q1]; exact a1 a q1 q2 q3 q4 q5) (by rw [hset_s, a2, e6]) (by rw [hset_n (by decide)]; exact a3) (swp_ok hrow ⟨by omega, by omega⟩ ⟨by omega, by omega⟩) ?_)
        rw [show (tu + 1) % 2 = 1 - tu % 2 by omega]
        exact hR
      · rw [if_neg c] at hR
        refine v_X3_settle_69 t (st + 1) tu _ (ih p dn (st + 1) (tu + 1) g' (by omega) (by omega) (by omega) (by omega) (by omega) (by omega) a1 (a2.trans e6) a3 hrow ?_)
        rw [show (tu + 1) % 2 = 1 - tu % 2 by omega]
        exact hR
  have e39 : eqN (h 14 2) (hcpy h 28 39 8 39) (h 28) := fun x h0 h1 => hcpy_s h0 (by omega)
  exact e_X3_settle t h (c_copyBins (by decide) (by decide) (key 82 (h 28) 0 0 0 _ (by omega) (by omega) (by omega) (by omega) (by omega) (by omega) (fun a q1 q2 q3 q4 q5 => by rw [hset_n q1, hcpy_n q2]) hset_s (by rw [hset_n (by decide)]; exact e39) (r199_ok hp) rfl))
theorem x_moves {d : Nat} {P : Int → HP → Prop} {N w : Int} {h : HP} (hW : WV N (vx h)) (hN : N ≤ 1000) (hz : cz h) (hw : iR w) (hP : ∀ h', vx h' = vx h → cz h' → P (sp_moves (vx h) w) h') : Ct KX (d + 6) mX10_moves [aR 0, aI w] h (rI P) := by
  obtain ⟨b1, b2, b3, b4, b5, b6, b7, b8, -⟩ := hW
  unfold sp_moves at hP
  dsimp only [bn, qb, qr, qp, qt, vx] at hP b4 b8 b7
  refine e_X10_moves w h (c_within hw (by decide) (by decide) (fun a b => bT' (x_settle b3 hz b4 ⟨b8.1, by omega⟩ b7 (fun g k e6 r6 e39 hrow => ⟨hw, fun q => ⟨⟨⟨by omega, by omega⟩, by decide⟩, fun q2 => ?_, fun q2 => ?_⟩, fun q => ?_⟩))) (fun a => bF' ?_))
  · have := hP g (kC_vx k) (kC_cz k hz)
    rw [if_pos ⟨a, b⟩, if_neg (by omega), ← e6, if_neg q2] at this
    exact this
  · have := hP g (kC_vx k) (kC_cz k hz)
    rw [if_pos ⟨a, b⟩, if_neg (by omega), ← e6, if_pos q2] at this
    exact this
  · rw [k 0 (by decide) (by decide) (by decide) (by decide) (by decide)]
    refine x_loss (d := d + 2) (h := h) b3 hz b4 ⟨b8.1, by omega⟩ (by omega) k e39 hrow (fun g' a1 a2 a3 => ?_)
    have := hP g' (kC_vx a1) (kC_cz a1 hz)
    rw [if_pos ⟨a, b⟩, if_pos q] at this
    exact this
  · have := hP h rfl hz
    rw [if_neg (by omega)] at this
    exact this
