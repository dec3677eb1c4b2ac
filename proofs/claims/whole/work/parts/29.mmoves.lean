/-! the model: exchanges, changes in turn -/
def kN (h g : HP) : Prop := (∀ a, a ≠ 0 → a ≠ 13 → a ≠ 16 → a ≠ 17 → a ≠ 18 → a ≠ 20 → g a = h a) ∧ (∀ i, i ≠ 27 → g 0 i = h 0 i)
theorem kN_rf (h : HP) : kN h h := ⟨fun _ _ _ _ _ _ _ => rfl, fun _ _ => rfl⟩
theorem kN_bm {h g : HP} (k : kN h g) : bm g = bm h := by
  dsimp only [bm]
  rw [k.1 2 (by decide) (by decide) (by decide) (by decide) (by decide) (by decide), k.2 11 (by decide), k.1 5 (by decide) (by decide) (by decide) (by decide) (by decide) (by decide), k.1 10 (by decide) (by decide) (by decide) (by decide) (by decide) (by decide), k.1 11 (by decide) (by decide) (by decide) (by decide) (by decide) (by decide), k.1 12 (by decide) (by decide) (by decide) (by decide) (by decide) (by decide), k.1 4 (by decide) (by decide) (by decide) (by decide) (by decide) (by decide)]
theorem kN_cm {h g : HP} (k : kN h g) (hz : cm h) : cm g := (k.2 15 (by decide)).trans hz
theorem kN_n {h g : HP} (k : kN h g) : g 2 0 = h 2 0 := by rw [k.1 2 (by decide) (by decide) (by decide) (by decide) (by decide) (by decide)]
theorem kN_ag {N : Int} {h g : HP} (k : kN h g) (hW : WV N (vm h)) (he : eqN (h 2 0) (g 13) (h 13)) : AgV (vm g) (vm h) := by
  have e : ∀ a, a ≠ 0 → a ≠ 13 → a ≠ 16 → a ≠ 17 → a ≠ 18 → a ≠ 20 → g a = h a := k.1
  refine ⟨k.2 0 (by decide), fun i _ _ => ?_, ?_, ?_, ?_, ?_, fun c q0 q1 => ?_, fun x q0 q1 => ?_, k.2 17 (by decide), k.2 18 (by decide), fun q => ⟨fun x q0 q1 => ?_, ?_⟩, fun q => ⟨fun x q0 q1 => ?_, ?_⟩⟩
  · show g 1 i = h 1 i
    rw [e 1 (by decide) (by decide) (by decide) (by decide) (by decide) (by decide)]
  · show agB (bm g) (bm h)
    rw [kN_bm k]; exact agB_rf _
  · show g 5 1 = h 5 1
    rw [e 5 (by decide) (by decide) (by decide) (by decide) (by decide) (by decide)]
  · show g 6 0 = h 6 0
    rw [e 6 (by decide) (by decide) (by decide) (by decide) (by decide) (by decide)]
  · show g 8 0 = h 8 0
    rw [e 8 (by decide) (by decide) (by decide) (by decide) (by decide) (by decide)]
  · show g 9 (2 * c) = h 9 (2 * c) ∧ g 9 (2 * c + 1) = h 9 (2 * c + 1)
    rw [e 9 (by decide) (by decide) (by decide) (by decide) (by decide) (by decide)]; exact ⟨rfl, rfl⟩
  · have q1 : x < g 2 0 := q1
    rw [kN_n k] at q1
    exact he x q0 q1
  · show g 14 x = h 14 x
    rw [e 14 (by decide) (by decide) (by decide) (by decide) (by decide) (by decide)]
  · show g 15 0 = h 15 0
    rw [e 15 (by decide) (by decide) (by decide) (by decide) (by decide) (by decide)]
  · show g 14 (8 + x) = h 14 (8 + x)
    rw [e 14 (by decide) (by decide) (by decide) (by decide) (by decide) (by decide)]
  · show g 15 1 = h 15 1
    rw [e 15 (by decide) (by decide) (by decide) (by decide) (by decide) (by decide)]
theorem NN1 {b : BB} {r t : Int} {ct p : Int → Int} : NN b r ct p t 1 = ngt b r t ct p := by
  show ngt b r (t + ((0 : Nat) : Int)) ct p = _
  rw [show t + ((0 : Nat) : Int) = t by omega]
theorem m_lostBy {d : Nat} {P : Int → HP → Prop} {o i j : Int} {h g : HP} {p : Int → Int} (hb : wfB (bm h)) (hz : cm h) (hr : 0 ≤ h 5 1 ∧ h 5 1 ≤ 3) (ht : 0 ≤ h 0 17 ∧ h 0 17 ≤ 900000) (ho : o = -1 ∨ o = 0 ∨ o = 1) (k : kN h g) (he : eqN (h 2 0) (g 13) p) (hrow : rowOK (h 2 0) p) (hi : 0 ≤ i ∧ i < h 2 0) (hj : 0 ≤ j ∧ j < h 2 0)
    (hP : ∀ g', kN h g' → g' 13 = g 13 → g' 20 = g 20 → g' 0 = g 0 → P (los (bm h) (h 5 1) (h 0 17) o (swp p i j)) g') : Ct KM (d + 2) mX11_lostBy [aR 0, aI i, aI j, aI o] g (rI P) := by
  have hn8 : h 2 0 ≤ 8 := hb.1.2
  refine e_X11_lostBy i j o g (e_X11_changes i j g ⟨by omega, by omega, by omega, by omega, c_tries (fun h2 a1 a2 a3 a4 => ⟨by omega, ?_⟩)⟩)
  have f1 : ∀ a, a ≠ 13 → a ≠ 16 → a ≠ 18 → h2 a = g a := fun a q1 q2 q3 => by rw [a1 a q2 q3, hsw_n q1]
  have f13 : h2 13 = swp (g 13) i j := by rw [a1 13 (by decide) (by decide), hsw]
  have k2 : kN h h2 := ⟨fun a q1 q2 q3 q4 q5 q6 => (f1 a q2 q3 q5).trans (k.1 a q1 q2 q3 q4 q5 q6), fun x q => by rw [f1 0 (by decide) (by decide) (by decide)]; exact k.2 x q⟩
  have f16 : eqN (h 2 0) (h2 16) (swp p i j) := fun x q0 q1 => by rw [a2 x q0 (by omega), hsw]; exact swp_ag he hi hj x q0 q1
  have e5 : h2 5 = h 5 := k2.1 5 (by decide) (by decide) (by decide) (by decide) (by decide) (by decide)
  have e2 : h2 2 0 = h 2 0 := kN_n k2
  have eb := kN_bm k2
  rw [e5, k2.2 17 (by decide)]
  refine c_goes (d := d) (by rw [eb]; exact hb) hr ⟨ht.1, by omega⟩ (by rw [e2]; exact fun x q0 q1 => by rw [f16 x q0 q1]; exact swp_ok hrow hi hj x q0 q1) (fun h3 b1 b2 b3 => ?_)
  rw [eb, ctm0 (kN_cm k2 hz), e2] at b2
  rw [eb] at b3 ⊢
  have n1 : eqN (h 2 0) (h3 16) (NN (bm h) (h 5 1) z0 (swp p i j) (h 0 17) 1) := by
    rw [NN1]
    exact fun x q0 q1 => (b2 x q0 q1).trans (ngt_ag (rats := h 5 1) (t := h 0 17) (ct := z0) (ct' := z0) hb (agB_rf _) f16 (eqN_rf _ _) x q0 q1)
  have t1 : tot (bm h) (h2 16) = tot (bm h) (swp p i j) := tot_ag (b := bm h) (agB_rf _) f16
  have t2 : tot (bm h) (h3 16) = tot (bm h) (NN (bm h) (h 5 1) z0 (swp p i j) (h 0 17) 1) := tot_ag (b := bm h) (agB_rf _) n1
  refine e_X11_changes i j h3 ⟨by omega, by omega, by omega, by omega, ⟨by omega, by omega⟩, fun q => ⟨by omega, ?_⟩, fun q => ?_⟩
  all_goals
    have hP := hP (hset (hset h3 13 i (h3 13 j)) 13 j (h3 13 i)) ⟨fun a q1 q2 q3 q4 q5 q6 => by rw [hsw_n q2, b1 a q3 q4 q5]; exact k2.1 a q1 q2 q3 q4 q5 q6, fun x q => by rw [hsw_n (by decide), b1 0 (by decide) (by decide) (by decide)]; exact k2.2 x q⟩ (by rw [hsw, b1 13 (by decide) (by decide) (by decide), f13, swp_swp]) (by rw [hsw_n (by decide), b1 20 (by decide) (by decide) (by decide), f1 20 (by decide) (by decide) (by decide)]) (by rw [hsw_n (by decide), b1 0 (by decide) (by decide) (by decide), f1 0 (by decide) (by decide) (by decide)])
    unfold los at hP
  · rw [if_neg (by omega)] at hP
    rw [hsw_n (show (18 : Nat) ≠ 13 by decide), b3 o, if_pos (by omega), totO_ag (b := bm h) (o := o) (agB_rf _) f16, totO_ag (b := bm h) (o := o) (agB_rf _) n1]
    have e18 : h2 18 o = 0 := by
      rcases ho with rfl | rfl | rfl
      · omega
      · exact a3
      · exact a4
    rw [e18, Int.zero_add]
    exact hP
  · rw [if_pos q] at hP
    rw [t1, t2]
    exact hP
theorem m_exchanged {d : Nat} {P : Int → HP → Prop} {N w : Int} {h : HP} (hW : WV N (vm h)) (hN : N ≤ 1000) (hz : cm h) (hw : iR w) (hP : ∀ h', AgV (vm h') (vm h) → cm h' → P (sp_exch (vm h) w) h') : Ct KM (d + 3) mX11_exchanged [aR 0, aI w] h (rI P) := by
  obtain ⟨b1, b2, b3, b4, b5, b6, b7, b8, -⟩ := id hW
  unfold sp_exch at hP
  dsimp only [qb, qr, qp, qt, vm] at hP b4 b8 b7 b3
  have hn : 1 ≤ h 2 0 ∧ h 2 0 ≤ 8 := b3.1
  have hb : wfB (bm h) := b3
  have hrow := r199_ok b7
  have ht : 0 ≤ h 0 17 ∧ h 0 17 ≤ 900000 := ⟨b8.1, by omega⟩
  refine e_X11_exchanged w h ⟨hw, c_inI hw (by decide) (by decide) (fun a b => bT' ?_) (fun a => bF' ?_)⟩
  · have hP : ∀ g, kN h g → g 13 = h 13 → P (match EX (bm h) (h 5 1) (h 0 17) (h 13) with
      | none => -4
      | some q => if w = 0 then q.1 else q.2) g := fun g k e => by
      have := hP g (kN_ag k hW (by rw [e]; exact eqN_rf _ _)) (kN_cm k hz)
      rw [if_pos ⟨a, b⟩] at this
      exact this
    have h1 : ∀ q, EX (bm h) (h 5 1) (h 0 17) (h 13) = some q → ∀ g, kN h g → g 13 = h 13 → P (if w = 0 then q.1 else q.2) g := fun q hq g k e => by
      have := hP g k e
      rw [hq] at this
      exact this
    have h0 : EX (bm h) (h 5 1) (h 0 17) (h 13) = none → ∀ g, kN h g → g 13 = h 13 → P (-4) g := fun hq g k e => by
      have := hP g k e
      rw [hq] at this
      exact this
    unfold EX at h1 h0
    have inner : ∀ (i : Int), 0 ≤ i → i < h 2 0 → (∀ g, kN h g → g 13 = h 13 → fout (FX (bm h) (h 5 1) (h 0 17) (h 13)) (h 2 0) (h 2 0 - i - 1).toNat (i + 1) none = fout (FX (bm h) (h 5 1) (h 0 17) (h 13)) (h 2 0) (h 2 0).toNat 0 none → V KM (d + 3) mX11_exchanged 22 [some (aR 0), some (aI w), some (aI (los (bm h) (h 5 1) (h 0 17) (-1) (h 13))), some (aI (i + 1)), none] [] g (rI P)) →
        ∀ (k : Nat) (j : Int) (g : HP), i < j → j + k = h 2 0 → kN h g → g 13 = h 13 → fout (FX (bm h) (h 5 1) (h 0 17) (h 13)) (h 2 0) (h 2 0 - i - 1).toNat (i + 1) (fin (FX (bm h) (h 5 1) (h 0 17) (h 13)) i k j none) = fout (FX (bm h) (h 5 1) (h 0 17) (h 13)) (h 2 0) (h 2 0).toNat 0 none → V KM (d + 3) mX11_exchanged 37 [some (aR 0), some (aI w), some (aI (los (bm h) (h 5 1) (h 0 17) (-1) (h 13))), some (aI i), some (aI j)] [] g (rI P) := by
      intro i hi0' hi1 hout k
      induction k with
      | zero =>
        intro j g hij hj kg e39 hR
        have e2 := kN_n kg
        refine v_X11_exchanged_37 w _ i j g ?_
        rw [e2]
        exact ⟨by omega, ⟨⟨by omega, by omega⟩, ⟨by omega, by omega⟩⟩, fun _ => hout g kg e39 hR, fun q => absurd q (by omega)⟩
      | succ k ih =>
        intro j g hij hj kg e39 hR
        have e2 := kN_n kg
        refine v_X11_exchanged_37 w _ i j g ?_
        rw [e2]
        refine ⟨by omega, ⟨⟨by omega, by omega⟩, ⟨by omega, by omega⟩⟩, fun q => absurd q (by omega), fun _ => m_lostBy (h := h) (p := h 13) hb hz b4 ht (Or.inl rfl) kg (by rw [e39]; exact eqN_rf _ _) hrow ⟨hi0', hi1⟩ ⟨by omega, by omega⟩ (fun g' k1 k2 k3 k4 => ⟨⟨los_iR hb (swp_ok hrow ⟨hi0', hi1⟩ ⟨by omega, by omega⟩), los_iR hb hrow⟩, fun q => ?_, fun q => ?_⟩)⟩
        · rw [fin, FX, if_neg (by omega)] at hR
          exact ih (j + 1) g' (by omega) (by omega) k1 (k2.trans e39) hR
        · rw [fin, FX, if_pos q, fin_fix (fun _ => rfl), fout_fix (fun _ _ => rfl)] at hR
          have := h1 (i, j) hR.symm g' k1 (k2.trans e39)
          refine ⟨hw, fun z => ?_, fun z => ?_⟩
          · rw [if_neg z] at this; exact this
          · rw [if_pos z] at this; exact this
    have outer : ∀ (k : Nat) (i : Int) (g : HP), 0 ≤ i → i + k = h 2 0 → kN h g → g 13 = h 13 → fout (FX (bm h) (h 5 1) (h 0 17) (h 13)) (h 2 0) k i none = fout (FX (bm h) (h 5 1) (h 0 17) (h 13)) (h 2 0) (h 2 0).toNat 0 none → V KM (d + 3) mX11_exchanged 22 [some (aR 0), some (aI w), some (aI (los (bm h) (h 5 1) (h 0 17) (-1) (h 13))), some (aI i), none] [] g (rI P) := by
      intro k
      induction k with
      | zero =>
        intro i g hi hk kg e39 hR
        have e2 := kN_n kg
        refine v_X11_exchanged_22 w _ i g ?_
        rw [e2]
        exact ⟨by omega, ⟨⟨by omega, by omega⟩, ⟨by omega, by omega⟩⟩, fun _ => h0 hR.symm g kg e39, fun q => absurd q (by omega)⟩
      | succ k ih =>
        intro i g hi hk kg e39 hR
        have e2 := kN_n kg
        refine v_X11_exchanged_22 w _ i g ?_
        rw [e2]
        refine ⟨by omega, ⟨⟨by omega, by omega⟩, ⟨by omega, by omega⟩⟩, fun q => absurd q (by omega), fun _ => ?_⟩
        refine inner i hi (by omega) (fun g2 k2 e2 R2 => ih (i + 1) g2 (by omega) (by omega) k2 e2 (by rw [show (h 2 0 - i - 1).toNat = k by omega] at R2; exact R2)) (h 2 0 - i - 1).toNat (i + 1) g (by omega) (by omega) kg e39 ?_
        rw [fout] at hR
        rw [show (h 2 0 - i - 1).toNat = k by omega] at hR ⊢
        exact hR
    refine m_lostBy (h := h) (p := h 13) hb hz b4 ht (Or.inl rfl) (kN_rf h) (eqN_rf _ _) hrow ⟨by omega, by omega⟩ ⟨by omega, by omega⟩ (fun g' k1 k2 k3 k4 => ?_)
    rw [swp_id]
    exact outer (h 2 0).toNat 0 g' (by omega) (by omega) k1 k2 rfl
  · have := hP h (AgV_rf _) hz
    rw [if_neg (by omega)] at this
    exact this
theorem m_isMove {d : Nat} {P : Int → HP → Prop} {o : Int} {h g : HP} {p : Int → Int} (hb : wfB (bm h)) (hz : cm h) (hr : 0 ≤ h 5 1 ∧ h 5 1 ≤ 3) (ht : 0 ≤ h 0 17 ∧ h 0 17 ≤ 900000) (ho : o = 0 ∨ o = 1) (kg : kN h g) (he : eqN (h 2 0) (g 13) p) (hrow : rowOK (h 2 0) p)
    (h1 : 0 ≤ (MB (bm h) (h 5 1) (h 0 17) o p).2.1 → ∀ g', kN h g' → g' 0 = g 0 → g' 20 = g 20 → eqN (h 2 0) (g' 13) (swp p (MB (bm h) (h 5 1) (h 0 17) o p).2.1 (MB (bm h) (h 5 1) (h 0 17) o p).2.2) → P 1 g') (h0 : ¬ 0 ≤ (MB (bm h) (h 5 1) (h 0 17) o p).2.1 → ∀ g', kN h g' → g' 0 = g 0 → g' 20 = g 20 → eqN (h 2 0) (g' 13) p → P 0 g') : Ct KM (d + 3) mX11_isMove [aR 0, aI o] g (rI P) := by
  have hn : 1 ≤ h 2 0 ∧ h 2 0 ≤ 8 := hb.1
  have how : ∀ x, 0 ≤ x → x < h 2 0 → h 4 x = 0 ∨ h 4 x = 1 := fun x q0 q1 => hb.2.2.2.2 x q0 q1
  have ho3 : o = -1 ∨ o = 0 ∨ o = 1 := by omega
  unfold MB at h1 h0
  have inner : ∀ (i : Int), 0 ≤ i → i < h 2 0 → (∀ (s : S3) (g1 : HP), iR s.1 → S3ok (h 2 0) s → kN h g1 → g1 0 = g 0 → g1 20 = g 20 → eqN (h 2 0) (g1 13) p → fout (FM (bm h) (h 5 1) (h 0 17) o p) (h 2 0) (h 2 0 - i - 1).toNat (i + 1) s = fout (FM (bm h) (h 5 1) (h 0 17) o p) (h 2 0) (h 2 0).toNat 0 (los (bm h) (h 5 1) (h 0 17) o p, -1, -1) → V KM (d + 3) mX11_isMove 16 [some (aR 0), some (aI o), some (aI s.1), some (aI s.2.1), some (aI s.2.2), some (aI (i + 1)), none, none] [] g1 (rI P)) →
      ∀ (k : Nat) (j : Int) (s : S3) (g1 : HP), i < j → j + k = h 2 0 → iR s.1 → S3ok (h 2 0) s → kN h g1 → g1 0 = g 0 → g1 20 = g 20 → eqN (h 2 0) (g1 13) p → fout (FM (bm h) (h 5 1) (h 0 17) o p) (h 2 0) (h 2 0 - i - 1).toNat (i + 1) (fin (FM (bm h) (h 5 1) (h 0 17) o p) i k j s) = fout (FM (bm h) (h 5 1) (h 0 17) o p) (h 2 0) (h 2 0).toNat 0 (los (bm h) (h 5 1) (h 0 17) o p, -1, -1) → V KM (d + 3) mX11_isMove 33 [some (aR 0), some (aI o), some (aI s.1), some (aI s.2.1), some (aI s.2.2), some (aI i), some (aI j), none] [] g1 (rI P) := by
    intro i hi0 hi1 hout k
    induction k with
    | zero =>
      intro j s g1 hij hj hs hok k1 k6 k7 e13 hR
      have e2 := kN_n k1
      refine v_X11_isMove_33 o _ _ _ i j g1 ?_
      rw [e2]
      exact ⟨by omega, ⟨⟨by omega, by omega⟩, ⟨by omega, by omega⟩⟩, fun _ => v_X11_isMove_103 o _ _ _ i j g1 (hout s g1 hs hok k1 k6 k7 e13 hR), fun q => absurd q (by omega)⟩
    | succ k ih =>
      intro j s g1 hij hj hs hok k1 k6 k7 e13 hR
      have e2 := kN_n k1
      have e4 : g1 4 = h 4 := k1.1 4 (by decide) (by decide) (by decide) (by decide) (by decide) (by decide)
      have oi := how i hi0 hi1
      have oj := how j (by omega) (by omega)
      have next : ∀ v, iR v → (h 4 j = o → v = los (bm h) (h 5 1) (h 0 17) o (swp p i j)) → (h 4 j ≠ o → v = s.1) → h 4 i = o → ∀ g2 : HP, g2 0 = g 0 → g2 20 = g 20 → kN h g2 → eqN (h 2 0) (g2 13) p → V KM (d + 3) mX11_isMove 79 [some (aR 0), some (aI o), some (aI s.1), some (aI s.2.1), some (aI s.2.2), some (aI i), some (aI j), none] [aI v] g2 (rI P) := fun v hv z1 z2 z3 g2 c0 c20 k2 c13 => by
        refine v_X11_isMove_79 o _ _ _ i j v g2 ⟨⟨hv, hs⟩, fun q => v_X11_isMove_97 o _ _ _ i j v g2 (ih (j + 1) s g2 (by omega) (by omega) hs hok k2 c0 c20 c13 ?_), fun q => v_X11_isMove_97 o _ _ _ i j v g2 (ih (j + 1) (v, i, j) g2 (by omega) (by omega) hv (Or.inr ⟨hi0, hij, by show j < h 2 0; omega⟩) k2 c0 c20 c13 ?_)⟩
        · rw [fin, FM, if_neg (fun y => by have := y.2.2; rw [← z1 y.2.1] at this; omega)] at hR
          exact hR
        · have hjo : h 4 j = o := by
            by_cases e : h 4 j = o
            · exact e
            · have := z2 e
              omega
          have z1 := z1 hjo
          rw [fin, FM, if_pos ⟨z3, hjo, by rw [← z1]; exact q⟩, ← z1] at hR
          exact hR
      refine v_X11_isMove_33 o _ _ _ i j g1 ?_
      rw [e2, e4]
      refine ⟨by omega, ⟨⟨by omega, by omega⟩, ⟨by omega, by omega⟩⟩, fun q => absurd q (by omega), fun _ => ⟨by omega, ⟨⟨by omega, by omega⟩, ⟨by omega, by omega⟩⟩, fun q => v_X11_isMove_103 o _ _ _ i j g1 (hout s g1 hs hok k1 k6 k7 e13 ?_), fun q => ⟨by omega, ⟨⟨by omega, by omega⟩, ⟨by omega, by omega⟩⟩, fun q2 => next s.1 hs (fun z => absurd z q2) (fun _ => rfl) q g1 k6 k7 k1 e13, fun q2 => ?_⟩⟩⟩
      · rw [fin_fix (fun j => by unfold FM; rw [if_neg (fun z => q z.1)])] at hR
        exact hR
      · refine m_lostBy (h := h) (p := p) hb hz hr ht ho3 k1 e13 hrow ⟨hi0, hi1⟩ ⟨by omega, by omega⟩ (fun g' a1 a2 a3 a4 => next _ (los_iR hb (swp_ok hrow ⟨hi0, hi1⟩ ⟨by omega, by omega⟩)) (fun _ => rfl) (fun z => absurd q2 z) q g' (a4.trans k6) (a3.trans k7) a1 (by rw [a2]; exact e13))
  have outer : ∀ (k : Nat) (i : Int) (s : S3) (g1 : HP), 0 ≤ i → i + k = h 2 0 → iR s.1 → S3ok (h 2 0) s → kN h g1 → g1 0 = g 0 → g1 20 = g 20 → eqN (h 2 0) (g1 13) p → fout (FM (bm h) (h 5 1) (h 0 17) o p) (h 2 0) k i s = fout (FM (bm h) (h 5 1) (h 0 17) o p) (h 2 0) (h 2 0).toNat 0 (los (bm h) (h 5 1) (h 0 17) o p, -1, -1) → V KM (d + 3) mX11_isMove 16 [some (aR 0), some (aI o), some (aI s.1), some (aI s.2.1), some (aI s.2.2), some (aI i), none, none] [] g1 (rI P) := by
    intro k
    induction k with
    | zero =>
      intro i s g1 hi hk hs hok k1 k6 k7 e13 hR
      have e2 := kN_n k1
      have hR : s = fout (FM (bm h) (h 5 1) (h 0 17) o p) (h 2 0) (h 2 0).toNat 0 (los (bm h) (h 5 1) (h 0 17) o p, -1, -1) := hR
      dsimp only [bn, bm] at h1 h0
      rw [← hR] at h1 h0
      refine v_X11_isMove_16 o _ _ _ i g1 ?_
      rw [e2]
      refine ⟨by omega, ⟨⟨by omega, by omega⟩, ⟨by omega, by omega⟩⟩, fun _ => ⟨⟨by omega, by omega⟩, fun c => v_X11_isMove_120 o _ _ _ i g1 ⟨⟨by omega, by omega⟩, fun _ => ⟨by omega, h0 (by omega) g1 k1 k6 k7 e13⟩, fun c2 => absurd c2 (by omega)⟩, fun c => e_X11_changes _ _ g1 ⟨by omega, by omega, by omega, by omega, v_X11_isMove_120 o _ _ _ i _ ⟨⟨by omega, by omega⟩, fun c2 => absurd c2 (by omega), fun _ => ⟨by omega, h1 c _ ⟨fun a q1 q2 q3 q4 q5 q6 => ?_, fun x q => ?_⟩ ?_ ?_ ?_⟩⟩⟩⟩, fun q => absurd q (by omega)⟩
      · rw [hsw_n q2]; exact k1.1 a q1 q2 q3 q4 q5 q6
      · rw [hsw_n (by decide)]; exact k1.2 x q
      · rw [hsw_n (by decide)]; exact k6
      · rw [hsw_n (by decide)]; exact k7
      · rw [hsw]; exact swp_ag e13 ⟨by omega, by omega⟩ ⟨by omega, by omega⟩
    | succ k ih =>
      intro i s g1 hi hk hs hok k1 k6 k7 e13 hR
      have e2 := kN_n k1
      refine v_X11_isMove_16 o _ _ _ i g1 ?_
      rw [e2]
      refine ⟨by omega, ⟨⟨by omega, by omega⟩, ⟨by omega, by omega⟩⟩, fun q => absurd q (by omega), fun _ => ?_⟩
      refine inner i hi (by omega) (fun s2 g2 c1 c2 c3 c4 c5 c6 R2 => ih (i + 1) s2 g2 (by omega) (by omega) c1 c2 c3 c4 c5 c6 (by rw [show (h 2 0 - i - 1).toNat = k by omega] at R2; exact R2)) (h 2 0 - i - 1).toNat (i + 1) s g1 (by omega) (by omega) hs hok k1 k6 k7 e13 ?_
      rw [fout] at hR
      rw [show (h 2 0 - i - 1).toNat = k by omega] at hR ⊢
      exact hR
  refine e_X11_isMove o g (m_lostBy (h := h) (p := p) hb hz hr ht ho3 kg he hrow ⟨by omega, by omega⟩ ⟨by omega, by omega⟩ (fun g' a1 a2 a3 a4 => ?_))
  rw [swp_id]
  exact outer (h 2 0).toNat 0 (los (bm h) (h 5 1) (h 0 17) o p, -1, -1) g' (by omega) (by omega) (los_iR hb hrow) (Or.inl ⟨rfl, rfl⟩) a1 a4 a3 (by rw [a2]; exact he) rfl
