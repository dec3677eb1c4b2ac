/-! THE MODEL: simple calls -/
theorem vm_eq {g g' : HP} (ha : ∀ a, a = 1 ∨ a = 2 ∨ a = 4 ∨ a = 5 ∨ a = 6 ∨ a = 8 ∨ a = 9 ∨ a = 10 ∨ a = 11 ∨ a = 12 ∨ a = 13 ∨ a = 14 ∨ a = 15 → g' a = g a) (h0 : ∀ i, i = 0 ∨ i = 11 ∨ i = 15 ∨ i = 17 ∨ i = 18 → g' 0 i = g 0 i) : vm g' = vm g := by
  dsimp only [vm, bm]
  rw [ha 1 (by decide), ha 2 (by decide), ha 4 (by decide), ha 5 (by decide), ha 6 (by decide), ha 8 (by decide), ha 9 (by decide), ha 10 (by decide), ha 11 (by decide), ha 12 (by decide), ha 13 (by decide), ha 14 (by decide), ha 15 (by decide), h0 0 (by decide), h0 11 (by decide), h0 17 (by decide), h0 18 (by decide)]
def cm (g : HP) : Prop := g 0 15 = 0
theorem ctm0 {g : HP} (h : cm g) : ctm g = z0 := by
  funext k
  unfold ctm
  rw [show g 0 15 = 0 from h]
  unfold b_iand b_ishr
  rw [show Int32.ofInt 0 = 0 from rfl, Int32.zero_shiftRight, show (0 : Int32).toInt = 0 from rfl, show Int32.ofInt 0 = 0 from rfl, Int32.zero_and]
  rfl
/-- what is tried is what there is; nights on it -/
theorem m_trial {d : Nat} {P : Int → HP → Prop} {r t n : Int} {g h : HP} (hb : wfB (bm g)) (hz : cm g) (hp : r199 (g 2 0) (g 13)) (hr : 0 ≤ r ∧ r ≤ 3) (ht : 0 ≤ t ∧ t ≤ 900000) (hn : 0 ≤ n ∧ n ≤ 100)
    (ha : ∀ a, a ≠ 16 → a ≠ 18 → h a = g a) (hx : ∀ x, 0 ≤ x → x < 8 → h 16 x = g 13 x) (ho : h 18 0 = 0) (ho1 : h 18 1 = 0)
    (hP : ∀ h', (∀ a, a ≠ 16 → a ≠ 17 → a ≠ 18 → h' a = g a) → eqN (g 2 0) (h' 16) (NN (bm g) r z0 (g 13) t n.toNat) → (∀ o, o = 0 ∨ o = 1 → h' 18 o = lossO (bm g) o r z0 (g 13) t n.toNat) → P (lossN (bm g) r z0 (g 13) t n.toNat) h') :
    Ct KM (d + 2) mX11_nights [aR 0, aI r, aI t, aI n] h (rI P) := by
  have hn8 : g 2 0 ≤ 8 := hb.1.2
  have e0 : h 0 = g 0 := ha 0 (by decide) (by decide)
  have e2 : h 2 = g 2 := ha 2 (by decide) (by decide)
  have eb : bm h = bm g := by
    dsimp only [bm]
    rw [e0, e2, ha 5 (by decide) (by decide), ha 10 (by decide) (by decide), ha 11 (by decide) (by decide), ha 12 (by decide) (by decide), ha 4 (by decide) (by decide)]
  have ec : ctm h = z0 := ctm0 (by show h 0 15 = 0; rw [e0]; exact hz)
  have e16 : eqN (g 2 0) (h 16) (g 13) := fun x h0 h1 => hx x h0 (by omega)
  refine c_nights (by rw [eb]; exact hb) hr ht hn (by rw [e2]; exact fun x h0 h1 => by rw [e16 x h0 h1]; exact r199_ok hp x h0 h1) (fun h' a1 a2 a3 => ?_)
  rw [eb] at a2 a3 ⊢
  rw [ec, e2] at a2
  have e1 : eqN (g 2 0) (h' 16) (NN (bm g) r z0 (g 13) t n.toNat) := fun x h0 h1 => (a2 x h0 h1).trans (NN_ag (b := bm g) (b' := bm g) (ct := z0) (ct' := z0) hb (agB_rf _) e16 (eqN_rf _ _) n.toNat x h0 h1)
  have q1 : tot (bm g) (h 16) - tot (bm g) (h' 16) = lossN (bm g) r z0 (g 13) t n.toNat := by
    unfold lossN
    rw [tot_ag (b := bm g) (agB_rf _) e16, tot_ag (b := bm g) (agB_rf _) e1]
  rw [q1]
  refine hP h' (fun a h1 h2 h3 => (a1 a h1 h2 h3).trans (ha a h1 h3)) e1 (fun o hoo => ?_)
  rw [a3 o, if_pos hoo, totO_ag (b := bm g) (agB_rf _) e16, totO_ag (b := bm g) (agB_rf _) e1]
  unfold lossO
  rcases hoo with rfl | rfl
  · rw [ho]; omega
  · rw [ho1]; omega
theorem vm_of {g h' : HP} (ha : ∀ a, a ≠ 16 → a ≠ 17 → a ≠ 18 → h' a = g a) : vm h' = vm g := vm_eq (fun a q => ha a (by omega) (by omega) (by omega)) (fun i _ => by rw [ha 0 (by decide) (by decide) (by decide)])
theorem cm_of {g h' : HP} (ha : ∀ a, a ≠ 16 → a ≠ 17 → a ≠ 18 → h' a = g a) (hz : cm g) : cm h' := by
  show h' 0 15 = 0
  rw [ha 0 (by decide) (by decide) (by decide)]
  exact hz
theorem m_wipe {d : Nat} {P : Int → HP → Prop} {h : HP} (hP : P (h 0 0) (hset h 0 0 0)) : Ct KM d mX11_wipe [aR 0] h (rI P) := e_X11_wipe h hP
theorem m_bin {d : Nat} {P : Int → HP → Prop} {N i w : Int} {g : HP} (hW : WV N (vm g)) (hi : iR i) (hw : iR w) (hP : P (sp_bin (vm g) i w) g) : Ct KM (d + 2) mX11_bin [aR 0, aI i, aI w] g (rI P) := by
  have hn : 1 ≤ g 2 0 ∧ g 2 0 ≤ 8 := hW.2.2.1.1
  unfold sp_bin at hP
  dsimp only [bn, bow, qb, qp, vm, bm] at hP
  refine e_X11_bin i w g (c_misBin hi ⟨by omega, hn.2⟩ (fun a b => bT ⟨hw, c_inI hw (by decide) (by decide) (fun a2 b2 => bT' ⟨hw, fun q => ⟨by omega, ?_⟩, fun q => ⟨by omega, ?_⟩⟩) (fun a2 => bF' (v_X11_bin_18 i w g ?_))⟩) (fun a => bF (v_X11_bin_18 i w g ?_)))
  · rw [if_pos ⟨⟨a, b⟩, a2, b2⟩, if_neg q] at hP; exact hP
  · rw [if_pos ⟨⟨a, b⟩, a2, b2⟩, if_pos q] at hP; exact hP
  · rw [if_neg (by omega)] at hP; exact hP
  · rw [if_neg (by omega)] at hP; exact hP
theorem m_gap {d : Nat} {P : Int → HP → Prop} {N i w : Int} {g : HP} (hW : WV N (vm g)) (hi : iR i) (hw : iR w) (hP : P (sp_gap (vm g) i w) g) : Ct KM (d + 1) mX11_gap [aR 0, aI i, aI w] g (rI P) := by
  have hG : 0 ≤ g 0 11 ∧ g 0 11 ≤ 10 := hW.2.2.1.2.1
  have hwl : ∀ k, 0 ≤ k → k < g 0 11 → (g 12 k = 0 ∨ g 12 k = 1) := fun k h0 h1 => (hW.2.2.1.2.2.2.1 k h0 h1).2
  unfold sp_gap at hP
  dsimp only [bG, blo, bhi, bwl, qb, vm, bm] at hP
  refine e_X11_gap i w g ⟨hi, ⟨by omega, by omega⟩, c_inI hi (by decide) ⟨by omega, by omega⟩ (fun a b => bT ⟨hw, c_inI hw (by decide) (by decide) (fun a2 b2 => bT' ?_) (fun a2 => bF' (v_X11_gap_28 i w g ?_))⟩) (fun a => bF (v_X11_gap_28 i w g ?_))⟩
  · have h9 := hwl i a (by omega)
    rw [if_pos ⟨⟨a, by omega⟩, a2, b2⟩] at hP
    refine ⟨hw, fun q => ⟨⟨hw, by decide⟩, fun q2 => ⟨by omega, ⟨by omega, by omega⟩, fun q3 => ?_, fun q3 => ?_⟩, fun q2 => ⟨by omega, ?_⟩⟩, fun q => ⟨by omega, ?_⟩⟩
    · rw [if_neg q, if_neg q2, q3] at hP; exact hP
    · rw [if_neg q, if_neg q2, show g 12 i = 1 by omega] at hP; exact hP
    · rw [if_neg q, if_pos q2] at hP; exact hP
    · rw [if_pos q] at hP; exact hP
  · rw [if_neg (by omega)] at hP; exact hP
  · rw [if_neg (by omega)] at hP; exact hP
theorem m_left {d : Nat} {P : Int → HP → Prop} {N i k : Int} {g : HP} (hW : WV N (vm g)) (hN : N ≤ 1000) (hz : cm g) (hi : iR i) (hk : iR k) (hP : ∀ h', vm h' = vm g → cm h' → P (sp_left (vm g) i k) h') : Ct KM (d + 3) mX11_left [aR 0, aI i, aI k] g (rI P) := by
  obtain ⟨b1, b2, b3, b4, b5, b6, b7, b8, -⟩ := hW
  have hn : 1 ≤ g 2 0 ∧ g 2 0 ≤ 8 := b3.1
  unfold sp_left at hP
  dsimp only [bn, qb, qr, qp, qt, vm] at hP b4 b8 b7
  refine e_X11_left i k g (c_misBin hi ⟨by omega, hn.2⟩ (fun a b => bT (c_isLong hk (fun a2 b2 => bT' (c_tries (fun h c1 c2 c3 c4 => ⟨by omega, ?_⟩))) (fun a2 => bF' ?_))) (fun a => bF ?_))
  · rw [c1 5 (by decide) (by decide), c1 0 (by decide) (by decide)]
    refine m_trial b3 hz b7 b4 ⟨b8.1, by omega⟩ ⟨a2, by omega⟩ c1 c2 c3 c4 (fun h' f1 f2 f3 => ?_)
    have hl := lossN_in (r := g 5 1) (ct := z0) (t := g 0 17) (b := bm g) b3 (r199_ok b7) k.toNat
    refine ⟨⟨by omega, by omega⟩, fun _ => ⟨by omega, ?_⟩, fun q => absurd q (by omega)⟩
    have := hP h' (vm_of f1) (cm_of f1 hz)
    rw [if_pos ⟨⟨a, b⟩, a2, b2⟩] at this
    rw [f2 i a b]
    exact this
  · have := hP g rfl hz
    rw [if_neg (by omega)] at this; exact this
  · have := hP g rfl hz
    rw [if_neg (by show ¬ ((0 ≤ i ∧ i < g 2 0) ∧ _); omega)] at this; exact this
theorem m_lost {d : Nat} {P : Int → HP → Prop} {N k o : Int} {g : HP} (hW : WV N (vm g)) (hN : N ≤ 1000) (hz : cm g) (hk : iR k) (ho : iR o) (hP : ∀ h', vm h' = vm g → cm h' → P (sp_lost (vm g) k o) h') : Ct KM (d + 3) mX11_lost [aR 0, aI k, aI o] g (rI P) := by
  obtain ⟨b1, b2, b3, b4, b5, b6, b7, b8, -⟩ := hW
  unfold sp_lost at hP
  dsimp only [bn, qb, qr, qp, qt, vm] at hP b4 b8 b7
  refine e_X11_lost k o g (c_isLong hk (fun a b => bT ⟨ho, c_inI ho (by decide) (by decide) (fun a2 b2 => bT' (c_tries (fun h c1 c2 c3 c4 => ⟨by omega, ?_⟩))) (fun a2 => bF' ?_)⟩) (fun a => bF ?_))
  · rw [c1 5 (by decide) (by decide), c1 0 (by decide) (by decide)]
    refine m_trial b3 hz b7 b4 ⟨b8.1, by omega⟩ ⟨a, by omega⟩ c1 c2 c3 c4 (fun h' f1 f2 f3 => ?_)
    have := hP h' (vm_of f1) (cm_of f1 hz)
    rw [if_pos ⟨⟨a, b⟩, a2, b2⟩] at this
    refine ⟨ho, fun q => ⟨by omega, ?_⟩, fun q => ?_⟩
    · rw [if_neg (by omega)] at this
      rw [f3 o (by omega)]
      exact this
    · rw [if_pos q] at this
      exact this
  · have := hP g rfl hz
    rw [if_neg (by omega)] at this; exact this
  · have := hP g rfl hz
    rw [if_neg (by omega)] at this; exact this
theorem m_others {d : Nat} {P : Int → HP → Prop} {N r k : Int} {g : HP} (hW : WV N (vm g)) (hN : N ≤ 1000) (hz : cm g) (hr : iR r) (hk : iR k) (hP : ∀ h', vm h' = vm g → cm h' → P (sp_others (vm g) r k) h') : Ct KM (d + 3) mX11_others [aR 0, aI r, aI k] g (rI P) := by
  obtain ⟨b1, b2, b3, b4, b5, b6, b7, b8, -⟩ := hW
  unfold sp_others at hP
  dsimp only [bn, qb, qr, qp, qt, vm] at hP b4 b8 b7
  refine e_X11_others r k g ⟨hr, c_inI hr (by decide) (by decide) (fun a b => bT (c_isLong hk (fun a2 b2 => bT' (c_tries (fun h c1 c2 c3 c4 => ?_))) (fun a2 => bF' ?_))) (fun a => bF ?_)⟩
  · rw [c1 0 (by decide) (by decide)]
    refine m_trial b3 hz b7 ⟨a, b⟩ ⟨b8.1, by omega⟩ ⟨a2, by omega⟩ c1 c2 c3 c4 (fun h' f1 f2 f3 => ?_)
    have := hP h' (vm_of f1) (cm_of f1 hz)
    rw [if_pos ⟨⟨a, b⟩, a2, b2⟩] at this
    exact this
  · have := hP g rfl hz
    rw [if_neg (by omega)] at this; exact this
  · have := hP g rfl hz
    rw [if_neg (by omega)] at this; exact this
/-- lostDrawn(z, n) -/
theorem m_dr {d : Nat} {P : Int → HP → Prop} {N z n : Int} {g : HP} (hW : WV N (vm g)) (hN : N ≤ 1000) (hz : cm g) (hzz : 0 ≤ z ∧ z ≤ 9999) (hn : 0 ≤ n ∧ n ≤ 100)
    (hP : ∀ h', vm h' = vm g → cm h' → h' 0 29 = tot (bm g) (drw z) → P (lossN (bm g) (g 5 1) z0 (drw z) (g 0 17) n.toNat) h') : Ct KM (d + 3) mX11_lostDrawn [aR 0, aI z, aI n] g (rI P) := by
  obtain ⟨b1, b2, b3, b4, b5, b6, b7, b8, -⟩ := hW
  have hnn : 1 ≤ g 2 0 ∧ g 2 0 ≤ 8 := b3.1
  dsimp only [bn, qb, qr, qp, qt, vm] at b3 b4 b8
  refine e_X11_lostDrawn z n g ?_
  have key : ∀ (m k : Nat) (h : HP), k + m = 8 → (∀ a, a ≠ 0 → a ≠ 16 → h a = g a) → (∀ i, i ≠ 29 → h 0 i = g 0 i) → (∀ x : Int, 0 ≤ x → x < (k : Int) → h 16 x = if x < g 2 0 then drw z x else 0) → h 0 29 = Sm (fun x => if x < g 2 0 then drw z x else 0) k →
      V KM (d + 3) mX11_lostDrawn 7 [some (aR 0), some (aI z), some (aI n), some (aI k), none, none] [] h (rI P) := by
    intro m
    induction m with
    | zero =>
      intro k h hk ha h0 hx hs
      have e8 : k = 8 := by omega
      subst e8
      have eb : bm h = bm g := by
        dsimp only [bm]
        rw [h0 11 (by decide), ha 2 (by decide) (by decide), ha 5 (by decide) (by decide), ha 10 (by decide) (by decide), ha 11 (by decide) (by decide), ha 12 (by decide) (by decide), ha 4 (by decide) (by decide)]
      have e16 : eqN (g 2 0) (h 16) (drw z) := fun x q1 q2 => by rw [hx x q1 (by omega), if_pos q2]
      have hch : cm h := by show h 0 15 = 0; rw [h0 15 (by decide)]; exact hz
      refine v_X11_lostDrawn_7 z n _ h ⟨⟨⟨by omega, by omega⟩, by decide⟩, fun _ => ⟨by omega, ?_⟩, fun q => absurd q (by omega)⟩
      rw [ha 5 (by decide) (by decide), h0 17 (by decide)]
      refine c_nights (by rw [eb]; exact b3) b4 ⟨b8.1, by omega⟩ hn (by rw [ha 2 (by decide) (by decide)]; exact fun x q1 q2 => by rw [e16 x q1 q2]; exact drw_ok z x q1 q2) (fun h' a1 a2 a3 => ?_)
      rw [eb, ctm0 hch, ha 2 (by decide) (by decide)] at a2
      rw [eb]
      have e1 : eqN (g 2 0) (h' 16) (NN (bm g) (g 5 1) z0 (drw z) (g 0 17) n.toNat) := fun x q1 q2 => (a2 x q1 q2).trans (NN_ag (b := bm g) (b' := bm g) (ct := z0) (ct' := z0) b3 (agB_rf _) e16 (eqN_rf _ _) n.toNat x q1 q2)
      have q1 : tot (bm g) (h 16) - tot (bm g) (h' 16) = lossN (bm g) (g 5 1) z0 (drw z) (g 0 17) n.toNat := by
        unfold lossN
        rw [tot_ag (b := bm g) (agB_rf _) e16, tot_ag (b := bm g) (agB_rf _) e1]
      rw [q1]
      have f0 : ∀ i, i ≠ 29 → h' 0 i = g 0 i := fun i hi => by rw [a1 0 (by decide) (by decide) (by decide)]; exact h0 i hi
      refine hP h' (vm_eq (fun a q => (a1 a (by omega) (by omega) (by omega)).trans (ha a (by omega) (by omega))) (fun i q => f0 i (by omega))) (by show h' 0 15 = 0; rw [f0 15 (by decide)]; exact hz) ?_
      rw [a1 0 (by decide) (by decide) (by decide), hs]
      have key2 : ∀ j : Nat, Sm (fun x => if x < g 2 0 then drw z x else 0) ((g 2 0).toNat + j) = Sm (drw z) (g 2 0).toNat := by
        intro j
        induction j with
        | zero => exact Sm_congr _ (fun i hi => if_pos (by omega))
        | succ j ihj =>
          have e9 : Sm (fun x => if x < g 2 0 then drw z x else 0) ((g 2 0).toNat + (j + 1)) = Sm (fun x => if x < g 2 0 then drw z x else 0) ((g 2 0).toNat + j) + (if (((g 2 0).toNat + j : Nat) : Int) < g 2 0 then drw z (((g 2 0).toNat + j : Nat) : Int) else 0) := rfl
          rw [e9, ihj, if_neg (by omega)]
          omega
      have := key2 (8 - (g 2 0).toNat)
      rw [show (g 2 0).toNat + (8 - (g 2 0).toNat) = 8 by omega] at this
      exact this
    | succ m ih =>
      intro k h hk ha h0 hx hs
      have e2 : h 2 = g 2 := ha 2 (by decide) (by decide)
      have hy := sq_ok (y := ((7919 * z) + (6151 * (k : Int))) + 1) (by omega) (by omega)
      have step : ∀ s x4 : Int, s = (if (k : Int) < g 2 0 then drw z k else 0) → V KM (d + 3) mX11_lostDrawn 63 [some (aR 0), some (aI z), some (aI n), some (aI k), some (aL x4), none] [aI s, aI k, aR 16] h (rI P) := by
        intro s x4 hse
        refine v_X11_lostDrawn_63 z n k x4 s k h ⟨by omega, by omega, ?_⟩
        refine ih (k + 1) _ (by omega) (fun a q1 q2 => by rw [hset_n q1, hset_n q2]; exact ha a q1 q2) (fun i hi => by rw [hset_m hi, hset_n (by decide)]; exact h0 i hi) (fun x q1 q2 => ?_) ?_
        · rw [hset_n (by decide)]
          by_cases e : x = k
          · subst e; rw [hset_s, hse]
          · rw [hset_m e]; exact hx x q1 (by omega)
        · rw [hset_s, hset_s, hs, Sm, hse]
      refine v_X11_lostDrawn_7 z n k h ⟨⟨⟨by omega, by omega⟩, by decide⟩, fun q => absurd q (by omega), fun _ => ⟨⟨by omega, by omega⟩, ⟨by omega, by omega⟩, by omega, ⟨⟨by omega, by omega⟩, by rw [e2]; exact ⟨by omega, by omega⟩⟩, fun q => step 0 _ (by rw [e2] at q; rw [if_neg (by omega)]), fun q => ⟨⟨hy.1, hy.2, by decide, by decide⟩, ⟨by omega, ⟨by omega, by omega⟩, by decide, by decide⟩, step _ _ (by rw [e2] at q; rw [if_pos q]; rfl)⟩⟩⟩
  exact key 8 0 (hset g 0 29 0) rfl (fun a q1 _ => by rw [hset_n q1]) (fun i hi => by rw [hset_m hi]) (fun x q1 q2 => absurd q2 (by omega)) (by rw [hset_s]; rfl)
theorem m_drawn {d : Nat} {P : Int → HP → Prop} {N z k : Int} {g : HP} (hW : WV N (vm g)) (hN : N ≤ 1000) (hz : cm g) (hzi : iR z) (hk : iR k) (hP : ∀ h', vm h' = vm g → cm h' → P (sp_drawn (vm g) z k) h') : Ct KM (d + 4) mX11_drawn [aR 0, aI z, aI k] g (rI P) := by
  unfold sp_drawn at hP
  refine e_X11_drawn z k g (c_isSeed hzi (fun a b => bT (c_isLong hk (fun a2 b2 => bT (m_dr hW hN hz ⟨a, b⟩ ⟨a2, by omega⟩ (fun h' e1 e2 _ => ?_))) (fun a2 => bF ?_))) (fun a => bF ?_))
  · have := hP h' e1 e2
    rw [if_pos ⟨⟨a, b⟩, a2, b2⟩] at this
    exact this
  · have := hP g rfl hz
    rw [if_neg (by omega)] at this; exact this
  · have := hP g rfl hz
    rw [if_neg (by omega)] at this; exact this
theorem m_ten {d : Nat} {P : Int → HP → Prop} {N z k : Int} {g : HP} (hW : WV N (vm g)) (hN : N ≤ 1000) (hz : cm g) (hzi : iR z) (hk : iR k) (hP : ∀ h', vm h' = vm g → cm h' → P (sp_ten (vm g) z k) h') : Ct KM (d + 4) mX11_ten [aR 0, aI z, aI k] g (rI P) := by
  unfold sp_ten at hP
  have key : (0 ≤ z ∧ z ≤ 9999) → (0 ≤ k ∧ k ≤ 60) → ∀ (m j : Nat) (h : HP), j + m = 10 → vm h = vm g → cm h → V KM (d + 4) mX11_ten 21 [some (aR 0), some (aI z), some (aI k), some (aI (tenS (vm g) z k j)), some (aI j)] [] h (rI P) := by
    intro hz1 hk1 m
    induction m with
    | zero =>
      intro j h hj e1 e2
      refine v_X11_ten_21 z k _ j h ⟨⟨⟨by omega, by omega⟩, by decide⟩, fun _ => ?_, fun q => absurd q (by omega)⟩
      have := hP h e1 e2
      rw [if_pos ⟨hz1, hk1⟩] at this
      rw [show j = 10 by omega]
      exact this
    | succ m ih =>
      intro j h hj e1 e2
      have hWh : WV N (vm h) := by rw [e1]; exact hW
      have hm : 0 ≤ (z + j) % 10000 ∧ (z + j) % 10000 ≤ 9999 := by omega
      refine v_X11_ten_21 z k _ j h ⟨⟨⟨by omega, by omega⟩, by decide⟩, fun q => absurd q (by omega), fun _ => ⟨⟨by omega, ⟨by omega, by omega⟩, by decide, by decide⟩, m_dr hWh hN e2 hm ⟨hk1.1, by omega⟩ (fun h' f1 f2 f3 => ?_)⟩⟩
      have hti := tot_in (b := bm h) hWh.2.2.1 (drw_ok ((z + j) % 10000))
      have hlo := lossN_in (r := h 5 1) (ct := z0) (t := h 0 17) (b := bm h) hWh.2.2.1 (drw_ok ((z + j) % 10000)) k.toNat
      have eqb : bm h = bm g := congrArg (fun l : LV => l.2.2.1) e1
      have eqr : h 5 1 = g 5 1 := congrArg (fun l : LV => l.2.2.2.1) e1
      have eqt : h 0 17 = g 0 17 := congrArg (fun l : LV => l.2.2.2.2.2.2.2.2.2.1) e1
      rw [f3]
      refine ⟨⟨⟨by omega, by omega⟩, ⟨by omega, by omega⟩⟩, fun q => v_X11_ten_56 z k _ j _ _ h' ?_, fun q => v_X11_ten_56 z k _ j _ _ h' ?_⟩
      · have h9 := ih (j + 1) h' (by omega) (f1.trans e1) f2
        rw [eqb, eqr, eqt] at q
        rw [tenS, if_neg (show ¬ tot (bm g) (drw ((z + j) % 10000)) < 2 * lossN (bm g) (g 5 1) z0 (drw ((z + j) % 10000)) (g 0 17) k.toNat by omega)] at h9
        exact h9
      · have h9 := ih (j + 1) h' (by omega) (f1.trans e1) f2
        rw [eqb, eqr, eqt] at q
        rw [tenS, if_pos (show tot (bm g) (drw ((z + j) % 10000)) < 2 * lossN (bm g) (g 5 1) z0 (drw ((z + j) % 10000)) (g 0 17) k.toNat by omega)] at h9
        exact h9
  refine e_X11_ten z k g (c_isSeed hzi (fun a b => bT (c_isLong hk (fun a2 b2 => bT' (key ⟨a, b⟩ ⟨a2, b2⟩ 10 0 g rfl rfl hz)) (fun a2 => bF' ?_))) (fun a => bF ?_))
  · have := hP g rfl hz
    rw [if_neg (by omega)] at this; exact this
  · have := hP g rfl hz
    rw [if_neg (by omega)] at this; exact this
theorem m_count {d : Nat} {P : Int → HP → Prop} {N w : Int} {g : HP} (hW : WV N (vm g)) (hw : iR w) (hP : P (sp_count (vm g) w) g) : Ct KM d mX11_count [aR 0, aI w] g (rI P) := by
  have hn : 1 ≤ g 2 0 ∧ g 2 0 ≤ 8 := hW.2.2.1.1
  unfold sp_count at hP
  dsimp only [bn, bG, qb, qw, qc, qt, qp, qlen, qk, vm] at hP
  refine e_X11_count w g ?_
  have key : ∀ (m k : Nat), (k : Int) + m = g 2 0 → V KM d mX11_count 4 [some (aR 0), some (aI w), some (aI (Sm (g 13) k)), some (aI k)] [] g (rI P) := by
    intro m
    induction m with
    | zero =>
      intro k hk
      have et : tot (bm g) (g 13) = Sm (g 13) k := by
        unfold tot
        dsimp only [bn, bm]
        rw [show (g 2 0).toNat = k by omega]
      rw [et] at hP
      refine v_X11_count_4 w _ k g ⟨by omega, ⟨⟨by omega, by omega⟩, ⟨by omega, by omega⟩⟩, fun _ => ⟨hw, fun i t hi hq => ?_, fun q => v_X11_count_119 w _ _ g ?_⟩, fun q => absurd q (by omega)⟩
      · match i, hi with
        | 0, hi => cases hi; subst hq; exact v_X11_count_76 _ _ _ g ⟨by omega, hP⟩
        | 1, hi => cases hi; subst hq; exact v_X11_count_83 _ _ _ g hP
        | 2, hi => cases hi; subst hq; exact v_X11_count_88 _ _ _ g ⟨by omega, hP⟩
        | 3, hi => cases hi; subst hq; exact v_X11_count_95 _ _ _ g ⟨by omega, hP⟩
        | 4, hi => cases hi; subst hq; exact v_X11_count_102 _ _ _ g hP
        | 5, hi => cases hi; subst hq; exact v_X11_count_107 _ _ _ g hP
        | 6, hi => cases hi; subst hq; exact v_X11_count_109 _ _ _ g hP
        | 7, hi => cases hi; subst hq; exact v_X11_count_114 _ _ _ g hP
        | i + 8, hi => simp at hi
      · have : w < 0 ∨ 8 ≤ w := by simpa using q
        rw [if_neg (by omega), if_neg (by omega), if_neg (by omega), if_neg (by omega), if_neg (by omega), if_neg (by omega), if_neg (by omega), if_neg (by omega)] at hP
        exact hP
    | succ m ih =>
      intro k hk
      refine v_X11_count_4 w _ k g ⟨by omega, ⟨⟨by omega, by omega⟩, ⟨by omega, by omega⟩⟩, fun q => absurd q (by omega), fun _ => ⟨by omega, ih (k + 1) (by omega)⟩⟩
  exact key (g 2 0).toNat 0 (by omega)
