/-! THE CLASS: simple calls -/
theorem bT {A B : Prop} (hb : B) : iR 1 ∧ ((1 : Int) = 0 → A) ∧ ((1 : Int) ≠ 0 → B) := ⟨by decide, fun q => absurd q (by decide), fun _ => hb⟩
theorem bF {A B : Prop} (ha : A) : iR 0 ∧ ((0 : Int) = 0 → A) ∧ ((0 : Int) ≠ 0 → B) := ⟨by decide, fun _ => ha, fun q => absurd rfl q⟩
theorem bT' {A B : Prop} (ha : A) : iR 1 ∧ ((1 : Int) ≠ 0 → A) ∧ ((1 : Int) = 0 → B) := ⟨by decide, fun _ => ha, fun q => absurd q (by decide)⟩
theorem bF' {A B : Prop} (hb : B) : iR 0 ∧ ((0 : Int) ≠ 0 → A) ∧ ((0 : Int) = 0 → B) := ⟨by decide, fun q => absurd rfl q, fun _ => hb⟩
/-- the cells that an object's view reads, of the class -/
theorem vx_eq {h h' : HP} (ha : ∀ a, a = 0 ∨ a = 1 ∨ a = 14 ∨ a = 16 ∨ a = 19 ∨ a = 20 ∨ a = 21 ∨ a = 22 ∨ a = 23 ∨ a = 28 ∨ a = 31 ∨ a = 32 ∨ a = 33 → h' a = h a) : vx h' = vx h := by
  dsimp only [vx, bx]
  rw [ha 0 (by decide), ha 1 (by decide), ha 14 (by decide), ha 16 (by decide), ha 19 (by decide), ha 20 (by decide), ha 21 (by decide), ha 22 (by decide), ha 23 (by decide), ha 28 (by decide), ha 31 (by decide), ha 32 (by decide), ha 33 (by decide)]
def cz (h : HP) : Prop := ∀ k, 0 ≤ k → k < 10 → h 25 k = 0
theorem cz_ct {h : HP} (hz : cz h) (hG : h 14 15 ≤ 10) : ∀ k, 0 ≤ k → k < h 14 15 → h 25 k = 0 ∨ h 25 k = 1 := fun k h0 h1 => Or.inl (hz k h0 (by omega))
theorem cz_eq {h : HP} (hz : cz h) {G : Int} (hG : G ≤ 10) : eqN G (h 25) z0 := fun k h0 h1 => hz k h0 (by omega)
/-- all nights, on a row beside: what is there then, what is lost -/
theorem x_run {d : Nat} {P : Int → HP → Prop} {r t n : Int} {c : Nat} {h : HP} (hb : wfB (bx h)) (hz : cz h) (hr : 0 ≤ r ∧ r ≤ 3) (ht : 0 ≤ t ∧ t ≤ 900000) (hn : 0 ≤ n ∧ n ≤ 100) (hc : akd KX c 1 8 = true) (hc26 : c ≠ 26) (hc16 : c ≠ 16) (hrow : rowOK (h 14 2) (h c))
    (hP : ∀ h', (∀ a, a ≠ c → a ≠ 26 → a ≠ 27 → h' a = h a) → eqN (h 14 2) (h' c) (NN (bx h) r z0 (h c) t n.toNat) → (∀ o, o = 0 ∨ o = 1 → h' 27 o = lossO (bx h) o r z0 (h c) t n.toNat) → P (lossN (bx h) r z0 (h c) t n.toNat) h') :
    Ct KX (d + 2) mX5_run [aR 24, aI r, aR c, aI t, aI n, aI 1000000] h (rI P) := by
  have hG := hb.2.1.2
  have hcz : eqN (bG (bx h)) (h 25) z0 := cz_eq hz hG
  refine c_run hb hr ht hn (by decide) hc hc26 hc16 hrow (cz_ct hz hG) (fun h' a1 a2 a3 => ?_)
  have e1 : eqN (h 14 2) (h' c) (NN (bx h) r z0 (h c) t n.toNat) := by
    have e0 := NN_ag (b := bx h) (b' := bx h) (rats := r) (t := t) (p := h c) (p' := h c) hb (agB_rf _) (eqN_rf _ _) hcz n.toNat
    rcases a3 with a3 | ⟨a3, a4⟩
    · exact fun x h0 h1 => (a3 x h0 h1).trans (e0 x h0 h1)
    · have := lossN_in (r := r) (ct := h 25) (t := t) hb hrow n.toNat
      omega
  have e2 : tot (bx h) (h' c) = tot (bx h) (NN (bx h) r z0 (h c) t n.toNat) := tot_ag (agB_rf _) e1
  have := hP h' a1 e1 (fun o ho => by rw [a2 o ho, totO_ag (p := h' c) (agB_rf (bx h)) e1]; rfl)
  unfold lossN at this
  rw [e2]
  exact this
/-- a row is copied, nights run on the copy -/
theorem x_trial {d : Nat} {P : Int → HP → Prop} {r t n : Int} {h : HP} (hb : wfB (bx h)) (hz : cz h) (hp : r199 (h 14 2) (h 28)) (hr : 0 ≤ r ∧ r ≤ 3) (ht : 0 ≤ t ∧ t ≤ 900000) (hn : 0 ≤ n ∧ n ≤ 100)
    (hP : ∀ h', vx h' = vx h → cz h' → eqN (h 14 2) (h' 29) (NN (bx h) r z0 (h 28) t n.toNat) → (∀ o, o = 0 ∨ o = 1 → h' 27 o = lossO (bx h) o r z0 (h 28) t n.toNat) → P (lossN (bx h) r z0 (h 28) t n.toNat) h') :
    Ct KX (d + 2) mX5_run [aR 24, aI r, aR 29, aI t, aI n, aI 1000000] (hcpy h 28 29 8) (rI P) := by
  have hn8 : h 14 2 ≤ 8 := hb.1.2
  have e29 : eqN (h 14 2) (hcpy h 28 29 8 29) (h 28) := fun x h0 h1 => hcpy_s h0 (by omega)
  refine x_run (h := hcpy h 28 29 8) (c := 29) hb hz hr ht hn (by decide) (by decide) (by decide) (fun x h0 h1 => by rw [e29 x h0 h1]; exact r199_ok hp x h0 h1) (fun h' a1 a2 a3 => ?_)
  have hN := NN_ag (b := bx h) (b' := bx h) (rats := r) (t := t) (ct := z0) (ct' := z0) hb (agB_rf _) e29 (eqN_rf _ _) n.toNat
  have hL := lossN_ag (b := bx h) (b' := bx h) (r := r) (t := t) (ct := z0) (ct' := z0) hb (agB_rf _) e29 (eqN_rf _ _) n.toNat
  have h9 := hP h' (vx_eq (fun a ha => by
    rw [a1 a (by omega) (by omega) (by omega)]
    exact hcpy_n (by omega))) (fun k h0 h1 => by rw [a1 25 (by decide) (by decide) (by decide)]; exact hz k h0 h1) (fun x h0 h1 => (a2 x h0 h1).trans (hN x h0 h1)) (fun o ho => (a3 o ho).trans (lossO_ag (b := bx h) (b' := bx h) (ct := z0) (ct' := z0) hb (agB_rf _) e29 (eqN_rf _ _) n.toNat))
  rw [← hL] at h9
  exact h9
theorem x_wipe {d : Nat} {P : Int → HP → Prop} {h : HP} (hP : P (h 0 1) (hset h 0 1 0)) : Ct KX d mX10_wipe [aR 0] h (rI P) := e_X10_wipe h hP
theorem x_bin {d : Nat} {P : Int → HP → Prop} {N i w : Int} {h : HP} (hW : WV N (vx h)) (hi : iR i) (hw : iR w) (hP : P (sp_bin (vx h) i w) h) : Ct KX (d + 2) mX10_bin [aR 0, aI i, aI w] h (rI P) := by
  obtain ⟨b1, b2, b3, -⟩ := hW
  have hn : 1 ≤ h 14 2 ∧ h 14 2 ≤ 8 := b3.1
  unfold sp_bin at hP
  refine e_X10_bin i w h (c_xisBin hi ⟨by omega, hn.2⟩ (fun a b => bT (c_within hw (by decide) (by decide) (fun a2 b2 => bT' ⟨hw, fun q => ⟨by omega, ?_⟩, fun q => ⟨by omega, ?_⟩⟩) (fun a2 => bF' ?_))) (fun a => bF ?_))
  · rw [if_pos ⟨⟨a, b⟩, a2, b2⟩, if_neg q] at hP; exact hP
  · rw [if_pos ⟨⟨a, b⟩, a2, b2⟩, if_pos q] at hP; exact hP
  · rw [if_neg (by omega)] at hP; exact hP
  · rw [if_neg (by show ¬ ((0 ≤ i ∧ i < h 14 2) ∧ _); omega)] at hP; exact hP
theorem x_gap {d : Nat} {P : Int → HP → Prop} {N i w : Int} {h : HP} (hW : WV N (vx h)) (hi : iR i) (hw : iR w) (hP : P (sp_gap (vx h) i w) h) : Ct KX (d + 1) mX10_gap [aR 0, aI i, aI w] h (rI P) := by
  obtain ⟨b1, b2, b3, -⟩ := hW
  have hG : 0 ≤ h 14 15 ∧ h 14 15 ≤ 10 := b3.2.1
  have hwl : ∀ k, 0 ≤ k → k < h 14 15 → (h 23 k = 0 ∨ h 23 k = 1) := fun k h0 h1 => (b3.2.2.2.1 k h0 h1).2
  unfold sp_gap at hP
  dsimp only [bG, blo, bhi, bwl, qb, vx, bx] at hP
  refine e_X10_gap i w h (c_within hi (by decide) ⟨by omega, by omega⟩ (fun a b => bT (c_within hw (by decide) (by decide) (fun a2 b2 => bT' ?_) (fun a2 => bF' ?_))) (fun a => bF ?_))
  · have h9 := hwl i a (by omega)
    rw [if_pos ⟨⟨a, by omega⟩, a2, b2⟩] at hP
    refine ⟨hw, fun q => ⟨⟨hw, by decide⟩, fun q2 => ⟨by omega, ⟨by omega, by omega⟩, fun q3 => ?_, fun q3 => ?_⟩, fun q2 => ⟨by omega, ?_⟩⟩, fun q => ⟨by omega, ?_⟩⟩
    · rw [if_neg q, if_neg q2, q3] at hP; exact hP
    · rw [if_neg q, if_neg q2, show h 23 i = 1 by omega] at hP; exact hP
    · rw [if_neg q, if_pos q2] at hP; exact hP
    · rw [if_pos q] at hP; exact hP
  · rw [if_neg (by omega)] at hP; exact hP
  · rw [if_neg (by omega)] at hP; exact hP
theorem x_left {d : Nat} {P : Int → HP → Prop} {N i k : Int} {h : HP} (hW : WV N (vx h)) (hN : N ≤ 1000) (hz : cz h) (hi : iR i) (hk : iR k) (hP : ∀ h', vx h' = vx h → cz h' → P (sp_left (vx h) i k) h') : Ct KX (d + 3) mX10_left [aR 0, aI i, aI k] h (rI P) := by
  obtain ⟨b1, b2, b3, b4, b5, b6, b7, b8, -⟩ := hW
  have hn : 1 ≤ h 14 2 ∧ h 14 2 ≤ 8 := b3.1
  unfold sp_left at hP
  dsimp only [bn, qb, qr, qp, qt, vx] at hP b4 b8 b7
  refine e_X10_left i k h (c_xisBin hi ⟨by omega, hn.2⟩ (fun a b => bT (c_within hk (by decide) (by decide) (fun a2 b2 => bT' (c_copyBins (by decide) (by decide) (x_trial (r := h 14 4) (t := h 0 7) b3 hz b7 b4 ⟨b8.1, by omega⟩ ⟨a2, by omega⟩ (fun h' e1 e2 e3 e4 => ⟨by omega, ?_⟩)))) (fun a2 => bF' ?_))) (fun a => bF ?_))
  · have := hP h' e1 e2
    rw [if_pos ⟨⟨a, b⟩, a2, b2⟩] at this
    rw [e3 i a b]
    exact this
  · have := hP h rfl hz
    rw [if_neg (by omega)] at this; exact this
  · have := hP h rfl hz
    rw [if_neg (by show ¬ ((0 ≤ i ∧ i < h 14 2) ∧ _); omega)] at this; exact this
theorem x_lost {d : Nat} {P : Int → HP → Prop} {N k o : Int} {h : HP} (hW : WV N (vx h)) (hN : N ≤ 1000) (hz : cz h) (hk : iR k) (ho : iR o) (hP : ∀ h', vx h' = vx h → cz h' → P (sp_lost (vx h) k o) h') : Ct KX (d + 3) mX10_lost [aR 0, aI k, aI o] h (rI P) := by
  obtain ⟨b1, b2, b3, b4, b5, b6, b7, b8, -⟩ := hW
  unfold sp_lost at hP
  dsimp only [qb, qr, qp, qt, vx] at hP b4 b8 b7
  refine e_X10_lost k o h (c_within hk (by decide) (by decide) (fun a b => bT (c_within ho (by decide) (by decide) (fun a2 b2 => bT' (c_copyBins (by decide) (by decide) (x_trial (r := h 14 4) (t := h 0 7) b3 hz b7 b4 ⟨b8.1, by omega⟩ ⟨a, by omega⟩ (fun h' e1 e2 e3 e4 => ?_)))) (fun a2 => bF' ?_))) (fun a => bF ?_))
  · have := hP h' e1 e2
    rw [if_pos ⟨⟨a, b⟩, a2, b2⟩] at this
    refine c_goneFrom ho (fun q => ?_) (fun q => ?_)
    · rw [e4 o q]
      rw [if_neg (by omega)] at this
      exact this
    · rw [if_pos (by omega)] at this
      rw [e4 0 (Or.inl rfl), e4 1 (Or.inr rfl)]
      have e9 : lossO (bx h) 0 (h 14 4) z0 (h 28) (h 0 7) k.toNat + lossO (bx h) 1 (h 14 4) z0 (h 28) (h 0 7) k.toNat = lossN (bx h) (h 14 4) z0 (h 28) (h 0 7) k.toNat := by
        have q1 := totO_sum b3 (h 28)
        have q2 := totO_sum b3 (NN (bx h) (h 14 4) z0 (h 28) (h 0 7) k.toNat)
        unfold lossO lossN
        dsimp only [qb, vx] at q1 q2
        omega
      rw [e9]
      exact this
  · have := hP h rfl hz
    rw [if_neg (by omega)] at this; exact this
  · have := hP h rfl hz
    rw [if_neg (by omega)] at this; exact this
theorem x_others {d : Nat} {P : Int → HP → Prop} {N r k : Int} {h : HP} (hW : WV N (vx h)) (hN : N ≤ 1000) (hz : cz h) (hr : iR r) (hk : iR k) (hP : ∀ h', vx h' = vx h → cz h' → P (sp_others (vx h) r k) h') : Ct KX (d + 3) mX10_others [aR 0, aI r, aI k] h (rI P) := by
  obtain ⟨b1, b2, b3, b4, b5, b6, b7, b8, -⟩ := hW
  unfold sp_others at hP
  dsimp only [qb, qr, qp, qt, vx] at hP b4 b8 b7
  refine e_X10_others r k h (c_within hr (by decide) (by decide) (fun a b => bT (c_within hk (by decide) (by decide) (fun a2 b2 => bT' (c_copyBins (by decide) (by decide) (x_trial (r := r) (t := h 0 7) b3 hz b7 ⟨a, b⟩ ⟨b8.1, by omega⟩ ⟨a2, by omega⟩ (fun h' e1 e2 e3 e4 => ?_)))) (fun a2 => bF' ?_))) (fun a => bF ?_))
  · have := hP h' e1 e2
    rw [if_pos ⟨⟨a, b⟩, a2, b2⟩] at this
    exact this
  · have := hP h rfl hz
    rw [if_neg (by omega)] at this; exact this
  · have := hP h rfl hz
    rw [if_neg (by omega)] at this; exact this
theorem c_sumOf {d : Nat} {P : Int → HP → Prop} {c : Nat} {h : HP} (hn : 1 ≤ h 14 2 ∧ h 14 2 ≤ 8) (hc : akd KX c 1 8 = true) (hP : P (tot (bx h) (h c)) h) : Ct KX d mX10_sumOf [aR 0, aR c] h (rI P) := by
  refine e_X10_sumOf c h ?_
  have key : ∀ (m k : Nat), (k : Int) + m = h 14 2 → V KX d mX10_sumOf 4 [some (aR 0), some (aR c), some (aI (Sm (h c) k)), some (aI k)] [] h (rI P) := by
    intro m
    induction m with
    | zero =>
      intro k hk
      refine v_X10_sumOf_4 c _ k h ⟨⟨⟨by omega, by omega⟩, ⟨by omega, by omega⟩⟩, fun _ => ?_, fun q => absurd q (by omega)⟩
      refine cP hP ?_
      unfold tot
      dsimp only [bn, bx]
      rw [show (h 14 2).toNat = k by omega]
    | succ m ih =>
      intro k hk
      refine v_X10_sumOf_4 c _ k h ⟨⟨⟨by omega, by omega⟩, ⟨by omega, by omega⟩⟩, fun q => absurd q (by omega), fun _ => ⟨⟨hc, by omega⟩, ih (k + 1) (by omega)⟩⟩
  exact key (h 14 2).toNat 0 (by omega)
theorem sq_ok {y : Int} (h0 : 0 ≤ y) (h1 : y ≤ 100000000) : 0 ≤ y * y ∧ lR (y * y) := by
  have h2 := Int.mul_nonneg h0 h0
  have h3 : y * y ≤ 100000000 * 100000000 := Int.mul_le_mul h1 h1 h0 (by decide)
  exact ⟨h2, by omega, by omega⟩
theorem c_drawTrial {d : Nat} {P : HP → Prop} {z : Int} {h : HP} (hn : 1 ≤ h 14 2 ∧ h 14 2 ≤ 8) (hz : 0 ≤ z ∧ z ≤ 9999) (hP : ∀ h', (∀ a, a ≠ 29 → h' a = h a) → eqN (h 14 2) (h' 29) (drw z) → P h') : Ct KX d mX10_drawTrial [aR 0, aI z] h (rV P) := by
  refine e_X10_drawTrial z h ?_
  have key : ∀ (m : Nat) (k : Int) (g : HP), 0 ≤ k → k + m = h 14 2 → (∀ a, a ≠ 29 → g a = h a) → (∀ x, 0 ≤ x → x < k → g 29 x = drw z x) → V KX d mX10_drawTrial 2 [some (aR 0), some (aI z), some (aI k), none, none] [] g (rV P) := by
    intro m
    induction m with
    | zero =>
      intro k g h0 hk ha hx
      have e14 : g 14 = h 14 := ha 14 (by decide)
      refine v_X10_drawTrial_2 z k g ⟨⟨⟨by omega, by omega⟩, by rw [e14]; exact ⟨by omega, by omega⟩⟩, fun _ => hP g ha (fun x q1 q2 => hx x q1 (by omega)), fun q => absurd q (by rw [e14]; omega)⟩
    | succ m ih =>
      intro k g h0 hk ha hx
      have e14 : g 14 = h 14 := ha 14 (by decide)
      have hy := sq_ok (y := ((7919 * z) + (6151 * k)) + 1) (by omega) (by omega)
      refine v_X10_drawTrial_2 z k g ⟨⟨⟨by omega, by omega⟩, by rw [e14]; exact ⟨by omega, by omega⟩⟩, fun q => absurd q (by rw [e14]; omega), fun _ => ⟨⟨by omega, by omega⟩, ⟨by omega, by omega⟩, ⟨hy.1, hy.2, by decide, by decide⟩, ⟨by omega, ⟨by omega, by omega⟩, by decide, by decide⟩, by omega, ih (k + 1) _ (by omega) (by omega) (fun a q => by rw [hset_n q]; exact ha a q) (fun x q1 q2 => ?_)⟩⟩
      by_cases e : x = k
      · subst e
        rw [hset_s]
        rfl
      · rw [hset_m e]
        exact hx x q1 (by omega)
  exact key (h 14 2).toNat 0 h (by omega) (by omega) (fun _ _ => rfl) (fun x q1 q2 => absurd q2 (by omega))
/-- a row is drawn, nights run on it -/
theorem x_dr {d : Nat} {P : Int → HP → Prop} {N z n : Int} {h g : HP} (hW : WV N (vx h)) (hN : N ≤ 1000) (hz : cz h) (hn : 0 ≤ n ∧ n ≤ 100) (ha : ∀ a, a ≠ 29 → g a = h a) (hx : eqN (h 14 2) (g 29) (drw z))
    (hP : ∀ h', vx h' = vx h → cz h' → P (lossN (bx h) (h 14 4) z0 (drw z) (h 0 7) n.toNat) h') :
    Ct KX (d + 2) mX5_run [aR 24, aI (g 14 4), aR 29, aI (g 0 7), aI n, aI 1000000] g (rI P) := by
  obtain ⟨b1, b2, b3, b4, b5, b6, b7, b8, -⟩ := hW
  dsimp only [qb, qr, qt, vx] at b3 b4 b8
  have e14 : g 14 = h 14 := ha 14 (by decide)
  have e0 : g 0 = h 0 := ha 0 (by decide)
  have eb : bx g = bx h := by
    dsimp only [bx]
    rw [e14, ha 21 (by decide), ha 22 (by decide), ha 23 (by decide), ha 16 (by decide)]
  rw [e14, e0]
  have hzg : cz g := fun k h0 h1 => by rw [ha 25 (by decide)]; exact hz k h0 h1
  refine x_run (h := g) (c := 29) (by rw [eb]; exact b3) hzg b4 ⟨b8.1, by omega⟩ hn (by decide) (by decide) (by decide) (fun x h0 h1 => by rw [e14] at h1; rw [hx x h0 h1]; exact drw_ok z x h0 h1) (fun h' a1 a2 a3 => ?_)
  rw [eb, lossN_ag (ct' := z0) (p' := drw z) b3 (agB_rf _) hx (eqN_rf _ _)]
  exact hP h' (vx_eq (fun a q => (a1 a (by omega) (by omega) (by omega)).trans (ha a (by omega)))) (fun k h0 h1 => by rw [a1 25 (by decide) (by decide) (by decide)]; exact hzg k h0 h1)
theorem x_drawn {d : Nat} {P : Int → HP → Prop} {N z k : Int} {h : HP} (hW : WV N (vx h)) (hN : N ≤ 1000) (hz : cz h) (hzi : iR z) (hk : iR k) (hP : ∀ h', vx h' = vx h → cz h' → P (sp_drawn (vx h) z k) h') : Ct KX (d + 3) mX10_drawn [aR 0, aI z, aI k] h (rI P) := by
  have hn : 1 ≤ h 14 2 ∧ h 14 2 ≤ 8 := hW.2.2.1.1
  unfold sp_drawn at hP
  refine e_X10_drawn z k h (c_within hzi (by decide) (by decide) (fun a b => bT (c_within hk (by decide) (by decide) (fun a2 b2 => bT' (c_drawTrial hn ⟨a, b⟩ (fun g ha hx => x_dr hW hN hz ⟨a2, by omega⟩ ha hx (fun h' e1 e2 => ?_)))) (fun a2 => bF' ?_))) (fun a => bF ?_))
  · have := hP h' e1 e2
    rw [if_pos ⟨⟨a, b⟩, a2, b2⟩] at this
    exact this
  · have := hP h rfl hz
    rw [if_neg (by omega)] at this; exact this
  · have := hP h rfl hz
    rw [if_neg (by omega)] at this; exact this
theorem x_ten {d : Nat} {P : Int → HP → Prop} {N z k : Int} {h : HP} (hW : WV N (vx h)) (hN : N ≤ 1000) (hz : cz h) (hzi : iR z) (hk : iR k) (hP : ∀ h', vx h' = vx h → cz h' → P (sp_ten (vx h) z k) h') : Ct KX (d + 3) mX10_ten [aR 0, aI z, aI k] h (rI P) := by
  have hn : 1 ≤ h 14 2 ∧ h 14 2 ≤ 8 := hW.2.2.1.1
  unfold sp_ten at hP
  have key : (0 ≤ z ∧ z ≤ 9999) → (0 ≤ k ∧ k ≤ 60) → ∀ (m j : Nat) (g : HP), j + m = 10 → vx g = vx h → cz g → V KX (d + 3) mX10_ten 28 [some (aR 0), some (aI z), some (aI k), some (aI (tenS (vx h) z k j)), some (aI j), none] [] g (rI P) := by
    intro hz1 hk1 m
    induction m with
    | zero =>
      intro j g hj e1 e2
      refine v_X10_ten_28 z k _ j g ⟨⟨⟨by omega, by omega⟩, by decide⟩, fun _ => ?_, fun q => absurd q (by omega)⟩
      have := hP g e1 e2
      rw [if_pos ⟨hz1, hk1⟩] at this
      rw [show j = 10 by omega]
      exact this
    | succ m ih =>
      intro j g hj e1 e2
      have hWg : WV N (vx g) := by rw [e1]; exact hW
      have hng : 1 ≤ g 14 2 ∧ g 14 2 ≤ 8 := hWg.2.2.1.1
      have hm : 0 ≤ (z + j) % 10000 ∧ (z + j) % 10000 ≤ 9999 := by omega
      refine v_X10_ten_28 z k _ j g ⟨⟨⟨by omega, by omega⟩, by decide⟩, fun q => absurd q (by omega), fun _ => ⟨⟨by omega, ⟨by omega, by omega⟩, by decide, by decide⟩, c_drawTrial hng hm (fun g1 ha hx => ?_)⟩⟩
      have e14 : g1 14 = g 14 := ha 14 (by decide)
      refine c_sumOf (by rw [e14]; exact hng) (by decide) ?_
      have eb : bx g1 = bx g := by
        dsimp only [bx]
        rw [e14, ha 21 (by decide), ha 22 (by decide), ha 23 (by decide), ha 16 (by decide)]
      have et : tot (bx g1) (g1 29) = tot (bx g) (drw ((z + j) % 10000)) := by rw [eb]; exact tot_ag (agB_rf _) hx
      have hti := tot_in (b := bx g) hWg.2.2.1 (drw_ok ((z + j) % 10000))
      have hlo := lossN_in (r := g 14 4) (ct := z0) (t := g 0 7) (b := bx g) hWg.2.2.1 (drw_ok ((z + j) % 10000)) k.toNat
      rw [et]
      refine x_dr hWg hN e2 ⟨hk1.1, by omega⟩ ha hx (fun h' f1 f2 => ?_)
      have eqb : bx g = bx h := congrArg (fun l : LV => l.2.2.1) e1
      have eqr : g 14 4 = h 14 4 := congrArg (fun l : LV => l.2.2.2.1) e1
      have eqt : g 0 7 = h 0 7 := congrArg (fun l : LV => l.2.2.2.2.2.2.2.2.2.1) e1
      refine ⟨⟨⟨by omega, by omega⟩, ⟨by omega, by omega⟩⟩, fun q => v_X10_ten_92 z k _ j _ h' ?_, fun q => v_X10_ten_92 z k _ j _ h' ?_⟩
      · have h9 := ih (j + 1) h' (by omega) (f1.trans e1) f2
        rw [eqb, eqr, eqt] at q
        rw [tenS, if_neg (show ¬ tot (bx h) (drw ((z + j) % 10000)) < 2 * lossN (bx h) (h 14 4) z0 (drw ((z + j) % 10000)) (h 0 7) k.toNat by omega), Int.add_zero] at h9
        exact h9
      · have h9 := ih (j + 1) h' (by omega) (f1.trans e1) f2
        rw [eqb, eqr, eqt] at q
        rw [tenS, if_pos (show tot (bx h) (drw ((z + j) % 10000)) < 2 * lossN (bx h) (h 14 4) z0 (drw ((z + j) % 10000)) (h 0 7) k.toNat by omega)] at h9
        exact h9
  refine e_X10_ten z k h (c_within hzi (by decide) (by decide) (fun a b => bT (c_within hk (by decide) (by decide) (fun a2 b2 => bT' (key ⟨a, b⟩ ⟨a2, b2⟩ 10 0 h rfl rfl hz)) (fun a2 => bF' ?_))) (fun a => bF ?_))
  · have := hP h rfl hz
    rw [if_neg (by omega)] at this; exact this
  · have := hP h rfl hz
    rw [if_neg (by omega)] at this; exact this
theorem x_count {d : Nat} {P : Int → HP → Prop} {N w : Int} {h : HP} (hW : WV N (vx h)) (hw : iR w) (hP : P (sp_count (vx h) w) h) : Ct KX (d + 1) mX10_count [aR 0, aI w] h (rI P) := by
  have hn : 1 ≤ h 14 2 ∧ h 14 2 ≤ 8 := hW.2.2.1.1
  unfold sp_count at hP
  dsimp only [bn, bG, qb, qw, qc, qt, qp, qlen, qk, vx] at hP
  refine e_X10_count w h ⟨hw, fun i t hi hq => ?_, fun q => v_X10_count_104 w h ?_⟩
  · match i, hi with
    | 0, hi => cases hi; subst hq; exact v_X10_count_48 _ h hP
    | 1, hi => cases hi; subst hq; exact v_X10_count_56 _ h hP
    | 2, hi => cases hi; subst hq; exact v_X10_count_64 _ h hP
    | 3, hi => cases hi; subst hq; exact v_X10_count_72 _ h hP
    | 4, hi => cases hi; subst hq; exact v_X10_count_80 _ h hP
    | 5, hi => cases hi; subst hq; exact v_X10_count_85 _ h (c_sumOf hn (by decide) hP)
    | 6, hi => cases hi; subst hq; exact v_X10_count_94 _ h hP
    | 7, hi => cases hi; subst hq; exact v_X10_count_99 _ h hP
    | i + 8, hi => simp at hi
  · have : w < 0 ∨ 8 ≤ w := by simpa using q
    rw [if_neg (by omega), if_neg (by omega), if_neg (by omega), if_neg (by omega), if_neg (by omega), if_neg (by omega), if_neg (by omega), if_neg (by omega)] at hP
    exact hP
