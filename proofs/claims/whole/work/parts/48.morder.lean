/-! the model: order -/
theorem fct_8 {n : Nat} (h : n ≤ 8) : fct n ≤ 40320 := by
  have : n = 0 ∨ n = 1 ∨ n = 2 ∨ n = 3 ∨ n = 4 ∨ n = 5 ∨ n = 6 ∨ n = 7 ∨ n = 8 := by omega
  rcases this with rfl | rfl | rfl | rfl | rfl | rfl | rfl | rfl | rfl <;> decide
abbrev kMo (h g : HP) : Prop := ∀ a, a ≠ 16 → a ≠ 17 → a ≠ 18 → a ≠ 19 → a ≠ 20 → g a = h a
theorem kMo_bm {h g : HP} (k : kMo h g) : bm g = bm h := by
  dsimp only [bm]
  rw [k 2 (by decide) (by decide) (by decide) (by decide) (by decide), k 0 (by decide) (by decide) (by decide) (by decide) (by decide), k 5 (by decide) (by decide) (by decide) (by decide) (by decide), k 10 (by decide) (by decide) (by decide) (by decide) (by decide), k 11 (by decide) (by decide) (by decide) (by decide) (by decide), k 12 (by decide) (by decide) (by decide) (by decide) (by decide), k 4 (by decide) (by decide) (by decide) (by decide) (by decide)]
theorem kMo_cm {h g : HP} (k : kMo h g) (hz : cm h) : cm g := by
  show g 0 15 = 0
  rw [k 0 (by decide) (by decide) (by decide) (by decide) (by decide)]
  exact hz
theorem kMo_vm {h g : HP} (k : kMo h g) : vm g = vm h := vm_eq (fun a ha => k a (by omega) (by omega) (by omega) (by omega) (by omega)) (fun i _ => by rw [k 0 (by decide) (by decide) (by decide) (by decide) (by decide)])
theorem m_order {d : Nat} {P : Int → HP → Prop} {N k i : Int} {h : HP} (hW : WV N (vm h)) (hN : N ≤ 1000) (hz : cm h) (hk : iR k) (hi : iR i) (hP : ∀ q, srt (h 2 0) q → prm (h 2 0) q (h 13) → rowOK (h 2 0) q → ∀ h', vm h' = vm h → cm h' → P (sp_order (vm h) q k i) h') (hB : ¬ ((1 ≤ k ∧ k ≤ 20) ∧ -1 ≤ i ∧ i < h 2 0) → P (-1) h) : Ct KM (d + 3) mX11_order [aR 0, aI k, aI i] h (rI P) := by
  obtain ⟨b1, b2, b3, b4, b5, b6, b7, b8, -⟩ := hW
  have hb : wfB (bm h) := b3
  have hn : 1 ≤ h 2 0 ∧ h 2 0 ≤ 8 := hb.1
  have ht : 0 ≤ h 0 17 ∧ h 0 17 ≤ N := b8
  have hr : 0 ≤ h 5 1 ∧ h 5 1 ≤ 3 := b4
  have hp : r199 (h 2 0) (h 13) := b7
  have hnn : (((h 2 0).toNat : Nat) : Int) = h 2 0 := by omega
  refine e_X11_order k i h ⟨hk, c_inI hk (by decide) (by decide) (fun a b => bT ⟨hi, by omega, ⟨by omega, by omega⟩, c_inI hi (by decide) ⟨by omega, by omega⟩ (fun a2 b2 => bT' ?_) (fun a2 => bF' (hB (by omega)))⟩) (fun a => bF (hB (by omega)))⟩
  have key : ∀ q0 : Int → Int, srt (h 2 0) q0 → prm (h 2 0) q0 (h 13) → rowOK (h 2 0) q0 → ∀ (f : Nat) (q : Int → Int) (s : SC) (g : HP) (x3 : Int), kMo h g → g 19 = q → rowOK (h 2 0) q → 40320 ≤ RS q (h 2 0).toNat (h 2 0).toNat + f → (0 ≤ s.1 ∧ s.1 ≤ 1000000) → x3 = (if s.1 = 1000000 then -1 else s.1) → (s.1 ≠ 1000000 → eqN (h 2 0) (g 20) s.2) → OS (bm h) (h 5 1) (h 0 17) k.toNat f q s = OS (bm h) (h 5 1) (h 0 17) k.toNat 40320 q0 (1000000, z0) →
      V KM (d + 3) mX11_order 132 [some (aR 0), some (aI k), some (aI i), some (aI x3), some (aI 1), none, none] [] g (rI P) := by
    intro q0 hs0 hm0 hr0 f
    induction f with
    | zero =>
      intro q s g x3 kg e19 hq hf sr hx3 e20 hR
      have := RS_in (p := q) (n := (h 2 0).toNat) (h 2 0).toNat (Nat.le_refl _)
      have h8 := fct_8 (n := (h 2 0).toNat) (by omega)
      exact absurd hf (by omega)
    | succ f ih =>
      intro q s g x3 kg e19 hq hf sr hx3 e20 hR
      have hin := lossN_in (r := h 5 1) (ct := z0) (t := h 0 17) hb hq k.toNat
      have hx3r : iR x3 := by
        rw [hx3]
        split
        · decide
        · exact ⟨by omega, by omega⟩
      have hbn : bn (bm h) = h 2 0 := rfl
      rw [OS, hbn] at hR
      -- behind: the next order
      have go : ∀ (w : Int) (s9 : SC) (g9 : HP) (y3 : Int), s9 = FO (bm h) (h 5 1) (h 0 17) k.toNat q s → kMo h g9 → g9 19 = q → (0 ≤ s9.1 ∧ s9.1 < 1000000) → y3 = s9.1 → eqN (h 2 0) (g9 20) s9.2 → V KM (d + 3) mX11_order 235 [some (aR 0), some (aI k), some (aI i), some (aI y3), some (aI 1), some (aI w), none] [] g9 (rI P) := by
        intro w s9 g9 y3 es k9 e19' ur u3 u20
        have g2 : g9 2 = h 2 := k9 2 (by decide) (by decide) (by decide) (by decide) (by decide)
        refine v_X11_order_235 k i y3 1 w g9 (m_follows (d := d + 1) (by rw [g2]; exact hn) (by rw [g2, e19']; exact hq) (fun q2 hq2 g3 y1 y2 => ?_) (fun hq2 => ?_))
        · rw [g2, e19'] at hq2
          rw [hq2] at hR
          dsimp only at hR
          rw [← es] at hR
          have hrk := NX_rank (n := (h 2 0).toNat) (p := q) (q := q2) (by omega) (by rw [hnn]; exact hq2)
          refine ih q2 s9 g3 y3 (fun a z1 z2 z3 z4 z5 => by rw [y1 a z4]; exact k9 a z1 z2 z3 z4 z5) y2 (NX_ok hn.1 hq hq2) (by omega) ⟨ur.1, by omega⟩ (by rw [if_neg (by omega)]; exact u3) (fun _ => by rw [y1 20 (by decide)]; exact u20) hR
        · rw [g2, e19'] at hq2
          rw [hq2] at hR
          dsimp only at hR
          rw [← es] at hR
          have hP := hP q0 hs0 hm0 hr0 g9 (kMo_vm k9) (kMo_cm k9 hz)
          unfold sp_order at hP
          have hbn2 : bn (qb (vm h)) = h 2 0 := rfl
          rw [hbn2, if_pos ⟨⟨a, b⟩, a2, by omega⟩] at hP
          have hR2 : OS (qb (vm h)) (qr (vm h)) (qt (vm h)) k.toNat 40320 q0 (1000000, z0) = s9 := hR.symm
          rw [hR2] at hP
          refine v_X11_order_132 k i y3 0 g9 ⟨by decide, fun _ => ⟨hi, fun z => ⟨by omega, ?_⟩, fun z => ?_⟩, fun z => absurd rfl z⟩
          · rw [if_neg (by omega)] at hP
            rw [u20 i z (by omega)]
            exact hP
          · rw [if_pos (by omega)] at hP
            rw [u3]
            exact hP
      -- the best is kept
      have best : ∀ (w : Int) (s9 : SC), s9 = FO (bm h) (h 5 1) (h 0 17) k.toNat q s → s9 = (w, q) → (0 ≤ w ∧ w < 1000000) → ∀ (m : Nat) (x : Int) (g9 : HP), x + m = h 2 0 → 0 ≤ x → kMo h g9 → g9 19 = q → (∀ y, 0 ≤ y → y < x → g9 20 y = q y) → V KM (d + 3) mX11_order 204 [some (aR 0), some (aI k), some (aI i), some (aI w), some (aI 1), some (aI w), some (aI x)] [] g9 (rI P) := by
        intro w s9 es es2 hw m
        induction m with
        | zero =>
          intro x g9 hx hx0 k9 e19' hy
          have g2 : g9 2 = h 2 := k9 2 (by decide) (by decide) (by decide) (by decide) (by decide)
          refine v_X11_order_204 k i w 1 w x g9 ?_
          rw [g2]
          exact ⟨by omega, ⟨⟨by omega, by omega⟩, ⟨by omega, by omega⟩⟩, fun _ => go w s9 g9 w es k9 e19' (by rw [es2]; exact hw) (by rw [es2]) (by rw [es2]; exact fun y z0 z1 => hy y z0 (by omega)), fun z => absurd z (by omega)⟩
        | succ m ihm =>
          intro x g9 hx hx0 k9 e19' hy
          have g2 : g9 2 = h 2 := k9 2 (by decide) (by decide) (by decide) (by decide) (by decide)
          refine v_X11_order_204 k i w 1 w x g9 ?_
          rw [g2]
          refine ⟨by omega, ⟨⟨by omega, by omega⟩, ⟨by omega, by omega⟩⟩, fun z => absurd z (by omega), fun _ => ⟨by omega, by omega, ihm (x + 1) _ (by omega) (by omega) (fun a z1 z2 z3 z4 z5 => by rw [hset_n z5]; exact k9 a z1 z2 z3 z4 z5) (by rw [hset_n (by decide)]; exact e19') (fun y y0 y1 => ?_)⟩⟩
          by_cases e : y = x
          · rw [e, hset_s, e19']
          · rw [hset_m e]
            exact hy y y0 (by omega)
      -- the row is tried
      have tryR : ∀ (m : Nat) (x : Int) (g9 : HP), x + m = h 2 0 → 0 ≤ x → kMo h g9 → g9 19 = q → g9 20 = g 20 → (∀ y, 0 ≤ y → y < x → g9 16 y = q y) → V KM (d + 3) mX11_order 140 [some (aR 0), some (aI k), some (aI i), some (aI x3), some (aI 1), some (aI x), none] [] g9 (rI P) := by
        intro m
        induction m with
        | zero =>
          intro x g9 hx hx0 k9 e19' e20' hy
          have g2 : g9 2 = h 2 := k9 2 (by decide) (by decide) (by decide) (by decide) (by decide)
          have g5 : g9 5 = h 5 := k9 5 (by decide) (by decide) (by decide) (by decide) (by decide)
          have g0 : g9 0 = h 0 := k9 0 (by decide) (by decide) (by decide) (by decide) (by decide)
          have e16 : eqN (h 2 0) (g9 16) q := fun y z0 z1 => hy y z0 (by omega)
          have eb : bm g9 = bm h := kMo_bm k9
          refine v_X11_order_140 k i x3 1 x g9 ?_
          rw [g2, g5, g0]
          refine ⟨by omega, ⟨⟨by omega, by omega⟩, ⟨by omega, by omega⟩⟩, fun _ => ⟨by omega, ?_⟩, fun z => absurd z (by omega)⟩
          refine c_nights (by rw [eb]; exact hb) hr ⟨ht.1, by omega⟩ ⟨by omega, by omega⟩ (by rw [g2]; exact fun y z0 z1 => by rw [e16 y z0 z1]; exact hq y z0 z1) (fun h' c1 c2 c3 => ?_)
          rw [eb, ctm0 (kMo_cm k9 hz), g2] at c2
          rw [eb]
          have e1 : eqN (h 2 0) (h' 16) (NN (bm h) (h 5 1) z0 q (h 0 17) k.toNat) := fun y z0' z1 => (c2 y z0' z1).trans (NN_ag (b := bm h) (b' := bm h) (ct := z0) (ct' := z0) hb (agB_rf _) e16 (eqN_rf _ _) k.toNat y z0' z1)
          have hv : tot (bm h) (g9 16) - tot (bm h) (h' 16) = lossN (bm h) (h 5 1) z0 q (h 0 17) k.toNat := by
            unfold lossN
            rw [tot_ag (b := bm h) (agB_rf _) e16, tot_ag (b := bm h) (agB_rf _) e1]
          rw [hv]
          have kk : kMo h h' := fun a z1 z2 z3 z4 z5 => by rw [c1 a z1 z2 z3]; exact k9 a z1 z2 z3 z4 z5
          have f19 : h' 19 = q := (c1 19 (by decide) (by decide) (by decide)).trans e19'
          have f20 : h' 20 = g 20 := (c1 20 (by decide) (by decide) (by decide)).trans e20'
          have take : lossN (bm h) (h 5 1) z0 q (h 0 17) k.toNat < s.1 → V KM (d + 3) mX11_order 198 [some (aR 0), some (aI k), some (aI i), some (aI x3), some (aI 1), some (aI (lossN (bm h) (h 5 1) z0 q (h 0 17) k.toNat)), none] [] h' (rI P) := fun z => v_X11_order_198 k i x3 1 _ h' (best _ (lossN (bm h) (h 5 1) z0 q (h 0 17) k.toNat, q) (by unfold FO; rw [if_pos z]) rfl ⟨by omega, by omega⟩ (h 2 0).toNat 0 h' (by omega) (by omega) kk f19 (fun y z0 z1 => absurd z1 (by omega)))
          by_cases c : s.1 = 1000000
          · rw [if_pos c] at hx3
            rw [hx3] at take ⊢
            exact ⟨by decide, fun _ => take (by omega), fun z => absurd z (by omega)⟩
          · rw [if_neg c] at hx3
            refine ⟨hx3r, fun z => absurd z (by omega), fun _ => ⟨⟨⟨by omega, by omega⟩, hx3r⟩, fun z => ?_, fun z => take (by omega)⟩⟩
            refine go _ s h' x3 (by unfold FO; rw [if_neg (by omega)]) kk f19 ⟨sr.1, by omega⟩ hx3 (by rw [f20]; exact e20 c)
        | succ m ihm =>
          intro x g9 hx hx0 k9 e19' e20' hy
          have g2 : g9 2 = h 2 := k9 2 (by decide) (by decide) (by decide) (by decide) (by decide)
          refine v_X11_order_140 k i x3 1 x g9 ?_
          rw [g2]
          refine ⟨by omega, ⟨⟨by omega, by omega⟩, ⟨by omega, by omega⟩⟩, fun z => absurd z (by omega), fun _ => ⟨by omega, by omega, ihm (x + 1) _ (by omega) (by omega) (fun a z1 z2 z3 z4 z5 => by rw [hset_n z1]; exact k9 a z1 z2 z3 z4 z5) (by rw [hset_n (by decide)]; exact e19') (by rw [hset_n (by decide)]; exact e20') (fun y y0 y1 => ?_)⟩⟩
          by_cases e : y = x
          · rw [e, hset_s, e19']
          · rw [hset_m e]
            exact hy y y0 (by omega)
      exact v_X11_order_132 k i x3 1 g ⟨by decide, fun z => absurd z (by decide), fun _ => tryR (h 2 0).toNat 0 g (by omega) (by omega) kg e19 rfl (fun y z0 z1 => absurd z1 (by omega))⟩
  -- the row is laid
  have copy : ∀ (m : Nat) (x : Int) (g : HP), x + m = h 2 0 → 0 ≤ x → (∀ a, a ≠ 19 → g a = h a) → (∀ y, 0 ≤ y → y < x → g 19 y = h 13 y) → V KM (d + 3) mX11_order 36 [some (aR 0), some (aI k), some (aI i), some (aI x), none, none, none] [] g (rI P) := by
    intro m
    induction m with
    | zero =>
      intro x g hx hx0 kg hy
      have g2 : g 2 = h 2 := kg 2 (by decide)
      have e19 : eqN (h 2 0) (g 19) (h 13) := fun y z0 z1 => hy y z0 (by omega)
      refine v_X11_order_36 k i x g ?_
      rw [g2]
      refine ⟨by omega, ⟨⟨by omega, by omega⟩, ⟨by omega, by omega⟩⟩, fun _ => m_sort (d := d + 2) (by rw [g2]; exact hn) (by rw [g2]; exact fun y z0 z1 => by rw [e19 y z0 z1]; exact r199_ok hp y z0 z1) (fun g3 c1 c2 c3 c4 => ?_), fun z => absurd z (by omega)⟩
      rw [g2] at c2 c3 c4
      have hRS := RS_in (p := g3 19) (n := (h 2 0).toNat) (h 2 0).toNat (Nat.le_refl _)
      exact key (g3 19) c2 (prm_tr c3 (prm_eq e19)) c4 40320 (g3 19) (1000000, z0) g3 (-1) (fun a z1 z2 z3 z4 z5 => by rw [c1 a z4]; exact kg a z4) rfl c4 (by omega) ⟨by show (0 : Int) ≤ 1000000; omega, by show (1000000 : Int) ≤ 1000000; omega⟩ (by rw [if_pos rfl]) (fun z => absurd rfl z) rfl
    | succ m ihm =>
      intro x g hx hx0 kg hy
      have g2 : g 2 = h 2 := kg 2 (by decide)
      refine v_X11_order_36 k i x g ?_
      rw [g2]
      refine ⟨by omega, ⟨⟨by omega, by omega⟩, ⟨by omega, by omega⟩⟩, fun z => absurd z (by omega), fun _ => ⟨by omega, by omega, ihm (x + 1) _ (by omega) (by omega) (fun a z4 => by rw [hset_n z4]; exact kg a z4) (fun y y0 y1 => ?_)⟩⟩
      by_cases e : y = x
      · rw [e, hset_s, kg 13 (by decide)]
      · rw [hset_m e]
        exact hy y y0 (by omega)
  exact copy (h 2 0).toNat 0 h (by omega) (by omega) (fun _ _ => rfl) (fun y z0 z1 => absurd z1 (by omega))
