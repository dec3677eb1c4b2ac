/-! the class: pours, the searches -/
theorem x_fill_42 {d : Nat} {P : HP → Prop} {n q c : Nat} {h : HP} (hn : 1 ≤ n ∧ n ≤ 8) (hq : 1 ≤ q ∧ q ≤ 5) (hcur : CUR n q (h 42) c) (hc : c < pcs n q) (hck : pok n q (h 28) c = true)
    (hP : ∀ g : HP, (∀ a, a ≠ 44 → g a = h a) → eqN n (g 44) (prw n q (h 28) c) → P g) : Ct KX (d + 2) mX8_fill [aR 42, aR 28, aR 44] h (rV P) := by
  refine e_X8_fill_42 h (c_copyBins (by decide) (by decide) ?_)
  have eK : (hcpy h 28 44 8) 42 = h 42 := hcpy_n (by decide)
  have eD : ∀ x, 0 ≤ x → x < 8 → (hcpy h 28 44 8) 44 x = h 28 x := fun x q0 q1 => hcpy_s q0 q1
  rw [eK]
  have t1 := pto_lt (n := n) (q := q) (c := c) (by omega)
  have f1 := pfr_lt (by omega) (by omega) hc
  have rest : ∀ v w a b : Int, (∀ a', a' ≠ 44 → (hset (hset (hcpy h 28 44 8) 44 a v) 44 b w) a' = h a') := fun v w a b a' ha => by rw [hset_n ha, hset_n ha, hcpy_n ha]
  rcases hcur with ⟨c0, e0, e1, e2⟩ | ⟨c0, e0, e1, e2⟩
  · rw [e0, e1, e2]
    refine ⟨by omega, by omega, by omega, by omega, hP _ (rest _ _ _ _) (fun x q0 q1 => ?_)⟩
    have : prw n q (h 28) c = h 28 := by unfold prw; rw [if_pos c0]
    rw [this]
    by_cases e : x = 0
    · rw [e, hset_s, hset_s, eD 0 (by omega) (by omega)]; omega
    · rw [hset_m e, hset_m e, eD x q0 (by omega)]
  · rw [e0, e1, e2]
    have hne := ((pok_iff c0).mp hck).1
    refine ⟨by omega, by omega, by omega, by omega, hP _ (rest _ _ _ _) (fun x q0 q1 => ?_)⟩
    unfold prw udf
    rw [if_neg (show ¬ c = 0 by omega)]
    by_cases e : x = (pto n q c : Nat)
    · rw [if_pos e, e, hset_s, hset_m (by omega), eD _ (by omega) (by omega)]
    · rw [if_neg e, hset_m e]
      by_cases e3 : x = (pfr n q c : Nat)
      · rw [if_pos e3, e3, hset_s, eD _ (by omega) (by omega)]
      · rw [if_neg e3, hset_m e3, eD x q0 (by omega)]
theorem x_fill_43 {d : Nat} {P : HP → Prop} {n q c : Nat} {h : HP} (hn : 1 ≤ n ∧ n ≤ 8) (hq : 1 ≤ q ∧ q ≤ 5) (hcur : CUR n q (h 43) c) (hc : c < pcs n q) (hck : pok n q (h 44) c = true)
    (hP : ∀ g : HP, (∀ a, a ≠ 45 → g a = h a) → eqN n (g 45) (prw n q (h 44) c) → P g) : Ct KX (d + 2) mX8_fill [aR 43, aR 44, aR 45] h (rV P) := by
  refine e_X8_fill_43 h (c_copyBins (by decide) (by decide) ?_)
  have eK : (hcpy h 44 45 8) 43 = h 43 := hcpy_n (by decide)
  have eD : ∀ x, 0 ≤ x → x < 8 → (hcpy h 44 45 8) 45 x = h 44 x := fun x q0 q1 => hcpy_s q0 q1
  rw [eK]
  have t1 := pto_lt (n := n) (q := q) (c := c) (by omega)
  have f1 := pfr_lt (by omega) (by omega) hc
  have rest : ∀ v w a b : Int, (∀ a', a' ≠ 45 → (hset (hset (hcpy h 44 45 8) 45 a v) 45 b w) a' = h a') := fun v w a b a' ha => by rw [hset_n ha, hset_n ha, hcpy_n ha]
  rcases hcur with ⟨c0, e0, e1, e2⟩ | ⟨c0, e0, e1, e2⟩
  · rw [e0, e1, e2]
    refine ⟨by omega, by omega, by omega, by omega, hP _ (rest _ _ _ _) (fun x q0 q1 => ?_)⟩
    have : prw n q (h 44) c = h 44 := by unfold prw; rw [if_pos c0]
    rw [this]
    by_cases e : x = 0
    · rw [e, hset_s, hset_s, eD 0 (by omega) (by omega)]; omega
    · rw [hset_m e, hset_m e, eD x q0 (by omega)]
  · rw [e0, e1, e2]
    have hne := ((pok_iff c0).mp hck).1
    refine ⟨by omega, by omega, by omega, by omega, hP _ (rest _ _ _ _) (fun x q0 q1 => ?_)⟩
    unfold prw udf
    rw [if_neg (show ¬ c = 0 by omega)]
    by_cases e : x = (pto n q c : Nat)
    · rw [if_pos e, e, hset_s, hset_m (by omega), eD _ (by omega) (by omega)]
    · rw [if_neg e, hset_m e]
      by_cases e3 : x = (pfr n q c : Nat)
      · rw [if_pos e3, e3, hset_s, eD _ (by omega) (by omega)]
      · rw [if_neg e3, hset_m e3, eD x q0 (by omega)]
theorem x_run1 {d : Nat} {P : Int → HP → Prop} {t : Int} {c : Nat} {h : HP} (hb : wfB (bx h)) (hz : cz h) (hr : 0 ≤ h 14 4 ∧ h 14 4 ≤ 3) (ht : 0 ≤ t ∧ t ≤ 900000) (hc : akd KX c 1 8 = true) (hc26 : c ≠ 26) (hc16 : c ≠ 16) (hrow : rowOK (h 14 2) (h c))
    (hP : ∀ h', (∀ a, a ≠ c → a ≠ 26 → a ≠ 27 → h' a = h a) → eqN (h 14 2) (h' c) (ngt (bx h) (h 14 4) t z0 (h c)) → P (lossN (bx h) (h 14 4) z0 (h c) t 1) h') : Ct KX (d + 2) mX5_run [aR 24, aI (h 14 4), aR c, aI t, aI 1, aI 1000000] h (rI P) := by
  have hG : h 14 15 ≤ 10 := hb.2.1.2
  refine c_run hb hr ht ⟨by omega, by omega⟩ ⟨by omega, by omega⟩ hc hc26 hc16 hrow (cz_ct hz hG) (fun h' a1 a2 a3 => ?_)
  have ez : eqN (bG (bx h)) (h 25) z0 := cz_eq hz hG
  have hL : lossN (bx h) (h 14 4) (h 25) (h c) t 1 = lossN (bx h) (h 14 4) z0 (h c) t 1 := lossN_ag (b := bx h) (b' := bx h) hb (agB_rf _) (eqN_rf _ _) ez 1
  have hin := lossN_in (r := h 14 4) (ct := z0) (t := t) (p := h c) hb hrow 1
  have e1 : (1 : Int).toNat = 1 := rfl
  rw [e1] at a3
  rcases a3 with a3 | ⟨a3, a4⟩
  · have e2 : eqN (h 14 2) (h' c) (NN (bx h) (h 14 4) z0 (h c) t 1) := fun x q0 q1 => (a3 x q0 q1).trans (NN_ag (b := bx h) (b' := bx h) hb (agB_rf _) (eqN_rf _ _) ez 1 x q0 q1)
    have e3 : tot (bx h) (h c) - tot (bx h) (h' c) = lossN (bx h) (h 14 4) z0 (h c) t 1 := by
      unfold lossN
      rw [tot_ag (b := bx h) (agB_rf _) e2]
    rw [e3]
    refine hP h' a1 (fun x q0 q1 => ?_)
    rw [e2 x q0 q1, show (1 : Nat) = 0 + 1 from rfl, NN_sh]
    rfl
  · rw [hL] at a4
    omega
theorem x_leastTomorrow {d : Nat} {P : Int → HP → Prop} {t : Int} {n q : Nat} {h : HP} (hb : wfB (bx h)) (hz : cz h) (hr : 0 ≤ h 14 4 ∧ h 14 4 ≤ 3) (ht : 0 ≤ t ∧ t ≤ 900000) (hnn : h 14 2 = (n : Nat)) (hq : 1 ≤ q ∧ q ≤ 5) (hrow : rowOK n (h 44))
    (hP : ∀ g, (∀ a, a ≠ 26 → a ≠ 27 → a ≠ 43 → a ≠ 45 → g a = h a) → P (LTm (bx h) (h 14 4) t n q (h 44) (pcs n q)) g) : Ct KX (d + 3) mX7_leastTomorrow [aR 41, aI t, aI (q : Nat)] h (rI P) := by
  have hn : 1 ≤ n ∧ n ≤ 8 := by have h1 : 1 ≤ h 14 2 ∧ h 14 2 ≤ 8 := hb.1; omega
  have hnb : (n : Int) = bn (bx h) := hnn.symm
  have key : ∀ (f c x : Nat) (g : HP), pcs n q ≤ c + f → c < pcs n q → pok n q (h 44) c = true → CUR n q (g 43) c → x ≤ prk n q c → (∀ a, a ≠ 26 → a ≠ 27 → a ≠ 43 → a ≠ 45 → g a = h a) → V KX (d + 3) mX7_leastTomorrow 16 [some (aR 41), some (aI t), some (aI (q : Nat)), some (aI (LTm (bx h) (h 14 4) t n q (h 44) c)), some (aI 1), some (aI (x : Nat))] [] g (rI P) := by
    intro f
    induction f with
    | zero => intro c x g hf hc; omega
    | succ f ih =>
      intro c x g hf hc hck hcur hx hg
      have hne : c = 0 ∨ pfr n q c ≠ pto n q c := by
        by_cases e : c = 0
        · exact Or.inl e
        · exact Or.inr ((pok_iff (by omega)).mp hck).1
      have hr280 := prk_le (n := n) (q := q) (c := c) ⟨by omega, by omega⟩ ⟨by omega, by omega⟩ hc hne
      have hl := LTm_in (r := h 14 4) (t := t) (q := q) hb hnb (by omega) hrow c (by omega)
      have hl2 := LTm_in (r := h 14 4) (t := t) (q := q) hb hnb (by omega) hrow (pcs n q) (Nat.le_refl _)
      have hdn := LTm_dn (b := bx h) (r := h 14 4) (t := t) (n := n) (q := q) (p := h 44) (c := c) (pcs n q - c)
      rw [show c + (pcs n q - c) = pcs n q by omega] at hdn
      refine v_X7_leastTomorrow_16 t q _ 1 x g ⟨⟨⟨by omega, by omega⟩, by decide⟩, fun z => absurd z (by omega), fun _ => ⟨by decide, fun z => absurd z (by decide), fun _ => ⟨⟨by omega, by omega⟩, fun z => ?_, fun z => ?_⟩⟩⟩
      · have := hP g hg
        rwa [show LTm (bx h) (h 14 4) t n q (h 44) (pcs n q) = LTm (bx h) (h 14 4) t n q (h 44) c by omega] at this
      · have g44 : g 44 = h 44 := hg 44 (by decide) (by decide) (by decide) (by decide)
        refine x_fill_43 (d := d) hn hq hcur hc (by rw [g44]; exact hck) (fun g1 k1 e45 => ?_)
        rw [g44] at e45
        have kk : ∀ a, a ≠ 26 → a ≠ 27 → a ≠ 43 → a ≠ 45 → g1 a = h a := fun a z1 z2 z3 z4 => by rw [k1 a z4]; exact hg a z1 z2 z3 z4
        have f14 : g1 14 = h 14 := kk 14 (by decide) (by decide) (by decide) (by decide)
        have eb : bx g1 = bx h := by
          dsimp only [bx]
          rw [f14, kk 21 (by decide) (by decide) (by decide) (by decide), kk 22 (by decide) (by decide) (by decide) (by decide), kk 23 (by decide) (by decide) (by decide) (by decide), kk 16 (by decide) (by decide) (by decide) (by decide)]
        have hpo := prw_ok (by omega) (by omega) hrow hck hc
        have hrw : rowOK (h 14 2) (g1 45) := by
          rw [hnn]
          exact fun y q0 q1 => by rw [e45 y q0 q1]; exact hpo y q0 q1
        refine x_run1 (d := d) (c := 45) (by rw [eb]; exact hb) (cz_keep hz (kk 25 (by decide) (by decide) (by decide) (by decide))) (by rw [f14]; exact hr) ht (by decide) (by decide) (by decide) (by rw [f14]; exact hrw) (fun g2 k2 _ => ?_)
        rw [eb, f14]
        have hL : lossN (bx h) (h 14 4) z0 (g1 45) t 1 = lossN (bx h) (h 14 4) z0 (prw n q (h 44) c) t 1 := lossN_ag (b := bx h) (b' := bx h) hb (agB_rf _) (by rw [← hnb]; exact e45) (eqN_rf _ _) 1
        rw [hL]
        have hin := lossN_in (r := h 14 4) (ct := z0) (t := t) (p := prw n q (h 44) c) hb (by rw [← hnb]; exact hpo) 1
        have hstep : min (LTm (bx h) (h 14 4) t n q (h 44) c) (lossN (bx h) (h 14 4) z0 (prw n q (h 44) c) t 1) = LTm (bx h) (h 14 4) t n q (h 44) (c + 1) := by rw [LTm, if_pos hck]
        refine ⟨⟨⟨by omega, by omega⟩, ⟨by omega, by omega⟩⟩, ?_⟩
        have k3 : ∀ a, a ≠ 26 → a ≠ 27 → a ≠ 43 → a ≠ 45 → g2 a = h a := fun a z1 z2 z3 z4 => by rw [k2 a z4 z1 z2]; exact kk a z1 z2 z3 z4
        have f243 : g2 43 = g 43 := (k2 43 (by decide) (by decide) (by decide)).trans (k1 43 (by decide))
        have f244 : g2 44 = h 44 := k3 44 (by decide) (by decide) (by decide) (by decide)
        rw [k3 14 (by decide) (by decide) (by decide) (by decide), hnn, hstep]
        refine x_toNext_43 (d := d + 1) hn hq (by rw [f244]; exact hrow) (by rw [f243]; exact hcur) hc (by rw [f244]; exact hck) (fun c' g3 z1 z2 z3 z4 z5 z6 => ?_) (fun g3 z1 z5 => ?_)
        · rw [f244] at z3 z4
          have hsk := LTm_skip (b := bx h) (r := h 14 4) (t := t) (n := n) (q := q) (p := h 44) (c := c + 1) (c' - (c + 1)) (fun y q0 q1 => z4 y (by omega) (by omega))
          rw [show c + 1 + (c' - (c + 1)) = c' by omega] at hsk
          rw [← hsk, show ((x : Nat) : Int) + 1 = ((x + 1 : Nat) : Int) by omega]
          have hup := prk_up (n := n) (q := q) (c := c) (c' := c') ⟨by omega, by omega⟩ ⟨by omega, by omega⟩ z1 z2 hne ((pok_iff (by omega)).mp z3).1
          exact ih c' (x + 1) g3 (by omega) z2 z3 z6 (by omega) (fun a y1 y2 y3 y4 => by rw [z5 a y3]; exact k3 a y1 y2 y3 y4)
        · rw [f244] at z1
          have hsk := LTm_skip (b := bx h) (r := h 14 4) (t := t) (n := n) (q := q) (p := h 44) (c := c + 1) (pcs n q - (c + 1)) (fun y q0 q1 => z1 y (by omega) (by omega))
          rw [show c + 1 + (pcs n q - (c + 1)) = pcs n q by omega] at hsk
          have hP := hP g3 (fun a y1 y2 y3 y4 => by rw [z5 a y3]; exact k3 a y1 y2 y3 y4)
          rw [hsk] at hP
          exact v_X7_leastTomorrow_16 t q _ 0 _ g3 ⟨⟨⟨by omega, by omega⟩, by decide⟩, fun _ => hP, fun _ => ⟨by decide, fun _ => hP, fun z => absurd rfl z⟩⟩
  refine e_X7_leastTomorrow t q h (e_X8_toNothing_43 h ?_)
  have hp0 : 0 < pcs n q := by unfold pcs; omega
  have := key (pcs n q) 0 0 (hset (hset (hset h 43 0 0) 43 1 0) 43 2 0) (by omega) hp0 pok_0 (Or.inl ⟨rfl, by rw [hset_m (by decide), hset_m (by decide), hset_s], by rw [hset_m (by decide), hset_s], hset_s⟩) (by omega) (fun a z1 z2 z3 z4 => by rw [hset_n z3, hset_n z3, hset_n z3])
  exact this
abbrev kPo (h g : HP) : Prop := ∀ a, a ≠ 26 → a ≠ 27 → a ≠ 41 → a ≠ 42 → a ≠ 43 → a ≠ 44 → a ≠ 45 → g a = h a
theorem kPo_bx {h g : HP} (k : kPo h g) : bx g = bx h := by
  dsimp only [bx]
  rw [k 14 (by decide) (by decide) (by decide) (by decide) (by decide) (by decide) (by decide), k 21 (by decide) (by decide) (by decide) (by decide) (by decide) (by decide) (by decide), k 22 (by decide) (by decide) (by decide) (by decide) (by decide) (by decide) (by decide), k 23 (by decide) (by decide) (by decide) (by decide) (by decide) (by decide) (by decide), k 16 (by decide) (by decide) (by decide) (by decide) (by decide) (by decide) (by decide)]
theorem kPo_vx {h g : HP} (k : kPo h g) : vx g = vx h := vx_eq (fun a ha => k a (by omega) (by omega) (by omega) (by omega) (by omega) (by omega) (by omega))
theorem kPo_cz {h g : HP} (k : kPo h g) (hz : cz h) : cz g := cz_keep hz (k 25 (by decide) (by decide) (by decide) (by decide) (by decide) (by decide) (by decide))
theorem x_search7 {d : Nat} {P : HP → Prop} {t N : Int} {n q : Nat} {h : HP} (hb : wfB (bx h)) (hz : cz h) (hr : 0 ≤ h 14 4 ∧ h 14 4 ≤ 3) (ht : 0 ≤ t ∧ t ≤ 800000) (hN : 1 ≤ N ∧ N ≤ 2) (hnn : h 14 2 = (n : Nat)) (hq : 1 ≤ q ∧ q ≤ 5) (hrow : rowOK n (h 28))
    (hP : ∀ g, kPo h g → g 41 6 = (SPr (bx h) (h 14 4) t N n q (h 28) (pcs n q)).1 → CUR n q (fun j => g 41 (7 + j)) (SPr (bx h) (h 14 4) t N n q (h 28) (pcs n q)).2 → P g) : Ct KX (d + 4) mX7_search [aR 41, aR 28, aI t, aI N, aI (q : Nat)] h (rV P) := by
  have hn : 1 ≤ n ∧ n ≤ 8 := by have h1 : 1 ≤ h 14 2 ∧ h 14 2 ≤ 8 := hb.1; omega
  have hnb : (n : Int) = bn (bx h) := hnn.symm
  have hp0 : 0 < pcs n q := by unfold pcs; omega
  have key : ∀ (f c x : Nat) (g : HP), pcs n q ≤ c + f → c < pcs n q → pok n q (h 28) c = true → CUR n q (g 42) c → x ≤ prk n q c → kPo h g → g 41 6 = (SPr (bx h) (h 14 4) t N n q (h 28) c).1 → (0 < c → CUR n q (fun j => g 41 (7 + j)) (SPr (bx h) (h 14 4) t N n q (h 28) c).2) → V KX (d + 4) mX7_search 19 [some (aR 41), some (aR 28), some (aI t), some (aI N), some (aI (q : Nat)), some (aI 1), some (aI (x : Nat)), none] [] g (rV P) := by
    intro f
    induction f with
    | zero => intro c x g hf hc; omega
    | succ f ih =>
      intro c x g hf hc hck hcur hx hg e6 e7
      have hne : c = 0 ∨ pfr n q c ≠ pto n q c := by
        by_cases e : c = 0
        · exact Or.inl e
        · exact Or.inr ((pok_iff (by omega)).mp hck).1
      have hr280 := prk_le (n := n) (q := q) (c := c) ⟨by omega, by omega⟩ ⟨by omega, by omega⟩ hc hne
      have hsin := SPr_in (r := h 14 4) (t := t) (N := N) (q := q) hb hnb (by omega) hrow c (by omega)
      have hpv := pvl_in (r := h 14 4) (t := t) (N := N) hb hnb (by omega) hrow hck hc
      have hpo := prw_ok (by omega) (by omega) hrow hck hc
      have hin := lossN_in (r := h 14 4) (ct := z0) (t := t) (p := prw n q (h 28) c) hb (by rw [← hnb]; exact hpo) 1
      have hno := ngt_ok (rats := h 14 4) (t := t) (ct := z0) hb (by rw [← hnb]; exact hpo)
      rw [← hnb] at hno
      have hli := LTm_in (r := h 14 4) (t := t + 1) hb hnb (show 0 < q by omega) hno (pcs n q) (Nat.le_refl _)
      have g28 : g 28 = h 28 := hg 28 (by decide) (by decide) (by decide) (by decide) (by decide) (by decide) (by decide)
      -- what comes behind
      have behind : ∀ (w : Int) (g9 : HP), kPo h g9 → g9 42 = g 42 → g9 41 6 = (SPr (bx h) (h 14 4) t N n q (h 28) (c + 1)).1 → CUR n q (fun j => g9 41 (7 + j)) (SPr (bx h) (h 14 4) t N n q (h 28) (c + 1)).2 → V KX (d + 4) mX7_search 144 [some (aR 41), some (aR 28), some (aI t), some (aI N), some (aI (q : Nat)), some (aI 1), some (aI (x : Nat)), some (aI w)] [] g9 (rV P) := by
        intro w g9 k9 e42 u6 u7
        have f28 : g9 28 = h 28 := k9 28 (by decide) (by decide) (by decide) (by decide) (by decide) (by decide) (by decide)
        refine v_X7_search_144 t N q 1 x w g9 ?_
        rw [k9 14 (by decide) (by decide) (by decide) (by decide) (by decide) (by decide) (by decide), hnn]
        refine x_toNext_42 (d := d + 2) hn hq (by rw [f28]; exact hrow) (by rw [e42]; exact hcur) hc (by rw [f28]; exact hck) (fun c' g3 z1 z2 z3 z4 z5 z6 => ?_) (fun g3 z1 z5 => ?_)
        · rw [f28] at z3 z4
          have hsk := SPr_skip (b := bx h) (r := h 14 4) (t := t) (N := N) (n := n) (q := q) (p := h 28) (c := c + 1) (c' - (c + 1)) (fun y q0 q1 => z4 y (by omega) (by omega))
          rw [show c + 1 + (c' - (c + 1)) = c' by omega] at hsk
          rw [show ((x : Nat) : Int) + 1 = ((x + 1 : Nat) : Int) by omega]
          have hup := prk_up (n := n) (q := q) (c := c) (c' := c') ⟨by omega, by omega⟩ ⟨by omega, by omega⟩ z1 z2 hne ((pok_iff (by omega)).mp z3).1
          exact ih c' (x + 1) g3 (by omega) z2 z3 z6 (by omega) (fun a y1 y2 y3 y4 y5 y6 y7 => by rw [z5 a y4]; exact k9 a y1 y2 y3 y4 y5 y6 y7) (by rw [z5 41 (by decide), hsk]; exact u6) (fun _ => by rw [z5 41 (by decide), hsk]; exact u7)
        · rw [f28] at z1
          have hsk := SPr_skip (b := bx h) (r := h 14 4) (t := t) (N := N) (n := n) (q := q) (p := h 28) (c := c + 1) (pcs n q - (c + 1)) (fun y q0 q1 => z1 y (by omega) (by omega))
          rw [show c + 1 + (pcs n q - (c + 1)) = pcs n q by omega] at hsk
          have hP := hP g3 (fun a y1 y2 y3 y4 y5 y6 y7 => by rw [z5 a y4]; exact k9 a y1 y2 y3 y4 y5 y6 y7) (by rw [z5 41 (by decide), hsk]; exact u6) (by rw [z5 41 (by decide), hsk]; exact u7)
          exact v_X7_search_19 t N q 0 _ g3 ⟨⟨⟨by omega, by omega⟩, by decide⟩, fun _ => hP, fun _ => ⟨by decide, fun _ => hP, fun z => absurd rfl z⟩⟩
      have weigh : ∀ (w : Int) (g9 : HP), kPo h g9 → g9 42 = g 42 → g9 41 = g 41 → (0 ≤ w ∧ w ≤ 2000000) → (w < (SPr (bx h) (h 14 4) t N n q (h 28) c).1 ↔ pvl (bx h) (h 14 4) t N n q (h 28) c < (SPr (bx h) (h 14 4) t N n q (h 28) c).1) → (w < (SPr (bx h) (h 14 4) t N n q (h 28) c).1 → w = pvl (bx h) (h 14 4) t N n q (h 28) c) → V KX (d + 4) mX7_search 96 [some (aR 41), some (aR 28), some (aI t), some (aI N), some (aI (q : Nat)), some (aI 1), some (aI (x : Nat)), some (aI w)] [] g9 (rV P) := by
        intro w g9 k9 e42 e41 hw hiff heq
        have u6 : g9 41 6 = (SPr (bx h) (h 14 4) t N n q (h 28) c).1 := by rw [e41]; exact e6
        refine v_X7_search_96 t N q 1 x w g9 ?_
        rw [u6, e42]
        refine ⟨⟨⟨by omega, by omega⟩, ⟨by omega, by omega⟩⟩, fun z => ?_, fun z => ?_⟩
        · have hS : SPr (bx h) (h 14 4) t N n q (h 28) (c + 1) = SPr (bx h) (h 14 4) t N n q (h 28) c := by
            rw [SPr, if_neg (fun y => by have := hiff.mpr y.2; omega)]
          refine behind w g9 k9 e42 (by rw [hS]; exact u6) ?_
          rw [hS, e41]
          refine e7 ?_
          by_cases ec : 0 < c
          · exact ec
          · have e0 : c = 0 := by omega
            rw [e0] at z hiff hpv
            have h9 : (SPr (bx h) (h 14 4) t N n q (h 28) 0).1 = 1000000 := rfl
            rw [h9] at z hiff
            have := hiff.mpr (by omega)
            omega
        · have hS : SPr (bx h) (h 14 4) t N n q (h 28) (c + 1) = (pvl (bx h) (h 14 4) t N n q (h 28) c, c) := by
            rw [SPr, if_pos ⟨hck, hiff.mp z⟩]
          refine behind w _ (fun a y1 y2 y3 y4 y5 y6 y7 => by rw [hset_n y3, hset_n y3, hset_n y3, hset_n y3]; exact k9 a y1 y2 y3 y4 y5 y6 y7) (by rw [hset_n (by decide), hset_n (by decide), hset_n (by decide), hset_n (by decide)]; exact e42) ?_ ?_
          · rw [hS, hset_m (by decide), hset_m (by decide), hset_m (by decide), hset_s]
            exact heq z
          · rw [hS]
            have f0 : (hset (hset (hset (hset g9 41 6 w) 41 7 (g 42 0)) 41 8 (g 42 1)) 41 9 (g 42 2)) 41 (7 + 0) = g 42 0 := by
              rw [show (7 : Int) + 0 = 7 by omega, hset_m (by decide), hset_m (by decide), hset_s]
            have f1 : (hset (hset (hset (hset g9 41 6 w) 41 7 (g 42 0)) 41 8 (g 42 1)) 41 9 (g 42 2)) 41 (7 + 1) = g 42 1 := by
              rw [show (7 : Int) + 1 = 8 by omega, hset_m (by decide), hset_s]
            have f2 : (hset (hset (hset (hset g9 41 6 w) 41 7 (g 42 0)) 41 8 (g 42 1)) 41 9 (g 42 2)) 41 (7 + 2) = g 42 2 := by
              rw [show (7 : Int) + 2 = 9 by omega, hset_s]
            unfold CUR
            dsimp only
            rw [f0, f1, f2]
            exact hcur
      refine v_X7_search_19 t N q 1 x g ⟨⟨⟨by omega, by omega⟩, by decide⟩, fun z => absurd z (by omega), fun _ => ⟨by decide, fun z => absurd z (by decide), fun _ => ?_⟩⟩
      refine x_fill_42 (d := d + 1) hn hq hcur hc (by rw [g28]; exact hck) (fun g1 k1 e44 => ?_)
      rw [g28] at e44
      have kk : kPo h g1 := fun a z1 z2 z3 z4 z5 z6 z7 => by rw [k1 a z6]; exact hg a z1 z2 z3 z4 z5 z6 z7
      have f14 : g1 14 = h 14 := kk 14 (by decide) (by decide) (by decide) (by decide) (by decide) (by decide) (by decide)
      have eb := kPo_bx kk
      have hrw : rowOK (h 14 2) (g1 44) := by
        rw [hnn]
        exact fun y q0 q1 => by rw [e44 y q0 q1]; exact hpo y q0 q1
      refine x_run1 (d := d + 1) (c := 44) (by rw [eb]; exact hb) (kPo_cz kk hz) (by rw [f14]; exact hr) ⟨ht.1, by omega⟩ (by decide) (by decide) (by decide) (by rw [f14]; exact hrw) (fun g2 k2 e2 => ?_)
      rw [eb, f14] at e2
      rw [eb, f14]
      have hL : lossN (bx h) (h 14 4) z0 (g1 44) t 1 = lossN (bx h) (h 14 4) z0 (prw n q (h 28) c) t 1 := lossN_ag (b := bx h) (b' := bx h) hb (agB_rf _) (by rw [← hnb]; exact e44) (eqN_rf _ _) 1
      rw [hL]
      have k3 : kPo h g2 := fun a z1 z2 z3 z4 z5 z6 z7 => by rw [k2 a z6 z1 z2]; exact kk a z1 z2 z3 z4 z5 z6 z7
      have f42 : g2 42 = g 42 := (k2 42 (by decide) (by decide) (by decide)).trans (k1 42 (by decide))
      have f41 : g2 41 = g 41 := (k2 41 (by decide) (by decide) (by decide)).trans (k1 41 (by decide))
      have e244 : eqN n (g2 44) (ngt (bx h) (h 14 4) t z0 (prw n q (h 28) c)) := fun y q0 q1 => by
        have h9 := ngt_ag (b := bx h) (b' := bx h) (rats := h 14 4) (t := t) (ct := z0) (ct' := z0) hb (agB_rf _) (by rw [← hnb]; exact e44) (eqN_rf _ _) y q0 (by rw [← hnb]; exact q1)
        rw [e2 y q0 (by rw [hnn]; exact q1)]
        exact h9
      have hpvd : pvl (bx h) (h 14 4) t N n q (h 28) c = lossN (bx h) (h 14 4) z0 (prw n q (h 28) c) t 1 + (if N = 2 then LTm (bx h) (h 14 4) (t + 1) n q (ngt (bx h) (h 14 4) t z0 (prw n q (h 28) c)) (pcs n q) else 0) := rfl
      refine ⟨⟨⟨by omega, by omega⟩, by decide⟩, fun z => ?_, fun z => ?_⟩
      · rw [if_neg z] at hpvd
        exact weigh _ g2 k3 f42 f41 ⟨by omega, by omega⟩ (by rw [hpvd, show lossN (bx h) (h 14 4) z0 (prw n q (h 28) c) t 1 + 0 = lossN (bx h) (h 14 4) z0 (prw n q (h 28) c) t 1 by omega]) (fun _ => by omega)
      · rw [if_pos z] at hpvd
        rw [f41, e6]
        refine ⟨⟨⟨by omega, by omega⟩, ⟨by omega, by omega⟩⟩, fun z2 => weigh _ g2 k3 f42 f41 ⟨by omega, by omega⟩ ⟨fun y => by omega, fun y => by omega⟩ (fun y => by omega), fun z2 => ?_⟩
        have f214 : g2 14 = h 14 := k3 14 (by decide) (by decide) (by decide) (by decide) (by decide) (by decide) (by decide)
        refine x_leastTomorrow (d := d) (by rw [kPo_bx k3]; exact hb) (kPo_cz k3 hz) (by rw [f214]; exact hr) ⟨by omega, by omega⟩ (by rw [f214]; exact hnn) hq (fun y q0 q1 => by rw [e244 y q0 q1]; exact hno y q0 q1) (fun g4 k4 => ?_)
        rw [kPo_bx k3, f214, LTm_ag (p' := ngt (bx h) (h 14 4) t z0 (prw n q (h 28) c)) hb (agB_rf _) hnb (by omega) e244 _ (Nat.le_refl _), ← hpvd]
        exact weigh _ g4 (fun a y1 y2 y3 y4 y5 y6 y7 => by rw [k4 a y1 y2 y5 y7]; exact k3 a y1 y2 y3 y4 y5 y6 y7) (by rw [k4 42 (by decide) (by decide) (by decide) (by decide)]; exact f42) (by rw [k4 41 (by decide) (by decide) (by decide) (by decide)]; exact f41) ⟨by omega, by omega⟩ Iff.rfl (fun _ => rfl)
  refine e_X7_search t N q h (e_X8_toNothing_42 _ ?_)
  exact key (pcs n q) 0 0 _ (by omega) hp0 pok_0 (Or.inl ⟨rfl, by rw [hset_m (by decide), hset_m (by decide), hset_s], by rw [hset_m (by decide), hset_s], hset_s⟩) (by omega) (fun a z1 z2 z3 z4 z5 z6 z7 => by rw [hset_n z4, hset_n z4, hset_n z4, hset_n z3]) (by rw [hset_n (by decide), hset_n (by decide), hset_n (by decide), hset_s]; rfl) (fun z => absurd z (by omega))
theorem x_pours {d : Nat} {P : Int → HP → Prop} {M N q w : Int} {h : HP} (hW : WV M (vx h)) (hM : M ≤ 1000) (hz : cz h) (hN : iR N) (hq : iR q) (hw : iR w) (hP : ∀ h', vx h' = vx h → cz h' → P (sp_pours (vx h) N q w) h') : Ct KX (d + 5) mX10_pours [aR 0, aI N, aI q, aI w] h (rI P) := by
  obtain ⟨b1, b2, b3, b4, b5, b6, b7, b8, -⟩ := hW
  have hb : wfB (bx h) := b3
  have hn : 1 ≤ h 14 2 ∧ h 14 2 ≤ 8 := hb.1
  have ht : 0 ≤ h 0 7 ∧ h 0 7 ≤ M := b8
  have hr : 0 ≤ h 14 4 ∧ h 14 4 ≤ 3 := b4
  have hp : r199 (h 14 2) (h 28) := b7
  unfold sp_pours at hP
  have bad : ¬ ((1 ≤ N ∧ N ≤ 2) ∧ (1 ≤ q ∧ q ≤ 5) ∧ 0 ≤ w ∧ w ≤ 3) → P (-1) h := fun z => by
    have := hP h rfl hz
    rw [if_neg z] at this
    exact this
  refine e_X10_pours N q w h (c_within hN (by decide) (by decide) (fun a b => bT (c_within hq (by decide) (by decide) (fun a2 b2 => bT (c_within hw (by decide) (by decide) (fun a3 b3' => bT' ?_) (fun a3 => bF' (bad (by omega))))) (fun a2 => bF (bad (by omega))))) (fun a => bF (bad (by omega))))
  obtain ⟨n, hnn⟩ : ∃ n : Nat, h 14 2 = n := ⟨(h 14 2).toNat, by omega⟩
  obtain ⟨k, hk⟩ : ∃ k : Nat, q = k := ⟨q.toNat, by omega⟩
  have hS : sPo (vx h) N q = SPr (bx h) (h 14 4) (h 0 7) N n k (h 28) (pcs n k) := by
    show SPr (bx h) (h 14 4) (h 0 7) N (h 14 2).toNat q.toNat (h 28) (pcs (h 14 2).toNat q.toNat) = _
    rw [show (h 14 2).toNat = n by omega, show q.toNat = k by omega]
  have hP : ∀ h', vx h' = vx h → cz h' → P (if w = 0 then (SPr (bx h) (h 14 4) (h 0 7) N n k (h 28) (pcs n k)).1 else if (SPr (bx h) (h 14 4) (h 0 7) N n k (h 28) (pcs n k)).2 = 0 then -4 else if w = 1 then ((pfr n k (SPr (bx h) (h 14 4) (h 0 7) N n k (h 28) (pcs n k)).2 : Nat) : Int) else if w = 2 then ((pto n k (SPr (bx h) (h 14 4) (h 0 7) N n k (h 28) (pcs n k)).2 : Nat) : Int) else ((pmn k (SPr (bx h) (h 14 4) (h 0 7) N n k (h 28) (pcs n k)).2 : Nat) : Int)) h' := fun h' e1 e2 => by
    have := hP h' e1 e2
    rw [if_pos ⟨⟨a, b⟩, ⟨a2, b2⟩, a3, b3'⟩, hS] at this
    have e9 : (bn (qb (vx h))).toNat = n := by show (h 14 2).toNat = n; omega
    rwa [e9, show q.toNat = k by omega] at this
  rw [hk]
  refine x_search7 (d := d) hb hz hr ⟨ht.1, by omega⟩ ⟨a, b⟩ hnn (by omega) (by rw [← hnn]; exact r199_ok hp) (fun g kg e6 e7 => ?_)
  have hP := hP g (kPo_vx kg) (kPo_cz kg hz)
  have hin := SPr_in (b := bx h) (r := h 14 4) (t := h 0 7) (N := N) (n := n) (q := k) (p := h 28) hb hnn.symm (by omega) (by rw [← hnn]; exact r199_ok hp) (pcs n k) (Nat.le_refl _)
  generalize SPr (bx h) (h 14 4) (h 0 7) N n k (h 28) (pcs n k) = s at hP e6 e7 hin
  refine ⟨hw, fun z => ?_, fun z => ?_⟩
  · rw [if_neg z] at hP
    have e7' : (s.2 = 0 ∧ g 41 7 = 0 ∧ g 41 8 = 0 ∧ g 41 9 = 0) ∨ (0 < s.2 ∧ g 41 7 = (pfr n k s.2 : Nat) ∧ g 41 8 = (pto n k s.2 : Nat) ∧ g 41 9 = (pmn k s.2 : Nat)) := e7
    rcases e7' with ⟨u0, u1, u2, u3⟩ | ⟨u0, u1, u2, u3⟩
    · rw [if_pos u0] at hP
      rw [u3]
      exact ⟨by decide, fun z2 => absurd rfl z2, fun _ => hP⟩
    · have m1 := pmn_in (q := k) (c := s.2) (by omega)
      rw [if_neg (by omega)] at hP
      rw [u3, u2, u1]
      refine ⟨⟨by omega, by omega⟩, fun z2 => ⟨⟨hw, by decide⟩, fun z3 => ⟨⟨hw, by decide⟩, fun z4 => ?_, fun z4 => ?_⟩, fun z3 => ?_⟩, fun z2 => absurd z2 (by omega)⟩
      · rw [if_neg z3, if_neg z4] at hP; exact hP
      · rw [if_neg z3, if_pos z4] at hP; exact hP
      · rw [if_pos z3] at hP; exact hP
  · rw [if_pos z] at hP
    rw [e6]
    exact hP
