/-! the class: what was -/
abbrev kB (h g : HP) : Prop := ∀ a, a ≠ 60 → a ≠ 61 → a ≠ 62 → a ≠ 63 → a ≠ 26 → a ≠ 27 → g a = h a
theorem kB_bx {h g : HP} (k : kB h g) : bx g = bx h := by
  dsimp only [bx]
  rw [k 14 (by decide) (by decide) (by decide) (by decide) (by decide) (by decide), k 21 (by decide) (by decide) (by decide) (by decide) (by decide) (by decide), k 22 (by decide) (by decide) (by decide) (by decide) (by decide) (by decide), k 23 (by decide) (by decide) (by decide) (by decide) (by decide) (by decide), k 16 (by decide) (by decide) (by decide) (by decide) (by decide) (by decide)]
theorem kB_cz {h g : HP} (k : kB h g) (hz : cz h) : cz g := cz_keep hz (k 25 (by decide) (by decide) (by decide) (by decide) (by decide) (by decide))
theorem kB_vx {h g : HP} (k : kB h g) : vx g = vx h := vx_eq (fun a ha => k a (by omega) (by omega) (by omega) (by omega) (by omega) (by omega))
theorem x_becomes {d : Nat} {P : Int → HP → Prop} {t : Int} {h g : HP} {q : Int → Int} (hb : wfB (bx h)) (hz : cz h) (hr : 0 ≤ h 14 4 ∧ h 14 4 ≤ 3) (ht : 0 ≤ t ∧ t ≤ 900000) (hp : r199 (h 14 2) (h 28)) (k : kB h g) (he : eqN (h 14 2) (g 61) q) (hrow : rowOK (h 14 2) q)
    (h1 : okN (ngt (bx h) (h 14 4) t z0 q) (h 28) (h 14 2).toNat = true → ∀ g', kB h g' → g' 60 = g 60 → g' 61 = g 61 → g' 63 = g 63 → P 1 g') (h0 : okN (ngt (bx h) (h 14 4) t z0 q) (h 28) (h 14 2).toNat = false → ∀ g', kB h g' → g' 60 = g 60 → g' 61 = g 61 → g' 63 = g 63 → P 0 g') : Ct KX (d + 3) mX1_becomes [aR 60, aR 28, aI t] g (rI P) := by
  have hn : 1 ≤ h 14 2 ∧ h 14 2 ≤ 8 := hb.1
  have eb := kB_bx k
  have e14 : g 14 = h 14 := k 14 (by decide) (by decide) (by decide) (by decide) (by decide) (by decide)
  have e62 : eqN (h 14 2) (hcpy g 61 62 8 62) q := fun x h0 h1 => (hcpy_s h0 (by omega)).trans (he x h0 h1)
  refine e_X1_becomes t g (c_copyBins (by decide) (by decide) ?_)
  rw [show (hcpy g 61 62 8) 14 = h 14 from (hcpy_n (by decide)).trans e14]
  have ebb : bx (hcpy g 61 62 8) = bx h := eb
  refine x_run (h := hcpy g 61 62 8) (c := 62) (r := h 14 4) (n := 1) (by rw [ebb]; exact hb) (cz_keep (kB_cz k hz) (hcpy_n (by decide))) hr ht (by decide) (by decide) (by decide) (by decide) (by rw [show (hcpy g 61 62 8) 14 = h 14 from (hcpy_n (by decide)).trans e14]; exact fun x h0 h1 => by rw [e62 x h0 h1]; exact hrow x h0 h1) (fun h' a1 a2 a3 => ?_)
  rw [ebb, show (hcpy g 61 62 8) 14 = h 14 from (hcpy_n (by decide)).trans e14] at a2
  have f62 : eqN (h 14 2) (h' 62) (ngt (bx h) (h 14 4) t z0 q) := fun x q0 q1 => by
    have z := a2 x q0 q1
    rw [show (1 : Int).toNat = 1 from rfl, NN1] at z
    exact z.trans (ngt_ag (rats := h 14 4) (t := t) (ct := z0) (ct' := z0) hb (agB_rf _) e62 (eqN_rf _ _) x q0 q1)
  have k' : kB h h' := fun a q1 q2 q3 q4 q5 q6 => by rw [a1 a q3 q5 q6, hcpy_n q3]; exact k a q1 q2 q3 q4 q5 q6
  have f28 : h' 28 = h 28 := k' 28 (by decide) (by decide) (by decide) (by decide) (by decide) (by decide)
  have f14 : h' 14 = h 14 := k' 14 (by decide) (by decide) (by decide) (by decide) (by decide) (by decide)
  have c60 : h' 60 = g 60 := by rw [a1 60 (by decide) (by decide) (by decide), hcpy_n (by decide)]
  have c61 : h' 61 = g 61 := by rw [a1 61 (by decide) (by decide) (by decide), hcpy_n (by decide)]
  have c63 : h' 63 = g 63 := by rw [a1 63 (by decide) (by decide) (by decide), hcpy_n (by decide)]
  have key : ∀ (m x : Nat), x + m = (h 14 2).toNat → (∀ y : Nat, y < x → ngt (bx h) (h 14 4) t z0 q y = h 28 y) → V KX (d + 3) mX1_becomes 36 [some (aR 60), some (aR 28), some (aI t), some (aI x)] [] h' (rI P) := by
    intro m
    induction m with
    | zero =>
      intro x hx hy
      refine v_X1_becomes_36 t x h' ?_
      rw [f14]
      exact ⟨⟨⟨by omega, by omega⟩, ⟨by omega, by omega⟩⟩, fun _ => ⟨by omega, h1 ((okN_iff _).mpr (fun i hi => hy i (by omega))) h' k' c60 c61 c63⟩, fun z => absurd z (by omega)⟩
    | succ m ih =>
      intro x hx hy
      have hN := ngt_ok (rats := h 14 4) (t := t) (ct := z0) hb hrow x (by omega) (by show (x : Int) < h 14 2; omega)
      have h2 := hp x (by omega) (by omega)
      refine v_X1_becomes_36 t x h' ?_
      rw [f14, f28, f62 x (by omega) (by omega)]
      refine ⟨⟨⟨by omega, by omega⟩, ⟨by omega, by omega⟩⟩, fun z => absurd z (by omega), fun _ => ⟨by omega, by omega, ⟨⟨by omega, by omega⟩, ⟨by omega, by omega⟩⟩, fun z => ?_, fun z => ⟨by omega, h0 ?_ h' k' c60 c61 c63⟩⟩⟩
      · exact ih (x + 1) (by omega) (fun y hy2 => by
          by_cases e : y = x
          · subst e; exact z
          · exact hy y (by omega))
      · rw [← Bool.not_eq_true]
        intro w
        exact z ((okN_iff _).mp w x (by omega))
  exact key (h 14 2).toNat 0 (by omega) (fun y hy => absurd hy (by omega))
theorem x_nextRow {d : Nat} {P : Int → HP → Prop} {m t : Int} {h g : HP} {p : Int → Int} (hb : wfB (bx h)) (hm : 0 ≤ m ∧ m ≤ 20) (k : kB h g) (he : eqN (h 14 2) (g 61) p) (hd : ∀ x : Nat, x < (h 14 2).toNat → 0 ≤ h 28 x ∧ h 28 x ≤ p x ∧ p x ≤ m)
    (h1 : ∀ q g', kB h g' → g' 60 = g 60 → g' 63 = g 63 → eqN (h 14 2) (g' 61) q → (∀ x : Nat, x < (h 14 2).toNat → 0 ≤ h 28 x ∧ h 28 x ≤ q x ∧ q x ≤ m) → GW (okW (bx h) (h 14 4) t (h 28) (Bm m)) (hv (Bm m) q (h 14 2).toNat) = GW (okW (bx h) (h 14 4) t (h 28) (Bm m)) (hv (Bm m) p (h 14 2).toNat + 1) → hv (Bm m) p (h 14 2).toNat + 1 ≤ hv (Bm m) q (h 14 2).toNat → P 1 g')
    (h0 : hv (Bm m) p (h 14 2).toNat + 1 = Bm m ^ (h 14 2).toNat → ∀ g', kB h g' → g' 60 = g 60 → g' 63 = g 63 → P 0 g') : Ct KX d mX1_nextRow [aR 60, aR 28, aI m] g (rI P) := by
  have hn : 1 ≤ h 14 2 ∧ h 14 2 ≤ 8 := hb.1
  have e14 : g 14 = h 14 := k 14 (by decide) (by decide) (by decide) (by decide) (by decide) (by decide)
  have hB : Bm m = m.toNat + 1 := by show (m + 1).toNat = _; omega
  refine e_X1_nextRow m g ?_
  rw [e14]
  -- j of the last are at the most
  have key : ∀ (u j : Nat) (g1 : HP), u + j = (h 14 2).toNat → kB h g1 → g1 60 = g 60 → g1 63 = g 63 → (∀ x : Nat, x < u → g1 61 x = p x) → (∀ x : Nat, u ≤ x → x < (h 14 2).toNat → g1 61 x = h 28 x ∧ p x = m) → V KX d mX1_nextRow 10 [some (aR 60), some (aR 28), some (aI m), some (aI ((u : Int) - 1))] [] g1 (rI P) := by
    intro u
    induction u with
    | zero =>
      intro j g1 hj k1 c60 c63 hl hh
      refine v_X1_nextRow_10 m _ g1 ⟨⟨by omega, by omega⟩, fun _ => ⟨by omega, h0 ?_ g1 k1 c60 c63⟩, fun z => absurd z (by omega)⟩
      have := hv_max (B := Bm m) (p := p) (k := 0) j (fun x _ q1 => by have := (hh x (by omega) (by omega)).2; omega)
      rw [hj] at this
      rw [this, hv, Nat.zero_add, Nat.one_mul]
      congr 1
      omega
    | succ u ih =>
      intro j g1 hj k1 c60 c63 hl hh
      have hu := hl u (by omega)
      have hdu := hd u (by omega)
      have e28 : g1 28 = h 28 := k1 28 (by decide) (by decide) (by decide) (by decide) (by decide) (by decide)
      have ek : ((u + 1 : Nat) : Int) - 1 = u := by omega
      rw [ek]
      refine v_X1_nextRow_10 m u g1 ?_
      rw [hu, e28]
      refine ⟨⟨by omega, by omega⟩, fun z => absurd z (by omega), fun _ => ⟨by omega, ⟨⟨by omega, by omega⟩, ⟨by omega, by omega⟩⟩, fun z => ⟨by omega, by omega, ?_⟩, fun z => ⟨by omega, by omega, by omega, ?_⟩⟩⟩
      · have := ih (j + 1) (hset g1 61 u (h 28 u)) (by omega) (fun a q1 q2 q3 q4 q5 q6 => by rw [hset_n q2]; exact k1 a q1 q2 q3 q4 q5 q6) (by rw [hset_n (by decide)]; exact c60) (by rw [hset_n (by decide)]; exact c63) (fun x hx => by rw [hset_m (by omega)]; exact hl x (by omega)) (fun x q0 q1 => by
          by_cases e : x = u
          · subst e
            rw [hset_s]
            exact ⟨rfl, by omega⟩
          · rw [hset_m (by omega)]
            exact hh x (by omega) q1)
        rwa [show ((u : Int) + (-1)) = (u : Int) - 1 by omega]
      · have q0 : ∀ x : Nat, x < u → (hset g1 61 u (p u + 1)) 61 x = p x := fun x hx => by rw [hset_m (by omega)]; exact hl x (by omega)
        have q1 : (hset g1 61 u (p u + 1)) 61 u = p u + 1 := hset_s
        have q2 : ∀ x : Nat, u + 1 ≤ x → x < (h 14 2).toNat → (hset g1 61 u (p u + 1)) 61 x = h 28 x := fun x z0 z1 => by rw [hset_m (by omega)]; exact (hh x z0 z1).1
        have kk : kB h (hset g1 61 u (p u + 1)) := fun a q1 q2 q3 q4 q5 q6 => by rw [hset_n q2]; exact k1 a q1 q2 q3 q4 q5 q6
        have c60' : (hset g1 61 u (p u + 1)) 60 = g 60 := by rw [hset_n (by decide)]; exact c60
        have c63' : (hset g1 61 u (p u + 1)) 63 = g 63 := by rw [hset_n (by decide)]; exact c63
        generalize hset g1 61 u (p u + 1) = g2 at q0 q1 q2 kk c60' c63'
        have hvq : hv (Bm m) (g2 61) (u + 1) = hv (Bm m) p (u + 1) + 1 := by
          rw [hv, hv, hv_ag u q0, q1]
          omega
        have hmx := hv_max (B := Bm m) (p := p) (k := u + 1) j (fun x z0 z1 => by have := (hh x z0 (by omega)).2; omega)
        have hnn : u + 1 + j = (h 14 2).toNat := hj
        have hbn : (bn (bx h)).toNat = (h 14 2).toNat := rfl
        have hdn : ∀ x : Nat, x < (h 14 2).toNat → h 28 x ≤ m := fun x hx => by have := hd x hx; omega
        have htl := GW_tail (b := bx h) (r := h 14 4) (t := t) (now := h 28) (q := g2 61) (B := Bm m) hb (by omega) (k := u + 1) j hnn (fun x z0 z1 => ⟨q2 x z0 z1, (hd x z1).1, by have := hdn x z1; have := (hd x z1).1; omega⟩)
        rw [hbn, hvq, ← hmx, hnn] at htl
        have hge := hv_ge (B := Bm m) (p := g2 61) (k := u + 1) j
        rw [hvq, ← hmx, hnn] at hge
        refine h1 (g2 61) g2 kk c60' c63' (eqN_rf _ _) (fun x hx => ?_) htl hge
        have hdx := hd x hx
        by_cases e : x < u
        · rw [q0 x e]; exact hdx
        · by_cases e2 : x = u
          · subst e2
            rw [q1]
            omega
          · rw [q2 x (by omega) hx]
            omega
  have := key (h 14 2).toNat 0 g (by omega) k rfl rfl (fun x hx => he x (by omega) (by omega)) (fun x q0 q1 => absurd q0 (by omega))
  rwa [show (((h 14 2).toNat : Nat) : Int) = h 14 2 by omega] at this
theorem x_startRow {d : Nat} {P : Int → HP → Prop} {m : Int} {h g : HP} (hb : wfB (bx h)) (hm : 0 ≤ m ∧ m ≤ 20) (hp : r199 (h 14 2) (h 28)) (k : kB h g)
    (h1 : (∀ x : Nat, x < (h 14 2).toNat → h 28 x ≤ m) → ∀ g', kB h g' → g' 60 = g 60 → eqN (h 14 2) (g' 61) (h 28) → P 1 g') (h0 : ∀ x : Nat, x < (h 14 2).toNat → m < h 28 x → ∀ g', kB h g' → g' 60 = g 60 → P 0 g') : Ct KX (d + 2) mX1_startRow [aR 60, aR 28, aI m] g (rI P) := by
  have hn : 1 ≤ h 14 2 ∧ h 14 2 ≤ 8 := hb.1
  have e28 : g 28 = h 28 := k 28 (by decide) (by decide) (by decide) (by decide) (by decide) (by decide)
  refine e_X1_startRow m g (c_copyBins (by decide) (by decide) ?_)
  have kk : kB h (hcpy g 28 61 8) := fun a q1 q2 q3 q4 q5 q6 => by rw [hcpy_n q2]; exact k a q1 q2 q3 q4 q5 q6
  have c60 : (hcpy g 28 61 8) 60 = g 60 := hcpy_n (by decide)
  have e61 : eqN (h 14 2) ((hcpy g 28 61 8) 61) (h 28) := fun x q0 q1 => by rw [hcpy_s q0 (by omega), e28]
  generalize hcpy g 28 61 8 = g1 at kk c60 e61
  have f28 : g1 28 = h 28 := kk 28 (by decide) (by decide) (by decide) (by decide) (by decide) (by decide)
  have f14 : g1 14 = h 14 := kk 14 (by decide) (by decide) (by decide) (by decide) (by decide) (by decide)
  have key : ∀ (u x : Nat), x + u = (h 14 2).toNat → (∀ y : Nat, y < x → h 28 y ≤ m) → V KX (d + 2) mX1_startRow 10 [some (aR 60), some (aR 28), some (aI m), some (aI x)] [] g1 (rI P) := by
    intro u
    induction u with
    | zero =>
      intro x hx hy
      refine v_X1_startRow_10 m x g1 ?_
      rw [f14]
      exact ⟨⟨⟨by omega, by omega⟩, ⟨by omega, by omega⟩⟩, fun _ => ⟨by omega, h1 (fun y q => hy y (by omega)) g1 kk c60 e61⟩, fun z => absurd z (by omega)⟩
    | succ u ih =>
      intro x hx hy
      have h2 := hp x (by omega) (by omega)
      refine v_X1_startRow_10 m x g1 ?_
      rw [f14, f28]
      exact ⟨⟨⟨by omega, by omega⟩, ⟨by omega, by omega⟩⟩, fun z => absurd z (by omega), fun _ => ⟨by omega, ⟨⟨by omega, by omega⟩, ⟨by omega, by omega⟩⟩, fun z => ih (x + 1) (by omega) (fun y q => by
        by_cases e : y = x
        · subst e; exact z
        · exact hy y (by omega)), fun z => ⟨by omega, h0 x (by omega) z g1 kk c60⟩⟩⟩
  exact key (h 14 2).toNat 0 (by omega) (fun y hy => absurd hy (by omega))
theorem x_search1 {d : Nat} {P : HP → Prop} {m t : Int} {h : HP} (hb : wfB (bx h)) (hz : cz h) (hr : 0 ≤ h 14 4 ∧ h 14 4 ≤ 3) (ht : 0 ≤ t ∧ t ≤ 6) (hm : 0 ≤ m ∧ m ≤ 20) (hp : r199 (h 14 2) (h 28)) (hn4 : h 14 2 ≤ 4)
    (hP : ∀ g, kB h g → g 60 5 = (GA (vx h) m t).1 → (∀ c, (GA (vx h) m t).2 = some c → eqN (h 14 2) (g 63) (dg (Bm m) (h 14 2).toNat c)) → P g) : Ct KX (d + 4) mX1_search [aR 60, aR 28, aI m, aI t] h (rV P) := by
  have hn : 1 ≤ h 14 2 ∧ h 14 2 ≤ 8 := hb.1
  have hB : Bm m = m.toNat + 1 := by show (m + 1).toNat = _; omega
  have hpw : Bm m ^ (h 14 2).toNat ≤ 194481 := pw_le hm hn4
  have hGA : GA (vx h) m t = GW (okW (bx h) (h 14 4) t (h 28) (Bm m)) (Bm m ^ (h 14 2).toNat) := rfl
  rw [hGA] at hP
  have stop : ∀ (w : Int) (g : HP), 0 ≤ w → w ≤ 194481 → kB h g → g 60 5 = (GW (okW (bx h) (h 14 4) t (h 28) (Bm m)) (Bm m ^ (h 14 2).toNat)).1 → (∀ c, (GW (okW (bx h) (h 14 4) t (h 28) (Bm m)) (Bm m ^ (h 14 2).toNat)).2 = some c → eqN (h 14 2) (g 63) (dg (Bm m) (h 14 2).toNat c)) → V KX (d + 4) mX1_search 16 [some (aR 60), some (aR 28), some (aI m), some (aI t), some (aI 0), some (aI w)] [] g (rV P) := fun w g q0 q1 kg e5 e63 =>
    v_X1_search_16 m t 0 w g ⟨⟨⟨by omega, by omega⟩, by decide⟩, fun _ => hP g kg e5 e63, fun _ => ⟨by decide, fun _ => hP g kg e5 e63, fun z => absurd rfl z⟩⟩
  have key : ∀ (f : Nat) (w : Int) (p : Int → Int) (g : HP), Bm m ^ (h 14 2).toNat ≤ hv (Bm m) p (h 14 2).toNat + f → 0 ≤ w → w ≤ hv (Bm m) p (h 14 2).toNat → kB h g → eqN (h 14 2) (g 61) p → (∀ x : Nat, x < (h 14 2).toNat → 0 ≤ h 28 x ∧ h 28 x ≤ p x ∧ p x ≤ m) → g 60 5 = (GW (okW (bx h) (h 14 4) t (h 28) (Bm m)) (hv (Bm m) p (h 14 2).toNat)).1 → (∀ c, (GW (okW (bx h) (h 14 4) t (h 28) (Bm m)) (hv (Bm m) p (h 14 2).toNat)).2 = some c → eqN (h 14 2) (g 63) (dg (Bm m) (h 14 2).toNat c)) → V KX (d + 4) mX1_search 16 [some (aR 60), some (aR 28), some (aI m), some (aI t), some (aI 1), some (aI w)] [] g (rV P) := by
    intro f
    induction f with
    | zero =>
      intro w p g hf _ _ _ _ hd _ _
      have := hv_lt (B := Bm m) (p := p) (h 14 2).toNat (fun x hx => by have := hd x hx; omega)
      omega
    | succ f ih =>
      intro w p g hf hw0 hw1 kg e61 hd e5 e63
      have hlt := hv_lt (B := Bm m) (p := p) (h 14 2).toNat (fun x hx => by have := hd x hx; omega)
      have hdg : eqN ((h 14 2).toNat : Int) (dg (Bm m) (h 14 2).toNat (hv (Bm m) p (h 14 2).toNat)) p := hv_dg (fun x hx => ⟨by have := hd x hx; omega, by have := hd x hx; omega⟩)
      rw [show (((h 14 2).toNat : Nat) : Int) = h 14 2 by omega] at hdg
      have hok : okW (bx h) (h 14 4) t (h 28) (Bm m) (hv (Bm m) p (h 14 2).toNat) = okN (ngt (bx h) (h 14 4) t z0 p) (h 28) (h 14 2).toNat := by
        unfold okW
        exact okN_ag (n := h 14 2) (ngt_ag (b := bx h) (ct := z0) (ct' := z0) hb (agB_rf _) hdg (eqN_rf _ _)) (eqN_rf _ _)
      have hrow : rowOK (h 14 2) p := fun x q0 q1 => by
        have := hd x.toNat (by omega)
        rw [show ((x.toNat : Nat) : Int) = x by omega] at this
        omega
      have hin := GW_in (ok := okW (bx h) (h 14 4) t (h 28) (Bm m)) (hv (Bm m) p (h 14 2).toNat)
      have hstep : GW (okW (bx h) (h 14 4) t (h 28) (Bm m)) (hv (Bm m) p (h 14 2).toNat + 1) = if okN (ngt (bx h) (h 14 4) t z0 p) (h 28) (h 14 2).toNat = true then ((GW (okW (bx h) (h 14 4) t (h 28) (Bm m)) (hv (Bm m) p (h 14 2).toNat)).1 + 1, some ((GW (okW (bx h) (h 14 4) t (h 28) (Bm m)) (hv (Bm m) p (h 14 2).toNat)).2.getD (hv (Bm m) p (h 14 2).toNat))) else GW (okW (bx h) (h 14 4) t (h 28) (Bm m)) (hv (Bm m) p (h 14 2).toNat) := by
        rw [GW, hok]
      have next : ∀ g2 : HP, kB h g2 → eqN (h 14 2) (g2 61) p → g2 60 5 = (GW (okW (bx h) (h 14 4) t (h 28) (Bm m)) (hv (Bm m) p (h 14 2).toNat + 1)).1 → (∀ c, (GW (okW (bx h) (h 14 4) t (h 28) (Bm m)) (hv (Bm m) p (h 14 2).toNat + 1)).2 = some c → eqN (h 14 2) (g2 63) (dg (Bm m) (h 14 2).toNat c)) → V KX (d + 4) mX1_search 65 [some (aR 60), some (aR 28), some (aI m), some (aI t), some (aI 1), some (aI w)] [] g2 (rV P) := fun g2 k2 c61 c5 c63 => by
        refine v_X1_search_65 m t 1 w g2 (x_nextRow (t := t) (p := p) hb hm k2 c61 hd (fun q g' a1 a2 a3 a4 a5 a6 a7 => ?_) (fun hmax g' a1 a2 a3 => ?_))
        · exact ih (w + 1) q g' (by omega) (by omega) (by omega) a1 a4 a5 (by rw [a6, a2]; exact c5) (by rw [a6, a3]; exact c63)
        · rw [hmax] at c5 c63
          exact stop (w + 1) g' (by omega) (by omega) a1 (by rw [a2]; exact c5) (by rw [a3]; exact c63)
      refine v_X1_search_16 m t 1 w g ⟨⟨⟨by omega, by omega⟩, by decide⟩, fun z => absurd z (by omega), fun _ => ⟨by decide, fun z => absurd z (by decide), fun _ => ?_⟩⟩
      refine x_becomes (d := d) (h := h) (q := p) hb hz hr ⟨ht.1, by omega⟩ hp kg e61 hrow (fun ok g' a1 a2 a3 a4 => bT ?_) (fun ok g' a1 a2 a3 a4 => bF ?_)
      · rw [if_pos ok] at hstep
        rw [a2, e5]
        refine ⟨⟨by omega, by omega⟩, fun z => ?_, fun z => c_copyBins (by decide) (by decide) ?_⟩
        · refine v_X1_search_55 m t 1 w g' (next _ (fun a q1 q2 q3 q4 q5 q6 => by rw [hset_n q1]; exact a1 a q1 q2 q3 q4 q5 q6) (by rw [hset_n (by decide), a3]; exact e61) (by rw [hset_s, a2, e5, hstep]) (fun c hc => ?_))
          rw [hset_n (by decide), a4]
          rw [hstep] at hc
          cases hG : (GW (okW (bx h) (h 14 4) t (h 28) (Bm m)) (hv (Bm m) p (h 14 2).toNat)).2 with
          | none => exact absurd (hin.2.mpr hG) z
          | some c0 =>
            rw [hG] at hc
            have hc : some c0 = some c := hc
            rw [← Option.some.inj hc]
            exact e63 c0 hG
        · have n60 : (hcpy g' 61 63 8) 60 = g' 60 := hcpy_n (by decide)
          refine v_X1_search_55 m t 1 w _ (next _ (fun a q1 q2 q3 q4 q5 q6 => by rw [hset_n q1, hcpy_n q4]; exact a1 a q1 q2 q3 q4 q5 q6) (by rw [hset_n (by decide), hcpy_n (by decide), a3]; exact e61) (by rw [hset_s, n60, a2, e5, hstep]) (fun c hc => ?_))
          rw [hstep] at hc
          rw [hin.2.mp z] at hc
          have hc : some (hv (Bm m) p (h 14 2).toNat) = some c := hc
          rw [← Option.some.inj hc]
          rw [hset_n (by decide)]
          exact fun x q0 q1 => by rw [hcpy_s q0 (by omega), a3, e61 x q0 q1, hdg x q0 q1]
      · rw [if_neg (by rw [ok]; decide)] at hstep
        refine next g' a1 (by rw [a3]; exact e61) (by rw [hstep, a2]; exact e5) (fun c hc => ?_)
        rw [hstep] at hc
        rw [a4]
        exact e63 c hc
  refine e_X1_search m t h (x_startRow (d := d + 1) (h := h) hb hm hp (fun a q1 q2 q3 q4 q5 q6 => hset_n q1) (fun hle g' a1 a2 a3 => ?_) (fun x hx hgt g' a1 a2 => ?_))
  · have hvz : GW (okW (bx h) (h 14 4) t (h 28) (Bm m)) (hv (Bm m) (h 28) (h 14 2).toNat) = (0, none) := by
      have := GW_tail (b := bx h) (r := h 14 4) (t := t) (now := h 28) (q := h 28) (B := Bm m) hb (by omega) (k := 0) (h 14 2).toNat (by show 0 + (h 14 2).toNat = (h 14 2).toNat; omega) (fun x z0 z1 => ⟨rfl, (hp x (by omega) (by have z1 : x < (h 14 2).toNat := z1; omega)).1, by have := hle x z1; omega⟩)
      rw [hv, Nat.zero_mul] at this
      exact this
    refine key (Bm m ^ (h 14 2).toNat) 0 (h 28) g' (by omega) (by omega) (by omega) a1 a3 (fun x hx => ⟨(hp x (by omega) (by omega)).1, Int.le_refl _, hle x hx⟩) (by rw [hvz, a2, hset_s]) (fun c hc => by rw [hvz] at hc; cases hc)
  · have hz0 := GW_none (b := bx h) (r := h 14 4) (t := t) (now := h 28) (B := Bm m) hb (by omega) (x := x) hx (by omega) (Bm m ^ (h 14 2).toNat)
    exact stop 0 g' (by omega) (by omega) a1 (by rw [hz0, a2, hset_s]) (fun c hc => by rw [hz0] at hc; cases hc)
theorem x_was {d : Nat} {P : Int → HP → Prop} {N m t i : Int} {h : HP} (hW : WV N (vx h)) (hz : cz h) (hm : iR m) (ht : iR t) (hi : iR i) (hP : ∀ h', vx h' = vx h → cz h' → P (sp_was (vx h) m t i) h') : Ct KX (d + 5) mX10_was [aR 0, aI m, aI t, aI i] h (rI P) := by
  obtain ⟨b1, b2, b3, b4, b5, b6, b7, b8, -⟩ := hW
  have hn : 1 ≤ h 14 2 ∧ h 14 2 ≤ 8 := b3.1
  unfold sp_was at hP
  have hbn : bn (qb (vx h)) = h 14 2 := rfl
  rw [hbn] at hP
  have bad : ¬ ((0 ≤ m ∧ m ≤ 20) ∧ (0 ≤ t ∧ t ≤ 6) ∧ -1 ≤ i ∧ i < h 14 2) → P (-1) h := fun z => by
    have := hP h rfl hz
    rw [if_neg z] at this
    exact this
  refine e_X10_was m t i h (c_within hm (by decide) (by decide) (fun a b => bT (c_within ht (by decide) (by decide) (fun a2 b2 => bT (c_within hi (by decide) ⟨by omega, by omega⟩ (fun a3 b3' => bT' ⟨⟨⟨by omega, by omega⟩, by decide⟩, fun q => ?_, fun q => ?_⟩) (fun a3 => bF' (bad (by omega))))) (fun a2 => bF (bad (by omega))))) (fun a => bF (bad (by omega))))
  · refine x_search1 b3 hz b4 ⟨a2, b2⟩ ⟨a, b⟩ b7 q (fun g kg e5 e63 => ?_)
    have hP := hP g (kB_vx kg) (kB_cz kg hz)
    rw [if_pos ⟨⟨a, b⟩, ⟨a2, b2⟩, a3, by omega⟩, if_neg (by omega)] at hP
    have hin := GW_in (ok := okW (bx h) (h 14 4) t (h 28) (Bm m)) (Bm m ^ (h 14 2).toNat)
    have hpw : Bm m ^ (h 14 2).toNat ≤ 194481 := pw_le ⟨a, b⟩ q
    have hGA : GA (vx h) m t = GW (okW (bx h) (h 14 4) t (h 28) (Bm m)) (Bm m ^ (h 14 2).toNat) := rfl
    rw [← hGA] at hin
    rw [e5]
    refine ⟨⟨hi, by decide⟩, fun q2 => ⟨⟨by omega, by omega⟩, fun q3 => ⟨by omega, ?_⟩, fun q3 => ?_⟩, fun q2 => ?_⟩
    · rw [if_neg q2] at hP
      cases hG : (GA (vx h) m t).2 with
      | none => exact absurd (hin.2.mpr hG) q3
      | some c =>
        rw [hG] at hP
        rw [e63 c hG i (by omega) (by omega)]
        exact hP
    · rw [if_neg q2, hin.2.mp q3] at hP
      exact hP
    · rw [if_pos q2] at hP
      exact hP
  · have := hP h rfl hz
    rw [if_pos ⟨⟨a, b⟩, ⟨a2, b2⟩, a3, by omega⟩, if_pos q] at this
    exact this
