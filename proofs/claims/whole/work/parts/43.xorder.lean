/-! ORDERS: the first by which least is lost; the class -/
def FO (b : BB) (r t : Int) (k : Nat) (q : Int → Int) (s : SC) : SC := if lossN b r z0 q t k < s.1 then (lossN b r z0 q t k, q) else s
def OS (b : BB) (r t : Int) (k : Nat) : Nat → (Int → Int) → SC → SC
  | 0, _, s => s
  | f + 1, q, s => match NX (bn b) q with
    | none => FO b r t k q s
    | some q' => OS b r t k f q' (FO b r t k q s)
def sp_order (l : LV) (q : Int → Int) (k i : Int) : Int := if (1 ≤ k ∧ k ≤ 20) ∧ -1 ≤ i ∧ i < bn (qb l) then (if i = -1 then (OS (qb l) (qr l) (qt l) k.toNat 40320 q (1000000, z0)).1 else (OS (qb l) (qr l) (qt l) k.toNat 40320 q (1000000, z0)).2 i) else -1
theorem rvs_ok {n : Int} : ∀ (f : Nat) (p : Int → Int) (a b : Int), 0 ≤ a → b < n → rowOK n p → rowOK n (rvs f p a b)
  | 0, _, _, _, _, _, h => h
  | f + 1, p, a, b, h0, h1, h => by
    rw [rvs]
    split
    · exact rvs_ok f _ _ _ (by omega) (by omega) (swp_ok h ⟨by omega, by omega⟩ ⟨by omega, by omega⟩)
    · exact h
theorem NX_ok {n : Int} {p q : Int → Int} (hn : 1 ≤ n) (hp : rowOK n p) (h : NX n p = some q) : rowOK n q := by
  unfold NX at h
  have h1 := fk_in (p := p) (n - 1).toNat
  split at h
  · cases h
  · rename_i hk
    have h2 := fj_in (p := p) (v := p (fk p (n - 1).toNat)) (k1 := fk p (n - 1).toNat + 1) (n - 2 - fk p (n - 1).toNat).toNat
    rw [← Option.some.inj h]
    exact rvs_ok 8 _ _ _ (by omega) (by omega) (swp_ok hp ⟨by omega, by omega⟩ ⟨by omega, by omega⟩)
abbrev kR (h g : HP) : Prop := ∀ a, a ≠ 26 → a ≠ 27 → a ≠ 34 → a ≠ 35 → a ≠ 36 → a ≠ 37 → g a = h a
theorem kR_bx {h g : HP} (k : kR h g) : bx g = bx h := by
  dsimp only [bx]
  rw [k 14 (by decide) (by decide) (by decide) (by decide) (by decide) (by decide), k 21 (by decide) (by decide) (by decide) (by decide) (by decide) (by decide), k 22 (by decide) (by decide) (by decide) (by decide) (by decide) (by decide), k 23 (by decide) (by decide) (by decide) (by decide) (by decide) (by decide), k 16 (by decide) (by decide) (by decide) (by decide) (by decide) (by decide)]
theorem kR_vx {h g : HP} (k : kR h g) : vx g = vx h := vx_eq (fun a ha => k a (by omega) (by omega) (by omega) (by omega) (by omega) (by omega))
theorem kR_cz {h g : HP} (k : kR h g) (hz : cz h) : cz g := cz_keep hz (k 25 (by decide) (by decide) (by decide) (by decide) (by decide) (by decide))
theorem x_search6 {d : Nat} {P : HP → Prop} {t k : Int} {h : HP} (hb : wfB (bx h)) (hz : cz h) (hr : 0 ≤ h 14 4 ∧ h 14 4 ≤ 3) (ht : 0 ≤ t ∧ t ≤ 900000) (hk : 1 ≤ k ∧ k ≤ 20) (hp : r199 (h 14 2) (h 28))
    (hP : ∀ q, srt (h 14 2) q → prm (h 14 2) q (h 28) → rowOK (h 14 2) q → ∀ g, kR h g → g 34 5 = (OS (bx h) (h 14 4) t k.toNat 40320 q (1000000, z0)).1 → (g 34 5 ≠ 1000000 → eqN (h 14 2) (g 37) (OS (bx h) (h 14 4) t k.toNat 40320 q (1000000, z0)).2) → P g) : Ct KX (d + 4) mX6_search [aR 34, aR 28, aI t, aI k] h (rV P) := by
  have hn : 1 ≤ h 14 2 ∧ h 14 2 ≤ 8 := hb.1
  refine e_X6_search t k h (c_copyBins (by decide) (by decide) ?_)
  have e35 : eqN (h 14 2) ((hcpy h 28 35 8) 35) (h 28) := fun x q0 q1 => hcpy_s q0 (by omega)
  have n14 : (hcpy h 28 35 8) 14 = h 14 := hcpy_n (by decide)
  refine x_sort (d := d + 2) (by rw [n14]; exact hn) (by rw [n14]; exact fun x q0 q1 => by rw [e35 x q0 q1]; exact r199_ok hp x q0 q1) (fun g0 a1 a2 a3 a4 => ?_)
  rw [n14] at a2 a3 a4
  have hP := hP (g0 35) a2 (prm_tr a3 (prm_eq e35)) a4
  have key : ∀ (f : Nat) (x : Int) (q : Int → Int) (s : SC) (g : HP), x + f = 40320 → 0 ≤ x → kR h g → g 35 = q → rowOK (h 14 2) q → g 34 5 = s.1 → (0 ≤ s.1 ∧ s.1 ≤ 1000000) → (s.1 ≠ 1000000 → eqN (h 14 2) (g 37) s.2) → OS (bx h) (h 14 4) t k.toNat f q s = OS (bx h) (h 14 4) t k.toNat 40320 (g0 35) (1000000, z0) → V KX (d + 4) mX6_search 24 [some (aR 34), some (aR 28), some (aI t), some (aI k), some (aI 1), some (aI x), none] [] g (rV P) := by
    intro f
    induction f with
    | zero =>
      intro x q s g hf hx kg e9 hq s1 sr e37 hR
      rw [OS] at hR
      rw [← hR] at hP
      exact v_X6_search_24 t k 1 x g ⟨⟨⟨by omega, by omega⟩, by decide⟩, fun _ => hP g kg s1 (by rw [s1]; exact e37), fun z => absurd z (by omega)⟩
    | succ f ih =>
      intro x q s g hf hx kg e9 hq s1 sr e37 hR
      have m14 : (hcpy g 35 36 8) 14 = h 14 := (hcpy_n (by decide)).trans (kg 14 (by decide) (by decide) (by decide) (by decide) (by decide) (by decide))
      have m34 : (hcpy g 35 36 8) 34 = g 34 := hcpy_n (by decide)
      have m25 : (hcpy g 35 36 8) 25 = g 25 := hcpy_n (by decide)
      have m36 : eqN (h 14 2) ((hcpy g 35 36 8) 36) q := fun y q0 q1 => by rw [hcpy_s q0 (by omega), e9]
      have ebb : bx (hcpy g 35 36 8) = bx h := (show bx (hcpy g 35 36 8) = bx g from rfl).trans (kR_bx kg)
      refine v_X6_search_24 t k 1 x g ⟨⟨⟨by omega, by omega⟩, by decide⟩, fun z => absurd z (by omega), fun _ => ⟨by decide, fun z => absurd z (by decide), fun _ => c_copyBins (by decide) (by decide) ?_⟩⟩
      rw [m14, m34, s1]
      have hcz : cz (hcpy g 35 36 8) := cz_keep (kR_cz kg hz) m25
      have hct := cz_ct (h := hcpy g 35 36 8) hcz (by rw [m14]; exact hb.2.1.2)
      refine c_run (d := d + 1) (h := hcpy g 35 36 8) (c := 36) (by rw [ebb]; exact hb) hr ht ⟨by omega, by omega⟩ ⟨by omega, sr.2⟩ (by decide) (by decide) (by decide) (by rw [m14]; exact fun y q0 q1 => by rw [m36 y q0 q1]; exact hq y q0 q1) hct (fun h' c1 c2 c3 => ?_)
      rw [ebb, m14, m25] at c3
      rw [ebb]
      have e25 : eqN (bG (bx h)) (g 25) z0 := cz_eq (kR_cz kg hz) hb.2.1.2
      have hL : lossN (bx h) (h 14 4) (g 25) ((hcpy g 35 36 8) 36) t k.toNat = lossN (bx h) (h 14 4) z0 q t k.toNat := lossN_ag (b := bx h) (b' := bx h) hb (agB_rf _) m36 e25 _
      have hin := lossN_in (r := h 14 4) (ct := z0) (t := t) hb hq k.toNat
      have hv : tot (bx h) ((hcpy g 35 36 8) 36) - tot (bx h) (h' 36) = lossN (bx h) (h 14 4) z0 q t k.toNat ∨ (s.1 ≤ tot (bx h) ((hcpy g 35 36 8) 36) - tot (bx h) (h' 36) ∧ tot (bx h) ((hcpy g 35 36 8) 36) - tot (bx h) (h' 36) ≤ lossN (bx h) (h 14 4) z0 q t k.toNat) := by
        rcases c3 with c3 | ⟨c3, c4⟩
        · left
          rw [← hL, tot_ag (b := bx h) (agB_rf _) c3]
          rfl
        · right
          rw [hL] at c4
          exact ⟨c3, c4⟩
      have fo : ∀ a, a ≠ 36 → a ≠ 26 → a ≠ 27 → h' a = g a := fun a q1 q2 q3 => by rw [c1 a q1 q2 q3, hcpy_n q1]
      have kk : kR h h' := fun a q1 q2 q3 q4 q5 q6 => by rw [fo a q5 q1 q2]; exact kg a q1 q2 q3 q4 q5 q6
      have f34 : h' 34 = g 34 := fo 34 (by decide) (by decide) (by decide)
      have f35 : h' 35 = q := (fo 35 (by decide) (by decide) (by decide)).trans e9
      have f37 : h' 37 = g 37 := fo 37 (by decide) (by decide) (by decide)
      generalize tot (bx h) ((hcpy g 35 36 8) 36) - tot (bx h) (h' 36) = v at hv ⊢
      have hbn : bn (bx h) = h 14 2 := rfl
      rw [OS, hbn] at hR
      have go : ∀ (w : Int) (s9 : SC) (g9 : HP), s9 = FO (bx h) (h 14 4) t k.toNat q s → kR h g9 → g9 35 = q → g9 34 5 = s9.1 → (0 ≤ s9.1 ∧ s9.1 ≤ 1000000) → (s9.1 ≠ 1000000 → eqN (h 14 2) (g9 37) s9.2) → V KX (d + 4) mX6_search 99 [some (aR 34), some (aR 28), some (aI t), some (aI k), some (aI 1), some (aI x), some (aI w)] [] g9 (rV P) := by
        intro w s9 g9 es k9 e35' u1 ur u37
        have g14 : g9 14 = h 14 := k9 14 (by decide) (by decide) (by decide) (by decide) (by decide) (by decide)
        refine v_X6_search_99 t k 1 x w g9 (x_next (d := d + 2) (by rw [g14]; exact hn) (by rw [g14, e35']; exact hq) (fun q2 hq2 g2 y1 y2 => ?_) (fun hq2 => ?_))
        · rw [g14, e35'] at hq2
          rw [hq2] at hR
          dsimp only at hR
          rw [← es] at hR
          exact ih (x + 1) q2 s9 g2 (by omega) (by omega) (fun a q1 q2 q3 q4 q5 q6 => by rw [y1 a q4]; exact k9 a q1 q2 q3 q4 q5 q6) y2 (NX_ok hn.1 hq hq2) (by rw [y1 34 (by decide)]; exact u1) ur (by rw [y1 37 (by decide)]; exact u37) hR
        · rw [g14, e35'] at hq2
          rw [hq2] at hR
          dsimp only at hR
          rw [← es] at hR
          rw [← hR] at hP
          exact v_X6_search_24 t k 0 (x + 1) g9 ⟨⟨⟨by omega, by omega⟩, by decide⟩, fun _ => hP g9 k9 u1 (by rw [u1]; exact u37), fun _ => ⟨by decide, fun _ => hP g9 k9 u1 (by rw [u1]; exact u37), fun z => absurd rfl z⟩⟩
      rw [f34, s1]
      refine ⟨⟨⟨by omega, by omega⟩, ⟨by omega, by omega⟩⟩, fun z => go v s h' ?_ kk f35 (by rw [f34]; exact s1) sr (by rw [f37]; exact e37), fun z => c_copyBins (by decide) (by decide) (go v (v, q) _ ?_ (fun a q1 q2 q3 q4 q5 q6 => ?_) ?_ ?_ ⟨by show 0 ≤ v; omega, by show v ≤ 1000000; omega⟩ (fun _ y q0 q1 => ?_))⟩
      · unfold FO
        rw [if_neg (by omega)]
      · unfold FO
        rw [if_pos (by omega), show v = lossN (bx h) (h 14 4) z0 q t k.toNat by omega]
      · rw [hcpy_n q6, hset_n q3]; exact kk a q1 q2 q3 q4 q5 q6
      · rw [hcpy_n (by decide), hset_n (by decide)]; exact f35
      · rw [hcpy_n (by decide), hset_s]
      · rw [hcpy_s q0 (by omega), hset_n (by decide), f35]
  refine key 40320 0 (g0 35) (1000000, z0) _ (by omega) (by omega) (fun a q1 q2 q3 q4 q5 q6 => ?_) ?_ a4 hset_s ⟨by show (0 : Int) ≤ 1000000; omega, by show (1000000 : Int) ≤ 1000000; omega⟩ (fun z => absurd rfl z) rfl
  · rw [hset_n q3, a1 a q4, hcpy_n q4]
  · rw [hset_n (by decide)]
