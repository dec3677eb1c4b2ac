/-! CATS: gaps chosen in their order; the class -/
def udf (f : Int → Int) (i v : Int) : Int → Int := fun x => if x = i then v else f x
abbrev SC : Type := Int × (Int → Int)
def FC (b : BB) (r t : Int) (p : Int → Int) (k : Nat) (ct row : Int → Int) (s : SC) : SC := if lossN b r ct p t k < s.1 then (lossN b r ct p t k, row) else s
def CH (F : (Int → Int) → (Int → Int) → SC → SC) (wl : Int → Int) : Nat → Nat → Int → Int → (Int → Int) → (Int → Int) → SC → SC
  | 0, _, _, _, ct, row, s => F ct row s
  | _ + 1, 0, _, _, _, _, s => s
  | m + 1, j + 1, g, c, ct, row, s => CH F wl (m + 1) j (g + 1) c ct row (if wl g = 0 then CH F wl m j (g + 1) (c + 1) (udf ct g 1) (udf row c g) s else s)
theorem CH_ag {F F' : (Int → Int) → (Int → Int) → SC → SC} {wl wl' : Int → Int} {G : Int} (hF : ∀ ct row s, F ct row s = F' ct row s) (hw : ∀ k, 0 ≤ k → k < G → wl k = wl' k) : ∀ (m j : Nat) (g c : Int) (ct row : Int → Int) (s : SC), 0 ≤ g → g + j ≤ G → CH F wl m j g c ct row s = CH F' wl' m j g c ct row s
  | 0, _, _, _, _, _, _, _, _ => by rw [CH, CH, hF]
  | _ + 1, 0, _, _, _, _, _, _, _ => by rw [CH, CH]
  | m + 1, j + 1, g, c, ct, row, s, h0, h1 => by
    rw [CH, CH, hw g h0 (by omega), CH_ag hF hw m j (g + 1) (c + 1) (udf ct g 1) (udf row c g) s (by omega) (by omega)]
    exact CH_ag hF hw (m + 1) j (g + 1) c ct row _ (by omega) (by omega)
def CA (l : LV) (k n : Int) : SC := CH (FC (qb l) (qr l) (qt l) (qp l) n.toNat) (bwl (qb l)) k.toNat (bG (qb l)).toNat 0 0 z0 z0 (1000000, z0)
def sp_cats (l : LV) (k n i : Int) : Int := if (1 ≤ k ∧ k ≤ 3) ∧ (1 ≤ n ∧ n ≤ 20) ∧ -1 ≤ i ∧ i < k then (if (CA l k n).1 = 1000000 then -4 else if i = -1 then (CA l k n).1 else (CA l k n).2 i) else -1
theorem sp_cats_ag {N : Int} {l l' : LV} (ha : AgV l l') (hw : WV N l') (k n i : Int) : sp_cats l k n i = sp_cats l' k n i := by
  have hb := (AgV_W ha hw).2.2.1
  obtain ⟨a1, a2, a3, a4, a5, a6, a7, a8, a9, -⟩ := ha
  have hG := hb.2.1.1
  have e : CA l k n = CA l' k n := by
    unfold CA
    rw [← a3.2.1]
    refine CH_ag (G := bG (qb l)) (fun ct row s => ?_) (fun x q0 q1 => (a3.2.2.2.1 x q0 q1).2.2) _ _ _ _ _ _ _ (by omega) (by omega)
    unfold FC
    rw [lossN_ag (ct := ct) (ct' := ct) hb a3 a8 (eqN_rf _ _), a4, a9]
  unfold sp_cats
  rw [e]
abbrev kK (h g : HP) : Prop := ∀ a, a ≠ 25 → a ≠ 26 → a ≠ 27 → a ≠ 55 → a ≠ 56 → a ≠ 57 → a ≠ 58 → a ≠ 59 → g a = h a
theorem kK_bx {h g : HP} (k : kK h g) : bx g = bx h := by
  dsimp only [bx]
  rw [k 14 (by decide) (by decide) (by decide) (by decide) (by decide) (by decide) (by decide) (by decide), k 21 (by decide) (by decide) (by decide) (by decide) (by decide) (by decide) (by decide) (by decide), k 22 (by decide) (by decide) (by decide) (by decide) (by decide) (by decide) (by decide) (by decide), k 23 (by decide) (by decide) (by decide) (by decide) (by decide) (by decide) (by decide) (by decide), k 16 (by decide) (by decide) (by decide) (by decide) (by decide) (by decide) (by decide) (by decide)]
theorem kK_vx {h g : HP} (k : kK h g) : vx g = vx h := vx_eq (fun a ha => k a (by omega) (by omega) (by omega) (by omega) (by omega) (by omega) (by omega) (by omega))
def CI (h : HP) (t n all : Int) (p ct row : Int → Int) (s : SC) (c : Int) (g : HP) : Prop := kK h g ∧ eqN (h 14 2) (g 56) p ∧ g 55 6 = s.1 ∧ g 55 7 = t ∧ g 55 8 = n ∧ g 55 9 = all ∧ (∀ y, 0 ≤ y → y < 10 → g 25 y = ct y) ∧ (∀ x, 0 ≤ x → x < c → g 58 x = row x) ∧ (s.1 ≠ 1000000 → ∀ x, 0 ≤ x → x < all → g 59 x = s.2 x) ∧ (0 ≤ s.1 ∧ s.1 ≤ 1000000)
theorem x_weigh {d : Nat} {P : HP → Prop} {t n all : Int} {p ct row : Int → Int} {s : SC} {h g : HP} (hb : wfB (bx h)) (hr : 0 ≤ h 14 4 ∧ h 14 4 ≤ 3) (ht : 0 ≤ t ∧ t ≤ 900000) (hn : 0 ≤ n ∧ n ≤ 100) (hall : 1 ≤ all ∧ all ≤ 3) (hp : rowOK (h 14 2) p) (hct : ∀ y, ct y = 0 ∨ ct y = 1) (hI : CI h t n all p ct row s all g)
    (hP : ∀ g', CI h t n all p ct row (FC (bx h) (h 14 4) t p n.toNat ct row s) all g' → P g') : Ct KX (d + 3) mX2_weigh [aR 55] g (rV P) := by
  obtain ⟨k, e56, s1, s2, s3, s4, e25, e58, e59, sr⟩ := hI
  have hn8 : h 14 2 ≤ 8 := hb.1.2
  have hG : h 14 15 ≤ 10 := hb.2.1.2
  have e14 : g 14 = h 14 := k 14 (by decide) (by decide) (by decide) (by decide) (by decide) (by decide) (by decide) (by decide)
  have n14 : (hcpy g 56 57 8) 14 = h 14 := (hcpy_n (by decide)).trans e14
  have n55 : (hcpy g 56 57 8) 55 = g 55 := hcpy_n (by decide)
  have n25 : (hcpy g 56 57 8) 25 = g 25 := hcpy_n (by decide)
  have ebb : bx (hcpy g 56 57 8) = bx h := (show bx (hcpy g 56 57 8) = bx g from rfl).trans (kK_bx k)
  have e57 : eqN (h 14 2) ((hcpy g 56 57 8) 57) p := fun x q0 q1 => (hcpy_s q0 (by omega)).trans (e56 x q0 q1)
  refine e_X2_weigh g (c_copyBins (by decide) (by decide) ?_)
  rw [n14, n55, s1, s2, s3]
  refine c_run (h := hcpy g 56 57 8) (c := 57) (by rw [ebb]; exact hb) hr ht hn ⟨by omega, sr.2⟩ (by decide) (by decide) (by decide) (by rw [n14]; exact fun x q0 q1 => by rw [e57 x q0 q1]; exact hp x q0 q1) (by rw [n14, n25]; exact fun y q0 q1 => by rw [e25 y q0 (by omega)]; exact hct y) (fun h' a1 a2 a3 => ?_)
  rw [ebb, n14, n25] at a3
  rw [ebb]
  have ect : eqN (bG (bx h)) (g 25) ct := fun y q0 q1 => e25 y q0 (by have q1 : y < h 14 15 := q1; omega)
  have hL : lossN (bx h) (h 14 4) (g 25) ((hcpy g 56 57 8) 57) t n.toNat = lossN (bx h) (h 14 4) ct p t n.toNat := lossN_ag (b := bx h) (b' := bx h) hb (agB_rf _) e57 ect n.toNat
  have hin := lossN_in (r := h 14 4) (ct := ct) (t := t) hb hp n.toNat
  have hv : tot (bx h) ((hcpy g 56 57 8) 57) - tot (bx h) (h' 57) = lossN (bx h) (h 14 4) ct p t n.toNat ∨ (s.1 ≤ tot (bx h) ((hcpy g 56 57 8) 57) - tot (bx h) (h' 57) ∧ tot (bx h) ((hcpy g 56 57 8) 57) - tot (bx h) (h' 57) ≤ lossN (bx h) (h 14 4) ct p t n.toNat) := by
    rcases a3 with a3 | ⟨a3, a4⟩
    · left
      rw [← hL, tot_ag (b := bx h) (agB_rf _) a3]
      rfl
    · right
      rw [hL] at a4
      exact ⟨a3, a4⟩
  have f55 : h' 55 = g 55 := (a1 55 (by decide) (by decide) (by decide)).trans n55
  have kk : kK h h' := fun a q1 q2 q3 q4 q5 q6 q7 q8 => by rw [a1 a q6 q2 q3, hcpy_n q6]; exact k a q1 q2 q3 q4 q5 q6 q7 q8
  have f56 : h' 56 = g 56 := (a1 56 (by decide) (by decide) (by decide)).trans (hcpy_n (by decide))
  have f25 : h' 25 = g 25 := (a1 25 (by decide) (by decide) (by decide)).trans n25
  have f58 : h' 58 = g 58 := (a1 58 (by decide) (by decide) (by decide)).trans (hcpy_n (by decide))
  have f59 : h' 59 = g 59 := (a1 59 (by decide) (by decide) (by decide)).trans (hcpy_n (by decide))
  generalize tot (bx h) ((hcpy g 56 57 8) 57) - tot (bx h) (h' 57) = v at hv ⊢
  rw [f55, s1]
  refine ⟨⟨⟨by omega, by omega⟩, ⟨by omega, by omega⟩⟩, fun q => hP h' ?_, fun q => ⟨⟨rfl, rfl, rfl, by decide, by decide⟩, hP _ ?_⟩⟩
  · unfold FC
    rw [if_neg (by omega)]
    exact ⟨kk, by rw [f56]; exact e56, by rw [f55]; exact s1, by rw [f55]; exact s2, by rw [f55]; exact s3, by rw [f55]; exact s4, by rw [f25]; exact e25, by rw [f58]; exact e58, by rw [f59]; exact e59, sr⟩
  · have hv2 : v = lossN (bx h) (h 14 4) ct p t n.toNat := by omega
    unfold FC
    rw [if_pos (by omega), ← hv2]
    refine ⟨fun a q1 q2 q3 q4 q5 q6 q7 q8 => ?_, ?_, ?_, ?_, ?_, ?_, ?_, fun x q0 q1 => ?_, fun _ x q0 q1 => ?_, ⟨by show 0 ≤ v; omega, by show v ≤ 1000000; omega⟩⟩
    · rw [hcpy_n q8, hset_n q4]; exact kk a q1 q2 q3 q4 q5 q6 q7 q8
    · rw [hcpy_n (by decide), hset_n (by decide), f56]; exact e56
    · rw [hcpy_n (by decide), hset_s]
    · rw [hcpy_n (by decide), hset_m (by decide), f55]; exact s2
    · rw [hcpy_n (by decide), hset_m (by decide), f55]; exact s3
    · rw [hcpy_n (by decide), hset_m (by decide), f55]; exact s4
    · rw [hcpy_n (by decide), hset_n (by decide), f25]; exact e25
    · rw [hcpy_n (by decide), hset_n (by decide), f58]; exact e58 x q0 q1
    · rw [hcpy_s q0 (by omega), hset_n (by decide), f58]; exact e58 x q0 q1
theorem x_choose {d : Nat} {t n all : Int} {p : Int → Int} {h : HP} (hb : wfB (bx h)) (hr : 0 ≤ h 14 4 ∧ h 14 4 ≤ 3) (ht : 0 ≤ t ∧ t ≤ 900000) (hn : 0 ≤ n ∧ n ≤ 100) (hall : 1 ≤ all ∧ all ≤ 3) (hp : rowOK (h 14 2) p) :
    ∀ (m : Nat) (c lo : Int) (ct row : Int → Int) (s : SC) (g : HP) (P : HP → Prop), c + m = all → 0 ≤ c → 0 ≤ lo → lo ≤ h 14 15 → (∀ y, ct y = 0 ∨ ct y = 1) → (∀ y, lo ≤ y → ct y = 0) → CI h t n all p ct row s c g →
      (∀ g', CI h t n all p ct row (CH (FC (bx h) (h 14 4) t p n.toNat) (h 23) m (h 14 15 - lo).toNat lo c ct row s) c g' → P g') → Ct KX (d + m + 4) mX2_choose [aR 55, aI c, aI lo] g (rV P) := by
  have hG : 0 ≤ h 14 15 ∧ h 14 15 ≤ 10 := hb.2.1
  have hwl : ∀ k, 0 ≤ k → k < h 14 15 → (h 23 k = 0 ∨ h 23 k = 1) := fun k h0 h1 => (hb.2.2.2.1 k h0 h1).2
  intro m
  induction m with
  | zero =>
    intro c lo ct row s g P hc hc0 hl0 hl1 hct hz hI hP
    have e9 : g 55 9 = all := hI.2.2.2.2.2.1
    have hca : c = all := by omega
    refine e_X2_choose c lo g ?_
    rw [e9]
    refine ⟨⟨⟨by omega, by omega⟩, ⟨by omega, by omega⟩⟩, fun q => absurd q (by omega), fun _ => ?_⟩
    rw [hca] at hI hP
    refine x_weigh (d := d) hb hr ht hn hall hp hct hI (fun g' hg => hP g' ?_)
    rw [CH]
    exact hg
  | succ m ih =>
    intro c lo ct row s g P hc hc0 hl0 hl1 hct hz hI hP
    have e9 : g 55 9 = all := hI.2.2.2.2.2.1
    refine e_X2_choose c lo g ?_
    rw [e9]
    refine ⟨⟨⟨by omega, by omega⟩, ⟨by omega, by omega⟩⟩, fun _ => ?_, fun q => absurd q (by omega)⟩
    have loop : ∀ (j : Nat) (x : Int) (s1 : SC) (g1 : HP), x + j = h 14 15 → lo ≤ x → CI h t n all p ct row s1 c g1 → CH (FC (bx h) (h 14 4) t p n.toNat) (h 23) (m + 1) j x c ct row s1 = CH (FC (bx h) (h 14 4) t p n.toNat) (h 23) (m + 1) (h 14 15 - lo).toNat lo c ct row s → V KX (d + (m + 1) + 4) mX2_choose 15 [some (aR 55), some (aI c), some (aI lo), some (aI x)] [] g1 (rV P) := by
      intro j
      induction j with
      | zero =>
        intro x s1 g1 hx hlx hI1 hR
        have e14 : g1 14 = h 14 := hI1.1 14 (by decide) (by decide) (by decide) (by decide) (by decide) (by decide) (by decide) (by decide)
        refine v_X2_choose_15 c lo x g1 ?_
        rw [e14]
        refine ⟨⟨⟨by omega, by omega⟩, ⟨by omega, by omega⟩⟩, fun _ => hP g1 ?_, fun q => absurd q (by omega)⟩
        rw [CH] at hR
        rw [← hR]
        exact hI1
      | succ j ihj =>
        intro x s1 g1 hx hlx hI1 hR
        have e14 : g1 14 = h 14 := hI1.1 14 (by decide) (by decide) (by decide) (by decide) (by decide) (by decide) (by decide) (by decide)
        have e23 : g1 23 = h 23 := hI1.1 23 (by decide) (by decide) (by decide) (by decide) (by decide) (by decide) (by decide) (by decide)
        have hw := hwl x (by omega) (by omega)
        rw [CH] at hR
        refine v_X2_choose_15 c lo x g1 ?_
        rw [e14, e23]
        refine ⟨⟨⟨by omega, by omega⟩, ⟨by omega, by omega⟩⟩, fun q => absurd q (by omega), fun _ => ⟨by omega, ⟨by omega, by omega⟩, fun q => v_X2_choose_75 c lo x g1 (ihj (x + 1) s1 g1 (by omega) (by omega) hI1 ?_), fun q => ⟨by omega, ⟨by omega, by omega, by omega, by omega⟩, ?_⟩⟩⟩
        · rw [if_neg q] at hR
          exact hR
        · rw [if_pos q] at hR
          obtain ⟨k, e56, t1, t2, t3, t4, e25, e58, e59, sr⟩ := hI1
          refine ih (c + 1) (x + 1) (udf ct x 1) (udf row c x) s1 (hset (hset g1 58 c x) 25 x 1) _ (by omega) (by omega) (by omega) (by omega) (fun y => ?_) (fun y hy => ?_) ⟨fun a q1 q2 q3 q4 q5 q6 q7 q8 => ?_, ?_, ?_, ?_, ?_, ?_, fun y q0 q1 => ?_, fun y q0 q1 => ?_, fun z y q0 q1 => ?_, sr⟩ (fun g2 hI2 => ⟨⟨by omega, by omega, by omega, by omega⟩, v_X2_choose_75 c lo x _ (ihj (x + 1) (CH (FC (bx h) (h 14 4) t p n.toNat) (h 23) m (h 14 15 - (x + 1)).toNat (x + 1) (c + 1) (udf ct x 1) (udf row c x) s1) _ (by omega) (by omega) ?_ ?_)⟩)
          · unfold udf
            split
            · exact Or.inr rfl
            · exact hct y
          · unfold udf
            rw [if_neg (by omega)]
            exact hz y (by omega)
          · rw [hset_n q1, hset_n q7]; exact k a q1 q2 q3 q4 q5 q6 q7 q8
          · rw [hset_n (by decide), hset_n (by decide)]; exact e56
          · rw [hset_n (by decide), hset_n (by decide)]; exact t1
          · rw [hset_n (by decide), hset_n (by decide)]; exact t2
          · rw [hset_n (by decide), hset_n (by decide)]; exact t3
          · rw [hset_n (by decide), hset_n (by decide)]; exact t4
          · unfold udf
            by_cases e : y = x
            · rw [if_pos e, e, hset_s]
            · rw [if_neg e, hset_m e, hset_n (by decide)]; exact e25 y q0 q1
          · unfold udf
            rw [hset_n (by decide)]
            by_cases e : y = c
            · rw [if_pos e, e, hset_s]
            · rw [if_neg e, hset_m e]; exact e58 y q0 (by omega)
          · rw [hset_n (by decide), hset_n (by decide)]; exact e59 z y q0 q1
          · obtain ⟨k2, c56, u1, u2, u3, u4, c25, c58, c59, sr2⟩ := hI2
            refine ⟨fun a q1 q2 q3 q4 q5 q6 q7 q8 => ?_, ?_, ?_, ?_, ?_, ?_, fun y q0 q1 => ?_, fun y q0 q1 => ?_, fun z y q0 q1 => ?_, sr2⟩
            · rw [hset_n q1]; exact k2 a q1 q2 q3 q4 q5 q6 q7 q8
            · rw [hset_n (by decide)]; exact c56
            · rw [hset_n (by decide)]; exact u1
            · rw [hset_n (by decide)]; exact u2
            · rw [hset_n (by decide)]; exact u3
            · rw [hset_n (by decide)]; exact u4
            · by_cases e : y = x
              · rw [e, hset_s]; exact (hz x hlx).symm
              · rw [hset_m e, c25 y q0 q1]
                unfold udf
                rw [if_neg e]
            · rw [hset_n (by decide), c58 y q0 (by omega)]
              unfold udf
              rw [if_neg (by omega)]
            · rw [hset_n (by decide)]; exact c59 z y q0 q1
          · rw [show (h 14 15 - (x + 1)).toNat = j by omega]
            exact hR
    exact loop (h 14 15 - lo).toNat lo s g (by omega) (by omega) hI rfl
theorem x_cats {d : Nat} {P : Int → HP → Prop} {N k n i : Int} {h : HP} (hW : WV N (vx h)) (hN : N ≤ 1000) (hz : cz h) (hk : iR k) (hn : iR n) (hi : iR i) (hP : ∀ h', vx h' = vx h → cz h' → P (sp_cats (vx h) k n i) h') : Ct KX (d + 9) mX10_cats [aR 0, aI k, aI n, aI i] h (rI P) := by
  obtain ⟨b1, b2, b3, b4, b5, b6, b7, b8, -⟩ := hW
  have hb : wfB (bx h) := b3
  have hn8 : h 14 2 ≤ 8 := hb.1.2
  have hG : 0 ≤ h 14 15 ∧ h 14 15 ≤ 10 := hb.2.1
  have ht : 0 ≤ h 0 7 ∧ h 0 7 ≤ N := b8
  unfold sp_cats at hP
  have bad : ¬ ((1 ≤ k ∧ k ≤ 3) ∧ (1 ≤ n ∧ n ≤ 20) ∧ -1 ≤ i ∧ i < k) → P (-1) h := fun z => by
    have := hP h rfl hz
    rw [if_neg z] at this
    exact this
  refine e_X10_cats k n i h (c_within hk (by decide) (by decide) (fun a b => bT (c_within hn (by decide) (by decide) (fun a2 b2 => bT (c_within hi (by decide) ⟨by omega, by omega⟩ (fun a3 b3' => bT' ?_) (fun a3 => bF' (bad (by omega))))) (fun a2 => bF (bad (by omega))))) (fun a => bF (bad (by omega))))
  refine e_X2_search (h 0 7) n k h (c_copyBins (by decide) (by decide) ⟨⟨hk, by decide⟩, ?_⟩)
  rw [show min k 3 = k by omega]
  have hch := x_choose (d := d) (t := h 0 7) (n := n) (all := k) (p := h 28) (h := h) hb b4 ⟨ht.1, by omega⟩ ⟨by omega, by omega⟩ ⟨a, b⟩ (r199_ok b7) k.toNat 0 0 z0 z0 (1000000, z0) (hset (hset (hset (hset (hcpy h 28 56 8) 55 7 (h 0 7)) 55 8 n) 55 9 k) 55 6 1000000)
  refine V_deep (d := d + k.toNat + 4) (hch _ (by omega) (by omega) (by omega) hG.1 (fun _ => Or.inl rfl) (fun _ _ => rfl) ⟨fun a q1 q2 q3 q4 q5 q6 q7 q8 => ?_, ?_, ?_, ?_, ?_, ?_, fun y q0 q1 => ?_, fun y q0 q1 => absurd q1 (by omega), fun z => absurd rfl z, ⟨by show (0 : Int) ≤ 1000000; omega, by show (1000000 : Int) ≤ 1000000; omega⟩⟩ (fun g' hI => ?_)) (by omega)
  · rw [hset_n q4, hset_n q4, hset_n q4, hset_n q4, hcpy_n q5]
  · rw [hset_n (by decide), hset_n (by decide), hset_n (by decide), hset_n (by decide)]
    exact fun x q0 q1 => hcpy_s q0 (by omega)
  · rw [hset_s]
  · rw [hset_m (by decide), hset_m (by decide), hset_m (by decide), hset_s]
  · rw [hset_m (by decide), hset_m (by decide), hset_s]
  · rw [hset_m (by decide), hset_s]
  · rw [hset_n (by decide), hset_n (by decide), hset_n (by decide), hset_n (by decide), hcpy_n (by decide)]
    exact hz y q0 q1
  · have hCA : CA (vx h) k n = CH (FC (bx h) (h 14 4) (h 0 7) (h 28) n.toNat) (h 23) k.toNat (h 14 15).toNat 0 0 z0 z0 (1000000, z0) := rfl
    rw [show (h 14 15 - 0).toNat = (h 14 15).toNat by omega, ← hCA] at hI
    obtain ⟨kk, c56, u1, u2, u3, u4, c25, c58, c59, sr⟩ := hI
    have hP := hP g' (kK_vx kk) (fun y q0 q1 => c25 y q0 q1)
    rw [if_pos ⟨⟨a, b⟩, ⟨a2, b2⟩, a3, by omega⟩] at hP
    rw [u1]
    refine ⟨⟨⟨by omega, by omega⟩, by decide⟩, fun q => ⟨by omega, bF' ?_⟩, fun q => ⟨by omega, bT' ⟨⟨hi, by decide⟩, fun q2 => ⟨by omega, ?_⟩, fun q2 => ?_⟩⟩⟩
    · rw [if_pos q] at hP
      exact hP
    · rw [if_neg q, if_neg q2] at hP
      rw [c59 q i (by omega) (by omega)]
      exact hP
    · rw [if_neg q, if_pos q2] at hP
      exact hP
