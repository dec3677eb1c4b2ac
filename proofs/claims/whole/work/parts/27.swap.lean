/-! EXCHANGES: the loss of a night, two bins changed, folds over pairs -/
def los (b : BB) (r t o : Int) (p : Int → Int) : Int := if o < 0 then lossN b r z0 p t 1 else lossO b o r z0 p t 1
def swp (p : Int → Int) (i j : Int) : Int → Int := fun x => if x = j then p i else if x = i then p j else p x
theorem los_ag {b b' : BB} {r t o : Int} {p p' : Int → Int} (hb : wfB b) (ha : agB b b') (hp : eqN (bn b) p p') : los b r t o p = los b' r t o p' := by
  unfold los
  rw [lossN_ag (ct := z0) (ct' := z0) hb ha hp (eqN_rf _ _), lossO_ag (ct := z0) (ct' := z0) hb ha hp (eqN_rf _ _)]
theorem swp_ag {n : Int} {p p' : Int → Int} {i j : Int} (hp : eqN n p p') (hi : 0 ≤ i ∧ i < n) (hj : 0 ≤ j ∧ j < n) : eqN n (swp p i j) (swp p' i j) := fun x h0 h1 => by
  unfold swp
  rw [hp i hi.1 hi.2, hp j hj.1 hj.2, hp x h0 h1]
theorem swp_ok {n : Int} {p : Int → Int} {i j : Int} (hp : rowOK n p) (hi : 0 ≤ i ∧ i < n) (hj : 0 ≤ j ∧ j < n) : rowOK n (swp p i j) := fun x h0 h1 => by
  unfold swp
  split
  · exact hp i hi.1 hi.2
  · split
    · exact hp j hj.1 hj.2
    · exact hp x h0 h1
theorem swp_199 {n : Int} {p : Int → Int} {i j : Int} (hp : r199 n p) (hi : 0 ≤ i ∧ i < n) (hj : 0 ≤ j ∧ j < n) : r199 n (swp p i j) := fun x h0 h1 => by
  unfold swp
  split
  · exact hp i hi.1 hi.2
  · split
    · exact hp j hj.1 hj.2
    · exact hp x h0 h1
theorem swp_swp (p : Int → Int) (i j : Int) : swp (swp p i j) i j = p := by
  funext x
  unfold swp
  by_cases e1 : x = j
  · subst e1
    rw [if_pos rfl]
    by_cases e2 : i = x
    · rw [if_pos e2, e2]
    · rw [if_neg e2, if_pos rfl]
  · rw [if_neg e1]
    by_cases e2 : x = i
    · subst e2
      rw [if_pos rfl, if_pos rfl]
    · rw [if_neg e2, if_neg e1, if_neg e2]
theorem swp_id (p : Int → Int) (i : Int) : swp p i i = p := by
  funext x
  unfold swp
  by_cases e : x = i
  · rw [if_pos e, e]
  · rw [if_neg e, if_neg e]
theorem hsw {h : HP} {c : Nat} {i j : Int} : (hset (hset h c i (h c j)) c j (h c i)) c = swp (h c) i j := by
  funext x
  unfold swp
  by_cases e1 : x = j
  · subst e1
    rw [if_pos rfl, hset_s]
  · rw [if_neg e1, hset_m e1]
    by_cases e2 : x = i
    · subst e2
      rw [if_pos rfl, hset_s]
    · rw [if_neg e2, hset_m e2]
theorem hsw_n {h : HP} {c a : Nat} {i j v w : Int} (ha : a ≠ c) : (hset (hset h c i v) c j w) a = h a := by rw [hset_n ha, hset_n ha]
def fin {σ : Type} (F : Int → Int → σ → σ) (i : Int) : Nat → Int → σ → σ
  | 0, _, s => s
  | k + 1, j, s => fin F i k (j + 1) (F i j s)
def fout {σ : Type} (F : Int → Int → σ → σ) (n : Int) : Nat → Int → σ → σ
  | 0, _, s => s
  | k + 1, i, s => fout F n k (i + 1) (fin F i (n - i - 1).toNat (i + 1) s)
theorem fin_fix {σ : Type} {F : Int → Int → σ → σ} {i : Int} {s : σ} (h : ∀ j, F i j s = s) : ∀ (k : Nat) (j : Int), fin F i k j s = s
  | 0, _ => rfl
  | k + 1, j => by rw [fin, h j]; exact fin_fix h k (j + 1)
theorem fout_fix {σ : Type} {F : Int → Int → σ → σ} {n : Int} {s : σ} (h : ∀ i j, F i j s = s) : ∀ (k : Nat) (i : Int), fout F n k i s = s
  | 0, _ => rfl
  | k + 1, i => by rw [fout, fin_fix (h i)]; exact fout_fix h k (i + 1)
theorem fin_ag {σ : Type} {F G : Int → Int → σ → σ} {n i : Int} (hi : 0 ≤ i) (h : ∀ i j s, 0 ≤ i → i < j → j < n → F i j s = G i j s) : ∀ (k : Nat) (j : Int) (s : σ), i < j → j + k ≤ n → fin F i k j s = fin G i k j s
  | 0, _, _, _, _ => rfl
  | k + 1, j, s, hj, hk => by rw [fin, fin, h i j s hi hj (by omega)]; exact fin_ag hi h k (j + 1) _ (by omega) (by omega)
theorem fout_ag {σ : Type} {F G : Int → Int → σ → σ} {n : Int} (h : ∀ i j s, 0 ≤ i → i < j → j < n → F i j s = G i j s) : ∀ (k : Nat) (i : Int) (s : σ), 0 ≤ i → i + k ≤ n → fout F n k i s = fout G n k i s
  | 0, _, _, _, _ => rfl
  | k + 1, i, s, hi, hk => by rw [fout, fout, fin_ag (n := n) hi h _ _ _ (by omega) (by omega)]; exact fout_ag h k (i + 1) _ (by omega) (by omega)
def FX (b : BB) (r t : Int) (p : Int → Int) (i j : Int) : Option (Int × Int) → Option (Int × Int)
  | some q => some q
  | none => if los b r t (-1) (swp p i j) < los b r t (-1) p then some (i, j) else none
def EX (b : BB) (r t : Int) (p : Int → Int) : Option (Int × Int) := fout (FX b r t p) (bn b) (bn b).toNat 0 none
theorem EX_ag {b b' : BB} {r t : Int} {p p' : Int → Int} (hb : wfB b) (ha : agB b b') (hp : eqN (bn b) p p') : EX b r t p = EX b' r t p' := by
  unfold EX
  have hn := hb.1
  rw [← ha.1]
  refine fout_ag (fun i j s h0 h1 h2 => ?_) _ _ _ (by omega) (by omega)
  unfold FX
  rw [los_ag hb ha hp, los_ag hb ha (swp_ag hp ⟨h0, by omega⟩ ⟨by omega, h2⟩)]
def sp_exch (l : LV) (w : Int) : Int := if 0 ≤ w ∧ w ≤ 1 then (match EX (qb l) (qr l) (qt l) (qp l) with
  | none => -4
  | some q => if w = 0 then q.1 else q.2) else -1
theorem sp_exch_ag {N : Int} {l l' : LV} (ha : AgV l l') (hw : WV N l') (w : Int) : sp_exch l w = sp_exch l' w := by
  have hb := (AgV_W ha hw).2.2.1
  obtain ⟨a1, a2, a3, a4, a5, a6, a7, a8, a9, -⟩ := ha
  unfold sp_exch
  rw [EX_ag hb a3 a8, a4, a9]
/-! the best change of an owner; changes in turn -/
abbrev S3 : Type := Int × Int × Int
def FM (b : BB) (r t o : Int) (p : Int → Int) (i j : Int) (s : S3) : S3 := if bow b i = o ∧ bow b j = o ∧ los b r t o (swp p i j) < s.1 then (los b r t o (swp p i j), i, j) else s
def MB (b : BB) (r t o : Int) (p : Int → Int) : S3 := fout (FM b r t o p) (bn b) (bn b).toNat 0 (los b r t o p, -1, -1)
theorem MB_ag {b b' : BB} {r t o : Int} {p p' : Int → Int} (hb : wfB b) (ha : agB b b') (hp : eqN (bn b) p p') : MB b r t o p = MB b' r t o p' := by
  unfold MB
  have hn := hb.1
  rw [← ha.1, los_ag hb ha hp]
  refine fout_ag (fun i j s h0 h1 h2 => ?_) _ _ _ (by omega) (by omega)
  unfold FM
  rw [los_ag hb ha (swp_ag hp ⟨h0, by omega⟩ ⟨by omega, h2⟩), ha.2.2.2.2 i h0 (by omega), ha.2.2.2.2 j (by omega) h2]
abbrev S3ok (n : Int) (s : S3) : Prop := (s.2.1 = -1 ∧ s.2.2 = -1) ∨ (0 ≤ s.2.1 ∧ s.2.1 < s.2.2 ∧ s.2.2 < n)
theorem FM_ok {b : BB} {r t o : Int} {p : Int → Int} {i j : Int} {s : S3} (hi : 0 ≤ i ∧ i < j ∧ j < bn b) (h : S3ok (bn b) s) : S3ok (bn b) (FM b r t o p i j s) := by
  unfold FM
  split
  · exact Or.inr hi
  · exact h
theorem fin_ok {b : BB} {r t o : Int} {p : Int → Int} {i : Int} (hi : 0 ≤ i) : ∀ (k : Nat) (j : Int) (s : S3), i < j → j + k ≤ bn b → S3ok (bn b) s → S3ok (bn b) (fin (FM b r t o p) i k j s)
  | 0, _, _, _, _, h => h
  | k + 1, j, s, hj, hk, h => by rw [fin]; exact fin_ok hi k (j + 1) _ (by omega) (by omega) (FM_ok ⟨hi, hj, by omega⟩ h)
theorem fout_ok {b : BB} {r t o : Int} {p : Int → Int} : ∀ (k : Nat) (i : Int) (s : S3), 0 ≤ i → i + k ≤ bn b → S3ok (bn b) s → S3ok (bn b) (fout (FM b r t o p) (bn b) k i s)
  | 0, _, _, _, _, h => h
  | k + 1, i, s, hi, hk, h => by rw [fout]; exact fout_ok k (i + 1) _ (by omega) (by omega) (fin_ok hi _ _ _ (by omega) (by omega) h)
theorem MB_ok {b : BB} {r t o : Int} {p : Int → Int} (hb : wfB b) : S3ok (bn b) (MB b r t o p) := fout_ok _ _ _ (by omega) (by have := hb.1; omega) (Or.inl ⟨rfl, rfl⟩)
def ST (b : BB) (r t : Int) : Nat → (Int → Int) → Int → Int → Int → (Int → Int) × Int
  | 0, p, dn, _, _ => (p, dn)
  | f + 1, p, dn, st, tu => if st < 2 ∧ dn < 40 then (if 0 ≤ (MB b r t tu p).2.1 then ST b r t f (swp p (MB b r t tu p).2.1 (MB b r t tu p).2.2) (dn + 1) 0 (1 - tu) else ST b r t f p dn (st + 1) (1 - tu)) else (p, dn)
theorem ST_ag {b b' : BB} {r t : Int} (hb : wfB b) (ha : agB b b') : ∀ (f : Nat) (p p' : Int → Int) (dn st tu : Int), eqN (bn b) p p' → eqN (bn b) (ST b r t f p dn st tu).1 (ST b' r t f p' dn st tu).1 ∧ (ST b r t f p dn st tu).2 = (ST b' r t f p' dn st tu).2
  | 0, p, p', dn, st, tu, hp => ⟨hp, rfl⟩
  | f + 1, p, p', dn, st, tu, hp => by
    rw [ST, ST, MB_ag hb ha hp]
    have hk := MB_ok (r := r) (t := t) (o := tu) (p := p) hb
    rw [MB_ag hb ha hp] at hk
    by_cases c : st < 2 ∧ dn < 40
    · rw [if_pos c, if_pos c]
      by_cases c2 : 0 ≤ (MB b' r t tu p').2.1
      · rw [if_pos c2, if_pos c2]
        exact ST_ag hb ha f _ _ _ _ _ (swp_ag hp ⟨by omega, by omega⟩ ⟨by omega, by omega⟩)
      · rw [if_neg c2, if_neg c2]
        exact ST_ag hb ha f _ _ _ _ _ hp
    · rw [if_neg c, if_neg c]
      exact ⟨hp, rfl⟩
def sp_moves (l : LV) (w : Int) : Int := if 0 ≤ w ∧ w ≤ 2 then (if 0 < w then los (qb l) (qr l) (qt l) (w - 1) (ST (qb l) (qr l) (qt l) 82 (qp l) 0 0 0).1 else (if (ST (qb l) (qr l) (qt l) 82 (qp l) 0 0 0).2 = 40 then -4 else (ST (qb l) (qr l) (qt l) 82 (qp l) 0 0 0).2)) else -1
theorem sp_moves_ag {N : Int} {l l' : LV} (ha : AgV l l') (hw : WV N l') (w : Int) : sp_moves l w = sp_moves l' w := by
  have hb := (AgV_W ha hw).2.2.1
  obtain ⟨a1, a2, a3, a4, a5, a6, a7, a8, a9, -⟩ := ha
  have h9 := ST_ag (r := qr l') (t := qt l') hb a3 82 (qp l) (qp l') 0 0 0 a8
  unfold sp_moves
  rw [a4, a9, h9.2, los_ag hb a3 h9.1]
/-! the class -/
theorem x_lossOfRow {d : Nat} {P : Int → HP → Prop} {t o : Int} {h : HP} (hb : wfB (bx h)) (hz : cz h) (hr : 0 ≤ h 14 4 ∧ h 14 4 ≤ 3) (ht : 0 ≤ t ∧ t ≤ 900000) (ho : o = -1 ∨ o = 0 ∨ o = 1) (hrow : rowOK (h 14 2) (h 39)) (hP : ∀ h', (∀ a, a ≠ 40 → a ≠ 26 → a ≠ 27 → h' a = h a) → P (los (bx h) (h 14 4) t o (h 39)) h') : Ct KX (d + 3) mX3_lossOfRow [aR 38, aI o, aI t] h (rI P) := by
  have hn8 : h 14 2 ≤ 8 := hb.1.2
  have e40 : eqN (h 14 2) (hcpy h 39 40 8 40) (h 39) := fun x h0 h1 => hcpy_s h0 (by omega)
  refine e_X3_lossOfRow o t h (c_copyBins (by decide) (by decide) (x_run (h := hcpy h 39 40 8) (c := 40) (r := h 14 4) (n := 1) hb hz hr ht (by decide) (by decide) (by decide) (by decide) (fun x h0 h1 => by rw [e40 x h0 h1]; exact hrow x h0 h1) (fun h' a1 a2 a3 => ?_)))
  have hP := hP h' (fun a q1 q2 q3 => by rw [a1 a q1 q2 q3, hcpy_n q1])
  have e0 : ∀ o, lossO (bx h) o (h 14 4) z0 (hcpy h 39 40 8 40) t 1 = lossO (bx h) o (h 14 4) z0 (h 39) t 1 := fun o => lossO_ag (b := bx h) (b' := bx h) (ct := z0) (ct' := z0) hb (agB_rf _) e40 (eqN_rf _ _) 1
  have a3 : ∀ o, o = 0 ∨ o = 1 → h' 27 o = lossO (bx h) o (h 14 4) z0 (h 39) t 1 := fun o q => (a3 o q).trans (e0 o)
  refine c_goneFrom ⟨by omega, by omega⟩ (fun q => ?_) (fun q => ?_)
  · rw [a3 o q]
    unfold los at hP
    rw [if_neg (by omega)] at hP
    exact hP
  · unfold los at hP
    rw [if_pos (by omega)] at hP
    rw [a3 0 (Or.inl rfl), a3 1 (Or.inr rfl)]
    have e9 : lossO (bx h) 0 (h 14 4) z0 (h 39) t 1 + lossO (bx h) 1 (h 14 4) z0 (h 39) t 1 = lossN (bx h) (h 14 4) z0 (h 39) t 1 := by
      have q1 := totO_sum hb (h 39)
      have q2 := totO_sum hb (NN (bx h) (h 14 4) z0 (h 39) t 1)
      unfold lossO lossN
      omega
    rw [e9]
    exact hP
abbrev kC (h g : HP) : Prop := ∀ a, a ≠ 38 → a ≠ 39 → a ≠ 40 → a ≠ 26 → a ≠ 27 → g a = h a
theorem kC_bx {h g : HP} (k : kC h g) : bx g = bx h := by
  dsimp only [bx]
  rw [k 14 (by decide) (by decide) (by decide) (by decide) (by decide), k 21 (by decide) (by decide) (by decide) (by decide) (by decide), k 22 (by decide) (by decide) (by decide) (by decide) (by decide), k 23 (by decide) (by decide) (by decide) (by decide) (by decide), k 16 (by decide) (by decide) (by decide) (by decide) (by decide)]
theorem kC_cz {h g : HP} (k : kC h g) (hz : cz h) : cz g := cz_keep hz (k 25 (by decide) (by decide) (by decide) (by decide) (by decide))
theorem kC_vx {h g : HP} (k : kC h g) : vx g = vx h := vx_eq (fun a ha => k a (by omega) (by omega) (by omega) (by omega) (by omega))
theorem x_loss {d : Nat} {P : Int → HP → Prop} {t o : Int} {h g : HP} {p : Int → Int} (hb : wfB (bx h)) (hz : cz h) (hr : 0 ≤ h 14 4 ∧ h 14 4 ≤ 3) (ht : 0 ≤ t ∧ t ≤ 900000) (ho : o = -1 ∨ o = 0 ∨ o = 1) (k : kC h g) (he : eqN (h 14 2) (g 39) p) (hrow : rowOK (h 14 2) p) (hP : ∀ g', kC h g' → g' 38 = g 38 → g' 39 = g 39 → P (los (bx h) (h 14 4) t o p) g') : Ct KX (d + 3) mX3_lossOfRow [aR 38, aI o, aI t] g (rI P) := by
  have eb := kC_bx k
  have e14 : g 14 = h 14 := k 14 (by decide) (by decide) (by decide) (by decide) (by decide)
  refine x_lossOfRow (by rw [eb]; exact hb) (kC_cz k hz) (by rw [e14]; exact hr) ht ho (by rw [e14]; exact fun x h0 h1 => by rw [he x h0 h1]; exact hrow x h0 h1) (fun g' a1 => ?_)
  rw [eb, e14, los_ag (b := bx h) (b' := bx h) hb (agB_rf _) he]
  exact hP g' (fun a q1 q2 q3 q4 q5 => (a1 a q3 q4 q5).trans (k a q1 q2 q3 q4 q5)) (a1 38 (by decide) (by decide) (by decide)) (a1 39 (by decide) (by decide) (by decide))
/-- two are changed, the loss is taken, they are changed back -/
theorem x_try {d : Nat} {P : Int → HP → Prop} {t o i j : Int} {h g : HP} {p : Int → Int} (hb : wfB (bx h)) (hz : cz h) (hr : 0 ≤ h 14 4 ∧ h 14 4 ≤ 3) (ht : 0 ≤ t ∧ t ≤ 900000) (ho : o = -1 ∨ o = 0 ∨ o = 1) (k : kC h g) (he : eqN (h 14 2) (g 39) p) (hrow : rowOK (h 14 2) p) (hi : 0 ≤ i ∧ i < h 14 2) (hj : 0 ≤ j ∧ j < h 14 2)
    (hP : ∀ g', kC h g' → g' 38 = g 38 → eqN (h 14 2) (g' 39) p → P (los (bx h) (h 14 4) t o (swp p i j)) g') : Ct KX (d + 3) mX10_swapBins [aR 39, aI i, aI j] g (rV fun h1 => Ct KX (d + 3) mX3_lossOfRow [aR 38, aI o, aI t] h1 (rI fun v2 h2 => Ct KX (d + 3) mX10_swapBins [aR 39, aI i, aI j] h2 (rV fun h3 => P v2 h3))) := by
  have hn8 : h 14 2 ≤ 8 := hb.1.2
  refine e_X10_swapBins 39 i j g ⟨⟨by decide, by omega, by omega⟩, ⟨by decide, by omega, by omega⟩, ⟨by decide, by omega, by omega⟩, ⟨by decide, by omega, by omega⟩, ?_⟩
  refine x_loss (h := h) (p := swp p i j) hb hz hr ht ho (fun a q1 q2 q3 q4 q5 => by rw [hsw_n q2]; exact k a q1 q2 q3 q4 q5) (by rw [hsw]; exact swp_ag he hi hj) (swp_ok hrow hi hj) (fun g' k1 k2 k3 => ?_)
  refine e_X10_swapBins 39 i j g' ⟨⟨by decide, by omega, by omega⟩, ⟨by decide, by omega, by omega⟩, ⟨by decide, by omega, by omega⟩, ⟨by decide, by omega, by omega⟩, ?_⟩
  refine hP _ (fun a q1 q2 q3 q4 q5 => by rw [hsw_n q2]; exact k1 a q1 q2 q3 q4 q5) (by rw [hsw_n (by decide), k2, hsw_n (by decide)]) ?_
  rw [hsw, k3, hsw, swp_swp]
  exact he
theorem x_find {d : Nat} {P : Int → HP → Prop} {t : Int} {h : HP} (hb : wfB (bx h)) (hz : cz h) (hr : 0 ≤ h 14 4 ∧ h 14 4 ≤ 3) (ht : 0 ≤ t ∧ t ≤ 900000) (hp : r199 (h 14 2) (h 28))
    (h1 : ∀ q, EX (bx h) (h 14 4) t (h 28) = some q → ∀ g, kC h g → g 38 4 = q.1 → g 38 5 = q.2 → P 1 g) (h0 : EX (bx h) (h 14 4) t (h 28) = none → ∀ g, kC h g → P 0 g) : Ct KX (d + 4) mX3_findExchange [aR 38, aR 28, aI t] h (rI P) := by
  have hn : 1 ≤ h 14 2 ∧ h 14 2 ≤ 8 := hb.1
  have hrow := r199_ok hp
  have hi0 : ∀ p, rowOK (h 14 2) p → iR (los (bx h) (h 14 4) t (-1) p) := fun p q => by
    have := lossN_in (r := h 14 4) (ct := z0) (t := t) hb q 1
    unfold los
    rw [if_pos (by omega)]
    exact ⟨by omega, by omega⟩
  unfold EX at h1 h0
  have inner : ∀ (i : Int), 0 ≤ i → i < h 14 2 → (∀ g, kC h g → eqN (h 14 2) (g 39) (h 28) → fout (FX (bx h) (h 14 4) t (h 28)) (h 14 2) (h 14 2 - i - 1).toNat (i + 1) none = fout (FX (bx h) (h 14 4) t (h 28)) (h 14 2) (h 14 2).toNat 0 none → V KX (d + 4) mX3_findExchange 18 [some (aR 38), some (aR 28), some (aI t), some (aI (los (bx h) (h 14 4) t (-1) (h 28))), some (aI (i + 1)), none, none] [] g (rI P)) →
      ∀ (k : Nat) (j : Int) (g : HP), i < j → j + k = h 14 2 → kC h g → eqN (h 14 2) (g 39) (h 28) → fout (FX (bx h) (h 14 4) t (h 28)) (h 14 2) (h 14 2 - i - 1).toNat (i + 1) (fin (FX (bx h) (h 14 4) t (h 28)) i k j none) = fout (FX (bx h) (h 14 4) t (h 28)) (h 14 2) (h 14 2).toNat 0 none → V KX (d + 4) mX3_findExchange 36 [some (aR 38), some (aR 28), some (aI t), some (aI (los (bx h) (h 14 4) t (-1) (h 28))), some (aI i), some (aI j), none] [] g (rI P) := by
    intro i hi0' hi1 hout k
    induction k with
    | zero =>
      intro j g hij hj kg e39 hR
      have e14 : g 14 = h 14 := kg 14 (by decide) (by decide) (by decide) (by decide) (by decide)
      refine v_X3_findExchange_36 t _ i j g ?_
      rw [e14]
      exact ⟨⟨⟨by omega, by omega⟩, ⟨by omega, by omega⟩⟩, fun _ => hout g kg e39 hR, fun q => absurd q (by omega)⟩
    | succ k ih =>
      intro j g hij hj kg e39 hR
      have e14 : g 14 = h 14 := kg 14 (by decide) (by decide) (by decide) (by decide) (by decide)
      refine v_X3_findExchange_36 t _ i j g ?_
      rw [e14]
      refine ⟨⟨⟨by omega, by omega⟩, ⟨by omega, by omega⟩⟩, fun q => absurd q (by omega), fun _ => x_try (h := h) (p := h 28) hb hz hr ht (Or.inl rfl) kg e39 hrow ⟨hi0', hi1⟩ ⟨by omega, by omega⟩ (fun g' k1 k2 k3 => ⟨⟨hi0 _ (swp_ok hrow ⟨hi0', hi1⟩ ⟨by omega, by omega⟩), hi0 _ hrow⟩, fun q => ?_, fun q => ⟨by omega, ?_⟩⟩)⟩
      · rw [fin, FX, if_neg (by omega)] at hR
        exact ih (j + 1) g' (by omega) (by omega) k1 k3 hR
      · rw [fin, FX, if_pos q, fin_fix (fun _ => rfl), fout_fix (fun _ _ => rfl)] at hR
        refine h1 (i, j) hR.symm _ (fun a q1 q2 q3 q4 q5 => ?_) ?_ ?_
        · rw [hset_n q1, hset_n q1]; exact k1 a q1 q2 q3 q4 q5
        · rw [hset_m (by decide), hset_s]
        · rw [hset_s]
  have outer : ∀ (k : Nat) (i : Int) (g : HP), 0 ≤ i → i + k = h 14 2 → kC h g → eqN (h 14 2) (g 39) (h 28) → fout (FX (bx h) (h 14 4) t (h 28)) (h 14 2) k i none = fout (FX (bx h) (h 14 4) t (h 28)) (h 14 2) (h 14 2).toNat 0 none → V KX (d + 4) mX3_findExchange 18 [some (aR 38), some (aR 28), some (aI t), some (aI (los (bx h) (h 14 4) t (-1) (h 28))), some (aI i), none, none] [] g (rI P) := by
    intro k
    induction k with
    | zero =>
      intro i g hi hk kg e39 hR
      have e14 : g 14 = h 14 := kg 14 (by decide) (by decide) (by decide) (by decide) (by decide)
      refine v_X3_findExchange_18 t _ i g ?_
      rw [e14]
      exact ⟨⟨⟨by omega, by omega⟩, ⟨by omega, by omega⟩⟩, fun _ => ⟨by omega, h0 hR.symm g kg⟩, fun q => absurd q (by omega)⟩
    | succ k ih =>
      intro i g hi hk kg e39 hR
      have e14 : g 14 = h 14 := kg 14 (by decide) (by decide) (by decide) (by decide) (by decide)
      refine v_X3_findExchange_18 t _ i g ?_
      rw [e14]
      refine ⟨⟨⟨by omega, by omega⟩, ⟨by omega, by omega⟩⟩, fun q => absurd q (by omega), fun _ => ?_⟩
      refine inner i hi (by omega) (fun g2 k2 e2 R2 => ih (i + 1) g2 (by omega) (by omega) k2 e2 (by rw [show (h 14 2 - i - 1).toNat = k by omega] at R2; exact R2)) (h 14 2 - i - 1).toNat (i + 1) g (by omega) (by omega) kg e39 ?_
      rw [fout] at hR
      rw [show (h 14 2 - i - 1).toNat = k by omega] at hR ⊢
      exact hR
  have e39 : eqN (h 14 2) (hcpy h 28 39 8 39) (h 28) := fun x h0 h1 => hcpy_s h0 (by omega)
  refine e_X3_findExchange t h (c_copyBins (by decide) (by decide) (x_loss (h := h) (p := h 28) hb hz hr ht (Or.inl rfl) (fun a q1 q2 q3 q4 q5 => hcpy_n q2) e39 hrow (fun g k1 k2 k3 => outer (h 14 2).toNat 0 g (by omega) (by omega) k1 (by rw [k3]; exact e39) rfl)))
theorem x_exchanged {d : Nat} {P : Int → HP → Prop} {N w : Int} {h : HP} (hW : WV N (vx h)) (hN : N ≤ 1000) (hz : cz h) (hw : iR w) (hP : ∀ h', vx h' = vx h → cz h' → P (sp_exch (vx h) w) h') : Ct KX (d + 5) mX10_exchanged [aR 0, aI w] h (rI P) := by
  obtain ⟨b1, b2, b3, b4, b5, b6, b7, b8, -⟩ := hW
  unfold sp_exch at hP
  dsimp only [bn, qb, qr, qp, qt, vx] at hP b4 b8 b7
  refine e_X10_exchanged w h (c_within hw (by decide) (by decide) (fun a b => bT' (x_find b3 hz b4 ⟨b8.1, by omega⟩ b7 (fun q hq g k e4 e5 => bT' ⟨hw, fun z => ?_, fun z => ?_⟩) (fun hq g k => bF' ?_))) (fun a => bF' ?_))
  · have := hP g (kC_vx k) (kC_cz k hz)
    rw [if_pos ⟨a, b⟩, hq] at this
    dsimp only at this
    rw [if_neg z] at this
    rw [e5]
    exact this
  · have := hP g (kC_vx k) (kC_cz k hz)
    rw [if_pos ⟨a, b⟩, hq] at this
    dsimp only at this
    rw [if_pos z] at this
    rw [e4]
    exact this
  · have := hP g (kC_vx k) (kC_cz k hz)
    rw [if_pos ⟨a, b⟩, hq] at this
    exact this
  · have := hP h rfl hz
    rw [if_neg (by omega)] at this
    exact this
