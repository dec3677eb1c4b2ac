/-! ORDERS: like rows, like answers -/
theorem fk_ag {n : Int} {p p' : Int → Int} (h : eqN n p p') : ∀ u : Nat, (u : Int) ≤ n - 1 → fk p u = fk p' u
  | 0, _ => by rw [fk, fk]
  | u + 1, hu => by rw [fk, fk, h u (by omega) (by omega), h ((u : Int) + 1) (by omega) (by omega), fk_ag h u (by omega)]
theorem fj_ag {n v k1 : Int} {p p' : Int → Int} (h : eqN n p p') (hk : 0 ≤ k1) : ∀ e : Nat, k1 + e < n → fj p v k1 e = fj p' v k1 e
  | 0, _ => by rw [fj, fj]
  | e + 1, he => by rw [fj, fj, h (k1 + e + 1) (by omega) (by omega), fj_ag h hk e (by omega)]
theorem rvs_ag {n : Int} : ∀ (f : Nat) (p p' : Int → Int) (a b : Int), 0 ≤ a → b < n → eqN n p p' → eqN n (rvs f p a b) (rvs f p' a b)
  | 0, _, _, _, _, _, _, h => h
  | f + 1, p, p', a, b, h0, h1, h => by
    rw [rvs, rvs]
    split
    · exact rvs_ag f _ _ _ _ (by omega) (by omega) (swp_ag h ⟨by omega, by omega⟩ ⟨by omega, by omega⟩)
    · exact h
theorem NX_ag {n : Int} {p p' : Int → Int} (hn : 1 ≤ n) (h : eqN n p p') : (NX n p = none ∧ NX n p' = none) ∨ ∃ q q', NX n p = some q ∧ NX n p' = some q' ∧ eqN n q q' := by
  have h1 := fk_in (p := p') (n - 1).toNat
  have e1 := fk_ag h (n - 1).toNat (by omega)
  unfold NX
  rw [e1]
  by_cases c : fk p' (n - 1).toNat < 0
  · rw [if_pos c, if_pos c]
    exact Or.inl ⟨rfl, rfl⟩
  · rw [if_neg c, if_neg c]
    have h2 := fj_in (p := p') (v := p' (fk p' (n - 1).toNat)) (k1 := fk p' (n - 1).toNat + 1) (n - 2 - fk p' (n - 1).toNat).toNat
    rw [h (fk p' (n - 1).toNat) (by omega) (by omega), fj_ag (v := p' (fk p' (n - 1).toNat)) h (by omega) (n - 2 - fk p' (n - 1).toNat).toNat (by omega)]
    exact Or.inr ⟨_, _, rfl, rfl, rvs_ag 8 _ _ _ _ (by omega) (by omega) (swp_ag h ⟨by omega, by omega⟩ ⟨by omega, by omega⟩)⟩
theorem OS_ag {b b' : BB} {r t : Int} {k : Nat} (hb : wfB b) (ha : agB b b') : ∀ (f : Nat) (q q' : Int → Int) (s s' : SC), eqN (bn b) q q' → s.1 = s'.1 → eqN (bn b) s.2 s'.2 → (OS b r t k f q s).1 = (OS b' r t k f q' s').1 ∧ eqN (bn b) (OS b r t k f q s).2 (OS b' r t k f q' s').2
  | 0, _, _, _, _, _, h1, h2 => ⟨h1, h2⟩
  | f + 1, q, q', s, s', hq, h1, h2 => by
    have hF : (FO b r t k q s).1 = (FO b' r t k q' s').1 ∧ eqN (bn b) (FO b r t k q s).2 (FO b' r t k q' s').2 := by
      unfold FO
      rw [lossN_ag (ct := z0) (ct' := z0) hb ha hq (eqN_rf _ _), h1]
      split
      · exact ⟨rfl, hq⟩
      · exact ⟨h1, h2⟩
    rw [OS, OS, ← ha.1]
    rcases NX_ag hb.1.1 hq with ⟨e1, e2⟩ | ⟨x, y, e1, e2, e3⟩
    · rw [e1, e2]
      exact hF
    · rw [e1, e2]
      exact OS_ag hb ha f x y _ _ e3 hF.1 hF.2
theorem sp_order_ag {N : Int} {l l' : LV} (ha : AgV l l') (hw : WV N l') {q q' : Int → Int} (hq : eqN (bn (qb l)) q q') (k i : Int) : sp_order l q k i = sp_order l' q' k i := by
  have hb := (AgV_W ha hw).2.2.1
  obtain ⟨a1, a2, a3, a4, a5, a6, a7, a8, a9, -⟩ := ha
  have h := OS_ag (r := qr l') (t := qt l') (k := k.toNat) hb a3 40320 q q' (1000000, z0) (1000000, z0) hq rfl (eqN_rf _ _)
  unfold sp_order
  rw [← a3.1, a4, a9]
  by_cases c : (1 ≤ k ∧ k ≤ 20) ∧ -1 ≤ i ∧ i < bn (qb l)
  · rw [if_pos c, if_pos c]
    by_cases c2 : i = -1
    · rw [if_pos c2, if_pos c2]
      exact h.1
    · rw [if_neg c2, if_neg c2]
      exact h.2 i (by omega) (by omega)
  · rw [if_neg c, if_neg c]
theorem sort_ag {n : Int} {p p' q q' : Int → Int} (hn : 0 ≤ n) (hp : eqN n p p') (s1 : srt n q) (s2 : srt n q') (m1 : prm n q p) (m2 : prm n q' p') : eqN n q q' := by
  have h := srt_one n.toNat q q' (by rw [show ((n.toNat : Nat) : Int) = n by omega]; exact s1) (by rw [show ((n.toNat : Nat) : Int) = n by omega]; exact s2) (prm_tr m1 (prm_tr (prm_eq hp) (prm_sy m2)))
  rwa [show ((n.toNat : Nat) : Int) = n by omega] at h
