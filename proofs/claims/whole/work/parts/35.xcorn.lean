/-! CORN: bins for the corn that comes; the class -/
def fbin (f : Int → SC → SC) : Nat → Int → SC → SC
  | 0, _, s => s
  | j + 1, x, s => fbin f j (x + 1) (f x s)
theorem fbin_ag {f f' : Int → SC → SC} {n : Int} (h : ∀ x s, 0 ≤ x → x < n → f x s = f' x s) : ∀ (j : Nat) (x : Int) (s : SC), 0 ≤ x → x + j ≤ n → fbin f j x s = fbin f' j x s
  | 0, _, _, _, _ => rfl
  | j + 1, x, s, h0, h1 => by rw [fbin, fbin, h x s h0 (by omega)]; exact fbin_ag h j (x + 1) _ (by omega) (by omega)
theorem fbin_fix {f : Int → SC → SC} {n : Int} {s : SC} (h : ∀ x, 0 ≤ x → x < n → f x s = s) : ∀ (j : Nat) (x : Int), 0 ≤ x → x + j ≤ n → fbin f j x s = s
  | 0, _, _, _ => rfl
  | j + 1, x, h0, h1 => by rw [fbin, h x h0 (by omega)]; exact fbin_fix h j (x + 1) (by omega) (by omega)
def KO (b : BB) (r : Int) (cN cP : Int → Int) (en : Int) : Nat → Int → Int → Int → (Int → Int) → (Int → Int) → SC → SC
  | 0, _, t, lost, p, row, s => if lost + lossN b r z0 p t (en - t).toNat < s.1 then (lost + lossN b r z0 p t (en - t).toNat, row) else s
  | m + 1, c, t, lost, p, row, s => fbin (fun x s => if NN b r z0 p t (cN c - t).toNat x + cP c ≤ 199 then KO b r cN cP en m (c + 1) (cN c) (lost + lossN b r z0 p t (cN c - t).toNat) (udf (NN b r z0 p t (cN c - t).toNat) x (NN b r z0 p t (cN c - t).toNat x + cP c)) (udf row c x) s else s) (bn b).toNat 0 s
theorem udf_ag {n : Int} {p q : Int → Int} {x v w : Int} (h : eqN n p q) (hv : v = w) : eqN n (udf p x v) (udf q x w) := fun y q0 q1 => by
  unfold udf
  rw [hv, h y q0 q1]
theorem udf_ok {n : Int} {p : Int → Int} {x v : Int} (h : rowOK n p) (hv : 0 ≤ v ∧ v ≤ 300) : rowOK n (udf p x v) := fun y q0 q1 => by
  unfold udf
  split
  · exact hv
  · exact h y q0 q1
theorem KO_ag {b b' : BB} {r en : Int} {cN cP cN' cP' : Int → Int} {C : Int} (hb : wfB b) (ha : agB b b') (hc : ∀ c, 0 ≤ c → c < C → cN c = cN' c ∧ cP c = cP' c) : ∀ (m : Nat) (c t lost : Int) (p p' row : Int → Int) (s : SC), 0 ≤ c → c + m ≤ C → eqN (bn b) p p' → KO b r cN cP en m c t lost p row s = KO b' r cN' cP' en m c t lost p' row s
  | 0, c, t, lost, p, p', row, s, _, _, hp => by
    rw [KO, KO, lossN_ag (ct := z0) (ct' := z0) hb ha hp (eqN_rf _ _)]
  | m + 1, c, t, lost, p, p', row, s, h0, h1, hp => by
    have hbn := hb.1
    have e := hc c h0 (by omega)
    rw [KO, KO, ← ha.1]
    refine fbin_ag (n := bn b) (fun x s q0 q1 => ?_) _ _ _ (by omega) (by omega)
    have hN := NN_ag (rats := r) (t := t) (ct := z0) (ct' := z0) hb ha hp (eqN_rf _ _) (cN' c - t).toNat
    rw [e.1, e.2, hN x q0 q1, lossN_ag (ct := z0) (ct' := z0) hb ha hp (eqN_rf _ _), KO_ag hb ha hc m (c + 1) (cN' c) _ _ _ (udf row c x) s (by omega) (by omega) (udf_ag hN rfl)]
theorem KO_cut {b : BB} {r en : Int} {cN cP : Int → Int} (hb : wfB b) {C : Int} (hc : ∀ c, 0 ≤ c → c < C → 0 ≤ cP c) : ∀ (m : Nat) (c t lost : Int) (p row : Int → Int) (s : SC), 0 ≤ c → c + m ≤ C → rowOK (bn b) p → s.1 ≤ lost → KO b r cN cP en m c t lost p row s = s
  | 0, c, t, lost, p, row, s, _, _, hp, hs => by
    have := lossN_in (r := r) (ct := z0) (t := t) hb hp (en - t).toNat
    rw [KO, if_neg (by omega)]
  | m + 1, c, t, lost, p, row, s, h0, h1, hp, hs => by
    have hbn := hb.1
    have hl := lossN_in (r := r) (ct := z0) (t := t) hb hp (cN c - t).toNat
    have hN := NN_ok (rats := r) (t := t) (ct := z0) hb hp (cN c - t).toNat
    have hcc := hc c h0 (by omega)
    rw [KO]
    refine fbin_fix (n := bn b) (fun x q0 q1 => ?_) _ _ (by omega) (by omega)
    split
    · have := hN x q0 q1
      exact KO_cut hb hc m (c + 1) _ _ _ _ s (by omega) (by omega) (udf_ok hN ⟨by omega, by omega⟩) (by omega)
    · rfl
def cmg (cN : Int → Int) (n : Int) : Nat → Nat
  | 0 => 0
  | c + 1 => cmg cN n c + (if cN c < n then 1 else 0)
def CO (l : LV) (n : Int) : SC := KO (qb l) (qr l) (qcN l) (qcP l) n (cmg (qcN l) n (qc l).toNat) 0 0 0 (qp l) z0 (1000000, z0)
def sp_corn (l : LV) (n i : Int) : Int := if (1 ≤ n ∧ n ≤ 31) ∧ -1 ≤ i ∧ i < qc l then (if qc l = 0 then -4 else if (CO l n).1 = 1000000 then -4 else if i = -1 then (CO l n).1 else (CO l n).2 i) else -1
theorem cmg_le {cN : Int → Int} {n : Int} : ∀ c : Nat, cmg cN n c ≤ c
  | 0 => Nat.le_refl _
  | c + 1 => by
    have := cmg_le (cN := cN) (n := n) c
    rw [cmg]
    split <;> omega
theorem cmg_ag {cN cN' : Int → Int} {n : Int} : ∀ c : Nat, (∀ x : Nat, x < c → cN x = cN' x) → cmg cN n c = cmg cN' n c
  | 0, _ => rfl
  | c + 1, h => by rw [cmg, cmg, cmg_ag c (fun x hx => h x (by omega)), h c (by omega)]
theorem sp_corn_ag {N : Int} {l l' : LV} (ha : AgV l l') (hw : WV N l') (n i : Int) : sp_corn l n i = sp_corn l' n i := by
  have hWl := AgV_W ha hw
  have hb := hWl.2.2.1
  have hq : 0 ≤ qc l := hWl.2.2.2.2.2.1.1.1
  obtain ⟨a1, a2, a3, a4, a5, a6, a7, a8, a9, -⟩ := ha
  have e : CO l n = CO l' n := by
    unfold CO
    have e1 : cmg (qcN l) n (qc l).toNat = cmg (qcN l') n (qc l').toNat := by
      rw [← a6]
      exact cmg_ag _ (fun x hx => (a7 x (by omega) (by omega)).1)
    have e2 := cmg_le (cN := qcN l) (n := n) (qc l).toNat
    rw [← e1, ← a4]
    exact KO_ag (C := qc l) hb a3 a7 _ _ _ _ _ _ _ _ (by omega) (by omega) a8
  unfold sp_corn
  rw [e, a6]
theorem cmg_pre {cN : Int → Int} {n : Int} : ∀ c : Nat, (∀ x y : Nat, x ≤ y → y < c → cN x ≤ cN y) → (∀ x : Nat, x < cmg cN n c → cN x < n) ∧ (cmg cN n c < c → n ≤ cN (cmg cN n c))
  | 0, _ => ⟨fun x hx => absurd hx (by rw [cmg]; omega), fun h => absurd h (by omega)⟩
  | c + 1, hs => by
    have h := cmg_pre (n := n) c (fun x y q0 q1 => hs x y q0 (by omega))
    have hl := cmg_le (cN := cN) (n := n) c
    rw [cmg]
    by_cases e : cN c < n
    · rw [if_pos e]
      have hcc : cmg cN n c = c := by
        by_cases e2 : cmg cN n c < c
        · have h1 := h.2 e2
          have h2 := hs (cmg cN n c) c (by omega) (by omega)
          omega
        · omega
      rw [hcc] at h ⊢
      refine ⟨fun x hx => ?_, fun z => absurd z (by omega)⟩
      by_cases e3 : x = c
      · subst e3; exact e
      · exact h.1 x (by omega)
    · rw [if_neg e]
      refine ⟨fun x hx => h.1 x (by omega), fun z => ?_⟩
      by_cases e2 : cmg cN n c < c
      · exact h.2 e2
      · rw [show cmg cN n c + 0 = c by omega]
        omega
