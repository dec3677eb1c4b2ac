/-! THE TEXT: items, what they tell -/
abbrev dig (tx : Int → Int) (len i : Int) : Prop := i < len ∧ 48 ≤ tx i ∧ tx i ≤ 57
def fc (tx : Int → Int) (len i : Int) : Nat := if dig tx len i then (if dig tx len (i + 1) then (if dig tx len (i + 2) then 3 else 2) else 1) else 0
def vl (tx : Int → Int) (i : Int) : Nat → Int
  | 0 => 0
  | c + 1 => (10 * vl tx i c + tx (i + c)) - 48
/-- a number with the sign behind it: its value, where one goes on -/
def pnm (tx : Int → Int) (len i sep : Int) : Option (Int × Int) := if 0 < fc tx len i ∧ i + fc tx len i < len ∧ tx (i + fc tx len i) = sep then some (vl tx i (fc tx len i), i + fc tx len i + 1) else none
def due (c : Int) : Int := if c = 98 ∨ c = 99 ∨ c = 114 ∨ c = 119 then 2 else if c = 115 then 1 else 0
def ptm (tx : Int → Int) (len s : Int) : Option (Int × Int × Int) := if due (tx s) = 1 then (match pnm tx len (s + 1) 59 with
    | none => none
    | some q => some (q.1, 0, q.2)) else if due (tx s) = 2 then (match pnm tx len (s + 1) 44 with
    | none => none
    | some q => (match pnm tx len q.2 59 with
      | none => none
      | some r => some (q.1, r.1, r.2))) else none
/-- bins, kind, rats, V, walls, corn -/
abbrev DD : Type := List (Int × Int) × Int × Int × Int × List (Int × Int) × List (Int × Int)
abbrev dB (D : DD) : List (Int × Int) := D.1
abbrev dK (D : DD) : Int := D.2.1
abbrev dR (D : DD) : Int := D.2.2.1
abbrev dV (D : DD) : Int := D.2.2.2.1
abbrev dW (D : DD) : List (Int × Int) := D.2.2.2.2.1
abbrev dC (D : DD) : List (Int × Int) := D.2.2.2.2.2
def lastN (l : List (Int × Int)) : Int := if l.length = 0 then 0 else (l.getD (l.length - 1) (0, 0)).1
def good (c a b : Int) (D : DD) : Option DD :=
  if c = 98 then (if ((dB D).length : Int) < 8 ∧ a ≤ 99 ∧ b ≤ 1 then some (dB D ++ [(a, b)], D.2) else none)
  else if c = 115 then (if a ≤ 2 then some (dB D, a, D.2.2) else none)
  else if c = 114 then (if a ≤ 3 ∧ b ≤ 30 then some (dB D, dK D, a, b, D.2.2.2.2) else none)
  else if c = 119 then (if ((dW D).length : Int) < 8 ∧ a < (dB D).length ∧ b < (dB D).length ∧ a ≠ b then some (dB D, dK D, dR D, dV D, dW D ++ [(a, b)], dC D) else none)
  else (if ((dC D).length : Int) < 4 ∧ a ≤ 30 ∧ (1 ≤ b ∧ b ≤ 60) ∧ lastN (dC D) ≤ a then some (dB D, dK D, dR D, dV D, dW D, dC D ++ [(a, b)]) else none)
/-- the place of the first fault, or -4; what is told till there -/
def plp (tx : Int → Int) (len : Int) : Nat → Int → DD → Int × DD
  | 0, _, D => (-4, D)
  | f + 1, s, D => if s < len then (match ptm tx len s with
    | none => (s, D)
    | some q => (match good (tx s) q.1 q.2.1 D with
      | none => (s, D)
      | some D' => plp tx len f q.2.2 D')) else (-4, D)
def D0 : DD := ([], 0, 0, 0, [], [])
def parse (tx : Int → Int) (len : Int) : Int × DD := plp tx len 300 0 D0
def wfD (D : DD) : Prop := ((dB D).length ≤ 8 ∧ ∀ i : Nat, i < (dB D).length → (0 ≤ ((dB D).getD i (0, 0)).1 ∧ ((dB D).getD i (0, 0)).1 ≤ 99) ∧ (((dB D).getD i (0, 0)).2 = 0 ∨ ((dB D).getD i (0, 0)).2 = 1)) ∧ (0 ≤ dK D ∧ dK D ≤ 2) ∧ (0 ≤ dR D ∧ dR D ≤ 3) ∧ (0 ≤ dV D ∧ dV D ≤ 30) ∧
  ((dW D).length ≤ 8 ∧ ∀ i : Nat, i < (dW D).length → (0 ≤ ((dW D).getD i (0, 0)).1 ∧ ((dW D).getD i (0, 0)).1 < 8) ∧ (0 ≤ ((dW D).getD i (0, 0)).2 ∧ ((dW D).getD i (0, 0)).2 < 8)) ∧
  ((dC D).length ≤ 4 ∧ ∀ i : Nat, i < (dC D).length → (0 ≤ ((dC D).getD i (0, 0)).1 ∧ ((dC D).getD i (0, 0)).1 ≤ 30) ∧ (1 ≤ ((dC D).getD i (0, 0)).2 ∧ ((dC D).getD i (0, 0)).2 ≤ 60) ∧ ∀ j : Nat, i ≤ j → j < (dC D).length → ((dC D).getD i (0, 0)).1 ≤ ((dC D).getD j (0, 0)).1)
theorem gd_lt {l : List (Int × Int)} {x : Int × Int} {i : Nat} (h : i < l.length) : (l ++ [x]).getD i (0, 0) = l.getD i (0, 0) := by
  rw [List.getD_eq_getElem?_getD, List.getD_eq_getElem?_getD, List.getElem?_append_left h]
theorem gd_at {l : List (Int × Int)} {x : Int × Int} : (l ++ [x]).getD l.length (0, 0) = x := by
  rw [List.getD_eq_getElem?_getD, List.getElem?_append_right (Nat.le_refl _)]
  simp
theorem fc_in (tx : Int → Int) (len i : Int) : fc tx len i ≤ 3 := by unfold fc; (repeat' split) <;> omega
theorem fc_dig {tx : Int → Int} {len i : Int} {j : Nat} (h : j < fc tx len i) : dig tx len (i + j) := by
  unfold fc at h
  split at h
  · rename_i h0
    split at h
    · rename_i h1
      split at h
      · rename_i h2
        match j, h with
        | 0, _ => rw [show i + ((0 : Nat) : Int) = i by omega]; exact h0
        | 1, _ => exact h1
        | 2, _ => exact h2
      · match j, h with
        | 0, _ => rw [show i + ((0 : Nat) : Int) = i by omega]; exact h0
        | 1, _ => exact h1
    · match j, h with
      | 0, _ => rw [show i + ((0 : Nat) : Int) = i by omega]; exact h0
  · omega
theorem fc_end {tx : Int → Int} {len i : Int} (h : fc tx len i < 3) : ¬ dig tx len (i + fc tx len i) := by
  unfold fc at h ⊢
  split
  · rename_i h0
    rw [if_pos h0] at h
    split
    · rename_i h1
      rw [if_pos h1] at h
      split
      · rename_i h2
        rw [if_pos h2] at h
        omega
      · assumption
    · assumption
  · rename_i h0
    rw [show i + ((0 : Nat) : Int) = i by omega]
    exact h0
theorem vl_in {tx : Int → Int} {i : Int} : ∀ c : Nat, (∀ j : Nat, j < c → 48 ≤ tx (i + j) ∧ tx (i + j) ≤ 57) → 0 ≤ vl tx i c ∧ vl tx i c < 10 ^ c
  | 0, _ => by simp [vl]
  | c + 1, h => by
    have h1 := vl_in c (fun j hj => h j (by omega))
    have h2 := h c (by omega)
    rw [vl, Int.pow_succ]
    omega
theorem vl_ok {tx : Int → Int} {len i : Int} : 0 ≤ vl tx i (fc tx len i) ∧ vl tx i (fc tx len i) ≤ 999 := by
  have h := vl_in (tx := tx) (i := i) (fc tx len i) (fun j hj => (fc_dig (len := len) hj).2)
  have h3 := fc_in tx len i
  refine ⟨h.1, ?_⟩
  generalize fc tx len i = c at h h3
  rcases (show c = 0 ∨ c = 1 ∨ c = 2 ∨ c = 3 by omega) with rfl | rfl | rfl | rfl <;> simp at h <;> omega
theorem pnm_in {tx : Int → Int} {len i sep : Int} {q : Int × Int} (h : pnm tx len i sep = some q) : (0 ≤ q.1 ∧ q.1 ≤ 999) ∧ i + 2 ≤ q.2 ∧ q.2 ≤ len := by
  unfold pnm at h
  split at h
  · rename_i hc
    cases h
    have := vl_ok (tx := tx) (len := len) (i := i)
    exact ⟨this, by show i + 2 ≤ i + (fc tx len i : Int) + 1; omega, by show i + (fc tx len i : Int) + 1 ≤ len; omega⟩
  · cases h
theorem ptm_in {tx : Int → Int} {len s : Int} {q : Int × Int × Int} (h : ptm tx len s = some q) : (0 ≤ q.1 ∧ q.1 ≤ 999) ∧ (0 ≤ q.2.1 ∧ q.2.1 ≤ 999) ∧ s + 1 ≤ q.2.2 ∧ q.2.2 ≤ len ∧ (tx s = 98 ∨ tx s = 99 ∨ tx s = 114 ∨ tx s = 119 ∨ tx s = 115) := by
  unfold ptm at h
  split at h
  · rename_i hd
    split at h
    · cases h
    · rename_i q1 h1
      cases h
      have h2 := pnm_in h1
      have h3 : tx s = 115 := by unfold due at hd; (repeat' split at hd) <;> omega
      exact ⟨h2.1, by show (0 : Int) ≤ 0 ∧ (0 : Int) ≤ 999; omega, by show s + 1 ≤ q1.2; omega, h2.2.2, by omega⟩
  · split at h
    · rename_i hd1 hd
      split at h
      · cases h
      · rename_i q1 h1
        split at h
        · cases h
        · rename_i r1 h1b
          cases h
          have h2 := pnm_in h1
          have h3 := pnm_in h1b
          have h4 : tx s = 98 ∨ tx s = 99 ∨ tx s = 114 ∨ tx s = 119 := by unfold due at hd; (repeat' split at hd) <;> omega
          exact ⟨h2.1, h3.1, by show s + 1 ≤ r1.2; omega, h3.2.2, by omega⟩
    · cases h
theorem lastN_app {l : List (Int × Int)} {x : Int × Int} : lastN (l ++ [x]) = x.1 := by
  unfold lastN
  rw [if_neg (by simp)]
  have : (l ++ [x]).length - 1 = l.length := by simp
  rw [this, gd_at]
theorem good_wf {c a b : Int} {D D' : DD} (hw : wfD D) (ha : 0 ≤ a) (hb : 0 ≤ b) (h : good c a b D = some D') : wfD D' := by
  obtain ⟨⟨w1, w2⟩, w3, w4, w5, ⟨w6, w7⟩, w8, w9⟩ := id hw
  unfold good at h
  split at h
  · split at h
    · rename_i hc
      cases h
      refine ⟨⟨by show (dB D ++ [(a, b)]).length ≤ 8; simp; omega, fun i hi => ?_⟩, w3, w4, w5, ⟨w6, w7⟩, w8, w9⟩
      show (0 ≤ ((dB D ++ [(a, b)]).getD i (0, 0)).1 ∧ ((dB D ++ [(a, b)]).getD i (0, 0)).1 ≤ 99) ∧ (((dB D ++ [(a, b)]).getD i (0, 0)).2 = 0 ∨ ((dB D ++ [(a, b)]).getD i (0, 0)).2 = 1)
      have hi : i < (dB D ++ [(a, b)]).length := hi
      simp at hi
      by_cases e : i = (dB D).length
      · subst e; rw [gd_at]; exact ⟨⟨ha, hc.2.1⟩, by show b = 0 ∨ b = 1; omega⟩
      · rw [gd_lt (by omega)]; exact w2 i (by omega)
    · cases h
  · split at h
    · split at h
      · rename_i hc
        cases h
        exact ⟨⟨w1, w2⟩, ⟨ha, hc⟩, w4, w5, ⟨w6, w7⟩, w8, w9⟩
      · cases h
    · split at h
      · split at h
        · rename_i hc
          cases h
          exact ⟨⟨w1, w2⟩, w3, ⟨ha, hc.1⟩, ⟨hb, hc.2⟩, ⟨w6, w7⟩, w8, w9⟩
        · cases h
      · split at h
        · split at h
          · rename_i hc
            cases h
            refine ⟨⟨w1, w2⟩, w3, w4, w5, ⟨by show (dW D ++ [(a, b)]).length ≤ 8; simp; omega, fun i hi => ?_⟩, w8, w9⟩
            show (0 ≤ ((dW D ++ [(a, b)]).getD i (0, 0)).1 ∧ ((dW D ++ [(a, b)]).getD i (0, 0)).1 < 8) ∧ (0 ≤ ((dW D ++ [(a, b)]).getD i (0, 0)).2 ∧ ((dW D ++ [(a, b)]).getD i (0, 0)).2 < 8)
            have hi : i < (dW D ++ [(a, b)]).length := hi
            simp at hi
            by_cases e : i = (dW D).length
            · subst e; rw [gd_at]; exact ⟨⟨ha, by show a < 8; omega⟩, ⟨hb, by show b < 8; omega⟩⟩
            · rw [gd_lt (by omega)]; exact w7 i (by omega)
          · cases h
        · split at h
          · rename_i hc
            cases h
            refine ⟨⟨w1, w2⟩, w3, w4, w5, ⟨w6, w7⟩, by show (dC D ++ [(a, b)]).length ≤ 4; simp; omega, fun i hi => ?_⟩
            show (0 ≤ ((dC D ++ [(a, b)]).getD i (0, 0)).1 ∧ ((dC D ++ [(a, b)]).getD i (0, 0)).1 ≤ 30) ∧ (1 ≤ ((dC D ++ [(a, b)]).getD i (0, 0)).2 ∧ ((dC D ++ [(a, b)]).getD i (0, 0)).2 ≤ 60) ∧ ∀ j : Nat, i ≤ j → j < (dC D ++ [(a, b)]).length → ((dC D ++ [(a, b)]).getD i (0, 0)).1 ≤ ((dC D ++ [(a, b)]).getD j (0, 0)).1
            have hi : i < (dC D ++ [(a, b)]).length := hi
            simp at hi
            by_cases e : i = (dC D).length
            · subst e
              rw [gd_at]
              refine ⟨⟨ha, hc.2.1⟩, hc.2.2.1, fun j h1 h2 => ?_⟩
              simp at h2
              rw [show j = (dC D).length by omega, gd_at]
              exact Int.le_refl _
            · rw [gd_lt (by omega)]
              obtain ⟨q1, q2, q3⟩ := w9 i (by omega)
              refine ⟨q1, q2, fun j h1 h2 => ?_⟩
              simp at h2
              by_cases e2 : j = (dC D).length
              · subst e2
                rw [gd_at]
                have h9 := hc.2.2.2
                unfold lastN at h9
                rw [if_neg (by omega)] at h9
                have := q3 ((dC D).length - 1) (by omega) (by omega)
                exact Int.le_trans this h9
              · rw [gd_lt (by omega)]
                exact q3 j h1 (by omega)
          · cases h
theorem D0_wf : wfD D0 := by
  refine ⟨⟨by decide, fun i hi => ?_⟩, by decide, by decide, by decide, ⟨by decide, fun i hi => ?_⟩, by decide, fun i hi => ?_⟩
  · exact absurd hi (by show ¬ i < 0; omega)
  · exact absurd hi (by show ¬ i < 0; omega)
  · exact absurd hi (by show ¬ i < 0; omega)
theorem plp_wf {tx : Int → Int} {len : Int} : ∀ (f : Nat) (s : Int) (D : DD), wfD D → wfD (plp tx len f s D).2
  | 0, _, _, h => h
  | f + 1, s, D, h => by
    unfold plp
    split
    · split
      · exact h
      · rename_i q hq
        split
        · exact h
        · rename_i D' hg
          have := ptm_in hq
          exact plp_wf f _ D' (good_wf h this.1.1 this.2.1.1 hg)
    · exact h
theorem plp_fault {tx : Int → Int} {len : Int} : ∀ (f : Nat) (s : Int) (D : DD), 0 ≤ s → (plp tx len f s D).1 = -4 ∨ (0 ≤ (plp tx len f s D).1 ∧ (plp tx len f s D).1 < len)
  | 0, _, _, _ => Or.inl rfl
  | f + 1, s, D, h => by
    unfold plp
    split
    · rename_i hs
      split
      · exact Or.inr ⟨h, hs⟩
      · rename_i q hq
        split
        · exact Or.inr ⟨h, hs⟩
        · rename_i D' hg
          have := ptm_in hq
          exact plp_fault f _ D' (by omega)
    · exact Or.inl rfl
/-- like texts tell alike -/
theorem pnm_ag {tx tx' : Int → Int} {len i sep : Int} (h : ∀ j, 0 ≤ j → j < len → tx j = tx' j) (hi : 0 ≤ i) : pnm tx len i sep = pnm tx' len i sep := by
  have hd : ∀ j, 0 ≤ j → (dig tx len j ↔ dig tx' len j) := fun j hj => by
    unfold dig
    by_cases q : j < len
    · rw [h j hj q]
    · exact ⟨fun z => absurd z.1 q, fun z => absurd z.1 q⟩
  have hf : fc tx len i = fc tx' len i := by
    unfold fc
    simp only [hd i hi, hd (i + 1) (by omega), hd (i + 2) (by omega)]
  have hv : vl tx i (fc tx len i) = vl tx' i (fc tx len i) := by
    have : ∀ c : Nat, c ≤ fc tx len i → vl tx i c = vl tx' i c := by
      intro c
      induction c with
      | zero => intro _; rfl
      | succ c ih =>
        intro hc
        have q := fc_dig (tx := tx) (len := len) (i := i) (j := c) (by omega)
        rw [vl, vl, ih (by omega), h (i + c) (by omega) q.1]
    exact this _ (Nat.le_refl _)
  unfold pnm
  rw [← hf, ← hv]
  by_cases q : i + (fc tx len i : Int) < len
  · rw [h _ (by omega) q]
  · rw [if_neg (fun z => q z.2.1), if_neg (fun z => q z.2.1)]
theorem ptm_ag {tx tx' : Int → Int} {len s : Int} (h : ∀ j, 0 ≤ j → j < len → tx j = tx' j) (h0 : 0 ≤ s) (h1 : s < len) : ptm tx len s = ptm tx' len s := by
  unfold ptm
  rw [h s h0 h1, pnm_ag h (show 0 ≤ s + 1 by omega), pnm_ag h (show 0 ≤ s + 1 by omega)]
  split
  · rfl
  · split
    · split
      · rfl
      · rename_i q hq
        have := pnm_in hq
        rw [pnm_ag h (show 0 ≤ q.2 by omega)]
    · rfl
theorem plp_ag {tx tx' : Int → Int} {len : Int} (h : ∀ j, 0 ≤ j → j < len → tx j = tx' j) : ∀ (f : Nat) (s : Int) (D : DD), 0 ≤ s → plp tx len f s D = plp tx' len f s D
  | 0, _, _, _ => rfl
  | f + 1, s, D, h0 => by
    unfold plp
    split
    · rename_i hs
      rw [ptm_ag h h0 hs, h s h0 hs]
      split
      · rfl
      · rename_i q hq
        split
        · rfl
        · have := ptm_in hq
          exact plp_ag h f _ _ (by omega)
    · rfl
