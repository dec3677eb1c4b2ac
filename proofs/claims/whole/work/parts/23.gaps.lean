/-! GAPS: which bins touch -/
abbrev tch (k n i j : Int) : Prop := (k = 1 ∧ (j = i + 1 ∨ (i = 0 ∧ j = n - 1))) ∨ (k = 2 ∧ ((j = i + 1 ∧ j ≠ (n + 1) / 2) ∨ (i < (n + 1) / 2 ∧ j = (n + 1) / 2 + i))) ∨ (k ≠ 1 ∧ k ≠ 2 ∧ j = i + 1)
def rowG (k n i : Int) : Nat → List (Int × Int)
  | 0 => []
  | m + 1 => rowG k n i m ++ (if tch k n i (i + 1 + m) then [(i, i + 1 + m)] else [])
def allG (k n : Int) : Nat → List (Int × Int)
  | 0 => []
  | i + 1 => allG k n i ++ rowG k n i (n - i - 1).toNat
def gl (k n : Int) : List (Int × Int) := allG k n n.toNat
theorem gl_len : ∀ (n : Fin 9) (k : Fin 3), (gl k.val n.val).length ≤ 10 := by decide +kernel
theorem rowG_mono {k n i : Int} {m : Nat} : ∀ j : Nat, (rowG k n i m).length ≤ (rowG k n i (m + j)).length
  | 0 => Nat.le_refl _
  | j + 1 => by
    have h1 := rowG_mono (k := k) (n := n) (i := i) (m := m) j
    show _ ≤ (rowG k n i (m + j) ++ _).length
    rw [List.length_append]
    omega
theorem allG_mono {k n : Int} {i : Nat} : ∀ j : Nat, (allG k n i).length ≤ (allG k n (i + j)).length
  | 0 => Nat.le_refl _
  | j + 1 => by
    have h1 := allG_mono (k := k) (n := n) (i := i) j
    show _ ≤ (allG k n (i + j) ++ _).length
    rw [List.length_append]
    omega
theorem gl_le {k n : Int} (hk : 0 ≤ k ∧ k ≤ 2) (hn : 0 ≤ n ∧ n ≤ 8) : (gl k n).length ≤ 10 := by
  have := gl_len ⟨n.toNat, by omega⟩ ⟨k.toNat, by omega⟩
  dsimp only at this
  rwa [show ((k.toNat : Nat) : Int) = k by omega, show ((n.toNat : Nat) : Int) = n by omega] at this
theorem pre_le {k n : Int} {i m : Nat} (hk : 0 ≤ k ∧ k ≤ 2) (hn : 0 ≤ n ∧ n ≤ 8) (hi : (i : Int) < n) (hm : (m : Int) ≤ n - i - 1) : (allG k n i ++ rowG k n i m).length ≤ 10 := by
  have h1 := gl_le hk hn
  have h2 := rowG_mono (k := k) (n := n) (i := i) (m := m) ((n - i - 1).toNat - m)
  rw [show m + ((n - i - 1).toNat - m) = (n - i - 1).toNat by omega] at h2
  have h3 := allG_mono (k := k) (n := n) (i := i + 1) (n.toNat - (i + 1))
  rw [show i + 1 + (n.toNat - (i + 1)) = n.toNat by omega] at h3
  have h4 : (allG k n (i + 1)).length = (allG k n i).length + (rowG k n i (n - i - 1).toNat).length := by rw [allG, List.length_append]
  unfold gl at h1
  rw [List.length_append]
  omega
theorem rowG_in {k n i : Int} : ∀ (m : Nat) (q : Int × Int), q ∈ rowG k n i m → q.1 = i ∧ i < q.2 ∧ q.2 < i + 1 + m
  | 0, q, h => by simp [rowG] at h
  | m + 1, q, h => by
    rw [rowG] at h
    rcases List.mem_append.mp h with h | h
    · have := rowG_in m q h
      omega
    · split at h
      · rw [List.mem_singleton] at h
        subst h
        exact ⟨rfl, by show i < i + 1 + (m : Int); omega, by show i + 1 + (m : Int) < i + 1 + ((m + 1 : Nat) : Int); omega⟩
      · simp at h
theorem allG_in {k n : Int} : ∀ (i : Nat) (q : Int × Int), (i : Int) ≤ n → q ∈ allG k n i → 0 ≤ q.1 ∧ q.1 < q.2 ∧ q.2 < n
  | 0, q, _, h => by simp [allG] at h
  | i + 1, q, hi, h => by
    rw [allG] at h
    rcases List.mem_append.mp h with h | h
    · exact allG_in i q (by omega) h
    · have := rowG_in _ q h
      omega
theorem gl_in {k n : Int} (hn : 0 ≤ n) {i : Nat} (hi : i < (gl k n).length) : 0 ≤ ((gl k n).getD i (0, 0)).1 ∧ ((gl k n).getD i (0, 0)).1 < ((gl k n).getD i (0, 0)).2 ∧ ((gl k n).getD i (0, 0)).2 < n := by
  have h1 : (gl k n).getD i (0, 0) = (gl k n)[i] := by simp [List.getD_eq_getElem?_getD, hi]
  rw [h1]
  exact allG_in n.toNat _ (by omega) (List.getElem_mem hi)
/-- whether there is a wall between two bins -/
def hwl (ws : List (Int × Int)) (i j : Int) : Bool := ws.any (fun q => decide ((q.1 = i ∧ q.2 = j) ∨ (q.1 = j ∧ q.2 = i)))
def hwi (ws : List (Int × Int)) (i j : Int) : Int := if hwl ws i j = true then 1 else 0
theorem hwl_iff {ws : List (Int × Int)} {i j : Int} : hwl ws i j = true ↔ ∃ k : Nat, k < ws.length ∧ (((ws.getD k (0, 0)).1 = i ∧ (ws.getD k (0, 0)).2 = j) ∨ ((ws.getD k (0, 0)).1 = j ∧ (ws.getD k (0, 0)).2 = i)) := by
  unfold hwl
  rw [List.any_eq_true]
  constructor
  · rintro ⟨q, hq, h⟩
    obtain ⟨k, hk⟩ := List.getElem?_of_mem hq
    have hl := (List.getElem?_eq_some_iff.mp hk).1
    refine ⟨k, hl, ?_⟩
    have e : ws.getD k (0, 0) = q := by rw [List.getD_eq_getElem?_getD, hk]; rfl
    rw [e]
    simpa using h
  · rintro ⟨k, hk, h⟩
    have e : ws.getD k (0, 0) = ws[k] := by simp [List.getD_eq_getElem?_getD, hk]
    rw [e] at h
    exact ⟨ws[k], List.getElem_mem hk, by simpa using h⟩
def bD (D : DD) : BB := ((dB D).length, (gl (dK D) (dB D).length).length, dV D, (fun k => ((gl (dK D) (dB D).length).getD k.toNat (0, 0)).1), (fun k => ((gl (dK D) (dB D).length).getD k.toNat (0, 0)).2), (fun k => hwi (dW D) ((gl (dK D) (dB D).length).getD k.toNat (0, 0)).1 ((gl (dK D) (dB D).length).getD k.toNat (0, 0)).2), (fun x => ((dB D).getD x.toNat (0, 0)).2))
theorem bD_wf {D : DD} (hw : wfD D) (h0 : 1 ≤ (dB D).length) : wfB (bD D) := by
  obtain ⟨⟨w1, w2⟩, w3, w4, w5, w6⟩ := hw
  have hg := gl_le (k := dK D) (n := (dB D).length) w3 ⟨by omega, by omega⟩
  refine ⟨⟨?_, ?_⟩, ⟨?_, ?_⟩, w5, fun k q0 q1 => ⟨?_, ?_⟩, fun x q0 q1 => ?_⟩
  · show (1 : Int) ≤ (dB D).length; omega
  · show ((dB D).length : Int) ≤ 8; omega
  · show (0 : Int) ≤ (gl (dK D) (dB D).length).length; omega
  · show ((gl (dK D) (dB D).length).length : Int) ≤ 10; omega
  · have q1 : k < ((gl (dK D) (dB D).length).length : Int) := q1
    have := gl_in (k := dK D) (n := (dB D).length) (by omega) (i := k.toNat) (by omega)
    exact this
  · show hwi _ _ _ = 0 ∨ hwi _ _ _ = 1
    unfold hwi
    split
    · exact Or.inr rfl
    · exact Or.inl rfl
  · have q1 : x < ((dB D).length : Int) := q1
    exact (w2 x.toNat (by omega)).2
def sn_D (l : LV) (D : DD) : LV := (qlen l, qtx l, bD D, dR D, (dW D).length, (dC D).length, (fun c => ((dC D).getD c.toNat (0, 0)).1), (fun c => ((dC D).getD c.toNat (0, 0)).2), (fun x => ((dB D).getD x.toNat (0, 0)).1), 0, 0, z0, z0, 0, 0)
abbrev pz (l : LV) : Int × DD := parse (qtx l) (qlen l)
def sp_fault (l : LV) : Int := (pz l).1
abbrev okl (l : LV) : Prop := (pz l).1 = -4 ∧ (dB (pz l).2).length ≠ 0
def sp_lay (l : LV) : Int := if okl l then (dB (pz l).2).length else -2
def sn_lay (l : LV) : LV := if okl l then sn_D l (pz l).2 else l
theorem pz_ag {N : Int} {l l' : LV} (ha : AgV l l') (hw : WV N l') : pz l = pz l' := by
  have h1 := ha.1
  have h2 := ha.2.1
  have hl := hw.1
  unfold pz parse
  rw [h1]
  exact plp_ag (fun j q0 q1 => h2 j q0 (by omega)) 300 0 D0 (by omega)
theorem lay_ag {N : Int} {l l' : LV} (ha : AgV l l') (hw : WV N l') : sp_fault l = sp_fault l' ∧ sp_lay l = sp_lay l' ∧ AgV (sn_lay l) (sn_lay l') := by
  have h1 := pz_ag ha hw
  unfold sp_fault sp_lay sn_lay okl
  rw [h1]
  refine ⟨rfl, rfl, ?_⟩
  split
  · exact ⟨ha.1, ha.2.1, agB_rf _, rfl, rfl, rfl, fun _ _ _ => ⟨rfl, rfl⟩, eqN_rf _ _, rfl, rfl, fun _ => ⟨eqN_rf _ _, rfl⟩, fun _ => ⟨eqN_rf _ _, rfl⟩⟩
  · exact ha
theorem lay_W {N : Int} {l : LV} (hw : WV N l) (hN : 0 ≤ N) : WV N (sn_lay l) := by
  unfold sn_lay
  split
  · rename_i hc
    have hd : wfD (pz l).2 := plp_wf 300 0 D0 D0_wf
    have h0 := hc.2
    obtain ⟨⟨w1, w2⟩, w3, w4, w5, ⟨w6, w7⟩, w8, w9⟩ := id hd
    refine ⟨hw.1, hw.2.1, bD_wf hd (by omega), w4, ⟨?_, ?_⟩, ⟨⟨?_, ?_⟩, fun c q0 q1 => ?_⟩, fun x q0 q1 => ?_, ⟨?_, ?_⟩, ⟨?_, ?_⟩, fun q => ?_, fun q => ?_⟩
    · show (0 : Int) ≤ (dW (pz l).2).length; omega
    · show ((dW (pz l).2).length : Int) ≤ 8; omega
    · show (0 : Int) ≤ (dC (pz l).2).length; omega
    · show ((dC (pz l).2).length : Int) ≤ 4; omega
    · have q1 : c < ((dC (pz l).2).length : Int) := q1
      obtain ⟨p1, p2, p3⟩ := w9 c.toNat (by omega)
      refine ⟨p1, p2, fun c' g0 g1 => ?_⟩
      have g1 : c' < ((dC (pz l).2).length : Int) := g1
      exact p3 c'.toNat (by omega) (by omega)
    · have q1 : x < ((dB (pz l).2).length : Int) := q1
      have := (w2 x.toNat (by omega)).1
      show 0 ≤ ((dB (pz l).2).getD x.toNat (0, 0)).1 ∧ ((dB (pz l).2).getD x.toNat (0, 0)).1 ≤ 199
      omega
    · show (0 : Int) ≤ 0; omega
    · exact hN
    · show (0 : Int) ≤ 0; omega
    · show (0 : Int) ≤ 2; omega
    · exact absurd q (by show ¬ (0 : Int) < 0; omega)
    · exact absurd q (by show ¬ (1 : Int) < 0; omega)
  · exact hw
/-! the class joins its bins -/
theorem c_touch {d : Nat} {P : Int → HP → Prop} {i j : Int} {h : HP} (hn : 1 ≤ h 14 2 ∧ h 14 2 ≤ 8) (hk : 0 ≤ h 14 3 ∧ h 14 3 ≤ 2) (hi : 0 ≤ i ∧ i < j ∧ j < h 14 2) (h1 : tch (h 14 3) (h 14 2) i j → P 1 h) (h0 : ¬ tch (h 14 3) (h 14 2) i j → P 0 h) : Ct KX d mX0_touch [aR 14, aI i, aI j] h (rI P) := by
  have one : ∀ x3 x4 : Int, tch (h 14 3) (h 14 2) i j → V KX d mX0_touch 87 [some (aR 14), some (aI i), some (aI j), some (aI x3), some (aI x4)] [] h (rI P) := fun x3 x4 z => v_X0_touch_14_87 i j x3 x4 h ⟨by omega, h1 z⟩
  have two : h 14 3 = 2 → ¬ (j = i + 1 ∧ j ≠ (h 14 2 + 1) / 2) → ∀ x3 : Int, V KX d mX0_touch 73 [some (aR 14), some (aI i), some (aI j), some (aI x3), some (aI ((h 14 2 + 1) / 2))] [] h (rI P) := fun z z2 x3 =>
    v_X0_touch_14_73 i j x3 _ h ⟨⟨⟨by omega, by omega⟩, ⟨by omega, by omega⟩⟩, fun q => ⟨by omega, h0 (by omega)⟩, fun q => ⟨⟨⟨by omega, by omega⟩, ⟨by omega, by omega⟩⟩, fun q2 => ⟨by omega, h0 (by omega)⟩, fun q2 => one _ _ (by omega)⟩⟩
  have mid : ∀ s : Int, (s = 0 ∧ j ≠ i + 1) ∨ (s = 1 ∧ j = i + 1) → V KX d mX0_touch 12 [some (aR 14), some (aI i), some (aI j), none, none] [aI s] h (rI P) := by
    intro s hs
    refine v_X0_touch_14_12 i j s h ⟨⟨⟨by omega, by omega⟩, by decide⟩, fun q => ⟨⟨⟨by omega, by omega⟩, by decide⟩, fun q2 => ⟨by omega, ?_⟩, fun q2 => ⟨⟨by omega, ⟨by omega, by omega⟩, by decide, by decide⟩, ⟨by omega, by omega⟩, fun q3 => two q2 (by omega) _, fun q3 => ⟨⟨⟨by omega, by omega⟩, ⟨by omega, by omega⟩⟩, fun q4 => one _ _ (by omega), fun q4 => two q2 (by omega) _⟩⟩⟩, fun q => ⟨⟨by omega, by omega⟩, fun q2 => v_X0_touch_14_39 i j _ h ⟨by omega, h1 (by omega)⟩, fun q2 => ⟨⟨by omega, by omega⟩, fun q3 => ⟨by omega, h0 (by omega)⟩, fun q3 => ⟨⟨⟨by omega, by omega⟩, ⟨by omega, by omega⟩⟩, fun q4 => ⟨by omega, h0 (by omega)⟩, fun q4 => v_X0_touch_14_39 i j _ h ⟨by omega, h1 (by omega)⟩⟩⟩⟩⟩
    rcases hs with ⟨rfl, hs⟩ | ⟨rfl, hs⟩
    · exact h0 (by omega)
    · exact h1 (by omega)
  exact e_X0_touch_14 i j h ⟨⟨⟨by omega, by omega⟩, ⟨by omega, by omega⟩⟩, fun q => mid 0 (Or.inl ⟨rfl, q⟩), fun q => mid 1 (Or.inr ⟨rfl, q⟩)⟩
theorem c_hasWall {d : Nat} {P : Int → HP → Prop} {i j : Int} {ws : List (Int × Int)} {h : HP} (hl : h 14 8 = ws.length) (hl8 : ws.length ≤ 8) (hr : ∀ k : Nat, k < ws.length → h 17 k = (ws.getD k (0, 0)).1 ∧ h 18 k = (ws.getD k (0, 0)).2) (hin : ∀ k : Nat, k < ws.length → (0 ≤ (ws.getD k (0, 0)).1 ∧ (ws.getD k (0, 0)).1 < 8) ∧ (0 ≤ (ws.getD k (0, 0)).2 ∧ (ws.getD k (0, 0)).2 < 8)) (hi : 0 ≤ i ∧ i < j ∧ j < 8) (hP : P (hwi ws i j) h) : Ct KX (d + 1) mX0_hasWall [aR 14, aI i, aI j] h (rI P) := by
  refine e_X0_hasWall_14 i j h ?_
  have key : ∀ (m k : Nat), k + m = ws.length → (∀ t : Nat, t < k → ¬ (((ws.getD t (0, 0)).1 = i ∧ (ws.getD t (0, 0)).2 = j) ∨ ((ws.getD t (0, 0)).1 = j ∧ (ws.getD t (0, 0)).2 = i))) → V KX (d + 1) mX0_hasWall 2 [some (aR 14), some (aI i), some (aI j), some (aI k)] [] h (rI P) := by
    intro m
    induction m with
    | zero =>
      intro k hk hno
      refine v_X0_hasWall_14_2 i j k h ⟨⟨⟨by omega, by omega⟩, ⟨by omega, by omega⟩⟩, fun _ => ⟨by omega, cP hP ?_⟩, fun q => absurd q (by omega)⟩
      unfold hwi
      rw [if_neg]
      intro z
      obtain ⟨t, ht, hz⟩ := hwl_iff.mp z
      exact hno t (by omega) hz
    | succ m ih =>
      intro k hk hno
      have e := hr k (by omega)
      have f := hin k (by omega)
      have next : ¬ (((ws.getD k (0, 0)).1 = i ∧ (ws.getD k (0, 0)).2 = j) ∨ ((ws.getD k (0, 0)).1 = j ∧ (ws.getD k (0, 0)).2 = i)) → V KX (d + 1) mX0_hasWall 50 [some (aR 14), some (aI i), some (aI j), some (aI k)] [] h (rI P) := fun z =>
        v_X0_hasWall_14_50 i j k h (ih (k + 1) (by omega) (fun t ht => by
          by_cases e2 : t = k
          · subst e2; exact z
          · exact hno t (by omega)))
      refine v_X0_hasWall_14_2 i j k h ⟨⟨⟨by omega, by omega⟩, ⟨by omega, by omega⟩⟩, fun q => absurd q (by omega), fun _ => ⟨by omega, by omega, ⟨⟨by omega, by omega⟩, ⟨by omega, by omega⟩⟩, ⟨⟨by omega, by omega⟩, ⟨by omega, by omega⟩⟩, fun q => next (by omega), fun q => ⟨by omega, by omega, ⟨⟨by omega, by omega⟩, ⟨by omega, by omega⟩⟩, ⟨⟨by omega, by omega⟩, ⟨by omega, by omega⟩⟩, fun q2 => next (by omega), fun q2 => ⟨by omega, cP hP ?_⟩⟩⟩⟩
      unfold hwi
      rw [if_pos]
      exact hwl_iff.mpr ⟨k, by omega, by omega⟩
  exact key ws.length 0 (by omega) (fun t ht => absurd ht (by omega))
def rpG (h : HP) (L : List (Int × Int)) (ws : List (Int × Int)) : Prop := h 14 15 = L.length ∧ ∀ k : Nat, k < L.length → h 21 k = (L.getD k (0, 0)).1 ∧ h 22 k = (L.getD k (0, 0)).2 ∧ h 23 k = hwi ws (L.getD k (0, 0)).1 (L.getD k (0, 0)).2
theorem c_join {d : Nat} {P : HP → Prop} {D : DD} {h : HP} (hr : rpX 14 h D) (hw : wfD D) (h1 : 1 ≤ (dB D).length) (hP : ∀ h', (∀ a, a ≠ 14 → a ≠ 21 → a ≠ 22 → a ≠ 23 → h' a = h a) → (∀ i, i ≠ 15 → h' 14 i = h 14 i) → rpG h' (gl (dK D) (dB D).length) (dW D) → P h') : Ct KX (d + 2) mX0_joinBins [aR 14] h (rV P) := by
  obtain ⟨r1, r2, r3, r4, r5, r6, r7, r8, r9⟩ := hr
  obtain ⟨⟨w1, w2⟩, w3, w4, w5, ⟨w6, w7⟩, w8, w9⟩ := hw
  refine e_X0_joinBins_14 h ?_
  have inner : ∀ (i : Nat), (i : Int) < (dB D).length → (∀ g : HP, (∀ a, a ≠ 14 → a ≠ 21 → a ≠ 22 → a ≠ 23 → g a = h a) → (∀ i, i ≠ 15 → g 14 i = h 14 i) → rpG g (allG (dK D) (dB D).length (i + 1)) (dW D) → V KX (d + 2) mX0_joinBins 7 [some (aR 14), some (aI ((i : Int) + 1)), none] [] g (rV P)) →
      ∀ (t m : Nat) (g : HP), m + t = ((dB D).length - i - 1 : Int).toNat → (∀ a, a ≠ 14 → a ≠ 21 → a ≠ 22 → a ≠ 23 → g a = h a) → (∀ i, i ≠ 15 → g 14 i = h 14 i) → rpG g (allG (dK D) (dB D).length i ++ rowG (dK D) (dB D).length i m) (dW D) → V KX (d + 2) mX0_joinBins 19 [some (aR 14), some (aI i), some (aI ((i : Int) + 1 + m))] [] g (rV P) := by
    intro i hi hout t
    induction t with
    | zero =>
      intro m g hm ha h14 hG
      have e2 : g 14 2 = (dB D).length := by rw [h14 2 (by decide)]; exact r1
      refine v_X0_joinBins_14_19 i _ g ⟨⟨⟨by omega, by omega⟩, by rw [e2]; exact ⟨by omega, by omega⟩⟩, fun _ => hout g ha h14 ?_, fun q => absurd q (by rw [e2]; omega)⟩
      rw [allG, show (((dB D).length : Int) - i - 1).toNat = m by omega]
      exact hG
    | succ t ih =>
      intro m g hm ha h14 hG
      have e2 : g 14 2 = (dB D).length := by rw [h14 2 (by decide)]; exact r1
      have e3 : g 14 3 = dK D := by rw [h14 3 (by decide)]; exact r2
      have hpre := pre_le (k := dK D) (n := (dB D).length) (i := i) (m := m + 1) w3 ⟨by omega, by omega⟩ hi (by omega)
      rw [rowG] at hpre
      have next : ∀ g2 : HP, (∀ a, a ≠ 14 → a ≠ 21 → a ≠ 22 → a ≠ 23 → g2 a = h a) → (∀ i, i ≠ 15 → g2 14 i = h 14 i) → rpG g2 (allG (dK D) (dB D).length i ++ rowG (dK D) (dB D).length i (m + 1)) (dW D) → V KX (d + 2) mX0_joinBins 90 [some (aR 14), some (aI i), some (aI ((i : Int) + 1 + m))] [] g2 (rV P) := fun g2 a1 a2 a3 => by
        refine v_X0_joinBins_14_90 i _ g2 ?_
        have := ih (m + 1) g2 (by omega) a1 a2 a3
        rwa [show (i : Int) + 1 + ((m + 1 : Nat) : Int) = (i : Int) + 1 + m + 1 by omega] at this
      refine v_X0_joinBins_14_19 i _ g ⟨⟨⟨by omega, by omega⟩, by rw [e2]; exact ⟨by omega, by omega⟩⟩, fun q => absurd q (by rw [e2]; omega), fun _ => c_touch (by rw [e2]; omega) (by rw [e3]; exact w3) (by rw [e2]; omega) (fun hT => ?_) (fun hT => ?_)⟩
      · rw [e2, e3] at hT
        rw [if_pos hT, ← List.append_assoc, List.length_append] at hpre
        have hlen : (allG (dK D) (dB D).length i ++ rowG (dK D) (dB D).length i m).length < 10 := by
          simp only [List.length_singleton] at hpre
          omega
        have eL := hG.1
        refine ⟨by decide, fun q => absurd q (by decide), fun _ => ⟨⟨by rw [eL]; exact ⟨by omega, by omega⟩, by decide⟩, fun q => absurd q (by rw [eL]; omega), fun _ => ⟨by rw [eL]; omega, by rw [eL]; omega, ?_⟩⟩⟩
        have f : ∀ a, a ≠ 21 → a ≠ 22 → (hset (hset g 21 (g 14 15) i) 22 (g 14 15) ((i : Int) + 1 + m)) a = g a := fun a q1 q2 => by rw [hset_n q2, hset_n q1]
        refine c_hasWall (ws := dW D) (by rw [f 14 (by decide) (by decide), h14 8 (by decide)]; exact r5) w6 (fun k hk => by rw [f 17 (by decide) (by decide), f 18 (by decide) (by decide), ha 17 (by decide) (by decide) (by decide) (by decide), ha 18 (by decide) (by decide) (by decide) (by decide)]; exact r8 k hk) w7 (by omega) ?_
        have hwv : hwi (dW D) i ((i : Int) + 1 + m) = 0 ∨ hwi (dW D) i ((i : Int) + 1 + m) = 1 := by
          unfold hwi
          split
          · exact Or.inr rfl
          · exact Or.inl rfl
        refine ⟨⟨by rw [eL]; omega, by rw [eL]; omega, by omega, by omega⟩, next _ (fun a q1 q2 q3 q4 => ?_) (fun x hx => ?_) ⟨?_, fun k hk => ?_⟩⟩
        · rw [hset_n q1, hset_n q4, f a q2 q3]
          exact ha a q1 q2 q3 q4
        · rw [hset_m hx, hset_n (by decide), f 14 (by decide) (by decide)]
          exact h14 x hx
        · rw [hset_s, f 14 (by decide) (by decide), eL, rowG, if_pos hT, ← List.append_assoc, List.length_append]
          simp
          omega
        · rw [rowG, if_pos hT, ← List.append_assoc] at hk ⊢
          simp only [List.length_append, List.length_singleton] at hk
          by_cases e : k = (allG (dK D) (dB D).length i ++ rowG (dK D) (dB D).length i m).length
          · subst e
            rw [gd_at, ← eL]
            refine ⟨?_, ?_, ?_⟩
            · rw [hset_n (show (21 : Nat) ≠ 14 by decide), hset_n (show (21 : Nat) ≠ 23 by decide), hset_n (show (21 : Nat) ≠ 22 by decide), hset_s]
            · rw [hset_n (show (22 : Nat) ≠ 14 by decide), hset_n (show (22 : Nat) ≠ 23 by decide), hset_s]
            · rw [hset_n (show (23 : Nat) ≠ 14 by decide), hset_s]
          · have hk2 : k < (allG (dK D) (dB D).length i ++ rowG (dK D) (dB D).length i m).length := by
              simp only [List.length_append] at e ⊢
              omega
            have hne : ((k : Nat) : Int) ≠ g 14 15 := by rw [eL]; omega
            have h9 := hG.2 k hk2
            rw [gd_lt hk2]
            refine ⟨?_, ?_, ?_⟩
            · rw [hset_n (show (21 : Nat) ≠ 14 by decide), hset_n (show (21 : Nat) ≠ 23 by decide), hset_n (show (21 : Nat) ≠ 22 by decide), hset_m hne]
              exact h9.1
            · rw [hset_n (show (22 : Nat) ≠ 14 by decide), hset_n (show (22 : Nat) ≠ 23 by decide), hset_m hne, hset_n (show (22 : Nat) ≠ 21 by decide)]
              exact h9.2.1
            · rw [hset_n (show (23 : Nat) ≠ 14 by decide), hset_m hne, f 23 (by decide) (by decide)]
              exact h9.2.2
      · rw [e2, e3] at hT
        refine ⟨by decide, fun _ => next g ha h14 ?_, fun q => absurd rfl q⟩
        rw [rowG, if_neg hT, List.append_nil]
        exact hG
  have outer : ∀ (t i : Nat) (g : HP), i + t = (dB D).length → (∀ a, a ≠ 14 → a ≠ 21 → a ≠ 22 → a ≠ 23 → g a = h a) → (∀ i, i ≠ 15 → g 14 i = h 14 i) → rpG g (allG (dK D) (dB D).length i) (dW D) → V KX (d + 2) mX0_joinBins 7 [some (aR 14), some (aI i), none] [] g (rV P) := by
    intro t
    induction t with
    | zero =>
      intro i g hi ha h14 hG
      have e2 : g 14 2 = (dB D).length := by rw [h14 2 (by decide)]; exact r1
      refine v_X0_joinBins_14_7 i g ⟨⟨⟨by omega, by omega⟩, by rw [e2]; exact ⟨by omega, by omega⟩⟩, fun _ => hP g ha h14 ?_, fun q => absurd q (by rw [e2]; omega)⟩
      unfold gl
      rw [show ((dB D).length : Int).toNat = i by omega]
      exact hG
    | succ t ih =>
      intro i g hi ha h14 hG
      have e2 : g 14 2 = (dB D).length := by rw [h14 2 (by decide)]; exact r1
      refine v_X0_joinBins_14_7 i g ⟨⟨⟨by omega, by omega⟩, by rw [e2]; exact ⟨by omega, by omega⟩⟩, fun q => absurd q (by rw [e2]; omega), fun _ => ?_⟩
      have := inner i (by omega) (fun g2 a1 a2 a3 => ih (i + 1) g2 (by omega) a1 a2 a3) (((dB D).length - i - 1 : Int).toNat) 0 g (by omega) ha h14 (by rw [rowG, List.append_nil]; exact hG)
      rwa [show (i : Int) + 1 + ((0 : Nat) : Int) = (i : Int) + 1 by omega] at this
  refine outer (dB D).length 0 _ (by omega) (fun a q1 _ _ _ => hset_n q1) (fun i hi => hset_m hi) ⟨?_, fun k hk => absurd hk (by show ¬ k < 0; omega)⟩
  rw [hset_s]
  rfl
theorem c_enter {d : Nat} {P : HP → Prop} {h : HP} (hP : P (hset (hset (hcpy h 15 28 8) 0 7 0) 0 11 0)) : Ct KX (d + 2) mX10_enterBarn [aR 0] h (rV P) := e_X10_enterBarn h (c_copyBins (by decide) (by decide) hP)
theorem cz_keep {h h' : HP} (hz : cz h) (e : h' 25 = h 25) : cz h' := fun k q0 q1 => by rw [e]; exact hz k q0 q1
theorem x_fault {d : Nat} {P : Int → HP → Prop} {N : Int} {h : HP} (hW : WV N (vx h)) (hz : cz h) (hP : ∀ h', vx h' = vx h → cz h' → P (sp_fault (vx h)) h') : Ct KX (d + 4) mX10_fault [aR 0] h (rI P) := by
  refine e_X10_fault h (c_read4 hW.1 hW.2.1 (fun h' a1 _ => hP h' (vx_eq (fun a ha => a1 a (by omega) (by omega))) (cz_keep hz (a1 25 (by decide) (by decide)))))
theorem x_lay {d : Nat} {P : Int → HP → Prop} {N : Int} {h : HP} (hW : WV N (vx h)) (hz : cz h) (hP : ∀ h', AgV (vx h') (sn_lay (vx h)) → cz h' → P (sp_lay (vx h)) h') : Ct KX (d + 4) mX10_lay [aR 0] h (rI P) := by
  unfold sn_lay sp_lay at hP
  have hd : wfD (pz (vx h)).2 := plp_wf 300 0 D0 D0_wf
  have hpf := plp_fault (tx := h 1) (len := h 0 1) 300 0 D0 (by omega)
  have hl : 0 ≤ h 0 1 ∧ h 0 1 ≤ 300 := hW.1
  have hpe : pz (vx h) = parse (h 1) (h 0 1) := rfl
  refine e_X10_lay h (c_read4 hW.1 hW.2.1 (fun h1 a1 r1 => ?_))
  have hno : ¬ okl (vx h) → P (-2) h1 := fun hc => by
    have := hP h1 (by rw [if_neg hc]; exact AgV_of (vx_eq (fun a ha => a1 a (by omega) (by omega)))) (cz_keep hz (a1 25 (by decide) (by decide)))
    rw [if_neg hc] at this
    exact this
  have hR : iR (parse (h 1) (h 0 1)).1 := by
    unfold parse
    rcases hpf with e | e
    · rw [e]; decide
    · exact ⟨by omega, by omega⟩
  have e42 : h1 4 2 = (dB (pz (vx h)).2).length := r1.1
  have hb8 := hd.1.1
  refine ⟨⟨hR, by decide⟩, fun q => hno (fun z => q z.1), fun q => ⟨by rw [e42]; exact ⟨by omega, by omega⟩, fun q2 => ?_, fun q2 => hno (fun z => z.2 (by omega))⟩⟩
  have ok : okl (vx h) := ⟨q, by omega⟩
  rw [if_pos ok] at hP
  have e1 : h1 1 = h 1 := a1 1 (by decide) (by decide)
  have e0 : h1 0 = h 0 := a1 0 (by decide) (by decide)
  rw [e0]
  refine c_read14 hW.1 (by rw [e1]; exact hW.2.1) (fun h2 a2 r2 => ?_)
  rw [e1] at r2
  have ok2 := ok.2
  refine c_join (D := (pz (vx h)).2) r2 hd (by omega) (fun h3 a3 b3 r3 => c_enter ?_)
  have en : h3 14 2 = (dB (pz (vx h)).2).length := by rw [b3 2 (by decide)]; exact r2.1
  have f0 : h3 0 = h 0 := ((a3 0 (by decide) (by decide) (by decide) (by decide)).trans (a2 0 (by decide) (by decide))).trans e0
  have f1 : h3 1 = h 1 := ((a3 1 (by decide) (by decide) (by decide) (by decide)).trans (a2 1 (by decide) (by decide))).trans e1
  have f25 : h3 25 = h 25 := ((a3 25 (by decide) (by decide) (by decide) (by decide)).trans (a2 25 (by decide) (by decide))).trans (a1 25 (by decide) (by decide))
  obtain ⟨s1, s2, s3, s4, s5, s6, s7, s8, s9⟩ := r2
  have c : ∀ a, a ≠ 0 → a ≠ 28 → (hset (hset (hcpy h3 15 28 8) 0 7 0) 0 11 0) a = h3 a := fun a q1 q2 => by rw [hset_n q1, hset_n q1, hcpy_n q2]
  have c0 : ∀ i, i ≠ 7 → i ≠ 11 → (hset (hset (hcpy h3 15 28 8) 0 7 0) 0 11 0) 0 i = h 0 i := fun i q1 q2 => by rw [hset_m q2, hset_m q1, hcpy_n (by decide), f0]
  have c28 : ∀ x, 0 ≤ x → x < 8 → (hset (hset (hcpy h3 15 28 8) 0 7 0) 0 11 0) 28 x = h3 15 x := fun x q0 q1 => by rw [hset_n (by decide), hset_n (by decide), hcpy_s q0 q1]
  have c7 : (hset (hset (hcpy h3 15 28 8) 0 7 0) 0 11 0) 0 7 = 0 := by rw [hset_m (by decide), hset_s]
  have c11 : (hset (hset (hcpy h3 15 28 8) 0 7 0) 0 11 0) 0 11 = 0 := hset_s
  generalize hset (hset (hcpy h3 15 28 8) 0 7 0) 0 11 0 = h4 at c c0 c28 c7 c11
  have g14 : h4 14 = h3 14 := c 14 (by decide) (by decide)
  have u : ∀ a, a ≠ 14 → a ≠ 21 → a ≠ 22 → a ≠ 23 → a ≠ 0 → a ≠ 28 → h4 a = h2 a := fun a q1 q2 q3 q4 q5 q6 => (c a q5 q6).trans (a3 a q1 q2 q3 q4)
  have hP4 := hP h4 ?_ (cz_keep hz ((c 25 (by decide) (by decide)).trans f25))
  · rw [if_pos ok] at hP4
    rw [g14, en]
    exact hP4
  · refine ⟨c0 1 (by decide) (by decide), fun i _ _ => ?_, ⟨?_, ?_, ?_, fun k q0 q1 => ?_, fun x q0 q1 => ?_⟩, ?_, ?_, ?_, fun k q0 q1 => ?_, fun x q0 q1 => ?_, c7, c11, fun q => ?_, fun q => ?_⟩
    · show h4 1 i = h 1 i
      rw [c 1 (by decide) (by decide), f1]
    · show h4 14 2 = ((dB (pz (vx h)).2).length : Int)
      rw [g14]; exact en
    · show h4 14 15 = ((gl (dK (pz (vx h)).2) (dB (pz (vx h)).2).length).length : Int)
      rw [g14]; exact r3.1
    · show h4 14 5 = dV (pz (vx h)).2
      rw [g14, b3 5 (by decide)]; exact s4
    · have q1 : k < h4 14 15 := q1
      rw [g14, r3.1] at q1
      have := r3.2 k.toNat (by omega)
      rw [show ((k.toNat : Nat) : Int) = k by omega] at this
      refine ⟨?_, ?_, ?_⟩
      · show h4 21 k = _
        rw [c 21 (by decide) (by decide)]; exact this.1
      · show h4 22 k = _
        rw [c 22 (by decide) (by decide)]; exact this.2.1
      · show h4 23 k = _
        rw [c 23 (by decide) (by decide)]; exact this.2.2
    · have q1 : x < h4 14 2 := q1
      rw [g14, en] at q1
      have := (s7 x.toNat (show x.toNat < (dB (pz (vx h)).2).length by omega)).2
      rw [show ((x.toNat : Nat) : Int) = x by omega] at this
      show h4 16 x = _
      rw [u 16 (by decide) (by decide) (by decide) (by decide) (by decide) (by decide)]
      exact this
    · show h4 14 4 = dR (pz (vx h)).2
      rw [g14, b3 4 (by decide)]; exact s3
    · show h4 14 8 = ((dW (pz (vx h)).2).length : Int)
      rw [g14, b3 8 (by decide)]; exact s5
    · show h4 14 11 = ((dC (pz (vx h)).2).length : Int)
      rw [g14, b3 11 (by decide)]; exact s6
    · have q1 : k < h4 14 11 := q1
      rw [g14, b3 11 (by decide), s6] at q1
      have := s9 k.toNat (by omega)
      rw [show ((k.toNat : Nat) : Int) = k by omega] at this
      refine ⟨?_, ?_⟩
      · show h4 19 k = _
        rw [u 19 (by decide) (by decide) (by decide) (by decide) (by decide) (by decide)]; exact this.1
      · show h4 20 k = _
        rw [u 20 (by decide) (by decide) (by decide) (by decide) (by decide) (by decide)]; exact this.2
    · have q1 : x < h4 14 2 := q1
      rw [g14, en] at q1
      have := (s7 x.toNat (show x.toNat < (dB (pz (vx h)).2).length by omega)).1
      rw [show ((x.toNat : Nat) : Int) = x by omega] at this
      show h4 28 x = _
      rw [c28 x q0 (by omega), a3 15 (by decide) (by decide) (by decide) (by decide)]
      exact this
    · have q : 0 < h4 0 11 := q
      omega
    · have q : 1 < h4 0 11 := q
      omega
