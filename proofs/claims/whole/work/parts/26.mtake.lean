/-! the model: gaps, takes, fault, lay -/
theorem c_mtouch {d : Nat} {P : Int → HP → Prop} {i j : Int} {h : HP} (hn : 1 ≤ h 2 0 ∧ h 2 0 ≤ 8) (hk : 0 ≤ h 5 0 ∧ h 5 0 ≤ 2) (hi : 0 ≤ i ∧ i < j ∧ j < h 2 0) (h1 : tch (h 5 0) (h 2 0) i j → P 1 h) (h0 : ¬ tch (h 5 0) (h 2 0) i j → P 0 h) : Ct KM d mX11_touch [aR 0, aI i, aI j] h (rI P) := by
  have o69 : ∀ x3 x4 : Int, tch (h 5 0) (h 2 0) i j → V KM d mX11_touch 69 [some (aR 0), some (aI i), some (aI j), some (aI x3), some (aI x4)] [] h (rI P) := fun x3 x4 z => v_X11_touch_69 i j x3 x4 h ⟨by omega, h1 z⟩
  have o102 : ∀ x3 x4 : Int, tch (h 5 0) (h 2 0) i j → V KM d mX11_touch 102 [some (aR 0), some (aI i), some (aI j), some (aI x3), some (aI x4)] [] h (rI P) := fun x3 x4 z => v_X11_touch_102 i j x3 x4 h ⟨by omega, h1 z⟩
  have o88 : ∀ x3 : Int, h 5 0 = 2 → ¬ (j = i + 1 ∧ j ≠ (h 2 0 + 1) / 2) → V KM d mX11_touch 88 [some (aR 0), some (aI i), some (aI j), some (aI x3), some (aI ((h 2 0 + 1) / 2))] [] h (rI P) := fun x3 z z2 =>
    v_X11_touch_88 i j x3 _ h ⟨⟨⟨by omega, by omega⟩, ⟨by omega, by omega⟩⟩, fun q => ⟨by omega, h0 (by omega)⟩, fun q => ⟨⟨⟨by omega, by omega⟩, ⟨by omega, by omega⟩⟩, fun q2 => ⟨by omega, h0 (by omega)⟩, fun q2 => o102 _ _ (by omega)⟩⟩
  exact e_X11_touch i j h ⟨by omega, ⟨by omega, ⟨by omega, by omega⟩, by decide, by decide⟩, by omega, ⟨by omega, by omega⟩,
    fun q => ⟨by omega, ⟨⟨by omega, by omega⟩, by decide⟩, fun q2 => ⟨⟨⟨by omega, by omega⟩, ⟨by omega, by omega⟩⟩, fun q3 => o88 _ (by omega) (by omega), fun q3 => ⟨⟨⟨by omega, by omega⟩, ⟨by omega, by omega⟩⟩, fun q4 => o102 _ _ (by omega), fun q4 => o88 _ (by omega) (by omega)⟩⟩,
      fun q2 => ⟨⟨⟨by omega, by omega⟩, ⟨by omega, by omega⟩⟩, fun q3 => o69 _ _ (by omega), fun q3 => ⟨⟨⟨by omega, by omega⟩, by decide⟩, fun q4 => ⟨by omega, h0 (by omega)⟩, fun q4 => ⟨⟨by omega, by omega⟩, fun q5 => ⟨by omega, h0 (by omega)⟩, fun q5 => ⟨⟨⟨by omega, by omega⟩, ⟨by omega, by omega⟩⟩, fun q6 => ⟨by omega, h0 (by omega)⟩, fun q6 => o69 _ _ (by omega)⟩⟩⟩⟩⟩,
    fun q => ⟨⟨⟨by omega, by omega⟩, ⟨by omega, by omega⟩⟩, fun q2 => ⟨by omega, h0 (by omega)⟩, fun q2 => ⟨by omega, h1 (by omega)⟩⟩⟩
theorem c_isShut {d : Nat} {P : Int → HP → Prop} {i j : Int} {ws : List (Int × Int)} {h : HP} (hl : h 6 0 = ws.length) (hl8 : ws.length ≤ 8) (hr : ∀ k : Nat, k < ws.length → h 7 (2 * k) = (ws.getD k (0, 0)).1 ∧ h 7 (2 * k + 1) = (ws.getD k (0, 0)).2) (hin : ∀ k : Nat, k < ws.length → (0 ≤ (ws.getD k (0, 0)).1 ∧ (ws.getD k (0, 0)).1 < 8) ∧ (0 ≤ (ws.getD k (0, 0)).2 ∧ (ws.getD k (0, 0)).2 < 8)) (hi : 0 ≤ i ∧ i < j ∧ j < 8) (hP : P (hwi ws i j) h) : Ct KM d mX11_isShut [aR 0, aI i, aI j] h (rI P) := by
  refine e_X11_isShut i j h ?_
  have key : ∀ (m k : Nat) (s : Int), k + m = ws.length → (s = 1 ∧ hwl ws i j = true ∨ s = 0 ∧ (∀ t : Nat, t < k → ¬ (((ws.getD t (0, 0)).1 = i ∧ (ws.getD t (0, 0)).2 = j) ∨ ((ws.getD t (0, 0)).1 = j ∧ (ws.getD t (0, 0)).2 = i)))) → V KM d mX11_isShut 5 [some (aR 0), some (aI i), some (aI j), some (aI s), some (aI k)] [] h (rI P) := by
    intro m
    induction m with
    | zero =>
      intro k s hk hs
      refine v_X11_isShut_5 i j s k h ⟨by omega, ⟨⟨by omega, by omega⟩, ⟨by omega, by omega⟩⟩, fun _ => ⟨by omega, cP hP ?_⟩, fun q => absurd q (by omega)⟩
      unfold hwi
      rcases hs with ⟨hs, z⟩ | ⟨hs, hno⟩
      · rw [if_pos z, hs]
      · rw [if_neg, hs]
        intro z
        obtain ⟨t, ht, hz⟩ := hwl_iff.mp z
        exact hno t (by omega) hz
    | succ m ih =>
      intro k s hk hs
      have e := hr k (by omega)
      have f := hin k (by omega)
      have yes : hwl ws i j = true → V KM d mX11_isShut 76 [some (aR 0), some (aI i), some (aI j), some (aI s), some (aI k)] [] h (rI P) := fun z =>
        v_X11_isShut_76 i j s k h (v_X11_isShut_81 i j s k 1 h (ih (k + 1) 1 (by omega) (Or.inl ⟨rfl, z⟩)))
      have at' : (((ws.getD k (0, 0)).1 = i ∧ (ws.getD k (0, 0)).2 = j) ∨ ((ws.getD k (0, 0)).1 = j ∧ (ws.getD k (0, 0)).2 = i)) → hwl ws i j = true := fun z => hwl_iff.mpr ⟨k, by omega, z⟩
      refine v_X11_isShut_5 i j s k h ⟨by omega, ⟨⟨by omega, by omega⟩, ⟨by omega, by omega⟩⟩, fun q => absurd q (by omega), fun _ => ⟨⟨by omega, by omega⟩, fun q => yes ?_, fun q => ?_⟩⟩
      · rcases hs with ⟨_, z⟩ | ⟨hs, _⟩
        · exact z
        · exact absurd hs q
      · have hno : ∀ t : Nat, t < k → ¬ (((ws.getD t (0, 0)).1 = i ∧ (ws.getD t (0, 0)).2 = j) ∨ ((ws.getD t (0, 0)).1 = j ∧ (ws.getD t (0, 0)).2 = i)) := by
          rcases hs with ⟨hs, _⟩ | ⟨_, hno⟩
          · omega
          · exact hno
        have no80 : ¬ (((ws.getD k (0, 0)).1 = i ∧ (ws.getD k (0, 0)).2 = j) ∨ ((ws.getD k (0, 0)).1 = j ∧ (ws.getD k (0, 0)).2 = i)) → V KM d mX11_isShut 80 [some (aR 0), some (aI i), some (aI j), some (aI s), some (aI k)] [] h (rI P) := fun z =>
          v_X11_isShut_80 i j s k h (v_X11_isShut_81 i j s k 0 h (ih (k + 1) 0 (by omega) (Or.inr ⟨rfl, fun t ht => by
            by_cases e2 : t = k
            · subst e2; exact z
            · exact hno t (by omega)⟩)))
        have n48 : ¬ ((ws.getD k (0, 0)).1 = i ∧ (ws.getD k (0, 0)).2 = j) → V KM d mX11_isShut 48 [some (aR 0), some (aI i), some (aI j), some (aI s), some (aI k)] [] h (rI P) := fun z =>
          v_X11_isShut_48 i j s k h ⟨by omega, ⟨⟨by omega, by omega⟩, ⟨by omega, by omega⟩⟩, fun q2 => no80 (by omega), fun q2 => ⟨by omega, ⟨⟨by omega, by omega⟩, ⟨by omega, by omega⟩⟩, fun q3 => no80 (by omega), fun q3 => yes (at' (by omega))⟩⟩
        exact ⟨by omega, ⟨⟨by omega, by omega⟩, ⟨by omega, by omega⟩⟩, fun q2 => n48 (by omega), fun q2 => ⟨by omega, ⟨⟨by omega, by omega⟩, ⟨by omega, by omega⟩⟩, fun q3 => yes (at' (by omega)), fun q3 => n48 (by omega)⟩⟩
  exact key ws.length 0 0 (by omega) (Or.inr ⟨rfl, fun t ht => absurd ht (by omega)⟩)
def rpN (h : HP) (L : List (Int × Int)) (ws : List (Int × Int)) : Prop := h 0 11 = L.length ∧ ∀ k : Nat, k < L.length → h 10 k = (L.getD k (0, 0)).1 ∧ h 11 k = (L.getD k (0, 0)).2 ∧ h 12 k = hwi ws (L.getD k (0, 0)).1 (L.getD k (0, 0)).2
theorem c_mjoin {d : Nat} {P : HP → Prop} {D : DD} {h : HP} (r1 : h 2 0 = (dB D).length) (r2 : h 5 0 = dK D) (r5 : h 6 0 = (dW D).length) (r8 : ∀ k : Nat, k < (dW D).length → h 7 (2 * k) = ((dW D).getD k (0, 0)).1 ∧ h 7 (2 * k + 1) = ((dW D).getD k (0, 0)).2) (hw : wfD D) (h1 : 1 ≤ (dB D).length)
    (hP : ∀ h', (∀ a, a ≠ 0 → a ≠ 10 → a ≠ 11 → a ≠ 12 → h' a = h a) → (∀ i, i ≠ 11 → i ≠ 15 → i ≠ 17 → i ≠ 18 → h' 0 i = h 0 i) → h' 0 15 = 0 → h' 0 17 = 0 → h' 0 18 = 0 → rpN h' (gl (dK D) (dB D).length) (dW D) → P h') : V KM (d + 1) mX11_takes 154 [some (aR 0), some (aI 0), none] [] (hset h 0 11 0) (rV P) := by
  obtain ⟨⟨w1, w2⟩, w3, w4, w5, ⟨w6, w7⟩, w8, w9⟩ := hw
  have inner : ∀ (i : Nat), (i : Int) < (dB D).length → (∀ g : HP, (∀ a, a ≠ 0 → a ≠ 10 → a ≠ 11 → a ≠ 12 → g a = h a) → (∀ i, i ≠ 11 → g 0 i = h 0 i) → rpN g (allG (dK D) (dB D).length (i + 1)) (dW D) → V KM (d + 1) mX11_takes 154 [some (aR 0), some (aI ((i : Int) + 1)), none] [] g (rV P)) →
      ∀ (t m : Nat) (g : HP), m + t = ((dB D).length - i - 1 : Int).toNat → (∀ a, a ≠ 0 → a ≠ 10 → a ≠ 11 → a ≠ 12 → g a = h a) → (∀ i, i ≠ 11 → g 0 i = h 0 i) → rpN g (allG (dK D) (dB D).length i ++ rowG (dK D) (dB D).length i m) (dW D) → V KM (d + 1) mX11_takes 168 [some (aR 0), some (aI i), some (aI ((i : Int) + 1 + m))] [] g (rV P) := by
    intro i hi hout t
    induction t with
    | zero =>
      intro m g hm ha h14 hG
      have e2 : g 2 0 = (dB D).length := by rw [ha 2 (by decide) (by decide) (by decide) (by decide)]; exact r1
      refine v_X11_takes_168 i _ g ⟨by omega, ⟨⟨by omega, by omega⟩, by rw [e2]; exact ⟨by omega, by omega⟩⟩, fun _ => hout g ha h14 ?_, fun q => absurd q (by rw [e2]; omega)⟩
      rw [allG, show (((dB D).length : Int) - i - 1).toNat = m by omega]
      exact hG
    | succ t ih =>
      intro m g hm ha h14 hG
      have e2 : g 2 0 = (dB D).length := by rw [ha 2 (by decide) (by decide) (by decide) (by decide)]; exact r1
      have e3 : g 5 0 = dK D := by rw [ha 5 (by decide) (by decide) (by decide) (by decide)]; exact r2
      have hpre := pre_le (k := dK D) (n := (dB D).length) (i := i) (m := m + 1) w3 ⟨by omega, by omega⟩ hi (by omega)
      rw [rowG] at hpre
      have next : ∀ g2 : HP, (∀ a, a ≠ 0 → a ≠ 10 → a ≠ 11 → a ≠ 12 → g2 a = h a) → (∀ i, i ≠ 11 → g2 0 i = h 0 i) → rpN g2 (allG (dK D) (dB D).length i ++ rowG (dK D) (dB D).length i (m + 1)) (dW D) → V KM (d + 1) mX11_takes 232 [some (aR 0), some (aI i), some (aI ((i : Int) + 1 + m))] [] g2 (rV P) := fun g2 a1 a2 a3 => by
        refine v_X11_takes_232 i _ g2 ?_
        have := ih (m + 1) g2 (by omega) a1 a2 a3
        rwa [show (i : Int) + 1 + ((m + 1 : Nat) : Int) = (i : Int) + 1 + m + 1 by omega] at this
      refine v_X11_takes_168 i _ g ⟨by omega, ⟨⟨by omega, by omega⟩, by rw [e2]; exact ⟨by omega, by omega⟩⟩, fun q => absurd q (by rw [e2]; omega), fun _ => c_mtouch (by rw [e2]; omega) (by rw [e3]; exact w3) (by rw [e2]; omega) (fun hT => ?_) (fun hT => ?_)⟩
      · rw [e2, e3] at hT
        rw [if_pos hT, ← List.append_assoc, List.length_append] at hpre
        have hlen : (allG (dK D) (dB D).length i ++ rowG (dK D) (dB D).length i m).length < 10 := by
          simp only [List.length_singleton] at hpre
          omega
        have eL := hG.1
        refine ⟨by decide, fun q => absurd q (by decide), fun _ => ⟨by rw [eL]; omega, by rw [eL]; omega, ?_⟩⟩
        have f : ∀ a, a ≠ 10 → a ≠ 11 → (hset (hset g 10 (g 0 11) i) 11 (g 0 11) ((i : Int) + 1 + m)) a = g a := fun a q1 q2 => by rw [hset_n q2, hset_n q1]
        refine c_isShut (ws := dW D) (by rw [f 6 (by decide) (by decide), ha 6 (by decide) (by decide) (by decide) (by decide)]; exact r5) w6 (fun k hk => by rw [f 7 (by decide) (by decide), ha 7 (by decide) (by decide) (by decide) (by decide)]; exact r8 k hk) w7 (by omega) ?_
        have hwv : hwi (dW D) i ((i : Int) + 1 + m) = 0 ∨ hwi (dW D) i ((i : Int) + 1 + m) = 1 := by
          unfold hwi
          split
          · exact Or.inr rfl
          · exact Or.inl rfl
        refine ⟨⟨by rw [eL]; omega, by rw [eL]; omega, by omega, by omega⟩, next _ (fun a q1 q2 q3 q4 => ?_) (fun x hx => ?_) ⟨?_, fun k hk => ?_⟩⟩
        · rw [hset_n q1, hset_n q4, f a q2 q3]
          exact ha a q1 q2 q3 q4
        · rw [hset_m hx, hset_n (by decide), f 0 (by decide) (by decide)]
          exact h14 x hx
        · rw [hset_s, f 0 (by decide) (by decide), eL, rowG, if_pos hT, ← List.append_assoc, List.length_append]
          simp
          omega
        · rw [rowG, if_pos hT, ← List.append_assoc] at hk ⊢
          simp only [List.length_append, List.length_singleton] at hk
          by_cases e : k = (allG (dK D) (dB D).length i ++ rowG (dK D) (dB D).length i m).length
          · subst e
            rw [gd_at, ← eL]
            refine ⟨?_, ?_, ?_⟩
            · rw [hset_n (show (10 : Nat) ≠ 0 by decide), hset_n (show (10 : Nat) ≠ 12 by decide), hset_n (show (10 : Nat) ≠ 11 by decide), hset_s]
            · rw [hset_n (show (11 : Nat) ≠ 0 by decide), hset_n (show (11 : Nat) ≠ 12 by decide), hset_s]
            · rw [hset_n (show (12 : Nat) ≠ 0 by decide), hset_s]
          · have hk2 : k < (allG (dK D) (dB D).length i ++ rowG (dK D) (dB D).length i m).length := by
              simp only [List.length_append] at e ⊢
              omega
            have hne : ((k : Nat) : Int) ≠ g 0 11 := by rw [eL]; omega
            have h9 := hG.2 k hk2
            rw [gd_lt hk2]
            refine ⟨?_, ?_, ?_⟩
            · rw [hset_n (show (10 : Nat) ≠ 0 by decide), hset_n (show (10 : Nat) ≠ 12 by decide), hset_n (show (10 : Nat) ≠ 11 by decide), hset_m hne]
              exact h9.1
            · rw [hset_n (show (11 : Nat) ≠ 0 by decide), hset_n (show (11 : Nat) ≠ 12 by decide), hset_m hne, hset_n (show (11 : Nat) ≠ 10 by decide)]
              exact h9.2.1
            · rw [hset_n (show (12 : Nat) ≠ 0 by decide), hset_m hne, f 12 (by decide) (by decide)]
              exact h9.2.2
      · rw [e2, e3] at hT
        refine ⟨by decide, fun _ => next g ha h14 ?_, fun q => absurd rfl q⟩
        rw [rowG, if_neg hT, List.append_nil]
        exact hG
  have outer : ∀ (t i : Nat) (g : HP), i + t = (dB D).length → (∀ a, a ≠ 0 → a ≠ 10 → a ≠ 11 → a ≠ 12 → g a = h a) → (∀ i, i ≠ 11 → g 0 i = h 0 i) → rpN g (allG (dK D) (dB D).length i) (dW D) → V KM (d + 1) mX11_takes 154 [some (aR 0), some (aI i), none] [] g (rV P) := by
    intro t
    induction t with
    | zero =>
      intro i g hi ha h14 hG
      have e2 : g 2 0 = (dB D).length := by rw [ha 2 (by decide) (by decide) (by decide) (by decide)]; exact r1
      refine v_X11_takes_154 i g ⟨by omega, ⟨⟨by omega, by omega⟩, by rw [e2]; exact ⟨by omega, by omega⟩⟩, fun _ => hP _ (fun a q1 q2 q3 q4 => ?_) (fun x q1 q2 q3 q4 => ?_) (by simp [hset]) (by simp [hset]) (by simp [hset]) ⟨?_, fun k hk => ?_⟩, fun q => absurd q (by rw [e2]; omega)⟩
      · rw [hset_n q1, hset_n q1, hset_n q1]; exact ha a q1 q2 q3 q4
      · rw [hset_m q4, hset_m q3, hset_m q2]; exact h14 x q1
      · rw [hset_m (by decide), hset_m (by decide), hset_m (by decide)]
        unfold gl
        rw [show ((dB D).length : Int).toNat = i by omega]
        exact hG.1
      · rw [hset_n (show (10 : Nat) ≠ 0 by decide), hset_n (show (10 : Nat) ≠ 0 by decide), hset_n (show (10 : Nat) ≠ 0 by decide), hset_n (show (11 : Nat) ≠ 0 by decide), hset_n (show (11 : Nat) ≠ 0 by decide), hset_n (show (11 : Nat) ≠ 0 by decide), hset_n (show (12 : Nat) ≠ 0 by decide), hset_n (show (12 : Nat) ≠ 0 by decide), hset_n (show (12 : Nat) ≠ 0 by decide)]
        unfold gl at hk ⊢
        rw [show ((dB D).length : Int).toNat = i by omega] at hk ⊢
        exact hG.2 k hk
    | succ t ih =>
      intro i g hi ha h14 hG
      have e2 : g 2 0 = (dB D).length := by rw [ha 2 (by decide) (by decide) (by decide) (by decide)]; exact r1
      refine v_X11_takes_154 i g ⟨by omega, ⟨⟨by omega, by omega⟩, by rw [e2]; exact ⟨by omega, by omega⟩⟩, fun q => absurd q (by rw [e2]; omega), fun _ => ?_⟩
      have := inner i (by omega) (fun g2 a1 a2 a3 => ih (i + 1) g2 (by omega) a1 a2 a3) (((dB D).length - i - 1 : Int).toNat) 0 g (by omega) ha h14 (by rw [rowG, List.append_nil]; exact hG)
      rwa [show (i : Int) + 1 + ((0 : Nat) : Int) = (i : Int) + 1 by omega] at this
  refine outer (dB D).length 0 _ (by omega) (fun a q1 _ _ _ => hset_n q1) (fun i hi => hset_m hi) ⟨?_, fun k hk => absurd hk (by show ¬ k < 0; omega)⟩
  rw [hset_s]
  rfl
def cpI (h g : HP) (a b c : Int) : Prop := (∀ x, x ≠ 3 → x ≠ 4 → x ≠ 5 → x ≠ 7 → x ≠ 9 → x ≠ 13 → g x = h x) ∧ (∀ y, 0 ≤ y → y < a → g 7 y = h 7 (16 + y)) ∧ (∀ y, 16 ≤ y → g 7 y = h 7 y) ∧ (∀ y, 0 ≤ y → y < b → g 3 y = h 3 (8 + y) ∧ g 4 y = h 4 (8 + y) ∧ g 9 y = h 9 (8 + y) ∧ g 13 y = h 3 (8 + y)) ∧ (∀ y, 8 ≤ y → g 3 y = h 3 y ∧ g 4 y = h 4 y ∧ g 9 y = h 9 y) ∧ (∀ y, 0 ≤ y → y < c → g 5 y = h 5 (3 + y)) ∧ (∀ y, 3 ≤ y → g 5 y = h 5 y)
theorem cpI_A {h g : HP} {x b c : Int} (hI : cpI h g x b c) (h0 : 0 ≤ x) (h1 : x < 16) : cpI h (hset g 7 x (g 7 (16 + x))) (x + 1) b c := by
  obtain ⟨i1, i2, i3, i4, i5, i6, i7⟩ := hI
  refine ⟨fun a q1 q2 q3 q4 q5 q6 => by rw [hset_n q4]; exact i1 a q1 q2 q3 q4 q5 q6, fun y q0 q1 => ?_, fun y q => by rw [hset_m (by omega)]; exact i3 y q, fun y q0 q1 => by rw [hset_n (by decide), hset_n (by decide), hset_n (by decide), hset_n (by decide)]; exact i4 y q0 q1, fun y q => by rw [hset_n (by decide), hset_n (by decide), hset_n (by decide)]; exact i5 y q, fun y q0 q1 => by rw [hset_n (by decide)]; exact i6 y q0 q1, fun y q => by rw [hset_n (by decide)]; exact i7 y q⟩
  by_cases e : y = x
  · subst e
    rw [hset_s]
    exact i3 _ (by omega)
  · rw [hset_m e]
    exact i2 y q0 (by omega)
theorem cpI_B {h g : HP} {a x c : Int} (hI : cpI h g a x c) (h0 : 0 ≤ x) (h1 : x < 8) {v : Int} (hv : v = g 3 (8 + x)) : cpI h (hset (hset (hset (hset g 3 x (g 3 (8 + x))) 4 x (g 4 (8 + x))) 9 x (g 9 (8 + x))) 13 x v) a (x + 1) c := by
  subst hv
  obtain ⟨i1, i2, i3, i4, i5, i6, i7⟩ := hI
  have n : ∀ b, b ≠ 3 → b ≠ 4 → b ≠ 9 → b ≠ 13 → (hset (hset (hset (hset g 3 x (g 3 (8 + x))) 4 x (g 4 (8 + x))) 9 x (g 9 (8 + x))) 13 x (g 3 (8 + x))) b = g b := fun b q1 q2 q3 q4 => by rw [hset_n q4, hset_n q3, hset_n q2, hset_n q1]
  have m : ∀ b y, y ≠ x → (hset (hset (hset (hset g 3 x (g 3 (8 + x))) 4 x (g 4 (8 + x))) 9 x (g 9 (8 + x))) 13 x (g 3 (8 + x))) b y = g b y := fun b y q => by
    have hm : ∀ (G : HP) (a : Nat) (v : Int), hset G a x v b y = G b y := fun G a v => by unfold hset; rw [if_neg (fun z => q z.2)]
    rw [hm, hm, hm, hm]
  have s3 : (hset (hset (hset (hset g 3 x (g 3 (8 + x))) 4 x (g 4 (8 + x))) 9 x (g 9 (8 + x))) 13 x (g 3 (8 + x))) 3 x = g 3 (8 + x) := by rw [hset_n (by decide), hset_n (by decide), hset_n (by decide), hset_s]
  have s4 : (hset (hset (hset (hset g 3 x (g 3 (8 + x))) 4 x (g 4 (8 + x))) 9 x (g 9 (8 + x))) 13 x (g 3 (8 + x))) 4 x = g 4 (8 + x) := by rw [hset_n (by decide), hset_n (by decide), hset_s]
  have s9 : (hset (hset (hset (hset g 3 x (g 3 (8 + x))) 4 x (g 4 (8 + x))) 9 x (g 9 (8 + x))) 13 x (g 3 (8 + x))) 9 x = g 9 (8 + x) := by rw [hset_n (by decide), hset_s]
  have s13 : (hset (hset (hset (hset g 3 x (g 3 (8 + x))) 4 x (g 4 (8 + x))) 9 x (g 9 (8 + x))) 13 x (g 3 (8 + x))) 13 x = g 3 (8 + x) := hset_s
  generalize hset (hset (hset (hset g 3 x (g 3 (8 + x))) 4 x (g 4 (8 + x))) 9 x (g 9 (8 + x))) 13 x (g 3 (8 + x)) = k at n m s3 s4 s9 s13
  refine ⟨fun b q1 q2 q3 q4 q5 q6 => by rw [n b q1 q2 q5 q6]; exact i1 b q1 q2 q3 q4 q5 q6, fun y q0 q1 => by rw [n 7 (by decide) (by decide) (by decide) (by decide)]; exact i2 y q0 q1, fun y q => by rw [n 7 (by decide) (by decide) (by decide) (by decide)]; exact i3 y q, fun y q0 q1 => ?_, fun y q => by rw [m 3 y (by omega), m 4 y (by omega), m 9 y (by omega)]; exact i5 y q, fun y q0 q1 => by rw [n 5 (by decide) (by decide) (by decide) (by decide)]; exact i6 y q0 q1, fun y q => by rw [n 5 (by decide) (by decide) (by decide) (by decide)]; exact i7 y q⟩
  by_cases e : y = x
  · subst e
    have := i5 (8 + y) (by omega)
    rw [s3, s4, s9, s13, this.1, this.2.1, this.2.2]
    exact ⟨rfl, rfl, rfl, rfl⟩
  · rw [m 3 y e, m 4 y e, m 9 y e, m 13 y e]
    exact i4 y q0 (by omega)
theorem cpI_C {h g : HP} {a b x : Int} (hI : cpI h g a b x) (h0 : 0 ≤ x) (h1 : x < 3) : cpI h (hset g 5 x (g 5 (3 + x))) a b (x + 1) := by
  obtain ⟨i1, i2, i3, i4, i5, i6, i7⟩ := hI
  refine ⟨fun b q1 q2 q3 q4 q5 q6 => by rw [hset_n q3]; exact i1 b q1 q2 q3 q4 q5 q6, fun y q0 q1 => by rw [hset_n (by decide)]; exact i2 y q0 q1, fun y q => by rw [hset_n (by decide)]; exact i3 y q, fun y q0 q1 => by rw [hset_n (by decide), hset_n (by decide), hset_n (by decide), hset_n (by decide)]; exact i4 y q0 q1, fun y q => by rw [hset_n (by decide), hset_n (by decide), hset_n (by decide)]; exact i5 y q, fun y q0 q1 => ?_, fun y q => by rw [hset_m (by omega)]; exact i7 y q⟩
  by_cases e : y = x
  · subst e
    rw [hset_s]
    exact i7 _ (by omega)
  · rw [hset_m e]
    exact i6 y q0 (by omega)
theorem c_takes {d : Nat} {P : HP → Prop} {D : DD} {h : HP} (hr : rpM h D) (hw : wfD D) (h1 : 1 ≤ (dB D).length) (hP : ∀ h', AgV (vm h') (sn_D (vm h) D) → cm h' → h' 2 0 = (dB D).length → P h') : Ct KM (d + 1) mX11_takes [aR 0] h (rV P) := by
  obtain ⟨r1, r2, r3, r4, r5, r6, r7, r8, r9⟩ := hr
  obtain ⟨⟨w1, w2⟩, w3, w4, w5, ⟨w6, w7⟩, w8, w9⟩ := id hw
  refine e_X11_takes h ⟨by omega, by omega, by omega, by omega, by omega, by omega, ?_⟩
  have t2 : (hset (hset (hset h 2 0 (h 2 1)) 6 0 (h 6 1)) 8 0 (h 8 1)) 2 0 = (dB D).length := by rw [hset_n (by decide), hset_n (by decide), hset_s]; exact r1
  have t6 : (hset (hset (hset h 2 0 (h 2 1)) 6 0 (h 6 1)) 8 0 (h 8 1)) 6 0 = (dW D).length := by rw [hset_n (by decide), hset_s]; exact r5
  have t8 : (hset (hset (hset h 2 0 (h 2 1)) 6 0 (h 6 1)) 8 0 (h 8 1)) 8 0 = (dC D).length := by rw [hset_s]; exact r6
  have tn : ∀ a, a ≠ 2 → a ≠ 6 → a ≠ 8 → (hset (hset (hset h 2 0 (h 2 1)) 6 0 (h 6 1)) 8 0 (h 8 1)) a = h a := fun a q1 q2 q3 => by rw [hset_n q3, hset_n q2, hset_n q1]
  generalize hset (hset (hset h 2 0 (h 2 1)) 6 0 (h 6 1)) 8 0 (h 8 1) = h2 at t2 t6 t8 tn ⊢
  have fin : ∀ g : HP, cpI h2 g 16 8 3 → V KM (d + 1) mX11_takes 154 [some (aR 0), some (aI 0), none] [] (hset g 0 11 0) (rV P) := by
    intro g hI
    obtain ⟨i1, i2, i3, i4, i5, i6, i7⟩ := hI
    have g2 : g 2 0 = (dB D).length := by rw [i1 2 (by decide) (by decide) (by decide) (by decide) (by decide) (by decide)]; exact t2
    have g6 : g 6 0 = (dW D).length := by rw [i1 6 (by decide) (by decide) (by decide) (by decide) (by decide) (by decide)]; exact t6
    have g8 : g 8 0 = (dC D).length := by rw [i1 8 (by decide) (by decide) (by decide) (by decide) (by decide) (by decide)]; exact t8
    have g50 : g 5 0 = dK D := by rw [i6 0 (by decide) (by decide), tn 5 (by decide) (by decide) (by decide)]; exact r2
    have g51 : g 5 1 = dR D := by rw [i6 1 (by decide) (by decide), tn 5 (by decide) (by decide) (by decide)]; exact r3
    have g52 : g 5 2 = dV D := by rw [i6 2 (by decide) (by decide), tn 5 (by decide) (by decide) (by decide)]; exact r4
    have g7 : ∀ k : Nat, k < (dW D).length → g 7 (2 * k) = ((dW D).getD k (0, 0)).1 ∧ g 7 (2 * k + 1) = ((dW D).getD k (0, 0)).2 := fun k hk => by
      have := r8 k hk
      rw [i2 _ (by omega) (by omega), i2 _ (by omega) (by omega), tn 7 (by decide) (by decide) (by decide)]
      rw [show (16 : Int) + (2 * (k : Int) + 1) = 17 + 2 * k by omega]
      exact this
    refine c_mjoin (D := D) g2 g50 g6 g7 hw h1 (fun h' a1 a2 a3 a4 a5 a6 => ?_)
    have k : ∀ a, a ≠ 0 → a ≠ 10 → a ≠ 11 → a ≠ 12 → h' a = g a := a1
    refine hP h' ?_ a3 (by rw [k 2 (by decide) (by decide) (by decide) (by decide)]; exact g2)
    refine ⟨?_, fun i _ _ => ?_, ⟨?_, a6.1, ?_, fun c q0 q1 => ?_, fun x q0 q1 => ?_⟩, ?_, ?_, ?_, fun c q0 q1 => ?_, fun x q0 q1 => ?_, a4, a5, fun q => ?_, fun q => ?_⟩
    · show h' 0 0 = h 0 0
      rw [a2 0 (by decide) (by decide) (by decide) (by decide), i1 0 (by decide) (by decide) (by decide) (by decide) (by decide) (by decide), tn 0 (by decide) (by decide) (by decide)]
    · show h' 1 i = h 1 i
      rw [k 1 (by decide) (by decide) (by decide) (by decide), i1 1 (by decide) (by decide) (by decide) (by decide) (by decide) (by decide), tn 1 (by decide) (by decide) (by decide)]
    · show h' 2 0 = ((dB D).length : Int)
      rw [k 2 (by decide) (by decide) (by decide) (by decide)]; exact g2
    · show h' 5 2 = dV D
      rw [k 5 (by decide) (by decide) (by decide) (by decide)]; exact g52
    · have q1 : c < h' 0 11 := q1
      rw [a6.1] at q1
      have := a6.2 c.toNat (by omega)
      rw [show ((c.toNat : Nat) : Int) = c by omega] at this
      exact this
    · have q1 : x < h' 2 0 := q1
      rw [k 2 (by decide) (by decide) (by decide) (by decide), g2] at q1
      have := (r7 x.toNat (by omega)).2
      rw [show ((x.toNat : Nat) : Int) = x by omega] at this
      show h' 4 x = _
      rw [k 4 (by decide) (by decide) (by decide) (by decide), (i4 x q0 (by omega)).2.1, tn 4 (by decide) (by decide) (by decide)]
      exact this
    · show h' 5 1 = dR D
      rw [k 5 (by decide) (by decide) (by decide) (by decide)]; exact g51
    · show h' 6 0 = ((dW D).length : Int)
      rw [k 6 (by decide) (by decide) (by decide) (by decide)]; exact g6
    · show h' 8 0 = ((dC D).length : Int)
      rw [k 8 (by decide) (by decide) (by decide) (by decide)]; exact g8
    · have q1 : c < h' 8 0 := q1
      rw [k 8 (by decide) (by decide) (by decide) (by decide), g8] at q1
      have := r9 c.toNat (by omega)
      rw [show ((c.toNat : Nat) : Int) = c by omega] at this
      have e9 : h' 9 = g 9 := k 9 (by decide) (by decide) (by decide) (by decide)
      refine ⟨?_, ?_⟩
      · show h' 9 (2 * c) = _
        rw [e9, (i4 (2 * c) (by omega) (by omega)).2.2.1, tn 9 (by decide) (by decide) (by decide)]
        exact this.1
      · show h' 9 (2 * c + 1) = _
        rw [e9, (i4 (2 * c + 1) (by omega) (by omega)).2.2.1, tn 9 (by decide) (by decide) (by decide), show (8 : Int) + (2 * c + 1) = 9 + 2 * c by omega]
        exact this.2
    · have q1 : x < h' 2 0 := q1
      rw [k 2 (by decide) (by decide) (by decide) (by decide), g2] at q1
      have := (r7 x.toNat (by omega)).1
      rw [show ((x.toNat : Nat) : Int) = x by omega] at this
      show h' 13 x = _
      rw [k 13 (by decide) (by decide) (by decide) (by decide), (i4 x q0 (by omega)).2.2.2, tn 3 (by decide) (by decide) (by decide)]
      exact this
    · have q : 0 < h' 0 18 := q
      omega
    · have q : 1 < h' 0 18 := q
      omega
  have key : ∀ (m : Nat) (x : Int) (g : HP), 0 ≤ x → x + m = 16 → cpI h2 g x (min x 8) (min x 3) → V KM (d + 1) mX11_takes 38 [some (aR 0), some (aI x), none] [] g (rV P) := by
    intro m
    induction m with
    | zero =>
      intro x g h0 hx hI
      refine v_X11_takes_38 x g ⟨⟨⟨by omega, by omega⟩, by decide⟩, fun _ => fin g ?_, fun q => absurd q (by omega)⟩
      rw [show min x 8 = 8 by omega, show min x 3 = 3 by omega, show x = 16 by omega] at hI
      exact hI
    | succ m ih =>
      intro x g h0 hx hI
      have hA := cpI_A hI h0 (by omega)
      refine v_X11_takes_38 x g ⟨⟨⟨by omega, by omega⟩, by decide⟩, fun q => absurd q (by omega), fun _ => ⟨by omega, by omega, ⟨⟨by omega, by omega⟩, by decide⟩, fun q => ?_, fun q => ⟨by omega, by omega, by omega, by omega, by omega, by omega, by omega, by omega, ?_⟩⟩⟩
      · refine v_X11_takes_122 x _ ⟨⟨⟨by omega, by omega⟩, by decide⟩, fun _ => v_X11_takes_141 x _ (ih (x + 1) _ (by omega) (by omega) ?_), fun q2 => absurd q2 (by omega)⟩
        rw [show min (x + 1) 8 = min x 8 by omega, show min (x + 1) 3 = min x 3 by omega]
        exact hA
      · rw [show min x 8 = x by omega] at hA
        have hB := cpI_B (v := (hset (hset g 7 x (g 7 (16 + x))) 3 x (g 3 (8 + x))) 3 x) hA h0 q (by rw [hset_s, hset_n (by decide)])
        rw [show (hset g 7 x (g 7 (16 + x))) 3 = g 3 from hset_n (by decide), show (hset g 7 x (g 7 (16 + x))) 4 = g 4 from hset_n (by decide), show (hset g 7 x (g 7 (16 + x))) 9 = g 9 from hset_n (by decide)] at hB
        refine v_X11_takes_122 x _ ⟨⟨⟨by omega, by omega⟩, by decide⟩, fun q2 => v_X11_takes_141 x _ (ih (x + 1) _ (by omega) (by omega) ?_), fun q2 => ⟨by omega, by omega, v_X11_takes_141 x _ (ih (x + 1) _ (by omega) (by omega) ?_)⟩⟩
        · rw [show min (x + 1) 8 = x + 1 by omega, show min (x + 1) 3 = min x 3 by omega]
          exact hB
        · rw [show min x 3 = x by omega] at hB
          rw [show min (x + 1) 8 = x + 1 by omega, show min (x + 1) 3 = x + 1 by omega]
          exact cpI_C hB h0 q2
  exact key 16 0 h2 (by omega) (by omega) ⟨fun _ _ _ _ _ _ _ => rfl, fun y q0 q1 => by omega, fun _ _ => rfl, fun y q0 q1 => by omega, fun _ _ => ⟨rfl, rfl, rfl⟩, fun y q0 q1 => by omega, fun _ _ => rfl⟩
theorem kM_ag {N : Int} {g h : HP} (hk : kM g h) (hW : WV N (vm g)) : AgV (vm h) (vm g) := by
  obtain ⟨k1, k2, k3, k4, k5, k6, k7⟩ := hk
  have hn : g 2 0 ≤ 8 := hW.2.2.1.1.2
  have hc : g 8 0 ≤ 4 := hW.2.2.2.2.2.1.1.2
  have e : ∀ a, 10 ≤ a → a ≤ 21 → h a = g a := fun a q1 q2 => k7 a (by omega)
  refine ⟨k1 0 (by decide), fun i _ _ => ?_, ⟨k2, k1 11 (by decide), k6 2 (by decide), fun c q0 q1 => ⟨?_, ?_, ?_⟩, fun x q0 q1 => ?_⟩, k6 1 (by decide), k3, k4, fun c q0 q1 => ?_, fun x q0 q1 => ?_, k1 17 (by decide), k1 18 (by decide), fun q => ⟨fun x q0 q1 => ?_, ?_⟩, fun q => ⟨fun x q0 q1 => ?_, ?_⟩⟩
  · show h 1 i = g 1 i
    rw [k7 1 (by decide)]
  · show h 10 c = g 10 c
    rw [e 10 (by decide) (by decide)]
  · show h 11 c = g 11 c
    rw [e 11 (by decide) (by decide)]
  · show h 12 c = g 12 c
    rw [e 12 (by decide) (by decide)]
  · have q1 : x < h 2 0 := q1
    exact (k5 x (by omega)).1
  · have q1 : c < h 8 0 := q1
    exact ⟨(k5 (2 * c) (by omega)).2, (k5 (2 * c + 1) (by omega)).2⟩
  · show h 13 x = g 13 x
    rw [e 13 (by decide) (by decide)]
  · show h 14 x = g 14 x
    rw [e 14 (by decide) (by decide)]
  · show h 15 0 = g 15 0
    rw [e 15 (by decide) (by decide)]
  · show h 14 (8 + x) = g 14 (8 + x)
    rw [e 14 (by decide) (by decide)]
  · show h 15 1 = g 15 1
    rw [e 15 (by decide) (by decide)]
theorem kM_cm {g h : HP} (hk : kM g h) (hz : cm g) : cm h := (hk.1 15 (by decide)).trans hz
theorem m_fault {d : Nat} {P : Int → HP → Prop} {N : Int} {g : HP} (hW : WV N (vm g)) (hz : cm g) (hP : ∀ h', AgV (vm h') (vm g) → cm h' → P (sp_fault (vm g)) h') : Ct KM (d + 3) mX11_fault [aR 0] g (rI P) :=
  c_mfault hW.1 hW.2.1 (fun h' f1 _ => hP h' (kM_ag f1 hW) (kM_cm f1 hz))
theorem sn_D_ag {N : Int} {l l' : LV} {D : DD} (ha : AgV l l') (hw : WV N l') : AgV (sn_D l D) (sn_D l' D) :=
  ⟨ha.1, ha.2.1, agB_rf _, rfl, rfl, rfl, fun _ _ _ => ⟨rfl, rfl⟩, eqN_rf _ _, rfl, rfl, fun _ => ⟨eqN_rf _ _, rfl⟩, fun _ => ⟨eqN_rf _ _, rfl⟩⟩
theorem m_lay {d : Nat} {P : Int → HP → Prop} {N : Int} {g : HP} (hW : WV N (vm g)) (hz : cm g) (hP : ∀ h', AgV (vm h') (sn_lay (vm g)) → cm h' → P (sp_lay (vm g)) h') : Ct KM (d + 4) mX11_lay [aR 0] g (rI P) := by
  unfold sn_lay sp_lay at hP
  have hd : wfD (pz (vm g)).2 := plp_wf 300 0 D0 D0_wf
  have hpf := plp_fault (tx := g 1) (len := g 0 0) 300 0 D0 (by omega)
  have hl : 0 ≤ g 0 0 ∧ g 0 0 ≤ 300 := hW.1
  have hpe : pz (vm g) = parse (g 1) (g 0 0) := rfl
  have hb8 := hd.1.1
  have hR : iR (parse (g 1) (g 0 0)).1 := by
    unfold parse
    rcases hpf with e | e
    · rw [e]; decide
    · exact ⟨by omega, by omega⟩
  refine e_X11_lay g (c_mfault hW.1 hW.2.1 (fun h1 f1 r1 => ?_))
  have ag1 := kM_ag f1 hW
  have hno : ¬ okl (vm g) → P (-2) h1 := fun hc => by
    have := hP h1 (by rw [if_neg hc]; exact ag1) (kM_cm f1 hz)
    rw [if_neg hc] at this
    exact this
  refine ⟨⟨hR, by decide⟩, fun q => hno (fun z => q z.1), fun q => ?_⟩
  have r1 := r1 q
  have e21 : h1 2 1 = (dB (pz (vm g)).2).length := r1.1
  refine ⟨by omega, by rw [e21]; exact ⟨by omega, by omega⟩, fun q2 => ?_, fun q2 => hno (fun z => z.2 (by omega))⟩
  have ok : okl (vm g) := ⟨q, by omega⟩
  have ok2 := ok.2
  rw [if_pos ok] at hP
  refine c_takes (d := d + 2) (D := (pz (vm g)).2) r1 hd (by omega) (fun h' a1 a2 a3 => ⟨by omega, ?_⟩)
  have := hP h' (AgV_tr a1 (sn_D_ag ag1 hW)) a2
  rw [if_pos ok] at this
  rw [a3]
  exact this
