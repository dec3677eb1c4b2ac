/-! THE MODEL READS -/
def rpM (h : HP) (D : DD) : Prop := h 2 1 = (dB D).length ∧ h 5 3 = dK D ∧ h 5 4 = dR D ∧ h 5 5 = dV D ∧ h 6 1 = (dW D).length ∧ h 8 1 = (dC D).length ∧
  (∀ i : Nat, i < (dB D).length → h 3 (8 + i) = ((dB D).getD i (0, 0)).1 ∧ h 4 (8 + i) = ((dB D).getD i (0, 0)).2) ∧ (∀ i : Nat, i < (dW D).length → h 7 (16 + 2 * i) = ((dW D).getD i (0, 0)).1 ∧ h 7 (17 + 2 * i) = ((dW D).getD i (0, 0)).2) ∧ (∀ i : Nat, i < (dC D).length → h 9 (8 + 2 * i) = ((dC D).getD i (0, 0)).1 ∧ h 9 (9 + 2 * i) = ((dC D).getD i (0, 0)).2)
def kM (g h : HP) : Prop := (∀ i, i ≠ 2 → h 0 i = g 0 i) ∧ h 2 0 = g 2 0 ∧ h 6 0 = g 6 0 ∧ h 8 0 = g 8 0 ∧ (∀ x, x < 8 → h 4 x = g 4 x ∧ h 9 x = g 9 x) ∧ (∀ x, x < 3 → h 5 x = g 5 x) ∧ (∀ a, a = 1 ∨ 10 ≤ a ∧ a ≤ 21 → h a = g a)
theorem kM_rf (g : HP) : kM g g := ⟨fun _ _ => rfl, rfl, rfl, rfl, fun _ _ => ⟨rfl, rfl⟩, fun _ _ => rfl, fun _ _ => rfl⟩
theorem kM_tr {g h k : HP} (a : kM g h) (b : kM h k) : kM g k := by
  obtain ⟨a1, a2, a3, a4, a5, a6, a7⟩ := a
  obtain ⟨b1, b2, b3, b4, b5, b6, b7⟩ := b
  exact ⟨fun i hi => (b1 i hi).trans (a1 i hi), b2.trans a2, b3.trans a3, b4.trans a4, fun x hx => ⟨(b5 x hx).1.trans (a5 x hx).1, (b5 x hx).2.trans (a5 x hx).2⟩, fun x hx => (b6 x hx).trans (a6 x hx), fun x hx => (b7 x hx).trans (a7 x hx)⟩
theorem kM_at {g : HP} {v : Int} : kM g (hset g 0 2 v) := ⟨fun i hi => hset_m hi, by rw [hset_n (by decide)], by rw [hset_n (by decide)], by rw [hset_n (by decide)], fun x _ => ⟨by rw [hset_n (by decide)], by rw [hset_n (by decide)]⟩, fun x _ => by rw [hset_n (by decide)], fun a ha => hset_n (by omega)⟩
theorem kM_got {g : HP} {i v : Int} : kM g (hset g 22 i v) := ⟨fun i _ => by rw [hset_n (by decide)], by rw [hset_n (by decide)], by rw [hset_n (by decide)], by rw [hset_n (by decide)], fun x _ => ⟨by rw [hset_n (by decide)], by rw [hset_n (by decide)]⟩, fun x _ => by rw [hset_n (by decide)], fun a ha => hset_n (by omega)⟩
theorem rpM_eq {h h' : HP} {D : DD} (ha : ∀ a, 2 ≤ a → a ≤ 9 → h' a = h a) (hr : rpM h D) : rpM h' D := by
  unfold rpM at hr ⊢
  rw [ha 2 (by decide) (by decide), ha 3 (by decide) (by decide), ha 4 (by decide) (by decide), ha 5 (by decide) (by decide), ha 6 (by decide) (by decide), ha 7 (by decide) (by decide), ha 8 (by decide) (by decide), ha 9 (by decide) (by decide)]
  exact hr
theorem c_parts {d : Nat} {P : Int → HP → Prop} {c : Int} {h : HP} (hc : iR c) (hP : P (due c) h) : Ct KM d mX11_parts [aI c] h (rI P) := by
  have two : due c = 2 → V KM d mX11_parts 24 [some (aI c)] [] h (rI P) := fun e => v_X11_parts_24 c h (cP hP e)
  refine e_X11_parts c h ⟨⟨hc, by decide⟩, fun q => two (by unfold due; rw [if_pos (by omega)]), fun q => ⟨⟨hc, by decide⟩, fun q2 => two (by unfold due; rw [if_pos (by omega)]), fun q2 => ⟨⟨hc, by decide⟩, fun q3 => two (by unfold due; rw [if_pos (by omega)]), fun q3 => ⟨⟨hc, by decide⟩, fun q4 => ⟨⟨hc, by decide⟩, fun q5 => cP hP ?_, fun q5 => cP hP ?_⟩, fun q4 => two (by unfold due; rw [if_pos (by omega)])⟩⟩⟩⟩
  · unfold due; rw [if_neg (by omega), if_neg q5]
  · unfold due; rw [if_neg (by omega), if_pos q5]
theorem c_number {d : Nat} {P : Int → HP → Prop} {i len : Int} {tx : Int → Int} {h : HP} (ei : h 0 2 = i) (el : h 0 0 = len) (et : h 1 = tx) (hi : 0 ≤ i ∧ i ≤ len) (hl : len ≤ 300) (ht : ∀ j, 0 ≤ j → j < 300 → -128 ≤ tx j ∧ tx j ≤ 127)
    (h1 : 0 < fc tx len i → ¬ (fc tx len i = 3 ∧ dig tx len (i + 3)) → P (vl tx i (fc tx len i)) (hset h 0 2 (i + fc tx len i))) (h0 : ¬ (0 < fc tx len i ∧ ¬ (fc tx len i = 3 ∧ dig tx len (i + 3))) → ∀ v, P (-1) (hset h 0 2 v)) : Ct KM (d + 1) mX11_number [aR 0] h (rI P) := by
  refine e_X11_number h ?_
  have hs : ∀ v w : Int, hset (hset h 0 2 v) 0 2 w = hset h 0 2 w := fun v w => by
    funext a b
    unfold hset
    by_cases z : a = 0 ∧ b = 2
    · rw [if_pos z, if_pos z]
    · rw [if_neg z, if_neg z, if_neg z]
  have fin : ∀ (k : Nat), (∀ j : Nat, j < k → dig tx len (i + j)) → ¬ dig tx len (i + k) → V KM (d + 1) mX11_number 80 [some (aR 0), some (aI (vl tx i (min k 3))), some (aI k)] [] (hset h 0 2 (i + k)) (rI P) := by
    intro k hd hn
    have hk : (k : Int) ≤ 300 := by
      rcases Nat.eq_zero_or_pos k with z | z
      · omega
      · have := (hd (k - 1) (by omega)).1
        omega
    have d0 : 0 < k → dig tx len i := fun z => by have := hd 0 z; rwa [show i + ((0 : Nat) : Int) = i by omega] at this
    have d1 : 1 < k → dig tx len (i + 1) := fun z => hd 1 z
    have d2 : 2 < k → dig tx len (i + 2) := fun z => hd 2 z
    have d3 : 3 < k → dig tx len (i + 3) := fun z => hd 3 z
    have hfk : k ≤ 3 → fc tx len i = k := by
      intro hk3
      unfold fc
      rcases (show k = 0 ∨ k = 1 ∨ k = 2 ∨ k = 3 by omega) with rfl | rfl | rfl | rfl
      · rw [if_neg (by rw [show i + ((0 : Nat) : Int) = i by omega] at hn; exact hn)]
      · rw [if_pos (d0 (by omega)), if_neg (show ¬ dig tx len (i + 1) from hn)]
      · rw [if_pos (d0 (by omega)), if_pos (d1 (by omega)), if_neg (show ¬ dig tx len (i + 2) from hn)]
      · rw [if_pos (d0 (by omega)), if_pos (d1 (by omega)), if_pos (d2 (by omega))]
    refine v_X11_number_80 _ k _ ⟨⟨by omega, by omega⟩, c_inI ⟨by omega, by omega⟩ (by decide) (by decide) (fun a b => bT ?_) (fun a => bF (h0 ?_ _))⟩
    · have e := hfk (by omega)
      rw [e] at h1
      rw [show min k 3 = k by omega]
      exact h1 (by omega) (fun z => hn (by rw [z.1]; exact z.2))
    · rcases a with a | a
      · have e := hfk (by omega)
        omega
      · intro z
        refine z.2 ⟨?_, d3 (by omega)⟩
        unfold fc
        rw [if_pos (d0 (by omega)), if_pos (d1 (by omega)), if_pos (d2 (by omega))]
  have key : ∀ (m k : Nat), i + k + m = 301 → (∀ j : Nat, j < k → dig tx len (i + j)) → i + k ≤ len → V KM (d + 1) mX11_number 4 [some (aR 0), some (aI (vl tx i (min k 3))), some (aI k)] [] (hset h 0 2 (i + k)) (rI P) := by
    intro m
    induction m with
    | zero =>
      intro k hk hd hle
      omega
    | succ m ih =>
      intro k hk hd hle
      have e2 : (hset h 0 2 (i + k)) 0 2 = i + k := hset_s
      have e0 : (hset h 0 2 (i + k)) 0 0 = len := by rw [hset_m (by decide)]; exact el
      have e1 : (hset h 0 2 (i + k)) 1 = tx := by rw [hset_n (by decide)]; exact et
      refine v_X11_number_4 _ k _ ?_
      rw [e2, e0, e1]
      refine ⟨⟨⟨by omega, by omega⟩, ⟨by omega, by omega⟩⟩, fun q => fin k hd (fun z => by have := z.1; omega), fun q => ⟨by omega, ?_⟩⟩
      have hb := ht (i + k) (by omega) (by omega)
      refine ⟨⟨by omega, by omega⟩, c_inI ⟨by omega, by omega⟩ (by decide) (by decide) (fun a b => bT ?_) (fun a => bF (fin k hd (fun z => by have := z.2; omega)))⟩
      have hd' : ∀ j : Nat, j < k + 1 → dig tx len (i + j) := fun j hj => by
        by_cases e : j = k
        · subst e; exact ⟨q, a, b⟩
        · exact hd j (by omega)
      have next := ih (k + 1) (by omega) hd' (by omega)
      rw [e2, e1]
      refine ⟨⟨⟨by omega, by omega⟩, by decide⟩, fun q2 => v_X11_number_63 _ k _ _ ?_, fun q2 => ⟨by omega, v_X11_number_63 _ k _ _ ?_⟩⟩
      · rw [e2, hs]
        rw [show min (k + 1) 3 = min k 3 by omega] at next
        rwa [show i + ((k + 1 : Nat) : Int) = i + k + 1 by omega, show ((k + 1 : Nat) : Int) = (k : Int) + 1 by omega] at next
      · rw [e2, hs]
        rw [show min (k + 1) 3 = k + 1 by omega, vl] at next
        rw [show min k 3 = k by omega]
        rwa [show i + ((k + 1 : Nat) : Int) = i + k + 1 by omega, show ((k + 1 : Nat) : Int) = (k : Int) + 1 by omega] at next
  have := key (301 - i.toNat) 0 (by omega) (fun j hj => absurd hj (by omega)) (by omega)
  have e9 : hset h 0 2 (i + ((0 : Nat) : Int)) = h := by
    funext a b
    unfold hset
    by_cases z : a = 0 ∧ b = 2
    · rw [if_pos z, z.1, z.2, ei]; omega
    · rw [if_neg z]
  rw [e9] at this
  exact this
theorem pnm_n {tx : Int → Int} {len i sep : Int} (hs : sep = 44 ∨ sep = 59) (h : ¬ (0 < fc tx len i ∧ ¬ (fc tx len i = 3 ∧ dig tx len (i + 3)))) : pnm tx len i sep = none := by
  unfold pnm
  rw [if_neg]
  intro z
  refine h ⟨z.1, fun y => ?_⟩
  have h2 := z.2.2
  rw [y.1] at h2
  have h3 := y.2.2
  rw [show i + ((3 : Nat) : Int) = i + 3 by omega] at h2
  omega
set_option maxHeartbeats 1000000 in
theorem c_good {d : Nat} {P : Int → HP → Prop} {c : Int} {D : DD} {h : HP} (hr : rpM h D) (hw : wfD D) (hc : c = 98 ∨ c = 99 ∨ c = 114 ∨ c = 119 ∨ c = 115) (ha : 0 ≤ h 22 0 ∧ h 22 0 ≤ 999) (hb : c ≠ 115 → 0 ≤ h 22 1 ∧ h 22 1 ≤ 999)
    (h1 : ∀ D', good c (h 22 0) (h 22 1) D = some D' → ∀ h', kM h h' → h' 0 2 = h 0 2 → rpM h' D' → P 1 h') (h0 : good c (h 22 0) (h 22 1) D = none → ∀ h', kM h h' → P 0 h') :
    Ct KM (d + 1) mX11_isGood [aR 0, aI c] h (rI P) := by
  obtain ⟨r1, r2, r3, r4, r5, r6, r7, r8, r9⟩ := id hr
  obtain ⟨⟨w1, w2⟩, w3, w4, w5, ⟨w6, w7⟩, w8, w9⟩ := hw
  have hcR : iR c := ⟨by omega, by omega⟩
  unfold good at h1 h0
  refine e_X11_isGood c h ⟨⟨hcR, by decide⟩, fun q => ⟨⟨hcR, by decide⟩, fun q2 => ⟨⟨hcR, by decide⟩, fun q3 => ⟨⟨hcR, by decide⟩, fun q4 => ⟨by omega, ⟨by omega, by omega⟩, fun q5 => ⟨by omega, by omega, ?_⟩, fun q5 => ?_⟩, fun q4 => ⟨by omega, ⟨by omega, by omega⟩, by omega, ⟨by omega, by omega⟩, ?_⟩⟩, fun q3 => ⟨by omega, by omega, by omega, by omega, by omega, ⟨by omega, by omega⟩, ?_⟩⟩, fun q2 => ⟨by omega, by omega, by omega, ⟨by omega, by omega⟩, ?_⟩⟩, fun q => ⟨by omega, ⟨by omega, by omega⟩, ?_⟩⟩
  · -- corn, not the first
    have hb := hb (by omega)
    rw [if_neg q, if_neg q2, if_neg q3, if_neg q4] at h1 h0
    have e1 := r9 ((dC D).length - 1) (by omega)
    have e2 := w9 ((dC D).length - 1) (by omega)
    have el : h 9 (6 + 2 * h 8 1) = lastN (dC D) := by
      unfold lastN
      rw [if_neg (by omega), ← e1.1]
      congr 1
      omega
    have el2 : 0 ≤ lastN (dC D) ∧ lastN (dC D) ≤ 30 := by
      unfold lastN
      rw [if_neg (by omega)]
      exact e2.1
    rw [el]
    refine v_X11_isGood_373 c _ h ⟨by omega, ⟨by omega, by omega⟩, ⟨by omega, by omega⟩, c_inI ⟨by omega, by omega⟩ ⟨by omega, by omega⟩ (by decide) (fun a b => bT ⟨by omega, ⟨by omega, by omega⟩, c_inI ⟨by omega, by omega⟩ (by decide) (by decide) (fun a2 b2 => bT ⟨by omega, ⟨⟨by omega, by omega⟩, by decide⟩, fun q6 => ⟨by omega, by omega, by omega, by omega, by omega, by omega, by omega, by omega, by omega, ?_⟩, fun q6 => ⟨by omega, h0 (if_neg (by omega)) h (kM_rf h)⟩⟩) (fun a2 => bF ⟨by omega, h0 (if_neg (by omega)) h (kM_rf h)⟩)⟩) (fun a => bF ⟨by omega, h0 (if_neg (by omega)) h (kM_rf h)⟩)⟩
    rw [if_pos (by omega)] at h1
    refine h1 _ rfl _ ⟨fun i hi => by simp [hset], by simp [hset], by simp [hset], by simp [hset], fun x hx => ⟨by simp [hset], ?_⟩, fun x hx => by simp [hset], fun a ha => by rw [hset_n (by omega), hset_n (by omega), hset_n (by omega)]⟩ (by simp [hset]) ⟨?_, ?_, ?_, ?_, ?_, ?_, fun i hi => ?_, fun i hi => ?_, fun i hi => ?_⟩
    · rw [hset_n (by decide), hset_m (by omega), hset_m (by omega)]
    · rw [hset_n (by decide), hset_n (by decide), hset_n (by decide)]; exact r1
    · rw [hset_n (by decide), hset_n (by decide), hset_n (by decide)]; exact r2
    · rw [hset_n (by decide), hset_n (by decide), hset_n (by decide)]; exact r3
    · rw [hset_n (by decide), hset_n (by decide), hset_n (by decide)]; exact r4
    · rw [hset_n (by decide), hset_n (by decide), hset_n (by decide)]; exact r5
    · show _ = ((dC D ++ [(h 22 0, h 22 1)]).length : Int)
      rw [hset_s, r6]
      simp
    · have := r7 i hi
      exact ⟨by rw [hset_n (by decide), hset_n (by decide), hset_n (by decide)]; exact this.1, by rw [hset_n (by decide), hset_n (by decide), hset_n (by decide)]; exact this.2⟩
    · have := r8 i hi
      exact ⟨by rw [hset_n (by decide), hset_n (by decide), hset_n (by decide)]; exact this.1, by rw [hset_n (by decide), hset_n (by decide), hset_n (by decide)]; exact this.2⟩
    · have hi : i < (dC D ++ [(h 22 0, h 22 1)]).length := hi
      simp at hi
      show _ = ((dC D ++ [(h 22 0, h 22 1)]).getD i (0, 0)).1 ∧ _ = ((dC D ++ [(h 22 0, h 22 1)]).getD i (0, 0)).2
      by_cases e : i = (dC D).length
      · subst e
        rw [gd_at, ← r6]
        exact ⟨by rw [hset_n (by decide), hset_m (by omega), hset_s], by rw [hset_n (by decide), hset_s]⟩
      · rw [gd_lt (by omega)]
        have := r9 i (by omega)
        exact ⟨by rw [hset_n (by decide), hset_m (by omega), hset_m (by omega)]; exact this.1, by rw [hset_n (by decide), hset_m (by omega), hset_m (by omega)]; exact this.2⟩
  · -- the first corn
    have hb := hb (by omega)
    rw [if_neg q, if_neg q2, if_neg q3, if_neg q4] at h1 h0
    have el : lastN (dC D) = 0 := by unfold lastN; rw [if_pos (by omega)]
    refine v_X11_isGood_373 c 0 h ⟨by omega, ⟨by omega, by omega⟩, by decide, c_inI ⟨by omega, by omega⟩ (by decide) (by decide) (fun a b => bT ⟨by omega, ⟨by omega, by omega⟩, c_inI ⟨by omega, by omega⟩ (by decide) (by decide) (fun a2 b2 => bT ⟨by omega, ⟨⟨by omega, by omega⟩, by decide⟩, fun q6 => ⟨by omega, by omega, by omega, by omega, by omega, by omega, by omega, by omega, by omega, ?_⟩, fun q6 => ⟨by omega, h0 (if_neg (by omega)) h (kM_rf h)⟩⟩) (fun a2 => bF ⟨by omega, h0 (if_neg (by omega)) h (kM_rf h)⟩)⟩) (fun a => bF ⟨by omega, h0 (if_neg (by omega)) h (kM_rf h)⟩)⟩
    rw [if_pos (by omega)] at h1
    refine h1 _ rfl _ ⟨fun i hi => by simp [hset], by simp [hset], by simp [hset], by simp [hset], fun x hx => ⟨by simp [hset], ?_⟩, fun x hx => by simp [hset], fun a ha => by rw [hset_n (by omega), hset_n (by omega), hset_n (by omega)]⟩ (by simp [hset]) ⟨?_, ?_, ?_, ?_, ?_, ?_, fun i hi => ?_, fun i hi => ?_, fun i hi => ?_⟩
    · rw [hset_n (by decide), hset_m (by omega), hset_m (by omega)]
    · rw [hset_n (by decide), hset_n (by decide), hset_n (by decide)]; exact r1
    · rw [hset_n (by decide), hset_n (by decide), hset_n (by decide)]; exact r2
    · rw [hset_n (by decide), hset_n (by decide), hset_n (by decide)]; exact r3
    · rw [hset_n (by decide), hset_n (by decide), hset_n (by decide)]; exact r4
    · rw [hset_n (by decide), hset_n (by decide), hset_n (by decide)]; exact r5
    · show _ = ((dC D ++ [(h 22 0, h 22 1)]).length : Int)
      rw [hset_s, r6]
      simp
    · have := r7 i hi
      exact ⟨by rw [hset_n (by decide), hset_n (by decide), hset_n (by decide)]; exact this.1, by rw [hset_n (by decide), hset_n (by decide), hset_n (by decide)]; exact this.2⟩
    · have := r8 i hi
      exact ⟨by rw [hset_n (by decide), hset_n (by decide), hset_n (by decide)]; exact this.1, by rw [hset_n (by decide), hset_n (by decide), hset_n (by decide)]; exact this.2⟩
    · have hi : i < (dC D ++ [(h 22 0, h 22 1)]).length := hi
      simp at hi
      show _ = ((dC D ++ [(h 22 0, h 22 1)]).getD i (0, 0)).1 ∧ _ = ((dC D ++ [(h 22 0, h 22 1)]).getD i (0, 0)).2
      by_cases e : i = (dC D).length
      · subst e
        rw [gd_at, ← r6]
        exact ⟨by rw [hset_n (by decide), hset_m (by omega), hset_s], by rw [hset_n (by decide), hset_s]⟩
      · rw [gd_lt (by omega)]
        have := r9 i (by omega)
        exact ⟨by rw [hset_n (by decide), hset_m (by omega), hset_m (by omega)]; exact this.1, by rw [hset_n (by decide), hset_m (by omega), hset_m (by omega)]; exact this.2⟩
  · -- a wall
    have hb := hb (by omega)
    rw [if_neg q, if_neg q2, if_neg q3, if_pos q4] at h1 h0
    refine c_inI ⟨by omega, by omega⟩ (by decide) ⟨by omega, by omega⟩ (fun a b => bT ⟨by omega, ⟨by omega, by omega⟩, by omega, ⟨by omega, by omega⟩, c_inI ⟨by omega, by omega⟩ (by decide) ⟨by omega, by omega⟩ (fun a2 b2 => bT ⟨by omega, by omega, ⟨⟨by omega, by omega⟩, ⟨by omega, by omega⟩⟩, fun q5 => ⟨by omega, h0 (if_neg (by omega)) h (kM_rf h)⟩, fun q5 => ⟨by omega, ⟨⟨by omega, by omega⟩, by decide⟩, fun q6 => ⟨by omega, by omega, by omega, by omega, by omega, by omega, by omega, by omega, by omega, ?_⟩, fun q6 => ⟨by omega, h0 (if_neg (by omega)) h (kM_rf h)⟩⟩⟩) (fun a2 => bF ⟨by omega, h0 (if_neg (by omega)) h (kM_rf h)⟩)⟩) (fun a => bF ⟨by omega, h0 (if_neg (by omega)) h (kM_rf h)⟩)
    rw [if_pos (by omega)] at h1
    refine h1 _ rfl _ ⟨fun i hi => by simp [hset], by simp [hset], by simp [hset], by simp [hset], fun x hx => ⟨by simp [hset], by simp [hset]⟩, fun x hx => by simp [hset], fun a ha => by rw [hset_n (by omega), hset_n (by omega), hset_n (by omega)]⟩ (by simp [hset]) ⟨?_, ?_, ?_, ?_, ?_, ?_, fun i hi => ?_, fun i hi => ?_, fun i hi => ?_⟩
    · rw [hset_n (by decide), hset_n (by decide), hset_n (by decide)]; exact r1
    · rw [hset_n (by decide), hset_n (by decide), hset_n (by decide)]; exact r2
    · rw [hset_n (by decide), hset_n (by decide), hset_n (by decide)]; exact r3
    · rw [hset_n (by decide), hset_n (by decide), hset_n (by decide)]; exact r4
    · show _ = ((dW D ++ [(h 22 0, h 22 1)]).length : Int)
      rw [hset_s, r5]
      simp
    · rw [hset_n (by decide), hset_n (by decide), hset_n (by decide)]; exact r6
    · have := r7 i hi
      exact ⟨by rw [hset_n (by decide), hset_n (by decide), hset_n (by decide)]; exact this.1, by rw [hset_n (by decide), hset_n (by decide), hset_n (by decide)]; exact this.2⟩
    · have hi : i < (dW D ++ [(h 22 0, h 22 1)]).length := hi
      simp at hi
      show _ = ((dW D ++ [(h 22 0, h 22 1)]).getD i (0, 0)).1 ∧ _ = ((dW D ++ [(h 22 0, h 22 1)]).getD i (0, 0)).2
      by_cases e : i = (dW D).length
      · subst e
        rw [gd_at, ← r5]
        exact ⟨by rw [hset_n (by decide), hset_m (by omega), hset_s], by rw [hset_n (by decide), hset_s]⟩
      · rw [gd_lt (by omega)]
        have := r8 i (by omega)
        exact ⟨by rw [hset_n (by decide), hset_m (by omega), hset_m (by omega)]; exact this.1, by rw [hset_n (by decide), hset_m (by omega), hset_m (by omega)]; exact this.2⟩
    · have := r9 i hi
      exact ⟨by rw [hset_n (by decide), hset_n (by decide), hset_n (by decide)]; exact this.1, by rw [hset_n (by decide), hset_n (by decide), hset_n (by decide)]; exact this.2⟩
  · -- rats
    have hb := hb (by omega)
    rw [if_neg q, if_neg q2, if_pos q3] at h1 h0
    have hk : kM h (hset (hset h 5 4 (h 22 0)) 5 5 (h 22 1)) := ⟨fun i hi => by simp [hset], by simp [hset], by simp [hset], by simp [hset], fun x hx => ⟨by simp [hset], by simp [hset]⟩, fun x hx => by rw [hset_m (by omega), hset_m (by omega)], fun a ha => by rw [hset_n (by omega), hset_n (by omega)]⟩
    have e22 : (hset (hset h 5 4 (h 22 0)) 5 5 (h 22 1)) 22 = h 22 := by rw [hset_n (by decide), hset_n (by decide)]
    refine c_inI ⟨by omega, by omega⟩ (by decide) (by decide) (fun a b => bT ⟨by omega, by rw [e22]; exact ⟨by omega, by omega⟩, ?_⟩) (fun a => bF ⟨by omega, h0 (if_neg (by omega)) _ hk⟩)
    rw [e22]
    refine c_inI ⟨by omega, by omega⟩ (by decide) (by decide) (fun a2 b2 => bT ⟨by omega, ?_⟩) (fun a2 => bF ⟨by omega, h0 (if_neg (by omega)) _ hk⟩)
    rw [if_pos (by omega)] at h1
    refine h1 _ rfl _ hk (by simp [hset]) ⟨?_, ?_, ?_, ?_, ?_, ?_, fun i hi => ?_, fun i hi => ?_, fun i hi => ?_⟩
    · rw [hset_n (by decide), hset_n (by decide)]; exact r1
    · rw [hset_m (by decide), hset_m (by decide)]; exact r2
    · rw [hset_m (by decide), hset_s]
    · rw [hset_s]
    · rw [hset_n (by decide), hset_n (by decide)]; exact r5
    · rw [hset_n (by decide), hset_n (by decide)]; exact r6
    · have := r7 i hi
      exact ⟨by rw [hset_n (by decide), hset_n (by decide)]; exact this.1, by rw [hset_n (by decide), hset_n (by decide)]; exact this.2⟩
    · have := r8 i hi
      exact ⟨by rw [hset_n (by decide), hset_n (by decide)]; exact this.1, by rw [hset_n (by decide), hset_n (by decide)]; exact this.2⟩
    · have := r9 i hi
      exact ⟨by rw [hset_n (by decide), hset_n (by decide)]; exact this.1, by rw [hset_n (by decide), hset_n (by decide)]; exact this.2⟩
  · -- kind
    rw [if_neg q, if_pos q2] at h1 h0
    have hk : kM h (hset h 5 3 (h 22 0)) := ⟨fun i hi => by simp [hset], by simp [hset], by simp [hset], by simp [hset], fun x hx => ⟨by simp [hset], by simp [hset]⟩, fun x hx => by rw [hset_m (by omega)], fun a ha => by rw [hset_n (by omega)]⟩
    refine c_inI ⟨by omega, by omega⟩ (by decide) (by decide) (fun a b => ⟨by omega, ?_⟩) (fun a => ⟨by omega, h0 (if_neg (by omega)) _ hk⟩)
    rw [if_pos (by omega)] at h1
    refine h1 _ rfl _ hk (by simp [hset]) ⟨?_, ?_, ?_, ?_, ?_, ?_, fun i hi => ?_, fun i hi => ?_, fun i hi => ?_⟩
    · rw [hset_n (by decide)]; exact r1
    · rw [hset_s]
    · rw [hset_m (by decide)]; exact r3
    · rw [hset_m (by decide)]; exact r4
    · rw [hset_n (by decide)]; exact r5
    · rw [hset_n (by decide)]; exact r6
    · have := r7 i hi
      exact ⟨by rw [hset_n (by decide)]; exact this.1, by rw [hset_n (by decide)]; exact this.2⟩
    · have := r8 i hi
      exact ⟨by rw [hset_n (by decide)]; exact this.1, by rw [hset_n (by decide)]; exact this.2⟩
    · have := r9 i hi
      exact ⟨by rw [hset_n (by decide)]; exact this.1, by rw [hset_n (by decide)]; exact this.2⟩
  · -- a bin
    have hb := hb (by omega)
    rw [if_pos q] at h1 h0
    refine c_inI ⟨by omega, by omega⟩ (by decide) (by decide) (fun a b => bT ⟨by omega, ⟨by omega, by omega⟩, c_inI ⟨by omega, by omega⟩ (by decide) (by decide) (fun a2 b2 => bT ⟨by omega, ⟨⟨by omega, by omega⟩, by decide⟩, fun q6 => ⟨by omega, by omega, by omega, by omega, by omega, by omega, by omega, by omega, by omega, ?_⟩, fun q6 => ⟨by omega, h0 (if_neg (by omega)) h (kM_rf h)⟩⟩) (fun a2 => bF ⟨by omega, h0 (if_neg (by omega)) h (kM_rf h)⟩)⟩) (fun a => bF ⟨by omega, h0 (if_neg (by omega)) h (kM_rf h)⟩)
    rw [if_pos (by omega)] at h1
    refine h1 _ rfl _ ⟨fun i hi => by simp [hset], by simp [hset], by simp [hset], by simp [hset], fun x hx => ⟨by rw [hset_n (by decide), hset_m (by omega), hset_n (by decide)], by simp [hset]⟩, fun x hx => by simp [hset], fun a ha => by rw [hset_n (by omega), hset_n (by omega), hset_n (by omega)]⟩ (by simp [hset]) ⟨?_, ?_, ?_, ?_, ?_, ?_, fun i hi => ?_, fun i hi => ?_, fun i hi => ?_⟩
    · show _ = ((dB D ++ [(h 22 0, h 22 1)]).length : Int)
      rw [hset_s, r1]
      simp
    · rw [hset_n (by decide), hset_n (by decide), hset_n (by decide)]; exact r2
    · rw [hset_n (by decide), hset_n (by decide), hset_n (by decide)]; exact r3
    · rw [hset_n (by decide), hset_n (by decide), hset_n (by decide)]; exact r4
    · rw [hset_n (by decide), hset_n (by decide), hset_n (by decide)]; exact r5
    · rw [hset_n (by decide), hset_n (by decide), hset_n (by decide)]; exact r6
    · have hi : i < (dB D ++ [(h 22 0, h 22 1)]).length := hi
      simp at hi
      show _ = ((dB D ++ [(h 22 0, h 22 1)]).getD i (0, 0)).1 ∧ _ = ((dB D ++ [(h 22 0, h 22 1)]).getD i (0, 0)).2
      by_cases e : i = (dB D).length
      · subst e
        rw [gd_at, ← r1]
        exact ⟨by rw [hset_n (by decide), hset_n (by decide), hset_s], by rw [hset_n (by decide), hset_s]⟩
      · rw [gd_lt (by omega)]
        have := r7 i (by omega)
        exact ⟨by rw [hset_n (by decide), hset_n (by decide), hset_m (by omega)]; exact this.1, by rw [hset_n (by decide), hset_m (by omega), hset_n (by decide)]; exact this.2⟩
    · have := r8 i hi
      exact ⟨by rw [hset_n (by decide), hset_n (by decide), hset_n (by decide)]; exact this.1, by rw [hset_n (by decide), hset_n (by decide), hset_n (by decide)]; exact this.2⟩
    · have := r9 i hi
      exact ⟨by rw [hset_n (by decide), hset_n (by decide), hset_n (by decide)]; exact this.1, by rw [hset_n (by decide), hset_n (by decide), hset_n (by decide)]; exact this.2⟩
