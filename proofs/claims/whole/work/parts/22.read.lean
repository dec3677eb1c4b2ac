/-! THE CLASS READS -/
def rpX (β : Nat) (h : HP) (D : DD) : Prop := h β 2 = (dB D).length ∧ h β 3 = dK D ∧ h β 4 = dR D ∧ h β 5 = dV D ∧ h β 8 = (dW D).length ∧ h β 11 = (dC D).length ∧
  (∀ i : Nat, i < (dB D).length → h (β + 1) i = ((dB D).getD i (0, 0)).1 ∧ h (β + 2) i = ((dB D).getD i (0, 0)).2) ∧ (∀ i : Nat, i < (dW D).length → h (β + 3) i = ((dW D).getD i (0, 0)).1 ∧ h (β + 4) i = ((dW D).getD i (0, 0)).2) ∧ (∀ i : Nat, i < (dC D).length → h (β + 5) i = ((dC D).getD i (0, 0)).1 ∧ h (β + 6) i = ((dC D).getD i (0, 0)).2)
theorem c_due {d : Nat} {P : Int → HP → Prop} {c : Int} {h : HP} (hc : iR c) (hP : P (due c) h) : Ct KX d mX9_numbersDue [aI c] h (rI P) := by
  refine e_X9_numbersDue c h ⟨hc, fun q hq e => ?_, fun hn => ?_⟩
  · simp only [List.mem_cons, List.not_mem_nil, or_false] at hq
    rcases hq with rfl | rfl | rfl | rfl | rfl <;> (dsimp only at e ⊢; subst e)
    · exact v_X9_numbersDue_54 _ h hP
    · exact v_X9_numbersDue_54 _ h hP
    · exact v_X9_numbersDue_54 _ h hP
    · exact v_X9_numbersDue_52 _ h hP
    · exact v_X9_numbersDue_54 _ h hP
  · refine v_X9_numbersDue_56 _ h (cP hP ?_)
    have h1 := hn (98, 54) (by simp)
    have h2 := hn (99, 54) (by simp)
    have h3 := hn (114, 54) (by simp)
    have h4 := hn (115, 52) (by simp)
    have h5 := hn (119, 54) (by simp)
    dsimp only at h1 h2 h3 h4 h5
    unfold due
    rw [if_neg (by omega), if_neg (by omega)]
theorem c_figs {d : Nat} {P : Int → HP → Prop} {i len : Int} {h : HP} (hi : 0 ≤ i ∧ i ≤ len) (hl : len ≤ 300) (ht : ∀ j, 0 ≤ j → j < 300 → -128 ≤ h 1 j ∧ h 1 j ≤ 127) (hP : P (i + fc (h 1) len i) h) : Ct KX (d + 1) mX9_behindFigures [aR 1, aI i, aI len] h (rI P) := by
  refine e_X9_behindFigures i len h ⟨⟨⟨by omega, by omega⟩, ⟨by omega, by omega⟩⟩, ?_⟩
  have key : ∀ (m k : Nat), k + m = 3 → k ≤ fc (h 1) len i → V KX (d + 1) mX9_behindFigures 11 [some (aR 1), some (aI i), some (aI len), some (aI (min len (i + 3))), some (aI (i + k))] [] h (rI P) := by
    intro m
    induction m with
    | zero =>
      intro k hk hf
      have h3 := fc_in (h 1) len i
      have hq := fc_dig (tx := h 1) (len := len) (i := i) (j := 2) (by omega)
      refine v_X9_behindFigures_11 i len _ _ h ⟨⟨⟨by omega, by omega⟩, ⟨by omega, by omega⟩⟩, fun q => ⟨⟨⟨by omega, by omega⟩, ⟨by omega, by omega⟩⟩, cP hP (by omega)⟩, fun q => absurd q (by omega)⟩
    | succ m ih =>
      intro k hk hf
      have h3 := fc_in (h 1) len i
      refine v_X9_behindFigures_11 i len _ _ h ⟨⟨⟨by omega, by omega⟩, ⟨by omega, by omega⟩⟩, fun q => ⟨⟨⟨by omega, by omega⟩, ⟨by omega, by omega⟩⟩, ?_⟩, fun q => ⟨by omega, ?_⟩⟩
      · have hn : fc (h 1) len i = k := by
          rcases Nat.lt_or_ge k (fc (h 1) len i) with z | z
          · have := fc_dig (tx := h 1) (len := len) (i := i) (j := k) z
            omega
          · omega
        have hlt : k = 0 ∨ i + (k : Int) - 1 < len := by
          rcases Nat.eq_zero_or_pos k with z | z
          · exact Or.inl z
          · have := (fc_dig (tx := h 1) (len := len) (i := i) (j := k - 1) (by omega)).1
            right
            omega
        refine cP hP ?_
        rw [hn]
        omega
      · have hb := ht (i + k) (by omega) (by omega)
        refine c_within ⟨by omega, by omega⟩ (by decide) (by decide) (fun a b => bT' ?_) (fun a => bF' ?_)
        · have hlt : k < fc (h 1) len i := by
            rcases Nat.lt_or_ge k (fc (h 1) len i) with z | z
            · exact z
            · have e : fc (h 1) len i = k := by omega
              exact absurd (show dig (h 1) len (i + fc (h 1) len i) by rw [e]; exact ⟨by omega, a, b⟩) (fc_end (by omega))
          have := ih (k + 1) (by omega) (by omega)
          rwa [show i + ((k + 1 : Nat) : Int) = i + k + 1 by omega] at this
        · have hn : fc (h 1) len i = k := by
            rcases Nat.lt_or_ge k (fc (h 1) len i) with z | z
            · have := fc_dig (tx := h 1) (len := len) (i := i) (j := k) z
              omega
            · omega
          refine cP hP ?_
          rw [hn]
  have := key 3 0 rfl (Nat.zero_le _)
  rwa [show i + ((0 : Nat) : Int) = i by omega] at this
theorem c_numberIn {d : Nat} {P : Int → HP → Prop} {i : Int} {n : Nat} {h : HP} (hi : 0 ≤ i ∧ i + n ≤ 300) (hP : P (vl (h 1) i n) h) : Ct KX d mX9_numberIn [aR 1, aI i, aI (i + n)] h (rI P) := by
  refine e_X9_numberIn i _ h ?_
  have key : ∀ (m k : Nat), k + m = n → V KX d mX9_numberIn 5 [some (aR 1), some (aI i), some (aI (i + n)), some (aI (vl (h 1) i k)), some (aI (i + k))] [] h (rI P) := by
    intro m
    induction m with
    | zero =>
      intro k hk
      refine v_X9_numberIn_5 i _ _ _ h ⟨⟨⟨by omega, by omega⟩, ⟨by omega, by omega⟩⟩, fun q => cP hP (by rw [show k = n by omega]), fun q => absurd q (by omega)⟩
    | succ m ih =>
      intro k hk
      have := ih (k + 1) (by omega)
      rw [vl, show i + ((k + 1 : Nat) : Int) = i + k + 1 by omega] at this
      refine v_X9_numberIn_5 i _ _ _ h ⟨⟨⟨by omega, by omega⟩, ⟨by omega, by omega⟩⟩, fun q => absurd q (by omega), fun q => ⟨by omega, this⟩⟩
  have := key n 0 (by omega)
  rwa [show i + ((0 : Nat) : Int) = i by omega] at this
/-- one number of an item with the sign behind it -/
theorem c_num1 {d : Nat} {P : Int → HP → Prop} {s len dd i k sep : Int} {h : HP} (hs : 0 ≤ s ∧ s < 300) (hd : dd = 1 ∨ dd = 2) (hk : 0 ≤ k ∧ k < dd) (hsep : sep = if k = dd - 1 then 59 else 44) (hi : 0 ≤ i ∧ i ≤ len) (hl : len ≤ 300) (ht : ∀ j, 0 ≤ j → j < 300 → -128 ≤ h 1 j ∧ h 1 j ≤ 127)
    (h1 : ∀ q, pnm (h 1) len i sep = some q → V KX (d + 2) mX9_behindItem 16 [some (aR 2), some (aR 1), some (aI s), some (aI len), some (aI dd), some (aI q.2), some (aI (k + 1)), none] [] (hset h 3 k q.1) (rI P))
    (h0 : pnm (h 1) len i sep = none → ∀ h', (∀ a, a ≠ 3 → h' a = h a) → P (-4) h') :
    V KX (d + 2) mX9_behindItem 16 [some (aR 2), some (aR 1), some (aI s), some (aI len), some (aI dd), some (aI i), some (aI k), none] [] h (rI P) := by
  have h3 := fc_in (h 1) len i
  unfold pnm at h1 h0
  refine v_X9_behindItem_16 s len dd i k h ⟨⟨⟨by omega, by omega⟩, ⟨by omega, by omega⟩⟩, fun q => absurd q (by omega), fun _ => c_figs hi hl ht ⟨⟨⟨by omega, by omega⟩, ⟨by omega, by omega⟩⟩, fun q => ?_, fun q => ⟨⟨⟨by omega, by omega⟩, ⟨by omega, by omega⟩⟩, fun q2 => c_numberIn ⟨hi.1, by omega⟩ ⟨by omega, by omega, ⟨⟨by omega, by omega⟩, ⟨by omega, by omega⟩⟩, fun q3 => ?_, fun q3 => ?_⟩, fun q2 => ?_⟩⟩⟩
  · rw [if_neg (by omega)] at h0
    exact h0 rfl h (fun _ _ => rfl)
  all_goals try (have hb := ht (i + fc (h 1) len i) (by omega) (by omega))
  · rw [if_neg q3] at hsep
    subst hsep
    refine v_X9_behindItem_83 s len dd i k _ 44 _ _ ⟨⟨⟨by omega, by omega⟩, by decide⟩, fun q4 => ?_, fun q4 => ?_⟩
    · rw [if_pos ⟨by omega, q2, q4⟩] at h1
      exact h1 (vl (h 1) i (fc (h 1) len i), i + fc (h 1) len i + 1) rfl
    · rw [if_neg (fun z => q4 z.2.2)] at h0
      exact h0 rfl _ (fun a ha => hset_n ha)
  · rw [if_pos q3] at hsep
    subst hsep
    refine v_X9_behindItem_83 s len dd i k _ 59 _ _ ⟨⟨⟨by omega, by omega⟩, by decide⟩, fun q4 => ?_, fun q4 => ?_⟩
    · rw [if_pos ⟨by omega, q2, q4⟩] at h1
      exact h1 (vl (h 1) i (fc (h 1) len i), i + fc (h 1) len i + 1) rfl
    · rw [if_neg (fun z => q4 z.2.2)] at h0
      exact h0 rfl _ (fun a ha => hset_n ha)
  · rw [if_neg (by omega)] at h0
    exact h0 rfl h (fun _ _ => rfl)
theorem c_item {d : Nat} {P : Int → HP → Prop} {s len : Int} {h : HP} (hs : 0 ≤ s ∧ s < len) (hl : len ≤ 300) (ht : ∀ j, 0 ≤ j → j < 300 → -128 ≤ h 1 j ∧ h 1 j ≤ 127)
    (h1 : ∀ q, ptm (h 1) len s = some q → ∀ h', (∀ a, a ≠ 3 → h' a = h a) → h' 3 0 = q.1 → (h 1 s ≠ 115 → h' 3 1 = q.2.1) → P q.2.2 h') (h0 : ptm (h 1) len s = none → ∀ h', (∀ a, a ≠ 3 → h' a = h a) → P (-4) h') :
    Ct KX (d + 2) mX9_behindItem [aR 2, aR 1, aI s, aI len] h (rI P) := by
  have hb := ht s (by omega) (by omega)
  unfold ptm at h1 h0
  refine e_X9_behindItem s len h ⟨by omega, c_due ⟨by omega, by omega⟩ ?_⟩
  have hd : due (h 1 s) = 0 ∨ due (h 1 s) = 1 ∨ due (h 1 s) = 2 := by unfold due; (repeat' split) <;> omega
  rcases hd with e | e | e
  · rw [e]
    rw [e, if_neg (by decide), if_neg (by decide)] at h0
    exact v_X9_behindItem_16 s len 0 _ 0 h ⟨⟨by decide, by decide⟩, fun _ => ⟨by decide, fun q => absurd rfl q, fun _ => h0 rfl h (fun _ _ => rfl)⟩, fun q => absurd q (by omega)⟩
  · rw [e]
    rw [e, if_pos rfl] at h0 h1
    refine c_num1 (sep := 59) (by omega) (Or.inl rfl) (by omega) (by decide) (by omega) hl ht (fun q hq => ?_) (fun hq h' ha => ?_)
    · rw [hq] at h1
      have h9 := h1 _ rfl (hset h 3 0 q.1) (fun a ha => hset_n ha) hset_s (fun z => absurd (by unfold due at e; (repeat' split at e) <;> omega) z)
      have := pnm_in hq
      exact v_X9_behindItem_16 s len 1 _ _ _ ⟨⟨by decide, by decide⟩, fun _ => ⟨by decide, fun _ => h9, fun q => absurd q (by decide)⟩, fun q => absurd q (by omega)⟩
    · rw [hq] at h0
      exact h0 rfl h' ha
  · rw [e]
    rw [e, if_neg (by decide), if_pos rfl] at h0 h1
    refine c_num1 (sep := 44) (by omega) (Or.inr rfl) (by omega) (by decide) (by omega) hl ht (fun q hq => ?_) (fun hq h' ha => ?_)
    · rw [hq] at h1 h0
      have hi := pnm_in hq
      have e1 : (hset h 3 0 q.1) 1 = h 1 := hset_n (by decide)
      refine c_num1 (sep := 59) (by omega) (Or.inr rfl) (by omega) (by decide) (by omega) hl (by rw [e1]; exact ht) (fun r hr => ?_) (fun hr h' ha => ?_)
      · rw [e1] at hr
        dsimp only at h1 h0
        rw [hr] at h1
        have h9 := h1 _ rfl (hset (hset h 3 0 q.1) 3 (0 + 1) r.1) (fun a ha => by rw [hset_n ha, hset_n ha]) (by rw [hset_m (by decide), hset_s]) (fun _ => hset_s)
        exact v_X9_behindItem_16 s len 2 _ _ _ ⟨⟨by decide, by decide⟩, fun _ => ⟨by decide, fun _ => h9, fun q => absurd q (by decide)⟩, fun q => absurd q (by omega)⟩
      · rw [e1] at hr
        dsimp only at h1 h0
        rw [hr] at h0
        exact h0 rfl h' (fun a hx => by rw [ha a hx, hset_n hx])
    · rw [hq] at h0
      exact h0 rfl h' ha
theorem c_clear4 {d : Nat} {P : HP → Prop} {h : HP} (hP : ∀ h', (∀ a, a ≠ 4 → h' a = h a) → rpX 4 h' D0 → P h') : Ct KX d mX0_clear [aR 4] h (rV P) := by
  refine e_X0_clear_4 h (hP _ (fun a ha => by rw [hset_n ha, hset_n ha, hset_n ha, hset_n ha, hset_n ha, hset_n ha, hset_n ha]) ⟨by show _ = (0 : Int); simp [hset], by show _ = (0 : Int); simp [hset], by show _ = (0 : Int); simp [hset], by show _ = (0 : Int); simp [hset], by show _ = (0 : Int); simp [hset], by show _ = (0 : Int); simp [hset], fun i hi => absurd hi (by show ¬ i < 0; omega), fun i hi => absurd hi (by show ¬ i < 0; omega), fun i hi => absurd hi (by show ¬ i < 0; omega)⟩)
set_option maxHeartbeats 1000000 in
theorem c_tell4 {d : Nat} {P : Int → HP → Prop} {c : Int} {D : DD} {h : HP} (hr : rpX 4 h D) (hw : wfD D) (hc : c = 98 ∨ c = 99 ∨ c = 114 ∨ c = 119 ∨ c = 115) (ha : 0 ≤ h 3 0 ∧ h 3 0 ≤ 999) (hb : c ≠ 115 → 0 ≤ h 3 1 ∧ h 3 1 ≤ 999)
    (h1 : ∀ D', good c (h 3 0) (h 3 1) D = some D' → ∀ h', (∀ a, (a < 4 ∨ 4 + 6 < a) → h' a = h a) → rpX 4 h' D' → P 1 h') (h0 : good c (h 3 0) (h 3 1) D = none → P 0 h) :
    Ct KX (d + 2) mX9_tell [aR 2, aR 4, aI c] h (rI P) := by
  obtain ⟨r1, r2, r3, r4, r5, r6, r7, r8, r9⟩ := id hr
  obtain ⟨⟨w1, w2⟩, w3, w4, w5, ⟨w6, w7⟩, w8, w9⟩ := hw
  unfold good at h1 h0
  refine e_X9_tell_4 c h ⟨⟨by omega, by omega⟩, fun q hq e => ?_, fun hn => ?_⟩
  · simp only [List.mem_cons, List.not_mem_nil, or_false] at hq
    rcases hq with rfl | rfl | rfl | rfl | rfl <;> (dsimp only at e ⊢; subst e)
    · have hb := hb (by decide)
      rw [if_pos rfl] at h1 h0
      refine v_X9_tell_4_52 _ h ⟨by omega, by omega, e_X0_addBin_4 _ _ h ⟨⟨⟨by omega, by omega⟩, by decide⟩, fun q => ⟨by omega, by omega, ?_⟩, fun q => ⟨⟨⟨by omega, by omega⟩, by decide⟩, fun q2 => ⟨by omega, by omega, ?_⟩, fun q2 => ⟨⟨⟨by omega, by omega⟩, by decide⟩, fun q3 => ⟨by omega, by omega, by omega, by omega, ?_⟩, fun q3 => ⟨by omega, by omega, ?_⟩⟩⟩⟩⟩
      · rw [if_neg (by omega)] at h0; exact h0 rfl
      · rw [if_neg (by omega)] at h0; exact h0 rfl
      · rw [if_pos (by omega)] at h1
        refine h1 _ rfl _ (fun a hx => by rw [hset_n (by omega), hset_n (by omega), hset_n (by omega)]) ⟨?_, ?_, ?_, ?_, ?_, ?_, fun i hi => ?_, fun i hi => ?_, fun i hi => ?_⟩
        · show (hset (hset (hset h 5 (h 4 2) (h 3 0)) 6 (h 4 2) (h 3 1)) 4 2 (h 4 2 + 1)) 4 2 = ((dB D ++ [(h 3 0, h 3 1)]).length : Int)
          rw [hset_s, r1]
          simp
        · rw [hset_m (by decide), hset_n (by decide), hset_n (by decide)]; exact r2
        · rw [hset_m (by decide), hset_n (by decide), hset_n (by decide)]; exact r3
        · rw [hset_m (by decide), hset_n (by decide), hset_n (by decide)]; exact r4
        · rw [hset_m (by decide), hset_n (by decide), hset_n (by decide)]; exact r5
        · rw [hset_m (by decide), hset_n (by decide), hset_n (by decide)]; exact r6
        · have hi : i < (dB D ++ [(h 3 0, h 3 1)]).length := hi
          simp at hi
          show _ = ((dB D ++ [(h 3 0, h 3 1)]).getD i (0, 0)).1 ∧ _ = ((dB D ++ [(h 3 0, h 3 1)]).getD i (0, 0)).2
          by_cases e : i = (dB D).length
          · subst e
            rw [gd_at, ← r1]
            exact ⟨by rw [hset_n (by decide), hset_n (by decide), hset_s], by rw [hset_n (by decide), hset_s]⟩
          · rw [gd_lt (by omega)]
            have := r7 i (by omega)
            exact ⟨by rw [hset_n (by decide), hset_n (by decide), hset_m (by omega)]; exact this.1, by rw [hset_n (by decide), hset_m (by omega), hset_n (by decide)]; exact this.2⟩
        · have := r8 i hi
          exact ⟨by rw [hset_n (by decide), hset_n (by decide), hset_n (by decide)]; exact this.1, by rw [hset_n (by decide), hset_n (by decide), hset_n (by decide)]; exact this.2⟩
        · have := r9 i hi
          exact ⟨by rw [hset_n (by decide), hset_n (by decide), hset_n (by decide)]; exact this.1, by rw [hset_n (by decide), hset_n (by decide), hset_n (by decide)]; exact this.2⟩
      · rw [if_neg (by omega)] at h0; exact h0 rfl
    · have hb := hb (by decide)
      rw [if_neg (by decide), if_neg (by decide), if_neg (by decide), if_neg (by decide)] at h1 h0
      have hlast : 0 < h 4 11 → h 9 (h 4 11 - 1) = lastN (dC D) ∧ 0 ≤ lastN (dC D) ∧ lastN (dC D) ≤ 30 := by
        intro hp
        have e1 := r9 ((dC D).length - 1) (by omega)
        have e2 := w9 ((dC D).length - 1) (by omega)
        unfold lastN
        rw [if_neg (by omega)]
        rw [show h 4 11 - 1 = (((dC D).length - 1 : Nat) : Int) by omega]
        exact ⟨e1.1, e2.1⟩
      have fin : h 4 11 < 4 → h 3 0 ≤ 30 → 1 ≤ h 3 1 → h 3 1 ≤ 60 → lastN (dC D) ≤ h 3 0 → V KX (d + 1) mX0_addCorn 50 [some (aR 4), some (aI (h 3 0)), some (aI (h 3 1))] [] h (rI fun (v1 : Int) (h1 : HP) => (v1 = 0 ∨ v1 = 1) ∧ P v1 h1) := by
        intro z1 z2 z3 z4 z5
        rw [if_pos (by omega)] at h1
        refine v_X0_addCorn_4_50 _ _ h ⟨by omega, by omega, by omega, by omega, h1 _ rfl _ (fun a hx => by rw [hset_n (by omega), hset_n (by omega), hset_n (by omega)]) ⟨?_, ?_, ?_, ?_, ?_, ?_, fun i hi => ?_, fun i hi => ?_, fun i hi => ?_⟩⟩
        · rw [hset_m (by decide), hset_n (by decide), hset_n (by decide)]; exact r1
        · rw [hset_m (by decide), hset_n (by decide), hset_n (by decide)]; exact r2
        · rw [hset_m (by decide), hset_n (by decide), hset_n (by decide)]; exact r3
        · rw [hset_m (by decide), hset_n (by decide), hset_n (by decide)]; exact r4
        · rw [hset_m (by decide), hset_n (by decide), hset_n (by decide)]; exact r5
        · show (hset (hset (hset h 9 (h 4 11) (h 3 0)) 10 (h 4 11) (h 3 1)) 4 11 (h 4 11 + 1)) 4 11 = ((dC D ++ [(h 3 0, h 3 1)]).length : Int)
          rw [hset_s, r6]
          simp
        · have := r7 i hi
          exact ⟨by rw [hset_n (by decide), hset_n (by decide), hset_n (by decide)]; exact this.1, by rw [hset_n (by decide), hset_n (by decide), hset_n (by decide)]; exact this.2⟩
        · have := r8 i hi
          exact ⟨by rw [hset_n (by decide), hset_n (by decide), hset_n (by decide)]; exact this.1, by rw [hset_n (by decide), hset_n (by decide), hset_n (by decide)]; exact this.2⟩
        · have hi : i < (dC D ++ [(h 3 0, h 3 1)]).length := hi
          simp at hi
          show _ = ((dC D ++ [(h 3 0, h 3 1)]).getD i (0, 0)).1 ∧ _ = ((dC D ++ [(h 3 0, h 3 1)]).getD i (0, 0)).2
          by_cases e : i = (dC D).length
          · subst e
            rw [gd_at, ← r6]
            exact ⟨by rw [hset_n (by decide), hset_n (by decide), hset_s], by rw [hset_n (by decide), hset_s]⟩
          · rw [gd_lt (by omega)]
            have := r9 i (by omega)
            exact ⟨by rw [hset_n (by decide), hset_n (by decide), hset_m (by omega)]; exact this.1, by rw [hset_n (by decide), hset_m (by omega), hset_n (by decide)]; exact this.2⟩
      refine v_X9_tell_4_114 _ h ⟨by omega, by omega, e_X0_addCorn_4 _ _ h ⟨⟨⟨by omega, by omega⟩, by decide⟩, fun q => ⟨by omega, by omega, ?_⟩, fun q => ⟨⟨⟨by omega, by omega⟩, by decide⟩, fun q2 => ⟨by omega, by omega, ?_⟩, fun q2 => c_within ⟨by omega, by omega⟩ (by decide) (by decide) (fun q3 q4 => bT' ⟨⟨by omega, by omega⟩, fun q5 => fin q q2 q3 q4 ?_, fun q5 => ⟨by omega, ⟨⟨by omega, by omega⟩, by rw [(hlast q5).1]; exact ⟨by have := (hlast q5).2; omega, by have := (hlast q5).2; omega⟩⟩, fun q6 => fin q q2 q3 q4 (by rw [← (hlast q5).1]; exact q6), fun q6 => ⟨by omega, by omega, ?_⟩⟩⟩) (fun q3 => bF' ⟨by omega, by omega, ?_⟩)⟩⟩⟩
      · rw [if_neg (by omega)] at h0; exact h0 rfl
      · rw [if_neg (by omega)] at h0; exact h0 rfl
      · unfold lastN
        rw [if_pos (by omega)]
        exact ha.1
      · rw [(hlast q5).1] at q6
        rw [if_neg (by omega)] at h0; exact h0 rfl
      · rw [if_neg (by omega)] at h0; exact h0 rfl
    · have hb := hb (by decide)
      rw [if_neg (by decide), if_neg (by decide), if_pos rfl] at h1 h0
      refine v_X9_tell_4_80 _ h ⟨by omega, by omega, e_X0_setRats_4 _ _ h ⟨⟨⟨by omega, by omega⟩, by decide⟩, fun q => ⟨by omega, by omega, ?_⟩, fun q => ⟨⟨⟨by omega, by omega⟩, by decide⟩, fun q2 => ⟨by omega, by omega, ?_⟩, fun q2 => ⟨by omega, by omega, ?_⟩⟩⟩⟩
      · rw [if_neg (by omega)] at h0; exact h0 rfl
      · rw [if_pos (by omega)] at h1
        refine h1 _ rfl _ (fun a hx => by rw [hset_n (by omega), hset_n (by omega)]) ⟨?_, ?_, ?_, ?_, ?_, ?_, fun i hi => ?_, fun i hi => ?_, fun i hi => ?_⟩
        · rw [hset_m (by decide), hset_m (by decide)]; exact r1
        · rw [hset_m (by decide), hset_m (by decide)]; exact r2
        · rw [hset_m (by decide), hset_s]
        · rw [hset_s]
        · rw [hset_m (by decide), hset_m (by decide)]; exact r5
        · rw [hset_m (by decide), hset_m (by decide)]; exact r6
        · rw [hset_n (by decide), hset_n (by decide), hset_n (by decide), hset_n (by decide)]; exact r7 i hi
        · rw [hset_n (by decide), hset_n (by decide), hset_n (by decide), hset_n (by decide)]; exact r8 i hi
        · rw [hset_n (by decide), hset_n (by decide), hset_n (by decide), hset_n (by decide)]; exact r9 i hi
      · rw [if_neg (by omega)] at h0; exact h0 rfl
    · rw [if_neg (by decide), if_pos rfl] at h1 h0
      refine v_X9_tell_4_69 _ h ⟨by omega, e_X0_setKind_4 _ h ⟨⟨⟨by omega, by omega⟩, by decide⟩, fun q => ⟨by omega, by omega, ?_⟩, fun q => ⟨by omega, by omega, ?_⟩⟩⟩
      · rw [if_pos (by omega)] at h1
        refine h1 _ rfl _ (fun a hx => by rw [hset_n (by omega)]) ⟨?_, ?_, ?_, ?_, ?_, ?_, fun i hi => ?_, fun i hi => ?_, fun i hi => ?_⟩
        · rw [hset_m (by decide)]; exact r1
        · rw [hset_s]
        · rw [hset_m (by decide)]; exact r3
        · rw [hset_m (by decide)]; exact r4
        · rw [hset_m (by decide)]; exact r5
        · rw [hset_m (by decide)]; exact r6
        · rw [hset_n (by decide), hset_n (by decide)]; exact r7 i hi
        · rw [hset_n (by decide), hset_n (by decide)]; exact r8 i hi
        · rw [hset_n (by decide), hset_n (by decide)]; exact r9 i hi
      · rw [if_neg (by omega)] at h0; exact h0 rfl
    · have hb := hb (by decide)
      rw [if_neg (by decide), if_neg (by decide), if_neg (by decide), if_pos rfl] at h1 h0
      refine v_X9_tell_4_97 _ h ⟨by omega, by omega, e_X0_addWall_4 _ _ h ⟨⟨⟨by omega, by omega⟩, by decide⟩, fun q => ⟨by omega, by omega, ?_⟩, fun q => ⟨⟨⟨by omega, by omega⟩, ⟨by omega, by omega⟩⟩, fun q2 => ⟨by omega, by omega, ?_⟩, fun q2 => ⟨⟨⟨by omega, by omega⟩, ⟨by omega, by omega⟩⟩, fun q3 => ⟨by omega, by omega, ?_⟩, fun q3 => ⟨⟨⟨by omega, by omega⟩, ⟨by omega, by omega⟩⟩, fun q4 => ⟨by omega, by omega, by omega, by omega, ?_⟩, fun q4 => ⟨by omega, by omega, ?_⟩⟩⟩⟩⟩⟩
      · rw [if_neg (by omega)] at h0; exact h0 rfl
      · rw [if_neg (by omega)] at h0; exact h0 rfl
      · rw [if_neg (by omega)] at h0; exact h0 rfl
      · rw [if_pos (by omega)] at h1
        refine h1 _ rfl _ (fun a hx => by rw [hset_n (by omega), hset_n (by omega), hset_n (by omega)]) ⟨?_, ?_, ?_, ?_, ?_, ?_, fun i hi => ?_, fun i hi => ?_, fun i hi => ?_⟩
        · rw [hset_m (by decide), hset_n (by decide), hset_n (by decide)]; exact r1
        · rw [hset_m (by decide), hset_n (by decide), hset_n (by decide)]; exact r2
        · rw [hset_m (by decide), hset_n (by decide), hset_n (by decide)]; exact r3
        · rw [hset_m (by decide), hset_n (by decide), hset_n (by decide)]; exact r4
        · show (hset (hset (hset h 7 (h 4 8) (h 3 0)) 8 (h 4 8) (h 3 1)) 4 8 (h 4 8 + 1)) 4 8 = ((dW D ++ [(h 3 0, h 3 1)]).length : Int)
          rw [hset_s, r5]
          simp
        · rw [hset_m (by decide), hset_n (by decide), hset_n (by decide)]; exact r6
        · have := r7 i hi
          exact ⟨by rw [hset_n (by decide), hset_n (by decide), hset_n (by decide)]; exact this.1, by rw [hset_n (by decide), hset_n (by decide), hset_n (by decide)]; exact this.2⟩
        · have hi : i < (dW D ++ [(h 3 0, h 3 1)]).length := hi
          simp at hi
          show _ = ((dW D ++ [(h 3 0, h 3 1)]).getD i (0, 0)).1 ∧ _ = ((dW D ++ [(h 3 0, h 3 1)]).getD i (0, 0)).2
          by_cases e : i = (dW D).length
          · subst e
            rw [gd_at, ← r5]
            exact ⟨by rw [hset_n (by decide), hset_n (by decide), hset_s], by rw [hset_n (by decide), hset_s]⟩
          · rw [gd_lt (by omega)]
            have := r8 i (by omega)
            exact ⟨by rw [hset_n (by decide), hset_n (by decide), hset_m (by omega)]; exact this.1, by rw [hset_n (by decide), hset_m (by omega), hset_n (by decide)]; exact this.2⟩
        · have := r9 i hi
          exact ⟨by rw [hset_n (by decide), hset_n (by decide), hset_n (by decide)]; exact this.1, by rw [hset_n (by decide), hset_n (by decide), hset_n (by decide)]; exact this.2⟩
      · rw [if_neg (by omega)] at h0; exact h0 rfl
  · have h1 := hn (98, 52) (by simp)
    have h2 := hn (99, 114) (by simp)
    have h3 := hn (114, 80) (by simp)
    have h4 := hn (115, 69) (by simp)
    have h5 := hn (119, 97) (by simp)
    dsimp only at h1 h2 h3 h4 h5
    omega
theorem rpX_eq4 {h h' : HP} {D : DD} (ha : ∀ a, 4 ≤ a → a ≤ 4 + 6 → h' a = h a) (hr : rpX 4 h D) : rpX 4 h' D := by
  obtain ⟨r1, r2, r3, r4, r5, r6, r7, r8, r9⟩ := hr
  refine ⟨?_, ?_, ?_, ?_, ?_, ?_, fun i hi => ?_, fun i hi => ?_, fun i hi => ?_⟩
  · rw [ha 4 (by decide) (by decide)]; exact r1
  · rw [ha 4 (by decide) (by decide)]; exact r2
  · rw [ha 4 (by decide) (by decide)]; exact r3
  · rw [ha 4 (by decide) (by decide)]; exact r4
  · rw [ha 4 (by decide) (by decide)]; exact r5
  · rw [ha 4 (by decide) (by decide)]; exact r6
  · rw [ha (4 + 1) (by decide) (by decide), ha (4 + 2) (by decide) (by decide)]; exact r7 i hi
  · rw [ha (4 + 3) (by decide) (by decide), ha (4 + 4) (by decide) (by decide)]; exact r8 i hi
  · rw [ha (4 + 5) (by decide) (by decide), ha (4 + 6) (by decide) (by decide)]; exact r9 i hi
theorem c_read4 {d : Nat} {P : Int → HP → Prop} {len : Int} {h : HP} (hl : 0 ≤ len ∧ len ≤ 300) (ht : ∀ j, 0 ≤ j → j < 300 → -128 ≤ h 1 j ∧ h 1 j ≤ 127)
    (hP : ∀ h', (∀ a, a ≠ 3 → (a < 4 ∨ 4 + 6 < a) → h' a = h a) → rpX 4 h' (parse (h 1) len).2 → P (parse (h 1) len).1 h') :
    Ct KX (d + 3) mX9_readInto [aR 2, aR 4, aR 1, aI len] h (rI P) := by
  unfold parse at hP
  have key : ∀ (f : Nat) (s : Int) (D : DD) (g : HP), f ≤ 300 → 0 ≤ s → s ≤ len → wfD D → (∀ a, a ≠ 3 → (a < 4 ∨ 4 + 6 < a) → g a = h a) → rpX 4 g D → plp (h 1) len f s D = plp (h 1) len 300 0 D0 → V KX (d + 3) mX9_readInto 10 [some (aR 2), some (aR 4), some (aR 1), some (aI len), some (aI s), some (aI (300 - (f : Int))), none] [] g (rI P) := by
    intro f
    induction f with
    | zero =>
      intro s D g hf hs hsl hw ha hr he
      refine v_X9_readInto_4_10 len s _ g ⟨⟨⟨by omega, by omega⟩, by decide⟩, fun _ => ?_, fun q => absurd q (by omega)⟩
      rw [← he] at hP
      exact hP g ha hr
    | succ f ih =>
      intro s D g hf hs hsl hw ha hr he
      have e1 : g 1 = h 1 := ha 1 (by decide) (Or.inl (by decide))
      have hpe : plp (h 1) len (f + 1) s D = if s < len then (match ptm (h 1) len s with
        | none => (s, D)
        | some q => (match good (h 1 s) q.1 q.2.1 D with
          | none => (s, D)
          | some D' => plp (h 1) len f q.2.2 D')) else (-4, D) := by
        rw [plp]
        rfl
      refine v_X9_readInto_4_10 len s _ g ⟨⟨⟨by omega, by omega⟩, by decide⟩, fun q => absurd q (by omega), fun _ => ⟨⟨⟨by omega, by omega⟩, ⟨by omega, by omega⟩⟩, fun q => ?_, fun q => ?_⟩⟩
      · rw [hpe, if_neg (by omega)] at he
        rw [← he] at hP
        exact hP g ha hr
      · rw [hpe, if_pos q] at he
        refine c_item ⟨hs, q⟩ hl.2 (by rw [e1]; exact ht) (fun r hrr h' b1 b2 b3 => ?_) (fun hrr h' b1 => ?_)
        · rw [e1] at hrr b3
          rw [hrr] at he
          dsimp only at he
          have hin := ptm_in hrr
          have hr' : rpX 4 h' D := rpX_eq4 (fun a q1 q2 => b1 a (by omega)) hr
          have hh' : ∀ a, a ≠ 3 → (a < 4 ∨ 4 + 6 < a) → h' a = h a := fun a q1 q2 => (b1 a q1).trans (ha a q1 q2)
          refine ⟨⟨⟨by omega, by omega⟩, by decide⟩, fun q2 => absurd q2 (by omega), fun _ => ⟨by omega, ?_⟩⟩
          rw [b1 1 (by decide), e1]
          have hc5 := hin.2.2.2.2
          have e31 : h 1 s ≠ 115 → good (h 1 s) (h' 3 0) (h' 3 1) D = good (h 1 s) r.1 r.2.1 D := fun z => by rw [b2, b3 z]
          have e32 : good (h 1 s) (h' 3 0) (h' 3 1) D = good (h 1 s) r.1 r.2.1 D := by
            by_cases z : h 1 s = 115
            · rw [z, b2]
              rfl
            · exact e31 z
          refine c_tell4 hr' hw (by omega) (by rw [b2]; exact hin.1) (fun z => by rw [b3 z]; exact hin.2.1) (fun D' hg h2 f1 f2 => bT' ?_) (fun hg => bF' ?_)
          · rw [e32] at hg
            rw [hg] at he
            dsimp only at he
            have := ih r.2.2 D' h2 (by omega) (by omega) (by omega) (good_wf hw hin.1.1 hin.2.1.1 hg) (fun a q1 q2 => (f1 a q2).trans (hh' a q1 q2)) f2 he
            rwa [show 300 - (f : Int) = 300 - ((f + 1 : Nat) : Int) + 1 by omega] at this
          · rw [e32] at hg
            rw [hg] at he
            dsimp only at he
            rw [← he] at hP
            exact hP h' hh' hr'
        · rw [e1] at hrr
          rw [hrr] at he
          dsimp only at he
          refine ⟨⟨by decide, by decide⟩, fun _ => ?_, fun q2 => absurd rfl q2⟩
          rw [← he] at hP
          exact hP h' (fun a q1 q2 => (b1 a q1).trans (ha a q1 q2)) (rpX_eq4 (fun a q1 q2 => b1 a (by omega)) hr)
  refine e_X9_readInto_4 len h (c_clear4 (fun g ha hr => ?_))
  have := key 300 0 D0 g (by omega) (by omega) (by omega) D0_wf (fun a _ q2 => ha a (by omega)) hr rfl
  exact this
theorem c_clear14 {d : Nat} {P : HP → Prop} {h : HP} (hP : ∀ h', (∀ a, a ≠ 14 → h' a = h a) → rpX 14 h' D0 → P h') : Ct KX d mX0_clear [aR 14] h (rV P) := by
  refine e_X0_clear_14 h (hP _ (fun a ha => by rw [hset_n ha, hset_n ha, hset_n ha, hset_n ha, hset_n ha, hset_n ha, hset_n ha]) ⟨by show _ = (0 : Int); simp [hset], by show _ = (0 : Int); simp [hset], by show _ = (0 : Int); simp [hset], by show _ = (0 : Int); simp [hset], by show _ = (0 : Int); simp [hset], by show _ = (0 : Int); simp [hset], fun i hi => absurd hi (by show ¬ i < 0; omega), fun i hi => absurd hi (by show ¬ i < 0; omega), fun i hi => absurd hi (by show ¬ i < 0; omega)⟩)
set_option maxHeartbeats 1000000 in
theorem c_tell14 {d : Nat} {P : Int → HP → Prop} {c : Int} {D : DD} {h : HP} (hr : rpX 14 h D) (hw : wfD D) (hc : c = 98 ∨ c = 99 ∨ c = 114 ∨ c = 119 ∨ c = 115) (ha : 0 ≤ h 3 0 ∧ h 3 0 ≤ 999) (hb : c ≠ 115 → 0 ≤ h 3 1 ∧ h 3 1 ≤ 999)
    (h1 : ∀ D', good c (h 3 0) (h 3 1) D = some D' → ∀ h', (∀ a, (a < 14 ∨ 14 + 6 < a) → h' a = h a) → rpX 14 h' D' → P 1 h') (h0 : good c (h 3 0) (h 3 1) D = none → P 0 h) :
    Ct KX (d + 2) mX9_tell [aR 2, aR 14, aI c] h (rI P) := by
  obtain ⟨r1, r2, r3, r4, r5, r6, r7, r8, r9⟩ := id hr
  obtain ⟨⟨w1, w2⟩, w3, w4, w5, ⟨w6, w7⟩, w8, w9⟩ := hw
  unfold good at h1 h0
  refine e_X9_tell_14 c h ⟨⟨by omega, by omega⟩, fun q hq e => ?_, fun hn => ?_⟩
  · simp only [List.mem_cons, List.not_mem_nil, or_false] at hq
    rcases hq with rfl | rfl | rfl | rfl | rfl <;> (dsimp only at e ⊢; subst e)
    · have hb := hb (by decide)
      rw [if_pos rfl] at h1 h0
      refine v_X9_tell_14_52 _ h ⟨by omega, by omega, e_X0_addBin_14 _ _ h ⟨⟨⟨by omega, by omega⟩, by decide⟩, fun q => ⟨by omega, by omega, ?_⟩, fun q => ⟨⟨⟨by omega, by omega⟩, by decide⟩, fun q2 => ⟨by omega, by omega, ?_⟩, fun q2 => ⟨⟨⟨by omega, by omega⟩, by decide⟩, fun q3 => ⟨by omega, by omega, by omega, by omega, ?_⟩, fun q3 => ⟨by omega, by omega, ?_⟩⟩⟩⟩⟩
      · rw [if_neg (by omega)] at h0; exact h0 rfl
      · rw [if_neg (by omega)] at h0; exact h0 rfl
      · rw [if_pos (by omega)] at h1
        refine h1 _ rfl _ (fun a hx => by rw [hset_n (by omega), hset_n (by omega), hset_n (by omega)]) ⟨?_, ?_, ?_, ?_, ?_, ?_, fun i hi => ?_, fun i hi => ?_, fun i hi => ?_⟩
        · show (hset (hset (hset h 15 (h 14 2) (h 3 0)) 16 (h 14 2) (h 3 1)) 14 2 (h 14 2 + 1)) 14 2 = ((dB D ++ [(h 3 0, h 3 1)]).length : Int)
          rw [hset_s, r1]
          simp
        · rw [hset_m (by decide), hset_n (by decide), hset_n (by decide)]; exact r2
        · rw [hset_m (by decide), hset_n (by decide), hset_n (by decide)]; exact r3
        · rw [hset_m (by decide), hset_n (by decide), hset_n (by decide)]; exact r4
        · rw [hset_m (by decide), hset_n (by decide), hset_n (by decide)]; exact r5
        · rw [hset_m (by decide), hset_n (by decide), hset_n (by decide)]; exact r6
        · have hi : i < (dB D ++ [(h 3 0, h 3 1)]).length := hi
          simp at hi
          show _ = ((dB D ++ [(h 3 0, h 3 1)]).getD i (0, 0)).1 ∧ _ = ((dB D ++ [(h 3 0, h 3 1)]).getD i (0, 0)).2
          by_cases e : i = (dB D).length
          · subst e
            rw [gd_at, ← r1]
            exact ⟨by rw [hset_n (by decide), hset_n (by decide), hset_s], by rw [hset_n (by decide), hset_s]⟩
          · rw [gd_lt (by omega)]
            have := r7 i (by omega)
            exact ⟨by rw [hset_n (by decide), hset_n (by decide), hset_m (by omega)]; exact this.1, by rw [hset_n (by decide), hset_m (by omega), hset_n (by decide)]; exact this.2⟩
        · have := r8 i hi
          exact ⟨by rw [hset_n (by decide), hset_n (by decide), hset_n (by decide)]; exact this.1, by rw [hset_n (by decide), hset_n (by decide), hset_n (by decide)]; exact this.2⟩
        · have := r9 i hi
          exact ⟨by rw [hset_n (by decide), hset_n (by decide), hset_n (by decide)]; exact this.1, by rw [hset_n (by decide), hset_n (by decide), hset_n (by decide)]; exact this.2⟩
      · rw [if_neg (by omega)] at h0; exact h0 rfl
    · have hb := hb (by decide)
      rw [if_neg (by decide), if_neg (by decide), if_neg (by decide), if_neg (by decide)] at h1 h0
      have hlast : 0 < h 14 11 → h 19 (h 14 11 - 1) = lastN (dC D) ∧ 0 ≤ lastN (dC D) ∧ lastN (dC D) ≤ 30 := by
        intro hp
        have e1 := r9 ((dC D).length - 1) (by omega)
        have e2 := w9 ((dC D).length - 1) (by omega)
        unfold lastN
        rw [if_neg (by omega)]
        rw [show h 14 11 - 1 = (((dC D).length - 1 : Nat) : Int) by omega]
        exact ⟨e1.1, e2.1⟩
      have fin : h 14 11 < 4 → h 3 0 ≤ 30 → 1 ≤ h 3 1 → h 3 1 ≤ 60 → lastN (dC D) ≤ h 3 0 → V KX (d + 1) mX0_addCorn 50 [some (aR 14), some (aI (h 3 0)), some (aI (h 3 1))] [] h (rI fun (v1 : Int) (h1 : HP) => (v1 = 0 ∨ v1 = 1) ∧ P v1 h1) := by
        intro z1 z2 z3 z4 z5
        rw [if_pos (by omega)] at h1
        refine v_X0_addCorn_14_50 _ _ h ⟨by omega, by omega, by omega, by omega, h1 _ rfl _ (fun a hx => by rw [hset_n (by omega), hset_n (by omega), hset_n (by omega)]) ⟨?_, ?_, ?_, ?_, ?_, ?_, fun i hi => ?_, fun i hi => ?_, fun i hi => ?_⟩⟩
        · rw [hset_m (by decide), hset_n (by decide), hset_n (by decide)]; exact r1
        · rw [hset_m (by decide), hset_n (by decide), hset_n (by decide)]; exact r2
        · rw [hset_m (by decide), hset_n (by decide), hset_n (by decide)]; exact r3
        · rw [hset_m (by decide), hset_n (by decide), hset_n (by decide)]; exact r4
        · rw [hset_m (by decide), hset_n (by decide), hset_n (by decide)]; exact r5
        · show (hset (hset (hset h 19 (h 14 11) (h 3 0)) 20 (h 14 11) (h 3 1)) 14 11 (h 14 11 + 1)) 14 11 = ((dC D ++ [(h 3 0, h 3 1)]).length : Int)
          rw [hset_s, r6]
          simp
        · have := r7 i hi
          exact ⟨by rw [hset_n (by decide), hset_n (by decide), hset_n (by decide)]; exact this.1, by rw [hset_n (by decide), hset_n (by decide), hset_n (by decide)]; exact this.2⟩
        · have := r8 i hi
          exact ⟨by rw [hset_n (by decide), hset_n (by decide), hset_n (by decide)]; exact this.1, by rw [hset_n (by decide), hset_n (by decide), hset_n (by decide)]; exact this.2⟩
        · have hi : i < (dC D ++ [(h 3 0, h 3 1)]).length := hi
          simp at hi
          show _ = ((dC D ++ [(h 3 0, h 3 1)]).getD i (0, 0)).1 ∧ _ = ((dC D ++ [(h 3 0, h 3 1)]).getD i (0, 0)).2
          by_cases e : i = (dC D).length
          · subst e
            rw [gd_at, ← r6]
            exact ⟨by rw [hset_n (by decide), hset_n (by decide), hset_s], by rw [hset_n (by decide), hset_s]⟩
          · rw [gd_lt (by omega)]
            have := r9 i (by omega)
            exact ⟨by rw [hset_n (by decide), hset_n (by decide), hset_m (by omega)]; exact this.1, by rw [hset_n (by decide), hset_m (by omega), hset_n (by decide)]; exact this.2⟩
      refine v_X9_tell_14_114 _ h ⟨by omega, by omega, e_X0_addCorn_14 _ _ h ⟨⟨⟨by omega, by omega⟩, by decide⟩, fun q => ⟨by omega, by omega, ?_⟩, fun q => ⟨⟨⟨by omega, by omega⟩, by decide⟩, fun q2 => ⟨by omega, by omega, ?_⟩, fun q2 => c_within ⟨by omega, by omega⟩ (by decide) (by decide) (fun q3 q4 => bT' ⟨⟨by omega, by omega⟩, fun q5 => fin q q2 q3 q4 ?_, fun q5 => ⟨by omega, ⟨⟨by omega, by omega⟩, by rw [(hlast q5).1]; exact ⟨by have := (hlast q5).2; omega, by have := (hlast q5).2; omega⟩⟩, fun q6 => fin q q2 q3 q4 (by rw [← (hlast q5).1]; exact q6), fun q6 => ⟨by omega, by omega, ?_⟩⟩⟩) (fun q3 => bF' ⟨by omega, by omega, ?_⟩)⟩⟩⟩
      · rw [if_neg (by omega)] at h0; exact h0 rfl
      · rw [if_neg (by omega)] at h0; exact h0 rfl
      · unfold lastN
        rw [if_pos (by omega)]
        exact ha.1
      · rw [(hlast q5).1] at q6
        rw [if_neg (by omega)] at h0; exact h0 rfl
      · rw [if_neg (by omega)] at h0; exact h0 rfl
    · have hb := hb (by decide)
      rw [if_neg (by decide), if_neg (by decide), if_pos rfl] at h1 h0
      refine v_X9_tell_14_80 _ h ⟨by omega, by omega, e_X0_setRats_14 _ _ h ⟨⟨⟨by omega, by omega⟩, by decide⟩, fun q => ⟨by omega, by omega, ?_⟩, fun q => ⟨⟨⟨by omega, by omega⟩, by decide⟩, fun q2 => ⟨by omega, by omega, ?_⟩, fun q2 => ⟨by omega, by omega, ?_⟩⟩⟩⟩
      · rw [if_neg (by omega)] at h0; exact h0 rfl
      · rw [if_pos (by omega)] at h1
        refine h1 _ rfl _ (fun a hx => by rw [hset_n (by omega), hset_n (by omega)]) ⟨?_, ?_, ?_, ?_, ?_, ?_, fun i hi => ?_, fun i hi => ?_, fun i hi => ?_⟩
        · rw [hset_m (by decide), hset_m (by decide)]; exact r1
        · rw [hset_m (by decide), hset_m (by decide)]; exact r2
        · rw [hset_m (by decide), hset_s]
        · rw [hset_s]
        · rw [hset_m (by decide), hset_m (by decide)]; exact r5
        · rw [hset_m (by decide), hset_m (by decide)]; exact r6
        · rw [hset_n (by decide), hset_n (by decide), hset_n (by decide), hset_n (by decide)]; exact r7 i hi
        · rw [hset_n (by decide), hset_n (by decide), hset_n (by decide), hset_n (by decide)]; exact r8 i hi
        · rw [hset_n (by decide), hset_n (by decide), hset_n (by decide), hset_n (by decide)]; exact r9 i hi
      · rw [if_neg (by omega)] at h0; exact h0 rfl
    · rw [if_neg (by decide), if_pos rfl] at h1 h0
      refine v_X9_tell_14_69 _ h ⟨by omega, e_X0_setKind_14 _ h ⟨⟨⟨by omega, by omega⟩, by decide⟩, fun q => ⟨by omega, by omega, ?_⟩, fun q => ⟨by omega, by omega, ?_⟩⟩⟩
      · rw [if_pos (by omega)] at h1
        refine h1 _ rfl _ (fun a hx => by rw [hset_n (by omega)]) ⟨?_, ?_, ?_, ?_, ?_, ?_, fun i hi => ?_, fun i hi => ?_, fun i hi => ?_⟩
        · rw [hset_m (by decide)]; exact r1
        · rw [hset_s]
        · rw [hset_m (by decide)]; exact r3
        · rw [hset_m (by decide)]; exact r4
        · rw [hset_m (by decide)]; exact r5
        · rw [hset_m (by decide)]; exact r6
        · rw [hset_n (by decide), hset_n (by decide)]; exact r7 i hi
        · rw [hset_n (by decide), hset_n (by decide)]; exact r8 i hi
        · rw [hset_n (by decide), hset_n (by decide)]; exact r9 i hi
      · rw [if_neg (by omega)] at h0; exact h0 rfl
    · have hb := hb (by decide)
      rw [if_neg (by decide), if_neg (by decide), if_neg (by decide), if_pos rfl] at h1 h0
      refine v_X9_tell_14_97 _ h ⟨by omega, by omega, e_X0_addWall_14 _ _ h ⟨⟨⟨by omega, by omega⟩, by decide⟩, fun q => ⟨by omega, by omega, ?_⟩, fun q => ⟨⟨⟨by omega, by omega⟩, ⟨by omega, by omega⟩⟩, fun q2 => ⟨by omega, by omega, ?_⟩, fun q2 => ⟨⟨⟨by omega, by omega⟩, ⟨by omega, by omega⟩⟩, fun q3 => ⟨by omega, by omega, ?_⟩, fun q3 => ⟨⟨⟨by omega, by omega⟩, ⟨by omega, by omega⟩⟩, fun q4 => ⟨by omega, by omega, by omega, by omega, ?_⟩, fun q4 => ⟨by omega, by omega, ?_⟩⟩⟩⟩⟩⟩
      · rw [if_neg (by omega)] at h0; exact h0 rfl
      · rw [if_neg (by omega)] at h0; exact h0 rfl
      · rw [if_neg (by omega)] at h0; exact h0 rfl
      · rw [if_pos (by omega)] at h1
        refine h1 _ rfl _ (fun a hx => by rw [hset_n (by omega), hset_n (by omega), hset_n (by omega)]) ⟨?_, ?_, ?_, ?_, ?_, ?_, fun i hi => ?_, fun i hi => ?_, fun i hi => ?_⟩
        · rw [hset_m (by decide), hset_n (by decide), hset_n (by decide)]; exact r1
        · rw [hset_m (by decide), hset_n (by decide), hset_n (by decide)]; exact r2
        · rw [hset_m (by decide), hset_n (by decide), hset_n (by decide)]; exact r3
        · rw [hset_m (by decide), hset_n (by decide), hset_n (by decide)]; exact r4
        · show (hset (hset (hset h 17 (h 14 8) (h 3 0)) 18 (h 14 8) (h 3 1)) 14 8 (h 14 8 + 1)) 14 8 = ((dW D ++ [(h 3 0, h 3 1)]).length : Int)
          rw [hset_s, r5]
          simp
        · rw [hset_m (by decide), hset_n (by decide), hset_n (by decide)]; exact r6
        · have := r7 i hi
          exact ⟨by rw [hset_n (by decide), hset_n (by decide), hset_n (by decide)]; exact this.1, by rw [hset_n (by decide), hset_n (by decide), hset_n (by decide)]; exact this.2⟩
        · have hi : i < (dW D ++ [(h 3 0, h 3 1)]).length := hi
          simp at hi
          show _ = ((dW D ++ [(h 3 0, h 3 1)]).getD i (0, 0)).1 ∧ _ = ((dW D ++ [(h 3 0, h 3 1)]).getD i (0, 0)).2
          by_cases e : i = (dW D).length
          · subst e
            rw [gd_at, ← r5]
            exact ⟨by rw [hset_n (by decide), hset_n (by decide), hset_s], by rw [hset_n (by decide), hset_s]⟩
          · rw [gd_lt (by omega)]
            have := r8 i (by omega)
            exact ⟨by rw [hset_n (by decide), hset_n (by decide), hset_m (by omega)]; exact this.1, by rw [hset_n (by decide), hset_m (by omega), hset_n (by decide)]; exact this.2⟩
        · have := r9 i hi
          exact ⟨by rw [hset_n (by decide), hset_n (by decide), hset_n (by decide)]; exact this.1, by rw [hset_n (by decide), hset_n (by decide), hset_n (by decide)]; exact this.2⟩
      · rw [if_neg (by omega)] at h0; exact h0 rfl
  · have h1 := hn (98, 52) (by simp)
    have h2 := hn (99, 114) (by simp)
    have h3 := hn (114, 80) (by simp)
    have h4 := hn (115, 69) (by simp)
    have h5 := hn (119, 97) (by simp)
    dsimp only at h1 h2 h3 h4 h5
    omega
theorem rpX_eq14 {h h' : HP} {D : DD} (ha : ∀ a, 14 ≤ a → a ≤ 14 + 6 → h' a = h a) (hr : rpX 14 h D) : rpX 14 h' D := by
  obtain ⟨r1, r2, r3, r4, r5, r6, r7, r8, r9⟩ := hr
  refine ⟨?_, ?_, ?_, ?_, ?_, ?_, fun i hi => ?_, fun i hi => ?_, fun i hi => ?_⟩
  · rw [ha 14 (by decide) (by decide)]; exact r1
  · rw [ha 14 (by decide) (by decide)]; exact r2
  · rw [ha 14 (by decide) (by decide)]; exact r3
  · rw [ha 14 (by decide) (by decide)]; exact r4
  · rw [ha 14 (by decide) (by decide)]; exact r5
  · rw [ha 14 (by decide) (by decide)]; exact r6
  · rw [ha (14 + 1) (by decide) (by decide), ha (14 + 2) (by decide) (by decide)]; exact r7 i hi
  · rw [ha (14 + 3) (by decide) (by decide), ha (14 + 4) (by decide) (by decide)]; exact r8 i hi
  · rw [ha (14 + 5) (by decide) (by decide), ha (14 + 6) (by decide) (by decide)]; exact r9 i hi
theorem c_read14 {d : Nat} {P : Int → HP → Prop} {len : Int} {h : HP} (hl : 0 ≤ len ∧ len ≤ 300) (ht : ∀ j, 0 ≤ j → j < 300 → -128 ≤ h 1 j ∧ h 1 j ≤ 127)
    (hP : ∀ h', (∀ a, a ≠ 3 → (a < 14 ∨ 14 + 6 < a) → h' a = h a) → rpX 14 h' (parse (h 1) len).2 → P (parse (h 1) len).1 h') :
    Ct KX (d + 3) mX9_readInto [aR 2, aR 14, aR 1, aI len] h (rI P) := by
  unfold parse at hP
  have key : ∀ (f : Nat) (s : Int) (D : DD) (g : HP), f ≤ 300 → 0 ≤ s → s ≤ len → wfD D → (∀ a, a ≠ 3 → (a < 14 ∨ 14 + 6 < a) → g a = h a) → rpX 14 g D → plp (h 1) len f s D = plp (h 1) len 300 0 D0 → V KX (d + 3) mX9_readInto 10 [some (aR 2), some (aR 14), some (aR 1), some (aI len), some (aI s), some (aI (300 - (f : Int))), none] [] g (rI P) := by
    intro f
    induction f with
    | zero =>
      intro s D g hf hs hsl hw ha hr he
      refine v_X9_readInto_14_10 len s _ g ⟨⟨⟨by omega, by omega⟩, by decide⟩, fun _ => ?_, fun q => absurd q (by omega)⟩
      rw [← he] at hP
      exact hP g ha hr
    | succ f ih =>
      intro s D g hf hs hsl hw ha hr he
      have e1 : g 1 = h 1 := ha 1 (by decide) (Or.inl (by decide))
      have hpe : plp (h 1) len (f + 1) s D = if s < len then (match ptm (h 1) len s with
        | none => (s, D)
        | some q => (match good (h 1 s) q.1 q.2.1 D with
          | none => (s, D)
          | some D' => plp (h 1) len f q.2.2 D')) else (-4, D) := by
        rw [plp]
        rfl
      refine v_X9_readInto_14_10 len s _ g ⟨⟨⟨by omega, by omega⟩, by decide⟩, fun q => absurd q (by omega), fun _ => ⟨⟨⟨by omega, by omega⟩, ⟨by omega, by omega⟩⟩, fun q => ?_, fun q => ?_⟩⟩
      · rw [hpe, if_neg (by omega)] at he
        rw [← he] at hP
        exact hP g ha hr
      · rw [hpe, if_pos q] at he
        refine c_item ⟨hs, q⟩ hl.2 (by rw [e1]; exact ht) (fun r hrr h' b1 b2 b3 => ?_) (fun hrr h' b1 => ?_)
        · rw [e1] at hrr b3
          rw [hrr] at he
          dsimp only at he
          have hin := ptm_in hrr
          have hr' : rpX 14 h' D := rpX_eq14 (fun a q1 q2 => b1 a (by omega)) hr
          have hh' : ∀ a, a ≠ 3 → (a < 14 ∨ 14 + 6 < a) → h' a = h a := fun a q1 q2 => (b1 a q1).trans (ha a q1 q2)
          refine ⟨⟨⟨by omega, by omega⟩, by decide⟩, fun q2 => absurd q2 (by omega), fun _ => ⟨by omega, ?_⟩⟩
          rw [b1 1 (by decide), e1]
          have hc5 := hin.2.2.2.2
          have e31 : h 1 s ≠ 115 → good (h 1 s) (h' 3 0) (h' 3 1) D = good (h 1 s) r.1 r.2.1 D := fun z => by rw [b2, b3 z]
          have e32 : good (h 1 s) (h' 3 0) (h' 3 1) D = good (h 1 s) r.1 r.2.1 D := by
            by_cases z : h 1 s = 115
            · rw [z, b2]
              rfl
            · exact e31 z
          refine c_tell14 hr' hw (by omega) (by rw [b2]; exact hin.1) (fun z => by rw [b3 z]; exact hin.2.1) (fun D' hg h2 f1 f2 => bT' ?_) (fun hg => bF' ?_)
          · rw [e32] at hg
            rw [hg] at he
            dsimp only at he
            have := ih r.2.2 D' h2 (by omega) (by omega) (by omega) (good_wf hw hin.1.1 hin.2.1.1 hg) (fun a q1 q2 => (f1 a q2).trans (hh' a q1 q2)) f2 he
            rwa [show 300 - (f : Int) = 300 - ((f + 1 : Nat) : Int) + 1 by omega] at this
          · rw [e32] at hg
            rw [hg] at he
            dsimp only at he
            rw [← he] at hP
            exact hP h' hh' hr'
        · rw [e1] at hrr
          rw [hrr] at he
          dsimp only at he
          refine ⟨⟨by decide, by decide⟩, fun _ => ?_, fun q2 => absurd rfl q2⟩
          rw [← he] at hP
          exact hP h' (fun a q1 q2 => (b1 a q1).trans (ha a q1 q2)) (rpX_eq14 (fun a q1 q2 => b1 a (by omega)) hr)
  refine e_X9_readInto_14 len h (c_clear14 (fun g ha hr => ?_))
  have := key 300 0 D0 g (by omega) (by omega) (by omega) D0_wf (fun a _ q2 => ha a (by omega)) hr rfl
  exact this
