/-! the class: pours -/
theorem fcd_pcs {n q k : Nat} (hn : n ≤ 8) (hk : k % 8 < n) (hk2 : k < n * 8) : fcd n q k + q ≤ pcs n q := by
  have key : ∀ j : Nat, k + 1 + j ≤ n * 8 → fcd n q (k + 1) ≤ fcd n q (k + 1 + j) := by
    intro j
    induction j with
    | zero => intro _; exact Nat.le_refl _
    | succ j ihj =>
      intro hj
      have := ihj (by omega)
      by_cases e : (k + 1 + j) % 8 < n
      · have := fcd_up (q := q) e hn
        rw [show k + 1 + (j + 1) = (k + 1 + j) + 1 by omega]
        omega
      · have := fcd_st (n := n) (q := q) (k := k + 1 + j) (by omega)
        rw [show k + 1 + (j + 1) = (k + 1 + j) + 1 by omega]
        omega
  have h9 := key (n * 8 - (k + 1)) (by omega)
  rw [show k + 1 + (n * 8 - (k + 1)) = n * 8 by omega, fcd_end, fcd_up hk hn] at h9
  exact h9
def CUR (n q : Nat) (f : Int → Int) (c : Nat) : Prop := (c = 0 ∧ f 0 = 0 ∧ f 1 = 0 ∧ f 2 = 0) ∨ (0 < c ∧ f 0 = (pfr n q c : Nat) ∧ f 1 = (pto n q c : Nat) ∧ f 2 = (pmn q c : Nat))
theorem x_toNext_42 {d : Nat} {P : Int → HP → Prop} {n q c : Nat} {h : HP} (hn : 1 ≤ n ∧ n ≤ 8) (hq : 1 ≤ q ∧ q ≤ 5) (hp : rowOK n (h 28)) (hcur : CUR n q (h 42) c) (hc : c < pcs n q) (hck : pok n q (h 28) c = true)
    (h1 : ∀ (c' : Nat) (g : HP), c < c' → c' < pcs n q → pok n q (h 28) c' = true → (∀ x, c < x → x < c' → pok n q (h 28) x = false) → (∀ a, a ≠ 42 → g a = h a) → CUR n q (g 42) c' → P 1 g)
    (h0 : ∀ g : HP, (∀ x, c < x → x < pcs n q → pok n q (h 28) x = false) → (∀ a, a ≠ 42 → g a = h a) → P 0 g) : Ct KX (d + 1) mX8_toNext [aR 42, aR 28, aI (n : Nat), aI (q : Nat)] h (rI P) := by
  have hI : ∀ x : Int, 0 ≤ x → x < n → iR (h 28 x) := fun x q0 q1 => by have := hp x q0 q1; exact ⟨by omega, by omega⟩
  have pair : ∀ (u k : Nat) (g : HP), k + u = n * 8 → c < fcd n q k → (∀ x, c < x → x < fcd n q k → pok n q (h 28) x = false) → (∀ a, a ≠ 42 → g a = h a) → V KX (d + 1) mX8_toNext 64 [some (aR 42), some (aR 28), some (aI (n : Nat)), some (aI (q : Nat)), some (aI (k : Nat))] [] g (rI P) := by
    intro u
    induction u with
    | zero =>
      intro k g hk hck hno hg
      have hk8 : k = n * 8 := by omega
      rw [hk8, fcd_end] at hno
      exact v_X8_toNext_42_64 n q k g ⟨⟨⟨by omega, by omega⟩, ⟨by omega, by omega⟩⟩, fun _ => ⟨Or.inl rfl, h0 g hno hg⟩, fun z => absurd z (by omega)⟩
    | succ u ih =>
      intro k g hk hck hno hg
      have gR : g 28 = h 28 := hg 28 (by decide)
      have e1 : ((k : Nat) : Int) + 1 = ((k + 1 : Nat) : Int) := by omega
      have skip : ∀ g9 : HP, (∀ a, a ≠ 42 → g9 a = h a) → k % 8 < n → (∀ x, fcd n q k ≤ x → x < fcd n q k + q → pok n q (h 28) x = false) → V KX (d + 1) mX8_toNext 133 [some (aR 42), some (aR 28), some (aI (n : Nat)), some (aI (q : Nat)), some (aI (k : Nat))] [] g9 (rI P) := by
        intro g9 h9 hk2 hb
        refine v_X8_toNext_42_133 n q k g9 ?_
        rw [e1]
        have e2 := fcd_up (q := q) hk2 hn.2
        refine ih (k + 1) g9 (by omega) (by omega) (fun x q0 q1 => ?_) h9
        by_cases e : x < fcd n q k
        · exact hno x q0 e
        · exact hb x (by omega) (by omega)
      have hg2 : ∀ a, a ≠ 42 → (hset (hset g 42 0 ((k : Int) / 8)) 42 1 ((k : Int) % 8)) a = h a := fun a ha => by rw [hset_n ha, hset_n ha]; exact hg a ha
      refine v_X8_toNext_42_64 n q k g ⟨⟨⟨by omega, by omega⟩, ⟨by omega, by omega⟩⟩, fun z => absurd z (by omega), fun _ => ⟨⟨by omega, ⟨by omega, by omega⟩, by decide, by decide⟩, ⟨by omega, ⟨by omega, by omega⟩, by decide, by decide⟩, ⟨⟨by omega, by omega⟩, ⟨by omega, by omega⟩⟩, fun z => ?_, fun z => ⟨⟨⟨by omega, by omega⟩, ⟨by omega, by omega⟩⟩, fun z2 => ?_, fun z2 => ?_⟩⟩⟩
      · refine v_X8_toNext_42_133 n q k _ ?_
        rw [e1]
        have e2 := fcd_st (n := n) (q := q) (k := k) (by omega)
        exact ih (k + 1) _ (by omega) (by omega) (by rw [e2]; exact hno) hg2
      · refine skip _ hg2 (by omega) (fun x q0 q1 => pok_no (fun hk9 => ?_))
        have hx := fcd_in (n := n) (q := q) (by omega) q0 q1
        have := ((pok_iff (show 0 < x by omega)).mp hk9).1
        omega
      · have hsk : ((k : Int) / 8) = ((k / 8 : Nat) : Int) := by omega
        have htk : ((k : Int) % 8) = ((k % 8 : Nat) : Int) := by omega
        refine e_X10_canPour 28 _ _ 1 _ ?_
        rw [hg2 28 (by decide)]
        have r1 := hp ((k : Int) / 8) (by omega) (by omega)
        have r2 := hp ((k : Int) % 8) (by omega) (by omega)
        have bad : (h 28 ((k : Int) / 8) < 1 ∨ 199 < h 28 ((k : Int) % 8) + 1) → ∀ x, fcd n q k ≤ x → x < fcd n q k + q → pok n q (h 28) x = false := fun hbad x q0 q1 => pok_no (fun hk9 => by
          have hx := fcd_in (n := n) (q := q) (k := k) (by omega) q0 q1
          have h9 := (pok_iff (show 0 < x by omega)).mp hk9
          rw [hx.1, hx.2.1, hx.2.2, ← hsk, ← htk] at h9
          omega)
        refine ⟨⟨by decide, by omega, by omega⟩, ⟨⟨by omega, by omega⟩, by decide⟩, fun z3 => ⟨Or.inl rfl, bF (skip _ hg2 (by omega) (bad (Or.inl z3)))⟩, fun z3 => ⟨⟨by decide, by omega, by omega⟩, ⟨⟨by omega, by omega⟩, by decide⟩, fun z4 => ⟨Or.inl rfl, bF (skip _ hg2 (by omega) (bad (Or.inr z4)))⟩, fun z4 => ⟨Or.inr rfl, bT ⟨Or.inr rfl, ?_⟩⟩⟩⟩
        have hx := fcd_in (n := n) (q := q) (k := k) (x := fcd n q k) (by omega) (Nat.le_refl _) (by omega)
        have hpos : 0 < fcd n q k := by omega
        refine h1 (fcd n q k) _ hck ?_ ((pok_iff hpos).mpr ?_) hno (fun a ha => by rw [hset_n ha]; exact hg2 a ha) (Or.inr ⟨hpos, ?_, ?_, ?_⟩)
        · have hf := fcd_pcs (n := n) (q := q) (k := k) hn.2 (by omega) (by omega)
          omega
        · rw [hx.1, hx.2.1, hx.2.2, Nat.sub_self, ← hsk, ← htk]
          exact ⟨by omega, by omega, by omega⟩
        · rw [hset_m (by decide), hset_m (by decide), hset_s, hx.1, hsk]
        · rw [hset_m (by decide), hset_s, hx.2.1, htk]
        · rw [hset_s, hx.2.2, Nat.sub_self]; rfl
  have start : c < fcd n q (pfr n q c * 8 + pto n q c + 1) → (∀ x, c < x → x < fcd n q (pfr n q c * 8 + pto n q c + 1) → pok n q (h 28) x = false) → h 42 0 = (pfr n q c : Nat) → h 42 1 = (pto n q c : Nat) → V KX (d + 1) mX8_toNext 48 [some (aR 42), some (aR 28), some (aI (n : Nat)), some (aI (q : Nat)), none] [] h (rI P) := by
    intro z0' z1 e0 e1
    refine v_X8_toNext_42_48 n q h ?_
    rw [e0, e1]
    have t1 := pto_lt (n := n) (q := q) (c := c) (by omega)
    have f1 := pfr_lt (by omega) (by omega) hc
    have := pair (n * 8 - (pfr n q c * 8 + pto n q c + 1)) (pfr n q c * 8 + pto n q c + 1) h (by omega) z0' z1 (fun _ _ => rfl)
    rw [show (((pfr n q c : Nat) : Int) * 8 + ((pto n q c : Nat) : Int) + 1) = ((pfr n q c * 8 + pto n q c + 1 : Nat) : Int) by omega]
    exact this
  rcases hcur with ⟨c0, e0, e1, e2⟩ | ⟨c0, e0, e1, e2⟩
  · refine e_X8_toNext_42 n q h ⟨by rw [e2]; decide, fun _ => ?_, fun z => absurd z (by omega)⟩
    have p0 : pfr n q c = 0 := by rw [c0]; unfold pfr; rw [Nat.zero_sub, Nat.zero_div, Nat.zero_div]
    have p1 : pto n q c = 0 := by rw [c0]; unfold pto; rw [Nat.zero_sub, Nat.zero_div, Nat.zero_mod]
    have hf0 : fcd n q 0 = 1 := by unfold fcd; simp
    have hf := fcd_up (n := n) (q := q) (k := 0) (by omega) hn.2
    refine start (by rw [p0, p1]; show c < fcd n q (0 + 1); omega) (by
      rw [p0, p1]
      show ∀ x, c < x → x < fcd n q (0 + 1) → _
      intro x q0 q1
      refine pok_no (fun hk9 => ?_)
      have hx := fcd_in (n := n) (q := q) (k := 0) (x := x) (by omega) (by omega) (by omega)
      have := ((pok_iff (show 0 < x by omega)).mp hk9).1
      omega) (by rw [p0]; exact e0) (by rw [p1]; exact e1)
  · have m1 := pmn_in (q := q) (c := c) (by omega)
    have t1 := pto_lt (n := n) (q := q) (c := c) (by omega)
    have f1 := pfr_lt (by omega) (by omega) hc
    obtain ⟨u1, u2, u3⟩ := fcd_cur (n := n) (q := q) c0 (by omega) (by omega) hn.2
    have hf := fcd_up (n := n) (q := q) (k := pfr n q c * 8 + pto n q c) (by omega) hn.2
    have fwd : (pmn q c = q ∨ h 28 (pfr n q c : Nat) < (pmn q c : Nat) + 1 ∨ 199 < h 28 (pto n q c : Nat) + ((pmn q c : Nat) + 1)) → V KX (d + 1) mX8_toNext 48 [some (aR 42), some (aR 28), some (aI (n : Nat)), some (aI (q : Nat)), none] [] h (rI P) := by
      intro hbad
      refine start (by omega) (fun x q0 q1 => pok_no (fun hk9 => ?_)) e0 e1
      have hx := fcd_in (n := n) (q := q) (k := pfr n q c * 8 + pto n q c) (x := x) (by omega) (by omega) (by omega)
      have h9 := (pok_iff (show 0 < x by omega)).mp hk9
      rw [hx.1, hx.2.1, u2, u3] at h9
      omega
    have r1 := hp (pfr n q c : Nat) (by omega) (by omega)
    have r2 := hp (pto n q c : Nat) (by omega) (by omega)
    refine e_X8_toNext_42 n q h ?_
    rw [e0, e1, e2]
    refine ⟨⟨by omega, by omega⟩, fun z => absurd z (by omega), fun _ => ⟨⟨⟨by omega, by omega⟩, ⟨by omega, by omega⟩⟩, fun z => fwd (Or.inl (by omega)), fun z => ?_⟩⟩
    refine e_X10_canPour 28 _ _ _ h ⟨⟨by decide, by omega, by omega⟩, ⟨⟨by omega, by omega⟩, ⟨by omega, by omega⟩⟩, fun z3 => ⟨Or.inl rfl, bF (fwd (Or.inr (Or.inl z3)))⟩, fun z3 => ⟨⟨by decide, by omega, by omega⟩, ⟨⟨by omega, by omega⟩, by decide⟩, fun z4 => ⟨Or.inl rfl, bF (fwd (Or.inr (Or.inr z4)))⟩, fun z4 => ⟨Or.inr rfl, bT ⟨Or.inr rfl, ?_⟩⟩⟩⟩
    have hx := fcd_in (n := n) (q := q) (k := pfr n q c * 8 + pto n q c) (x := c + 1) (by omega) (by omega) (by omega)
    rw [u2, u3] at hx
    have hne : pfr n q c ≠ pto n q c := ((pok_iff c0).mp hck).1
    refine h1 (c + 1) _ (by omega) ?_ ((pok_iff (by omega)).mpr ?_) (fun x q0 q1 => absurd q1 (by omega)) (fun a ha => hset_n ha) (Or.inr ⟨by omega, ?_, ?_, ?_⟩)
    · have h9 := fcd_pcs (n := n) (q := q) (k := pfr n q c * 8 + pto n q c) hn.2 (by omega) (by omega)
      omega
    · rw [hx.1, hx.2.1, hx.2.2]
      exact ⟨hne, by omega, by omega⟩
    · rw [hset_m (by decide), e0, hx.1]
    · rw [hset_m (by decide), e1, hx.2.1]
    · rw [hset_s, e2, hx.2.2]; omega
theorem x_toNext_43 {d : Nat} {P : Int → HP → Prop} {n q c : Nat} {h : HP} (hn : 1 ≤ n ∧ n ≤ 8) (hq : 1 ≤ q ∧ q ≤ 5) (hp : rowOK n (h 44)) (hcur : CUR n q (h 43) c) (hc : c < pcs n q) (hck : pok n q (h 44) c = true)
    (h1 : ∀ (c' : Nat) (g : HP), c < c' → c' < pcs n q → pok n q (h 44) c' = true → (∀ x, c < x → x < c' → pok n q (h 44) x = false) → (∀ a, a ≠ 43 → g a = h a) → CUR n q (g 43) c' → P 1 g)
    (h0 : ∀ g : HP, (∀ x, c < x → x < pcs n q → pok n q (h 44) x = false) → (∀ a, a ≠ 43 → g a = h a) → P 0 g) : Ct KX (d + 1) mX8_toNext [aR 43, aR 44, aI (n : Nat), aI (q : Nat)] h (rI P) := by
  have hI : ∀ x : Int, 0 ≤ x → x < n → iR (h 44 x) := fun x q0 q1 => by have := hp x q0 q1; exact ⟨by omega, by omega⟩
  have pair : ∀ (u k : Nat) (g : HP), k + u = n * 8 → c < fcd n q k → (∀ x, c < x → x < fcd n q k → pok n q (h 44) x = false) → (∀ a, a ≠ 43 → g a = h a) → V KX (d + 1) mX8_toNext 64 [some (aR 43), some (aR 44), some (aI (n : Nat)), some (aI (q : Nat)), some (aI (k : Nat))] [] g (rI P) := by
    intro u
    induction u with
    | zero =>
      intro k g hk hck hno hg
      have hk8 : k = n * 8 := by omega
      rw [hk8, fcd_end] at hno
      exact v_X8_toNext_43_64 n q k g ⟨⟨⟨by omega, by omega⟩, ⟨by omega, by omega⟩⟩, fun _ => ⟨Or.inl rfl, h0 g hno hg⟩, fun z => absurd z (by omega)⟩
    | succ u ih =>
      intro k g hk hck hno hg
      have gR : g 44 = h 44 := hg 44 (by decide)
      have e1 : ((k : Nat) : Int) + 1 = ((k + 1 : Nat) : Int) := by omega
      have skip : ∀ g9 : HP, (∀ a, a ≠ 43 → g9 a = h a) → k % 8 < n → (∀ x, fcd n q k ≤ x → x < fcd n q k + q → pok n q (h 44) x = false) → V KX (d + 1) mX8_toNext 133 [some (aR 43), some (aR 44), some (aI (n : Nat)), some (aI (q : Nat)), some (aI (k : Nat))] [] g9 (rI P) := by
        intro g9 h9 hk2 hb
        refine v_X8_toNext_43_133 n q k g9 ?_
        rw [e1]
        have e2 := fcd_up (q := q) hk2 hn.2
        refine ih (k + 1) g9 (by omega) (by omega) (fun x q0 q1 => ?_) h9
        by_cases e : x < fcd n q k
        · exact hno x q0 e
        · exact hb x (by omega) (by omega)
      have hg2 : ∀ a, a ≠ 43 → (hset (hset g 43 0 ((k : Int) / 8)) 43 1 ((k : Int) % 8)) a = h a := fun a ha => by rw [hset_n ha, hset_n ha]; exact hg a ha
      refine v_X8_toNext_43_64 n q k g ⟨⟨⟨by omega, by omega⟩, ⟨by omega, by omega⟩⟩, fun z => absurd z (by omega), fun _ => ⟨⟨by omega, ⟨by omega, by omega⟩, by decide, by decide⟩, ⟨by omega, ⟨by omega, by omega⟩, by decide, by decide⟩, ⟨⟨by omega, by omega⟩, ⟨by omega, by omega⟩⟩, fun z => ?_, fun z => ⟨⟨⟨by omega, by omega⟩, ⟨by omega, by omega⟩⟩, fun z2 => ?_, fun z2 => ?_⟩⟩⟩
      · refine v_X8_toNext_43_133 n q k _ ?_
        rw [e1]
        have e2 := fcd_st (n := n) (q := q) (k := k) (by omega)
        exact ih (k + 1) _ (by omega) (by omega) (by rw [e2]; exact hno) hg2
      · refine skip _ hg2 (by omega) (fun x q0 q1 => pok_no (fun hk9 => ?_))
        have hx := fcd_in (n := n) (q := q) (by omega) q0 q1
        have := ((pok_iff (show 0 < x by omega)).mp hk9).1
        omega
      · have hsk : ((k : Int) / 8) = ((k / 8 : Nat) : Int) := by omega
        have htk : ((k : Int) % 8) = ((k % 8 : Nat) : Int) := by omega
        refine e_X10_canPour 44 _ _ 1 _ ?_
        rw [hg2 44 (by decide)]
        have r1 := hp ((k : Int) / 8) (by omega) (by omega)
        have r2 := hp ((k : Int) % 8) (by omega) (by omega)
        have bad : (h 44 ((k : Int) / 8) < 1 ∨ 199 < h 44 ((k : Int) % 8) + 1) → ∀ x, fcd n q k ≤ x → x < fcd n q k + q → pok n q (h 44) x = false := fun hbad x q0 q1 => pok_no (fun hk9 => by
          have hx := fcd_in (n := n) (q := q) (k := k) (by omega) q0 q1
          have h9 := (pok_iff (show 0 < x by omega)).mp hk9
          rw [hx.1, hx.2.1, hx.2.2, ← hsk, ← htk] at h9
          omega)
        refine ⟨⟨by decide, by omega, by omega⟩, ⟨⟨by omega, by omega⟩, by decide⟩, fun z3 => ⟨Or.inl rfl, bF (skip _ hg2 (by omega) (bad (Or.inl z3)))⟩, fun z3 => ⟨⟨by decide, by omega, by omega⟩, ⟨⟨by omega, by omega⟩, by decide⟩, fun z4 => ⟨Or.inl rfl, bF (skip _ hg2 (by omega) (bad (Or.inr z4)))⟩, fun z4 => ⟨Or.inr rfl, bT ⟨Or.inr rfl, ?_⟩⟩⟩⟩
        have hx := fcd_in (n := n) (q := q) (k := k) (x := fcd n q k) (by omega) (Nat.le_refl _) (by omega)
        have hpos : 0 < fcd n q k := by omega
        refine h1 (fcd n q k) _ hck ?_ ((pok_iff hpos).mpr ?_) hno (fun a ha => by rw [hset_n ha]; exact hg2 a ha) (Or.inr ⟨hpos, ?_, ?_, ?_⟩)
        · have hf := fcd_pcs (n := n) (q := q) (k := k) hn.2 (by omega) (by omega)
          omega
        · rw [hx.1, hx.2.1, hx.2.2, Nat.sub_self, ← hsk, ← htk]
          exact ⟨by omega, by omega, by omega⟩
        · rw [hset_m (by decide), hset_m (by decide), hset_s, hx.1, hsk]
        · rw [hset_m (by decide), hset_s, hx.2.1, htk]
        · rw [hset_s, hx.2.2, Nat.sub_self]; rfl
  have start : c < fcd n q (pfr n q c * 8 + pto n q c + 1) → (∀ x, c < x → x < fcd n q (pfr n q c * 8 + pto n q c + 1) → pok n q (h 44) x = false) → h 43 0 = (pfr n q c : Nat) → h 43 1 = (pto n q c : Nat) → V KX (d + 1) mX8_toNext 48 [some (aR 43), some (aR 44), some (aI (n : Nat)), some (aI (q : Nat)), none] [] h (rI P) := by
    intro z0' z1 e0 e1
    refine v_X8_toNext_43_48 n q h ?_
    rw [e0, e1]
    have t1 := pto_lt (n := n) (q := q) (c := c) (by omega)
    have f1 := pfr_lt (by omega) (by omega) hc
    have := pair (n * 8 - (pfr n q c * 8 + pto n q c + 1)) (pfr n q c * 8 + pto n q c + 1) h (by omega) z0' z1 (fun _ _ => rfl)
    rw [show (((pfr n q c : Nat) : Int) * 8 + ((pto n q c : Nat) : Int) + 1) = ((pfr n q c * 8 + pto n q c + 1 : Nat) : Int) by omega]
    exact this
  rcases hcur with ⟨c0, e0, e1, e2⟩ | ⟨c0, e0, e1, e2⟩
  · refine e_X8_toNext_43 n q h ⟨by rw [e2]; decide, fun _ => ?_, fun z => absurd z (by omega)⟩
    have p0 : pfr n q c = 0 := by rw [c0]; unfold pfr; rw [Nat.zero_sub, Nat.zero_div, Nat.zero_div]
    have p1 : pto n q c = 0 := by rw [c0]; unfold pto; rw [Nat.zero_sub, Nat.zero_div, Nat.zero_mod]
    have hf0 : fcd n q 0 = 1 := by unfold fcd; simp
    have hf := fcd_up (n := n) (q := q) (k := 0) (by omega) hn.2
    refine start (by rw [p0, p1]; show c < fcd n q (0 + 1); omega) (by
      rw [p0, p1]
      show ∀ x, c < x → x < fcd n q (0 + 1) → _
      intro x q0 q1
      refine pok_no (fun hk9 => ?_)
      have hx := fcd_in (n := n) (q := q) (k := 0) (x := x) (by omega) (by omega) (by omega)
      have := ((pok_iff (show 0 < x by omega)).mp hk9).1
      omega) (by rw [p0]; exact e0) (by rw [p1]; exact e1)
  · have m1 := pmn_in (q := q) (c := c) (by omega)
    have t1 := pto_lt (n := n) (q := q) (c := c) (by omega)
    have f1 := pfr_lt (by omega) (by omega) hc
    obtain ⟨u1, u2, u3⟩ := fcd_cur (n := n) (q := q) c0 (by omega) (by omega) hn.2
    have hf := fcd_up (n := n) (q := q) (k := pfr n q c * 8 + pto n q c) (by omega) hn.2
    have fwd : (pmn q c = q ∨ h 44 (pfr n q c : Nat) < (pmn q c : Nat) + 1 ∨ 199 < h 44 (pto n q c : Nat) + ((pmn q c : Nat) + 1)) → V KX (d + 1) mX8_toNext 48 [some (aR 43), some (aR 44), some (aI (n : Nat)), some (aI (q : Nat)), none] [] h (rI P) := by
      intro hbad
      refine start (by omega) (fun x q0 q1 => pok_no (fun hk9 => ?_)) e0 e1
      have hx := fcd_in (n := n) (q := q) (k := pfr n q c * 8 + pto n q c) (x := x) (by omega) (by omega) (by omega)
      have h9 := (pok_iff (show 0 < x by omega)).mp hk9
      rw [hx.1, hx.2.1, u2, u3] at h9
      omega
    have r1 := hp (pfr n q c : Nat) (by omega) (by omega)
    have r2 := hp (pto n q c : Nat) (by omega) (by omega)
    refine e_X8_toNext_43 n q h ?_
    rw [e0, e1, e2]
    refine ⟨⟨by omega, by omega⟩, fun z => absurd z (by omega), fun _ => ⟨⟨⟨by omega, by omega⟩, ⟨by omega, by omega⟩⟩, fun z => fwd (Or.inl (by omega)), fun z => ?_⟩⟩
    refine e_X10_canPour 44 _ _ _ h ⟨⟨by decide, by omega, by omega⟩, ⟨⟨by omega, by omega⟩, ⟨by omega, by omega⟩⟩, fun z3 => ⟨Or.inl rfl, bF (fwd (Or.inr (Or.inl z3)))⟩, fun z3 => ⟨⟨by decide, by omega, by omega⟩, ⟨⟨by omega, by omega⟩, by decide⟩, fun z4 => ⟨Or.inl rfl, bF (fwd (Or.inr (Or.inr z4)))⟩, fun z4 => ⟨Or.inr rfl, bT ⟨Or.inr rfl, ?_⟩⟩⟩⟩
    have hx := fcd_in (n := n) (q := q) (k := pfr n q c * 8 + pto n q c) (x := c + 1) (by omega) (by omega) (by omega)
    rw [u2, u3] at hx
    have hne : pfr n q c ≠ pto n q c := ((pok_iff c0).mp hck).1
    refine h1 (c + 1) _ (by omega) ?_ ((pok_iff (by omega)).mpr ?_) (fun x q0 q1 => absurd q1 (by omega)) (fun a ha => hset_n ha) (Or.inr ⟨by omega, ?_, ?_, ?_⟩)
    · have h9 := fcd_pcs (n := n) (q := q) (k := pfr n q c * 8 + pto n q c) hn.2 (by omega) (by omega)
      omega
    · rw [hx.1, hx.2.1, hx.2.2]
      exact ⟨hne, by omega, by omega⟩
    · rw [hset_m (by decide), e0, hx.1]
    · rw [hset_m (by decide), e1, hx.2.1]
    · rw [hset_s, e2, hx.2.2]; omega
