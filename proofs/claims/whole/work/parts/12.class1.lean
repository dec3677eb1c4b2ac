/-! THE CLASS: small ones, a night, nights -/
theorem c_within {d : Nat} {P : Int → HP → Prop} {x lo hi : Int} {h : HP} (hx : iR x) (hl : iR lo) (hh : iR hi) (h1 : lo ≤ x → x ≤ hi → P 1 h) (h0 : (x < lo ∨ hi < x) → P 0 h) : Ct KX d mX10_within [aI x, aI lo, aI hi] h (rI P) :=
  e_X10_within x lo hi h ⟨⟨hx, hl⟩, fun q => ⟨by omega, h0 (Or.inl q)⟩, fun q => ⟨⟨hx, hh⟩, fun q2 => ⟨by omega, h0 (Or.inr q2)⟩, fun q2 => ⟨by omega, h1 q q2⟩⟩⟩
theorem c_xisBin {d : Nat} {P : Int → HP → Prop} {x : Int} {h : HP} (hx : iR x) (hn : 0 ≤ h 14 2 ∧ h 14 2 ≤ 8) (h1 : 0 ≤ x → x < h 14 2 → P 1 h) (h0 : (x < 0 ∨ h 14 2 ≤ x) → P 0 h) : Ct KX (d + 1) mX10_isBin [aR 0, aI x] h (rI P) :=
  e_X10_isBin x h (c_within hx (by decide) ⟨by omega, by omega⟩ (fun a b => ⟨by omega, h1 a (by omega)⟩) (fun a => ⟨by omega, h0 (by omega)⟩))
theorem c_copyBins {d : Nat} {P : HP → Prop} {a b : Nat} {h : HP} (ha : akd KX a 1 8 = true) (hb : akd KX b 1 8 = true) (hP : P (hcpy h a b 8)) : Ct KX (d + 1) mX10_copyBins [aR a, aR b] h (rV P) :=
  e_X10_copyBins a b h ⟨⟨rfl, rfl, rfl, ha, hb⟩, hP⟩
theorem hcpy_n {h : HP} {a b c : Nat} {n : Int} (hc : c ≠ b) : hcpy h a b n c = h c := hrow_n hc
theorem hcpy_s {h : HP} {a b : Nat} {n x : Int} (h0 : 0 ≤ x) (h1 : x < n) : hcpy h a b n b x = h a x := by
  unfold hcpy
  rw [hrow_s, if_pos ⟨h0, h1⟩]
def spr (r v : Int) : Int := if r = 2 then v else 0
def prt (r v t : Int) : Int := if r = 3 then (if t % 7 = v % 7 then 1 else 3) else if r = 1 then 2 else 1
theorem eat_x {r v t x : Int} (hx : 0 ≤ x) (hv : 0 ≤ v) (hr : 0 ≤ r ∧ r ≤ 3) : eatD r v t x = if 0 < x - spr r v then (x - spr r v) / prt r v t else 0 := by
  unfold eatD spr prt
  rcases (show r = 0 ∨ r = 1 ∨ r = 2 ∨ r = 3 by omega) with rfl | rfl | rfl | rfl
  · simp; omega
  · simp; omega
  · simp
  · simp
    split
    · simp; omega
    · omega
theorem prt_pos {r v t : Int} : 1 ≤ prt r v t ∧ prt r v t ≤ 3 := by unfold prt; (repeat' split) <;> omega
theorem c_partOf {d : Nat} {P : Int → HP → Prop} {r t : Int} {h : HP} (hr : 0 ≤ r ∧ r ≤ 3) (ht : 0 ≤ t ∧ t ≤ 1000000) (hv : 0 ≤ h 14 5 ∧ h 14 5 ≤ 30) (hP : P (prt r (h 14 5) t) h) : Ct KX d mX5_partOf [aR 24, aI r, aI t] h (rI P) := by
  refine e_X5_partOf r t h ?_
  repeat' (first | apply And.intro | intro _)
  all_goals first | omega | (refine cP hP ?_; unfold prt; (repeat' split) <;> omega)
abbrev bx (h : HP) : BB := (h 14 2, h 14 15, h 14 5, h 21, h 22, h 23, h 16)
theorem ak_ne {c a : Nat} (hc : akd KX c 1 8 = true) (ha : akd KX a 1 8 = false) : c ≠ a := fun e => by rw [e, ha] at hc; cases hc
set_option maxHeartbeats 1000000 in
theorem c_want {d : Nat} {P : HP → Prop} {r t : Int} {c : Nat} {h : HP} (hb : wfB (bx h)) (hr : 0 ≤ r ∧ r ≤ 3) (hc : akd KX c 1 8 = true) (hc26 : c ≠ 26) (hrow : rowOK (h 14 2) (h c)) (hct : ∀ k, 0 ≤ k → k < h 14 15 → h 25 k = 0 ∨ h 25 k = 1)
    (hP : ∀ h', (∀ a, a ≠ 26 → h' a = h a) → (∀ x, 0 ≤ x → x < h 14 2 → h' 26 x = wnt (bx h) r t (h 25) (h c) x (h 14 15).toNat) → P h') :
    Ct KX d mX5_wantByGaps [aR 24, aR c, aI (spr r (h 14 5)), aI (prt r (h 14 5) t)] h (rV P) := by
  obtain ⟨hn, hG, hv, hgap, how⟩ := id hb
  dsimp only [bn, bG, bV, blo, bhi, bwl, bow, bx] at hn hG hv hgap how
  have hsp : 0 ≤ spr r (h 14 5) ∧ spr r (h 14 5) ≤ 30 := by unfold spr; split <;> omega
  have hpt := prt_pos (r := r) (v := h 14 5) (t := t)
  refine e_X5_wantByGaps c _ _ h ?_
  have main : ∀ (m : Nat) (k : Nat) (g : HP), (k : Int) + m = h 14 15 → (∀ a, a ≠ 26 → g a = h a) → (∀ x, 0 ≤ x → x < h 14 2 → g 26 x = wnt (bx h) r t (h 25) (h c) x k) → V KX d mX5_wantByGaps 32 [some (aR 24), some (aR c), some (aI (spr r (h 14 5))), some (aI (prt r (h 14 5) t)), some (aI k), none, none, none, none] [] g (rV P) := by
    intro m
    induction m with
    | zero =>
      intro k g hk ha hx
      have e14 : g 14 = h 14 := ha 14 (by decide)
      refine v_X5_wantByGaps_32 c _ _ k g ⟨⟨⟨by omega, by omega⟩, by rw [e14]; exact ⟨by omega, by omega⟩⟩, fun _ => hP g ha ?_, fun q => absurd q (by rw [e14]; omega)⟩
      rw [show (h 14 15).toNat = k by omega]
      exact hx
    | succ m ih =>
      intro k g hk ha hx
      have e14 : g 14 = h 14 := ha 14 (by decide)
      have e21 : g 21 = h 21 := ha 21 (by decide)
      have e22 : g 22 = h 22 := ha 22 (by decide)
      have e23 : g 23 = h 23 := ha 23 (by decide)
      have e25 : g 25 = h 25 := ha 25 (by decide)
      have ec : g c = h c := ha c hc26
      have hkG : (k : Int) < h 14 15 := by omega
      obtain ⟨⟨z1, z2, z3⟩, z4⟩ := hgap k (by omega) hkG
      have hlo := hrow (h 21 k) z1 (by omega)
      have hhi := hrow (h 22 k) (by omega) z3
      have eD : g c (g 21 k) - g c (g 22 k) = gdf (bx h) (h c) k := by rw [e21, e22, ec]; rfl
      have hDr : -300 ≤ gdf (bx h) (h c) k ∧ gdf (bx h) (h c) k ≤ 300 := by rw [← eD, e21, e22, ec]; omega
      have habs : iabs (gdf (bx h) (h c) k) ≤ 300 ∧ 0 ≤ iabs (gdf (bx h) (h c) k) := by unfold iabs; split <;> omega
      have hct' := hct k (by omega) hkG
      have eE := eat_x (r := r) (v := h 14 5) (t := t) (x := iabs (gdf (bx h) (h c) k)) habs.2 hv.1 hr
      -- nothing is added
      have k152 : gtk (bx h) r t (h 25) (h c) k = 0 → ∀ x5 x6 x7 x8 : Int, V KX d mX5_wantByGaps 152 [some (aR 24), some (aR c), some (aI (spr r (h 14 5))), some (aI (prt r (h 14 5) t)), some (aI k), some (aI x5), some (aI x6), some (aI x7), some (aI x8)] [] g (rV P) := by
        intro hz x5 x6 x7 x8
        refine v_X5_wantByGaps_152 c _ _ k x5 x6 x7 x8 g (ih (k + 1) g (by omega) ha (fun x h0 h1 => ?_))
        rw [hx x h0 h1, wnt, hz]
        split <;> omega
      have k144 : ¬ (bwl (bx h) k = 1 ∨ h 25 k = 1) → 0 < iabs (gdf (bx h) (h c) k) - spr r (h 14 5) → V KX d mX5_wantByGaps 144 [some (aR 24), some (aR c), some (aI (spr r (h 14 5))), some (aI (prt r (h 14 5) t)), some (aI k), some (aI (h 21 k)), some (aI (h 22 k)), some (aI (gdf (bx h) (h c) k)), some (aI (iabs (gdf (bx h) (h c) k) - spr r (h 14 5)))] [aI (gfr (bx h) (h c) k), aR 26] g (rV P) := by
        intro hw hp
        have hF : 0 ≤ gfr (bx h) (h c) k ∧ gfr (bx h) (h c) k < h 14 2 := by
          unfold gfr
          dsimp only [blo, bhi, bx]
          split <;> omega
        generalize hFe : gfr (bx h) (h c) k = f at hF
        refine v_X5_wantByGaps_144 c _ _ k _ _ _ _ f g ⟨by omega, ⟨by omega, ⟨by omega, by omega⟩, by omega, ⟨by omega, by omega⟩⟩, by omega, v_X5_wantByGaps_152 c _ _ k _ _ _ _ _ (ih (k + 1) _ (by omega) (fun a h1 => by rw [hset_n h1]; exact ha a h1) (fun x h0 h1 => ?_))⟩
        rw [wnt, hFe]
        have eg : gtk (bx h) r t (h 25) (h c) k = (iabs (gdf (bx h) (h c) k) - spr r (h 14 5)) / prt r (h 14 5) t := by
          unfold gtk
          rw [if_neg hw]
          exact eE.trans (if_pos hp)
        by_cases e : x = f
        · subst e
          rw [hset_s, if_pos rfl, hx x h0 h1, eg]
        · rw [hset_m e, if_neg (fun z => e z.symm), hx x h0 h1]
          omega
      have k92 : V KX d mX5_wantByGaps 92 [some (aR 24), some (aR c), some (aI (spr r (h 14 5))), some (aI (prt r (h 14 5) t)), some (aI k), some (aI (h 21 k)), some (aI (h 22 k)), some (aI (gdf (bx h) (h c) k)), none] [aI (iabs (gdf (bx h) (h c) k))] g (rV P) := by
        refine v_X5_wantByGaps_92 c _ _ k _ _ _ _ g ⟨⟨by omega, by omega⟩, fun q => k152 ?_ _ _ _ _, fun q => ⟨⟨by omega, by omega⟩, fun q2 => absurd q2 (by omega), fun _ => ⟨by omega, by rw [e23]; exact ⟨by omega, by omega⟩, fun q2 => k152 ?_ _ _ _ _, fun q2 => ⟨by omega, by rw [e25]; exact ⟨by omega, by omega⟩, fun q3 => k152 ?_ _ _ _ _, fun q3 => ⟨⟨by omega, by omega⟩, fun q4 => ?_, fun q4 => ?_⟩⟩⟩⟩⟩
        · unfold gtk
          split
          · rfl
          · exact eE.trans (if_neg (by omega))
        · rw [e23] at q2
          unfold gtk
          rw [if_pos (Or.inl (show h 23 k = 1 by omega))]
        · rw [e25] at q3
          unfold gtk
          rw [if_pos (Or.inr (show h 25 k = 1 by omega))]
        · rw [e23] at q2
          rw [e25] at q3
          have := k144 (by rintro (z | z); (have z : h 23 k = 1 := z; omega); omega) q
          rwa [show gfr (bx h) (h c) k = h 22 k by unfold gfr; rw [if_neg (by omega)]] at this
        · rw [e23] at q2
          rw [e25] at q3
          have := k144 (by rintro (z | z); (have z : h 23 k = 1 := z; omega); omega) q
          rwa [show gfr (bx h) (h c) k = h 21 k by unfold gfr; rw [if_pos q4]] at this
      refine v_X5_wantByGaps_32 c _ _ k g ⟨⟨⟨by omega, by omega⟩, by rw [e14]; exact ⟨by omega, by omega⟩⟩, fun q => absurd q (by rw [e14]; omega), fun _ => ⟨by omega, by omega, ⟨hc, by rw [e21]; omega⟩, ⟨hc, by rw [e22]; omega⟩, by rw [eD]; exact ⟨by omega, by omega⟩, fun q => ?_, fun q => ?_⟩⟩
      · rw [eD] at q ⊢
        rw [e21, e22]
        rwa [show iabs (gdf (bx h) (h c) k) = gdf (bx h) (h c) k by unfold iabs; rw [if_neg (by omega)]] at k92
      · rw [eD] at q ⊢
        rw [e21, e22]
        rwa [show iabs (gdf (bx h) (h c) k) = -gdf (bx h) (h c) k by unfold iabs; rw [if_pos q]] at k92
  have zero : ∀ (m : Nat) (k : Int) (g : HP), 0 ≤ k → k + m = h 14 2 → (∀ a, a ≠ 26 → g a = h a) → (∀ x, 0 ≤ x → x < k → g 26 x = 0) → V KX d mX5_wantByGaps 3 [some (aR 24), some (aR c), some (aI (spr r (h 14 5))), some (aI (prt r (h 14 5) t)), some (aI k), none, none, none, none] [] g (rV P) := by
    intro m
    induction m with
    | zero =>
      intro k g h0 hk ha hx
      have e14 : g 14 = h 14 := ha 14 (by decide)
      refine v_X5_wantByGaps_3 c _ _ k g ⟨⟨⟨by omega, by omega⟩, by rw [e14]; exact ⟨by omega, by omega⟩⟩, fun _ => main (h 14 15).toNat 0 g (by omega) ha (fun x h1 h2 => by rw [hx x h1 (by omega)]; rfl), fun q => absurd q (by rw [e14]; omega)⟩
    | succ m ih =>
      intro k g h0 hk ha hx
      have e14 : g 14 = h 14 := ha 14 (by decide)
      refine v_X5_wantByGaps_3 c _ _ k g ⟨⟨⟨by omega, by omega⟩, by rw [e14]; exact ⟨by omega, by omega⟩⟩, fun q => absurd q (by rw [e14]; omega), fun _ => ⟨by omega, ih (k + 1) _ (by omega) (by omega) (fun a h1 => by rw [hset_n h1]; exact ha a h1) (fun x h1 h2 => ?_)⟩⟩
      by_cases e : x = k
      · subst e; rw [hset_s]
      · rw [hset_m e]; exact hx x h1 (by omega)
  exact zero (h 14 2).toNat 0 h (by omega) (by omega) (fun _ _ => rfl) (fun x h1 h2 => absurd h2 (by omega))
set_option maxHeartbeats 1000000 in
theorem c_pass {d : Nat} {P : Int → HP → Prop} {r t : Int} {c : Nat} {h : HP} (hb : wfB (bx h)) (hr : 0 ≤ r ∧ r ≤ 3) (hc : akd KX c 1 8 = true) (hc26 : c ≠ 26) (hc16 : c ≠ 16) (hrow : rowOK (h 14 2) (h c)) (hct : ∀ k, 0 ≤ k → k < h 14 15 → h 25 k = 0 ∨ h 25 k = 1)
    (hP : ∀ h', (∀ a, a ≠ c → a ≠ 26 → a ≠ 27 → h' a = h a) → eqN (h 14 2) (h' c) (ngt (bx h) r t (h 25) (h c)) → (∀ o, h' 27 o = if o = 0 ∨ o = 1 then h 27 o + (totO (bx h) o (h c) - totO (bx h) o (h' c)) else h 27 o) → P (tot (bx h) (h c) - tot (bx h) (h' c)) h') :
    Ct KX (d + 1) mX5_pass [aR 24, aR c, aI (spr r (h 14 5)), aI (prt r (h 14 5) t)] h (rI P) := by
  obtain ⟨hn, hG, hv, hgap, how⟩ := id hb
  dsimp only [bn, bG, bV, blo, bhi, bwl, bow, bx] at hn hG hv hgap how
  have hc27 : c ≠ 27 := ak_ne hc (by decide)
  have hc14 : c ≠ 14 := ak_ne hc (by decide)
  refine e_X5_pass c _ _ h (c_want hb hr hc hc26 hrow hct (fun h1 a1 a2 => ?_))
  have main : ∀ (m : Nat) (k : Int) (sum : Int) (g : HP), 0 ≤ k → k + m = h 14 2 → (∀ a, a ≠ c → a ≠ 26 → a ≠ 27 → g a = h a) → (g 26 = h1 26) → (∀ x, 0 ≤ x → x < k → g c x = ngt (bx h) r t (h 25) (h c) x) → (∀ x, k ≤ x → g c x = h c x) → sum = tot (bx h) (h c) - tot (bx h) (g c) → (∀ o, g 27 o = if o = 0 ∨ o = 1 then h 27 o + (totO (bx h) o (h c) - totO (bx h) o (g c)) else h 27 o) →
      V KX (d + 1) mX5_pass 13 [some (aR 24), some (aR c), some (aI (spr r (h 14 5))), some (aI (prt r (h 14 5) t)), some (aI sum), some (aI k), none] [] g (rI P) := by
    intro m
    induction m with
    | zero =>
      intro k sum g h0 hk ha hw hx hy hs ho
      have e14 : g 14 = h 14 := ha 14 hc14.symm (by decide) (by decide)
      refine v_X5_pass_13 c _ _ sum k g ⟨⟨⟨by omega, by omega⟩, by rw [e14]; exact ⟨by omega, by omega⟩⟩, fun _ => ?_, fun q => absurd q (by rw [e14]; omega)⟩
      rw [hs]
      exact hP g ha (fun x q1 q2 => hx x q1 (by omega)) ho
    | succ m ih =>
      intro k sum g h0 hk ha hw hx hy hs ho
      have e14 : g 14 = h 14 := ha 14 hc14.symm (by decide) (by decide)
      have e16 : g 16 = h 16 := ha 16 hc16.symm (by decide) (by decide)
      have hkn : k < h 14 2 := by omega
      have hp := hrow k h0 hkn
      have hck : g c k = h c k := hy k (Int.le_refl k)
      have hwk : g 26 k = wnt (bx h) r t (h 25) (h c) k (h 14 15).toNat := by rw [hw]; exact a2 k h0 hkn
      have hwn := wnt_nn (rats := r) (t := t) (ct := h 25) (p := h c) (x := k) hb (h 14 15).toNat
      have hwb : wnt (bx h) r t (h 25) (h c) k (h 14 15).toNat ≤ 3000 := by
        have hgb : ∀ j : Nat, (j : Int) ≤ h 14 15 → wnt (bx h) r t (h 25) (h c) k j ≤ j * 300 := by
          intro j
          induction j with
          | zero => intro _; simp [wnt]
          | succ j ihj =>
            intro hj
            have q1 := ihj (by omega)
            have q2 := gtk_in (rats := r) (t := t) (ct := h 25) (p := h c) (k := (j : Int)) hb
            obtain ⟨⟨z1, z2, z3⟩, -⟩ := hgap j (by omega) (by omega)
            have q3 := hrow (h 21 j) z1 (by omega)
            have q4 := hrow (h 22 j) (by omega) z3
            have q5 : iabs (gdf (bx h) (h c) j) ≤ 300 := by
              unfold iabs gdf
              dsimp only [blo, bhi, bx]
              split <;> omega
            rw [wnt]
            have q6 : ((j + 1 : Nat) : Int) * 300 = j * 300 + 300 := by omega
            rw [q6]
            split <;> omega
        have := hgb (h 14 15).toNat (by omega)
        omega
      have hof := how k h0 hkn
      have step : ∀ s : Int, s = min (h c k) (wnt (bx h) r t (h 25) (h c) k (h 14 15).toNat) → V KX (d + 1) mX5_pass 53 [some (aR 24), some (aR c), some (aI (spr r (h 14 5))), some (aI (prt r (h 14 5) t)), some (aI sum), some (aI k), none] [aI s] g (rI P) := by
        intro s hse
        have f16 : (hset g c k (g c k - s)) 16 = h 16 := by rw [hset_n hc16.symm, e16]
        have f27 : (hset g c k (g c k - s)) 27 = g 27 := by rw [hset_n hc27.symm]
        refine v_X5_pass_53 c _ _ sum k s g ⟨⟨hc, by omega⟩, ⟨hc, by omega⟩, by omega, by rw [f16]; omega, by rw [f16]; omega, ?_⟩
        rw [f16, f27]
        have hnx : ∀ x, 0 ≤ x → x < h 14 2 → x ≠ k → (hset (hset g c k (g c k - s)) 27 (h 16 k) (g 27 (h 16 k) + s)) c x = g c x := fun x _ _ hne => by rw [hset_n hc27, hset_m hne]
        have hnf : (hset (hset g c k (g c k - s)) 27 (h 16 k) (g 27 (h 16 k) + s)) c k = g c k - s := by rw [hset_n hc27, hset_s]
        refine ih (k + 1) _ _ (by omega) (by omega) ?_ ?_ ?_ ?_ ?_ ?_
        · intro a q1 q2 q3
          rw [hset_n q3, hset_n q1]
          exact ha a q1 q2 q3
        · rw [hset_n (by decide), hset_n hc26.symm]
          exact hw
        · intro x q1 q2
          by_cases e : x = k
          · subst e
            rw [hnf, hck, hse]
            rfl
          · rw [hnx x q1 (by omega) e]
            exact hx x q1 (by omega)
        · intro x q1
          rw [hset_n hc27, hset_m (by omega)]
          exact hy x (by omega)
        · rw [tot_upd (b := bx h) h0 hkn hnx hnf]
          omega
        · intro o
          rw [totO_upd (b := bx h) (o := o) h0 hkn hnx hnf]
          show _ = if o = 0 ∨ o = 1 then h 27 o + (totO (bx h) o (h c) - (totO (bx h) o (g c) - if h 16 k = o then s else 0)) else h 27 o
          have hoo := ho o
          by_cases e : o = h 16 k
          · subst e
            rw [hset_s, if_pos rfl, if_pos hof]
            rw [if_pos hof] at hoo
            omega
          · rw [hset_m e, if_neg (show ¬ h 16 k = o from fun z => e z.symm), hset_n hc27.symm, hoo]
            split <;> omega
      refine v_X5_pass_13 c _ _ sum k g ⟨⟨⟨by omega, by omega⟩, by rw [e14]; exact ⟨by omega, by omega⟩⟩, fun q => absurd q (by rw [e14]; omega), fun _ => ⟨by omega, ⟨hc, by omega⟩, ⟨by rw [hwk]; exact ⟨by omega, by omega⟩, by rw [hck]; exact ⟨by omega, by omega⟩⟩, fun q => ⟨⟨hc, by omega⟩, step _ ?_⟩, fun q => ⟨by omega, step _ ?_⟩⟩⟩
      · rw [hwk, hck] at q
        rw [hck]
        omega
      · rw [hwk, hck] at q
        rw [hwk]
        omega
  have e1 : h1 c = h c := a1 c hc26
  refine main (h 14 2).toNat 0 0 h1 (by omega) (by omega) (fun a _ q2 _ => a1 a q2) rfl (fun x q1 q2 => absurd q2 (by omega)) (fun x _ => by rw [e1]) (by rw [e1]; omega) (fun o => ?_)
  rw [e1, a1 27 (by decide)]
  split <;> omega
