/-! THE MODEL: numbers, a night, nights -/
theorem cP {P : Int → HP → Prop} {a b : Int} {h : HP} (hP : P a h) (e : a = b) : P b h := e ▸ hP
theorem lcmp_R {x y : Int} : iR (b_lcmp x y) := by unfold b_lcmp; constructor <;> (repeat' split) <;> omega
theorem lcmp_lt {x y : Int} : b_lcmp x y < 0 ↔ x < y := by unfold b_lcmp; (repeat' split) <;> omega
theorem lcmp_gt {x y : Int} : 0 < b_lcmp x y ↔ y < x := by unfold b_lcmp; (repeat' split) <;> omega
theorem c_in {d : Nat} {P : Int → HP → Prop} {x lo hi : Int} {h : HP} (hx : lR x) (hl : lR lo) (hh : lR hi) (h1 : lo ≤ x → x ≤ hi → P 1 h) (h0 : (x < lo ∨ hi < x) → P 0 h) : Ct KM d mX11_in [aL x, aL lo, aL hi] h (rI P) := by
  refine e_X11_in x lo hi h ⟨⟨hx, hl⟩, lcmp_R, fun q => ⟨by omega, ?_⟩, fun q => ⟨⟨hx, hh⟩, lcmp_R, fun q2 => ⟨by omega, ?_⟩, fun q2 => ⟨by omega, ?_⟩⟩⟩
  · exact h0 (Or.inl (lcmp_lt.mp q))
  · exact h0 (Or.inr (lcmp_gt.mp q2))
  · refine h1 ?_ ?_
    · have := mt lcmp_lt.mpr (show ¬ b_lcmp x lo < 0 by omega)
      rcases Int.lt_or_le x lo with z | z
      · exact absurd (lcmp_lt.mpr z) (by omega)
      · exact z
    · rcases Int.lt_or_le hi x with z | z
      · exact absurd (lcmp_gt.mpr z) (by omega)
      · exact z
theorem iR_l {x : Int} (h : iR x) : lR x := ⟨by have := h.1; omega, by have := h.2; omega⟩
/-- in(i, lo, hi) of ints -/
theorem c_inI {d : Nat} {P : Int → HP → Prop} {x lo hi : Int} {h : HP} (hx : iR x) (hl : iR lo) (hh : iR hi) (h1 : lo ≤ x → x ≤ hi → P 1 h) (h0 : (x < lo ∨ hi < x) → P 0 h) : Ct KM d mX11_in [aL x, aL lo, aL hi] h (rI P) := c_in (iR_l hx) (iR_l hl) (iR_l hh) h1 h0
theorem c_isLong {d : Nat} {P : Int → HP → Prop} {x : Int} {h : HP} (hx : iR x) (h1 : 0 ≤ x → x ≤ 60 → P 1 h) (h0 : (x < 0 ∨ 60 < x) → P 0 h) : Ct KM (d + 1) mX11_isLong [aI x] h (rI P) :=
  e_X11_isLong x h ⟨hx, c_inI hx (by decide) (by decide) (fun a b => ⟨by omega, h1 a b⟩) (fun a => ⟨by omega, h0 a⟩)⟩
theorem c_isSeed {d : Nat} {P : Int → HP → Prop} {x : Int} {h : HP} (hx : iR x) (h1 : 0 ≤ x → x ≤ 9999 → P 1 h) (h0 : (x < 0 ∨ 9999 < x) → P 0 h) : Ct KM (d + 1) mX11_isSeed [aI x] h (rI P) :=
  e_X11_isSeed x h ⟨hx, c_inI hx (by decide) (by decide) (fun a b => ⟨by omega, h1 a b⟩) (fun a => ⟨by omega, h0 a⟩)⟩
theorem c_misBin {d : Nat} {P : Int → HP → Prop} {x : Int} {h : HP} (hx : iR x) (hn : 0 ≤ h 2 0 ∧ h 2 0 ≤ 8) (h1 : 0 ≤ x → x < h 2 0 → P 1 h) (h0 : (x < 0 ∨ h 2 0 ≤ x) → P 0 h) : Ct KM (d + 1) mX11_isBin [aR 0, aI x] h (rI P) := by
  refine e_X11_isBin x h ⟨hx, by omega, ⟨by omega, by omega⟩, c_inI hx (by decide) ⟨by omega, by omega⟩ (fun a b => ⟨by omega, h1 a (by omega)⟩) (fun a => ⟨by omega, h0 (by omega)⟩)⟩
theorem c_eats {d : Nat} {P : Int → HP → Prop} {r x t : Int} {h : HP} (hr : 0 ≤ r ∧ r ≤ 3) (hx : 0 ≤ x ∧ x ≤ 1000000) (ht : 0 ≤ t ∧ t ≤ 1000000) (hv : 0 ≤ h 5 2 ∧ h 5 2 ≤ 30) (hP : P (eatD r (h 5 2) t x) h) : Ct KM d mX11_eats [aR 0, aI r, aI x, aI t] h (rI P) := by
  refine e_X11_eats r x t h ?_
  repeat' (first | apply And.intro | intro _)
  all_goals first | omega | (refine cP hP ?_; unfold eatD; (repeat' split) <;> omega)
theorem c_tries {d : Nat} {P : HP → Prop} {h : HP} (hP : ∀ h', (∀ a, a ≠ 16 → a ≠ 18 → h' a = h a) → (∀ x, 0 ≤ x → x < 8 → h' 16 x = h 13 x) → h' 18 0 = 0 → h' 18 1 = 0 → P h') : Ct KM d mX11_tries [aR 0] h (rV P) := by
  refine e_X11_tries h ?_
  have key : ∀ (m : Nat) (k : Int) (g : HP), 0 ≤ k → k + m = 8 → (∀ a, a ≠ 16 → g a = h a) → (∀ x, 0 ≤ x → x < k → g 16 x = h 13 x) → V KM d mX11_tries 2 [some (aR 0), some (aI k)] [] g (rV P) := by
    intro m
    induction m with
    | zero =>
      intro k g h0 hk ha hx
      refine v_X11_tries_2 k g ⟨⟨⟨by omega, by omega⟩, by decide⟩, fun _ => ⟨by omega, by omega, hP _ ?_ ?_ ?_ ?_⟩, fun q => absurd q (by omega)⟩
      · intro a h1 h2
        rw [hset_n h2, hset_n h2]
        exact ha a h1
      · intro x h1 h2
        rw [hset_n (by decide), hset_n (by decide)]
        exact hx x h1 (by omega)
      · simp [hset]
      · simp [hset]
    | succ m ih =>
      intro k g h0 hk ha hx
      refine v_X11_tries_2 k g ⟨⟨⟨by omega, by omega⟩, by decide⟩, fun q => absurd q (by omega), fun _ => ⟨by omega, by omega, ih (k + 1) _ (by omega) (by omega) ?_ ?_⟩⟩
      · intro a h1
        rw [hset_n h1]
        exact ha a h1
      · intro x h1 h2
        by_cases e : x = k
        · subst e
          rw [hset_s, ha 13 (by decide)]
        · rw [hset_m e]
          exact hx x h1 (by omega)
  exact key 8 0 h (by omega) (by omega) (fun _ _ => rfl) (fun x h1 h2 => absurd h2 (by omega))
abbrev bm (h : HP) : BB := (h 2 0, h 0 11, h 5 2, h 10, h 11, h 12, h 4)
def ctm (h : HP) : Int → Int := fun k => b_iand (b_ishr (h 0 15) k) 1
theorem iand_R (x y : Int) : iR (b_iand x y) := ⟨Int32.le_toInt _, by have := Int32.toInt_lt (Int32.ofInt x &&& Int32.ofInt y); unfold b_iand; omega⟩
theorem tot_upd {b : BB} {p q : Int → Int} {f s : Int} (h0 : 0 ≤ f) (h1 : f < bn b) (ho : ∀ x, 0 ≤ x → x < bn b → x ≠ f → q x = p x) (hf : q f = p f - s) : tot b q = tot b p - s := by
  have h2 := Sm_upd (f := q) (g := p) (j := f.toNat) (bn b).toNat (by omega) (fun i hi hne => ho i (by omega) (by omega) (by omega))
  have h3 : ((f.toNat : Nat) : Int) = f := by omega
  rw [h3, hf] at h2
  unfold tot
  omega
theorem totO_upd {b : BB} {o : Int} {p q : Int → Int} {f s : Int} (h0 : 0 ≤ f) (h1 : f < bn b) (ho : ∀ x, 0 ≤ x → x < bn b → x ≠ f → q x = p x) (hf : q f = p f - s) : totO b o q = totO b o p - (if bow b f = o then s else 0) := by
  have h2 := Sm_upd (f := fun x => if bow b x = o then q x else 0) (g := fun x => if bow b x = o then p x else 0) (j := f.toNat) (bn b).toNat (by omega) (fun i hi hne => by
    have := ho i (by omega) (by omega) (by omega)
    simp only [this])
  have h3 : ((f.toNat : Nat) : Int) = f := by omega
  simp only [h3] at h2
  unfold totO
  rw [h2]
  split
  · omega
  · omega
set_option maxHeartbeats 1000000 in
theorem c_goes {d : Nat} {P : Int → HP → Prop} {r t : Int} {h : HP} (hb : wfB (bm h)) (hr : 0 ≤ r ∧ r ≤ 3) (ht : 0 ≤ t ∧ t ≤ 1000000) (hrow : rowOK (h 2 0) (h 16))
    (hP : ∀ h', (∀ a, a ≠ 16 → a ≠ 17 → a ≠ 18 → h' a = h a) → eqN (h 2 0) (h' 16) (ngt (bm h) r t (ctm h) (h 16)) → (∀ o, h' 18 o = if o = 0 ∨ o = 1 then h 18 o + (totO (bm h) o (h 16) - totO (bm h) o (h' 16)) else h 18 o) → P (tot (bm h) (h 16) - tot (bm h) (h' 16)) h') :
    Ct KM (d + 1) mX11_goes [aR 0, aI r, aI t] h (rI P) := by
  obtain ⟨hn, hG, hv, hgap, how⟩ := id hb
  dsimp only [bn, bG, bV, blo, bhi, bwl, bow, bm] at hn hG hv hgap how
  refine e_X11_goes r t h ?_
  -- the gaps
  have main : ∀ (m : Nat) (k : Nat) (sum : Int) (g : HP), (k : Int) + m = h 0 11 → (∀ a, a ≠ 16 → a ≠ 17 → a ≠ 18 → g a = h a) → (∀ x, 0 ≤ x → x < 8 → g 17 x = h 16 x) → (∀ x, 0 ≤ x → x < h 2 0 → g 16 x = h 16 x - min (h 16 x) (wnt (bm h) r t (ctm h) (h 16) x k)) →
      sum = tot (bm h) (h 16) - tot (bm h) (g 16) → (∀ o, g 18 o = if o = 0 ∨ o = 1 then h 18 o + (totO (bm h) o (h 16) - totO (bm h) o (g 16)) else h 18 o) →
      V KM (d + 1) mX11_goes 31 [some (aR 0), some (aI r), some (aI t), some (aI sum), some (aI k), none, none, none] [] g (rI P) := by
    intro m
    induction m with
    | zero =>
      intro k sum g hk ha hd hx hs ho
      have e0 : g 0 = h 0 := ha 0 (by decide) (by decide) (by decide)
      refine v_X11_goes_31 r t sum k g ⟨⟨⟨by omega, by omega⟩, by rw [e0]; exact ⟨by omega, by omega⟩⟩, fun _ => ?_, fun q => absurd q (by rw [e0]; omega)⟩
      rw [hs]
      refine hP g ha (fun x h0 h1 => ?_) ho
      rw [hx x h0 h1]
      unfold ngt
      dsimp only [bG, bm]
      rw [show (h 0 11).toNat = k by omega]
    | succ m ih =>
      intro k sum g hk ha hd hx hs ho
      have e0 : g 0 = h 0 := ha 0 (by decide) (by decide) (by decide)
      have e10 : g 10 = h 10 := ha 10 (by decide) (by decide) (by decide)
      have e11 : g 11 = h 11 := ha 11 (by decide) (by decide) (by decide)
      have e12 : g 12 = h 12 := ha 12 (by decide) (by decide) (by decide)
      have e4 : g 4 = h 4 := ha 4 (by decide) (by decide) (by decide)
      have e5 : g 5 = h 5 := ha 5 (by decide) (by decide) (by decide)
      have hkG : (k : Int) < h 0 11 := by omega
      obtain ⟨⟨z1, z2, z3⟩, z4⟩ := hgap k (by omega) hkG
      have hlo := hrow (h 10 k) z1 (by omega)
      have hhi := hrow (h 11 k) (by omega) z3
      have q1 : g 17 (h 10 k) = h 16 (h 10 k) := hd _ z1 (by omega)
      have q2 : g 17 (h 11 k) = h 16 (h 11 k) := hd _ (by omega) (by omega)
      have eD : g 17 (g 10 k) - g 17 (g 11 k) = gdf (bm h) (h 16) k := by rw [e10, e11, q1, q2]; rfl
      have hDr : -300 ≤ gdf (bm h) (h 16) k ∧ gdf (bm h) (h 16) k ≤ 300 := by rw [← eD, e10, e11, q1, q2]; omega
      have hF : 0 ≤ gfr (bm h) (h 16) k ∧ gfr (bm h) (h 16) k < h 2 0 := by
        unfold gfr
        dsimp only [blo, bhi, bm]
        split <;> omega
      obtain ⟨w1, w2⟩ := gtk_in (rats := r) (t := t) (ct := ctm h) (p := h 16) (k := (k : Int)) hb
      have habs : iabs (gdf (bm h) (h 16) k) ≤ 300 ∧ 0 ≤ iabs (gdf (bm h) (h 16) k) := by unfold iabs; split <;> omega
      generalize hFe : gfr (bm h) (h 16) k = f at hF
      generalize hWe : gtk (bm h) r t (ctm h) (h 16) k = w at w1 w2
      have hfx := hx f hF.1 hF.2
      have hf0 := hrow f hF.1 hF.2
      have hwn := wnt_nn (rats := r) (t := t) (ct := ctm h) (p := h 16) (x := f) hb k
      have hof := how f hF.1 hF.2
      have k163 : ∀ x5 x7 : Int, V KM (d + 1) mX11_goes 163 [some (aR 0), some (aI r), some (aI t), some (aI sum), some (aI k), some (aI x5), some (aI f), some (aI x7)] [aI (min w (g 16 f))] g (rI P) := by
        intro x5 x7
        refine v_X11_goes_163 r t sum k x5 f x7 (min w (g 16 f)) g ⟨by omega, by omega, by omega, by rw [e4]; omega, by rw [e4]; omega, ?_⟩
        have hnx : ∀ x, 0 ≤ x → x < h 2 0 → x ≠ f → (hset (hset g 16 f (g 16 f - min w (g 16 f))) 18 (g 4 f) (g 18 (g 4 f) + min w (g 16 f))) 16 x = g 16 x := fun x _ _ hne => by rw [hset_n (by decide), hset_m hne]
        have hnf : (hset (hset g 16 f (g 16 f - min w (g 16 f))) 18 (g 4 f) (g 18 (g 4 f) + min w (g 16 f))) 16 f = g 16 f - min w (g 16 f) := by rw [hset_n (by decide), hset_s]
        refine ih (k + 1) _ _ (by omega) ?_ ?_ ?_ ?_ ?_
        · intro a h1 h2 h3
          rw [hset_n h3, hset_n h1]
          exact ha a h1 h2 h3
        · intro x h0 h1
          rw [hset_n (by decide), hset_n (by decide)]
          exact hd x h0 h1
        · intro x h0 h1
          rw [wnt, hFe, hWe]
          by_cases e : x = f
          · subst e
            rw [hnf, if_pos rfl, hfx]
            omega
          · rw [hnx x h0 h1 e, if_neg (fun z => e z.symm), hx x h0 h1]
            omega
        · rw [tot_upd (b := bm h) hF.1 hF.2 hnx hnf]
          omega
        · intro o
          rw [totO_upd (b := bm h) (o := o) hF.1 hF.2 hnx hnf]
          show _ = if o = 0 ∨ o = 1 then h 18 o + (totO (bm h) o (h 16) - (totO (bm h) o (g 16) - if h 4 f = o then min w (g 16 f) else 0)) else h 18 o
          have hoo := ho o
          rw [e4]
          by_cases e : o = h 4 f
          · subst e
            rw [hset_s, if_pos rfl, if_pos hof]
            rw [if_pos hof] at hoo
            omega
          · rw [hset_m e, if_neg (show ¬ h 4 f = o from fun z => e z.symm), hset_n (by decide), hoo]
            split <;> omega
      have k137 : ∀ x5 : Int, V KM (d + 1) mX11_goes 137 [some (aR 0), some (aI r), some (aI t), some (aI sum), some (aI k), some (aI x5), some (aI f), none] [aI w] g (rI P) := by
        intro x5
        refine v_X11_goes_137 r t sum k x5 f w g ⟨by omega, ⟨⟨by omega, by omega⟩, ⟨by omega, by omega⟩⟩, fun q => ?_, fun q => ⟨by omega, ?_⟩⟩
        · have := k163 x5 w
          rwa [show min w (g 16 f) = w by omega] at this
        · have := k163 x5 w
          rwa [show min w (g 16 f) = g 16 f by omega] at this
      have k114 : bwl (bm h) k = 1 ∨ ctm h k = 1 → ∀ x5 : Int, V KM (d + 1) mX11_goes 114 [some (aR 0), some (aI r), some (aI t), some (aI sum), some (aI k), some (aI x5), some (aI f), none] [] g (rI P) := by
        intro hc x5
        have : w = 0 := by rw [← hWe]; unfold gtk; rw [if_pos hc]
        refine v_X11_goes_114 r t sum k x5 f g ?_
        have h9 := k137 x5
        rwa [this] at h9
      have k133 : ¬ (bwl (bm h) k = 1 ∨ ctm h k = 1) → ∀ x5 : Int, V KM (d + 1) mX11_goes 133 [some (aR 0), some (aI r), some (aI t), some (aI sum), some (aI k), some (aI x5), some (aI f), none] [aI (iabs (gdf (bm h) (h 16) k)), aI r, aR 0] g (rI P) := by
        intro hc x5
        refine v_X11_goes_133 r t sum k x5 f _ r g (c_eats hr ⟨by omega, by omega⟩ ht (by rw [e5]; exact hv) ?_)
        have : eatD r (g 5 2) t (iabs (gdf (bm h) (h 16) k)) = w := by rw [← hWe, e5]; unfold gtk; rw [if_neg hc]
        rw [this]
        exact k137 x5
      have k89 : V KM (d + 1) mX11_goes 89 [some (aR 0), some (aI r), some (aI t), some (aI sum), some (aI k), some (aI (gdf (bm h) (h 16) k)), none, none] [aI f] g (rI P) := by
        refine v_X11_goes_89 r t sum k _ f g ⟨by omega, by rw [e12]; exact ⟨by omega, by omega⟩, fun q => k114 (Or.inl (by rw [e12] at q; show h 12 k = 1; omega)) _, fun q => ⟨⟨iand_R _ _, by decide⟩, fun q2 => ⟨⟨by omega, by omega⟩, fun q3 => ?_, fun q3 => ?_⟩, fun q2 => k114 (Or.inr (by rw [e0] at q2; exact q2)) _⟩⟩
        · have h9 := k133 (by rintro (z | z); (have z : h 12 k = 1 := z; rw [e12] at q; omega); (rw [e0] at q2; exact q2 z)) (gdf (bm h) (h 16) k)
          rwa [show iabs (gdf (bm h) (h 16) k) = gdf (bm h) (h 16) k by unfold iabs; rw [if_neg (by omega)]] at h9
        · have h9 := k133 (by rintro (z | z); (have z : h 12 k = 1 := z; rw [e12] at q; omega); (rw [e0] at q2; exact q2 z)) (gdf (bm h) (h 16) k)
          rwa [show iabs (gdf (bm h) (h 16) k) = -gdf (bm h) (h 16) k by unfold iabs; rw [if_pos q3]] at h9
      refine v_X11_goes_31 r t sum k g ⟨⟨⟨by omega, by omega⟩, by rw [e0]; exact ⟨by omega, by omega⟩⟩, fun q => absurd q (by rw [e0]; omega), fun _ => ⟨by omega, by rw [e10]; omega, by omega, by rw [e11]; omega, by rw [eD]; exact ⟨by omega, by omega⟩, fun q => ⟨by omega, ?_⟩, fun q => ⟨by omega, ?_⟩⟩⟩
      · rw [eD] at q ⊢
        have : f = g 11 k := by rw [← hFe, e11]; unfold gfr; rw [if_neg (by omega)]
        rw [← this]
        exact k89
      · rw [eD] at q ⊢
        have : f = g 10 k := by rw [← hFe, e10]; unfold gfr; rw [if_pos q]
        rw [← this]
        exact k89
  -- the copy
  have copy : ∀ (m : Nat) (k : Int) (g : HP), 0 ≤ k → k + m = 8 → (∀ a, a ≠ 17 → g a = h a) → (∀ x, 0 ≤ x → x < k → g 17 x = h 16 x) → V KM (d + 1) mX11_goes 2 [some (aR 0), some (aI r), some (aI t), some (aI k), none, none, none, none] [] g (rI P) := by
    intro m
    induction m with
    | zero =>
      intro k g h0 hk ha hx
      refine v_X11_goes_2 r t k g ⟨⟨⟨by omega, by omega⟩, by decide⟩, fun _ => ?_, fun q => absurd q (by omega)⟩
      have e16 : g 16 = h 16 := ha 16 (by decide)
      refine main (h 0 11).toNat 0 0 g (by omega) (fun a _ h2 _ => ha a h2) (fun x h1 h2 => hx x h1 (by omega)) (fun x h1 h2 => ?_) (by rw [e16]; omega) (fun o => ?_)
      · have := hrow x h1 h2
        rw [e16, wnt]
        omega
      · rw [e16, ha 18 (by decide)]
        split <;> omega
    | succ m ih =>
      intro k g h0 hk ha hx
      refine v_X11_goes_2 r t k g ⟨⟨⟨by omega, by omega⟩, by decide⟩, fun q => absurd q (by omega), fun _ => ⟨by omega, by omega, ih (k + 1) _ (by omega) (by omega) ?_ ?_⟩⟩
      · intro a h1
        rw [hset_n h1]
        exact ha a h1
      · intro x h1 h2
        by_cases e : x = k
        · subst e
          rw [hset_s, ha 16 (by decide)]
        · rw [hset_m e]
          exact hx x h1 (by omega)
  exact copy 8 0 h (by omega) (by omega) (fun _ _ => rfl) (fun x h1 h2 => absurd h2 (by omega))
theorem NN_1 {b : BB} {r : Int} {ct p : Int → Int} {t : Int} (k : Nat) : NN b r ct p t (k + 1) = ngt b r (t + k) ct (NN b r ct p t k) := rfl
/-- nights(rats, t, n) -/
theorem c_nights {d : Nat} {P : Int → HP → Prop} {r t n : Int} {h : HP} (hb : wfB (bm h)) (hr : 0 ≤ r ∧ r ≤ 3) (ht : 0 ≤ t ∧ t ≤ 900000) (hn : 0 ≤ n ∧ n ≤ 100) (hrow : rowOK (h 2 0) (h 16))
    (hP : ∀ h', (∀ a, a ≠ 16 → a ≠ 17 → a ≠ 18 → h' a = h a) → eqN (h 2 0) (h' 16) (NN (bm h) r (ctm h) (h 16) t n.toNat) → (∀ o, h' 18 o = if o = 0 ∨ o = 1 then h 18 o + (totO (bm h) o (h 16) - totO (bm h) o (h' 16)) else h 18 o) → P (tot (bm h) (h 16) - tot (bm h) (h' 16)) h') :
    Ct KM (d + 2) mX11_nights [aR 0, aI r, aI t, aI n] h (rI P) := by
  refine e_X11_nights r t n h ?_
  have key : ∀ (m : Nat) (k : Nat) (sum : Int) (g : HP), (k : Int) + m = n → (∀ a, a ≠ 16 → a ≠ 17 → a ≠ 18 → g a = h a) → eqN (h 2 0) (g 16) (NN (bm h) r (ctm h) (h 16) t k) → sum = tot (bm h) (h 16) - tot (bm h) (g 16) → (∀ o, g 18 o = if o = 0 ∨ o = 1 then h 18 o + (totO (bm h) o (h 16) - totO (bm h) o (g 16)) else h 18 o) →
      V KM (d + 2) mX11_nights 6 [some (aR 0), some (aI r), some (aI t), some (aI n), some (aI sum), some (aI k)] [] g (rI P) := by
    intro m
    induction m with
    | zero =>
      intro k sum g hk ha hx hs ho
      refine v_X11_nights_6 r t n sum k g ⟨⟨⟨by omega, by omega⟩, ⟨by omega, by omega⟩⟩, fun _ => ?_, fun q => absurd q (by omega)⟩
      rw [hs]
      refine hP g ha ?_ ho
      rw [show n.toNat = k by omega]
      exact hx
    | succ m ih =>
      intro k sum g hk ha hx hs ho
      have e0 : g 0 = h 0 := ha 0 (by decide) (by decide) (by decide)
      have e2 : g 2 = h 2 := ha 2 (by decide) (by decide) (by decide)
      have eb : bm g = bm h := by
        dsimp only [bm]
        rw [e0, e2, ha 5 (by decide) (by decide) (by decide), ha 10 (by decide) (by decide) (by decide), ha 11 (by decide) (by decide) (by decide), ha 12 (by decide) (by decide) (by decide), ha 4 (by decide) (by decide) (by decide)]
      have ec : ctm g = ctm h := by unfold ctm; rw [e0]
      have hrk := NN_ok (rats := r) (t := t) (ct := ctm h) hb hrow k
      refine v_X11_nights_6 r t n sum k g ⟨⟨⟨by omega, by omega⟩, ⟨by omega, by omega⟩⟩, fun q => absurd q (by omega), fun _ => ?_⟩
      refine c_goes (by rw [eb]; exact hb) hr ⟨by omega, by omega⟩ (by rw [e2]; intro x h0 h1; rw [hx x h0 h1]; exact hrk x h0 h1) (fun h' a1 a2 a3 => ?_)
      rw [eb] at a2 a3 ⊢
      rw [ec, e2] at a2
      refine ih (k + 1) _ h' (by omega) (fun a h1 h2 h3 => (a1 a h1 h2 h3).trans (ha a h1 h2 h3)) ?_ (by rw [hs]; omega) (fun o => ?_)
      · intro x h0 h1
        rw [a2 x h0 h1, NN_1]
        exact ngt_ag hb (agB_rf _) hx (eqN_rf _ _) x h0 h1
      · rw [a3 o, ho o]
        split <;> omega
  exact key n.toNat 0 0 h (by omega) (fun _ _ _ _ => rfl) (eqN_rf _ _) (by omega) (fun o => by split <;> omega)
