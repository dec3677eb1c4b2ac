/-! THE CLASS: nights with their early ends -/
theorem wnt_ge {b : BB} {r t : Int} {ct p : Int → Int} {x : Int} (hb : wfB b) {j : Nat} : ∀ m : Nat, j < m → gfr b p j = x → gtk b r t ct p j ≤ wnt b r t ct p x m
  | 0, h, _ => by omega
  | m + 1, h, e => by
    rw [wnt]
    have h2 := (gtk_in (rats := r) (t := t) (ct := ct) (p := p) (k := (m : Int)) hb).1
    by_cases hj : j = m
    · subst hj
      have h1 := wnt_nn (rats := r) (t := t) (ct := ct) (p := p) (x := x) hb j
      rw [if_pos e]
      omega
    · have h1 := wnt_ge (r := r) (t := t) (ct := ct) hb m (by omega) e
      split <;> omega
theorem wnt_0 {b : BB} {r t : Int} {ct p : Int → Int} {x : Int} : ∀ m : Nat, (∀ j : Nat, j < m → gtk b r t ct p j = 0) → wnt b r t ct p x m = 0
  | 0, _ => rfl
  | m + 1, h => by
    rw [wnt, wnt_0 m (fun j hj => h j (by omega)), h m (by omega)]
    split <;> omega
theorem stable {b : BB} {r t t' : Int} {ct p : Int → Int} (hb : wfB b) (hr : 0 ≤ r ∧ r ≤ 3) (hp : rowOK (bn b) p) (hs : eqN (bn b) (ngt b r t ct p) p) (hm : r ≠ 3 ∨ t % 7 = bV b % 7) : eqN (bn b) (ngt b r t' ct p) p := by
  have hG := hb.2.1
  have z : ∀ j : Nat, j < (bG b).toNat → gtk b r t ct p j = 0 := by
    intro j hj
    have hjG : (j : Int) < bG b := by omega
    obtain ⟨⟨z1, z2, z3⟩, -⟩ := hb.2.2.2.1 j (by omega) hjG
    have w := gtk_in (rats := r) (t := t) (ct := ct) (p := p) (k := (j : Int)) hb
    have plo := hp _ z1 (by omega)
    have phi := hp _ (by omega) z3
    have hf : 0 ≤ gfr b p j ∧ gfr b p j < bn b ∧ iabs (gdf b p j) ≤ p (gfr b p j) := by
      unfold gfr iabs gdf
      split
      · split <;> omega
      · split <;> omega
    have h1 := wnt_ge (r := r) (t := t) (ct := ct) (p := p) hb (bG b).toNat hj rfl
    have h2 := hs _ hf.1 hf.2.1
    have h3 := hp _ hf.1 hf.2.1
    unfold ngt at h2
    omega
  have z' : ∀ j : Nat, j < (bG b).toNat → gtk b r t' ct p j = 0 := by
    intro j hj
    have h0 := z j hj
    have ha : 0 ≤ iabs (gdf b p j) := by unfold iabs; split <;> omega
    unfold gtk at h0 ⊢
    split
    · rfl
    · rename_i hc
      rw [if_neg hc] at h0
      unfold eatD at h0 ⊢
      rcases (show r = 0 ∨ r = 1 ∨ r = 2 ∨ r = 3 by omega) with rfl | rfl | rfl | rfl
      · simpa using h0
      · simpa using h0
      · simpa using h0
      · have hm : t % 7 = bV b % 7 := by
          rcases hm with h | h
          · exact absurd rfl h
          · exact h
        simp [hm] at h0
        rw [h0]
        simp
  intro x h0 h1
  unfold ngt
  rw [wnt_0 _ z']
  have := hp x h0 h1
  omega
theorem NN_add {b : BB} {r : Int} {ct p : Int → Int} {t : Int} (hb : wfB b) {k : Nat} (hs : ∀ t', eqN (bn b) (ngt b r t' ct (NN b r ct p t k)) (NN b r ct p t k)) : ∀ j : Nat, eqN (bn b) (NN b r ct p t (k + j)) (NN b r ct p t k)
  | 0 => eqN_rf _ _
  | j + 1 => fun x h0 h1 => by
    have h2 := ngt_ag (rats := r) (t := t + (k + j : Nat)) (ct := ct) (ct' := ct) hb (agB_rf b) (NN_add hb hs j) (eqN_rf _ _) x h0 h1
    show ngt b r (t + (k + j : Nat)) ct (NN b r ct p t (k + j)) x = _
    rw [h2]
    exact hs _ x h0 h1
theorem tot_NN {b : BB} {r : Int} {ct p : Int → Int} {t : Int} (hb : wfB b) (hp : rowOK (bn b) p) (k : Nat) : ∀ j : Nat, tot b (NN b r ct p t (k + j)) ≤ tot b (NN b r ct p t k)
  | 0 => Int.le_refl _
  | j + 1 => by
    have h1 := tot_le (rats := r) (t := t + (k + j : Nat)) (ct := ct) hb (NN_ok (rats := r) (t := t) (ct := ct) hb hp (k + j))
    have h2 := tot_NN (r := r) (ct := ct) (t := t) hb hp k j
    show tot b (ngt b r (t + (k + j : Nat)) ct (NN b r ct p t (k + j))) ≤ _
    omega
/-- what is lost in k nights -/
def lossN (b : BB) (r : Int) (ct p : Int → Int) (t : Int) (k : Nat) : Int := tot b p - tot b (NN b r ct p t k)
def lossO (b : BB) (o r : Int) (ct p : Int → Int) (t : Int) (k : Nat) : Int := totO b o p - totO b o (NN b r ct p t k)
theorem lossN_in {b : BB} {r : Int} {ct p : Int → Int} {t : Int} (hb : wfB b) (hp : rowOK (bn b) p) (k : Nat) : 0 ≤ lossN b r ct p t k ∧ lossN b r ct p t k ≤ 2400 := by
  have h1 := tot_NN (r := r) (ct := ct) (t := t) hb hp 0 k
  rw [Nat.zero_add] at h1
  have h2 := tot_in hb hp
  have h3 := tot_in hb (NN_ok (rats := r) (t := t) (ct := ct) hb hp k)
  unfold lossN
  have h4 : NN b r ct p t 0 = p := rfl
  rw [h4] at h1
  omega
set_option maxHeartbeats 1000000 in
theorem c_run {d : Nat} {P : Int → HP → Prop} {r t n lim : Int} {c : Nat} {h : HP} (hb : wfB (bx h)) (hr : 0 ≤ r ∧ r ≤ 3) (ht : 0 ≤ t ∧ t ≤ 900000) (hn : 0 ≤ n ∧ n ≤ 100) (hl : -1000000 ≤ lim ∧ lim ≤ 1000000) (hc : akd KX c 1 8 = true) (hc26 : c ≠ 26) (hc16 : c ≠ 16) (hrow : rowOK (h 14 2) (h c)) (hct : ∀ k, 0 ≤ k → k < h 14 15 → h 25 k = 0 ∨ h 25 k = 1)
    (hP : ∀ h', (∀ a, a ≠ c → a ≠ 26 → a ≠ 27 → h' a = h a) → (∀ o, o = 0 ∨ o = 1 → h' 27 o = totO (bx h) o (h c) - totO (bx h) o (h' c)) →
      (eqN (h 14 2) (h' c) (NN (bx h) r (h 25) (h c) t n.toNat) ∨ (lim ≤ tot (bx h) (h c) - tot (bx h) (h' c) ∧ tot (bx h) (h c) - tot (bx h) (h' c) ≤ lossN (bx h) r (h 25) (h c) t n.toNat)) → P (tot (bx h) (h c) - tot (bx h) (h' c)) h') :
    Ct KX (d + 2) mX5_run [aR 24, aI r, aR c, aI t, aI n, aI lim] h (rI P) := by
  obtain ⟨hnn, hG, hv, hgap, how⟩ := id hb
  dsimp only [bn, bG, bV, blo, bhi, bwl, bow, bx] at hnn hG hv hgap how
  have hc27 : c ≠ 27 := ak_ne hc (by decide)
  have hc14 : c ≠ 14 := ak_ne hc (by decide)
  have hc21 : c ≠ 21 := ak_ne hc (by decide)
  have hc22 : c ≠ 22 := ak_ne hc (by decide)
  have hc23 : c ≠ 23 := ak_ne hc (by decide)
  have hc25 : c ≠ 25 := ak_ne hc (by decide)
  have key : ∀ (m : Nat) (k : Nat) (g : HP), (k : Int) + m = n → (∀ a, a ≠ c → a ≠ 26 → a ≠ 27 → g a = h a) → eqN (h 14 2) (g c) (NN (bx h) r (h 25) (h c) t k) → (∀ o, o = 0 ∨ o = 1 → g 27 o = totO (bx h) o (h c) - totO (bx h) o (g c)) →
      V KX (d + 2) mX5_run 38 [some (aR 24), some (aI r), some (aR c), some (aI t), some (aI n), some (aI lim), some (aI (spr r (h 14 5))), some (aI (tot (bx h) (h c) - tot (bx h) (g c))), some (aI k), none, none] [] g (rI P) := by
    intro m
    induction m with
    | zero =>
      intro k g hk ha hx ho
      have h2 := tot_in hb hrow
      have h3 := tot_in hb (p := g c) (fun x q1 q2 => by rw [hx x q1 q2]; exact NN_ok hb hrow k x q1 q2)
      refine v_X5_run_38 r c t n lim _ _ k g ⟨⟨⟨by omega, by omega⟩, ⟨by omega, by omega⟩⟩, fun _ => hP g ha ho (Or.inl ?_), fun q => absurd q (by omega)⟩
      rw [show n.toNat = k by omega]
      exact hx
    | succ m ih =>
      intro k g hk ha hx ho
      have e14 : g 14 = h 14 := ha 14 hc14.symm (by decide) (by decide)
      have e25 : g 25 = h 25 := ha 25 hc25.symm (by decide) (by decide)
      have eb : bx g = bx h := by
        dsimp only [bx]
        rw [e14, ha 21 hc21.symm (by decide) (by decide), ha 22 hc22.symm (by decide) (by decide), ha 23 hc23.symm (by decide) (by decide), ha 16 hc16.symm (by decide) (by decide)]
      have hrk := NN_ok (rats := r) (t := t) (ct := h 25) hb hrow k
      have hgr : rowOK (h 14 2) (g c) := fun x q1 q2 => by rw [hx x q1 q2]; exact hrk x q1 q2
      have h2 := tot_in hb hrow
      have h3 := tot_in hb (p := g c) hgr
      have etk : tot (bx h) (g c) = tot (bx h) (NN (bx h) r (h 25) (h c) t k) := tot_ag (agB_rf _) hx
      refine v_X5_run_38 r c t n lim _ _ k g ⟨⟨⟨by omega, by omega⟩, ⟨by omega, by omega⟩⟩, fun q => absurd q (by omega), fun _ => ⟨⟨⟨by omega, by omega⟩, ⟨by omega, by omega⟩⟩, fun q => hP g ha ho (Or.inr ⟨q, ?_⟩), fun q => ?_⟩⟩
      · have h4 := tot_NN (r := r) (ct := h 25) (t := t) hb hrow k (m + 1)
        unfold lossN
        rw [show n.toNat = k + (m + 1) by omega]
        omega
      · refine c_partOf hr ⟨by omega, by omega⟩ (by rw [e14]; exact hv) ?_
        rw [e14]
        have hpass : ∀ Pp : Int → HP → Prop, (∀ h', (∀ a, a ≠ c → a ≠ 26 → a ≠ 27 → h' a = g a) → eqN (h 14 2) (h' c) (ngt (bx h) r (t + k) (h 25) (g c)) → (∀ o, h' 27 o = if o = 0 ∨ o = 1 then g 27 o + (totO (bx h) o (g c) - totO (bx h) o (h' c)) else g 27 o) → Pp (tot (bx h) (g c) - tot (bx h) (h' c)) h') → Ct KX (d + 1) mX5_pass [aR 24, aR c, aI (spr r (h 14 5)), aI (prt r (h 14 5) (t + k))] g (rI Pp) := by
          intro Pp hPp
          have h9 := c_pass (d := d) (P := Pp) (r := r) (t := t + k) (c := c) (h := g) (by rw [eb]; exact hb) hr hc hc26 hc16 (by rw [e14]; exact hgr) (by rw [e14, e25]; exact hct) (by rw [eb, e25, e14]; exact hPp)
          rwa [e14] at h9
        refine hpass _ (fun h' b1 b2 b3 => ?_)
        have b1' : ∀ a, a ≠ c → a ≠ 26 → a ≠ 27 → h' a = h a := fun a q1 q2 q3 => (b1 a q1 q2 q3).trans (ha a q1 q2 q3)
        have hk1 : eqN (h 14 2) (h' c) (NN (bx h) r (h 25) (h c) t (k + 1)) := fun x q1 q2 => by
          rw [b2 x q1 q2, NN_1]
          exact ngt_ag hb (agB_rf _) hx (eqN_rf _ _) x q1 q2
        have ho' : ∀ o, o = 0 ∨ o = 1 → h' 27 o = totO (bx h) o (h c) - totO (bx h) o (h' c) := fun o q => by
          rw [b3 o, if_pos q, ho o q]
          omega
        have hgr' : rowOK (h 14 2) (h' c) := fun x q1 q2 => by rw [hk1 x q1 q2]; exact NN_ok hb hrow (k + 1) x q1 q2
        have h4 := tot_in hb (p := h' c) hgr'
        have esum : (tot (bx h) (h c) - tot (bx h) (g c)) + (tot (bx h) (g c) - tot (bx h) (h' c)) = tot (bx h) (h c) - tot (bx h) (h' c) := by omega
        have k100 : V KX (d + 2) mX5_run 100 [some (aR 24), some (aI r), some (aR c), some (aI t), some (aI n), some (aI lim), some (aI (spr r (h 14 5))), some (aI (tot (bx h) (h c) - tot (bx h) (h' c))), some (aI k), some (aI (prt r (h 14 5) (t + k))), some (aI (tot (bx h) (g c) - tot (bx h) (h' c)))] [] h' (rI P) :=
          v_X5_run_100 r c t n lim _ _ k _ _ h' (ih (k + 1) h' (by omega) b1' hk1 ho')
        have stop : tot (bx h) (g c) - tot (bx h) (h' c) = 0 → (r ≠ 3 ∨ prt r (h 14 5) (t + k) = 1) → P (tot (bx h) (h c) - tot (bx h) (h' c)) h' := by
          intro hz hm
          have hs : eqN (h 14 2) (ngt (bx h) r (t + k) (h 25) (NN (bx h) r (h 25) (h c) t k)) (NN (bx h) r (h 25) (h c) t k) := by
            have e9 : Sm (ngt (bx h) r (t + k) (h 25) (NN (bx h) r (h 25) (h c) t k)) (h 14 2).toNat = Sm (NN (bx h) r (h 25) (h c) t k) (h 14 2).toNat := by
              have q1 : tot (bx h) (h' c) = tot (bx h) (NN (bx h) r (h 25) (h c) t (k + 1)) := tot_ag (agB_rf _) hk1
              rw [NN_1] at q1
              have q2 : tot (bx h) (ngt (bx h) r (t + k) (h 25) (NN (bx h) r (h 25) (h c) t k)) = tot (bx h) (NN (bx h) r (h 25) (h c) t k) := by omega
              exact q2
            intro x q1 q2
            have := Sm_eq0 (h 14 2).toNat (fun i hi => (ngt_in (rats := r) (t := t + k) (ct := h 25) hb (hrk i (by omega) (show (i : Int) < h 14 2 by omega)).1).2) e9 x.toNat (by omega)
            rwa [show ((x.toNat : Nat) : Int) = x by omega] at this
          have hst : ∀ t', eqN (h 14 2) (ngt (bx h) r t' (h 25) (NN (bx h) r (h 25) (h c) t k)) (NN (bx h) r (h 25) (h c) t k) := fun t' => stable (b := bx h) hb hr hrk hs (by
            rcases hm with hm | hm
            · exact Or.inl hm
            · by_cases h3 : r = 3
              · right
                unfold prt at hm
                rw [if_pos h3] at hm
                split at hm
                · assumption
                · omega
              · exact Or.inl h3)
          refine hP h' b1' ho' (Or.inl ?_)
          intro x q1 q2
          rw [hk1 x q1 q2, NN_add (b := bx h) hb hst 1 x q1 q2, show n.toNat = k + (m + 1) by omega, NN_add (b := bx h) hb hst (m + 1) x q1 q2]
        have hpt := prt_pos (r := r) (v := h 14 5) (t := t + k)
        rw [esum]
        refine ⟨⟨by omega, by omega⟩, fun _ => k100, fun q2 => ⟨⟨⟨by omega, by omega⟩, by decide⟩, fun q3 => stop q2 (Or.inl q3), fun q3 => ⟨⟨⟨by omega, by omega⟩, by decide⟩, fun _ => k100, fun q4 => stop q2 (Or.inr q4)⟩⟩⟩
  have hset27 : ∀ a, a ≠ 27 → (hset (hset h 27 0 0) 27 1 0) a = h a := fun a ha => by rw [hset_n ha, hset_n ha]
  have ec : (hset (hset h 27 0 0) 27 1 0) c = h c := hset27 c hc27
  have start : V KX (d + 2) mX5_run 30 [some (aR 24), some (aI r), some (aR c), some (aI t), some (aI n), some (aI lim), none, none, none, none, none] [aI (spr r (h 14 5))] (hset (hset h 27 0 0) 27 1 0) (rI P) := by
    refine v_X5_run_30 r c t n lim _ _ ?_
    have := key n.toNat 0 (hset (hset h 27 0 0) 27 1 0) (by omega) (fun a _ _ q => hset27 a q) (by rw [ec]; exact eqN_rf _ _) (fun o ho => by
      rw [ec]
      rcases ho with rfl | rfl
      · simp [hset]
      · simp [hset])
    rwa [ec, show tot (bx h) (h c) - tot (bx h) (h c) = 0 by omega] at this
  refine e_X5_run r c t n lim h ⟨by omega, by omega, ⟨⟨by omega, by omega⟩, by decide⟩, fun q => ?_, fun q => ?_⟩
  · rwa [show spr r (h 14 5) = 0 by unfold spr; rw [if_neg q]] at start
  · rwa [show spr r (h 14 5) = h 14 5 by unfold spr; rw [if_pos q]] at start
theorem c_goneFrom {d : Nat} {P : Int → HP → Prop} {o : Int} {h : HP} (ho : iR o) (h1 : o = 0 ∨ o = 1 → P (h 27 o) h) (h0 : ¬ (o = 0 ∨ o = 1) → P (h 27 0 + h 27 1) h) : Ct KX (d + 1) mX5_goneFrom [aR 24, aI o] h (rI P) :=
  e_X5_goneFrom o h (c_within ho (by decide) (by decide) (fun a b => ⟨by decide, fun q => absurd q (by decide), fun _ => ⟨by omega, h1 (by omega)⟩⟩) (fun a => ⟨by decide, fun _ => ⟨by omega, by omega, h0 (by omega)⟩, fun q => absurd rfl q⟩))
theorem totO_sum {b : BB} (hb : wfB b) (p : Int → Int) : totO b 0 p + totO b 1 p = tot b p := by
  have key : ∀ k : Nat, (k : Int) ≤ bn b → Sm (fun x => if bow b x = 0 then p x else 0) k + Sm (fun x => if bow b x = 1 then p x else 0) k = Sm p k := by
    intro k
    induction k with
    | zero => intro _; rfl
    | succ k ih =>
      intro hk
      have h1 := ih (by omega)
      have h2 := hb.2.2.2.2 k (by omega) (by omega)
      rw [Sm, Sm, Sm]
      rcases h2 with h2 | h2
      · rw [if_pos h2, if_neg (by omega)]
        omega
      · rw [if_neg (by omega), if_pos h2]
        omega
  have := hb.1
  exact key (bn b).toNat (by omega)
