/-! the model: what was -/
abbrev kW (h g : HP) : Prop := ∀ a, a ≠ 16 → a ≠ 17 → a ≠ 18 → a ≠ 19 → g a = h a
theorem kW_bm {h g : HP} (k : kW h g) : bm g = bm h := by
  dsimp only [bm]
  rw [k 2 (by decide) (by decide) (by decide) (by decide), k 0 (by decide) (by decide) (by decide) (by decide), k 5 (by decide) (by decide) (by decide) (by decide), k 10 (by decide) (by decide) (by decide) (by decide), k 11 (by decide) (by decide) (by decide) (by decide), k 12 (by decide) (by decide) (by decide) (by decide), k 4 (by decide) (by decide) (by decide) (by decide)]
theorem kW_cm {h g : HP} (k : kW h g) (hz : cm h) : cm g := by
  show g 0 15 = 0
  rw [k 0 (by decide) (by decide) (by decide) (by decide)]
  exact hz
theorem kW_vm {h g : HP} (k : kW h g) : vm g = vm h := vm_eq (fun a ha => k a (by omega) (by omega) (by omega) (by omega)) (fun i _ => by rw [k 0 (by decide) (by decide) (by decide) (by decide)])
theorem dg_div {B n c x : Nat} (hx : x < n) : ((c / B ^ (n - 1 - x) % B : Nat) : Int) = dg B n c x := by
  unfold dg
  rw [show ((x : Nat) : Int).toNat = x by omega]
theorem m_was {d : Nat} {P : Int → HP → Prop} {N m t i : Int} {h : HP} (hW : WV N (vm h)) (hz : cm h) (hm : iR m) (ht : iR t) (hi : iR i) (hP : ∀ h', vm h' = vm h → cm h' → P (sp_was (vm h) m t i) h') : Ct KM (d + 2) mX11_was [aR 0, aI m, aI t, aI i] h (rI P) := by
  obtain ⟨b1, b2, b3, b4, b5, b6, b7, b8, -⟩ := hW
  have hb : wfB (bm h) := b3
  have hn : 1 ≤ h 2 0 ∧ h 2 0 ≤ 8 := hb.1
  have hr : 0 ≤ h 5 1 ∧ h 5 1 ≤ 3 := b4
  have hp : r199 (h 2 0) (h 13) := b7
  unfold sp_was at hP
  have hbn : bn (qb (vm h)) = h 2 0 := rfl
  rw [hbn] at hP
  have bad : ¬ ((0 ≤ m ∧ m ≤ 20) ∧ (0 ≤ t ∧ t ≤ 6) ∧ -1 ≤ i ∧ i < h 2 0) → P (-1) h := fun z => by
    have := hP h rfl hz
    rw [if_neg z] at this
    exact this
  refine e_X11_was m t i h ⟨hm, c_inI hm (by decide) (by decide) (fun a b => bT ⟨ht, c_inI ht (by decide) (by decide) (fun a2 b2 => bT ⟨hi, by omega, ⟨by omega, by omega⟩, c_inI hi (by decide) ⟨by omega, by omega⟩ (fun a3 b3' => bT' ⟨by omega, ⟨⟨by omega, by omega⟩, by decide⟩, fun q => ?_, fun q => ?_⟩) (fun a3 => bF' (bad (by omega)))⟩) (fun a2 => bF (bad (by omega)))⟩) (fun a => bF (bad (by omega)))⟩
  · have hB : Bm m = m.toNat + 1 := by show (m + 1).toNat = _; omega
    have hBi : ((Bm m : Nat) : Int) = m + 1 := by rw [hB]; omega
    have hpw : Bm m ^ (h 2 0).toNat ≤ 194481 := pw_le ⟨a, b⟩ q
    have hGA : GA (vm h) m t = GW (okW (bm h) (h 5 1) t (h 13) (Bm m)) (Bm m ^ (h 2 0).toNat) := rfl
    rw [hGA] at hP
    have hP : ∀ g, kW h g → P (if i = -1 then (GW (okW (bm h) (h 5 1) t (h 13) (Bm m)) (Bm m ^ (h 2 0).toNat)).1 else (match (GW (okW (bm h) (h 5 1) t (h 13) (Bm m)) (Bm m ^ (h 2 0).toNat)).2 with
      | none => -4
      | some c => dg (Bm m) (h 2 0).toNat c i)) g := fun g k => by
      have := hP g (kW_vm k) (kW_cm k hz)
      rw [if_pos ⟨⟨a, b⟩, ⟨a2, b2⟩, a3, by omega⟩, if_neg (by omega)] at this
      exact this
    -- a code
    have code : ∀ (f c : Nat) (g : HP), c + f = Bm m ^ (h 2 0).toNat → kW h g → (0 ≤ i → (GW (okW (bm h) (h 5 1) t (h 13) (Bm m)) c).2 = none) → V KM (d + 2) mX11_was 96 [some (aR 0), some (aI m), some (aI t), some (aI i), some (aI ((Bm m ^ (h 2 0).toNat : Nat) : Int)), some (aI (GW (okW (bm h) (h 5 1) t (h 13) (Bm m)) c).1), some (aI c), none, none, none, none] [] g (rI P) := by
      intro f
      induction f with
      | zero =>
        intro c g hf k hno
        have hc : c = Bm m ^ (h 2 0).toNat := by omega
        have hP := hP g k
        rw [← hc] at hP
        refine v_X11_was_96 m t i _ _ c g ⟨⟨⟨by omega, by omega⟩, ⟨by omega, by omega⟩⟩, fun _ => ⟨hi, fun z => ?_, fun z => ?_⟩, fun z => absurd z (by omega)⟩
        · rw [if_neg (by omega), hno z] at hP
          exact hP
        · rw [if_pos (by omega)] at hP
          exact hP
      | succ f ih =>
        intro c g hf k hno
        have hin := GW_in (ok := okW (bm h) (h 5 1) t (h 13) (Bm m)) c
        have e2 : g 2 = h 2 := k 2 (by decide) (by decide) (by decide) (by decide)
        refine v_X11_was_96 m t i _ _ c g ⟨⟨⟨by omega, by omega⟩, ⟨by omega, by omega⟩⟩, fun z => absurd z (by omega), fun _ => ⟨by omega, ?_⟩⟩
        rw [e2]
        -- what comes behind the night
        have behind : ∀ (w v : Int) (g1 : HP), kW h g1 → eqN (h 2 0) (g1 19) (dg (Bm m) (h 2 0).toNat c) → eqN (h 2 0) (g1 16) (ngt (bm h) (h 5 1) t z0 (dg (Bm m) (h 2 0).toNat c)) → ∀ (u x : Nat), x + u = (h 2 0).toNat → V KM (d + 2) mX11_was 191 [some (aR 0), some (aI m), some (aI t), some (aI i), some (aI ((Bm m ^ (h 2 0).toNat : Nat) : Int)), some (aI (GW (okW (bm h) (h 5 1) t (h 13) (Bm m)) c).1), some (aI c), some (aI w), some (aI v), some (aI (if okN (ngt (bm h) (h 5 1) t z0 (dg (Bm m) (h 2 0).toNat c)) (h 13) x = true then 1 else 0)), some (aI x)] [] g1 (rI P) := by
          intro w v g1 k1 e19 e16 u
          have f2 : g1 2 = h 2 := k1 2 (by decide) (by decide) (by decide) (by decide)
          have f13 : g1 13 = h 13 := k1 13 (by decide) (by decide) (by decide) (by decide)
          induction u with
          | zero =>
            intro x hx
            have hx2 : x = (h 2 0).toNat := by omega
            have hok : okW (bm h) (h 5 1) t (h 13) (Bm m) c = okN (ngt (bm h) (h 5 1) t z0 (dg (Bm m) (h 2 0).toNat c)) (h 13) x := by rw [hx2]; rfl
            have hst : GW (okW (bm h) (h 5 1) t (h 13) (Bm m)) (c + 1) = if okN (ngt (bm h) (h 5 1) t z0 (dg (Bm m) (h 2 0).toNat c)) (h 13) x = true then ((GW (okW (bm h) (h 5 1) t (h 13) (Bm m)) c).1 + 1, some ((GW (okW (bm h) (h 5 1) t (h 13) (Bm m)) c).2.getD c)) else GW (okW (bm h) (h 5 1) t (h 13) (Bm m)) c := by rw [GW, hok]
            refine v_X11_was_191 m t i _ _ c w v _ x g1 ?_
            rw [f2]
            refine ⟨by omega, ⟨⟨by omega, by omega⟩, ⟨by omega, by omega⟩⟩, fun _ => ?_, fun z => absurd z (by omega)⟩
            by_cases ok : okN (ngt (bm h) (h 5 1) t z0 (dg (Bm m) (h 2 0).toNat c)) (h 13) x = true
            · rw [if_pos ok] at hst ⊢
              have goon : (¬ 0 ≤ i ∨ (GW (okW (bm h) (h 5 1) t (h 13) (Bm m)) c).1 ≠ 0) → i < 0 → V KM (d + 2) mX11_was 258 [some (aR 0), some (aI m), some (aI t), some (aI i), some (aI ((Bm m ^ (h 2 0).toNat : Nat) : Int)), some (aI (GW (okW (bm h) (h 5 1) t (h 13) (Bm m)) c).1), some (aI c), some (aI w), some (aI v), some (aI 1), some (aI x)] [] g1 (rI P) := fun _ hneg => by
                refine v_X11_was_258 m t i _ _ c w v 1 x g1 ⟨by decide, fun z => absurd z (by decide), fun _ => v_X11_was_270 m t i _ _ c w v 1 x 1 _ g1 ?_⟩
                have := ih (c + 1) g1 (by omega) k1 (fun z => absurd z (by omega))
                rw [hst] at this
                exact this
              refine ⟨by decide, fun z => absurd z (by decide), fun _ => ⟨⟨by omega, by omega⟩, fun z => goon (Or.inr z) ?_, fun z => ⟨hi, fun z2 => goon (Or.inl (by omega)) z2, fun z2 => ⟨by omega, ?_⟩⟩⟩⟩
              · by_cases hneg : i < 0
                · exact hneg
                · exact absurd (hin.2.mpr (hno (by omega))) z
              · have hsome : (GW (okW (bm h) (h 5 1) t (h 13) (Bm m)) (c + 1)).2 = some c := by
                  rw [hst, hno z2]
                  rfl
                have hk := GW_keep hsome f
                rw [show c + 1 + f = Bm m ^ (h 2 0).toNat by omega] at hk
                have hP := hP g1 k1
                rw [if_neg (by omega), hk] at hP
                rw [e19 i z2 (by omega)]
                exact hP
            · rw [if_neg ok] at hst ⊢
              refine ⟨by decide, fun _ => v_X11_was_258 m t i _ _ c w v 0 x g1 ⟨by decide, fun _ => v_X11_was_270 m t i _ _ c w v 0 x 0 _ g1 ?_, fun z => absurd rfl z⟩, fun z => absurd rfl z⟩
              have := ih (c + 1) g1 (by omega) k1 (fun z => by rw [hst]; exact hno z)
              rw [hst] at this
              rw [Int.add_zero]
              exact this
          | succ u ihu =>
            intro x hx
            have hN := ngt_ok (rats := h 5 1) (t := t) (ct := z0) (p := dg (Bm m) (h 2 0).toNat c) hb (dg_row (by omega) (by omega)) x (by omega) (by show (x : Int) < h 2 0; omega)
            have h13 := hp x (by omega) (by omega)
            refine v_X11_was_191 m t i _ _ c w v _ x g1 ?_
            rw [f2, f13, e16 x (by omega) (by omega)]
            refine ⟨by omega, ⟨⟨by omega, by omega⟩, ⟨by omega, by omega⟩⟩, fun z => absurd z (by omega), fun _ => ?_⟩
            have next := ihu (x + 1) (by omega)
            rw [okN] at next
            by_cases ok : okN (ngt (bm h) (h 5 1) t z0 (dg (Bm m) (h 2 0).toNat c)) (h 13) x = true
            · rw [if_pos ok]
              refine ⟨by decide, fun z => absurd z (by decide), fun _ => ⟨by omega, by omega, ⟨⟨by omega, by omega⟩, ⟨by omega, by omega⟩⟩, fun z => v_X11_was_228 m t i _ _ c w v 1 x g1 (v_X11_was_229 m t i _ _ c w v 1 x 0 g1 ?_), fun z => v_X11_was_229 m t i _ _ c w v 1 x 1 g1 ?_⟩⟩
              · rw [if_neg (by rw [ok, decide_eq_false z]; decide)] at next
                exact next
              · rw [if_pos (by rw [ok, decide_eq_true z]; rfl)] at next
                exact next
            · rw [if_neg ok]
              refine ⟨by decide, fun _ => v_X11_was_228 m t i _ _ c w v 0 x g1 (v_X11_was_229 m t i _ _ c w v 0 x 0 g1 ?_), fun z => absurd rfl z⟩
              rw [if_neg (by rw [Bool.not_eq_true] at ok; rw [ok, Bool.false_and]; decide)] at next
              exact next
        -- the digits
        have digits : ∀ (x u : Nat) (g1 : HP), x + u = (h 2 0).toNat → kW h g1 → (∀ y : Nat, x ≤ y → y < (h 2 0).toNat → g1 19 y = dg (Bm m) (h 2 0).toNat c y ∧ g1 16 y = dg (Bm m) (h 2 0).toNat c y) → V KM (d + 2) mX11_was 117 [some (aR 0), some (aI m), some (aI t), some (aI i), some (aI ((Bm m ^ (h 2 0).toNat : Nat) : Int)), some (aI (GW (okW (bm h) (h 5 1) t (h 13) (Bm m)) c).1), some (aI c), some (aI ((c / Bm m ^ u : Nat) : Int)), some (aI ((x : Int) - 1)), none, none] [] g1 (rI P) := by
          intro x
          induction x with
          | zero =>
            intro u g1 hu k1 hd
            have f5 : g1 5 = h 5 := k1 5 (by decide) (by decide) (by decide) (by decide)
            have f2 : g1 2 = h 2 := k1 2 (by decide) (by decide) (by decide) (by decide)
            have e16 : eqN (h 2 0) (g1 16) (dg (Bm m) (h 2 0).toNat c) := fun y q0 q1 => by
              have := (hd y.toNat (by omega) (by omega)).2
              rwa [show ((y.toNat : Nat) : Int) = y by omega] at this
            have e19 : eqN (h 2 0) (g1 19) (dg (Bm m) (h 2 0).toNat c) := fun y q0 q1 => by
              have := (hd y.toNat (by omega) (by omega)).1
              rwa [show ((y.toNat : Nat) : Int) = y by omega] at this
            refine v_X11_was_117 m t i _ _ c _ _ g1 ⟨⟨by omega, by omega⟩, fun _ => ⟨by omega, ?_⟩, fun z => absurd z (by omega)⟩
            rw [f5]
            have hrow : rowOK (h 2 0) (g1 16) := fun y q0 q1 => by rw [e16 y q0 q1]; exact dg_row (by omega) (by omega) y q0 q1
            refine c_goes (d := d) (by rw [kW_bm k1]; exact hb) hr ⟨a2, by omega⟩ (by rw [f2]; exact hrow) (fun g2 c1 c2 c3 => ?_)
            rw [kW_bm k1, ctm0 (kW_cm k1 hz), f2] at c2
            rw [kW_bm k1]
            have k2 : kW h g2 := fun y q1 q2 q3 q4 => (c1 y q1 q2 q3).trans (k1 y q1 q2 q3 q4)
            have n16 : eqN (h 2 0) (g2 16) (ngt (bm h) (h 5 1) t z0 (dg (Bm m) (h 2 0).toNat c)) := fun y q0 q1 => (c2 y q0 q1).trans (ngt_ag (rats := h 5 1) (t := t) (ct := z0) (ct' := z0) hb (agB_rf _) e16 (eqN_rf _ _) y q0 q1)
            have n19 : eqN (h 2 0) (g2 19) (dg (Bm m) (h 2 0).toNat c) := by rw [c1 19 (by decide) (by decide) (by decide)]; exact e19
            have t1 := tot_in (b := bm h) (p := g1 16) hb hrow
            have t2 := tot_in (b := bm h) (p := g2 16) hb (fun y q0 q1 => by rw [c2 y q0 q1]; exact ngt_ok hb hrow y q0 q1)
            have t3 : tot (bm h) (g2 16) ≤ tot (bm h) (g1 16) := by
              rw [tot_ag (b := bm h) (agB_rf _) c2]
              exact tot_le hb hrow
            refine ⟨⟨by omega, by omega⟩, fun z => absurd z (by omega), fun _ => v_X11_was_186 m t i _ _ c _ _ 1 g2 ?_⟩
            exact behind _ _ g2 k2 n19 n16 (h 2 0).toNat 0 (by omega)
          | succ x ihx =>
            intro u g1 hu k1 hd
            have hcu : c / Bm m ^ u ≤ c := Nat.div_le_self _ _
            have hcu0 : (0 : Int) ≤ ((c / Bm m ^ u : Nat) : Int) := Int.natCast_nonneg _
            have ed : (((c / Bm m ^ u : Nat) : Int)) % (m + 1) = dg (Bm m) (h 2 0).toNat c x := by
              rw [← dg_div (by omega : x < (h 2 0).toNat), show (h 2 0).toNat - 1 - x = u by omega, ← hBi]
              rfl
            have eq : (((c / Bm m ^ u : Nat) : Int)) / (m + 1) = ((c / Bm m ^ (u + 1) : Nat) : Int) := by
              rw [Nat.pow_succ, ← Nat.div_div_eq_div_mul, ← hBi]
              rfl
            rw [show ((x + 1 : Nat) : Int) - 1 = x by omega]
            refine v_X11_was_117 m t i _ _ c _ x g1 ⟨⟨by omega, by omega⟩, fun z => absurd z (by omega), fun _ => ⟨⟨by omega, ⟨by omega, by omega⟩, by omega, ⟨by omega, by omega⟩⟩, by omega, by omega, by omega, ⟨by omega, ⟨by omega, by omega⟩, by omega, ⟨by omega, by omega⟩⟩, ?_⟩⟩
            rw [ed, eq, hset_s]
            have := ihx (u + 1) (hset (hset g1 19 x (dg (Bm m) (h 2 0).toNat c x)) 16 x (dg (Bm m) (h 2 0).toNat c x)) (by omega) (fun y q1 q2 q3 q4 => by rw [hset_n q1, hset_n q4]; exact k1 y q1 q2 q3 q4) (fun y q0 q1 => by
              by_cases e : y = x
              · subst e
                rw [hset_n (show (19 : Nat) ≠ 16 by decide), hset_s, hset_s]
                exact ⟨rfl, rfl⟩
              · rw [hset_n (show (19 : Nat) ≠ 16 by decide), hset_m (by omega), hset_m (by omega), hset_n (show (16 : Nat) ≠ 19 by decide)]
                exact hd y (by omega) q1)
            rwa [show ((x : Int) + (-1)) = (x : Int) - 1 by omega]
        have := digits (h 2 0).toNat 0 g (by omega) k (fun y q0 q1 => absurd q0 (by omega))
        rwa [show (((h 2 0).toNat : Nat) : Int) = h 2 0 by omega, Nat.pow_zero, Nat.div_one] at this
    -- how many codes
    have many : ∀ (u x : Nat), x + u = (h 2 0).toNat → V KM (d + 2) mX11_was 65 [some (aR 0), some (aI m), some (aI t), some (aI i), some (aI ((Bm m ^ x : Nat) : Int)), some (aI x), none, none, none, none, none] [] h (rI P) := by
      intro u
      induction u with
      | zero =>
        intro x hx
        have hx2 : x = (h 2 0).toNat := by omega
        refine v_X11_was_65 m t i _ x h ⟨by omega, ⟨⟨by omega, by omega⟩, ⟨by omega, by omega⟩⟩, fun _ => ?_, fun z => absurd z (by omega)⟩
        rw [hx2]
        exact code (Bm m ^ (h 2 0).toNat) 0 h (by omega) (fun _ _ _ _ _ => rfl) (fun _ => rfl)
      | succ u ihu =>
        intro x hx
        refine v_X11_was_65 m t i _ x h ⟨by omega, ⟨⟨by omega, by omega⟩, ⟨by omega, by omega⟩⟩, fun z => absurd z (by omega), fun _ => ?_⟩
        have := ihu (x + 1) (by omega)
        rw [Nat.pow_succ, Int.natCast_mul, hBi] at this
        exact this
    have := many (h 2 0).toNat 0 (by omega)
    rw [Nat.pow_zero] at this
    exact this
  · have := hP h rfl hz
    rw [if_pos ⟨⟨a, b⟩, ⟨a2, b2⟩, a3, by omega⟩, if_pos q] at this
    exact this
