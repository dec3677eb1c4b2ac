/-! the model: pours -/
theorem pI_fr {n q c : Nat} (hc : 0 < c) : ((c : Int) - 1) / (q : Int) / (n : Int) = ((pfr n q c : Nat) : Int) := by
  unfold pfr
  rw [show ((c : Nat) : Int) - 1 = ((c - 1 : Nat) : Int) by omega, Int.natCast_ediv, Int.natCast_ediv]
theorem pI_to {n q c : Nat} (hc : 0 < c) : ((c : Int) - 1) / (q : Int) % (n : Int) = ((pto n q c : Nat) : Int) := by
  unfold pto
  rw [show ((c : Nat) : Int) - 1 = ((c - 1 : Nat) : Int) by omega, Int.natCast_emod, Int.natCast_ediv]
theorem pI_mn {q c : Nat} (hc : 0 < c) : ((c : Int) - 1) % (q : Int) + 1 = ((pmn q c : Nat) : Int) := by
  unfold pmn
  rw [show ((c : Nat) : Int) - 1 = ((c - 1 : Nat) : Int) by omega, Int.natCast_add, Int.natCast_emod]
  rfl
theorem pI_dv {q c : Nat} (hc : 0 < c) : ((c : Int) - 1) / (q : Int) = (((c - 1) / q : Nat) : Int) := by
  rw [show ((c : Nat) : Int) - 1 = ((c - 1 : Nat) : Int) by omega, Int.natCast_ediv]
theorem pcs_le {n q : Nat} (hn : n ≤ 8) (hq : q ≤ 5) : pcs n q ≤ 321 := by
  unfold pcs
  have h1 : n * n ≤ 8 * 8 := Nat.mul_le_mul hn hn
  have h2 : n * n * q ≤ 8 * 8 * 5 := Nat.mul_le_mul h1 hq
  omega
theorem m_isPoured {d : Nat} {P : Int → HP → Prop} {n q c : Nat} {h : HP} (hn : 1 ≤ n ∧ n ≤ 8) (hq : 1 ≤ q ∧ q ≤ 5) (hnn : h 2 0 = (n : Nat)) (hc : c < pcs n q) (hrow : rowOK n (h 16))
    (h1 : pok n q (h 16) c = true → ∀ g : HP, (∀ a, a ≠ 16 → g a = h a) → eqN n (g 16) (prw n q (h 16) c) → P 1 g) (h0 : pok n q (h 16) c = false → P 0 h) : Ct KM d mX11_isPoured [aR 0, aI (c : Nat), aI (q : Nat)] h (rI P) := by
  have h321 := pcs_le hn.2 hq.2
  refine e_X11_isPoured c q h ⟨⟨by omega, by omega⟩, fun z => ?_, fun z => ⟨Or.inr rfl, h1 ?_ h (fun _ _ => rfl) ?_⟩⟩
  · have hc0 : 0 < c := by omega
    have m1 := pmn_in (q := q) (c := c) (by omega)
    have t1 := pto_lt (n := n) (q := q) (c := c) (by omega)
    have f1 := pfr_lt (by omega) (by omega) hc
    have r1 := hrow (pfr n q c : Nat) (by omega) (by omega)
    have r2 := hrow (pto n q c : Nat) (by omega) (by omega)
    have d0 : (0 : Int) ≤ (((c - 1) / q : Nat) : Int) := Int.natCast_nonneg _
    have d1 : (((c - 1) / q : Nat) : Int) ≤ ((c - 1 : Nat) : Int) := Int.ofNat_le.mpr (Nat.div_le_self _ _)
    rw [hnn, pI_fr hc0, pI_to hc0, pI_mn hc0, pI_dv hc0]
    refine ⟨⟨by omega, ⟨by omega, by omega⟩, by omega, ⟨by omega, by omega⟩⟩, by omega, ⟨d0, ⟨by omega, by omega⟩, by omega, ⟨by omega, by omega⟩⟩, ⟨by omega, ⟨by omega, by omega⟩, by omega, ⟨by omega, by omega⟩⟩, by omega, ⟨d0, ⟨by omega, by omega⟩, by omega, ⟨by omega, by omega⟩⟩, ⟨by omega, ⟨by omega, by omega⟩, by omega, ⟨by omega, by omega⟩⟩, ⟨⟨by omega, by omega⟩, ⟨by omega, by omega⟩⟩, fun z2 => ⟨Or.inl rfl, h0 (pok_no (fun hk => ?_))⟩, fun z2 => ⟨⟨by omega, by omega⟩, ⟨⟨by omega, by omega⟩, ⟨by omega, by omega⟩⟩, fun z3 => ⟨Or.inl rfl, h0 (pok_no (fun hk => ?_))⟩, fun z3 => ⟨⟨by omega, by omega⟩, ⟨⟨by omega, by omega⟩, by decide⟩, fun z4 => ⟨⟨by omega, by omega⟩, ⟨by omega, by omega⟩, ⟨by omega, by omega⟩, ⟨by omega, by omega⟩, Or.inr rfl, h1 ((pok_iff hc0).mpr ⟨by omega, by omega, by omega⟩) _ (fun a ha => by rw [hset_n ha, hset_n ha]) (fun x q0 q1 => ?_)⟩, fun z4 => ⟨Or.inl rfl, h0 (pok_no (fun hk => ?_))⟩⟩⟩⟩
    · have := ((pok_iff hc0).mp hk).1
      omega
    · have := ((pok_iff hc0).mp hk).2.1
      omega
    · unfold prw udf
      rw [if_neg (show ¬ c = 0 by omega)]
      by_cases e : x = (pto n q c : Nat)
      · rw [if_pos e, e, hset_s, hset_m (by omega)]
      · rw [if_neg e, hset_m e]
        by_cases e3 : x = (pfr n q c : Nat)
        · rw [if_pos e3, e3, hset_s]
        · rw [if_neg e3, hset_m e3]
    · have := ((pok_iff hc0).mp hk).2.2
      omega
  · rw [show c = 0 by omega]; exact pok_0
  · have : prw n q (h 16) c = h 16 := by unfold prw; rw [if_pos (by omega)]
    rw [this]
    exact eqN_rf _ _
abbrev kMp (h g : HP) : Prop := ∀ a, a ≠ 16 → a ≠ 17 → a ≠ 18 → a ≠ 21 → g a = h a
theorem kMp_bm {h g : HP} (k : kMp h g) : bm g = bm h := by
  dsimp only [bm]
  rw [k 2 (by decide) (by decide) (by decide) (by decide), k 0 (by decide) (by decide) (by decide) (by decide), k 5 (by decide) (by decide) (by decide) (by decide), k 10 (by decide) (by decide) (by decide) (by decide), k 11 (by decide) (by decide) (by decide) (by decide), k 12 (by decide) (by decide) (by decide) (by decide), k 4 (by decide) (by decide) (by decide) (by decide)]
theorem kMp_cm {h g : HP} (k : kMp h g) (hz : cm h) : cm g := by
  show g 0 15 = 0
  rw [k 0 (by decide) (by decide) (by decide) (by decide)]
  exact hz
theorem kMp_vm {h g : HP} (k : kMp h g) : vm g = vm h := vm_eq (fun a ha => k a (by omega) (by omega) (by omega) (by omega)) (fun i _ => by rw [k 0 (by decide) (by decide) (by decide) (by decide)])
theorem m_goes1 {d : Nat} {P : Int → HP → Prop} {t : Int} {h g : HP} {p : Int → Int} (hb : wfB (bm h)) (hz : cm h) (hr : 0 ≤ h 5 1 ∧ h 5 1 ≤ 3) (ht : 0 ≤ t ∧ t ≤ 1000000) (k : kMp h g) (he : eqN (h 2 0) (g 16) p) (hp : rowOK (h 2 0) p)
    (hP : ∀ g', kMp h g' → eqN (h 2 0) (g' 16) (ngt (bm h) (h 5 1) t z0 p) → P (lossN (bm h) (h 5 1) z0 p t 1) g') : Ct KM (d + 1) mX11_goes [aR 0, aI (h 5 1), aI t] g (rI P) := by
  have g2 : g 2 = h 2 := k 2 (by decide) (by decide) (by decide) (by decide)
  refine c_goes (by rw [kMp_bm k]; exact hb) hr ht (by rw [g2]; exact fun x q0 q1 => by rw [he x q0 q1]; exact hp x q0 q1) (fun g' a1 a2 a3 => ?_)
  rw [kMp_bm k, ctm0 (kMp_cm k hz), g2] at a2
  rw [kMp_bm k]
  have e1 : eqN (h 2 0) (g' 16) (ngt (bm h) (h 5 1) t z0 p) := fun x q0 q1 => (a2 x q0 q1).trans (ngt_ag (b := bm h) (b' := bm h) hb (agB_rf _) he (eqN_rf _ _) x q0 q1)
  have e2 : tot (bm h) (g 16) - tot (bm h) (g' 16) = lossN (bm h) (h 5 1) z0 p t 1 := by
    unfold lossN
    rw [tot_ag (b := bm h) (agB_rf _) he, tot_ag (b := bm h) (agB_rf _) e1, show (1 : Nat) = 0 + 1 from rfl, NN_sh]
    rfl
  rw [e2]
  exact hP g' (fun a z1 z2 z3 z4 => by rw [a1 a z1 z2 z3]; exact k a z1 z2 z3 z4) e1
def cmbP (a : Nat) (v : Int) (s : Int × Nat) : Int × Nat := if v < s.1 then (v, a) else s
def encP (v : Int) : Int := if v = 1000000 then -1 else v
theorem m_pours {d : Nat} {P : Int → HP → Prop} {M N q w : Int} {h : HP} (hW : WV M (vm h)) (hM : M ≤ 1000) (hz : cm h) (hN : iR N) (hq : iR q) (hw : iR w) (hP : ∀ h', vm h' = vm h → cm h' → P (sp_pours (vm h) N q w) h') : Ct KM (d + 3) mX11_pours [aR 0, aI N, aI q, aI w] h (rI P) := by
  obtain ⟨b1, b2, b3, b4, b5, b6, b7, b8, -⟩ := hW
  have hb : wfB (bm h) := b3
  have hn : 1 ≤ h 2 0 ∧ h 2 0 ≤ 8 := hb.1
  have ht : 0 ≤ h 0 17 ∧ h 0 17 ≤ M := b8
  have hr : 0 ≤ h 5 1 ∧ h 5 1 ≤ 3 := b4
  have hp : r199 (h 2 0) (h 13) := b7
  unfold sp_pours at hP
  have bad : ¬ ((1 ≤ N ∧ N ≤ 2) ∧ (1 ≤ q ∧ q ≤ 5) ∧ 0 ≤ w ∧ w ≤ 3) → P (-1) h := fun z => by
    have := hP h rfl hz
    rw [if_neg z] at this
    exact this
  refine e_X11_pours N q w h ⟨hN, c_inI hN (by decide) (by decide) (fun a b => bT ⟨hq, c_inI hq (by decide) (by decide) (fun a2 b2 => bT ⟨hw, c_inI hw (by decide) (by decide) (fun a3 b3' => bT' ⟨by omega, by omega, ?_⟩) (fun a3 => bF' (bad (by omega)))⟩) (fun a2 => bF (bad (by omega)))⟩) (fun a => bF (bad (by omega)))⟩
  obtain ⟨n, hnn⟩ : ∃ n : Nat, h 2 0 = n := ⟨(h 2 0).toNat, by omega⟩
  obtain ⟨k, hk⟩ : ∃ k : Nat, q = k := ⟨q.toNat, by omega⟩
  have hS : sPo (vm h) N q = SPr (bm h) (h 5 1) (h 0 17) N n k (h 13) (pcs n k) := by
    show SPr (bm h) (h 5 1) (h 0 17) N (h 2 0).toNat q.toNat (h 13) (pcs (h 2 0).toNat q.toNat) = _
    rw [show (h 2 0).toNat = n by omega, show q.toNat = k by omega]
  have hP : ∀ h', vm h' = vm h → cm h' → P (if w = 0 then (SPr (bm h) (h 5 1) (h 0 17) N n k (h 13) (pcs n k)).1 else if (SPr (bm h) (h 5 1) (h 0 17) N n k (h 13) (pcs n k)).2 = 0 then -4 else if w = 1 then ((pfr n k (SPr (bm h) (h 5 1) (h 0 17) N n k (h 13) (pcs n k)).2 : Nat) : Int) else if w = 2 then ((pto n k (SPr (bm h) (h 5 1) (h 0 17) N n k (h 13) (pcs n k)).2 : Nat) : Int) else ((pmn k (SPr (bm h) (h 5 1) (h 0 17) N n k (h 13) (pcs n k)).2 : Nat) : Int)) h' := fun h' e1 e2 => by
    have := hP h' e1 e2
    rw [if_pos ⟨⟨a, b⟩, ⟨a2, b2⟩, a3, b3'⟩, hS] at this
    have e9 : (bn (qb (vm h))).toNat = n := by show (h 2 0).toNat = n; omega
    rwa [e9, show q.toNat = k by omega] at this
  have hn1 : 1 ≤ n ∧ n ≤ 8 := by omega
  have hk1 : 1 ≤ k ∧ k ≤ 5 := by omega
  have hnb : (n : Int) = bn (bm h) := hnn.symm
  have hrow : rowOK n (h 13) := by rw [← hnn]; exact r199_ok hp
  have h321 := pcs_le hn1.2 hk1.2
  have hcodes : 1 + h 2 0 * h 2 0 * q = ((pcs n k : Nat) : Int) := by
    unfold pcs
    rw [hnn, hk, Int.natCast_add, Int.natCast_mul, Int.natCast_mul]
    rfl
  rw [hcodes, hk]
  have encR : ∀ v : Int, 0 ≤ v → v ≤ 1000000 → iR (encP v) := fun v v0 v1 => by
    unfold encP
    split
    · decide
    · exact ⟨by omega, by omega⟩
  -- the codes of the first day
  have main : ∀ (f c : Nat) (g : HP), c + f = pcs n k → kMp h g → V KM (d + 3) mX11_pours 66 [some (aR 0), some (aI N), some (aI (k : Nat)), some (aI w), some (aI (pcs n k : Nat)), some (aI (encP (SPr (bm h) (h 5 1) (h 0 17) N n k (h 13) c).1)), some (aI ((SPr (bm h) (h 5 1) (h 0 17) N n k (h 13) c).2 : Nat)), some (aI (c : Nat)), none, none, none] [] g (rI P) := by
    intro f
    induction f with
    | zero =>
      intro c g hf kg
      have hc : c = pcs n k := by omega
      have g2 : g 2 = h 2 := kg 2 (by decide) (by decide) (by decide) (by decide)
      have hin := SPr_in (b := bm h) (r := h 5 1) (t := h 0 17) (N := N) (n := n) (q := k) (p := h 13) hb hnb (by omega) hrow (pcs n k) (Nat.le_refl _)
      have hpos : 0 < pcs n k := by unfold pcs; omega
      rw [hc]
      generalize hs : SPr (bm h) (h 5 1) (h 0 17) N n k (h 13) (pcs n k) = s at hP hin
      have h48 := hin.2.1 hpos
      have he : encP s.1 = s.1 := by unfold encP; rw [if_neg (by omega)]
      rw [he]
      have hP : ∀ g', kMp h g' → P (if w = 0 then s.1 else if s.2 = 0 then -4 else if w = 1 then ((pfr n k s.2 : Nat) : Int) else if w = 2 then ((pto n k s.2 : Nat) : Int) else ((pmn k s.2 : Nat) : Int)) g' := fun g' kg' => hP g' (kMp_vm kg') (kMp_cm kg' hz)
      have m1 := pmn_in (q := k) (c := s.2) (by omega)
      have t1 := pto_lt (n := n) (q := k) (c := s.2) (by omega)
      have f1 := pfr_lt (by omega) (by omega) hin.2.2
      have fin : ∀ (u0 u1 u2 : Int), (w = 1 → u0 = if s.2 = 0 then -4 else ((pfr n k s.2 : Nat) : Int)) → (w = 2 → u1 = if s.2 = 0 then -4 else ((pto n k s.2 : Nat) : Int)) → (w = 3 → u2 = if s.2 = 0 then -4 else ((pmn k s.2 : Nat) : Int)) → V KM (d + 3) mX11_pours 297 [some (aR 0), some (aI N), some (aI (k : Nat)), some (aI w), some (aI (pcs n k : Nat)), some (aI s.1), some (aI (s.2 : Nat)), some (aI (pcs n k : Nat)), none, none, none] [aI u2, aI 2, aR 21] (hset (hset g 21 0 u0) 21 1 u1) (rI P) := by
        intro u0 u1 u2 w1 w2 w3
        have hP := hP (hset (hset (hset g 21 0 u0) 21 1 u1) 21 2 u2) (fun a z1 z2 z3 z4 => by rw [hset_n z4, hset_n z4, hset_n z4]; exact kg a z1 z2 z3 z4)
        refine v_X11_pours_297 N k w (pcs n k) s.1 s.2 (pcs n k) u2 2 _ ⟨⟨by omega, by omega⟩, hw, fun z => ⟨by omega, ?_⟩, fun z => ?_⟩
        · rw [if_neg z] at hP
          have hcase : w = 1 ∨ w = 2 ∨ w = 3 := by omega
          rcases hcase with e | e | e
          · have h9 := w1 e
            have e9 : (hset (hset (hset g 21 0 u0) 21 1 u1) 21 2 u2) 21 (w - 1) = u0 := by rw [e, show (1 : Int) - 1 = 0 by omega, hset_m (by decide), hset_m (by decide), hset_s]
            rw [e9]
            refine cP hP ?_
            rw [h9, if_pos e]
          · have h9 := w2 e
            have e9 : (hset (hset (hset g 21 0 u0) 21 1 u1) 21 2 u2) 21 (w - 1) = u1 := by rw [e, show (2 : Int) - 1 = 1 by omega, hset_m (by decide), hset_s]
            rw [e9]
            refine cP hP ?_
            rw [h9, if_neg (show ¬ w = 1 by omega), if_pos e]
          · have h9 := w3 e
            have e9 : (hset (hset (hset g 21 0 u0) 21 1 u1) 21 2 u2) 21 (w - 1) = u2 := by rw [e, show (3 : Int) - 1 = 2 by omega, hset_s]
            rw [e9]
            refine cP hP ?_
            rw [h9, if_neg (show ¬ w = 1 by omega), if_neg (show ¬ w = 2 by omega)]
        · rw [if_pos z] at hP
          exact hP
      refine v_X11_pours_66 N k w (pcs n k) s.1 s.2 (pcs n k) g ⟨⟨⟨by omega, by omega⟩, ⟨by omega, by omega⟩⟩, fun _ => ?_, fun z => absurd z (by omega)⟩
      by_cases e0 : s.2 = 0
      · have e0' : ((s.2 : Nat) : Int) = 0 := by omega
        refine ⟨⟨by omega, by omega⟩, fun z => absurd e0' z, fun _ => v_X11_pours_244 N k w (pcs n k) s.1 s.2 (pcs n k) (-4) 0 g ⟨⟨by omega, by omega⟩, ⟨by omega, by omega⟩, fun z => absurd e0' z, fun _ => v_X11_pours_273 N k w (pcs n k) s.1 s.2 (pcs n k) (-4) 1 _ ⟨⟨by omega, by omega⟩, ⟨by omega, by omega⟩, fun z => absurd e0' z, fun _ => fin (-4) (-4) (-4) (fun _ => by rw [if_pos e0]) (fun _ => by rw [if_pos e0]) (fun _ => by rw [if_pos e0])⟩⟩⟩
      · have hc0 : 0 < s.2 := by omega
        have d0 : (0 : Int) ≤ (((s.2 - 1) / k : Nat) : Int) := Int.natCast_nonneg _
        have d1 : (((s.2 - 1) / k : Nat) : Int) ≤ ((s.2 - 1 : Nat) : Int) := Int.ofNat_le.mpr (Nat.div_le_self _ _)
        rw [g2, hnn, pI_fr hc0, pI_dv hc0]
        refine ⟨⟨by omega, by omega⟩, fun _ => ⟨⟨by omega, ⟨by omega, by omega⟩, by omega, ⟨by omega, by omega⟩⟩, by omega, ⟨d0, ⟨by omega, by omega⟩, by omega, ⟨by omega, by omega⟩⟩, v_X11_pours_244 N k w (pcs n k) s.1 s.2 (pcs n k) _ 0 g ?_⟩, fun z => absurd z (by omega)⟩
        rw [g2, hnn, pI_to hc0, pI_dv hc0]
        refine ⟨⟨by omega, by omega⟩, ⟨by omega, by omega⟩, fun _ => ⟨⟨by omega, ⟨by omega, by omega⟩, by omega, ⟨by omega, by omega⟩⟩, by omega, ⟨d0, ⟨by omega, by omega⟩, by omega, ⟨by omega, by omega⟩⟩, v_X11_pours_273 N k w (pcs n k) s.1 s.2 (pcs n k) _ 1 _ ?_⟩, fun z => absurd z (by omega)⟩
        rw [pI_mn hc0]
        exact ⟨⟨by omega, by omega⟩, ⟨by omega, by omega⟩, fun _ => ⟨⟨by omega, ⟨by omega, by omega⟩, by omega, ⟨by omega, by omega⟩⟩, fin _ _ _ (fun _ => by rw [if_neg e0]) (fun _ => by rw [if_neg e0]) (fun _ => by rw [if_neg e0])⟩, fun z => absurd z (by omega)⟩
    | succ f ih =>
      intro c g hf kg
      have hc : c < pcs n k := by omega
      have hin := SPr_in (b := bm h) (r := h 5 1) (t := h 0 17) (N := N) (n := n) (q := k) (p := h 13) hb hnb (by omega) hrow c (by omega)
      have hnext : SPr (bm h) (h 5 1) (h 0 17) N n k (h 13) (c + 1) = if pok n k (h 13) c = true ∧ pvl (bm h) (h 5 1) (h 0 17) N n k (h 13) c < (SPr (bm h) (h 5 1) (h 0 17) N n k (h 13) c).1 then (pvl (bm h) (h 5 1) (h 0 17) N n k (h 13) c, c) else SPr (bm h) (h 5 1) (h 0 17) N n k (h 13) c := rfl
      have ihn := fun g9 k9 => ih (c + 1) g9 (by omega) k9
      rw [hnext] at ihn
      generalize hs : SPr (bm h) (h 5 1) (h 0 17) N n k (h 13) c = s at hin ihn ⊢
      have e1 : ((c : Nat) : Int) + 1 = ((c + 1 : Nat) : Int) := by omega
      obtain ⟨L, hL⟩ : ∃ L : Nat, L = if N = 1 then 1 else pcs n k := ⟨_, rfl⟩
      have hL321 : L ≤ 321 := by rw [hL]; split <;> omega
      -- the inner loop, by what its state is
      have inner : ∀ sI : Nat → Int × Nat, (∀ j, j ≤ L → (0 ≤ (sI j).1 ∧ (sI j).1 ≤ 1000000)) → sI 0 = s → (∀ g9 : HP, kMp h g9 → V KM (d + 3) mX11_pours 66 [some (aR 0), some (aI N), some (aI (k : Nat)), some (aI w), some (aI (pcs n k : Nat)), some (aI (encP (sI L).1)), some (aI ((sI L).2 : Nat)), some (aI ((c + 1 : Nat) : Int)), none, none, none] [] g9 (rI P)) →
          (∀ (j : Nat) (g9 : HP), j < L → kMp h g9 → (∀ g8 : HP, kMp h g8 → V KM (d + 3) mX11_pours 76 [some (aR 0), some (aI N), some (aI (k : Nat)), some (aI w), some (aI (pcs n k : Nat)), some (aI (encP (sI (j + 1)).1)), some (aI ((sI (j + 1)).2 : Nat)), some (aI (c : Nat)), some (aI ((j + 1 : Nat) : Int)), none, none] [] g8 (rI P)) → Ct KM (d + 2) mX11_tries [aR 0] g9 (rV fun (h1 : HP) => Ct KM (d + 2) mX11_isPoured [aR 0, aI (c : Nat), aI (k : Nat)] h1 (rI fun (v2 : Int) (h2 : HP) => iR v2 ∧ (v2 = (0 : Int) → V KM (d + 3) mX11_pours 204 [some (aR 0), some (aI N), some (aI (k : Nat)), some (aI w), some (aI (pcs n k : Nat)), some (aI (encP (sI j).1)), some (aI ((sI j).2 : Nat)), some (aI (c : Nat)), some (aI (j : Nat)), none, none] [] h2 (rI P)) ∧ (v2 ≠ (0 : Int) → ((0 : Int) ≤ 1 ∧ (1 : Int) < 6) ∧ Ct KM (d + 2) mX11_goes [aR 0, aI (h2 5 1), aI (h2 0 17)] h2 (rI fun (v3 : Int) (h3 : HP) => (iR N ∧ iR 1) ∧ (N = (1 : Int) → V KM (d + 3) mX11_pours 137 [some (aR 0), some (aI N), some (aI (k : Nat)), some (aI w), some (aI (pcs n k : Nat)), some (aI (encP (sI j).1)), some (aI ((sI j).2 : Nat)), some (aI (c : Nat)), some (aI (j : Nat)), some (aI v3), none] [] h3 (rI P)) ∧ (N ≠ (1 : Int) → Ct KM (d + 2) mX11_isPoured [aR 0, aI (j : Nat), aI (k : Nat)] h3 (rI fun (v4 : Int) (h4 : HP) => iR v4 ∧ (v4 = (0 : Int) → V KM (d + 3) mX11_pours 142 [some (aR 0), some (aI N), some (aI (k : Nat)), some (aI w), some (aI (pcs n k : Nat)), some (aI (encP (sI j).1)), some (aI ((sI j).2 : Nat)), some (aI (c : Nat)), some (aI (j : Nat)), some (aI v3), none] [aI 0] h4 (rI P)) ∧ (v4 ≠ (0 : Int) → V KM (d + 3) mX11_pours 137 [some (aR 0), some (aI N), some (aI (k : Nat)), some (aI w), some (aI (pcs n k : Nat)), some (aI (encP (sI j).1)), some (aI ((sI j).2 : Nat)), some (aI (c : Nat)), some (aI (j : Nat)), some (aI v3), none] [] h4 (rI P)))))))))
          → V KM (d + 3) mX11_pours 76 [some (aR 0), some (aI N), some (aI (k : Nat)), some (aI w), some (aI (pcs n k : Nat)), some (aI (encP s.1)), some (aI (s.2 : Nat)), some (aI (c : Nat)), some (aI ((0 : Nat) : Int)), none, none] [] g (rI P) := by
        intro sI hsI hs0 hend hstep
        have lim : ∀ (j : Nat) (g9 : HP), V KM (d + 3) mX11_pours 89 [some (aR 0), some (aI N), some (aI (k : Nat)), some (aI w), some (aI (pcs n k : Nat)), some (aI (encP (sI j).1)), some (aI ((sI j).2 : Nat)), some (aI (c : Nat)), some (aI (j : Nat)), none, none] [aI (L : Nat), aI (j : Nat)] g9 (rI P) → V KM (d + 3) mX11_pours 76 [some (aR 0), some (aI N), some (aI (k : Nat)), some (aI w), some (aI (pcs n k : Nat)), some (aI (encP (sI j).1)), some (aI ((sI j).2 : Nat)), some (aI (c : Nat)), some (aI (j : Nat)), none, none] [] g9 (rI P) := by
          intro j g9 hv
          refine v_X11_pours_76 N k w _ _ _ c j g9 ⟨⟨hN, by decide⟩, fun z => ?_, fun z => ?_⟩
          · rw [if_neg z] at hL
            rw [hL] at hv
            exact hv
          · rw [if_pos z] at hL
            rw [hL] at hv
            exact hv
        have all : ∀ (u j : Nat) (g9 : HP), j + u = L → kMp h g9 → V KM (d + 3) mX11_pours 76 [some (aR 0), some (aI N), some (aI (k : Nat)), some (aI w), some (aI (pcs n k : Nat)), some (aI (encP (sI j).1)), some (aI ((sI j).2 : Nat)), some (aI (c : Nat)), some (aI (j : Nat)), none, none] [] g9 (rI P) := by
          intro u
          induction u with
          | zero =>
            intro j g9 hj k9
            have hjL : j = L := by omega
            rw [hjL]
            refine lim L g9 (v_X11_pours_89 N k w _ _ _ c L L L g9 ⟨⟨⟨by omega, by omega⟩, ⟨by omega, by omega⟩⟩, fun _ => ?_, fun z => absurd z (by omega)⟩)
            rw [e1]
            exact hend g9 k9
          | succ u ihu =>
            intro j g9 hj k9
            refine lim j g9 (v_X11_pours_89 N k w _ _ _ c j L j g9 ⟨⟨⟨by omega, by omega⟩, ⟨by omega, by omega⟩⟩, fun z => absurd z (by omega), fun _ => ?_⟩)
            exact hstep j g9 (by omega) k9 (fun g8 k8 => ihu (j + 1) g8 (by omega) k8)
        have h9 := all L 0 g (by omega) kg
        rw [hs0] at h9
        exact h9
      have enter : ∀ g9 : HP, V KM (d + 3) mX11_pours 76 [some (aR 0), some (aI N), some (aI (k : Nat)), some (aI w), some (aI (pcs n k : Nat)), some (aI (encP s.1)), some (aI (s.2 : Nat)), some (aI (c : Nat)), some (aI ((0 : Nat) : Int)), none, none] [] g9 (rI P) → V KM (d + 3) mX11_pours 66 [some (aR 0), some (aI N), some (aI (k : Nat)), some (aI w), some (aI (pcs n k : Nat)), some (aI (encP s.1)), some (aI (s.2 : Nat)), some (aI (c : Nat)), none, none, none] [] g9 (rI P) := fun g9 hv =>
        v_X11_pours_66 N k w _ _ _ c g9 ⟨⟨⟨by omega, by omega⟩, ⟨by omega, by omega⟩⟩, fun z => absurd z (by omega), fun _ => hv⟩
      refine enter g ?_
      have tri : ∀ (g9 : HP), kMp h g9 → ∀ Q : HP → Prop, (∀ h1 : HP, kMp h h1 → eqN n (h1 16) (h 13) → Q h1) → Ct KM (d + 2) mX11_tries [aR 0] g9 (rV Q) := fun g9 k9 Q hQ => c_tries (fun h1 c1 c2 c3 c4 => hQ h1 (fun a z1 z2 z3 z4 => by rw [c1 a z1 z3]; exact k9 a z1 z2 z3 z4) (fun x q0 q1 => by rw [c2 x q0 (by omega), k9 13 (by decide) (by decide) (by decide) (by decide)]))
      cases hck : pok n k (h 13) c with
      | false =>
        rw [hck, if_neg (fun z => absurd z.1 (by decide))] at ihn
        refine inner (fun _ => s) (fun _ _ => hin.1) rfl ihn (fun j g9 hj k9 hgo => ?_)
        refine tri g9 k9 _ (fun h1 k1 e16 => ?_)
        have hpk : pok n k (h1 16) c = false := by rw [pok_ag (by omega) (by omega) e16 hc]; exact hck
        refine m_isPoured hn1 hk1 (by rw [k1 2 (by decide) (by decide) (by decide) (by decide)]; exact hnn) hc (fun x q0 q1 => by rw [e16 x q0 q1]; exact hrow x q0 q1) (fun z => by rw [hpk] at z; exact absurd z (by decide)) (fun _ => bF (v_X11_pours_204 N k w _ _ _ c j h1 ?_))
        have := hgo h1 k1
        rw [show ((j : Nat) : Int) + 1 = ((j + 1 : Nat) : Int) by omega]
        exact this
      | true =>
        have hpo := prw_ok (n := n) (q := k) (by omega) (by omega) hrow hck hc
        have hl1 := lossN_in (r := h 5 1) (ct := z0) (t := h 0 17) (p := prw n k (h 13) c) hb (by rw [← hnb]; exact hpo) 1
        have hno := ngt_ok (rats := h 5 1) (t := h 0 17) (ct := z0) hb (by rw [← hnb]; exact hpo)
        rw [← hnb] at hno
        have hpvd : pvl (bm h) (h 5 1) (h 0 17) N n k (h 13) c = lossN (bm h) (h 5 1) z0 (prw n k (h 13) c) (h 0 17) 1 + (if N = 2 then LTm (bm h) (h 5 1) (h 0 17 + 1) n k (ngt (bm h) (h 5 1) (h 0 17) z0 (prw n k (h 13) c)) (pcs n k) else 0) := rfl
        have ihn2 : ∀ g9 : HP, kMp h g9 → V KM (d + 3) mX11_pours 66 [some (aR 0), some (aI N), some (aI (k : Nat)), some (aI w), some (aI (pcs n k : Nat)), some (aI (encP (cmbP c (pvl (bm h) (h 5 1) (h 0 17) N n k (h 13) c) s).1)), some (aI ((cmbP c (pvl (bm h) (h 5 1) (h 0 17) N n k (h 13) c) s).2 : Nat)), some (aI ((c + 1 : Nat) : Int)), none, none, none] [] g9 (rI P) := fun g9 k9 => by
          have := ihn g9 k9
          rw [hck] at this
          unfold cmbP
          by_cases cc : pvl (bm h) (h 5 1) (h 0 17) N n k (h 13) c < s.1
          · rw [if_pos cc]
            rw [if_pos ⟨rfl, cc⟩] at this
            exact this
          · rw [if_neg cc]
            rw [if_neg (fun z => cc z.2)] at this
            exact this
        -- a value is weighed
        have weigh : ∀ (j : Nat) (v u0 u1 : Int) (s1 : Int × Nat) (g9 : HP), kMp h g9 → (0 ≤ s1.1 ∧ s1.1 ≤ 1000000) → u1 + u0 = v → (0 ≤ v ∧ v ≤ 4800) → (∀ g8 : HP, kMp h g8 → V KM (d + 3) mX11_pours 76 [some (aR 0), some (aI N), some (aI (k : Nat)), some (aI w), some (aI (pcs n k : Nat)), some (aI (encP (cmbP c v s1).1)), some (aI ((cmbP c v s1).2 : Nat)), some (aI (c : Nat)), some (aI ((j + 1 : Nat) : Int)), none, none] [] g8 (rI P)) → ∀ x9 : Int, V KM (d + 3) mX11_pours 176 [some (aR 0), some (aI N), some (aI (k : Nat)), some (aI w), some (aI (pcs n k : Nat)), some (aI (encP s1.1)), some (aI (s1.2 : Nat)), some (aI (c : Nat)), some (aI (j : Nat)), some (aI x9), some (aI 1)] [aI u0, aI u1] g9 (rI P) := by
          intro j v u0 u1 s1 g9 k9 hs1 huv hv hgo x9
          have e2 : ((j : Nat) : Int) + 1 = ((j + 1 : Nat) : Int) := by omega
          have hgo := hgo g9 k9
          have take : v < s1.1 → V KM (d + 3) mX11_pours 196 [some (aR 0), some (aI N), some (aI (k : Nat)), some (aI w), some (aI (pcs n k : Nat)), some (aI (encP s1.1)), some (aI (s1.2 : Nat)), some (aI (c : Nat)), some (aI (j : Nat)), some (aI v), some (aI 1)] [] g9 (rI P) := fun z => by
            refine v_X11_pours_196 N k w _ _ _ c j v 1 g9 (v_X11_pours_204 N k w _ _ _ c j g9 ?_)
            unfold cmbP at hgo
            rw [if_pos z] at hgo
            have e3 : encP v = v := by unfold encP; rw [if_neg (by omega)]
            dsimp only at hgo
            rw [e3] at hgo
            rw [e2]
            exact hgo
          have leave : ¬ v < s1.1 → V KM (d + 3) mX11_pours 204 [some (aR 0), some (aI N), some (aI (k : Nat)), some (aI w), some (aI (pcs n k : Nat)), some (aI (encP s1.1)), some (aI (s1.2 : Nat)), some (aI (c : Nat)), some (aI (j : Nat)), none, none] [] g9 (rI P) := fun z => by
            refine v_X11_pours_204 N k w _ _ _ c j g9 ?_
            unfold cmbP at hgo
            rw [if_neg z] at hgo
            rw [e2]
            exact hgo
          have hE := encR s1.1 hs1.1 hs1.2
          refine v_X11_pours_176 N k w _ _ _ c j x9 1 u0 u1 g9 ?_
          rw [huv]
          by_cases cc : s1.1 = 1000000
          · have e4 : encP s1.1 = -1 := by unfold encP; rw [if_pos cc]
            rw [e4] at take leave hE ⊢
            exact ⟨by decide, fun z => absurd z (by decide), fun _ => ⟨hE, fun _ => take (by omega), fun z => absurd z (by decide)⟩⟩
          · have e4 : encP s1.1 = s1.1 := by unfold encP; rw [if_neg cc]
            rw [e4] at take leave hE ⊢
            exact ⟨by decide, fun z => absurd z (by decide), fun _ => ⟨hE, fun z => absurd z (by omega), fun _ => ⟨⟨⟨by omega, by omega⟩, hE⟩, fun z => leave (by omega), fun z => take z⟩⟩⟩
        -- the first day and night
        have day : ∀ (j : Nat) (s1 : Int × Nat) (g9 : HP) (A B C D : Int → HP → Prop), kMp h g9 → (∀ g3 : HP, kMp h g3 → eqN n (g3 16) (ngt (bm h) (h 5 1) (h 0 17) z0 (prw n k (h 13) c)) → B (lossN (bm h) (h 5 1) z0 (prw n k (h 13) c) (h 0 17) 1) g3) → Ct KM (d + 2) mX11_tries [aR 0] g9 (rV fun (h1 : HP) => Ct KM (d + 2) mX11_isPoured [aR 0, aI (c : Nat), aI (k : Nat)] h1 (rI fun (v2 : Int) (h2 : HP) => iR v2 ∧ (v2 = (0 : Int) → A v2 h2) ∧ (v2 ≠ (0 : Int) → ((0 : Int) ≤ 1 ∧ (1 : Int) < 6) ∧ Ct KM (d + 2) mX11_goes [aR 0, aI (h2 5 1), aI (h2 0 17)] h2 (rI B)))) := by
          intro j s1 g9 A B C D k9 hB
          refine tri g9 k9 _ (fun h1 k1 e16 => ?_)
          have hpk : pok n k (h1 16) c = true := by rw [pok_ag (by omega) (by omega) e16 hc]; exact hck
          refine m_isPoured hn1 hk1 (by rw [k1 2 (by decide) (by decide) (by decide) (by decide)]; exact hnn) hc (fun x q0 q1 => by rw [e16 x q0 q1]; exact hrow x q0 q1) (fun _ h2 c1 c2 => bT ⟨by omega, ?_⟩) (fun z => by rw [hpk] at z; exact absurd z (by decide))
          have k2 : kMp h h2 := fun a z1 z2 z3 z4 => by rw [c1 a z1]; exact k1 a z1 z2 z3 z4
          have e2 : eqN n (h2 16) (prw n k (h 13) c) := fun x q0 q1 => (c2 x q0 q1).trans (prw_ag (by omega) (by omega) e16 hc x q0 q1)
          rw [k2 5 (by decide) (by decide) (by decide) (by decide), k2 0 (by decide) (by decide) (by decide) (by decide)]
          refine m_goes1 (d := d + 1) hb hz hr ⟨ht.1, by omega⟩ k2 (by rw [hnn]; exact e2) (by rw [hnn]; exact hpo) (fun g3 k3 e3 => hB g3 k3 (by rw [hnn] at e3; exact e3))
        by_cases hN1 : N = 1
        · rw [if_neg (by omega)] at hpvd
          have hL1 : L = 1 := by rw [hL, if_pos hN1]
          refine inner (fun j => if j = 0 then s else cmbP c (pvl (bm h) (h 5 1) (h 0 17) N n k (h 13) c) s) (fun j _ => ?_) rfl (by rw [hL1]; exact ihn2) (fun j g9 hj k9 hgo => ?_)
          · split
            · exact hin.1
            · unfold cmbP
              split
              · exact ⟨by show 0 ≤ pvl _ _ _ _ _ _ _ _; omega, by show pvl _ _ _ _ _ _ _ _ ≤ 1000000; omega⟩
              · exact hin.1
          · have hj0 : j = 0 := by omega
            subst hj0
            refine day 0 s g9 _ _ (fun _ _ => True) (fun _ _ => True) k9 (fun g3 k3 e3 => ⟨⟨hN, by decide⟩, fun _ => ?_, fun z => absurd hN1 z⟩)
            refine v_X11_pours_137 N k w _ _ _ c 0 _ g3 (v_X11_pours_142 N k w _ _ _ c 0 _ 1 g3 ⟨⟨hN, by decide⟩, fun _ => v_X11_pours_175 N k w _ _ _ c 0 _ 1 _ g3 ?_, fun z => absurd z (by omega)⟩)
            refine weigh 0 _ 0 _ s g3 k3 hin.1 rfl ⟨by omega, by omega⟩ (fun g8 k8 => ?_) _
            have := hgo g8 k8
            rw [if_neg (show ¬ (0 + 1 = 0) by omega), hpvd] at this
            exact this
        · have hN2 : N = 2 := by omega
          rw [if_pos hN2] at hpvd
          have hLp : L = pcs n k := by rw [hL, if_neg hN1]
          have hlin : ∀ j, j ≤ pcs n k → 0 ≤ LTm (bm h) (h 5 1) (h 0 17 + 1) n k (ngt (bm h) (h 5 1) (h 0 17) z0 (prw n k (h 13) c)) j ∧ LTm (bm h) (h 5 1) (h 0 17 + 1) n k (ngt (bm h) (h 5 1) (h 0 17) z0 (prw n k (h 13) c)) j ≤ 1000000 := fun j hj => LTm_in hb hnb (by omega) hno j hj
          have hsR : ∀ j, j ≤ pcs n k → 0 ≤ (cmbP c (lossN (bm h) (h 5 1) z0 (prw n k (h 13) c) (h 0 17) 1 + LTm (bm h) (h 5 1) (h 0 17 + 1) n k (ngt (bm h) (h 5 1) (h 0 17) z0 (prw n k (h 13) c)) j) s).1 ∧ (cmbP c (lossN (bm h) (h 5 1) z0 (prw n k (h 13) c) (h 0 17) 1 + LTm (bm h) (h 5 1) (h 0 17 + 1) n k (ngt (bm h) (h 5 1) (h 0 17) z0 (prw n k (h 13) c)) j) s).1 ≤ 1000000 := fun j hj => by
            have h1 := hlin j hj
            unfold cmbP
            split
            · rename_i z
              exact ⟨by show 0 ≤ _ + _; omega, by show _ + _ ≤ (1000000 : Int); omega⟩
            · exact hin.1
          refine inner (fun j => cmbP c (lossN (bm h) (h 5 1) z0 (prw n k (h 13) c) (h 0 17) 1 + LTm (bm h) (h 5 1) (h 0 17 + 1) n k (ngt (bm h) (h 5 1) (h 0 17) z0 (prw n k (h 13) c)) j) s) (fun j hj => hsR j (by omega)) ?_ (by rw [hLp, ← hpvd]; exact ihn2) (fun j g9 hj k9 hgo => ?_)
          · unfold cmbP
            rw [LTm, if_neg (by omega)]
          · have hjc : j < pcs n k := by omega
            refine day j s g9 _ _ (fun _ _ => True) (fun _ _ => True) k9 (fun g3 k3 e3 => ⟨⟨hN, by decide⟩, fun z => absurd z hN1, fun _ => ?_⟩)
            have hpkj : pok n k (g3 16) j = pok n k (ngt (bm h) (h 5 1) (h 0 17) z0 (prw n k (h 13) c)) j := pok_ag (by omega) (by omega) e3 hjc
            have hr1 := hsR j (by omega)
            refine m_isPoured hn1 hk1 (by rw [k3 2 (by decide) (by decide) (by decide) (by decide)]; exact hnn) hjc (fun x q0 q1 => by rw [e3 x q0 q1]; exact hno x q0 q1) (fun z g4 c1 c2 => bT ?_) (fun z => bF ?_)
            · rw [hpkj] at z
              have k4 : kMp h g4 := fun a z1 z2 z3 z4 => by rw [c1 a z1]; exact k3 a z1 z2 z3 z4
              have e4 : eqN n (g4 16) (prw n k (ngt (bm h) (h 5 1) (h 0 17) z0 (prw n k (h 13) c)) j) := fun x q0 q1 => (c2 x q0 q1).trans (prw_ag (by omega) (by omega) e3 hjc x q0 q1)
              have hpo2 := prw_ok (n := n) (q := k) (by omega) (by omega) hno z hjc
              have hl2 := lossN_in (r := h 5 1) (ct := z0) (t := h 0 17 + 1) (p := prw n k (ngt (bm h) (h 5 1) (h 0 17) z0 (prw n k (h 13) c)) j) hb (by rw [← hnb]; exact hpo2) 1
              refine v_X11_pours_137 N k w _ _ _ c j _ g4 (v_X11_pours_142 N k w _ _ _ c j _ 1 g4 ⟨⟨hN, by decide⟩, fun z2 => absurd hN2 z2, fun _ => ⟨by decide, fun z2 => absurd z2 (by decide), fun _ => ⟨by omega, ?_⟩⟩⟩)
              rw [k4 5 (by decide) (by decide) (by decide) (by decide), k4 0 (by decide) (by decide) (by decide) (by decide)]
              refine m_goes1 (d := d + 1) hb hz hr ⟨by omega, by omega⟩ k4 (by rw [hnn]; exact e4) (by rw [hnn]; exact hpo2) (fun g5 k5 e5 => ?_)
              refine weigh j _ _ _ _ g5 k5 hr1 rfl ⟨by omega, by omega⟩ (fun g8 k8 => ?_) _
              have := hgo g8 k8
              have hst : cmbP c (lossN (bm h) (h 5 1) z0 (prw n k (h 13) c) (h 0 17) 1 + lossN (bm h) (h 5 1) z0 (prw n k (ngt (bm h) (h 5 1) (h 0 17) z0 (prw n k (h 13) c)) j) (h 0 17 + 1) 1) (cmbP c (lossN (bm h) (h 5 1) z0 (prw n k (h 13) c) (h 0 17) 1 + LTm (bm h) (h 5 1) (h 0 17 + 1) n k (ngt (bm h) (h 5 1) (h 0 17) z0 (prw n k (h 13) c)) j) s) = cmbP c (lossN (bm h) (h 5 1) z0 (prw n k (h 13) c) (h 0 17) 1 + LTm (bm h) (h 5 1) (h 0 17 + 1) n k (ngt (bm h) (h 5 1) (h 0 17) z0 (prw n k (h 13) c)) (j + 1)) s := by
                rw [LTm, if_pos z]
                generalize lossN (bm h) (h 5 1) z0 (prw n k (h 13) c) (h 0 17) 1 = y1
                generalize LTm (bm h) (h 5 1) (h 0 17 + 1) n k (ngt (bm h) (h 5 1) (h 0 17) z0 (prw n k (h 13) c)) j = y2
                generalize lossN (bm h) (h 5 1) z0 (prw n k (ngt (bm h) (h 5 1) (h 0 17) z0 (prw n k (h 13) c)) j) (h 0 17 + 1) 1 = y3
                unfold cmbP
                by_cases q1 : y1 + y2 < s.1
                · rw [if_pos q1]
                  dsimp only
                  by_cases q2 : y1 + y3 < y1 + y2
                  · rw [if_pos q2, if_pos (by omega), show min y2 y3 = y3 by omega]
                  · rw [if_neg q2, if_pos (by omega), show min y2 y3 = y2 by omega]
                · rw [if_neg q1]
                  by_cases q2 : y1 + y3 < s.1
                  · rw [if_pos q2, if_pos (by omega), show min y2 y3 = y3 by omega]
                  · rw [if_neg q2, if_neg (by omega)]
              rw [hst]
              exact this
            · rw [hpkj] at z
              refine v_X11_pours_142 N k w _ _ _ c j _ 0 g3 ⟨⟨hN, by decide⟩, fun z2 => absurd hN2 z2, fun _ => ⟨by decide, fun _ => v_X11_pours_175 N k w _ _ _ c j _ 0 _ g3 (v_X11_pours_176 N k w _ _ _ c j _ 0 _ _ g3 ⟨by decide, fun _ => v_X11_pours_204 N k w _ _ _ c j g3 ?_, fun z2 => absurd rfl z2⟩), fun z2 => absurd rfl z2⟩⟩
              have := hgo g3 k3
              rw [LTm, if_neg (by rw [z]; decide)] at this
              rw [show ((j : Nat) : Int) + 1 = ((j + 1 : Nat) : Int) by omega]
              exact this
  exact main (pcs n k) 0 h (by omega) (fun _ _ _ _ _ => rfl)
