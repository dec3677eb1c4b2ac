/-! the model: corn, the call -/
theorem stL_in {lv : (Int → Int) → Option Int} {ρ : Int → Int} {s : SC} (hl : ∀ v, lv ρ = some v → 0 ≤ v ∧ v < 1000000) (hs : 0 ≤ s.1 ∧ s.1 ≤ 1000000) : 0 ≤ (stL lv ρ s).1 ∧ (stL lv ρ s).1 ≤ 1000000 := by
  unfold stL
  cases h : lv ρ with
  | none => exact hs
  | some v =>
    have := hl v h
    dsimp only
    split
    · exact ⟨this.1, by show v ≤ 1000000; omega⟩
    · exact hs
theorem m_corn {d : Nat} {P : Int → HP → Prop} {N n i : Int} {h : HP} (hW : WV N (vm h)) (hz : cm h) (hn : iR n) (hi : iR i) (hP : ∀ h', vm h' = vm h → cm h' → P (sp_corn (vm h) n i) h') : Ct KM (d + 3) mX11_corn [aR 0, aI n, aI i] h (rI P) := by
  obtain ⟨b1, b2, b3, b4, b5, ⟨b6, b6'⟩, b7, b8, -⟩ := hW
  have hb : wfB (bm h) := b3
  have hn8 : 1 ≤ h 2 0 ∧ h 2 0 ≤ 8 := hb.1
  have hr : 0 ≤ h 5 1 ∧ h 5 1 ≤ 3 := b4
  have hp : r199 (h 2 0) (h 13) := b7
  have hC : 0 ≤ h 8 0 ∧ h 8 0 ≤ 4 := b6
  have hc : ∀ c, 0 ≤ c → c < h 8 0 → (0 ≤ h 9 (2 * c) ∧ h 9 (2 * c) ≤ 30) ∧ (1 ≤ h 9 (2 * c + 1) ∧ h 9 (2 * c + 1) ≤ 60) ∧ ∀ c', c ≤ c' → c' < h 8 0 → h 9 (2 * c) ≤ h 9 (2 * c') := b6'
  unfold sp_corn at hP
  have hqc : qc (vm h) = h 8 0 := rfl
  rw [hqc] at hP
  have bad : ¬ ((1 ≤ n ∧ n ≤ 31) ∧ -1 ≤ i ∧ i < h 8 0) → P (-1) h := fun z => by
    have := hP h rfl hz
    rw [if_neg z] at this
    exact this
  refine e_X11_corn n i h ⟨hn, c_inI hn (by decide) (by decide) (fun a b => bT ⟨hi, by omega, ⟨by omega, by omega⟩, c_inI hi (by decide) ⟨by omega, by omega⟩ (fun a2 b2 => bT' ⟨by omega, ⟨by omega, by omega⟩, fun z => v_X11_corn_48 n i 1 h ?_, fun z => v_X11_corn_48 n i 0 h ?_⟩) (fun a2 => bF' (bad (by omega)))⟩) (fun a => bF (bad (by omega)))⟩
  · have hP : ∀ h', vm h' = vm h → cm h' → P (if (CO (vm h) n).1 = 1000000 then -4 else if i = -1 then (CO (vm h) n).1 else (CO (vm h) n).2 i) h' := fun h' e1 e2 => by
      have := hP h' e1 e2
      rwa [if_pos ⟨⟨a, b⟩, a2, by omega⟩, if_neg z] at this
    obtain ⟨C, hCC⟩ : ∃ C : Nat, h 8 0 = C := ⟨(h 8 0).toNat, by omega⟩
    obtain ⟨B, hBB⟩ : ∃ B : Nat, h 2 0 = B := ⟨(h 2 0).toNat, by omega⟩
    have hB0 : 0 < B := by omega
    have hpw : B ^ C ≤ 4096 := by
      have h1 : B ^ C ≤ 8 ^ C := Nat.pow_le_pow_left (by omega) _
      have h2 : 8 ^ C ≤ 8 ^ 4 := Nat.pow_le_pow_right (by omega) (by omega)
      have h3 : 8 ^ 4 = 4096 := by decide
      omega
    have hcm := cmg_le (cN := fun c => h 9 (2 * c)) (n := n) C
    generalize hmE : cmg (fun c => h 9 (2 * c)) n C = m at hcm
    obtain ⟨lv, hlv⟩ : ∃ lv : (Int → Int) → Option Int, lv = fun ρ => LCv (bm h) (h 5 1) (fun c => h 9 (2 * c)) (fun c => h 9 (2 * c + 1)) n m 0 0 0 (h 13) ρ := ⟨_, rfl⟩
    have hCO : CO (vm h) n = RGf (fun a s => stL lv (rwc B C 0 z0 a) s) (B ^ C) (1000000, z0) := by
      rw [← MF_code hB0 C 0 z0 (1000000, z0)]
      have := MF_KO (lv := lv) (b := bm h) (r := h 5 1) (en := n) (cN := fun c => h 9 (2 * c)) (cP := fun c => h 9 (2 * c + 1)) hb m (C - m) 0 0 0 (h 13) z0 (1000000, z0) (fun ρ _ => by rw [hlv]) (fun _ _ => rfl)
      rw [show (bn (bm h)).toNat = B by show (h 2 0).toNat = B; omega, show m + (C - m) = C by omega] at this
      rw [this, ← hmE]
      show KO (bm h) (h 5 1) _ _ n (cmg (fun c => h 9 (2 * c)) n (h 8 0).toNat) 0 0 0 (h 13) z0 (1000000, z0) = _
      rw [show (h 8 0).toNat = C by omega]
    have dig : ∀ a : Nat, a < B ^ C → ∀ x : Nat, x < C → rwc B C 0 z0 a x = ((a / B ^ (C - 1 - x) % B : Nat) : Int) := fun a ha x hx => by
      have := rwc_at hB0 C 0 z0 a x hx ha
      rwa [show (0 : Int) + (x : Nat) = (x : Nat) by omega] at this
    have digin : ∀ a : Nat, a < B ^ C → ∀ x : Int, 0 ≤ x → x < h 8 0 → 0 ≤ rwc B C 0 z0 a x ∧ rwc B C 0 z0 a x < h 2 0 := fun a ha x hx0 hx1 => by
      have h1 := dig a ha x.toNat (by omega)
      rw [show ((x.toNat : Nat) : Int) = x by omega] at h1
      have h2 := Nat.mod_lt (a / B ^ (C - 1 - x.toNat)) hB0
      rw [h1, hBB]
      generalize a / B ^ (C - 1 - x.toNat) % B = q at h2
      omega
    have lvin : ∀ a : Nat, a < B ^ C → ∀ v, lv (rwc B C 0 z0 a) = some v → 0 ≤ v ∧ v < 1000000 := fun a ha v hv => by
      rw [hlv] at hv
      have := LC_in hb m 0 0 0 (h 13) _ v (r199_ok hp) (fun x q0 q1 => ⟨digin a ha x q0 (by omega), by have := (hc x q0 (by omega)).2.1; omega⟩) hv
      omega
    -- the codes
    have main : ∀ (f code : Nat) (s : SC) (g : HP) (x4 : Int), code + f = B ^ C → kMo h g → s = RGf (fun a s => stL lv (rwc B C 0 z0 a) s) code (1000000, z0) → (0 ≤ s.1 ∧ s.1 ≤ 1000000) → x4 = (if s.1 = 1000000 then -4 else s.1) → (s.1 ≠ 1000000 → ∀ x, 0 ≤ x → x < h 8 0 → g 20 x = s.2 x) → V KM (d + 3) mX11_corn 85 [some (aR 0), some (aI n), some (aI i), some (aI ((B ^ C : Nat) : Int)), some (aI x4), some (aI (code : Nat)), none, none, none] [] g (rI P) := by
      intro f
      induction f with
      | zero =>
        intro code s g x4 hf kg hs sr hx4 e20
        have hcode : code = B ^ C := by omega
        rw [hcode, ← hCO] at hs
        have hP := hP g (kMo_vm kg) (kMo_cm kg hz)
        rw [← hs] at hP
        refine v_X11_corn_85 n i _ x4 code g ⟨⟨⟨by omega, by omega⟩, ⟨by omega, by omega⟩⟩, fun _ => ?_, fun z => absurd z (by omega)⟩
        by_cases c : s.1 = 1000000
        · rw [if_pos c] at hP hx4
          rw [hx4]
          exact ⟨by decide, fun _ => v_X11_corn_220 n i _ _ code g hP, fun z => absurd z (by decide)⟩
        · rw [if_neg c] at hP hx4
          rw [hx4]
          refine ⟨⟨by omega, by omega⟩, fun z => absurd z (by omega), fun _ => ⟨hi, fun z => ⟨by omega, ?_⟩, fun z => v_X11_corn_220 n i _ _ code g ?_⟩⟩
          · rw [if_neg (by omega)] at hP
            rw [e20 c i z (by omega)]
            exact hP
          · rw [if_pos (by omega)] at hP
            exact hP
      | succ f ih =>
        intro code s g x4 hf kg hs sr hx4 e20
        have hlt : code < B ^ C := by omega
        have g8 : g 8 = h 8 := kg 8 (by decide) (by decide) (by decide) (by decide) (by decide)
        have hx4r : iR x4 := by
          rw [hx4]
          split
          · decide
          · exact ⟨by omega, by omega⟩
        have e1 : ((code : Nat) : Int) + 1 = ((code + 1 : Nat) : Int) := by omega
        have hnext : RGf (fun a s => stL lv (rwc B C 0 z0 a) s) (code + 1) (1000000, z0) = stL lv (rwc B C 0 z0 code) s := by rw [RGf, ← hs]
        -- behind
        have go : ∀ (w6 w7 y4 : Int) (s9 : SC) (g9 : HP), s9 = stL lv (rwc B C 0 z0 code) s → kMo h g9 → (0 ≤ s9.1 ∧ s9.1 ≤ 1000000) → y4 = (if s9.1 = 1000000 then -4 else s9.1) → (s9.1 ≠ 1000000 → ∀ x, 0 ≤ x → x < h 8 0 → g9 20 x = s9.2 x) → V KM (d + 3) mX11_corn 205 [some (aR 0), some (aI n), some (aI i), some (aI ((B ^ C : Nat) : Int)), some (aI y4), some (aI (code : Nat)), some (aI w6), some (aI w7), none] [] g9 (rI P) := by
          intro w6 w7 y4 s9 g9 es k9 sr9 hy4 e9
          refine v_X11_corn_205 n i _ y4 code w6 w7 g9 ?_
          rw [e1]
          exact ih (code + 1) s9 g9 y4 (by omega) k9 (by rw [hnext]; exact es) sr9 hy4 e9
        have best : ∀ (w6 v : Int), stL lv (rwc B C 0 z0 code) s = (v, rwc B C 0 z0 code) → (0 ≤ v ∧ v < 1000000) → ∀ (u : Nat) (x : Int) (g9 : HP), x + u = h 8 0 → 0 ≤ x → kMo h g9 → (∀ y, 0 ≤ y → y < h 8 0 → g9 19 y = rwc B C 0 z0 code y) → (∀ y, 0 ≤ y → y < x → g9 20 y = rwc B C 0 z0 code y) → V KM (d + 3) mX11_corn 174 [some (aR 0), some (aI n), some (aI i), some (aI ((B ^ C : Nat) : Int)), some (aI v), some (aI (code : Nat)), some (aI w6), some (aI v), some (aI x)] [] g9 (rI P) := by
          intro w6 v hst hv u
          induction u with
          | zero =>
            intro x g9 hx hx0 k9 e19 e20'
            have g98 : g9 8 = h 8 := k9 8 (by decide) (by decide) (by decide) (by decide) (by decide)
            refine v_X11_corn_174 n i _ v code w6 v x g9 ?_
            rw [g98]
            refine ⟨by omega, ⟨⟨by omega, by omega⟩, ⟨by omega, by omega⟩⟩, fun _ => go w6 v v (v, rwc B C 0 z0 code) g9 hst.symm k9 ⟨hv.1, by show v ≤ 1000000; omega⟩ (by rw [if_neg (by show ¬ v = 1000000; omega)]) (fun _ y q0 q1 => e20' y q0 (by omega)), fun z => absurd z (by omega)⟩
          | succ u ihu =>
            intro x g9 hx hx0 k9 e19 e20'
            have g98 : g9 8 = h 8 := k9 8 (by decide) (by decide) (by decide) (by decide) (by decide)
            refine v_X11_corn_174 n i _ v code w6 v x g9 ?_
            rw [g98]
            refine ⟨by omega, ⟨⟨by omega, by omega⟩, ⟨by omega, by omega⟩⟩, fun z => absurd z (by omega), fun _ => ⟨by omega, by omega, ihu (x + 1) _ (by omega) (by omega) (fun a z1 z2 z3 z4 z5 => by rw [hset_n z5]; exact k9 a z1 z2 z3 z4 z5) (fun y y0 y1 => by rw [hset_n (by decide)]; exact e19 y y0 y1) (fun y y0 y1 => ?_)⟩⟩
            by_cases e : y = x
            · rw [e, hset_s]; exact e19 x hx0 (by omega)
            · rw [hset_m e]; exact e20' y y0 (by omega)
        -- the digits
        have digs : ∀ (j : Nat) (g9 : HP), j ≤ C → kMo h g9 → g9 20 = g 20 → (∀ y : Nat, j ≤ y → y < C → g9 19 y = rwc B C 0 z0 code y) → V KM (d + 3) mX11_corn 105 [some (aR 0), some (aI n), some (aI i), some (aI ((B ^ C : Nat) : Int)), some (aI x4), some (aI (code : Nat)), some (aI ((code / B ^ (C - j) : Nat) : Int)), some (aI ((j : Int) - 1)), none] [] g9 (rI P) := by
          intro j
          induction j with
          | zero =>
            intro g9 hj k9 e20' e19
            have f2 : g9 2 = h 2 := k9 2 (by decide) (by decide) (by decide) (by decide) (by decide)
            have f5 : g9 5 = h 5 := k9 5 (by decide) (by decide) (by decide) (by decide) (by decide)
            have f8 : g9 8 = h 8 := k9 8 (by decide) (by decide) (by decide) (by decide) (by decide)
            have f9 : g9 9 = h 9 := k9 9 (by decide) (by decide) (by decide) (by decide) (by decide)
            have f13 : g9 13 = h 13 := k9 13 (by decide) (by decide) (by decide) (by decide) (by decide)
            have e19' : ∀ y, 0 ≤ y → y < h 8 0 → g9 19 y = rwc B C 0 z0 code y := fun y q0 q1 => by
              have := e19 y.toNat (by omega) (by omega)
              rwa [show ((y.toNat : Nat) : Int) = y by omega] at this
            refine v_X11_corn_105 n i _ x4 code _ _ g9 ⟨⟨by omega, by omega⟩, fun _ => ?_, fun z => absurd z (by omega)⟩
            refine m_lostByCorn (d := d) (by rw [kMo_bm k9]; exact hb) (kMo_cm k9 hz) (by rw [f5]; exact hr) (by rw [f2, f13]; exact hp) ⟨a, b⟩ (by rw [f8]; exact hC) (by rw [f8, f9]; exact hc) (by rw [f8, f2]; exact fun c q0 q1 => by rw [e19' c q0 q1]; exact digin code hlt c q0 q1) (fun g3 kg3 => ?_)
            rw [kMo_bm k9, f5, f8, f9, f13, show (h 8 0).toNat = C by omega, hmE]
            have hval : LCv (bm h) (h 5 1) (fun c => h 9 (2 * c)) (fun c => h 9 (2 * c + 1)) n m 0 0 0 (h 13) (g9 19) = lv (rwc B C 0 z0 code) := by
              rw [hlv]
              exact LC_ag hb m 0 0 0 _ _ _ _ (eqN_rf _ _) (fun x q0 q1 => by
                have e := e19' x q0 (by omega)
                exact ⟨by rw [e]; exact digin code hlt x q0 (by omega), e⟩)
            rw [hval]
            have k3 : kMo h g3 := fun a z1 z2 z3 z4 z5 => by rw [kg3 a z1 z2 z3]; exact k9 a z1 z2 z3 z4 z5
            have e319 : ∀ y, 0 ≤ y → y < h 8 0 → g3 19 y = rwc B C 0 z0 code y := fun y q0 q1 => by rw [kg3 19 (by decide) (by decide) (by decide)]; exact e19' y q0 q1
            have e320 : g3 20 = g 20 := (kg3 20 (by decide) (by decide) (by decide)).trans e20'
            cases hl : lv (rwc B C 0 z0 code) with
            | none =>
              have hst : stL lv (rwc B C 0 z0 code) s = s := by unfold stL; rw [hl]
              rw [Option.getD_none]
              exact ⟨by decide, fun _ => go _ _ x4 s g3 hst.symm k3 sr hx4 (by rw [e320]; exact e20), fun z => absurd z (by decide)⟩
            | some v =>
              have hv := lvin code hlt v hl
              rw [Option.getD_some]
              have take : v < s.1 → V KM (d + 3) mX11_corn 167 [some (aR 0), some (aI n), some (aI i), some (aI ((B ^ C : Nat) : Int)), some (aI x4), some (aI (code : Nat)), some (aI ((code / B ^ (C - 0) : Nat) : Int)), some (aI v), none] [] g3 (rI P) := fun z => v_X11_corn_167 n i _ x4 code _ v g3 (best _ v (by unfold stL; rw [hl]; dsimp only; rw [if_pos z]) hv (h 8 0).toNat 0 g3 (by omega) (by omega) k3 e319 (fun y q0 q1 => absurd q1 (by omega)))
              refine ⟨⟨by omega, by omega⟩, fun z => absurd z (by omega), fun _ => ?_⟩
              by_cases c : s.1 = 1000000
              · rw [if_pos c] at hx4
                rw [hx4] at take ⊢
                exact ⟨by decide, fun _ => take (by omega), fun z => absurd z (by decide)⟩
              · have hx4' := hx4
                rw [if_neg c] at hx4'
                refine ⟨hx4r, fun z => absurd z (by omega), fun _ => ⟨⟨⟨by omega, by omega⟩, hx4r⟩, fun z => ?_, fun z => take (by omega)⟩⟩
                have hst : stL lv (rwc B C 0 z0 code) s = s := by unfold stL; rw [hl]; dsimp only; rw [if_neg (by omega)]
                exact go _ _ x4 s g3 hst.symm k3 sr hx4 (by rw [e320]; exact e20)
          | succ j ihj =>
            intro g9 hj k9 e20' e19
            have f2 : g9 2 = h 2 := k9 2 (by decide) (by decide) (by decide) (by decide) (by decide)
            have hq0 : (0 : Int) ≤ ((code / B ^ (C - (j + 1)) : Nat) : Int) := Int.natCast_nonneg _
            have hq1 : code / B ^ (C - (j + 1)) ≤ code := Nat.div_le_self _ _
            have hq2 : ((code / B ^ (C - (j + 1)) : Nat) : Int) ≤ code := Int.ofNat_le.mpr hq1
            refine v_X11_corn_105 n i _ x4 code _ _ g9 ?_
            rw [f2, hBB, show ((j + 1 : Nat) : Int) - 1 = j by omega]
            refine ⟨⟨by omega, by omega⟩, fun z => absurd z (by omega), fun _ => ⟨by omega, ⟨hq0, ⟨by omega, by omega⟩, by omega, ⟨by omega, by omega⟩⟩, ⟨by omega, by omega⟩, by omega, ⟨hq0, ⟨by omega, by omega⟩, by omega, ⟨by omega, by omega⟩⟩, ?_⟩⟩
            have ed : code / B ^ (C - (j + 1)) / B = code / B ^ (C - j) := by
              rw [Nat.div_div_eq_div_mul, ← Nat.pow_succ, show (C - (j + 1)).succ = C - j by omega]
            rw [← Int.natCast_ediv, ed, ← Int.natCast_emod, show (j : Int) + (-1) = (j : Int) - 1 by omega]
            refine ihj _ (by omega) (fun a z1 z2 z3 z4 z5 => by rw [hset_n z4]; exact k9 a z1 z2 z3 z4 z5) (by rw [hset_n (by decide)]; exact e20') (fun y q0 q1 => ?_)
            by_cases e : y = j
            · rw [e, hset_s, dig code hlt j (by omega), show C - 1 - j = C - (j + 1) by omega]
            · rw [hset_m (by omega)]
              exact e19 y (by omega) q1
        refine v_X11_corn_85 n i _ x4 code g ⟨⟨⟨by omega, by omega⟩, ⟨by omega, by omega⟩⟩, fun z => absurd z (by omega), fun _ => ⟨by omega, ?_⟩⟩
        have := digs C g (Nat.le_refl _) kg rfl (fun y q0 q1 => absurd q1 (by omega))
        rw [g8, hCC]
        rwa [Nat.sub_self, Nat.pow_zero, Nat.div_one] at this
    -- how many codes
    have codes : ∀ (u c : Nat), c + u = C → V KM (d + 3) mX11_corn 52 [some (aR 0), some (aI n), some (aI i), some (aI ((B ^ c : Nat) : Int)), some (aI (c : Nat)), none, none, none, none] [] h (rI P) := by
      intro u
      induction u with
      | zero =>
        intro c hcu
        have hcC : c = C := by omega
        refine v_X11_corn_52 n i _ c h ⟨by omega, ⟨⟨by omega, by omega⟩, ⟨by omega, by omega⟩⟩, fun _ => ?_, fun z => absurd z (by omega)⟩
        rw [hcC]
        exact main (B ^ C) 0 (1000000, z0) h (-4) (by omega) (fun _ _ _ _ _ _ => rfl) rfl ⟨by show (0 : Int) ≤ 1000000; omega, by show (1000000 : Int) ≤ 1000000; omega⟩ (by rw [if_pos rfl]) (fun z => absurd rfl z)
      | succ u ihu =>
        intro c hcu
        refine v_X11_corn_52 n i _ c h ⟨by omega, ⟨⟨by omega, by omega⟩, ⟨by omega, by omega⟩⟩, fun z => absurd z (by omega), fun _ => ⟨by omega, ?_⟩⟩
        have := ihu (c + 1) (by omega)
        rw [hBB, ← Int.natCast_mul, ← Nat.pow_succ]
        exact this
    exact codes C 0 (by omega)
  · have hP := hP h rfl hz
    rw [if_pos ⟨⟨a, b⟩, a2, by omega⟩, if_pos z] at hP
    exact v_X11_corn_52 n i 0 0 h ⟨by omega, ⟨by decide, ⟨by omega, by omega⟩⟩, fun _ => v_X11_corn_85 n i 0 (-4) 0 h ⟨⟨by decide, by decide⟩, fun _ => ⟨by decide, fun _ => v_X11_corn_220 n i 0 (-4) 0 h hP, fun z => absurd z (by decide)⟩, fun z => absurd z (by decide)⟩, fun z => absurd z (by omega)⟩
