/-! the class: corn -/
abbrev kO (h g : HP) : Prop := ∀ a, a ≠ 26 → a ≠ 27 → a ≠ 46 → a ≠ 53 → a ≠ 54 → (a < 48 ∨ 52 < a) → g a = h a
theorem kO_bx {h g : HP} (k : kO h g) : bx g = bx h := by
  dsimp only [bx]
  rw [k 14 (by decide) (by decide) (by decide) (by decide) (by decide) (by decide), k 21 (by decide) (by decide) (by decide) (by decide) (by decide) (by decide), k 22 (by decide) (by decide) (by decide) (by decide) (by decide) (by decide), k 23 (by decide) (by decide) (by decide) (by decide) (by decide) (by decide), k 16 (by decide) (by decide) (by decide) (by decide) (by decide) (by decide)]
theorem kO_vx {h g : HP} (k : kO h g) : vx g = vx h := vx_eq (fun a ha => k a (by omega) (by omega) (by omega) (by omega) (by omega) (by omega))
theorem kO_cz {h g : HP} (k : kO h g) (hz : cz h) : cz g := cz_keep hz (k 25 (by decide) (by decide) (by decide) (by decide) (by decide) (by decide))
def OI (h : HP) (en cg : Int) (row : Int → Int) (s : SC) (c : Int) (g : HP) : Prop := kO h g ∧ g 46 5 = s.1 ∧ g 46 6 = cg ∧ g 46 7 = en ∧ (∀ x, 0 ≤ x → x < c → g 53 x = row x) ∧ (∀ x, cg ≤ x → x < h 14 11 → g 53 x = row x) ∧ (s.1 ≠ 1000000 → ∀ x, 0 ≤ x → x < h 14 11 → g 54 x = s.2 x) ∧ (0 ≤ s.1 ∧ s.1 ≤ 1000000)
theorem akd5 {c : Int} (h0 : 0 ≤ c) (h1 : c < 5) : akd KX (48 + c.toNat) 1 8 = true := by
  rcases (show c.toNat = 0 ∨ c.toNat = 1 ∨ c.toNat = 2 ∨ c.toNat = 3 ∨ c.toNat = 4 by omega) with e | e | e | e | e <;> rw [e] <;> decide
theorem x_goOn {d : Nat} {en cg : Int} {h : HP} (hb : wfB (bx h)) (hz : cz h) (hr : 0 ≤ h 14 4 ∧ h 14 4 ≤ 3) (hen : 1 ≤ en ∧ en ≤ 31) (hq : h 14 11 ≤ 4) (hcg : 0 ≤ cg ∧ cg ≤ h 14 11) (hc : ∀ c, 0 ≤ c → c < h 14 11 → (0 ≤ h 19 c ∧ h 19 c ≤ 30) ∧ (1 ≤ h 20 c ∧ h 20 c ≤ 60) ∧ ∀ c', c ≤ c' → c' < h 14 11 → h 19 c ≤ h 19 c') (hce : ∀ c, 0 ≤ c → c < cg → h 19 c < en) :
    ∀ (m : Nat) (c t lost : Int) (p row : Int → Int) (s : SC) (g : HP) (P : HP → Prop), c + m = cg → 0 ≤ c → 0 ≤ t → t ≤ en → (∀ x, c ≤ x → x < cg → t ≤ h 19 x) → 0 ≤ lost → lost ≤ 2400 * c → rowOK (h 14 2) p → eqN (h 14 2) (g (48 + c.toNat)) p → OI h en cg row s c g →
      (∀ g', OI h en cg row (KO (bx h) (h 14 4) (h 19) (h 20) en m c t lost p row s) c g' → (∀ a, 48 ≤ a → a < 48 + c.toNat → g' a = g a) → P g') → Ct KX (d + m + 3) mX4_goOn [aR 46, aI c, aI t, aI lost] g (rV P) := by
  have hn : 1 ≤ h 14 2 ∧ h 14 2 ≤ 8 := hb.1
  intro m
  induction m with
  | zero =>
    intro c t lost p row s g P hm hc0 ht0 ht1 htx hl0 hl1 hp e48 hI hP
    obtain ⟨k, s1, s2, s3, e53, e53b, e54, sr⟩ := hI
    have e14 : g 14 = h 14 := k 14 (by decide) (by decide) (by decide) (by decide) (by decide) (by decide)
    have hcc : c = cg := by omega
    refine e_X4_goOn c t lost g ?_
    rw [s2]
    refine ⟨⟨⟨by omega, by omega⟩, ⟨by omega, by omega⟩⟩, fun q => absurd q (by omega), fun _ => v_X4_goOn_13 c t lost 1 g ⟨by decide, fun q => absurd q (by decide), fun _ => ?_⟩⟩
    rw [s3]
    refine v_X4_goOn_36 c t lost 1 en g ⟨by omega, ?_⟩
    rw [e14, s1]
    refine c_run (d := d) (h := g) (c := 48 + c.toNat) (by rw [kO_bx k]; exact hb) hr ⟨ht0, by omega⟩ ⟨by omega, by omega⟩ ⟨by omega, by omega⟩ (akd5 hc0 (by omega)) (by omega) (by omega) (by rw [e14]; exact fun x q0 q1 => by rw [e48 x q0 q1]; exact hp x q0 q1) (by rw [e14]; exact cz_ct (h := g) (kO_cz k hz) (by rw [e14]; exact hb.2.1.2) |> fun z => by rw [e14] at z; exact z) (fun h' a1 a2 a3 => ?_)
    rw [kO_bx k, e14] at a3
    rw [kO_bx k]
    have e25 : eqN (bG (bx h)) (g 25) z0 := cz_eq (kO_cz k hz) hb.2.1.2
    have hL : lossN (bx h) (h 14 4) (g 25) (g (48 + c.toNat)) t (en - t).toNat = lossN (bx h) (h 14 4) z0 p t (en - t).toNat := lossN_ag (b := bx h) (b' := bx h) hb (agB_rf _) e48 e25 _
    have hin := lossN_in (r := h 14 4) (ct := z0) (t := t) hb hp (en - t).toNat
    have hv : tot (bx h) (g (48 + c.toNat)) - tot (bx h) (h' (48 + c.toNat)) = lossN (bx h) (h 14 4) z0 p t (en - t).toNat ∨ (s.1 - lost ≤ tot (bx h) (g (48 + c.toNat)) - tot (bx h) (h' (48 + c.toNat)) ∧ tot (bx h) (g (48 + c.toNat)) - tot (bx h) (h' (48 + c.toNat)) ≤ lossN (bx h) (h 14 4) z0 p t (en - t).toNat) := by
      rcases a3 with a3 | ⟨a3, a4⟩
      · left
        rw [← hL, tot_ag (b := bx h) (agB_rf _) a3]
        rfl
      · right
        rw [hL] at a4
        exact ⟨a3, a4⟩
    have f : ∀ a, a ≠ 48 + c.toNat → a ≠ 26 → a ≠ 27 → h' a = g a := a1
    have kk : kO h h' := fun a q1 q2 q3 q4 q5 q6 => by rw [f a (by omega) q1 q2]; exact k a q1 q2 q3 q4 q5 q6
    have f46 : h' 46 = g 46 := f 46 (by omega) (by decide) (by decide)
    have f53 : h' 53 = g 53 := f 53 (by omega) (by decide) (by decide)
    have f54 : h' 54 = g 54 := f 54 (by omega) (by decide) (by decide)
    generalize tot (bx h) (g (48 + c.toNat)) - tot (bx h) (h' (48 + c.toNat)) = v at hv ⊢
    rw [f46, s1]
    rw [KO] at hP
    refine ⟨⟨⟨by omega, by omega⟩, ⟨by omega, by omega⟩⟩, fun q => ⟨by decide, fun z => absurd z (by decide), fun _ => ⟨⟨rfl, rfl, rfl, by decide, by decide⟩, hP _ ?_ (fun a q0 q1 => ?_)⟩⟩, fun q => hP h' ?_ (fun a q0 q1 => f a (by omega) (by omega) (by omega))⟩
    · have hv2 : v = lossN (bx h) (h 14 4) z0 p t (en - t).toNat := by omega
      rw [if_pos (by omega), ← hv2]
      refine ⟨fun a q1 q2 q3 q4 q5 q6 => ?_, ?_, ?_, ?_, fun x q0 q1 => ?_, fun x q0 q1 => ?_, fun _ x q0 q1 => ?_, ⟨by show 0 ≤ lost + v; omega, by show lost + v ≤ 1000000; omega⟩⟩
      · rw [hcpy_n q5, hset_n q3]; exact kk a q1 q2 q3 q4 q5 q6
      · rw [hcpy_n (by decide), hset_s]
      · rw [hcpy_n (by decide), hset_m (by decide), f46]; exact s2
      · rw [hcpy_n (by decide), hset_m (by decide), f46]; exact s3
      · rw [hcpy_n (by decide), hset_n (by decide), f53]; exact e53 x q0 q1
      · rw [hcpy_n (by decide), hset_n (by decide), f53]; exact e53b x q0 q1
      · rw [hcpy_s q0 (by omega), hset_n (by decide), f53]
        show g 53 x = row x
        by_cases e : x < c
        · exact e53 x q0 e
        · exact e53b x (by omega) q1
    · rw [hcpy_n (by omega), hset_n (by omega)]
      exact f a (by omega) (by omega) (by omega)
    · rw [if_neg (by omega)]
      exact ⟨kk, by rw [f46]; exact s1, by rw [f46]; exact s2, by rw [f46]; exact s3, by rw [f53]; exact e53, by rw [f53]; exact e53b, by rw [f54]; exact e54, sr⟩
  | succ m ih =>
    intro c t lost p row s g P hm hc0 ht0 ht1 htx hl0 hl1 hp e48 hI hP
    obtain ⟨k, s1, s2, s3, e53, e53b, e54, sr⟩ := hI
    have e14 : g 14 = h 14 := k 14 (by decide) (by decide) (by decide) (by decide) (by decide) (by decide)
    have e19 : g 19 = h 19 := k 19 (by decide) (by decide) (by decide) (by decide) (by decide) (by decide)
    have hccN := hc c hc0 (by omega)
    have htc := htx c (by omega) (by omega)
    refine e_X4_goOn c t lost g ?_
    rw [s2]
    refine ⟨⟨⟨by omega, by omega⟩, ⟨by omega, by omega⟩⟩, fun _ => v_X4_goOn_13 c t lost 0 g ⟨by decide, fun _ => ⟨by omega, ?_⟩, fun q => absurd rfl q⟩, fun q => absurd q (by omega)⟩
    rw [e19]
    refine v_X4_goOn_36 c t lost 0 (h 19 c) g ⟨by omega, ?_⟩
    rw [e14, s1]
    refine c_run (d := d + m + 1) (h := g) (c := 48 + c.toNat) (by rw [kO_bx k]; exact hb) hr ⟨ht0, by omega⟩ ⟨by omega, by omega⟩ ⟨by omega, by omega⟩ (akd5 hc0 (by omega)) (by omega) (by omega) (by rw [e14]; exact fun x q0 q1 => by rw [e48 x q0 q1]; exact hp x q0 q1) (by rw [e14]; exact cz_ct (h := g) (kO_cz k hz) (by rw [e14]; exact hb.2.1.2) |> fun z => by rw [e14] at z; exact z) (fun h' a1 a2 a3 => ?_)
    rw [kO_bx k, e14] at a3
    rw [kO_bx k]
    have e25 : eqN (bG (bx h)) (g 25) z0 := cz_eq (kO_cz k hz) hb.2.1.2
    have hL : lossN (bx h) (h 14 4) (g 25) (g (48 + c.toNat)) t (h 19 c - t).toNat = lossN (bx h) (h 14 4) z0 p t (h 19 c - t).toNat := lossN_ag (b := bx h) (b' := bx h) hb (agB_rf _) e48 e25 _
    have hin := lossN_in (r := h 14 4) (ct := z0) (t := t) hb hp (h 19 c - t).toNat
    have hN := NN_ok (rats := h 14 4) (t := t) (ct := z0) hb hp (h 19 c - t).toNat
    have hv : (tot (bx h) (g (48 + c.toNat)) - tot (bx h) (h' (48 + c.toNat)) = lossN (bx h) (h 14 4) z0 p t (h 19 c - t).toNat ∧ eqN (h 14 2) (h' (48 + c.toNat)) (NN (bx h) (h 14 4) z0 p t (h 19 c - t).toNat)) ∨ (s.1 - lost ≤ tot (bx h) (g (48 + c.toNat)) - tot (bx h) (h' (48 + c.toNat)) ∧ tot (bx h) (g (48 + c.toNat)) - tot (bx h) (h' (48 + c.toNat)) ≤ lossN (bx h) (h 14 4) z0 p t (h 19 c - t).toNat) := by
      rcases a3 with a3 | ⟨a3, a4⟩
      · left
        refine ⟨?_, fun x q0 q1 => (a3 x q0 q1).trans (NN_ag (b := bx h) (b' := bx h) hb (agB_rf _) e48 e25 _ x q0 q1)⟩
        rw [← hL, tot_ag (b := bx h) (agB_rf _) a3]
        rfl
      · right
        rw [hL] at a4
        exact ⟨a3, a4⟩
    have f : ∀ a, a ≠ 48 + c.toNat → a ≠ 26 → a ≠ 27 → h' a = g a := a1
    have kk : kO h h' := fun a q1 q2 q3 q4 q5 q6 => by rw [f a (by omega) q1 q2]; exact k a q1 q2 q3 q4 q5 q6
    have f46 : h' 46 = g 46 := f 46 (by omega) (by decide) (by decide)
    have f53 : h' 53 = g 53 := f 53 (by omega) (by decide) (by decide)
    have f54 : h' 54 = g 54 := f 54 (by omega) (by decide) (by decide)
    have hI' : OI h en cg row s c h' := ⟨kk, by rw [f46]; exact s1, by rw [f46]; exact s2, by rw [f46]; exact s3, by rw [f53]; exact e53, by rw [f53]; exact e53b, by rw [f54]; exact e54, sr⟩
    generalize tot (bx h) (g (48 + c.toNat)) - tot (bx h) (h' (48 + c.toNat)) = v at hv ⊢
    rw [f46, s1]
    rw [KO] at hP
    have hcP : ∀ x, 0 ≤ x → x < h 14 11 → 0 ≤ h 20 x := fun x q0 q1 => by have := (hc x q0 q1).2.1; omega
    refine ⟨⟨⟨by omega, by omega⟩, ⟨by omega, by omega⟩⟩, fun q => ⟨by decide, fun _ => ?_, fun z => absurd rfl z⟩, fun q => hP h' ?_ (fun a q0 q1 => f a (by omega) (by omega) (by omega))⟩
    · have hv2 : v = lossN (bx h) (h 14 4) z0 p t (h 19 c - t).toNat ∧ eqN (h 14 2) (h' (48 + c.toNat)) (NN (bx h) (h 14 4) z0 p t (h 19 c - t).toNat) := by
        rcases hv with hv | hv
        · exact hv
        · omega
      obtain ⟨hv2, hN2⟩ := hv2
      rw [hv2]
      have fr : ∀ a, 48 ≤ a → a < 48 + c.toNat → h' a = g a := fun a q0 q1 => f a (by omega) (by omega) (by omega)
      have h16 : bn (bx h) = h 14 2 := rfl
      generalize hFF : (fun x s => if NN (bx h) (h 14 4) z0 p t (h 19 c - t).toNat x + h 20 c ≤ 199 then KO (bx h) (h 14 4) (h 19) (h 20) en m (c + 1) (h 19 c) (lost + lossN (bx h) (h 14 4) z0 p t (h 19 c - t).toNat) (udf (NN (bx h) (h 14 4) z0 p t (h 19 c - t).toNat) x (NN (bx h) (h 14 4) z0 p t (h 19 c - t).toNat x + h 20 c)) (udf row c x) s else s : Int → SC → SC) = FF at hP
      rw [h16] at hP
      have loop : ∀ (j : Nat) (x : Int) (s9 : SC) (g9 : HP), 0 ≤ x → x + j = h 14 2 → OI h en cg row s9 c g9 → eqN (h 14 2) (g9 (48 + c.toNat)) (NN (bx h) (h 14 4) z0 p t (h 19 c - t).toNat) → (∀ a, 48 ≤ a → a < 48 + c.toNat → g9 a = g a) → fbin FF j x s9 = fbin FF (h 14 2).toNat 0 s → V KX (d + (m + 1) + 3) mX4_goOn 112 [some (aR 46), some (aI c), some (aI t), some (aI lost), some (aI 0), some (aI (h 19 c)), some (aI (lost + lossN (bx h) (h 14 4) z0 p t (h 19 c - t).toNat)), some (aI x)] [] g9 (rV P) := by
        intro j
        induction j with
        | zero =>
          intro x s9 g9 hx0 hx hI9 e9 fr9 hR
          have n14 : g9 14 = h 14 := hI9.1 14 (by decide) (by decide) (by decide) (by decide) (by decide) (by decide)
          refine v_X4_goOn_112 c t lost 0 (h 19 c) _ x g9 ?_
          rw [n14]
          refine ⟨⟨⟨by omega, by omega⟩, ⟨by omega, by omega⟩⟩, fun _ => hP g9 ?_ fr9, fun z => absurd z (by omega)⟩
          rw [← hR]
          exact hI9
        | succ j ihj =>
          intro x s9 g9 hx0 hx hI9 e9 fr9 hR
          have n14 : g9 14 = h 14 := hI9.1 14 (by decide) (by decide) (by decide) (by decide) (by decide) (by decide)
          have n20 : g9 20 = h 20 := hI9.1 20 (by decide) (by decide) (by decide) (by decide) (by decide) (by decide)
          have hNx := hN x hx0 (by show x < h 14 2; omega)
          have ex := e9 x hx0 (by omega)
          rw [fbin, ← hFF] at hR
          dsimp only at hR
          rw [hFF] at hR
          refine v_X4_goOn_112 c t lost 0 (h 19 c) _ x g9 ?_
          rw [n14, n20, ex]
          refine ⟨⟨⟨by omega, by omega⟩, ⟨by omega, by omega⟩⟩, fun z => absurd z (by omega), fun _ => ⟨by omega, ⟨akd5 hc0 (by omega), by omega, by omega⟩, by omega, ⟨⟨by omega, by omega⟩, by decide⟩, fun z => v_X4_goOn_208 c t lost 0 (h 19 c) _ x g9 (ihj (x + 1) s9 g9 (by omega) (by omega) hI9 e9 fr9 ?_), fun z => ⟨by omega, by omega, by omega, c_copyBins (akd5 hc0 (by omega)) (akd5 (by omega) (by omega)) ⟨by omega, ⟨akd5 (by omega) (by omega), by omega, by omega⟩, by omega, ⟨akd5 (by omega) (by omega), by omega, by omega⟩, ?_⟩⟩⟩⟩
          · rw [if_neg (by omega)] at hR
            exact hR
          · rw [if_pos z] at hR
            obtain ⟨k9, u1, u2, u3, c53, c53b, c54, sr9⟩ := hI9
            have ne : 48 + (c + 1).toNat ≠ 48 + c.toNat := by omega
            have y20 : (hcpy (hset g9 53 c x) (48 + c.toNat) (48 + (c + 1).toNat) 8) 20 = h 20 := by rw [hcpy_n (by omega), hset_n (by decide)]; exact n20
            have yc : ∀ y, 0 ≤ y → y < h 14 2 → (hcpy (hset g9 53 c x) (48 + c.toNat) (48 + (c + 1).toNat) 8) (48 + (c + 1).toNat) y = NN (bx h) (h 14 4) z0 p t (h 19 c - t).toNat y := fun y q0 q1 => by rw [hcpy_s q0 (by omega), hset_n (by omega)]; exact e9 y q0 q1
            have yo : ∀ a, a ≠ 48 + (c + 1).toNat → a ≠ 53 → (hcpy (hset g9 53 c x) (48 + c.toNat) (48 + (c + 1).toNat) 8) a = g9 a := fun a q1 q2 => by rw [hcpy_n q1, hset_n q2]
            have y53 : (hcpy (hset g9 53 c x) (48 + c.toNat) (48 + (c + 1).toNat) 8) 53 = (hset g9 53 c x) 53 := hcpy_n (by omega)
            generalize hcpy (hset g9 53 c x) (48 + c.toNat) (48 + (c + 1).toNat) 8 = gy at y20 yc yo y53
            rw [y20, yc x hx0 (by omega)]
            have zo : ∀ a, a ≠ 48 + (c + 1).toNat → (hset gy (48 + (c + 1).toNat) x (NN (bx h) (h 14 4) z0 p t (h 19 c - t).toNat x + h 20 c)) a = gy a := fun a q1 => hset_n q1
            refine Ct_V (ih (c + 1) (h 19 c) (lost + lossN (bx h) (h 14 4) z0 p t (h 19 c - t).toNat) (udf (NN (bx h) (h 14 4) z0 p t (h 19 c - t).toNat) x (NN (bx h) (h 14 4) z0 p t (h 19 c - t).toNat x + h 20 c)) (udf row c x) s9 _ (fun h2 => V KX (d + (m + 1) + 3) mX4_goOn 208 [some (aR 46), some (aI c), some (aI t), some (aI lost), some (aI 0), some (aI (h 19 c)), some (aI (lost + lossN (bx h) (h 14 4) z0 p t (h 19 c - t).toNat)), some (aI x)] [] h2 (rV P)) (by omega) (by omega) (by omega) (by have := hce c hc0 (by omega); omega) (fun y q0 q1 => hccN.2.2 y (by omega) (by omega)) (by omega) (by omega) (udf_ok hN ⟨by omega, by omega⟩) (fun y q0 q1 => ?_) ⟨fun a q1 q2 q3 q4 q5 q6 => ?_, ?_, ?_, ?_, fun y q0 q1 => ?_, fun y q0 q1 => ?_, fun w y q0 q1 => ?_, sr9⟩ (fun g2 hI2 fr2 => v_X4_goOn_208 c t lost 0 (h 19 c) _ x g2 (ihj (x + 1) _ g2 (by omega) (by omega) ?_ ?_ (fun a q0 q1 => ?_) hR))) (by omega) (fun _ z => z)
            · unfold udf
              by_cases e : y = x
              · rw [e, hset_s, if_pos rfl]
              · rw [hset_m e, if_neg e]; exact yc y q0 q1
            · rw [zo a (by omega), yo a (by omega) q4]; exact k9 a q1 q2 q3 q4 q5 q6
            · rw [zo 46 (by omega), yo 46 (by omega) (by decide)]; exact u1
            · rw [zo 46 (by omega), yo 46 (by omega) (by decide)]; exact u2
            · rw [zo 46 (by omega), yo 46 (by omega) (by decide)]; exact u3
            · rw [zo 53 (by omega), y53]
              unfold udf
              by_cases e : y = c
              · rw [e, hset_s, if_pos rfl]
              · rw [hset_m e, if_neg e]; exact c53 y q0 (by omega)
            · rw [zo 53 (by omega), y53]
              unfold udf
              rw [hset_m (by omega), if_neg (by omega)]
              exact c53b y q0 q1
            · rw [zo 54 (by omega), yo 54 (by omega) (by decide)]; exact c54 w y q0 q1
            · obtain ⟨k2, w1, w2, w3, d53, d53b, d54, sr2⟩ := hI2
              refine ⟨k2, w1, w2, w3, fun y q0 q1 => ?_, fun y q0 q1 => ?_, d54, sr2⟩
              · rw [d53 y q0 (by omega)]
                unfold udf
                rw [if_neg (by omega)]
              · rw [d53b y q0 q1]
                unfold udf
                rw [if_neg (by omega)]
            · rw [fr2 (48 + c.toNat) (by omega) (by omega), zo _ (by omega), yo _ (by omega) (by omega)]
              exact e9
            · rw [fr2 a q0 (by omega), zo a (by omega), yo a (by omega) (by omega)]
              exact fr9 a q0 q1
      exact loop (h 14 2).toNat 0 s h' (by omega) (by omega) hI' hN2 fr rfl
    · rw [fbin_fix (n := h 14 2) (fun x q0 q1 => ?_) _ _ (by omega) (by show 0 + ((h 14 2).toNat : Int) ≤ h 14 2; omega)]
      · exact hI'
      · split
        · have hNx := hN x q0 q1
          exact KO_cut hb hcP m (c + 1) _ _ _ _ s (by omega) (by omega) (udf_ok hN ⟨by omega, by omega⟩) (by omega)
        · rfl
