/-! the model: moves -/
theorem m_moves {d : Nat} {P : Int → HP → Prop} {N w : Int} {h : HP} (hW : WV N (vm h)) (hN : N ≤ 1000) (hz : cm h) (hw : iR w) (hP : ∀ h', AgV (vm h') (vm h) → cm h' → P (sp_moves (vm h) w) h') : Ct KM (d + 4) mX11_moves [aR 0, aI w] h (rI P) := by
  obtain ⟨b1, b2, b3, b4, b5, b6, b7, b8, -⟩ := id hW
  unfold sp_moves at hP
  dsimp only [qb, qr, qp, qt, vm] at hP b4 b8 b7 b3
  have hn : 1 ≤ h 2 0 ∧ h 2 0 ≤ 8 := b3.1
  have hb : wfB (bm h) := b3
  have ht : 0 ≤ h 0 17 ∧ h 0 17 ≤ 900000 := ⟨b8.1, by omega⟩
  refine e_X11_moves w h ⟨hw, c_inI hw (by decide) (by decide) (fun a b => bT' ?_) (fun a => bF' ?_)⟩
  · -- back to what was there
    have back : ∀ (m : Nat) (x v st tu : Int) (g : HP), 0 ≤ x → x + m = 8 → kN h g → (∀ y, 0 ≤ y → y < 8 → g 20 y = h 13 y) → (∀ y, 0 ≤ y → y < x → g 13 y = h 13 y) → g 0 27 = (ST (bm h) (h 5 1) (h 0 17) 82 (h 13) 0 0 0).2 → (0 ≤ g 0 27 ∧ g 0 27 ≤ 40) → (0 < w → v = los (bm h) (h 5 1) (h 0 17) (w - 1) (ST (bm h) (h 5 1) (h 0 17) 82 (h 13) 0 0 0).1) → V KM (d + 4) mX11_moves 131 [some (aR 0), some (aI w), some (aI st), some (aI tu), some (aI v), some (aI x)] [] g (rI P) := by
      intro m
      induction m with
      | zero =>
        intro x v st tu g hx hm kg e20 e13 e27 r27 hv
        have hP := hP g (kN_ag kg hW (fun y q0 q1 => e13 y q0 (by omega))) (kN_cm kg hz)
        rw [if_pos ⟨a, b⟩] at hP
        refine v_X11_moves_131 w st tu v x g ⟨⟨⟨by omega, by omega⟩, by decide⟩, fun _ => ⟨hw, fun q => ⟨⟨⟨by omega, by omega⟩, by decide⟩, fun q2 => ?_, fun q2 => ?_⟩, fun q => ?_⟩, fun q => absurd q (by omega)⟩
        · rw [if_neg (by omega), ← e27, if_neg q2] at hP; exact hP
        · rw [if_neg (by omega), ← e27, if_pos q2] at hP; exact hP
        · rw [if_pos q, ← hv q] at hP; exact hP
      | succ m ih =>
        intro x v st tu g hx hm kg e20 e13 e27 r27 hv
        refine v_X11_moves_131 w st tu v x g ⟨⟨⟨by omega, by omega⟩, by decide⟩, fun q => absurd q (by omega), fun _ => ⟨by omega, by omega, ih (x + 1) v st tu _ (by omega) (by omega) ⟨fun a q1 q2 q3 q4 q5 q6 => ?_, fun y q => ?_⟩ (fun y q0 q1 => ?_) (fun y q0 q1 => ?_) ?_ ?_ hv⟩⟩
        · rw [hset_n q2]; exact kg.1 a q1 q2 q3 q4 q5 q6
        · rw [hset_n (by decide)]; exact kg.2 y q
        · rw [hset_n (by decide)]; exact e20 y q0 q1
        · by_cases e : y = x
          · subst e
            rw [hset_s]; exact e20 y q0 (by omega)
          · rw [hset_m e]; exact e13 y q0 (by omega)
        · rw [hset_n (by decide)]; exact e27
        · rw [hset_n (by decide)]; exact r27
    have fini : ∀ (st tu : Int) (g : HP), kN h g → (∀ y, 0 ≤ y → y < 8 → g 20 y = h 13 y) → g 0 27 = (ST (bm h) (h 5 1) (h 0 17) 82 (h 13) 0 0 0).2 → (0 ≤ g 0 27 ∧ g 0 27 ≤ 40) → eqN (h 2 0) (g 13) (ST (bm h) (h 5 1) (h 0 17) 82 (h 13) 0 0 0).1 → rowOK (h 2 0) (ST (bm h) (h 5 1) (h 0 17) 82 (h 13) 0 0 0).1 → V KM (d + 4) mX11_moves 109 [some (aR 0), some (aI w), some (aI st), some (aI tu), none, none] [] g (rI P) := by
      intro st tu g kg e20 e27 r27 e13 hrow
      refine v_X11_moves_109 w st tu g ⟨hw, fun q => ?_, fun q => v_X11_moves_126 w st tu 0 g (back 8 0 0 st tu g (by omega) (by omega) kg e20 (fun y q0 q1 => absurd q1 (by omega)) e27 r27 (fun z => absurd z (by omega)))⟩
      refine m_lostBy (d := d + 1) (h := h) hb hz b4 ht (by omega) kg e13 hrow ⟨by omega, by omega⟩ ⟨by omega, by omega⟩ (fun g' a1 a2 a3 a4 => v_X11_moves_126 w st tu _ g' (back 8 0 _ st tu g' (by omega) (by omega) a1 (fun y q0 q1 => by rw [a3]; exact e20 y q0 q1) (fun y q0 q1 => absurd q1 (by omega)) (by rw [a4]; exact e27) (by rw [a4]; exact r27) (fun _ => by rw [swp_id])))
    have key : ∀ (f : Nat) (p : Int → Int) (dn st tu u : Int) (g : HP), u + f = 82 → 0 ≤ u → (tu = 0 ∨ tu = 1) → 0 ≤ dn → dn ≤ 40 → 0 ≤ st → st ≤ 2 → u ≤ 2 * dn + st → kN h g → (∀ y, 0 ≤ y → y < 8 → g 20 y = h 13 y) → g 0 27 = dn → eqN (h 2 0) (g 13) p → rowOK (h 2 0) p → ST (bm h) (h 5 1) (h 0 17) f p dn st tu = ST (bm h) (h 5 1) (h 0 17) 82 (h 13) 0 0 0 → V KM (d + 4) mX11_moves 49 [some (aR 0), some (aI w), some (aI st), some (aI tu), none, none] [] g (rI P) := by
      intro f
      induction f with
      | zero =>
        intro p dn st tu u g hf hu htu hd0 hd1 hs0 hs1 hud kg e20 e27 e13 hrow hR
        have fin0 : V KM (d + 4) mX11_moves 109 [some (aR 0), some (aI w), some (aI st), some (aI tu), none, none] [] g (rI P) := fini st tu g kg e20 (by rw [← hR]; exact e27) (by omega) (by rw [← hR]; exact e13) (by rw [← hR]; exact hrow)
        exact v_X11_moves_49 w st tu g ⟨⟨⟨by omega, by omega⟩, by decide⟩, fun _ => fin0, fun q => ⟨⟨⟨by omega, by omega⟩, by decide⟩, fun _ => fin0, fun q2 => absurd q2 (by omega)⟩⟩
      | succ f ih =>
        intro p dn st tu u g hf hu htu hd0 hd1 hs0 hs1 hud kg e20 e27 e13 hrow hR
        have stop : ¬ (st < 2 ∧ dn < 40) → V KM (d + 4) mX11_moves 109 [some (aR 0), some (aI w), some (aI st), some (aI tu), none, none] [] g (rI P) := fun z => by
          rw [ST, if_neg z] at hR
          exact fini st tu g kg e20 (by rw [← hR]; exact e27) (by omega) (by rw [← hR]; exact e13) (by rw [← hR]; exact hrow)
        refine v_X11_moves_49 w st tu g ⟨⟨⟨by omega, by omega⟩, by decide⟩, fun q => stop (by omega), fun q => ⟨⟨⟨by omega, by omega⟩, by decide⟩, fun q2 => stop (by omega), fun q2 => ?_⟩⟩
        rw [ST, if_pos ⟨q, by omega⟩] at hR
        have hmb : S3ok (h 2 0) (MB (bm h) (h 5 1) (h 0 17) tu p) := MB_ok (r := h 5 1) (t := h 0 17) (o := tu) (p := p) hb
        refine m_isMove (h := h) (p := p) hb hz b4 ht htu kg e13 hrow (fun c g' a1 a2 a3 a4 => bT ?_) (fun c g' a1 a2 a3 a4 => bF ?_)
        · rw [if_pos c] at hR
          rw [a2, e27]
          refine v_X11_moves_85 w st tu 1 1 dn g' ⟨by decide, fun q => absurd q (by decide), fun _ => v_X11_moves_101 w st tu 1 0 _ (ih _ (dn + 1) 0 (1 - tu) (u + 1) _ (by omega) (by omega) (by omega) (by omega) (by omega) (by omega) (by omega) (by omega) ⟨fun a q1 q2 q3 q4 q5 q6 => ?_, fun y q => ?_⟩ (fun y q0 q1 => ?_) hset_s ?_ (swp_ok hrow ⟨by omega, by omega⟩ ⟨by omega, by omega⟩) hR)⟩
          · rw [hset_n q1]; exact a1.1 a q1 q2 q3 q4 q5 q6
          · rw [hset_m q]; exact a1.2 y q
          · rw [hset_n (by decide), a3]; exact e20 y q0 q1
          · rw [hset_n (by decide)]; exact a4
        · rw [if_neg c] at hR
          rw [a2, e27]
          refine v_X11_moves_85 w st tu 0 0 dn g' ⟨by decide, fun _ => v_X11_moves_101 w st tu 0 (st + 1) _ (ih p dn (st + 1) (1 - tu) (u + 1) _ (by omega) (by omega) (by omega) (by omega) (by omega) (by omega) (by omega) (by omega) ⟨fun a q1 q2 q3 q4 q5 q6 => ?_, fun y q => ?_⟩ (fun y q0 q1 => ?_) (by rw [hset_s]; omega) ?_ hrow hR), fun q => absurd rfl q⟩
          · rw [hset_n q1]; exact a1.1 a q1 q2 q3 q4 q5 q6
          · rw [hset_m q]; exact a1.2 y q
          · rw [hset_n (by decide), a3]; exact e20 y q0 q1
          · rw [hset_n (by decide)]; exact a4
    have copy : ∀ (m : Nat) (x : Int) (g : HP), 0 ≤ x → x + m = 8 → (∀ a, a ≠ 20 → g a = h a) → (∀ y, 0 ≤ y → y < x → g 20 y = h 13 y) → V KM (d + 4) mX11_moves 16 [some (aR 0), some (aI w), some (aI x), none, none, none] [] g (rI P) := by
      intro m
      induction m with
      | zero =>
        intro x g hx hm k20 e20
        refine v_X11_moves_16 w x g ⟨⟨⟨by omega, by omega⟩, by decide⟩, fun _ => key 82 (h 13) 0 0 0 0 _ (by omega) (by omega) (by omega) (by omega) (by omega) (by omega) (by omega) (by omega) ⟨fun a q1 q2 q3 q4 q5 q6 => ?_, fun y q => ?_⟩ (fun y q0 q1 => ?_) hset_s ?_ (r199_ok b7) rfl, fun q => absurd q (by omega)⟩
        · rw [hset_n q1]; exact k20 a q6
        · rw [hset_m q, k20 0 (by decide)]
        · rw [hset_n (by decide)]; exact e20 y q0 (by omega)
        · rw [hset_n (by decide), k20 13 (by decide)]; exact eqN_rf _ _
      | succ m ih =>
        intro x g hx hm k20 e20
        refine v_X11_moves_16 w x g ⟨⟨⟨by omega, by omega⟩, by decide⟩, fun q => absurd q (by omega), fun _ => ⟨by omega, by omega, ih (x + 1) _ (by omega) (by omega) (fun a q => ?_) (fun y q0 q1 => ?_)⟩⟩
        · rw [hset_n q]; exact k20 a q
        · by_cases e : y = x
          · subst e
            rw [hset_s, k20 13 (by decide)]
          · rw [hset_m e]; exact e20 y q0 (by omega)
    exact copy 8 0 h (by omega) (by omega) (fun _ _ => rfl) (fun y q0 q1 => absurd q1 (by omega))
  · have := hP h (AgV_rf _) hz
    rw [if_neg (by omega)] at this
    exact this
