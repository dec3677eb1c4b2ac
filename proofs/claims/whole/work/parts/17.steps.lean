/-! CALLS THAT CHANGE WHAT IS HELD: write, wipe, night, pour, keep, back -/
theorem agB_sy {b b' : BB} (h : agB b b') : agB b' b := by
  obtain ⟨a1, a2, a3, a4, a5⟩ := h
  refine ⟨a1.symm, a2.symm, a3.symm, fun k h0 h1 => ?_, fun x h0 h1 => ?_⟩
  · obtain ⟨q1, q2, q3⟩ := a4 k h0 (by rw [a2]; exact h1)
    exact ⟨q1.symm, q2.symm, q3.symm⟩
  · exact (a5 x h0 (by rw [a1]; exact h1)).symm
theorem agB_tr {b b' b'' : BB} (h : agB b b') (g : agB b' b'') : agB b b'' := by
  obtain ⟨a1, a2, a3, a4, a5⟩ := h
  obtain ⟨c1, c2, c3, c4, c5⟩ := g
  refine ⟨a1.trans c1, a2.trans c2, a3.trans c3, fun k h0 h1 => ?_, fun x h0 h1 => ?_⟩
  · obtain ⟨q1, q2, q3⟩ := a4 k h0 h1
    obtain ⟨p1, p2, p3⟩ := c4 k h0 (by rw [← a2]; exact h1)
    exact ⟨q1.trans p1, q2.trans p2, q3.trans p3⟩
  · exact (a5 x h0 h1).trans (c5 x h0 (by rw [← a1]; exact h1))
theorem AgV_rf (l : LV) : AgV l l := ⟨rfl, fun _ _ _ => rfl, agB_rf _, rfl, rfl, rfl, fun _ _ _ => ⟨rfl, rfl⟩, eqN_rf _ _, rfl, rfl, fun _ => ⟨eqN_rf _ _, rfl⟩, fun _ => ⟨eqN_rf _ _, rfl⟩⟩
theorem AgV_of {l l' : LV} (h : l = l') : AgV l l' := h ▸ AgV_rf l
theorem AgV_sy {l l' : LV} (h : AgV l l') : AgV l' l := by
  obtain ⟨a1, a2, a3, a4, a5, a6, a7, a8, a9, a10, a11, a12⟩ := h
  have en := a3.1
  refine ⟨a1.symm, fun i h0 h1 => (a2 i h0 h1).symm, agB_sy a3, a4.symm, a5.symm, a6.symm, fun c h0 h1 => ?_, fun x h0 h1 => (a8 x h0 (by rw [en]; exact h1)).symm, a9.symm, a10.symm, fun h => ?_, fun h => ?_⟩
  · obtain ⟨q1, q2⟩ := a7 c h0 (by rw [a6]; exact h1)
    exact ⟨q1.symm, q2.symm⟩
  · obtain ⟨q1, q2⟩ := a11 (by rw [a10]; exact h)
    exact ⟨fun x h0 h1 => (q1 x h0 (by rw [en]; exact h1)).symm, q2.symm⟩
  · obtain ⟨q1, q2⟩ := a12 (by rw [a10]; exact h)
    exact ⟨fun x h0 h1 => (q1 x h0 (by rw [en]; exact h1)).symm, q2.symm⟩
theorem AgV_tr {l l' l'' : LV} (h : AgV l l') (g : AgV l' l'') : AgV l l'' := by
  obtain ⟨a1, a2, a3, a4, a5, a6, a7, a8, a9, a10, a11, a12⟩ := h
  obtain ⟨c1, c2, c3, c4, c5, c6, c7, c8, c9, c10, c11, c12⟩ := g
  have en := a3.1
  refine ⟨a1.trans c1, fun i h0 h1 => (a2 i h0 h1).trans (c2 i h0 h1), agB_tr a3 c3, a4.trans c4, a5.trans c5, a6.trans c6, fun c h0 h1 => ?_, fun x h0 h1 => (a8 x h0 h1).trans (c8 x h0 (by rw [← en]; exact h1)), a9.trans c9, a10.trans c10, fun h => ?_, fun h => ?_⟩
  · obtain ⟨q1, q2⟩ := a7 c h0 h1
    obtain ⟨p1, p2⟩ := c7 c h0 (by rw [← a6]; exact h1)
    exact ⟨q1.trans p1, q2.trans p2⟩
  · obtain ⟨q1, q2⟩ := a11 h
    obtain ⟨p1, p2⟩ := c11 (by rw [← a10]; exact h)
    exact ⟨fun x h0 h1 => (q1 x h0 h1).trans (p1 x h0 (by rw [← en]; exact h1)), q2.trans p2⟩
  · obtain ⟨q1, q2⟩ := a12 h
    obtain ⟨p1, p2⟩ := c12 (by rw [← a10]; exact h)
    exact ⟨fun x h0 h1 => (q1 x h0 h1).trans (p1 x h0 (by rw [← en]; exact h1)), q2.trans p2⟩
/-! night -/
def sp_night (l : LV) : Int := lossN (qb l) (qr l) z0 (qp l) (qt l) 1
def sn_night (l : LV) : LV := (qlen l, qtx l, qb l, qr l, qw l, qc l, qcN l, qcP l, NN (qb l) (qr l) z0 (qp l) (qt l) 1, qt l + 1, qk l, qk0 l, qk1 l, qt0 l, qt1 l)
theorem night_ag {N : Int} {l l' : LV} (ha : AgV l l') (hw : WV N l') : sp_night l = sp_night l' ∧ AgV (sn_night l) (sn_night l') := by
  have hb := (AgV_W ha hw).2.2.1
  obtain ⟨a1, a2, a3, a4, a5, a6, a7, a8, a9, a10, a11, a12⟩ := ha
  refine ⟨?_, a1, a2, a3, a4, a5, a6, a7, ?_, ?_, a10, a11, a12⟩
  · unfold sp_night
    rw [lossN_ag (ct' := z0) hb a3 a8 (eqN_rf _ _), a4, a9]
  · show eqN (bn (qb l)) (NN (qb l) (qr l) z0 (qp l) (qt l) 1) (NN (qb l') (qr l') z0 (qp l') (qt l') 1)
    rw [← a4, ← a9]
    exact NN_ag hb a3 a8 (eqN_rf _ _) 1
  · show qt l + 1 = qt l' + 1
    rw [a9]
theorem night_W {N : Int} {l : LV} (hw : WV N l) : WV (N + 1) (sn_night l) := by
  obtain ⟨b1, b2, b3, b4, b5, b6, b8, b9, b10, b11, b12⟩ := hw
  refine ⟨b1, b2, b3, b4, b5, b6, fun x h0 h1 => ?_, ⟨by show 0 ≤ qt l + 1; omega, by show qt l + 1 ≤ N + 1; omega⟩, b10, fun q => ⟨(b11 q).1, (b11 q).2.1, by have := (b11 q).2.2; show qt0 l ≤ N + 1; omega⟩, fun q => ⟨(b12 q).1, (b12 q).2.1, by have := (b12 q).2.2; show qt1 l ≤ N + 1; omega⟩⟩
  have h2 := b8 x h0 h1
  have h3 := ngt_in (rats := qr l) (t := qt l + (0 : Nat)) (ct := z0) (p := qp l) (x := x) b3 h2.1
  show 0 ≤ ngt (qb l) (qr l) (qt l + (0 : Nat)) z0 (qp l) x ∧ ngt (qb l) (qr l) (qt l + (0 : Nat)) z0 (qp l) x ≤ 199
  omega
theorem x_night {d : Nat} {P : Int → HP → Prop} {N : Int} {h : HP} (hW : WV N (vx h)) (hN : N ≤ 1000) (hz : cz h) (hP : ∀ h', AgV (vx h') (sn_night (vx h)) → cz h' → P (sp_night (vx h)) h') : Ct KX (d + 3) mX10_night [aR 0] h (rI P) := by
  obtain ⟨b1, b2, b3, b4, b5, b6, b7, b8, -⟩ := hW
  dsimp only [qb, qr, qp, qt, vx] at b4 b8 b7
  refine e_X10_night h (x_run (c := 28) b3 hz b4 ⟨b8.1, by omega⟩ (by decide) (by decide) (by decide) (by decide) (r199_ok b7) (fun h' a1 a2 a3 => hP _ ?_ ?_))
  · have e : ∀ a, a ≠ 0 → a ≠ 28 → a ≠ 26 → a ≠ 27 → (hset h' 0 7 (h' 0 7 + 1)) a = h a := fun a q1 q2 q3 q4 => by rw [hset_n q1]; exact a1 a q2 q3 q4
    have e0 : h' 0 = h 0 := a1 0 (by decide) (by decide) (by decide)
    have f0 : ∀ i, i ≠ 7 → (hset h' 0 7 (h' 0 7 + 1)) 0 i = h 0 i := fun i q => by rw [hset_m q, e0]
    have e28 : (hset h' 0 7 (h' 0 7 + 1)) 28 = h' 28 := by rw [hset_n (by decide)]
    have eb : bx (hset h' 0 7 (h' 0 7 + 1)) = bx h := by
      dsimp only [bx]
      rw [e 14 (by decide) (by decide) (by decide) (by decide), e 21 (by decide) (by decide) (by decide) (by decide), e 22 (by decide) (by decide) (by decide) (by decide), e 23 (by decide) (by decide) (by decide) (by decide), e 16 (by decide) (by decide) (by decide) (by decide)]
    have e7 : (hset h' 0 7 (h' 0 7 + 1)) 0 7 = h 0 7 + 1 := by rw [hset_s, e0]
    generalize hset h' 0 7 (h' 0 7 + 1) = h2 at e f0 e28 eb e7
    have en : h2 14 2 = h 14 2 := by rw [e 14 (by decide) (by decide) (by decide) (by decide)]
    refine ⟨f0 1 (by decide), fun i _ _ => ?_, ?_, ?_, ?_, ?_, fun c _ _ => ⟨?_, ?_⟩, fun x h0 h1 => ?_, e7, f0 11 (by decide), fun _ => ⟨fun x _ _ => ?_, ?_⟩, fun _ => ⟨fun x _ _ => ?_, ?_⟩⟩
    · show h2 1 i = h 1 i; rw [e 1 (by decide) (by decide) (by decide) (by decide)]
    · show agB (bx h2) (bx h); rw [eb]; exact agB_rf _
    · show h2 14 4 = h 14 4; rw [e 14 (by decide) (by decide) (by decide) (by decide)]
    · show h2 14 8 = h 14 8; rw [e 14 (by decide) (by decide) (by decide) (by decide)]
    · show h2 14 11 = h 14 11; rw [e 14 (by decide) (by decide) (by decide) (by decide)]
    · show h2 19 c = h 19 c; rw [e 19 (by decide) (by decide) (by decide) (by decide)]
    · show h2 20 c = h 20 c; rw [e 20 (by decide) (by decide) (by decide) (by decide)]
    · show h2 28 x = NN (bx h) (h 14 4) z0 (h 28) (h 0 7) 1 x
      rw [e28]
      exact a2 x h0 (by rw [← en]; exact h1)
    · show h2 31 x = h 31 x; rw [e 31 (by decide) (by decide) (by decide) (by decide)]
    · show h2 33 0 = h 33 0; rw [e 33 (by decide) (by decide) (by decide) (by decide)]
    · show h2 32 x = h 32 x; rw [e 32 (by decide) (by decide) (by decide) (by decide)]
    · show h2 33 1 = h 33 1; rw [e 33 (by decide) (by decide) (by decide) (by decide)]
  · intro k h0 h1
    rw [hset_n (by decide), a1 25 (by decide) (by decide) (by decide)]
    exact hz k h0 h1
theorem m_night {d : Nat} {P : Int → HP → Prop} {N : Int} {g : HP} (hW : WV N (vm g)) (hN : N ≤ 1000) (hz : cm g) (hP : ∀ h', AgV (vm h') (sn_night (vm g)) → cm h' → P (sp_night (vm g)) h') : Ct KM (d + 2) mX11_night [aR 0] g (rI P) := by
  obtain ⟨b1, b2, b3, b4, b5, b6, b7, b8, -⟩ := hW
  dsimp only [qb, qr, qp, qt, vm] at b3 b4 b8 b7
  have hn8 : g 2 0 ≤ 8 := b3.1.2
  refine e_X11_night g (c_tries (fun h c1 c2 c3 c4 => ⟨by omega, ?_⟩))
  have e0 : h 0 = g 0 := c1 0 (by decide) (by decide)
  have e2 : h 2 = g 2 := c1 2 (by decide) (by decide)
  have eb : bm h = bm g := by
    dsimp only [bm]
    rw [e0, e2, c1 5 (by decide) (by decide), c1 10 (by decide) (by decide), c1 11 (by decide) (by decide), c1 12 (by decide) (by decide), c1 4 (by decide) (by decide)]
  have ec : ctm h = z0 := ctm0 (by show h 0 15 = 0; rw [e0]; exact hz)
  have e16 : eqN (g 2 0) (h 16) (g 13) := fun x h0 h1 => c2 x h0 (by omega)
  rw [c1 5 (by decide) (by decide), e0]
  refine c_goes (by rw [eb]; exact b3) b4 ⟨b8.1, by omega⟩ (by rw [e2]; exact fun x h0 h1 => by rw [e16 x h0 h1]; exact r199_ok b7 x h0 h1) (fun h' a1 a2 a3 => ?_)
  rw [eb] at a2 ⊢
  rw [ec, e2] at a2
  have ha : ∀ a, a ≠ 16 → a ≠ 17 → a ≠ 18 → h' a = g a := fun a q1 q2 q3 => (a1 a q1 q2 q3).trans (c1 a q1 q3)
  have e1 : eqN (g 2 0) (h' 16) (NN (bm g) (g 5 1) z0 (g 13) (g 0 17) 1) := fun x h0 h1 => (a2 x h0 h1).trans (by
    rw [show NN (bm g) (g 5 1) z0 (g 13) (g 0 17) 1 = ngt (bm g) (g 5 1) (g 0 17 + (0 : Nat)) z0 (g 13) from rfl, show g 0 17 + ((0 : Nat) : Int) = g 0 17 by omega]
    exact ngt_ag (b := bm g) (b' := bm g) (ct := z0) (ct' := z0) b3 (agB_rf _) e16 (eqN_rf _ _) x h0 h1)
  have q1 : tot (bm g) (h 16) - tot (bm g) (h' 16) = sp_night (vm g) := by
    unfold sp_night lossN
    rw [tot_ag (b := bm g) (agB_rf _) e16, tot_ag (b := bm g) (agB_rf _) e1]
  rw [q1]
  have copy : ∀ (m : Nat) (k : Int) (f : HP), 0 ≤ k → k + m = 8 → (∀ a, a ≠ 13 → f a = h' a) → (∀ x, 0 ≤ x → x < k → f 13 x = h' 16 x) → V KM (d + 2) mX11_night 21 [some (aR 0), some (aI (sp_night (vm g))), some (aI k)] [] f (rI P) := by
    intro m
    induction m with
    | zero =>
      intro k f h0 hk hf hx
      have f0 : f 0 = g 0 := (hf 0 (by decide)).trans (ha 0 (by decide) (by decide) (by decide))
      refine v_X11_night_21 _ k f ⟨⟨⟨by omega, by omega⟩, by decide⟩, fun _ => hP _ ?_ ?_, fun q => absurd q (by omega)⟩
      · have e : ∀ a, a ≠ 0 → a ≠ 13 → a ≠ 16 → a ≠ 17 → a ≠ 18 → (hset f 0 17 (f 0 17 + 1)) a = g a := fun a q1 q2 q3 q4 q5 => by rw [hset_n q1, hf a q2]; exact ha a q3 q4 q5
        have g0 : ∀ i, i ≠ 17 → (hset f 0 17 (f 0 17 + 1)) 0 i = g 0 i := fun i q => by rw [hset_m q, f0]
        have e13 : (hset f 0 17 (f 0 17 + 1)) 13 = f 13 := by rw [hset_n (by decide)]
        have e17 : (hset f 0 17 (f 0 17 + 1)) 0 17 = g 0 17 + 1 := by rw [hset_s, f0]
        generalize hset f 0 17 (f 0 17 + 1) = h2 at e g0 e13 e17
        have w : ∀ a, a ≠ 0 → a ≠ 13 → a ≠ 16 → a ≠ 17 → a ≠ 18 → h2 a = g a := e
        have eb2 : bm h2 = bm g := by
          dsimp only [bm]
          rw [g0 11 (by decide), w 2 (by decide) (by decide) (by decide) (by decide) (by decide), w 5 (by decide) (by decide) (by decide) (by decide) (by decide), w 10 (by decide) (by decide) (by decide) (by decide) (by decide), w 11 (by decide) (by decide) (by decide) (by decide) (by decide), w 12 (by decide) (by decide) (by decide) (by decide) (by decide), w 4 (by decide) (by decide) (by decide) (by decide) (by decide)]
        have en : h2 2 0 = g 2 0 := by rw [w 2 (by decide) (by decide) (by decide) (by decide) (by decide)]
        refine ⟨g0 0 (by decide), fun i _ _ => ?_, ?_, ?_, ?_, ?_, fun c _ _ => ⟨?_, ?_⟩, fun x q0 q1 => ?_, e17, g0 18 (by decide), fun _ => ⟨fun x _ _ => ?_, ?_⟩, fun _ => ⟨fun x _ _ => ?_, ?_⟩⟩
        · show h2 1 i = g 1 i; rw [w 1 (by decide) (by decide) (by decide) (by decide) (by decide)]
        · show agB (bm h2) (bm g); rw [eb2]; exact agB_rf _
        · show h2 5 1 = g 5 1; rw [w 5 (by decide) (by decide) (by decide) (by decide) (by decide)]
        · show h2 6 0 = g 6 0; rw [w 6 (by decide) (by decide) (by decide) (by decide) (by decide)]
        · show h2 8 0 = g 8 0; rw [w 8 (by decide) (by decide) (by decide) (by decide) (by decide)]
        · show h2 9 _ = g 9 _; rw [w 9 (by decide) (by decide) (by decide) (by decide) (by decide)]
        · show h2 9 _ = g 9 _; rw [w 9 (by decide) (by decide) (by decide) (by decide) (by decide)]
        · show h2 13 x = NN (bm g) (g 5 1) z0 (g 13) (g 0 17) 1 x
          have q1 : x < g 2 0 := by rw [← en]; exact q1
          rw [e13, hx x q0 (by omega)]
          exact e1 x q0 q1
        · show h2 14 _ = g 14 _; rw [w 14 (by decide) (by decide) (by decide) (by decide) (by decide)]
        · show h2 15 0 = g 15 0; rw [w 15 (by decide) (by decide) (by decide) (by decide) (by decide)]
        · show h2 14 _ = g 14 _; rw [w 14 (by decide) (by decide) (by decide) (by decide) (by decide)]
        · show h2 15 1 = g 15 1; rw [w 15 (by decide) (by decide) (by decide) (by decide) (by decide)]
      · show (hset f 0 17 (f 0 17 + 1)) 0 15 = 0
        rw [hset_m (by decide), f0]
        exact hz
    | succ m ih =>
      intro k f h0 hk hf hx
      refine v_X11_night_21 _ k f ⟨⟨⟨by omega, by omega⟩, by decide⟩, fun q => absurd q (by omega), fun _ => ⟨by omega, by omega, ih (k + 1) _ (by omega) (by omega) (fun a q => by rw [hset_n q]; exact hf a q) (fun x q0 q1 => ?_)⟩⟩
      by_cases e : x = k
      · subst e; rw [hset_s, hf 16 (by decide)]
      · rw [hset_m e]; exact hx x q0 (by omega)
  exact copy 8 0 h' (by omega) (by omega) (fun _ _ => rfl) (fun x q0 q1 => absurd q1 (by omega))
