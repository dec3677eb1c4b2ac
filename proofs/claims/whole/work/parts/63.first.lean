/-! THE FIRST WORLDS: what the two constructors leave -/
def D1 : DD := ([(9, 0), (0, 1)], 0, 0, 0, [], [])
theorem D1_wf : wfD D1 := by
  refine ⟨⟨by decide, fun i hi => ?_⟩, ⟨by decide, by decide⟩, ⟨by decide, by decide⟩, ⟨by decide, by decide⟩, ⟨by decide, fun i hi => absurd hi (Nat.not_lt_zero _)⟩, by decide, fun i hi => absurd hi (Nat.not_lt_zero _)⟩
  have hi : i < 2 := hi
  have : i = 0 ∨ i = 1 := by omega
  rcases this with rfl | rfl
  · exact ⟨⟨by decide, by decide⟩, Or.inl rfl⟩
  · exact ⟨⟨by decide, by decide⟩, Or.inr rfl⟩
/-- the view of a new object -/
def l1 : LV := sn_D (0, z0, (0, 0, 0, z0, z0, z0, z0), 0, 0, 0, z0, z0, z0, 0, 0, z0, z0, 0, 0) D1
theorem l1_W : WV 0 l1 := by
  obtain ⟨⟨w1, w2⟩, w3, w4, w5, ⟨w6, w7⟩, w8, w9⟩ := id D1_wf
  refine ⟨⟨by show (0 : Int) ≤ 0; omega, by show (0 : Int) ≤ 300; omega⟩, fun i _ _ => ⟨by show (-128 : Int) ≤ 0; omega, by show (0 : Int) ≤ 127; omega⟩, bD_wf D1_wf (by decide), w4, ⟨by show (0 : Int) ≤ 0; omega, by show (0 : Int) ≤ 8; omega⟩, ⟨⟨by show (0 : Int) ≤ 0; omega, by show (0 : Int) ≤ 4; omega⟩, fun c q0 q1 => ?_⟩, fun x q0 q1 => ?_, ⟨by show (0 : Int) ≤ 0; omega, by show (0 : Int) ≤ 0; omega⟩, ⟨by show (0 : Int) ≤ 0; omega, by show (0 : Int) ≤ 2; omega⟩, fun q => ?_, fun q => ?_⟩
  · have q1 : c < 0 := q1
    omega
  · have q1 : x < ((dB D1).length : Int) := q1
    have := (w2 x.toNat (by omega)).1
    show 0 ≤ ((dB D1).getD x.toNat (0, 0)).1 ∧ ((dB D1).getD x.toNat (0, 0)).1 ≤ 199
    omega
  · exact absurd q (by show ¬ (0 : Int) < 0; omega)
  · exact absurd q (by show ¬ (1 : Int) < 0; omega)
theorem sn_D_1 {l : LV} (h1 : qlen l = 0) (h2 : ∀ i, 0 ≤ i → i < 300 → qtx l i = 0) : AgV (sn_D l D1) l1 := ⟨h1, h2, agB_rf _, rfl, rfl, rfl, fun _ _ _ => ⟨rfl, rfl⟩, eqN_rf _ _, rfl, rfl, fun _ => ⟨eqN_rf _ _, rfl⟩, fun _ => ⟨eqN_rf _ _, rfl⟩⟩
theorem x_joined {d : Nat} {P : HP → Prop} {D : DD} {h : HP} (r2 : rpX 14 h D) (hd : wfD D) (h1 : 1 ≤ (dB D).length) (hP : ∀ h', AgV (vx h') (sn_D (vx h) D) → h' 25 = h 25 → P h') : Ct KX (d + 2) mX0_joinBins [aR 14] h (rV fun h3 => Ct KX (d + 2) mX10_enterBarn [aR 0] h3 (rV P)) := by
  refine c_join (D := D) r2 hd h1 (fun h3 a3 b3 r3 => c_enter ?_)
  have hb8 := hd.1.1
  have en : h3 14 2 = (dB D).length := by rw [b3 2 (by decide)]; exact r2.1
  have f0 : h3 0 = h 0 := a3 0 (by decide) (by decide) (by decide) (by decide)
  have f1 : h3 1 = h 1 := a3 1 (by decide) (by decide) (by decide) (by decide)
  obtain ⟨s1, s2, s3, s4, s5, s6, s7, s8, s9⟩ := r2
  have c : ∀ a, a ≠ 0 → a ≠ 28 → (hset (hset (hcpy h3 15 28 8) 0 7 0) 0 11 0) a = h3 a := fun a q1 q2 => by rw [hset_n q1, hset_n q1, hcpy_n q2]
  have c0 : ∀ i, i ≠ 7 → i ≠ 11 → (hset (hset (hcpy h3 15 28 8) 0 7 0) 0 11 0) 0 i = h 0 i := fun i q1 q2 => by rw [hset_m q2, hset_m q1, hcpy_n (by decide), f0]
  have c28 : ∀ x, 0 ≤ x → x < 8 → (hset (hset (hcpy h3 15 28 8) 0 7 0) 0 11 0) 28 x = h3 15 x := fun x q0 q1 => by rw [hset_n (by decide), hset_n (by decide), hcpy_s q0 q1]
  have c7 : (hset (hset (hcpy h3 15 28 8) 0 7 0) 0 11 0) 0 7 = 0 := by rw [hset_m (by decide), hset_s]
  have c11 : (hset (hset (hcpy h3 15 28 8) 0 7 0) 0 11 0) 0 11 = 0 := hset_s
  generalize hset (hset (hcpy h3 15 28 8) 0 7 0) 0 11 0 = h4 at c c0 c28 c7 c11
  have g14 : h4 14 = h3 14 := c 14 (by decide) (by decide)
  have u : ∀ a, a ≠ 14 → a ≠ 21 → a ≠ 22 → a ≠ 23 → a ≠ 0 → a ≠ 28 → h4 a = h a := fun a q1 q2 q3 q4 q5 q6 => (c a q5 q6).trans (a3 a q1 q2 q3 q4)
  refine hP h4 ?_ (u 25 (by decide) (by decide) (by decide) (by decide) (by decide) (by decide))
  refine ⟨c0 1 (by decide) (by decide), fun i _ _ => ?_, ⟨?_, ?_, ?_, fun k q0 q1 => ?_, fun x q0 q1 => ?_⟩, ?_, ?_, ?_, fun k q0 q1 => ?_, fun x q0 q1 => ?_, c7, c11, fun q => ?_, fun q => ?_⟩
  · show h4 1 i = h 1 i
    rw [c 1 (by decide) (by decide), f1]
  · show h4 14 2 = ((dB D).length : Int)
    rw [g14]; exact en
  · show h4 14 15 = ((gl (dK D) (dB D).length).length : Int)
    rw [g14]; exact r3.1
  · show h4 14 5 = dV D
    rw [g14, b3 5 (by decide)]; exact s4
  · have q1 : k < h4 14 15 := q1
    rw [g14, r3.1] at q1
    have := r3.2 k.toNat (by omega)
    rw [show ((k.toNat : Nat) : Int) = k by omega] at this
    refine ⟨?_, ?_, ?_⟩
    · show h4 21 k = _
      rw [c 21 (by decide) (by decide)]; exact this.1
    · show h4 22 k = _
      rw [c 22 (by decide) (by decide)]; exact this.2.1
    · show h4 23 k = _
      rw [c 23 (by decide) (by decide)]; exact this.2.2
  · have q1 : x < h4 14 2 := q1
    rw [g14, en] at q1
    have := (s7 x.toNat (show x.toNat < (dB D).length by omega)).2
    rw [show ((x.toNat : Nat) : Int) = x by omega] at this
    show h4 16 x = _
    rw [u 16 (by decide) (by decide) (by decide) (by decide) (by decide) (by decide)]
    exact this
  · show h4 14 4 = dR D
    rw [g14, b3 4 (by decide)]; exact s3
  · show h4 14 8 = ((dW D).length : Int)
    rw [g14, b3 8 (by decide)]; exact s5
  · show h4 14 11 = ((dC D).length : Int)
    rw [g14, b3 11 (by decide)]; exact s6
  · have q1 : k < h4 14 11 := q1
    rw [g14, b3 11 (by decide), s6] at q1
    have := s9 k.toNat (by omega)
    rw [show ((k.toNat : Nat) : Int) = k by omega] at this
    refine ⟨?_, ?_⟩
    · show h4 19 k = _
      rw [u 19 (by decide) (by decide) (by decide) (by decide) (by decide) (by decide)]; exact this.1
    · show h4 20 k = _
      rw [u 20 (by decide) (by decide) (by decide) (by decide) (by decide) (by decide)]; exact this.2
  · have q1 : x < h4 14 2 := q1
    rw [g14, en] at q1
    have := (s7 x.toNat (show x.toNat < (dB D).length by omega)).1
    rw [show ((x.toNat : Nat) : Int) = x by omega] at this
    show h4 28 x = _
    rw [c28 x q0 (by omega), a3 15 (by decide) (by decide) (by decide) (by decide)]
    exact this
  · have q : 0 < h4 0 11 := q
    omega
  · have q : 1 < h4 0 11 := q
    omega
/-- a new RatsEat -/
theorem x_first {d : Nat} : V KX (d + 3) mX10_init 224 [some (aR 0)] [] (fun _ _ => 0) (rV fun h => AgV (vx h) l1 ∧ cz h) := by
  refine v_X10_init_224 _ (e_X0_addBin_14 9 0 _ ⟨⟨by decide, by decide⟩, fun q => absurd q (by decide), fun _ => ⟨⟨by decide, by decide⟩, fun q => absurd q (by decide), fun _ => ⟨⟨by decide, by decide⟩, fun _ => ⟨⟨by decide, by decide⟩, ⟨by decide, by decide⟩, Or.inr rfl, ?_⟩, fun q => absurd q (by decide)⟩⟩⟩)
  have e2 : (hset (hset (hset (fun _ _ => (0 : Int)) 15 0 9) 16 0 0) 14 2 (0 + 1)) 14 2 = 1 := hset_s
  generalize hA : (hset (hset (hset (fun _ _ => (0 : Int)) 15 0 9) 16 0 0) 14 2 (0 + 1) : HP) = g at e2
  refine e_X0_addBin_14 0 1 _ ?_
  rw [e2]
  refine ⟨⟨by decide, by decide⟩, fun q => absurd q (by decide), fun _ => ⟨⟨by decide, by decide⟩, fun q => absurd q (by decide), fun _ => ⟨⟨by decide, by decide⟩, fun _ => ⟨⟨by decide, by decide⟩, ⟨by decide, by decide⟩, Or.inr rfl, ?_⟩, fun q => absurd q (by decide)⟩⟩⟩
  rw [← hA]
  refine x_joined (D := D1) ?_ D1_wf (by decide) (fun h' a1 a2 => ⟨AgV_tr a1 (sn_D_1 rfl (fun _ _ _ => rfl)), fun k q0 q1 => by rw [a2]; rfl⟩)
  refine ⟨rfl, rfl, rfl, rfl, rfl, rfl, fun i hi => ?_, fun i hi => absurd hi (Nat.not_lt_zero _), fun i hi => absurd hi (Nat.not_lt_zero _)⟩
  have hi : i < 2 := hi
  have : i = 0 ∨ i = 1 := by omega
  rcases this with rfl | rfl
  · exact ⟨rfl, rfl⟩
  · exact ⟨rfl, rfl⟩
/-- a new RatsEatModel -/
theorem m_first {d : Nat} : V KM (d + 3) mX11_init 174 [some (aR 0)] [] (fun _ _ => 0) (rV fun g => AgV (vm g) l1 ∧ cm g) := by
  refine v_X11_init_174 _ (e_X11_begins _ ⟨⟨by decide, by decide⟩, ⟨by decide, by decide⟩, ⟨by decide, by decide⟩, ⟨by decide, by decide⟩, ⟨by decide, by decide⟩, ⟨by decide, by decide⟩, ⟨by decide, by decide⟩, ⟨by decide, by decide⟩, ⟨by decide, by decide⟩, ⟨by decide, by decide⟩, ⟨by decide, by decide⟩, ?_⟩)
  refine c_takes (d := d + 1) (D := D1) ?_ D1_wf (by decide) (fun h' a1 a2 _ => ⟨AgV_tr a1 (sn_D_1 rfl (fun _ _ _ => rfl)), a2⟩)
  refine ⟨rfl, rfl, rfl, rfl, rfl, rfl, fun i hi => ?_, fun i hi => absurd hi (Nat.not_lt_zero _), fun i hi => absurd hi (Nat.not_lt_zero _)⟩
  have hi : i < 2 := hi
  have : i = 0 ∨ i = 1 := by omega
  rcases this with rfl | rfl
  · exact ⟨rfl, rfl⟩
  · exact ⟨rfl, rfl⟩
