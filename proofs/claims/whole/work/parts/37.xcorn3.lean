/-! the class: corn, the call -/
theorem x_corn {d : Nat} {P : Int → HP → Prop} {N n i : Int} {h : HP} (hW : WV N (vx h)) (hz : cz h) (hn : iR n) (hi : iR i) (hP : ∀ h', vx h' = vx h → cz h' → P (sp_corn (vx h) n i) h') : Ct KX (d + 9) mX10_corn [aR 0, aI n, aI i] h (rI P) := by
  obtain ⟨b1, b2, b3, b4, b5, ⟨⟨q0, q4⟩, bc⟩, b7, b8, -⟩ := hW
  have hb : wfB (bx h) := b3
  have hn8 : h 14 2 ≤ 8 := hb.1.2
  have hq0 : 0 ≤ h 14 11 := q0
  have hq4 : h 14 11 ≤ 4 := q4
  have hc : ∀ c, 0 ≤ c → c < h 14 11 → (0 ≤ h 19 c ∧ h 19 c ≤ 30) ∧ (1 ≤ h 20 c ∧ h 20 c ≤ 60) ∧ ∀ c', c ≤ c' → c' < h 14 11 → h 19 c ≤ h 19 c' := bc
  unfold sp_corn at hP
  have hqc : qc (vx h) = h 14 11 := rfl
  rw [hqc] at hP
  have bad : ¬ ((1 ≤ n ∧ n ≤ 31) ∧ -1 ≤ i ∧ i < h 14 11) → P (-1) h := fun z => by
    have := hP h rfl hz
    rw [if_neg z] at this
    exact this
  refine e_X10_corn n i h (c_within hn (by decide) (by decide) (fun a b => bT (c_within hi (by decide) ⟨by omega, by omega⟩ (fun a2 b2 => bT' ⟨⟨by omega, by omega⟩, fun z => ?_, fun z => ?_⟩) (fun a2 => bF' (bad (by omega))))) (fun a => bF (bad (by omega))))
  · have := hP h rfl hz
    rw [if_pos ⟨⟨a, b⟩, a2, by omega⟩, if_pos z] at this
    exact this
  have hsort := cmg_pre (cN := h 19) (n := n) (h 14 11).toNat (fun x y z0 z1 => (hc x (by omega) (by omega)).2.2 y (by omega) (by omega))
  have hcl := cmg_le (cN := h 19) (n := n) (h 14 11).toNat
  refine e_X4_search n h ?_
  have go : ∀ g : HP, kO h g → g 46 6 = (cmg (h 19) n (h 14 11).toNat : Nat) → g 46 7 = n → g 46 5 = 1000000 → (∀ x, 0 ≤ x → x < h 14 11 → g 53 x = 0) → eqN (h 14 2) (g 48) (h 28) → Ct KX (d + 7) mX4_goOn [aR 46, aI 0, aI 0, aI 0] g (rV fun (h2 : HP) => (iR (h2 46 5) ∧ iR 1000000) ∧ (h2 46 5 = (1000000 : Int) → ((0 : Int) = 0 ∨ (0 : Int) = 1) ∧ (iR 0 ∧ ((0 : Int) ≠ 0 → (iR i ∧ iR (-1)) ∧ (i ≠ (-1 : Int) → ((0 : Int) ≤ i ∧ i < 4) ∧ P (h2 54 i) h2) ∧ (i = (-1 : Int) → P (h2 46 5) h2)) ∧ ((0 : Int) = 0 → P (-4) h2))) ∧ (h2 46 5 ≠ (1000000 : Int) → ((1 : Int) = 0 ∨ (1 : Int) = 1) ∧ (iR 1 ∧ ((1 : Int) ≠ 0 → (iR i ∧ iR (-1)) ∧ (i ≠ (-1 : Int) → ((0 : Int) ≤ i ∧ i < 4) ∧ P (h2 54 i) h2) ∧ (i = (-1 : Int) → P (h2 46 5) h2)) ∧ ((1 : Int) = 0 → P (-4) h2)))) := by
    intro g k s6 s7 s5 e53 e48
    have hg := x_goOn (d := d) (en := n) (cg := (cmg (h 19) n (h 14 11).toNat : Nat)) (h := h) hb hz b4 ⟨a, b⟩ hq4 ⟨by omega, by omega⟩ hc (fun c z0 z1 => by
      have := hsort.1 c.toNat (by omega)
      rwa [show ((c.toNat : Nat) : Int) = c by omega] at this) (cmg (h 19) n (h 14 11).toNat) 0 0 0 (h 28) z0 (1000000, z0) g
    refine V_deep (d := d + cmg (h 19) n (h 14 11).toNat + 3) (hg _ (by omega) (by omega) (by omega) (by omega) (fun x z0 z1 => (hc x z0 (by omega)).1.1) (by omega) (by omega) (r199_ok b7) e48 ⟨k, s5, s6, s7, fun x z0 z1 => absurd z1 (by omega), fun x z0 z1 => e53 x (by omega) z1, fun w => absurd rfl w, ⟨by show (0 : Int) ≤ 1000000; omega, by show (1000000 : Int) ≤ 1000000; omega⟩⟩ (fun g' hI _ => ?_)) (by omega)
    have hCO : CO (vx h) n = KO (bx h) (h 14 4) (h 19) (h 20) n (cmg (h 19) n (h 14 11).toNat) 0 0 0 (h 28) z0 (1000000, z0) := rfl
    rw [← hCO] at hI
    obtain ⟨kk, u1, u2, u3, c53, c53b, c54, sr⟩ := hI
    have hP := hP g' (kO_vx kk) (kO_cz kk hz)
    rw [if_pos ⟨⟨a, b⟩, a2, by omega⟩, if_neg z] at hP
    rw [u1]
    refine ⟨⟨⟨by omega, by omega⟩, by decide⟩, fun q => ⟨by omega, bF' ?_⟩, fun q => ⟨by omega, bT' ⟨⟨hi, by decide⟩, fun q2 => ⟨by omega, ?_⟩, fun q2 => ?_⟩⟩⟩
    · rw [if_pos q] at hP
      exact hP
    · rw [if_neg q, if_neg q2] at hP
      rw [c54 q i (by omega) (by omega)]
      exact hP
    · rw [if_neg q, if_pos q2] at hP
      exact hP
  have key : ∀ (u x : Nat) (g : HP), x + u = (h 14 11).toNat → (∀ a, a ≠ 46 → a ≠ 53 → g a = h a) → g 46 6 = (cmg (h 19) n x : Nat) → g 46 7 = n → (∀ y : Int, 0 ≤ y → y < x → g 53 y = 0) → V KX (d + 8) mX4_search 12 [some (aR 46), some (aR 28), some (aI n), some (aI x)] [] g (rI fun (v3 : Int) (h3 : HP) => iR v3 ∧ (v3 ≠ (0 : Int) → (iR i ∧ iR (-1)) ∧ (i ≠ (-1 : Int) → ((0 : Int) ≤ i ∧ i < 4) ∧ P (h3 54 i) h3) ∧ (i = (-1 : Int) → P (h3 46 5) h3)) ∧ (v3 = (0 : Int) → P (-4) h3)) := by
    intro u
    induction u with
    | zero =>
      intro x g hx hk s6 s7 e53
      have hx2 : x = (h 14 11).toNat := by omega
      rw [hx2] at s6
      refine v_X4_search_12 n x g ?_
      rw [hk 14 (by decide) (by decide)]
      refine ⟨⟨⟨by omega, by omega⟩, ⟨by omega, by omega⟩⟩, fun _ => ⟨by omega, c_copyBins (by decide) (by decide) (go _ (fun a q1 q2 q3 q4 q5 q6 => ?_) ?_ ?_ ?_ (fun y w0 w1 => ?_) (fun y w0 w1 => ?_))⟩, fun w => absurd w (by omega)⟩
      · rw [hcpy_n (by omega), hset_n q3]; exact hk a q3 q4
      · rw [hcpy_n (by decide), hset_m (by decide)]; exact s6
      · rw [hcpy_n (by decide), hset_m (by decide)]; exact s7
      · rw [hcpy_n (by decide), hset_s]
      · rw [hcpy_n (by decide), hset_n (by decide)]; exact e53 y w0 (by omega)
      · rw [hcpy_s w0 (by omega), hset_n (by decide), hk 28 (by decide) (by decide)]
    | succ u ih =>
      intro x g hx hk s6 s7 e53
      have hcx := hc x (by omega) (by omega)
      refine v_X4_search_12 n x g ?_
      rw [hk 14 (by decide) (by decide), hk 19 (by decide) (by decide)]
      refine ⟨⟨⟨by omega, by omega⟩, ⟨by omega, by omega⟩⟩, fun w => absurd w (by omega), fun _ => ⟨by omega, by omega, ⟨⟨by omega, by omega⟩, hn⟩, fun w => v_X4_search_53 n x _ (ih (x + 1) _ (by omega) (fun a q1 q2 => ?_) ?_ ?_ (fun y w0 w1 => ?_)), fun w => v_X4_search_53 n x _ (ih (x + 1) _ (by omega) (fun a q1 q2 => ?_) ?_ ?_ (fun y w0 w1 => ?_))⟩⟩
      · rw [hset_n q2]; exact hk a q1 q2
      · rw [hset_n (by decide), cmg, if_neg (by omega)]; exact s6
      · rw [hset_n (by decide)]; exact s7
      · by_cases e : y = x
        · rw [e, hset_s]
        · rw [hset_m e]; exact e53 y w0 (by omega)
      · rw [hset_n q1, hset_n q2]; exact hk a q1 q2
      · rw [hset_s, cmg, if_pos w, s6]; omega
      · rw [hset_m (by decide), hset_n (by decide)]; exact s7
      · rw [hset_n (by decide)]
        by_cases e : y = x
        · rw [e, hset_s]
        · rw [hset_m e]; exact e53 y w0 (by omega)
  exact key (h 14 11).toNat 0 _ (by omega) (fun a q1 q2 => by rw [hset_n q1, hset_n q1]) (by rw [hset_s]; rfl) (by rw [hset_m (by decide), hset_s]) (fun y w0 w1 => absurd w1 (by omega))
