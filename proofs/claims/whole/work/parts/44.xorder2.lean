/-! the class: order, the call -/
theorem OS_lt {b : BB} {r t : Int} {k : Nat} (hb : wfB b) : ∀ (f : Nat) (q : Int → Int) (s : SC), rowOK (bn b) q → s.1 ≤ 1000000 → (OS b r t k f q s).1 ≤ 1000000 ∧ (s.1 < 1000000 → (OS b r t k f q s).1 < 1000000)
  | 0, _, s, _, hs => ⟨hs, fun h => h⟩
  | f + 1, q, s, hq, hs => by
    have hin := lossN_in (r := r) (ct := z0) (t := t) hb hq k
    have hF : (FO b r t k q s).1 < 1000000 := by
      unfold FO
      split
      · show lossN b r z0 q t k < 1000000
        omega
      · omega
    rw [OS]
    cases hx : NX (bn b) q with
    | none => exact ⟨by dsimp only; omega, fun _ => hF⟩
    | some q' =>
      have h := OS_lt (r := r) (t := t) (k := k) hb f q' (FO b r t k q s) (NX_ok hb.1.1 hq hx) (by omega)
      exact ⟨h.1, fun _ => h.2 hF⟩
theorem OS_lt1 {b : BB} {r t : Int} {k : Nat} (hb : wfB b) (f : Nat) (q : Int → Int) (hq : rowOK (bn b) q) : (OS b r t k (f + 1) q (1000000, z0)).1 < 1000000 := by
  have hin := lossN_in (r := r) (ct := z0) (t := t) hb hq k
  have hF : (FO b r t k q (1000000, z0)).1 < 1000000 := by
    unfold FO
    rw [if_pos (show lossN b r z0 q t k < 1000000 by omega)]
    show lossN b r z0 q t k < 1000000
    omega
  rw [OS]
  cases hx : NX (bn b) q with
  | none => exact hF
  | some q' => exact (OS_lt hb f q' _ (NX_ok hb.1.1 hq hx) (by omega)).2 hF
theorem x_order {d : Nat} {P : Int → HP → Prop} {N k i : Int} {h : HP} (hW : WV N (vx h)) (hN : N ≤ 1000) (hz : cz h) (hk : iR k) (hi : iR i) (hP : ∀ q, srt (h 14 2) q → prm (h 14 2) q (h 28) → rowOK (h 14 2) q → ∀ h', vx h' = vx h → cz h' → P (sp_order (vx h) q k i) h') (hB : ¬ ((1 ≤ k ∧ k ≤ 20) ∧ -1 ≤ i ∧ i < h 14 2) → P (-1) h) : Ct KX (d + 5) mX10_order [aR 0, aI k, aI i] h (rI P) := by
  obtain ⟨b1, b2, b3, b4, b5, b6, b7, b8, -⟩ := hW
  have hb : wfB (bx h) := b3
  have hn : 1 ≤ h 14 2 ∧ h 14 2 ≤ 8 := hb.1
  have ht : 0 ≤ h 0 7 ∧ h 0 7 ≤ N := b8
  refine e_X10_order k i h (c_within hk (by decide) (by decide) (fun a b => bT (c_within hi (by decide) ⟨by omega, by omega⟩ (fun a2 b2 => bT' ?_) (fun a2 => bF' (hB (by omega))))) (fun a => bF (hB (by omega))))
  refine x_search6 hb hz b4 ⟨ht.1, by omega⟩ ⟨a, b⟩ b7 (fun q q1 q2 q3 g kg e5 e37 => ?_)
  have hP := hP q q1 q2 q3 g (kR_vx kg) (kR_cz kg hz)
  unfold sp_order at hP
  have hbn : bn (qb (vx h)) = h 14 2 := rfl
  have hlt := OS_lt1 (r := h 14 4) (t := h 0 7) (k := k.toNat) hb 40319 q q3
  rw [hbn, if_pos ⟨⟨a, b⟩, a2, by omega⟩] at hP
  refine ⟨⟨hi, by decide⟩, fun z => ⟨by omega, ?_⟩, fun z => ?_⟩
  · rw [if_neg z] at hP
    rw [e37 (by rw [e5]; exact Int.ne_of_lt hlt) i (by omega) (by omega)]
    exact hP
  · rw [if_pos z] at hP
    rw [e5]
    exact hP
