/-! the model: items, fault, lay -/
theorem c_isItem {d : Nat} {P : Int → HP → Prop} {s len : Int} {tx : Int → Int} {D : DD} {h : HP} (es : h 0 2 = s) (el : h 0 0 = len) (et : h 1 = tx) (hs : 0 ≤ s ∧ s < len) (hl : len ≤ 300) (ht : ∀ j, 0 ≤ j → j < 300 → -128 ≤ tx j ∧ tx j ≤ 127) (hr : rpM h D) (hw : wfD D)
    (h1 : ∀ q D', ptm tx len s = some q → good (tx s) q.1 q.2.1 D = some D' → ∀ h', kM h h' → h' 0 2 = q.2.2 → rpM h' D' → P 1 h')
    (h0 : (∀ q, ptm tx len s = some q → good (tx s) q.1 q.2.1 D = none) → ∀ h', kM h h' → P 0 h') : Ct KM (d + 2) mX11_isItem [aR 0] h (rI P) := by
  have hb := ht s (by omega) (by omega)
  have z144 : ∀ (n k : Int) (g : HP), ((∀ q, ptm tx len s = some q → good (tx s) q.1 q.2.1 D = none)) → kM h g → V KM (d + 2) mX11_isItem 144 [some (aR 0), some (aI (tx s)), some (aI n), some (aI 0), some (aI k)] [] g (rI P) := fun n k g hz hg =>
    v_X11_isItem_144 _ n 0 k g ⟨by decide, fun _ => v_X11_isItem_177 _ n 0 k g (v_X11_isItem_178 _ n 0 k 0 g ⟨by decide, fun _ => ⟨by omega, h0 hz _ (kM_tr hg kM_at)⟩, fun q => absurd rfl q⟩), fun q => absurd rfl q⟩
  have z38 : ∀ (n k : Int) (g : HP), iR n → iR k → ((∀ q, ptm tx len s = some q → good (tx s) q.1 q.2.1 D = none)) → kM h g → V KM (d + 2) mX11_isItem 38 [some (aR 0), some (aI (tx s)), some (aI n), some (aI 0), some (aI k)] [] g (rI P) := fun n k g hn hk hz hg =>
    v_X11_isItem_38 _ n 0 k g ⟨⟨hk, hn⟩, fun _ => z144 n k g hz hg, fun _ => ⟨by decide, fun _ => z144 n k g hz hg, fun q => absurd rfl q⟩⟩
  -- the sign at the end, and what the item tells
  have L : ∀ (n k i b : Int) (g : HP), kM h g → rpM g D → g 0 2 = i → 0 ≤ i → i ≤ len → (tx s = 98 ∨ tx s = 99 ∨ tx s = 114 ∨ tx s = 119 ∨ tx s = 115) → (0 ≤ g 22 0 ∧ g 22 0 ≤ 999) → (tx s ≠ 115 → 0 ≤ g 22 1 ∧ g 22 1 ≤ 999) → (tx s ≠ 115 → g 22 1 = b) → (i < len ∧ tx i = 59 → ptm tx len s = some (g 22 0, b, i + 1)) → (¬ (i < len ∧ tx i = 59) → ptm tx len s = none) → V KM (d + 2) mX11_isItem 144 [some (aR 0), some (aI (tx s)), some (aI n), some (aI 1), some (aI k)] [] g (rI P) := by
    intro n k i b g hg hrg hi hi0 hil hc ha hbb hb1 hyes hno
    have e0 : g 0 0 = len := by rw [hg.1 0 (by decide)]; exact el
    have e1 : g 1 = tx := by rw [hg.2.2.2.2.2.2 1 (by decide)]; exact et
    have nope : ¬ (i < len ∧ tx i = 59) → V KM (d + 2) mX11_isItem 177 [some (aR 0), some (aI (tx s)), some (aI n), some (aI 1), some (aI k)] [] g (rI P) := fun z =>
      v_X11_isItem_177 _ n 1 k g (v_X11_isItem_178 _ n 1 k 0 g ⟨by decide, fun _ => ⟨by omega, h0 (fun q hq => by rw [hno z] at hq; cases hq) _ (kM_tr hg kM_at)⟩, fun q => absurd rfl q⟩)
    refine v_X11_isItem_144 _ n 1 k g ⟨by decide, fun q => absurd q (by decide), fun _ => ?_⟩
    rw [hi, e0, e1]
    refine ⟨⟨⟨by omega, by omega⟩, ⟨by omega, by omega⟩⟩, fun q => nope (by omega), fun q => ⟨by omega, ?_⟩⟩
    have hbi := ht i hi0 (by omega)
    refine ⟨⟨⟨by omega, by omega⟩, by decide⟩, fun q2 => nope (by omega), fun q2 => v_X11_isItem_178 _ n 1 k 1 g ⟨by decide, fun q3 => absurd q3 (by decide), fun _ => ?_⟩⟩
    have hp := hyes ⟨q, q2⟩
    rw [hi]
    have e22 : (hset g 0 2 (i + 1)) 22 = g 22 := hset_n (by decide)
    have hgo : good (tx s) (g 22 0) (g 22 1) D = good (tx s) (g 22 0) b D := by
      by_cases z : tx s = 115
      · rw [z]; rfl
      · rw [hb1 z]
    refine c_good (D := D) (rpM_eq (fun a q1 q2 => hset_n (by omega)) hrg) hw hc (by rw [e22]; exact ha) (by rw [e22]; exact hbb) (fun D' hD h' f1 f2 f3 => bT ⟨by omega, ?_⟩) (fun hD h' f1 => bF ⟨by omega, ?_⟩)
    · rw [e22, hgo] at hD
      exact h1 _ D' hp hD h' (kM_tr hg (kM_tr kM_at f1)) (by rw [f2, hset_s]) f3
    · rw [e22, hgo] at hD
      refine h0 (fun q hq => ?_) h' (kM_tr hg (kM_tr kM_at f1))
      rw [hp] at hq
      cases hq
      exact hD
  -- a number is read at i
  have Nm : ∀ (n k i s0 s1 : Int) (g : HP), kM h g → iR n → (k = 0 ∨ k = 1) → s1 + s0 = i → 0 ≤ i → i ≤ len →
      ((¬ (0 < fc tx len i ∧ ¬ (fc tx len i = 3 ∧ dig tx len (i + 3)))) → ∀ q, ptm tx len s = some q → good (tx s) q.1 q.2.1 D = none) →
      (0 < fc tx len i → ¬ (fc tx len i = 3 ∧ dig tx len (i + 3)) → V KM (d + 2) mX11_isItem 38 [some (aR 0), some (aI (tx s)), some (aI n), some (aI 1), some (aI (k + 1))] [] (hset (hset g 0 2 (i + fc tx len i)) 22 k (vl tx i (fc tx len i))) (rI P)) →
      V KM (d + 2) mX11_isItem 99 [some (aR 0), some (aI (tx s)), some (aI n), some (aI 1), some (aI k)] [aI s0, aI s1, aR 0] g (rI P) := by
    intro n k i s0 s1 g hg hn hk hi hi0 hil hz hy
    refine v_X11_isItem_99 _ n 1 k s0 s1 g ⟨by decide, fun q => absurd q (by decide), fun _ => ?_⟩
    rw [hi]
    have hss : ∀ w : Int, hset (hset g 0 2 i) 0 2 w = hset g 0 2 w := fun w => by
      funext a b
      unfold hset
      by_cases z : a = 0 ∧ b = 2
      · rw [if_pos z, if_pos z]
      · rw [if_neg z, if_neg z, if_neg z]
    have hv := vl_ok (tx := tx) (len := len) (i := i)
    refine c_number (i := i) (len := len) (tx := tx) hset_s (by rw [hset_m (by decide), hg.1 0 (by decide)]; exact el) (by rw [hset_n (by decide), hg.2.2.2.2.2.2 1 (by decide)]; exact et) ⟨hi0, hil⟩ hl ht (fun y1 y2 => ?_) (fun y v => ?_)
    · rw [hss]
      refine v_X11_isItem_121 _ n 1 k _ k _ ⟨by omega, by omega, ?_⟩
      rw [hset_s]
      exact ⟨⟨by omega, by omega⟩, fun q => absurd q (by omega), fun _ => v_X11_isItem_137 _ n 1 k 1 _ (hy y1 y2)⟩
    · rw [hss]
      refine v_X11_isItem_121 _ n 1 k _ k _ ⟨by omega, by omega, ?_⟩
      rw [hset_s]
      exact ⟨by decide, fun _ => v_X11_isItem_137 _ n 1 k 0 _ (z38 n (k + 1) _ hn ⟨by omega, by omega⟩ (hz y) (kM_tr hg (kM_tr kM_at kM_got))), fun q => absurd q (by decide)⟩
  have hd : due (tx s) = 0 ∨ due (tx s) = 1 ∨ due (tx s) = 2 := by unfold due; (repeat' split) <;> omega
  have hg1 : kM h (hset h 0 2 (s + 1)) := kM_at
  have first : ∀ n : Int, iR n → 0 < n → ((¬ (0 < fc tx len (s + 1) ∧ ¬ (fc tx len (s + 1) = 3 ∧ dig tx len (s + 1 + 3)))) → ∀ q, ptm tx len s = some q → good (tx s) q.1 q.2.1 D = none) →
      (0 < fc tx len (s + 1) → ¬ (fc tx len (s + 1) = 3 ∧ dig tx len (s + 1 + 3)) → V KM (d + 2) mX11_isItem 38 [some (aR 0), some (aI (tx s)), some (aI n), some (aI 1), some (aI (0 + 1))] [] (hset (hset (hset h 0 2 (s + 1)) 0 2 (s + 1 + fc tx len (s + 1))) 22 0 (vl tx (s + 1) (fc tx len (s + 1)))) (rI P)) →
      V KM (d + 2) mX11_isItem 34 [some (aR 0), some (aI (tx s)), some (aI n), none, none] [aI 1] (hset h 0 2 (s + 1)) (rI P) := by
    intro n hn hn0 hz hy
    refine v_X11_isItem_34 _ n 1 _ (v_X11_isItem_38 _ n 1 0 _ ⟨⟨by decide, hn⟩, fun q => absurd q (by omega), fun _ => ⟨by decide, fun q => absurd q (by decide), fun _ => ⟨by decide, fun _ => v_X11_isItem_78 _ n 1 0 _ (v_X11_isItem_83 _ n 1 0 1 _ ⟨by decide, fun q => absurd rfl q, fun _ => ?_⟩), fun q => absurd rfl q⟩⟩⟩)
    rw [hset_s]
    exact Nm n 0 (s + 1) 0 (s + 1) _ hg1 hn (Or.inl rfl) (by omega) (by omega) (by omega) hz hy
  have fcl : 0 < fc tx len (s + 1) → s + 1 + (fc tx len (s + 1) : Int) ≤ len := fun z => by
    have := (fc_dig (tx := tx) (len := len) (i := s + 1) (j := fc tx len (s + 1) - 1) (by omega)).1
    omega
  have hv1 := vl_ok (tx := tx) (len := len) (i := s + 1)
  refine e_X11_isItem h ?_
  rw [es, et]
  refine ⟨by omega, c_parts ⟨by omega, by omega⟩ ?_⟩
  rcases hd with e | e | e
  · have hn : ptm tx len s = none := by unfold ptm; rw [if_neg (by rw [e]; decide), if_neg (by rw [e]; decide)]
    rw [e]
    exact ⟨by decide, fun _ => v_X11_isItem_34 _ 0 0 _ (z38 0 0 _ (by decide) (by decide) (fun q hq => by rw [hn] at hq; cases hq) hg1), fun q => absurd q (by decide)⟩
  · have h115 : tx s = 115 := by unfold due at e; (repeat' split at e) <;> omega
    have hp : ptm tx len s = (match pnm tx len (s + 1) 59 with
      | none => none
      | some q => some (q.1, 0, q.2)) := by unfold ptm; rw [if_pos e]; rfl
    rw [e]
    refine ⟨by decide, fun q => absurd q (by decide), fun _ => first 1 (by decide) (by decide) (fun z q hq => ?_) (fun y1 y2 => ?_)⟩
    · rw [hp, pnm_n (Or.inr rfl) z] at hq
      cases hq
    · refine v_X11_isItem_38 _ 1 1 (0 + 1) _ ⟨⟨by decide, by decide⟩, fun _ => ?_, fun q => absurd q (by decide)⟩
      refine L 1 (0 + 1) (s + 1 + fc tx len (s + 1)) 0 _ (kM_tr hg1 (kM_tr kM_at kM_got)) (rpM_eq (fun a q1 q2 => by rw [hset_n (by omega), hset_n (by omega), hset_n (by omega)]) hr) (by rw [hset_n (by decide), hset_s]) (by omega) (fcl y1) (by omega) (by rw [hset_s]; exact hv1) (fun z => absurd h115 z) (fun z => absurd h115 z) (fun z => ?_) (fun z => ?_)
      · rw [hset_s, hp]
        unfold pnm
        rw [if_pos ⟨y1, z.1, z.2⟩]
      · rw [hp]
        unfold pnm
        rw [if_neg (fun y => z y.2)]
  · have hc4 : tx s = 98 ∨ tx s = 99 ∨ tx s = 114 ∨ tx s = 119 := by unfold due at e; (repeat' split at e) <;> omega
    have hp : ptm tx len s = (match pnm tx len (s + 1) 44 with
      | none => none
      | some q => (match pnm tx len q.2 59 with
        | none => none
        | some r => some (q.1, r.1, r.2))) := by unfold ptm; rw [if_neg (by rw [e]; decide), if_pos e]; rfl
    rw [e]
    refine ⟨by decide, fun q => absurd q (by decide), fun _ => first 2 (by decide) (by decide) (fun z q hq => ?_) (fun y1 y2 => ?_)⟩
    · rw [hp, pnm_n (Or.inl rfl) z] at hq
      cases hq
    · have hle := fcl y1
      have hpn : pnm tx len (s + 1) 44 = if s + 1 + (fc tx len (s + 1) : Int) < len ∧ tx (s + 1 + fc tx len (s + 1)) = 44 then some (vl tx (s + 1) (fc tx len (s + 1)), s + 1 + fc tx len (s + 1) + 1) else none := by
        unfold pnm
        by_cases z : s + 1 + (fc tx len (s + 1) : Int) < len ∧ tx (s + 1 + fc tx len (s + 1)) = 44
        · rw [if_pos z, if_pos ⟨y1, z.1, z.2⟩]
        · rw [if_neg z, if_neg (fun y => z y.2)]
      have kg : kM h (hset (hset (hset h 0 2 (s + 1)) 0 2 (s + 1 + fc tx len (s + 1))) 22 0 (vl tx (s + 1) (fc tx len (s + 1)))) := kM_tr hg1 (kM_tr kM_at kM_got)
      have hrg : rpM (hset (hset (hset h 0 2 (s + 1)) 0 2 (s + 1 + fc tx len (s + 1))) 22 0 (vl tx (s + 1) (fc tx len (s + 1)))) D := rpM_eq (fun a q1 q2 => by rw [hset_n (by omega), hset_n (by omega), hset_n (by omega)]) hr
      have eg2 : (hset (hset (hset h 0 2 (s + 1)) 0 2 (s + 1 + fc tx len (s + 1))) 22 0 (vl tx (s + 1) (fc tx len (s + 1)))) 0 2 = s + 1 + fc tx len (s + 1) := by rw [hset_n (by decide), hset_s]
      have e220 : (hset (hset (hset h 0 2 (s + 1)) 0 2 (s + 1 + fc tx len (s + 1))) 22 0 (vl tx (s + 1) (fc tx len (s + 1)))) 22 0 = vl tx (s + 1) (fc tx len (s + 1)) := hset_s
      generalize hset (hset (hset h 0 2 (s + 1)) 0 2 (s + 1 + fc tx len (s + 1))) 22 0 (vl tx (s + 1) (fc tx len (s + 1))) = g at kg hrg eg2 e220 ⊢
      have eg0 : g 0 0 = len := by rw [kg.1 0 (by decide)]; exact el
      have eg1 : g 1 = tx := by rw [kg.2.2.2.2.2.2 1 (by decide)]; exact et
      have bad : ¬ (s + 1 + (fc tx len (s + 1) : Int) < len ∧ tx (s + 1 + fc tx len (s + 1)) = 44) → V KM (d + 2) mX11_isItem 82 [some (aR 0), some (aI (tx s)), some (aI 2), some (aI 1), some (aI (0 + 1))] [] g (rI P) := by
        intro z
        have hn : ∀ q, ptm tx len s = some q → good (tx s) q.1 q.2.1 D = none := fun q hq => by
          rw [hp, hpn, if_neg z] at hq
          cases hq
        refine v_X11_isItem_82 _ 2 1 _ g (v_X11_isItem_83 _ 2 1 _ 0 g ⟨by decide, fun _ => v_X11_isItem_99 _ 2 0 _ 1 _ g ⟨by decide, fun _ => v_X11_isItem_121 _ 2 0 _ (-1) _ _ ⟨by omega, by omega, ?_⟩, fun q => absurd rfl q⟩, fun q => absurd q (by decide)⟩)
        rw [hset_s]
        exact ⟨by decide, fun _ => v_X11_isItem_137 _ 2 0 _ 0 _ (z38 2 _ _ (by decide) (by decide) hn (kM_tr kg (kM_tr kM_at kM_got))), fun q => absurd q (by decide)⟩
      refine v_X11_isItem_38 _ 2 1 (0 + 1) g ⟨⟨by decide, by decide⟩, fun q => absurd q (by decide), fun _ => ⟨by decide, fun q => absurd q (by decide), fun _ => ⟨by decide, fun q => absurd q (by decide), fun _ => ?_⟩⟩⟩
      rw [eg2, eg0, eg1]
      refine ⟨⟨⟨by omega, by omega⟩, ⟨by omega, by omega⟩⟩, fun q => bad (by omega), fun q => ⟨by omega, ?_⟩⟩
      have hbi := ht (s + 1 + fc tx len (s + 1)) (by omega) (by omega)
      refine ⟨⟨⟨by omega, by omega⟩, by decide⟩, fun q2 => bad (by omega), fun q2 => v_X11_isItem_78 _ 2 1 _ g (v_X11_isItem_83 _ 2 1 _ 1 g ⟨by decide, fun _ => ?_, fun q => absurd q (by decide)⟩)⟩
      rw [if_pos ⟨q, q2⟩] at hpn
      rw [hpn] at hp
      dsimp only at hp
      rw [eg2]
      have hv2 := vl_ok (tx := tx) (len := len) (i := s + 1 + fc tx len (s + 1) + 1)
      refine Nm 2 (0 + 1) (s + 1 + fc tx len (s + 1) + 1) 1 _ g kg (by decide) (Or.inr rfl) rfl (by omega) (by omega) (fun z r hr2 => ?_) (fun z1 z2 => ?_)
      · rw [hp, pnm_n (Or.inr rfl) z] at hr2
        cases hr2
      · have hle2 : s + 1 + (fc tx len (s + 1) : Int) + 1 + (fc tx len (s + 1 + fc tx len (s + 1) + 1) : Int) ≤ len := by
          have := (fc_dig (tx := tx) (len := len) (i := s + 1 + fc tx len (s + 1) + 1) (j := fc tx len (s + 1 + fc tx len (s + 1) + 1) - 1) (by omega)).1
          omega
        refine v_X11_isItem_38 _ 2 1 _ _ ⟨⟨by decide, by decide⟩, fun _ => ?_, fun q => absurd q (by decide)⟩
        refine L 2 _ (s + 1 + fc tx len (s + 1) + 1 + fc tx len (s + 1 + fc tx len (s + 1) + 1)) (vl tx (s + 1 + fc tx len (s + 1) + 1) (fc tx len (s + 1 + fc tx len (s + 1) + 1))) _ (kM_tr kg (kM_tr kM_at kM_got)) (rpM_eq (fun a q1 q2 => by rw [hset_n (by omega), hset_n (by omega)]) hrg) (by rw [hset_n (by decide), hset_s]) (by omega) hle2 (by omega) (by rw [hset_m (by decide), hset_n (by decide), e220]; exact hv1) (fun _ => by have e9 : ∀ (G : HP) (v : Int), (hset G 22 (0 + 1) v) 22 1 = v := fun G v => hset_s (i := (0 : Int) + 1); rw [e9]; exact hv2) (fun _ => by have e9 : ∀ (G : HP) (v : Int), (hset G 22 (0 + 1) v) 22 1 = v := fun G v => hset_s (i := (0 : Int) + 1); rw [e9]) (fun z => ?_) (fun z => ?_)
        · rw [hset_m (by decide), hset_n (by decide), e220, hp]
          unfold pnm
          rw [if_pos ⟨z1, z.1, z.2⟩]
        · rw [hp]
          unfold pnm
          rw [if_neg (fun y => z y.2)]
theorem c_mfault {d : Nat} {P : Int → HP → Prop} {h : HP} (hl : 0 ≤ h 0 0 ∧ h 0 0 ≤ 300) (ht : ∀ j, 0 ≤ j → j < 300 → -128 ≤ h 1 j ∧ h 1 j ≤ 127)
    (hP : ∀ h', kM h h' → ((parse (h 1) (h 0 0)).1 = -4 → rpM h' (parse (h 1) (h 0 0)).2) → P (parse (h 1) (h 0 0)).1 h') : Ct KM (d + 3) mX11_fault [aR 0] h (rI P) := by
  unfold parse at hP
  have key : ∀ (f : Nat) (s : Int) (D : DD) (g : HP), f ≤ 300 → 0 ≤ s → s ≤ h 0 0 → 300 ≤ s + f → g 0 2 = s → wfD D → kM h g → rpM g D → plp (h 1) (h 0 0) f s D = plp (h 1) (h 0 0) 300 0 D0 → V KM (d + 3) mX11_fault 9 [some (aR 0), none] [] g (rI P) := by
    intro f
    induction f with
    | zero =>
      intro s D g hf hs hsl hfs eg hw hg hr he
      have e0 : g 0 0 = h 0 0 := hg.1 0 (by decide)
      refine v_X11_fault_9 g ?_
      rw [eg, e0]
      refine ⟨⟨⟨by omega, by omega⟩, ⟨by omega, by omega⟩⟩, fun _ => ?_, fun q => absurd q (by omega)⟩
      rw [← he] at hP
      exact hP g hg (fun _ => hr)
    | succ f ih =>
      intro s D g hf hs hsl hfs eg hw hg hr he
      have e0 : g 0 0 = h 0 0 := hg.1 0 (by decide)
      have e1 : g 1 = h 1 := hg.2.2.2.2.2.2 1 (by decide)
      have hpe : plp (h 1) (h 0 0) (f + 1) s D = if s < h 0 0 then (match ptm (h 1) (h 0 0) s with
        | none => (s, D)
        | some q => (match good (h 1 s) q.1 q.2.1 D with
          | none => (s, D)
          | some D' => plp (h 1) (h 0 0) f q.2.2 D')) else (-4, D) := by
        rw [plp]
        rfl
      refine v_X11_fault_9 g ?_
      rw [eg, e0]
      refine ⟨⟨⟨by omega, by omega⟩, ⟨by omega, by omega⟩⟩, fun q => ?_, fun q => ?_⟩
      · rw [hpe, if_neg (by omega)] at he
        rw [← he] at hP
        exact hP g hg (fun _ => hr)
      · rw [hpe, if_pos q] at he
        refine c_isItem (s := s) (len := h 0 0) (tx := h 1) (D := D) eg e0 e1 ⟨hs, q⟩ hl.2 ht hr hw (fun r D' hr1 hg1 h' f1 f2 f3 => bT' ?_) (fun hno h' f1 => bF' ?_)
        · have hin := ptm_in hr1
          rw [hr1] at he
          dsimp only at he
          rw [hg1] at he
          dsimp only at he
          exact ih r.2.2 D' h' (by omega) (by omega) hin.2.2.2.1 (by omega) f2 (good_wf hw hin.1.1 hin.2.1.1 hg1) (kM_tr hg f1) f3 he
        · have e9 : (s, D) = plp (h 1) (h 0 0) 300 0 D0 := by
            rw [← he]
            cases hq : ptm (h 1) (h 0 0) s with
            | none => rfl
            | some r =>
              dsimp only
              rw [hno r hq]
          rw [← e9] at hP
          exact hP h' (kM_tr hg f1) (fun z => absurd z (by show ¬ s = -4; omega))
  refine e_X11_fault h (e_X11_begins _ ⟨by omega, by omega, by omega, by omega, by omega, by omega, key 300 0 D0 _ (by omega) (by omega) (by omega) (by omega) (by simp [hset]) D0_wf ?_ ?_ rfl⟩)
  · refine kM_tr kM_at ⟨fun i hi => by rw [hset_n (by decide), hset_n (by decide), hset_n (by decide), hset_n (by decide), hset_n (by decide), hset_n (by decide)], by simp [hset], by simp [hset], by simp [hset], fun x hx => ⟨by simp [hset], by simp [hset]⟩, fun x hx => ?_, fun a ha => ?_⟩
    · rw [hset_n (by decide), hset_n (by decide), hset_m (by omega), hset_m (by omega), hset_m (by omega), hset_n (by decide)]
    · rw [hset_n (by omega), hset_n (by omega), hset_n (by omega), hset_n (by omega), hset_n (by omega), hset_n (by omega)]
  · refine ⟨by show _ = (0 : Int); simp [hset], by show _ = (0 : Int); simp [hset], by show _ = (0 : Int); simp [hset], by show _ = (0 : Int); simp [hset], by show _ = (0 : Int); simp [hset], by show _ = (0 : Int); simp [hset], fun i hi => absurd hi (by show ¬ i < 0; omega), fun i hi => absurd hi (by show ¬ i < 0; omega), fun i hi => absurd hi (by show ¬ i < 0; omega)⟩
