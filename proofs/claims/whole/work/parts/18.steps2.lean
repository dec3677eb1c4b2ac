/-! pour -/
abbrev okp (l : LV) (i j m : Int) : Prop := (0 ≤ i ∧ i < bn (qb l)) ∧ (0 ≤ j ∧ j < bn (qb l)) ∧ i ≠ j ∧ 1 ≤ m ∧ m ≤ 99
abbrev okq (l : LV) (i j m : Int) : Prop := m ≤ qp l i ∧ qp l j + m ≤ 199
def sp_pour (l : LV) (i j m : Int) : Int := if okp l i j m then (if okq l i j m then qp l j + m else -2) else -1
def pr_pour (p : Int → Int) (i j m : Int) : Int → Int := fun x => if x = j then p j + m else if x = i then p i - m else p x
def sn_pour (l : LV) (i j m : Int) : LV := if okp l i j m ∧ okq l i j m then (qlen l, qtx l, qb l, qr l, qw l, qc l, qcN l, qcP l, pr_pour (qp l) i j m, qt l, qk l, qk0 l, qk1 l, qt0 l, qt1 l) else l
theorem okp_ag {l l' : LV} (ha : AgV l l') (i j m : Int) : okp l i j m ↔ okp l' i j m := by
  have := ha.2.2.1.1
  unfold okp
  rw [this]
theorem okq_ag {l l' : LV} (ha : AgV l l') {i j m : Int} (h : okp l i j m) : okq l i j m ↔ okq l' i j m := by
  have h8 := ha.2.2.2.2.2.2.2.1
  unfold okq
  rw [h8 i h.1.1 h.1.2, h8 j h.2.1.1 h.2.1.2]
theorem pour_ag {l l' : LV} (ha : AgV l l') (i j m : Int) : sp_pour l i j m = sp_pour l' i j m ∧ AgV (sn_pour l i j m) (sn_pour l' i j m) := by
  by_cases h : okp l i j m
  · have h' := (okp_ag ha i j m).mp h
    have h8 := ha.2.2.2.2.2.2.2.1
    unfold sp_pour sn_pour
    by_cases q : okq l i j m
    · have q' := (okq_ag ha h).mp q
      rw [if_pos h, if_pos h', if_pos q, if_pos q', if_pos ⟨h, q⟩, if_pos ⟨h', q'⟩, h8 j h.2.1.1 h.2.1.2]
      obtain ⟨a1, a2, a3, a4, a5, a6, a7, a8, a9, a10, a11, a12⟩ := ha
      refine ⟨rfl, a1, a2, a3, a4, a5, a6, a7, fun x h0 h1 => ?_, a9, a10, a11, a12⟩
      show pr_pour (qp l) i j m x = pr_pour (qp l') i j m x
      unfold pr_pour
      rw [a8 x h0 h1, a8 i h.1.1 h.1.2, a8 j h.2.1.1 h.2.1.2]
    · have q' : ¬ okq l' i j m := fun z => q ((okq_ag ha h).mpr z)
      rw [if_pos h, if_pos h', if_neg q, if_neg q', if_neg (fun z => q z.2), if_neg (fun z => q' z.2)]
      exact ⟨rfl, ha⟩
  · have h' : ¬ okp l' i j m := fun z => h ((okp_ag ha i j m).mpr z)
    unfold sp_pour sn_pour
    rw [if_neg h, if_neg h', if_neg (fun z => h z.1), if_neg (fun z => h' z.1)]
    exact ⟨rfl, ha⟩
theorem pour_W {N : Int} {l : LV} (hw : WV N l) (i j m : Int) : WV N (sn_pour l i j m) := by
  unfold sn_pour
  split
  · rename_i hc
    obtain ⟨b1, b2, b3, b4, b5, b6, b8, b9, b10, b11, b12⟩ := hw
    refine ⟨b1, b2, b3, b4, b5, b6, fun x h0 h1 => ?_, b9, b10, b11, b12⟩
    show 0 ≤ pr_pour (qp l) i j m x ∧ pr_pour (qp l) i j m x ≤ 199
    have q0 := b8 x h0 h1
    have q1 := b8 i hc.1.1.1 hc.1.1.2
    have q2 := b8 j hc.1.2.1.1 hc.1.2.1.2
    have q3 := hc.2
    have q4 := hc.1.2.2.2
    unfold okq at q3
    unfold pr_pour
    split
    · omega
    · split <;> omega
  · exact hw
theorem c_canPour {d : Nat} {P : Int → HP → Prop} {c : Nat} {i j m : Int} {h : HP} (hc : akd KX c 1 8 = true) (hi : 0 ≤ i ∧ i < 8) (hj : 0 ≤ j ∧ j < 8) (hm : 0 ≤ m ∧ m ≤ 1000) (hpi : 0 ≤ h c i ∧ h c i ≤ 1000) (hpj : 0 ≤ h c j ∧ h c j ≤ 1000) (h1 : m ≤ h c i ∧ h c j + m ≤ 199 → P 1 h) (h0 : ¬ (m ≤ h c i ∧ h c j + m ≤ 199) → P 0 h) : Ct KX d mX10_canPour [aR c, aI i, aI j, aI m] h (rI P) :=
  e_X10_canPour c i j m h ⟨⟨hc, hi⟩, ⟨⟨by omega, by omega⟩, ⟨by omega, by omega⟩⟩, fun q => ⟨by omega, h0 (by omega)⟩, fun q => ⟨⟨hc, hj⟩, ⟨⟨by omega, by omega⟩, by decide⟩, fun q2 => ⟨by omega, h0 (by omega)⟩, fun q2 => ⟨by omega, h1 (by omega)⟩⟩⟩
theorem x_pour {d : Nat} {P : Int → HP → Prop} {N i j m : Int} {h : HP} (hW : WV N (vx h)) (hz : cz h) (hi : iR i) (hj : iR j) (hm : iR m) (hP : ∀ h', vx h' = sn_pour (vx h) i j m → cz h' → P (sp_pour (vx h) i j m) h') : Ct KX (d + 2) mX10_pour [aR 0, aI i, aI j, aI m] h (rI P) := by
  have hn : 1 ≤ h 14 2 ∧ h 14 2 ≤ 8 := hW.2.2.1.1
  have b7 : r199 (h 14 2) (h 28) := hW.2.2.2.2.2.2.1
  have bad : ¬ okp (vx h) i j m → P (-1) h := fun hc => by
    have := hP h (by unfold sn_pour; rw [if_neg (fun z => hc z.1)]) hz
    unfold sp_pour at this
    rw [if_neg hc] at this
    exact this
  refine e_X10_pour i j m h (c_xisBin hi ⟨by omega, hn.2⟩ (fun a b => bT (c_xisBin hj ⟨by omega, hn.2⟩ (fun a2 b2 => bT ⟨⟨hi, hj⟩, fun q => bad (fun z => z.2.2.1 q), fun q => c_within hm (by decide) (by decide) (fun a3 b3 => bT' ?_) (fun a3 => bF' (bad (fun z => by have := z.2.2.2; omega)))⟩) (fun a2 => bF (bad (fun z => by have : 0 ≤ j ∧ j < h 14 2 := z.2.1; omega))))) (fun a => bF (bad (fun z => by have : 0 ≤ i ∧ i < h 14 2 := z.1; omega))))
  have hp : okp (vx h) i j m := ⟨⟨a, b⟩, ⟨a2, b2⟩, q, a3, b3⟩
  have pi := b7 i a b
  have pj := b7 j a2 b2
  refine c_canPour (by decide) ⟨a, by omega⟩ ⟨a2, by omega⟩ ⟨by omega, by omega⟩ ⟨by omega, by omega⟩ ⟨by omega, by omega⟩ (fun hq => bT' ⟨by omega, by omega, by omega, by omega, by omega, ?_⟩) (fun hq => bF' ?_)
  · have hq : okq (vx h) i j m := hq
    have ej : (hset h 28 i (h 28 i - m)) 28 j = h 28 j := hset_m (fun z => q z.symm)
    rw [ej, hset_s]
    have := hP (hset (hset h 28 i (h 28 i - m)) 28 j (h 28 j + m)) ?_ (fun k h0 h1 => by rw [hset_n (by decide), hset_n (by decide)]; exact hz k h0 h1)
    · unfold sp_pour at this
      rw [if_pos hp, if_pos hq] at this
      exact this
    · unfold sn_pour
      rw [if_pos ⟨hp, hq⟩]
      have e : ∀ a, a ≠ 28 → (hset (hset h 28 i (h 28 i - m)) 28 j (h 28 j + m)) a = h a := fun a ha => by rw [hset_n ha, hset_n ha]
      have e28 : (hset (hset h 28 i (h 28 i - m)) 28 j (h 28 j + m)) 28 = pr_pour (h 28) i j m := by
        funext x
        unfold pr_pour
        by_cases x1 : x = j
        · subst x1; rw [hset_s, if_pos rfl]
        · rw [hset_m x1, if_neg x1]
          by_cases x2 : x = i
          · subst x2; rw [hset_s, if_pos rfl]
          · rw [hset_m x2, if_neg x2]
      dsimp only [vx, bx]
      rw [e 0 (by decide), e 1 (by decide), e 14 (by decide), e 16 (by decide), e 19 (by decide), e 20 (by decide), e 21 (by decide), e 22 (by decide), e 23 (by decide), e 31 (by decide), e 32 (by decide), e 33 (by decide), e28]
  · have hq : ¬ okq (vx h) i j m := hq
    have := hP h (by unfold sn_pour; rw [if_neg (fun z => hq z.2)]) hz
    unfold sp_pour at this
    rw [if_pos hp, if_neg hq] at this
    exact this
theorem m_pour {d : Nat} {P : Int → HP → Prop} {N i j m : Int} {g : HP} (hW : WV N (vm g)) (hz : cm g) (hi : iR i) (hj : iR j) (hm : iR m) (hP : ∀ h', vm h' = sn_pour (vm g) i j m → cm h' → P (sp_pour (vm g) i j m) h') : Ct KM (d + 2) mX11_pour [aR 0, aI i, aI j, aI m] g (rI P) := by
  have hn : 1 ≤ g 2 0 ∧ g 2 0 ≤ 8 := hW.2.2.1.1
  have b7 : r199 (g 2 0) (g 13) := hW.2.2.2.2.2.2.1
  have bad : ¬ okp (vm g) i j m → P (-1) g := fun hc => by
    have := hP g (by unfold sn_pour; rw [if_neg (fun z => hc z.1)]) hz
    unfold sp_pour at this
    rw [if_neg hc] at this
    exact this
  refine e_X11_pour i j m g (c_misBin hi ⟨by omega, hn.2⟩ (fun a b => bT (c_misBin hj ⟨by omega, hn.2⟩ (fun a2 b2 => bT ⟨⟨hi, hj⟩, fun q => bad (fun z => z.2.2.1 q), fun q => ⟨hm, c_inI hm (by decide) (by decide) (fun a3 b3 => bT' ?_) (fun a3 => bF' (bad (fun z => by have := z.2.2.2; omega)))⟩⟩) (fun a2 => bF (bad (fun z => by have : 0 ≤ j ∧ j < g 2 0 := z.2.1; omega))))) (fun a => bF (bad (fun z => by have : 0 ≤ i ∧ i < g 2 0 := z.1; omega))))
  have hp : okp (vm g) i j m := ⟨⟨a, b⟩, ⟨a2, b2⟩, q, a3, b3⟩
  have pi := b7 i a b
  have pj := b7 j a2 b2
  have no : ¬ okq (vm g) i j m → P (-2) g := fun hq => by
    have := hP g (by unfold sn_pour; rw [if_neg (fun z => hq z.2)]) hz
    unfold sp_pour at this
    rw [if_pos hp, if_neg hq] at this
    exact this
  refine ⟨by omega, ⟨⟨by omega, by omega⟩, hm⟩, fun q2 => no (fun z => by have : m ≤ g 13 i := z.1; omega), fun q2 => ⟨by omega, ⟨⟨by omega, by omega⟩, by decide⟩, fun q3 => ⟨by omega, by omega, by omega, by omega, by omega, ?_⟩, fun q3 => no (fun z => by have : g 13 j + m ≤ 199 := z.2; omega)⟩⟩
  have hq : okq (vm g) i j m := ⟨q2, q3⟩
  have ej : (hset g 13 i (g 13 i - m)) 13 j = g 13 j := hset_m (fun z => q z.symm)
  rw [ej, hset_s]
  have := hP (hset (hset g 13 i (g 13 i - m)) 13 j (g 13 j + m)) ?_ (by show (hset (hset g 13 i (g 13 i - m)) 13 j (g 13 j + m)) 0 15 = 0; rw [hset_n (by decide), hset_n (by decide)]; exact hz)
  · unfold sp_pour at this
    rw [if_pos hp, if_pos hq] at this
    exact this
  · unfold sn_pour
    rw [if_pos ⟨hp, hq⟩]
    have e : ∀ a, a ≠ 13 → (hset (hset g 13 i (g 13 i - m)) 13 j (g 13 j + m)) a = g a := fun a ha => by rw [hset_n ha, hset_n ha]
    have e13 : (hset (hset g 13 i (g 13 i - m)) 13 j (g 13 j + m)) 13 = pr_pour (g 13) i j m := by
      funext x
      unfold pr_pour
      by_cases x1 : x = j
      · subst x1; rw [hset_s, if_pos rfl]
      · rw [hset_m x1, if_neg x1]
        by_cases x2 : x = i
        · subst x2; rw [hset_s, if_pos rfl]
        · rw [hset_m x2, if_neg x2]
    dsimp only [vm, bm]
    rw [e 0 (by decide), e 1 (by decide), e 2 (by decide), e 4 (by decide), e 5 (by decide), e 6 (by decide), e 8 (by decide), e 9 (by decide), e 10 (by decide), e 11 (by decide), e 12 (by decide), e 14 (by decide), e 15 (by decide), e13]
/-! keep, back -/
def sp_keep (l : LV) : Int := if qk l < 2 then qk l + 1 else -3
def sn_keep (l : LV) : LV := if qk l = 0 then (qlen l, qtx l, qb l, qr l, qw l, qc l, qcN l, qcP l, qp l, qt l, 1, qp l, qk1 l, qt l, qt1 l) else if qk l = 1 then (qlen l, qtx l, qb l, qr l, qw l, qc l, qcN l, qcP l, qp l, qt l, 2, qk0 l, qp l, qt0 l, qt l) else l
def sp_back (l : LV) : Int := if 0 < qk l then qk l - 1 else -2
def sn_back (l : LV) : LV := if qk l = 1 then (qlen l, qtx l, qb l, qr l, qw l, qc l, qcN l, qcP l, qk0 l, qt0 l, 0, qk0 l, qk1 l, qt0 l, qt1 l) else if qk l = 2 then (qlen l, qtx l, qb l, qr l, qw l, qc l, qcN l, qcP l, qk1 l, qt1 l, 1, qk0 l, qk1 l, qt0 l, qt1 l) else l
theorem keep_ag {l l' : LV} (ha : AgV l l') : sp_keep l = sp_keep l' ∧ AgV (sn_keep l) (sn_keep l') := by
  have hk := ha.2.2.2.2.2.2.2.2.2.1
  unfold sp_keep sn_keep
  rw [hk]
  refine ⟨rfl, ?_⟩
  obtain ⟨a1, a2, a3, a4, a5, a6, a7, a8, a9, a10, a11, a12⟩ := id ha
  split
  · exact ⟨a1, a2, a3, a4, a5, a6, a7, a8, a9, rfl, fun _ => ⟨a8, a9⟩, fun q => absurd q (by show ¬ (1 : Int) < 1; omega)⟩
  · split
    · exact ⟨a1, a2, a3, a4, a5, a6, a7, a8, a9, rfl, fun _ => a11 (by omega), fun _ => ⟨a8, a9⟩⟩
    · exact ha
theorem back_ag {l l' : LV} (ha : AgV l l') : sp_back l = sp_back l' ∧ AgV (sn_back l) (sn_back l') := by
  have hk := ha.2.2.2.2.2.2.2.2.2.1
  unfold sp_back sn_back
  rw [hk]
  refine ⟨rfl, ?_⟩
  obtain ⟨a1, a2, a3, a4, a5, a6, a7, a8, a9, a10, a11, a12⟩ := id ha
  split
  · exact ⟨a1, a2, a3, a4, a5, a6, a7, (a11 (by omega)).1, (a11 (by omega)).2, rfl, fun q => absurd q (by show ¬ (0 : Int) < 0; omega), fun q => absurd q (by show ¬ (1 : Int) < 0; omega)⟩
  · split
    · exact ⟨a1, a2, a3, a4, a5, a6, a7, (a12 (by omega)).1, (a12 (by omega)).2, rfl, fun _ => a11 (by omega), fun q => absurd q (by show ¬ (1 : Int) < 1; omega)⟩
    · exact ha
theorem keep_W {N : Int} {l : LV} (hw : WV N l) : WV N (sn_keep l) := by
  unfold sn_keep
  obtain ⟨b1, b2, b3, b4, b5, b6, b8, b9, b10, b11, b12⟩ := id hw
  split
  · exact ⟨b1, b2, b3, b4, b5, b6, b8, b9, by show (0 : Int) ≤ 1 ∧ (1 : Int) ≤ 2; omega, fun _ => ⟨b8, b9⟩, fun q => absurd q (by show ¬ (1 : Int) < 1; omega)⟩
  · split
    · exact ⟨b1, b2, b3, b4, b5, b6, b8, b9, by show (0 : Int) ≤ 2 ∧ (2 : Int) ≤ 2; omega, fun _ => b11 (by omega), fun _ => ⟨b8, b9⟩⟩
    · exact hw
theorem back_W {N : Int} {l : LV} (hw : WV N l) : WV N (sn_back l) := by
  unfold sn_back
  obtain ⟨b1, b2, b3, b4, b5, b6, b8, b9, b10, b11, b12⟩ := id hw
  split
  · exact ⟨b1, b2, b3, b4, b5, b6, (b11 (by omega)).1, (b11 (by omega)).2, by show (0 : Int) ≤ 0 ∧ (0 : Int) ≤ 2; omega, fun q => absurd q (by show ¬ (0 : Int) < 0; omega), fun q => absurd q (by show ¬ (1 : Int) < 0; omega)⟩
  · split
    · exact ⟨b1, b2, b3, b4, b5, b6, (b12 (by omega)).1, (b12 (by omega)).2, by show (0 : Int) ≤ 1 ∧ (1 : Int) ≤ 2; omega, fun _ => b11 (by omega), fun q => absurd q (by show ¬ (1 : Int) < 1; omega)⟩
    · exact hw
/-- the class's view out of its cells -/
theorem vx_ag {h : HP} {l : LV} (a1 : h 0 1 = qlen l) (a2 : ∀ i, 0 ≤ i → i < 300 → h 1 i = qtx l i) (a3 : bx h = qb l) (a4 : h 14 4 = qr l) (a5 : h 14 8 = qw l) (a6 : h 14 11 = qc l) (a7 : h 19 = qcN l) (a7b : h 20 = qcP l) (a8 : eqN (h 14 2) (h 28) (qp l)) (a9 : h 0 7 = qt l) (a10 : h 0 11 = qk l) (a11 : 0 < h 0 11 → eqN (h 14 2) (h 31) (qk0 l) ∧ h 33 0 = qt0 l) (a12 : 1 < h 0 11 → eqN (h 14 2) (h 32) (qk1 l) ∧ h 33 1 = qt1 l) : AgV (vx h) l :=
  ⟨a1, a2, by show agB (bx h) (qb l); rw [a3]; exact agB_rf _, a4, a5, a6, fun c _ _ => ⟨by show h 19 c = _; rw [a7], by show h 20 c = _; rw [a7b]⟩, a8, a9, a10, a11, a12⟩
theorem vm_ag {g : HP} {l : LV} (a1 : g 0 0 = qlen l) (a2 : ∀ i, 0 ≤ i → i < 300 → g 1 i = qtx l i) (a3 : bm g = qb l) (a4 : g 5 1 = qr l) (a5 : g 6 0 = qw l) (a6 : g 8 0 = qc l) (a7 : ∀ c, g 9 (2 * c) = qcN l c) (a7b : ∀ c, g 9 (2 * c + 1) = qcP l c) (a8 : eqN (g 2 0) (g 13) (qp l)) (a9 : g 0 17 = qt l) (a10 : g 0 18 = qk l) (a11 : 0 < g 0 18 → eqN (g 2 0) (g 14) (qk0 l) ∧ g 15 0 = qt0 l) (a12 : 1 < g 0 18 → eqN (g 2 0) (fun x => g 14 (8 + x)) (qk1 l) ∧ g 15 1 = qt1 l) : AgV (vm g) l :=
  ⟨a1, a2, by show agB (bm g) (qb l); rw [a3]; exact agB_rf _, a4, a5, a6, fun c _ _ => ⟨a7 c, a7b c⟩, a8, a9, a10, a11, a12⟩
theorem x_keep {d : Nat} {P : Int → HP → Prop} {N : Int} {h : HP} (hW : WV N (vx h)) (hz : cz h) (hP : ∀ h', AgV (vx h') (sn_keep (vx h)) → cz h' → P (sp_keep (vx h)) h') : Ct KX (d + 2) mX10_keep [aR 0] h (rI P) := by
  obtain ⟨b1, b2, b3, b4, b5, b6, b7, b8, b9, b10, b11⟩ := hW
  have hk : 0 ≤ h 0 11 ∧ h 0 11 ≤ 2 := b9
  have hn : 1 ≤ h 14 2 ∧ h 14 2 ≤ 8 := b3.1
  unfold sp_keep sn_keep at hP
  dsimp only [qk, vx] at hP
  refine e_X10_keep h ⟨⟨⟨by omega, by omega⟩, by decide⟩, fun q => ⟨by omega, ?_⟩, fun q => ?_⟩
  · rcases (show h 0 11 = 0 ∨ h 0 11 = 1 by omega) with e | e
    · rw [show 31 + (h 0 11).toNat = 31 by rw [e]; rfl]
      refine c_copyBins (by decide) (by decide) ?_
      have f0 : (hcpy h 28 31 8) 0 = h 0 := hcpy_n (by decide)
      rw [f0]
      refine ⟨by omega, ?_⟩
      rw [if_pos (show h 0 11 < 2 by omega), if_pos e] at hP
      refine hP _ (vx_ag ?_ ?_ ?_ ?_ ?_ ?_ ?_ ?_ ?_ ?_ ?_ ?_ ?_) ?_
      · simp [hset, hcpy, hrow]
      · intro i _ _; simp [hset, hcpy, hrow]
      · show (_, _, _, _, _, _, _) = ((h 14 2, h 14 15, h 14 5, h 21, h 22, h 23, h 16) : BB); simp [hset, hcpy, hrow]; refine ⟨?_, ?_, ?_, ?_⟩ <;> (funext c; simp [hset, hrow])
      · simp [hset, hcpy, hrow]
      · simp [hset, hcpy, hrow]
      · simp [hset, hcpy, hrow]
      · funext c; simp [hset, hcpy, hrow]
      · funext c; simp [hset, hcpy, hrow]
      · intro x _ _; simp [hset, hcpy, hrow]
      · simp [hset, hcpy, hrow]
      · simp [hset, hcpy, hrow, e]
      · intro _
        refine ⟨fun x q0 q1 => ?_, ?_⟩
        · have q1 : x < h 14 2 := by simpa [hset, hcpy, hrow] using q1
          rw [hset_n (by decide), hset_n (by decide), hcpy_s q0 (by omega)]
        · simp [hset, e]
      · intro q2
        rw [hset_s] at q2
        omega
      · intro k q0 q1
        rw [hset_n (by decide), hset_n (by decide), hcpy_n (by decide)]
        exact hz k q0 q1
    · rw [show 31 + (h 0 11).toNat = 32 by rw [e]; rfl]
      refine c_copyBins (by decide) (by decide) ?_
      have f0 : (hcpy h 28 32 8) 0 = h 0 := hcpy_n (by decide)
      rw [f0]
      refine ⟨by omega, ?_⟩
      rw [if_pos (show h 0 11 < 2 by omega), if_neg (by omega), if_pos e] at hP
      refine hP _ (vx_ag ?_ ?_ ?_ ?_ ?_ ?_ ?_ ?_ ?_ ?_ ?_ ?_ ?_) ?_
      · simp [hset, hcpy, hrow]
      · intro i _ _; simp [hset, hcpy, hrow]
      · show (_, _, _, _, _, _, _) = ((h 14 2, h 14 15, h 14 5, h 21, h 22, h 23, h 16) : BB); simp [hset, hcpy, hrow]; refine ⟨?_, ?_, ?_, ?_⟩ <;> (funext c; simp [hset, hrow])
      · simp [hset, hcpy, hrow]
      · simp [hset, hcpy, hrow]
      · simp [hset, hcpy, hrow]
      · funext c; simp [hset, hcpy, hrow]
      · funext c; simp [hset, hcpy, hrow]
      · intro x _ _; simp [hset, hcpy, hrow]
      · simp [hset, hcpy, hrow]
      · simp [hset, hcpy, hrow, e]
      · intro _
        refine ⟨fun x q0 q1 => ?_, ?_⟩
        · simp [hset, hcpy, hrow]
        · simp [hset, hcpy, hrow, e]
      · intro _
        refine ⟨fun x q0 q1 => ?_, ?_⟩
        · have q1 : x < h 14 2 := by simpa [hset, hcpy, hrow] using q1
          rw [hset_n (by decide), hset_n (by decide), hcpy_s q0 (by omega)]
        · simp [hset, e]
      · intro k q0 q1
        rw [hset_n (by decide), hset_n (by decide), hcpy_n (by decide)]
        exact hz k q0 q1
  · rw [if_neg (show ¬ h 0 11 < 2 by omega), if_neg (by omega), if_neg (by omega)] at hP
    exact hP h (AgV_rf _) hz
theorem x_back {d : Nat} {P : Int → HP → Prop} {N : Int} {h : HP} (hW : WV N (vx h)) (hz : cz h) (hP : ∀ h', AgV (vx h') (sn_back (vx h)) → cz h' → P (sp_back (vx h)) h') : Ct KX (d + 2) mX10_back [aR 0] h (rI P) := by
  obtain ⟨b1, b2, b3, b4, b5, b6, b7, b8, b9, b10, b11⟩ := hW
  have hk : 0 ≤ h 0 11 ∧ h 0 11 ≤ 2 := b9
  have hn : 1 ≤ h 14 2 ∧ h 14 2 ≤ 8 := b3.1
  unfold sp_back sn_back at hP
  dsimp only [qk, vx] at hP
  refine e_X10_back h ⟨⟨by omega, by omega⟩, fun q => ⟨by omega, ?_⟩, fun q => ?_⟩
  · rw [if_pos q] at hP
    rcases (show h 0 11 = 1 ∨ h 0 11 = 2 by omega) with e | e
    · rw [show 31 + (h 0 11 - 1).toNat = 31 by rw [e]; rfl]
      refine c_copyBins (by decide) (by decide) ?_
      have f0 : (hcpy (hset h 0 11 (h 0 11 - 1)) 31 28 8) 0 11 = h 0 11 - 1 := by rw [hcpy_n (by decide), hset_s]
      rw [f0]
      refine ⟨by omega, ?_⟩
      rw [if_pos e] at hP
      refine hP _ (vx_ag ?_ ?_ ?_ ?_ ?_ ?_ ?_ ?_ ?_ ?_ ?_ ?_ ?_) ?_
      · simp [hset, hcpy, hrow]
      · intro i _ _; simp [hset, hcpy, hrow]
      · show (_, _, _, _, _, _, _) = ((h 14 2, h 14 15, h 14 5, h 21, h 22, h 23, h 16) : BB); simp [hset, hcpy, hrow]; refine ⟨?_, ?_, ?_, ?_⟩ <;> (funext c; simp [hset, hrow])
      · simp [hset, hcpy, hrow]
      · simp [hset, hcpy, hrow]
      · simp [hset, hcpy, hrow]
      · funext c; simp [hset, hcpy, hrow]
      · funext c; simp [hset, hcpy, hrow]
      · intro x q0 q1
        have q1 : x < h 14 2 := by simpa [hset, hcpy, hrow] using q1
        rw [hset_n (by decide), hcpy_s q0 (by omega), hset_n (by decide)]
      · simp [hset, hcpy, hrow, e]
      · simp [hset, hcpy, hrow, e]
      · intro q2
        simp [hset, hcpy, hrow, e] at q2
      · intro q2
        simp [hset, hcpy, hrow, e] at q2
      · intro k q0 q1
        rw [hset_n (by decide), hcpy_n (by decide), hset_n (by decide)]
        exact hz k q0 q1
    · rw [show 31 + (h 0 11 - 1).toNat = 32 by rw [e]; rfl]
      refine c_copyBins (by decide) (by decide) ?_
      have f0 : (hcpy (hset h 0 11 (h 0 11 - 1)) 32 28 8) 0 11 = h 0 11 - 1 := by rw [hcpy_n (by decide), hset_s]
      rw [f0]
      refine ⟨by omega, ?_⟩
      rw [if_neg (by omega), if_pos e] at hP
      refine hP _ (vx_ag ?_ ?_ ?_ ?_ ?_ ?_ ?_ ?_ ?_ ?_ ?_ ?_ ?_) ?_
      · simp [hset, hcpy, hrow]
      · intro i _ _; simp [hset, hcpy, hrow]
      · show (_, _, _, _, _, _, _) = ((h 14 2, h 14 15, h 14 5, h 21, h 22, h 23, h 16) : BB); simp [hset, hcpy, hrow]; refine ⟨?_, ?_, ?_, ?_⟩ <;> (funext c; simp [hset, hrow])
      · simp [hset, hcpy, hrow]
      · simp [hset, hcpy, hrow]
      · simp [hset, hcpy, hrow]
      · funext c; simp [hset, hcpy, hrow]
      · funext c; simp [hset, hcpy, hrow]
      · intro x q0 q1
        have q1 : x < h 14 2 := by simpa [hset, hcpy, hrow] using q1
        rw [hset_n (by decide), hcpy_s q0 (by omega), hset_n (by decide)]
      · simp [hset, hcpy, hrow, e]
      · simp [hset, hcpy, hrow, e]
      · intro _
        exact ⟨fun x _ _ => by simp [hset, hcpy, hrow], by simp [hset, hcpy, hrow]⟩
      · intro q2
        simp [hset, hcpy, hrow, e] at q2
      · intro k q0 q1
        rw [hset_n (by decide), hcpy_n (by decide), hset_n (by decide)]
        exact hz k q0 q1
  · rw [if_neg (by omega), if_neg (by omega), if_neg (by omega)] at hP
    exact hP h (AgV_rf _) hz
