/-! keep, back of the model; write, wipe -/
theorem m_keep {d : Nat} {P : Int → HP → Prop} {N : Int} {g : HP} (hW : WV N (vm g)) (hz : cm g) (hP : ∀ h', AgV (vm h') (sn_keep (vm g)) → cm h' → P (sp_keep (vm g)) h') : Ct KM d mX11_keep [aR 0] g (rI P) := by
  obtain ⟨b1, b2, b3, b4, b5, b6, b7, b8, b9, b10, b11⟩ := hW
  have hk : 0 ≤ g 0 18 ∧ g 0 18 ≤ 2 := b9
  have hn : 1 ≤ g 2 0 ∧ g 2 0 ≤ 8 := b3.1
  unfold sp_keep sn_keep at hP
  dsimp only [qk, vm] at hP
  have key : g 0 18 < 2 → ∀ (m : Nat) (k : Int) (f : HP), 0 ≤ k → k + m = 8 → (∀ a, a ≠ 14 → f a = g a) → (∀ x, (x < 8 * g 0 18 ∨ 8 * g 0 18 + k ≤ x) → f 14 x = g 14 x) → (∀ x, 0 ≤ x → x < k → f 14 (8 * g 0 18 + x) = g 13 x) → V KM d mX11_keep 13 [some (aR 0), some (aI k)] [] f (rI P) := by
    intro hk2 m
    induction m with
    | zero =>
      intro k f h0 hkm hf ho hx
      have f0 : f 0 = g 0 := hf 0 (by decide)
      refine v_X11_keep_13 k f ⟨⟨⟨by omega, by omega⟩, by decide⟩, fun _ => ⟨by rw [f0]; omega, ?_⟩, fun q => absurd q (by omega)⟩
      rw [f0]
      rw [if_pos hk2] at hP
      have e : ∀ a, a ≠ 0 → a ≠ 14 → a ≠ 15 → (hset (hset f 15 (g 0 18) (g 0 17)) 0 18 (g 0 18 + 1)) a = g a := fun a q1 q2 q3 => by rw [hset_n q1, hset_n q3]; exact hf a q2
      have e0 : ∀ i, i ≠ 18 → (hset (hset f 15 (g 0 18) (g 0 17)) 0 18 (g 0 18 + 1)) 0 i = g 0 i := fun i q => by rw [hset_m q, hset_n (by decide), f0]
      have e18 : (hset (hset f 15 (g 0 18) (g 0 17)) 0 18 (g 0 18 + 1)) 0 18 = g 0 18 + 1 := hset_s
      have e14 : (hset (hset f 15 (g 0 18) (g 0 17)) 0 18 (g 0 18 + 1)) 14 = f 14 := by rw [hset_n (by decide), hset_n (by decide)]
      have e15 : (hset (hset f 15 (g 0 18) (g 0 17)) 0 18 (g 0 18 + 1)) 15 (g 0 18) = g 0 17 := by rw [hset_n (by decide), hset_s]
      have e15n : ∀ i, i ≠ g 0 18 → (hset (hset f 15 (g 0 18) (g 0 17)) 0 18 (g 0 18 + 1)) 15 i = g 15 i := fun i q => by rw [hset_n (by decide), hset_m q, hf 15 (by decide)]
      generalize hset (hset f 15 (g 0 18) (g 0 17)) 0 18 (g 0 18 + 1) = h2 at e e0 e18 e14 e15 e15n
      have eb : bm h2 = bm g := by
        dsimp only [bm]
        rw [e0 11 (by decide), e 2 (by decide) (by decide) (by decide), e 5 (by decide) (by decide) (by decide), e 10 (by decide) (by decide) (by decide), e 11 (by decide) (by decide) (by decide), e 12 (by decide) (by decide) (by decide), e 4 (by decide) (by decide) (by decide)]
      have en : h2 2 0 = g 2 0 := by rw [e 2 (by decide) (by decide) (by decide)]
      have hc2 : cm h2 := by show h2 0 15 = 0; rw [e0 15 (by decide)]; exact hz
      rcases (show g 0 18 = 0 ∨ g 0 18 = 1 by omega) with z | z
      · rw [if_pos z] at hP
        refine hP h2 (vm_ag (e0 0 (by decide)) (fun i _ _ => ?_) eb ?_ ?_ ?_ (fun c => ?_) (fun c => ?_) (fun x q0 q1 => ?_) (e0 17 (by decide)) ?_ (fun _ => ⟨fun x q0 q1 => ?_, ?_⟩) (fun q => ?_)) hc2
        · show h2 1 i = g 1 i; rw [e 1 (by decide) (by decide) (by decide)]
        · show h2 5 1 = g 5 1; rw [e 5 (by decide) (by decide) (by decide)]
        · show h2 6 0 = g 6 0; rw [e 6 (by decide) (by decide) (by decide)]
        · show h2 8 0 = g 8 0; rw [e 8 (by decide) (by decide) (by decide)]
        · show h2 9 _ = g 9 _; rw [e 9 (by decide) (by decide) (by decide)]
        · show h2 9 _ = g 9 _; rw [e 9 (by decide) (by decide) (by decide)]
        · show h2 13 x = g 13 x; rw [e 13 (by decide) (by decide) (by decide)]
        · show h2 0 18 = 1; rw [e18, z]; rfl
        · show h2 14 x = g 13 x
          have q2 : x < g 2 0 := by rw [← en]; exact q1
          have := hx x q0 (by omega)
          rw [e14]
          rwa [z, show 8 * 0 + x = x by omega] at this
        · show h2 15 0 = g 0 17
          rw [z] at e15; exact e15
        · rw [e18, z] at q; omega
      · rw [if_neg (by omega), if_pos z] at hP
        refine hP h2 (vm_ag (e0 0 (by decide)) (fun i _ _ => ?_) eb ?_ ?_ ?_ (fun c => ?_) (fun c => ?_) (fun x q0 q1 => ?_) (e0 17 (by decide)) ?_ (fun _ => ⟨fun x q0 q1 => ?_, ?_⟩) (fun _ => ⟨fun x q0 q1 => ?_, ?_⟩)) hc2
        · show h2 1 i = g 1 i; rw [e 1 (by decide) (by decide) (by decide)]
        · show h2 5 1 = g 5 1; rw [e 5 (by decide) (by decide) (by decide)]
        · show h2 6 0 = g 6 0; rw [e 6 (by decide) (by decide) (by decide)]
        · show h2 8 0 = g 8 0; rw [e 8 (by decide) (by decide) (by decide)]
        · show h2 9 _ = g 9 _; rw [e 9 (by decide) (by decide) (by decide)]
        · show h2 9 _ = g 9 _; rw [e 9 (by decide) (by decide) (by decide)]
        · show h2 13 x = g 13 x; rw [e 13 (by decide) (by decide) (by decide)]
        · show h2 0 18 = 2; rw [e18, z]; rfl
        · show h2 14 x = g 14 x
          have q2 : x < g 2 0 := by rw [← en]; exact q1
          rw [e14]
          exact ho x (by omega)
        · show h2 15 0 = g 15 0
          exact e15n 0 (by omega)
        · show h2 14 (8 + x) = g 13 x
          have q2 : x < g 2 0 := by rw [← en]; exact q1
          have := hx x q0 (by omega)
          rw [e14]
          rwa [z, show 8 * 1 + x = 8 + x by omega] at this
        · show h2 15 1 = g 0 17
          rw [z] at e15; exact e15
    | succ m ih =>
      intro k f h0 hkm hf ho hx
      have f0 : f 0 = g 0 := hf 0 (by decide)
      refine v_X11_keep_13 k f ⟨⟨⟨by omega, by omega⟩, by decide⟩, fun q => absurd q (by omega), fun _ => ⟨by omega, by rw [f0]; omega, ?_⟩⟩
      rw [f0]
      refine ih (k + 1) _ (by omega) (by omega) (fun a q => by rw [hset_n q]; exact hf a q) (fun x q => ?_) (fun x q0 q1 => ?_)
      · rw [hset_m (by omega)]
        exact ho x (by omega)
      · by_cases e : x = k
        · subst e; rw [hset_s, hf 13 (by decide)]
        · rw [hset_m (by omega)]
          exact hx x q0 (by omega)
  refine e_X11_keep g ⟨⟨⟨by omega, by omega⟩, by decide⟩, fun q => key (by omega) 8 0 g (by omega) (by omega) (fun _ _ => rfl) (fun _ _ => rfl) (fun x q0 q1 => absurd q1 (by omega)), fun q => ?_⟩
  rw [if_neg (show ¬ g 0 18 < 2 by omega), if_neg (by omega), if_neg (by omega)] at hP
  exact hP g (AgV_rf _) hz
theorem m_back {d : Nat} {P : Int → HP → Prop} {N : Int} {g : HP} (hW : WV N (vm g)) (hz : cm g) (hP : ∀ h', AgV (vm h') (sn_back (vm g)) → cm h' → P (sp_back (vm g)) h') : Ct KM d mX11_back [aR 0] g (rI P) := by
  obtain ⟨b1, b2, b3, b4, b5, b6, b7, b8, b9, b10, b11⟩ := hW
  have hk : 0 ≤ g 0 18 ∧ g 0 18 ≤ 2 := b9
  have hn : 1 ≤ g 2 0 ∧ g 2 0 ≤ 8 := b3.1
  unfold sp_back sn_back at hP
  dsimp only [qk, vm] at hP
  have key : 0 < g 0 18 → ∀ (m : Nat) (k : Int) (f : HP), 0 ≤ k → k + m = 8 → (∀ a, a ≠ 0 → a ≠ 13 → f a = g a) → (∀ i, i ≠ 18 → f 0 i = g 0 i) → f 0 18 = g 0 18 - 1 → (∀ x, 0 ≤ x → x < k → f 13 x = g 14 (8 * (g 0 18 - 1) + x)) → V KM d mX11_back 22 [some (aR 0), some (aI k)] [] f (rI P) := by
    intro hk2 m
    induction m with
    | zero =>
      intro k f h0 hkm hf hf0 hf18 hx
      refine v_X11_back_22 k f ⟨⟨⟨by omega, by omega⟩, by decide⟩, fun _ => ⟨by rw [hf18]; omega, ?_⟩, fun q => absurd q (by omega)⟩
      rw [hf18, hf 15 (by decide) (by decide)]
      rw [if_pos hk2] at hP
      have e : ∀ a, a ≠ 0 → a ≠ 13 → (hset f 0 17 (g 15 (g 0 18 - 1))) a = g a := fun a q1 q2 => by rw [hset_n q1]; exact hf a q1 q2
      have e0 : ∀ i, i ≠ 17 → i ≠ 18 → (hset f 0 17 (g 15 (g 0 18 - 1))) 0 i = g 0 i := fun i q q2 => by rw [hset_m q]; exact hf0 i q2
      have e18 : (hset f 0 17 (g 15 (g 0 18 - 1))) 0 18 = g 0 18 - 1 := by rw [hset_m (by decide)]; exact hf18
      have e17 : (hset f 0 17 (g 15 (g 0 18 - 1))) 0 17 = g 15 (g 0 18 - 1) := hset_s
      have e13 : (hset f 0 17 (g 15 (g 0 18 - 1))) 13 = f 13 := by rw [hset_n (by decide)]
      generalize hset f 0 17 (g 15 (g 0 18 - 1)) = h2 at e e0 e18 e17 e13
      have eb : bm h2 = bm g := by
        dsimp only [bm]
        rw [e0 11 (by decide) (by decide), e 2 (by decide) (by decide), e 5 (by decide) (by decide), e 10 (by decide) (by decide), e 11 (by decide) (by decide), e 12 (by decide) (by decide), e 4 (by decide) (by decide)]
      have en : h2 2 0 = g 2 0 := by rw [e 2 (by decide) (by decide)]
      have hc2 : cm h2 := by show h2 0 15 = 0; rw [e0 15 (by decide) (by decide)]; exact hz
      rcases (show g 0 18 = 1 ∨ g 0 18 = 2 by omega) with z | z
      · rw [if_pos z] at hP
        refine hP h2 (vm_ag (e0 0 (by decide) (by decide)) (fun i _ _ => ?_) eb ?_ ?_ ?_ (fun c => ?_) (fun c => ?_) (fun x q0 q1 => ?_) ?_ ?_ (fun q => ?_) (fun q => ?_)) hc2
        · show h2 1 i = g 1 i; rw [e 1 (by decide) (by decide)]
        · show h2 5 1 = g 5 1; rw [e 5 (by decide) (by decide)]
        · show h2 6 0 = g 6 0; rw [e 6 (by decide) (by decide)]
        · show h2 8 0 = g 8 0; rw [e 8 (by decide) (by decide)]
        · show h2 9 _ = g 9 _; rw [e 9 (by decide) (by decide)]
        · show h2 9 _ = g 9 _; rw [e 9 (by decide) (by decide)]
        · show h2 13 x = g 14 x
          have q2 : x < g 2 0 := by rw [← en]; exact q1
          rw [e13, hx x q0 (by omega), z, show 8 * ((1 : Int) - 1) + x = x by omega]
        · show h2 0 17 = g 15 0; rw [e17, z]; rfl
        · show h2 0 18 = 0; rw [e18, z]; rfl
        · rw [e18, z] at q; omega
        · rw [e18, z] at q; omega
      · rw [if_neg (by omega), if_pos z] at hP
        refine hP h2 (vm_ag (e0 0 (by decide) (by decide)) (fun i _ _ => ?_) eb ?_ ?_ ?_ (fun c => ?_) (fun c => ?_) (fun x q0 q1 => ?_) ?_ ?_ (fun q => ⟨fun x q0 q1 => ?_, ?_⟩) (fun q => ?_)) hc2
        · show h2 1 i = g 1 i; rw [e 1 (by decide) (by decide)]
        · show h2 5 1 = g 5 1; rw [e 5 (by decide) (by decide)]
        · show h2 6 0 = g 6 0; rw [e 6 (by decide) (by decide)]
        · show h2 8 0 = g 8 0; rw [e 8 (by decide) (by decide)]
        · show h2 9 _ = g 9 _; rw [e 9 (by decide) (by decide)]
        · show h2 9 _ = g 9 _; rw [e 9 (by decide) (by decide)]
        · show h2 13 x = g 14 (8 + x)
          have q2 : x < g 2 0 := by rw [← en]; exact q1
          rw [e13, hx x q0 (by omega), z, show 8 * ((2 : Int) - 1) + x = 8 + x by omega]
        · show h2 0 17 = g 15 1; rw [e17, z]; rfl
        · show h2 0 18 = 1; rw [e18, z]; rfl
        · show h2 14 x = g 14 x; rw [e 14 (by decide) (by decide)]
        · show h2 15 0 = g 15 0; rw [e 15 (by decide) (by decide)]
        · rw [e18, z] at q; omega
    | succ m ih =>
      intro k f h0 hkm hf hf0 hf18 hx
      refine v_X11_back_22 k f ⟨⟨⟨by omega, by omega⟩, by decide⟩, fun q => absurd q (by omega), fun _ => ⟨by rw [hf18]; omega, by omega, ?_⟩⟩
      rw [hf18]
      refine ih (k + 1) _ (by omega) (by omega) (fun a q1 q2 => by rw [hset_n q2]; exact hf a q1 q2) (fun i q => by rw [hset_n (by decide)]; exact hf0 i q) (by rw [hset_n (by decide)]; exact hf18) (fun x q0 q1 => ?_)
      by_cases e : x = k
      · subst e; rw [hset_s, hf 14 (by decide) (by decide)]
      · rw [hset_m e]
        exact hx x q0 (by omega)
  refine e_X11_back g ⟨⟨by omega, by omega⟩, fun q => key (by omega) 8 0 (hset g 0 18 (g 0 18 - 1)) (by omega) (by omega) (fun a q1 _ => hset_n q1) (fun i q => hset_m q) hset_s (fun x q0 q1 => absurd q1 (by omega)), fun q => ?_⟩
  rw [if_neg (by omega), if_neg (by omega), if_neg (by omega)] at hP
  exact hP g (AgV_rf _) hz
/-! wipe, write -/
def sn_wipe (l : LV) : LV := (0, qtx l, qb l, qr l, qw l, qc l, qcN l, qcP l, qp l, qt l, qk l, qk0 l, qk1 l, qt0 l, qt1 l)
def byt (v k : Int) : Int := b_i2b (b_lshr v (8 * k))
def sp_write (l : LV) (n : Int) : Int := if 1 ≤ n ∧ n ≤ 8 then (if 300 < qlen l + n then -3 else qlen l + n) else -1
def sn_write (l : LV) (n v : Int) : LV := if (1 ≤ n ∧ n ≤ 8) ∧ qlen l + n ≤ 300 then (qlen l + n, (fun i => if qlen l ≤ i ∧ i < qlen l + n then byt v (n - 1 - (i - qlen l)) else qtx l i), qb l, qr l, qw l, qc l, qcN l, qcP l, qp l, qt l, qk l, qk0 l, qk1 l, qt0 l, qt1 l) else l
theorem byt_in (v k : Int) : -128 ≤ byt v k ∧ byt v k ≤ 127 := by
  unfold byt b_i2b
  have h1 := Int.le_bmod (x := b_lshr v (8 * k)) (m := 256) (by decide)
  have h2 := Int.bmod_lt (x := b_lshr v (8 * k)) (m := 256) (by decide)
  omega
theorem wipe_ag {l l' : LV} (ha : AgV l l') : qlen l = qlen l' ∧ AgV (sn_wipe l) (sn_wipe l') := by
  obtain ⟨a1, a2, a3, a4, a5, a6, a7, a8, a9, a10, a11, a12⟩ := ha
  exact ⟨a1, rfl, a2, a3, a4, a5, a6, a7, a8, a9, a10, a11, a12⟩
theorem wipe_W {N : Int} {l : LV} (hw : WV N l) : WV N (sn_wipe l) := by
  obtain ⟨b1, b2⟩ := hw
  exact ⟨by show (0 : Int) ≤ 0 ∧ (0 : Int) ≤ 300; omega, b2⟩
theorem write_ag {l l' : LV} (ha : AgV l l') (n v : Int) : sp_write l n = sp_write l' n ∧ AgV (sn_write l n v) (sn_write l' n v) := by
  have h1 := ha.1
  unfold sp_write sn_write
  rw [h1]
  refine ⟨rfl, ?_⟩
  split
  · obtain ⟨a1, a2, a3, a4, a5, a6, a7, a8, a9, a10, a11, a12⟩ := ha
    refine ⟨rfl, fun i h0 h1 => ?_, a3, a4, a5, a6, a7, a8, a9, a10, a11, a12⟩
    show (if qlen l' ≤ i ∧ i < qlen l' + n then byt v (n - 1 - (i - qlen l')) else qtx l i) = (if qlen l' ≤ i ∧ i < qlen l' + n then byt v (n - 1 - (i - qlen l')) else qtx l' i)
    rw [a2 i h0 h1]
  · exact ha
theorem write_W {N : Int} {l : LV} (hw : WV N l) (n v : Int) : WV N (sn_write l n v) := by
  unfold sn_write
  split
  · rename_i hc
    obtain ⟨b1, b2, b3⟩ := hw
    refine ⟨by show 0 ≤ qlen l + n ∧ qlen l + n ≤ 300; omega, fun i h0 h1 => ?_, b3⟩
    show -128 ≤ (if qlen l ≤ i ∧ i < qlen l + n then byt v (n - 1 - (i - qlen l)) else qtx l i) ∧ (if qlen l ≤ i ∧ i < qlen l + n then byt v (n - 1 - (i - qlen l)) else qtx l i) ≤ 127
    split
    · exact byt_in _ _
    · exact b2 i h0 h1
  · exact hw
theorem x_wipe2 {d : Nat} {P : Int → HP → Prop} {h : HP} (hz : cz h) (hP : ∀ h', vx h' = sn_wipe (vx h) → cz h' → P (qlen (vx h)) h') : Ct KX d mX10_wipe [aR 0] h (rI P) := by
  refine x_wipe (hP _ ?_ (fun k q0 q1 => by rw [hset_n (by decide)]; exact hz k q0 q1))
  have e : ∀ a, a ≠ 0 → (hset h 0 1 0) a = h a := fun a ha => hset_n ha
  have e0 : ∀ i, i ≠ 1 → (hset h 0 1 0) 0 i = h 0 i := fun i hi => hset_m hi
  dsimp only [vx, bx]
  rw [e 1 (by decide), e 14 (by decide), e 16 (by decide), e 19 (by decide), e 20 (by decide), e 21 (by decide), e 22 (by decide), e 23 (by decide), e 28 (by decide), e 31 (by decide), e 32 (by decide), e 33 (by decide), e0 7 (by decide), e0 11 (by decide), hset_s]
  rfl
theorem m_wipe2 {d : Nat} {P : Int → HP → Prop} {g : HP} (hz : cm g) (hP : ∀ h', vm h' = sn_wipe (vm g) → cm h' → P (qlen (vm g)) h') : Ct KM d mX11_wipe [aR 0] g (rI P) := by
  refine m_wipe (hP _ ?_ (by show (hset g 0 0 0) 0 15 = 0; rw [hset_m (by decide)]; exact hz))
  have e : ∀ a, a ≠ 0 → (hset g 0 0 0) a = g a := fun a ha => hset_n ha
  have e0 : ∀ i, i ≠ 0 → (hset g 0 0 0) 0 i = g 0 i := fun i hi => hset_m hi
  dsimp only [vm, bm]
  rw [e 1 (by decide), e 2 (by decide), e 4 (by decide), e 5 (by decide), e 6 (by decide), e 8 (by decide), e 9 (by decide), e 10 (by decide), e 11 (by decide), e 12 (by decide), e 13 (by decide), e 14 (by decide), e 15 (by decide), e0 11 (by decide), e0 17 (by decide), e0 18 (by decide), hset_s]
  rfl
theorem m_write {d : Nat} {P : Int → HP → Prop} {N n v : Int} {g : HP} (hW : WV N (vm g)) (hz : cm g) (hn : iR n) (hP : ∀ h', AgV (vm h') (sn_write (vm g) n v) → cm h' → P (sp_write (vm g) n) h') : Ct KM (d + 1) mX11_write [aR 0, aI n, aL v] g (rI P) := by
  have hl : 0 ≤ g 0 0 ∧ g 0 0 ≤ 300 := hW.1
  unfold sp_write sn_write at hP
  dsimp only [qlen, vm] at hP
  have key : (1 ≤ n ∧ n ≤ 8) → g 0 0 + n ≤ 300 → ∀ (m : Nat) (f : HP), (m : Int) ≤ n → (∀ a, a ≠ 0 → a ≠ 1 → f a = g a) → (∀ i, i ≠ 0 → f 0 i = g 0 i) → f 0 0 = g 0 0 + (n - m) → (∀ i, f 1 i = if g 0 0 ≤ i ∧ i < g 0 0 + (n - m) then byt v (n - 1 - (i - g 0 0)) else g 1 i) → V KM (d + 1) mX11_write 34 [some (aR 0), some (aI n), some (aL v), none, some (aI ((m : Int) - 1))] [] f (rI P) := by
    intro hn1 hn2 m
    induction m with
    | zero =>
      intro f hm hf hf0 hfl hx
      refine v_X11_write_34 n v _ f ⟨⟨by omega, by omega⟩, fun _ => ?_, fun q => absurd q (by omega)⟩
      rw [if_pos ⟨hn1, hn2⟩, if_pos hn1, if_neg (by omega)] at hP
      have e : f 0 0 = g 0 0 + n := by omega
      rw [e]
      have eb : bm f = bm g := by
        dsimp only [bm]
        rw [hf0 11 (by decide), hf 2 (by decide) (by decide), hf 5 (by decide) (by decide), hf 10 (by decide) (by decide), hf 11 (by decide) (by decide), hf 12 (by decide) (by decide), hf 4 (by decide) (by decide)]
      refine hP f (vm_ag e (fun i q0 q1 => ?_) eb ?_ ?_ ?_ (fun c => ?_) (fun c => ?_) (fun x q0 q1 => ?_) (hf0 17 (by decide)) (hf0 18 (by decide)) (fun q => ⟨fun x q0 q1 => ?_, ?_⟩) (fun q => ⟨fun x q0 q1 => ?_, ?_⟩)) (by show f 0 15 = 0; rw [hf0 15 (by decide)]; exact hz)
      · show f 1 i = if g 0 0 ≤ i ∧ i < g 0 0 + n then byt v (n - 1 - (i - g 0 0)) else g 1 i
        rw [hx i, show g 0 0 + (n - ((0 : Nat) : Int)) = g 0 0 + n by omega]
      · show f 5 1 = g 5 1; rw [hf 5 (by decide) (by decide)]
      · show f 6 0 = g 6 0; rw [hf 6 (by decide) (by decide)]
      · show f 8 0 = g 8 0; rw [hf 8 (by decide) (by decide)]
      · show f 9 _ = g 9 _; rw [hf 9 (by decide) (by decide)]
      · show f 9 _ = g 9 _; rw [hf 9 (by decide) (by decide)]
      · show f 13 x = g 13 x; rw [hf 13 (by decide) (by decide)]
      · show f 14 _ = g 14 _; rw [hf 14 (by decide) (by decide)]
      · show f 15 0 = g 15 0; rw [hf 15 (by decide) (by decide)]
      · show f 14 _ = g 14 _; rw [hf 14 (by decide) (by decide)]
      · show f 15 1 = g 15 1; rw [hf 15 (by decide) (by decide)]
    | succ m ih =>
      intro f hm hf hf0 hfl hx
      have hb := byt_in v (((m + 1 : Nat) : Int) - 1)
      unfold byt at hb
      refine v_X11_write_34 n v _ f ⟨⟨by omega, by omega⟩, fun q => absurd q (by omega), fun _ => ⟨⟨by omega, by omega, hb.1, hb.2⟩, ?_⟩⟩
      have e9 : ((m + 1 : Nat) : Int) - 1 + -1 = (m : Int) - 1 := by omega
      rw [e9]
      refine ih _ (by omega) (fun a q1 q2 => by rw [hset_n q1, hset_n q2]; exact hf a q1 q2) (fun i q => by rw [hset_m q, hset_n (by decide)]; exact hf0 i q) (by rw [hset_s]; omega) (fun i => ?_)
      rw [hset_n (by decide)]
      by_cases e : i = f 0 0
      · subst e
        rw [hset_s, if_pos (by omega)]
        unfold byt
        rw [show n - 1 - (f 0 0 - g 0 0) = ((m + 1 : Nat) : Int) - 1 by omega]
      · rw [hset_m e, hx i]
        by_cases h1 : g 0 0 ≤ i ∧ i < g 0 0 + (n - ((m + 1 : Nat) : Int))
        · rw [if_pos h1, if_pos (by omega)]
        · rw [if_neg h1, if_neg (by omega)]
  refine e_X11_write n v g ⟨hn, c_inI hn (by decide) (by decide) (fun a b => bT' ⟨⟨⟨by omega, by omega⟩, by decide⟩, fun q => ?_, fun q => ?_⟩) (fun a => bF' ?_)⟩
  · have := key ⟨a, b⟩ q n.toNat g (by omega) (fun _ _ _ => rfl) (fun _ _ => rfl) (by omega) (fun i => by rw [if_neg (by omega)])
    rwa [show ((n.toNat : Nat) : Int) = n by omega] at this
  · rw [if_neg (by omega), if_pos ⟨a, b⟩, if_pos q] at hP
    exact hP g (AgV_rf _) hz
  · rw [if_neg (by omega), if_neg (by omega)] at hP
    exact hP g (AgV_rf _) hz
