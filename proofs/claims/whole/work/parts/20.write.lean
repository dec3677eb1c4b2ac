/-! write of the class -/
theorem smod_s : ∀ s : Fin 57, ((BitVec.ofNat 64 s.val).smod 64#64).toNat = s.val := by decide +kernel
theorem umod_s : ∀ s : Fin 57, ((BitVec.ofNat 64 s.val) % 64#64).toNat = s.val := by decide +kernel
theorem byt_aux (w : Int64) (u : UInt64) (t : Int64) (s : Nat) (hs : s < 57) (hu : u.toBitVec = BitVec.ofNat 64 s) (ht : t.toBitVec = BitVec.ofNat 64 s) : ((w.toUInt64 >>> u).toInt64.toInt).bmod 256 = ((w >>> t).toInt).bmod 256 := by
  have h1 : (w.toUInt64 >>> u).toInt64.toInt8 = (w >>> t).toInt8 := by
    apply Int8.toBitVec.inj
    apply BitVec.eq_of_getLsbD_eq
    intro i hi
    have e1 : (w.toUInt64 >>> u).toInt64.toBitVec = w.toBitVec >>> s := by
      show (w.toUInt64 >>> u).toBitVec = _
      rw [UInt64.toBitVec_shiftRight, hu]
      show w.toBitVec >>> ((BitVec.ofNat 64 s) % 64#64).toNat = _
      rw [umod_s ⟨s, hs⟩]
    have e2 : (w >>> t).toBitVec = w.toBitVec.sshiftRight s := by
      rw [Int64.toBitVec_shiftRight, ht]
      show w.toBitVec.sshiftRight ((BitVec.ofNat 64 s).smod 64#64).toNat = _
      rw [smod_s ⟨s, hs⟩]
    show ((w.toUInt64 >>> u).toInt64.toBitVec.signExtend 8).getLsbD i = ((w >>> t).toBitVec.signExtend 8).getLsbD i
    rw [e1, e2, BitVec.getLsbD_signExtend, BitVec.getLsbD_signExtend, BitVec.getLsbD_ushiftRight, BitVec.getLsbD_sshiftRight]
    have h3 : i < 64 := by omega
    have h4 : s + i < 64 := by omega
    have h5 : ¬ 64 ≤ i := by omega
    rw [if_pos h3, if_pos h3, if_pos h4]
    simp [h5]
  have := congrArg Int8.toInt h1
  rw [Int64.toInt_toInt8, Int64.toInt_toInt8] at this
  exact this
theorem byt_u {v : Int} : ∀ k : Nat, k < 8 → b_i2b (b_lushr v (8 * k)) = byt v k := by
  intro k hk
  unfold byt b_i2b b_lushr b_lshr
  match k, hk with
  | 0, _ => exact byt_aux _ _ _ 0 (by decide) rfl rfl
  | 1, _ => exact byt_aux _ _ _ 8 (by decide) rfl rfl
  | 2, _ => exact byt_aux _ _ _ 16 (by decide) rfl rfl
  | 3, _ => exact byt_aux _ _ _ 24 (by decide) rfl rfl
  | 4, _ => exact byt_aux _ _ _ 32 (by decide) rfl rfl
  | 5, _ => exact byt_aux _ _ _ 40 (by decide) rfl rfl
  | 6, _ => exact byt_aux _ _ _ 48 (by decide) rfl rfl
  | 7, _ => exact byt_aux _ _ _ 56 (by decide) rfl rfl
theorem x_write {d : Nat} {P : Int → HP → Prop} {N n v : Int} {h : HP} (hW : WV N (vx h)) (hz : cz h) (hn : iR n) (hP : ∀ h', AgV (vx h') (sn_write (vx h) n v) → cz h' → P (sp_write (vx h) n) h') : Ct KX (d + 1) mX10_write [aR 0, aI n, aL v] h (rI P) := by
  have hl : 0 ≤ h 0 1 ∧ h 0 1 ≤ 300 := hW.1
  unfold sp_write sn_write at hP
  dsimp only [qlen, vx] at hP
  have key : (1 ≤ n ∧ n ≤ 8) → h 0 1 + n ≤ 300 → ∀ (m : Nat) (f : HP), (m : Int) ≤ n → (∀ a, a ≠ 0 → a ≠ 1 → f a = h a) → (∀ i, i ≠ 1 → f 0 i = h 0 i) → f 0 1 = h 0 1 + (n - m) → (∀ i, f 1 i = if h 0 1 ≤ i ∧ i < h 0 1 + (n - m) then byt v (n - 1 - (i - h 0 1)) else h 1 i) → V KX (d + 1) mX10_write 32 [some (aR 0), some (aI n), some (aL v), none, some (aI ((m : Int) - 1))] [] f (rI P) := by
    intro hn1 hn2 m
    induction m with
    | zero =>
      intro f hm hf hf0 hfl hx
      refine v_X10_write_32 n v _ f ⟨⟨by omega, by omega⟩, fun _ => ?_, fun q => absurd q (by omega)⟩
      rw [if_pos ⟨hn1, hn2⟩, if_pos hn1, if_neg (by omega)] at hP
      have e : f 0 1 = h 0 1 + n := by omega
      rw [e]
      have eb : bx f = bx h := by
        dsimp only [bx]
        rw [hf 14 (by decide) (by decide), hf 21 (by decide) (by decide), hf 22 (by decide) (by decide), hf 23 (by decide) (by decide), hf 16 (by decide) (by decide)]
      refine hP f (vx_ag e (fun i q0 q1 => ?_) eb ?_ ?_ ?_ ?_ ?_ (fun x q0 q1 => ?_) (hf0 7 (by decide)) (hf0 11 (by decide)) (fun q => ⟨fun x q0 q1 => ?_, ?_⟩) (fun q => ⟨fun x q0 q1 => ?_, ?_⟩)) (fun k q0 q1 => by rw [hf 25 (by decide) (by decide)]; exact hz k q0 q1)
      · show f 1 i = if h 0 1 ≤ i ∧ i < h 0 1 + n then byt v (n - 1 - (i - h 0 1)) else h 1 i
        rw [hx i, show h 0 1 + (n - ((0 : Nat) : Int)) = h 0 1 + n by omega]
      · show f 14 4 = h 14 4; rw [hf 14 (by decide) (by decide)]
      · show f 14 8 = h 14 8; rw [hf 14 (by decide) (by decide)]
      · show f 14 11 = h 14 11; rw [hf 14 (by decide) (by decide)]
      · show f 19 = h 19; rw [hf 19 (by decide) (by decide)]
      · show f 20 = h 20; rw [hf 20 (by decide) (by decide)]
      · show f 28 x = h 28 x; rw [hf 28 (by decide) (by decide)]
      · show f 31 _ = h 31 _; rw [hf 31 (by decide) (by decide)]
      · show f 33 0 = h 33 0; rw [hf 33 (by decide) (by decide)]
      · show f 32 _ = h 32 _; rw [hf 32 (by decide) (by decide)]
      · show f 33 1 = h 33 1; rw [hf 33 (by decide) (by decide)]
    | succ m ih =>
      intro f hm hf hf0 hfl hx
      have e8 : ((m + 1 : Nat) : Int) - 1 = (m : Int) := by omega
      have e7 : b_i2b (b_lushr v (8 * (((m + 1 : Nat) : Int) - 1))) = byt v m := by rw [e8]; exact byt_u m (by omega)
      have hb := byt_in v m
      refine v_X10_write_32 n v _ f ⟨⟨by omega, by omega⟩, fun q => absurd q (by omega), fun _ => ⟨⟨by omega, by omega, by rw [e7]; exact hb.1, by rw [e7]; exact hb.2⟩, ?_⟩⟩
      have e9 : ((m + 1 : Nat) : Int) - 1 + -1 = (m : Int) - 1 := by omega
      rw [e9, e7]
      refine ih _ (by omega) (fun a q1 q2 => by rw [hset_n q1, hset_n q2]; exact hf a q1 q2) (fun i q => by rw [hset_m q, hset_n (by decide)]; exact hf0 i q) (by rw [hset_s]; omega) (fun i => ?_)
      rw [hset_n (by decide)]
      by_cases e : i = f 0 1
      · subst e
        rw [hset_s, if_pos (by omega), show n - 1 - (f 0 1 - h 0 1) = (m : Int) by omega]
      · rw [hset_m e, hx i]
        by_cases h1 : h 0 1 ≤ i ∧ i < h 0 1 + (n - ((m + 1 : Nat) : Int))
        · rw [if_pos h1, if_pos (by omega)]
        · rw [if_neg h1, if_neg (by omega)]
  refine e_X10_write n v h (c_within hn (by decide) (by decide) (fun a b => bT' ⟨⟨⟨by omega, by omega⟩, by decide⟩, fun q => ?_, fun q => ?_⟩) (fun a => bF' ?_))
  · have := key ⟨a, b⟩ q n.toNat h (by omega) (fun _ _ _ => rfl) (fun _ _ => rfl) (by omega) (fun i => by rw [if_neg (by omega)])
    rwa [show ((n.toNat : Nat) : Int) = n by omega] at this
  · rw [if_neg (by omega), if_pos ⟨a, b⟩, if_pos q] at hP
    exact hP h (AgV_rf _) hz
  · rw [if_neg (by omega), if_neg (by omega)] at hP
    exact hP h (AgV_rf _) hz
