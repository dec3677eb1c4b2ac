/-! THE LAW: its judgement, over the two worlds -/
abbrev A0 (s : State) : Nat → Prop := fun q => s.heap.size ≤ q
def Lc (p : Program) (s : State) (m : MethodId) (meth : Method) (c : Code) (b L : Nat) (xs : Nat → Int32) (D : va_G) (γ : Nat → ClassId) (σ τ : Nat → Nat) : Prop :=
  p.tables.exec = Jvm.exec ∧ c.code = code ∧ meth.sig.returnType = ret ∧ c.maxLocals = 4 ∧ s.vm.findClass RL = some m.cls ∧ (∀ w ∈ tb2, w.before #[Value.ref b] s = true) ∧ va_X b L xs s s.heap ∧ b < s.heap.size ∧ meth.locks = false ∧ va_K D vwCl (tyl γ) s ∧ va_D (A0 s) (wdl γ σ (fun _ _ => 0) KX) ∧ va_D (A0 s) (wdl γ τ (fun _ _ => 0) KM) ∧ (∀ i j, i < 64 → j < 23 → σ i ≠ τ j) ∧ L ≤ 2048
def Lj (p : Program) (l : Launch) (e : Env) (s : State) (m : MethodId) (below : List Frame) (meth : Method) (c : Code) (b : Nat) (D : va_G) (γ : Nat → ClassId) (σ τ : Nat → Nat) (i pc : Nat) (st : List Value) (h g : HP) : Prop :=
  ∀ (H : Heap) (locs : List Loc) (lsa : Array Slot), va_P D vwCl (wdl γ σ h KX) H → va_P D vwCl (wdl γ τ g KM) H → va_S (A0 s) s.heap H locs → lv_has lsa 4 [(0, .ref b), (1, .ref (σ 0)), (2, .ref (τ 0)), (3, .int (nI i))] →
    W p l e room_1 s m #[Value.ref b] below meth c H locs 100 2000 (lw_Z below #[Value.ref b] s) (F0 m pc lsa st)
/-- a call on one of the worlds: the other one stays -/
theorem W_side {p : Program} {l : Launch} {e : Env} {R : Room} {s : State} {m : MethodId} {args : Array Value} {below : List Frame} {meth : Method} {c : Code} {H : Heap} {locs : List Loc} {cells slots : Nat} {Q : State → Prop} {cc : ByteArray} {nL : Nat} {own : String} {lsa : Array Slot} {pc : Nat} {K : List KD} {D : va_G} {γ : Nat → ClassId} {σ : Nat → Nat} {h : HP} {other : va_W} {A : Nat → Prop} {d : Nat} {M' : MI} {as : List AV} {rest : List Value} {P : Int → HP → Prop} {ci np ix : Nat} {lo : List (Option Nat)}
    (hx : p.tables.exec = Jvm.exec) (hb : c.code = cc) (hml : c.maxLocals = nL) (hown : s.vm.findClass own = some m.cls) (hts : ∀ w ∈ tb2, w.before args s = true) (hK : va_K D vwCl (tyl γ) s) (hPc : va_P D vwCl (wdl γ σ h K) H) (hPo : va_P D vwCl other H) (hDc : va_D A (wdl γ σ h K)) (hne : ∀ (i : Nat) (q : Nat × va_E), other[i]? = some q → ∀ (k : Nat) (x : va_E), (wdl γ σ h K)[k]? ≠ some (q.1, x)) (hS : va_S A s.heap H locs)
    (hM : okV M' ci np) (hk0 : K[0]? = some (0, ci, lo)) (hw : Cond.methodLink own ix M'.1 ∈ tb2) (hd : decode cc pc = .ok (.invokevirtual ix, 3)) (hsz : lsa.size = nL) (hnp : as.length = np) (hsl : slen (aR 0 :: as) ≤ M'.2.2.1) (hcat : (rest.map fun v => v.category).sum ≤ 8) (hfr : d + 1 ≤ R.frames) (hlo : 8 + (M'.2.2.1 + 11) + 64 * d ≤ R.locals) (hce : cells ≤ R.cells) (hsl2 : slots ≤ R.slots)
    (hct : Ct K d M' (aR 0 :: as) h (rI P))
    (kk : ∀ (v : Int) (h' : HP) (H1 : Heap) (locs1 : List Loc), P v h' → va_P D vwCl (wdl γ σ h' K) H1 → va_P D vwCl other H1 → va_S A s.heap H1 locs1 → W p l e R s m args below meth c H1 locs1 cells slots Q (F0 m (pc + 3) lsa (.int (Int32.ofInt v) :: rest))) :
    W p l e R s m args below meth c H locs cells slots Q (F0 m pc lsa ((as.map (cvv σ)).reverse ++ .ref (σ 0) :: rest)) := by
  obtain ⟨⟨m1, m2, m3, m4, m5, m6, m7⟩, m8, m9, T0, N0, m10⟩ := id hM
  have hD1 : va_D (fun q => ∃ (k : Nat) (x : va_E), (wdl γ σ h K)[k]? = some (q, x)) (wdl γ σ h K) := ⟨hDc.1, fun k q hk => ⟨k, q.2, hk⟩⟩
  have hrun := va_runV (C := M'.1.cls) (n := np) (As := as.map (cvv σ)) (b := σ 0) (rest := rest) (locs := locs) (cells := cells) (slots := slots) (below := below) (meth := meth) (R := R) (e := e) (g := F0 m pc lsa ((as.map (cvv σ)).reverse ++ .ref (σ 0) :: rest)) ⟨hx, hb, hml, hown, hts⟩ (met_of hct m1 hsl l D γ σ (fun q => ∃ (k : Nat) (x : va_E), (wdl γ σ h K)[k]? = some (q, x)))
    ⟨⟨rfl, rfl, hfr, hlo, tb2_pay hM.1 hts, List.mem_cons_self, hts _ m4, hts _ m5, ⟨m2, m3⟩, okM_len hM.1, hts _ hw⟩, hts _ m8, hts _ m9⟩
    ⟨pc_blind, va_recv (q := (M'.1.cls, T0, N0)) hK hPc m10 (wdl_at hk0), fun U hU hW => ⟨rfl, by rw [hU]; exact hPc, va_K.moved hW.alike hK, hD1⟩⟩ rfl (by simpa using hnp) hsz rfl (by show 2 * 0 + _ ≤ 8; omega) hd ⟨hce, hsl2⟩
  intro T hT X
  obtain ⟨v, st₀, t, T', L, h0, X', hL, e1, e2, ⟨⟨r, h', hv, ⟨v0, hr, hq⟩, hP'⟩, hz, hk⟩, st⟩ := hrun T hT X
  subst hr
  have hv : v = (some (aI v0)).map (cvv σ) := by injection hv
  subst hv
  rw [h0] at hz hk
  have hin : ∀ q, (∃ (k : Nat) (x : va_E), (wdl γ σ h K)[k]? = some (q, x)) → A q := fun q ⟨k, x, hx⟩ => hDc.2 k _ hx
  have hS' : va_S A s.heap T'.heap (locs ++ L) := ⟨Nat.le_trans hS.1 (by rw [e1]; exact hz), fun q h1 h2 => by rw [e1, hk q (Nat.lt_of_lt_of_le h1 hS.1) (fun z => h2 (hin q z))]; exact hS.2.1 q h1 h2, fun q hq => by
      rcases List.mem_append.mp hq with h | h
      · exact hS.2.2 q h
      · exact hin _ (hL q h)⟩
  have hPo' : va_P D vwCl other T'.heap := hPo.kept (fun k q hq2 => by rw [e1]; exact hk q.1 ((hPo k q hq2).lt) (fun ⟨k2, x, hx2⟩ => hne k q hq2 k2 x hx2))
  obtain ⟨t2, a1, b1⟩ := kk v0 h' T'.heap (locs ++ L) hq (by rw [e1]; exact hP') hPo' hS' T' rfl X'
  exact ⟨t2, st t2 a1, b1⟩
section
variable {p : Program} {l : Launch} {e : Env} {s : State} {m : MethodId} {below : List Frame} {meth : Method} {c : Code} {b L : Nat} {xs : Nat → Int32} {D : va_G} {γ : Nat → ClassId} {σ τ : Nat → Nat} {i pc : Nat} {st : List Value} {h g : HP}
theorem j_st {st' : List Value} (hs : st = st') (kk : Lj p l e s m below meth c b D γ σ τ i pc st' h g) : Lj p l e s m below meth c b D γ σ τ i pc st h g := hs ▸ kk
theorem j_x (C : Lc p s m meth c b L xs D γ σ τ) (hd : decode code pc = .ok (.aload_n 1, 1)) (kk : Lj p l e s m below meth c b D γ σ τ i (pc + 1) (.ref (σ 0) :: st) h g) : Lj p l e s m below meth c b D γ σ τ i pc st h g :=
  fun H locs lsa hx hm hS hl => lv_aload_n C.1 C.2.1 hd rfl (lv_at hl 1 rfl) (kk H locs lsa hx hm hS hl)
theorem j_m (C : Lc p s m meth c b L xs D γ σ τ) (hd : decode code pc = .ok (.aload_n 2, 1)) (kk : Lj p l e s m below meth c b D γ σ τ i (pc + 1) (.ref (τ 0) :: st) h g) : Lj p l e s m below meth c b D γ σ τ i pc st h g :=
  fun H locs lsa hx hm hS hl => lv_aload_n C.1 C.2.1 hd rfl (lv_at hl 2 rfl) (kk H locs lsa hx hm hS hl)
/-- an int of the script -/
theorem j_arg (C : Lc p s m meth c b L xs D γ σ τ) {v : Int} (k : Nat) (hk : i + k < L) (hv : Int32.ofInt v = nI k) (d1 : decode code pc = .ok (.aload_n 0, 1)) (d2 : decode code (pc + 1) = .ok (.iload_n 3, 1)) (d3 : decode code (pc + 1 + 1) = .ok (.iconst v, 1)) (d4 : decode code (pc + 1 + 1 + 1) = .ok (.iadd, 1)) (d5 : decode code (pc + 1 + 1 + 1 + 1) = .ok (.iaload, 1))
    (kk : Lj p l e s m below meth c b D γ σ τ i (pc + 5) (.int (Int32.ofInt (xs (i + k)).toInt) :: st) h g) : Lj p l e s m below meth c b D γ σ τ i pc st h g := by
  intro H locs lsa hx hm hS hl
  obtain ⟨c1, c2, c3, c4, c5, c6, c7, c8, c9, c10, c11, c12, c13, c14⟩ := id C
  have hbA : ¬ A0 s b := Nat.not_le.mpr c8
  refine lv_aload_n c1 c2 d1 rfl (lv_at hl 0 rfl) ?_
  refine lv_iload_n c1 c2 d2 rfl (lv_at hl 3 rfl) ?_
  refine lv_iconst c1 c2 d3 hv ?_
  refine lv_iadd c1 c2 d4 ?_
  rw [nI_add]
  refine va_sld c1 c2 c7 c8 hbA hS (vp_in_nI hk (by omega)) d5 ?_
  rw [nI_clamp (by omega)]
  have h9 := kk H locs lsa hx hm hS hl
  rw [Int32.ofInt_toInt] at h9
  exact h9
theorem j_i2l (C : Lc p s m meth c b L xs D γ σ τ) {x : Int32} (hd : decode code pc = .ok (.i2l, 1)) (kk : Lj p l e s m below meth c b D γ σ τ i (pc + 1) (.long x.toInt64 :: st) h g) : Lj p l e s m below meth c b D γ σ τ i pc (.int x :: st) h g :=
  fun H locs lsa hx hm hS hl => lv_i2l C.1 C.2.1 hd rfl (kk H locs lsa hx hm hS hl)
theorem j_bi (C : Lc p s m meth c b L xs D γ σ τ) {v : Int} (hd : decode code pc = .ok (.bipush v, 2)) (kk : Lj p l e s m below meth c b D γ σ τ i (pc + 2) (.int (Int8.ofInt v).toInt32 :: st) h g) : Lj p l e s m below meth c b D γ σ τ i pc st h g :=
  fun H locs lsa hx hm hS hl => lv_bipush C.1 C.2.1 hd rfl (kk H locs lsa hx hm hS hl)
theorem j_lshl (C : Lc p s m meth c b L xs D γ σ τ) {x : Int64} {y : Int32} (hd : decode code pc = .ok (.lshl, 1)) (kk : Lj p l e s m below meth c b D γ σ τ i (pc + 1) (.long (x <<< (y.toInt64 &&& 63)) :: st) h g) : Lj p l e s m below meth c b D γ σ τ i pc (.int y :: .long x :: st) h g :=
  fun H locs lsa hx hm hS hl => lv_lshl C.1 C.2.1 hd rfl (kk H locs lsa hx hm hS hl)
theorem j_ldc2 (C : Lc p s m meth c b L xs D γ σ τ) {v : Int64} {ix : Nat} (hw : Cond.constantLong RL ix v ∈ tb2) (hd : decode code pc = .ok (.ldc2_w ix, 3)) (kk : Lj p l e s m below meth c b D γ σ τ i (pc + 3) (.long v :: st) h g) : Lj p l e s m below meth c b D γ σ τ i pc st h g :=
  fun H locs lsa hx hm hS hl => lv_ldc2 C.1 C.2.1 C.2.2.2.2.1 (C.2.2.2.2.2.1 _ hw) hd (kk H locs lsa hx hm hS hl)
theorem j_land (C : Lc p s m meth c b L xs D γ σ τ) {x y : Int64} (hd : decode code pc = .ok (.land, 1)) (kk : Lj p l e s m below meth c b D γ σ τ i (pc + 1) (.long (x &&& y) :: st) h g) : Lj p l e s m below meth c b D γ σ τ i pc (.long y :: .long x :: st) h g :=
  fun H locs lsa hx hm hS hl => lv_land C.1 C.2.1 hd (kk H locs lsa hx hm hS hl)
theorem j_lor (C : Lc p s m meth c b L xs D γ σ τ) {x y : Int64} (hd : decode code pc = .ok (.lor, 1)) (kk : Lj p l e s m below meth c b D γ σ τ i (pc + 1) (.long (x ||| y) :: st) h g) : Lj p l e s m below meth c b D γ σ τ i pc (.long y :: .long x :: st) h g :=
  fun H locs lsa hx hm hS hl => lv_lor C.1 C.2.1 hd (kk H locs lsa hx hm hS hl)
theorem wd_addr {γ : Nat → ClassId} {σ : Nat → Nat} {h : HP} {K : List KD} {k : Nat} {q : Nat × va_E} (hk : (wdl γ σ h K)[k]? = some q) : k < K.length ∧ q.1 = σ k := by
  have hl : k < (wdl γ σ h K).length := (List.getElem?_eq_some_iff.mp hk).1
  rw [wdl_len] at hl
  rw [wdl_at (List.getElem?_eq_getElem hl)] at hk
  exact ⟨hl, by rw [← Option.some.inj hk]⟩
theorem j_callX (C : Lc p s m meth c b L xs D γ σ τ) {d : Nat} {M' : MI} {as : List AV} {np ix : Nat} (hM : okV M' 10 np) (hw : Cond.methodLink RL ix M'.1 ∈ tb2) (hd : decode code pc = .ok (.invokevirtual ix, 3)) (hnp : as.length = np) (hsl : slen (aR 0 :: as) ≤ M'.2.2.1) (hcat : (st.map fun v => v.category).sum ≤ 8) (hd9 : d ≤ 1000)
    (hct : Ct KX d M' (aR 0 :: as) h (rI fun v h' => Lj p l e s m below meth c b D γ σ τ i (pc + 3) (.int (Int32.ofInt v) :: st) h' g)) : Lj p l e s m below meth c b D γ σ τ i pc ((as.map (cvv σ)).reverse ++ .ref (σ 0) :: st) h g := by
  intro H locs lsa hx hm hS hl
  obtain ⟨c1, c2, c3, c4, c5, c6, c7, c8, c9, c10, c11, c12, c13, c14⟩ := id C
  have m6 := hM.1.2.2.2.2.2.1
  refine W_side c1 c2 c4 c5 c6 c10 hx hm (wdl_D c11) (fun k q hq k2 x hx2 => ?_) hS hM rfl hw hd hl.1 hnp hsl hcat (by show d + 1 ≤ 2048; omega) (by show 8 + (M'.2.2.1 + 11) + 64 * d ≤ 84000; omega) (by show 100 ≤ 600000; decide) (by show 2000 ≤ 7302250; decide) hct (fun v h' H1 locs1 hq h1 h2 h3 => hq H1 locs1 lsa h1 h2 h3 hl)
  obtain ⟨n1, e1⟩ := wd_addr hq
  obtain ⟨n2, e2⟩ := wd_addr hx2
  have e2 : q.1 = σ k2 := e2
  exact c13 k2 k n2 n1 (e2.symm.trans e1)
theorem j_callM (C : Lc p s m meth c b L xs D γ σ τ) {d : Nat} {M' : MI} {as : List AV} {np ix : Nat} (hM : okV M' 11 np) (hw : Cond.methodLink RL ix M'.1 ∈ tb2) (hd : decode code pc = .ok (.invokevirtual ix, 3)) (hnp : as.length = np) (hsl : slen (aR 0 :: as) ≤ M'.2.2.1) (hcat : (st.map fun v => v.category).sum ≤ 8) (hd9 : d ≤ 1000)
    (hct : Ct KM d M' (aR 0 :: as) g (rI fun v g' => Lj p l e s m below meth c b D γ σ τ i (pc + 3) (.int (Int32.ofInt v) :: st) h g')) : Lj p l e s m below meth c b D γ σ τ i pc ((as.map (cvv τ)).reverse ++ .ref (τ 0) :: st) h g := by
  intro H locs lsa hx hm hS hl
  obtain ⟨c1, c2, c3, c4, c5, c6, c7, c8, c9, c10, c11, c12, c13, c14⟩ := id C
  have m6 := hM.1.2.2.2.2.2.1
  refine W_side c1 c2 c4 c5 c6 c10 hm hx (wdl_D c12) (fun k q hq k2 x hx2 => ?_) hS hM rfl hw hd hl.1 hnp hsl hcat (by show d + 1 ≤ 2048; omega) (by show 8 + (M'.2.2.1 + 11) + 64 * d ≤ 84000; omega) (by show 100 ≤ 600000; decide) (by show 2000 ≤ 7302250; decide) hct (fun v h' H1 locs1 hq h1 h2 h3 => hq H1 locs1 lsa h2 h1 h3 hl)
  obtain ⟨n1, e1⟩ := wd_addr hq
  obtain ⟨n2, e2⟩ := wd_addr hx2
  have e2 : q.1 = τ k2 := e2
  exact c13 k k2 n1 n2 (e1.symm.trans e2)
/-- the two answers are one -/
theorem j_eq (C : Lc p s m meth c b L xs D γ σ τ) {v v' off : Int} {tgt : Nat} (hv : v = v') (hd : decode code pc = .ok (.if_icmp .eq off, 3)) (ht : (pc : Int) + off = (tgt : Int)) (kk : Lj p l e s m below meth c b D γ σ τ i tgt [] h g) : Lj p l e s m below meth c b D γ σ τ i pc [.int (Int32.ofInt v'), .int (Int32.ofInt v)] h g :=
  fun H locs lsa hx hm hS hl => lv_icmp_eq (tgt := tgt) C.1 C.2.1 hd ht (fun _ => kk H locs lsa hx hm hS hl) (fun q => absurd (by rw [hv]) q)
end
