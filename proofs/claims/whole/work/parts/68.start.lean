/-! THE LAW, from its entry -/
theorem w78 : Cond.instantiable RX10 18 ∈ tb2 := mem2 78 (by decide +kernel) rfl
theorem w812 : Cond.instantiable RX11 30 ∈ tb2 := mem2 812 (by decide +kernel) rfl
theorem w77 : Cond.classLink RL 7 RX10 ∈ tb2 := mem2 77 (by decide +kernel) rfl
theorem w811 : Cond.classLink RL 10 RX11 ∈ tb2 := mem2 811 (by decide +kernel) rfl
theorem w79 : Cond.methodLink RL 9 yX10_init ∈ tb2 := mem2 79 (by decide +kernel) rfl
theorem w813 : Cond.methodLink RL 12 yX11_init ∈ tb2 := mem2 813 (by decide +kernel) rfl
theorem w80 : Cond.instanceMethod yX10_init ∈ tb2 := mem2 80 (by decide +kernel) rfl
theorem w814 : Cond.instanceMethod yX11_init ∈ tb2 := mem2 814 (by decide +kernel) rfl
theorem l208 : Cond.arrayOver (.array .int) ∈ lw_tbl := List.mem_of_getElem? (i := 208) (by decide +kernel)
theorem rng_map {wr : va_W} {x : Nat × va_E} : (List.range wr.length).map (fun i => (wr ++ [x])[i]?) = wr.map some := by
  apply List.ext_getElem?
  intro i
  rw [List.getElem?_map, List.getElem?_map]
  by_cases c : i < wr.length
  · rw [List.getElem?_range c, List.getElem?_eq_getElem c, Option.map_some, Option.map_some, List.getElem?_append_left c, List.getElem?_eq_getElem c]
  · rw [List.getElem?_eq_none (by rw [List.length_range]; omega), List.getElem?_eq_none (by omega)]
    rfl
theorem W_init {p : Program} {l : Launch} {e : Env} {R : Room} {s : State} {m : MethodId} {args : Array Value} {below : List Frame} {meth : Method} {c : Code} {H : Heap} {locs : List Loc} {cells slots : Nat} {Q : State → Prop} {cc : ByteArray} {nL : Nat} {own : String} {lsa : Array Slot} {pc : Nat} {D : va_G} {γ : Nat → ClassId} {A : Nat → Prop} {rest : List Value} {wr : va_W} {d1 k1 n1 : Nat} {M1 : MI} {ci : Nat} {fs0 : List Value} {Pst1 : (Nat → ClassId) → Nat → va_W → Prop} {q ix : Nat}
    (hx : p.tables.exec = Jvm.exec) (hb : c.code = cc) (hml : c.maxLocals = nL) (hown : s.vm.findClass own = some m.cls) (hts : ∀ w ∈ tb2, w.before args s = true) (hK : va_K D vwCl (tyl γ) s) (hO : OV γ s) (hP : va_P D vwCl (wr ++ [(q, .inr (ci, fs0))]) H) (hD : va_D A (wr ++ [(q, .inr (ci, fs0))])) (hS : va_S A s.heap H locs) (hA : ∀ q, s.heap.size ≤ q → A q)
    (hct : CtI d1 k1 n1 M1 ci [] fs0 Pst1) (hM : okM M1 0) (hret : M1.2.2.2 = none) (hnm : M1.1.name = "<init>") (hin : Cond.instanceMethod M1.1 ∈ tb2) (hw : Cond.methodLink own ix M1.1 ∈ tb2) (hd : decode cc pc = .ok (.invokespecial ix, 3)) (hsz : lsa.size = nL) (hcat : (rest.map fun v => v.category).sum ≤ 8) (hfr : d1 + 1 ≤ R.frames) (hlo : 8 + (M1.2.2.1 + 11) + 64 * d1 ≤ R.locals) (hce : cells + k1 ≤ R.cells) (hsl : slots + n1 ≤ R.slots) (hnd : va_nd (List.range wr.length) = true)
    (kk : ∀ (w1 : va_W) (H1 : Heap) (locs1 : List Loc), Pst1 γ q w1 → va_P D vwCl (wr ++ w1) H1 → va_D A (wr ++ w1) → va_S A s.heap H1 locs1 → W p l e R s m args below meth c H1 locs1 (cells + k1) (slots + n1) Q (F0 m (pc + 3) lsa rest)) :
    W p l e R s m args below meth c H locs cells slots Q (F0 m pc lsa (.ref q :: rest)) := by
  obtain ⟨m1, m2, m3, m4, m5, m6, m7⟩ := id hM
  have hPc : va_P D vwCl [(q, .inr (ci, fs0))] H := by
    intro j x hj
    have h1 : j < 1 := (List.getElem?_eq_some_iff.mp hj).1
    rw [show j = 0 by omega] at hj
    cases hj
    exact hP wr.length _ (by simp)
  have hC : [wr.length].map (fun i => (wr ++ [(q, (Sum.inr (ci, fs0) : va_E))])[i]?) = ([(q, .inr (ci, fs0))] : va_W).map some := by simp
  have hFc := va_free (wc := [(q, .inr (ci, fs0))]) hD hS hA [wr.length] hC
  refine va_callv (va_runI (As := []) (rest := rest) (n := 0) (b := q) (bytes := M1.2.1) (maxL := M1.2.2.1) ⟨hx, hb, hml, hown, hts⟩ (hct l D γ q H.size) ⟨⟨rfl, rfl, hfr, hlo, tb2_pay hM hts, by rw [hret]; exact List.mem_cons_self, by have := hts _ m4; rw [hret] at this; exact this, hts _ m5, ⟨m2, m3⟩, okM_len hM, hts _ hw⟩, hnm, hts _ hin⟩ ⟨fun a U g mk q => by obtain ⟨q0, q1, qP, qK⟩ := q; exact ⟨q0, q1, qP, va_K.moved (u := U) (U := U.calling g mk a) (Vm.Alike.refl U.vm) qK.1, OV.moved (u := U) (U := U.calling g mk a) (Vm.Alike.refl U.vm) qK.2⟩, fun U hU hW => ⟨rfl, by rw [hU], by rw [hU]; exact hPc, va_K.moved hW.alike hK, OV.moved hW.alike hO⟩⟩ rfl rfl hsz rfl (by show 2 * 0 + _ ≤ 8; omega) hd ⟨hce, hsl⟩) hS (fun q _ h => hFc q h) hFc (fun u t H1 locs1 ht hvm hw1 hB hz1 hk1 hS1 => ?_)
  obtain ⟨hP1, hD1⟩ := hB
  rw [ht] at hP1
  obtain ⟨hP2, hD2⟩ := va_join (wr := wr) (w1 := u) hP hD [wr.length] (List.range wr.length) hC rng_map hnd (fun i hi => by rw [List.mem_range] at hi; simp; omega) hk1 hFc hP1 hD1
  exact kk u H1 locs1 hw1 hP2 hD2 hS1
theorem k_world {s : State} {args : Array Value} (hts : ∀ w ∈ lw_tbl, w.before args s = true) (ht2 : ∀ w ∈ tb2, w.before args s = true) : ∃ (dD : va_G) (γ : Nat → ClassId), va_K dD vwCl (tyl γ) s ∧ OV γ s := by
  have hex : ∀ k : Nat, ∃ (c9 : ClassId) (i9 : Nat → Nat), ∀ q, vwCl[k]? = some q → u_Kn s q.1 q.2.1 q.2.2 c9 i9 := fun k => match k with
    | 0 => by
      obtain ⟨c9, i9, h9⟩ := u_known (n := 16) ht2 iwX0 (ht2 _ w98)
      exact ⟨c9, i9, fun q hq => by cases hq; exact h9⟩
    | 1 => by
      obtain ⟨c9, i9, h9⟩ := u_known (n := 6) ht2 iwX1 (ht2 _ w401)
      exact ⟨c9, i9, fun q hq => by cases hq; exact h9⟩
    | 2 => by
      obtain ⟨c9, i9, h9⟩ := u_known (n := 10) ht2 iwX2 (ht2 _ w362)
      exact ⟨c9, i9, fun q hq => by cases hq; exact h9⟩
    | 3 => by
      obtain ⟨c9, i9, h9⟩ := u_known (n := 7) ht2 iwX3 (ht2 _ w237)
      exact ⟨c9, i9, fun q hq => by cases hq; exact h9⟩
    | 4 => by
      obtain ⟨c9, i9, h9⟩ := u_known (n := 8) ht2 iwX4 (ht2 _ w328)
      exact ⟨c9, i9, fun q hq => by cases hq; exact h9⟩
    | 5 => by
      obtain ⟨c9, i9, h9⟩ := u_known (n := 4) ht2 iwX5 (ht2 _ w188)
      exact ⟨c9, i9, fun q hq => by cases hq; exact h9⟩
    | 6 => by
      obtain ⟨c9, i9, h9⟩ := u_known (n := 6) ht2 iwX6 (ht2 _ w210)
      exact ⟨c9, i9, fun q hq => by cases hq; exact h9⟩
    | 7 => by
      obtain ⟨c9, i9, h9⟩ := u_known (n := 10) ht2 iwX7 (ht2 _ w268)
      exact ⟨c9, i9, fun q hq => by cases hq; exact h9⟩
    | 8 => by
      obtain ⟨c9, i9, h9⟩ := u_known (n := 3) ht2 iwX8 (ht2 _ w274)
      exact ⟨c9, i9, fun q hq => by cases hq; exact h9⟩
    | 9 => by
      obtain ⟨c9, i9, h9⟩ := u_known (n := 1) ht2 iwX9 (ht2 _ w86)
      exact ⟨c9, i9, fun q hq => by cases hq; exact h9⟩
    | 10 => by
      obtain ⟨c9, i9, h9⟩ := u_known (n := 18) ht2 iwX10 (ht2 _ w78)
      exact ⟨c9, i9, fun q hq => by cases hq; exact h9⟩
    | 11 => by
      obtain ⟨c9, i9, h9⟩ := u_known (n := 30) ht2 iwX11 (ht2 _ w812)
      exact ⟨c9, i9, fun q hq => by cases hq; exact h9⟩
    | k + 12 => ⟨0, fun _ => 0, fun q hq => by simp at hq⟩
  obtain ⟨dD, hKc⟩ : ∃ dD : va_G, ∀ (k : Nat) (q : vw_C), vwCl[k]? = some q → u_Kn s q.1 q.2.1 q.2.2 (dD.1 k) (dD.2 k) := ⟨(fun k => (hex k).choose, fun k => (hex k).choose_spec.choose), fun k q hq => (hex k).choose_spec.choose_spec q hq⟩
  obtain ⟨cI, cA, kA, i1, i2, i3, i4⟩ := mg_over (hts _ l208)
  obtain ⟨cI', kI, c0, j1, j2, j3⟩ := Cond.arrayClass_spec (ht2 _ w96)
  have eI : cI' = cI := Option.some.inj (j1.symm.trans i1)
  subst eI
  obtain ⟨cB, kB, d0, b1, b2, b3⟩ := Cond.arrayClass_spec (ht2 _ w95)
  obtain ⟨cZ, kZ, e0, z1, z2, z3⟩ := Cond.arrayClass_spec (ht2 _ w186)
  obtain ⟨γ, hγ⟩ : ∃ γ : Nat → ClassId, γ = fun t => if t = 1 then cI' else if t = 2 then cB else if t = 3 then cZ else cA := ⟨_, rfl⟩
  have g1 : γ 1 = cI' := by rw [hγ]; rfl
  have g2 : γ 2 = cB := by rw [hγ]; rfl
  have g3 : γ 3 = cZ := by rw [hγ]; rfl
  have g4 : γ 4 = cA := by rw [hγ]; rfl
  have hK : va_K dD vwCl (tyl γ) s := by
    refine ⟨hKc, fun k q hq => ?_⟩
    match k, hq with
    | 0, hq => cases hq; rw [g1]; exact ⟨fun n z => ⟨fun k h => (by cases h), kI, j2, c0, j3⟩, j1⟩
    | 1, hq => cases hq; rw [g2]; exact ⟨fun n z => ⟨fun k h => (by cases h), kB, b2, d0, b3⟩, b1⟩
    | 2, hq => cases hq; rw [g3]; exact ⟨fun n z => ⟨fun k h => (by cases h), kZ, z2, e0, z3⟩, z1⟩
    | 3, hq => cases hq; rw [g4]; exact ⟨fun n z => ⟨fun k h => (by cases h), kA, i2, cI', i3⟩, i4⟩
    | k + 4, hq => simp [tyl] at hq
  exact ⟨dD, γ, hK, kA, by rw [g4]; exact i2, by rw [g1]; exact i3⟩
theorem ws_end {p : Program} {l : Launch} {e : Env} {s : State} {m : MethodId} {below : List Frame} {meth : Method} {c : Code} {b L : Nat} {xs : Nat → Int32} {dD : va_G} {γ : Nat → ClassId} {σ τ : Nat → Nat} {h g : HP} {H : Heap} {locs : List Loc} {ls : Array Slot} {k9 n9 : Nat} (hL : L ≤ 2048) (C0 : lw_At p s m meth c b L xs) (ht2 : ∀ w ∈ tb2, w.before #[Value.ref b] s = true) (hK : va_K dD vwCl (tyl γ) s) (agx : AgV (vx h) l1) (hzx : cz h) (agm : AgV (vm g) l1) (hzm : cm g) (hP : va_P dD vwCl (wdl γ σ h KX ++ wdl γ τ g KM) H) (hD : va_D (A0 s) (wdl γ σ h KX ++ wdl γ τ g KM)) (hS : va_S (A0 s) s.heap H locs) (hl : lv_has ls 4 [(1, .ref (σ 0)), (0, .ref b)]) (hk9 : k9 ≤ 100) (hn9 : n9 ≤ 2000) : W p l e room_1 s m #[Value.ref b] below meth c H locs k9 n9 (lw_Z below #[Value.ref b] s) (F0 m 15 ls [.ref (τ 0)]) := by
  obtain ⟨hx, hb, hr, hml, hown, hts, hX, hbl, hlocks, hgv⟩ := id C0
  have hown : s.vm.findClass RL = some m.cls := hown
  refine lv_astore_n (lv' := [(2, .ref (τ 0)), (1, .ref (σ 0)), (0, .ref b)]) hx hb dL_law_15 rfl hl (by decide) rfl (fun ls hl => ?_)
  refine lv_iconst (v := 0) hx hb dL_law_16 (by decide) ?_
  refine lv_istore_n (lv' := [(3, .int 0), (2, .ref (τ 0)), (1, .ref (σ 0)), (0, .ref b)]) hx hb dL_law_17 rfl hl (by decide) rfl (fun ls hl => ?_)
  have hlx : (wdl γ σ h KX).length = 64 := by rw [wdl_len]; rfl
  have hlm : (wdl γ τ g KM).length = 23 := by rw [wdl_len]; rfl
  have hPx : va_P dD vwCl (wdl γ σ h KX) H := fun k q hk => hP k q (by rw [List.getElem?_append_left (List.getElem?_eq_some_iff.mp hk).1]; exact hk)
  have hPm : va_P dD vwCl (wdl γ τ g KM) H := fun k q hk => hP (64 + k) q (by rw [List.getElem?_append_right (by omega), hlx, show 64 + k - 64 = k by omega]; exact hk)
  have hDx : va_D (A0 s) (wdl γ σ h KX) := ⟨fun i j x y hi hj => hD.1 i j x y (by rw [List.getElem?_append_left (List.getElem?_eq_some_iff.mp hi).1]; exact hi) (by rw [List.getElem?_append_left (List.getElem?_eq_some_iff.mp hj).1]; exact hj), fun k q hk => hD.2 k q (by rw [List.getElem?_append_left (List.getElem?_eq_some_iff.mp hk).1]; exact hk)⟩
  have hDm : va_D (A0 s) (wdl γ τ g KM) := ⟨fun i j x y hi hj hxy => by
    have := hD.1 (64 + i) (64 + j) x y (by rw [List.getElem?_append_right (by omega), hlx, show 64 + i - 64 = i by omega]; exact hi) (by rw [List.getElem?_append_right (by omega), hlx, show 64 + j - 64 = j by omega]; exact hj) hxy
    omega, fun k q hk => hD.2 (64 + k) q (by rw [List.getElem?_append_right (by omega), hlx, show 64 + k - 64 = k by omega]; exact hk)⟩
  have hdj : ∀ i j, i < 64 → j < 23 → σ i ≠ τ j := fun i j hi hj hij => by
    have hi2 : i < KX.length := hi
    have hj2 : j < KM.length := hj
    have := hD.1 i (64 + j) _ _ (by rw [List.getElem?_append_left (by omega)]; exact wdl_at (List.getElem?_eq_getElem hi2)) (by rw [List.getElem?_append_right (by omega), hlx, show 64 + j - 64 = j by omega]; exact wdl_at (List.getElem?_eq_getElem hj2)) hij
    omega
  have C : Lc p s m meth c b L xs dD γ σ τ := ⟨hx, hb, hr, hml, hown, ht2, hX, hbl, hlocks, hK, wdl_D hDx, wdl_D hDm, hdj, hL⟩
  refine W.widen (k := 100) (n := 2000) hk9 hn9 ?_
  have hl9 : lv_has ls 4 [(0, .ref b), (1, .ref (σ 0)), (2, .ref (τ 0)), (3, .int (nI (4 * 0)))] := by
    rw [show nI (4 * 0) = 0 from nI_0]
    exact lv_sub hl [3, 2, 1, 0] rfl
  exact l_loop C 600 0 h g (by omega) (by omega) ⟨AgV_tr agx (AgV_sy agm), AgV_W agm l1_W, hzx, hzm⟩ H locs ls hPx hPm hS hl9
