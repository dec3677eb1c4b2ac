/-! the model: cats -/
theorem iand1 (y : Int) : b_iand y 1 = 0 ∨ b_iand y 1 = 1 := by
  unfold b_iand
  rw [show Int32.ofInt 1 = 1 from rfl]
  generalize Int32.ofInt y = z
  have h1 : (z &&& 1).toInt = ((z &&& 1).toBitVec).toInt := rfl
  rw [h1, Int32.toBitVec_and]
  have h2 : z.toBitVec &&& (1 : Int32).toBitVec = 0#32 ∨ z.toBitVec &&& (1 : Int32).toBitVec = 1#32 := by
    have e : (1 : Int32).toBitVec = 1#32 := rfl
    rw [e]
    cases hz : z.toBitVec.getLsbD 0 with
    | false =>
      left
      apply BitVec.eq_of_getLsbD_eq
      intro i hi
      rw [BitVec.getLsbD_and]
      by_cases e0 : i = 0
      · rw [e0, hz]; rfl
      · have : (1#32).getLsbD i = false := by
          rw [BitVec.getLsbD_one]
          simp [e0]
        rw [this]; simp
    | true =>
      right
      apply BitVec.eq_of_getLsbD_eq
      intro i hi
      rw [BitVec.getLsbD_and]
      by_cases e0 : i = 0
      · rw [e0, hz]; rfl
      · have : (1#32).getLsbD i = false := by
          rw [BitVec.getLsbD_one]
          simp [e0]
        rw [this]; simp
  rcases h2 with h2 | h2
  · rw [h2]; exact Or.inl rfl
  · rw [h2]; exact Or.inr rfl
theorem mnyF_in {x : Int} : ∀ m : Nat, 0 ≤ mnyF x m ∧ mnyF x m ≤ m
  | 0 => ⟨by rw [mnyF]; omega, by rw [mnyF]; omega⟩
  | m + 1 => by
    have h1 := mnyF_in (x := x) m
    have h2 := iand1 (b_ishr x m)
    rw [mnyF]
    omega
theorem m_many {d : Nat} {P : Int → HP → Prop} {x : Int} {h : HP} (hP : P (mnyF x 12) h) : Ct KM d mX11_many [aI x] h (rI P) := by
  refine e_X11_many x h ?_
  have key : ∀ (m g : Nat), g + m = 12 → V KM d mX11_many 4 [some (aI x), some (aI (mnyF x g)), some (aI g)] [] h (rI P) := by
    intro m
    induction m with
    | zero =>
      intro g hg
      refine v_X11_many_4 x _ g h ⟨⟨⟨by omega, by omega⟩, by decide⟩, fun _ => ?_, fun q => absurd q (by omega)⟩
      rw [show g = 12 by omega]
      exact hP
    | succ m ih =>
      intro g hg
      exact v_X11_many_4 x _ g h ⟨⟨⟨by omega, by omega⟩, by decide⟩, fun q => absurd q (by omega), fun _ => ih (g + 1) (by omega)⟩
  exact key 12 0 rfl
theorem m_gapOf {d : Nat} {P : Int → HP → Prop} {x : Int} {h : HP} (y : Int) : ∀ (f : Nat) (left g v : Int), iR left → (0 ≤ left) → gpoF x f left g = some v → P v h → V KM d mX11_gapOf 4 [some (aI x), some (aI y), some (aI left), some (aI g)] [] h (rI P) := by
  intro f
  induction f with
  | zero =>
    intro left g v _ _ hg _
    rw [gpoF] at hg
    cases hg
  | succ f ih =>
    intro left g v hl h0 hg hP
    have hb := iand1 (b_ishr x g)
    rw [gpoF] at hg
    have hl1 := hl.1
    have hl2 := hl.2
    refine v_X11_gapOf_4 x y left g h ⟨hl, fun q => ?_, fun q => ⟨⟨by omega, by omega⟩, fun q2 => ?_, fun q2 => ?_⟩⟩
    · rw [if_pos (Or.inl q)] at hg
      exact v_X11_gapOf_16 x y left g h (ih _ _ v ⟨by omega, by omega⟩ (by omega) hg hP)
    · rw [if_neg (by omega)] at hg
      rw [Option.some.inj hg]
      exact hP
    · rw [if_pos (Or.inr q2)] at hg
      exact v_X11_gapOf_16 x y left g h (ih _ _ v ⟨by omega, by omega⟩ (by omega) hg hP)
theorem m_cats {d : Nat} {P : Int → HP → Prop} {N k n i : Int} {h : HP} (hW : WV N (vm h)) (hN : N ≤ 1000) (hz : cm h) (hk : iR k) (hn : iR n) (hi : iR i) (hP : ∀ h', vm h' = vm h → cm h' → P (sp_cats (vm h) k n i) h') : Ct KM (d + 3) mX11_cats [aR 0, aI k, aI n, aI i] h (rI P) := by
  obtain ⟨b1, b2, b3, b4, b5, b6, b7, b8, -⟩ := hW
  have hb : wfB (bm h) := b3
  have hn8 : h 2 0 ≤ 8 := hb.1.2
  have hG : 0 ≤ h 0 11 ∧ h 0 11 ≤ 10 := hb.2.1
  have ht : 0 ≤ h 0 17 ∧ h 0 17 ≤ N := b8
  have hr : 0 ≤ h 5 1 ∧ h 5 1 ≤ 3 := b4
  have hp : r199 (h 2 0) (h 13) := b7
  have hwl : ∀ k, 0 ≤ k → k < h 0 11 → (h 12 k = 0 ∨ h 12 k = 1) := fun k h0 h1 => (hb.2.2.2.1 k h0 h1).2
  unfold sp_cats at hP
  have bad : ¬ ((1 ≤ k ∧ k ≤ 3) ∧ (1 ≤ n ∧ n ≤ 20) ∧ -1 ≤ i ∧ i < k) → P (-1) h := fun z => by
    have := hP h rfl hz
    rw [if_neg z] at this
    exact this
  refine e_X11_cats k n i h ⟨hk, c_inI hk (by decide) (by decide) (fun a b => bT ⟨hn, c_inI hn (by decide) (by decide) (fun a2 b2 => bT ⟨hi, ⟨by omega, by omega⟩, c_inI hi (by decide) ⟨by omega, by omega⟩ (fun a3 b3' => bT' ?_) (fun a3 => bF' (bad (by omega)))⟩) (fun a2 => bF (bad (by omega)))⟩) (fun a => bF (bad (by omega)))⟩
  have hP : ∀ h', vm h' = vm h → cm h' → P (if (CA (vm h) k n).1 = 1000000 then -4 else if i = -1 then (CA (vm h) k n).1 else (CA (vm h) k n).2 i) h' := fun h' e1 e2 => by
    have := hP h' e1 e2
    rwa [if_pos ⟨⟨a, b⟩, ⟨a2, b2⟩, a3, by omega⟩] at this
  obtain ⟨kk, hkk⟩ : ∃ kk : Nat, k = kk := ⟨k.toNat, by omega⟩
  obtain ⟨G, hGG⟩ : ∃ G : Nat, h 0 11 = G := ⟨(h 0 11).toNat, by omega⟩
  have hkm : kk ∈ [1, 2, 3] := by
    have : kk = 1 ∨ kk = 2 ∨ kk = 3 := by omega
    simp [this]
  have hG11 : G < 11 := by omega
  obtain ⟨hpw, hsub⟩ := U_sub kk hkm G hG11
  obtain ⟨hshl, h2G⟩ := F_top G hG11
  have h2nn := Int.natCast_nonneg (2 ^ G)
  -- what is lost by a set
  have hCA : ((∀ l ∈ LLc kk G 0, opb (h 12) l = false) ∧ CA (vm h) k n = (1000000, z0)) ∨ ∃ l, Bst (opb (h 12)) (fun l => lossN (bm h) (h 5 1) (cts z0 l) (h 13) (h 0 17) n.toNat) (LLc kk G 0) l ∧ CA (vm h) k n = (lossN (bm h) (h 5 1) (cts z0 l) (h 13) (h 0 17) n.toNat, rws z0 0 l) := by
    have e : CA (vm h) k n = (LLc kk G 0).foldl (stc (FC (bm h) (h 5 1) (h 0 17) (h 13) n.toNat) (h 12) 0 z0 z0) (1000000, z0) := by
      rw [← CH_fold]
      show CH _ _ k.toNat (h 0 11).toNat 0 0 z0 z0 _ = _
      rw [show k.toNat = kk by omega, show (h 0 11).toNat = G by omega]
      rfl
    rw [e]
    have := fold_best (op := opb (h 12)) (val := fun l => lossN (bm h) (h 5 1) (cts z0 l) (h 13) (h 0 17) n.toNat) (W := fun l => rws z0 0 l) (f := stc (FC (bm h) (h 5 1) (h 0 17) (h 13) n.toNat) (h 12) 0 z0 z0) (fun l => by
      have := lossN_in (r := h 5 1) (ct := cts z0 l) (t := h 0 17) hb (r199_ok hp) n.toNat
      show lossN (bm h) (h 5 1) (cts z0 l) (h 13) (h 0 17) n.toNat < 1000000
      omega) (fun s l => rfl) (LLc kk G 0) [] (1000000, z0) hpw (Or.inl ⟨fun l hl => absurd hl (by simp), rfl⟩)
    exact this
  generalize hval : (fun l : List Nat => lossN (bm h) (h 5 1) (cts z0 l) (h 13) (h 0 17) n.toNat) = val at hCA
  have hval2 : ∀ l, lossN (bm h) (h 5 1) (cts z0 l) (h 13) (h 0 17) n.toNat = val l := fun l => congrFun hval l
  have hvin : ∀ l, 0 ≤ val l ∧ val l ≤ 2400 := fun l => by
    rw [← hval2 l]
    exact lossN_in (r := h 5 1) (ct := cts z0 l) (t := h 0 17) hb (r199_ok hp) n.toNat
  -- the end
  have fin : ∀ (f : Int) (x5 x6 : Int) (g : HP), kMo h g → ((∀ l ∈ LLc kk G 0, opb (h 12) l = false) ∧ x5 = -4) ∨ (∃ l, Bst (opb (h 12)) val (LLc kk G 0) l ∧ x6 = mskc l ∧ x5 = val l) → V KM (d + 3) mX11_cats 95 [some (aR 0), some (aI k), some (aI n), some (aI i), some (aI f), some (aI x5), some (aI x6), some (aI ((2 ^ G : Nat) : Int)), none, none] [] g (rI P) := by
    intro f x5 x6 g kg hI
    have g0 : g 0 = h 0 := kg 0 (by decide) (by decide) (by decide) (by decide) (by decide)
    have hP := hP g (kMo_vm kg) (kMo_cm kg hz)
    refine v_X11_cats_95 k n i f x5 x6 _ g ?_
    rw [g0, hGG, hshl]
    rcases hI with ⟨hno, h5⟩ | ⟨l, hB, h6, h5⟩
    · have hC : CA (vm h) k n = (1000000, z0) := by
        rcases hCA with ⟨_, q⟩ | ⟨l, hB, q⟩
        · exact q
        · have := hno l hB.1
          rw [hB.2.1] at this
          exact absurd this (by decide)
      rw [hC, if_pos rfl] at hP
      rw [h5]
      exact ⟨⟨⟨by omega, by omega⟩, ⟨by omega, by omega⟩⟩, fun _ => ⟨by decide, fun _ => v_X11_cats_236 k n i f _ x6 _ g hP, fun z => absurd z (by decide)⟩, fun z => absurd z (by omega)⟩
    · have hC : CA (vm h) k n = (val l, rws z0 0 l) := by
        rcases hCA with ⟨q, _⟩ | ⟨l', hB', q⟩
        · have := q l hB.1
          rw [hB.2.1] at this
          exact absurd this (by decide)
        · have h1 := hB.2.2 l' hB'.1 hB'.2.1
          have h2 := hB'.2.2 l hB.1 hB.2.1
          have h3 : rkc l = rkc l' := by omega
          have h4 := U_one kk hkm l (hsub l hB.1).1 l' (hsub l' hB'.1).1 h3
          rw [q, ← h4, hval2]
      have hv := hvin l
      rw [hC, if_neg (show ¬ (val l, rws z0 0 l).1 = 1000000 by show ¬ val l = 1000000; omega)] at hP
      rw [h5, h6]
      refine ⟨⟨⟨by omega, by omega⟩, ⟨by omega, by omega⟩⟩, fun _ => ⟨⟨by omega, by omega⟩, fun z => absurd z (by omega), fun _ => ⟨hi, fun z => ?_, fun z => ?_⟩⟩, fun z => absurd z (by omega)⟩
      · rw [if_neg (by omega)] at hP
        obtain ⟨u1, u2⟩ := U_gap kk hkm l (hsub l hB.1).1 i.toNat (by omega)
        rw [show ((i.toNat : Nat) : Int) = i by omega] at u1
        cases hl : l[i.toNat]? with
        | none => rw [hl] at u2; exact absurd u2 (by decide)
        | some v =>
          have hrw := rws_at (row := z0) l 0 i.toNat v hl
          rw [show (0 : Int) + ((i.toNat : Nat) : Int) = i by omega] at hrw
          rw [show (val l, rws z0 0 l).2 i = v from hrw] at hP
          rw [hl] at u1
          exact e_X11_gapOf _ _ g (m_gapOf i 40 i 0 v hi z u1 hP)
      · rw [if_pos (by omega)] at hP
        exact v_X11_cats_236 k n i f _ _ _ g hP
  -- the sets
  have main : ∀ f : Nat, f < 1024 → (∀ g < G, f.testBit g = decide (h 12 (g : Nat) = 0)) → ∀ (u S : Nat) (x5 x6 : Int) (g : HP), S + u = 2 ^ G → kMo h g → ((∀ l ∈ LLc kk G 0, opb (h 12) l = true → mskc l < S → False) ∧ x5 = -4) ∨ (∃ l, l ∈ LLc kk G 0 ∧ opb (h 12) l = true ∧ mskc l < S ∧ x6 = mskc l ∧ x5 = val l ∧ ∀ l' ∈ LLc kk G 0, opb (h 12) l' = true → mskc l' < S → val l < val l' ∨ (val l = val l' ∧ rkc l ≤ rkc l')) → V KM (d + 3) mX11_cats 95 [some (aR 0), some (aI k), some (aI n), some (aI i), some (aI f), some (aI x5), some (aI x6), some (aI S), none, none] [] g (rI P) := by
    intro f hf hfb u
    induction u with
    | zero =>
      intro S x5 x6 g hS kg hI
      rw [show S = 2 ^ G by omega]
      refine fin f x5 x6 g kg ?_
      rcases hI with ⟨h1, h2⟩ | ⟨l, h1, h2, h3, h4, h5, h6⟩
      · left
        refine ⟨fun l hl => ?_, h2⟩
        cases ho : opb (h 12) l with
        | false => rfl
        | true => exact absurd (h1 l hl ho (by have := (hsub l hl).2.1; omega)) (by simp)
      · right
        exact ⟨l, ⟨h1, h2, fun l' hl' ho => h6 l' hl' ho (by have := (hsub l' hl').2.1; omega)⟩, h4, h5⟩
    | succ u ih =>
      intro S x5 x6 g hS kg hI
      have g0 : g 0 = h 0 := kg 0 (by decide) (by decide) (by decide) (by decide) (by decide)
      have hx5 : iR x5 := by
        rcases hI with ⟨_, q⟩ | ⟨l, _, _, _, _, q, _⟩
        · rw [q]; decide
        · have := hvin l; rw [q]; exact ⟨by omega, by omega⟩
      have e1 : ((S : Nat) : Int) + 1 = ((S + 1 : Nat) : Int) := by omega
      -- a set that may not be
      have skip : ∀ g9 : HP, kMo h g9 → (∀ l ∈ LLc kk G 0, opb (h 12) l = true → mskc l ≠ S) → V KM (d + 3) mX11_cats 221 [some (aR 0), some (aI k), some (aI n), some (aI i), some (aI f), some (aI x5), some (aI x6), some (aI S), none, none] [] g9 (rI P) := by
        intro g9 k9 hno
        refine v_X11_cats_221 k n i f x5 x6 S g9 ?_
        rw [e1]
        refine ih (S + 1) x5 x6 g9 (by omega) k9 ?_
        rcases hI with ⟨h1, h2⟩ | ⟨l, h1, h2, h3, h4, h5, h6⟩
        · left
          exact ⟨fun l hl ho hm => h1 l hl ho (by have := hno l hl ho; omega), h2⟩
        · right
          exact ⟨l, h1, h2, by omega, h4, h5, fun l' hl' ho hm => h6 l' hl' ho (by have := hno l' hl' ho; omega)⟩
      have free_ok : ∀ l ∈ LLc kk G 0, (l.all (fun g => f.testBit g) = true ↔ opb (h 12) l = true) := fun l hl => by
        rw [opb_iff, List.all_eq_true]
        constructor
        · intro q z hz'
          have := q z hz'
          rw [hfb z ((hsub l hl).2.2 z hz')] at this
          exact of_decide_eq_true this
        · intro q z hz'
          rw [hfb z ((hsub l hl).2.2 z hz')]
          exact decide_eq_true (q z hz')
      refine v_X11_cats_95 k n i f x5 x6 S g ?_
      rw [g0, hGG, hshl]
      refine ⟨⟨⟨by omega, by omega⟩, ⟨by omega, by omega⟩⟩, fun z => absurd z (by omega), fun _ => ⟨iand_R _ _, fun z => skip g kg (fun l hl ho hm => ?_), fun z => m_many ⟨?_, fun z2 => skip g kg (fun l hl ho hm => ?_), fun z2 => ?_⟩⟩⟩
      · have hu := U_free kk hkm l (hsub l hl).1 f hf
        rw [hm, (free_ok l hl).mpr ho, decide_eq_false z] at hu
        exact absurd hu (by decide)
      · have := mnyF_in (x := S) 12
        exact ⟨⟨by omega, by omega⟩, hk⟩
      · have := (U_bit kk hkm l (hsub l hl).1).2.2.1
        rw [hm] at this
        omega
      · obtain ⟨l, hl, hm⟩ := U_all kk hkm G hG11 S (by omega) (by omega)
        have ho : opb (h 12) l = true := by
          rw [← free_ok l hl]
          have hu := U_free kk hkm l (hsub l hl).1 f hf
          rw [hm, decide_eq_true z] at hu
          exact hu.symm
        refine c_tries (fun h3 c1 c2 c3 c4 => ⟨by omega, ?_⟩)
        have k3 : kMo h h3 := fun a z1 z2 z3 z4 z5 => by rw [c1 a z1 z3]; exact kg a z1 z2 z3 z4 z5
        have m0 : ∀ x, x ≠ 15 → (hset h3 0 15 S) 0 x = h 0 x := fun x hx => by rw [hset_m hx, k3 0 (by decide) (by decide) (by decide) (by decide) (by decide)]
        have mn : ∀ a, a ≠ 0 → (hset h3 0 15 S) a = h3 a := fun a ha => hset_n ha
        have eb : bm (hset h3 0 15 S) = bm h := by
          rw [← kMo_bm k3]
          dsimp only [bm]
          rw [m0 11 (by decide), k3 0 (by decide) (by decide) (by decide) (by decide) (by decide), mn 2 (by decide), mn 5 (by decide), mn 10 (by decide), mn 11 (by decide), mn 12 (by decide), mn 4 (by decide)]
        have e2 : (hset h3 0 15 S) 2 = h 2 := (mn 2 (by decide)).trans (k3 2 (by decide) (by decide) (by decide) (by decide) (by decide))
        have e16 : eqN (h 2 0) ((hset h3 0 15 S) 16) (h 13) := fun x q0 q1 => by
          rw [mn 16 (by decide), c2 x q0 (by omega), kg 13 (by decide) (by decide) (by decide) (by decide) (by decide)]
        have ect : eqN (bG (bm h)) (ctm (hset h3 0 15 S)) (cts z0 l) := fun x q0 q1 => by
          have q1 : x < h 0 11 := q1
          have hu := (U_bit kk hkm l (hsub l hl).1).1 x.toNat (by omega)
          have hc := cts_at (ct := z0) l x.toNat
          rw [show ((x.toNat : Nat) : Int) = x by omega] at hu hc
          unfold ctm
          rw [hset_s, hc, ← hm]
          exact hu
        rw [k3 5 (by decide) (by decide) (by decide) (by decide) (by decide), k3 0 (by decide) (by decide) (by decide) (by decide) (by decide)]
        refine c_nights (by rw [eb]; exact hb) hr ⟨ht.1, by omega⟩ ⟨by omega, by omega⟩ (by rw [e2]; exact fun x q0 q1 => by rw [e16 x q0 q1]; exact r199_ok hp x q0 q1) (fun h4 f1 f2 f3 => ?_)
        rw [eb, e2] at f2
        rw [eb]
        have e4 : eqN (h 2 0) (h4 16) (NN (bm h) (h 5 1) (cts z0 l) (h 13) (h 0 17) n.toNat) := fun y z0' z1 => (f2 y z0' z1).trans (NN_ag (b := bm h) (b' := bm h) hb (agB_rf _) e16 ect n.toNat y z0' z1)
        have hv : tot (bm h) ((hset h3 0 15 S) 16) - tot (bm h) (h4 16) = val l := by
          rw [← hval2 l]
          unfold lossN
          rw [tot_ag (b := bm h) (agB_rf _) e16, tot_ag (b := bm h) (agB_rf _) e4]
        rw [hv]
        have hvl := hvin l
        have k5 : kMo h (hset h4 0 15 0) := fun a z1 z2 z3 z4 z5 => by
          by_cases ea : a = 0
          · rw [ea]
            funext x
            by_cases ex : x = 15
            · rw [ex, hset_s]; exact hz.symm
            · rw [hset_m ex, f1 0 (by decide) (by decide) (by decide), m0 x ex]
          · rw [hset_n ea, f1 a z1 z2 z3, mn a ea]
            exact k3 a z1 z2 z3 z4 z5
        have put : ∀ (s0 y5 y6 : Int), (s0 ≠ 0 ∧ y5 = val l ∧ y6 = S ∨ s0 = 0 ∧ y5 = x5 ∧ y6 = x6) → iR s0 → (((∀ l ∈ LLc kk G 0, opb (h 12) l = true → mskc l < S + 1 → False) ∧ y5 = -4) ∨ (∃ l, l ∈ LLc kk G 0 ∧ opb (h 12) l = true ∧ mskc l < S + 1 ∧ y6 = mskc l ∧ y5 = val l ∧ ∀ l' ∈ LLc kk G 0, opb (h 12) l' = true → mskc l' < S + 1 → val l < val l' ∨ (val l = val l' ∧ rkc l ≤ rkc l'))) → V KM (d + 3) mX11_cats 191 [some (aR 0), some (aI k), some (aI n), some (aI i), some (aI f), some (aI x5), some (aI x6), some (aI S), some (aI (val l)), none] [aI s0] (hset h4 0 15 0) (rI P) := by
          intro s0 y5 y6 hs hs0 hJ
          have fin2 : V KM (d + 3) mX11_cats 221 [some (aR 0), some (aI k), some (aI n), some (aI i), some (aI f), some (aI y5), some (aI y6), some (aI S), none, none] [] (hset h4 0 15 0) (rI P) := by
            refine v_X11_cats_221 k n i f y5 y6 S _ ?_
            rw [e1]
            exact ih (S + 1) y5 y6 _ (by omega) k5 hJ
          rcases hs with ⟨q1, q2, q3⟩ | ⟨q1, q2, q3⟩
          · rw [q2, q3] at fin2
            exact v_X11_cats_191 k n i f x5 x6 S (val l) s0 _ ⟨hs0, fun z => absurd z q1, fun _ => v_X11_cats_205 k n i f x5 x6 S (val l) s0 S _ ⟨hs0, fun z => absurd z q1, fun _ => v_X11_cats_219 k n i f x5 S S (val l) s0 (val l) _ fin2⟩⟩
          · rw [q2, q3] at fin2
            exact v_X11_cats_191 k n i f x5 x6 S (val l) s0 _ ⟨hs0, fun _ => v_X11_cats_205 k n i f x5 x6 S (val l) s0 x6 _ ⟨hs0, fun _ => v_X11_cats_219 k n i f x5 x6 S (val l) s0 x5 _ fin2, fun z => absurd q1 z⟩, fun z => absurd q1 z⟩
        have one : ∀ l' ∈ LLc kk G 0, mskc l' = S → l' = l := fun l' hl' hm' => U_msk kk hkm l' (hsub l' hl').1 l (hsub l hl).1 (by omega)
        rcases hI with ⟨h1, h2⟩ | ⟨lo, h1, h2, h3', h4', h5, h6⟩
        · rw [h2]
          rw [h2] at put
          refine ⟨by decide, fun _ => v_X11_cats_186 k n i f _ x6 S _ _ (put 1 (val l) S (Or.inl ⟨by decide, rfl, rfl⟩) (by decide) (Or.inr ⟨l, hl, ho, by omega, by rw [hm], rfl, fun l' hl' ho' hm' => ?_⟩)), fun z => absurd z (by decide)⟩
          by_cases e : mskc l' = S
          · rw [one l' hl' e]; exact Or.inr ⟨rfl, Nat.le_refl _⟩
          · exact absurd (h1 l' hl' ho' (by omega)) (by simp)
        · have hvo := hvin lo
          refine ⟨hx5, fun z => absurd z (by omega), fun _ => ⟨⟨⟨by omega, by omega⟩, hx5⟩, fun z => ?_, fun z => ⟨⟨⟨by omega, by omega⟩, hx5⟩, fun z2 => ?_, fun z2 => ?_⟩⟩⟩
          · refine v_X11_cats_186 k n i f x5 x6 S _ _ (put 1 (val l) S (Or.inl ⟨by decide, rfl, rfl⟩) (by decide) (Or.inr ⟨l, hl, ho, by omega, by rw [hm], rfl, fun l' hl' ho' hm' => ?_⟩))
            by_cases e : mskc l' = S
            · rw [one l' hl' e]; exact Or.inr ⟨rfl, Nat.le_refl _⟩
            · have := h6 l' hl' ho' (by omega)
              omega
          · refine v_X11_cats_190 k n i f x5 x6 S _ _ (put 0 x5 x6 (Or.inr ⟨rfl, rfl, rfl⟩) (by decide) (Or.inr ⟨lo, h1, h2, by omega, h4', h5, fun l' hl' ho' hm' => ?_⟩))
            by_cases e : mskc l' = S
            · rw [one l' hl' e]; omega
            · exact h6 l' hl' ho' (by omega)
          · have hu := U_ahead kk hkm l (hsub l hl).1 lo (hsub lo h1).1
            rw [hm, ← h4'] at hu
            refine e_X11_isAhead _ _ _ ⟨iand_R _ _, fun z3 => ⟨Or.inl rfl, by decide, fun _ => ?_, fun z4 => absurd rfl z4⟩, fun z3 => ⟨Or.inr rfl, by decide, fun z4 => absurd z4 (by decide), fun _ => ?_⟩⟩
            · have hu2 : ¬ rkc l < rkc lo := fun z5 => by
                rw [decide_eq_true (show ahdF S x6 = 0 from z3), decide_eq_true z5] at hu
                exact absurd hu (by decide)
              refine v_X11_cats_190 k n i f x5 x6 S _ _ (put 0 x5 x6 (Or.inr ⟨rfl, rfl, rfl⟩) (by decide) (Or.inr ⟨lo, h1, h2, by omega, h4', h5, fun l' hl' ho' hm' => ?_⟩))
              by_cases e : mskc l' = S
              · rw [one l' hl' e]; omega
              · exact h6 l' hl' ho' (by omega)
            · have hu2 : rkc l < rkc lo := by
                by_cases z5 : rkc l < rkc lo
                · exact z5
                · rw [decide_eq_false (show ¬ ahdF S x6 = 0 from z3), decide_eq_false z5] at hu
                  exact absurd hu (by decide)
              refine v_X11_cats_186 k n i f x5 x6 S _ _ (put 1 (val l) S (Or.inl ⟨by decide, rfl, rfl⟩) (by decide) (Or.inr ⟨l, hl, ho, by omega, by rw [hm], rfl, fun l' hl' ho' hm' => ?_⟩))
              by_cases e : mskc l' = S
              · rw [one l' hl' e]; exact Or.inr ⟨rfl, Nat.le_refl _⟩
              · have := h6 l' hl' ho' (by omega)
                omega
  -- the free gaps
  have free : ∀ (u x f : Nat), x + u = G → f < 2 ^ x → (∀ g < x, f.testBit g = decide (h 12 (g : Nat) = 0)) → V KM (d + 3) mX11_cats 47 [some (aR 0), some (aI k), some (aI n), some (aI i), some (aI f), some (aI x), none, none, none, none] [] h (rI P) := by
    intro u
    induction u with
    | zero =>
      intro x f hx hf hfb
      have hxG : x = G := by omega
      refine v_X11_cats_47 k n i f x h ⟨⟨⟨by omega, by omega⟩, ⟨by omega, by omega⟩⟩, fun _ => main f (by rw [hxG] at hf; omega) (by rw [← hxG]; exact hfb) (2 ^ G) 0 (-4) 0 h (by omega) (fun _ _ _ _ _ _ => rfl) (Or.inl ⟨fun l _ _ hm => absurd hm (by omega), rfl⟩), fun z => absurd z (by omega)⟩
    | succ u ih =>
      intro x f hx hf hfb
      obtain ⟨s1, s2, s3, s4, s5⟩ := F_step x (by omega) f hf
      have hw := hwl x (by omega) (by omega)
      have hpw2 : 2 ^ (x + 1) = 2 ^ x + 2 ^ x := by rw [Nat.pow_succ]; omega
      have e1 : ((x : Nat) : Int) + 1 = ((x + 1 : Nat) : Int) := by omega
      refine v_X11_cats_47 k n i f x h ⟨⟨⟨by omega, by omega⟩, ⟨by omega, by omega⟩⟩, fun z => absurd z (by omega), fun _ => ⟨by omega, ⟨by omega, by omega⟩, fun z => v_X11_cats_76 k n i f x _ _ h ?_, fun z => v_X11_cats_76 k n i f x _ _ h ?_⟩⟩
      · rw [s1, e1]
        refine ih (x + 1) (f + 2 ^ x) (by omega) (by omega) (fun g hg => ?_)
        by_cases e : g = x
        · rw [e, s3, decide_eq_true z]
        · rw [s2 g (by omega)]; exact hfb g (by omega)
      · rw [s4, e1]
        refine ih (x + 1) f (by omega) (by omega) (fun g hg => ?_)
        by_cases e : g = x
        · rw [e, s5, decide_eq_false z]
        · exact hfb g (by omega)
  exact free G 0 0 (by omega) (by omega) (fun g hg => absurd hg (by omega))
