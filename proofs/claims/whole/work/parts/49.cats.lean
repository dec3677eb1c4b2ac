/-! CATS: sets of gaps in their order; pure -/
def LLc : Nat → Nat → Nat → List (List Nat)
  | 0, _, _ => [[]]
  | _ + 1, 0, _ => []
  | m + 1, j + 1, g => (LLc m j (g + 1)).map (fun l => g :: l) ++ LLc (m + 1) j (g + 1)
def cts (ct : Int → Int) : List Nat → (Int → Int)
  | [] => ct
  | g :: l => cts (udf ct g 1) l
def rws (row : Int → Int) (c : Int) : List Nat → (Int → Int)
  | [] => row
  | g :: l => rws (udf row c g) (c + 1) l
def opb (wl : Int → Int) : List Nat → Bool
  | [] => true
  | g :: l => decide (wl g = 0) && opb wl l
theorem opb_iff {wl : Int → Int} : ∀ l : List Nat, opb wl l = true ↔ ∀ g ∈ l, wl g = 0
  | [] => ⟨fun _ g hg => absurd hg (by simp), fun _ => rfl⟩
  | g :: l => by
    rw [opb, Bool.and_eq_true, opb_iff l]
    simp
def stc (F : (Int → Int) → (Int → Int) → SC → SC) (wl : Int → Int) (c : Int) (ct row : Int → Int) (s : SC) (l : List Nat) : SC := if opb wl l = true then F (cts ct l) (rws row c l) s else s
theorem CH_fold {F : (Int → Int) → (Int → Int) → SC → SC} {wl : Int → Int} : ∀ (m j g : Nat) (c : Int) (ct row : Int → Int) (s : SC), CH F wl m j g c ct row s = (LLc m j g).foldl (stc F wl c ct row) s
  | 0, j, g, c, ct, row, s => by
    rw [CH, LLc]
    show F ct row s = stc F wl c ct row s []
    unfold stc
    rw [opb, if_pos rfl]
    rfl
  | m + 1, 0, g, c, ct, row, s => by
    rw [CH, LLc]
    rfl
  | m + 1, j + 1, g, c, ct, row, s => by
    have e1 : ((g : Nat) : Int) + 1 = ((g + 1 : Nat) : Int) := by omega
    rw [CH, LLc, List.foldl_append, List.foldl_map, e1, CH_fold (m + 1) j (g + 1) c ct row _]
    congr 1
    by_cases w : wl g = 0
    · rw [if_pos w, CH_fold m j (g + 1) (c + 1) (udf ct g 1) (udf row c g) s]
      congr 1
      funext s l
      unfold stc
      rw [opb, decide_eq_true w, Bool.true_and]
      rfl
    · rw [if_neg w]
      have : ∀ (L : List (List Nat)) (s : SC), L.foldl (fun s l => stc F wl c ct row s (g :: l)) s = s := by
        intro L
        induction L with
        | nil => intro s; rfl
        | cons a L ih =>
          intro s
          rw [List.foldl_cons]
          have : stc F wl c ct row s (g :: a) = s := by
            unfold stc
            rw [opb, decide_eq_false w, Bool.false_and, if_neg (by decide)]
          rw [this]
          exact ih s
      exact (this _ s).symm
/-- where a set stands among sets of as many -/
def rkc : List Nat → Nat
  | [] => 1023
  | g :: l => rkc l - 2 ^ (9 - g)
def mskc : List Nat → Nat
  | [] => 0
  | g :: l => 2 ^ g + mskc l
/-- the best of a list of sets -/
def Bst (op : List Nat → Bool) (val : List Nat → Int) (D : List (List Nat)) (l : List Nat) : Prop := l ∈ D ∧ op l = true ∧ ∀ l' ∈ D, op l' = true → val l < val l' ∨ (val l = val l' ∧ rkc l ≤ rkc l')
theorem fold_best {op : List Nat → Bool} {val : List Nat → Int} {W : List Nat → (Int → Int)} {f : SC → List Nat → SC} (hv : ∀ l, val l < 1000000) (hf : ∀ s l, f s l = if op l = true then (if val l < s.1 then (val l, W l) else s) else s) :
    ∀ (L D : List (List Nat)) (s : SC), (D ++ L).Pairwise (fun a b => rkc a < rkc b) → (((∀ l ∈ D, op l = false) ∧ s = (1000000, z0)) ∨ ∃ l, Bst op val D l ∧ s = (val l, W l)) →
      (((∀ l ∈ D ++ L, op l = false) ∧ L.foldl f s = (1000000, z0)) ∨ ∃ l, Bst op val (D ++ L) l ∧ L.foldl f s = (val l, W l))
  | [], D, s, _, h => by
    rw [List.append_nil, List.foldl_nil]
    exact h
  | a :: L, D, s, hp, h => by
    have e1 : D ++ a :: L = (D ++ [a]) ++ L := by simp
    rw [e1] at hp ⊢
    rw [List.foldl_cons]
    refine fold_best hv hf L (D ++ [a]) (f s a) hp ?_
    have hpa : ∀ l ∈ D, rkc l < rkc a := fun l hl => by
      have h1 := (List.pairwise_append.mp hp).1
      exact (List.pairwise_append.mp h1).2.2 l hl a (by simp)
    have va := hv a
    rw [hf]
    cases ha : op a with
    | false =>
      rw [if_neg (by decide)]
      rcases h with ⟨h1, h2⟩ | ⟨l, ⟨h1, h2, h3⟩, h4⟩
      · left
        refine ⟨fun l hl => ?_, h2⟩
        rcases List.mem_append.mp hl with q | q
        · exact h1 l q
        · rw [List.mem_singleton.mp q]; exact ha
      · right
        refine ⟨l, ⟨List.mem_append_left _ h1, h2, fun l' hl' ho => ?_⟩, h4⟩
        rcases List.mem_append.mp hl' with q | q
        · exact h3 l' q ho
        · rw [List.mem_singleton.mp q, ha] at ho; exact absurd ho (by decide)
    | true =>
      rw [if_pos rfl]
      right
      rcases h with ⟨h1, h2⟩ | ⟨l, ⟨h1, h2, h3⟩, h4⟩
      · rw [h2, if_pos (show val a < 1000000 from va)]
        refine ⟨a, ⟨List.mem_append_right _ (by simp), ha, fun l' hl' ho => ?_⟩, rfl⟩
        rcases List.mem_append.mp hl' with q | q
        · rw [h1 l' q] at ho; exact absurd ho (by decide)
        · rw [List.mem_singleton.mp q]; exact Or.inr ⟨rfl, Nat.le_refl _⟩
      · rw [h4]
        by_cases c : val a < val l
        · rw [if_pos (show val a < (val l, W l).1 from c)]
          refine ⟨a, ⟨List.mem_append_right _ (by simp), ha, fun l' hl' ho => ?_⟩, rfl⟩
          rcases List.mem_append.mp hl' with q | q
          · have := h3 l' q ho
            omega
          · rw [List.mem_singleton.mp q]; exact Or.inr ⟨rfl, Nat.le_refl _⟩
        · rw [if_neg (show ¬ val a < (val l, W l).1 from c)]
          refine ⟨l, ⟨List.mem_append_left _ h1, h2, fun l' hl' ho => ?_⟩, rfl⟩
          rcases List.mem_append.mp hl' with q | q
          · exact h3 l' q ho
          · rw [List.mem_singleton.mp q]
            have := hpa l h1
            omega
theorem cts_at {ct : Int → Int} : ∀ (l : List Nat) (g : Nat), cts ct l g = if g ∈ l then 1 else ct g
  | [], g => by simp [cts]
  | a :: l, g => by
    rw [cts, cts_at l g]
    by_cases h : g ∈ l
    · rw [if_pos h, if_pos (List.mem_cons_of_mem _ h)]
    · rw [if_neg h]
      unfold udf
      by_cases e : g = a
      · rw [if_pos (by omega), if_pos (by rw [e]; exact List.mem_cons_self)]
      · rw [if_neg (by omega), if_neg (by simp [e, h])]
theorem rws_lo {row : Int → Int} {x : Int} : ∀ (l : List Nat) (c : Int), x < c → rws row c l x = row x := by
  intro l
  induction l generalizing row with
  | nil => intro c _; rfl
  | cons a l ih =>
    intro c hx
    rw [rws, ih (c + 1) (by omega)]
    unfold udf
    rw [if_neg (by omega)]
theorem rws_at {row : Int → Int} : ∀ (l : List Nat) (c : Int) (i : Nat) (v : Nat), l[i]? = some v → rws row c l (c + i) = v := by
  intro l
  induction l generalizing row with
  | nil => intro c i v h; simp at h
  | cons a l ih =>
    intro c i v h
    rw [rws]
    cases i with
    | zero =>
      simp at h
      rw [rws_lo l (c + 1) (by omega)]
      unfold udf
      rw [if_pos (by omega), h]
    | succ i =>
      have := ih (row := udf row c a) (c + 1) i v (by simpa using h)
      rw [show c + ((i + 1 : Nat) : Int) = c + 1 + i by omega]
      exact this
/-! what bits say of sets: by counting -/
def mnyF (x : Int) : Nat → Int
  | 0 => 0
  | g + 1 => mnyF x g + b_iand (b_ishr x g) 1
def gpoF (x : Int) : Nat → Int → Int → Option Int
  | 0, _, _ => none
  | f + 1, left, g => if 0 < left ∨ b_iand (b_ishr x g) 1 = 0 then gpoF x f (left - b_iand (b_ishr x g) 1) (g + 1) else some g
def ahdF (x y : Int) : Int := b_iand (b_iand x (b_ixor x y)) (-(b_ixor x y))
def UUc (k : Nat) : List (List Nat) := LLc k 10 0
set_option maxRecDepth 100000 in
theorem U_ahead : ∀ k ∈ [1, 2, 3], ∀ l ∈ UUc k, ∀ l' ∈ UUc k, decide (ahdF (mskc l) (mskc l') = 0) = !(decide (rkc l < rkc l')) := by decide +kernel
set_option maxRecDepth 100000 in
theorem U_one : ∀ k ∈ [1, 2, 3], ∀ l ∈ UUc k, ∀ l' ∈ UUc k, rkc l = rkc l' → l = l' := by decide +kernel
set_option maxRecDepth 100000 in
theorem U_msk : ∀ k ∈ [1, 2, 3], ∀ l ∈ UUc k, ∀ l' ∈ UUc k, mskc l = mskc l' → l = l' := by decide +kernel
set_option maxRecDepth 100000 in
theorem U_gap : ∀ k ∈ [1, 2, 3], ∀ l ∈ UUc k, ∀ i < k, gpoF (mskc l) 40 (i : Nat) 0 = (l[i]?).map (fun v => ((v : Nat) : Int)) ∧ (l[i]?).isSome = true := by decide +kernel
set_option maxRecDepth 100000 in
theorem U_bit : ∀ k ∈ [1, 2, 3], ∀ l ∈ UUc k, (∀ g < 10, b_iand (b_ishr (mskc l) (g : Nat)) 1 = if g ∈ l then 1 else 0) ∧ (∀ g ∈ l, g < 10) ∧ mnyF (mskc l) 12 = k ∧ mskc l < 1024 := by decide +kernel
set_option maxRecDepth 100000 in
theorem U_sub : ∀ k ∈ [1, 2, 3], ∀ G < 11, (LLc k G 0).Pairwise (fun a b => rkc a < rkc b) ∧ ∀ l ∈ LLc k G 0, l ∈ UUc k ∧ mskc l < 2 ^ G ∧ ∀ g ∈ l, g < G := by decide +kernel
set_option maxRecDepth 100000 in
theorem U_all : ∀ k ∈ ([1, 2, 3] : List Nat), ∀ G < 11, ∀ S < 2 ^ G, mnyF ((S : Nat) : Int) 12 = ((k : Nat) : Int) → ∃ l ∈ LLc k G 0, mskc l = S := by decide +kernel
set_option maxRecDepth 100000 in
theorem F_step : ∀ x < 10, ∀ f < 2 ^ x, b_ior (f : Nat) (b_ishl 1 (x : Nat)) = ((f + 2 ^ x : Nat) : Int) ∧ (∀ g < x, (f + 2 ^ x).testBit g = f.testBit g) ∧ (f + 2 ^ x).testBit x = true ∧ b_ior (f : Nat) 0 = (f : Nat) ∧ f.testBit x = false := by decide +kernel
set_option maxRecDepth 100000 in
theorem U_tst : ∀ k ∈ [1, 2, 3], ∀ l ∈ UUc k, ∀ g < 10, (mskc l).testBit g = decide (g ∈ l) := by decide +kernel
theorem ofI_nat (n : Nat) : (Int32.ofInt (n : Int)).toBitVec = BitVec.ofNat 32 n := by
  show BitVec.ofInt 32 (n : Int) = BitVec.ofNat 32 n
  exact BitVec.ofInt_natCast 32 n
theorem fre_bits {S f : Nat} (hS : S < 1024) (hf : f < 1024) : (b_iand S (b_ixor f (-1)) = 0) ↔ ∀ g < 10, S.testBit g = true → f.testBit g = true := by
  unfold b_iand b_ixor
  rw [Int32.ofInt_toInt]
  have hb : ∀ g, g < 32 → ((Int32.ofInt (S : Int) &&& (Int32.ofInt (f : Int) ^^^ Int32.ofInt (-1))).toBitVec).getLsbD g = (S.testBit g && !(f.testBit g)) := by
    intro g hg
    rw [Int32.toBitVec_and, Int32.toBitVec_xor, BitVec.getLsbD_and, BitVec.getLsbD_xor, ofI_nat, ofI_nat, BitVec.getLsbD_ofNat, BitVec.getLsbD_ofNat]
    have e : (Int32.ofInt (-1)).toBitVec = BitVec.allOnes 32 := by decide
    rw [e, BitVec.getLsbD_allOnes]
    simp [hg]
  constructor
  · intro hz g hg hs
    have h0 : Int32.ofInt (S : Int) &&& (Int32.ofInt (f : Int) ^^^ Int32.ofInt (-1)) = 0 := Int32.toInt_inj.mp (hz.trans rfl)
    have h1 := hb g (by omega)
    rw [h0, hs] at h1
    have h2 : ((0 : Int32).toBitVec).getLsbD g = false := by
      show (0#32).getLsbD g = false
      exact BitVec.getLsbD_zero
    rw [h2, Bool.true_and] at h1
    cases hq : f.testBit g with
    | true => rfl
    | false => rw [hq] at h1; exact absurd h1 (by decide)
  · intro hz
    have h0 : Int32.ofInt (S : Int) &&& (Int32.ofInt (f : Int) ^^^ Int32.ofInt (-1)) = 0 := by
      apply Int32.toBitVec_inj.mp
      apply BitVec.eq_of_getLsbD_eq
      intro g hg
      rw [hb g hg]
      have h2 : ((0 : Int32).toBitVec).getLsbD g = false := by
        show (0#32).getLsbD g = false
        exact BitVec.getLsbD_zero
      rw [h2]
      by_cases hg2 : g < 10
      · have h3 := hz g hg2
        cases hs : S.testBit g with
        | false => rfl
        | true => rw [h3 hs]; rfl
      · have : S.testBit g = false := Nat.testBit_lt_two_pow (Nat.lt_of_lt_of_le hS (by
          have : 2 ^ 10 ≤ 2 ^ g := Nat.pow_le_pow_right (by omega) (by omega)
          exact this))
        rw [this]
        rfl
    rw [h0]
    rfl
theorem U_free : ∀ k ∈ [1, 2, 3], ∀ l ∈ UUc k, ∀ f < 1024, decide (b_iand (mskc l) (b_ixor (f : Nat) (-1)) = 0) = l.all (fun g => f.testBit g) := by
  intro k hk l hl f hf
  have h1 := U_bit k hk l hl
  have h2 := U_tst k hk l hl
  rw [Bool.eq_iff_iff, decide_eq_true_iff, fre_bits h1.2.2.2 hf, List.all_eq_true]
  constructor
  · intro q g hg
    exact q g (h1.2.1 g hg) (by rw [h2 g (h1.2.1 g hg)]; exact decide_eq_true hg)
  · intro q g hg hs
    rw [h2 g hg] at hs
    exact q g (of_decide_eq_true hs)
set_option maxRecDepth 100000 in
theorem F_top : ∀ G < 11, b_ishl 1 (G : Nat) = ((2 ^ G : Nat) : Int) ∧ 2 ^ G ≤ 1024 := by decide +kernel
