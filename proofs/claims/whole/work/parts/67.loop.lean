/-! THE LAW: its loop -/
theorem sw_in (x : Int32) : 0 ≤ (x &&& 31).toInt ∧ (x &&& 31).toInt ≤ 31 := by
  have key : ∃ n : Nat, n < 32 ∧ (x &&& 31).toInt = n := by
    refine ⟨x.toBitVec.toNat % 32, Nat.mod_lt _ (by decide), ?_⟩
    have h1 : (x &&& 31).toInt = (x.toBitVec &&& 31#32).toInt := rfl
    rw [h1]
    have h2 : (x.toBitVec &&& 31#32).toNat = x.toBitVec.toNat % 32 := by
      rw [BitVec.toNat_and]
      show x.toBitVec.toNat &&& 31 = _
      exact Nat.and_two_pow_sub_one_eq_mod _ 5
    have h3 : x.toBitVec.toNat % 32 < 32 := Nat.mod_lt _ (by decide)
    rw [BitVec.toInt_eq_toNat_of_lt (by rw [h2]; omega), h2]
  obtain ⟨n, h1, h2⟩ := key
  omega
section
variable {p : Program} {l : Launch} {e : Env} {s : State} {m : MethodId} {below : List Frame} {meth : Method} {c : Code} {b L : Nat} {xs : Nat → Int32} {D : va_G} {γ : Nat → ClassId} {σ τ : Nat → Nat}
theorem l_case (C : Lc p s m meth c b L xs D γ σ τ) {k : Nat} {h g : HP} (hL : 4 * k + 3 < L) (hI : Iv k h g) (next : ∀ h1 g1, Iv (k + 1) h1 g1 → Lj p l e s m below meth c b D γ σ τ (4 * k) 819 [] h1 g1) : ∀ t, t < 23 → Lj p l e s m below meth c b D γ σ τ (4 * k) (([140, 203, 216, 229, 242, 275, 308, 321, 364, 397, 430, 463, 486, 529, 562, 605, 628, 671, 704, 737, 770, 783, 796] : List Nat).getD t 0) [] h g
  | 0, _ => lc_write C hL hI next
  | 1, _ => lc_wipe C hL hI next
  | 2, _ => lc_fault C hL hI next
  | 3, _ => lc_lay C hL hI next
  | 4, _ => lc_bin C hL hI next
  | 5, _ => lc_gap C hL hI next
  | 6, _ => lc_night C hL hI next
  | 7, _ => lc_pour C hL hI next
  | 8, _ => lc_left C hL hI next
  | 9, _ => lc_lost C hL hI next
  | 10, _ => lc_order C hL hI next
  | 11, _ => lc_exchanged C hL hI next
  | 12, _ => lc_pours C hL hI next
  | 13, _ => lc_corn C hL hI next
  | 14, _ => lc_cats C hL hI next
  | 15, _ => lc_moves C hL hI next
  | 16, _ => lc_was C hL hI next
  | 17, _ => lc_others C hL hI next
  | 18, _ => lc_drawn C hL hI next
  | 19, _ => lc_ten C hL hI next
  | 20, _ => lc_keep C hL hI next
  | 21, _ => lc_back C hL hI next
  | 22, _ => lc_count C hL hI next
  | t + 23, ht => absurd ht (by omega)
theorem nI_oI {n : Nat} (h : n < 2147483648) : nI n = Int32.ofInt (n : Int) := Int32.toInt_inj.mp (by rw [nI_toInt (by omega), oI_toInt ⟨by omega, by omega⟩])
theorem sw_off : ∀ t : Nat, t < 23 → (#[108, 171, 184, 197, 210, 243, 276, 289, 332, 365, 398, 431, 454, 497, 530, 573, 596, 639, 672, 705, 738, 751, 764] : Array Int)[t]? = some (((([140, 203, 216, 229, 242, 275, 308, 321, 364, 397, 430, 463, 486, 529, 562, 605, 628, 671, 704, 737, 770, 783, 796] : List Nat).getD t 0 : Nat) : Int) - 32) := by decide
/-- at the loop's head, with k calls done -/
theorem l_loop (C : Lc p s m meth c b L xs D γ σ τ) : ∀ (f k : Nat) (h g : HP), L < 4 * (k + f) → 4 * k ≤ L + 4 → Iv k h g → Lj p l e s m below meth c b D γ σ τ (4 * k) 18 [] h g := by
  have hL9 : L ≤ 2048 := C.2.2.2.2.2.2.2.2.2.2.2.2.2
  intro f
  induction f with
  | zero =>
    intro k h g hf hk hI
    intro H locs lsa hx hm hS hl
    obtain ⟨c1, c2, c3, c4, c5, c6, c7, c8, c9, c10, c11, c12, c13, c14⟩ := id C
    have hbA : ¬ A0 s b := Nat.not_le.mpr c8
    refine lv_iload_n c1 c2 dL_law_18 rfl (lv_at hl 3 rfl) ?_
    refine lv_aload_n c1 c2 dL_law_19 rfl (lv_at hl 0 rfl) ?_
    refine va_slen c1 c2 c7 c8 hbA hS dL_law_20 ?_
    refine lv_iconst c1 c2 dL_law_21 rfl ?_
    refine lv_isub c1 c2 dL_law_22 ?_
    have e1 : Int32.ofNat L - Int32.ofInt 4 = Int32.ofInt ((L : Int) - 4) := by
      rw [show Int32.ofNat L = Int32.ofInt (L : Int) from nI_oI (by omega), ← Int32.ofInt_sub]
    rw [e1, nI_oI (by omega)]
    refine lv_icmp_gt (tgt := 825) c1 c2 dL_law_23 (by decide) (fun q => ?_) (fun q => absurd ((oI_lt ⟨by omega, by omega⟩ ⟨by omega, by omega⟩).mpr (by omega)) q)
    refine lv_iconst (v := 1) c1 c2 dL_law_825 (by decide) ?_
    refine va_forget (fun q hq => hS.2.2 q hq) ?_
    refine W.widen (k := 600000) (n := 7302250) (Nat.le_of_ble_eq_true rfl) (Nat.le_of_ble_eq_true rfl) ?_
    exact lw_ret c1 c2 c3 c9 dL_law_826
  | succ f ih =>
    intro k h g hf hk hI
    have next : 4 * k + 3 < L → ∀ h1 g1, Iv (k + 1) h1 g1 → Lj p l e s m below meth c b D γ σ τ (4 * k) 819 [] h1 g1 := by
      intro hlt h1 g1 hI1
      intro H locs lsa hx hm hS hl
      refine lv_iinc (v := nI (4 * (k + 1))) (lv' := [(3, .int (nI (4 * (k + 1)))), (0, .ref b), (1, .ref (σ 0)), (2, .ref (τ 0))]) C.1 C.2.1 dL_law_819 hl (k := 3) rfl ?_ (by decide) rfl (fun lsa2 hl2 => ?_)
      · show nI (4 * k) + nI 4 = nI (4 * (k + 1))
        rw [nI_add, show 4 * k + 4 = 4 * (k + 1) by omega]
      · refine lv_goto (tgt := 18) C.1 C.2.1 dL_law_822 (by decide) ?_
        exact ih (k + 1) h1 g1 (by omega) (by omega) hI1 H locs lsa2 hx hm hS (lv_sub hl2 [1, 2, 3, 0] rfl)
    intro H locs lsa hx hm hS hl
    obtain ⟨c1, c2, c3, c4, c5, c6, c7, c8, c9, c10, c11, c12, c13, c14⟩ := id C
    have hbA : ¬ A0 s b := Nat.not_le.mpr c8
    refine lv_iload_n c1 c2 dL_law_18 rfl (lv_at hl 3 rfl) ?_
    refine lv_aload_n c1 c2 dL_law_19 rfl (lv_at hl 0 rfl) ?_
    refine va_slen c1 c2 c7 c8 hbA hS dL_law_20 ?_
    refine lv_iconst c1 c2 dL_law_21 rfl ?_
    refine lv_isub c1 c2 dL_law_22 ?_
    have e1 : Int32.ofNat L - Int32.ofInt 4 = Int32.ofInt ((L : Int) - 4) := by
      rw [show Int32.ofNat L = Int32.ofInt (L : Int) from nI_oI (by omega), ← Int32.ofInt_sub]
    have e2 : nI (4 * k) = Int32.ofInt ((4 * k : Nat) : Int) := nI_oI (by omega)
    rw [e1]
    refine lv_icmp_gt (tgt := 825) c1 c2 dL_law_23 (by decide) (fun q => ?_) (fun q => ?_)
    · refine lv_iconst (v := 1) c1 c2 dL_law_825 (by decide) ?_
      refine va_forget (fun q hq => hS.2.2 q hq) ?_
      refine W.widen (k := 600000) (n := 7302250) (Nat.le_of_ble_eq_true rfl) (Nat.le_of_ble_eq_true rfl) ?_
      exact lw_ret c1 c2 c3 c9 dL_law_826
    · have hlt : 4 * k + 3 < L := by
        by_cases z : 4 * k + 3 < L
        · exact z
        · exact absurd (by rw [e2]; exact (oI_lt ⟨by omega, by omega⟩ ⟨by omega, by omega⟩).mpr (by omega)) q
      refine lv_aload_n c1 c2 dL_law_26 rfl (lv_at hl 0 rfl) ?_
      refine lv_iload_n c1 c2 dL_law_27 rfl (lv_at hl 3 rfl) ?_
      refine va_sld c1 c2 c7 c8 hbA hS (vp_in_nI (by omega) (by omega)) dL_law_28 ?_
      refine lv_bipush c1 c2 dL_law_29 (show (Int8.ofInt 31).toInt32 = 31 by decide) ?_
      refine lv_iand c1 c2 dL_law_31 ?_
      generalize hz : xs (nI (4 * k)).toNatClampNeg &&& 31 = z
      have hzr : 0 ≤ z.toInt ∧ z.toInt ≤ 31 := by rw [← hz]; exact sw_in _
      by_cases c22 : 22 < z.toInt
      · refine lv_tableOut (tgt := 819) c1 c2 dL_law_32 (Or.inr c22) (by decide) ?_
        exact next hlt h g ⟨hI.1, WV_mono hI.2.1 (by omega), hI.2.2⟩ H locs lsa hx hm hS hl
      · refine lv_tableIn (tgt := (([140, 203, 216, 229, 242, 275, 308, 321, 364, 397, 430, 463, 486, 529, 562, 605, 628, 671, 704, 737, 770, 783, 796] : List Nat).getD z.toInt.toNat 0)) c1 c2 dL_law_32 (by omega) c22 (by rw [show (z.toInt - 0).toNat = z.toInt.toNat by omega]; exact sw_off z.toInt.toNat (by omega)) (by show (32 : Int) + _ = _; omega) ?_
        exact l_case C hlt hI (next hlt) z.toInt.toNat (by omega) H locs lsa hx hm hS hl
end
