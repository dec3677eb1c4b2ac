/-! THE LAW: its cases (wip/whole/gen_law.py) -/
def Iv (k : Nat) (h g : HP) : Prop := AgV (vx h) (vm g) ∧ WV (k : Nat) (vm g) ∧ cz h ∧ cm g
theorem xR (x : Int32) : iR x.toInt := ⟨Int32.le_toInt _, by have := Int32.toInt_lt x; omega⟩
/-- there is a sorted row -/
theorem srt_ins (p : Int → Int) (n : Nat) : ∃ q : Int → Int, srt n q ∧ prm n q p := by
  have key : ∀ j : Nat, j ≤ n → ∃ q : Int → Int, (∀ y z : Int, 0 ≤ y → y < j → y ≤ z → z < n → q y ≤ q z) ∧ prm n q p := by
    intro j
    induction j with
    | zero => exact fun _ => ⟨p, fun y z y0 y1 => absurd y1 (by omega), prm_rf _ _⟩
    | succ j ih =>
      intro hj
      obtain ⟨q, h1, h2⟩ := ih (by omega)
      -- the least of the rest comes to place j
      have inner : ∀ u : Nat, j + 1 + u ≤ n → ∃ q : Int → Int, (∀ y z : Int, 0 ≤ y → y < j → y ≤ z → z < n → q y ≤ q z) ∧ (∀ z : Int, (j : Int) ≤ z → z < j + 1 + u → q j ≤ q z) ∧ prm n q p := by
        intro u
        induction u with
        | zero => exact fun _ => ⟨q, h1, fun z z0 z1 => by rw [show z = j by omega]; exact Int.le_refl _, h2⟩
        | succ u ihu =>
          intro hu
          obtain ⟨r, r1, r2, r3⟩ := ihu (by omega)
          by_cases c : r ((j + 1 + u : Nat) : Int) < r j
          · have w : ∀ z, swp r j ((j + 1 + u : Nat) : Int) z = if z = ((j + 1 + u : Nat) : Int) then r j else if z = (j : Int) then r ((j + 1 + u : Nat) : Int) else r z := fun z => rfl
            refine ⟨swp r j ((j + 1 + u : Nat) : Int), fun y z y0 y1 y2 y3 => ?_, fun z z0 z1 => ?_, prm_tr (swp_prm ⟨by omega, by omega⟩ ⟨by omega, by omega⟩) r3⟩
            · rw [w y, w z, if_neg (by omega), if_neg (by omega)]
              split
              · exact r1 y j y0 y1 (by omega) (by omega)
              · split
                · exact r1 y _ y0 y1 (by omega) (by omega)
                · exact r1 y z y0 y1 y2 y3
            · rw [w j, w z, if_neg (by omega), if_pos rfl]
              split
              · omega
              · split
                · exact Int.le_refl _
                · have := r2 z z0 (by omega)
                  omega
          · refine ⟨r, r1, fun z z0 z1 => ?_, r3⟩
            by_cases e : z = ((j + 1 + u : Nat) : Int)
            · rw [e]; omega
            · exact r2 z z0 (by omega)
      obtain ⟨r, r1, r2, r3⟩ := inner (n - (j + 1)) (by omega)
      refine ⟨r, fun y z y0 y1 y2 y3 => ?_, r3⟩
      by_cases e : y = j
      · rw [e] at y2 ⊢
        exact r2 z y2 (by omega)
      · exact r1 y z y0 (by omega) y2 y3
  obtain ⟨q, h1, h2⟩ := key n (Nat.le_refl _)
  exact ⟨q, fun x x0 x1 => h1 x (x + 1) x0 (by omega) (by omega) x1, h2⟩
theorem prm_ok {n : Nat} {p q : Int → Int} (h : prm n q p) (hp : rowOK n p) : rowOK n q := by
  intro x x0 x1
  by_cases c : 0 ≤ q x ∧ q x ≤ 300
  · exact c
  · have h1 := h (q x)
    rw [show ((n : Nat) : Int).toNat = n by omega] at h1
    rw [cnt_0 (p := p) (v := q x) n (fun i hi z => by have := hp i (by omega) (by omega); rw [z] at this; exact c this)] at h1
    have key : ∀ k : Nat, k ≤ n → x < k → 1 ≤ cnt q (q x) k := by
      intro k
      induction k with
      | zero => intro _ h9; omega
      | succ k ih =>
        intro hk hx
        unfold cnt
        rw [Sm]
        by_cases e : x = k
        · have h3 := cnt_nn (p := q) (v := q x) k
          unfold cnt at h3
          rw [if_pos (by rw [e])]
          omega
        · have h3 := ih (by omega) (by omega)
          unfold cnt at h3
          split <;> omega
    have := key n (Nat.le_refl _) x1
    omega
theorem srt_ex (n : Int) (p : Int → Int) (hn : 1 ≤ n ∧ n ≤ 8) (hp : rowOK n p) : ∃ q : Int → Int, srt n q ∧ prm n q p ∧ rowOK n q := by
  obtain ⟨k, rfl⟩ : ∃ k : Nat, n = k := ⟨n.toNat, by omega⟩
  obtain ⟨q, h1, h2⟩ := srt_ins p k
  exact ⟨q, h1, h2, prm_ok h2 hp⟩
theorem w1120 : Cond.constantLong RL 13 (Int64.ofInt 4294967295) ∈ tb2 := mem2 1120 (by decide +kernel) rfl
theorem w517 : Cond.code yX10_write cX10_write 5 (some .int) ∈ tb2 := mem2 517 (by decide +kernel) rfl
theorem w515 : Cond.instanceMethod yX10_write ∈ tb2 := mem2 515 (by decide +kernel) rfl
theorem w516 : Cond.selects RX10 yX10_write yX10_write ∈ tb2 := mem2 516 (by decide +kernel) rfl
theorem w514 : Cond.methodLink RL 15 yX10_write ∈ tb2 := mem2 514 (by decide +kernel) rfl
theorem w927 : Cond.code yX11_write cX11_write 5 (some .int) ∈ tb2 := mem2 927 (by decide +kernel) rfl
theorem w925 : Cond.instanceMethod yX11_write ∈ tb2 := mem2 925 (by decide +kernel) rfl
theorem w926 : Cond.selects RX11 yX11_write yX11_write ∈ tb2 := mem2 926 (by decide +kernel) rfl
theorem w924 : Cond.methodLink RL 19 yX11_write ∈ tb2 := mem2 924 (by decide +kernel) rfl
theorem w524 : Cond.code yX10_wipe cX10_wipe 2 (some .int) ∈ tb2 := mem2 524 (by decide +kernel) rfl
theorem w522 : Cond.instanceMethod yX10_wipe ∈ tb2 := mem2 522 (by decide +kernel) rfl
theorem w523 : Cond.selects RX10 yX10_wipe yX10_wipe ∈ tb2 := mem2 523 (by decide +kernel) rfl
theorem w521 : Cond.methodLink RL 20 yX10_wipe ∈ tb2 := mem2 521 (by decide +kernel) rfl
theorem w935 : Cond.code yX11_wipe cX11_wipe 2 (some .int) ∈ tb2 := mem2 935 (by decide +kernel) rfl
theorem w933 : Cond.instanceMethod yX11_wipe ∈ tb2 := mem2 933 (by decide +kernel) rfl
theorem w934 : Cond.selects RX11 yX11_wipe yX11_wipe ∈ tb2 := mem2 934 (by decide +kernel) rfl
theorem w932 : Cond.methodLink RL 24 yX11_wipe ∈ tb2 := mem2 932 (by decide +kernel) rfl
theorem w528 : Cond.code yX10_fault cX10_fault 1 (some .int) ∈ tb2 := mem2 528 (by decide +kernel) rfl
theorem w526 : Cond.instanceMethod yX10_fault ∈ tb2 := mem2 526 (by decide +kernel) rfl
theorem w527 : Cond.selects RX10 yX10_fault yX10_fault ∈ tb2 := mem2 527 (by decide +kernel) rfl
theorem w525 : Cond.methodLink RL 25 yX10_fault ∈ tb2 := mem2 525 (by decide +kernel) rfl
theorem w936 : Cond.methodLink RL 28 yX11_fault ∈ tb2 := mem2 936 (by decide +kernel) rfl
theorem w578 : Cond.code yX10_lay cX10_lay 1 (some .int) ∈ tb2 := mem2 578 (by decide +kernel) rfl
theorem w576 : Cond.instanceMethod yX10_lay ∈ tb2 := mem2 576 (by decide +kernel) rfl
theorem w577 : Cond.selects RX10 yX10_lay yX10_lay ∈ tb2 := mem2 577 (by decide +kernel) rfl
theorem w575 : Cond.methodLink RL 29 yX10_lay ∈ tb2 := mem2 575 (by decide +kernel) rfl
theorem w965 : Cond.code yX11_lay cX11_lay 1 (some .int) ∈ tb2 := mem2 965 (by decide +kernel) rfl
theorem w963 : Cond.instanceMethod yX11_lay ∈ tb2 := mem2 963 (by decide +kernel) rfl
theorem w964 : Cond.selects RX11 yX11_lay yX11_lay ∈ tb2 := mem2 964 (by decide +kernel) rfl
theorem w962 : Cond.methodLink RL 32 yX11_lay ∈ tb2 := mem2 962 (by decide +kernel) rfl
theorem w582 : Cond.code yX10_bin cX10_bin 3 (some .int) ∈ tb2 := mem2 582 (by decide +kernel) rfl
theorem w580 : Cond.instanceMethod yX10_bin ∈ tb2 := mem2 580 (by decide +kernel) rfl
theorem w581 : Cond.selects RX10 yX10_bin yX10_bin ∈ tb2 := mem2 581 (by decide +kernel) rfl
theorem w579 : Cond.methodLink RL 33 yX10_bin ∈ tb2 := mem2 579 (by decide +kernel) rfl
theorem w970 : Cond.code yX11_bin cX11_bin 3 (some .int) ∈ tb2 := mem2 970 (by decide +kernel) rfl
theorem w968 : Cond.instanceMethod yX11_bin ∈ tb2 := mem2 968 (by decide +kernel) rfl
theorem w969 : Cond.selects RX11 yX11_bin yX11_bin ∈ tb2 := mem2 969 (by decide +kernel) rfl
theorem w967 : Cond.methodLink RL 37 yX11_bin ∈ tb2 := mem2 967 (by decide +kernel) rfl
theorem w590 : Cond.code yX10_gap cX10_gap 3 (some .int) ∈ tb2 := mem2 590 (by decide +kernel) rfl
theorem w588 : Cond.instanceMethod yX10_gap ∈ tb2 := mem2 588 (by decide +kernel) rfl
theorem w589 : Cond.selects RX10 yX10_gap yX10_gap ∈ tb2 := mem2 589 (by decide +kernel) rfl
theorem w587 : Cond.methodLink RL 38 yX10_gap ∈ tb2 := mem2 587 (by decide +kernel) rfl
theorem w978 : Cond.code yX11_gap cX11_gap 3 (some .int) ∈ tb2 := mem2 978 (by decide +kernel) rfl
theorem w976 : Cond.instanceMethod yX11_gap ∈ tb2 := mem2 976 (by decide +kernel) rfl
theorem w977 : Cond.selects RX11 yX11_gap yX11_gap ∈ tb2 := mem2 977 (by decide +kernel) rfl
theorem w975 : Cond.methodLink RL 41 yX11_gap ∈ tb2 := mem2 975 (by decide +kernel) rfl
theorem w594 : Cond.code yX10_night cX10_night 2 (some .int) ∈ tb2 := mem2 594 (by decide +kernel) rfl
theorem w592 : Cond.instanceMethod yX10_night ∈ tb2 := mem2 592 (by decide +kernel) rfl
theorem w593 : Cond.selects RX10 yX10_night yX10_night ∈ tb2 := mem2 593 (by decide +kernel) rfl
theorem w591 : Cond.methodLink RL 42 yX10_night ∈ tb2 := mem2 591 (by decide +kernel) rfl
theorem w982 : Cond.code yX11_night cX11_night 3 (some .int) ∈ tb2 := mem2 982 (by decide +kernel) rfl
theorem w980 : Cond.instanceMethod yX11_night ∈ tb2 := mem2 980 (by decide +kernel) rfl
theorem w981 : Cond.selects RX11 yX11_night yX11_night ∈ tb2 := mem2 981 (by decide +kernel) rfl
theorem w979 : Cond.methodLink RL 45 yX11_night ∈ tb2 := mem2 979 (by decide +kernel) rfl
theorem w615 : Cond.code yX10_pour cX10_pour 4 (some .int) ∈ tb2 := mem2 615 (by decide +kernel) rfl
theorem w613 : Cond.instanceMethod yX10_pour ∈ tb2 := mem2 613 (by decide +kernel) rfl
theorem w614 : Cond.selects RX10 yX10_pour yX10_pour ∈ tb2 := mem2 614 (by decide +kernel) rfl
theorem w612 : Cond.methodLink RL 46 yX10_pour ∈ tb2 := mem2 612 (by decide +kernel) rfl
theorem w998 : Cond.code yX11_pour cX11_pour 4 (some .int) ∈ tb2 := mem2 998 (by decide +kernel) rfl
theorem w996 : Cond.instanceMethod yX11_pour ∈ tb2 := mem2 996 (by decide +kernel) rfl
theorem w997 : Cond.selects RX11 yX11_pour yX11_pour ∈ tb2 := mem2 997 (by decide +kernel) rfl
theorem w995 : Cond.methodLink RL 50 yX11_pour ∈ tb2 := mem2 995 (by decide +kernel) rfl
theorem w622 : Cond.code yX10_left cX10_left 3 (some .int) ∈ tb2 := mem2 622 (by decide +kernel) rfl
theorem w620 : Cond.instanceMethod yX10_left ∈ tb2 := mem2 620 (by decide +kernel) rfl
theorem w621 : Cond.selects RX10 yX10_left yX10_left ∈ tb2 := mem2 621 (by decide +kernel) rfl
theorem w619 : Cond.methodLink RL 51 yX10_left ∈ tb2 := mem2 619 (by decide +kernel) rfl
theorem w1002 : Cond.code yX11_left cX11_left 4 (some .int) ∈ tb2 := mem2 1002 (by decide +kernel) rfl
theorem w1000 : Cond.instanceMethod yX11_left ∈ tb2 := mem2 1000 (by decide +kernel) rfl
theorem w1001 : Cond.selects RX11 yX11_left yX11_left ∈ tb2 := mem2 1001 (by decide +kernel) rfl
theorem w999 : Cond.methodLink RL 54 yX11_left ∈ tb2 := mem2 999 (by decide +kernel) rfl
theorem w626 : Cond.code yX10_lost cX10_lost 3 (some .int) ∈ tb2 := mem2 626 (by decide +kernel) rfl
theorem w624 : Cond.instanceMethod yX10_lost ∈ tb2 := mem2 624 (by decide +kernel) rfl
theorem w625 : Cond.selects RX10 yX10_lost yX10_lost ∈ tb2 := mem2 625 (by decide +kernel) rfl
theorem w623 : Cond.methodLink RL 55 yX10_lost ∈ tb2 := mem2 623 (by decide +kernel) rfl
theorem w1013 : Cond.code yX11_lost cX11_lost 4 (some .int) ∈ tb2 := mem2 1013 (by decide +kernel) rfl
theorem w1011 : Cond.instanceMethod yX11_lost ∈ tb2 := mem2 1011 (by decide +kernel) rfl
theorem w1012 : Cond.selects RX11 yX11_lost yX11_lost ∈ tb2 := mem2 1012 (by decide +kernel) rfl
theorem w1010 : Cond.methodLink RL 58 yX11_lost ∈ tb2 := mem2 1010 (by decide +kernel) rfl
theorem w635 : Cond.code yX10_order cX10_order 3 (some .int) ∈ tb2 := mem2 635 (by decide +kernel) rfl
theorem w633 : Cond.instanceMethod yX10_order ∈ tb2 := mem2 633 (by decide +kernel) rfl
theorem w634 : Cond.selects RX10 yX10_order yX10_order ∈ tb2 := mem2 634 (by decide +kernel) rfl
theorem w632 : Cond.methodLink RL 59 yX10_order ∈ tb2 := mem2 632 (by decide +kernel) rfl
theorem w1018 : Cond.code yX11_order cX11_order 7 (some .int) ∈ tb2 := mem2 1018 (by decide +kernel) rfl
theorem w1016 : Cond.instanceMethod yX11_order ∈ tb2 := mem2 1016 (by decide +kernel) rfl
theorem w1017 : Cond.selects RX11 yX11_order yX11_order ∈ tb2 := mem2 1017 (by decide +kernel) rfl
theorem w1015 : Cond.methodLink RL 62 yX11_order ∈ tb2 := mem2 1015 (by decide +kernel) rfl
theorem w658 : Cond.code yX10_exchanged cX10_exchanged 2 (some .int) ∈ tb2 := mem2 658 (by decide +kernel) rfl
theorem w656 : Cond.instanceMethod yX10_exchanged ∈ tb2 := mem2 656 (by decide +kernel) rfl
theorem w657 : Cond.selects RX10 yX10_exchanged yX10_exchanged ∈ tb2 := mem2 657 (by decide +kernel) rfl
theorem w655 : Cond.methodLink RL 63 yX10_exchanged ∈ tb2 := mem2 655 (by decide +kernel) rfl
theorem w1031 : Cond.code yX11_exchanged cX11_exchanged 5 (some .int) ∈ tb2 := mem2 1031 (by decide +kernel) rfl
theorem w1029 : Cond.instanceMethod yX11_exchanged ∈ tb2 := mem2 1029 (by decide +kernel) rfl
theorem w1030 : Cond.selects RX11 yX11_exchanged yX11_exchanged ∈ tb2 := mem2 1030 (by decide +kernel) rfl
theorem w1028 : Cond.methodLink RL 67 yX11_exchanged ∈ tb2 := mem2 1028 (by decide +kernel) rfl
theorem w675 : Cond.code yX10_pours cX10_pours 4 (some .int) ∈ tb2 := mem2 675 (by decide +kernel) rfl
theorem w673 : Cond.instanceMethod yX10_pours ∈ tb2 := mem2 673 (by decide +kernel) rfl
theorem w674 : Cond.selects RX10 yX10_pours yX10_pours ∈ tb2 := mem2 674 (by decide +kernel) rfl
theorem w672 : Cond.methodLink RL 68 yX10_pours ∈ tb2 := mem2 672 (by decide +kernel) rfl
theorem w1043 : Cond.code yX11_pours cX11_pours 11 (some .int) ∈ tb2 := mem2 1043 (by decide +kernel) rfl
theorem w1041 : Cond.instanceMethod yX11_pours ∈ tb2 := mem2 1041 (by decide +kernel) rfl
theorem w1042 : Cond.selects RX11 yX11_pours yX11_pours ∈ tb2 := mem2 1042 (by decide +kernel) rfl
theorem w1040 : Cond.methodLink RL 71 yX11_pours ∈ tb2 := mem2 1040 (by decide +kernel) rfl
theorem w704 : Cond.code yX10_corn cX10_corn 3 (some .int) ∈ tb2 := mem2 704 (by decide +kernel) rfl
theorem w702 : Cond.instanceMethod yX10_corn ∈ tb2 := mem2 702 (by decide +kernel) rfl
theorem w703 : Cond.selects RX10 yX10_corn yX10_corn ∈ tb2 := mem2 703 (by decide +kernel) rfl
theorem w701 : Cond.methodLink RL 72 yX10_corn ∈ tb2 := mem2 701 (by decide +kernel) rfl
theorem w1052 : Cond.code yX11_corn cX11_corn 9 (some .int) ∈ tb2 := mem2 1052 (by decide +kernel) rfl
theorem w1050 : Cond.instanceMethod yX11_corn ∈ tb2 := mem2 1050 (by decide +kernel) rfl
theorem w1051 : Cond.selects RX11 yX11_corn yX11_corn ∈ tb2 := mem2 1051 (by decide +kernel) rfl
theorem w1049 : Cond.methodLink RL 75 yX11_corn ∈ tb2 := mem2 1049 (by decide +kernel) rfl
theorem w720 : Cond.code yX10_cats cX10_cats 4 (some .int) ∈ tb2 := mem2 720 (by decide +kernel) rfl
theorem w718 : Cond.instanceMethod yX10_cats ∈ tb2 := mem2 718 (by decide +kernel) rfl
theorem w719 : Cond.selects RX10 yX10_cats yX10_cats ∈ tb2 := mem2 719 (by decide +kernel) rfl
theorem w717 : Cond.methodLink RL 76 yX10_cats ∈ tb2 := mem2 717 (by decide +kernel) rfl
theorem w1061 : Cond.code yX11_cats cX11_cats 10 (some .int) ∈ tb2 := mem2 1061 (by decide +kernel) rfl
theorem w1059 : Cond.instanceMethod yX11_cats ∈ tb2 := mem2 1059 (by decide +kernel) rfl
theorem w1060 : Cond.selects RX11 yX11_cats yX11_cats ∈ tb2 := mem2 1060 (by decide +kernel) rfl
theorem w1058 : Cond.methodLink RL 79 yX11_cats ∈ tb2 := mem2 1058 (by decide +kernel) rfl
theorem w741 : Cond.code yX10_moves cX10_moves 2 (some .int) ∈ tb2 := mem2 741 (by decide +kernel) rfl
theorem w739 : Cond.instanceMethod yX10_moves ∈ tb2 := mem2 739 (by decide +kernel) rfl
theorem w740 : Cond.selects RX10 yX10_moves yX10_moves ∈ tb2 := mem2 740 (by decide +kernel) rfl
theorem w738 : Cond.methodLink RL 80 yX10_moves ∈ tb2 := mem2 738 (by decide +kernel) rfl
theorem w1074 : Cond.code yX11_moves cX11_moves 6 (some .int) ∈ tb2 := mem2 1074 (by decide +kernel) rfl
theorem w1072 : Cond.instanceMethod yX11_moves ∈ tb2 := mem2 1072 (by decide +kernel) rfl
theorem w1073 : Cond.selects RX11 yX11_moves yX11_moves ∈ tb2 := mem2 1073 (by decide +kernel) rfl
theorem w1071 : Cond.methodLink RL 83 yX11_moves ∈ tb2 := mem2 1071 (by decide +kernel) rfl
theorem w754 : Cond.code yX10_was cX10_was 4 (some .int) ∈ tb2 := mem2 754 (by decide +kernel) rfl
theorem w752 : Cond.instanceMethod yX10_was ∈ tb2 := mem2 752 (by decide +kernel) rfl
theorem w753 : Cond.selects RX10 yX10_was yX10_was ∈ tb2 := mem2 753 (by decide +kernel) rfl
theorem w751 : Cond.methodLink RL 84 yX10_was ∈ tb2 := mem2 751 (by decide +kernel) rfl
theorem w1082 : Cond.code yX11_was cX11_was 11 (some .int) ∈ tb2 := mem2 1082 (by decide +kernel) rfl
theorem w1080 : Cond.instanceMethod yX11_was ∈ tb2 := mem2 1080 (by decide +kernel) rfl
theorem w1081 : Cond.selects RX11 yX11_was yX11_was ∈ tb2 := mem2 1081 (by decide +kernel) rfl
theorem w1079 : Cond.methodLink RL 87 yX11_was ∈ tb2 := mem2 1079 (by decide +kernel) rfl
theorem w778 : Cond.code yX10_others cX10_others 3 (some .int) ∈ tb2 := mem2 778 (by decide +kernel) rfl
theorem w776 : Cond.instanceMethod yX10_others ∈ tb2 := mem2 776 (by decide +kernel) rfl
theorem w777 : Cond.selects RX10 yX10_others yX10_others ∈ tb2 := mem2 777 (by decide +kernel) rfl
theorem w775 : Cond.methodLink RL 88 yX10_others ∈ tb2 := mem2 775 (by decide +kernel) rfl
theorem w1087 : Cond.code yX11_others cX11_others 3 (some .int) ∈ tb2 := mem2 1087 (by decide +kernel) rfl
theorem w1085 : Cond.instanceMethod yX11_others ∈ tb2 := mem2 1085 (by decide +kernel) rfl
theorem w1086 : Cond.selects RX11 yX11_others yX11_others ∈ tb2 := mem2 1086 (by decide +kernel) rfl
theorem w1084 : Cond.methodLink RL 91 yX11_others ∈ tb2 := mem2 1084 (by decide +kernel) rfl
theorem w782 : Cond.code yX10_drawn cX10_drawn 3 (some .int) ∈ tb2 := mem2 782 (by decide +kernel) rfl
theorem w780 : Cond.instanceMethod yX10_drawn ∈ tb2 := mem2 780 (by decide +kernel) rfl
theorem w781 : Cond.selects RX10 yX10_drawn yX10_drawn ∈ tb2 := mem2 781 (by decide +kernel) rfl
theorem w779 : Cond.methodLink RL 92 yX10_drawn ∈ tb2 := mem2 779 (by decide +kernel) rfl
theorem w1091 : Cond.code yX11_drawn cX11_drawn 3 (some .int) ∈ tb2 := mem2 1091 (by decide +kernel) rfl
theorem w1089 : Cond.instanceMethod yX11_drawn ∈ tb2 := mem2 1089 (by decide +kernel) rfl
theorem w1090 : Cond.selects RX11 yX11_drawn yX11_drawn ∈ tb2 := mem2 1090 (by decide +kernel) rfl
theorem w1088 : Cond.methodLink RL 95 yX11_drawn ∈ tb2 := mem2 1088 (by decide +kernel) rfl
theorem w794 : Cond.code yX10_ten cX10_ten 6 (some .int) ∈ tb2 := mem2 794 (by decide +kernel) rfl
theorem w792 : Cond.instanceMethod yX10_ten ∈ tb2 := mem2 792 (by decide +kernel) rfl
theorem w793 : Cond.selects RX10 yX10_ten yX10_ten ∈ tb2 := mem2 793 (by decide +kernel) rfl
theorem w791 : Cond.methodLink RL 96 yX10_ten ∈ tb2 := mem2 791 (by decide +kernel) rfl
theorem w1107 : Cond.code yX11_ten cX11_ten 5 (some .int) ∈ tb2 := mem2 1107 (by decide +kernel) rfl
theorem w1105 : Cond.instanceMethod yX11_ten ∈ tb2 := mem2 1105 (by decide +kernel) rfl
theorem w1106 : Cond.selects RX11 yX11_ten yX11_ten ∈ tb2 := mem2 1106 (by decide +kernel) rfl
theorem w1104 : Cond.methodLink RL 99 yX11_ten ∈ tb2 := mem2 1104 (by decide +kernel) rfl
theorem w802 : Cond.code yX10_keep cX10_keep 1 (some .int) ∈ tb2 := mem2 802 (by decide +kernel) rfl
theorem w800 : Cond.instanceMethod yX10_keep ∈ tb2 := mem2 800 (by decide +kernel) rfl
theorem w801 : Cond.selects RX10 yX10_keep yX10_keep ∈ tb2 := mem2 801 (by decide +kernel) rfl
theorem w799 : Cond.methodLink RL 100 yX10_keep ∈ tb2 := mem2 799 (by decide +kernel) rfl
theorem w1111 : Cond.code yX11_keep cX11_keep 2 (some .int) ∈ tb2 := mem2 1111 (by decide +kernel) rfl
theorem w1109 : Cond.instanceMethod yX11_keep ∈ tb2 := mem2 1109 (by decide +kernel) rfl
theorem w1110 : Cond.selects RX11 yX11_keep yX11_keep ∈ tb2 := mem2 1110 (by decide +kernel) rfl
theorem w1108 : Cond.methodLink RL 103 yX11_keep ∈ tb2 := mem2 1108 (by decide +kernel) rfl
theorem w806 : Cond.code yX10_back cX10_back 1 (some .int) ∈ tb2 := mem2 806 (by decide +kernel) rfl
theorem w804 : Cond.instanceMethod yX10_back ∈ tb2 := mem2 804 (by decide +kernel) rfl
theorem w805 : Cond.selects RX10 yX10_back yX10_back ∈ tb2 := mem2 805 (by decide +kernel) rfl
theorem w803 : Cond.methodLink RL 104 yX10_back ∈ tb2 := mem2 803 (by decide +kernel) rfl
theorem w1115 : Cond.code yX11_back cX11_back 2 (some .int) ∈ tb2 := mem2 1115 (by decide +kernel) rfl
theorem w1113 : Cond.instanceMethod yX11_back ∈ tb2 := mem2 1113 (by decide +kernel) rfl
theorem w1114 : Cond.selects RX11 yX11_back yX11_back ∈ tb2 := mem2 1114 (by decide +kernel) rfl
theorem w1112 : Cond.methodLink RL 107 yX11_back ∈ tb2 := mem2 1112 (by decide +kernel) rfl
theorem w810 : Cond.code yX10_count cX10_count 2 (some .int) ∈ tb2 := mem2 810 (by decide +kernel) rfl
theorem w808 : Cond.instanceMethod yX10_count ∈ tb2 := mem2 808 (by decide +kernel) rfl
theorem w809 : Cond.selects RX10 yX10_count yX10_count ∈ tb2 := mem2 809 (by decide +kernel) rfl
theorem w807 : Cond.methodLink RL 108 yX10_count ∈ tb2 := mem2 807 (by decide +kernel) rfl
theorem w1119 : Cond.code yX11_count cX11_count 4 (some .int) ∈ tb2 := mem2 1119 (by decide +kernel) rfl
theorem w1117 : Cond.instanceMethod yX11_count ∈ tb2 := mem2 1117 (by decide +kernel) rfl
theorem w1118 : Cond.selects RX11 yX11_count yX11_count ∈ tb2 := mem2 1118 (by decide +kernel) rfl
theorem w1116 : Cond.methodLink RL 111 yX11_count ∈ tb2 := mem2 1116 (by decide +kernel) rfl
theorem okV_X10_write : okV mX10_write 10 2 := ⟨⟨by decide, by decide, by decide, w517, w63, by decide, by decide +kernel⟩, w515, w516, _, _, rfl⟩
theorem okV_X11_write : okV mX11_write 11 2 := ⟨⟨by decide, by decide, by decide, w927, w76, by decide, by decide +kernel⟩, w925, w926, _, _, rfl⟩
theorem okV_X10_wipe : okV mX10_wipe 10 0 := ⟨⟨by decide, by decide, by decide, w524, w63, by decide, by decide +kernel⟩, w522, w523, _, _, rfl⟩
theorem okV_X11_wipe : okV mX11_wipe 11 0 := ⟨⟨by decide, by decide, by decide, w935, w76, by decide, by decide +kernel⟩, w933, w934, _, _, rfl⟩
theorem okV_X10_fault : okV mX10_fault 10 0 := ⟨⟨by decide, by decide, by decide, w528, w63, by decide, by decide +kernel⟩, w526, w527, _, _, rfl⟩
theorem okV_X10_lay : okV mX10_lay 10 0 := ⟨⟨by decide, by decide, by decide, w578, w63, by decide, by decide +kernel⟩, w576, w577, _, _, rfl⟩
theorem okV_X11_lay : okV mX11_lay 11 0 := ⟨⟨by decide, by decide, by decide, w965, w76, by decide, by decide +kernel⟩, w963, w964, _, _, rfl⟩
theorem okV_X10_bin : okV mX10_bin 10 2 := ⟨⟨by decide, by decide, by decide, w582, w63, by decide, by decide +kernel⟩, w580, w581, _, _, rfl⟩
theorem okV_X11_bin : okV mX11_bin 11 2 := ⟨⟨by decide, by decide, by decide, w970, w76, by decide, by decide +kernel⟩, w968, w969, _, _, rfl⟩
theorem okV_X10_gap : okV mX10_gap 10 2 := ⟨⟨by decide, by decide, by decide, w590, w63, by decide, by decide +kernel⟩, w588, w589, _, _, rfl⟩
theorem okV_X11_gap : okV mX11_gap 11 2 := ⟨⟨by decide, by decide, by decide, w978, w76, by decide, by decide +kernel⟩, w976, w977, _, _, rfl⟩
theorem okV_X10_night : okV mX10_night 10 0 := ⟨⟨by decide, by decide, by decide, w594, w63, by decide, by decide +kernel⟩, w592, w593, _, _, rfl⟩
theorem okV_X11_night : okV mX11_night 11 0 := ⟨⟨by decide, by decide, by decide, w982, w76, by decide, by decide +kernel⟩, w980, w981, _, _, rfl⟩
theorem okV_X10_pour : okV mX10_pour 10 3 := ⟨⟨by decide, by decide, by decide, w615, w63, by decide, by decide +kernel⟩, w613, w614, _, _, rfl⟩
theorem okV_X11_pour : okV mX11_pour 11 3 := ⟨⟨by decide, by decide, by decide, w998, w76, by decide, by decide +kernel⟩, w996, w997, _, _, rfl⟩
theorem okV_X10_left : okV mX10_left 10 2 := ⟨⟨by decide, by decide, by decide, w622, w63, by decide, by decide +kernel⟩, w620, w621, _, _, rfl⟩
theorem okV_X11_left : okV mX11_left 11 2 := ⟨⟨by decide, by decide, by decide, w1002, w76, by decide, by decide +kernel⟩, w1000, w1001, _, _, rfl⟩
theorem okV_X10_lost : okV mX10_lost 10 2 := ⟨⟨by decide, by decide, by decide, w626, w63, by decide, by decide +kernel⟩, w624, w625, _, _, rfl⟩
theorem okV_X11_lost : okV mX11_lost 11 2 := ⟨⟨by decide, by decide, by decide, w1013, w76, by decide, by decide +kernel⟩, w1011, w1012, _, _, rfl⟩
theorem okV_X10_order : okV mX10_order 10 2 := ⟨⟨by decide, by decide, by decide, w635, w63, by decide, by decide +kernel⟩, w633, w634, _, _, rfl⟩
theorem okV_X11_order : okV mX11_order 11 2 := ⟨⟨by decide, by decide, by decide, w1018, w76, by decide, by decide +kernel⟩, w1016, w1017, _, _, rfl⟩
theorem okV_X10_exchanged : okV mX10_exchanged 10 1 := ⟨⟨by decide, by decide, by decide, w658, w63, by decide, by decide +kernel⟩, w656, w657, _, _, rfl⟩
theorem okV_X11_exchanged : okV mX11_exchanged 11 1 := ⟨⟨by decide, by decide, by decide, w1031, w76, by decide, by decide +kernel⟩, w1029, w1030, _, _, rfl⟩
theorem okV_X10_pours : okV mX10_pours 10 3 := ⟨⟨by decide, by decide, by decide, w675, w63, by decide, by decide +kernel⟩, w673, w674, _, _, rfl⟩
theorem okV_X11_pours : okV mX11_pours 11 3 := ⟨⟨by decide, by decide, by decide, w1043, w76, by decide, by decide +kernel⟩, w1041, w1042, _, _, rfl⟩
theorem okV_X10_corn : okV mX10_corn 10 2 := ⟨⟨by decide, by decide, by decide, w704, w63, by decide, by decide +kernel⟩, w702, w703, _, _, rfl⟩
theorem okV_X11_corn : okV mX11_corn 11 2 := ⟨⟨by decide, by decide, by decide, w1052, w76, by decide, by decide +kernel⟩, w1050, w1051, _, _, rfl⟩
theorem okV_X10_cats : okV mX10_cats 10 3 := ⟨⟨by decide, by decide, by decide, w720, w63, by decide, by decide +kernel⟩, w718, w719, _, _, rfl⟩
theorem okV_X11_cats : okV mX11_cats 11 3 := ⟨⟨by decide, by decide, by decide, w1061, w76, by decide, by decide +kernel⟩, w1059, w1060, _, _, rfl⟩
theorem okV_X10_moves : okV mX10_moves 10 1 := ⟨⟨by decide, by decide, by decide, w741, w63, by decide, by decide +kernel⟩, w739, w740, _, _, rfl⟩
theorem okV_X11_moves : okV mX11_moves 11 1 := ⟨⟨by decide, by decide, by decide, w1074, w76, by decide, by decide +kernel⟩, w1072, w1073, _, _, rfl⟩
theorem okV_X10_was : okV mX10_was 10 3 := ⟨⟨by decide, by decide, by decide, w754, w63, by decide, by decide +kernel⟩, w752, w753, _, _, rfl⟩
theorem okV_X11_was : okV mX11_was 11 3 := ⟨⟨by decide, by decide, by decide, w1082, w76, by decide, by decide +kernel⟩, w1080, w1081, _, _, rfl⟩
theorem okV_X10_others : okV mX10_others 10 2 := ⟨⟨by decide, by decide, by decide, w778, w63, by decide, by decide +kernel⟩, w776, w777, _, _, rfl⟩
theorem okV_X11_others : okV mX11_others 11 2 := ⟨⟨by decide, by decide, by decide, w1087, w76, by decide, by decide +kernel⟩, w1085, w1086, _, _, rfl⟩
theorem okV_X10_drawn : okV mX10_drawn 10 2 := ⟨⟨by decide, by decide, by decide, w782, w63, by decide, by decide +kernel⟩, w780, w781, _, _, rfl⟩
theorem okV_X11_drawn : okV mX11_drawn 11 2 := ⟨⟨by decide, by decide, by decide, w1091, w76, by decide, by decide +kernel⟩, w1089, w1090, _, _, rfl⟩
theorem okV_X10_ten : okV mX10_ten 10 2 := ⟨⟨by decide, by decide, by decide, w794, w63, by decide, by decide +kernel⟩, w792, w793, _, _, rfl⟩
theorem okV_X11_ten : okV mX11_ten 11 2 := ⟨⟨by decide, by decide, by decide, w1107, w76, by decide, by decide +kernel⟩, w1105, w1106, _, _, rfl⟩
theorem okV_X10_keep : okV mX10_keep 10 0 := ⟨⟨by decide, by decide, by decide, w802, w63, by decide, by decide +kernel⟩, w800, w801, _, _, rfl⟩
theorem okV_X11_keep : okV mX11_keep 11 0 := ⟨⟨by decide, by decide, by decide, w1111, w76, by decide, by decide +kernel⟩, w1109, w1110, _, _, rfl⟩
theorem okV_X10_back : okV mX10_back 10 0 := ⟨⟨by decide, by decide, by decide, w806, w63, by decide, by decide +kernel⟩, w804, w805, _, _, rfl⟩
theorem okV_X11_back : okV mX11_back 11 0 := ⟨⟨by decide, by decide, by decide, w1115, w76, by decide, by decide +kernel⟩, w1113, w1114, _, _, rfl⟩
theorem okV_X10_count : okV mX10_count 10 1 := ⟨⟨by decide, by decide, by decide, w810, w63, by decide, by decide +kernel⟩, w808, w809, _, _, rfl⟩
theorem okV_X11_count : okV mX11_count 11 1 := ⟨⟨by decide, by decide, by decide, w1119, w76, by decide, by decide +kernel⟩, w1117, w1118, _, _, rfl⟩
section
variable {p : Program} {l : Launch} {e : Env} {s : State} {m : MethodId} {below : List Frame} {meth : Method} {c : Code} {b L : Nat} {xs : Nat → Int32} {D : va_G} {γ : Nat → ClassId} {σ τ : Nat → Nat} {k : Nat} {h g : HP}
theorem lc_write (C : Lc p s m meth c b L xs D γ σ τ) (hL : 4 * k + 3 < L) (hI : Iv k h g) (next : ∀ h1 g1, Iv (k + 1) h1 g1 → Lj p l e s m below meth c b D γ σ τ (4 * k) 819 [] h1 g1) : Lj p l e s m below meth c b D γ σ τ (4 * k) 140 [] h g := by
  obtain ⟨ag, hWm, hzx, hzm⟩ := hI
  have hWx := AgV_W ag hWm
  have hL9 : L ≤ 2048 := C.2.2.2.2.2.2.2.2.2.2.2.2.2
  have hN : (k : Int) ≤ 1000 := by omega
  refine j_x C dL_law_140 ?_
  refine j_arg C 1 (by omega) (by decide) dL_law_141 dL_law_142 dL_law_143 dL_law_144 dL_law_145 ?_
  refine j_arg C 2 (by omega) (by decide) dL_law_146 dL_law_147 dL_law_148 dL_law_149 dL_law_150 ?_
  rw [Int32.ofInt_toInt]
  refine j_i2l C dL_law_151 ?_
  refine j_bi C dL_law_152 ?_
  refine j_lshl C dL_law_154 ?_
  refine j_arg C 3 (by omega) (by decide) dL_law_155 dL_law_156 dL_law_157 dL_law_158 dL_law_159 ?_
  rw [Int32.ofInt_toInt (xs (4 * k + 3))]
  refine j_i2l C dL_law_160 ?_
  refine j_ldc2 C w1120 dL_law_161 ?_
  refine j_land C dL_law_164 ?_
  refine j_lor C dL_law_165 ?_
  refine j_st (st' := (([aI (xs (4 * k + 1)).toInt, aL (((xs (4 * k + 2)).toInt64 <<< ((Int8.ofInt 32).toInt32.toInt64 &&& 63)) ||| ((xs (4 * k + 3)).toInt64 &&& Int64.ofInt 4294967295)).toInt] : List AV).map (cvv σ)).reverse ++ .ref (σ 0) :: []) (by show _ = Value.long (Int64.ofInt _) :: _; rw [Int64.ofInt_toInt]; first | rfl | simp [cvv]) ?_
  refine j_callX C (d := 0 + 1) (as := [aI (xs (4 * k + 1)).toInt, aL (((xs (4 * k + 2)).toInt64 <<< ((Int8.ofInt 32).toInt32.toInt64 &&& 63)) ||| ((xs (4 * k + 3)).toInt64 &&& Int64.ofInt 4294967295)).toInt]) okV_X10_write w514 dL_law_166 rfl (Nat.le_of_ble_eq_true rfl) (Nat.le_of_ble_eq_true rfl) (by decide) ?_
  refine x_write (d := 0) hWx hzx (xR _) (fun h1 e1 z1 => ?_)
  refine j_m C dL_law_169 ?_
  refine j_arg C 1 (by omega) (by decide) dL_law_170 dL_law_171 dL_law_172 dL_law_173 dL_law_174 ?_
  refine j_arg C 2 (by omega) (by decide) dL_law_175 dL_law_176 dL_law_177 dL_law_178 dL_law_179 ?_
  rw [Int32.ofInt_toInt]
  refine j_i2l C dL_law_180 ?_
  refine j_bi C dL_law_181 ?_
  refine j_lshl C dL_law_183 ?_
  refine j_arg C 3 (by omega) (by decide) dL_law_184 dL_law_185 dL_law_186 dL_law_187 dL_law_188 ?_
  rw [Int32.ofInt_toInt (xs (4 * k + 3))]
  refine j_i2l C dL_law_189 ?_
  refine j_ldc2 C w1120 dL_law_190 ?_
  refine j_land C dL_law_193 ?_
  refine j_lor C dL_law_194 ?_
  refine j_st (st' := (([aI (xs (4 * k + 1)).toInt, aL (((xs (4 * k + 2)).toInt64 <<< ((Int8.ofInt 32).toInt32.toInt64 &&& 63)) ||| ((xs (4 * k + 3)).toInt64 &&& Int64.ofInt 4294967295)).toInt] : List AV).map (cvv τ)).reverse ++ .ref (τ 0) :: [.int (Int32.ofInt (sp_write (vx h) (xs (4 * k + 1)).toInt))]) (by show _ = Value.long (Int64.ofInt _) :: _; rw [Int64.ofInt_toInt]; first | rfl | simp [cvv]) ?_
  refine j_callM C (d := 0 + 1) (as := [aI (xs (4 * k + 1)).toInt, aL (((xs (4 * k + 2)).toInt64 <<< ((Int8.ofInt 32).toInt32.toInt64 &&& 63)) ||| ((xs (4 * k + 3)).toInt64 &&& Int64.ofInt 4294967295)).toInt]) okV_X11_write w924 dL_law_195 rfl (Nat.le_of_ble_eq_true rfl) (Nat.le_of_ble_eq_true rfl) (by decide) ?_
  refine m_write (d := 0) hWm hzm (xR _) (fun g1 f1 z2 => ?_)
  refine j_eq C (tgt := 819) (write_ag ag (xs (4 * k + 1)).toInt (((xs (4 * k + 2)).toInt64 <<< ((Int8.ofInt 32).toInt32.toInt64 &&& 63)) ||| ((xs (4 * k + 3)).toInt64 &&& Int64.ofInt 4294967295)).toInt).1 dL_law_198 (by decide) ?_
  exact next h1 g1 ⟨AgV_tr e1 (AgV_tr (write_ag ag (xs (4 * k + 1)).toInt (((xs (4 * k + 2)).toInt64 <<< ((Int8.ofInt 32).toInt32.toInt64 &&& 63)) ||| ((xs (4 * k + 3)).toInt64 &&& Int64.ofInt 4294967295)).toInt).2 (AgV_sy f1)), AgV_W f1 (WV_mono (write_W hWm (xs (4 * k + 1)).toInt (((xs (4 * k + 2)).toInt64 <<< ((Int8.ofInt 32).toInt32.toInt64 &&& 63)) ||| ((xs (4 * k + 3)).toInt64 &&& Int64.ofInt 4294967295)).toInt) (by omega)), z1, z2⟩
theorem lc_wipe (C : Lc p s m meth c b L xs D γ σ τ) (hL : 4 * k + 3 < L) (hI : Iv k h g) (next : ∀ h1 g1, Iv (k + 1) h1 g1 → Lj p l e s m below meth c b D γ σ τ (4 * k) 819 [] h1 g1) : Lj p l e s m below meth c b D γ σ τ (4 * k) 203 [] h g := by
  obtain ⟨ag, hWm, hzx, hzm⟩ := hI
  have hWx := AgV_W ag hWm
  have hL9 : L ≤ 2048 := C.2.2.2.2.2.2.2.2.2.2.2.2.2
  have hN : (k : Int) ≤ 1000 := by omega
  refine j_x C dL_law_203 ?_
  refine j_st (st' := (([] : List AV).map (cvv σ)).reverse ++ .ref (σ 0) :: []) rfl ?_
  refine j_callX C (d := 0 + 0) (as := []) okV_X10_wipe w521 dL_law_204 rfl (Nat.le_of_ble_eq_true rfl) (Nat.le_of_ble_eq_true rfl) (by decide) ?_
  refine x_wipe (d := 0) ?_
  refine j_m C dL_law_207 ?_
  refine j_st (st' := (([] : List AV).map (cvv τ)).reverse ++ .ref (τ 0) :: [.int (Int32.ofInt ((vx h).1))]) rfl ?_
  refine j_callM C (d := 0 + 0) (as := []) okV_X11_wipe w932 dL_law_208 rfl (Nat.le_of_ble_eq_true rfl) (Nat.le_of_ble_eq_true rfl) (by decide) ?_
  refine m_wipe (d := 0) ?_
  refine j_eq C (tgt := 819) (wipe_ag ag).1 dL_law_211 (by decide) ?_
  exact next (hset h 0 1 0) (hset g 0 0 0) ⟨(wipe_ag ag).2, WV_mono (wipe_W hWm) (by omega), cz_keep hzx (hset_n (by decide)), by show (hset g 0 0 0) 0 15 = 0; rw [hset_m (by decide)]; exact hzm⟩
theorem lc_fault (C : Lc p s m meth c b L xs D γ σ τ) (hL : 4 * k + 3 < L) (hI : Iv k h g) (next : ∀ h1 g1, Iv (k + 1) h1 g1 → Lj p l e s m below meth c b D γ σ τ (4 * k) 819 [] h1 g1) : Lj p l e s m below meth c b D γ σ τ (4 * k) 216 [] h g := by
  obtain ⟨ag, hWm, hzx, hzm⟩ := hI
  have hWx := AgV_W ag hWm
  have hL9 : L ≤ 2048 := C.2.2.2.2.2.2.2.2.2.2.2.2.2
  have hN : (k : Int) ≤ 1000 := by omega
  refine j_x C dL_law_216 ?_
  refine j_st (st' := (([] : List AV).map (cvv σ)).reverse ++ .ref (σ 0) :: []) rfl ?_
  refine j_callX C (d := 0 + 4) (as := []) okV_X10_fault w525 dL_law_217 rfl (Nat.le_of_ble_eq_true rfl) (Nat.le_of_ble_eq_true rfl) (by decide) ?_
  refine x_fault (d := 0) hWx hzx  (fun h1 e1 z1 => ?_)
  refine j_m C dL_law_220 ?_
  refine j_st (st' := (([] : List AV).map (cvv τ)).reverse ++ .ref (τ 0) :: [.int (Int32.ofInt (sp_fault (vx h)))]) rfl ?_
  refine j_callM C (d := 0 + 3) (as := []) okV_X11_fault w936 dL_law_221 rfl (Nat.le_of_ble_eq_true rfl) (Nat.le_of_ble_eq_true rfl) (by decide) ?_
  refine m_fault (d := 0) hWm hzm  (fun g1 f1 z2 => ?_)
  refine j_eq C (tgt := 819) (lay_ag ag hWm).1 dL_law_224 (by decide) ?_
  exact next h1 g1 ⟨by rw [e1]; exact AgV_tr ag (AgV_sy f1), AgV_W f1 (WV_mono hWm (by omega)), z1, z2⟩
theorem lc_lay (C : Lc p s m meth c b L xs D γ σ τ) (hL : 4 * k + 3 < L) (hI : Iv k h g) (next : ∀ h1 g1, Iv (k + 1) h1 g1 → Lj p l e s m below meth c b D γ σ τ (4 * k) 819 [] h1 g1) : Lj p l e s m below meth c b D γ σ τ (4 * k) 229 [] h g := by
  obtain ⟨ag, hWm, hzx, hzm⟩ := hI
  have hWx := AgV_W ag hWm
  have hL9 : L ≤ 2048 := C.2.2.2.2.2.2.2.2.2.2.2.2.2
  have hN : (k : Int) ≤ 1000 := by omega
  refine j_x C dL_law_229 ?_
  refine j_st (st' := (([] : List AV).map (cvv σ)).reverse ++ .ref (σ 0) :: []) rfl ?_
  refine j_callX C (d := 0 + 4) (as := []) okV_X10_lay w575 dL_law_230 rfl (Nat.le_of_ble_eq_true rfl) (Nat.le_of_ble_eq_true rfl) (by decide) ?_
  refine x_lay (d := 0) hWx hzx  (fun h1 e1 z1 => ?_)
  refine j_m C dL_law_233 ?_
  refine j_st (st' := (([] : List AV).map (cvv τ)).reverse ++ .ref (τ 0) :: [.int (Int32.ofInt (sp_lay (vx h)))]) rfl ?_
  refine j_callM C (d := 0 + 4) (as := []) okV_X11_lay w962 dL_law_234 rfl (Nat.le_of_ble_eq_true rfl) (Nat.le_of_ble_eq_true rfl) (by decide) ?_
  refine m_lay (d := 0) hWm hzm  (fun g1 f1 z2 => ?_)
  refine j_eq C (tgt := 819) (lay_ag ag hWm).2.1 dL_law_237 (by decide) ?_
  exact next h1 g1 ⟨AgV_tr e1 (AgV_tr (lay_ag ag hWm).2.2 (AgV_sy f1)), AgV_W f1 (WV_mono (lay_W hWm (by omega)) (by omega)), z1, z2⟩
theorem lc_bin (C : Lc p s m meth c b L xs D γ σ τ) (hL : 4 * k + 3 < L) (hI : Iv k h g) (next : ∀ h1 g1, Iv (k + 1) h1 g1 → Lj p l e s m below meth c b D γ σ τ (4 * k) 819 [] h1 g1) : Lj p l e s m below meth c b D γ σ τ (4 * k) 242 [] h g := by
  obtain ⟨ag, hWm, hzx, hzm⟩ := hI
  have hWx := AgV_W ag hWm
  have hL9 : L ≤ 2048 := C.2.2.2.2.2.2.2.2.2.2.2.2.2
  have hN : (k : Int) ≤ 1000 := by omega
  refine j_x C dL_law_242 ?_
  refine j_arg C 1 (by omega) (by decide) dL_law_243 dL_law_244 dL_law_245 dL_law_246 dL_law_247 ?_
  refine j_arg C 2 (by omega) (by decide) dL_law_248 dL_law_249 dL_law_250 dL_law_251 dL_law_252 ?_
  refine j_st (st' := (([aI (xs (4 * k + 1)).toInt, aI (xs (4 * k + 2)).toInt] : List AV).map (cvv σ)).reverse ++ .ref (σ 0) :: []) rfl ?_
  refine j_callX C (d := 0 + 2) (as := [aI (xs (4 * k + 1)).toInt, aI (xs (4 * k + 2)).toInt]) okV_X10_bin w579 dL_law_253 rfl (Nat.le_of_ble_eq_true rfl) (Nat.le_of_ble_eq_true rfl) (by decide) ?_
  refine x_bin (d := 0) hWx (xR _) (xR _) ?_
  refine j_m C dL_law_256 ?_
  refine j_arg C 1 (by omega) (by decide) dL_law_257 dL_law_258 dL_law_259 dL_law_260 dL_law_261 ?_
  refine j_arg C 2 (by omega) (by decide) dL_law_262 dL_law_263 dL_law_264 dL_law_265 dL_law_266 ?_
  refine j_st (st' := (([aI (xs (4 * k + 1)).toInt, aI (xs (4 * k + 2)).toInt] : List AV).map (cvv τ)).reverse ++ .ref (τ 0) :: [.int (Int32.ofInt (sp_bin (vx h) (xs (4 * k + 1)).toInt (xs (4 * k + 2)).toInt))]) rfl ?_
  refine j_callM C (d := 0 + 2) (as := [aI (xs (4 * k + 1)).toInt, aI (xs (4 * k + 2)).toInt]) okV_X11_bin w967 dL_law_267 rfl (Nat.le_of_ble_eq_true rfl) (Nat.le_of_ble_eq_true rfl) (by decide) ?_
  refine m_bin (d := 0) hWm (xR _) (xR _) ?_
  refine j_eq C (tgt := 819) (sp_bin_ag ag _ _) dL_law_270 (by decide) ?_
  exact next h g ⟨ag, WV_mono hWm (by omega), hzx, hzm⟩
theorem lc_gap (C : Lc p s m meth c b L xs D γ σ τ) (hL : 4 * k + 3 < L) (hI : Iv k h g) (next : ∀ h1 g1, Iv (k + 1) h1 g1 → Lj p l e s m below meth c b D γ σ τ (4 * k) 819 [] h1 g1) : Lj p l e s m below meth c b D γ σ τ (4 * k) 275 [] h g := by
  obtain ⟨ag, hWm, hzx, hzm⟩ := hI
  have hWx := AgV_W ag hWm
  have hL9 : L ≤ 2048 := C.2.2.2.2.2.2.2.2.2.2.2.2.2
  have hN : (k : Int) ≤ 1000 := by omega
  refine j_x C dL_law_275 ?_
  refine j_arg C 1 (by omega) (by decide) dL_law_276 dL_law_277 dL_law_278 dL_law_279 dL_law_280 ?_
  refine j_arg C 2 (by omega) (by decide) dL_law_281 dL_law_282 dL_law_283 dL_law_284 dL_law_285 ?_
  refine j_st (st' := (([aI (xs (4 * k + 1)).toInt, aI (xs (4 * k + 2)).toInt] : List AV).map (cvv σ)).reverse ++ .ref (σ 0) :: []) rfl ?_
  refine j_callX C (d := 0 + 1) (as := [aI (xs (4 * k + 1)).toInt, aI (xs (4 * k + 2)).toInt]) okV_X10_gap w587 dL_law_286 rfl (Nat.le_of_ble_eq_true rfl) (Nat.le_of_ble_eq_true rfl) (by decide) ?_
  refine x_gap (d := 0) hWx (xR _) (xR _) ?_
  refine j_m C dL_law_289 ?_
  refine j_arg C 1 (by omega) (by decide) dL_law_290 dL_law_291 dL_law_292 dL_law_293 dL_law_294 ?_
  refine j_arg C 2 (by omega) (by decide) dL_law_295 dL_law_296 dL_law_297 dL_law_298 dL_law_299 ?_
  refine j_st (st' := (([aI (xs (4 * k + 1)).toInt, aI (xs (4 * k + 2)).toInt] : List AV).map (cvv τ)).reverse ++ .ref (τ 0) :: [.int (Int32.ofInt (sp_gap (vx h) (xs (4 * k + 1)).toInt (xs (4 * k + 2)).toInt))]) rfl ?_
  refine j_callM C (d := 0 + 1) (as := [aI (xs (4 * k + 1)).toInt, aI (xs (4 * k + 2)).toInt]) okV_X11_gap w975 dL_law_300 rfl (Nat.le_of_ble_eq_true rfl) (Nat.le_of_ble_eq_true rfl) (by decide) ?_
  refine m_gap (d := 0) hWm (xR _) (xR _) ?_
  refine j_eq C (tgt := 819) (sp_gap_ag ag _ _) dL_law_303 (by decide) ?_
  exact next h g ⟨ag, WV_mono hWm (by omega), hzx, hzm⟩
theorem lc_night (C : Lc p s m meth c b L xs D γ σ τ) (hL : 4 * k + 3 < L) (hI : Iv k h g) (next : ∀ h1 g1, Iv (k + 1) h1 g1 → Lj p l e s m below meth c b D γ σ τ (4 * k) 819 [] h1 g1) : Lj p l e s m below meth c b D γ σ τ (4 * k) 308 [] h g := by
  obtain ⟨ag, hWm, hzx, hzm⟩ := hI
  have hWx := AgV_W ag hWm
  have hL9 : L ≤ 2048 := C.2.2.2.2.2.2.2.2.2.2.2.2.2
  have hN : (k : Int) ≤ 1000 := by omega
  refine j_x C dL_law_308 ?_
  refine j_st (st' := (([] : List AV).map (cvv σ)).reverse ++ .ref (σ 0) :: []) rfl ?_
  refine j_callX C (d := 0 + 3) (as := []) okV_X10_night w591 dL_law_309 rfl (Nat.le_of_ble_eq_true rfl) (Nat.le_of_ble_eq_true rfl) (by decide) ?_
  refine x_night (d := 0) hWx hN hzx  (fun h1 e1 z1 => ?_)
  refine j_m C dL_law_312 ?_
  refine j_st (st' := (([] : List AV).map (cvv τ)).reverse ++ .ref (τ 0) :: [.int (Int32.ofInt (sp_night (vx h)))]) rfl ?_
  refine j_callM C (d := 0 + 2) (as := []) okV_X11_night w979 dL_law_313 rfl (Nat.le_of_ble_eq_true rfl) (Nat.le_of_ble_eq_true rfl) (by decide) ?_
  refine m_night (d := 0) hWm hN hzm  (fun g1 f1 z2 => ?_)
  refine j_eq C (tgt := 819) (night_ag ag hWm).1 dL_law_316 (by decide) ?_
  exact next h1 g1 ⟨AgV_tr e1 (AgV_tr (night_ag ag hWm).2 (AgV_sy f1)), AgV_W f1 (night_W hWm), z1, z2⟩
theorem lc_pour (C : Lc p s m meth c b L xs D γ σ τ) (hL : 4 * k + 3 < L) (hI : Iv k h g) (next : ∀ h1 g1, Iv (k + 1) h1 g1 → Lj p l e s m below meth c b D γ σ τ (4 * k) 819 [] h1 g1) : Lj p l e s m below meth c b D γ σ τ (4 * k) 321 [] h g := by
  obtain ⟨ag, hWm, hzx, hzm⟩ := hI
  have hWx := AgV_W ag hWm
  have hL9 : L ≤ 2048 := C.2.2.2.2.2.2.2.2.2.2.2.2.2
  have hN : (k : Int) ≤ 1000 := by omega
  refine j_x C dL_law_321 ?_
  refine j_arg C 1 (by omega) (by decide) dL_law_322 dL_law_323 dL_law_324 dL_law_325 dL_law_326 ?_
  refine j_arg C 2 (by omega) (by decide) dL_law_327 dL_law_328 dL_law_329 dL_law_330 dL_law_331 ?_
  refine j_arg C 3 (by omega) (by decide) dL_law_332 dL_law_333 dL_law_334 dL_law_335 dL_law_336 ?_
  refine j_st (st' := (([aI (xs (4 * k + 1)).toInt, aI (xs (4 * k + 2)).toInt, aI (xs (4 * k + 3)).toInt] : List AV).map (cvv σ)).reverse ++ .ref (σ 0) :: []) rfl ?_
  refine j_callX C (d := 0 + 2) (as := [aI (xs (4 * k + 1)).toInt, aI (xs (4 * k + 2)).toInt, aI (xs (4 * k + 3)).toInt]) okV_X10_pour w612 dL_law_337 rfl (Nat.le_of_ble_eq_true rfl) (Nat.le_of_ble_eq_true rfl) (by decide) ?_
  refine x_pour (d := 0) hWx hzx (xR _) (xR _) (xR _) (fun h1 e1 z1 => ?_)
  refine j_m C dL_law_340 ?_
  refine j_arg C 1 (by omega) (by decide) dL_law_341 dL_law_342 dL_law_343 dL_law_344 dL_law_345 ?_
  refine j_arg C 2 (by omega) (by decide) dL_law_346 dL_law_347 dL_law_348 dL_law_349 dL_law_350 ?_
  refine j_arg C 3 (by omega) (by decide) dL_law_351 dL_law_352 dL_law_353 dL_law_354 dL_law_355 ?_
  refine j_st (st' := (([aI (xs (4 * k + 1)).toInt, aI (xs (4 * k + 2)).toInt, aI (xs (4 * k + 3)).toInt] : List AV).map (cvv τ)).reverse ++ .ref (τ 0) :: [.int (Int32.ofInt (sp_pour (vx h) (xs (4 * k + 1)).toInt (xs (4 * k + 2)).toInt (xs (4 * k + 3)).toInt))]) rfl ?_
  refine j_callM C (d := 0 + 2) (as := [aI (xs (4 * k + 1)).toInt, aI (xs (4 * k + 2)).toInt, aI (xs (4 * k + 3)).toInt]) okV_X11_pour w995 dL_law_356 rfl (Nat.le_of_ble_eq_true rfl) (Nat.le_of_ble_eq_true rfl) (by decide) ?_
  refine m_pour (d := 0) hWm hzm (xR _) (xR _) (xR _) (fun g1 f1 z2 => ?_)
  refine j_eq C (tgt := 819) (pour_ag ag (xs (4 * k + 1)).toInt (xs (4 * k + 2)).toInt (xs (4 * k + 3)).toInt).1 dL_law_359 (by decide) ?_
  exact next h1 g1 ⟨by rw [e1, f1]; exact (pour_ag ag (xs (4 * k + 1)).toInt (xs (4 * k + 2)).toInt (xs (4 * k + 3)).toInt).2, by rw [f1]; exact WV_mono (pour_W hWm (xs (4 * k + 1)).toInt (xs (4 * k + 2)).toInt (xs (4 * k + 3)).toInt) (by omega), z1, z2⟩
theorem lc_left (C : Lc p s m meth c b L xs D γ σ τ) (hL : 4 * k + 3 < L) (hI : Iv k h g) (next : ∀ h1 g1, Iv (k + 1) h1 g1 → Lj p l e s m below meth c b D γ σ τ (4 * k) 819 [] h1 g1) : Lj p l e s m below meth c b D γ σ τ (4 * k) 364 [] h g := by
  obtain ⟨ag, hWm, hzx, hzm⟩ := hI
  have hWx := AgV_W ag hWm
  have hL9 : L ≤ 2048 := C.2.2.2.2.2.2.2.2.2.2.2.2.2
  have hN : (k : Int) ≤ 1000 := by omega
  refine j_x C dL_law_364 ?_
  refine j_arg C 1 (by omega) (by decide) dL_law_365 dL_law_366 dL_law_367 dL_law_368 dL_law_369 ?_
  refine j_arg C 2 (by omega) (by decide) dL_law_370 dL_law_371 dL_law_372 dL_law_373 dL_law_374 ?_
  refine j_st (st' := (([aI (xs (4 * k + 1)).toInt, aI (xs (4 * k + 2)).toInt] : List AV).map (cvv σ)).reverse ++ .ref (σ 0) :: []) rfl ?_
  refine j_callX C (d := 0 + 3) (as := [aI (xs (4 * k + 1)).toInt, aI (xs (4 * k + 2)).toInt]) okV_X10_left w619 dL_law_375 rfl (Nat.le_of_ble_eq_true rfl) (Nat.le_of_ble_eq_true rfl) (by decide) ?_
  refine x_left (d := 0) hWx hN hzx (xR _) (xR _) (fun h1 e1 z1 => ?_)
  refine j_m C dL_law_378 ?_
  refine j_arg C 1 (by omega) (by decide) dL_law_379 dL_law_380 dL_law_381 dL_law_382 dL_law_383 ?_
  refine j_arg C 2 (by omega) (by decide) dL_law_384 dL_law_385 dL_law_386 dL_law_387 dL_law_388 ?_
  refine j_st (st' := (([aI (xs (4 * k + 1)).toInt, aI (xs (4 * k + 2)).toInt] : List AV).map (cvv τ)).reverse ++ .ref (τ 0) :: [.int (Int32.ofInt (sp_left (vx h) (xs (4 * k + 1)).toInt (xs (4 * k + 2)).toInt))]) rfl ?_
  refine j_callM C (d := 0 + 3) (as := [aI (xs (4 * k + 1)).toInt, aI (xs (4 * k + 2)).toInt]) okV_X11_left w999 dL_law_389 rfl (Nat.le_of_ble_eq_true rfl) (Nat.le_of_ble_eq_true rfl) (by decide) ?_
  refine m_left (d := 0) hWm hN hzm (xR _) (xR _) (fun g1 f1 z2 => ?_)
  refine j_eq C (tgt := 819) (sp_left_ag ag hWm _ _) dL_law_392 (by decide) ?_
  exact next h1 g1 ⟨by rw [e1, f1]; exact ag, by rw [f1]; exact WV_mono hWm (by omega), z1, z2⟩
theorem lc_lost (C : Lc p s m meth c b L xs D γ σ τ) (hL : 4 * k + 3 < L) (hI : Iv k h g) (next : ∀ h1 g1, Iv (k + 1) h1 g1 → Lj p l e s m below meth c b D γ σ τ (4 * k) 819 [] h1 g1) : Lj p l e s m below meth c b D γ σ τ (4 * k) 397 [] h g := by
  obtain ⟨ag, hWm, hzx, hzm⟩ := hI
  have hWx := AgV_W ag hWm
  have hL9 : L ≤ 2048 := C.2.2.2.2.2.2.2.2.2.2.2.2.2
  have hN : (k : Int) ≤ 1000 := by omega
  refine j_x C dL_law_397 ?_
  refine j_arg C 1 (by omega) (by decide) dL_law_398 dL_law_399 dL_law_400 dL_law_401 dL_law_402 ?_
  refine j_arg C 2 (by omega) (by decide) dL_law_403 dL_law_404 dL_law_405 dL_law_406 dL_law_407 ?_
  refine j_st (st' := (([aI (xs (4 * k + 1)).toInt, aI (xs (4 * k + 2)).toInt] : List AV).map (cvv σ)).reverse ++ .ref (σ 0) :: []) rfl ?_
  refine j_callX C (d := 0 + 3) (as := [aI (xs (4 * k + 1)).toInt, aI (xs (4 * k + 2)).toInt]) okV_X10_lost w623 dL_law_408 rfl (Nat.le_of_ble_eq_true rfl) (Nat.le_of_ble_eq_true rfl) (by decide) ?_
  refine x_lost (d := 0) hWx hN hzx (xR _) (xR _) (fun h1 e1 z1 => ?_)
  refine j_m C dL_law_411 ?_
  refine j_arg C 1 (by omega) (by decide) dL_law_412 dL_law_413 dL_law_414 dL_law_415 dL_law_416 ?_
  refine j_arg C 2 (by omega) (by decide) dL_law_417 dL_law_418 dL_law_419 dL_law_420 dL_law_421 ?_
  refine j_st (st' := (([aI (xs (4 * k + 1)).toInt, aI (xs (4 * k + 2)).toInt] : List AV).map (cvv τ)).reverse ++ .ref (τ 0) :: [.int (Int32.ofInt (sp_lost (vx h) (xs (4 * k + 1)).toInt (xs (4 * k + 2)).toInt))]) rfl ?_
  refine j_callM C (d := 0 + 3) (as := [aI (xs (4 * k + 1)).toInt, aI (xs (4 * k + 2)).toInt]) okV_X11_lost w1010 dL_law_422 rfl (Nat.le_of_ble_eq_true rfl) (Nat.le_of_ble_eq_true rfl) (by decide) ?_
  refine m_lost (d := 0) hWm hN hzm (xR _) (xR _) (fun g1 f1 z2 => ?_)
  refine j_eq C (tgt := 819) (sp_lost_ag ag hWm _ _) dL_law_425 (by decide) ?_
  exact next h1 g1 ⟨by rw [e1, f1]; exact ag, by rw [f1]; exact WV_mono hWm (by omega), z1, z2⟩
theorem lc_order (C : Lc p s m meth c b L xs D γ σ τ) (hL : 4 * k + 3 < L) (hI : Iv k h g) (next : ∀ h1 g1, Iv (k + 1) h1 g1 → Lj p l e s m below meth c b D γ σ τ (4 * k) 819 [] h1 g1) : Lj p l e s m below meth c b D γ σ τ (4 * k) 430 [] h g := by
  obtain ⟨ag, hWm, hzx, hzm⟩ := hI
  have hWx := AgV_W ag hWm
  have hL9 : L ≤ 2048 := C.2.2.2.2.2.2.2.2.2.2.2.2.2
  have hN : (k : Int) ≤ 1000 := by omega
  refine j_x C dL_law_430 ?_
  refine j_arg C 1 (by omega) (by decide) dL_law_431 dL_law_432 dL_law_433 dL_law_434 dL_law_435 ?_
  refine j_arg C 2 (by omega) (by decide) dL_law_436 dL_law_437 dL_law_438 dL_law_439 dL_law_440 ?_
  refine j_st (st' := (([aI (xs (4 * k + 1)).toInt, aI (xs (4 * k + 2)).toInt] : List AV).map (cvv σ)).reverse ++ .ref (σ 0) :: []) rfl ?_
  refine j_callX C (d := 0 + 5) (as := [aI (xs (4 * k + 1)).toInt, aI (xs (4 * k + 2)).toInt]) okV_X10_order w632 dL_law_441 rfl (Nat.le_of_ble_eq_true rfl) (Nat.le_of_ble_eq_true rfl) (by decide) ?_
  have hbn : h 14 2 = g 2 0 := ag.2.2.1.1
  have hag : eqN (h 14 2) (h 28) (g 13) := ag.2.2.2.2.2.2.2.1
  have hn1 : 1 ≤ h 14 2 := hWx.2.2.1.1.1
  have goM : ∀ (v0 : Int) (h1 : HP), (∀ q, srt (g 2 0) q → prm (g 2 0) q (g 13) → rowOK (g 2 0) q → v0 = sp_order (vm g) q (xs (4 * k + 1)).toInt (xs (4 * k + 2)).toInt) → vx h1 = vx h → cz h1 → Lj p l e s m below meth c b D γ σ τ (4 * k) 444 [.int (Int32.ofInt v0)] h1 g := by
    intro v0 h1 hq e1 z1
    refine j_m C dL_law_444 ?_
    refine j_arg C 1 (by omega) (by decide) dL_law_445 dL_law_446 dL_law_447 dL_law_448 dL_law_449 ?_
    refine j_arg C 2 (by omega) (by decide) dL_law_450 dL_law_451 dL_law_452 dL_law_453 dL_law_454 ?_
    refine j_st (st' := (([aI (xs (4 * k + 1)).toInt, aI (xs (4 * k + 2)).toInt] : List AV).map (cvv τ)).reverse ++ .ref (τ 0) :: [.int (Int32.ofInt v0)]) rfl ?_
    refine j_callM C (d := 0 + 3) (as := [aI (xs (4 * k + 1)).toInt, aI (xs (4 * k + 2)).toInt]) okV_X11_order w1015 dL_law_455 rfl (Nat.le_of_ble_eq_true rfl) (Nat.le_of_ble_eq_true rfl) (by decide) ?_
    refine m_order (d := 0) hWm hN hzm (xR _) (xR _) (fun q s1 s2 s3 g1 f1 z2 => ?_) (fun hbad => ?_)
    · refine j_eq C (tgt := 819) (hq q s1 s2 s3) dL_law_458 (by decide) (next h1 g1 ⟨by rw [e1, f1]; exact ag, by rw [f1]; exact WV_mono hWm (by omega), z1, z2⟩)
    · refine j_eq C (tgt := 819) ?_ dL_law_458 (by decide) (next h1 g ⟨by rw [e1]; exact ag, WV_mono hWm (by omega), z1, hzm⟩)
      obtain ⟨q, s1, s2, s3⟩ := srt_ex (g 2 0) (g 13) (by have := hWm.2.2.1.1; exact this) (r199_ok hWm.2.2.2.2.2.2.1)
      rw [hq q s1 s2 s3]
      unfold sp_order
      rw [if_neg (show ¬ ((1 ≤ (xs (4 * k + 1)).toInt ∧ (xs (4 * k + 1)).toInt ≤ 20) ∧ -1 ≤ (xs (4 * k + 2)).toInt ∧ (xs (4 * k + 2)).toInt < g 2 0) from hbad)]
  refine x_order (d := 0) hWx hN hzx (xR _) (xR _) (fun q s1 s2 s3 h1 e1 z1 => goM _ h1 (fun q2 t1 t2 t3 => ?_) e1 z1) (fun hbad => goM (-1) h (fun q2 t1 t2 t3 => ?_) rfl hzx)
  · have hq9 : eqN (h 14 2) q q2 := sort_ag (n := h 14 2) (by omega) hag s1 (by rw [hbn]; exact t1) s2 (by rw [hbn]; exact t2)
    exact sp_order_ag ag hWm hq9 _ _
  · unfold sp_order
    rw [if_neg (show ¬ ((1 ≤ (xs (4 * k + 1)).toInt ∧ (xs (4 * k + 1)).toInt ≤ 20) ∧ -1 ≤ (xs (4 * k + 2)).toInt ∧ (xs (4 * k + 2)).toInt < g 2 0) by rw [← hbn]; exact hbad)]
theorem lc_exchanged (C : Lc p s m meth c b L xs D γ σ τ) (hL : 4 * k + 3 < L) (hI : Iv k h g) (next : ∀ h1 g1, Iv (k + 1) h1 g1 → Lj p l e s m below meth c b D γ σ τ (4 * k) 819 [] h1 g1) : Lj p l e s m below meth c b D γ σ τ (4 * k) 463 [] h g := by
  obtain ⟨ag, hWm, hzx, hzm⟩ := hI
  have hWx := AgV_W ag hWm
  have hL9 : L ≤ 2048 := C.2.2.2.2.2.2.2.2.2.2.2.2.2
  have hN : (k : Int) ≤ 1000 := by omega
  refine j_x C dL_law_463 ?_
  refine j_arg C 1 (by omega) (by decide) dL_law_464 dL_law_465 dL_law_466 dL_law_467 dL_law_468 ?_
  refine j_st (st' := (([aI (xs (4 * k + 1)).toInt] : List AV).map (cvv σ)).reverse ++ .ref (σ 0) :: []) rfl ?_
  refine j_callX C (d := 0 + 5) (as := [aI (xs (4 * k + 1)).toInt]) okV_X10_exchanged w655 dL_law_469 rfl (Nat.le_of_ble_eq_true rfl) (Nat.le_of_ble_eq_true rfl) (by decide) ?_
  refine x_exchanged (d := 0) hWx hN hzx (xR _) (fun h1 e1 z1 => ?_)
  refine j_m C dL_law_472 ?_
  refine j_arg C 1 (by omega) (by decide) dL_law_473 dL_law_474 dL_law_475 dL_law_476 dL_law_477 ?_
  refine j_st (st' := (([aI (xs (4 * k + 1)).toInt] : List AV).map (cvv τ)).reverse ++ .ref (τ 0) :: [.int (Int32.ofInt (sp_exch (vx h) (xs (4 * k + 1)).toInt))]) rfl ?_
  refine j_callM C (d := 0 + 3) (as := [aI (xs (4 * k + 1)).toInt]) okV_X11_exchanged w1028 dL_law_478 rfl (Nat.le_of_ble_eq_true rfl) (Nat.le_of_ble_eq_true rfl) (by decide) ?_
  refine m_exchanged (d := 0) hWm hN hzm (xR _) (fun g1 f1 z2 => ?_)
  refine j_eq C (tgt := 819) (sp_exch_ag ag hWm _) dL_law_481 (by decide) ?_
  exact next h1 g1 ⟨by rw [e1]; exact AgV_tr ag (AgV_sy f1), AgV_W f1 (WV_mono hWm (by omega)), z1, z2⟩
theorem lc_pours (C : Lc p s m meth c b L xs D γ σ τ) (hL : 4 * k + 3 < L) (hI : Iv k h g) (next : ∀ h1 g1, Iv (k + 1) h1 g1 → Lj p l e s m below meth c b D γ σ τ (4 * k) 819 [] h1 g1) : Lj p l e s m below meth c b D γ σ τ (4 * k) 486 [] h g := by
  obtain ⟨ag, hWm, hzx, hzm⟩ := hI
  have hWx := AgV_W ag hWm
  have hL9 : L ≤ 2048 := C.2.2.2.2.2.2.2.2.2.2.2.2.2
  have hN : (k : Int) ≤ 1000 := by omega
  refine j_x C dL_law_486 ?_
  refine j_arg C 1 (by omega) (by decide) dL_law_487 dL_law_488 dL_law_489 dL_law_490 dL_law_491 ?_
  refine j_arg C 2 (by omega) (by decide) dL_law_492 dL_law_493 dL_law_494 dL_law_495 dL_law_496 ?_
  refine j_arg C 3 (by omega) (by decide) dL_law_497 dL_law_498 dL_law_499 dL_law_500 dL_law_501 ?_
  refine j_st (st' := (([aI (xs (4 * k + 1)).toInt, aI (xs (4 * k + 2)).toInt, aI (xs (4 * k + 3)).toInt] : List AV).map (cvv σ)).reverse ++ .ref (σ 0) :: []) rfl ?_
  refine j_callX C (d := 0 + 5) (as := [aI (xs (4 * k + 1)).toInt, aI (xs (4 * k + 2)).toInt, aI (xs (4 * k + 3)).toInt]) okV_X10_pours w672 dL_law_502 rfl (Nat.le_of_ble_eq_true rfl) (Nat.le_of_ble_eq_true rfl) (by decide) ?_
  refine x_pours (d := 0) hWx hN hzx (xR _) (xR _) (xR _) (fun h1 e1 z1 => ?_)
  refine j_m C dL_law_505 ?_
  refine j_arg C 1 (by omega) (by decide) dL_law_506 dL_law_507 dL_law_508 dL_law_509 dL_law_510 ?_
  refine j_arg C 2 (by omega) (by decide) dL_law_511 dL_law_512 dL_law_513 dL_law_514 dL_law_515 ?_
  refine j_arg C 3 (by omega) (by decide) dL_law_516 dL_law_517 dL_law_518 dL_law_519 dL_law_520 ?_
  refine j_st (st' := (([aI (xs (4 * k + 1)).toInt, aI (xs (4 * k + 2)).toInt, aI (xs (4 * k + 3)).toInt] : List AV).map (cvv τ)).reverse ++ .ref (τ 0) :: [.int (Int32.ofInt (sp_pours (vx h) (xs (4 * k + 1)).toInt (xs (4 * k + 2)).toInt (xs (4 * k + 3)).toInt))]) rfl ?_
  refine j_callM C (d := 0 + 3) (as := [aI (xs (4 * k + 1)).toInt, aI (xs (4 * k + 2)).toInt, aI (xs (4 * k + 3)).toInt]) okV_X11_pours w1040 dL_law_521 rfl (Nat.le_of_ble_eq_true rfl) (Nat.le_of_ble_eq_true rfl) (by decide) ?_
  refine m_pours (d := 0) hWm hN hzm (xR _) (xR _) (xR _) (fun g1 f1 z2 => ?_)
  refine j_eq C (tgt := 819) (sp_pours_ag ag hWm _ _ _) dL_law_524 (by decide) ?_
  exact next h1 g1 ⟨by rw [e1, f1]; exact ag, by rw [f1]; exact WV_mono hWm (by omega), z1, z2⟩
theorem lc_corn (C : Lc p s m meth c b L xs D γ σ τ) (hL : 4 * k + 3 < L) (hI : Iv k h g) (next : ∀ h1 g1, Iv (k + 1) h1 g1 → Lj p l e s m below meth c b D γ σ τ (4 * k) 819 [] h1 g1) : Lj p l e s m below meth c b D γ σ τ (4 * k) 529 [] h g := by
  obtain ⟨ag, hWm, hzx, hzm⟩ := hI
  have hWx := AgV_W ag hWm
  have hL9 : L ≤ 2048 := C.2.2.2.2.2.2.2.2.2.2.2.2.2
  have hN : (k : Int) ≤ 1000 := by omega
  refine j_x C dL_law_529 ?_
  refine j_arg C 1 (by omega) (by decide) dL_law_530 dL_law_531 dL_law_532 dL_law_533 dL_law_534 ?_
  refine j_arg C 2 (by omega) (by decide) dL_law_535 dL_law_536 dL_law_537 dL_law_538 dL_law_539 ?_
  refine j_st (st' := (([aI (xs (4 * k + 1)).toInt, aI (xs (4 * k + 2)).toInt] : List AV).map (cvv σ)).reverse ++ .ref (σ 0) :: []) rfl ?_
  refine j_callX C (d := 0 + 9) (as := [aI (xs (4 * k + 1)).toInt, aI (xs (4 * k + 2)).toInt]) okV_X10_corn w701 dL_law_540 rfl (Nat.le_of_ble_eq_true rfl) (Nat.le_of_ble_eq_true rfl) (by decide) ?_
  refine x_corn (d := 0) hWx hzx (xR _) (xR _) (fun h1 e1 z1 => ?_)
  refine j_m C dL_law_543 ?_
  refine j_arg C 1 (by omega) (by decide) dL_law_544 dL_law_545 dL_law_546 dL_law_547 dL_law_548 ?_
  refine j_arg C 2 (by omega) (by decide) dL_law_549 dL_law_550 dL_law_551 dL_law_552 dL_law_553 ?_
  refine j_st (st' := (([aI (xs (4 * k + 1)).toInt, aI (xs (4 * k + 2)).toInt] : List AV).map (cvv τ)).reverse ++ .ref (τ 0) :: [.int (Int32.ofInt (sp_corn (vx h) (xs (4 * k + 1)).toInt (xs (4 * k + 2)).toInt))]) rfl ?_
  refine j_callM C (d := 0 + 3) (as := [aI (xs (4 * k + 1)).toInt, aI (xs (4 * k + 2)).toInt]) okV_X11_corn w1049 dL_law_554 rfl (Nat.le_of_ble_eq_true rfl) (Nat.le_of_ble_eq_true rfl) (by decide) ?_
  refine m_corn (d := 0) hWm hzm (xR _) (xR _) (fun g1 f1 z2 => ?_)
  refine j_eq C (tgt := 819) (sp_corn_ag ag hWm _ _) dL_law_557 (by decide) ?_
  exact next h1 g1 ⟨by rw [e1, f1]; exact ag, by rw [f1]; exact WV_mono hWm (by omega), z1, z2⟩
theorem lc_cats (C : Lc p s m meth c b L xs D γ σ τ) (hL : 4 * k + 3 < L) (hI : Iv k h g) (next : ∀ h1 g1, Iv (k + 1) h1 g1 → Lj p l e s m below meth c b D γ σ τ (4 * k) 819 [] h1 g1) : Lj p l e s m below meth c b D γ σ τ (4 * k) 562 [] h g := by
  obtain ⟨ag, hWm, hzx, hzm⟩ := hI
  have hWx := AgV_W ag hWm
  have hL9 : L ≤ 2048 := C.2.2.2.2.2.2.2.2.2.2.2.2.2
  have hN : (k : Int) ≤ 1000 := by omega
  refine j_x C dL_law_562 ?_
  refine j_arg C 1 (by omega) (by decide) dL_law_563 dL_law_564 dL_law_565 dL_law_566 dL_law_567 ?_
  refine j_arg C 2 (by omega) (by decide) dL_law_568 dL_law_569 dL_law_570 dL_law_571 dL_law_572 ?_
  refine j_arg C 3 (by omega) (by decide) dL_law_573 dL_law_574 dL_law_575 dL_law_576 dL_law_577 ?_
  refine j_st (st' := (([aI (xs (4 * k + 1)).toInt, aI (xs (4 * k + 2)).toInt, aI (xs (4 * k + 3)).toInt] : List AV).map (cvv σ)).reverse ++ .ref (σ 0) :: []) rfl ?_
  refine j_callX C (d := 0 + 9) (as := [aI (xs (4 * k + 1)).toInt, aI (xs (4 * k + 2)).toInt, aI (xs (4 * k + 3)).toInt]) okV_X10_cats w717 dL_law_578 rfl (Nat.le_of_ble_eq_true rfl) (Nat.le_of_ble_eq_true rfl) (by decide) ?_
  refine x_cats (d := 0) hWx hN hzx (xR _) (xR _) (xR _) (fun h1 e1 z1 => ?_)
  refine j_m C dL_law_581 ?_
  refine j_arg C 1 (by omega) (by decide) dL_law_582 dL_law_583 dL_law_584 dL_law_585 dL_law_586 ?_
  refine j_arg C 2 (by omega) (by decide) dL_law_587 dL_law_588 dL_law_589 dL_law_590 dL_law_591 ?_
  refine j_arg C 3 (by omega) (by decide) dL_law_592 dL_law_593 dL_law_594 dL_law_595 dL_law_596 ?_
  refine j_st (st' := (([aI (xs (4 * k + 1)).toInt, aI (xs (4 * k + 2)).toInt, aI (xs (4 * k + 3)).toInt] : List AV).map (cvv τ)).reverse ++ .ref (τ 0) :: [.int (Int32.ofInt (sp_cats (vx h) (xs (4 * k + 1)).toInt (xs (4 * k + 2)).toInt (xs (4 * k + 3)).toInt))]) rfl ?_
  refine j_callM C (d := 0 + 3) (as := [aI (xs (4 * k + 1)).toInt, aI (xs (4 * k + 2)).toInt, aI (xs (4 * k + 3)).toInt]) okV_X11_cats w1058 dL_law_597 rfl (Nat.le_of_ble_eq_true rfl) (Nat.le_of_ble_eq_true rfl) (by decide) ?_
  refine m_cats (d := 0) hWm hN hzm (xR _) (xR _) (xR _) (fun g1 f1 z2 => ?_)
  refine j_eq C (tgt := 819) (sp_cats_ag ag hWm _ _ _) dL_law_600 (by decide) ?_
  exact next h1 g1 ⟨by rw [e1, f1]; exact ag, by rw [f1]; exact WV_mono hWm (by omega), z1, z2⟩
theorem lc_moves (C : Lc p s m meth c b L xs D γ σ τ) (hL : 4 * k + 3 < L) (hI : Iv k h g) (next : ∀ h1 g1, Iv (k + 1) h1 g1 → Lj p l e s m below meth c b D γ σ τ (4 * k) 819 [] h1 g1) : Lj p l e s m below meth c b D γ σ τ (4 * k) 605 [] h g := by
  obtain ⟨ag, hWm, hzx, hzm⟩ := hI
  have hWx := AgV_W ag hWm
  have hL9 : L ≤ 2048 := C.2.2.2.2.2.2.2.2.2.2.2.2.2
  have hN : (k : Int) ≤ 1000 := by omega
  refine j_x C dL_law_605 ?_
  refine j_arg C 1 (by omega) (by decide) dL_law_606 dL_law_607 dL_law_608 dL_law_609 dL_law_610 ?_
  refine j_st (st' := (([aI (xs (4 * k + 1)).toInt] : List AV).map (cvv σ)).reverse ++ .ref (σ 0) :: []) rfl ?_
  refine j_callX C (d := 0 + 6) (as := [aI (xs (4 * k + 1)).toInt]) okV_X10_moves w738 dL_law_611 rfl (Nat.le_of_ble_eq_true rfl) (Nat.le_of_ble_eq_true rfl) (by decide) ?_
  refine x_moves (d := 0) hWx hN hzx (xR _) (fun h1 e1 z1 => ?_)
  refine j_m C dL_law_614 ?_
  refine j_arg C 1 (by omega) (by decide) dL_law_615 dL_law_616 dL_law_617 dL_law_618 dL_law_619 ?_
  refine j_st (st' := (([aI (xs (4 * k + 1)).toInt] : List AV).map (cvv τ)).reverse ++ .ref (τ 0) :: [.int (Int32.ofInt (sp_moves (vx h) (xs (4 * k + 1)).toInt))]) rfl ?_
  refine j_callM C (d := 0 + 4) (as := [aI (xs (4 * k + 1)).toInt]) okV_X11_moves w1071 dL_law_620 rfl (Nat.le_of_ble_eq_true rfl) (Nat.le_of_ble_eq_true rfl) (by decide) ?_
  refine m_moves (d := 0) hWm hN hzm (xR _) (fun g1 f1 z2 => ?_)
  refine j_eq C (tgt := 819) (sp_moves_ag ag hWm _) dL_law_623 (by decide) ?_
  exact next h1 g1 ⟨by rw [e1]; exact AgV_tr ag (AgV_sy f1), AgV_W f1 (WV_mono hWm (by omega)), z1, z2⟩
theorem lc_was (C : Lc p s m meth c b L xs D γ σ τ) (hL : 4 * k + 3 < L) (hI : Iv k h g) (next : ∀ h1 g1, Iv (k + 1) h1 g1 → Lj p l e s m below meth c b D γ σ τ (4 * k) 819 [] h1 g1) : Lj p l e s m below meth c b D γ σ τ (4 * k) 628 [] h g := by
  obtain ⟨ag, hWm, hzx, hzm⟩ := hI
  have hWx := AgV_W ag hWm
  have hL9 : L ≤ 2048 := C.2.2.2.2.2.2.2.2.2.2.2.2.2
  have hN : (k : Int) ≤ 1000 := by omega
  refine j_x C dL_law_628 ?_
  refine j_arg C 1 (by omega) (by decide) dL_law_629 dL_law_630 dL_law_631 dL_law_632 dL_law_633 ?_
  refine j_arg C 2 (by omega) (by decide) dL_law_634 dL_law_635 dL_law_636 dL_law_637 dL_law_638 ?_
  refine j_arg C 3 (by omega) (by decide) dL_law_639 dL_law_640 dL_law_641 dL_law_642 dL_law_643 ?_
  refine j_st (st' := (([aI (xs (4 * k + 1)).toInt, aI (xs (4 * k + 2)).toInt, aI (xs (4 * k + 3)).toInt] : List AV).map (cvv σ)).reverse ++ .ref (σ 0) :: []) rfl ?_
  refine j_callX C (d := 0 + 5) (as := [aI (xs (4 * k + 1)).toInt, aI (xs (4 * k + 2)).toInt, aI (xs (4 * k + 3)).toInt]) okV_X10_was w751 dL_law_644 rfl (Nat.le_of_ble_eq_true rfl) (Nat.le_of_ble_eq_true rfl) (by decide) ?_
  refine x_was (d := 0) hWx hzx (xR _) (xR _) (xR _) (fun h1 e1 z1 => ?_)
  refine j_m C dL_law_647 ?_
  refine j_arg C 1 (by omega) (by decide) dL_law_648 dL_law_649 dL_law_650 dL_law_651 dL_law_652 ?_
  refine j_arg C 2 (by omega) (by decide) dL_law_653 dL_law_654 dL_law_655 dL_law_656 dL_law_657 ?_
  refine j_arg C 3 (by omega) (by decide) dL_law_658 dL_law_659 dL_law_660 dL_law_661 dL_law_662 ?_
  refine j_st (st' := (([aI (xs (4 * k + 1)).toInt, aI (xs (4 * k + 2)).toInt, aI (xs (4 * k + 3)).toInt] : List AV).map (cvv τ)).reverse ++ .ref (τ 0) :: [.int (Int32.ofInt (sp_was (vx h) (xs (4 * k + 1)).toInt (xs (4 * k + 2)).toInt (xs (4 * k + 3)).toInt))]) rfl ?_
  refine j_callM C (d := 0 + 2) (as := [aI (xs (4 * k + 1)).toInt, aI (xs (4 * k + 2)).toInt, aI (xs (4 * k + 3)).toInt]) okV_X11_was w1079 dL_law_663 rfl (Nat.le_of_ble_eq_true rfl) (Nat.le_of_ble_eq_true rfl) (by decide) ?_
  refine m_was (d := 0) hWm hzm (xR _) (xR _) (xR _) (fun g1 f1 z2 => ?_)
  refine j_eq C (tgt := 819) (sp_was_ag ag hWm _ _ _) dL_law_666 (by decide) ?_
  exact next h1 g1 ⟨by rw [e1, f1]; exact ag, by rw [f1]; exact WV_mono hWm (by omega), z1, z2⟩
theorem lc_others (C : Lc p s m meth c b L xs D γ σ τ) (hL : 4 * k + 3 < L) (hI : Iv k h g) (next : ∀ h1 g1, Iv (k + 1) h1 g1 → Lj p l e s m below meth c b D γ σ τ (4 * k) 819 [] h1 g1) : Lj p l e s m below meth c b D γ σ τ (4 * k) 671 [] h g := by
  obtain ⟨ag, hWm, hzx, hzm⟩ := hI
  have hWx := AgV_W ag hWm
  have hL9 : L ≤ 2048 := C.2.2.2.2.2.2.2.2.2.2.2.2.2
  have hN : (k : Int) ≤ 1000 := by omega
  refine j_x C dL_law_671 ?_
  refine j_arg C 1 (by omega) (by decide) dL_law_672 dL_law_673 dL_law_674 dL_law_675 dL_law_676 ?_
  refine j_arg C 2 (by omega) (by decide) dL_law_677 dL_law_678 dL_law_679 dL_law_680 dL_law_681 ?_
  refine j_st (st' := (([aI (xs (4 * k + 1)).toInt, aI (xs (4 * k + 2)).toInt] : List AV).map (cvv σ)).reverse ++ .ref (σ 0) :: []) rfl ?_
  refine j_callX C (d := 0 + 3) (as := [aI (xs (4 * k + 1)).toInt, aI (xs (4 * k + 2)).toInt]) okV_X10_others w775 dL_law_682 rfl (Nat.le_of_ble_eq_true rfl) (Nat.le_of_ble_eq_true rfl) (by decide) ?_
  refine x_others (d := 0) hWx hN hzx (xR _) (xR _) (fun h1 e1 z1 => ?_)
  refine j_m C dL_law_685 ?_
  refine j_arg C 1 (by omega) (by decide) dL_law_686 dL_law_687 dL_law_688 dL_law_689 dL_law_690 ?_
  refine j_arg C 2 (by omega) (by decide) dL_law_691 dL_law_692 dL_law_693 dL_law_694 dL_law_695 ?_
  refine j_st (st' := (([aI (xs (4 * k + 1)).toInt, aI (xs (4 * k + 2)).toInt] : List AV).map (cvv τ)).reverse ++ .ref (τ 0) :: [.int (Int32.ofInt (sp_others (vx h) (xs (4 * k + 1)).toInt (xs (4 * k + 2)).toInt))]) rfl ?_
  refine j_callM C (d := 0 + 3) (as := [aI (xs (4 * k + 1)).toInt, aI (xs (4 * k + 2)).toInt]) okV_X11_others w1084 dL_law_696 rfl (Nat.le_of_ble_eq_true rfl) (Nat.le_of_ble_eq_true rfl) (by decide) ?_
  refine m_others (d := 0) hWm hN hzm (xR _) (xR _) (fun g1 f1 z2 => ?_)
  refine j_eq C (tgt := 819) (sp_others_ag ag hWm _ _) dL_law_699 (by decide) ?_
  exact next h1 g1 ⟨by rw [e1, f1]; exact ag, by rw [f1]; exact WV_mono hWm (by omega), z1, z2⟩
theorem lc_drawn (C : Lc p s m meth c b L xs D γ σ τ) (hL : 4 * k + 3 < L) (hI : Iv k h g) (next : ∀ h1 g1, Iv (k + 1) h1 g1 → Lj p l e s m below meth c b D γ σ τ (4 * k) 819 [] h1 g1) : Lj p l e s m below meth c b D γ σ τ (4 * k) 704 [] h g := by
  obtain ⟨ag, hWm, hzx, hzm⟩ := hI
  have hWx := AgV_W ag hWm
  have hL9 : L ≤ 2048 := C.2.2.2.2.2.2.2.2.2.2.2.2.2
  have hN : (k : Int) ≤ 1000 := by omega
  refine j_x C dL_law_704 ?_
  refine j_arg C 1 (by omega) (by decide) dL_law_705 dL_law_706 dL_law_707 dL_law_708 dL_law_709 ?_
  refine j_arg C 2 (by omega) (by decide) dL_law_710 dL_law_711 dL_law_712 dL_law_713 dL_law_714 ?_
  refine j_st (st' := (([aI (xs (4 * k + 1)).toInt, aI (xs (4 * k + 2)).toInt] : List AV).map (cvv σ)).reverse ++ .ref (σ 0) :: []) rfl ?_
  refine j_callX C (d := 0 + 3) (as := [aI (xs (4 * k + 1)).toInt, aI (xs (4 * k + 2)).toInt]) okV_X10_drawn w779 dL_law_715 rfl (Nat.le_of_ble_eq_true rfl) (Nat.le_of_ble_eq_true rfl) (by decide) ?_
  refine x_drawn (d := 0) hWx hN hzx (xR _) (xR _) (fun h1 e1 z1 => ?_)
  refine j_m C dL_law_718 ?_
  refine j_arg C 1 (by omega) (by decide) dL_law_719 dL_law_720 dL_law_721 dL_law_722 dL_law_723 ?_
  refine j_arg C 2 (by omega) (by decide) dL_law_724 dL_law_725 dL_law_726 dL_law_727 dL_law_728 ?_
  refine j_st (st' := (([aI (xs (4 * k + 1)).toInt, aI (xs (4 * k + 2)).toInt] : List AV).map (cvv τ)).reverse ++ .ref (τ 0) :: [.int (Int32.ofInt (sp_drawn (vx h) (xs (4 * k + 1)).toInt (xs (4 * k + 2)).toInt))]) rfl ?_
  refine j_callM C (d := 0 + 4) (as := [aI (xs (4 * k + 1)).toInt, aI (xs (4 * k + 2)).toInt]) okV_X11_drawn w1088 dL_law_729 rfl (Nat.le_of_ble_eq_true rfl) (Nat.le_of_ble_eq_true rfl) (by decide) ?_
  refine m_drawn (d := 0) hWm hN hzm (xR _) (xR _) (fun g1 f1 z2 => ?_)
  refine j_eq C (tgt := 819) (sp_drawn_ag ag hWm _ _) dL_law_732 (by decide) ?_
  exact next h1 g1 ⟨by rw [e1, f1]; exact ag, by rw [f1]; exact WV_mono hWm (by omega), z1, z2⟩
theorem lc_ten (C : Lc p s m meth c b L xs D γ σ τ) (hL : 4 * k + 3 < L) (hI : Iv k h g) (next : ∀ h1 g1, Iv (k + 1) h1 g1 → Lj p l e s m below meth c b D γ σ τ (4 * k) 819 [] h1 g1) : Lj p l e s m below meth c b D γ σ τ (4 * k) 737 [] h g := by
  obtain ⟨ag, hWm, hzx, hzm⟩ := hI
  have hWx := AgV_W ag hWm
  have hL9 : L ≤ 2048 := C.2.2.2.2.2.2.2.2.2.2.2.2.2
  have hN : (k : Int) ≤ 1000 := by omega
  refine j_x C dL_law_737 ?_
  refine j_arg C 1 (by omega) (by decide) dL_law_738 dL_law_739 dL_law_740 dL_law_741 dL_law_742 ?_
  refine j_arg C 2 (by omega) (by decide) dL_law_743 dL_law_744 dL_law_745 dL_law_746 dL_law_747 ?_
  refine j_st (st' := (([aI (xs (4 * k + 1)).toInt, aI (xs (4 * k + 2)).toInt] : List AV).map (cvv σ)).reverse ++ .ref (σ 0) :: []) rfl ?_
  refine j_callX C (d := 0 + 3) (as := [aI (xs (4 * k + 1)).toInt, aI (xs (4 * k + 2)).toInt]) okV_X10_ten w791 dL_law_748 rfl (Nat.le_of_ble_eq_true rfl) (Nat.le_of_ble_eq_true rfl) (by decide) ?_
  refine x_ten (d := 0) hWx hN hzx (xR _) (xR _) (fun h1 e1 z1 => ?_)
  refine j_m C dL_law_751 ?_
  refine j_arg C 1 (by omega) (by decide) dL_law_752 dL_law_753 dL_law_754 dL_law_755 dL_law_756 ?_
  refine j_arg C 2 (by omega) (by decide) dL_law_757 dL_law_758 dL_law_759 dL_law_760 dL_law_761 ?_
  refine j_st (st' := (([aI (xs (4 * k + 1)).toInt, aI (xs (4 * k + 2)).toInt] : List AV).map (cvv τ)).reverse ++ .ref (τ 0) :: [.int (Int32.ofInt (sp_ten (vx h) (xs (4 * k + 1)).toInt (xs (4 * k + 2)).toInt))]) rfl ?_
  refine j_callM C (d := 0 + 4) (as := [aI (xs (4 * k + 1)).toInt, aI (xs (4 * k + 2)).toInt]) okV_X11_ten w1104 dL_law_762 rfl (Nat.le_of_ble_eq_true rfl) (Nat.le_of_ble_eq_true rfl) (by decide) ?_
  refine m_ten (d := 0) hWm hN hzm (xR _) (xR _) (fun g1 f1 z2 => ?_)
  refine j_eq C (tgt := 819) (sp_ten_ag ag hWm _ _) dL_law_765 (by decide) ?_
  exact next h1 g1 ⟨by rw [e1, f1]; exact ag, by rw [f1]; exact WV_mono hWm (by omega), z1, z2⟩
theorem lc_keep (C : Lc p s m meth c b L xs D γ σ τ) (hL : 4 * k + 3 < L) (hI : Iv k h g) (next : ∀ h1 g1, Iv (k + 1) h1 g1 → Lj p l e s m below meth c b D γ σ τ (4 * k) 819 [] h1 g1) : Lj p l e s m below meth c b D γ σ τ (4 * k) 770 [] h g := by
  obtain ⟨ag, hWm, hzx, hzm⟩ := hI
  have hWx := AgV_W ag hWm
  have hL9 : L ≤ 2048 := C.2.2.2.2.2.2.2.2.2.2.2.2.2
  have hN : (k : Int) ≤ 1000 := by omega
  refine j_x C dL_law_770 ?_
  refine j_st (st' := (([] : List AV).map (cvv σ)).reverse ++ .ref (σ 0) :: []) rfl ?_
  refine j_callX C (d := 0 + 2) (as := []) okV_X10_keep w799 dL_law_771 rfl (Nat.le_of_ble_eq_true rfl) (Nat.le_of_ble_eq_true rfl) (by decide) ?_
  refine x_keep (d := 0) hWx hzx  (fun h1 e1 z1 => ?_)
  refine j_m C dL_law_774 ?_
  refine j_st (st' := (([] : List AV).map (cvv τ)).reverse ++ .ref (τ 0) :: [.int (Int32.ofInt (sp_keep (vx h)))]) rfl ?_
  refine j_callM C (d := 0 + 0) (as := []) okV_X11_keep w1108 dL_law_775 rfl (Nat.le_of_ble_eq_true rfl) (Nat.le_of_ble_eq_true rfl) (by decide) ?_
  refine m_keep (d := 0) hWm hzm  (fun g1 f1 z2 => ?_)
  refine j_eq C (tgt := 819) (keep_ag ag).1 dL_law_778 (by decide) ?_
  exact next h1 g1 ⟨AgV_tr e1 (AgV_tr (keep_ag ag).2 (AgV_sy f1)), AgV_W f1 (WV_mono (keep_W hWm) (by omega)), z1, z2⟩
theorem lc_back (C : Lc p s m meth c b L xs D γ σ τ) (hL : 4 * k + 3 < L) (hI : Iv k h g) (next : ∀ h1 g1, Iv (k + 1) h1 g1 → Lj p l e s m below meth c b D γ σ τ (4 * k) 819 [] h1 g1) : Lj p l e s m below meth c b D γ σ τ (4 * k) 783 [] h g := by
  obtain ⟨ag, hWm, hzx, hzm⟩ := hI
  have hWx := AgV_W ag hWm
  have hL9 : L ≤ 2048 := C.2.2.2.2.2.2.2.2.2.2.2.2.2
  have hN : (k : Int) ≤ 1000 := by omega
  refine j_x C dL_law_783 ?_
  refine j_st (st' := (([] : List AV).map (cvv σ)).reverse ++ .ref (σ 0) :: []) rfl ?_
  refine j_callX C (d := 0 + 2) (as := []) okV_X10_back w803 dL_law_784 rfl (Nat.le_of_ble_eq_true rfl) (Nat.le_of_ble_eq_true rfl) (by decide) ?_
  refine x_back (d := 0) hWx hzx  (fun h1 e1 z1 => ?_)
  refine j_m C dL_law_787 ?_
  refine j_st (st' := (([] : List AV).map (cvv τ)).reverse ++ .ref (τ 0) :: [.int (Int32.ofInt (sp_back (vx h)))]) rfl ?_
  refine j_callM C (d := 0 + 0) (as := []) okV_X11_back w1112 dL_law_788 rfl (Nat.le_of_ble_eq_true rfl) (Nat.le_of_ble_eq_true rfl) (by decide) ?_
  refine m_back (d := 0) hWm hzm  (fun g1 f1 z2 => ?_)
  refine j_eq C (tgt := 819) (back_ag ag).1 dL_law_791 (by decide) ?_
  exact next h1 g1 ⟨AgV_tr e1 (AgV_tr (back_ag ag).2 (AgV_sy f1)), AgV_W f1 (WV_mono (back_W hWm) (by omega)), z1, z2⟩
theorem lc_count (C : Lc p s m meth c b L xs D γ σ τ) (hL : 4 * k + 3 < L) (hI : Iv k h g) (next : ∀ h1 g1, Iv (k + 1) h1 g1 → Lj p l e s m below meth c b D γ σ τ (4 * k) 819 [] h1 g1) : Lj p l e s m below meth c b D γ σ τ (4 * k) 796 [] h g := by
  obtain ⟨ag, hWm, hzx, hzm⟩ := hI
  have hWx := AgV_W ag hWm
  have hL9 : L ≤ 2048 := C.2.2.2.2.2.2.2.2.2.2.2.2.2
  have hN : (k : Int) ≤ 1000 := by omega
  refine j_x C dL_law_796 ?_
  refine j_arg C 1 (by omega) (by decide) dL_law_797 dL_law_798 dL_law_799 dL_law_800 dL_law_801 ?_
  refine j_st (st' := (([aI (xs (4 * k + 1)).toInt] : List AV).map (cvv σ)).reverse ++ .ref (σ 0) :: []) rfl ?_
  refine j_callX C (d := 0 + 1) (as := [aI (xs (4 * k + 1)).toInt]) okV_X10_count w807 dL_law_802 rfl (Nat.le_of_ble_eq_true rfl) (Nat.le_of_ble_eq_true rfl) (by decide) ?_
  refine x_count (d := 0) hWx (xR _) ?_
  refine j_m C dL_law_805 ?_
  refine j_arg C 1 (by omega) (by decide) dL_law_806 dL_law_807 dL_law_808 dL_law_809 dL_law_810 ?_
  refine j_st (st' := (([aI (xs (4 * k + 1)).toInt] : List AV).map (cvv τ)).reverse ++ .ref (τ 0) :: [.int (Int32.ofInt (sp_count (vx h) (xs (4 * k + 1)).toInt))]) rfl ?_
  refine j_callM C (d := 0 + 0) (as := [aI (xs (4 * k + 1)).toInt]) okV_X11_count w1116 dL_law_811 rfl (Nat.le_of_ble_eq_true rfl) (Nat.le_of_ble_eq_true rfl) (by decide) ?_
  refine m_count (d := 0) hWm (xR _) ?_
  refine j_eq C (tgt := 819) (sp_count_ag ag _) dL_law_814 (by decide) ?_
  exact next h g ⟨ag, WV_mono hWm (by omega), hzx, hzm⟩
end
