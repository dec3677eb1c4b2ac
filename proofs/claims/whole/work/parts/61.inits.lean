/-! the constructors of the nested classes (wip/whole/gen_init.py) -/
theorem w90 : Cond.methodLink RX9 3 objectInit ∈ tb2 := mem2 90 (by decide +kernel) rfl
theorem w83 : Cond.instanceMethod objectInit ∈ tb2 := mem2 83 (by decide +kernel) rfl
theorem w84 : Cond.code objectInit ⟨#[0xb1]⟩ 1 none ∈ tb2 := mem2 84 (by decide +kernel) rfl
theorem w89 : Cond.code yX9_init cX9_init 1 none ∈ tb2 := mem2 89 (by decide +kernel) rfl
theorem w102 : Cond.methodLink RX0 3 objectInit ∈ tb2 := mem2 102 (by decide +kernel) rfl
theorem w186 : Cond.arrayClass .boolean ∈ tb2 := mem2 186 (by decide +kernel) rfl
theorem w101 : Cond.code yX0_init cX0_init 1 none ∈ tb2 := mem2 101 (by decide +kernel) rfl
theorem w192 : Cond.methodLink RX5 3 objectInit ∈ tb2 := mem2 192 (by decide +kernel) rfl
theorem w191 : Cond.code yX5_init cX5_init 2 none ∈ tb2 := mem2 191 (by decide +kernel) rfl
theorem w214 : Cond.methodLink RX6 3 objectInit ∈ tb2 := mem2 214 (by decide +kernel) rfl
theorem w213 : Cond.code yX6_init cX6_init 3 none ∈ tb2 := mem2 213 (by decide +kernel) rfl
theorem w241 : Cond.methodLink RX3 3 objectInit ∈ tb2 := mem2 241 (by decide +kernel) rfl
theorem w240 : Cond.code yX3_init cX3_init 3 none ∈ tb2 := mem2 240 (by decide +kernel) rfl
theorem w278 : Cond.methodLink RX8 3 objectInit ∈ tb2 := mem2 278 (by decide +kernel) rfl
theorem w277 : Cond.code yX8_init cX8_init 1 none ∈ tb2 := mem2 277 (by decide +kernel) rfl
theorem w272 : Cond.methodLink RX7 3 objectInit ∈ tb2 := mem2 272 (by decide +kernel) rfl
theorem w273 : Cond.classLink RX7 9 RX8 ∈ tb2 := mem2 273 (by decide +kernel) rfl
theorem w274 : Cond.instantiable RX8 3 ∈ tb2 := mem2 274 (by decide +kernel) rfl
theorem w276 : Cond.instanceMethod yX8_init ∈ tb2 := mem2 276 (by decide +kernel) rfl
theorem w275 : Cond.methodLinkNest RX7 11 yX8_init "RatsEat" ∈ tb2 := mem2 275 (by decide +kernel) rfl
theorem w271 : Cond.code yX7_init cX7_init 3 none ∈ tb2 := mem2 271 (by decide +kernel) rfl
theorem w332 : Cond.methodLink RX4 3 objectInit ∈ tb2 := mem2 332 (by decide +kernel) rfl
theorem w333 : Cond.classLink RX4 9 "[[I" ∈ tb2 := mem2 333 (by decide +kernel) rfl
theorem w331 : Cond.code yX4_init cX4_init 3 none ∈ tb2 := mem2 331 (by decide +kernel) rfl
theorem w366 : Cond.methodLink RX2 3 objectInit ∈ tb2 := mem2 366 (by decide +kernel) rfl
theorem w365 : Cond.code yX2_init cX2_init 3 none ∈ tb2 := mem2 365 (by decide +kernel) rfl
theorem w405 : Cond.methodLink RX1 3 objectInit ∈ tb2 := mem2 405 (by decide +kernel) rfl
theorem w404 : Cond.code yX1_init cX1_init 3 none ∈ tb2 := mem2 404 (by decide +kernel) rfl
theorem okI_X9 : okM mX9_init 0 := ⟨by decide, by decide, by decide, w89, w64, by decide, by decide +kernel⟩
set_option maxRecDepth 100000 in
theorem k_X9 : CtI 1 1 2 mX9_init 9 [] [.null] (fun γ q ws => ∃ q1, ws = [(q, .inr (9, [.ref q1])), (q1, aZ γ 1 2)]) := by
  refine ctI_of (by decide) rfl (fun q => Nat.le_of_ble_eq_true rfl) (fun D γ A q => ?_)
  refine (show Gj 1 1 2 mX9_init D γ A 0 [(0, .ref q)] [] [(q, .inr (9, [.null]))] 0 0 _ from ?_)
  refine g_aload 0 dX9_init_0 rfl rfl ?_
  refine g_obj w90 w83 w84 dX9_init_1 (by decide) ?_
  refine g_aload 0 dX9_init_4 rfl rfl ?_
  refine g_iconst dX9_init_5 ?_
  refine g_newa (atype := .int) 1 0 2 rfl (fun _ _ h => h) rfl w96 (by decide) (by decide) (by decide) (by decide) (by decide) dX9_init_6 (fun q1 => ?_)
  refine g_putF 0 0 f0X9 iwX9 tyX9_ok nmX9 (by decide) w91 rfl rfl rfl rfl rfl rfl (Nat.le_of_ble_eq_true rfl) dX9_init_8 ?_
  refine g_ws (ws' := [(q, .inr (9, [.ref q1])), (q1, aZ γ 1 2)]) rfl ?_
  exact g_vret (by decide) (by decide) rfl dX9_init_11 ⟨q1, rfl⟩
theorem okI_X0 : okM mX0_init 0 := ⟨by decide, by decide, by decide, w101, w65, by decide, by decide +kernel⟩
set_option maxRecDepth 100000 in
theorem k_X0 : CtI 1 9 70 mX0_init 0 [] [.null, .null, .int (Int32.ofInt 0), .int (Int32.ofInt 0), .int (Int32.ofInt 0), .int (Int32.ofInt 0), .null, .null, .int (Int32.ofInt 0), .null, .null, .int (Int32.ofInt 0), .null, .null, .null, .int (Int32.ofInt 0)] (fun γ q ws => ∃ q1 q2 q3 q4 q5 q6 q7 q8 q9, ws = [(q, .inr (0, [.ref q1, .ref q2, .int (Int32.ofInt 0), .int (Int32.ofInt 0), .int (Int32.ofInt 0), .int (Int32.ofInt 0), .ref q3, .ref q4, .int (Int32.ofInt 0), .ref q5, .ref q6, .int (Int32.ofInt 0), .ref q7, .ref q8, .ref q9, .int (Int32.ofInt 0)])), (q1, aZ γ 1 8), (q2, aZ γ 1 8), (q3, aZ γ 1 8), (q4, aZ γ 1 8), (q5, aZ γ 1 4), (q6, aZ γ 1 4), (q7, aZ γ 1 10), (q8, aZ γ 1 10), (q9, aZ γ 3 10)]) := by
  refine ctI_of (by decide) rfl (fun q => Nat.le_of_ble_eq_true rfl) (fun D γ A q => ?_)
  refine (show Gj 1 9 70 mX0_init D γ A 0 [(0, .ref q)] [] [(q, .inr (0, [.null, .null, .int (Int32.ofInt 0), .int (Int32.ofInt 0), .int (Int32.ofInt 0), .int (Int32.ofInt 0), .null, .null, .int (Int32.ofInt 0), .null, .null, .int (Int32.ofInt 0), .null, .null, .null, .int (Int32.ofInt 0)]))] 0 0 _ from ?_)
  refine g_aload 0 dX0_init_0 rfl rfl ?_
  refine g_obj w102 w83 w84 dX0_init_1 (by decide) ?_
  refine g_aload 0 dX0_init_4 rfl rfl ?_
  refine g_bipush dX0_init_5 (by decide) ?_
  refine g_newa (atype := .int) 1 0 8 rfl (fun _ _ h => h) rfl w96 (by decide) (by decide) (by decide) (by decide) (by decide) dX0_init_7 (fun q1 => ?_)
  refine g_putF 0 0 f0X0 iwX0 tyX0_ok nmX0 (by decide) w103 rfl rfl rfl rfl rfl rfl (Nat.le_of_ble_eq_true rfl) dX0_init_9 ?_
  refine g_ws (ws' := [(q, .inr (0, [.ref q1, .null, .int (Int32.ofInt 0), .int (Int32.ofInt 0), .int (Int32.ofInt 0), .int (Int32.ofInt 0), .null, .null, .int (Int32.ofInt 0), .null, .null, .int (Int32.ofInt 0), .null, .null, .null, .int (Int32.ofInt 0)])), (q1, aZ γ 1 8)]) rfl ?_
  refine g_aload 0 dX0_init_12 rfl rfl ?_
  refine g_bipush dX0_init_13 (by decide) ?_
  refine g_newa (atype := .int) 1 0 8 rfl (fun _ _ h => h) rfl w96 (by decide) (by decide) (by decide) (by decide) (by decide) dX0_init_15 (fun q2 => ?_)
  refine g_putF 0 1 f0X0 iwX0 tyX0_ok nmX0 (by decide) w105 rfl rfl rfl rfl rfl rfl (Nat.le_of_ble_eq_true rfl) dX0_init_17 ?_
  refine g_ws (ws' := [(q, .inr (0, [.ref q1, .ref q2, .int (Int32.ofInt 0), .int (Int32.ofInt 0), .int (Int32.ofInt 0), .int (Int32.ofInt 0), .null, .null, .int (Int32.ofInt 0), .null, .null, .int (Int32.ofInt 0), .null, .null, .null, .int (Int32.ofInt 0)])), (q1, aZ γ 1 8), (q2, aZ γ 1 8)]) rfl ?_
  refine g_aload 0 dX0_init_20 rfl rfl ?_
  refine g_iconst dX0_init_21 ?_
  refine g_put 0 2 f0X0 iwX0 tyX0_ok nmX0 (by decide) w109 rfl rfl rfl rfl rfl (Nat.le_of_ble_eq_true rfl) dX0_init_22 ?_
  refine g_ws (ws' := [(q, .inr (0, [.ref q1, .ref q2, .int (Int32.ofInt 0), .int (Int32.ofInt 0), .int (Int32.ofInt 0), .int (Int32.ofInt 0), .null, .null, .int (Int32.ofInt 0), .null, .null, .int (Int32.ofInt 0), .null, .null, .null, .int (Int32.ofInt 0)])), (q1, aZ γ 1 8), (q2, aZ γ 1 8)]) rfl ?_
  refine g_aload 0 dX0_init_25 rfl rfl ?_
  refine g_iconst dX0_init_26 ?_
  refine g_put 0 3 f0X0 iwX0 tyX0_ok nmX0 (by decide) w117 rfl rfl rfl rfl rfl (Nat.le_of_ble_eq_true rfl) dX0_init_27 ?_
  refine g_ws (ws' := [(q, .inr (0, [.ref q1, .ref q2, .int (Int32.ofInt 0), .int (Int32.ofInt 0), .int (Int32.ofInt 0), .int (Int32.ofInt 0), .null, .null, .int (Int32.ofInt 0), .null, .null, .int (Int32.ofInt 0), .null, .null, .null, .int (Int32.ofInt 0)])), (q1, aZ γ 1 8), (q2, aZ γ 1 8)]) rfl ?_
  refine g_aload 0 dX0_init_30 rfl rfl ?_
  refine g_iconst dX0_init_31 ?_
  refine g_put 0 4 f0X0 iwX0 tyX0_ok nmX0 (by decide) w118 rfl rfl rfl rfl rfl (Nat.le_of_ble_eq_true rfl) dX0_init_32 ?_
  refine g_ws (ws' := [(q, .inr (0, [.ref q1, .ref q2, .int (Int32.ofInt 0), .int (Int32.ofInt 0), .int (Int32.ofInt 0), .int (Int32.ofInt 0), .null, .null, .int (Int32.ofInt 0), .null, .null, .int (Int32.ofInt 0), .null, .null, .null, .int (Int32.ofInt 0)])), (q1, aZ γ 1 8), (q2, aZ γ 1 8)]) rfl ?_
  refine g_aload 0 dX0_init_35 rfl rfl ?_
  refine g_iconst dX0_init_36 ?_
  refine g_put 0 5 f0X0 iwX0 tyX0_ok nmX0 (by decide) w126 rfl rfl rfl rfl rfl (Nat.le_of_ble_eq_true rfl) dX0_init_37 ?_
  refine g_ws (ws' := [(q, .inr (0, [.ref q1, .ref q2, .int (Int32.ofInt 0), .int (Int32.ofInt 0), .int (Int32.ofInt 0), .int (Int32.ofInt 0), .null, .null, .int (Int32.ofInt 0), .null, .null, .int (Int32.ofInt 0), .null, .null, .null, .int (Int32.ofInt 0)])), (q1, aZ γ 1 8), (q2, aZ γ 1 8)]) rfl ?_
  refine g_aload 0 dX0_init_40 rfl rfl ?_
  refine g_bipush dX0_init_41 (by decide) ?_
  refine g_newa (atype := .int) 1 0 8 rfl (fun _ _ h => h) rfl w96 (by decide) (by decide) (by decide) (by decide) (by decide) dX0_init_43 (fun q3 => ?_)
  refine g_putF 0 6 f0X0 iwX0 tyX0_ok nmX0 (by decide) w128 rfl rfl rfl rfl rfl rfl (Nat.le_of_ble_eq_true rfl) dX0_init_45 ?_
  refine g_ws (ws' := [(q, .inr (0, [.ref q1, .ref q2, .int (Int32.ofInt 0), .int (Int32.ofInt 0), .int (Int32.ofInt 0), .int (Int32.ofInt 0), .ref q3, .null, .int (Int32.ofInt 0), .null, .null, .int (Int32.ofInt 0), .null, .null, .null, .int (Int32.ofInt 0)])), (q1, aZ γ 1 8), (q2, aZ γ 1 8), (q3, aZ γ 1 8)]) rfl ?_
  refine g_aload 0 dX0_init_48 rfl rfl ?_
  refine g_bipush dX0_init_49 (by decide) ?_
  refine g_newa (atype := .int) 1 0 8 rfl (fun _ _ h => h) rfl w96 (by decide) (by decide) (by decide) (by decide) (by decide) dX0_init_51 (fun q4 => ?_)
  refine g_putF 0 7 f0X0 iwX0 tyX0_ok nmX0 (by decide) w129 rfl rfl rfl rfl rfl rfl (Nat.le_of_ble_eq_true rfl) dX0_init_53 ?_
  refine g_ws (ws' := [(q, .inr (0, [.ref q1, .ref q2, .int (Int32.ofInt 0), .int (Int32.ofInt 0), .int (Int32.ofInt 0), .int (Int32.ofInt 0), .ref q3, .ref q4, .int (Int32.ofInt 0), .null, .null, .int (Int32.ofInt 0), .null, .null, .null, .int (Int32.ofInt 0)])), (q1, aZ γ 1 8), (q2, aZ γ 1 8), (q3, aZ γ 1 8), (q4, aZ γ 1 8)]) rfl ?_
  refine g_aload 0 dX0_init_56 rfl rfl ?_
  refine g_iconst dX0_init_57 ?_
  refine g_put 0 8 f0X0 iwX0 tyX0_ok nmX0 (by decide) w130 rfl rfl rfl rfl rfl (Nat.le_of_ble_eq_true rfl) dX0_init_58 ?_
  refine g_ws (ws' := [(q, .inr (0, [.ref q1, .ref q2, .int (Int32.ofInt 0), .int (Int32.ofInt 0), .int (Int32.ofInt 0), .int (Int32.ofInt 0), .ref q3, .ref q4, .int (Int32.ofInt 0), .null, .null, .int (Int32.ofInt 0), .null, .null, .null, .int (Int32.ofInt 0)])), (q1, aZ γ 1 8), (q2, aZ γ 1 8), (q3, aZ γ 1 8), (q4, aZ γ 1 8)]) rfl ?_
  refine g_aload 0 dX0_init_61 rfl rfl ?_
  refine g_iconst dX0_init_62 ?_
  refine g_newa (atype := .int) 1 0 4 rfl (fun _ _ h => h) rfl w96 (by decide) (by decide) (by decide) (by decide) (by decide) dX0_init_63 (fun q5 => ?_)
  refine g_putF 0 9 f0X0 iwX0 tyX0_ok nmX0 (by decide) w132 rfl rfl rfl rfl rfl rfl (Nat.le_of_ble_eq_true rfl) dX0_init_65 ?_
  refine g_ws (ws' := [(q, .inr (0, [.ref q1, .ref q2, .int (Int32.ofInt 0), .int (Int32.ofInt 0), .int (Int32.ofInt 0), .int (Int32.ofInt 0), .ref q3, .ref q4, .int (Int32.ofInt 0), .ref q5, .null, .int (Int32.ofInt 0), .null, .null, .null, .int (Int32.ofInt 0)])), (q1, aZ γ 1 8), (q2, aZ γ 1 8), (q3, aZ γ 1 8), (q4, aZ γ 1 8), (q5, aZ γ 1 4)]) rfl ?_
  refine g_aload 0 dX0_init_68 rfl rfl ?_
  refine g_iconst dX0_init_69 ?_
  refine g_newa (atype := .int) 1 0 4 rfl (fun _ _ h => h) rfl w96 (by decide) (by decide) (by decide) (by decide) (by decide) dX0_init_70 (fun q6 => ?_)
  refine g_putF 0 10 f0X0 iwX0 tyX0_ok nmX0 (by decide) w134 rfl rfl rfl rfl rfl rfl (Nat.le_of_ble_eq_true rfl) dX0_init_72 ?_
  refine g_ws (ws' := [(q, .inr (0, [.ref q1, .ref q2, .int (Int32.ofInt 0), .int (Int32.ofInt 0), .int (Int32.ofInt 0), .int (Int32.ofInt 0), .ref q3, .ref q4, .int (Int32.ofInt 0), .ref q5, .ref q6, .int (Int32.ofInt 0), .null, .null, .null, .int (Int32.ofInt 0)])), (q1, aZ γ 1 8), (q2, aZ γ 1 8), (q3, aZ γ 1 8), (q4, aZ γ 1 8), (q5, aZ γ 1 4), (q6, aZ γ 1 4)]) rfl ?_
  refine g_aload 0 dX0_init_75 rfl rfl ?_
  refine g_iconst dX0_init_76 ?_
  refine g_put 0 11 f0X0 iwX0 tyX0_ok nmX0 (by decide) w136 rfl rfl rfl rfl rfl (Nat.le_of_ble_eq_true rfl) dX0_init_77 ?_
  refine g_ws (ws' := [(q, .inr (0, [.ref q1, .ref q2, .int (Int32.ofInt 0), .int (Int32.ofInt 0), .int (Int32.ofInt 0), .int (Int32.ofInt 0), .ref q3, .ref q4, .int (Int32.ofInt 0), .ref q5, .ref q6, .int (Int32.ofInt 0), .null, .null, .null, .int (Int32.ofInt 0)])), (q1, aZ γ 1 8), (q2, aZ γ 1 8), (q3, aZ γ 1 8), (q4, aZ γ 1 8), (q5, aZ γ 1 4), (q6, aZ γ 1 4)]) rfl ?_
  refine g_aload 0 dX0_init_80 rfl rfl ?_
  refine g_bipush dX0_init_81 (by decide) ?_
  refine g_newa (atype := .int) 1 0 10 rfl (fun _ _ h => h) rfl w96 (by decide) (by decide) (by decide) (by decide) (by decide) dX0_init_83 (fun q7 => ?_)
  refine g_putF 0 12 f0X0 iwX0 tyX0_ok nmX0 (by decide) w139 rfl rfl rfl rfl rfl rfl (Nat.le_of_ble_eq_true rfl) dX0_init_85 ?_
  refine g_ws (ws' := [(q, .inr (0, [.ref q1, .ref q2, .int (Int32.ofInt 0), .int (Int32.ofInt 0), .int (Int32.ofInt 0), .int (Int32.ofInt 0), .ref q3, .ref q4, .int (Int32.ofInt 0), .ref q5, .ref q6, .int (Int32.ofInt 0), .ref q7, .null, .null, .int (Int32.ofInt 0)])), (q1, aZ γ 1 8), (q2, aZ γ 1 8), (q3, aZ γ 1 8), (q4, aZ γ 1 8), (q5, aZ γ 1 4), (q6, aZ γ 1 4), (q7, aZ γ 1 10)]) rfl ?_
  refine g_aload 0 dX0_init_88 rfl rfl ?_
  refine g_bipush dX0_init_89 (by decide) ?_
  refine g_newa (atype := .int) 1 0 10 rfl (fun _ _ h => h) rfl w96 (by decide) (by decide) (by decide) (by decide) (by decide) dX0_init_91 (fun q8 => ?_)
  refine g_putF 0 13 f0X0 iwX0 tyX0_ok nmX0 (by decide) w142 rfl rfl rfl rfl rfl rfl (Nat.le_of_ble_eq_true rfl) dX0_init_93 ?_
  refine g_ws (ws' := [(q, .inr (0, [.ref q1, .ref q2, .int (Int32.ofInt 0), .int (Int32.ofInt 0), .int (Int32.ofInt 0), .int (Int32.ofInt 0), .ref q3, .ref q4, .int (Int32.ofInt 0), .ref q5, .ref q6, .int (Int32.ofInt 0), .ref q7, .ref q8, .null, .int (Int32.ofInt 0)])), (q1, aZ γ 1 8), (q2, aZ γ 1 8), (q3, aZ γ 1 8), (q4, aZ γ 1 8), (q5, aZ γ 1 4), (q6, aZ γ 1 4), (q7, aZ γ 1 10), (q8, aZ γ 1 10)]) rfl ?_
  refine g_aload 0 dX0_init_96 rfl rfl ?_
  refine g_bipush dX0_init_97 (by decide) ?_
  refine g_newa (atype := .boolean) 3 2 10 rfl (fun _ _ h => h) rfl w186 (by decide) (by decide) (by decide) (by decide) (by decide) dX0_init_99 (fun q9 => ?_)
  refine g_putF 0 14 f0X0 iwX0 tyX0_ok nmX0 (by decide) w145 rfl rfl rfl rfl rfl rfl (Nat.le_of_ble_eq_true rfl) dX0_init_101 ?_
  refine g_ws (ws' := [(q, .inr (0, [.ref q1, .ref q2, .int (Int32.ofInt 0), .int (Int32.ofInt 0), .int (Int32.ofInt 0), .int (Int32.ofInt 0), .ref q3, .ref q4, .int (Int32.ofInt 0), .ref q5, .ref q6, .int (Int32.ofInt 0), .ref q7, .ref q8, .ref q9, .int (Int32.ofInt 0)])), (q1, aZ γ 1 8), (q2, aZ γ 1 8), (q3, aZ γ 1 8), (q4, aZ γ 1 8), (q5, aZ γ 1 4), (q6, aZ γ 1 4), (q7, aZ γ 1 10), (q8, aZ γ 1 10), (q9, aZ γ 3 10)]) rfl ?_
  refine g_aload 0 dX0_init_104 rfl rfl ?_
  refine g_iconst dX0_init_105 ?_
  refine g_put 0 15 f0X0 iwX0 tyX0_ok nmX0 (by decide) w149 rfl rfl rfl rfl rfl (Nat.le_of_ble_eq_true rfl) dX0_init_106 ?_
  refine g_ws (ws' := [(q, .inr (0, [.ref q1, .ref q2, .int (Int32.ofInt 0), .int (Int32.ofInt 0), .int (Int32.ofInt 0), .int (Int32.ofInt 0), .ref q3, .ref q4, .int (Int32.ofInt 0), .ref q5, .ref q6, .int (Int32.ofInt 0), .ref q7, .ref q8, .ref q9, .int (Int32.ofInt 0)])), (q1, aZ γ 1 8), (q2, aZ γ 1 8), (q3, aZ γ 1 8), (q4, aZ γ 1 8), (q5, aZ γ 1 4), (q6, aZ γ 1 4), (q7, aZ γ 1 10), (q8, aZ γ 1 10), (q9, aZ γ 3 10)]) rfl ?_
  exact g_vret (by decide) (by decide) rfl dX0_init_109 ⟨q1, q2, q3, q4, q5, q6, q7, q8, q9, rfl⟩
theorem okI_X5 : okM mX5_init 1 := ⟨by decide, by decide, by decide, w191, w66, by decide, by decide +kernel⟩
set_option maxRecDepth 100000 in
theorem k_X5 (a : Nat) : CtI 1 3 20 mX5_init 5 [.ref a] [.null, .null, .null, .null] (fun γ q ws => ∃ q1 q2 q3, ws = [(q, .inr (5, [.ref a, .ref q1, .ref q2, .ref q3])), (q1, aZ γ 3 10), (q2, aZ γ 1 8), (q3, aZ γ 1 2)]) := by
  refine ctI_of (by decide) rfl (fun q => Nat.le_of_ble_eq_true rfl) (fun D γ A q => ?_)
  refine (show Gj 1 3 20 mX5_init D γ A 0 [(0, .ref q), (1, .ref a)] [] [(q, .inr (5, [.null, .null, .null, .null]))] 0 0 _ from ?_)
  refine g_aload 0 dX5_init_0 rfl rfl ?_
  refine g_obj w192 w83 w84 dX5_init_1 (by decide) ?_
  refine g_aload 0 dX5_init_4 rfl rfl ?_
  refine g_bipush dX5_init_5 (by decide) ?_
  refine g_newa (atype := .boolean) 3 2 10 rfl (fun _ _ h => h) rfl w186 (by decide) (by decide) (by decide) (by decide) (by decide) dX5_init_7 (fun q1 => ?_)
  refine g_putF 0 1 f0X5 iwX5 tyX5_ok nmX5 (by decide) w194 rfl rfl rfl rfl rfl rfl (Nat.le_of_ble_eq_true rfl) dX5_init_9 ?_
  refine g_ws (ws' := [(q, .inr (5, [.null, .ref q1, .null, .null])), (q1, aZ γ 3 10)]) rfl ?_
  refine g_aload 0 dX5_init_12 rfl rfl ?_
  refine g_bipush dX5_init_13 (by decide) ?_
  refine g_newa (atype := .int) 1 0 8 rfl (fun _ _ h => h) rfl w96 (by decide) (by decide) (by decide) (by decide) (by decide) dX5_init_15 (fun q2 => ?_)
  refine g_putF 0 2 f0X5 iwX5 tyX5_ok nmX5 (by decide) w196 rfl rfl rfl rfl rfl rfl (Nat.le_of_ble_eq_true rfl) dX5_init_17 ?_
  refine g_ws (ws' := [(q, .inr (5, [.null, .ref q1, .ref q2, .null])), (q1, aZ γ 3 10), (q2, aZ γ 1 8)]) rfl ?_
  refine g_aload 0 dX5_init_20 rfl rfl ?_
  refine g_iconst dX5_init_21 ?_
  refine g_newa (atype := .int) 1 0 2 rfl (fun _ _ h => h) rfl w96 (by decide) (by decide) (by decide) (by decide) (by decide) dX5_init_22 (fun q3 => ?_)
  refine g_putF 0 3 f0X5 iwX5 tyX5_ok nmX5 (by decide) w197 rfl rfl rfl rfl rfl rfl (Nat.le_of_ble_eq_true rfl) dX5_init_24 ?_
  refine g_ws (ws' := [(q, .inr (5, [.null, .ref q1, .ref q2, .ref q3])), (q1, aZ γ 3 10), (q2, aZ γ 1 8), (q3, aZ γ 1 2)]) rfl ?_
  refine g_aload 0 dX5_init_27 rfl rfl ?_
  refine g_aload 1 dX5_init_28 rfl rfl ?_
  refine g_putF 0 0 f0X5 iwX5 tyX5_ok nmX5 (by decide) w193 rfl rfl rfl rfl rfl rfl (Nat.le_of_ble_eq_true rfl) dX5_init_29 ?_
  refine g_ws (ws' := [(q, .inr (5, [.ref a, .ref q1, .ref q2, .ref q3])), (q1, aZ γ 3 10), (q2, aZ γ 1 8), (q3, aZ γ 1 2)]) rfl ?_
  exact g_vret (by decide) (by decide) rfl dX5_init_32 ⟨q1, q2, q3, rfl⟩
theorem okI_X6 : okM mX6_init 2 := ⟨by decide, by decide, by decide, w213, w67, by decide, by decide +kernel⟩
set_option maxRecDepth 100000 in
theorem k_X6 (a : Nat) (b : Nat) : CtI 1 3 24 mX6_init 6 [.ref a, .ref b] [.null, .null, .null, .null, .null, .int (Int32.ofInt 0)] (fun γ q ws => ∃ q1 q2 q3, ws = [(q, .inr (6, [.ref a, .ref b, .ref q1, .ref q2, .ref q3, .int (Int32.ofInt 0)])), (q1, aZ γ 1 8), (q2, aZ γ 1 8), (q3, aZ γ 1 8)]) := by
  refine ctI_of (by decide) rfl (fun q => Nat.le_of_ble_eq_true rfl) (fun D γ A q => ?_)
  refine (show Gj 1 3 24 mX6_init D γ A 0 [(0, .ref q), (1, .ref a), (2, .ref b)] [] [(q, .inr (6, [.null, .null, .null, .null, .null, .int (Int32.ofInt 0)]))] 0 0 _ from ?_)
  refine g_aload 0 dX6_init_0 rfl rfl ?_
  refine g_obj w214 w83 w84 dX6_init_1 (by decide) ?_
  refine g_aload 0 dX6_init_4 rfl rfl ?_
  refine g_bipush dX6_init_5 (by decide) ?_
  refine g_newa (atype := .int) 1 0 8 rfl (fun _ _ h => h) rfl w96 (by decide) (by decide) (by decide) (by decide) (by decide) dX6_init_7 (fun q1 => ?_)
  refine g_putF 0 2 f0X6 iwX6 tyX6_ok nmX6 (by decide) w217 rfl rfl rfl rfl rfl rfl (Nat.le_of_ble_eq_true rfl) dX6_init_9 ?_
  refine g_ws (ws' := [(q, .inr (6, [.null, .null, .ref q1, .null, .null, .int (Int32.ofInt 0)])), (q1, aZ γ 1 8)]) rfl ?_
  refine g_aload 0 dX6_init_12 rfl rfl ?_
  refine g_bipush dX6_init_13 (by decide) ?_
  refine g_newa (atype := .int) 1 0 8 rfl (fun _ _ h => h) rfl w96 (by decide) (by decide) (by decide) (by decide) (by decide) dX6_init_15 (fun q2 => ?_)
  refine g_putF 0 3 f0X6 iwX6 tyX6_ok nmX6 (by decide) w218 rfl rfl rfl rfl rfl rfl (Nat.le_of_ble_eq_true rfl) dX6_init_17 ?_
  refine g_ws (ws' := [(q, .inr (6, [.null, .null, .ref q1, .ref q2, .null, .int (Int32.ofInt 0)])), (q1, aZ γ 1 8), (q2, aZ γ 1 8)]) rfl ?_
  refine g_aload 0 dX6_init_20 rfl rfl ?_
  refine g_bipush dX6_init_21 (by decide) ?_
  refine g_newa (atype := .int) 1 0 8 rfl (fun _ _ h => h) rfl w96 (by decide) (by decide) (by decide) (by decide) (by decide) dX6_init_23 (fun q3 => ?_)
  refine g_putF 0 4 f0X6 iwX6 tyX6_ok nmX6 (by decide) w219 rfl rfl rfl rfl rfl rfl (Nat.le_of_ble_eq_true rfl) dX6_init_25 ?_
  refine g_ws (ws' := [(q, .inr (6, [.null, .null, .ref q1, .ref q2, .ref q3, .int (Int32.ofInt 0)])), (q1, aZ γ 1 8), (q2, aZ γ 1 8), (q3, aZ γ 1 8)]) rfl ?_
  refine g_aload 0 dX6_init_28 rfl rfl ?_
  refine g_iconst dX6_init_29 ?_
  refine g_put 0 5 f0X6 iwX6 tyX6_ok nmX6 (by decide) w221 rfl rfl rfl rfl rfl (Nat.le_of_ble_eq_true rfl) dX6_init_30 ?_
  refine g_ws (ws' := [(q, .inr (6, [.null, .null, .ref q1, .ref q2, .ref q3, .int (Int32.ofInt 0)])), (q1, aZ γ 1 8), (q2, aZ γ 1 8), (q3, aZ γ 1 8)]) rfl ?_
  refine g_aload 0 dX6_init_33 rfl rfl ?_
  refine g_aload 1 dX6_init_34 rfl rfl ?_
  refine g_putF 0 0 f0X6 iwX6 tyX6_ok nmX6 (by decide) w215 rfl rfl rfl rfl rfl rfl (Nat.le_of_ble_eq_true rfl) dX6_init_35 ?_
  refine g_ws (ws' := [(q, .inr (6, [.ref a, .null, .ref q1, .ref q2, .ref q3, .int (Int32.ofInt 0)])), (q1, aZ γ 1 8), (q2, aZ γ 1 8), (q3, aZ γ 1 8)]) rfl ?_
  refine g_aload 0 dX6_init_38 rfl rfl ?_
  refine g_aload 2 dX6_init_39 rfl rfl ?_
  refine g_putF 0 1 f0X6 iwX6 tyX6_ok nmX6 (by decide) w216 rfl rfl rfl rfl rfl rfl (Nat.le_of_ble_eq_true rfl) dX6_init_40 ?_
  refine g_ws (ws' := [(q, .inr (6, [.ref a, .ref b, .ref q1, .ref q2, .ref q3, .int (Int32.ofInt 0)])), (q1, aZ γ 1 8), (q2, aZ γ 1 8), (q3, aZ γ 1 8)]) rfl ?_
  exact g_vret (by decide) (by decide) rfl dX6_init_43 ⟨q1, q2, q3, rfl⟩
theorem okI_X3 : okM mX3_init 2 := ⟨by decide, by decide, by decide, w240, w68, by decide, by decide +kernel⟩
set_option maxRecDepth 100000 in
theorem k_X3 (a : Nat) (b : Nat) : CtI 1 2 16 mX3_init 3 [.ref a, .ref b] [.null, .null, .null, .null, .int (Int32.ofInt 0), .int (Int32.ofInt 0), .int (Int32.ofInt 0)] (fun γ q ws => ∃ q1 q2, ws = [(q, .inr (3, [.ref a, .ref b, .ref q1, .ref q2, .int (Int32.ofInt 0), .int (Int32.ofInt 0), .int (Int32.ofInt 0)])), (q1, aZ γ 1 8), (q2, aZ γ 1 8)]) := by
  refine ctI_of (by decide) rfl (fun q => Nat.le_of_ble_eq_true rfl) (fun D γ A q => ?_)
  refine (show Gj 1 2 16 mX3_init D γ A 0 [(0, .ref q), (1, .ref a), (2, .ref b)] [] [(q, .inr (3, [.null, .null, .null, .null, .int (Int32.ofInt 0), .int (Int32.ofInt 0), .int (Int32.ofInt 0)]))] 0 0 _ from ?_)
  refine g_aload 0 dX3_init_0 rfl rfl ?_
  refine g_obj w241 w83 w84 dX3_init_1 (by decide) ?_
  refine g_aload 0 dX3_init_4 rfl rfl ?_
  refine g_bipush dX3_init_5 (by decide) ?_
  refine g_newa (atype := .int) 1 0 8 rfl (fun _ _ h => h) rfl w96 (by decide) (by decide) (by decide) (by decide) (by decide) dX3_init_7 (fun q1 => ?_)
  refine g_putF 0 2 f0X3 iwX3 tyX3_ok nmX3 (by decide) w244 rfl rfl rfl rfl rfl rfl (Nat.le_of_ble_eq_true rfl) dX3_init_9 ?_
  refine g_ws (ws' := [(q, .inr (3, [.null, .null, .ref q1, .null, .int (Int32.ofInt 0), .int (Int32.ofInt 0), .int (Int32.ofInt 0)])), (q1, aZ γ 1 8)]) rfl ?_
  refine g_aload 0 dX3_init_12 rfl rfl ?_
  refine g_bipush dX3_init_13 (by decide) ?_
  refine g_newa (atype := .int) 1 0 8 rfl (fun _ _ h => h) rfl w96 (by decide) (by decide) (by decide) (by decide) (by decide) dX3_init_15 (fun q2 => ?_)
  refine g_putF 0 3 f0X3 iwX3 tyX3_ok nmX3 (by decide) w245 rfl rfl rfl rfl rfl rfl (Nat.le_of_ble_eq_true rfl) dX3_init_17 ?_
  refine g_ws (ws' := [(q, .inr (3, [.null, .null, .ref q1, .ref q2, .int (Int32.ofInt 0), .int (Int32.ofInt 0), .int (Int32.ofInt 0)])), (q1, aZ γ 1 8), (q2, aZ γ 1 8)]) rfl ?_
  refine g_aload 0 dX3_init_20 rfl rfl ?_
  refine g_iconst dX3_init_21 ?_
  refine g_put 0 4 f0X3 iwX3 tyX3_ok nmX3 (by decide) w246 rfl rfl rfl rfl rfl (Nat.le_of_ble_eq_true rfl) dX3_init_22 ?_
  refine g_ws (ws' := [(q, .inr (3, [.null, .null, .ref q1, .ref q2, .int (Int32.ofInt 0), .int (Int32.ofInt 0), .int (Int32.ofInt 0)])), (q1, aZ γ 1 8), (q2, aZ γ 1 8)]) rfl ?_
  refine g_aload 0 dX3_init_25 rfl rfl ?_
  refine g_iconst dX3_init_26 ?_
  refine g_put 0 5 f0X3 iwX3 tyX3_ok nmX3 (by decide) w248 rfl rfl rfl rfl rfl (Nat.le_of_ble_eq_true rfl) dX3_init_27 ?_
  refine g_ws (ws' := [(q, .inr (3, [.null, .null, .ref q1, .ref q2, .int (Int32.ofInt 0), .int (Int32.ofInt 0), .int (Int32.ofInt 0)])), (q1, aZ γ 1 8), (q2, aZ γ 1 8)]) rfl ?_
  refine g_aload 0 dX3_init_30 rfl rfl ?_
  refine g_iconst dX3_init_31 ?_
  refine g_put 0 6 f0X3 iwX3 tyX3_ok nmX3 (by decide) w250 rfl rfl rfl rfl rfl (Nat.le_of_ble_eq_true rfl) dX3_init_32 ?_
  refine g_ws (ws' := [(q, .inr (3, [.null, .null, .ref q1, .ref q2, .int (Int32.ofInt 0), .int (Int32.ofInt 0), .int (Int32.ofInt 0)])), (q1, aZ γ 1 8), (q2, aZ γ 1 8)]) rfl ?_
  refine g_aload 0 dX3_init_35 rfl rfl ?_
  refine g_aload 1 dX3_init_36 rfl rfl ?_
  refine g_putF 0 0 f0X3 iwX3 tyX3_ok nmX3 (by decide) w242 rfl rfl rfl rfl rfl rfl (Nat.le_of_ble_eq_true rfl) dX3_init_37 ?_
  refine g_ws (ws' := [(q, .inr (3, [.ref a, .null, .ref q1, .ref q2, .int (Int32.ofInt 0), .int (Int32.ofInt 0), .int (Int32.ofInt 0)])), (q1, aZ γ 1 8), (q2, aZ γ 1 8)]) rfl ?_
  refine g_aload 0 dX3_init_40 rfl rfl ?_
  refine g_aload 2 dX3_init_41 rfl rfl ?_
  refine g_putF 0 1 f0X3 iwX3 tyX3_ok nmX3 (by decide) w243 rfl rfl rfl rfl rfl rfl (Nat.le_of_ble_eq_true rfl) dX3_init_42 ?_
  refine g_ws (ws' := [(q, .inr (3, [.ref a, .ref b, .ref q1, .ref q2, .int (Int32.ofInt 0), .int (Int32.ofInt 0), .int (Int32.ofInt 0)])), (q1, aZ γ 1 8), (q2, aZ γ 1 8)]) rfl ?_
  exact g_vret (by decide) (by decide) rfl dX3_init_45 ⟨q1, q2, rfl⟩
theorem okI_X8 : okM mX8_init 0 := ⟨by decide, by decide, by decide, w277, w70, by decide, by decide +kernel⟩
set_option maxRecDepth 100000 in
theorem k_X8 : CtI 1 0 0 mX8_init 8 [] [.int (Int32.ofInt 0), .int (Int32.ofInt 0), .int (Int32.ofInt 0)] (fun γ q ws => ws = [(q, .inr (8, [.int (Int32.ofInt 0), .int (Int32.ofInt 0), .int (Int32.ofInt 0)]))]) := by
  refine ctI_of (by decide) rfl (fun q => Nat.le_of_ble_eq_true rfl) (fun D γ A q => ?_)
  refine (show Gj 1 0 0 mX8_init D γ A 0 [(0, .ref q)] [] [(q, .inr (8, [.int (Int32.ofInt 0), .int (Int32.ofInt 0), .int (Int32.ofInt 0)]))] 0 0 _ from ?_)
  refine g_aload 0 dX8_init_0 rfl rfl ?_
  refine g_obj w278 w83 w84 dX8_init_1 (by decide) ?_
  refine g_aload 0 dX8_init_4 rfl rfl ?_
  refine g_iconst dX8_init_5 ?_
  refine g_put 0 0 f0X8 iwX8 tyX8_ok nmX8 (by decide) w279 rfl rfl rfl rfl rfl (Nat.le_of_ble_eq_true rfl) dX8_init_6 ?_
  refine g_ws (ws' := [(q, .inr (8, [.int (Int32.ofInt 0), .int (Int32.ofInt 0), .int (Int32.ofInt 0)]))]) rfl ?_
  refine g_aload 0 dX8_init_9 rfl rfl ?_
  refine g_iconst dX8_init_10 ?_
  refine g_put 0 1 f0X8 iwX8 tyX8_ok nmX8 (by decide) w281 rfl rfl rfl rfl rfl (Nat.le_of_ble_eq_true rfl) dX8_init_11 ?_
  refine g_ws (ws' := [(q, .inr (8, [.int (Int32.ofInt 0), .int (Int32.ofInt 0), .int (Int32.ofInt 0)]))]) rfl ?_
  refine g_aload 0 dX8_init_14 rfl rfl ?_
  refine g_iconst dX8_init_15 ?_
  refine g_put 0 2 f0X8 iwX8 tyX8_ok nmX8 (by decide) w283 rfl rfl rfl rfl rfl (Nat.le_of_ble_eq_true rfl) dX8_init_16 ?_
  refine g_ws (ws' := [(q, .inr (8, [.int (Int32.ofInt 0), .int (Int32.ofInt 0), .int (Int32.ofInt 0)]))]) rfl ?_
  exact g_vret (by decide) (by decide) rfl dX8_init_19 rfl
theorem okI_X7 : okM mX7_init 2 := ⟨by decide, by decide, by decide, w271, w69, by decide, by decide +kernel⟩
set_option maxRecDepth 100000 in
theorem k_X7 (a : Nat) (b : Nat) : CtI 2 4 22 mX7_init 7 [.ref a, .ref b] [.null, .null, .null, .null, .null, .null, .int (Int32.ofInt 0), .int (Int32.ofInt 0), .int (Int32.ofInt 0), .int (Int32.ofInt 0)] (fun γ q ws => ∃ q1 q2 q3 q4, ws = [(q, .inr (7, [.ref a, .ref b, .ref q1, .ref q2, .ref q3, .ref q4, .int (Int32.ofInt 0), .int (Int32.ofInt 0), .int (Int32.ofInt 0), .int (Int32.ofInt 0)])), (q1, .inr (8, [.int (Int32.ofInt 0), .int (Int32.ofInt 0), .int (Int32.ofInt 0)])), (q2, .inr (8, [.int (Int32.ofInt 0), .int (Int32.ofInt 0), .int (Int32.ofInt 0)])), (q3, aZ γ 1 8), (q4, aZ γ 1 8)]) := by
  refine ctI_of (by decide) rfl (fun q => Nat.le_of_ble_eq_true rfl) (fun D γ A q => ?_)
  refine (show Gj 2 4 22 mX7_init D γ A 0 [(0, .ref q), (1, .ref a), (2, .ref b)] [] [(q, .inr (7, [.null, .null, .null, .null, .null, .null, .int (Int32.ofInt 0), .int (Int32.ofInt 0), .int (Int32.ofInt 0), .int (Int32.ofInt 0)]))] 0 0 _ from ?_)
  refine g_aload 0 dX7_init_0 rfl rfl ?_
  refine g_obj w272 w83 w84 dX7_init_1 (by decide) ?_
  refine g_aload 0 dX7_init_4 rfl rfl ?_
  refine g_new [.int (Int32.ofInt 0), .int (Int32.ofInt 0), .int (Int32.ofInt 0)] f0X8 iwX8 tyX8_ok w273 w274 w70 (fun j hj => by rcases (show j = 0 ∨ j = 1 ∨ j = 2 by omega) with rfl | rfl | rfl <;> rfl) (by decide) (by decide) dX7_init_5 (fun q1 => ?_)
  refine g_dup dX7_init_8 ?_
  refine (show Gj 2 4 22 mX7_init D γ A 9 [(0, .ref q), (1, .ref a), (2, .ref b)] ([].reverse ++ .ref q1 :: [.ref q1, .ref q]) ([(q, .inr (7, [.null, .null, .null, .null, .null, .null, .int (Int32.ofInt 0), .int (Int32.ofInt 0), .int (Int32.ofInt 0), .int (Int32.ofInt 0)]))] ++ [(q1, .inr (8, [.int (Int32.ofInt 0), .int (Int32.ofInt 0), .int (Int32.ofInt 0)]))]) 1 3 _ from ?_)
  refine g_callI (wr := [(q, .inr (7, [.null, .null, .null, .null, .null, .null, .int (Int32.ofInt 0), .int (Int32.ofInt 0), .int (Int32.ofInt 0), .int (Int32.ofInt 0)]))]) (as := []) (rest := [.ref q1, .ref q]) (q := q1) (k_X8) okI_X8 rfl rfl w276 w275 dX7_init_9 (by decide) rfl (Nat.le_of_ble_eq_true rfl) (by decide) (by decide) 1 rfl [0] rfl rfl (by decide) (by decide) ?_
  rintro _ ⟨rfl⟩
  refine g_ws (ws' := [(q, .inr (7, [.null, .null, .null, .null, .null, .null, .int (Int32.ofInt 0), .int (Int32.ofInt 0), .int (Int32.ofInt 0), .int (Int32.ofInt 0)])), (q1, .inr (8, [.int (Int32.ofInt 0), .int (Int32.ofInt 0), .int (Int32.ofInt 0)]))]) rfl ?_
  refine g_putF 0 2 f0X7 iwX7 tyX7_ok nmX7 (by decide) w294 rfl rfl rfl rfl rfl rfl (Nat.le_of_ble_eq_true rfl) dX7_init_12 ?_
  refine g_ws (ws' := [(q, .inr (7, [.null, .null, .ref q1, .null, .null, .null, .int (Int32.ofInt 0), .int (Int32.ofInt 0), .int (Int32.ofInt 0), .int (Int32.ofInt 0)])), (q1, .inr (8, [.int (Int32.ofInt 0), .int (Int32.ofInt 0), .int (Int32.ofInt 0)]))]) rfl ?_
  refine g_aload 0 dX7_init_15 rfl rfl ?_
  refine g_new [.int (Int32.ofInt 0), .int (Int32.ofInt 0), .int (Int32.ofInt 0)] f0X8 iwX8 tyX8_ok w273 w274 w70 (fun j hj => by rcases (show j = 0 ∨ j = 1 ∨ j = 2 by omega) with rfl | rfl | rfl <;> rfl) (by decide) (by decide) dX7_init_16 (fun q2 => ?_)
  refine g_dup dX7_init_19 ?_
  refine (show Gj 2 4 22 mX7_init D γ A 20 [(0, .ref q), (1, .ref a), (2, .ref b)] ([].reverse ++ .ref q2 :: [.ref q2, .ref q]) ([(q, .inr (7, [.null, .null, .ref q1, .null, .null, .null, .int (Int32.ofInt 0), .int (Int32.ofInt 0), .int (Int32.ofInt 0), .int (Int32.ofInt 0)])), (q1, .inr (8, [.int (Int32.ofInt 0), .int (Int32.ofInt 0), .int (Int32.ofInt 0)]))] ++ [(q2, .inr (8, [.int (Int32.ofInt 0), .int (Int32.ofInt 0), .int (Int32.ofInt 0)]))]) 2 6 _ from ?_)
  refine g_callI (wr := [(q, .inr (7, [.null, .null, .ref q1, .null, .null, .null, .int (Int32.ofInt 0), .int (Int32.ofInt 0), .int (Int32.ofInt 0), .int (Int32.ofInt 0)])), (q1, .inr (8, [.int (Int32.ofInt 0), .int (Int32.ofInt 0), .int (Int32.ofInt 0)]))]) (as := []) (rest := [.ref q2, .ref q]) (q := q2) (k_X8) okI_X8 rfl rfl w276 w275 dX7_init_20 (by decide) rfl (Nat.le_of_ble_eq_true rfl) (by decide) (by decide) 2 rfl [0, 1] rfl rfl (by decide) (by decide) ?_
  rintro _ ⟨rfl⟩
  refine g_ws (ws' := [(q, .inr (7, [.null, .null, .ref q1, .null, .null, .null, .int (Int32.ofInt 0), .int (Int32.ofInt 0), .int (Int32.ofInt 0), .int (Int32.ofInt 0)])), (q1, .inr (8, [.int (Int32.ofInt 0), .int (Int32.ofInt 0), .int (Int32.ofInt 0)])), (q2, .inr (8, [.int (Int32.ofInt 0), .int (Int32.ofInt 0), .int (Int32.ofInt 0)]))]) rfl ?_
  refine g_putF 0 3 f0X7 iwX7 tyX7_ok nmX7 (by decide) w295 rfl rfl rfl rfl rfl rfl (Nat.le_of_ble_eq_true rfl) dX7_init_23 ?_
  refine g_ws (ws' := [(q, .inr (7, [.null, .null, .ref q1, .ref q2, .null, .null, .int (Int32.ofInt 0), .int (Int32.ofInt 0), .int (Int32.ofInt 0), .int (Int32.ofInt 0)])), (q1, .inr (8, [.int (Int32.ofInt 0), .int (Int32.ofInt 0), .int (Int32.ofInt 0)])), (q2, .inr (8, [.int (Int32.ofInt 0), .int (Int32.ofInt 0), .int (Int32.ofInt 0)]))]) rfl ?_
  refine g_aload 0 dX7_init_26 rfl rfl ?_
  refine g_bipush dX7_init_27 (by decide) ?_
  refine g_newa (atype := .int) 1 0 8 rfl (fun _ _ h => h) rfl w96 (by decide) (by decide) (by decide) (by decide) (by decide) dX7_init_29 (fun q3 => ?_)
  refine g_putF 0 4 f0X7 iwX7 tyX7_ok nmX7 (by decide) w296 rfl rfl rfl rfl rfl rfl (Nat.le_of_ble_eq_true rfl) dX7_init_31 ?_
  refine g_ws (ws' := [(q, .inr (7, [.null, .null, .ref q1, .ref q2, .ref q3, .null, .int (Int32.ofInt 0), .int (Int32.ofInt 0), .int (Int32.ofInt 0), .int (Int32.ofInt 0)])), (q1, .inr (8, [.int (Int32.ofInt 0), .int (Int32.ofInt 0), .int (Int32.ofInt 0)])), (q2, .inr (8, [.int (Int32.ofInt 0), .int (Int32.ofInt 0), .int (Int32.ofInt 0)])), (q3, aZ γ 1 8)]) rfl ?_
  refine g_aload 0 dX7_init_34 rfl rfl ?_
  refine g_bipush dX7_init_35 (by decide) ?_
  refine g_newa (atype := .int) 1 0 8 rfl (fun _ _ h => h) rfl w96 (by decide) (by decide) (by decide) (by decide) (by decide) dX7_init_37 (fun q4 => ?_)
  refine g_putF 0 5 f0X7 iwX7 tyX7_ok nmX7 (by decide) w297 rfl rfl rfl rfl rfl rfl (Nat.le_of_ble_eq_true rfl) dX7_init_39 ?_
  refine g_ws (ws' := [(q, .inr (7, [.null, .null, .ref q1, .ref q2, .ref q3, .ref q4, .int (Int32.ofInt 0), .int (Int32.ofInt 0), .int (Int32.ofInt 0), .int (Int32.ofInt 0)])), (q1, .inr (8, [.int (Int32.ofInt 0), .int (Int32.ofInt 0), .int (Int32.ofInt 0)])), (q2, .inr (8, [.int (Int32.ofInt 0), .int (Int32.ofInt 0), .int (Int32.ofInt 0)])), (q3, aZ γ 1 8), (q4, aZ γ 1 8)]) rfl ?_
  refine g_aload 0 dX7_init_42 rfl rfl ?_
  refine g_iconst dX7_init_43 ?_
  refine g_put 0 6 f0X7 iwX7 tyX7_ok nmX7 (by decide) w298 rfl rfl rfl rfl rfl (Nat.le_of_ble_eq_true rfl) dX7_init_44 ?_
  refine g_ws (ws' := [(q, .inr (7, [.null, .null, .ref q1, .ref q2, .ref q3, .ref q4, .int (Int32.ofInt 0), .int (Int32.ofInt 0), .int (Int32.ofInt 0), .int (Int32.ofInt 0)])), (q1, .inr (8, [.int (Int32.ofInt 0), .int (Int32.ofInt 0), .int (Int32.ofInt 0)])), (q2, .inr (8, [.int (Int32.ofInt 0), .int (Int32.ofInt 0), .int (Int32.ofInt 0)])), (q3, aZ γ 1 8), (q4, aZ γ 1 8)]) rfl ?_
  refine g_aload 0 dX7_init_47 rfl rfl ?_
  refine g_iconst dX7_init_48 ?_
  refine g_put 0 7 f0X7 iwX7 tyX7_ok nmX7 (by decide) w300 rfl rfl rfl rfl rfl (Nat.le_of_ble_eq_true rfl) dX7_init_49 ?_
  refine g_ws (ws' := [(q, .inr (7, [.null, .null, .ref q1, .ref q2, .ref q3, .ref q4, .int (Int32.ofInt 0), .int (Int32.ofInt 0), .int (Int32.ofInt 0), .int (Int32.ofInt 0)])), (q1, .inr (8, [.int (Int32.ofInt 0), .int (Int32.ofInt 0), .int (Int32.ofInt 0)])), (q2, .inr (8, [.int (Int32.ofInt 0), .int (Int32.ofInt 0), .int (Int32.ofInt 0)])), (q3, aZ γ 1 8), (q4, aZ γ 1 8)]) rfl ?_
  refine g_aload 0 dX7_init_52 rfl rfl ?_
  refine g_iconst dX7_init_53 ?_
  refine g_put 0 8 f0X7 iwX7 tyX7_ok nmX7 (by decide) w302 rfl rfl rfl rfl rfl (Nat.le_of_ble_eq_true rfl) dX7_init_54 ?_
  refine g_ws (ws' := [(q, .inr (7, [.null, .null, .ref q1, .ref q2, .ref q3, .ref q4, .int (Int32.ofInt 0), .int (Int32.ofInt 0), .int (Int32.ofInt 0), .int (Int32.ofInt 0)])), (q1, .inr (8, [.int (Int32.ofInt 0), .int (Int32.ofInt 0), .int (Int32.ofInt 0)])), (q2, .inr (8, [.int (Int32.ofInt 0), .int (Int32.ofInt 0), .int (Int32.ofInt 0)])), (q3, aZ γ 1 8), (q4, aZ γ 1 8)]) rfl ?_
  refine g_aload 0 dX7_init_57 rfl rfl ?_
  refine g_iconst dX7_init_58 ?_
  refine g_put 0 9 f0X7 iwX7 tyX7_ok nmX7 (by decide) w304 rfl rfl rfl rfl rfl (Nat.le_of_ble_eq_true rfl) dX7_init_59 ?_
  refine g_ws (ws' := [(q, .inr (7, [.null, .null, .ref q1, .ref q2, .ref q3, .ref q4, .int (Int32.ofInt 0), .int (Int32.ofInt 0), .int (Int32.ofInt 0), .int (Int32.ofInt 0)])), (q1, .inr (8, [.int (Int32.ofInt 0), .int (Int32.ofInt 0), .int (Int32.ofInt 0)])), (q2, .inr (8, [.int (Int32.ofInt 0), .int (Int32.ofInt 0), .int (Int32.ofInt 0)])), (q3, aZ γ 1 8), (q4, aZ γ 1 8)]) rfl ?_
  refine g_aload 0 dX7_init_62 rfl rfl ?_
  refine g_aload 1 dX7_init_63 rfl rfl ?_
  refine g_putF 0 0 f0X7 iwX7 tyX7_ok nmX7 (by decide) w292 rfl rfl rfl rfl rfl rfl (Nat.le_of_ble_eq_true rfl) dX7_init_64 ?_
  refine g_ws (ws' := [(q, .inr (7, [.ref a, .null, .ref q1, .ref q2, .ref q3, .ref q4, .int (Int32.ofInt 0), .int (Int32.ofInt 0), .int (Int32.ofInt 0), .int (Int32.ofInt 0)])), (q1, .inr (8, [.int (Int32.ofInt 0), .int (Int32.ofInt 0), .int (Int32.ofInt 0)])), (q2, .inr (8, [.int (Int32.ofInt 0), .int (Int32.ofInt 0), .int (Int32.ofInt 0)])), (q3, aZ γ 1 8), (q4, aZ γ 1 8)]) rfl ?_
  refine g_aload 0 dX7_init_67 rfl rfl ?_
  refine g_aload 2 dX7_init_68 rfl rfl ?_
  refine g_putF 0 1 f0X7 iwX7 tyX7_ok nmX7 (by decide) w293 rfl rfl rfl rfl rfl rfl (Nat.le_of_ble_eq_true rfl) dX7_init_69 ?_
  refine g_ws (ws' := [(q, .inr (7, [.ref a, .ref b, .ref q1, .ref q2, .ref q3, .ref q4, .int (Int32.ofInt 0), .int (Int32.ofInt 0), .int (Int32.ofInt 0), .int (Int32.ofInt 0)])), (q1, .inr (8, [.int (Int32.ofInt 0), .int (Int32.ofInt 0), .int (Int32.ofInt 0)])), (q2, .inr (8, [.int (Int32.ofInt 0), .int (Int32.ofInt 0), .int (Int32.ofInt 0)])), (q3, aZ γ 1 8), (q4, aZ γ 1 8)]) rfl ?_
  exact g_vret (by decide) (by decide) rfl dX7_init_72 ⟨q1, q2, q3, q4, rfl⟩
theorem okI_X4 : okM mX4_init 2 := ⟨by decide, by decide, by decide, w331, w71, by decide, by decide +kernel⟩
set_option maxRecDepth 100000 in
theorem k_X4 (a : Nat) (b : Nat) : CtI 1 8 53 mX4_init 4 [.ref a, .ref b] [.null, .null, .null, .null, .null, .int (Int32.ofInt 0), .int (Int32.ofInt 0), .int (Int32.ofInt 0)] (fun γ q ws => ∃ q1 q2 q3, ws = [(q, .inr (4, [.ref a, .ref b, .ref q1, .ref q2, .ref q3, .int (Int32.ofInt 0), .int (Int32.ofInt 0), .int (Int32.ofInt 0)])), (q1, aQ γ 5 q1), (q1 + 1, aZ γ 1 8), (q1 + 2, aZ γ 1 8), (q1 + 3, aZ γ 1 8), (q1 + 4, aZ γ 1 8), (q1 + 5, aZ γ 1 8), (q2, aZ γ 1 4), (q3, aZ γ 1 4)]) := by
  refine ctI_of (by decide) rfl (fun q => Nat.le_of_ble_eq_true rfl) (fun D γ A q => ?_)
  refine (show Gj 1 8 53 mX4_init D γ A 0 [(0, .ref q), (1, .ref a), (2, .ref b)] [] [(q, .inr (4, [.null, .null, .null, .null, .null, .int (Int32.ofInt 0), .int (Int32.ofInt 0), .int (Int32.ofInt 0)]))] 0 0 _ from ?_)
  refine g_aload 0 dX4_init_0 rfl rfl ?_
  refine g_obj w332 w83 w84 dX4_init_1 (by decide) ?_
  refine g_aload 0 dX4_init_4 rfl rfl ?_
  refine g_iconst dX4_init_5 ?_
  refine g_bipush dX4_init_6 (by decide) ?_
  refine g_multi 5 8 w333 (by decide) (by decide) (by decide) (by decide) (by decide) (by decide) (by decide) (by decide) dX4_init_8 (fun q1 => ?_)
  refine g_ws (ws' := [(q, .inr (4, [.null, .null, .null, .null, .null, .int (Int32.ofInt 0), .int (Int32.ofInt 0), .int (Int32.ofInt 0)])), (q1, aQ γ 5 q1), (q1 + 1, aZ γ 1 8), (q1 + 2, aZ γ 1 8), (q1 + 3, aZ γ 1 8), (q1 + 4, aZ γ 1 8), (q1 + 5, aZ γ 1 8)]) rfl ?_
  refine g_putF 0 2 f0X4 iwX4 tyX4_ok nmX4 (by decide) w336 rfl rfl rfl rfl rfl rfl (Nat.le_of_ble_eq_true rfl) dX4_init_12 ?_
  refine g_ws (ws' := [(q, .inr (4, [.null, .null, .ref q1, .null, .null, .int (Int32.ofInt 0), .int (Int32.ofInt 0), .int (Int32.ofInt 0)])), (q1, aQ γ 5 q1), (q1 + 1, aZ γ 1 8), (q1 + 2, aZ γ 1 8), (q1 + 3, aZ γ 1 8), (q1 + 4, aZ γ 1 8), (q1 + 5, aZ γ 1 8)]) rfl ?_
  refine g_aload 0 dX4_init_15 rfl rfl ?_
  refine g_iconst dX4_init_16 ?_
  refine g_newa (atype := .int) 1 0 4 rfl (fun _ _ h => h) rfl w96 (by decide) (by decide) (by decide) (by decide) (by decide) dX4_init_17 (fun q2 => ?_)
  refine g_putF 0 3 f0X4 iwX4 tyX4_ok nmX4 (by decide) w337 rfl rfl rfl rfl rfl rfl (Nat.le_of_ble_eq_true rfl) dX4_init_19 ?_
  refine g_ws (ws' := [(q, .inr (4, [.null, .null, .ref q1, .ref q2, .null, .int (Int32.ofInt 0), .int (Int32.ofInt 0), .int (Int32.ofInt 0)])), (q1, aQ γ 5 q1), (q1 + 1, aZ γ 1 8), (q1 + 2, aZ γ 1 8), (q1 + 3, aZ γ 1 8), (q1 + 4, aZ γ 1 8), (q1 + 5, aZ γ 1 8), (q2, aZ γ 1 4)]) rfl ?_
  refine g_aload 0 dX4_init_22 rfl rfl ?_
  refine g_iconst dX4_init_23 ?_
  refine g_newa (atype := .int) 1 0 4 rfl (fun _ _ h => h) rfl w96 (by decide) (by decide) (by decide) (by decide) (by decide) dX4_init_24 (fun q3 => ?_)
  refine g_putF 0 4 f0X4 iwX4 tyX4_ok nmX4 (by decide) w338 rfl rfl rfl rfl rfl rfl (Nat.le_of_ble_eq_true rfl) dX4_init_26 ?_
  refine g_ws (ws' := [(q, .inr (4, [.null, .null, .ref q1, .ref q2, .ref q3, .int (Int32.ofInt 0), .int (Int32.ofInt 0), .int (Int32.ofInt 0)])), (q1, aQ γ 5 q1), (q1 + 1, aZ γ 1 8), (q1 + 2, aZ γ 1 8), (q1 + 3, aZ γ 1 8), (q1 + 4, aZ γ 1 8), (q1 + 5, aZ γ 1 8), (q2, aZ γ 1 4), (q3, aZ γ 1 4)]) rfl ?_
  refine g_aload 0 dX4_init_29 rfl rfl ?_
  refine g_iconst dX4_init_30 ?_
  refine g_put 0 5 f0X4 iwX4 tyX4_ok nmX4 (by decide) w340 rfl rfl rfl rfl rfl (Nat.le_of_ble_eq_true rfl) dX4_init_31 ?_
  refine g_ws (ws' := [(q, .inr (4, [.null, .null, .ref q1, .ref q2, .ref q3, .int (Int32.ofInt 0), .int (Int32.ofInt 0), .int (Int32.ofInt 0)])), (q1, aQ γ 5 q1), (q1 + 1, aZ γ 1 8), (q1 + 2, aZ γ 1 8), (q1 + 3, aZ γ 1 8), (q1 + 4, aZ γ 1 8), (q1 + 5, aZ γ 1 8), (q2, aZ γ 1 4), (q3, aZ γ 1 4)]) rfl ?_
  refine g_aload 0 dX4_init_34 rfl rfl ?_
  refine g_iconst dX4_init_35 ?_
  refine g_put 0 6 f0X4 iwX4 tyX4_ok nmX4 (by decide) w342 rfl rfl rfl rfl rfl (Nat.le_of_ble_eq_true rfl) dX4_init_36 ?_
  refine g_ws (ws' := [(q, .inr (4, [.null, .null, .ref q1, .ref q2, .ref q3, .int (Int32.ofInt 0), .int (Int32.ofInt 0), .int (Int32.ofInt 0)])), (q1, aQ γ 5 q1), (q1 + 1, aZ γ 1 8), (q1 + 2, aZ γ 1 8), (q1 + 3, aZ γ 1 8), (q1 + 4, aZ γ 1 8), (q1 + 5, aZ γ 1 8), (q2, aZ γ 1 4), (q3, aZ γ 1 4)]) rfl ?_
  refine g_aload 0 dX4_init_39 rfl rfl ?_
  refine g_iconst dX4_init_40 ?_
  refine g_put 0 7 f0X4 iwX4 tyX4_ok nmX4 (by decide) w343 rfl rfl rfl rfl rfl (Nat.le_of_ble_eq_true rfl) dX4_init_41 ?_
  refine g_ws (ws' := [(q, .inr (4, [.null, .null, .ref q1, .ref q2, .ref q3, .int (Int32.ofInt 0), .int (Int32.ofInt 0), .int (Int32.ofInt 0)])), (q1, aQ γ 5 q1), (q1 + 1, aZ γ 1 8), (q1 + 2, aZ γ 1 8), (q1 + 3, aZ γ 1 8), (q1 + 4, aZ γ 1 8), (q1 + 5, aZ γ 1 8), (q2, aZ γ 1 4), (q3, aZ γ 1 4)]) rfl ?_
  refine g_aload 0 dX4_init_44 rfl rfl ?_
  refine g_aload 1 dX4_init_45 rfl rfl ?_
  refine g_putF 0 0 f0X4 iwX4 tyX4_ok nmX4 (by decide) w334 rfl rfl rfl rfl rfl rfl (Nat.le_of_ble_eq_true rfl) dX4_init_46 ?_
  refine g_ws (ws' := [(q, .inr (4, [.ref a, .null, .ref q1, .ref q2, .ref q3, .int (Int32.ofInt 0), .int (Int32.ofInt 0), .int (Int32.ofInt 0)])), (q1, aQ γ 5 q1), (q1 + 1, aZ γ 1 8), (q1 + 2, aZ γ 1 8), (q1 + 3, aZ γ 1 8), (q1 + 4, aZ γ 1 8), (q1 + 5, aZ γ 1 8), (q2, aZ γ 1 4), (q3, aZ γ 1 4)]) rfl ?_
  refine g_aload 0 dX4_init_49 rfl rfl ?_
  refine g_aload 2 dX4_init_50 rfl rfl ?_
  refine g_putF 0 1 f0X4 iwX4 tyX4_ok nmX4 (by decide) w335 rfl rfl rfl rfl rfl rfl (Nat.le_of_ble_eq_true rfl) dX4_init_51 ?_
  refine g_ws (ws' := [(q, .inr (4, [.ref a, .ref b, .ref q1, .ref q2, .ref q3, .int (Int32.ofInt 0), .int (Int32.ofInt 0), .int (Int32.ofInt 0)])), (q1, aQ γ 5 q1), (q1 + 1, aZ γ 1 8), (q1 + 2, aZ γ 1 8), (q1 + 3, aZ γ 1 8), (q1 + 4, aZ γ 1 8), (q1 + 5, aZ γ 1 8), (q2, aZ γ 1 4), (q3, aZ γ 1 4)]) rfl ?_
  exact g_vret (by decide) (by decide) rfl dX4_init_54 ⟨q1, q2, q3, rfl⟩
theorem okI_X2 : okM mX2_init 2 := ⟨by decide, by decide, by decide, w365, w72, by decide, by decide +kernel⟩
set_option maxRecDepth 100000 in
theorem k_X2 (a : Nat) (b : Nat) : CtI 1 4 22 mX2_init 2 [.ref a, .ref b] [.null, .null, .null, .null, .null, .null, .int (Int32.ofInt 0), .int (Int32.ofInt 0), .int (Int32.ofInt 0), .int (Int32.ofInt 0)] (fun γ q ws => ∃ q1 q2 q3 q4, ws = [(q, .inr (2, [.ref a, .ref b, .ref q1, .ref q2, .ref q3, .ref q4, .int (Int32.ofInt 0), .int (Int32.ofInt 0), .int (Int32.ofInt 0), .int (Int32.ofInt 0)])), (q1, aZ γ 1 8), (q2, aZ γ 1 8), (q3, aZ γ 1 3), (q4, aZ γ 1 3)]) := by
  refine ctI_of (by decide) rfl (fun q => Nat.le_of_ble_eq_true rfl) (fun D γ A q => ?_)
  refine (show Gj 1 4 22 mX2_init D γ A 0 [(0, .ref q), (1, .ref a), (2, .ref b)] [] [(q, .inr (2, [.null, .null, .null, .null, .null, .null, .int (Int32.ofInt 0), .int (Int32.ofInt 0), .int (Int32.ofInt 0), .int (Int32.ofInt 0)]))] 0 0 _ from ?_)
  refine g_aload 0 dX2_init_0 rfl rfl ?_
  refine g_obj w366 w83 w84 dX2_init_1 (by decide) ?_
  refine g_aload 0 dX2_init_4 rfl rfl ?_
  refine g_bipush dX2_init_5 (by decide) ?_
  refine g_newa (atype := .int) 1 0 8 rfl (fun _ _ h => h) rfl w96 (by decide) (by decide) (by decide) (by decide) (by decide) dX2_init_7 (fun q1 => ?_)
  refine g_putF 0 2 f0X2 iwX2 tyX2_ok nmX2 (by decide) w369 rfl rfl rfl rfl rfl rfl (Nat.le_of_ble_eq_true rfl) dX2_init_9 ?_
  refine g_ws (ws' := [(q, .inr (2, [.null, .null, .ref q1, .null, .null, .null, .int (Int32.ofInt 0), .int (Int32.ofInt 0), .int (Int32.ofInt 0), .int (Int32.ofInt 0)])), (q1, aZ γ 1 8)]) rfl ?_
  refine g_aload 0 dX2_init_12 rfl rfl ?_
  refine g_bipush dX2_init_13 (by decide) ?_
  refine g_newa (atype := .int) 1 0 8 rfl (fun _ _ h => h) rfl w96 (by decide) (by decide) (by decide) (by decide) (by decide) dX2_init_15 (fun q2 => ?_)
  refine g_putF 0 3 f0X2 iwX2 tyX2_ok nmX2 (by decide) w370 rfl rfl rfl rfl rfl rfl (Nat.le_of_ble_eq_true rfl) dX2_init_17 ?_
  refine g_ws (ws' := [(q, .inr (2, [.null, .null, .ref q1, .ref q2, .null, .null, .int (Int32.ofInt 0), .int (Int32.ofInt 0), .int (Int32.ofInt 0), .int (Int32.ofInt 0)])), (q1, aZ γ 1 8), (q2, aZ γ 1 8)]) rfl ?_
  refine g_aload 0 dX2_init_20 rfl rfl ?_
  refine g_iconst dX2_init_21 ?_
  refine g_newa (atype := .int) 1 0 3 rfl (fun _ _ h => h) rfl w96 (by decide) (by decide) (by decide) (by decide) (by decide) dX2_init_22 (fun q3 => ?_)
  refine g_putF 0 4 f0X2 iwX2 tyX2_ok nmX2 (by decide) w371 rfl rfl rfl rfl rfl rfl (Nat.le_of_ble_eq_true rfl) dX2_init_24 ?_
  refine g_ws (ws' := [(q, .inr (2, [.null, .null, .ref q1, .ref q2, .ref q3, .null, .int (Int32.ofInt 0), .int (Int32.ofInt 0), .int (Int32.ofInt 0), .int (Int32.ofInt 0)])), (q1, aZ γ 1 8), (q2, aZ γ 1 8), (q3, aZ γ 1 3)]) rfl ?_
  refine g_aload 0 dX2_init_27 rfl rfl ?_
  refine g_iconst dX2_init_28 ?_
  refine g_newa (atype := .int) 1 0 3 rfl (fun _ _ h => h) rfl w96 (by decide) (by decide) (by decide) (by decide) (by decide) dX2_init_29 (fun q4 => ?_)
  refine g_putF 0 5 f0X2 iwX2 tyX2_ok nmX2 (by decide) w372 rfl rfl rfl rfl rfl rfl (Nat.le_of_ble_eq_true rfl) dX2_init_31 ?_
  refine g_ws (ws' := [(q, .inr (2, [.null, .null, .ref q1, .ref q2, .ref q3, .ref q4, .int (Int32.ofInt 0), .int (Int32.ofInt 0), .int (Int32.ofInt 0), .int (Int32.ofInt 0)])), (q1, aZ γ 1 8), (q2, aZ γ 1 8), (q3, aZ γ 1 3), (q4, aZ γ 1 3)]) rfl ?_
  refine g_aload 0 dX2_init_34 rfl rfl ?_
  refine g_iconst dX2_init_35 ?_
  refine g_put 0 6 f0X2 iwX2 tyX2_ok nmX2 (by decide) w374 rfl rfl rfl rfl rfl (Nat.le_of_ble_eq_true rfl) dX2_init_36 ?_
  refine g_ws (ws' := [(q, .inr (2, [.null, .null, .ref q1, .ref q2, .ref q3, .ref q4, .int (Int32.ofInt 0), .int (Int32.ofInt 0), .int (Int32.ofInt 0), .int (Int32.ofInt 0)])), (q1, aZ γ 1 8), (q2, aZ γ 1 8), (q3, aZ γ 1 3), (q4, aZ γ 1 3)]) rfl ?_
  refine g_aload 0 dX2_init_39 rfl rfl ?_
  refine g_iconst dX2_init_40 ?_
  refine g_put 0 7 f0X2 iwX2 tyX2_ok nmX2 (by decide) w376 rfl rfl rfl rfl rfl (Nat.le_of_ble_eq_true rfl) dX2_init_41 ?_
  refine g_ws (ws' := [(q, .inr (2, [.null, .null, .ref q1, .ref q2, .ref q3, .ref q4, .int (Int32.ofInt 0), .int (Int32.ofInt 0), .int (Int32.ofInt 0), .int (Int32.ofInt 0)])), (q1, aZ γ 1 8), (q2, aZ γ 1 8), (q3, aZ γ 1 3), (q4, aZ γ 1 3)]) rfl ?_
  refine g_aload 0 dX2_init_44 rfl rfl ?_
  refine g_iconst dX2_init_45 ?_
  refine g_put 0 8 f0X2 iwX2 tyX2_ok nmX2 (by decide) w377 rfl rfl rfl rfl rfl (Nat.le_of_ble_eq_true rfl) dX2_init_46 ?_
  refine g_ws (ws' := [(q, .inr (2, [.null, .null, .ref q1, .ref q2, .ref q3, .ref q4, .int (Int32.ofInt 0), .int (Int32.ofInt 0), .int (Int32.ofInt 0), .int (Int32.ofInt 0)])), (q1, aZ γ 1 8), (q2, aZ γ 1 8), (q3, aZ γ 1 3), (q4, aZ γ 1 3)]) rfl ?_
  refine g_aload 0 dX2_init_49 rfl rfl ?_
  refine g_iconst dX2_init_50 ?_
  refine g_put 0 9 f0X2 iwX2 tyX2_ok nmX2 (by decide) w378 rfl rfl rfl rfl rfl (Nat.le_of_ble_eq_true rfl) dX2_init_51 ?_
  refine g_ws (ws' := [(q, .inr (2, [.null, .null, .ref q1, .ref q2, .ref q3, .ref q4, .int (Int32.ofInt 0), .int (Int32.ofInt 0), .int (Int32.ofInt 0), .int (Int32.ofInt 0)])), (q1, aZ γ 1 8), (q2, aZ γ 1 8), (q3, aZ γ 1 3), (q4, aZ γ 1 3)]) rfl ?_
  refine g_aload 0 dX2_init_54 rfl rfl ?_
  refine g_aload 1 dX2_init_55 rfl rfl ?_
  refine g_putF 0 0 f0X2 iwX2 tyX2_ok nmX2 (by decide) w367 rfl rfl rfl rfl rfl rfl (Nat.le_of_ble_eq_true rfl) dX2_init_56 ?_
  refine g_ws (ws' := [(q, .inr (2, [.ref a, .null, .ref q1, .ref q2, .ref q3, .ref q4, .int (Int32.ofInt 0), .int (Int32.ofInt 0), .int (Int32.ofInt 0), .int (Int32.ofInt 0)])), (q1, aZ γ 1 8), (q2, aZ γ 1 8), (q3, aZ γ 1 3), (q4, aZ γ 1 3)]) rfl ?_
  refine g_aload 0 dX2_init_59 rfl rfl ?_
  refine g_aload 2 dX2_init_60 rfl rfl ?_
  refine g_putF 0 1 f0X2 iwX2 tyX2_ok nmX2 (by decide) w368 rfl rfl rfl rfl rfl rfl (Nat.le_of_ble_eq_true rfl) dX2_init_61 ?_
  refine g_ws (ws' := [(q, .inr (2, [.ref a, .ref b, .ref q1, .ref q2, .ref q3, .ref q4, .int (Int32.ofInt 0), .int (Int32.ofInt 0), .int (Int32.ofInt 0), .int (Int32.ofInt 0)])), (q1, aZ γ 1 8), (q2, aZ γ 1 8), (q3, aZ γ 1 3), (q4, aZ γ 1 3)]) rfl ?_
  exact g_vret (by decide) (by decide) rfl dX2_init_64 ⟨q1, q2, q3, q4, rfl⟩
theorem okI_X1 : okM mX1_init 2 := ⟨by decide, by decide, by decide, w404, w73, by decide, by decide +kernel⟩
set_option maxRecDepth 100000 in
theorem k_X1 (a : Nat) (b : Nat) : CtI 1 3 24 mX1_init 1 [.ref a, .ref b] [.null, .null, .null, .null, .null, .int (Int32.ofInt 0)] (fun γ q ws => ∃ q1 q2 q3, ws = [(q, .inr (1, [.ref a, .ref b, .ref q1, .ref q2, .ref q3, .int (Int32.ofInt 0)])), (q1, aZ γ 1 8), (q2, aZ γ 1 8), (q3, aZ γ 1 8)]) := by
  refine ctI_of (by decide) rfl (fun q => Nat.le_of_ble_eq_true rfl) (fun D γ A q => ?_)
  refine (show Gj 1 3 24 mX1_init D γ A 0 [(0, .ref q), (1, .ref a), (2, .ref b)] [] [(q, .inr (1, [.null, .null, .null, .null, .null, .int (Int32.ofInt 0)]))] 0 0 _ from ?_)
  refine g_aload 0 dX1_init_0 rfl rfl ?_
  refine g_obj w405 w83 w84 dX1_init_1 (by decide) ?_
  refine g_aload 0 dX1_init_4 rfl rfl ?_
  refine g_bipush dX1_init_5 (by decide) ?_
  refine g_newa (atype := .int) 1 0 8 rfl (fun _ _ h => h) rfl w96 (by decide) (by decide) (by decide) (by decide) (by decide) dX1_init_7 (fun q1 => ?_)
  refine g_putF 0 2 f0X1 iwX1 tyX1_ok nmX1 (by decide) w408 rfl rfl rfl rfl rfl rfl (Nat.le_of_ble_eq_true rfl) dX1_init_9 ?_
  refine g_ws (ws' := [(q, .inr (1, [.null, .null, .ref q1, .null, .null, .int (Int32.ofInt 0)])), (q1, aZ γ 1 8)]) rfl ?_
  refine g_aload 0 dX1_init_12 rfl rfl ?_
  refine g_bipush dX1_init_13 (by decide) ?_
  refine g_newa (atype := .int) 1 0 8 rfl (fun _ _ h => h) rfl w96 (by decide) (by decide) (by decide) (by decide) (by decide) dX1_init_15 (fun q2 => ?_)
  refine g_putF 0 3 f0X1 iwX1 tyX1_ok nmX1 (by decide) w409 rfl rfl rfl rfl rfl rfl (Nat.le_of_ble_eq_true rfl) dX1_init_17 ?_
  refine g_ws (ws' := [(q, .inr (1, [.null, .null, .ref q1, .ref q2, .null, .int (Int32.ofInt 0)])), (q1, aZ γ 1 8), (q2, aZ γ 1 8)]) rfl ?_
  refine g_aload 0 dX1_init_20 rfl rfl ?_
  refine g_bipush dX1_init_21 (by decide) ?_
  refine g_newa (atype := .int) 1 0 8 rfl (fun _ _ h => h) rfl w96 (by decide) (by decide) (by decide) (by decide) (by decide) dX1_init_23 (fun q3 => ?_)
  refine g_putF 0 4 f0X1 iwX1 tyX1_ok nmX1 (by decide) w410 rfl rfl rfl rfl rfl rfl (Nat.le_of_ble_eq_true rfl) dX1_init_25 ?_
  refine g_ws (ws' := [(q, .inr (1, [.null, .null, .ref q1, .ref q2, .ref q3, .int (Int32.ofInt 0)])), (q1, aZ γ 1 8), (q2, aZ γ 1 8), (q3, aZ γ 1 8)]) rfl ?_
  refine g_aload 0 dX1_init_28 rfl rfl ?_
  refine g_iconst dX1_init_29 ?_
  refine g_put 0 5 f0X1 iwX1 tyX1_ok nmX1 (by decide) w412 rfl rfl rfl rfl rfl (Nat.le_of_ble_eq_true rfl) dX1_init_30 ?_
  refine g_ws (ws' := [(q, .inr (1, [.null, .null, .ref q1, .ref q2, .ref q3, .int (Int32.ofInt 0)])), (q1, aZ γ 1 8), (q2, aZ γ 1 8), (q3, aZ γ 1 8)]) rfl ?_
  refine g_aload 0 dX1_init_33 rfl rfl ?_
  refine g_aload 1 dX1_init_34 rfl rfl ?_
  refine g_putF 0 0 f0X1 iwX1 tyX1_ok nmX1 (by decide) w406 rfl rfl rfl rfl rfl rfl (Nat.le_of_ble_eq_true rfl) dX1_init_35 ?_
  refine g_ws (ws' := [(q, .inr (1, [.ref a, .null, .ref q1, .ref q2, .ref q3, .int (Int32.ofInt 0)])), (q1, aZ γ 1 8), (q2, aZ γ 1 8), (q3, aZ γ 1 8)]) rfl ?_
  refine g_aload 0 dX1_init_38 rfl rfl ?_
  refine g_aload 2 dX1_init_39 rfl rfl ?_
  refine g_putF 0 1 f0X1 iwX1 tyX1_ok nmX1 (by decide) w407 rfl rfl rfl rfl rfl rfl (Nat.le_of_ble_eq_true rfl) dX1_init_40 ?_
  refine g_ws (ws' := [(q, .inr (1, [.ref a, .ref b, .ref q1, .ref q2, .ref q3, .int (Int32.ofInt 0)])), (q1, aZ γ 1 8), (q2, aZ γ 1 8), (q3, aZ γ 1 8)]) rfl ?_
  exact g_vret (by decide) (by decide) rfl dX1_init_43 ⟨q1, q2, q3, rfl⟩
