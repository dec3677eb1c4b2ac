set_option maxHeartbeats 1000000 in
set_option maxRecDepth 100000 in
theorem whole_start {p : Program} {e : Env} {s : State} {m : MethodId} {below : List Frame} {meth : Method} {c : Code} (l : Launch) (hflags : l.flags = flags0) {b L : Nat} {xs : Nat → Int32} (hL : L ≤ 2048) (C0 : lw_At p s m meth c b L xs) : W p l e room_1 s m #[Value.ref b] below meth c s.heap [] 0 0 (lw_Z below #[Value.ref b] s) (entryFrame m ([Value.ref b] : List Value).toArray 4) := by
  obtain ⟨hx, hb, hr, hml, hown, hts, hX, hbl, hlocks, hgv⟩ := id C0
  have hown : s.vm.findClass RL = some m.cls := hown
  have ht2 : ∀ w ∈ tb2, w.before #[Value.ref b] s = true := fun w hw => hts w (List.mem_filter.mp hw).1
  have hA : ∀ q : Nat, s.heap.size ≤ q → A0 s q := fun _ h => h
  obtain ⟨dD, γ, hK, hO⟩ := k_world hts ht2
  have hS : va_S (A0 s) s.heap s.heap [] := va_S.rf
  have hP : va_P dD vwCl [] s.heap := fun k q h => by simp at h
  have hD : va_D (A0 s) [] := ⟨fun i j p q h => by simp at h, fun k q h => by simp at h⟩
  have hl := lv_entry ([.ref b]) (n := 4) (Nat.le_of_ble_eq_true rfl)
  rw [lg_entry_eq]
  generalize (lg_sl ([.ref b]) ++ List.replicate (4 - (lg_sl ([.ref b])).length) Slot.unset).toArray = ls at hl ⊢
  have hl : lv_has ls 4 [(0, .ref b)] := hl
  refine va_new (ci := 10) (fs := [.null, .int (Int32.ofInt 0), .null, .null, .null, .null, .null, .int (Int32.ofInt 0), .null, .null, .null, .int (Int32.ofInt 0), .null, .null, .null, .null, .null, .null]) (C := RX10) (T := TX10) (N := 18) hx hb ht2 iwX10 tyX10 tyX10_ok hown (ht2 _ w77) (ht2 _ w78) (ht2 _ w63) hK hP hD hS hA rfl (fun j hj => match j, hj with | 0, _ => rfl | 1, _ => rfl | 2, _ => rfl | 3, _ => rfl | 4, _ => rfl | 5, _ => rfl | 6, _ => rfl | 7, _ => rfl | 8, _ => rfl | 9, _ => rfl | 10, _ => rfl | 11, _ => rfl | 12, _ => rfl | 13, _ => rfl | 14, _ => rfl | 15, _ => rfl | 16, _ => rfl | 17, _ => rfl | j + 18, h => absurd h (by omega)) (Nat.le_of_ble_eq_true rfl) (Nat.le_of_ble_eq_true rfl) dL_law_0 (fun q1 H hP hD hS => ?_)
  refine lv_dup hx hb dL_law_3 rfl ?_
  refine W_init (wr := []) hx hb hml hown ht2 hK hO hP hD hS hA (k_X10 (x_first (d := 2))) okI_X10 rfl rfl w80 w79 dL_law_4 hl.1 (Nat.le_of_ble_eq_true rfl) (Nat.le_of_ble_eq_true rfl) (Nat.le_of_ble_eq_true rfl) (Nat.le_of_ble_eq_true rfl) (Nat.le_of_ble_eq_true rfl) rfl ?_
  intro w1 H locs hps hP hD hS
  have hps : ∃ (σ : Nat → Nat) (h : HP), σ 0 = q1 ∧ (AgV (vx h) l1 ∧ cz h) ∧ w1 = wdl γ σ h KX := hps
  obtain ⟨σ, h, hs0, hzx, hw1⟩ := hps
  have hP : va_P dD vwCl w1 H := hP
  have hD : va_D (A0 s) w1 := hD
  rw [hw1] at hP hD
  rw [← hs0]
  refine lv_astore_n (lv' := [(1, .ref (σ 0)), (0, .ref b)]) hx hb dL_law_7 rfl hl (by decide) rfl (fun ls hl => ?_)
  refine va_new (ci := 11) (fs := [.int (Int32.ofInt 0), .null, .int (Int32.ofInt 0), .null, .null, .null, .null, .null, .null, .null, .null, .int (Int32.ofInt 0), .null, .null, .null, .int (Int32.ofInt 0), .null, .int (Int32.ofInt 0), .int (Int32.ofInt 0), .null, .null, .null, .null, .null, .null, .null, .null, .int (Int32.ofInt 0), .null, .int (Int32.ofInt 0)]) (C := RX11) (T := TX11) (N := 30) hx hb ht2 iwX11 tyX11 tyX11_ok hown (ht2 _ w811) (ht2 _ w812) (ht2 _ w76) hK hP hD hS hA rfl (fun j hj => match j, hj with | 0, _ => rfl | 1, _ => rfl | 2, _ => rfl | 3, _ => rfl | 4, _ => rfl | 5, _ => rfl | 6, _ => rfl | 7, _ => rfl | 8, _ => rfl | 9, _ => rfl | 10, _ => rfl | 11, _ => rfl | 12, _ => rfl | 13, _ => rfl | 14, _ => rfl | 15, _ => rfl | 16, _ => rfl | 17, _ => rfl | 18, _ => rfl | 19, _ => rfl | 20, _ => rfl | 21, _ => rfl | 22, _ => rfl | 23, _ => rfl | 24, _ => rfl | 25, _ => rfl | 26, _ => rfl | 27, _ => rfl | 28, _ => rfl | 29, _ => rfl | j + 30, h => absurd h (by omega)) (Nat.le_of_ble_eq_true rfl) (Nat.le_of_ble_eq_true rfl) dL_law_8 (fun q2 H hP hD hS => ?_)
  refine lv_dup hx hb dL_law_11 rfl ?_
  refine W_init (wr := wdl γ σ h KX) hx hb hml hown ht2 hK hO hP hD hS hA (k_X11 (m_first (d := 1))) okI_X11 rfl rfl w814 w813 dL_law_12 hl.1 (Nat.le_of_ble_eq_true rfl) (Nat.le_of_ble_eq_true rfl) (Nat.le_of_ble_eq_true rfl) (Nat.le_of_ble_eq_true rfl) (Nat.le_of_ble_eq_true rfl) (by rw [wdl_len]; decide) ?_
  intro w2 H locs hpm hP hD hS
  have hpm : ∃ (τ : Nat → Nat) (g : HP), τ 0 = q2 ∧ (AgV (vm g) l1 ∧ cm g) ∧ w2 = wdl γ τ g KM := hpm
  obtain ⟨τ, g, ht0, hzm, hw2⟩ := hpm
  rw [hw2] at hP hD
  rw [← ht0]
  exact ws_end hL C0 ht2 hK hzx.1 hzx.2 hzm.1 hzm.2 hP hD hS hl (Nat.le_of_ble_eq_true rfl) (Nat.le_of_ble_eq_true rfl)
