set_option maxHeartbeats 4000000 in
set_option maxRecDepth 100000 in
theorem cc_ByteRow_byteAt_out (l : Launch) (dC : Nat → ClassId) (dI : Nat → Nat → Nat) (ad : Nat → Nat) (ca : Nat → ClassId) (LA LE : List Nat) (sz : Nat) (d : CS) (p1 : Int32)  (r9 : Int32) (hj : jc_ByteRow_byteAt_out LA LE d p1 = some r9) : Met l y_Row_byteAt w_Row_byteAt ({ frames := 0, cells := 0, slots := 0, locals := 0 }) (va_Pc [.ref (ad 3), .int p1] (cPre dC dI ad ca LA LE sz d)) (va_Qi (fun (r : Int32) (u : CS) => r = r9 ∧ u = d) (cAt dC dI ad ca LA LE (va_A (cw ad ca LA LE d) sz)) (va_A (cw ad ca LA LE d) sz)) 0 0 (va_A (cw ad ca LA LE d) sz) := by
  refine Met.ofW (cc := prog_3_method_3_code) (maxL := 2) (ret := (some .int)) (by decide) rfl ?_
  intro p e s m args below meth c s₁ B hml hv
  obtain ⟨rfl, hsz, hP, hK, hD0, hN⟩ := hv
  have hx := B.exec
  have hb := B.bytes
  have hr := B.returns
  have hts0 := atoms_spec (ws := w_Row_byteAt) B.pre
  have hts : ∀ w ∈ gt, w.before _ s = true := fun w h => hts0 w (List.mem_cons_of_mem _ h)
  have hown : s.vm.findClass "CardMessageDesk$ByteRow" = some m.cls := findClass_of_methodNamed B.named
  have hlocks := B.notSynchronized
  subst hsz
  have hD := hD0.self (sz := s.heap.size)
  generalize hAe : va_A (cw ad ca LA LE d) s.heap.size = A at hD ⊢
  have hA : ∀ q : Nat, s.heap.size ≤ q → A q := fun q h => by rw [← hAe]; exact Or.inr h
  have hS : va_S A s.heap s.heap [] := va_S.rf
  have hl := lv_entry ([.ref (ad 3), .int p1]) (n := 2) (Nat.le_of_ble_eq_true rfl)
  rw [lg_entry_eq]
  generalize (lg_sl ([.ref (ad 3), .int p1]) ++ List.replicate (2 - (lg_sl ([.ref (ad 3), .int p1])).length) Slot.unset).toArray = ls at hl ⊢
  have hl : lv_has ls 2 [(0, .ref (ad 3)), (1, .int p1)] := hl
  unfold jc_ByteRow_byteAt_out at hj
  refine lv_iload_n hx hb d_Row_byteAt_0 rfl (lv_at hl 1 rfl) ?_
  refine lv_if_lt (tgt := 21) hx hb d_Row_byteAt_1 (by decide) (fun c_1 => ?_) (fun c_1 => ?_)
  · have hj := it_p hj c_1
    refine lv_iconst (v := (-1)) hx hb d_Row_byteAt_21 (by decide) ?_
    obtain rfl := Option.some.inj hj
    exact W.iret hx hb hr (fun t ht hW => ⟨⟨_, _, rfl, ⟨rfl, rfl⟩, by rw [ht]; exact hP, va_K.moved hW.alike hK, hD⟩, hS.F ht⟩) hS.2.2 d_Row_byteAt_22
  · have hj := it_n hj c_1
    refine lv_iload_n hx hb d_Row_byteAt_4 rfl (lv_at hl 1 rfl) ?_
    refine lv_aload_n hx hb d_Row_byteAt_5 rfl (lv_at hl 0 rfl) ?_
    refine va_get (D := (dC, dI)) (ci := 1) (v := .int (cg_outSize d)) (C := "CardMessageDesk$ByteRow") (T := T_Row) (N := 2) hx hb hts in_Row hown hK hP 3 rfl rfl 1 (by decide) (hts _ tw26) (fun _ h9 => h9) rfl d_Row_byteAt_6 ?_
    refine lv_icmp_ge (tgt := 21) hx hb d_Row_byteAt_9 (by decide) (fun c_2 => ?_) (fun c_2 => ?_)
    · have hj := it_p hj c_2
      refine lv_iconst (v := (-1)) hx hb d_Row_byteAt_21 (by decide) ?_
      obtain rfl := Option.some.inj hj
      exact W.iret hx hb hr (fun t ht hW => ⟨⟨_, _, rfl, ⟨rfl, rfl⟩, by rw [ht]; exact hP, va_K.moved hW.alike hK, hD⟩, hS.F ht⟩) hS.2.2 d_Row_byteAt_22
    · have hj := it_n hj c_2
      refine lv_aload_n hx hb d_Row_byteAt_12 rfl (lv_at hl 0 rfl) ?_
      refine va_get (D := (dC, dI)) (ci := 1) (v := .ref (ad 4)) (C := "CardMessageDesk$ByteRow") (T := T_Row) (N := 2) hx hb hts in_Row hown hK hP 3 rfl rfl 0 (by decide) (hts _ tw25) (fun _ h9 => h9) rfl d_Row_byteAt_13 ?_
      refine lv_iload_n hx hb d_Row_byteAt_16 rfl (lv_at hl 1 rfl) ?_
      obtain ⟨hi_3, hj⟩ := gd_some hj
      refine va_iald hx hb hK hP 4 1 rfl rfl hi_3 d_Row_byteAt_17 ?_
      refine lv_goto (tgt := 22) hx hb d_Row_byteAt_18 (by decide) ?_
      obtain rfl := Option.some.inj hj
      exact W.iret hx hb hr (fun t ht hW => ⟨⟨_, _, rfl, ⟨rfl, rfl⟩, by rw [ht]; exact hP, va_K.moved hW.alike hK, hD⟩, hS.F ht⟩) hS.2.2 d_Row_byteAt_22
set_option maxHeartbeats 4000000 in
set_option maxRecDepth 100000 in
theorem cc_D_reply (l : Launch) (dC : Nat → ClassId) (dI : Nat → Nat → Nat) (ad : Nat → Nat) (ca : Nat → ClassId) (LA LE : List Nat) (sz : Nat) (d : CS) (p1 : Int32)  (r9 : Int32) (hj : jc_D_reply LA LE d p1 = some r9) : Met l y_Dsk_reply w_Dsk_reply ({ frames := 1, cells := 0, slots := 0, locals := 21 }) (va_Pc [.ref (ad 0), .int p1] (cPre dC dI ad ca LA LE sz d)) (va_Qi (fun (r : Int32) (u : CS) => r = r9 ∧ u = d) (cAt dC dI ad ca LA LE (va_A (cw ad ca LA LE d) sz)) (va_A (cw ad ca LA LE d) sz)) 0 0 (va_A (cw ad ca LA LE d) sz) := by
  refine Met.ofW (cc := prog_1_method_5_code) (maxL := 2) (ret := (some .int)) (by decide) rfl ?_
  intro p e s m args below meth c s₁ B hml hv
  obtain ⟨rfl, hsz, hP, hK, hD0, hN⟩ := hv
  have hx := B.exec
  have hb := B.bytes
  have hr := B.returns
  have hts0 := atoms_spec (ws := w_Dsk_reply) B.pre
  have hts : ∀ w ∈ gt, w.before _ s = true := fun w h => hts0 w (List.mem_cons_of_mem _ h)
  have hown : s.vm.findClass "CardMessageDesk" = some m.cls := findClass_of_methodNamed B.named
  have hlocks := B.notSynchronized
  subst hsz
  have hD := hD0.self (sz := s.heap.size)
  generalize hAe : va_A (cw ad ca LA LE d) s.heap.size = A at hD ⊢
  have hA : ∀ q : Nat, s.heap.size ≤ q → A q := fun q h => by rw [← hAe]; exact Or.inr h
  have hS : va_S A s.heap s.heap [] := va_S.rf
  have hl := lv_entry ([.ref (ad 0), .int p1]) (n := 2) (Nat.le_of_ble_eq_true rfl)
  rw [lg_entry_eq]
  generalize (lg_sl ([.ref (ad 0), .int p1]) ++ List.replicate (2 - (lg_sl ([.ref (ad 0), .int p1])).length) Slot.unset).toArray = ls at hl ⊢
  have hl : lv_has ls 2 [(0, .ref (ad 0)), (1, .int p1)] := hl
  unfold jc_D_reply at hj
  refine lv_aload_n hx hb d_Dsk_reply_0 rfl (lv_at hl 0 rfl) ?_
  refine va_get (D := (dC, dI)) (ci := 7) (v := .ref (ad 3)) (C := "CardMessageDesk") (T := T_Dsk) (N := 7) hx hb hts in_Dsk hown hK hP 0 rfl rfl 1 (by decide) (hts _ tw198) (fun _ h9 => h9) rfl d_Dsk_reply_1 ?_
  refine lv_iload_n hx hb d_Dsk_reply_4 rfl (lv_at hl 1 rfl) ?_
  obtain ⟨v_1, hc_1, hj⟩ := bd_some hj
  have hF_1 := va_fr hD hS hA
  refine va_calli (va_runV (As := [.int p1]) (rest := []) ⟨hx, hb, hml, hown, hts⟩ (cc_ByteRow_byteAt_out l dC dI ad ca LA LE s.heap.size d p1  v_1 hc_1) (cwV 1 hts (gtV tw450 tw270 tw271 tw2 tw272) rfl rfl rfl (by decide +kernel) ⟨Nat.le_of_ble_eq_true rfl, Nat.le_of_ble_eq_true rfl⟩) ⟨cBl, va_recv hK hP (ci := 1) (q0 := 3) rfl rfl, fun U hU hW => ⟨rfl, cPr hP hK hD hN hU hW⟩⟩ rfl rfl hl.1 rfl (lv_room (Nat.le_of_ble_eq_true rfl)) d_Dsk_reply_5 ⟨Nat.zero_le _, Nat.zero_le _⟩) hS (fun q _ h => hF_1 q h) hF_1 (fun r u t H locs ht hvm hw hB hz1 hk1 hS => ?_)
  obtain ⟨hw1, hw2⟩ := hw
  have hw1 := hw1.symm
  subst hw1
  have hw2 := hw2.symm
  subst hw2
  obtain ⟨hP, hD⟩ := cAf hB ht hF_1
  obtain rfl := Option.some.inj hj
  exact W.iret hx hb hr (fun t ht hW => ⟨⟨_, _, rfl, ⟨rfl, rfl⟩, by rw [ht]; exact hP, va_K.moved hW.alike hK, hD⟩, hS.F ht⟩) hS.2.2 d_Dsk_reply_8
set_option maxHeartbeats 4000000 in
set_option maxRecDepth 100000 in
theorem cc_D_tick (l : Launch) (dC : Nat → ClassId) (dI : Nat → Nat → Nat) (ad : Nat → Nat) (ca : Nat → ClassId) (LA LE : List Nat) (sz : Nat) (d : CS) (p1 : Int32)  (r9 : Int32) (d9 : CS) (hj : jc_D_tick LA LE d p1 = some (r9, d9)) : Met l y_Dsk_tick w_Dsk_tick ({ frames := 0, cells := 0, slots := 0, locals := 0 }) (va_Pc [.ref (ad 0), .int p1] (cPre dC dI ad ca LA LE sz d)) (va_Qi (fun (r : Int32) (u : CS) => r = r9 ∧ u = d9) (cAt dC dI ad ca LA LE (va_A (cw ad ca LA LE d) sz)) (va_A (cw ad ca LA LE d) sz)) 0 0 (va_A (cw ad ca LA LE d) sz) := by
  refine Met.ofW (cc := prog_1_method_6_code) (maxL := 2) (ret := (some .boolean)) (by decide) rfl ?_
  intro p e s m args below meth c s₁ B hml hv
  obtain ⟨rfl, hsz, hP, hK, hD0, hN⟩ := hv
  have hx := B.exec
  have hb := B.bytes
  have hr := B.returns
  have hts0 := atoms_spec (ws := w_Dsk_tick) B.pre
  have hts : ∀ w ∈ gt, w.before _ s = true := fun w h => hts0 w (List.mem_cons_of_mem _ h)
  have hown : s.vm.findClass "CardMessageDesk" = some m.cls := findClass_of_methodNamed B.named
  have hlocks := B.notSynchronized
  subst hsz
  have hD := hD0.self (sz := s.heap.size)
  generalize hAe : va_A (cw ad ca LA LE d) s.heap.size = A at hD ⊢
  have hA : ∀ q : Nat, s.heap.size ≤ q → A q := fun q h => by rw [← hAe]; exact Or.inr h
  have hS : va_S A s.heap s.heap [] := va_S.rf
  have hl := lv_entry ([.ref (ad 0), .int p1]) (n := 2) (Nat.le_of_ble_eq_true rfl)
  rw [lg_entry_eq]
  generalize (lg_sl ([.ref (ad 0), .int p1]) ++ List.replicate (2 - (lg_sl ([.ref (ad 0), .int p1])).length) Slot.unset).toArray = ls at hl ⊢
  have hl : lv_has ls 2 [(0, .ref (ad 0)), (1, .int p1)] := hl
  unfold jc_D_tick at hj
  refine lv_iload_n hx hb d_Dsk_tick_0 rfl (lv_at hl 1 rfl) ?_
  refine lv_if_lt (tgt := 11) hx hb d_Dsk_tick_1 (by decide) (fun c_1 => ?_) (fun c_1 => ?_)
  · have hj := it_p hj c_1
    refine lv_iconst (v := 0) hx hb d_Dsk_tick_11 (by decide) ?_
    obtain ⟨rfl, rfl⟩ := rt_some hj
    exact W.zret (ty := .boolean) hx hb hr rfl (fun t ht hW => ⟨⟨_, _, rfl, ⟨rfl, rfl⟩, by rw [ht]; exact hP, va_K.moved hW.alike hK, hD⟩, hS.F ht⟩) hS.2.2 d_Dsk_tick_12
  · have hj := it_n hj c_1
    refine lv_iload_n hx hb d_Dsk_tick_4 rfl (lv_at hl 1 rfl) ?_
    refine lv_sipush (v := 1000) hx hb d_Dsk_tick_5 (by decide) ?_
    refine lv_icmp_le (tgt := 13) hx hb d_Dsk_tick_8 (by decide) (fun c_2 => ?_) (fun c_2 => ?_)
    · have hj := it_p hj c_2
      refine lv_aload_n hx hb d_Dsk_tick_13 rfl (lv_at hl 0 rfl) ?_
      refine va_get (D := (dC, dI)) (ci := 7) (v := .ref (ad 9)) (C := "CardMessageDesk") (T := T_Dsk) (N := 7) hx hb hts in_Dsk hown hK hP 0 rfl rfl 4 (by decide) (hts _ tw201) (fun _ h9 => h9) rfl d_Dsk_tick_14 ?_
      refine lv_dup hx hb d_Dsk_tick_17 rfl ?_
      refine va_getN (D := (dC, dI)) (ci := 4) (v := .long (cg_jTime d)) (C := "CardMessageDesk$Journal") (T := T_Jou) (N := 3) hx hb hts in_Jou hown hK hP 9 rfl rfl 2 (by decide) (nw_f hN (i := 34) rfl) (fun _ h9 => h9) rfl d_Dsk_tick_18 ?_
      refine lv_iload_n hx hb d_Dsk_tick_21 rfl (lv_at hl 1 rfl) ?_
      refine lv_i2l (v := (p1).toInt64) hx hb d_Dsk_tick_22 rfl ?_
      refine lv_ladd hx hb d_Dsk_tick_23 ?_
      obtain ⟨d_3, ed_3, hj⟩ := nm_some hj
      refine va_putN (D := (dC, dI)) (ci := 4) (v := .long ((cg_jTime d) + (p1).toInt64)) (ty := .long) (C := "CardMessageDesk$Journal") (T := T_Jou) (N := 3) hx hb hts in_Jou ty_Jou ty_Jou_ok nm_Jou hown hK hP hD hS 9 rfl rfl 2 (by decide) (nw_f hN (i := 34) rfl) (fun _ h9 => h9) rfl (by decide +kernel) rfl rfl (Nat.le_of_ble_eq_true rfl) d_Dsk_tick_24 (fun H locs hP hD hS => ?_)
      have hP : va_P (dC, dI) vwCl (cw ad ca LA LE d_3) H := by rw [ed_3]; exact hP
      have hD : va_D A (cw ad ca LA LE d_3) := by rw [ed_3]; exact hD
      refine lv_iconst (v := 1) hx hb d_Dsk_tick_27 (by decide) ?_
      obtain ⟨rfl, rfl⟩ := rt_some hj
      exact W.zret (ty := .boolean) hx hb hr rfl (fun t ht hW => ⟨⟨_, _, rfl, ⟨rfl, rfl⟩, by rw [ht]; exact hP, va_K.moved hW.alike hK, hD⟩, hS.F ht⟩) hS.2.2 d_Dsk_tick_28
    · have hj := it_n hj c_2
      refine lv_iconst (v := 0) hx hb d_Dsk_tick_11 (by decide) ?_
      obtain ⟨rfl, rfl⟩ := rt_some hj
      exact W.zret (ty := .boolean) hx hb hr rfl (fun t ht hW => ⟨⟨_, _, rfl, ⟨rfl, rfl⟩, by rw [ht]; exact hP, va_K.moved hW.alike hK, hD⟩, hS.F ht⟩) hS.2.2 d_Dsk_tick_12
set_option maxHeartbeats 4000000 in
set_option maxRecDepth 100000 in
theorem cc_D_balance (l : Launch) (dC : Nat → ClassId) (dI : Nat → Nat → Nat) (ad : Nat → Nat) (ca : Nat → ClassId) (LA LE : List Nat) (sz : Nat) (d : CS) (p1 : Int64)  (r9 : Int64) (hj : jc_D_balance LA LE d p1 = some r9) : Met l y_Dsk_balance w_Dsk_balance ({ frames := 1, cells := 0, slots := 0, locals := 23 }) (va_Pc [.ref (ad 0), .long p1] (cPre dC dI ad ca LA LE sz d)) (va_Ql (fun (r : Int64) (u : CS) => r = r9 ∧ u = d) (cAt dC dI ad ca LA LE (va_A (cw ad ca LA LE d) sz)) (va_A (cw ad ca LA LE d) sz)) 0 0 (va_A (cw ad ca LA LE d) sz) := by
  refine Met.ofW (cc := prog_1_method_7_code) (maxL := 4) (ret := (some .long)) (by decide) rfl ?_
  intro p e s m args below meth c s₁ B hml hv
  obtain ⟨rfl, hsz, hP, hK, hD0, hN⟩ := hv
  have hx := B.exec
  have hb := B.bytes
  have hr := B.returns
  have hts0 := atoms_spec (ws := w_Dsk_balance) B.pre
  have hts : ∀ w ∈ gt, w.before _ s = true := fun w h => hts0 w (List.mem_cons_of_mem _ h)
  have hown : s.vm.findClass "CardMessageDesk" = some m.cls := findClass_of_methodNamed B.named
  have hlocks := B.notSynchronized
  subst hsz
  have hD := hD0.self (sz := s.heap.size)
  generalize hAe : va_A (cw ad ca LA LE d) s.heap.size = A at hD ⊢
  have hA : ∀ q : Nat, s.heap.size ≤ q → A q := fun q h => by rw [← hAe]; exact Or.inr h
  have hS : va_S A s.heap s.heap [] := va_S.rf
  have hl := lv_entry ([.ref (ad 0), .long p1]) (n := 4) (Nat.le_of_ble_eq_true rfl)
  rw [lg_entry_eq]
  generalize (lg_sl ([.ref (ad 0), .long p1]) ++ List.replicate (4 - (lg_sl ([.ref (ad 0), .long p1])).length) Slot.unset).toArray = ls at hl ⊢
  have hl : lv_has ls 4 [(0, .ref (ad 0)), (1, .long p1)] := hl
  unfold jc_D_balance at hj
  refine lv_aload_n hx hb d_Dsk_balance_0 rfl (lv_at hl 0 rfl) ?_
  refine va_get (D := (dC, dI)) (ci := 7) (v := .ref (ad 7)) (C := "CardMessageDesk") (T := T_Dsk) (N := 7) hx hb hts in_Dsk hown hK hP 0 rfl rfl 3 (by decide) (hts _ tw200) (fun _ h9 => h9) rfl d_Dsk_balance_1 ?_
  refine lv_lload_n hx hb d_Dsk_balance_4 rfl (lv_at hl 1 rfl) ?_
  obtain ⟨v_1, hc_1, hj⟩ := bd_some hj
  have hF_1 := va_fr hD hS hA
  refine va_callq (va_runV (As := [.long p1]) (rest := []) ⟨hx, hb, hml, hown, hts⟩ (cc_Cards_find l dC dI ad ca LA LE s.heap.size d p1  v_1 hc_1) (cwV 1 hts (gtV tw366 tw230 tw231 tw5 tw232) rfl rfl rfl (by decide +kernel) ⟨Nat.le_of_ble_eq_true rfl, Nat.le_of_ble_eq_true rfl⟩) ⟨cBl, va_recv hK hP (ci := 2) (q0 := 7) rfl rfl, fun U hU hW => ⟨rfl, cPr hP hK hD hN hU hW⟩⟩ rfl rfl hl.1 rfl (lv_room (Nat.le_of_ble_eq_true rfl)) d_Dsk_balance_5 ⟨Nat.zero_le _, Nat.zero_le _⟩) hS (fun q _ h => hF_1 q h) hF_1 (fun r u t H locs ht hvm hw hB hz1 hk1 hS => ?_)
  obtain ⟨hw1, hw2⟩ := hw
  have hw1 := hw1.symm
  subst hw1
  have hw2 := hw2.symm
  subst hw2
  obtain ⟨hP, hD⟩ := cAf hB ht hF_1
  rcases oq_some hj with ⟨ho_1, hj⟩ | ⟨a_1, ho_1, hm_a_1, hj⟩
  · rw [ho_1]
    refine lv_astore_nN (lv' := [(3, .null), (0, .ref (ad 0)), (1, .long p1)]) hx hb d_Dsk_balance_8 rfl hl (by decide) rfl (fun ls hl => ?_)
    refine lv_aload_nN hx hb d_Dsk_balance_9 rfl (lv_at hl 0 rfl) ?_
    refine lv_ifnonnullN hx hb d_Dsk_balance_10 ?_
    refine lv_ldc2 (v := (-1099511627776)) hx hb hown (hts _ tw459) d_Dsk_balance_13 ?_
    refine lv_goto (tgt := 23) hx hb d_Dsk_balance_16 (by decide) ?_
    obtain rfl := Option.some.inj hj
    exact W.lret hx hb hr (fun t ht hW => ⟨⟨_, _, rfl, ⟨rfl, rfl⟩, by rw [ht]; exact hP, va_K.moved hW.alike hK, hD⟩, hS.F ht⟩) hS.2.2 d_Dsk_balance_23
  · rw [ho_1]
    refine lv_astore_n (lv' := [(3, .ref a_1), (0, .ref (ad 0)), (1, .long p1)]) hx hb d_Dsk_balance_8 rfl hl (by decide) rfl (fun ls hl => ?_)
    refine lv_aload_n hx hb d_Dsk_balance_9 rfl (lv_at hl 0 rfl) ?_
    refine lv_ifnonnull (tgt := 19) hx hb d_Dsk_balance_10 (by decide) ?_
    refine lv_aload_n hx hb d_Dsk_balance_19 rfl (lv_at hl 0 rfl) ?_
    obtain ⟨kx_2, hkx_2⟩ := acc_at (ad := ad) (ca := ca) (LA := LA) (LE := LE) (d := _) hm_a_1
    refine va_getN (D := (dC, dI)) (ci := 0) (v := .long (ca_bal (cg_acc d a_1))) (C := "CardMessageDesk$Account") (T := T_Acc) (N := 2) hx hb hts in_Acc hown hK hP kx_2 hkx_2 rfl 1 (by decide) (nw_f hN (i := 22) rfl) (fun _ h9 => h9) rfl d_Dsk_balance_20 ?_
    obtain rfl := Option.some.inj hj
    exact W.lret hx hb hr (fun t ht hW => ⟨⟨_, _, rfl, ⟨rfl, rfl⟩, by rw [ht]; exact hP, va_K.moved hW.alike hK, hD⟩, hS.F ht⟩) hS.2.2 d_Dsk_balance_23
set_option maxHeartbeats 4000000 in
set_option maxRecDepth 100000 in
theorem cc_D_available (l : Launch) (dC : Nat → ClassId) (dI : Nat → Nat → Nat) (ad : Nat → Nat) (ca : Nat → ClassId) (LA LE : List Nat) (sz : Nat) (d : CS) (p1 : Int64)  (r9 : Int64) (hj : jc_D_available LA LE d p1 = some r9) : Met l y_Dsk_available w_Dsk_available ({ frames := 2, cells := 0, slots := 0, locals := 46 }) (va_Pc [.ref (ad 0), .long p1] (cPre dC dI ad ca LA LE sz d)) (va_Ql (fun (r : Int64) (u : CS) => r = r9 ∧ u = d) (cAt dC dI ad ca LA LE (va_A (cw ad ca LA LE d) sz)) (va_A (cw ad ca LA LE d) sz)) 0 0 (va_A (cw ad ca LA LE d) sz) := by
  refine Met.ofW (cc := prog_1_method_8_code) (maxL := 4) (ret := (some .long)) (by decide) rfl ?_
  intro p e s m args below meth c s₁ B hml hv
  obtain ⟨rfl, hsz, hP, hK, hD0, hN⟩ := hv
  have hx := B.exec
  have hb := B.bytes
  have hr := B.returns
  have hts0 := atoms_spec (ws := w_Dsk_available) B.pre
  have hts : ∀ w ∈ gt, w.before _ s = true := fun w h => hts0 w (List.mem_cons_of_mem _ h)
  have hown : s.vm.findClass "CardMessageDesk" = some m.cls := findClass_of_methodNamed B.named
  have hlocks := B.notSynchronized
  subst hsz
  have hD := hD0.self (sz := s.heap.size)
  generalize hAe : va_A (cw ad ca LA LE d) s.heap.size = A at hD ⊢
  have hA : ∀ q : Nat, s.heap.size ≤ q → A q := fun q h => by rw [← hAe]; exact Or.inr h
  have hS : va_S A s.heap s.heap [] := va_S.rf
  have hl := lv_entry ([.ref (ad 0), .long p1]) (n := 4) (Nat.le_of_ble_eq_true rfl)
  rw [lg_entry_eq]
  generalize (lg_sl ([.ref (ad 0), .long p1]) ++ List.replicate (4 - (lg_sl ([.ref (ad 0), .long p1])).length) Slot.unset).toArray = ls at hl ⊢
  have hl : lv_has ls 4 [(0, .ref (ad 0)), (1, .long p1)] := hl
  unfold jc_D_available at hj
  refine lv_aload_n hx hb d_Dsk_available_0 rfl (lv_at hl 0 rfl) ?_
  refine va_get (D := (dC, dI)) (ci := 7) (v := .ref (ad 7)) (C := "CardMessageDesk") (T := T_Dsk) (N := 7) hx hb hts in_Dsk hown hK hP 0 rfl rfl 3 (by decide) (hts _ tw200) (fun _ h9 => h9) rfl d_Dsk_available_1 ?_
  refine lv_lload_n hx hb d_Dsk_available_4 rfl (lv_at hl 1 rfl) ?_
  obtain ⟨v_1, hc_1, hj⟩ := bd_some hj
  have hF_1 := va_fr hD hS hA
  refine va_callq (va_runV (As := [.long p1]) (rest := []) ⟨hx, hb, hml, hown, hts⟩ (cc_Cards_find l dC dI ad ca LA LE s.heap.size d p1  v_1 hc_1) (cwV 1 hts (gtV tw366 tw230 tw231 tw5 tw232) rfl rfl rfl (by decide +kernel) ⟨Nat.le_of_ble_eq_true rfl, Nat.le_of_ble_eq_true rfl⟩) ⟨cBl, va_recv hK hP (ci := 2) (q0 := 7) rfl rfl, fun U hU hW => ⟨rfl, cPr hP hK hD hN hU hW⟩⟩ rfl rfl hl.1 rfl (lv_room (Nat.le_of_ble_eq_true rfl)) d_Dsk_available_5 ⟨Nat.zero_le _, Nat.zero_le _⟩) hS (fun q _ h => hF_1 q h) hF_1 (fun r u t H locs ht hvm hw hB hz1 hk1 hS => ?_)
  obtain ⟨hw1, hw2⟩ := hw
  have hw1 := hw1.symm
  subst hw1
  have hw2 := hw2.symm
  subst hw2
  obtain ⟨hP, hD⟩ := cAf hB ht hF_1
  rcases oq_some hj with ⟨ho_1, hj⟩ | ⟨a_1, ho_1, hm_a_1, hj⟩
  · rw [ho_1]
    refine lv_astore_nN (lv' := [(3, .null), (0, .ref (ad 0)), (1, .long p1)]) hx hb d_Dsk_available_8 rfl hl (by decide) rfl (fun ls hl => ?_)
    refine lv_aload_nN hx hb d_Dsk_available_9 rfl (lv_at hl 0 rfl) ?_
    refine lv_ifnonnullN hx hb d_Dsk_available_10 ?_
    refine lv_ldc2 (v := (-1099511627776)) hx hb hown (hts _ tw459) d_Dsk_available_13 ?_
    refine lv_goto (tgt := 27) hx hb d_Dsk_available_16 (by decide) ?_
    obtain rfl := Option.some.inj hj
    exact W.lret hx hb hr (fun t ht hW => ⟨⟨_, _, rfl, ⟨rfl, rfl⟩, by rw [ht]; exact hP, va_K.moved hW.alike hK, hD⟩, hS.F ht⟩) hS.2.2 d_Dsk_available_27
  · rw [ho_1]
    refine lv_astore_n (lv' := [(3, .ref a_1), (0, .ref (ad 0)), (1, .long p1)]) hx hb d_Dsk_available_8 rfl hl (by decide) rfl (fun ls hl => ?_)
    refine lv_aload_n hx hb d_Dsk_available_9 rfl (lv_at hl 0 rfl) ?_
    refine lv_ifnonnull (tgt := 19) hx hb d_Dsk_available_10 (by decide) ?_
    refine lv_aload_n hx hb d_Dsk_available_19 rfl (lv_at hl 1 rfl) ?_
    refine va_get (D := (dC, dI)) (ci := 7) (v := .ref (ad 9)) (C := "CardMessageDesk") (T := T_Dsk) (N := 7) hx hb hts in_Dsk hown hK hP 0 rfl rfl 4 (by decide) (hts _ tw201) (fun _ h9 => h9) rfl d_Dsk_available_20 ?_
    refine lv_aload_n hx hb d_Dsk_available_23 rfl (lv_at hl 0 rfl) ?_
    obtain ⟨v_2, hc_2, hj⟩ := bd_some hj
    have hF_2 := va_fr hD hS hA
    refine va_calll (va_runV (As := [.ref a_1]) (rest := []) ⟨hx, hb, hml, hown, hts⟩ (cc_Journal_availableOn l dC dI ad ca LA LE H.size d a_1 hm_a_1 v_2 hc_2) (cwV 1 hts (gtV tw375 tw376 tw377 tw7 tw378) rfl rfl rfl (by decide +kernel) ⟨Nat.le_of_ble_eq_true rfl, Nat.le_of_ble_eq_true rfl⟩) ⟨cBl, va_recv hK hP (ci := 4) (q0 := 9) rfl rfl, fun U hU hW => ⟨rfl, cPr hP hK hD hN hU hW⟩⟩ rfl rfl hl.1 rfl (lv_room (Nat.le_of_ble_eq_true rfl)) d_Dsk_available_24 ⟨Nat.zero_le _, Nat.zero_le _⟩) hS (fun q _ h => hF_2 q h) hF_2 (fun r u t H locs ht hvm hw hB hz1 hk1 hS => ?_)
    obtain ⟨hw1, hw2⟩ := hw
    have hw1 := hw1.symm
    subst hw1
    have hw2 := hw2.symm
    subst hw2
    obtain ⟨hP, hD⟩ := cAf hB ht hF_2
    obtain rfl := Option.some.inj hj
    exact W.lret hx hb hr (fun t ht hW => ⟨⟨_, _, rfl, ⟨rfl, rfl⟩, by rw [ht]; exact hP, va_K.moved hW.alike hK, hD⟩, hS.F ht⟩) hS.2.2 d_Dsk_available_27
set_option maxHeartbeats 4000000 in
set_option maxRecDepth 100000 in
theorem cc_D_entries (l : Launch) (dC : Nat → ClassId) (dI : Nat → Nat → Nat) (ad : Nat → Nat) (ca : Nat → ClassId) (LA LE : List Nat) (sz : Nat) (d : CS)   (r9 : Int32) (hj : jc_D_entries LA LE d = some r9) : Met l y_Dsk_entries w_Dsk_entries ({ frames := 0, cells := 0, slots := 0, locals := 0 }) (va_Pc [.ref (ad 0)] (cPre dC dI ad ca LA LE sz d)) (va_Qi (fun (r : Int32) (u : CS) => r = r9 ∧ u = d) (cAt dC dI ad ca LA LE (va_A (cw ad ca LA LE d) sz)) (va_A (cw ad ca LA LE d) sz)) 0 0 (va_A (cw ad ca LA LE d) sz) := by
  refine Met.ofW (cc := prog_1_method_9_code) (maxL := 1) (ret := (some .int)) (by decide) rfl ?_
  intro p e s m args below meth c s₁ B hml hv
  obtain ⟨rfl, hsz, hP, hK, hD0, hN⟩ := hv
  have hx := B.exec
  have hb := B.bytes
  have hr := B.returns
  have hts0 := atoms_spec (ws := w_Dsk_entries) B.pre
  have hts : ∀ w ∈ gt, w.before _ s = true := fun w h => hts0 w (List.mem_cons_of_mem _ h)
  have hown : s.vm.findClass "CardMessageDesk" = some m.cls := findClass_of_methodNamed B.named
  have hlocks := B.notSynchronized
  subst hsz
  have hD := hD0.self (sz := s.heap.size)
  generalize hAe : va_A (cw ad ca LA LE d) s.heap.size = A at hD ⊢
  have hA : ∀ q : Nat, s.heap.size ≤ q → A q := fun q h => by rw [← hAe]; exact Or.inr h
  have hS : va_S A s.heap s.heap [] := va_S.rf
  have hl := lv_entry ([.ref (ad 0)]) (n := 1) (Nat.le_of_ble_eq_true rfl)
  rw [lg_entry_eq]
  generalize (lg_sl ([.ref (ad 0)]) ++ List.replicate (1 - (lg_sl ([.ref (ad 0)])).length) Slot.unset).toArray = ls at hl ⊢
  have hl : lv_has ls 1 [(0, .ref (ad 0))] := hl
  unfold jc_D_entries at hj
  refine lv_aload_n hx hb d_Dsk_entries_0 rfl (lv_at hl 0 rfl) ?_
  refine va_get (D := (dC, dI)) (ci := 7) (v := .ref (ad 9)) (C := "CardMessageDesk") (T := T_Dsk) (N := 7) hx hb hts in_Dsk hown hK hP 0 rfl rfl 4 (by decide) (hts _ tw201) (fun _ h9 => h9) rfl d_Dsk_entries_1 ?_
  refine va_getN (D := (dC, dI)) (ci := 4) (v := .int (cg_jSize d)) (C := "CardMessageDesk$Journal") (T := T_Jou) (N := 3) hx hb hts in_Jou hown hK hP 9 rfl rfl 1 (by decide) (nw_f hN (i := 33) rfl) (fun _ h9 => h9) rfl d_Dsk_entries_4 ?_
  obtain rfl := Option.some.inj hj
  exact W.iret hx hb hr (fun t ht hW => ⟨⟨_, _, rfl, ⟨rfl, rfl⟩, by rw [ht]; exact hP, va_K.moved hW.alike hK, hD⟩, hS.F ht⟩) hS.2.2 d_Dsk_entries_7
set_option maxHeartbeats 4000000 in
set_option maxRecDepth 100000 in
theorem cc_Journal_lineAt (l : Launch) (dC : Nat → ClassId) (dI : Nat → Nat → Nat) (ad : Nat → Nat) (ca : Nat → ClassId) (LA LE : List Nat) (sz : Nat) (d : CS) (p1 : Int32)  (r9 : Option Nat) (hj : jc_Journal_lineAt LA LE d p1 = some r9) : Met l y_Jou_lineAt w_Jou_lineAt ({ frames := 0, cells := 0, slots := 0, locals := 0 }) (va_Pc [.ref (ad 9), .int p1] (cPre dC dI ad ca LA LE sz d)) (va_Qq (fun (r : Option Nat) (u : CS) => r = r9 ∧ u = d) (cAt dC dI ad ca LA LE (va_A (cw ad ca LA LE d) sz)) (va_A (cw ad ca LA LE d) sz)) 0 0 (va_A (cw ad ca LA LE d) sz) := by
  refine Met.ofW (cc := prog_6_method_2_code) (maxL := 2) (ret := (some (.object "CardMessageDesk$Entry"))) (by decide) rfl ?_
  intro p e s m args below meth c s₁ B hml hv
  obtain ⟨rfl, hsz, hP, hK, hD0, hN⟩ := hv
  have hx := B.exec
  have hb := B.bytes
  have hr := B.returns
  have hts0 := atoms_spec (ws := w_Jou_lineAt) B.pre
  have hts : ∀ w ∈ gt, w.before _ s = true := fun w h => hts0 w (List.mem_cons_of_mem _ h)
  have hown : s.vm.findClass "CardMessageDesk$Journal" = some m.cls := findClass_of_methodNamed B.named
  have hlocks := B.notSynchronized
  subst hsz
  have hD := hD0.self (sz := s.heap.size)
  generalize hAe : va_A (cw ad ca LA LE d) s.heap.size = A at hD ⊢
  have hA : ∀ q : Nat, s.heap.size ≤ q → A q := fun q h => by rw [← hAe]; exact Or.inr h
  have hS : va_S A s.heap s.heap [] := va_S.rf
  have hl := lv_entry ([.ref (ad 9), .int p1]) (n := 2) (Nat.le_of_ble_eq_true rfl)
  rw [lg_entry_eq]
  generalize (lg_sl ([.ref (ad 9), .int p1]) ++ List.replicate (2 - (lg_sl ([.ref (ad 9), .int p1])).length) Slot.unset).toArray = ls at hl ⊢
  have hl : lv_has ls 2 [(0, .ref (ad 9)), (1, .int p1)] := hl
  unfold jc_Journal_lineAt at hj
  refine lv_iload_n hx hb d_Jou_lineAt_0 rfl (lv_at hl 1 rfl) ?_
  refine lv_if_lt (tgt := 21) hx hb d_Jou_lineAt_1 (by decide) (fun c_1 => ?_) (fun c_1 => ?_)
  · have hj := it_p hj c_1
    refine lv_null hx hb d_Jou_lineAt_21 ?_
    obtain rfl := Option.some.inj hj
    exact W.aret hx hb hr (Or.inl ⟨_, rfl⟩) (Or.inl rfl) (fun t ht hW => ⟨⟨none, _, rfl, ⟨rfl, rfl⟩, by rw [ht]; exact hP, va_K.moved hW.alike hK, hD⟩, hS.F ht⟩) hS.2.2 d_Jou_lineAt_22
  · have hj := it_n hj c_1
    refine lv_iload_n hx hb d_Jou_lineAt_4 rfl (lv_at hl 1 rfl) ?_
    refine lv_aload_n hx hb d_Jou_lineAt_5 rfl (lv_at hl 0 rfl) ?_
    refine va_get (D := (dC, dI)) (ci := 4) (v := .int (cg_jSize d)) (C := "CardMessageDesk$Journal") (T := T_Jou) (N := 3) hx hb hts in_Jou hown hK hP 9 rfl rfl 1 (by decide) (hts _ tw186) (fun _ h9 => h9) rfl d_Jou_lineAt_6 ?_
    refine lv_icmp_ge (tgt := 21) hx hb d_Jou_lineAt_9 (by decide) (fun c_2 => ?_) (fun c_2 => ?_)
    · have hj := it_p hj c_2
      refine lv_null hx hb d_Jou_lineAt_21 ?_
      obtain rfl := Option.some.inj hj
      exact W.aret hx hb hr (Or.inl ⟨_, rfl⟩) (Or.inl rfl) (fun t ht hW => ⟨⟨none, _, rfl, ⟨rfl, rfl⟩, by rw [ht]; exact hP, va_K.moved hW.alike hK, hD⟩, hS.F ht⟩) hS.2.2 d_Jou_lineAt_22
    · have hj := it_n hj c_2
      refine lv_aload_n hx hb d_Jou_lineAt_12 rfl (lv_at hl 0 rfl) ?_
      refine va_get (D := (dC, dI)) (ci := 4) (v := .ref (ad 10)) (C := "CardMessageDesk$Journal") (T := T_Jou) (N := 3) hx hb hts in_Jou hown hK hP 9 rfl rfl 0 (by decide) (hts _ tw185) (fun _ h9 => h9) rfl d_Jou_lineAt_13 ?_
      refine lv_iload_n hx hb d_Jou_lineAt_16 rfl (lv_at hl 1 rfl) ?_
      obtain ⟨hi_3, hj⟩ := gd_some hj
      refine va_aldq hx hb hK hP 10 3 rfl rfl hi_3 d_Jou_lineAt_17 ?_
      obtain ⟨a_3, ho_3, hm_a_3, hj⟩ := gq_some hj
      rw [ho_3]
      refine lv_goto (tgt := 22) hx hb d_Jou_lineAt_18 (by decide) ?_
      obtain rfl := Option.some.inj hj
      exact W.aret hx hb hr (Or.inl ⟨_, rfl⟩) (Or.inr ⟨_, rfl⟩) (fun t ht hW => ⟨⟨some _, _, rfl, ⟨rfl, rfl⟩, by rw [ht]; exact hP, va_K.moved hW.alike hK, hD⟩, hS.F ht⟩) hS.2.2 d_Jou_lineAt_22
set_option maxHeartbeats 4000000 in
set_option maxRecDepth 100000 in
theorem cc_Entry_stateAt (l : Launch) (dC : Nat → ClassId) (dI : Nat → Nat → Nat) (ad : Nat → Nat) (ca : Nat → ClassId) (LA LE : List Nat) (sz : Nat) (d : CS) (a0 : Nat) (p1 : Int64) (hm_a0 : a0 ∈ LE) (r9 : Int32) (hj : jc_Entry_stateAt LA LE d a0 p1 = some r9) : Met l y_Ent_stateAt w_Ent_stateAt ({ frames := 1, cells := 0, slots := 0, locals := 22 }) (va_Pc [.ref a0, .long p1] (cPre dC dI ad ca LA LE sz d)) (va_Qi (fun (r : Int32) (u : CS) => r = r9 ∧ u = d) (cAt dC dI ad ca LA LE (va_A (cw ad ca LA LE d) sz)) (va_A (cw ad ca LA LE d) sz)) 0 0 (va_A (cw ad ca LA LE d) sz) := by
  refine Met.ofW (cc := prog_5_method_4_code) (maxL := 3) (ret := (some .int)) (by decide) rfl ?_
  intro p e s m args below meth c s₁ B hml hv
  obtain ⟨rfl, hsz, hP, hK, hD0, hN⟩ := hv
  have hx := B.exec
  have hb := B.bytes
  have hr := B.returns
  have hts0 := atoms_spec (ws := w_Ent_stateAt) B.pre
  have hts : ∀ w ∈ gt, w.before _ s = true := fun w h => hts0 w (List.mem_cons_of_mem _ h)
  have hown : s.vm.findClass "CardMessageDesk$Entry" = some m.cls := findClass_of_methodNamed B.named
  have hlocks := B.notSynchronized
  subst hsz
  have hD := hD0.self (sz := s.heap.size)
  generalize hAe : va_A (cw ad ca LA LE d) s.heap.size = A at hD ⊢
  have hA : ∀ q : Nat, s.heap.size ≤ q → A q := fun q h => by rw [← hAe]; exact Or.inr h
  have hS : va_S A s.heap s.heap [] := va_S.rf
  have hl := lv_entry ([.ref a0, .long p1]) (n := 3) (Nat.le_of_ble_eq_true rfl)
  rw [lg_entry_eq]
  generalize (lg_sl ([.ref a0, .long p1]) ++ List.replicate (3 - (lg_sl ([.ref a0, .long p1])).length) Slot.unset).toArray = ls at hl ⊢
  have hl : lv_has ls 3 [(0, .ref a0), (1, .long p1)] := hl
  unfold jc_Entry_stateAt at hj
  refine lv_aload_n hx hb d_Ent_stateAt_0 rfl (lv_at hl 0 rfl) ?_
  obtain ⟨kx_1, hkx_1⟩ := ent_at (ad := ad) (ca := ca) (LA := LA) (LE := LE) (d := _) hm_a0
  refine va_get (D := (dC, dI)) (ci := 3) (v := .int (ce_state (cg_ent d a0))) (C := "CardMessageDesk$Entry") (T := T_Ent) (N := 9) hx hb hts in_Ent hown hK hP kx_1 hkx_1 rfl 7 (by decide) (hts _ tw163) (fun _ h9 => h9) rfl d_Ent_stateAt_1 ?_
  refine lv_iconst (v := 1) hx hb d_Ent_stateAt_4 (by decide) ?_
  refine lv_icmp_ne (tgt := 20) hx hb d_Ent_stateAt_5 (by decide) (fun c_2 => ?_) (fun c_2 => ?_)
  · have hj := it_n hj c_2
    refine lv_aload_n hx hb d_Ent_stateAt_20 rfl (lv_at hl 0 rfl) ?_
    obtain ⟨kx_3, hkx_3⟩ := ent_at (ad := ad) (ca := ca) (LA := LA) (LE := LE) (d := _) hm_a0
    refine va_get (D := (dC, dI)) (ci := 3) (v := .int (ce_state (cg_ent d a0))) (C := "CardMessageDesk$Entry") (T := T_Ent) (N := 9) hx hb hts in_Ent hown hK hP kx_3 hkx_3 rfl 7 (by decide) (hts _ tw163) (fun _ h9 => h9) rfl d_Ent_stateAt_21 ?_
    obtain rfl := Option.some.inj hj
    exact W.iret hx hb hr (fun t ht hW => ⟨⟨_, _, rfl, ⟨rfl, rfl⟩, by rw [ht]; exact hP, va_K.moved hW.alike hK, hD⟩, hS.F ht⟩) hS.2.2 d_Ent_stateAt_24
  · have hj := it_p hj c_2
    refine lv_aload_n hx hb d_Ent_stateAt_8 rfl (lv_at hl 0 rfl) ?_
    refine lv_lload_n hx hb d_Ent_stateAt_9 rfl (lv_at hl 1 rfl) ?_
    obtain ⟨v_4, hc_4, hj⟩ := bd_some hj
    have hF_4 := va_fr hD hS hA
    obtain ⟨kx_4, hkx_4⟩ := ent_at (ad := ad) (ca := ca) (LA := LA) (LE := LE) (d := d) hm_a0
    refine va_calli (va_runV (As := [.long p1]) (rest := []) ⟨hx, hb, hml, hown, hts⟩ (cc_Entry_isHoldAt l dC dI ad ca LA LE s.heap.size d a0 p1 hm_a0 v_4 hc_4) (cwV 1 hts (gtV tw480 tw362 tw363 tw8 tw364) rfl rfl rfl (by decide +kernel) ⟨Nat.le_of_ble_eq_true rfl, Nat.le_of_ble_eq_true rfl⟩) ⟨cBl, va_recv hK hP (ci := 3) (q0 := kx_4) rfl hkx_4, fun U hU hW => ⟨rfl, cPr hP hK hD hN hU hW⟩⟩ rfl rfl hl.1 rfl (lv_room (Nat.le_of_ble_eq_true rfl)) d_Ent_stateAt_10 ⟨Nat.zero_le _, Nat.zero_le _⟩) hS (fun q _ h => hF_4 q h) hF_4 (fun r u t H locs ht hvm hw hB hz1 hk1 hS => ?_)
    obtain ⟨hw1, hw2⟩ := hw
    have hw1 := hw1.symm
    subst hw1
    have hw2 := hw2.symm
    subst hw2
    obtain ⟨hP, hD⟩ := cAf hB ht hF_4
    refine lv_if_ne (tgt := 20) hx hb d_Ent_stateAt_13 (by decide) (fun c_5 => ?_) (fun c_5 => ?_)
    · have hj := it_n hj c_5
      refine lv_aload_n hx hb d_Ent_stateAt_20 rfl (lv_at hl 0 rfl) ?_
      obtain ⟨kx_6, hkx_6⟩ := ent_at (ad := ad) (ca := ca) (LA := LA) (LE := LE) (d := _) hm_a0
      refine va_get (D := (dC, dI)) (ci := 3) (v := .int (ce_state (cg_ent d a0))) (C := "CardMessageDesk$Entry") (T := T_Ent) (N := 9) hx hb hts in_Ent hown hK hP kx_6 hkx_6 rfl 7 (by decide) (hts _ tw163) (fun _ h9 => h9) rfl d_Ent_stateAt_21 ?_
      obtain rfl := Option.some.inj hj
      exact W.iret hx hb hr (fun t ht hW => ⟨⟨_, _, rfl, ⟨rfl, rfl⟩, by rw [ht]; exact hP, va_K.moved hW.alike hK, hD⟩, hS.F ht⟩) hS.2.2 d_Ent_stateAt_24
    · have hj := it_p hj c_5
      refine lv_iconst (v := 0) hx hb d_Ent_stateAt_16 (by decide) ?_
      refine lv_goto (tgt := 24) hx hb d_Ent_stateAt_17 (by decide) ?_
      obtain rfl := Option.some.inj hj
      exact W.iret hx hb hr (fun t ht hW => ⟨⟨_, _, rfl, ⟨rfl, rfl⟩, by rw [ht]; exact hP, va_K.moved hW.alike hK, hD⟩, hS.F ht⟩) hS.2.2 d_Ent_stateAt_24
set_option maxHeartbeats 4000000 in
set_option maxRecDepth 100000 in
theorem cc_D_entry (l : Launch) (dC : Nat → ClassId) (dI : Nat → Nat → Nat) (ad : Nat → Nat) (ca : Nat → ClassId) (LA LE : List Nat) (sz : Nat) (d : CS) (p1 : Int32) (p2 : Int32)  (r9 : Int32) (hj : jc_D_entry LA LE d p1 p2 = some r9) : Met l y_Dsk_entry w_Dsk_entry ({ frames := 2, cells := 0, slots := 0, locals := 44 }) (va_Pc [.ref (ad 0), .int p1, .int p2] (cPre dC dI ad ca LA LE sz d)) (va_Qi (fun (r : Int32) (u : CS) => r = r9 ∧ u = d) (cAt dC dI ad ca LA LE (va_A (cw ad ca LA LE d) sz)) (va_A (cw ad ca LA LE d) sz)) 0 0 (va_A (cw ad ca LA LE d) sz) := by
  refine Met.ofW (cc := prog_1_method_10_code) (maxL := 4) (ret := (some .int)) (by decide) rfl ?_
  intro p e s m args below meth c s₁ B hml hv
  obtain ⟨rfl, hsz, hP, hK, hD0, hN⟩ := hv
  have hx := B.exec
  have hb := B.bytes
  have hr := B.returns
  have hts0 := atoms_spec (ws := w_Dsk_entry) B.pre
  have hts : ∀ w ∈ gt, w.before _ s = true := fun w h => hts0 w (List.mem_cons_of_mem _ h)
  have hown : s.vm.findClass "CardMessageDesk" = some m.cls := findClass_of_methodNamed B.named
  have hlocks := B.notSynchronized
  subst hsz
  have hD := hD0.self (sz := s.heap.size)
  generalize hAe : va_A (cw ad ca LA LE d) s.heap.size = A at hD ⊢
  have hA : ∀ q : Nat, s.heap.size ≤ q → A q := fun q h => by rw [← hAe]; exact Or.inr h
  have hS : va_S A s.heap s.heap [] := va_S.rf
  have hl := lv_entry ([.ref (ad 0), .int p1, .int p2]) (n := 4) (Nat.le_of_ble_eq_true rfl)
  rw [lg_entry_eq]
  generalize (lg_sl ([.ref (ad 0), .int p1, .int p2]) ++ List.replicate (4 - (lg_sl ([.ref (ad 0), .int p1, .int p2])).length) Slot.unset).toArray = ls at hl ⊢
  have hl : lv_has ls 4 [(0, .ref (ad 0)), (1, .int p1), (2, .int p2)] := hl
  unfold jc_D_entry at hj
  refine lv_aload_n hx hb d_Dsk_entry_0 rfl (lv_at hl 0 rfl) ?_
  refine va_get (D := (dC, dI)) (ci := 7) (v := .ref (ad 9)) (C := "CardMessageDesk") (T := T_Dsk) (N := 7) hx hb hts in_Dsk hown hK hP 0 rfl rfl 4 (by decide) (hts _ tw201) (fun _ h9 => h9) rfl d_Dsk_entry_1 ?_
  refine lv_iload_n hx hb d_Dsk_entry_4 rfl (lv_at hl 1 rfl) ?_
  obtain ⟨v_1, hc_1, hj⟩ := bd_some hj
  have hF_1 := va_fr hD hS hA
  refine va_callq (va_runV (As := [.int p1]) (rest := []) ⟨hx, hb, hml, hown, hts⟩ (cc_Journal_lineAt l dC dI ad ca LA LE s.heap.size d p1  v_1 hc_1) (cwV 1 hts (gtV tw472 tw473 tw474 tw7 tw475) rfl rfl rfl (by decide +kernel) ⟨Nat.le_of_ble_eq_true rfl, Nat.le_of_ble_eq_true rfl⟩) ⟨cBl, va_recv hK hP (ci := 4) (q0 := 9) rfl rfl, fun U hU hW => ⟨rfl, cPr hP hK hD hN hU hW⟩⟩ rfl rfl hl.1 rfl (lv_room (Nat.le_of_ble_eq_true rfl)) d_Dsk_entry_5 ⟨Nat.zero_le _, Nat.zero_le _⟩) hS (fun q _ h => hF_1 q h) hF_1 (fun r u t H locs ht hvm hw hB hz1 hk1 hS => ?_)
  obtain ⟨hw1, hw2⟩ := hw
  have hw1 := hw1.symm
  subst hw1
  have hw2 := hw2.symm
  subst hw2
  obtain ⟨hP, hD⟩ := cAf hB ht hF_1
  rcases oq_some hj with ⟨ho_1, hj⟩ | ⟨a_1, ho_1, hm_a_1, hj⟩
  · rw [ho_1]
    refine lv_astore_nN (lv' := [(3, .null), (0, .ref (ad 0)), (1, .int p1), (2, .int p2)]) hx hb d_Dsk_entry_8 rfl hl (by decide) rfl (fun ls hl => ?_)
    refine lv_aload_nN hx hb d_Dsk_entry_9 rfl (lv_at hl 0 rfl) ?_
    refine lv_ifnonnullN hx hb d_Dsk_entry_10 ?_
    refine lv_iconst (v := (-1)) hx hb d_Dsk_entry_13 (by decide) ?_
    obtain rfl := Option.some.inj hj
    exact W.iret hx hb hr (fun t ht hW => ⟨⟨_, _, rfl, ⟨rfl, rfl⟩, by rw [ht]; exact hP, va_K.moved hW.alike hK, hD⟩, hS.F ht⟩) hS.2.2 d_Dsk_entry_14
  · rw [ho_1]
    refine lv_astore_n (lv' := [(3, .ref a_1), (0, .ref (ad 0)), (1, .int p1), (2, .int p2)]) hx hb d_Dsk_entry_8 rfl hl (by decide) rfl (fun ls hl => ?_)
    refine lv_aload_n hx hb d_Dsk_entry_9 rfl (lv_at hl 0 rfl) ?_
    refine lv_ifnonnull (tgt := 15) hx hb d_Dsk_entry_10 (by decide) ?_
    refine lv_iload_n hx hb d_Dsk_entry_15 rfl (lv_at hl 3 rfl) ?_
    by_cases c_2 : p2 = 0
    · have hj := it_p hj c_2
      refine lv_tableIn (tgt := 48) (off := 32) hx hb d_Dsk_entry_16 (by rw [c_2]; decide) (by rw [c_2]; decide) (by rw [c_2]; first | done | rfl | decide) (by decide) ?_
      refine lv_aload_n hx hb d_Dsk_entry_48 rfl (lv_at hl 0 rfl) ?_
      obtain ⟨kx_3, hkx_3⟩ := ent_at (ad := ad) (ca := ca) (LA := LA) (LE := LE) (d := _) hm_a_1
      refine va_getN (D := (dC, dI)) (ci := 3) (v := .int (ce_type (cg_ent d a_1))) (C := "CardMessageDesk$Entry") (T := T_Ent) (N := 9) hx hb hts in_Ent hown hK hP kx_3 hkx_3 rfl 0 (by decide) (nw_f hN (i := 24) rfl) (fun _ h9 => h9) rfl d_Dsk_entry_49 ?_
      obtain rfl := Option.some.inj hj
      exact W.iret hx hb hr (fun t ht hW => ⟨⟨_, _, rfl, ⟨rfl, rfl⟩, by rw [ht]; exact hP, va_K.moved hW.alike hK, hD⟩, hS.F ht⟩) hS.2.2 d_Dsk_entry_52
    · have hj := it_n hj c_2
      by_cases c_4 : p2 = 1
      · have hj := it_p hj c_4
        refine lv_tableIn (tgt := 53) (off := 37) hx hb d_Dsk_entry_16 (by rw [c_4]; decide) (by rw [c_4]; decide) (by rw [c_4]; first | done | rfl | decide) (by decide) ?_
        refine lv_aload_n hx hb d_Dsk_entry_53 rfl (lv_at hl 0 rfl) ?_
        obtain ⟨kx_5, hkx_5⟩ := ent_at (ad := ad) (ca := ca) (LA := LA) (LE := LE) (d := _) hm_a_1
        refine va_getN (D := (dC, dI)) (ci := 3) (v := .int (ce_trace (cg_ent d a_1))) (C := "CardMessageDesk$Entry") (T := T_Ent) (N := 9) hx hb hts in_Ent hown hK hP kx_5 hkx_5 rfl 2 (by decide) (nw_f hN (i := 27) rfl) (fun _ h9 => h9) rfl d_Dsk_entry_54 ?_
        obtain rfl := Option.some.inj hj
        exact W.iret hx hb hr (fun t ht hW => ⟨⟨_, _, rfl, ⟨rfl, rfl⟩, by rw [ht]; exact hP, va_K.moved hW.alike hK, hD⟩, hS.F ht⟩) hS.2.2 d_Dsk_entry_57
      · have hj := it_n hj c_4
        by_cases c_6 : p2 = 2
        · have hj := it_p hj c_6
          refine lv_tableIn (tgt := 58) (off := 42) hx hb d_Dsk_entry_16 (by rw [c_6]; decide) (by rw [c_6]; decide) (by rw [c_6]; first | done | rfl | decide) (by decide) ?_
          refine lv_aload_n hx hb d_Dsk_entry_58 rfl (lv_at hl 0 rfl) ?_
          obtain ⟨kx_7, hkx_7⟩ := ent_at (ad := ad) (ca := ca) (LA := LA) (LE := LE) (d := _) hm_a_1
          refine va_getN (D := (dC, dI)) (ci := 3) (v := .int (ce_answer (cg_ent d a_1))) (C := "CardMessageDesk$Entry") (T := T_Ent) (N := 9) hx hb hts in_Ent hown hK hP kx_7 hkx_7 rfl 6 (by decide) (nw_f hN (i := 31) rfl) (fun _ h9 => h9) rfl d_Dsk_entry_59 ?_
          obtain rfl := Option.some.inj hj
          exact W.iret hx hb hr (fun t ht hW => ⟨⟨_, _, rfl, ⟨rfl, rfl⟩, by rw [ht]; exact hP, va_K.moved hW.alike hK, hD⟩, hS.F ht⟩) hS.2.2 d_Dsk_entry_62
        · have hj := it_n hj c_6
          by_cases c_8 : p2 = 3
          · have hj := it_p hj c_8
            refine lv_tableIn (tgt := 63) (off := 47) hx hb d_Dsk_entry_16 (by rw [c_8]; decide) (by rw [c_8]; decide) (by rw [c_8]; first | done | rfl | decide) (by decide) ?_
            refine lv_aload_n hx hb d_Dsk_entry_63 rfl (lv_at hl 0 rfl) ?_
            refine lv_aload_n hx hb d_Dsk_entry_64 rfl (lv_at hl 1 rfl) ?_
            refine va_get (D := (dC, dI)) (ci := 7) (v := .ref (ad 9)) (C := "CardMessageDesk") (T := T_Dsk) (N := 7) hx hb hts in_Dsk hown hK hP 0 rfl rfl 4 (by decide) (hts _ tw201) (fun _ h9 => h9) rfl d_Dsk_entry_65 ?_
            refine va_getN (D := (dC, dI)) (ci := 4) (v := .long (cg_jTime d)) (C := "CardMessageDesk$Journal") (T := T_Jou) (N := 3) hx hb hts in_Jou hown hK hP 9 rfl rfl 2 (by decide) (nw_f hN (i := 34) rfl) (fun _ h9 => h9) rfl d_Dsk_entry_68 ?_
            obtain ⟨v_9, hc_9, hj⟩ := bd_some hj
            have hF_9 := va_fr hD hS hA
            obtain ⟨kx_9, hkx_9⟩ := ent_at (ad := ad) (ca := ca) (LA := LA) (LE := LE) (d := d) hm_a_1
            refine va_calli (va_runV (As := [.long (cg_jTime d)]) (rest := []) ⟨hx, hb, hml, hown, hts⟩ (cc_Entry_stateAt l dC dI ad ca LA LE H.size d a_1 (cg_jTime d) hm_a_1 v_9 hc_9) (cwV 1 hts (gtV tw476 tw477 tw478 tw8 tw479) rfl rfl rfl (by decide +kernel) ⟨Nat.le_of_ble_eq_true rfl, Nat.le_of_ble_eq_true rfl⟩) ⟨cBl, va_recv hK hP (ci := 3) (q0 := kx_9) rfl hkx_9, fun U hU hW => ⟨rfl, cPr hP hK hD hN hU hW⟩⟩ rfl rfl hl.1 rfl (lv_room (Nat.le_of_ble_eq_true rfl)) d_Dsk_entry_71 ⟨Nat.zero_le _, Nat.zero_le _⟩) hS (fun q _ h => hF_9 q h) hF_9 (fun r u t H locs ht hvm hw hB hz1 hk1 hS => ?_)
            obtain ⟨hw1, hw2⟩ := hw
            have hw1 := hw1.symm
            subst hw1
            have hw2 := hw2.symm
            subst hw2
            obtain ⟨hP, hD⟩ := cAf hB ht hF_9
            obtain rfl := Option.some.inj hj
            exact W.iret hx hb hr (fun t ht hW => ⟨⟨_, _, rfl, ⟨rfl, rfl⟩, by rw [ht]; exact hP, va_K.moved hW.alike hK, hD⟩, hS.F ht⟩) hS.2.2 d_Dsk_entry_74
          · have hj := it_n hj c_8
            have n_2 := lv_neT (a := 0) c_2 (by decide)
            have n_4 := lv_neT (a := 1) c_4 (by decide)
            have n_6 := lv_neT (a := 2) c_6 (by decide)
            have n_8 := lv_neT (a := 3) c_8 (by decide)
            refine lv_tableOut (tgt := 75) hx hb d_Dsk_entry_16 (by omega) (by decide) ?_
            refine lv_iconst (v := (-1)) hx hb d_Dsk_entry_75 (by decide) ?_
            obtain rfl := Option.some.inj hj
            exact W.iret hx hb hr (fun t ht hW => ⟨⟨_, _, rfl, ⟨rfl, rfl⟩, by rw [ht]; exact hP, va_K.moved hW.alike hK, hD⟩, hS.F ht⟩) hS.2.2 d_Dsk_entry_76
set_option maxHeartbeats 4000000 in
set_option maxRecDepth 100000 in
theorem cc_D_amount (l : Launch) (dC : Nat → ClassId) (dI : Nat → Nat → Nat) (ad : Nat → Nat) (ca : Nat → ClassId) (LA LE : List Nat) (sz : Nat) (d : CS) (p1 : Int32)  (r9 : Int64) (hj : jc_D_amount LA LE d p1 = some r9) : Met l y_Dsk_amount w_Dsk_amount ({ frames := 1, cells := 0, slots := 0, locals := 21 }) (va_Pc [.ref (ad 0), .int p1] (cPre dC dI ad ca LA LE sz d)) (va_Ql (fun (r : Int64) (u : CS) => r = r9 ∧ u = d) (cAt dC dI ad ca LA LE (va_A (cw ad ca LA LE d) sz)) (va_A (cw ad ca LA LE d) sz)) 0 0 (va_A (cw ad ca LA LE d) sz) := by
  refine Met.ofW (cc := prog_1_method_11_code) (maxL := 3) (ret := (some .long)) (by decide) rfl ?_
  intro p e s m args below meth c s₁ B hml hv
  obtain ⟨rfl, hsz, hP, hK, hD0, hN⟩ := hv
  have hx := B.exec
  have hb := B.bytes
  have hr := B.returns
  have hts0 := atoms_spec (ws := w_Dsk_amount) B.pre
  have hts : ∀ w ∈ gt, w.before _ s = true := fun w h => hts0 w (List.mem_cons_of_mem _ h)
  have hown : s.vm.findClass "CardMessageDesk" = some m.cls := findClass_of_methodNamed B.named
  have hlocks := B.notSynchronized
  subst hsz
  have hD := hD0.self (sz := s.heap.size)
  generalize hAe : va_A (cw ad ca LA LE d) s.heap.size = A at hD ⊢
  have hA : ∀ q : Nat, s.heap.size ≤ q → A q := fun q h => by rw [← hAe]; exact Or.inr h
  have hS : va_S A s.heap s.heap [] := va_S.rf
  have hl := lv_entry ([.ref (ad 0), .int p1]) (n := 3) (Nat.le_of_ble_eq_true rfl)
  rw [lg_entry_eq]
  generalize (lg_sl ([.ref (ad 0), .int p1]) ++ List.replicate (3 - (lg_sl ([.ref (ad 0), .int p1])).length) Slot.unset).toArray = ls at hl ⊢
  have hl : lv_has ls 3 [(0, .ref (ad 0)), (1, .int p1)] := hl
  unfold jc_D_amount at hj
  refine lv_aload_n hx hb d_Dsk_amount_0 rfl (lv_at hl 0 rfl) ?_
  refine va_get (D := (dC, dI)) (ci := 7) (v := .ref (ad 9)) (C := "CardMessageDesk") (T := T_Dsk) (N := 7) hx hb hts in_Dsk hown hK hP 0 rfl rfl 4 (by decide) (hts _ tw201) (fun _ h9 => h9) rfl d_Dsk_amount_1 ?_
  refine lv_iload_n hx hb d_Dsk_amount_4 rfl (lv_at hl 1 rfl) ?_
  obtain ⟨v_1, hc_1, hj⟩ := bd_some hj
  have hF_1 := va_fr hD hS hA
  refine va_callq (va_runV (As := [.int p1]) (rest := []) ⟨hx, hb, hml, hown, hts⟩ (cc_Journal_lineAt l dC dI ad ca LA LE s.heap.size d p1  v_1 hc_1) (cwV 1 hts (gtV tw472 tw473 tw474 tw7 tw475) rfl rfl rfl (by decide +kernel) ⟨Nat.le_of_ble_eq_true rfl, Nat.le_of_ble_eq_true rfl⟩) ⟨cBl, va_recv hK hP (ci := 4) (q0 := 9) rfl rfl, fun U hU hW => ⟨rfl, cPr hP hK hD hN hU hW⟩⟩ rfl rfl hl.1 rfl (lv_room (Nat.le_of_ble_eq_true rfl)) d_Dsk_amount_5 ⟨Nat.zero_le _, Nat.zero_le _⟩) hS (fun q _ h => hF_1 q h) hF_1 (fun r u t H locs ht hvm hw hB hz1 hk1 hS => ?_)
  obtain ⟨hw1, hw2⟩ := hw
  have hw1 := hw1.symm
  subst hw1
  have hw2 := hw2.symm
  subst hw2
  obtain ⟨hP, hD⟩ := cAf hB ht hF_1
  rcases oq_some hj with ⟨ho_1, hj⟩ | ⟨a_1, ho_1, hm_a_1, hj⟩
  · rw [ho_1]
    refine lv_astore_nN (lv' := [(2, .null), (0, .ref (ad 0)), (1, .int p1)]) hx hb d_Dsk_amount_8 rfl hl (by decide) rfl (fun ls hl => ?_)
    refine lv_aload_nN hx hb d_Dsk_amount_9 rfl (lv_at hl 0 rfl) ?_
    refine lv_ifnonnullN hx hb d_Dsk_amount_10 ?_
    refine lv_ldc2 (v := (-1)) hx hb hown (hts _ tw485) d_Dsk_amount_13 ?_
    refine lv_goto (tgt := 23) hx hb d_Dsk_amount_16 (by decide) ?_
    obtain rfl := Option.some.inj hj
    exact W.lret hx hb hr (fun t ht hW => ⟨⟨_, _, rfl, ⟨rfl, rfl⟩, by rw [ht]; exact hP, va_K.moved hW.alike hK, hD⟩, hS.F ht⟩) hS.2.2 d_Dsk_amount_23
  · rw [ho_1]
    refine lv_astore_n (lv' := [(2, .ref a_1), (0, .ref (ad 0)), (1, .int p1)]) hx hb d_Dsk_amount_8 rfl hl (by decide) rfl (fun ls hl => ?_)
    refine lv_aload_n hx hb d_Dsk_amount_9 rfl (lv_at hl 0 rfl) ?_
    refine lv_ifnonnull (tgt := 19) hx hb d_Dsk_amount_10 (by decide) ?_
    refine lv_aload_n hx hb d_Dsk_amount_19 rfl (lv_at hl 0 rfl) ?_
    obtain ⟨kx_2, hkx_2⟩ := ent_at (ad := ad) (ca := ca) (LA := LA) (LE := LE) (d := _) hm_a_1
    refine va_getN (D := (dC, dI)) (ci := 3) (v := .long (ce_amount (cg_ent d a_1))) (C := "CardMessageDesk$Entry") (T := T_Ent) (N := 9) hx hb hts in_Ent hown hK hP kx_2 hkx_2 rfl 5 (by decide) (nw_f hN (i := 30) rfl) (fun _ h9 => h9) rfl d_Dsk_amount_20 ?_
    obtain rfl := Option.some.inj hj
    exact W.lret hx hb hr (fun t ht hW => ⟨⟨_, _, rfl, ⟨rfl, rfl⟩, by rw [ht]; exact hP, va_K.moved hW.alike hK, hD⟩, hS.F ht⟩) hS.2.2 d_Dsk_amount_23
set_option maxHeartbeats 4000000 in
set_option maxRecDepth 100000 in
theorem cc_D_net (l : Launch) (dC : Nat → ClassId) (dI : Nat → Nat → Nat) (ad : Nat → Nat) (ca : Nat → ClassId) (LA LE : List Nat) (sz : Nat) (d : CS) (p1 : Int32)  (r9 : Int64) (hj : jc_D_net LA LE d p1 = some r9) : Met l y_Dsk_net w_Dsk_net ({ frames := 3, cells := 0, slots := 0, locals := 64 }) (va_Pc [.ref (ad 0), .int p1] (cPre dC dI ad ca LA LE sz d)) (va_Ql (fun (r : Int64) (u : CS) => r = r9 ∧ u = d) (cAt dC dI ad ca LA LE (va_A (cw ad ca LA LE d) sz)) (va_A (cw ad ca LA LE d) sz)) 0 0 (va_A (cw ad ca LA LE d) sz) := by
  refine Met.ofW (cc := prog_1_method_12_code) (maxL := 2) (ret := (some .long)) (by decide) rfl ?_
  intro p e s m args below meth c s₁ B hml hv
  obtain ⟨rfl, hsz, hP, hK, hD0, hN⟩ := hv
  have hx := B.exec
  have hb := B.bytes
  have hr := B.returns
  have hts0 := atoms_spec (ws := w_Dsk_net) B.pre
  have hts : ∀ w ∈ gt, w.before _ s = true := fun w h => hts0 w (List.mem_cons_of_mem _ h)
  have hown : s.vm.findClass "CardMessageDesk" = some m.cls := findClass_of_methodNamed B.named
  have hlocks := B.notSynchronized
  subst hsz
  have hD := hD0.self (sz := s.heap.size)
  generalize hAe : va_A (cw ad ca LA LE d) s.heap.size = A at hD ⊢
  have hA : ∀ q : Nat, s.heap.size ≤ q → A q := fun q h => by rw [← hAe]; exact Or.inr h
  have hS : va_S A s.heap s.heap [] := va_S.rf
  have hl := lv_entry ([.ref (ad 0), .int p1]) (n := 2) (Nat.le_of_ble_eq_true rfl)
  rw [lg_entry_eq]
  generalize (lg_sl ([.ref (ad 0), .int p1]) ++ List.replicate (2 - (lg_sl ([.ref (ad 0), .int p1])).length) Slot.unset).toArray = ls at hl ⊢
  have hl : lv_has ls 2 [(0, .ref (ad 0)), (1, .int p1)] := hl
  unfold jc_D_net at hj
  refine lv_aload_n hx hb d_Dsk_net_0 rfl (lv_at hl 0 rfl) ?_
  refine va_get (D := (dC, dI)) (ci := 7) (v := .ref (ad 9)) (C := "CardMessageDesk") (T := T_Dsk) (N := 7) hx hb hts in_Dsk hown hK hP 0 rfl rfl 4 (by decide) (hts _ tw201) (fun _ h9 => h9) rfl d_Dsk_net_1 ?_
  refine lv_iload_n hx hb d_Dsk_net_4 rfl (lv_at hl 1 rfl) ?_
  obtain ⟨v_1, hc_1, hj⟩ := bd_some hj
  have hF_1 := va_fr hD hS hA
  refine va_calll (va_runV (As := [.int p1]) (rest := []) ⟨hx, hb, hml, hown, hts⟩ (cc_Journal_netOf l dC dI ad ca LA LE s.heap.size d p1  v_1 hc_1) (cwV 1 hts (gtV tw345 tw346 tw347 tw7 tw348) rfl rfl rfl (by decide +kernel) ⟨Nat.le_of_ble_eq_true rfl, Nat.le_of_ble_eq_true rfl⟩) ⟨cBl, va_recv hK hP (ci := 4) (q0 := 9) rfl rfl, fun U hU hW => ⟨rfl, cPr hP hK hD hN hU hW⟩⟩ rfl rfl hl.1 rfl (lv_room (Nat.le_of_ble_eq_true rfl)) d_Dsk_net_5 ⟨Nat.zero_le _, Nat.zero_le _⟩) hS (fun q _ h => hF_1 q h) hF_1 (fun r u t H locs ht hvm hw hB hz1 hk1 hS => ?_)
  obtain ⟨hw1, hw2⟩ := hw
  have hw1 := hw1.symm
  subst hw1
  have hw2 := hw2.symm
  subst hw2
  obtain ⟨hP, hD⟩ := cAf hB ht hF_1
  obtain rfl := Option.some.inj hj
  exact W.lret hx hb hr (fun t ht hW => ⟨⟨_, _, rfl, ⟨rfl, rfl⟩, by rw [ht]; exact hP, va_K.moved hW.alike hK, hD⟩, hS.F ht⟩) hS.2.2 d_Dsk_net_8
set_option maxHeartbeats 4000000 in
set_option maxRecDepth 100000 in
theorem cc_D_settled (l : Launch) (dC : Nat → ClassId) (dI : Nat → Nat → Nat) (ad : Nat → Nat) (ca : Nat → ClassId) (LA LE : List Nat) (sz : Nat) (d : CS)   (r9 : Int64) (hj : jc_D_settled LA LE d = some r9) : Met l y_Dsk_settled w_Dsk_settled ({ frames := 0, cells := 0, slots := 0, locals := 0 }) (va_Pc [.ref (ad 0)] (cPre dC dI ad ca LA LE sz d)) (va_Ql (fun (r : Int64) (u : CS) => r = r9 ∧ u = d) (cAt dC dI ad ca LA LE (va_A (cw ad ca LA LE d) sz)) (va_A (cw ad ca LA LE d) sz)) 0 0 (va_A (cw ad ca LA LE d) sz) := by
  refine Met.ofW (cc := prog_1_method_13_code) (maxL := 1) (ret := (some .long)) (by decide) rfl ?_
  intro p e s m args below meth c s₁ B hml hv
  obtain ⟨rfl, hsz, hP, hK, hD0, hN⟩ := hv
  have hx := B.exec
  have hb := B.bytes
  have hr := B.returns
  have hts0 := atoms_spec (ws := w_Dsk_settled) B.pre
  have hts : ∀ w ∈ gt, w.before _ s = true := fun w h => hts0 w (List.mem_cons_of_mem _ h)
  have hown : s.vm.findClass "CardMessageDesk" = some m.cls := findClass_of_methodNamed B.named
  have hlocks := B.notSynchronized
  subst hsz
  have hD := hD0.self (sz := s.heap.size)
  generalize hAe : va_A (cw ad ca LA LE d) s.heap.size = A at hD ⊢
  have hA : ∀ q : Nat, s.heap.size ≤ q → A q := fun q h => by rw [← hAe]; exact Or.inr h
  have hS : va_S A s.heap s.heap [] := va_S.rf
  have hl := lv_entry ([.ref (ad 0)]) (n := 1) (Nat.le_of_ble_eq_true rfl)
  rw [lg_entry_eq]
  generalize (lg_sl ([.ref (ad 0)]) ++ List.replicate (1 - (lg_sl ([.ref (ad 0)])).length) Slot.unset).toArray = ls at hl ⊢
  have hl : lv_has ls 1 [(0, .ref (ad 0))] := hl
  unfold jc_D_settled at hj
  refine lv_aload_n hx hb d_Dsk_settled_0 rfl (lv_at hl 0 rfl) ?_
  refine va_get (D := (dC, dI)) (ci := 7) (v := .long (cg_setSum d)) (C := "CardMessageDesk") (T := T_Dsk) (N := 7) hx hb hts in_Dsk hown hK hP 0 rfl rfl 5 (by decide) (hts _ tw202) (fun _ h9 => h9) rfl d_Dsk_settled_1 ?_
  obtain rfl := Option.some.inj hj
  exact W.lret hx hb hr (fun t ht hW => ⟨⟨_, _, rfl, ⟨rfl, rfl⟩, by rw [ht]; exact hP, va_K.moved hW.alike hK, hD⟩, hS.F ht⟩) hS.2.2 d_Dsk_settled_4
