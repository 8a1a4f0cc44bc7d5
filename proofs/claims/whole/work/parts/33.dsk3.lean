set_option maxHeartbeats 4000000 in
set_option maxRecDepth 100000 in
theorem cc_D_decideHold (l : Launch) (dC : Nat → ClassId) (dI : Nat → Nat → Nat) (ad : Nat → Nat) (ca : Nat → ClassId) (LA LE : List Nat) (sz : Nat) (d : CS) (a1 : Nat) (hm_a1 : a1 ∈ LA) (r9 : Int32) (hj : jc_D_decideHold LA LE d a1 = some r9) : Met l y_Dsk_decideHold w_Dsk_decideHold ({ frames := 2, cells := 0, slots := 0, locals := 46 }) (va_Pc [.ref (ad 0), .ref a1] (cPre dC dI ad ca LA LE sz d)) (va_Qi (fun (r : Int32) (u : CS) => r = r9 ∧ u = d) (cAt dC dI ad ca LA LE (va_A (cw ad ca LA LE d) sz)) (va_A (cw ad ca LA LE d) sz)) 0 0 (va_A (cw ad ca LA LE d) sz) := by
  refine Met.ofW (cc := prog_1_method_18_code) (maxL := 2) (ret := (some .int)) (by decide) rfl ?_
  intro p e s m args below meth c s₁ B hml hv
  obtain ⟨rfl, hsz, hP, hK, hD0, hN⟩ := hv
  have hx := B.exec
  have hb := B.bytes
  have hr := B.returns
  have hts0 := atoms_spec (ws := w_Dsk_decideHold) B.pre
  have hts : ∀ w ∈ gt, w.before _ s = true := fun w h => hts0 w (List.mem_cons_of_mem _ h)
  have hown : s.vm.findClass "CardMessageDesk" = some m.cls := findClass_of_methodNamed B.named
  have hlocks := B.notSynchronized
  subst hsz
  have hD := hD0.self (sz := s.heap.size)
  generalize hAe : va_A (cw ad ca LA LE d) s.heap.size = A at hD ⊢
  have hA : ∀ q : Nat, s.heap.size ≤ q → A q := fun q h => by rw [← hAe]; exact Or.inr h
  have hS : va_S A s.heap s.heap [] := va_S.rf
  have hl := lv_entry ([.ref (ad 0), .ref a1]) (n := 2) (Nat.le_of_ble_eq_true rfl)
  rw [lg_entry_eq]
  generalize (lg_sl ([.ref (ad 0), .ref a1]) ++ List.replicate (2 - (lg_sl ([.ref (ad 0), .ref a1])).length) Slot.unset).toArray = ls at hl ⊢
  have hl : lv_has ls 2 [(0, .ref (ad 0)), (1, .ref a1)] := hl
  unfold jc_D_decideHold at hj
  refine lv_aload_n hx hb d_Dsk_decideHold_0 rfl (lv_at hl 0 rfl) ?_
  refine va_get (D := (dC, dI)) (ci := 7) (v := .ref (ad 5)) (C := "CardMessageDesk") (T := T_Dsk) (N := 7) hx hb hts in_Dsk hown hK hP 0 rfl rfl 2 (by decide) (hts _ tw199) (fun _ h9 => h9) rfl d_Dsk_decideHold_1 ?_
  obtain ⟨v_1, hc_1, hj⟩ := bd_some hj
  have hF_1 := va_fr hD hS hA
  refine va_calli (va_runV (As := []) (rest := []) ⟨hx, hb, hml, hown, hts⟩ (cc_Request_sortKind l dC dI ad ca LA LE s.heap.size d   v_1 hc_1) (cwV 0 hts (gtV tw371 tw372 tw373 tw3 tw374) rfl rfl rfl (by decide +kernel) ⟨Nat.le_of_ble_eq_true rfl, Nat.le_of_ble_eq_true rfl⟩) ⟨cBl, va_recv hK hP (ci := 6) (q0 := 5) rfl rfl, fun U hU hW => ⟨rfl, cPr hP hK hD hN hU hW⟩⟩ rfl rfl hl.1 rfl (lv_room (Nat.le_of_ble_eq_true rfl)) d_Dsk_decideHold_4 ⟨Nat.zero_le _, Nat.zero_le _⟩) hS (fun q _ h => hF_1 q h) hF_1 (fun r u t H locs ht hvm hw hB hz1 hk1 hS => ?_)
  obtain ⟨hw1, hw2⟩ := hw
  have hw1 := hw1.symm
  subst hw1
  have hw2 := hw2.symm
  subst hw2
  obtain ⟨hP, hD⟩ := cAf hB ht hF_1
  refine lv_if_eq (tgt := 13) hx hb d_Dsk_decideHold_7 (by decide) (fun c_2 => ?_) (fun c_2 => ?_)
  · have hj := it_p hj c_2
    refine lv_aload_n hx hb d_Dsk_decideHold_13 rfl (lv_at hl 0 rfl) ?_
    refine va_get (D := (dC, dI)) (ci := 7) (v := .ref (ad 5)) (C := "CardMessageDesk") (T := T_Dsk) (N := 7) hx hb hts in_Dsk hown hK hP 0 rfl rfl 2 (by decide) (hts _ tw199) (fun _ h9 => h9) rfl d_Dsk_decideHold_14 ?_
    refine va_getN (D := (dC, dI)) (ci := 6) (v := .long (cg_rqAmount d)) (C := "CardMessageDesk$Request") (T := T_Req) (N := 10) hx hb hts in_Req hown hK hP 5 rfl rfl 5 (by decide) (nw_f hN (i := 10) rfl) (fun _ h9 => h9) rfl d_Dsk_decideHold_17 ?_
    refine lv_aload_n hx hb d_Dsk_decideHold_20 rfl (lv_at hl 0 rfl) ?_
    refine va_get (D := (dC, dI)) (ci := 7) (v := .ref (ad 9)) (C := "CardMessageDesk") (T := T_Dsk) (N := 7) hx hb hts in_Dsk hown hK hP 0 rfl rfl 4 (by decide) (hts _ tw201) (fun _ h9 => h9) rfl d_Dsk_decideHold_21 ?_
    refine lv_aload_n hx hb d_Dsk_decideHold_24 rfl (lv_at hl 1 rfl) ?_
    obtain ⟨v_3, hc_3, hj⟩ := bd_some hj
    have hF_3 := va_fr hD hS hA
    refine va_calll (va_runV (As := [.ref a1]) (rest := [.long (cg_rqAmount d)]) ⟨hx, hb, hml, hown, hts⟩ (cc_Journal_availableOn l dC dI ad ca LA LE H.size d a1 hm_a1 v_3 hc_3) (cwV 1 hts (gtV tw375 tw376 tw377 tw7 tw378) rfl rfl rfl (by decide +kernel) ⟨Nat.le_of_ble_eq_true rfl, Nat.le_of_ble_eq_true rfl⟩) ⟨cBl, va_recv hK hP (ci := 4) (q0 := 9) rfl rfl, fun U hU hW => ⟨rfl, cPr hP hK hD hN hU hW⟩⟩ rfl rfl hl.1 rfl (lv_room (Nat.le_of_ble_eq_true rfl)) d_Dsk_decideHold_25 ⟨Nat.zero_le _, Nat.zero_le _⟩) hS (fun q _ h => hF_3 q h) hF_3 (fun r u t H locs ht hvm hw hB hz1 hk1 hS => ?_)
    obtain ⟨hw1, hw2⟩ := hw
    have hw1 := hw1.symm
    subst hw1
    have hw2 := hw2.symm
    subst hw2
    obtain ⟨hP, hD⟩ := cAf hB ht hF_3
    refine W.lcmp hx hb d_Dsk_decideHold_28 ?_
    refine lv_if_le (tgt := 37) hx hb d_Dsk_decideHold_29 (by decide) (fun c_4 => ?_) (fun c_4 => ?_)
    · have hj := it_p hj (lc_le.mp c_4)
      refine lv_iconst (v := 0) hx hb d_Dsk_decideHold_37 (by decide) ?_
      obtain rfl := Option.some.inj hj
      exact W.iret hx hb hr (fun t ht hW => ⟨⟨_, _, rfl, ⟨rfl, rfl⟩, by rw [ht]; exact hP, va_K.moved hW.alike hK, hD⟩, hS.F ht⟩) hS.2.2 d_Dsk_decideHold_38
    · have hj := it_n hj (fun z => c_4 (lc_le.mpr z))
      refine lv_bipush (v := 51) hx hb d_Dsk_decideHold_32 (by decide) ?_
      refine lv_goto (tgt := 38) hx hb d_Dsk_decideHold_34 (by decide) ?_
      obtain rfl := Option.some.inj hj
      exact W.iret hx hb hr (fun t ht hW => ⟨⟨_, _, rfl, ⟨rfl, rfl⟩, by rw [ht]; exact hP, va_K.moved hW.alike hK, hD⟩, hS.F ht⟩) hS.2.2 d_Dsk_decideHold_38
  · have hj := it_n hj c_2
    refine lv_bipush (v := 12) hx hb d_Dsk_decideHold_10 (by decide) ?_
    obtain rfl := Option.some.inj hj
    exact W.iret hx hb hr (fun t ht hW => ⟨⟨_, _, rfl, ⟨rfl, rfl⟩, by rw [ht]; exact hP, va_K.moved hW.alike hK, hD⟩, hS.F ht⟩) hS.2.2 d_Dsk_decideHold_12
set_option maxHeartbeats 4000000 in
set_option maxRecDepth 100000 in
theorem cc_D_debit (l : Launch) (dC : Nat → ClassId) (dI : Nat → Nat → Nat) (ad : Nat → Nat) (ca : Nat → ClassId) (LA LE : List Nat) (sz : Nat) (d : CS) (a1 : Nat) (hm_a1 : a1 ∈ LA) (r9 : Int32) (d9 : CS) (hj : jc_D_debit LA LE d a1 = some (r9, d9)) : Met l y_Dsk_debit w_Dsk_debit ({ frames := 2, cells := 0, slots := 0, locals := 46 }) (va_Pc [.ref (ad 0), .ref a1] (cPre dC dI ad ca LA LE sz d)) (va_Qi (fun (r : Int32) (u : CS) => r = r9 ∧ u = d9) (cAt dC dI ad ca LA LE (va_A (cw ad ca LA LE d) sz)) (va_A (cw ad ca LA LE d) sz)) 0 0 (va_A (cw ad ca LA LE d) sz) := by
  refine Met.ofW (cc := prog_1_method_21_code) (maxL := 2) (ret := (some .int)) (by decide) rfl ?_
  intro p e s m args below meth c s₁ B hml hv
  obtain ⟨rfl, hsz, hP, hK, hD0, hN⟩ := hv
  have hx := B.exec
  have hb := B.bytes
  have hr := B.returns
  have hts0 := atoms_spec (ws := w_Dsk_debit) B.pre
  have hts : ∀ w ∈ gt, w.before _ s = true := fun w h => hts0 w (List.mem_cons_of_mem _ h)
  have hown : s.vm.findClass "CardMessageDesk" = some m.cls := findClass_of_methodNamed B.named
  have hlocks := B.notSynchronized
  subst hsz
  have hD := hD0.self (sz := s.heap.size)
  generalize hAe : va_A (cw ad ca LA LE d) s.heap.size = A at hD ⊢
  have hA : ∀ q : Nat, s.heap.size ≤ q → A q := fun q h => by rw [← hAe]; exact Or.inr h
  have hS : va_S A s.heap s.heap [] := va_S.rf
  have hl := lv_entry ([.ref (ad 0), .ref a1]) (n := 2) (Nat.le_of_ble_eq_true rfl)
  rw [lg_entry_eq]
  generalize (lg_sl ([.ref (ad 0), .ref a1]) ++ List.replicate (2 - (lg_sl ([.ref (ad 0), .ref a1])).length) Slot.unset).toArray = ls at hl ⊢
  have hl : lv_has ls 2 [(0, .ref (ad 0)), (1, .ref a1)] := hl
  unfold jc_D_debit at hj
  refine lv_aload_n hx hb d_Dsk_debit_0 rfl (lv_at hl 0 rfl) ?_
  refine va_get (D := (dC, dI)) (ci := 7) (v := .ref (ad 5)) (C := "CardMessageDesk") (T := T_Dsk) (N := 7) hx hb hts in_Dsk hown hK hP 0 rfl rfl 2 (by decide) (hts _ tw199) (fun _ h9 => h9) rfl d_Dsk_debit_1 ?_
  refine va_getN (D := (dC, dI)) (ci := 6) (v := .long (cg_rqAmount d)) (C := "CardMessageDesk$Request") (T := T_Req) (N := 10) hx hb hts in_Req hown hK hP 5 rfl rfl 5 (by decide) (nw_f hN (i := 10) rfl) (fun _ h9 => h9) rfl d_Dsk_debit_4 ?_
  refine lv_aload_n hx hb d_Dsk_debit_7 rfl (lv_at hl 0 rfl) ?_
  refine va_get (D := (dC, dI)) (ci := 7) (v := .ref (ad 9)) (C := "CardMessageDesk") (T := T_Dsk) (N := 7) hx hb hts in_Dsk hown hK hP 0 rfl rfl 4 (by decide) (hts _ tw201) (fun _ h9 => h9) rfl d_Dsk_debit_8 ?_
  refine lv_aload_n hx hb d_Dsk_debit_11 rfl (lv_at hl 1 rfl) ?_
  obtain ⟨v_1, hc_1, hj⟩ := bd_some hj
  have hF_1 := va_fr hD hS hA
  refine va_calll (va_runV (As := [.ref a1]) (rest := [.long (cg_rqAmount d)]) ⟨hx, hb, hml, hown, hts⟩ (cc_Journal_availableOn l dC dI ad ca LA LE s.heap.size d a1 hm_a1 v_1 hc_1) (cwV 1 hts (gtV tw375 tw376 tw377 tw7 tw378) rfl rfl rfl (by decide +kernel) ⟨Nat.le_of_ble_eq_true rfl, Nat.le_of_ble_eq_true rfl⟩) ⟨cBl, va_recv hK hP (ci := 4) (q0 := 9) rfl rfl, fun U hU hW => ⟨rfl, cPr hP hK hD hN hU hW⟩⟩ rfl rfl hl.1 rfl (lv_room (Nat.le_of_ble_eq_true rfl)) d_Dsk_debit_12 ⟨Nat.zero_le _, Nat.zero_le _⟩) hS (fun q _ h => hF_1 q h) hF_1 (fun r u t H locs ht hvm hw hB hz1 hk1 hS => ?_)
  obtain ⟨hw1, hw2⟩ := hw
  have hw1 := hw1.symm
  subst hw1
  have hw2 := hw2.symm
  subst hw2
  obtain ⟨hP, hD⟩ := cAf hB ht hF_1
  refine W.lcmp hx hb d_Dsk_debit_15 ?_
  refine lv_if_le (tgt := 22) hx hb d_Dsk_debit_16 (by decide) (fun c_2 => ?_) (fun c_2 => ?_)
  · have hj := it_p hj (lc_le.mp c_2)
    refine lv_aload_n hx hb d_Dsk_debit_22 rfl (lv_at hl 1 rfl) ?_
    refine lv_dup hx hb d_Dsk_debit_23 rfl ?_
    obtain ⟨kx_3, hkx_3⟩ := acc_at (ad := ad) (ca := ca) (LA := LA) (LE := LE) (d := _) hm_a1
    refine va_getN (D := (dC, dI)) (ci := 0) (v := .long (ca_bal (cg_acc d a1))) (C := "CardMessageDesk$Account") (T := T_Acc) (N := 2) hx hb hts in_Acc hown hK hP kx_3 hkx_3 rfl 1 (by decide) (nw_f hN (i := 22) rfl) (fun _ h9 => h9) rfl d_Dsk_debit_24 ?_
    refine lv_aload_n hx hb d_Dsk_debit_27 rfl (lv_at hl 0 rfl) ?_
    refine va_get (D := (dC, dI)) (ci := 7) (v := .ref (ad 5)) (C := "CardMessageDesk") (T := T_Dsk) (N := 7) hx hb hts in_Dsk hown hK hP 0 rfl rfl 2 (by decide) (hts _ tw199) (fun _ h9 => h9) rfl d_Dsk_debit_28 ?_
    refine va_getN (D := (dC, dI)) (ci := 6) (v := .long (cg_rqAmount d)) (C := "CardMessageDesk$Request") (T := T_Req) (N := 10) hx hb hts in_Req hown hK hP 5 rfl rfl 5 (by decide) (nw_f hN (i := 10) rfl) (fun _ h9 => h9) rfl d_Dsk_debit_31 ?_
    refine lv_lsub hx hb d_Dsk_debit_34 ?_
    obtain ⟨kx_4, hkx_4⟩ := acc_at (ad := ad) (ca := ca) (LA := LA) (LE := LE) (d := _) hm_a1
    have eW_4 := acc_put_bal (ad := ad) (ca := ca) (LA := LA) (LE := LE) (d := d) (v := ((ca_bal (cg_acc d a1)) - (cg_rqAmount d))) hD hm_a1 hkx_4
    obtain ⟨d_5, ed_5, hj⟩ := nm_some hj
    refine va_putN (D := (dC, dI)) (ci := 0) (v := .long ((ca_bal (cg_acc d a1)) - (cg_rqAmount d))) (ty := .long) (C := "CardMessageDesk$Account") (T := T_Acc) (N := 2) hx hb hts in_Acc ty_Acc ty_Acc_ok nm_Acc hown hK hP hD hS kx_4 hkx_4 rfl 1 (by decide) (nw_f hN (i := 22) rfl) (fun _ h9 => h9) rfl (by decide +kernel) rfl rfl (Nat.le_of_ble_eq_true rfl) d_Dsk_debit_35 (fun H locs hP hD hS => ?_)
    have hP : va_P (dC, dI) vwCl (cw ad ca LA LE d_5) H := by rw [ed_5, ← eW_4]; exact hP
    have hD : va_D A (cw ad ca LA LE d_5) := by rw [ed_5, ← eW_4]; exact hD
    refine lv_iconst (v := 0) hx hb d_Dsk_debit_38 (by decide) ?_
    obtain ⟨rfl, rfl⟩ := rt_some hj
    exact W.iret hx hb hr (fun t ht hW => ⟨⟨_, _, rfl, ⟨rfl, rfl⟩, by rw [ht]; exact hP, va_K.moved hW.alike hK, hD⟩, hS.F ht⟩) hS.2.2 d_Dsk_debit_39
  · have hj := it_n hj (fun z => c_2 (lc_le.mpr z))
    refine lv_bipush (v := 51) hx hb d_Dsk_debit_19 (by decide) ?_
    obtain ⟨rfl, rfl⟩ := rt_some hj
    exact W.iret hx hb hr (fun t ht hW => ⟨⟨_, _, rfl, ⟨rfl, rfl⟩, by rw [ht]; exact hP, va_K.moved hW.alike hK, hD⟩, hS.F ht⟩) hS.2.2 d_Dsk_debit_21
set_option maxHeartbeats 4000000 in
set_option maxRecDepth 100000 in
theorem cc_Entry_isOriginalOf (l : Launch) (dC : Nat → ClassId) (dI : Nat → Nat → Nat) (ad : Nat → Nat) (ca : Nat → ClassId) (LA LE : List Nat) (sz : Nat) (d : CS) (a0 : Nat) (hm_a0 : a0 ∈ LE) (r9 : Int32) (hj : jc_Entry_isOriginalOf LA LE d a0 = some r9) : Met l y_Ent_isOriginalOf w_Ent_isOriginalOf ({ frames := 0, cells := 0, slots := 0, locals := 0 }) (va_Pc [.ref a0, .ref (ad 5)] (cPre dC dI ad ca LA LE sz d)) (va_Qi (fun (r : Int32) (u : CS) => r = r9 ∧ u = d) (cAt dC dI ad ca LA LE (va_A (cw ad ca LA LE d) sz)) (va_A (cw ad ca LA LE d) sz)) 0 0 (va_A (cw ad ca LA LE d) sz) := by
  refine Met.ofW (cc := prog_5_method_7_code) (maxL := 2) (ret := (some .boolean)) (by decide) rfl ?_
  intro p e s m args below meth c s₁ B hml hv
  obtain ⟨rfl, hsz, hP, hK, hD0, hN⟩ := hv
  have hx := B.exec
  have hb := B.bytes
  have hr := B.returns
  have hts0 := atoms_spec (ws := w_Ent_isOriginalOf) B.pre
  have hts : ∀ w ∈ gt, w.before _ s = true := fun w h => hts0 w (List.mem_cons_of_mem _ h)
  have hown : s.vm.findClass "CardMessageDesk$Entry" = some m.cls := findClass_of_methodNamed B.named
  have hlocks := B.notSynchronized
  subst hsz
  have hD := hD0.self (sz := s.heap.size)
  generalize hAe : va_A (cw ad ca LA LE d) s.heap.size = A at hD ⊢
  have hA : ∀ q : Nat, s.heap.size ≤ q → A q := fun q h => by rw [← hAe]; exact Or.inr h
  have hS : va_S A s.heap s.heap [] := va_S.rf
  have hl := lv_entry ([.ref a0, .ref (ad 5)]) (n := 2) (Nat.le_of_ble_eq_true rfl)
  rw [lg_entry_eq]
  generalize (lg_sl ([.ref a0, .ref (ad 5)]) ++ List.replicate (2 - (lg_sl ([.ref a0, .ref (ad 5)])).length) Slot.unset).toArray = ls at hl ⊢
  have hl : lv_has ls 2 [(0, .ref a0), (1, .ref (ad 5))] := hl
  unfold jc_Entry_isOriginalOf at hj
  refine lv_aload_n hx hb d_Ent_isOriginalOf_0 rfl (lv_at hl 0 rfl) ?_
  obtain ⟨kx_1, hkx_1⟩ := ent_at (ad := ad) (ca := ca) (LA := LA) (LE := LE) (d := _) hm_a0
  refine va_get (D := (dC, dI)) (ci := 3) (v := .int (ce_trace (cg_ent d a0))) (C := "CardMessageDesk$Entry") (T := T_Ent) (N := 9) hx hb hts in_Ent hown hK hP kx_1 hkx_1 rfl 2 (by decide) (hts _ tw152) (fun _ h9 => h9) rfl d_Ent_isOriginalOf_1 ?_
  refine lv_aload_n hx hb d_Ent_isOriginalOf_4 rfl (lv_at hl 1 rfl) ?_
  refine va_getN (D := (dC, dI)) (ci := 6) (v := .int (cg_rqOrig d)) (C := "CardMessageDesk$Request") (T := T_Req) (N := 10) hx hb hts in_Req hown hK hP 5 rfl rfl 9 (by decide) (nw_f hN (i := 17) rfl) (fun _ h9 => h9) rfl d_Ent_isOriginalOf_5 ?_
  refine lv_icmp_ne (tgt := 38) hx hb d_Ent_isOriginalOf_8 (by decide) (fun c_2 => ?_) (fun c_2 => ?_)
  · have hj := it_n hj c_2
    refine lv_iconst (v := 0) hx hb d_Ent_isOriginalOf_38 (by decide) ?_
    obtain rfl := Option.some.inj hj
    exact W.zret (ty := .boolean) hx hb hr rfl (fun t ht hW => ⟨⟨_, _, rfl, ⟨rfl, rfl⟩, by rw [ht]; exact hP, va_K.moved hW.alike hK, hD⟩, hS.F ht⟩) hS.2.2 d_Ent_isOriginalOf_39
  · have hj := it_p hj c_2
    refine lv_aload_n hx hb d_Ent_isOriginalOf_11 rfl (lv_at hl 0 rfl) ?_
    obtain ⟨kx_3, hkx_3⟩ := ent_at (ad := ad) (ca := ca) (LA := LA) (LE := LE) (d := _) hm_a0
    refine va_get (D := (dC, dI)) (ci := 3) (v := .int (ce_term (cg_ent d a0))) (C := "CardMessageDesk$Entry") (T := T_Ent) (N := 9) hx hb hts in_Ent hown hK hP kx_3 hkx_3 rfl 1 (by decide) (hts _ tw150) (fun _ h9 => h9) rfl d_Ent_isOriginalOf_12 ?_
    refine lv_aload_n hx hb d_Ent_isOriginalOf_15 rfl (lv_at hl 1 rfl) ?_
    refine va_getN (D := (dC, dI)) (ci := 6) (v := .int (cg_rqTerm d)) (C := "CardMessageDesk$Request") (T := T_Req) (N := 10) hx hb hts in_Req hown hK hP 5 rfl rfl 7 (by decide) (nw_f hN (i := 13) rfl) (fun _ h9 => h9) rfl d_Ent_isOriginalOf_16 ?_
    refine lv_icmp_ne (tgt := 38) hx hb d_Ent_isOriginalOf_19 (by decide) (fun c_4 => ?_) (fun c_4 => ?_)
    · have hj := it_n hj c_4
      refine lv_iconst (v := 0) hx hb d_Ent_isOriginalOf_38 (by decide) ?_
      obtain rfl := Option.some.inj hj
      exact W.zret (ty := .boolean) hx hb hr rfl (fun t ht hW => ⟨⟨_, _, rfl, ⟨rfl, rfl⟩, by rw [ht]; exact hP, va_K.moved hW.alike hK, hD⟩, hS.F ht⟩) hS.2.2 d_Ent_isOriginalOf_39
    · have hj := it_p hj c_4
      refine lv_aload_n hx hb d_Ent_isOriginalOf_22 rfl (lv_at hl 0 rfl) ?_
      obtain ⟨kx_5, hkx_5⟩ := ent_at (ad := ad) (ca := ca) (LA := LA) (LE := LE) (d := _) hm_a0
      refine va_get (D := (dC, dI)) (ci := 3) (v := .long (ce_card (cg_ent d a0))) (C := "CardMessageDesk$Entry") (T := T_Ent) (N := 9) hx hb hts in_Ent hown hK hP kx_5 hkx_5 rfl 3 (by decide) (hts _ tw155) (fun _ h9 => h9) rfl d_Ent_isOriginalOf_23 ?_
      refine lv_aload_n hx hb d_Ent_isOriginalOf_26 rfl (lv_at hl 1 rfl) ?_
      refine va_getN (D := (dC, dI)) (ci := 6) (v := .long (cg_rqCard d)) (C := "CardMessageDesk$Request") (T := T_Req) (N := 10) hx hb hts in_Req hown hK hP 5 rfl rfl 3 (by decide) (nw_f hN (i := 7) rfl) (fun _ h9 => h9) rfl d_Ent_isOriginalOf_27 ?_
      refine W.lcmp hx hb d_Ent_isOriginalOf_30 ?_
      refine lv_if_ne (tgt := 38) hx hb d_Ent_isOriginalOf_31 (by decide) (fun c_6 => ?_) (fun c_6 => ?_)
      · have hj := it_n hj (fun z => c_6 (lc_ne.mpr z))
        refine lv_iconst (v := 0) hx hb d_Ent_isOriginalOf_38 (by decide) ?_
        obtain rfl := Option.some.inj hj
        exact W.zret (ty := .boolean) hx hb hr rfl (fun t ht hW => ⟨⟨_, _, rfl, ⟨rfl, rfl⟩, by rw [ht]; exact hP, va_K.moved hW.alike hK, hD⟩, hS.F ht⟩) hS.2.2 d_Ent_isOriginalOf_39
      · have hj := it_p hj (lc_ne.mp c_6)
        refine lv_iconst (v := 1) hx hb d_Ent_isOriginalOf_34 (by decide) ?_
        refine lv_goto (tgt := 39) hx hb d_Ent_isOriginalOf_35 (by decide) ?_
        obtain rfl := Option.some.inj hj
        exact W.zret (ty := .boolean) hx hb hr rfl (fun t ht hW => ⟨⟨_, _, rfl, ⟨rfl, rfl⟩, by rw [ht]; exact hP, va_K.moved hW.alike hK, hD⟩, hS.F ht⟩) hS.2.2 d_Ent_isOriginalOf_39
set_option maxHeartbeats 4000000 in
set_option maxRecDepth 100000 in
theorem cc_Journal_findHold_L2 {p : Program} {l : Launch} {e : Env} {s : State} {m : MethodId} {args : Array Value} {below : List Frame} {meth : Method} {c : Code} {dC : Nat → ClassId} {dI : Nat → Nat → Nat} {ad : Nat → Nat} {ca : Nat → ClassId} {LA LE : List Nat} {A : Nat → Prop} (d : CS)   (r9 : Option Nat) (hx : p.tables.exec = Jvm.exec) (hb : c.code = prog_6_method_4_code) (hr : meth.sig.returnType = (some (.object "CardMessageDesk$Entry"))) (hlocks : meth.locks = false) (hml : c.maxLocals = 3) (hown : s.vm.findClass "CardMessageDesk$Journal" = some m.cls) (hts : ∀ w ∈ gt, w.before args s = true) (hN : nw s) (hA : ∀ q : Nat, s.heap.size ≤ q → A q) (hK : va_K (dC, dI) vwCl (cT ca) s) :
    ∀ (n : Nat) (x2 : Int32) (H : Heap) (locs : List Loc) (ls : Array Slot), loopF (jc_Journal_findHold_L2 LA LE d) n x2 = some r9 → va_P (dC, dI) vwCl (cw ad ca LA LE d) H → va_D A (cw ad ca LA LE d) → va_S A s.heap H locs → lv_has ls 3 [(0, .ref (ad 9)), (1, .ref (ad 5)), (2, .int x2)] → W p l e ({ frames := 1, cells := 0, slots := 0, locals := 22 }) s m args below meth c H locs 0 0 (MQ below (va_Qq (fun (r : Option Nat) (u : CS) => r = r9 ∧ u = d) (cAt dC dI ad ca LA LE A) A) args s 0 0 A) (F0 m 2 ls []) := by
  intro n
  induction n with
  | zero =>
    intro x2 H locs ls hj
    exact (loopF_z hj).elim
  | succ n ih =>
    intro x2 H locs ls hj hP hD hS hl
    have hj := loopF_s hj
    unfold jc_Journal_findHold_L2 at hj
    try dsimp only at hj
    refine lv_iload_n hx hb d_Jou_findHold_2 rfl (lv_at hl 2 rfl) ?_
    refine lv_aload_n hx hb d_Jou_findHold_3 rfl (lv_at hl 0 rfl) ?_
    refine va_get (D := (dC, dI)) (ci := 4) (v := .int (cg_jSize d)) (C := "CardMessageDesk$Journal") (T := T_Jou) (N := 3) hx hb hts in_Jou hown hK hP 9 rfl rfl 1 (by decide) (hts _ tw186) (fun _ h9 => h9) rfl d_Jou_findHold_4 ?_
    refine lv_icmp_ge (tgt := 52) hx hb d_Jou_findHold_7 (by decide) (fun c_1 => ?_) (fun c_1 => ?_)
    · have hj := it_p hj c_1
      refine lv_null hx hb d_Jou_findHold_52 ?_
      obtain rfl := Option.some.inj hj
      exact W.aret hx hb hr (Or.inl ⟨_, rfl⟩) (Or.inl rfl) (fun t ht hW => ⟨⟨none, _, rfl, ⟨rfl, rfl⟩, by rw [ht]; exact hP, va_K.moved hW.alike hK, hD⟩, hS.F ht⟩) hS.2.2 d_Jou_findHold_53
    · have hj := it_n hj c_1
      refine lv_aload_n hx hb d_Jou_findHold_10 rfl (lv_at hl 0 rfl) ?_
      refine va_get (D := (dC, dI)) (ci := 4) (v := .ref (ad 10)) (C := "CardMessageDesk$Journal") (T := T_Jou) (N := 3) hx hb hts in_Jou hown hK hP 9 rfl rfl 0 (by decide) (hts _ tw185) (fun _ h9 => h9) rfl d_Jou_findHold_11 ?_
      refine lv_iload_n hx hb d_Jou_findHold_14 rfl (lv_at hl 2 rfl) ?_
      obtain ⟨hi_2, hj⟩ := gd_some hj
      refine va_aldq hx hb hK hP 10 3 rfl rfl hi_2 d_Jou_findHold_15 ?_
      obtain ⟨a_2, ho_2, hm_a_2, hj⟩ := gq_some hj
      rw [ho_2]
      refine lv_aload_n hx hb d_Jou_findHold_16 rfl (lv_at hl 0 rfl) ?_
      refine va_get (D := (dC, dI)) (ci := 4) (v := .long (cg_jTime d)) (C := "CardMessageDesk$Journal") (T := T_Jou) (N := 3) hx hb hts in_Jou hown hK hP 9 rfl rfl 2 (by decide) (hts _ tw188) (fun _ h9 => h9) rfl d_Jou_findHold_17 ?_
      obtain ⟨v_3, hc_3, hj⟩ := bd_some hj
      have hF_3 := va_fr hD hS hA
      obtain ⟨kx_3, hkx_3⟩ := ent_at (ad := ad) (ca := ca) (LA := LA) (LE := LE) (d := d) hm_a_2
      refine va_calli (va_runV (As := [.long (cg_jTime d)]) (rest := []) ⟨hx, hb, hml, hown, hts⟩ (cc_Entry_isHoldAt l dC dI ad ca LA LE H.size d a_2 (cg_jTime d) hm_a_2 v_3 hc_3) (cwV 1 hts (gtV tw361 tw362 tw363 tw8 tw364) rfl rfl rfl (by decide +kernel) ⟨Nat.le_of_ble_eq_true rfl, Nat.le_of_ble_eq_true rfl⟩) ⟨cBl, va_recv hK hP (ci := 3) (q0 := kx_3) rfl hkx_3, fun U hU hW => ⟨rfl, cPr hP hK hD hN hU hW⟩⟩ rfl rfl hl.1 rfl (lv_room (Nat.le_of_ble_eq_true rfl)) d_Jou_findHold_20 ⟨Nat.zero_le _, Nat.zero_le _⟩) hS (fun q _ h => hF_3 q h) hF_3 (fun r u t H locs ht hvm hw hB hz1 hk1 hS => ?_)
      obtain ⟨hw1, hw2⟩ := hw
      have hw1 := hw1.symm
      subst hw1
      have hw2 := hw2.symm
      subst hw2
      obtain ⟨hP, hD⟩ := cAf hB ht hF_3
      refine lv_if_eq (tgt := 46) hx hb d_Jou_findHold_23 (by decide) (fun c_4 => ?_) (fun c_4 => ?_)
      · have hj := it_p hj c_4
        refine lv_iinc (v := (x2 + 1)) (lv' := [(2, .int (x2 + 1)), (0, .ref (ad 9)), (1, .ref (ad 5))]) hx hb d_Jou_findHold_46 hl (k := 2) rfl rfl (by decide) rfl (fun ls hl => ?_)
        refine lv_goto (tgt := 2) hx hb d_Jou_findHold_49 (by decide) ?_
        exact ih (x2 + 1) H locs ls hj hP hD hS (lv_sub hl [1, 2, 0] rfl)
      · have hj := it_n hj c_4
        refine lv_aload_n hx hb d_Jou_findHold_26 rfl (lv_at hl 0 rfl) ?_
        refine va_get (D := (dC, dI)) (ci := 4) (v := .ref (ad 10)) (C := "CardMessageDesk$Journal") (T := T_Jou) (N := 3) hx hb hts in_Jou hown hK hP 9 rfl rfl 0 (by decide) (hts _ tw185) (fun _ h9 => h9) rfl d_Jou_findHold_27 ?_
        refine lv_iload_n hx hb d_Jou_findHold_30 rfl (lv_at hl 2 rfl) ?_
        obtain ⟨hi_5, hj⟩ := gd_some hj
        refine va_aldq hx hb hK hP 10 3 rfl rfl hi_5 d_Jou_findHold_31 ?_
        obtain ⟨a_5, ho_5, hm_a_5, hj⟩ := gq_some hj
        rw [ho_5]
        refine lv_aload_n hx hb d_Jou_findHold_32 rfl (lv_at hl 1 rfl) ?_
        obtain ⟨v_6, hc_6, hj⟩ := bd_some hj
        have hF_6 := va_fr hD hS hA
        obtain ⟨kx_6, hkx_6⟩ := ent_at (ad := ad) (ca := ca) (LA := LA) (LE := LE) (d := d) hm_a_5
        refine va_calli (va_runV (As := [.ref (ad 5)]) (rest := []) ⟨hx, hb, hml, hown, hts⟩ (cc_Entry_isOriginalOf l dC dI ad ca LA LE H.size d a_5 hm_a_5 v_6 hc_6) (cwV 1 hts (gtV tw393 tw394 tw395 tw8 tw396) rfl rfl rfl (by decide +kernel) ⟨Nat.le_of_ble_eq_true rfl, Nat.le_of_ble_eq_true rfl⟩) ⟨cBl, va_recv hK hP (ci := 3) (q0 := kx_6) rfl hkx_6, fun U hU hW => ⟨rfl, cPr hP hK hD hN hU hW⟩⟩ rfl rfl hl.1 rfl (lv_room (Nat.le_of_ble_eq_true rfl)) d_Jou_findHold_33 ⟨Nat.zero_le _, Nat.zero_le _⟩) hS (fun q _ h => hF_6 q h) hF_6 (fun r u t H locs ht hvm hw hB hz1 hk1 hS => ?_)
        obtain ⟨hw1, hw2⟩ := hw
        have hw1 := hw1.symm
        subst hw1
        have hw2 := hw2.symm
        subst hw2
        obtain ⟨hP, hD⟩ := cAf hB ht hF_6
        refine lv_if_eq (tgt := 46) hx hb d_Jou_findHold_36 (by decide) (fun c_7 => ?_) (fun c_7 => ?_)
        · have hj := it_p hj c_7
          refine lv_iinc (v := (x2 + 1)) (lv' := [(2, .int (x2 + 1)), (0, .ref (ad 9)), (1, .ref (ad 5))]) hx hb d_Jou_findHold_46 hl (k := 2) rfl rfl (by decide) rfl (fun ls hl => ?_)
          refine lv_goto (tgt := 2) hx hb d_Jou_findHold_49 (by decide) ?_
          exact ih (x2 + 1) H locs ls hj hP hD hS (lv_sub hl [1, 2, 0] rfl)
        · have hj := it_n hj c_7
          refine lv_aload_n hx hb d_Jou_findHold_39 rfl (lv_at hl 0 rfl) ?_
          refine va_get (D := (dC, dI)) (ci := 4) (v := .ref (ad 10)) (C := "CardMessageDesk$Journal") (T := T_Jou) (N := 3) hx hb hts in_Jou hown hK hP 9 rfl rfl 0 (by decide) (hts _ tw185) (fun _ h9 => h9) rfl d_Jou_findHold_40 ?_
          refine lv_iload_n hx hb d_Jou_findHold_43 rfl (lv_at hl 2 rfl) ?_
          obtain ⟨hi_8, hj⟩ := gd_some hj
          refine va_aldq hx hb hK hP 10 3 rfl rfl hi_8 d_Jou_findHold_44 ?_
          obtain ⟨a_8, ho_8, hm_a_8, hj⟩ := gq_some hj
          rw [ho_8]
          obtain rfl := Option.some.inj hj
          exact W.aret hx hb hr (Or.inl ⟨_, rfl⟩) (Or.inr ⟨_, rfl⟩) (fun t ht hW => ⟨⟨some _, _, rfl, ⟨rfl, rfl⟩, by rw [ht]; exact hP, va_K.moved hW.alike hK, hD⟩, hS.F ht⟩) hS.2.2 d_Jou_findHold_45
set_option maxHeartbeats 4000000 in
set_option maxRecDepth 100000 in
theorem cc_Journal_findHold (l : Launch) (dC : Nat → ClassId) (dI : Nat → Nat → Nat) (ad : Nat → Nat) (ca : Nat → ClassId) (LA LE : List Nat) (sz : Nat) (d : CS)   (r9 : Option Nat) (hj : jc_Journal_findHold LA LE d = some r9) : Met l y_Jou_findHold w_Jou_findHold ({ frames := 1, cells := 0, slots := 0, locals := 22 }) (va_Pc [.ref (ad 9), .ref (ad 5)] (cPre dC dI ad ca LA LE sz d)) (va_Qq (fun (r : Option Nat) (u : CS) => r = r9 ∧ u = d) (cAt dC dI ad ca LA LE (va_A (cw ad ca LA LE d) sz)) (va_A (cw ad ca LA LE d) sz)) 0 0 (va_A (cw ad ca LA LE d) sz) := by
  refine Met.ofW (cc := prog_6_method_4_code) (maxL := 3) (ret := (some (.object "CardMessageDesk$Entry"))) (by decide) rfl ?_
  intro p e s m args below meth c s₁ B hml hv
  obtain ⟨rfl, hsz, hP, hK, hD0, hN⟩ := hv
  have hx := B.exec
  have hb := B.bytes
  have hr := B.returns
  have hts0 := atoms_spec (ws := w_Jou_findHold) B.pre
  have hts : ∀ w ∈ gt, w.before _ s = true := fun w h => hts0 w (List.mem_cons_of_mem _ h)
  have hown : s.vm.findClass "CardMessageDesk$Journal" = some m.cls := findClass_of_methodNamed B.named
  have hlocks := B.notSynchronized
  subst hsz
  have hD := hD0.self (sz := s.heap.size)
  generalize hAe : va_A (cw ad ca LA LE d) s.heap.size = A at hD ⊢
  have hA : ∀ q : Nat, s.heap.size ≤ q → A q := fun q h => by rw [← hAe]; exact Or.inr h
  have hS : va_S A s.heap s.heap [] := va_S.rf
  have hl := lv_entry ([.ref (ad 9), .ref (ad 5)]) (n := 3) (Nat.le_of_ble_eq_true rfl)
  rw [lg_entry_eq]
  generalize (lg_sl ([.ref (ad 9), .ref (ad 5)]) ++ List.replicate (3 - (lg_sl ([.ref (ad 9), .ref (ad 5)])).length) Slot.unset).toArray = ls at hl ⊢
  have hl : lv_has ls 3 [(0, .ref (ad 9)), (1, .ref (ad 5))] := hl
  unfold jc_Journal_findHold at hj
  refine lv_iconst (v := 0) hx hb d_Jou_findHold_0 (by decide) ?_
  refine lv_istore_n (lv' := [(2, .int (0 : Int32)), (0, .ref (ad 9)), (1, .ref (ad 5))]) hx hb d_Jou_findHold_1 rfl hl (by decide) rfl (fun ls hl => ?_)
  exact cc_Journal_findHold_L2 d  _ hx hb hr hlocks hml hown hts hN hA hK 200 (0 : Int32) _ _ ls hj hP hD hS (lv_sub hl [1, 2, 0] rfl)
set_option maxHeartbeats 4000000 in
set_option maxRecDepth 100000 in
theorem cc_D_complete (l : Launch) (dC : Nat → ClassId) (dI : Nat → Nat → Nat) (ad : Nat → Nat) (ca : Nat → ClassId) (LA LE : List Nat) (sz : Nat) (d : CS) (a1 : Nat) (hm_a1 : a1 ∈ LA) (r9 : Int32) (d9 : CS) (hj : jc_D_complete LA LE d a1 = some (r9, d9)) : Met l y_Dsk_complete w_Dsk_complete ({ frames := 2, cells := 0, slots := 0, locals := 44 }) (va_Pc [.ref (ad 0), .ref a1] (cPre dC dI ad ca LA LE sz d)) (va_Qi (fun (r : Int32) (u : CS) => r = r9 ∧ u = d9) (cAt dC dI ad ca LA LE (va_A (cw ad ca LA LE d) sz)) (va_A (cw ad ca LA LE d) sz)) 0 0 (va_A (cw ad ca LA LE d) sz) := by
  refine Met.ofW (cc := prog_1_method_20_code) (maxL := 3) (ret := (some .int)) (by decide) rfl ?_
  intro p e s m args below meth c s₁ B hml hv
  obtain ⟨rfl, hsz, hP, hK, hD0, hN⟩ := hv
  have hx := B.exec
  have hb := B.bytes
  have hr := B.returns
  have hts0 := atoms_spec (ws := w_Dsk_complete) B.pre
  have hts : ∀ w ∈ gt, w.before _ s = true := fun w h => hts0 w (List.mem_cons_of_mem _ h)
  have hown : s.vm.findClass "CardMessageDesk" = some m.cls := findClass_of_methodNamed B.named
  have hlocks := B.notSynchronized
  subst hsz
  have hD := hD0.self (sz := s.heap.size)
  generalize hAe : va_A (cw ad ca LA LE d) s.heap.size = A at hD ⊢
  have hA : ∀ q : Nat, s.heap.size ≤ q → A q := fun q h => by rw [← hAe]; exact Or.inr h
  have hS : va_S A s.heap s.heap [] := va_S.rf
  have hl := lv_entry ([.ref (ad 0), .ref a1]) (n := 3) (Nat.le_of_ble_eq_true rfl)
  rw [lg_entry_eq]
  generalize (lg_sl ([.ref (ad 0), .ref a1]) ++ List.replicate (3 - (lg_sl ([.ref (ad 0), .ref a1])).length) Slot.unset).toArray = ls at hl ⊢
  have hl : lv_has ls 3 [(0, .ref (ad 0)), (1, .ref a1)] := hl
  unfold jc_D_complete at hj
  refine lv_aload_n hx hb d_Dsk_complete_0 rfl (lv_at hl 0 rfl) ?_
  refine va_get (D := (dC, dI)) (ci := 7) (v := .ref (ad 9)) (C := "CardMessageDesk") (T := T_Dsk) (N := 7) hx hb hts in_Dsk hown hK hP 0 rfl rfl 4 (by decide) (hts _ tw201) (fun _ h9 => h9) rfl d_Dsk_complete_1 ?_
  refine lv_aload_n hx hb d_Dsk_complete_4 rfl (lv_at hl 0 rfl) ?_
  refine va_get (D := (dC, dI)) (ci := 7) (v := .ref (ad 5)) (C := "CardMessageDesk") (T := T_Dsk) (N := 7) hx hb hts in_Dsk hown hK hP 0 rfl rfl 2 (by decide) (hts _ tw199) (fun _ h9 => h9) rfl d_Dsk_complete_5 ?_
  obtain ⟨v_1, hc_1, hj⟩ := bd_some hj
  have hF_1 := va_fr hD hS hA
  refine va_callq (va_runV (As := [.ref (ad 5)]) (rest := []) ⟨hx, hb, hml, hown, hts⟩ (cc_Journal_findHold l dC dI ad ca LA LE s.heap.size d   v_1 hc_1) (cwV 1 hts (gtV tw389 tw390 tw391 tw7 tw392) rfl rfl rfl (by decide +kernel) ⟨Nat.le_of_ble_eq_true rfl, Nat.le_of_ble_eq_true rfl⟩) ⟨cBl, va_recv hK hP (ci := 4) (q0 := 9) rfl rfl, fun U hU hW => ⟨rfl, cPr hP hK hD hN hU hW⟩⟩ rfl rfl hl.1 rfl (lv_room (Nat.le_of_ble_eq_true rfl)) d_Dsk_complete_8 ⟨Nat.zero_le _, Nat.zero_le _⟩) hS (fun q _ h => hF_1 q h) hF_1 (fun r u t H locs ht hvm hw hB hz1 hk1 hS => ?_)
  obtain ⟨hw1, hw2⟩ := hw
  have hw1 := hw1.symm
  subst hw1
  have hw2 := hw2.symm
  subst hw2
  obtain ⟨hP, hD⟩ := cAf hB ht hF_1
  rcases oq_some hj with ⟨ho_1, hj⟩ | ⟨a_1, ho_1, hm_a_1, hj⟩
  · rw [ho_1]
    refine lv_astore_nN (lv' := [(2, .null), (0, .ref (ad 0)), (1, .ref a1)]) hx hb d_Dsk_complete_11 rfl hl (by decide) rfl (fun ls hl => ?_)
    refine lv_aload_nN hx hb d_Dsk_complete_12 rfl (lv_at hl 0 rfl) ?_
    refine lv_ifnonnullN hx hb d_Dsk_complete_13 ?_
    refine lv_bipush (v := 25) hx hb d_Dsk_complete_16 (by decide) ?_
    obtain ⟨rfl, rfl⟩ := rt_some hj
    exact W.iret hx hb hr (fun t ht hW => ⟨⟨_, _, rfl, ⟨rfl, rfl⟩, by rw [ht]; exact hP, va_K.moved hW.alike hK, hD⟩, hS.F ht⟩) hS.2.2 d_Dsk_complete_18
  · rw [ho_1]
    refine lv_astore_n (lv' := [(2, .ref a_1), (0, .ref (ad 0)), (1, .ref a1)]) hx hb d_Dsk_complete_11 rfl hl (by decide) rfl (fun ls hl => ?_)
    refine lv_aload_n hx hb d_Dsk_complete_12 rfl (lv_at hl 0 rfl) ?_
    refine lv_ifnonnull (tgt := 19) hx hb d_Dsk_complete_13 (by decide) ?_
    refine lv_aload_n hx hb d_Dsk_complete_19 rfl (lv_at hl 1 rfl) ?_
    refine va_get (D := (dC, dI)) (ci := 7) (v := .ref (ad 5)) (C := "CardMessageDesk") (T := T_Dsk) (N := 7) hx hb hts in_Dsk hown hK hP 0 rfl rfl 2 (by decide) (hts _ tw199) (fun _ h9 => h9) rfl d_Dsk_complete_20 ?_
    refine va_getN (D := (dC, dI)) (ci := 6) (v := .long (cg_rqAmount d)) (C := "CardMessageDesk$Request") (T := T_Req) (N := 10) hx hb hts in_Req hown hK hP 5 rfl rfl 5 (by decide) (nw_f hN (i := 10) rfl) (fun _ h9 => h9) rfl d_Dsk_complete_23 ?_
    refine lv_aload_n hx hb d_Dsk_complete_26 rfl (lv_at hl 0 rfl) ?_
    obtain ⟨kx_2, hkx_2⟩ := ent_at (ad := ad) (ca := ca) (LA := LA) (LE := LE) (d := _) hm_a_1
    refine va_getN (D := (dC, dI)) (ci := 3) (v := .long (ce_amount (cg_ent d a_1))) (C := "CardMessageDesk$Entry") (T := T_Ent) (N := 9) hx hb hts in_Ent hown hK hP kx_2 hkx_2 rfl 5 (by decide) (nw_f hN (i := 30) rfl) (fun _ h9 => h9) rfl d_Dsk_complete_27 ?_
    refine W.lcmp hx hb d_Dsk_complete_30 ?_
    refine lv_if_le (tgt := 37) hx hb d_Dsk_complete_31 (by decide) (fun c_3 => ?_) (fun c_3 => ?_)
    · have hj := it_p hj (lc_le.mp c_3)
      refine lv_aload_n hx hb d_Dsk_complete_37 rfl (lv_at hl 0 rfl) ?_
      refine lv_iconst (v := 2) hx hb d_Dsk_complete_38 (by decide) ?_
      obtain ⟨kx_4, hkx_4⟩ := ent_at (ad := ad) (ca := ca) (LA := LA) (LE := LE) (d := _) hm_a_1
      have eW_4 := ent_put_state (ad := ad) (ca := ca) (LA := LA) (LE := LE) (d := d) (v := (2 : Int32)) hD hm_a_1 hkx_4
      obtain ⟨d_5, ed_5, hj⟩ := nm_some hj
      refine va_putN (D := (dC, dI)) (ci := 3) (v := .int (2 : Int32)) (ty := .int) (C := "CardMessageDesk$Entry") (T := T_Ent) (N := 9) hx hb hts in_Ent ty_Ent ty_Ent_ok nm_Ent hown hK hP hD hS kx_4 hkx_4 rfl 7 (by decide) (nw_f hN (i := 32) rfl) (fun _ h9 => h9) rfl (by decide +kernel) rfl rfl (Nat.le_of_ble_eq_true rfl) d_Dsk_complete_39 (fun H locs hP hD hS => ?_)
      have hP : va_P (dC, dI) vwCl (cw ad ca LA LE d_5) H := by rw [ed_5, ← eW_4]; exact hP
      have hD : va_D A (cw ad ca LA LE d_5) := by rw [ed_5, ← eW_4]; exact hD
      refine lv_aload_n hx hb d_Dsk_complete_42 rfl (lv_at hl 2 rfl) ?_
      refine lv_dup hx hb d_Dsk_complete_43 rfl ?_
      obtain ⟨kx_6, hkx_6⟩ := acc_at (ad := ad) (ca := ca) (LA := LA) (LE := LE) (d := _) hm_a1
      refine va_getN (D := (dC, dI)) (ci := 0) (v := .long (ca_bal (cg_acc d_5 a1))) (C := "CardMessageDesk$Account") (T := T_Acc) (N := 2) hx hb hts in_Acc hown hK hP kx_6 hkx_6 rfl 1 (by decide) (nw_f hN (i := 22) rfl) (fun _ h9 => h9) rfl d_Dsk_complete_44 ?_
      refine lv_aload_n hx hb d_Dsk_complete_47 rfl (lv_at hl 1 rfl) ?_
      refine va_get (D := (dC, dI)) (ci := 7) (v := .ref (ad 5)) (C := "CardMessageDesk") (T := T_Dsk) (N := 7) hx hb hts in_Dsk hown hK hP 0 rfl rfl 2 (by decide) (hts _ tw199) (fun _ h9 => h9) rfl d_Dsk_complete_48 ?_
      refine va_getN (D := (dC, dI)) (ci := 6) (v := .long (cg_rqAmount d_5)) (C := "CardMessageDesk$Request") (T := T_Req) (N := 10) hx hb hts in_Req hown hK hP 5 rfl rfl 5 (by decide) (nw_f hN (i := 10) rfl) (fun _ h9 => h9) rfl d_Dsk_complete_51 ?_
      refine lv_lsub hx hb d_Dsk_complete_54 ?_
      obtain ⟨kx_7, hkx_7⟩ := acc_at (ad := ad) (ca := ca) (LA := LA) (LE := LE) (d := _) hm_a1
      have eW_7 := acc_put_bal (ad := ad) (ca := ca) (LA := LA) (LE := LE) (d := d_5) (v := ((ca_bal (cg_acc d_5 a1)) - (cg_rqAmount d_5))) hD hm_a1 hkx_7
      obtain ⟨d_8, ed_8, hj⟩ := nm_some hj
      refine va_putN (D := (dC, dI)) (ci := 0) (v := .long ((ca_bal (cg_acc d_5 a1)) - (cg_rqAmount d_5))) (ty := .long) (C := "CardMessageDesk$Account") (T := T_Acc) (N := 2) hx hb hts in_Acc ty_Acc ty_Acc_ok nm_Acc hown hK hP hD hS kx_7 hkx_7 rfl 1 (by decide) (nw_f hN (i := 22) rfl) (fun _ h9 => h9) rfl (by decide +kernel) rfl rfl (Nat.le_of_ble_eq_true rfl) d_Dsk_complete_55 (fun H locs hP hD hS => ?_)
      have hP : va_P (dC, dI) vwCl (cw ad ca LA LE d_8) H := by rw [ed_8, ← eW_7]; exact hP
      have hD : va_D A (cw ad ca LA LE d_8) := by rw [ed_8, ← eW_7]; exact hD
      refine lv_iconst (v := 0) hx hb d_Dsk_complete_58 (by decide) ?_
      obtain ⟨rfl, rfl⟩ := rt_some hj
      exact W.iret hx hb hr (fun t ht hW => ⟨⟨_, _, rfl, ⟨rfl, rfl⟩, by rw [ht]; exact hP, va_K.moved hW.alike hK, hD⟩, hS.F ht⟩) hS.2.2 d_Dsk_complete_59
    · have hj := it_n hj (fun z => c_3 (lc_le.mpr z))
      refine lv_bipush (v := 51) hx hb d_Dsk_complete_34 (by decide) ?_
      obtain ⟨rfl, rfl⟩ := rt_some hj
      exact W.iret hx hb hr (fun t ht hW => ⟨⟨_, _, rfl, ⟨rfl, rfl⟩, by rw [ht]; exact hP, va_K.moved hW.alike hK, hD⟩, hS.F ht⟩) hS.2.2 d_Dsk_complete_36
set_option maxHeartbeats 4000000 in
set_option maxRecDepth 100000 in
theorem cc_D_credit (l : Launch) (dC : Nat → ClassId) (dI : Nat → Nat → Nat) (ad : Nat → Nat) (ca : Nat → ClassId) (LA LE : List Nat) (sz : Nat) (d : CS) (a1 : Nat) (hm_a1 : a1 ∈ LA) (r9 : Int32) (d9 : CS) (hj : jc_D_credit LA LE d a1 = some (r9, d9)) : Met l y_Dsk_credit w_Dsk_credit ({ frames := 0, cells := 0, slots := 0, locals := 0 }) (va_Pc [.ref (ad 0), .ref a1] (cPre dC dI ad ca LA LE sz d)) (va_Qi (fun (r : Int32) (u : CS) => r = r9 ∧ u = d9) (cAt dC dI ad ca LA LE (va_A (cw ad ca LA LE d) sz)) (va_A (cw ad ca LA LE d) sz)) 0 0 (va_A (cw ad ca LA LE d) sz) := by
  refine Met.ofW (cc := prog_1_method_22_code) (maxL := 2) (ret := (some .int)) (by decide) rfl ?_
  intro p e s m args below meth c s₁ B hml hv
  obtain ⟨rfl, hsz, hP, hK, hD0, hN⟩ := hv
  have hx := B.exec
  have hb := B.bytes
  have hr := B.returns
  have hts0 := atoms_spec (ws := w_Dsk_credit) B.pre
  have hts : ∀ w ∈ gt, w.before _ s = true := fun w h => hts0 w (List.mem_cons_of_mem _ h)
  have hown : s.vm.findClass "CardMessageDesk" = some m.cls := findClass_of_methodNamed B.named
  have hlocks := B.notSynchronized
  subst hsz
  have hD := hD0.self (sz := s.heap.size)
  generalize hAe : va_A (cw ad ca LA LE d) s.heap.size = A at hD ⊢
  have hA : ∀ q : Nat, s.heap.size ≤ q → A q := fun q h => by rw [← hAe]; exact Or.inr h
  have hS : va_S A s.heap s.heap [] := va_S.rf
  have hl := lv_entry ([.ref (ad 0), .ref a1]) (n := 2) (Nat.le_of_ble_eq_true rfl)
  rw [lg_entry_eq]
  generalize (lg_sl ([.ref (ad 0), .ref a1]) ++ List.replicate (2 - (lg_sl ([.ref (ad 0), .ref a1])).length) Slot.unset).toArray = ls at hl ⊢
  have hl : lv_has ls 2 [(0, .ref (ad 0)), (1, .ref a1)] := hl
  unfold jc_D_credit at hj
  refine lv_aload_n hx hb d_Dsk_credit_0 rfl (lv_at hl 1 rfl) ?_
  refine lv_dup hx hb d_Dsk_credit_1 rfl ?_
  obtain ⟨kx_1, hkx_1⟩ := acc_at (ad := ad) (ca := ca) (LA := LA) (LE := LE) (d := _) hm_a1
  refine va_getN (D := (dC, dI)) (ci := 0) (v := .long (ca_bal (cg_acc d a1))) (C := "CardMessageDesk$Account") (T := T_Acc) (N := 2) hx hb hts in_Acc hown hK hP kx_1 hkx_1 rfl 1 (by decide) (nw_f hN (i := 22) rfl) (fun _ h9 => h9) rfl d_Dsk_credit_2 ?_
  refine lv_aload_n hx hb d_Dsk_credit_5 rfl (lv_at hl 0 rfl) ?_
  refine va_get (D := (dC, dI)) (ci := 7) (v := .ref (ad 5)) (C := "CardMessageDesk") (T := T_Dsk) (N := 7) hx hb hts in_Dsk hown hK hP 0 rfl rfl 2 (by decide) (hts _ tw199) (fun _ h9 => h9) rfl d_Dsk_credit_6 ?_
  refine va_getN (D := (dC, dI)) (ci := 6) (v := .long (cg_rqAmount d)) (C := "CardMessageDesk$Request") (T := T_Req) (N := 10) hx hb hts in_Req hown hK hP 5 rfl rfl 5 (by decide) (nw_f hN (i := 10) rfl) (fun _ h9 => h9) rfl d_Dsk_credit_9 ?_
  refine lv_ladd hx hb d_Dsk_credit_12 ?_
  obtain ⟨kx_2, hkx_2⟩ := acc_at (ad := ad) (ca := ca) (LA := LA) (LE := LE) (d := _) hm_a1
  have eW_2 := acc_put_bal (ad := ad) (ca := ca) (LA := LA) (LE := LE) (d := d) (v := ((ca_bal (cg_acc d a1)) + (cg_rqAmount d))) hD hm_a1 hkx_2
  obtain ⟨d_3, ed_3, hj⟩ := nm_some hj
  refine va_putN (D := (dC, dI)) (ci := 0) (v := .long ((ca_bal (cg_acc d a1)) + (cg_rqAmount d))) (ty := .long) (C := "CardMessageDesk$Account") (T := T_Acc) (N := 2) hx hb hts in_Acc ty_Acc ty_Acc_ok nm_Acc hown hK hP hD hS kx_2 hkx_2 rfl 1 (by decide) (nw_f hN (i := 22) rfl) (fun _ h9 => h9) rfl (by decide +kernel) rfl rfl (Nat.le_of_ble_eq_true rfl) d_Dsk_credit_13 (fun H locs hP hD hS => ?_)
  have hP : va_P (dC, dI) vwCl (cw ad ca LA LE d_3) H := by rw [ed_3, ← eW_2]; exact hP
  have hD : va_D A (cw ad ca LA LE d_3) := by rw [ed_3, ← eW_2]; exact hD
  refine lv_iconst (v := 0) hx hb d_Dsk_credit_16 (by decide) ?_
  obtain ⟨rfl, rfl⟩ := rt_some hj
  exact W.iret hx hb hr (fun t ht hW => ⟨⟨_, _, rfl, ⟨rfl, rfl⟩, by rw [ht]; exact hP, va_K.moved hW.alike hK, hD⟩, hS.F ht⟩) hS.2.2 d_Dsk_credit_17
set_option maxHeartbeats 4000000 in
set_option maxRecDepth 100000 in
theorem cc_D_decideMoney (l : Launch) (dC : Nat → ClassId) (dI : Nat → Nat → Nat) (ad : Nat → Nat) (ca : Nat → ClassId) (LA LE : List Nat) (sz : Nat) (d : CS) (a1 : Nat) (hm_a1 : a1 ∈ LA) (r9 : Int32) (d9 : CS) (hj : jc_D_decideMoney LA LE d a1 = some (r9, d9)) : Met l y_Dsk_decideMoney w_Dsk_decideMoney ({ frames := 3, cells := 0, slots := 0, locals := 67 }) (va_Pc [.ref (ad 0), .ref a1] (cPre dC dI ad ca LA LE sz d)) (va_Qi (fun (r : Int32) (u : CS) => r = r9 ∧ u = d9) (cAt dC dI ad ca LA LE (va_A (cw ad ca LA LE d) sz)) (va_A (cw ad ca LA LE d) sz)) 0 0 (va_A (cw ad ca LA LE d) sz) := by
  refine Met.ofW (cc := prog_1_method_19_code) (maxL := 3) (ret := (some .int)) (by decide) rfl ?_
  intro p e s m args below meth c s₁ B hml hv
  obtain ⟨rfl, hsz, hP, hK, hD0, hN⟩ := hv
  have hx := B.exec
  have hb := B.bytes
  have hr := B.returns
  have hts0 := atoms_spec (ws := w_Dsk_decideMoney) B.pre
  have hts : ∀ w ∈ gt, w.before _ s = true := fun w h => hts0 w (List.mem_cons_of_mem _ h)
  have hown : s.vm.findClass "CardMessageDesk" = some m.cls := findClass_of_methodNamed B.named
  have hlocks := B.notSynchronized
  subst hsz
  have hD := hD0.self (sz := s.heap.size)
  generalize hAe : va_A (cw ad ca LA LE d) s.heap.size = A at hD ⊢
  have hA : ∀ q : Nat, s.heap.size ≤ q → A q := fun q h => by rw [← hAe]; exact Or.inr h
  have hS : va_S A s.heap s.heap [] := va_S.rf
  have hl := lv_entry ([.ref (ad 0), .ref a1]) (n := 3) (Nat.le_of_ble_eq_true rfl)
  rw [lg_entry_eq]
  generalize (lg_sl ([.ref (ad 0), .ref a1]) ++ List.replicate (3 - (lg_sl ([.ref (ad 0), .ref a1])).length) Slot.unset).toArray = ls at hl ⊢
  have hl : lv_has ls 3 [(0, .ref (ad 0)), (1, .ref a1)] := hl
  unfold jc_D_decideMoney at hj
  refine lv_aload_n hx hb d_Dsk_decideMoney_0 rfl (lv_at hl 0 rfl) ?_
  refine va_get (D := (dC, dI)) (ci := 7) (v := .ref (ad 5)) (C := "CardMessageDesk") (T := T_Dsk) (N := 7) hx hb hts in_Dsk hown hK hP 0 rfl rfl 2 (by decide) (hts _ tw199) (fun _ h9 => h9) rfl d_Dsk_decideMoney_1 ?_
  refine lv_ldc2 (v := 256) hx hb hown (hts _ tw383) d_Dsk_decideMoney_4 ?_
  obtain ⟨v_1, hc_1, hj⟩ := bd_some hj
  have hF_1 := va_fr hD hS hA
  refine va_calli (va_runV (As := [.long (256 : Int64)]) (rest := []) ⟨hx, hb, hml, hown, hts⟩ (cc_Request_has l dC dI ad ca LA LE s.heap.size d (256 : Int64)  v_1 hc_1) (cwV 1 hts (gtV tw384 tw300 tw301 tw3 tw302) rfl rfl rfl (by decide +kernel) ⟨Nat.le_of_ble_eq_true rfl, Nat.le_of_ble_eq_true rfl⟩) ⟨cBl, va_recv hK hP (ci := 6) (q0 := 5) rfl rfl, fun U hU hW => ⟨rfl, cPr hP hK hD hN hU hW⟩⟩ rfl rfl hl.1 rfl (lv_room (Nat.le_of_ble_eq_true rfl)) d_Dsk_decideMoney_7 ⟨Nat.zero_le _, Nat.zero_le _⟩) hS (fun q _ h => hF_1 q h) hF_1 (fun r u t H locs ht hvm hw hB hz1 hk1 hS => ?_)
  obtain ⟨hw1, hw2⟩ := hw
  have hw1 := hw1.symm
  subst hw1
  have hw2 := hw2.symm
  subst hw2
  obtain ⟨hP, hD⟩ := cAf hB ht hF_1
  refine lv_istore_n (lv' := [(2, .int v_1), (0, .ref (ad 0)), (1, .ref a1)]) hx hb d_Dsk_decideMoney_10 rfl hl (by decide) rfl (fun ls hl => ?_)
  refine lv_aload_n hx hb d_Dsk_decideMoney_11 rfl (lv_at hl 1 rfl) ?_
  refine va_get (D := (dC, dI)) (ci := 7) (v := .ref (ad 5)) (C := "CardMessageDesk") (T := T_Dsk) (N := 7) hx hb hts in_Dsk hown hK hP 0 rfl rfl 2 (by decide) (hts _ tw199) (fun _ h9 => h9) rfl d_Dsk_decideMoney_12 ?_
  obtain ⟨v_2, hc_2, hj⟩ := bd_some hj
  have hF_2 := va_fr hD hS hA
  refine va_calli (va_runV (As := []) (rest := []) ⟨hx, hb, hml, hown, hts⟩ (cc_Request_sortKind l dC dI ad ca LA LE H.size d   v_2 hc_2) (cwV 0 hts (gtV tw371 tw372 tw373 tw3 tw374) rfl rfl rfl (by decide +kernel) ⟨Nat.le_of_ble_eq_true rfl, Nat.le_of_ble_eq_true rfl⟩) ⟨cBl, va_recv hK hP (ci := 6) (q0 := 5) rfl rfl, fun U hU hW => ⟨rfl, cPr hP hK hD hN hU hW⟩⟩ rfl rfl hl.1 rfl (lv_room (Nat.le_of_ble_eq_true rfl)) d_Dsk_decideMoney_15 ⟨Nat.zero_le _, Nat.zero_le _⟩) hS (fun q _ h => hF_2 q h) hF_2 (fun r u t H locs ht hvm hw hB hz1 hk1 hS => ?_)
  obtain ⟨hw1, hw2⟩ := hw
  have hw1 := hw1.symm
  subst hw1
  have hw2 := hw2.symm
  subst hw2
  obtain ⟨hP, hD⟩ := cAf hB ht hF_2
  by_cases c_3 : v_2 = 0
  · have hj := it_p hj c_3
    refine lv_lookup (tgt := 44) (off := 26) hx hb d_Dsk_decideMoney_18 (by decide) (by rw [c_3]; first | done | rfl | decide) (by decide) ?_
    refine lv_iload_n hx hb d_Dsk_decideMoney_44 rfl (lv_at hl 0 rfl) ?_
    refine lv_if_eq (tgt := 56) hx hb d_Dsk_decideMoney_45 (by decide) (fun c_4 => ?_) (fun c_4 => ?_)
    · have hj := it_p hj c_4
      refine lv_aload_n hx hb d_Dsk_decideMoney_56 rfl (lv_at hl 1 rfl) ?_
      refine lv_aload_n hx hb d_Dsk_decideMoney_57 rfl (lv_at hl 2 rfl) ?_
      obtain ⟨p_5, hc_5, hj⟩ := bd_some hj
      have hF_5 := va_fr hD hS hA
      refine va_calli (va_runV (As := [.ref a1]) (rest := []) ⟨hx, hb, hml, hown, hts⟩ (cc_D_debit l dC dI ad ca LA LE H.size d a1 hm_a1 p_5.1 p_5.2 hc_5) (cwV 1 hts (gtV tw397 tw399 ts9 tw1 tw400) rfl rfl rfl (by decide +kernel) ⟨Nat.le_of_ble_eq_true rfl, Nat.le_of_ble_eq_true rfl⟩) ⟨cBl, va_recv hK hP (ci := 7) (q0 := 0) rfl rfl, fun U hU hW => ⟨rfl, cPr hP hK hD hN hU hW⟩⟩ rfl rfl hl.1 rfl (lv_room (Nat.le_of_ble_eq_true rfl)) d_Dsk_decideMoney_58 ⟨Nat.zero_le _, Nat.zero_le _⟩) hS (fun q _ h => hF_5 q h) hF_5 (fun r u t H locs ht hvm hw hB hz1 hk1 hS => ?_)
      obtain ⟨hw1, hw2⟩ := hw
      have hw1 := hw1.symm
      subst hw1
      have hw2 := hw2.symm
      subst hw2
      obtain ⟨hP, hD⟩ := cAf hB ht hF_5
      obtain ⟨rfl, rfl⟩ := rt_some hj
      exact W.iret hx hb hr (fun t ht hW => ⟨⟨_, _, rfl, ⟨rfl, rfl⟩, by rw [ht]; exact hP, va_K.moved hW.alike hK, hD⟩, hS.F ht⟩) hS.2.2 d_Dsk_decideMoney_61
    · have hj := it_n hj c_4
      refine lv_aload_n hx hb d_Dsk_decideMoney_48 rfl (lv_at hl 1 rfl) ?_
      refine lv_aload_n hx hb d_Dsk_decideMoney_49 rfl (lv_at hl 2 rfl) ?_
      obtain ⟨p_6, hc_6, hj⟩ := bd_some hj
      have hF_6 := va_fr hD hS hA
      refine va_calli (va_runV (As := [.ref a1]) (rest := []) ⟨hx, hb, hml, hown, hts⟩ (cc_D_complete l dC dI ad ca LA LE H.size d a1 hm_a1 p_6.1 p_6.2 hc_6) (cwV 1 hts (gtV tw385 tw387 ts8 tw1 tw388) rfl rfl rfl (by decide +kernel) ⟨Nat.le_of_ble_eq_true rfl, Nat.le_of_ble_eq_true rfl⟩) ⟨cBl, va_recv hK hP (ci := 7) (q0 := 0) rfl rfl, fun U hU hW => ⟨rfl, cPr hP hK hD hN hU hW⟩⟩ rfl rfl hl.1 rfl (lv_room (Nat.le_of_ble_eq_true rfl)) d_Dsk_decideMoney_50 ⟨Nat.zero_le _, Nat.zero_le _⟩) hS (fun q _ h => hF_6 q h) hF_6 (fun r u t H locs ht hvm hw hB hz1 hk1 hS => ?_)
      obtain ⟨hw1, hw2⟩ := hw
      have hw1 := hw1.symm
      subst hw1
      have hw2 := hw2.symm
      subst hw2
      obtain ⟨hP, hD⟩ := cAf hB ht hF_6
      refine lv_goto (tgt := 61) hx hb d_Dsk_decideMoney_53 (by decide) ?_
      obtain ⟨rfl, rfl⟩ := rt_some hj
      exact W.iret hx hb hr (fun t ht hW => ⟨⟨_, _, rfl, ⟨rfl, rfl⟩, by rw [ht]; exact hP, va_K.moved hW.alike hK, hD⟩, hS.F ht⟩) hS.2.2 d_Dsk_decideMoney_61
  · have hj := it_n hj c_3
    by_cases c_7 : v_2 = 20
    · have hj := it_p hj c_7
      refine lv_lookup (tgt := 62) (off := 44) hx hb d_Dsk_decideMoney_18 (by decide) (by rw [c_7]; first | done | rfl | decide) (by decide) ?_
      refine lv_iload_n hx hb d_Dsk_decideMoney_62 rfl (lv_at hl 0 rfl) ?_
      refine lv_if_eq (tgt := 71) hx hb d_Dsk_decideMoney_63 (by decide) (fun c_8 => ?_) (fun c_8 => ?_)
      · have hj := it_p hj c_8
        refine lv_aload_n hx hb d_Dsk_decideMoney_71 rfl (lv_at hl 1 rfl) ?_
        refine lv_aload_n hx hb d_Dsk_decideMoney_72 rfl (lv_at hl 2 rfl) ?_
        obtain ⟨p_9, hc_9, hj⟩ := bd_some hj
        have hF_9 := va_fr hD hS hA
        refine va_calli (va_runV (As := [.ref a1]) (rest := []) ⟨hx, hb, hml, hown, hts⟩ (cc_D_credit l dC dI ad ca LA LE H.size d a1 hm_a1 p_9.1 p_9.2 hc_9) (cwV 1 hts (gtV tw401 tw403 ts10 tw1 tw404) rfl rfl rfl (by decide +kernel) ⟨Nat.le_of_ble_eq_true rfl, Nat.le_of_ble_eq_true rfl⟩) ⟨cBl, va_recv hK hP (ci := 7) (q0 := 0) rfl rfl, fun U hU hW => ⟨rfl, cPr hP hK hD hN hU hW⟩⟩ rfl rfl hl.1 rfl (lv_room (Nat.le_of_ble_eq_true rfl)) d_Dsk_decideMoney_73 ⟨Nat.zero_le _, Nat.zero_le _⟩) hS (fun q _ h => hF_9 q h) hF_9 (fun r u t H locs ht hvm hw hB hz1 hk1 hS => ?_)
        obtain ⟨hw1, hw2⟩ := hw
        have hw1 := hw1.symm
        subst hw1
        have hw2 := hw2.symm
        subst hw2
        obtain ⟨hP, hD⟩ := cAf hB ht hF_9
        obtain ⟨rfl, rfl⟩ := rt_some hj
        exact W.iret hx hb hr (fun t ht hW => ⟨⟨_, _, rfl, ⟨rfl, rfl⟩, by rw [ht]; exact hP, va_K.moved hW.alike hK, hD⟩, hS.F ht⟩) hS.2.2 d_Dsk_decideMoney_76
      · have hj := it_n hj c_8
        refine lv_bipush (v := 12) hx hb d_Dsk_decideMoney_66 (by decide) ?_
        refine lv_goto (tgt := 76) hx hb d_Dsk_decideMoney_68 (by decide) ?_
        obtain ⟨rfl, rfl⟩ := rt_some hj
        exact W.iret hx hb hr (fun t ht hW => ⟨⟨_, _, rfl, ⟨rfl, rfl⟩, by rw [ht]; exact hP, va_K.moved hW.alike hK, hD⟩, hS.F ht⟩) hS.2.2 d_Dsk_decideMoney_76
    · have hj := it_n hj c_7
      refine lv_lookup (tgt := 77) (off := 59) hx hb d_Dsk_decideMoney_18 (by decide) (by rw [lv_osw c_3 (by decide), lv_osw c_7 (by decide)]; first | done | rfl | decide) (by decide) ?_
      refine lv_bipush (v := 12) hx hb d_Dsk_decideMoney_77 (by decide) ?_
      obtain ⟨rfl, rfl⟩ := rt_some hj
      exact W.iret hx hb hr (fun t ht hW => ⟨⟨_, _, rfl, ⟨rfl, rfl⟩, by rw [ht]; exact hP, va_K.moved hW.alike hK, hD⟩, hS.F ht⟩) hS.2.2 d_Dsk_decideMoney_79
set_option maxHeartbeats 4000000 in
set_option maxRecDepth 100000 in
theorem cc_Entry_isPosted (l : Launch) (dC : Nat → ClassId) (dI : Nat → Nat → Nat) (ad : Nat → Nat) (ca : Nat → ClassId) (LA LE : List Nat) (sz : Nat) (d : CS) (a0 : Nat) (hm_a0 : a0 ∈ LE) (r9 : Int32) (hj : jc_Entry_isPosted LA LE d a0 = some r9) : Met l y_Ent_isPosted w_Ent_isPosted ({ frames := 0, cells := 0, slots := 0, locals := 0 }) (va_Pc [.ref a0] (cPre dC dI ad ca LA LE sz d)) (va_Qi (fun (r : Int32) (u : CS) => r = r9 ∧ u = d) (cAt dC dI ad ca LA LE (va_A (cw ad ca LA LE d) sz)) (va_A (cw ad ca LA LE d) sz)) 0 0 (va_A (cw ad ca LA LE d) sz) := by
  refine Met.ofW (cc := prog_5_method_5_code) (maxL := 1) (ret := (some .boolean)) (by decide) rfl ?_
  intro p e s m args below meth c s₁ B hml hv
  obtain ⟨rfl, hsz, hP, hK, hD0, hN⟩ := hv
  have hx := B.exec
  have hb := B.bytes
  have hr := B.returns
  have hts0 := atoms_spec (ws := w_Ent_isPosted) B.pre
  have hts : ∀ w ∈ gt, w.before _ s = true := fun w h => hts0 w (List.mem_cons_of_mem _ h)
  have hown : s.vm.findClass "CardMessageDesk$Entry" = some m.cls := findClass_of_methodNamed B.named
  have hlocks := B.notSynchronized
  subst hsz
  have hD := hD0.self (sz := s.heap.size)
  generalize hAe : va_A (cw ad ca LA LE d) s.heap.size = A at hD ⊢
  have hA : ∀ q : Nat, s.heap.size ≤ q → A q := fun q h => by rw [← hAe]; exact Or.inr h
  have hS : va_S A s.heap s.heap [] := va_S.rf
  have hl := lv_entry ([.ref a0]) (n := 1) (Nat.le_of_ble_eq_true rfl)
  rw [lg_entry_eq]
  generalize (lg_sl ([.ref a0]) ++ List.replicate (1 - (lg_sl ([.ref a0])).length) Slot.unset).toArray = ls at hl ⊢
  have hl : lv_has ls 1 [(0, .ref a0)] := hl
  unfold jc_Entry_isPosted at hj
  refine lv_aload_n hx hb d_Ent_isPosted_0 rfl (lv_at hl 0 rfl) ?_
  obtain ⟨kx_1, hkx_1⟩ := ent_at (ad := ad) (ca := ca) (LA := LA) (LE := LE) (d := _) hm_a0
  refine va_get (D := (dC, dI)) (ci := 3) (v := .int (ce_type (cg_ent d a0))) (C := "CardMessageDesk$Entry") (T := T_Ent) (N := 9) hx hb hts in_Ent hown hK hP kx_1 hkx_1 rfl 0 (by decide) (hts _ tw147) (fun _ h9 => h9) rfl d_Ent_isPosted_1 ?_
  refine lv_sipush (v := 200) hx hb d_Ent_isPosted_4 (by decide) ?_
  refine lv_icmp_ne (tgt := 29) hx hb d_Ent_isPosted_7 (by decide) (fun c_2 => ?_) (fun c_2 => ?_)
  · have hj := it_n hj c_2
    refine lv_iconst (v := 0) hx hb d_Ent_isPosted_29 (by decide) ?_
    obtain rfl := Option.some.inj hj
    exact W.zret (ty := .boolean) hx hb hr rfl (fun t ht hW => ⟨⟨_, _, rfl, ⟨rfl, rfl⟩, by rw [ht]; exact hP, va_K.moved hW.alike hK, hD⟩, hS.F ht⟩) hS.2.2 d_Ent_isPosted_30
  · have hj := it_p hj c_2
    refine lv_aload_n hx hb d_Ent_isPosted_10 rfl (lv_at hl 0 rfl) ?_
    obtain ⟨kx_3, hkx_3⟩ := ent_at (ad := ad) (ca := ca) (LA := LA) (LE := LE) (d := _) hm_a0
    refine va_get (D := (dC, dI)) (ci := 3) (v := .int (ce_answer (cg_ent d a0))) (C := "CardMessageDesk$Entry") (T := T_Ent) (N := 9) hx hb hts in_Ent hown hK hP kx_3 hkx_3 rfl 6 (by decide) (hts _ tw161) (fun _ h9 => h9) rfl d_Ent_isPosted_11 ?_
    refine lv_if_ne (tgt := 29) hx hb d_Ent_isPosted_14 (by decide) (fun c_4 => ?_) (fun c_4 => ?_)
    · have hj := it_n hj c_4
      refine lv_iconst (v := 0) hx hb d_Ent_isPosted_29 (by decide) ?_
      obtain rfl := Option.some.inj hj
      exact W.zret (ty := .boolean) hx hb hr rfl (fun t ht hW => ⟨⟨_, _, rfl, ⟨rfl, rfl⟩, by rw [ht]; exact hP, va_K.moved hW.alike hK, hD⟩, hS.F ht⟩) hS.2.2 d_Ent_isPosted_30
    · have hj := it_p hj c_4
      refine lv_aload_n hx hb d_Ent_isPosted_17 rfl (lv_at hl 0 rfl) ?_
      obtain ⟨kx_5, hkx_5⟩ := ent_at (ad := ad) (ca := ca) (LA := LA) (LE := LE) (d := _) hm_a0
      refine va_get (D := (dC, dI)) (ci := 3) (v := .int (ce_state (cg_ent d a0))) (C := "CardMessageDesk$Entry") (T := T_Ent) (N := 9) hx hb hts in_Ent hown hK hP kx_5 hkx_5 rfl 7 (by decide) (hts _ tw163) (fun _ h9 => h9) rfl d_Ent_isPosted_18 ?_
      refine lv_iconst (v := 3) hx hb d_Ent_isPosted_21 (by decide) ?_
      refine lv_icmp_eq (tgt := 29) hx hb d_Ent_isPosted_22 (by decide) (fun c_6 => ?_) (fun c_6 => ?_)
      · have hj := it_p hj c_6
        refine lv_iconst (v := 0) hx hb d_Ent_isPosted_29 (by decide) ?_
        obtain rfl := Option.some.inj hj
        exact W.zret (ty := .boolean) hx hb hr rfl (fun t ht hW => ⟨⟨_, _, rfl, ⟨rfl, rfl⟩, by rw [ht]; exact hP, va_K.moved hW.alike hK, hD⟩, hS.F ht⟩) hS.2.2 d_Ent_isPosted_30
      · have hj := it_n hj c_6
        refine lv_iconst (v := 1) hx hb d_Ent_isPosted_25 (by decide) ?_
        refine lv_goto (tgt := 30) hx hb d_Ent_isPosted_26 (by decide) ?_
        obtain rfl := Option.some.inj hj
        exact W.zret (ty := .boolean) hx hb hr rfl (fun t ht hW => ⟨⟨_, _, rfl, ⟨rfl, rfl⟩, by rw [ht]; exact hP, va_K.moved hW.alike hK, hD⟩, hS.F ht⟩) hS.2.2 d_Ent_isPosted_30
set_option maxHeartbeats 4000000 in
set_option maxRecDepth 100000 in
theorem cc_Journal_findReversible_L7 {p : Program} {l : Launch} {e : Env} {s : State} {m : MethodId} {args : Array Value} {below : List Frame} {meth : Method} {c : Code} {dC : Nat → ClassId} {dI : Nat → Nat → Nat} {ad : Nat → Nat} {ca : Nat → ClassId} {LA LE : List Nat} {A : Nat → Prop} (d : CS)   (r9 : Option Nat) (hx : p.tables.exec = Jvm.exec) (hb : c.code = prog_6_method_5_code) (hr : meth.sig.returnType = (some (.object "CardMessageDesk$Entry"))) (hlocks : meth.locks = false) (hml : c.maxLocals = 4) (hown : s.vm.findClass "CardMessageDesk$Journal" = some m.cls) (hts : ∀ w ∈ gt, w.before args s = true) (hN : nw s) (hA : ∀ q : Nat, s.heap.size ≤ q → A q) (hK : va_K (dC, dI) vwCl (cT ca) s) :
    ∀ (n : Nat) (x2 : Int32) (H : Heap) (locs : List Loc) (ls : Array Slot), loopF (jc_Journal_findReversible_L7 LA LE d) n x2 = some r9 → va_P (dC, dI) vwCl (cw ad ca LA LE d) H → va_D A (cw ad ca LA LE d) → va_S A s.heap H locs → lv_has ls 4 [(0, .ref (ad 9)), (1, .ref (ad 5)), (2, .int x2)] → W p l e ({ frames := 1, cells := 0, slots := 0, locals := 22 }) s m args below meth c H locs 0 0 (MQ below (va_Qq (fun (r : Option Nat) (u : CS) => r = r9 ∧ u = d) (cAt dC dI ad ca LA LE A) A) args s 0 0 A) (F0 m 7 ls []) := by
  intro n
  induction n with
  | zero =>
    intro x2 H locs ls hj
    exact (loopF_z hj).elim
  | succ n ih =>
    intro x2 H locs ls hj hP hD hS hl
    have hj := loopF_s hj
    unfold jc_Journal_findReversible_L7 at hj
    try dsimp only at hj
    refine lv_iload_n hx hb d_Jou_findReversible_7 rfl (lv_at hl 2 rfl) ?_
    refine lv_if_lt (tgt := 52) hx hb d_Jou_findReversible_8 (by decide) (fun c_1 => ?_) (fun c_1 => ?_)
    · have hj := it_p hj c_1
      refine lv_null hx hb d_Jou_findReversible_52 ?_
      obtain rfl := Option.some.inj hj
      exact W.aret hx hb hr (Or.inl ⟨_, rfl⟩) (Or.inl rfl) (fun t ht hW => ⟨⟨none, _, rfl, ⟨rfl, rfl⟩, by rw [ht]; exact hP, va_K.moved hW.alike hK, hD⟩, hS.F ht⟩) hS.2.2 d_Jou_findReversible_53
    · have hj := it_n hj c_1
      refine lv_aload_n hx hb d_Jou_findReversible_11 rfl (lv_at hl 0 rfl) ?_
      refine va_get (D := (dC, dI)) (ci := 4) (v := .ref (ad 10)) (C := "CardMessageDesk$Journal") (T := T_Jou) (N := 3) hx hb hts in_Jou hown hK hP 9 rfl rfl 0 (by decide) (hts _ tw185) (fun _ h9 => h9) rfl d_Jou_findReversible_12 ?_
      refine lv_iload_n hx hb d_Jou_findReversible_15 rfl (lv_at hl 2 rfl) ?_
      obtain ⟨hi_2, hj⟩ := gd_some hj
      refine va_aldq hx hb hK hP 10 3 rfl rfl hi_2 d_Jou_findReversible_16 ?_
      obtain ⟨a_2, ho_2, hm_a_2, hj⟩ := gq_some hj
      rw [ho_2]
      refine lv_astore_n (lv' := [(3, .ref a_2), (0, .ref (ad 9)), (1, .ref (ad 5)), (2, .int x2)]) hx hb d_Jou_findReversible_17 rfl hl (by decide) rfl (fun ls hl => ?_)
      refine lv_aload_n hx hb d_Jou_findReversible_18 rfl (lv_at hl 0 rfl) ?_
      refine lv_aload_n hx hb d_Jou_findReversible_19 rfl (lv_at hl 1 rfl) ?_
      refine va_get (D := (dC, dI)) (ci := 4) (v := .long (cg_jTime d)) (C := "CardMessageDesk$Journal") (T := T_Jou) (N := 3) hx hb hts in_Jou hown hK hP 9 rfl rfl 2 (by decide) (hts _ tw188) (fun _ h9 => h9) rfl d_Jou_findReversible_20 ?_
      obtain ⟨v_3, hc_3, hj⟩ := bd_some hj
      have hF_3 := va_fr hD hS hA
      obtain ⟨kx_3, hkx_3⟩ := ent_at (ad := ad) (ca := ca) (LA := LA) (LE := LE) (d := d) hm_a_2
      refine va_calli (va_runV (As := [.long (cg_jTime d)]) (rest := []) ⟨hx, hb, hml, hown, hts⟩ (cc_Entry_isHoldAt l dC dI ad ca LA LE H.size d a_2 (cg_jTime d) hm_a_2 v_3 hc_3) (cwV 1 hts (gtV tw361 tw362 tw363 tw8 tw364) rfl rfl rfl (by decide +kernel) ⟨Nat.le_of_ble_eq_true rfl, Nat.le_of_ble_eq_true rfl⟩) ⟨cBl, va_recv hK hP (ci := 3) (q0 := kx_3) rfl hkx_3, fun U hU hW => ⟨rfl, cPr hP hK hD hN hU hW⟩⟩ rfl rfl hl.1 rfl (lv_room (Nat.le_of_ble_eq_true rfl)) d_Jou_findReversible_23 ⟨Nat.zero_le _, Nat.zero_le _⟩) hS (fun q _ h => hF_3 q h) hF_3 (fun r u t H locs ht hvm hw hB hz1 hk1 hS => ?_)
      obtain ⟨hw1, hw2⟩ := hw
      have hw1 := hw1.symm
      subst hw1
      have hw2 := hw2.symm
      subst hw2
      obtain ⟨hP, hD⟩ := cAf hB ht hF_3
      refine lv_if_ne (tgt := 36) hx hb d_Jou_findReversible_26 (by decide) (fun c_4 => ?_) (fun c_4 => ?_)
      · have hj := it_n hj c_4
        refine lv_aload_n hx hb d_Jou_findReversible_36 rfl (lv_at hl 0 rfl) ?_
        refine lv_aload_n hx hb d_Jou_findReversible_37 rfl (lv_at hl 2 rfl) ?_
        obtain ⟨v_5, hc_5, hj⟩ := bd_some hj
        have hF_5 := va_fr hD hS hA
        obtain ⟨kx_5, hkx_5⟩ := ent_at (ad := ad) (ca := ca) (LA := LA) (LE := LE) (d := d) hm_a_2
        refine va_calli (va_runV (As := [.ref (ad 5)]) (rest := []) ⟨hx, hb, hml, hown, hts⟩ (cc_Entry_isOriginalOf l dC dI ad ca LA LE H.size d a_2 hm_a_2 v_5 hc_5) (cwV 1 hts (gtV tw393 tw394 tw395 tw8 tw396) rfl rfl rfl (by decide +kernel) ⟨Nat.le_of_ble_eq_true rfl, Nat.le_of_ble_eq_true rfl⟩) ⟨cBl, va_recv hK hP (ci := 3) (q0 := kx_5) rfl hkx_5, fun U hU hW => ⟨rfl, cPr hP hK hD hN hU hW⟩⟩ rfl rfl hl.1 rfl (lv_room (Nat.le_of_ble_eq_true rfl)) d_Jou_findReversible_38 ⟨Nat.zero_le _, Nat.zero_le _⟩) hS (fun q _ h => hF_5 q h) hF_5 (fun r u t H locs ht hvm hw hB hz1 hk1 hS => ?_)
        obtain ⟨hw1, hw2⟩ := hw
        have hw1 := hw1.symm
        subst hw1
        have hw2 := hw2.symm
        subst hw2
        obtain ⟨hP, hD⟩ := cAf hB ht hF_5
        refine lv_if_eq (tgt := 46) hx hb d_Jou_findReversible_41 (by decide) (fun c_6 => ?_) (fun c_6 => ?_)
        · have hj := it_p hj c_6
          refine lv_iinc (v := (x2 + (-1))) (lv' := [(2, .int (x2 + (-1))), (3, .ref a_2), (0, .ref (ad 9)), (1, .ref (ad 5))]) hx hb d_Jou_findReversible_46 hl (k := 3) rfl rfl (by decide) rfl (fun ls hl => ?_)
          refine lv_goto (tgt := 7) hx hb d_Jou_findReversible_49 (by decide) ?_
          exact ih (x2 + (-1)) H locs ls hj hP hD hS (lv_sub hl [2, 3, 0] rfl)
        · have hj := it_n hj c_6
          refine lv_aload_n hx hb d_Jou_findReversible_44 rfl (lv_at hl 0 rfl) ?_
          obtain rfl := Option.some.inj hj
          exact W.aret hx hb hr (Or.inl ⟨_, rfl⟩) (Or.inr ⟨_, rfl⟩) (fun t ht hW => ⟨⟨some _, _, rfl, ⟨rfl, rfl⟩, by rw [ht]; exact hP, va_K.moved hW.alike hK, hD⟩, hS.F ht⟩) hS.2.2 d_Jou_findReversible_45
      · have hj := it_p hj c_4
        refine lv_aload_n hx hb d_Jou_findReversible_29 rfl (lv_at hl 0 rfl) ?_
        obtain ⟨v_7, hc_7, hj⟩ := bd_some hj
        have hF_7 := va_fr hD hS hA
        obtain ⟨kx_7, hkx_7⟩ := ent_at (ad := ad) (ca := ca) (LA := LA) (LE := LE) (d := d) hm_a_2
        refine va_calli (va_runV (As := []) (rest := []) ⟨hx, hb, hml, hown, hts⟩ (cc_Entry_isPosted l dC dI ad ca LA LE H.size d a_2 hm_a_2 v_7 hc_7) (cwV 0 hts (gtV tw413 tw354 tw355 tw8 tw356) rfl rfl rfl (by decide +kernel) ⟨Nat.le_of_ble_eq_true rfl, Nat.le_of_ble_eq_true rfl⟩) ⟨cBl, va_recv hK hP (ci := 3) (q0 := kx_7) rfl hkx_7, fun U hU hW => ⟨rfl, cPr hP hK hD hN hU hW⟩⟩ rfl rfl hl.1 rfl (lv_room (Nat.le_of_ble_eq_true rfl)) d_Jou_findReversible_30 ⟨Nat.zero_le _, Nat.zero_le _⟩) hS (fun q _ h => hF_7 q h) hF_7 (fun r u t H locs ht hvm hw hB hz1 hk1 hS => ?_)
        obtain ⟨hw1, hw2⟩ := hw
        have hw1 := hw1.symm
        subst hw1
        have hw2 := hw2.symm
        subst hw2
        obtain ⟨hP, hD⟩ := cAf hB ht hF_7
        refine lv_if_eq (tgt := 46) hx hb d_Jou_findReversible_33 (by decide) (fun c_8 => ?_) (fun c_8 => ?_)
        · have hj := it_p hj c_8
          refine lv_iinc (v := (x2 + (-1))) (lv' := [(2, .int (x2 + (-1))), (3, .ref a_2), (0, .ref (ad 9)), (1, .ref (ad 5))]) hx hb d_Jou_findReversible_46 hl (k := 3) rfl rfl (by decide) rfl (fun ls hl => ?_)
          refine lv_goto (tgt := 7) hx hb d_Jou_findReversible_49 (by decide) ?_
          exact ih (x2 + (-1)) H locs ls hj hP hD hS (lv_sub hl [2, 3, 0] rfl)
        · have hj := it_n hj c_8
          refine lv_aload_n hx hb d_Jou_findReversible_36 rfl (lv_at hl 0 rfl) ?_
          refine lv_aload_n hx hb d_Jou_findReversible_37 rfl (lv_at hl 2 rfl) ?_
          obtain ⟨v_9, hc_9, hj⟩ := bd_some hj
          have hF_9 := va_fr hD hS hA
          obtain ⟨kx_9, hkx_9⟩ := ent_at (ad := ad) (ca := ca) (LA := LA) (LE := LE) (d := d) hm_a_2
          refine va_calli (va_runV (As := [.ref (ad 5)]) (rest := []) ⟨hx, hb, hml, hown, hts⟩ (cc_Entry_isOriginalOf l dC dI ad ca LA LE H.size d a_2 hm_a_2 v_9 hc_9) (cwV 1 hts (gtV tw393 tw394 tw395 tw8 tw396) rfl rfl rfl (by decide +kernel) ⟨Nat.le_of_ble_eq_true rfl, Nat.le_of_ble_eq_true rfl⟩) ⟨cBl, va_recv hK hP (ci := 3) (q0 := kx_9) rfl hkx_9, fun U hU hW => ⟨rfl, cPr hP hK hD hN hU hW⟩⟩ rfl rfl hl.1 rfl (lv_room (Nat.le_of_ble_eq_true rfl)) d_Jou_findReversible_38 ⟨Nat.zero_le _, Nat.zero_le _⟩) hS (fun q _ h => hF_9 q h) hF_9 (fun r u t H locs ht hvm hw hB hz1 hk1 hS => ?_)
          obtain ⟨hw1, hw2⟩ := hw
          have hw1 := hw1.symm
          subst hw1
          have hw2 := hw2.symm
          subst hw2
          obtain ⟨hP, hD⟩ := cAf hB ht hF_9
          refine lv_if_eq (tgt := 46) hx hb d_Jou_findReversible_41 (by decide) (fun c_10 => ?_) (fun c_10 => ?_)
          · have hj := it_p hj c_10
            refine lv_iinc (v := (x2 + (-1))) (lv' := [(2, .int (x2 + (-1))), (3, .ref a_2), (0, .ref (ad 9)), (1, .ref (ad 5))]) hx hb d_Jou_findReversible_46 hl (k := 3) rfl rfl (by decide) rfl (fun ls hl => ?_)
            refine lv_goto (tgt := 7) hx hb d_Jou_findReversible_49 (by decide) ?_
            exact ih (x2 + (-1)) H locs ls hj hP hD hS (lv_sub hl [2, 3, 0] rfl)
          · have hj := it_n hj c_10
            refine lv_aload_n hx hb d_Jou_findReversible_44 rfl (lv_at hl 0 rfl) ?_
            obtain rfl := Option.some.inj hj
            exact W.aret hx hb hr (Or.inl ⟨_, rfl⟩) (Or.inr ⟨_, rfl⟩) (fun t ht hW => ⟨⟨some _, _, rfl, ⟨rfl, rfl⟩, by rw [ht]; exact hP, va_K.moved hW.alike hK, hD⟩, hS.F ht⟩) hS.2.2 d_Jou_findReversible_45
set_option maxHeartbeats 4000000 in
set_option maxRecDepth 100000 in
theorem cc_Journal_findReversible (l : Launch) (dC : Nat → ClassId) (dI : Nat → Nat → Nat) (ad : Nat → Nat) (ca : Nat → ClassId) (LA LE : List Nat) (sz : Nat) (d : CS)   (r9 : Option Nat) (hj : jc_Journal_findReversible LA LE d = some r9) : Met l y_Jou_findReversible w_Jou_findReversible ({ frames := 1, cells := 0, slots := 0, locals := 22 }) (va_Pc [.ref (ad 9), .ref (ad 5)] (cPre dC dI ad ca LA LE sz d)) (va_Qq (fun (r : Option Nat) (u : CS) => r = r9 ∧ u = d) (cAt dC dI ad ca LA LE (va_A (cw ad ca LA LE d) sz)) (va_A (cw ad ca LA LE d) sz)) 0 0 (va_A (cw ad ca LA LE d) sz) := by
  refine Met.ofW (cc := prog_6_method_5_code) (maxL := 4) (ret := (some (.object "CardMessageDesk$Entry"))) (by decide) rfl ?_
  intro p e s m args below meth c s₁ B hml hv
  obtain ⟨rfl, hsz, hP, hK, hD0, hN⟩ := hv
  have hx := B.exec
  have hb := B.bytes
  have hr := B.returns
  have hts0 := atoms_spec (ws := w_Jou_findReversible) B.pre
  have hts : ∀ w ∈ gt, w.before _ s = true := fun w h => hts0 w (List.mem_cons_of_mem _ h)
  have hown : s.vm.findClass "CardMessageDesk$Journal" = some m.cls := findClass_of_methodNamed B.named
  have hlocks := B.notSynchronized
  subst hsz
  have hD := hD0.self (sz := s.heap.size)
  generalize hAe : va_A (cw ad ca LA LE d) s.heap.size = A at hD ⊢
  have hA : ∀ q : Nat, s.heap.size ≤ q → A q := fun q h => by rw [← hAe]; exact Or.inr h
  have hS : va_S A s.heap s.heap [] := va_S.rf
  have hl := lv_entry ([.ref (ad 9), .ref (ad 5)]) (n := 4) (Nat.le_of_ble_eq_true rfl)
  rw [lg_entry_eq]
  generalize (lg_sl ([.ref (ad 9), .ref (ad 5)]) ++ List.replicate (4 - (lg_sl ([.ref (ad 9), .ref (ad 5)])).length) Slot.unset).toArray = ls at hl ⊢
  have hl : lv_has ls 4 [(0, .ref (ad 9)), (1, .ref (ad 5))] := hl
  unfold jc_Journal_findReversible at hj
  refine lv_aload_n hx hb d_Jou_findReversible_0 rfl (lv_at hl 0 rfl) ?_
  refine va_get (D := (dC, dI)) (ci := 4) (v := .int (cg_jSize d)) (C := "CardMessageDesk$Journal") (T := T_Jou) (N := 3) hx hb hts in_Jou hown hK hP 9 rfl rfl 1 (by decide) (hts _ tw186) (fun _ h9 => h9) rfl d_Jou_findReversible_1 ?_
  refine lv_iconst (v := 1) hx hb d_Jou_findReversible_4 (by decide) ?_
  refine lv_isub hx hb d_Jou_findReversible_5 ?_
  refine lv_istore_n (lv' := [(2, .int ((cg_jSize d) - (1 : Int32))), (0, .ref (ad 9)), (1, .ref (ad 5))]) hx hb d_Jou_findReversible_6 rfl hl (by decide) rfl (fun ls hl => ?_)
  exact cc_Journal_findReversible_L7 d  _ hx hb hr hlocks hml hown hts hN hA hK 200 ((cg_jSize d) - (1 : Int32)) _ _ ls hj hP hD hS (lv_sub hl [1, 2, 0] rfl)
set_option maxHeartbeats 4000000 in
set_option maxRecDepth 100000 in
theorem cc_Entry_moved (l : Launch) (dC : Nat → ClassId) (dI : Nat → Nat → Nat) (ad : Nat → Nat) (ca : Nat → ClassId) (LA LE : List Nat) (sz : Nat) (d : CS) (a0 : Nat) (hm_a0 : a0 ∈ LE) (r9 : Int64) (hj : jc_Entry_moved LA LE d a0 = some r9) : Met l y_Ent_moved w_Ent_moved ({ frames := 1, cells := 0, slots := 0, locals := 20 }) (va_Pc [.ref a0] (cPre dC dI ad ca LA LE sz d)) (va_Ql (fun (r : Int64) (u : CS) => r = r9 ∧ u = d) (cAt dC dI ad ca LA LE (va_A (cw ad ca LA LE d) sz)) (va_A (cw ad ca LA LE d) sz)) 0 0 (va_A (cw ad ca LA LE d) sz) := by
  refine Met.ofW (cc := prog_5_method_6_code) (maxL := 1) (ret := (some .long)) (by decide) rfl ?_
  intro p e s m args below meth c s₁ B hml hv
  obtain ⟨rfl, hsz, hP, hK, hD0, hN⟩ := hv
  have hx := B.exec
  have hb := B.bytes
  have hr := B.returns
  have hts0 := atoms_spec (ws := w_Ent_moved) B.pre
  have hts : ∀ w ∈ gt, w.before _ s = true := fun w h => hts0 w (List.mem_cons_of_mem _ h)
  have hown : s.vm.findClass "CardMessageDesk$Entry" = some m.cls := findClass_of_methodNamed B.named
  have hlocks := B.notSynchronized
  subst hsz
  have hD := hD0.self (sz := s.heap.size)
  generalize hAe : va_A (cw ad ca LA LE d) s.heap.size = A at hD ⊢
  have hA : ∀ q : Nat, s.heap.size ≤ q → A q := fun q h => by rw [← hAe]; exact Or.inr h
  have hS : va_S A s.heap s.heap [] := va_S.rf
  have hl := lv_entry ([.ref a0]) (n := 1) (Nat.le_of_ble_eq_true rfl)
  rw [lg_entry_eq]
  generalize (lg_sl ([.ref a0]) ++ List.replicate (1 - (lg_sl ([.ref a0])).length) Slot.unset).toArray = ls at hl ⊢
  have hl : lv_has ls 1 [(0, .ref a0)] := hl
  unfold jc_Entry_moved at hj
  refine lv_aload_n hx hb d_Ent_moved_0 rfl (lv_at hl 0 rfl) ?_
  obtain ⟨v_1, hc_1, hj⟩ := bd_some hj
  have hF_1 := va_fr hD hS hA
  obtain ⟨kx_1, hkx_1⟩ := ent_at (ad := ad) (ca := ca) (LA := LA) (LE := LE) (d := d) hm_a0
  refine va_calli (va_runV (As := []) (rest := []) ⟨hx, hb, hml, hown, hts⟩ (cc_Entry_isPosted l dC dI ad ca LA LE s.heap.size d a0 hm_a0 v_1 hc_1) (cwV 0 hts (gtV tw353 tw354 tw355 tw8 tw356) rfl rfl rfl (by decide +kernel) ⟨Nat.le_of_ble_eq_true rfl, Nat.le_of_ble_eq_true rfl⟩) ⟨cBl, va_recv hK hP (ci := 3) (q0 := kx_1) rfl hkx_1, fun U hU hW => ⟨rfl, cPr hP hK hD hN hU hW⟩⟩ rfl rfl hl.1 rfl (lv_room (Nat.le_of_ble_eq_true rfl)) d_Ent_moved_1 ⟨Nat.zero_le _, Nat.zero_le _⟩) hS (fun q _ h => hF_1 q h) hF_1 (fun r u t H locs ht hvm hw hB hz1 hk1 hS => ?_)
  obtain ⟨hw1, hw2⟩ := hw
  have hw1 := hw1.symm
  subst hw1
  have hw2 := hw2.symm
  subst hw2
  obtain ⟨hP, hD⟩ := cAf hB ht hF_1
  refine lv_if_ne (tgt := 9) hx hb d_Ent_moved_4 (by decide) (fun c_2 => ?_) (fun c_2 => ?_)
  · have hj := it_n hj c_2
    refine lv_aload_n hx hb d_Ent_moved_9 rfl (lv_at hl 0 rfl) ?_
    obtain ⟨kx_3, hkx_3⟩ := ent_at (ad := ad) (ca := ca) (LA := LA) (LE := LE) (d := _) hm_a0
    refine va_get (D := (dC, dI)) (ci := 3) (v := .int (ce_kind (cg_ent d a0))) (C := "CardMessageDesk$Entry") (T := T_Ent) (N := 9) hx hb hts in_Ent hown hK hP kx_3 hkx_3 rfl 4 (by decide) (hts _ tw157) (fun _ h9 => h9) rfl d_Ent_moved_10 ?_
    refine lv_bipush (v := 20) hx hb d_Ent_moved_13 (by decide) ?_
    refine lv_icmp_ne (tgt := 25) hx hb d_Ent_moved_15 (by decide) (fun c_4 => ?_) (fun c_4 => ?_)
    · have hj := it_n hj c_4
      refine lv_aload_n hx hb d_Ent_moved_25 rfl (lv_at hl 0 rfl) ?_
      obtain ⟨kx_5, hkx_5⟩ := ent_at (ad := ad) (ca := ca) (LA := LA) (LE := LE) (d := _) hm_a0
      refine va_get (D := (dC, dI)) (ci := 3) (v := .long (ce_amount (cg_ent d a0))) (C := "CardMessageDesk$Entry") (T := T_Ent) (N := 9) hx hb hts in_Ent hown hK hP kx_5 hkx_5 rfl 5 (by decide) (hts _ tw158) (fun _ h9 => h9) rfl d_Ent_moved_26 ?_
      refine lv_lneg hx hb d_Ent_moved_29 ?_
      obtain rfl := Option.some.inj hj
      exact W.lret hx hb hr (fun t ht hW => ⟨⟨_, _, rfl, ⟨rfl, rfl⟩, by rw [ht]; exact hP, va_K.moved hW.alike hK, hD⟩, hS.F ht⟩) hS.2.2 d_Ent_moved_30
    · have hj := it_p hj c_4
      refine lv_aload_n hx hb d_Ent_moved_18 rfl (lv_at hl 0 rfl) ?_
      obtain ⟨kx_6, hkx_6⟩ := ent_at (ad := ad) (ca := ca) (LA := LA) (LE := LE) (d := _) hm_a0
      refine va_get (D := (dC, dI)) (ci := 3) (v := .long (ce_amount (cg_ent d a0))) (C := "CardMessageDesk$Entry") (T := T_Ent) (N := 9) hx hb hts in_Ent hown hK hP kx_6 hkx_6 rfl 5 (by decide) (hts _ tw158) (fun _ h9 => h9) rfl d_Ent_moved_19 ?_
      refine lv_goto (tgt := 30) hx hb d_Ent_moved_22 (by decide) ?_
      obtain rfl := Option.some.inj hj
      exact W.lret hx hb hr (fun t ht hW => ⟨⟨_, _, rfl, ⟨rfl, rfl⟩, by rw [ht]; exact hP, va_K.moved hW.alike hK, hD⟩, hS.F ht⟩) hS.2.2 d_Ent_moved_30
  · have hj := it_p hj c_2
    refine lv_lconst (v := 0) hx hb d_Ent_moved_7 (by decide) ?_
    obtain rfl := Option.some.inj hj
    exact W.lret hx hb hr (fun t ht hW => ⟨⟨_, _, rfl, ⟨rfl, rfl⟩, by rw [ht]; exact hP, va_K.moved hW.alike hK, hD⟩, hS.F ht⟩) hS.2.2 d_Ent_moved_8
