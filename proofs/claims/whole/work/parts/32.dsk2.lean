set_option maxHeartbeats 4000000 in
set_option maxRecDepth 100000 in
theorem cc_Request_readOtherFields (l : Launch) (dC : Nat → ClassId) (dI : Nat → Nat → Nat) (ad : Nat → Nat) (ca : Nat → ClassId) (LA LE : List Nat) (sz : Nat) (d : CS)   (d9 : CS) (hj : jc_Request_readOtherFields LA LE d = some d9) : Met l y_Req_readOtherFields w_Req_readOtherFields ({ frames := 4, cells := 0, slots := 0, locals := 95 }) (va_Pc [.ref (ad 5)] (cPre dC dI ad ca LA LE sz d)) (va_Qv (fun u : CS => u = d9) (cAt dC dI ad ca LA LE (va_A (cw ad ca LA LE d) sz)) (va_A (cw ad ca LA LE d) sz)) 0 0 (va_A (cw ad ca LA LE d) sz) := by
  refine Met.ofW (cc := prog_8_method_9_code) (maxL := 1) (ret := none) (by decide) rfl ?_
  intro p e s m args below meth c s₁ B hml hv
  obtain ⟨rfl, hsz, hP, hK, hD0, hN⟩ := hv
  have hx := B.exec
  have hb := B.bytes
  have hr := B.returns
  have hts0 := atoms_spec (ws := w_Req_readOtherFields) B.pre
  have hts : ∀ w ∈ gt, w.before _ s = true := fun w h => hts0 w (List.mem_cons_of_mem _ h)
  have hown : s.vm.findClass "CardMessageDesk$Request" = some m.cls := findClass_of_methodNamed B.named
  have hlocks := B.notSynchronized
  subst hsz
  have hD := hD0.self (sz := s.heap.size)
  generalize hAe : va_A (cw ad ca LA LE d) s.heap.size = A at hD ⊢
  have hA : ∀ q : Nat, s.heap.size ≤ q → A q := fun q h => by rw [← hAe]; exact Or.inr h
  have hS : va_S A s.heap s.heap [] := va_S.rf
  have hl := lv_entry ([.ref (ad 5)]) (n := 1) (Nat.le_of_ble_eq_true rfl)
  rw [lg_entry_eq]
  generalize (lg_sl ([.ref (ad 5)]) ++ List.replicate (1 - (lg_sl ([.ref (ad 5)])).length) Slot.unset).toArray = ls at hl ⊢
  have hl : lv_has ls 1 [(0, .ref (ad 5))] := hl
  unfold jc_Request_readOtherFields at hj
  refine lv_aload_n hx hb d_Req_readOtherFields_0 rfl (lv_at hl 0 rfl) ?_
  refine lv_aload_n hx hb d_Req_readOtherFields_1 rfl (lv_at hl 0 rfl) ?_
  refine va_get (D := (dC, dI)) (ci := 6) (v := .ref (ad 6)) (C := "CardMessageDesk$Request") (T := T_Req) (N := 10) hx hb hts in_Req hown hK hP 5 rfl rfl 0 (by decide) (hts _ tw58) (fun _ h9 => h9) rfl d_Req_readOtherFields_2 ?_
  refine lv_bipush (v := 6) hx hb d_Req_readOtherFields_5 (by decide) ?_
  obtain ⟨p_1, hc_1, hj⟩ := bd_some hj
  have hF_1 := va_fr hD hS hA
  refine va_calll (va_runV (As := [.int (6 : Int32)]) (rest := [.ref (ad 5)]) ⟨hx, hb, hml, hown, hts⟩ (cc_Reader_readDigits l dC dI ad ca LA LE s.heap.size d (6 : Int32)  p_1.1 p_1.2 hc_1) (cwV 1 hts (gtV tw261 tw262 tw263 tw4 tw264) rfl rfl rfl (by decide +kernel) ⟨Nat.le_of_ble_eq_true rfl, Nat.le_of_ble_eq_true rfl⟩) ⟨cBl, va_recv hK hP (ci := 5) (q0 := 6) rfl rfl, fun U hU hW => ⟨rfl, cPr hP hK hD hN hU hW⟩⟩ rfl rfl hl.1 rfl (lv_room (Nat.le_of_ble_eq_true rfl)) d_Req_readOtherFields_7 ⟨Nat.zero_le _, Nat.zero_le _⟩) hS (fun q _ h => hF_1 q h) hF_1 (fun r u t H locs ht hvm hw hB hz1 hk1 hS => ?_)
  obtain ⟨hw1, hw2⟩ := hw
  have hw1 := hw1.symm
  subst hw1
  have hw2 := hw2.symm
  subst hw2
  obtain ⟨hP, hD⟩ := cAf hB ht hF_1
  refine lv_l2i (v := (p_1.1).toInt32) hx hb d_Req_readOtherFields_10 rfl ?_
  obtain ⟨d_2, ed_2, hj⟩ := nm_some hj
  refine va_put (D := (dC, dI)) (ci := 6) (v := .int (p_1.1).toInt32) (ty := .int) (C := "CardMessageDesk$Request") (T := T_Req) (N := 10) hx hb hts in_Req ty_Req ty_Req_ok nm_Req hown hK hP hD hS 5 rfl rfl 6 (by decide) (hts _ tw74) (fun _ h9 => h9) rfl (by decide +kernel) rfl rfl (Nat.le_of_ble_eq_true rfl) d_Req_readOtherFields_11 (fun H locs hP hD hS => ?_)
  have hP : va_P (dC, dI) vwCl (cw ad ca LA LE d_2) H := by rw [ed_2]; exact hP
  have hD : va_D A (cw ad ca LA LE d_2) := by rw [ed_2]; exact hD
  refine lv_aload_n hx hb d_Req_readOtherFields_14 rfl (lv_at hl 0 rfl) ?_
  refine lv_aload_n hx hb d_Req_readOtherFields_15 rfl (lv_at hl 0 rfl) ?_
  refine va_get (D := (dC, dI)) (ci := 6) (v := .ref (ad 6)) (C := "CardMessageDesk$Request") (T := T_Req) (N := 10) hx hb hts in_Req hown hK hP 5 rfl rfl 0 (by decide) (hts _ tw58) (fun _ h9 => h9) rfl d_Req_readOtherFields_16 ?_
  refine va_getN (D := (dC, dI)) (ci := 5) (v := .int (cg_rdPlace d_2)) (C := "CardMessageDesk$Reader") (T := T_Rdr) (N := 3) hx hb hts in_Rdr hown hK hP 6 rfl rfl 1 (by decide) (nw_f hN (i := 2) rfl) (fun _ h9 => h9) rfl d_Req_readOtherFields_19 ?_
  obtain ⟨d_3, ed_3, hj⟩ := nm_some hj
  refine va_put (D := (dC, dI)) (ci := 6) (v := .int (cg_rdPlace d_2)) (ty := .int) (C := "CardMessageDesk$Request") (T := T_Req) (N := 10) hx hb hts in_Req ty_Req ty_Req_ok nm_Req hown hK hP hD hS 5 rfl rfl 8 (by decide) (hts _ tw79) (fun _ h9 => h9) rfl (by decide +kernel) rfl rfl (Nat.le_of_ble_eq_true rfl) d_Req_readOtherFields_22 (fun H locs hP hD hS => ?_)
  have hP : va_P (dC, dI) vwCl (cw ad ca LA LE d_3) H := by rw [ed_3]; exact hP
  have hD : va_D A (cw ad ca LA LE d_3) := by rw [ed_3]; exact hD
  refine lv_aload_n hx hb d_Req_readOtherFields_25 rfl (lv_at hl 0 rfl) ?_
  refine lv_aload_n hx hb d_Req_readOtherFields_26 rfl (lv_at hl 0 rfl) ?_
  refine va_get (D := (dC, dI)) (ci := 6) (v := .ref (ad 6)) (C := "CardMessageDesk$Request") (T := T_Req) (N := 10) hx hb hts in_Req hown hK hP 5 rfl rfl 0 (by decide) (hts _ tw58) (fun _ h9 => h9) rfl d_Req_readOtherFields_27 ?_
  refine lv_iconst (v := 4) hx hb d_Req_readOtherFields_30 (by decide) ?_
  obtain ⟨p_4, hc_4, hj⟩ := bd_some hj
  have hF_4 := va_fr hD hS hA
  refine va_calli (va_runV (As := [.int (4 : Int32)]) (rest := [.ref (ad 5)]) ⟨hx, hb, hml, hown, hts⟩ (cc_Reader_readCharacters l dC dI ad ca LA LE H.size d_3 (4 : Int32)  p_4.1 p_4.2 hc_4) (cwV 1 hts (gtV tw314 tw315 tw316 tw4 tw317) rfl rfl rfl (by decide +kernel) ⟨Nat.le_of_ble_eq_true rfl, Nat.le_of_ble_eq_true rfl⟩) ⟨cBl, va_recv hK hP (ci := 5) (q0 := 6) rfl rfl, fun U hU hW => ⟨rfl, cPr hP hK hD hN hU hW⟩⟩ rfl rfl hl.1 rfl (lv_room (Nat.le_of_ble_eq_true rfl)) d_Req_readOtherFields_31 ⟨Nat.zero_le _, Nat.zero_le _⟩) hS (fun q _ h => hF_4 q h) hF_4 (fun r u t H locs ht hvm hw hB hz1 hk1 hS => ?_)
  obtain ⟨hw1, hw2⟩ := hw
  have hw1 := hw1.symm
  subst hw1
  have hw2 := hw2.symm
  subst hw2
  obtain ⟨hP, hD⟩ := cAf hB ht hF_4
  obtain ⟨d_5, ed_5, hj⟩ := nm_some hj
  refine va_put (D := (dC, dI)) (ci := 6) (v := .int p_4.1) (ty := .int) (C := "CardMessageDesk$Request") (T := T_Req) (N := 10) hx hb hts in_Req ty_Req ty_Req_ok nm_Req hown hK hP hD hS 5 rfl rfl 7 (by decide) (hts _ tw77) (fun _ h9 => h9) rfl (by decide +kernel) rfl rfl (Nat.le_of_ble_eq_true rfl) d_Req_readOtherFields_34 (fun H locs hP hD hS => ?_)
  have hP : va_P (dC, dI) vwCl (cw ad ca LA LE d_5) H := by rw [ed_5]; exact hP
  have hD : va_D A (cw ad ca LA LE d_5) := by rw [ed_5]; exact hD
  refine lv_aload_n hx hb d_Req_readOtherFields_37 rfl (lv_at hl 0 rfl) ?_
  refine lv_ldc2 (v := 65536) hx hb hown (hts _ tw291) d_Req_readOtherFields_38 ?_
  obtain ⟨v_6, hc_6, hj⟩ := bd_some hj
  have hF_6 := va_fr hD hS hA
  refine va_calli (va_runV (As := [.long (65536 : Int64)]) (rest := []) ⟨hx, hb, hml, hown, hts⟩ (cc_Request_has l dC dI ad ca LA LE H.size d_5 (65536 : Int64)  v_6 hc_6) (cwV 1 hts (gtV tw299 tw300 tw301 tw3 tw302) rfl rfl rfl (by decide +kernel) ⟨Nat.le_of_ble_eq_true rfl, Nat.le_of_ble_eq_true rfl⟩) ⟨cBl, va_recv hK hP (ci := 6) (q0 := 5) rfl rfl, fun U hU hW => ⟨rfl, cPr hP hK hD hN hU hW⟩⟩ rfl rfl hl.1 rfl (lv_room (Nat.le_of_ble_eq_true rfl)) d_Req_readOtherFields_41 ⟨Nat.zero_le _, Nat.zero_le _⟩) hS (fun q _ h => hF_6 q h) hF_6 (fun r u t H locs ht hvm hw hB hz1 hk1 hS => ?_)
  obtain ⟨hw1, hw2⟩ := hw
  have hw1 := hw1.symm
  subst hw1
  have hw2 := hw2.symm
  subst hw2
  obtain ⟨hP, hD⟩ := cAf hB ht hF_6
  refine lv_if_eq (tgt := 66) hx hb d_Req_readOtherFields_44 (by decide) (fun c_7 => ?_) (fun c_7 => ?_)
  · have hj := it_p hj c_7
    refine lv_aload_n hx hb d_Req_readOtherFields_66 rfl (lv_at hl 0 rfl) ?_
    refine lv_iconst (v := 0) hx hb d_Req_readOtherFields_67 (by decide) ?_
    obtain ⟨d_8, ed_8, hj⟩ := nm_some hj
    refine va_put (D := (dC, dI)) (ci := 6) (v := .int (0 : Int32)) (ty := .int) (C := "CardMessageDesk$Request") (T := T_Req) (N := 10) hx hb hts in_Req ty_Req ty_Req_ok nm_Req hown hK hP hD hS 5 rfl rfl 9 (by decide) (hts _ tw82) (fun _ h9 => h9) rfl (by decide +kernel) rfl rfl (Nat.le_of_ble_eq_true rfl) d_Req_readOtherFields_68 (fun H locs hP hD hS => ?_)
    have hP : va_P (dC, dI) vwCl (cw ad ca LA LE d_8) H := by rw [ed_8]; exact hP
    have hD : va_D A (cw ad ca LA LE d_8) := by rw [ed_8]; exact hD
    refine lv_aload_n hx hb d_Req_readOtherFields_71 rfl (lv_at hl 0 rfl) ?_
    refine lv_ldc2 (v := 256) hx hb hown (hts _ tw318) d_Req_readOtherFields_72 ?_
    obtain ⟨v_9, hc_9, hj⟩ := bd_some hj
    have hF_9 := va_fr hD hS hA
    refine va_calli (va_runV (As := [.long (256 : Int64)]) (rest := []) ⟨hx, hb, hml, hown, hts⟩ (cc_Request_has l dC dI ad ca LA LE H.size d_8 (256 : Int64)  v_9 hc_9) (cwV 1 hts (gtV tw299 tw300 tw301 tw3 tw302) rfl rfl rfl (by decide +kernel) ⟨Nat.le_of_ble_eq_true rfl, Nat.le_of_ble_eq_true rfl⟩) ⟨cBl, va_recv hK hP (ci := 6) (q0 := 5) rfl rfl, fun U hU hW => ⟨rfl, cPr hP hK hD hN hU hW⟩⟩ rfl rfl hl.1 rfl (lv_room (Nat.le_of_ble_eq_true rfl)) d_Req_readOtherFields_75 ⟨Nat.zero_le _, Nat.zero_le _⟩) hS (fun q _ h => hF_9 q h) hF_9 (fun r u t H locs ht hvm hw hB hz1 hk1 hS => ?_)
    obtain ⟨hw1, hw2⟩ := hw
    have hw1 := hw1.symm
    subst hw1
    have hw2 := hw2.symm
    subst hw2
    obtain ⟨hP, hD⟩ := cAf hB ht hF_9
    refine lv_if_eq (tgt := 108) hx hb d_Req_readOtherFields_78 (by decide) (fun c_10 => ?_) (fun c_10 => ?_)
    · have hj := it_p hj c_10
      obtain rfl := Option.some.inj hj
      exact W.vret hx hb hr (fun t ht hW => ⟨⟨_, rfl, rfl, by rw [ht]; exact hP, va_K.moved hW.alike hK, hD⟩, hS.F ht⟩) hS.2.2 d_Req_readOtherFields_108
    · have hj := it_n hj c_10
      refine lv_aload_n hx hb d_Req_readOtherFields_81 rfl (lv_at hl 0 rfl) ?_
      refine va_get (D := (dC, dI)) (ci := 6) (v := .ref (ad 6)) (C := "CardMessageDesk$Request") (T := T_Req) (N := 10) hx hb hts in_Req hown hK hP 5 rfl rfl 0 (by decide) (hts _ tw58) (fun _ h9 => h9) rfl d_Req_readOtherFields_82 ?_
      refine lv_iconst (v := 2) hx hb d_Req_readOtherFields_85 (by decide) ?_
      refine lv_bipush (v := 6) hx hb d_Req_readOtherFields_86 (by decide) ?_
      refine lv_bipush (v := 6) hx hb d_Req_readOtherFields_88 (by decide) ?_
      obtain ⟨p_11, hc_11, hj⟩ := bd_some hj
      have hF_11 := va_fr hD hS hA
      refine va_calli (va_runV (As := [.int (2 : Int32), .int (6 : Int32), .int (6 : Int32)]) (rest := []) ⟨hx, hb, hml, hown, hts⟩ (cc_Reader_readCount l dC dI ad ca LA LE H.size d_8 (2 : Int32) (6 : Int32) (6 : Int32)  p_11.1 p_11.2 hc_11) (cwV 3 hts (gtV tw303 tw304 tw305 tw4 tw306) rfl rfl rfl (by decide +kernel) ⟨Nat.le_of_ble_eq_true rfl, Nat.le_of_ble_eq_true rfl⟩) ⟨cBl, va_recv hK hP (ci := 5) (q0 := 6) rfl rfl, fun U hU hW => ⟨rfl, cPr hP hK hD hN hU hW⟩⟩ rfl rfl hl.1 rfl (lv_room (Nat.le_of_ble_eq_true rfl)) d_Req_readOtherFields_90 ⟨Nat.zero_le _, Nat.zero_le _⟩) hS (fun q _ h => hF_11 q h) hF_11 (fun r u t H locs ht hvm hw hB hz1 hk1 hS => ?_)
      obtain ⟨hw1, hw2⟩ := hw
      have hw1 := hw1.symm
      subst hw1
      have hw2 := hw2.symm
      subst hw2
      obtain ⟨hP, hD⟩ := cAf hB ht hF_11
      refine lv_pop hx hb d_Req_readOtherFields_93 rfl ?_
      refine lv_aload_n hx hb d_Req_readOtherFields_94 rfl (lv_at hl 0 rfl) ?_
      refine lv_aload_n hx hb d_Req_readOtherFields_95 rfl (lv_at hl 0 rfl) ?_
      refine va_get (D := (dC, dI)) (ci := 6) (v := .ref (ad 6)) (C := "CardMessageDesk$Request") (T := T_Req) (N := 10) hx hb hts in_Req hown hK hP 5 rfl rfl 0 (by decide) (hts _ tw58) (fun _ h9 => h9) rfl d_Req_readOtherFields_96 ?_
      refine lv_bipush (v := 6) hx hb d_Req_readOtherFields_99 (by decide) ?_
      obtain ⟨p_12, hc_12, hj⟩ := bd_some hj
      have hF_12 := va_fr hD hS hA
      refine va_calll (va_runV (As := [.int (6 : Int32)]) (rest := [.ref (ad 5)]) ⟨hx, hb, hml, hown, hts⟩ (cc_Reader_readDigits l dC dI ad ca LA LE H.size p_11.2 (6 : Int32)  p_12.1 p_12.2 hc_12) (cwV 1 hts (gtV tw261 tw262 tw263 tw4 tw264) rfl rfl rfl (by decide +kernel) ⟨Nat.le_of_ble_eq_true rfl, Nat.le_of_ble_eq_true rfl⟩) ⟨cBl, va_recv hK hP (ci := 5) (q0 := 6) rfl rfl, fun U hU hW => ⟨rfl, cPr hP hK hD hN hU hW⟩⟩ rfl rfl hl.1 rfl (lv_room (Nat.le_of_ble_eq_true rfl)) d_Req_readOtherFields_101 ⟨Nat.zero_le _, Nat.zero_le _⟩) hS (fun q _ h => hF_12 q h) hF_12 (fun r u t H locs ht hvm hw hB hz1 hk1 hS => ?_)
      obtain ⟨hw1, hw2⟩ := hw
      have hw1 := hw1.symm
      subst hw1
      have hw2 := hw2.symm
      subst hw2
      obtain ⟨hP, hD⟩ := cAf hB ht hF_12
      refine lv_l2i (v := (p_12.1).toInt32) hx hb d_Req_readOtherFields_104 rfl ?_
      obtain ⟨d_13, ed_13, hj⟩ := nm_some hj
      refine va_put (D := (dC, dI)) (ci := 6) (v := .int (p_12.1).toInt32) (ty := .int) (C := "CardMessageDesk$Request") (T := T_Req) (N := 10) hx hb hts in_Req ty_Req ty_Req_ok nm_Req hown hK hP hD hS 5 rfl rfl 9 (by decide) (hts _ tw82) (fun _ h9 => h9) rfl (by decide +kernel) rfl rfl (Nat.le_of_ble_eq_true rfl) d_Req_readOtherFields_105 (fun H locs hP hD hS => ?_)
      have hP : va_P (dC, dI) vwCl (cw ad ca LA LE d_13) H := by rw [ed_13]; exact hP
      have hD : va_D A (cw ad ca LA LE d_13) := by rw [ed_13]; exact hD
      obtain rfl := Option.some.inj hj
      exact W.vret hx hb hr (fun t ht hW => ⟨⟨_, rfl, rfl, by rw [ht]; exact hP, va_K.moved hW.alike hK, hD⟩, hS.F ht⟩) hS.2.2 d_Req_readOtherFields_108
  · have hj := it_n hj c_7
    refine lv_aload_n hx hb d_Req_readOtherFields_47 rfl (lv_at hl 0 rfl) ?_
    refine va_get (D := (dC, dI)) (ci := 6) (v := .ref (ad 6)) (C := "CardMessageDesk$Request") (T := T_Req) (N := 10) hx hb hts in_Req hown hK hP 5 rfl rfl 0 (by decide) (hts _ tw58) (fun _ h9 => h9) rfl d_Req_readOtherFields_48 ?_
    refine lv_aload_n hx hb d_Req_readOtherFields_51 rfl (lv_at hl 0 rfl) ?_
    refine va_get (D := (dC, dI)) (ci := 6) (v := .ref (ad 6)) (C := "CardMessageDesk$Request") (T := T_Req) (N := 10) hx hb hts in_Req hown hK hP 5 rfl rfl 0 (by decide) (hts _ tw58) (fun _ h9 => h9) rfl d_Req_readOtherFields_52 ?_
    refine lv_iconst (v := 4) hx hb d_Req_readOtherFields_55 (by decide) ?_
    refine lv_iconst (v := 0) hx hb d_Req_readOtherFields_56 (by decide) ?_
    refine lv_bipush (v := 40) hx hb d_Req_readOtherFields_57 (by decide) ?_
    obtain ⟨p_14, hc_14, hj⟩ := bd_some hj
    have hF_14 := va_fr hD hS hA
    refine va_calli (va_runV (As := [.int (4 : Int32), .int (0 : Int32), .int (40 : Int32)]) (rest := [.ref (ad 6)]) ⟨hx, hb, hml, hown, hts⟩ (cc_Reader_readCount l dC dI ad ca LA LE H.size d_5 (4 : Int32) (0 : Int32) (40 : Int32)  p_14.1 p_14.2 hc_14) (cwV 3 hts (gtV tw303 tw304 tw305 tw4 tw306) rfl rfl rfl (by decide +kernel) ⟨Nat.le_of_ble_eq_true rfl, Nat.le_of_ble_eq_true rfl⟩) ⟨cBl, va_recv hK hP (ci := 5) (q0 := 6) rfl rfl, fun U hU hW => ⟨rfl, cPr hP hK hD hN hU hW⟩⟩ rfl rfl hl.1 rfl (lv_room (Nat.le_of_ble_eq_true rfl)) d_Req_readOtherFields_59 ⟨Nat.zero_le _, Nat.zero_le _⟩) hS (fun q _ h => hF_14 q h) hF_14 (fun r u t H locs ht hvm hw hB hz1 hk1 hS => ?_)
    obtain ⟨hw1, hw2⟩ := hw
    have hw1 := hw1.symm
    subst hw1
    have hw2 := hw2.symm
    subst hw2
    obtain ⟨hP, hD⟩ := cAf hB ht hF_14
    obtain ⟨p_15, hc_15, hj⟩ := bd_some hj
    have hF_15 := va_fr hD hS hA
    refine va_calli (va_runV (As := [.int p_14.1]) (rest := []) ⟨hx, hb, hml, hown, hts⟩ (cc_Reader_readCharacters l dC dI ad ca LA LE H.size p_14.2 p_14.1  p_15.1 p_15.2 hc_15) (cwV 1 hts (gtV tw314 tw315 tw316 tw4 tw317) rfl rfl rfl (by decide +kernel) ⟨Nat.le_of_ble_eq_true rfl, Nat.le_of_ble_eq_true rfl⟩) ⟨cBl, va_recv hK hP (ci := 5) (q0 := 6) rfl rfl, fun U hU hW => ⟨rfl, cPr hP hK hD hN hU hW⟩⟩ rfl rfl hl.1 rfl (lv_room (Nat.le_of_ble_eq_true rfl)) d_Req_readOtherFields_62 ⟨Nat.zero_le _, Nat.zero_le _⟩) hS (fun q _ h => hF_15 q h) hF_15 (fun r u t H locs ht hvm hw hB hz1 hk1 hS => ?_)
    obtain ⟨hw1, hw2⟩ := hw
    have hw1 := hw1.symm
    subst hw1
    have hw2 := hw2.symm
    subst hw2
    obtain ⟨hP, hD⟩ := cAf hB ht hF_15
    refine lv_pop hx hb d_Req_readOtherFields_65 rfl ?_
    refine lv_aload_n hx hb d_Req_readOtherFields_66 rfl (lv_at hl 0 rfl) ?_
    refine lv_iconst (v := 0) hx hb d_Req_readOtherFields_67 (by decide) ?_
    obtain ⟨d_16, ed_16, hj⟩ := nm_some hj
    refine va_put (D := (dC, dI)) (ci := 6) (v := .int (0 : Int32)) (ty := .int) (C := "CardMessageDesk$Request") (T := T_Req) (N := 10) hx hb hts in_Req ty_Req ty_Req_ok nm_Req hown hK hP hD hS 5 rfl rfl 9 (by decide) (hts _ tw82) (fun _ h9 => h9) rfl (by decide +kernel) rfl rfl (Nat.le_of_ble_eq_true rfl) d_Req_readOtherFields_68 (fun H locs hP hD hS => ?_)
    have hP : va_P (dC, dI) vwCl (cw ad ca LA LE d_16) H := by rw [ed_16]; exact hP
    have hD : va_D A (cw ad ca LA LE d_16) := by rw [ed_16]; exact hD
    refine lv_aload_n hx hb d_Req_readOtherFields_71 rfl (lv_at hl 0 rfl) ?_
    refine lv_ldc2 (v := 256) hx hb hown (hts _ tw318) d_Req_readOtherFields_72 ?_
    obtain ⟨v_17, hc_17, hj⟩ := bd_some hj
    have hF_17 := va_fr hD hS hA
    refine va_calli (va_runV (As := [.long (256 : Int64)]) (rest := []) ⟨hx, hb, hml, hown, hts⟩ (cc_Request_has l dC dI ad ca LA LE H.size d_16 (256 : Int64)  v_17 hc_17) (cwV 1 hts (gtV tw299 tw300 tw301 tw3 tw302) rfl rfl rfl (by decide +kernel) ⟨Nat.le_of_ble_eq_true rfl, Nat.le_of_ble_eq_true rfl⟩) ⟨cBl, va_recv hK hP (ci := 6) (q0 := 5) rfl rfl, fun U hU hW => ⟨rfl, cPr hP hK hD hN hU hW⟩⟩ rfl rfl hl.1 rfl (lv_room (Nat.le_of_ble_eq_true rfl)) d_Req_readOtherFields_75 ⟨Nat.zero_le _, Nat.zero_le _⟩) hS (fun q _ h => hF_17 q h) hF_17 (fun r u t H locs ht hvm hw hB hz1 hk1 hS => ?_)
    obtain ⟨hw1, hw2⟩ := hw
    have hw1 := hw1.symm
    subst hw1
    have hw2 := hw2.symm
    subst hw2
    obtain ⟨hP, hD⟩ := cAf hB ht hF_17
    refine lv_if_eq (tgt := 108) hx hb d_Req_readOtherFields_78 (by decide) (fun c_18 => ?_) (fun c_18 => ?_)
    · have hj := it_p hj c_18
      obtain rfl := Option.some.inj hj
      exact W.vret hx hb hr (fun t ht hW => ⟨⟨_, rfl, rfl, by rw [ht]; exact hP, va_K.moved hW.alike hK, hD⟩, hS.F ht⟩) hS.2.2 d_Req_readOtherFields_108
    · have hj := it_n hj c_18
      refine lv_aload_n hx hb d_Req_readOtherFields_81 rfl (lv_at hl 0 rfl) ?_
      refine va_get (D := (dC, dI)) (ci := 6) (v := .ref (ad 6)) (C := "CardMessageDesk$Request") (T := T_Req) (N := 10) hx hb hts in_Req hown hK hP 5 rfl rfl 0 (by decide) (hts _ tw58) (fun _ h9 => h9) rfl d_Req_readOtherFields_82 ?_
      refine lv_iconst (v := 2) hx hb d_Req_readOtherFields_85 (by decide) ?_
      refine lv_bipush (v := 6) hx hb d_Req_readOtherFields_86 (by decide) ?_
      refine lv_bipush (v := 6) hx hb d_Req_readOtherFields_88 (by decide) ?_
      obtain ⟨p_19, hc_19, hj⟩ := bd_some hj
      have hF_19 := va_fr hD hS hA
      refine va_calli (va_runV (As := [.int (2 : Int32), .int (6 : Int32), .int (6 : Int32)]) (rest := []) ⟨hx, hb, hml, hown, hts⟩ (cc_Reader_readCount l dC dI ad ca LA LE H.size d_16 (2 : Int32) (6 : Int32) (6 : Int32)  p_19.1 p_19.2 hc_19) (cwV 3 hts (gtV tw303 tw304 tw305 tw4 tw306) rfl rfl rfl (by decide +kernel) ⟨Nat.le_of_ble_eq_true rfl, Nat.le_of_ble_eq_true rfl⟩) ⟨cBl, va_recv hK hP (ci := 5) (q0 := 6) rfl rfl, fun U hU hW => ⟨rfl, cPr hP hK hD hN hU hW⟩⟩ rfl rfl hl.1 rfl (lv_room (Nat.le_of_ble_eq_true rfl)) d_Req_readOtherFields_90 ⟨Nat.zero_le _, Nat.zero_le _⟩) hS (fun q _ h => hF_19 q h) hF_19 (fun r u t H locs ht hvm hw hB hz1 hk1 hS => ?_)
      obtain ⟨hw1, hw2⟩ := hw
      have hw1 := hw1.symm
      subst hw1
      have hw2 := hw2.symm
      subst hw2
      obtain ⟨hP, hD⟩ := cAf hB ht hF_19
      refine lv_pop hx hb d_Req_readOtherFields_93 rfl ?_
      refine lv_aload_n hx hb d_Req_readOtherFields_94 rfl (lv_at hl 0 rfl) ?_
      refine lv_aload_n hx hb d_Req_readOtherFields_95 rfl (lv_at hl 0 rfl) ?_
      refine va_get (D := (dC, dI)) (ci := 6) (v := .ref (ad 6)) (C := "CardMessageDesk$Request") (T := T_Req) (N := 10) hx hb hts in_Req hown hK hP 5 rfl rfl 0 (by decide) (hts _ tw58) (fun _ h9 => h9) rfl d_Req_readOtherFields_96 ?_
      refine lv_bipush (v := 6) hx hb d_Req_readOtherFields_99 (by decide) ?_
      obtain ⟨p_20, hc_20, hj⟩ := bd_some hj
      have hF_20 := va_fr hD hS hA
      refine va_calll (va_runV (As := [.int (6 : Int32)]) (rest := [.ref (ad 5)]) ⟨hx, hb, hml, hown, hts⟩ (cc_Reader_readDigits l dC dI ad ca LA LE H.size p_19.2 (6 : Int32)  p_20.1 p_20.2 hc_20) (cwV 1 hts (gtV tw261 tw262 tw263 tw4 tw264) rfl rfl rfl (by decide +kernel) ⟨Nat.le_of_ble_eq_true rfl, Nat.le_of_ble_eq_true rfl⟩) ⟨cBl, va_recv hK hP (ci := 5) (q0 := 6) rfl rfl, fun U hU hW => ⟨rfl, cPr hP hK hD hN hU hW⟩⟩ rfl rfl hl.1 rfl (lv_room (Nat.le_of_ble_eq_true rfl)) d_Req_readOtherFields_101 ⟨Nat.zero_le _, Nat.zero_le _⟩) hS (fun q _ h => hF_20 q h) hF_20 (fun r u t H locs ht hvm hw hB hz1 hk1 hS => ?_)
      obtain ⟨hw1, hw2⟩ := hw
      have hw1 := hw1.symm
      subst hw1
      have hw2 := hw2.symm
      subst hw2
      obtain ⟨hP, hD⟩ := cAf hB ht hF_20
      refine lv_l2i (v := (p_20.1).toInt32) hx hb d_Req_readOtherFields_104 rfl ?_
      obtain ⟨d_21, ed_21, hj⟩ := nm_some hj
      refine va_put (D := (dC, dI)) (ci := 6) (v := .int (p_20.1).toInt32) (ty := .int) (C := "CardMessageDesk$Request") (T := T_Req) (N := 10) hx hb hts in_Req ty_Req ty_Req_ok nm_Req hown hK hP hD hS 5 rfl rfl 9 (by decide) (hts _ tw82) (fun _ h9 => h9) rfl (by decide +kernel) rfl rfl (Nat.le_of_ble_eq_true rfl) d_Req_readOtherFields_105 (fun H locs hP hD hS => ?_)
      have hP : va_P (dC, dI) vwCl (cw ad ca LA LE d_21) H := by rw [ed_21]; exact hP
      have hD : va_D A (cw ad ca LA LE d_21) := by rw [ed_21]; exact hD
      obtain rfl := Option.some.inj hj
      exact W.vret hx hb hr (fun t ht hW => ⟨⟨_, rfl, rfl, by rw [ht]; exact hP, va_K.moved hW.alike hK, hD⟩, hS.F ht⟩) hS.2.2 d_Req_readOtherFields_108
set_option maxHeartbeats 4000000 in
set_option maxRecDepth 100000 in
theorem cc_Reader_isAtGoodEnd (l : Launch) (dC : Nat → ClassId) (dI : Nat → Nat → Nat) (ad : Nat → Nat) (ca : Nat → ClassId) (LA LE : List Nat) (sz : Nat) (d : CS)   (r9 : Int32) (hj : jc_Reader_isAtGoodEnd LA LE d = some r9) : Met l y_Rdr_isAtGoodEnd w_Rdr_isAtGoodEnd ({ frames := 0, cells := 0, slots := 0, locals := 0 }) (va_Pc [.ref (ad 6)] (cPre dC dI ad ca LA LE sz d)) (va_Qi (fun (r : Int32) (u : CS) => r = r9 ∧ u = d) (cAt dC dI ad ca LA LE (va_A (cw ad ca LA LE d) sz)) (va_A (cw ad ca LA LE d) sz)) 0 0 (va_A (cw ad ca LA LE d) sz) := by
  refine Met.ofW (cc := prog_7_method_3_code) (maxL := 1) (ret := (some .boolean)) (by decide) rfl ?_
  intro p e s m args below meth c s₁ B hml hv
  obtain ⟨rfl, hsz, hP, hK, hD0, hN⟩ := hv
  have hx := B.exec
  have hb := B.bytes
  have hr := B.returns
  have hts0 := atoms_spec (ws := w_Rdr_isAtGoodEnd) B.pre
  have hts : ∀ w ∈ gt, w.before _ s = true := fun w h => hts0 w (List.mem_cons_of_mem _ h)
  have hown : s.vm.findClass "CardMessageDesk$Reader" = some m.cls := findClass_of_methodNamed B.named
  have hlocks := B.notSynchronized
  subst hsz
  have hD := hD0.self (sz := s.heap.size)
  generalize hAe : va_A (cw ad ca LA LE d) s.heap.size = A at hD ⊢
  have hA : ∀ q : Nat, s.heap.size ≤ q → A q := fun q h => by rw [← hAe]; exact Or.inr h
  have hS : va_S A s.heap s.heap [] := va_S.rf
  have hl := lv_entry ([.ref (ad 6)]) (n := 1) (Nat.le_of_ble_eq_true rfl)
  rw [lg_entry_eq]
  generalize (lg_sl ([.ref (ad 6)]) ++ List.replicate (1 - (lg_sl ([.ref (ad 6)])).length) Slot.unset).toArray = ls at hl ⊢
  have hl : lv_has ls 1 [(0, .ref (ad 6))] := hl
  unfold jc_Reader_isAtGoodEnd at hj
  refine lv_aload_n hx hb d_Rdr_isAtGoodEnd_0 rfl (lv_at hl 0 rfl) ?_
  refine va_get (D := (dC, dI)) (ci := 5) (v := .int (cg_rdGood d)) (C := "CardMessageDesk$Reader") (T := T_Rdr) (N := 3) hx hb hts in_Rdr hown hK hP 6 rfl rfl 2 (by decide) (hts _ tw50) (fun _ h9 => h9) rfl d_Rdr_isAtGoodEnd_1 ?_
  refine lv_if_eq (tgt := 25) hx hb d_Rdr_isAtGoodEnd_4 (by decide) (fun c_1 => ?_) (fun c_1 => ?_)
  · have hj := it_p hj c_1
    refine lv_iconst (v := 0) hx hb d_Rdr_isAtGoodEnd_25 (by decide) ?_
    obtain rfl := Option.some.inj hj
    exact W.zret (ty := .boolean) hx hb hr rfl (fun t ht hW => ⟨⟨_, _, rfl, ⟨rfl, rfl⟩, by rw [ht]; exact hP, va_K.moved hW.alike hK, hD⟩, hS.F ht⟩) hS.2.2 d_Rdr_isAtGoodEnd_26
  · have hj := it_n hj c_1
    refine lv_aload_n hx hb d_Rdr_isAtGoodEnd_7 rfl (lv_at hl 0 rfl) ?_
    refine va_get (D := (dC, dI)) (ci := 5) (v := .int (cg_rdPlace d)) (C := "CardMessageDesk$Reader") (T := T_Rdr) (N := 3) hx hb hts in_Rdr hown hK hP 6 rfl rfl 1 (by decide) (hts _ tw48) (fun _ h9 => h9) rfl d_Rdr_isAtGoodEnd_8 ?_
    refine lv_aload_n hx hb d_Rdr_isAtGoodEnd_11 rfl (lv_at hl 0 rfl) ?_
    refine va_get (D := (dC, dI)) (ci := 5) (v := .ref (ad 1)) (C := "CardMessageDesk$Reader") (T := T_Rdr) (N := 3) hx hb hts in_Rdr hown hK hP 6 rfl rfl 0 (by decide) (hts _ tw47) (fun _ h9 => h9) rfl d_Rdr_isAtGoodEnd_12 ?_
    refine va_getN (D := (dC, dI)) (ci := 1) (v := .int (cg_inSize d)) (C := "CardMessageDesk$ByteRow") (T := T_Row) (N := 2) hx hb hts in_Row hown hK hP 1 rfl rfl 1 (by decide) (nw_f hN (i := 1) rfl) (fun _ h9 => h9) rfl d_Rdr_isAtGoodEnd_15 ?_
    refine lv_icmp_ne (tgt := 25) hx hb d_Rdr_isAtGoodEnd_18 (by decide) (fun c_2 => ?_) (fun c_2 => ?_)
    · have hj := it_n hj c_2
      refine lv_iconst (v := 0) hx hb d_Rdr_isAtGoodEnd_25 (by decide) ?_
      obtain rfl := Option.some.inj hj
      exact W.zret (ty := .boolean) hx hb hr rfl (fun t ht hW => ⟨⟨_, _, rfl, ⟨rfl, rfl⟩, by rw [ht]; exact hP, va_K.moved hW.alike hK, hD⟩, hS.F ht⟩) hS.2.2 d_Rdr_isAtGoodEnd_26
    · have hj := it_p hj c_2
      refine lv_iconst (v := 1) hx hb d_Rdr_isAtGoodEnd_21 (by decide) ?_
      refine lv_goto (tgt := 26) hx hb d_Rdr_isAtGoodEnd_22 (by decide) ?_
      obtain rfl := Option.some.inj hj
      exact W.zret (ty := .boolean) hx hb hr rfl (fun t ht hW => ⟨⟨_, _, rfl, ⟨rfl, rfl⟩, by rw [ht]; exact hP, va_K.moved hW.alike hK, hD⟩, hS.F ht⟩) hS.2.2 d_Rdr_isAtGoodEnd_26
set_option maxHeartbeats 4000000 in
set_option maxRecDepth 100000 in
theorem cc_Request_readWhole (l : Launch) (dC : Nat → ClassId) (dI : Nat → Nat → Nat) (ad : Nat → Nat) (ca : Nat → ClassId) (LA LE : List Nat) (sz : Nat) (d : CS)   (r9 : Int32) (d9 : CS) (hj : jc_Request_readWhole LA LE d = some (r9, d9)) : Met l y_Req_readWhole w_Req_readWhole ({ frames := 5, cells := 0, slots := 0, locals := 115 }) (va_Pc [.ref (ad 5)] (cPre dC dI ad ca LA LE sz d)) (va_Qi (fun (r : Int32) (u : CS) => r = r9 ∧ u = d9) (cAt dC dI ad ca LA LE (va_A (cw ad ca LA LE d) sz)) (va_A (cw ad ca LA LE d) sz)) 0 0 (va_A (cw ad ca LA LE d) sz) := by
  refine Met.ofW (cc := prog_8_method_4_code) (maxL := 1) (ret := (some .boolean)) (by decide) rfl ?_
  intro p e s m args below meth c s₁ B hml hv
  obtain ⟨rfl, hsz, hP, hK, hD0, hN⟩ := hv
  have hx := B.exec
  have hb := B.bytes
  have hr := B.returns
  have hts0 := atoms_spec (ws := w_Req_readWhole) B.pre
  have hts : ∀ w ∈ gt, w.before _ s = true := fun w h => hts0 w (List.mem_cons_of_mem _ h)
  have hown : s.vm.findClass "CardMessageDesk$Request" = some m.cls := findClass_of_methodNamed B.named
  have hlocks := B.notSynchronized
  subst hsz
  have hD := hD0.self (sz := s.heap.size)
  generalize hAe : va_A (cw ad ca LA LE d) s.heap.size = A at hD ⊢
  have hA : ∀ q : Nat, s.heap.size ≤ q → A q := fun q h => by rw [← hAe]; exact Or.inr h
  have hS : va_S A s.heap s.heap [] := va_S.rf
  have hl := lv_entry ([.ref (ad 5)]) (n := 1) (Nat.le_of_ble_eq_true rfl)
  rw [lg_entry_eq]
  generalize (lg_sl ([.ref (ad 5)]) ++ List.replicate (1 - (lg_sl ([.ref (ad 5)])).length) Slot.unset).toArray = ls at hl ⊢
  have hl : lv_has ls 1 [(0, .ref (ad 5))] := hl
  unfold jc_Request_readWhole at hj
  refine lv_aload_n hx hb d_Req_readWhole_0 rfl (lv_at hl 0 rfl) ?_
  refine va_get (D := (dC, dI)) (ci := 6) (v := .ref (ad 6)) (C := "CardMessageDesk$Request") (T := T_Req) (N := 10) hx hb hts in_Req hown hK hP 5 rfl rfl 0 (by decide) (hts _ tw58) (fun _ h9 => h9) rfl d_Req_readWhole_1 ?_
  obtain ⟨d_1, hc_1, hj⟩ := bd_some hj
  have hF_1 := va_fr hD hS hA
  refine va_callv (va_runV (As := []) (rest := []) ⟨hx, hb, hml, hown, hts⟩ (cc_Reader_restart l dC dI ad ca LA LE s.heap.size d   d_1 hc_1) (cwV 0 hts (gtV tw257 tw258 tw259 tw4 tw260) rfl rfl rfl (by decide +kernel) ⟨Nat.le_of_ble_eq_true rfl, Nat.le_of_ble_eq_true rfl⟩) ⟨cBl, va_recv hK hP (ci := 5) (q0 := 6) rfl rfl, fun U hU hW => ⟨rfl, cPr hP hK hD hN hU hW⟩⟩ rfl rfl hl.1 rfl (lv_room (Nat.le_of_ble_eq_true rfl)) d_Req_readWhole_4 ⟨Nat.zero_le _, Nat.zero_le _⟩) hS (fun q _ h => hF_1 q h) hF_1 (fun u t H locs ht hvm hw hB hz1 hk1 hS => ?_)
  have hw := hw.symm
  subst hw
  obtain ⟨hP, hD⟩ := cAf hB ht hF_1
  refine lv_aload_n hx hb d_Req_readWhole_7 rfl (lv_at hl 0 rfl) ?_
  refine lv_aload_n hx hb d_Req_readWhole_8 rfl (lv_at hl 0 rfl) ?_
  refine va_get (D := (dC, dI)) (ci := 6) (v := .ref (ad 6)) (C := "CardMessageDesk$Request") (T := T_Req) (N := 10) hx hb hts in_Req hown hK hP 5 rfl rfl 0 (by decide) (hts _ tw58) (fun _ h9 => h9) rfl d_Req_readWhole_9 ?_
  refine lv_iconst (v := 4) hx hb d_Req_readWhole_12 (by decide) ?_
  obtain ⟨p_2, hc_2, hj⟩ := bd_some hj
  have hF_2 := va_fr hD hS hA
  refine va_calll (va_runV (As := [.int (4 : Int32)]) (rest := [.ref (ad 5)]) ⟨hx, hb, hml, hown, hts⟩ (cc_Reader_readDigits l dC dI ad ca LA LE H.size d_1 (4 : Int32)  p_2.1 p_2.2 hc_2) (cwV 1 hts (gtV tw261 tw262 tw263 tw4 tw264) rfl rfl rfl (by decide +kernel) ⟨Nat.le_of_ble_eq_true rfl, Nat.le_of_ble_eq_true rfl⟩) ⟨cBl, va_recv hK hP (ci := 5) (q0 := 6) rfl rfl, fun U hU hW => ⟨rfl, cPr hP hK hD hN hU hW⟩⟩ rfl rfl hl.1 rfl (lv_room (Nat.le_of_ble_eq_true rfl)) d_Req_readWhole_13 ⟨Nat.zero_le _, Nat.zero_le _⟩) hS (fun q _ h => hF_2 q h) hF_2 (fun r u t H locs ht hvm hw hB hz1 hk1 hS => ?_)
  obtain ⟨hw1, hw2⟩ := hw
  have hw1 := hw1.symm
  subst hw1
  have hw2 := hw2.symm
  subst hw2
  obtain ⟨hP, hD⟩ := cAf hB ht hF_2
  refine lv_l2i (v := (p_2.1).toInt32) hx hb d_Req_readWhole_16 rfl ?_
  obtain ⟨d_3, ed_3, hj⟩ := nm_some hj
  refine va_put (D := (dC, dI)) (ci := 6) (v := .int (p_2.1).toInt32) (ty := .int) (C := "CardMessageDesk$Request") (T := T_Req) (N := 10) hx hb hts in_Req ty_Req ty_Req_ok nm_Req hown hK hP hD hS 5 rfl rfl 1 (by decide) (hts _ tw61) (fun _ h9 => h9) rfl (by decide +kernel) rfl rfl (Nat.le_of_ble_eq_true rfl) d_Req_readWhole_17 (fun H locs hP hD hS => ?_)
  have hP : va_P (dC, dI) vwCl (cw ad ca LA LE d_3) H := by rw [ed_3]; exact hP
  have hD : va_D A (cw ad ca LA LE d_3) := by rw [ed_3]; exact hD
  refine lv_aload_n hx hb d_Req_readWhole_20 rfl (lv_at hl 0 rfl) ?_
  refine lv_aload_n hx hb d_Req_readWhole_21 rfl (lv_at hl 0 rfl) ?_
  refine va_get (D := (dC, dI)) (ci := 6) (v := .ref (ad 6)) (C := "CardMessageDesk$Request") (T := T_Req) (N := 10) hx hb hts in_Req hown hK hP 5 rfl rfl 0 (by decide) (hts _ tw58) (fun _ h9 => h9) rfl d_Req_readWhole_22 ?_
  refine lv_bipush (v := 8) hx hb d_Req_readWhole_25 (by decide) ?_
  obtain ⟨p_4, hc_4, hj⟩ := bd_some hj
  have hF_4 := va_fr hD hS hA
  refine va_calll (va_runV (As := [.int (8 : Int32)]) (rest := [.ref (ad 5)]) ⟨hx, hb, hml, hown, hts⟩ (cc_Reader_readBytes l dC dI ad ca LA LE H.size d_3 (8 : Int32)  p_4.1 p_4.2 hc_4) (cwV 1 hts (gtV tw274 tw275 tw276 tw4 tw277) rfl rfl rfl (by decide +kernel) ⟨Nat.le_of_ble_eq_true rfl, Nat.le_of_ble_eq_true rfl⟩) ⟨cBl, va_recv hK hP (ci := 5) (q0 := 6) rfl rfl, fun U hU hW => ⟨rfl, cPr hP hK hD hN hU hW⟩⟩ rfl rfl hl.1 rfl (lv_room (Nat.le_of_ble_eq_true rfl)) d_Req_readWhole_27 ⟨Nat.zero_le _, Nat.zero_le _⟩) hS (fun q _ h => hF_4 q h) hF_4 (fun r u t H locs ht hvm hw hB hz1 hk1 hS => ?_)
  obtain ⟨hw1, hw2⟩ := hw
  have hw1 := hw1.symm
  subst hw1
  have hw2 := hw2.symm
  subst hw2
  obtain ⟨hP, hD⟩ := cAf hB ht hF_4
  obtain ⟨d_5, ed_5, hj⟩ := nm_some hj
  refine va_put (D := (dC, dI)) (ci := 6) (v := .long p_4.1) (ty := .long) (C := "CardMessageDesk$Request") (T := T_Req) (N := 10) hx hb hts in_Req ty_Req ty_Req_ok nm_Req hown hK hP hD hS 5 rfl rfl 2 (by decide) (hts _ tw63) (fun _ h9 => h9) rfl (by decide +kernel) rfl rfl (Nat.le_of_ble_eq_true rfl) d_Req_readWhole_30 (fun H locs hP hD hS => ?_)
  have hP : va_P (dC, dI) vwCl (cw ad ca LA LE d_5) H := by rw [ed_5]; exact hP
  have hD : va_D A (cw ad ca LA LE d_5) := by rw [ed_5]; exact hD
  refine lv_aload_n hx hb d_Req_readWhole_33 rfl (lv_at hl 0 rfl) ?_
  refine va_get (D := (dC, dI)) (ci := 6) (v := .int (cg_rqType d_5)) (C := "CardMessageDesk$Request") (T := T_Req) (N := 10) hx hb hts in_Req hown hK hP 5 rfl rfl 1 (by decide) (hts _ tw61) (fun _ h9 => h9) rfl d_Req_readWhole_34 ?_
  refine lv_bipush (v := 10) hx hb d_Req_readWhole_37 (by decide) ?_
  refine lv_idiv hx hb d_Req_readWhole_39 (by decide +kernel) ?_
  refine lv_bipush (v := 10) hx hb d_Req_readWhole_40 (by decide) ?_
  refine lv_irem hx hb d_Req_readWhole_42 (by decide +kernel) ?_
  refine lv_if_ne (tgt := 53) hx hb d_Req_readWhole_43 (by decide) (fun c_6 => ?_) (fun c_6 => ?_)
  · have hj := it_n hj c_6
    refine lv_iconst (v := 0) hx hb d_Req_readWhole_53 (by decide) ?_
    obtain ⟨rfl, rfl⟩ := rt_some hj
    exact W.zret (ty := .boolean) hx hb hr rfl (fun t ht hW => ⟨⟨_, _, rfl, ⟨rfl, rfl⟩, by rw [ht]; exact hP, va_K.moved hW.alike hK, hD⟩, hS.F ht⟩) hS.2.2 d_Req_readWhole_54
  · have hj := it_p hj c_6
    refine lv_aload_n hx hb d_Req_readWhole_46 rfl (lv_at hl 0 rfl) ?_
    obtain ⟨v_7, hc_7, hj⟩ := bd_some hj
    have hF_7 := va_fr hD hS hA
    refine va_calli (va_runV (As := []) (rest := []) ⟨hx, hb, hml, hown, hts⟩ (cc_Request_fieldsBelong l dC dI ad ca LA LE H.size d_5   v_7 hc_7) (cwV 0 hts (gtV tw278 tw280 ts0 tw3 tw281) rfl rfl rfl (by decide +kernel) ⟨Nat.le_of_ble_eq_true rfl, Nat.le_of_ble_eq_true rfl⟩) ⟨cBl, va_recv hK hP (ci := 6) (q0 := 5) rfl rfl, fun U hU hW => ⟨rfl, cPr hP hK hD hN hU hW⟩⟩ rfl rfl hl.1 rfl (lv_room (Nat.le_of_ble_eq_true rfl)) d_Req_readWhole_47 ⟨Nat.zero_le _, Nat.zero_le _⟩) hS (fun q _ h => hF_7 q h) hF_7 (fun r u t H locs ht hvm hw hB hz1 hk1 hS => ?_)
    obtain ⟨hw1, hw2⟩ := hw
    have hw1 := hw1.symm
    subst hw1
    have hw2 := hw2.symm
    subst hw2
    obtain ⟨hP, hD⟩ := cAf hB ht hF_7
    refine lv_if_ne (tgt := 55) hx hb d_Req_readWhole_50 (by decide) (fun c_8 => ?_) (fun c_8 => ?_)
    · have hj := it_n hj c_8
      refine lv_aload_n hx hb d_Req_readWhole_55 rfl (lv_at hl 0 rfl) ?_
      obtain ⟨d_9, hc_9, hj⟩ := bd_some hj
      have hF_9 := va_fr hD hS hA
      refine va_callv (va_runV (As := []) (rest := []) ⟨hx, hb, hml, hown, hts⟩ (cc_Request_readMoneyFields l dC dI ad ca LA LE H.size d_5   d_9 hc_9) (cwV 0 hts (gtV tw294 tw296 ts1 tw3 tw297) rfl rfl rfl (by decide +kernel) ⟨Nat.le_of_ble_eq_true rfl, Nat.le_of_ble_eq_true rfl⟩) ⟨cBl, va_recv hK hP (ci := 6) (q0 := 5) rfl rfl, fun U hU hW => ⟨rfl, cPr hP hK hD hN hU hW⟩⟩ rfl rfl hl.1 rfl (lv_room (Nat.le_of_ble_eq_true rfl)) d_Req_readWhole_56 ⟨Nat.zero_le _, Nat.zero_le _⟩) hS (fun q _ h => hF_9 q h) hF_9 (fun u t H locs ht hvm hw hB hz1 hk1 hS => ?_)
      have hw := hw.symm
      subst hw
      obtain ⟨hP, hD⟩ := cAf hB ht hF_9
      refine lv_aload_n hx hb d_Req_readWhole_59 rfl (lv_at hl 0 rfl) ?_
      obtain ⟨d_10, hc_10, hj⟩ := bd_some hj
      have hF_10 := va_fr hD hS hA
      refine va_callv (va_runV (As := []) (rest := []) ⟨hx, hb, hml, hown, hts⟩ (cc_Request_readOtherFields l dC dI ad ca LA LE H.size d_9   d_10 hc_10) (cwV 0 hts (gtV tw310 tw312 ts2 tw3 tw313) rfl rfl rfl (by decide +kernel) ⟨Nat.le_of_ble_eq_true rfl, Nat.le_of_ble_eq_true rfl⟩) ⟨cBl, va_recv hK hP (ci := 6) (q0 := 5) rfl rfl, fun U hU hW => ⟨rfl, cPr hP hK hD hN hU hW⟩⟩ rfl rfl hl.1 rfl (lv_room (Nat.le_of_ble_eq_true rfl)) d_Req_readWhole_60 ⟨Nat.zero_le _, Nat.zero_le _⟩) hS (fun q _ h => hF_10 q h) hF_10 (fun u t H locs ht hvm hw hB hz1 hk1 hS => ?_)
      have hw := hw.symm
      subst hw
      obtain ⟨hP, hD⟩ := cAf hB ht hF_10
      refine lv_aload_n hx hb d_Req_readWhole_63 rfl (lv_at hl 0 rfl) ?_
      refine va_get (D := (dC, dI)) (ci := 6) (v := .ref (ad 6)) (C := "CardMessageDesk$Request") (T := T_Req) (N := 10) hx hb hts in_Req hown hK hP 5 rfl rfl 0 (by decide) (hts _ tw58) (fun _ h9 => h9) rfl d_Req_readWhole_64 ?_
      obtain ⟨v_11, hc_11, hj⟩ := bd_some hj
      have hF_11 := va_fr hD hS hA
      refine va_calli (va_runV (As := []) (rest := []) ⟨hx, hb, hml, hown, hts⟩ (cc_Reader_isAtGoodEnd l dC dI ad ca LA LE H.size d_10   v_11 hc_11) (cwV 0 hts (gtV tw319 tw320 tw321 tw4 tw322) rfl rfl rfl (by decide +kernel) ⟨Nat.le_of_ble_eq_true rfl, Nat.le_of_ble_eq_true rfl⟩) ⟨cBl, va_recv hK hP (ci := 5) (q0 := 6) rfl rfl, fun U hU hW => ⟨rfl, cPr hP hK hD hN hU hW⟩⟩ rfl rfl hl.1 rfl (lv_room (Nat.le_of_ble_eq_true rfl)) d_Req_readWhole_67 ⟨Nat.zero_le _, Nat.zero_le _⟩) hS (fun q _ h => hF_11 q h) hF_11 (fun r u t H locs ht hvm hw hB hz1 hk1 hS => ?_)
      obtain ⟨hw1, hw2⟩ := hw
      have hw1 := hw1.symm
      subst hw1
      have hw2 := hw2.symm
      subst hw2
      obtain ⟨hP, hD⟩ := cAf hB ht hF_11
      obtain ⟨hz_12, hj⟩ := gd_some hj
      obtain ⟨rfl, rfl⟩ := rt_some hj
      exact W.zret (ty := .boolean) hx hb hr (bz_n hz_12) (fun t ht hW => ⟨⟨_, _, rfl, ⟨rfl, rfl⟩, by rw [ht]; exact hP, va_K.moved hW.alike hK, hD⟩, hS.F ht⟩) hS.2.2 d_Req_readWhole_70
    · have hj := it_p hj c_8
      refine lv_iconst (v := 0) hx hb d_Req_readWhole_53 (by decide) ?_
      obtain ⟨rfl, rfl⟩ := rt_some hj
      exact W.zret (ty := .boolean) hx hb hr rfl (fun t ht hW => ⟨⟨_, _, rfl, ⟨rfl, rfl⟩, by rw [ht]; exact hP, va_K.moved hW.alike hK, hD⟩, hS.F ht⟩) hS.2.2 d_Req_readWhole_54
set_option maxHeartbeats 4000000 in
set_option maxRecDepth 100000 in
theorem cc_ByteRow_clear_in (l : Launch) (dC : Nat → ClassId) (dI : Nat → Nat → Nat) (ad : Nat → Nat) (ca : Nat → ClassId) (LA LE : List Nat) (sz : Nat) (d : CS)   (d9 : CS) (hj : jc_ByteRow_clear_in LA LE d = some d9) : Met l y_Row_clear w_Row_clear ({ frames := 0, cells := 0, slots := 0, locals := 0 }) (va_Pc [.ref (ad 1)] (cPre dC dI ad ca LA LE sz d)) (va_Qv (fun u : CS => u = d9) (cAt dC dI ad ca LA LE (va_A (cw ad ca LA LE d) sz)) (va_A (cw ad ca LA LE d) sz)) 0 0 (va_A (cw ad ca LA LE d) sz) := by
  refine Met.ofW (cc := prog_3_method_2_code) (maxL := 1) (ret := none) (by decide) rfl ?_
  intro p e s m args below meth c s₁ B hml hv
  obtain ⟨rfl, hsz, hP, hK, hD0, hN⟩ := hv
  have hx := B.exec
  have hb := B.bytes
  have hr := B.returns
  have hts0 := atoms_spec (ws := w_Row_clear) B.pre
  have hts : ∀ w ∈ gt, w.before _ s = true := fun w h => hts0 w (List.mem_cons_of_mem _ h)
  have hown : s.vm.findClass "CardMessageDesk$ByteRow" = some m.cls := findClass_of_methodNamed B.named
  have hlocks := B.notSynchronized
  subst hsz
  have hD := hD0.self (sz := s.heap.size)
  generalize hAe : va_A (cw ad ca LA LE d) s.heap.size = A at hD ⊢
  have hA : ∀ q : Nat, s.heap.size ≤ q → A q := fun q h => by rw [← hAe]; exact Or.inr h
  have hS : va_S A s.heap s.heap [] := va_S.rf
  have hl := lv_entry ([.ref (ad 1)]) (n := 1) (Nat.le_of_ble_eq_true rfl)
  rw [lg_entry_eq]
  generalize (lg_sl ([.ref (ad 1)]) ++ List.replicate (1 - (lg_sl ([.ref (ad 1)])).length) Slot.unset).toArray = ls at hl ⊢
  have hl : lv_has ls 1 [(0, .ref (ad 1))] := hl
  unfold jc_ByteRow_clear_in at hj
  refine lv_aload_n hx hb d_Row_clear_0 rfl (lv_at hl 0 rfl) ?_
  refine lv_iconst (v := 0) hx hb d_Row_clear_1 (by decide) ?_
  obtain ⟨d_1, ed_1, hj⟩ := nm_some hj
  refine va_put (D := (dC, dI)) (ci := 1) (v := .int (0 : Int32)) (ty := .int) (C := "CardMessageDesk$ByteRow") (T := T_Row) (N := 2) hx hb hts in_Row ty_Row ty_Row_ok nm_Row hown hK hP hD hS 1 rfl rfl 1 (by decide) (hts _ tw26) (fun _ h9 => h9) rfl (by decide +kernel) rfl rfl (Nat.le_of_ble_eq_true rfl) d_Row_clear_2 (fun H locs hP hD hS => ?_)
  have hP : va_P (dC, dI) vwCl (cw ad ca LA LE d_1) H := by rw [ed_1]; exact hP
  have hD : va_D A (cw ad ca LA LE d_1) := by rw [ed_1]; exact hD
  obtain rfl := Option.some.inj hj
  exact W.vret hx hb hr (fun t ht hW => ⟨⟨_, rfl, rfl, by rw [ht]; exact hP, va_K.moved hW.alike hK, hD⟩, hS.F ht⟩) hS.2.2 d_Row_clear_5
set_option maxHeartbeats 4000000 in
set_option maxRecDepth 100000 in
theorem cc_Journal_findSame_L2 {p : Program} {l : Launch} {e : Env} {s : State} {m : MethodId} {args : Array Value} {below : List Frame} {meth : Method} {c : Code} {dC : Nat → ClassId} {dI : Nat → Nat → Nat} {ad : Nat → Nat} {ca : Nat → ClassId} {LA LE : List Nat} {A : Nat → Prop} (d : CS)   (r9 : Option Nat) (hx : p.tables.exec = Jvm.exec) (hb : c.code = prog_6_method_3_code) (hr : meth.sig.returnType = (some (.object "CardMessageDesk$Entry"))) (hlocks : meth.locks = false) (hml : c.maxLocals = 4) (hown : s.vm.findClass "CardMessageDesk$Journal" = some m.cls) (hts : ∀ w ∈ gt, w.before args s = true) (hN : nw s) (hA : ∀ q : Nat, s.heap.size ≤ q → A q) (hK : va_K (dC, dI) vwCl (cT ca) s) :
    ∀ (n : Nat) (x2 : Int32) (H : Heap) (locs : List Loc) (ls : Array Slot), loopF (jc_Journal_findSame_L2 LA LE d) n x2 = some r9 → va_P (dC, dI) vwCl (cw ad ca LA LE d) H → va_D A (cw ad ca LA LE d) → va_S A s.heap H locs → lv_has ls 4 [(0, .ref (ad 9)), (1, .ref (ad 5)), (2, .int x2)] → W p l e ({ frames := 0, cells := 0, slots := 0, locals := 0 }) s m args below meth c H locs 0 0 (MQ below (va_Qq (fun (r : Option Nat) (u : CS) => r = r9 ∧ u = d) (cAt dC dI ad ca LA LE A) A) args s 0 0 A) (F0 m 2 ls []) := by
  intro n
  induction n with
  | zero =>
    intro x2 H locs ls hj
    exact (loopF_z hj).elim
  | succ n ih =>
    intro x2 H locs ls hj hP hD hS hl
    have hj := loopF_s hj
    unfold jc_Journal_findSame_L2 at hj
    try dsimp only at hj
    refine lv_iload_n hx hb d_Jou_findSame_2 rfl (lv_at hl 2 rfl) ?_
    refine lv_aload_n hx hb d_Jou_findSame_3 rfl (lv_at hl 0 rfl) ?_
    refine va_get (D := (dC, dI)) (ci := 4) (v := .int (cg_jSize d)) (C := "CardMessageDesk$Journal") (T := T_Jou) (N := 3) hx hb hts in_Jou hown hK hP 9 rfl rfl 1 (by decide) (hts _ tw186) (fun _ h9 => h9) rfl d_Jou_findSame_4 ?_
    refine lv_icmp_ge (tgt := 58) hx hb d_Jou_findSame_7 (by decide) (fun c_1 => ?_) (fun c_1 => ?_)
    · have hj := it_p hj c_1
      refine lv_null hx hb d_Jou_findSame_58 ?_
      obtain rfl := Option.some.inj hj
      exact W.aret hx hb hr (Or.inl ⟨_, rfl⟩) (Or.inl rfl) (fun t ht hW => ⟨⟨none, _, rfl, ⟨rfl, rfl⟩, by rw [ht]; exact hP, va_K.moved hW.alike hK, hD⟩, hS.F ht⟩) hS.2.2 d_Jou_findSame_59
    · have hj := it_n hj c_1
      refine lv_aload_n hx hb d_Jou_findSame_10 rfl (lv_at hl 0 rfl) ?_
      refine va_get (D := (dC, dI)) (ci := 4) (v := .ref (ad 10)) (C := "CardMessageDesk$Journal") (T := T_Jou) (N := 3) hx hb hts in_Jou hown hK hP 9 rfl rfl 0 (by decide) (hts _ tw185) (fun _ h9 => h9) rfl d_Jou_findSame_11 ?_
      refine lv_iload_n hx hb d_Jou_findSame_14 rfl (lv_at hl 2 rfl) ?_
      obtain ⟨hi_2, hj⟩ := gd_some hj
      refine va_aldq hx hb hK hP 10 3 rfl rfl hi_2 d_Jou_findSame_15 ?_
      obtain ⟨a_2, ho_2, hm_a_2, hj⟩ := gq_some hj
      rw [ho_2]
      refine lv_astore_n (lv' := [(3, .ref a_2), (0, .ref (ad 9)), (1, .ref (ad 5)), (2, .int x2)]) hx hb d_Jou_findSame_16 rfl hl (by decide) rfl (fun ls hl => ?_)
      refine lv_aload_n hx hb d_Jou_findSame_17 rfl (lv_at hl 0 rfl) ?_
      obtain ⟨kx_3, hkx_3⟩ := ent_at (ad := ad) (ca := ca) (LA := LA) (LE := LE) (d := _) hm_a_2
      refine va_getN (D := (dC, dI)) (ci := 3) (v := .int (ce_type (cg_ent d a_2))) (C := "CardMessageDesk$Entry") (T := T_Ent) (N := 9) hx hb hts in_Ent hown hK hP kx_3 hkx_3 rfl 0 (by decide) (nw_f hN (i := 23) rfl) (fun _ h9 => h9) rfl d_Jou_findSame_18 ?_
      refine lv_aload_n hx hb d_Jou_findSame_21 rfl (lv_at hl 2 rfl) ?_
      refine va_getN (D := (dC, dI)) (ci := 6) (v := .int (cg_rqType d)) (C := "CardMessageDesk$Request") (T := T_Req) (N := 10) hx hb hts in_Req hown hK hP 5 rfl rfl 1 (by decide) (nw_f hN (i := 4) rfl) (fun _ h9 => h9) rfl d_Jou_findSame_22 ?_
      refine lv_icmp_ne (tgt := 52) hx hb d_Jou_findSame_25 (by decide) (fun c_4 => ?_) (fun c_4 => ?_)
      · have hj := it_n hj c_4
        refine lv_iinc (v := (x2 + 1)) (lv' := [(2, .int (x2 + 1)), (3, .ref a_2), (0, .ref (ad 9)), (1, .ref (ad 5))]) hx hb d_Jou_findSame_52 hl (k := 3) rfl rfl (by decide) rfl (fun ls hl => ?_)
        refine lv_goto (tgt := 2) hx hb d_Jou_findSame_55 (by decide) ?_
        exact ih (x2 + 1) H locs ls hj hP hD hS (lv_sub hl [2, 3, 0] rfl)
      · have hj := it_p hj c_4
        refine lv_aload_n hx hb d_Jou_findSame_28 rfl (lv_at hl 0 rfl) ?_
        obtain ⟨kx_5, hkx_5⟩ := ent_at (ad := ad) (ca := ca) (LA := LA) (LE := LE) (d := _) hm_a_2
        refine va_getN (D := (dC, dI)) (ci := 3) (v := .int (ce_term (cg_ent d a_2))) (C := "CardMessageDesk$Entry") (T := T_Ent) (N := 9) hx hb hts in_Ent hown hK hP kx_5 hkx_5 rfl 1 (by decide) (nw_f hN (i := 25) rfl) (fun _ h9 => h9) rfl d_Jou_findSame_29 ?_
        refine lv_aload_n hx hb d_Jou_findSame_32 rfl (lv_at hl 2 rfl) ?_
        refine va_getN (D := (dC, dI)) (ci := 6) (v := .int (cg_rqTerm d)) (C := "CardMessageDesk$Request") (T := T_Req) (N := 10) hx hb hts in_Req hown hK hP 5 rfl rfl 7 (by decide) (nw_f hN (i := 14) rfl) (fun _ h9 => h9) rfl d_Jou_findSame_33 ?_
        refine lv_icmp_ne (tgt := 52) hx hb d_Jou_findSame_36 (by decide) (fun c_6 => ?_) (fun c_6 => ?_)
        · have hj := it_n hj c_6
          refine lv_iinc (v := (x2 + 1)) (lv' := [(2, .int (x2 + 1)), (3, .ref a_2), (0, .ref (ad 9)), (1, .ref (ad 5))]) hx hb d_Jou_findSame_52 hl (k := 3) rfl rfl (by decide) rfl (fun ls hl => ?_)
          refine lv_goto (tgt := 2) hx hb d_Jou_findSame_55 (by decide) ?_
          exact ih (x2 + 1) H locs ls hj hP hD hS (lv_sub hl [2, 3, 0] rfl)
        · have hj := it_p hj c_6
          refine lv_aload_n hx hb d_Jou_findSame_39 rfl (lv_at hl 0 rfl) ?_
          obtain ⟨kx_7, hkx_7⟩ := ent_at (ad := ad) (ca := ca) (LA := LA) (LE := LE) (d := _) hm_a_2
          refine va_getN (D := (dC, dI)) (ci := 3) (v := .int (ce_trace (cg_ent d a_2))) (C := "CardMessageDesk$Entry") (T := T_Ent) (N := 9) hx hb hts in_Ent hown hK hP kx_7 hkx_7 rfl 2 (by decide) (nw_f hN (i := 26) rfl) (fun _ h9 => h9) rfl d_Jou_findSame_40 ?_
          refine lv_aload_n hx hb d_Jou_findSame_43 rfl (lv_at hl 2 rfl) ?_
          refine va_getN (D := (dC, dI)) (ci := 6) (v := .int (cg_rqTrace d)) (C := "CardMessageDesk$Request") (T := T_Req) (N := 10) hx hb hts in_Req hown hK hP 5 rfl rfl 6 (by decide) (nw_f hN (i := 12) rfl) (fun _ h9 => h9) rfl d_Jou_findSame_44 ?_
          refine lv_icmp_ne (tgt := 52) hx hb d_Jou_findSame_47 (by decide) (fun c_8 => ?_) (fun c_8 => ?_)
          · have hj := it_n hj c_8
            refine lv_iinc (v := (x2 + 1)) (lv' := [(2, .int (x2 + 1)), (3, .ref a_2), (0, .ref (ad 9)), (1, .ref (ad 5))]) hx hb d_Jou_findSame_52 hl (k := 3) rfl rfl (by decide) rfl (fun ls hl => ?_)
            refine lv_goto (tgt := 2) hx hb d_Jou_findSame_55 (by decide) ?_
            exact ih (x2 + 1) H locs ls hj hP hD hS (lv_sub hl [2, 3, 0] rfl)
          · have hj := it_p hj c_8
            refine lv_aload_n hx hb d_Jou_findSame_50 rfl (lv_at hl 0 rfl) ?_
            obtain rfl := Option.some.inj hj
            exact W.aret hx hb hr (Or.inl ⟨_, rfl⟩) (Or.inr ⟨_, rfl⟩) (fun t ht hW => ⟨⟨some _, _, rfl, ⟨rfl, rfl⟩, by rw [ht]; exact hP, va_K.moved hW.alike hK, hD⟩, hS.F ht⟩) hS.2.2 d_Jou_findSame_51
set_option maxHeartbeats 4000000 in
set_option maxRecDepth 100000 in
theorem cc_Journal_findSame (l : Launch) (dC : Nat → ClassId) (dI : Nat → Nat → Nat) (ad : Nat → Nat) (ca : Nat → ClassId) (LA LE : List Nat) (sz : Nat) (d : CS)   (r9 : Option Nat) (hj : jc_Journal_findSame LA LE d = some r9) : Met l y_Jou_findSame w_Jou_findSame ({ frames := 0, cells := 0, slots := 0, locals := 0 }) (va_Pc [.ref (ad 9), .ref (ad 5)] (cPre dC dI ad ca LA LE sz d)) (va_Qq (fun (r : Option Nat) (u : CS) => r = r9 ∧ u = d) (cAt dC dI ad ca LA LE (va_A (cw ad ca LA LE d) sz)) (va_A (cw ad ca LA LE d) sz)) 0 0 (va_A (cw ad ca LA LE d) sz) := by
  refine Met.ofW (cc := prog_6_method_3_code) (maxL := 4) (ret := (some (.object "CardMessageDesk$Entry"))) (by decide) rfl ?_
  intro p e s m args below meth c s₁ B hml hv
  obtain ⟨rfl, hsz, hP, hK, hD0, hN⟩ := hv
  have hx := B.exec
  have hb := B.bytes
  have hr := B.returns
  have hts0 := atoms_spec (ws := w_Jou_findSame) B.pre
  have hts : ∀ w ∈ gt, w.before _ s = true := fun w h => hts0 w (List.mem_cons_of_mem _ h)
  have hown : s.vm.findClass "CardMessageDesk$Journal" = some m.cls := findClass_of_methodNamed B.named
  have hlocks := B.notSynchronized
  subst hsz
  have hD := hD0.self (sz := s.heap.size)
  generalize hAe : va_A (cw ad ca LA LE d) s.heap.size = A at hD ⊢
  have hA : ∀ q : Nat, s.heap.size ≤ q → A q := fun q h => by rw [← hAe]; exact Or.inr h
  have hS : va_S A s.heap s.heap [] := va_S.rf
  have hl := lv_entry ([.ref (ad 9), .ref (ad 5)]) (n := 4) (Nat.le_of_ble_eq_true rfl)
  rw [lg_entry_eq]
  generalize (lg_sl ([.ref (ad 9), .ref (ad 5)]) ++ List.replicate (4 - (lg_sl ([.ref (ad 9), .ref (ad 5)])).length) Slot.unset).toArray = ls at hl ⊢
  have hl : lv_has ls 4 [(0, .ref (ad 9)), (1, .ref (ad 5))] := hl
  unfold jc_Journal_findSame at hj
  refine lv_iconst (v := 0) hx hb d_Jou_findSame_0 (by decide) ?_
  refine lv_istore_n (lv' := [(2, .int (0 : Int32)), (0, .ref (ad 9)), (1, .ref (ad 5))]) hx hb d_Jou_findSame_1 rfl hl (by decide) rfl (fun ls hl => ?_)
  exact cc_Journal_findSame_L2 d  _ hx hb hr hlocks hml hown hts hN hA hK 200 (0 : Int32) _ _ ls hj hP hD hS (lv_sub hl [1, 2, 0] rfl)
set_option maxHeartbeats 4000000 in
set_option maxRecDepth 100000 in
theorem cc_D_isHandled (l : Launch) (dC : Nat → ClassId) (dI : Nat → Nat → Nat) (ad : Nat → Nat) (ca : Nat → ClassId) (LA LE : List Nat) (sz : Nat) (d : CS) (p1 : Int32)  (r9 : Int32) (hj : jc_D_isHandled LA LE d p1 = some r9) : Met l y_Dsk_isHandled w_Dsk_isHandled ({ frames := 0, cells := 0, slots := 0, locals := 0 }) (va_Pc [.int p1] (cPre dC dI ad ca LA LE sz d)) (va_Qi (fun (r : Int32) (u : CS) => r = r9 ∧ u = d) (cAt dC dI ad ca LA LE (va_A (cw ad ca LA LE d) sz)) (va_A (cw ad ca LA LE d) sz)) 0 0 (va_A (cw ad ca LA LE d) sz) := by
  refine Met.ofW (cc := prog_1_method_15_code) (maxL := 1) (ret := (some .boolean)) (by decide) rfl ?_
  intro p e s m args below meth c s₁ B hml hv
  obtain ⟨rfl, hsz, hP, hK, hD0, hN⟩ := hv
  have hx := B.exec
  have hb := B.bytes
  have hr := B.returns
  have hts0 := atoms_spec (ws := w_Dsk_isHandled) B.pre
  have hts : ∀ w ∈ gt, w.before _ s = true := fun w h => hts0 w (List.mem_cons_of_mem _ h)
  have hown : s.vm.findClass "CardMessageDesk" = some m.cls := findClass_of_methodNamed B.named
  have hlocks := B.notSynchronized
  subst hsz
  have hD := hD0.self (sz := s.heap.size)
  generalize hAe : va_A (cw ad ca LA LE d) s.heap.size = A at hD ⊢
  have hA : ∀ q : Nat, s.heap.size ≤ q → A q := fun q h => by rw [← hAe]; exact Or.inr h
  have hS : va_S A s.heap s.heap [] := va_S.rf
  have hl := lv_entry ([.int p1]) (n := 1) (Nat.le_of_ble_eq_true rfl)
  rw [lg_entry_eq]
  generalize (lg_sl ([.int p1]) ++ List.replicate (1 - (lg_sl ([.int p1])).length) Slot.unset).toArray = ls at hl ⊢
  have hl : lv_has ls 1 [(0, .int p1)] := hl
  unfold jc_D_isHandled at hj
  refine lv_iload_n hx hb d_Dsk_isHandled_0 rfl (lv_at hl 0 rfl) ?_
  refine lv_bipush (v := 100) hx hb d_Dsk_isHandled_1 (by decide) ?_
  refine lv_icmp_eq (tgt := 27) hx hb d_Dsk_isHandled_3 (by decide) (fun c_1 => ?_) (fun c_1 => ?_)
  · have hj := it_p hj c_1
    refine lv_iconst (v := 1) hx hb d_Dsk_isHandled_27 (by decide) ?_
    refine lv_goto (tgt := 32) hx hb d_Dsk_isHandled_28 (by decide) ?_
    obtain rfl := Option.some.inj hj
    exact W.zret (ty := .boolean) hx hb hr rfl (fun t ht hW => ⟨⟨_, _, rfl, ⟨rfl, rfl⟩, by rw [ht]; exact hP, va_K.moved hW.alike hK, hD⟩, hS.F ht⟩) hS.2.2 d_Dsk_isHandled_32
  · have hj := it_n hj c_1
    refine lv_iload_n hx hb d_Dsk_isHandled_6 rfl (lv_at hl 0 rfl) ?_
    refine lv_sipush (v := 200) hx hb d_Dsk_isHandled_7 (by decide) ?_
    refine lv_icmp_eq (tgt := 27) hx hb d_Dsk_isHandled_10 (by decide) (fun c_2 => ?_) (fun c_2 => ?_)
    · have hj := it_p hj c_2
      refine lv_iconst (v := 1) hx hb d_Dsk_isHandled_27 (by decide) ?_
      refine lv_goto (tgt := 32) hx hb d_Dsk_isHandled_28 (by decide) ?_
      obtain rfl := Option.some.inj hj
      exact W.zret (ty := .boolean) hx hb hr rfl (fun t ht hW => ⟨⟨_, _, rfl, ⟨rfl, rfl⟩, by rw [ht]; exact hP, va_K.moved hW.alike hK, hD⟩, hS.F ht⟩) hS.2.2 d_Dsk_isHandled_32
    · have hj := it_n hj c_2
      refine lv_iload_n hx hb d_Dsk_isHandled_13 rfl (lv_at hl 0 rfl) ?_
      refine lv_sipush (v := 400) hx hb d_Dsk_isHandled_14 (by decide) ?_
      refine lv_icmp_eq (tgt := 27) hx hb d_Dsk_isHandled_17 (by decide) (fun c_3 => ?_) (fun c_3 => ?_)
      · have hj := it_p hj c_3
        refine lv_iconst (v := 1) hx hb d_Dsk_isHandled_27 (by decide) ?_
        refine lv_goto (tgt := 32) hx hb d_Dsk_isHandled_28 (by decide) ?_
        obtain rfl := Option.some.inj hj
        exact W.zret (ty := .boolean) hx hb hr rfl (fun t ht hW => ⟨⟨_, _, rfl, ⟨rfl, rfl⟩, by rw [ht]; exact hP, va_K.moved hW.alike hK, hD⟩, hS.F ht⟩) hS.2.2 d_Dsk_isHandled_32
      · have hj := it_n hj c_3
        refine lv_iload_n hx hb d_Dsk_isHandled_20 rfl (lv_at hl 0 rfl) ?_
        refine lv_sipush (v := 500) hx hb d_Dsk_isHandled_21 (by decide) ?_
        refine lv_icmp_ne (tgt := 31) hx hb d_Dsk_isHandled_24 (by decide) (fun c_4 => ?_) (fun c_4 => ?_)
        · have hj := it_n hj c_4
          refine lv_iconst (v := 0) hx hb d_Dsk_isHandled_31 (by decide) ?_
          obtain rfl := Option.some.inj hj
          exact W.zret (ty := .boolean) hx hb hr rfl (fun t ht hW => ⟨⟨_, _, rfl, ⟨rfl, rfl⟩, by rw [ht]; exact hP, va_K.moved hW.alike hK, hD⟩, hS.F ht⟩) hS.2.2 d_Dsk_isHandled_32
        · have hj := it_p hj c_4
          refine lv_iconst (v := 1) hx hb d_Dsk_isHandled_27 (by decide) ?_
          refine lv_goto (tgt := 32) hx hb d_Dsk_isHandled_28 (by decide) ?_
          obtain rfl := Option.some.inj hj
          exact W.zret (ty := .boolean) hx hb hr rfl (fun t ht hW => ⟨⟨_, _, rfl, ⟨rfl, rfl⟩, by rw [ht]; exact hP, va_K.moved hW.alike hK, hD⟩, hS.F ht⟩) hS.2.2 d_Dsk_isHandled_32
set_option maxHeartbeats 4000000 in
set_option maxRecDepth 100000 in
theorem cc_D_journalLimit (l : Launch) (dC : Nat → ClassId) (dI : Nat → Nat → Nat) (ad : Nat → Nat) (ca : Nat → ClassId) (LA LE : List Nat) (sz : Nat) (d : CS) (p1 : Int32)  (r9 : Int32) (hj : jc_D_journalLimit LA LE d p1 = some r9) : Met l y_Dsk_journalLimit w_Dsk_journalLimit ({ frames := 0, cells := 0, slots := 0, locals := 0 }) (va_Pc [.int p1] (cPre dC dI ad ca LA LE sz d)) (va_Qi (fun (r : Int32) (u : CS) => r = r9 ∧ u = d) (cAt dC dI ad ca LA LE (va_A (cw ad ca LA LE d) sz)) (va_A (cw ad ca LA LE d) sz)) 0 0 (va_A (cw ad ca LA LE d) sz) := by
  refine Met.ofW (cc := prog_1_method_16_code) (maxL := 1) (ret := (some .int)) (by decide) rfl ?_
  intro p e s m args below meth c s₁ B hml hv
  obtain ⟨rfl, hsz, hP, hK, hD0, hN⟩ := hv
  have hx := B.exec
  have hb := B.bytes
  have hr := B.returns
  have hts0 := atoms_spec (ws := w_Dsk_journalLimit) B.pre
  have hts : ∀ w ∈ gt, w.before _ s = true := fun w h => hts0 w (List.mem_cons_of_mem _ h)
  have hown : s.vm.findClass "CardMessageDesk" = some m.cls := findClass_of_methodNamed B.named
  have hlocks := B.notSynchronized
  subst hsz
  have hD := hD0.self (sz := s.heap.size)
  generalize hAe : va_A (cw ad ca LA LE d) s.heap.size = A at hD ⊢
  have hA : ∀ q : Nat, s.heap.size ≤ q → A q := fun q h => by rw [← hAe]; exact Or.inr h
  have hS : va_S A s.heap s.heap [] := va_S.rf
  have hl := lv_entry ([.int p1]) (n := 1) (Nat.le_of_ble_eq_true rfl)
  rw [lg_entry_eq]
  generalize (lg_sl ([.int p1]) ++ List.replicate (1 - (lg_sl ([.int p1])).length) Slot.unset).toArray = ls at hl ⊢
  have hl : lv_has ls 1 [(0, .int p1)] := hl
  unfold jc_D_journalLimit at hj
  refine lv_iload_n hx hb d_Dsk_journalLimit_0 rfl (lv_at hl 0 rfl) ?_
  refine lv_sipush (v := 500) hx hb d_Dsk_journalLimit_1 (by decide) ?_
  refine lv_icmp_ne (tgt := 12) hx hb d_Dsk_journalLimit_4 (by decide) (fun c_1 => ?_) (fun c_1 => ?_)
  · have hj := it_n hj c_1
    refine lv_bipush (v := 24) hx hb d_Dsk_journalLimit_12 (by decide) ?_
    obtain rfl := Option.some.inj hj
    exact W.iret hx hb hr (fun t ht hW => ⟨⟨_, _, rfl, ⟨rfl, rfl⟩, by rw [ht]; exact hP, va_K.moved hW.alike hK, hD⟩, hS.F ht⟩) hS.2.2 d_Dsk_journalLimit_14
  · have hj := it_p hj c_1
    refine lv_bipush (v := 32) hx hb d_Dsk_journalLimit_7 (by decide) ?_
    refine lv_goto (tgt := 14) hx hb d_Dsk_journalLimit_9 (by decide) ?_
    obtain rfl := Option.some.inj hj
    exact W.iret hx hb hr (fun t ht hW => ⟨⟨_, _, rfl, ⟨rfl, rfl⟩, by rw [ht]; exact hP, va_K.moved hW.alike hK, hD⟩, hS.F ht⟩) hS.2.2 d_Dsk_journalLimit_14
set_option maxHeartbeats 4000000 in
set_option maxRecDepth 100000 in
theorem cc_Request_sortKind (l : Launch) (dC : Nat → ClassId) (dI : Nat → Nat → Nat) (ad : Nat → Nat) (ca : Nat → ClassId) (LA LE : List Nat) (sz : Nat) (d : CS)   (r9 : Int32) (hj : jc_Request_sortKind LA LE d = some r9) : Met l y_Req_sortKind w_Req_sortKind ({ frames := 0, cells := 0, slots := 0, locals := 0 }) (va_Pc [.ref (ad 5)] (cPre dC dI ad ca LA LE sz d)) (va_Qi (fun (r : Int32) (u : CS) => r = r9 ∧ u = d) (cAt dC dI ad ca LA LE (va_A (cw ad ca LA LE d) sz)) (va_A (cw ad ca LA LE d) sz)) 0 0 (va_A (cw ad ca LA LE d) sz) := by
  refine Met.ofW (cc := prog_8_method_3_code) (maxL := 1) (ret := (some .int)) (by decide) rfl ?_
  intro p e s m args below meth c s₁ B hml hv
  obtain ⟨rfl, hsz, hP, hK, hD0, hN⟩ := hv
  have hx := B.exec
  have hb := B.bytes
  have hr := B.returns
  have hts0 := atoms_spec (ws := w_Req_sortKind) B.pre
  have hts : ∀ w ∈ gt, w.before _ s = true := fun w h => hts0 w (List.mem_cons_of_mem _ h)
  have hown : s.vm.findClass "CardMessageDesk$Request" = some m.cls := findClass_of_methodNamed B.named
  have hlocks := B.notSynchronized
  subst hsz
  have hD := hD0.self (sz := s.heap.size)
  generalize hAe : va_A (cw ad ca LA LE d) s.heap.size = A at hD ⊢
  have hA : ∀ q : Nat, s.heap.size ≤ q → A q := fun q h => by rw [← hAe]; exact Or.inr h
  have hS : va_S A s.heap s.heap [] := va_S.rf
  have hl := lv_entry ([.ref (ad 5)]) (n := 1) (Nat.le_of_ble_eq_true rfl)
  rw [lg_entry_eq]
  generalize (lg_sl ([.ref (ad 5)]) ++ List.replicate (1 - (lg_sl ([.ref (ad 5)])).length) Slot.unset).toArray = ls at hl ⊢
  have hl : lv_has ls 1 [(0, .ref (ad 5))] := hl
  unfold jc_Request_sortKind at hj
  refine lv_aload_n hx hb d_Req_sortKind_0 rfl (lv_at hl 0 rfl) ?_
  refine va_get (D := (dC, dI)) (ci := 6) (v := .int (cg_rqSort d)) (C := "CardMessageDesk$Request") (T := T_Req) (N := 10) hx hb hts in_Req hown hK hP 5 rfl rfl 4 (by decide) (hts _ tw68) (fun _ h9 => h9) rfl d_Req_sortKind_1 ?_
  refine lv_sipush (v := 10000) hx hb d_Req_sortKind_4 (by decide) ?_
  refine lv_idiv hx hb d_Req_sortKind_7 (by decide +kernel) ?_
  obtain rfl := Option.some.inj hj
  exact W.iret hx hb hr (fun t ht hW => ⟨⟨_, _, rfl, ⟨rfl, rfl⟩, by rw [ht]; exact hP, va_K.moved hW.alike hK, hD⟩, hS.F ht⟩) hS.2.2 d_Req_sortKind_8
set_option maxHeartbeats 4000000 in
set_option maxRecDepth 100000 in
theorem cc_Entry_isHoldAt (l : Launch) (dC : Nat → ClassId) (dI : Nat → Nat → Nat) (ad : Nat → Nat) (ca : Nat → ClassId) (LA LE : List Nat) (sz : Nat) (d : CS) (a0 : Nat) (p1 : Int64) (hm_a0 : a0 ∈ LE) (r9 : Int32) (hj : jc_Entry_isHoldAt LA LE d a0 p1 = some r9) : Met l y_Ent_isHoldAt w_Ent_isHoldAt ({ frames := 0, cells := 0, slots := 0, locals := 0 }) (va_Pc [.ref a0, .long p1] (cPre dC dI ad ca LA LE sz d)) (va_Qi (fun (r : Int32) (u : CS) => r = r9 ∧ u = d) (cAt dC dI ad ca LA LE (va_A (cw ad ca LA LE d) sz)) (va_A (cw ad ca LA LE d) sz)) 0 0 (va_A (cw ad ca LA LE d) sz) := by
  refine Met.ofW (cc := prog_5_method_3_code) (maxL := 3) (ret := (some .boolean)) (by decide) rfl ?_
  intro p e s m args below meth c s₁ B hml hv
  obtain ⟨rfl, hsz, hP, hK, hD0, hN⟩ := hv
  have hx := B.exec
  have hb := B.bytes
  have hr := B.returns
  have hts0 := atoms_spec (ws := w_Ent_isHoldAt) B.pre
  have hts : ∀ w ∈ gt, w.before _ s = true := fun w h => hts0 w (List.mem_cons_of_mem _ h)
  have hown : s.vm.findClass "CardMessageDesk$Entry" = some m.cls := findClass_of_methodNamed B.named
  have hlocks := B.notSynchronized
  subst hsz
  have hD := hD0.self (sz := s.heap.size)
  generalize hAe : va_A (cw ad ca LA LE d) s.heap.size = A at hD ⊢
  have hA : ∀ q : Nat, s.heap.size ≤ q → A q := fun q h => by rw [← hAe]; exact Or.inr h
  have hS : va_S A s.heap s.heap [] := va_S.rf
  have hl := lv_entry ([.ref a0, .long p1]) (n := 3) (Nat.le_of_ble_eq_true rfl)
  rw [lg_entry_eq]
  generalize (lg_sl ([.ref a0, .long p1]) ++ List.replicate (3 - (lg_sl ([.ref a0, .long p1])).length) Slot.unset).toArray = ls at hl ⊢
  have hl : lv_has ls 3 [(0, .ref a0), (1, .long p1)] := hl
  unfold jc_Entry_isHoldAt at hj
  refine lv_aload_n hx hb d_Ent_isHoldAt_0 rfl (lv_at hl 0 rfl) ?_
  obtain ⟨kx_1, hkx_1⟩ := ent_at (ad := ad) (ca := ca) (LA := LA) (LE := LE) (d := _) hm_a0
  refine va_get (D := (dC, dI)) (ci := 3) (v := .int (ce_state (cg_ent d a0))) (C := "CardMessageDesk$Entry") (T := T_Ent) (N := 9) hx hb hts in_Ent hown hK hP kx_1 hkx_1 rfl 7 (by decide) (hts _ tw163) (fun _ h9 => h9) rfl d_Ent_isHoldAt_1 ?_
  refine lv_iconst (v := 1) hx hb d_Ent_isHoldAt_4 (by decide) ?_
  refine lv_icmp_ne (tgt := 25) hx hb d_Ent_isHoldAt_5 (by decide) (fun c_2 => ?_) (fun c_2 => ?_)
  · have hj := it_n hj c_2
    refine lv_iconst (v := 0) hx hb d_Ent_isHoldAt_25 (by decide) ?_
    obtain rfl := Option.some.inj hj
    exact W.zret (ty := .boolean) hx hb hr rfl (fun t ht hW => ⟨⟨_, _, rfl, ⟨rfl, rfl⟩, by rw [ht]; exact hP, va_K.moved hW.alike hK, hD⟩, hS.F ht⟩) hS.2.2 d_Ent_isHoldAt_26
  · have hj := it_p hj c_2
    refine lv_lload_n hx hb d_Ent_isHoldAt_8 rfl (lv_at hl 1 rfl) ?_
    refine lv_aload_n hx hb d_Ent_isHoldAt_9 rfl (lv_at hl 0 rfl) ?_
    obtain ⟨kx_3, hkx_3⟩ := ent_at (ad := ad) (ca := ca) (LA := LA) (LE := LE) (d := _) hm_a0
    refine va_get (D := (dC, dI)) (ci := 3) (v := .long (ce_made (cg_ent d a0))) (C := "CardMessageDesk$Entry") (T := T_Ent) (N := 9) hx hb hts in_Ent hown hK hP kx_3 hkx_3 rfl 8 (by decide) (hts _ tw165) (fun _ h9 => h9) rfl d_Ent_isHoldAt_10 ?_
    refine lv_lsub hx hb d_Ent_isHoldAt_13 ?_
    refine lv_ldc2 (v := 50) hx hb hown (hts _ tw365) d_Ent_isHoldAt_14 ?_
    refine W.lcmp hx hb d_Ent_isHoldAt_17 ?_
    refine lv_if_ge (tgt := 25) hx hb d_Ent_isHoldAt_18 (by decide) (fun c_4 => ?_) (fun c_4 => ?_)
    · have hj := it_p hj (lc_ge.mp c_4)
      refine lv_iconst (v := 0) hx hb d_Ent_isHoldAt_25 (by decide) ?_
      obtain rfl := Option.some.inj hj
      exact W.zret (ty := .boolean) hx hb hr rfl (fun t ht hW => ⟨⟨_, _, rfl, ⟨rfl, rfl⟩, by rw [ht]; exact hP, va_K.moved hW.alike hK, hD⟩, hS.F ht⟩) hS.2.2 d_Ent_isHoldAt_26
    · have hj := it_n hj (fun z => c_4 (lc_ge.mpr z))
      refine lv_iconst (v := 1) hx hb d_Ent_isHoldAt_21 (by decide) ?_
      refine lv_goto (tgt := 26) hx hb d_Ent_isHoldAt_22 (by decide) ?_
      obtain rfl := Option.some.inj hj
      exact W.zret (ty := .boolean) hx hb hr rfl (fun t ht hW => ⟨⟨_, _, rfl, ⟨rfl, rfl⟩, by rw [ht]; exact hP, va_K.moved hW.alike hK, hD⟩, hS.F ht⟩) hS.2.2 d_Ent_isHoldAt_26
set_option maxHeartbeats 4000000 in
set_option maxRecDepth 100000 in
theorem cc_Journal_availableOn_L8 {p : Program} {l : Launch} {e : Env} {s : State} {m : MethodId} {args : Array Value} {below : List Frame} {meth : Method} {c : Code} {dC : Nat → ClassId} {dI : Nat → Nat → Nat} {ad : Nat → Nat} {ca : Nat → ClassId} {LA LE : List Nat} {A : Nat → Prop} (d : CS) (x1 : Nat) (hm_x1 : x1 ∈ LA) (r9 : Int64) (hx : p.tables.exec = Jvm.exec) (hb : c.code = prog_6_method_6_code) (hr : meth.sig.returnType = (some .long)) (hlocks : meth.locks = false) (hml : c.maxLocals = 5) (hown : s.vm.findClass "CardMessageDesk$Journal" = some m.cls) (hts : ∀ w ∈ gt, w.before args s = true) (hN : nw s) (hA : ∀ q : Nat, s.heap.size ≤ q → A q) (hK : va_K (dC, dI) vwCl (cT ca) s) :
    ∀ (n : Nat) (x2 : Int64) (x4 : Int32) (H : Heap) (locs : List Loc) (ls : Array Slot), loopF (jc_Journal_availableOn_L8 LA LE d x1) n (x2, x4) = some r9 → va_P (dC, dI) vwCl (cw ad ca LA LE d) H → va_D A (cw ad ca LA LE d) → va_S A s.heap H locs → lv_has ls 5 [(0, .ref (ad 9)), (1, .ref x1), (2, .long x2), (4, .int x4)] → W p l e ({ frames := 1, cells := 0, slots := 0, locals := 22 }) s m args below meth c H locs 0 0 (MQ below (va_Ql (fun (r : Int64) (u : CS) => r = r9 ∧ u = d) (cAt dC dI ad ca LA LE A) A) args s 0 0 A) (F0 m 8 ls []) := by
  intro n
  induction n with
  | zero =>
    intro x2 x4 H locs ls hj
    exact (loopF_z hj).elim
  | succ n ih =>
    intro x2 x4 H locs ls hj hP hD hS hl
    have hj := loopF_s hj
    unfold jc_Journal_availableOn_L8 at hj
    try dsimp only at hj
    refine lv_iload hx hb d_Jou_availableOn_8 (lv_at hl 3 rfl) ?_
    refine lv_aload_n hx hb d_Jou_availableOn_10 rfl (lv_at hl 0 rfl) ?_
    refine va_get (D := (dC, dI)) (ci := 4) (v := .int (cg_jSize d)) (C := "CardMessageDesk$Journal") (T := T_Jou) (N := 3) hx hb hts in_Jou hown hK hP 9 rfl rfl 1 (by decide) (hts _ tw186) (fun _ h9 => h9) rfl d_Jou_availableOn_11 ?_
    refine lv_icmp_ge (tgt := 71) hx hb d_Jou_availableOn_14 (by decide) (fun c_2 => ?_) (fun c_2 => ?_)
    · have hj := it_p hj c_2
      refine lv_lload_n hx hb d_Jou_availableOn_71 rfl (lv_at hl 2 rfl) ?_
      obtain rfl := Option.some.inj hj
      exact W.lret hx hb hr (fun t ht hW => ⟨⟨_, _, rfl, ⟨rfl, rfl⟩, by rw [ht]; exact hP, va_K.moved hW.alike hK, hD⟩, hS.F ht⟩) hS.2.2 d_Jou_availableOn_72
    · have hj := it_n hj c_2
      refine lv_aload_n hx hb d_Jou_availableOn_17 rfl (lv_at hl 0 rfl) ?_
      refine va_get (D := (dC, dI)) (ci := 4) (v := .ref (ad 10)) (C := "CardMessageDesk$Journal") (T := T_Jou) (N := 3) hx hb hts in_Jou hown hK hP 9 rfl rfl 0 (by decide) (hts _ tw185) (fun _ h9 => h9) rfl d_Jou_availableOn_18 ?_
      refine lv_iload hx hb d_Jou_availableOn_21 (lv_at hl 3 rfl) ?_
      obtain ⟨hi_3, hj⟩ := gd_some hj
      refine va_aldq hx hb hK hP 10 3 rfl rfl hi_3 d_Jou_availableOn_23 ?_
      obtain ⟨a_3, ho_3, hm_a_3, hj⟩ := gq_some hj
      rw [ho_3]
      obtain ⟨kx_4, hkx_4⟩ := ent_at (ad := ad) (ca := ca) (LA := LA) (LE := LE) (d := _) hm_a_3
      refine va_getN (D := (dC, dI)) (ci := 3) (v := .long (ce_card (cg_ent d a_3))) (C := "CardMessageDesk$Entry") (T := T_Ent) (N := 9) hx hb hts in_Ent hown hK hP kx_4 hkx_4 rfl 3 (by decide) (nw_f hN (i := 28) rfl) (fun _ h9 => h9) rfl d_Jou_availableOn_24 ?_
      refine lv_aload_n hx hb d_Jou_availableOn_27 rfl (lv_at hl 1 rfl) ?_
      obtain ⟨kx_5, hkx_5⟩ := acc_at (ad := ad) (ca := ca) (LA := LA) (LE := LE) (d := _) hm_x1
      refine va_getN (D := (dC, dI)) (ci := 0) (v := .long (ca_card (cg_acc d x1))) (C := "CardMessageDesk$Account") (T := T_Acc) (N := 2) hx hb hts in_Acc hown hK hP kx_5 hkx_5 rfl 0 (by decide) (nw_f hN (i := 19) rfl) (fun _ h9 => h9) rfl d_Jou_availableOn_28 ?_
      refine W.lcmp hx hb d_Jou_availableOn_31 ?_
      refine lv_if_ne (tgt := 65) hx hb d_Jou_availableOn_32 (by decide) (fun c_6 => ?_) (fun c_6 => ?_)
      · have hj := it_n hj (fun z => c_6 (lc_ne.mpr z))
        refine lv_iinc (v := (x4 + 1)) (lv' := [(4, .int (x4 + 1)), (0, .ref (ad 9)), (1, .ref x1), (2, .long x2)]) hx hb d_Jou_availableOn_65 hl (k := 3) rfl rfl (by decide) rfl (fun ls hl => ?_)
        refine lv_goto (tgt := 8) hx hb d_Jou_availableOn_68 (by decide) ?_
        exact ih x2 (x4 + 1) H locs ls hj hP hD hS (lv_sub hl [1, 2, 3, 0] rfl)
      · have hj := it_p hj (lc_ne.mp c_6)
        refine lv_aload_n hx hb d_Jou_availableOn_35 rfl (lv_at hl 0 rfl) ?_
        refine va_get (D := (dC, dI)) (ci := 4) (v := .ref (ad 10)) (C := "CardMessageDesk$Journal") (T := T_Jou) (N := 3) hx hb hts in_Jou hown hK hP 9 rfl rfl 0 (by decide) (hts _ tw185) (fun _ h9 => h9) rfl d_Jou_availableOn_36 ?_
        refine lv_iload hx hb d_Jou_availableOn_39 (lv_at hl 3 rfl) ?_
        obtain ⟨hi_7, hj⟩ := gd_some hj
        refine va_aldq hx hb hK hP 10 3 rfl rfl hi_7 d_Jou_availableOn_41 ?_
        obtain ⟨a_7, ho_7, hm_a_7, hj⟩ := gq_some hj
        rw [ho_7]
        refine lv_aload_n hx hb d_Jou_availableOn_42 rfl (lv_at hl 0 rfl) ?_
        refine va_get (D := (dC, dI)) (ci := 4) (v := .long (cg_jTime d)) (C := "CardMessageDesk$Journal") (T := T_Jou) (N := 3) hx hb hts in_Jou hown hK hP 9 rfl rfl 2 (by decide) (hts _ tw188) (fun _ h9 => h9) rfl d_Jou_availableOn_43 ?_
        obtain ⟨v_8, hc_8, hj⟩ := bd_some hj
        have hF_8 := va_fr hD hS hA
        obtain ⟨kx_8, hkx_8⟩ := ent_at (ad := ad) (ca := ca) (LA := LA) (LE := LE) (d := d) hm_a_7
        refine va_calli (va_runV (As := [.long (cg_jTime d)]) (rest := []) ⟨hx, hb, hml, hown, hts⟩ (cc_Entry_isHoldAt l dC dI ad ca LA LE H.size d a_7 (cg_jTime d) hm_a_7 v_8 hc_8) (cwV 1 hts (gtV tw361 tw362 tw363 tw8 tw364) rfl rfl rfl (by decide +kernel) ⟨Nat.le_of_ble_eq_true rfl, Nat.le_of_ble_eq_true rfl⟩) ⟨cBl, va_recv hK hP (ci := 3) (q0 := kx_8) rfl hkx_8, fun U hU hW => ⟨rfl, cPr hP hK hD hN hU hW⟩⟩ rfl rfl hl.1 rfl (lv_room (Nat.le_of_ble_eq_true rfl)) d_Jou_availableOn_46 ⟨Nat.zero_le _, Nat.zero_le _⟩) hS (fun q _ h => hF_8 q h) hF_8 (fun r u t H locs ht hvm hw hB hz1 hk1 hS => ?_)
        obtain ⟨hw1, hw2⟩ := hw
        have hw1 := hw1.symm
        subst hw1
        have hw2 := hw2.symm
        subst hw2
        obtain ⟨hP, hD⟩ := cAf hB ht hF_8
        refine lv_if_eq (tgt := 65) hx hb d_Jou_availableOn_49 (by decide) (fun c_9 => ?_) (fun c_9 => ?_)
        · have hj := it_p hj c_9
          refine lv_iinc (v := (x4 + 1)) (lv' := [(4, .int (x4 + 1)), (0, .ref (ad 9)), (1, .ref x1), (2, .long x2)]) hx hb d_Jou_availableOn_65 hl (k := 3) rfl rfl (by decide) rfl (fun ls hl => ?_)
          refine lv_goto (tgt := 8) hx hb d_Jou_availableOn_68 (by decide) ?_
          exact ih x2 (x4 + 1) H locs ls hj hP hD hS (lv_sub hl [1, 2, 3, 0] rfl)
        · have hj := it_n hj c_9
          refine lv_lload_n hx hb d_Jou_availableOn_52 rfl (lv_at hl 2 rfl) ?_
          refine lv_aload_n hx hb d_Jou_availableOn_53 rfl (lv_at hl 0 rfl) ?_
          refine va_get (D := (dC, dI)) (ci := 4) (v := .ref (ad 10)) (C := "CardMessageDesk$Journal") (T := T_Jou) (N := 3) hx hb hts in_Jou hown hK hP 9 rfl rfl 0 (by decide) (hts _ tw185) (fun _ h9 => h9) rfl d_Jou_availableOn_54 ?_
          refine lv_iload hx hb d_Jou_availableOn_57 (lv_at hl 3 rfl) ?_
          obtain ⟨hi_10, hj⟩ := gd_some hj
          refine va_aldq hx hb hK hP 10 3 rfl rfl hi_10 d_Jou_availableOn_59 ?_
          obtain ⟨a_10, ho_10, hm_a_10, hj⟩ := gq_some hj
          rw [ho_10]
          obtain ⟨kx_11, hkx_11⟩ := ent_at (ad := ad) (ca := ca) (LA := LA) (LE := LE) (d := _) hm_a_10
          refine va_getN (D := (dC, dI)) (ci := 3) (v := .long (ce_amount (cg_ent d a_10))) (C := "CardMessageDesk$Entry") (T := T_Ent) (N := 9) hx hb hts in_Ent hown hK hP kx_11 hkx_11 rfl 5 (by decide) (nw_f hN (i := 29) rfl) (fun _ h9 => h9) rfl d_Jou_availableOn_60 ?_
          refine lv_lsub hx hb d_Jou_availableOn_63 ?_
          refine lv_lstore_n (lv' := [(2, .long (x2 - (ce_amount (cg_ent d a_10)))), (0, .ref (ad 9)), (1, .ref x1), (4, .int x4)]) hx hb d_Jou_availableOn_64 rfl hl (by decide) rfl (fun ls hl => ?_)
          refine lv_iinc (v := (x4 + 1)) (lv' := [(4, .int (x4 + 1)), (2, .long (x2 - (ce_amount (cg_ent d a_10)))), (0, .ref (ad 9)), (1, .ref x1)]) hx hb d_Jou_availableOn_65 hl (k := 3) rfl rfl (by decide) rfl (fun ls hl => ?_)
          refine lv_goto (tgt := 8) hx hb d_Jou_availableOn_68 (by decide) ?_
          exact ih (x2 - (ce_amount (cg_ent d a_10))) (x4 + 1) H locs ls hj hP hD hS (lv_sub hl [2, 3, 1, 0] rfl)
set_option maxHeartbeats 4000000 in
set_option maxRecDepth 100000 in
theorem cc_Journal_availableOn (l : Launch) (dC : Nat → ClassId) (dI : Nat → Nat → Nat) (ad : Nat → Nat) (ca : Nat → ClassId) (LA LE : List Nat) (sz : Nat) (d : CS) (a1 : Nat) (hm_a1 : a1 ∈ LA) (r9 : Int64) (hj : jc_Journal_availableOn LA LE d a1 = some r9) : Met l y_Jou_availableOn w_Jou_availableOn ({ frames := 1, cells := 0, slots := 0, locals := 22 }) (va_Pc [.ref (ad 9), .ref a1] (cPre dC dI ad ca LA LE sz d)) (va_Ql (fun (r : Int64) (u : CS) => r = r9 ∧ u = d) (cAt dC dI ad ca LA LE (va_A (cw ad ca LA LE d) sz)) (va_A (cw ad ca LA LE d) sz)) 0 0 (va_A (cw ad ca LA LE d) sz) := by
  refine Met.ofW (cc := prog_6_method_6_code) (maxL := 5) (ret := (some .long)) (by decide) rfl ?_
  intro p e s m args below meth c s₁ B hml hv
  obtain ⟨rfl, hsz, hP, hK, hD0, hN⟩ := hv
  have hx := B.exec
  have hb := B.bytes
  have hr := B.returns
  have hts0 := atoms_spec (ws := w_Jou_availableOn) B.pre
  have hts : ∀ w ∈ gt, w.before _ s = true := fun w h => hts0 w (List.mem_cons_of_mem _ h)
  have hown : s.vm.findClass "CardMessageDesk$Journal" = some m.cls := findClass_of_methodNamed B.named
  have hlocks := B.notSynchronized
  subst hsz
  have hD := hD0.self (sz := s.heap.size)
  generalize hAe : va_A (cw ad ca LA LE d) s.heap.size = A at hD ⊢
  have hA : ∀ q : Nat, s.heap.size ≤ q → A q := fun q h => by rw [← hAe]; exact Or.inr h
  have hS : va_S A s.heap s.heap [] := va_S.rf
  have hl := lv_entry ([.ref (ad 9), .ref a1]) (n := 5) (Nat.le_of_ble_eq_true rfl)
  rw [lg_entry_eq]
  generalize (lg_sl ([.ref (ad 9), .ref a1]) ++ List.replicate (5 - (lg_sl ([.ref (ad 9), .ref a1])).length) Slot.unset).toArray = ls at hl ⊢
  have hl : lv_has ls 5 [(0, .ref (ad 9)), (1, .ref a1)] := hl
  unfold jc_Journal_availableOn at hj
  refine lv_aload_n hx hb d_Jou_availableOn_0 rfl (lv_at hl 1 rfl) ?_
  obtain ⟨kx_1, hkx_1⟩ := acc_at (ad := ad) (ca := ca) (LA := LA) (LE := LE) (d := _) hm_a1
  refine va_getN (D := (dC, dI)) (ci := 0) (v := .long (ca_bal (cg_acc d a1))) (C := "CardMessageDesk$Account") (T := T_Acc) (N := 2) hx hb hts in_Acc hown hK hP kx_1 hkx_1 rfl 1 (by decide) (nw_f hN (i := 21) rfl) (fun _ h9 => h9) rfl d_Jou_availableOn_1 ?_
  refine lv_lstore_n (lv' := [(2, .long (ca_bal (cg_acc d a1))), (0, .ref (ad 9)), (1, .ref a1)]) hx hb d_Jou_availableOn_4 rfl hl (by decide) rfl (fun ls hl => ?_)
  refine lv_iconst (v := 0) hx hb d_Jou_availableOn_5 (by decide) ?_
  refine lv_istore (lv' := [(4, .int (0 : Int32)), (2, .long (ca_bal (cg_acc d a1))), (0, .ref (ad 9)), (1, .ref a1)]) hx hb d_Jou_availableOn_6 hl (by decide) rfl (fun ls hl => ?_)
  exact cc_Journal_availableOn_L8 d a1 hm_a1 _ hx hb hr hlocks hml hown hts hN hA hK 200 (ca_bal (cg_acc d a1)) (0 : Int32) _ _ ls hj hP hD hS (lv_sub hl [2, 3, 1, 0] rfl)
