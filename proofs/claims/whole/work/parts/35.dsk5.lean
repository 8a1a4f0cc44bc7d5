set_option maxHeartbeats 4000000 in
set_option maxRecDepth 100000 in
theorem cc_D_answerRequest (l : Launch) (dC : Nat → ClassId) (dI : Nat → Nat → Nat) (ad : Nat → Nat) (ca : Nat → ClassId) (LA LE : List Nat) (sz : Nat) (d : CS)   (r9 : Int32) (d9 : CS) (hj : jc_D_answerRequest LA LE d = some (r9, d9)) : Met l y_Dsk_answerRequest w_Dsk_answerRequest ({ frames := 5, cells := 0, slots := 0, locals := 110 }) (va_Pc [.ref (ad 0)] (cPre dC dI ad ca LA LE sz d)) (va_Qi (fun (r : Int32) (u : CS) => r = r9 ∧ u = d9) (cAt dC dI ad ca LA LE (va_A (cw ad ca LA LE d) sz)) (va_A (cw ad ca LA LE d) sz)) 0 0 (va_A (cw ad ca LA LE d) sz) := by
  refine Met.ofW (cc := prog_1_method_14_code) (maxL := 3) (ret := (some .int)) (by decide) rfl ?_
  intro p e s m args below meth c s₁ B hml hv
  obtain ⟨rfl, hsz, hP, hK, hD0, hN⟩ := hv
  have hx := B.exec
  have hb := B.bytes
  have hr := B.returns
  have hts0 := atoms_spec (ws := w_Dsk_answerRequest) B.pre
  have hts : ∀ w ∈ gt, w.before _ s = true := fun w h => hts0 w (List.mem_cons_of_mem _ h)
  have hown : s.vm.findClass "CardMessageDesk" = some m.cls := findClass_of_methodNamed B.named
  have hlocks := B.notSynchronized
  subst hsz
  have hD := hD0.self (sz := s.heap.size)
  generalize hAe : va_A (cw ad ca LA LE d) s.heap.size = A at hD ⊢
  have hA : ∀ q : Nat, s.heap.size ≤ q → A q := fun q h => by rw [← hAe]; exact Or.inr h
  have hS : va_S A s.heap s.heap [] := va_S.rf
  have hl := lv_entry ([.ref (ad 0)]) (n := 3) (Nat.le_of_ble_eq_true rfl)
  rw [lg_entry_eq]
  generalize (lg_sl ([.ref (ad 0)]) ++ List.replicate (3 - (lg_sl ([.ref (ad 0)])).length) Slot.unset).toArray = ls at hl ⊢
  have hl : lv_has ls 3 [(0, .ref (ad 0))] := hl
  unfold jc_D_answerRequest at hj
  refine lv_aload_n hx hb d_Dsk_answerRequest_0 rfl (lv_at hl 0 rfl) ?_
  refine va_get (D := (dC, dI)) (ci := 7) (v := .ref (ad 9)) (C := "CardMessageDesk") (T := T_Dsk) (N := 7) hx hb hts in_Dsk hown hK hP 0 rfl rfl 4 (by decide) (hts _ tw201) (fun _ h9 => h9) rfl d_Dsk_answerRequest_1 ?_
  refine lv_aload_n hx hb d_Dsk_answerRequest_4 rfl (lv_at hl 0 rfl) ?_
  refine va_get (D := (dC, dI)) (ci := 7) (v := .ref (ad 5)) (C := "CardMessageDesk") (T := T_Dsk) (N := 7) hx hb hts in_Dsk hown hK hP 0 rfl rfl 2 (by decide) (hts _ tw199) (fun _ h9 => h9) rfl d_Dsk_answerRequest_5 ?_
  obtain ⟨v_1, hc_1, hj⟩ := bd_some hj
  have hF_1 := va_fr hD hS hA
  refine va_callq (va_runV (As := [.ref (ad 5)]) (rest := []) ⟨hx, hb, hml, hown, hts⟩ (cc_Journal_findSame l dC dI ad ca LA LE s.heap.size d   v_1 hc_1) (cwV 1 hts (gtV tw327 tw328 tw329 tw7 tw330) rfl rfl rfl (by decide +kernel) ⟨Nat.le_of_ble_eq_true rfl, Nat.le_of_ble_eq_true rfl⟩) ⟨cBl, va_recv hK hP (ci := 4) (q0 := 9) rfl rfl, fun U hU hW => ⟨rfl, cPr hP hK hD hN hU hW⟩⟩ rfl rfl hl.1 rfl (lv_room (Nat.le_of_ble_eq_true rfl)) d_Dsk_answerRequest_8 ⟨Nat.zero_le _, Nat.zero_le _⟩) hS (fun q _ h => hF_1 q h) hF_1 (fun r u t H locs ht hvm hw hB hz1 hk1 hS => ?_)
  obtain ⟨hw1, hw2⟩ := hw
  have hw1 := hw1.symm
  subst hw1
  have hw2 := hw2.symm
  subst hw2
  obtain ⟨hP, hD⟩ := cAf hB ht hF_1
  rcases oq_some hj with ⟨ho_1, hj⟩ | ⟨a_1, ho_1, hm_a_1, hj⟩
  · rw [ho_1]
    refine lv_astore_nN (lv' := [(1, .null), (0, .ref (ad 0))]) hx hb d_Dsk_answerRequest_11 rfl hl (by decide) rfl (fun ls hl => ?_)
    refine lv_aload_nN hx hb d_Dsk_answerRequest_12 rfl (lv_at hl 0 rfl) ?_
    refine lv_ifnullN (tgt := 21) hx hb d_Dsk_answerRequest_13 (by decide) ?_
    refine lv_aload_n hx hb d_Dsk_answerRequest_21 rfl (lv_at hl 1 rfl) ?_
    refine va_get (D := (dC, dI)) (ci := 7) (v := .ref (ad 5)) (C := "CardMessageDesk") (T := T_Dsk) (N := 7) hx hb hts in_Dsk hown hK hP 0 rfl rfl 2 (by decide) (hts _ tw199) (fun _ h9 => h9) rfl d_Dsk_answerRequest_22 ?_
    refine va_getN (D := (dC, dI)) (ci := 6) (v := .int (cg_rqType d)) (C := "CardMessageDesk$Request") (T := T_Req) (N := 10) hx hb hts in_Req hown hK hP 5 rfl rfl 1 (by decide) (nw_f hN (i := 5) rfl) (fun _ h9 => h9) rfl d_Dsk_answerRequest_25 ?_
    obtain ⟨v_2, hc_2, hj⟩ := bd_some hj
    have hF_2 := va_fr hD hS hA
    refine va_calli (va_runS (As := [.int (cg_rqType d)]) (rest := []) ⟨hx, hb, hml, hown, hts⟩ (cc_D_isHandled l dC dI ad ca LA LE H.size d (cg_rqType d)  v_2 hc_2) (cwS 1 hts (gtS tw331 tw332 tw1 tw333) rfl rfl rfl (by decide +kernel) ⟨Nat.le_of_ble_eq_true rfl, Nat.le_of_ble_eq_true rfl⟩) ⟨cBl, fun U hU hW => ⟨rfl, cPr hP hK hD hN hU hW⟩⟩ rfl rfl hl.1 rfl (lv_room (Nat.le_of_ble_eq_true rfl)) d_Dsk_answerRequest_28 ⟨Nat.zero_le _, Nat.zero_le _⟩) hS (fun q _ h => hF_2 q h) hF_2 (fun r u t H locs ht hvm hw hB hz1 hk1 hS => ?_)
    obtain ⟨hw1, hw2⟩ := hw
    have hw1 := hw1.symm
    subst hw1
    have hw2 := hw2.symm
    subst hw2
    obtain ⟨hP, hD⟩ := cAf hB ht hF_2
    refine lv_if_ne (tgt := 37) hx hb d_Dsk_answerRequest_31 (by decide) (fun c_3 => ?_) (fun c_3 => ?_)
    · have hj := it_n hj c_3
      refine lv_aload_n hx hb d_Dsk_answerRequest_37 rfl (lv_at hl 1 rfl) ?_
      refine va_get (D := (dC, dI)) (ci := 7) (v := .ref (ad 9)) (C := "CardMessageDesk") (T := T_Dsk) (N := 7) hx hb hts in_Dsk hown hK hP 0 rfl rfl 4 (by decide) (hts _ tw201) (fun _ h9 => h9) rfl d_Dsk_answerRequest_38 ?_
      refine va_getN (D := (dC, dI)) (ci := 4) (v := .int (cg_jSize d)) (C := "CardMessageDesk$Journal") (T := T_Jou) (N := 3) hx hb hts in_Jou hown hK hP 9 rfl rfl 1 (by decide) (nw_f hN (i := 33) rfl) (fun _ h9 => h9) rfl d_Dsk_answerRequest_41 ?_
      refine lv_aload_n hx hb d_Dsk_answerRequest_44 rfl (lv_at hl 1 rfl) ?_
      refine va_get (D := (dC, dI)) (ci := 7) (v := .ref (ad 5)) (C := "CardMessageDesk") (T := T_Dsk) (N := 7) hx hb hts in_Dsk hown hK hP 0 rfl rfl 2 (by decide) (hts _ tw199) (fun _ h9 => h9) rfl d_Dsk_answerRequest_45 ?_
      refine va_getN (D := (dC, dI)) (ci := 6) (v := .int (cg_rqType d)) (C := "CardMessageDesk$Request") (T := T_Req) (N := 10) hx hb hts in_Req hown hK hP 5 rfl rfl 1 (by decide) (nw_f hN (i := 5) rfl) (fun _ h9 => h9) rfl d_Dsk_answerRequest_48 ?_
      obtain ⟨v_4, hc_4, hj⟩ := bd_some hj
      have hF_4 := va_fr hD hS hA
      refine va_calli (va_runS (As := [.int (cg_rqType d)]) (rest := [.int (cg_jSize d)]) ⟨hx, hb, hml, hown, hts⟩ (cc_D_journalLimit l dC dI ad ca LA LE H.size d (cg_rqType d)  v_4 hc_4) (cwS 1 hts (gtS tw334 tw335 tw1 tw336) rfl rfl rfl (by decide +kernel) ⟨Nat.le_of_ble_eq_true rfl, Nat.le_of_ble_eq_true rfl⟩) ⟨cBl, fun U hU hW => ⟨rfl, cPr hP hK hD hN hU hW⟩⟩ rfl rfl hl.1 rfl (lv_room (Nat.le_of_ble_eq_true rfl)) d_Dsk_answerRequest_51 ⟨Nat.zero_le _, Nat.zero_le _⟩) hS (fun q _ h => hF_4 q h) hF_4 (fun r u t H locs ht hvm hw hB hz1 hk1 hS => ?_)
      obtain ⟨hw1, hw2⟩ := hw
      have hw1 := hw1.symm
      subst hw1
      have hw2 := hw2.symm
      subst hw2
      obtain ⟨hP, hD⟩ := cAf hB ht hF_4
      refine lv_icmp_lt (tgt := 60) hx hb d_Dsk_answerRequest_54 (by decide) (fun c_5 => ?_) (fun c_5 => ?_)
      · have hj := it_p hj c_5
        refine lv_aload_n hx hb d_Dsk_answerRequest_60 rfl (lv_at hl 1 rfl) ?_
        obtain ⟨p_6, hc_6, hj⟩ := bd_some hj
        have hF_6 := va_fr hD hS hA
        refine va_calli (va_runV (As := []) (rest := []) ⟨hx, hb, hml, hown, hts⟩ (cc_D_decide l dC dI ad ca LA LE H.size d   p_6.1 p_6.2 hc_6) (cwV 0 hts (gtV tw337 tw339 ts4 tw1 tw340) rfl rfl rfl (by decide +kernel) ⟨Nat.le_of_ble_eq_true rfl, Nat.le_of_ble_eq_true rfl⟩) ⟨cBl, va_recv hK hP (ci := 7) (q0 := 0) rfl rfl, fun U hU hW => ⟨rfl, cPr hP hK hD hN hU hW⟩⟩ rfl rfl hl.1 rfl (lv_room (Nat.le_of_ble_eq_true rfl)) d_Dsk_answerRequest_61 ⟨Nat.zero_le _, Nat.zero_le _⟩) hS (fun q _ h => hF_6 q h) hF_6 (fun r u t H locs ht hvm hw hB hz1 hk1 hS => ?_)
        obtain ⟨hw1, hw2⟩ := hw
        have hw1 := hw1.symm
        subst hw1
        have hw2 := hw2.symm
        subst hw2
        obtain ⟨hP, hD⟩ := cAf hB ht hF_6
        refine lv_istore_n (lv' := [(2, .int p_6.1), (1, .null), (0, .ref (ad 0))]) hx hb d_Dsk_answerRequest_64 rfl hl (by decide) rfl (fun ls hl => ?_)
        refine lv_aload_n hx hb d_Dsk_answerRequest_65 rfl (lv_at hl 2 rfl) ?_
        refine va_get (D := (dC, dI)) (ci := 7) (v := .ref (ad 9)) (C := "CardMessageDesk") (T := T_Dsk) (N := 7) hx hb hts in_Dsk hown hK hP 0 rfl rfl 4 (by decide) (hts _ tw201) (fun _ h9 => h9) rfl d_Dsk_answerRequest_66 ?_
        refine lv_aload_n hx hb d_Dsk_answerRequest_69 rfl (lv_at hl 2 rfl) ?_
        refine va_get (D := (dC, dI)) (ci := 7) (v := .ref (ad 5)) (C := "CardMessageDesk") (T := T_Dsk) (N := 7) hx hb hts in_Dsk hown hK hP 0 rfl rfl 2 (by decide) (hts _ tw199) (fun _ h9 => h9) rfl d_Dsk_answerRequest_70 ?_
        refine lv_iload_n hx hb d_Dsk_answerRequest_73 rfl (lv_at hl 0 rfl) ?_
        obtain ⟨d_7, hc_7, hj⟩ := bd_some hj
        have hF_7 := va_fr hD hS hA
        refine va_callv (va_runV (As := [.ref (ad 5), .int p_6.1]) (rest := []) ⟨hx, hb, hml, hown, hts⟩ (cc_Journal_add l dC dI ad ca LA LE H.size p_6.2 p_6.1  d_7 hc_7) (cwV 2 hts (gtV tw415 tw416 tw417 tw7 tw418) rfl rfl rfl (by decide +kernel) ⟨Nat.le_of_ble_eq_true rfl, Nat.le_of_ble_eq_true rfl⟩) ⟨cBl, va_recv hK hP (ci := 4) (q0 := 9) rfl rfl, fun U hU hW => ⟨rfl, cPr hP hK hD hN hU hW⟩⟩ rfl rfl hl.1 rfl (lv_room (Nat.le_of_ble_eq_true rfl)) d_Dsk_answerRequest_74 ⟨Nat.zero_le _, Nat.zero_le _⟩) hS (fun q _ h => hF_7 q h) hF_7 (fun u t H locs ht hvm hw hB hz1 hk1 hS => ?_)
        have hw := hw.symm
        subst hw
        obtain ⟨hP, hD⟩ := cAf hB ht hF_7
        refine lv_iload_n hx hb d_Dsk_answerRequest_77 rfl (lv_at hl 0 rfl) ?_
        obtain ⟨rfl, rfl⟩ := rt_some hj
        exact W.iret hx hb hr (fun t ht hW => ⟨⟨_, _, rfl, ⟨rfl, rfl⟩, by rw [ht]; exact hP, va_K.moved hW.alike hK, hD⟩, hS.F ht⟩) hS.2.2 d_Dsk_answerRequest_78
      · have hj := it_n hj c_5
        refine lv_bipush (v := 96) hx hb d_Dsk_answerRequest_57 (by decide) ?_
        obtain ⟨rfl, rfl⟩ := rt_some hj
        exact W.iret hx hb hr (fun t ht hW => ⟨⟨_, _, rfl, ⟨rfl, rfl⟩, by rw [ht]; exact hP, va_K.moved hW.alike hK, hD⟩, hS.F ht⟩) hS.2.2 d_Dsk_answerRequest_59
    · have hj := it_p hj c_3
      refine lv_bipush (v := 12) hx hb d_Dsk_answerRequest_34 (by decide) ?_
      obtain ⟨rfl, rfl⟩ := rt_some hj
      exact W.iret hx hb hr (fun t ht hW => ⟨⟨_, _, rfl, ⟨rfl, rfl⟩, by rw [ht]; exact hP, va_K.moved hW.alike hK, hD⟩, hS.F ht⟩) hS.2.2 d_Dsk_answerRequest_36
  · rw [ho_1]
    refine lv_astore_n (lv' := [(1, .ref a_1), (0, .ref (ad 0))]) hx hb d_Dsk_answerRequest_11 rfl hl (by decide) rfl (fun ls hl => ?_)
    refine lv_aload_n hx hb d_Dsk_answerRequest_12 rfl (lv_at hl 0 rfl) ?_
    refine lv_ifnull hx hb d_Dsk_answerRequest_13 ?_
    refine lv_aload_n hx hb d_Dsk_answerRequest_16 rfl (lv_at hl 0 rfl) ?_
    obtain ⟨kx_8, hkx_8⟩ := ent_at (ad := ad) (ca := ca) (LA := LA) (LE := LE) (d := _) hm_a_1
    refine va_getN (D := (dC, dI)) (ci := 3) (v := .int (ce_answer (cg_ent d a_1))) (C := "CardMessageDesk$Entry") (T := T_Ent) (N := 9) hx hb hts in_Ent hown hK hP kx_8 hkx_8 rfl 6 (by decide) (nw_f hN (i := 31) rfl) (fun _ h9 => h9) rfl d_Dsk_answerRequest_17 ?_
    obtain ⟨rfl, rfl⟩ := rt_some hj
    exact W.iret hx hb hr (fun t ht hW => ⟨⟨_, _, rfl, ⟨rfl, rfl⟩, by rw [ht]; exact hP, va_K.moved hW.alike hK, hD⟩, hS.F ht⟩) hS.2.2 d_Dsk_answerRequest_20
set_option maxHeartbeats 4000000 in
set_option maxRecDepth 100000 in
theorem cc_ByteRow_append_out (l : Launch) (dC : Nat → ClassId) (dI : Nat → Nat → Nat) (ad : Nat → Nat) (ca : Nat → ClassId) (LA LE : List Nat) (sz : Nat) (d : CS) (p1 : Int32)  (d9 : CS) (hj : jc_ByteRow_append_out LA LE d p1 = some d9) : Met l y_Row_append w_Row_append ({ frames := 0, cells := 0, slots := 0, locals := 0 }) (va_Pc [.ref (ad 3), .int p1] (cPre dC dI ad ca LA LE sz d)) (va_Qv (fun u : CS => u = d9) (cAt dC dI ad ca LA LE (va_A (cw ad ca LA LE d) sz)) (va_A (cw ad ca LA LE d) sz)) 0 0 (va_A (cw ad ca LA LE d) sz) := by
  refine Met.ofW (cc := prog_3_method_4_code) (maxL := 2) (ret := none) (by decide) rfl ?_
  intro p e s m args below meth c s₁ B hml hv
  obtain ⟨rfl, hsz, hP, hK, hD0, hN⟩ := hv
  have hx := B.exec
  have hb := B.bytes
  have hr := B.returns
  have hts0 := atoms_spec (ws := w_Row_append) B.pre
  have hts : ∀ w ∈ gt, w.before _ s = true := fun w h => hts0 w (List.mem_cons_of_mem _ h)
  have hown : s.vm.findClass "CardMessageDesk$ByteRow" = some m.cls := findClass_of_methodNamed B.named
  have hlocks := B.notSynchronized
  subst hsz
  have hD := hD0.self (sz := s.heap.size)
  generalize hAe : va_A (cw ad ca LA LE d) s.heap.size = A at hD ⊢
  have hA : ∀ q : Nat, s.heap.size ≤ q → A q := fun q h => by rw [← hAe]; exact Or.inr h
  have hS : va_S A s.heap s.heap [] := va_S.rf
  have hl := lv_entry ([.ref (ad 3), .int p1]) (n := 2) (Nat.le_of_ble_eq_true rfl)
  rw [lg_entry_eq]
  generalize (lg_sl ([.ref (ad 3), .int p1]) ++ List.replicate (2 - (lg_sl ([.ref (ad 3), .int p1])).length) Slot.unset).toArray = ls at hl ⊢
  have hl : lv_has ls 2 [(0, .ref (ad 3)), (1, .int p1)] := hl
  unfold jc_ByteRow_append_out at hj
  refine lv_aload_n hx hb d_Row_append_0 rfl (lv_at hl 0 rfl) ?_
  refine va_get (D := (dC, dI)) (ci := 1) (v := .int (cg_outSize d)) (C := "CardMessageDesk$ByteRow") (T := T_Row) (N := 2) hx hb hts in_Row hown hK hP 3 rfl rfl 1 (by decide) (hts _ tw26) (fun _ h9 => h9) rfl d_Row_append_1 ?_
  refine lv_aload_n hx hb d_Row_append_4 rfl (lv_at hl 0 rfl) ?_
  refine va_get (D := (dC, dI)) (ci := 1) (v := .ref (ad 4)) (C := "CardMessageDesk$ByteRow") (T := T_Row) (N := 2) hx hb hts in_Row hown hK hP 3 rfl rfl 0 (by decide) (hts _ tw25) (fun _ h9 => h9) rfl d_Row_append_5 ?_
  refine va_alen (v := 37) hx hb hK hP 4 1 rfl rfl rfl d_Row_append_8 ?_
  refine lv_icmp_ge (tgt := 36) hx hb d_Row_append_9 (by decide) (fun c_1 => ?_) (fun c_1 => ?_)
  · have hj := it_p hj c_1
    obtain rfl := Option.some.inj hj
    exact W.vret hx hb hr (fun t ht hW => ⟨⟨_, rfl, rfl, by rw [ht]; exact hP, va_K.moved hW.alike hK, hD⟩, hS.F ht⟩) hS.2.2 d_Row_append_36
  · have hj := it_n hj c_1
    refine lv_aload_n hx hb d_Row_append_12 rfl (lv_at hl 0 rfl) ?_
    refine va_get (D := (dC, dI)) (ci := 1) (v := .ref (ad 4)) (C := "CardMessageDesk$ByteRow") (T := T_Row) (N := 2) hx hb hts in_Row hown hK hP 3 rfl rfl 0 (by decide) (hts _ tw25) (fun _ h9 => h9) rfl d_Row_append_13 ?_
    refine lv_aload_n hx hb d_Row_append_16 rfl (lv_at hl 0 rfl) ?_
    refine va_get (D := (dC, dI)) (ci := 1) (v := .int (cg_outSize d)) (C := "CardMessageDesk$ByteRow") (T := T_Row) (N := 2) hx hb hts in_Row hown hK hP 3 rfl rfl 1 (by decide) (hts _ tw26) (fun _ h9 => h9) rfl d_Row_append_17 ?_
    refine lv_iload_n hx hb d_Row_append_20 rfl (lv_at hl 1 rfl) ?_
    refine lv_sipush (v := 255) hx hb d_Row_append_21 (by decide) ?_
    refine lv_iand hx hb d_Row_append_24 ?_
    obtain ⟨hi_2, hj⟩ := gd_some hj
    obtain ⟨d_3, ed_3, hj⟩ := nm_some hj
    refine va_iast hx hb hK hP hD hS 4 1 rfl rfl hi_2 d_Row_append_25 (fun H locs hP hD hS => ?_)
    have hP : va_P (dC, dI) vwCl (cw ad ca LA LE d_3) H := by rw [ed_3]; exact hP
    have hD : va_D A (cw ad ca LA LE d_3) := by rw [ed_3]; exact hD
    refine lv_aload_n hx hb d_Row_append_26 rfl (lv_at hl 0 rfl) ?_
    refine lv_dup hx hb d_Row_append_27 rfl ?_
    refine va_get (D := (dC, dI)) (ci := 1) (v := .int (cg_outSize d_3)) (C := "CardMessageDesk$ByteRow") (T := T_Row) (N := 2) hx hb hts in_Row hown hK hP 3 rfl rfl 1 (by decide) (hts _ tw26) (fun _ h9 => h9) rfl d_Row_append_28 ?_
    refine lv_iconst (v := 1) hx hb d_Row_append_31 (by decide) ?_
    refine lv_iadd hx hb d_Row_append_32 ?_
    obtain ⟨d_4, ed_4, hj⟩ := nm_some hj
    refine va_put (D := (dC, dI)) (ci := 1) (v := .int ((cg_outSize d_3) + (1 : Int32))) (ty := .int) (C := "CardMessageDesk$ByteRow") (T := T_Row) (N := 2) hx hb hts in_Row ty_Row ty_Row_ok nm_Row hown hK hP hD hS 3 rfl rfl 1 (by decide) (hts _ tw26) (fun _ h9 => h9) rfl (by decide +kernel) rfl rfl (Nat.le_of_ble_eq_true rfl) d_Row_append_33 (fun H locs hP hD hS => ?_)
    have hP : va_P (dC, dI) vwCl (cw ad ca LA LE d_4) H := by rw [ed_4]; exact hP
    have hD : va_D A (cw ad ca LA LE d_4) := by rw [ed_4]; exact hD
    obtain rfl := Option.some.inj hj
    exact W.vret hx hb hr (fun t ht hW => ⟨⟨_, rfl, rfl, by rw [ht]; exact hP, va_K.moved hW.alike hK, hD⟩, hS.F ht⟩) hS.2.2 d_Row_append_36
set_option maxHeartbeats 4000000 in
set_option maxRecDepth 100000 in
theorem cc_ByteRow_appendBytes_out_L5 {p : Program} {l : Launch} {e : Env} {s : State} {m : MethodId} {args : Array Value} {below : List Frame} {meth : Method} {c : Code} {dC : Nat → ClassId} {dI : Nat → Nat → Nat} {ad : Nat → Nat} {ca : Nat → ClassId} {LA LE : List Nat} {A : Nat → Prop}  (x1 : Int64)  (d9 : CS) (hx : p.tables.exec = Jvm.exec) (hb : c.code = prog_3_method_5_code) (hr : meth.sig.returnType = none) (hlocks : meth.locks = false) (hml : c.maxLocals = 5) (hown : s.vm.findClass "CardMessageDesk$ByteRow" = some m.cls) (hts : ∀ w ∈ gt, w.before args s = true) (hN : nw s) (hA : ∀ q : Nat, s.heap.size ≤ q → A q) (hK : va_K (dC, dI) vwCl (cT ca) s) :
    ∀ (n : Nat) (d : CS) (x4 : Int32) (H : Heap) (locs : List Loc) (ls : Array Slot), loopF (jc_ByteRow_appendBytes_out_L5 LA LE x1) n (d, x4) = some d9 → va_P (dC, dI) vwCl (cw ad ca LA LE d) H → va_D A (cw ad ca LA LE d) → va_S A s.heap H locs → lv_has ls 5 [(0, .ref (ad 3)), (1, .long x1), (4, .int x4)] → W p l e ({ frames := 1, cells := 0, slots := 0, locals := 21 }) s m args below meth c H locs 0 0 (MQ below (va_Qv (fun u : CS => u = d9) (cAt dC dI ad ca LA LE A) A) args s 0 0 A) (F0 m 5 ls []) := by
  intro n
  induction n with
  | zero =>
    intro d x4 H locs ls hj
    exact (loopF_z hj).elim
  | succ n ih =>
    intro d x4 H locs ls hj hP hD hS hl
    have hj := loopF_s hj
    unfold jc_ByteRow_appendBytes_out_L5 at hj
    try dsimp only at hj
    refine lv_iload hx hb d_Row_appendBytes_5 (lv_at hl 2 rfl) ?_
    refine lv_if_lt (tgt := 28) hx hb d_Row_appendBytes_7 (by decide) (fun c_1 => ?_) (fun c_1 => ?_)
    · have hj := it_p hj c_1
      obtain rfl := Option.some.inj hj
      exact W.vret hx hb hr (fun t ht hW => ⟨⟨_, rfl, rfl, by rw [ht]; exact hP, va_K.moved hW.alike hK, hD⟩, hS.F ht⟩) hS.2.2 d_Row_appendBytes_28
    · have hj := it_n hj c_1
      refine lv_aload_n hx hb d_Row_appendBytes_10 rfl (lv_at hl 0 rfl) ?_
      refine lv_lload_n hx hb d_Row_appendBytes_11 rfl (lv_at hl 1 rfl) ?_
      refine lv_bipush (v := 8) hx hb d_Row_appendBytes_12 (by decide) ?_
      refine lv_iload hx hb d_Row_appendBytes_14 (lv_at hl 2 rfl) ?_
      refine lv_imul hx hb d_Row_appendBytes_16 ?_
      refine lv_lushr (v := ((x1).toUInt64 >>> ((((8 : Int32) * x4)).toInt64.toUInt64 &&& Int64.toUInt64 63)).toInt64) hx hb d_Row_appendBytes_17 rfl ?_
      refine lv_l2i (v := (((x1).toUInt64 >>> ((((8 : Int32) * x4)).toInt64.toUInt64 &&& Int64.toUInt64 63)).toInt64).toInt32) hx hb d_Row_appendBytes_18 rfl ?_
      obtain ⟨d_2, hc_2, hj⟩ := bd_some hj
      have hF_2 := va_fr hD hS hA
      refine va_callv (va_runV (As := [.int (((x1).toUInt64 >>> ((((8 : Int32) * x4)).toInt64.toUInt64 &&& Int64.toUInt64 63)).toInt64).toInt32]) (rest := []) ⟨hx, hb, hml, hown, hts⟩ (cc_ByteRow_append_out l dC dI ad ca LA LE H.size d (((x1).toUInt64 >>> ((((8 : Int32) * x4)).toInt64.toUInt64 &&& Int64.toUInt64 63)).toInt64).toInt32  d_2 hc_2) (cwV 1 hts (gtV tw241 tw242 tw243 tw2 tw244) rfl rfl rfl (by decide +kernel) ⟨Nat.le_of_ble_eq_true rfl, Nat.le_of_ble_eq_true rfl⟩) ⟨cBl, va_recv hK hP (ci := 1) (q0 := 3) rfl rfl, fun U hU hW => ⟨rfl, cPr hP hK hD hN hU hW⟩⟩ rfl rfl hl.1 rfl (lv_room (Nat.le_of_ble_eq_true rfl)) d_Row_appendBytes_19 ⟨Nat.zero_le _, Nat.zero_le _⟩) hS (fun q _ h => hF_2 q h) hF_2 (fun u t H locs ht hvm hw hB hz1 hk1 hS => ?_)
      have hw := hw.symm
      subst hw
      obtain ⟨hP, hD⟩ := cAf hB ht hF_2
      refine lv_iinc (v := (x4 + (-1))) (lv' := [(4, .int (x4 + (-1))), (0, .ref (ad 3)), (1, .long x1)]) hx hb d_Row_appendBytes_22 hl (k := 2) rfl rfl (by decide) rfl (fun ls hl => ?_)
      refine lv_goto (tgt := 5) hx hb d_Row_appendBytes_25 (by decide) ?_
      exact ih d_2 (x4 + (-1)) H locs ls hj hP hD hS (lv_sub hl [1, 2, 0] rfl)
set_option maxHeartbeats 4000000 in
set_option maxRecDepth 100000 in
theorem cc_ByteRow_appendBytes_out (l : Launch) (dC : Nat → ClassId) (dI : Nat → Nat → Nat) (ad : Nat → Nat) (ca : Nat → ClassId) (LA LE : List Nat) (sz : Nat) (d : CS) (p1 : Int64) (p2 : Int32)  (d9 : CS) (hj : jc_ByteRow_appendBytes_out LA LE d p1 p2 = some d9) : Met l y_Row_appendBytes w_Row_appendBytes ({ frames := 1, cells := 0, slots := 0, locals := 21 }) (va_Pc [.ref (ad 3), .long p1, .int p2] (cPre dC dI ad ca LA LE sz d)) (va_Qv (fun u : CS => u = d9) (cAt dC dI ad ca LA LE (va_A (cw ad ca LA LE d) sz)) (va_A (cw ad ca LA LE d) sz)) 0 0 (va_A (cw ad ca LA LE d) sz) := by
  refine Met.ofW (cc := prog_3_method_5_code) (maxL := 5) (ret := none) (by decide) rfl ?_
  intro p e s m args below meth c s₁ B hml hv
  obtain ⟨rfl, hsz, hP, hK, hD0, hN⟩ := hv
  have hx := B.exec
  have hb := B.bytes
  have hr := B.returns
  have hts0 := atoms_spec (ws := w_Row_appendBytes) B.pre
  have hts : ∀ w ∈ gt, w.before _ s = true := fun w h => hts0 w (List.mem_cons_of_mem _ h)
  have hown : s.vm.findClass "CardMessageDesk$ByteRow" = some m.cls := findClass_of_methodNamed B.named
  have hlocks := B.notSynchronized
  subst hsz
  have hD := hD0.self (sz := s.heap.size)
  generalize hAe : va_A (cw ad ca LA LE d) s.heap.size = A at hD ⊢
  have hA : ∀ q : Nat, s.heap.size ≤ q → A q := fun q h => by rw [← hAe]; exact Or.inr h
  have hS : va_S A s.heap s.heap [] := va_S.rf
  have hl := lv_entry ([.ref (ad 3), .long p1, .int p2]) (n := 5) (Nat.le_of_ble_eq_true rfl)
  rw [lg_entry_eq]
  generalize (lg_sl ([.ref (ad 3), .long p1, .int p2]) ++ List.replicate (5 - (lg_sl ([.ref (ad 3), .long p1, .int p2])).length) Slot.unset).toArray = ls at hl ⊢
  have hl : lv_has ls 5 [(0, .ref (ad 3)), (1, .long p1), (3, .int p2)] := hl
  unfold jc_ByteRow_appendBytes_out at hj
  refine lv_iload_n hx hb d_Row_appendBytes_0 rfl (lv_at hl 2 rfl) ?_
  refine lv_iconst (v := 1) hx hb d_Row_appendBytes_1 (by decide) ?_
  refine lv_isub hx hb d_Row_appendBytes_2 ?_
  refine lv_istore (lv' := [(4, .int (p2 - (1 : Int32))), (0, .ref (ad 3)), (1, .long p1), (3, .int p2)]) hx hb d_Row_appendBytes_3 hl (by decide) rfl (fun ls hl => ?_)
  exact cc_ByteRow_appendBytes_out_L5  p1 _ hx hb hr hlocks hml hown hts hN hA hK 200 d (p2 - (1 : Int32)) _ _ ls hj hP hD hS (lv_sub hl [1, 2, 0] rfl)
set_option maxHeartbeats 4000000 in
set_option maxRecDepth 100000 in
theorem cc_ByteRow_appendDigits_out_L9 {p : Program} {l : Launch} {e : Env} {s : State} {m : MethodId} {args : Array Value} {below : List Frame} {meth : Method} {c : Code} {dC : Nat → ClassId} {dI : Nat → Nat → Nat} {ad : Nat → Nat} {ca : Nat → ClassId} {LA LE : List Nat} {A : Nat → Prop}  (x3 : Int32)  (d9 : CS) (hx : p.tables.exec = Jvm.exec) (hb : c.code = prog_3_method_6_code) (hr : meth.sig.returnType = none) (hlocks : meth.locks = false) (hml : c.maxLocals = 9) (hown : s.vm.findClass "CardMessageDesk$ByteRow" = some m.cls) (hts : ∀ w ∈ gt, w.before args s = true) (hN : nw s) (hA : ∀ q : Nat, s.heap.size ≤ q → A q) (hK : va_K (dC, dI) vwCl (cT ca) s) :
    ∀ (n : Nat) (d : CS) (x4 : Int64) (x6 : Int64) (x8 : Int32) (H : Heap) (locs : List Loc) (ls : Array Slot), loopF (jc_ByteRow_appendDigits_out_L9 LA LE x3) n (d, x4, x6, x8) = some d9 → va_P (dC, dI) vwCl (cw ad ca LA LE d) H → va_D A (cw ad ca LA LE d) → va_S A s.heap H locs → lv_has ls 9 [(0, .ref (ad 3)), (3, .int x3), (4, .long x4), (6, .long x6), (8, .int x8)] → W p l e ({ frames := 2, cells := 0, slots := 0, locals := 45 }) s m args below meth c H locs 0 0 (MQ below (va_Qv (fun u : CS => u = d9) (cAt dC dI ad ca LA LE A) A) args s 0 0 A) (F0 m 9 ls []) := by
  intro n
  induction n with
  | zero =>
    intro d x4 x6 x8 H locs ls hj
    exact (loopF_z hj).elim
  | succ n ih =>
    intro d x4 x6 x8 H locs ls hj hP hD hS hl
    have hj := loopF_s hj
    unfold jc_ByteRow_appendDigits_out_L9 at hj
    try dsimp only at hj
    refine lv_iload hx hb d_Row_appendDigits_9 (lv_at hl 4 rfl) ?_
    refine lv_iload_n hx hb d_Row_appendDigits_11 rfl (lv_at hl 1 rfl) ?_
    refine lv_icmp_ge (tgt := 45) hx hb d_Row_appendDigits_12 (by decide) (fun c_1 => ?_) (fun c_1 => ?_)
    · have hj := it_p hj c_1
      refine lv_aload_n hx hb d_Row_appendDigits_45 rfl (lv_at hl 0 rfl) ?_
      refine lv_lload hx hb d_Row_appendDigits_46 (lv_at hl 2 rfl) ?_
      refine lv_iload_n hx hb d_Row_appendDigits_48 rfl (lv_at hl 1 rfl) ?_
      refine lv_iconst (v := 2) hx hb d_Row_appendDigits_49 (by decide) ?_
      refine lv_idiv hx hb d_Row_appendDigits_50 (by decide +kernel) ?_
      obtain ⟨d_2, hc_2, hj⟩ := bd_some hj
      have hF_2 := va_fr hD hS hA
      refine va_callv (va_runV (As := [.long x4, .int (x3 / (2 : Int32))]) (rest := []) ⟨hx, hb, hml, hown, hts⟩ (cc_ByteRow_appendBytes_out l dC dI ad ca LA LE H.size d x4 (x3 / (2 : Int32))  d_2 hc_2) (cwV 2 hts (gtV tw434 tw238 tw239 tw2 tw240) rfl rfl rfl (by decide +kernel) ⟨Nat.le_of_ble_eq_true rfl, Nat.le_of_ble_eq_true rfl⟩) ⟨cBl, va_recv hK hP (ci := 1) (q0 := 3) rfl rfl, fun U hU hW => ⟨rfl, cPr hP hK hD hN hU hW⟩⟩ rfl rfl hl.1 rfl (lv_room (Nat.le_of_ble_eq_true rfl)) d_Row_appendDigits_51 ⟨Nat.zero_le _, Nat.zero_le _⟩) hS (fun q _ h => hF_2 q h) hF_2 (fun u t H locs ht hvm hw hB hz1 hk1 hS => ?_)
      have hw := hw.symm
      subst hw
      obtain ⟨hP, hD⟩ := cAf hB ht hF_2
      obtain rfl := Option.some.inj hj
      exact W.vret hx hb hr (fun t ht hW => ⟨⟨_, rfl, rfl, by rw [ht]; exact hP, va_K.moved hW.alike hK, hD⟩, hS.F ht⟩) hS.2.2 d_Row_appendDigits_54
    · have hj := it_n hj c_1
      refine lv_lload hx hb d_Row_appendDigits_15 (lv_at hl 2 rfl) ?_
      refine lv_lload hx hb d_Row_appendDigits_17 (lv_at hl 3 rfl) ?_
      refine lv_ldc2 (v := 10) hx hb hown (hts _ tw433) d_Row_appendDigits_19 ?_
      refine lv_lrem hx hb d_Row_appendDigits_22 (by decide +kernel) ?_
      refine lv_iconst (v := 4) hx hb d_Row_appendDigits_23 (by decide) ?_
      refine lv_iload hx hb d_Row_appendDigits_24 (lv_at hl 4 rfl) ?_
      refine lv_imul hx hb d_Row_appendDigits_26 ?_
      refine lv_lshl (v := ((x6 - x6 / (10 : Int64) * (10 : Int64)) <<< ((((4 : Int32) * x8)).toInt64 &&& 63))) hx hb d_Row_appendDigits_27 rfl ?_
      refine lv_lor hx hb d_Row_appendDigits_28 ?_
      refine lv_lstore (lv' := [(4, .long (x4 ||| ((x6 - x6 / (10 : Int64) * (10 : Int64)) <<< ((((4 : Int32) * x8)).toInt64 &&& 63)))), (0, .ref (ad 3)), (3, .int x3), (6, .long x6), (8, .int x8)]) hx hb d_Row_appendDigits_29 hl (by decide) rfl (fun ls hl => ?_)
      refine lv_lload hx hb d_Row_appendDigits_31 (lv_at hl 3 rfl) ?_
      refine lv_ldc2 (v := 10) hx hb hown (hts _ tw433) d_Row_appendDigits_33 ?_
      refine lv_ldiv hx hb d_Row_appendDigits_36 (by decide +kernel) ?_
      refine lv_lstore (lv' := [(6, .long (x6 / (10 : Int64))), (4, .long (x4 ||| ((x6 - x6 / (10 : Int64) * (10 : Int64)) <<< ((((4 : Int32) * x8)).toInt64 &&& 63)))), (0, .ref (ad 3)), (3, .int x3), (8, .int x8)]) hx hb d_Row_appendDigits_37 hl (by decide) rfl (fun ls hl => ?_)
      refine lv_iinc (v := (x8 + 1)) (lv' := [(8, .int (x8 + 1)), (6, .long (x6 / (10 : Int64))), (4, .long (x4 ||| ((x6 - x6 / (10 : Int64) * (10 : Int64)) <<< ((((4 : Int32) * x8)).toInt64 &&& 63)))), (0, .ref (ad 3)), (3, .int x3)]) hx hb d_Row_appendDigits_39 hl (k := 4) rfl rfl (by decide) rfl (fun ls hl => ?_)
      refine lv_goto (tgt := 9) hx hb d_Row_appendDigits_42 (by decide) ?_
      exact ih d (x4 ||| ((x6 - x6 / (10 : Int64) * (10 : Int64)) <<< ((((4 : Int32) * x8)).toInt64 &&& 63))) (x6 / (10 : Int64)) (x8 + 1) H locs ls hj hP hD hS (lv_sub hl [3, 4, 2, 1, 0] rfl)
set_option maxHeartbeats 4000000 in
set_option maxRecDepth 100000 in
theorem cc_ByteRow_appendDigits_out (l : Launch) (dC : Nat → ClassId) (dI : Nat → Nat → Nat) (ad : Nat → Nat) (ca : Nat → ClassId) (LA LE : List Nat) (sz : Nat) (d : CS) (p1 : Int64) (p2 : Int32)  (d9 : CS) (hj : jc_ByteRow_appendDigits_out LA LE d p1 p2 = some d9) : Met l y_Row_appendDigits w_Row_appendDigits ({ frames := 2, cells := 0, slots := 0, locals := 45 }) (va_Pc [.ref (ad 3), .long p1, .int p2] (cPre dC dI ad ca LA LE sz d)) (va_Qv (fun u : CS => u = d9) (cAt dC dI ad ca LA LE (va_A (cw ad ca LA LE d) sz)) (va_A (cw ad ca LA LE d) sz)) 0 0 (va_A (cw ad ca LA LE d) sz) := by
  refine Met.ofW (cc := prog_3_method_6_code) (maxL := 9) (ret := none) (by decide) rfl ?_
  intro p e s m args below meth c s₁ B hml hv
  obtain ⟨rfl, hsz, hP, hK, hD0, hN⟩ := hv
  have hx := B.exec
  have hb := B.bytes
  have hr := B.returns
  have hts0 := atoms_spec (ws := w_Row_appendDigits) B.pre
  have hts : ∀ w ∈ gt, w.before _ s = true := fun w h => hts0 w (List.mem_cons_of_mem _ h)
  have hown : s.vm.findClass "CardMessageDesk$ByteRow" = some m.cls := findClass_of_methodNamed B.named
  have hlocks := B.notSynchronized
  subst hsz
  have hD := hD0.self (sz := s.heap.size)
  generalize hAe : va_A (cw ad ca LA LE d) s.heap.size = A at hD ⊢
  have hA : ∀ q : Nat, s.heap.size ≤ q → A q := fun q h => by rw [← hAe]; exact Or.inr h
  have hS : va_S A s.heap s.heap [] := va_S.rf
  have hl := lv_entry ([.ref (ad 3), .long p1, .int p2]) (n := 9) (Nat.le_of_ble_eq_true rfl)
  rw [lg_entry_eq]
  generalize (lg_sl ([.ref (ad 3), .long p1, .int p2]) ++ List.replicate (9 - (lg_sl ([.ref (ad 3), .long p1, .int p2])).length) Slot.unset).toArray = ls at hl ⊢
  have hl : lv_has ls 9 [(0, .ref (ad 3)), (1, .long p1), (3, .int p2)] := hl
  unfold jc_ByteRow_appendDigits_out at hj
  refine lv_lconst (v := 0) hx hb d_Row_appendDigits_0 (by decide) ?_
  refine lv_lstore (lv' := [(4, .long (0 : Int64)), (0, .ref (ad 3)), (1, .long p1), (3, .int p2)]) hx hb d_Row_appendDigits_1 hl (by decide) rfl (fun ls hl => ?_)
  refine lv_lload_n hx hb d_Row_appendDigits_3 rfl (lv_at hl 2 rfl) ?_
  refine lv_lstore (lv' := [(6, .long p1), (4, .long (0 : Int64)), (0, .ref (ad 3)), (1, .long p1), (3, .int p2)]) hx hb d_Row_appendDigits_4 hl (by decide) rfl (fun ls hl => ?_)
  refine lv_iconst (v := 0) hx hb d_Row_appendDigits_6 (by decide) ?_
  refine lv_istore (lv' := [(8, .int (0 : Int32)), (6, .long p1), (4, .long (0 : Int64)), (0, .ref (ad 3)), (1, .long p1), (3, .int p2)]) hx hb d_Row_appendDigits_7 hl (by decide) rfl (fun ls hl => ?_)
  exact cc_ByteRow_appendDigits_out_L9  p2 _ hx hb hr hlocks hml hown hts hN hA hK 200 d (0 : Int64) p1 (0 : Int32) _ _ ls hj hP hD hS (lv_sub hl [3, 5, 2, 1, 0] rfl)
set_option maxHeartbeats 4000000 in
set_option maxRecDepth 100000 in
theorem cc_ByteRow_appendFrom_out_L3 {p : Program} {l : Launch} {e : Env} {s : State} {m : MethodId} {args : Array Value} {below : List Frame} {meth : Method} {c : Code} {dC : Nat → ClassId} {dI : Nat → Nat → Nat} {ad : Nat → Nat} {ca : Nat → ClassId} {LA LE : List Nat} {A : Nat → Prop}  (x3 : Int32)  (d9 : CS) (hx : p.tables.exec = Jvm.exec) (hb : c.code = prog_3_method_7_code) (hr : meth.sig.returnType = none) (hlocks : meth.locks = false) (hml : c.maxLocals = 5) (hown : s.vm.findClass "CardMessageDesk$ByteRow" = some m.cls) (hts : ∀ w ∈ gt, w.before args s = true) (hN : nw s) (hA : ∀ q : Nat, s.heap.size ≤ q → A q) (hK : va_K (dC, dI) vwCl (cT ca) s) :
    ∀ (n : Nat) (d : CS) (x4 : Int32) (H : Heap) (locs : List Loc) (ls : Array Slot), loopF (jc_ByteRow_appendFrom_out_L3 LA LE x3) n (d, x4) = some d9 → va_P (dC, dI) vwCl (cw ad ca LA LE d) H → va_D A (cw ad ca LA LE d) → va_S A s.heap H locs → lv_has ls 5 [(0, .ref (ad 3)), (1, .ref (ad 1)), (3, .int x3), (4, .int x4)] → W p l e ({ frames := 1, cells := 0, slots := 0, locals := 21 }) s m args below meth c H locs 0 0 (MQ below (va_Qv (fun u : CS => u = d9) (cAt dC dI ad ca LA LE A) A) args s 0 0 A) (F0 m 3 ls []) := by
  intro n
  induction n with
  | zero =>
    intro d x4 H locs ls hj
    exact (loopF_z hj).elim
  | succ n ih =>
    intro d x4 H locs ls hj hP hD hS hl
    have hj := loopF_s hj
    unfold jc_ByteRow_appendFrom_out_L3 at hj
    try dsimp only at hj
    refine lv_iload hx hb d_Row_appendFrom_3 (lv_at hl 3 rfl) ?_
    refine lv_iload_n hx hb d_Row_appendFrom_5 rfl (lv_at hl 2 rfl) ?_
    refine lv_icmp_ge (tgt := 25) hx hb d_Row_appendFrom_6 (by decide) (fun c_1 => ?_) (fun c_1 => ?_)
    · have hj := it_p hj c_1
      obtain rfl := Option.some.inj hj
      exact W.vret hx hb hr (fun t ht hW => ⟨⟨_, rfl, rfl, by rw [ht]; exact hP, va_K.moved hW.alike hK, hD⟩, hS.F ht⟩) hS.2.2 d_Row_appendFrom_25
    · have hj := it_n hj c_1
      refine lv_aload_n hx hb d_Row_appendFrom_9 rfl (lv_at hl 0 rfl) ?_
      refine lv_aload_n hx hb d_Row_appendFrom_10 rfl (lv_at hl 1 rfl) ?_
      refine lv_iload hx hb d_Row_appendFrom_11 (lv_at hl 3 rfl) ?_
      obtain ⟨v_2, hc_2, hj⟩ := bd_some hj
      have hF_2 := va_fr hD hS hA
      refine va_calli (va_runV (As := [.int x4]) (rest := [.ref (ad 3)]) ⟨hx, hb, hml, hown, hts⟩ (cc_ByteRow_byteAt_in l dC dI ad ca LA LE H.size d x4  v_2 hc_2) (cwV 1 hts (gtV tw444 tw270 tw271 tw2 tw272) rfl rfl rfl (by decide +kernel) ⟨Nat.le_of_ble_eq_true rfl, Nat.le_of_ble_eq_true rfl⟩) ⟨cBl, va_recv hK hP (ci := 1) (q0 := 1) rfl rfl, fun U hU hW => ⟨rfl, cPr hP hK hD hN hU hW⟩⟩ rfl rfl hl.1 rfl (lv_room (Nat.le_of_ble_eq_true rfl)) d_Row_appendFrom_13 ⟨Nat.zero_le _, Nat.zero_le _⟩) hS (fun q _ h => hF_2 q h) hF_2 (fun r u t H locs ht hvm hw hB hz1 hk1 hS => ?_)
      obtain ⟨hw1, hw2⟩ := hw
      have hw1 := hw1.symm
      subst hw1
      have hw2 := hw2.symm
      subst hw2
      obtain ⟨hP, hD⟩ := cAf hB ht hF_2
      obtain ⟨d_3, hc_3, hj⟩ := bd_some hj
      have hF_3 := va_fr hD hS hA
      refine va_callv (va_runV (As := [.int v_2]) (rest := []) ⟨hx, hb, hml, hown, hts⟩ (cc_ByteRow_append_out l dC dI ad ca LA LE H.size d v_2  d_3 hc_3) (cwV 1 hts (gtV tw241 tw242 tw243 tw2 tw244) rfl rfl rfl (by decide +kernel) ⟨Nat.le_of_ble_eq_true rfl, Nat.le_of_ble_eq_true rfl⟩) ⟨cBl, va_recv hK hP (ci := 1) (q0 := 3) rfl rfl, fun U hU hW => ⟨rfl, cPr hP hK hD hN hU hW⟩⟩ rfl rfl hl.1 rfl (lv_room (Nat.le_of_ble_eq_true rfl)) d_Row_appendFrom_16 ⟨Nat.zero_le _, Nat.zero_le _⟩) hS (fun q _ h => hF_3 q h) hF_3 (fun u t H locs ht hvm hw hB hz1 hk1 hS => ?_)
      have hw := hw.symm
      subst hw
      obtain ⟨hP, hD⟩ := cAf hB ht hF_3
      refine lv_iinc (v := (x4 + 1)) (lv' := [(4, .int (x4 + 1)), (0, .ref (ad 3)), (1, .ref (ad 1)), (3, .int x3)]) hx hb d_Row_appendFrom_19 hl (k := 3) rfl rfl (by decide) rfl (fun ls hl => ?_)
      refine lv_goto (tgt := 3) hx hb d_Row_appendFrom_22 (by decide) ?_
      exact ih d_3 (x4 + 1) H locs ls hj hP hD hS (lv_sub hl [1, 2, 3, 0] rfl)
set_option maxHeartbeats 4000000 in
set_option maxRecDepth 100000 in
theorem cc_ByteRow_appendFrom_out (l : Launch) (dC : Nat → ClassId) (dI : Nat → Nat → Nat) (ad : Nat → Nat) (ca : Nat → ClassId) (LA LE : List Nat) (sz : Nat) (d : CS) (p2 : Int32) (p3 : Int32)  (d9 : CS) (hj : jc_ByteRow_appendFrom_out LA LE d p2 p3 = some d9) : Met l y_Row_appendFrom w_Row_appendFrom ({ frames := 1, cells := 0, slots := 0, locals := 21 }) (va_Pc [.ref (ad 3), .ref (ad 1), .int p2, .int p3] (cPre dC dI ad ca LA LE sz d)) (va_Qv (fun u : CS => u = d9) (cAt dC dI ad ca LA LE (va_A (cw ad ca LA LE d) sz)) (va_A (cw ad ca LA LE d) sz)) 0 0 (va_A (cw ad ca LA LE d) sz) := by
  refine Met.ofW (cc := prog_3_method_7_code) (maxL := 5) (ret := none) (by decide) rfl ?_
  intro p e s m args below meth c s₁ B hml hv
  obtain ⟨rfl, hsz, hP, hK, hD0, hN⟩ := hv
  have hx := B.exec
  have hb := B.bytes
  have hr := B.returns
  have hts0 := atoms_spec (ws := w_Row_appendFrom) B.pre
  have hts : ∀ w ∈ gt, w.before _ s = true := fun w h => hts0 w (List.mem_cons_of_mem _ h)
  have hown : s.vm.findClass "CardMessageDesk$ByteRow" = some m.cls := findClass_of_methodNamed B.named
  have hlocks := B.notSynchronized
  subst hsz
  have hD := hD0.self (sz := s.heap.size)
  generalize hAe : va_A (cw ad ca LA LE d) s.heap.size = A at hD ⊢
  have hA : ∀ q : Nat, s.heap.size ≤ q → A q := fun q h => by rw [← hAe]; exact Or.inr h
  have hS : va_S A s.heap s.heap [] := va_S.rf
  have hl := lv_entry ([.ref (ad 3), .ref (ad 1), .int p2, .int p3]) (n := 5) (Nat.le_of_ble_eq_true rfl)
  rw [lg_entry_eq]
  generalize (lg_sl ([.ref (ad 3), .ref (ad 1), .int p2, .int p3]) ++ List.replicate (5 - (lg_sl ([.ref (ad 3), .ref (ad 1), .int p2, .int p3])).length) Slot.unset).toArray = ls at hl ⊢
  have hl : lv_has ls 5 [(0, .ref (ad 3)), (1, .ref (ad 1)), (2, .int p2), (3, .int p3)] := hl
  unfold jc_ByteRow_appendFrom_out at hj
  refine lv_iload_n hx hb d_Row_appendFrom_0 rfl (lv_at hl 2 rfl) ?_
  refine lv_istore (lv' := [(4, .int p2), (0, .ref (ad 3)), (1, .ref (ad 1)), (2, .int p2), (3, .int p3)]) hx hb d_Row_appendFrom_1 hl (by decide) rfl (fun ls hl => ?_)
  exact cc_ByteRow_appendFrom_out_L3  p3 _ hx hb hr hlocks hml hown hts hN hA hK 200 d p2 _ _ ls hj hP hD hS (lv_sub hl [1, 2, 4, 0] rfl)
set_option maxHeartbeats 4000000 in
set_option maxRecDepth 100000 in
theorem cc_D_writeReply (l : Launch) (dC : Nat → ClassId) (dI : Nat → Nat → Nat) (ad : Nat → Nat) (ca : Nat → ClassId) (LA LE : List Nat) (sz : Nat) (d : CS) (p1 : Int32)  (d9 : CS) (hj : jc_D_writeReply LA LE d p1 = some d9) : Met l y_Dsk_writeReply w_Dsk_writeReply ({ frames := 3, cells := 0, slots := 0, locals := 73 }) (va_Pc [.ref (ad 0), .int p1] (cPre dC dI ad ca LA LE sz d)) (va_Qv (fun u : CS => u = d9) (cAt dC dI ad ca LA LE (va_A (cw ad ca LA LE d) sz)) (va_A (cw ad ca LA LE d) sz)) 0 0 (va_A (cw ad ca LA LE d) sz) := by
  refine Met.ofW (cc := prog_1_method_25_code) (maxL := 6) (ret := none) (by decide) rfl ?_
  intro p e s m args below meth c s₁ B hml hv
  obtain ⟨rfl, hsz, hP, hK, hD0, hN⟩ := hv
  have hx := B.exec
  have hb := B.bytes
  have hr := B.returns
  have hts0 := atoms_spec (ws := w_Dsk_writeReply) B.pre
  have hts : ∀ w ∈ gt, w.before _ s = true := fun w h => hts0 w (List.mem_cons_of_mem _ h)
  have hown : s.vm.findClass "CardMessageDesk" = some m.cls := findClass_of_methodNamed B.named
  have hlocks := B.notSynchronized
  subst hsz
  have hD := hD0.self (sz := s.heap.size)
  generalize hAe : va_A (cw ad ca LA LE d) s.heap.size = A at hD ⊢
  have hA : ∀ q : Nat, s.heap.size ≤ q → A q := fun q h => by rw [← hAe]; exact Or.inr h
  have hS : va_S A s.heap s.heap [] := va_S.rf
  have hl := lv_entry ([.ref (ad 0), .int p1]) (n := 6) (Nat.le_of_ble_eq_true rfl)
  rw [lg_entry_eq]
  generalize (lg_sl ([.ref (ad 0), .int p1]) ++ List.replicate (6 - (lg_sl ([.ref (ad 0), .int p1])).length) Slot.unset).toArray = ls at hl ⊢
  have hl : lv_has ls 6 [(0, .ref (ad 0)), (1, .int p1)] := hl
  unfold jc_D_writeReply at hj
  refine lv_aload_n hx hb d_Dsk_writeReply_0 rfl (lv_at hl 0 rfl) ?_
  refine va_get (D := (dC, dI)) (ci := 7) (v := .ref (ad 5)) (C := "CardMessageDesk") (T := T_Dsk) (N := 7) hx hb hts in_Dsk hown hK hP 0 rfl rfl 2 (by decide) (hts _ tw199) (fun _ h9 => h9) rfl d_Dsk_writeReply_1 ?_
  refine va_getN (D := (dC, dI)) (ci := 6) (v := .int (cg_rqType d)) (C := "CardMessageDesk$Request") (T := T_Req) (N := 10) hx hb hts in_Req hown hK hP 5 rfl rfl 1 (by decide) (nw_f hN (i := 5) rfl) (fun _ h9 => h9) rfl d_Dsk_writeReply_4 ?_
  refine lv_sipush (v := 500) hx hb d_Dsk_writeReply_7 (by decide) ?_
  refine lv_icmp_ne (tgt := 17) hx hb d_Dsk_writeReply_10 (by decide) (fun c_1 => ?_) (fun c_1 => ?_)
  · have hj := it_n hj c_1
    refine lv_iconst (v := 0) hx hb d_Dsk_writeReply_17 (by decide) ?_
    refine lv_istore_n (lv' := [(2, .int (0 : Int32)), (0, .ref (ad 0)), (1, .int p1)]) hx hb d_Dsk_writeReply_18 rfl hl (by decide) rfl (fun ls hl => ?_)
    refine lv_aload_n hx hb d_Dsk_writeReply_19 rfl (lv_at hl 1 rfl) ?_
    refine va_get (D := (dC, dI)) (ci := 7) (v := .ref (ad 5)) (C := "CardMessageDesk") (T := T_Dsk) (N := 7) hx hb hts in_Dsk hown hK hP 0 rfl rfl 2 (by decide) (hts _ tw199) (fun _ h9 => h9) rfl d_Dsk_writeReply_20 ?_
    refine va_getN (D := (dC, dI)) (ci := 6) (v := .long (cg_rqMap d)) (C := "CardMessageDesk$Request") (T := T_Req) (N := 10) hx hb hts in_Req hown hK hP 5 rfl rfl 2 (by decide) (nw_f hN (i := 6) rfl) (fun _ h9 => h9) rfl d_Dsk_writeReply_23 ?_
    refine lv_ldc2 (v := 8079457731511058432) hx hb hown (hts _ tw428) d_Dsk_writeReply_26 ?_
    refine lv_land hx hb d_Dsk_writeReply_29 ?_
    refine lv_lstore_n (lv' := [(3, .long ((cg_rqMap d) &&& (8079457731511058432 : Int64))), (2, .int (0 : Int32)), (0, .ref (ad 0)), (1, .int p1)]) hx hb d_Dsk_writeReply_30 rfl hl (by decide) rfl (fun ls hl => ?_)
    refine lv_aload_n hx hb d_Dsk_writeReply_31 rfl (lv_at hl 2 rfl) ?_
    refine va_get (D := (dC, dI)) (ci := 7) (v := .ref (ad 3)) (C := "CardMessageDesk") (T := T_Dsk) (N := 7) hx hb hts in_Dsk hown hK hP 0 rfl rfl 1 (by decide) (hts _ tw198) (fun _ h9 => h9) rfl d_Dsk_writeReply_32 ?_
    refine lv_aload_n hx hb d_Dsk_writeReply_35 rfl (lv_at hl 2 rfl) ?_
    refine va_get (D := (dC, dI)) (ci := 7) (v := .ref (ad 5)) (C := "CardMessageDesk") (T := T_Dsk) (N := 7) hx hb hts in_Dsk hown hK hP 0 rfl rfl 2 (by decide) (hts _ tw199) (fun _ h9 => h9) rfl d_Dsk_writeReply_36 ?_
    refine va_getN (D := (dC, dI)) (ci := 6) (v := .int (cg_rqType d)) (C := "CardMessageDesk$Request") (T := T_Req) (N := 10) hx hb hts in_Req hown hK hP 5 rfl rfl 1 (by decide) (nw_f hN (i := 5) rfl) (fun _ h9 => h9) rfl d_Dsk_writeReply_39 ?_
    refine lv_bipush (v := 10) hx hb d_Dsk_writeReply_42 (by decide) ?_
    refine lv_iadd hx hb d_Dsk_writeReply_44 ?_
    refine lv_i2l (v := (((cg_rqType d) + (10 : Int32))).toInt64) hx hb d_Dsk_writeReply_45 rfl ?_
    refine lv_iconst (v := 4) hx hb d_Dsk_writeReply_46 (by decide) ?_
    obtain ⟨d_2, hc_2, hj⟩ := bd_some hj
    have hF_2 := va_fr hD hS hA
    refine va_callv (va_runV (As := [.long (((cg_rqType d) + (10 : Int32))).toInt64, .int (4 : Int32)]) (rest := []) ⟨hx, hb, hml, hown, hts⟩ (cc_ByteRow_appendDigits_out l dC dI ad ca LA LE s.heap.size d (((cg_rqType d) + (10 : Int32))).toInt64 (4 : Int32)  d_2 hc_2) (cwV 2 hts (gtV tw429 tw430 tw431 tw2 tw432) rfl rfl rfl (by decide +kernel) ⟨Nat.le_of_ble_eq_true rfl, Nat.le_of_ble_eq_true rfl⟩) ⟨cBl, va_recv hK hP (ci := 1) (q0 := 3) rfl rfl, fun U hU hW => ⟨rfl, cPr hP hK hD hN hU hW⟩⟩ rfl rfl hl.1 rfl (lv_room (Nat.le_of_ble_eq_true rfl)) d_Dsk_writeReply_47 ⟨Nat.zero_le _, Nat.zero_le _⟩) hS (fun q _ h => hF_2 q h) hF_2 (fun u t H locs ht hvm hw hB hz1 hk1 hS => ?_)
    have hw := hw.symm
    subst hw
    obtain ⟨hP, hD⟩ := cAf hB ht hF_2
    refine lv_aload_n hx hb d_Dsk_writeReply_50 rfl (lv_at hl 2 rfl) ?_
    refine va_get (D := (dC, dI)) (ci := 7) (v := .ref (ad 3)) (C := "CardMessageDesk") (T := T_Dsk) (N := 7) hx hb hts in_Dsk hown hK hP 0 rfl rfl 1 (by decide) (hts _ tw198) (fun _ h9 => h9) rfl d_Dsk_writeReply_51 ?_
    refine lv_lload_n hx hb d_Dsk_writeReply_54 rfl (lv_at hl 0 rfl) ?_
    refine lv_ldc2 (v := 33554432) hx hb hown (hts _ tw435) d_Dsk_writeReply_55 ?_
    refine lv_lor hx hb d_Dsk_writeReply_58 ?_
    refine lv_iload_n hx hb d_Dsk_writeReply_59 rfl (lv_at hl 1 rfl) ?_
    refine lv_if_eq (tgt := 69) hx hb d_Dsk_writeReply_60 (by decide) (fun c_3 => ?_) (fun c_3 => ?_)
    · skip
      refine lv_lconst (v := 0) hx hb d_Dsk_writeReply_69 (by decide) ?_
      refine lv_lor hx hb d_Dsk_writeReply_70 ?_
      refine lv_bipush (v := 8) hx hb d_Dsk_writeReply_71 (by decide) ?_
      obtain ⟨d_4, hc_4, hj⟩ := bd_some hj
      have hF_4 := va_fr hD hS hA
      refine va_callv (va_runV (As := [.long ((((cg_rqMap d) &&& (8079457731511058432 : Int64)) ||| (33554432 : Int64)) ||| (0 : Int64)), .int (8 : Int32)]) (rest := []) ⟨hx, hb, hml, hown, hts⟩ (cc_ByteRow_appendBytes_out l dC dI ad ca LA LE H.size d_2 ((((cg_rqMap d) &&& (8079457731511058432 : Int64)) ||| (33554432 : Int64)) ||| (0 : Int64)) (8 : Int32)  d_4 hc_4) (cwV 2 hts (gtV tw237 tw238 tw239 tw2 tw240) rfl rfl rfl (by decide +kernel) ⟨Nat.le_of_ble_eq_true rfl, Nat.le_of_ble_eq_true rfl⟩) ⟨cBl, va_recv hK hP (ci := 1) (q0 := 3) rfl rfl, fun U hU hW => ⟨rfl, cPr hP hK hD hN hU hW⟩⟩ rfl rfl hl.1 rfl (lv_room (Nat.le_of_ble_eq_true rfl)) d_Dsk_writeReply_73 ⟨Nat.zero_le _, Nat.zero_le _⟩) hS (fun q _ h => hF_4 q h) hF_4 (fun u t H locs ht hvm hw hB hz1 hk1 hS => ?_)
      have hw := hw.symm
      subst hw
      obtain ⟨hP, hD⟩ := cAf hB ht hF_4
      refine lv_iload_n hx hb d_Dsk_writeReply_76 rfl (lv_at hl 1 rfl) ?_
      refine lv_if_eq (tgt := 96) hx hb d_Dsk_writeReply_77 (by decide) (fun c_5 => ?_) (fun c_5 => ?_)
      · skip
        refine lv_aload_n hx hb d_Dsk_writeReply_96 rfl (lv_at hl 2 rfl) ?_
        refine va_get (D := (dC, dI)) (ci := 7) (v := .ref (ad 5)) (C := "CardMessageDesk") (T := T_Dsk) (N := 7) hx hb hts in_Dsk hown hK hP 0 rfl rfl 2 (by decide) (hts _ tw199) (fun _ h9 => h9) rfl d_Dsk_writeReply_97 ?_
        refine va_getN (D := (dC, dI)) (ci := 6) (v := .int (cg_rqStart d_4)) (C := "CardMessageDesk$Request") (T := T_Req) (N := 10) hx hb hts in_Req hown hK hP 5 rfl rfl 8 (by decide) (nw_f hN (i := 16) rfl) (fun _ h9 => h9) rfl d_Dsk_writeReply_100 ?_
        refine lv_istore (lv' := [(5, .int (cg_rqStart d_4)), (3, .long ((cg_rqMap d) &&& (8079457731511058432 : Int64))), (2, .int (0 : Int32)), (0, .ref (ad 0)), (1, .int p1)]) hx hb d_Dsk_writeReply_103 hl (by decide) rfl (fun ls hl => ?_)
        refine lv_aload_n hx hb d_Dsk_writeReply_105 rfl (lv_at hl 3 rfl) ?_
        refine va_get (D := (dC, dI)) (ci := 7) (v := .ref (ad 3)) (C := "CardMessageDesk") (T := T_Dsk) (N := 7) hx hb hts in_Dsk hown hK hP 0 rfl rfl 1 (by decide) (hts _ tw198) (fun _ h9 => h9) rfl d_Dsk_writeReply_106 ?_
        refine lv_aload_n hx hb d_Dsk_writeReply_109 rfl (lv_at hl 3 rfl) ?_
        refine va_get (D := (dC, dI)) (ci := 7) (v := .ref (ad 1)) (C := "CardMessageDesk") (T := T_Dsk) (N := 7) hx hb hts in_Dsk hown hK hP 0 rfl rfl 0 (by decide) (hts _ tw197) (fun _ h9 => h9) rfl d_Dsk_writeReply_110 ?_
        refine lv_bipush (v := 10) hx hb d_Dsk_writeReply_113 (by decide) ?_
        refine lv_iload hx hb d_Dsk_writeReply_115 (lv_at hl 0 rfl) ?_
        obtain ⟨d_6, hc_6, hj⟩ := bd_some hj
        have hF_6 := va_fr hD hS hA
        refine va_callv (va_runV (As := [.ref (ad 1), .int (10 : Int32), .int (cg_rqStart d_4)]) (rest := []) ⟨hx, hb, hml, hown, hts⟩ (cc_ByteRow_appendFrom_out l dC dI ad ca LA LE H.size d_4 (10 : Int32) (cg_rqStart d_4)  d_6 hc_6) (cwV 3 hts (gtV tw440 tw441 tw442 tw2 tw443) rfl rfl rfl (by decide +kernel) ⟨Nat.le_of_ble_eq_true rfl, Nat.le_of_ble_eq_true rfl⟩) ⟨cBl, va_recv hK hP (ci := 1) (q0 := 3) rfl rfl, fun U hU hW => ⟨rfl, cPr hP hK hD hN hU hW⟩⟩ rfl rfl hl.1 rfl (lv_room (Nat.le_of_ble_eq_true rfl)) d_Dsk_writeReply_117 ⟨Nat.zero_le _, Nat.zero_le _⟩) hS (fun q _ h => hF_6 q h) hF_6 (fun u t H locs ht hvm hw hB hz1 hk1 hS => ?_)
        have hw := hw.symm
        subst hw
        obtain ⟨hP, hD⟩ := cAf hB ht hF_6
        refine lv_aload_n hx hb d_Dsk_writeReply_120 rfl (lv_at hl 3 rfl) ?_
        refine va_get (D := (dC, dI)) (ci := 7) (v := .ref (ad 3)) (C := "CardMessageDesk") (T := T_Dsk) (N := 7) hx hb hts in_Dsk hown hK hP 0 rfl rfl 1 (by decide) (hts _ tw198) (fun _ h9 => h9) rfl d_Dsk_writeReply_121 ?_
        refine lv_bipush (v := 48) hx hb d_Dsk_writeReply_124 (by decide) ?_
        refine lv_iload_n hx hb d_Dsk_writeReply_126 rfl (lv_at hl 4 rfl) ?_
        refine lv_bipush (v := 10) hx hb d_Dsk_writeReply_127 (by decide) ?_
        refine lv_idiv hx hb d_Dsk_writeReply_129 (by decide +kernel) ?_
        refine lv_iadd hx hb d_Dsk_writeReply_130 ?_
        obtain ⟨d_7, hc_7, hj⟩ := bd_some hj
        have hF_7 := va_fr hD hS hA
        refine va_callv (va_runV (As := [.int ((48 : Int32) + (p1 / (10 : Int32)))]) (rest := []) ⟨hx, hb, hml, hown, hts⟩ (cc_ByteRow_append_out l dC dI ad ca LA LE H.size d_6 ((48 : Int32) + (p1 / (10 : Int32)))  d_7 hc_7) (cwV 1 hts (gtV tw445 tw242 tw243 tw2 tw244) rfl rfl rfl (by decide +kernel) ⟨Nat.le_of_ble_eq_true rfl, Nat.le_of_ble_eq_true rfl⟩) ⟨cBl, va_recv hK hP (ci := 1) (q0 := 3) rfl rfl, fun U hU hW => ⟨rfl, cPr hP hK hD hN hU hW⟩⟩ rfl rfl hl.1 rfl (lv_room (Nat.le_of_ble_eq_true rfl)) d_Dsk_writeReply_131 ⟨Nat.zero_le _, Nat.zero_le _⟩) hS (fun q _ h => hF_7 q h) hF_7 (fun u t H locs ht hvm hw hB hz1 hk1 hS => ?_)
        have hw := hw.symm
        subst hw
        obtain ⟨hP, hD⟩ := cAf hB ht hF_7
        refine lv_aload_n hx hb d_Dsk_writeReply_134 rfl (lv_at hl 3 rfl) ?_
        refine va_get (D := (dC, dI)) (ci := 7) (v := .ref (ad 3)) (C := "CardMessageDesk") (T := T_Dsk) (N := 7) hx hb hts in_Dsk hown hK hP 0 rfl rfl 1 (by decide) (hts _ tw198) (fun _ h9 => h9) rfl d_Dsk_writeReply_135 ?_
        refine lv_bipush (v := 48) hx hb d_Dsk_writeReply_138 (by decide) ?_
        refine lv_iload_n hx hb d_Dsk_writeReply_140 rfl (lv_at hl 4 rfl) ?_
        refine lv_bipush (v := 10) hx hb d_Dsk_writeReply_141 (by decide) ?_
        refine lv_irem hx hb d_Dsk_writeReply_143 (by decide +kernel) ?_
        refine lv_iadd hx hb d_Dsk_writeReply_144 ?_
        obtain ⟨d_8, hc_8, hj⟩ := bd_some hj
        have hF_8 := va_fr hD hS hA
        refine va_callv (va_runV (As := [.int ((48 : Int32) + (p1 - p1 / (10 : Int32) * (10 : Int32)))]) (rest := []) ⟨hx, hb, hml, hown, hts⟩ (cc_ByteRow_append_out l dC dI ad ca LA LE H.size d_7 ((48 : Int32) + (p1 - p1 / (10 : Int32) * (10 : Int32)))  d_8 hc_8) (cwV 1 hts (gtV tw445 tw242 tw243 tw2 tw244) rfl rfl rfl (by decide +kernel) ⟨Nat.le_of_ble_eq_true rfl, Nat.le_of_ble_eq_true rfl⟩) ⟨cBl, va_recv hK hP (ci := 1) (q0 := 3) rfl rfl, fun U hU hW => ⟨rfl, cPr hP hK hD hN hU hW⟩⟩ rfl rfl hl.1 rfl (lv_room (Nat.le_of_ble_eq_true rfl)) d_Dsk_writeReply_145 ⟨Nat.zero_le _, Nat.zero_le _⟩) hS (fun q _ h => hF_8 q h) hF_8 (fun u t H locs ht hvm hw hB hz1 hk1 hS => ?_)
        have hw := hw.symm
        subst hw
        obtain ⟨hP, hD⟩ := cAf hB ht hF_8
        refine lv_aload_n hx hb d_Dsk_writeReply_148 rfl (lv_at hl 3 rfl) ?_
        refine va_get (D := (dC, dI)) (ci := 7) (v := .ref (ad 3)) (C := "CardMessageDesk") (T := T_Dsk) (N := 7) hx hb hts in_Dsk hown hK hP 0 rfl rfl 1 (by decide) (hts _ tw198) (fun _ h9 => h9) rfl d_Dsk_writeReply_149 ?_
        refine lv_aload_n hx hb d_Dsk_writeReply_152 rfl (lv_at hl 3 rfl) ?_
        refine va_get (D := (dC, dI)) (ci := 7) (v := .ref (ad 1)) (C := "CardMessageDesk") (T := T_Dsk) (N := 7) hx hb hts in_Dsk hown hK hP 0 rfl rfl 0 (by decide) (hts _ tw197) (fun _ h9 => h9) rfl d_Dsk_writeReply_153 ?_
        refine lv_iload hx hb d_Dsk_writeReply_156 (lv_at hl 0 rfl) ?_
        refine lv_iload hx hb d_Dsk_writeReply_158 (lv_at hl 0 rfl) ?_
        refine lv_iconst (v := 4) hx hb d_Dsk_writeReply_160 (by decide) ?_
        refine lv_iadd hx hb d_Dsk_writeReply_161 ?_
        obtain ⟨d_9, hc_9, hj⟩ := bd_some hj
        have hF_9 := va_fr hD hS hA
        refine va_callv (va_runV (As := [.ref (ad 1), .int (cg_rqStart d_4), .int ((cg_rqStart d_4) + (4 : Int32))]) (rest := []) ⟨hx, hb, hml, hown, hts⟩ (cc_ByteRow_appendFrom_out l dC dI ad ca LA LE H.size d_8 (cg_rqStart d_4) ((cg_rqStart d_4) + (4 : Int32))  d_9 hc_9) (cwV 3 hts (gtV tw440 tw441 tw442 tw2 tw443) rfl rfl rfl (by decide +kernel) ⟨Nat.le_of_ble_eq_true rfl, Nat.le_of_ble_eq_true rfl⟩) ⟨cBl, va_recv hK hP (ci := 1) (q0 := 3) rfl rfl, fun U hU hW => ⟨rfl, cPr hP hK hD hN hU hW⟩⟩ rfl rfl hl.1 rfl (lv_room (Nat.le_of_ble_eq_true rfl)) d_Dsk_writeReply_162 ⟨Nat.zero_le _, Nat.zero_le _⟩) hS (fun q _ h => hF_9 q h) hF_9 (fun u t H locs ht hvm hw hB hz1 hk1 hS => ?_)
        have hw := hw.symm
        subst hw
        obtain ⟨hP, hD⟩ := cAf hB ht hF_9
        obtain rfl := Option.some.inj hj
        exact W.vret hx hb hr (fun t ht hW => ⟨⟨_, rfl, rfl, by rw [ht]; exact hP, va_K.moved hW.alike hK, hD⟩, hS.F ht⟩) hS.2.2 d_Dsk_writeReply_165
      · exact absurd c_5 (by decide)
    · exact absurd c_3 (by decide)
  · have hj := it_p hj c_1
    refine lv_iconst (v := 1) hx hb d_Dsk_writeReply_13 (by decide) ?_
    refine lv_goto (tgt := 18) hx hb d_Dsk_writeReply_14 (by decide) ?_
    refine lv_istore_n (lv' := [(2, .int (1 : Int32)), (0, .ref (ad 0)), (1, .int p1)]) hx hb d_Dsk_writeReply_18 rfl hl (by decide) rfl (fun ls hl => ?_)
    refine lv_aload_n hx hb d_Dsk_writeReply_19 rfl (lv_at hl 1 rfl) ?_
    refine va_get (D := (dC, dI)) (ci := 7) (v := .ref (ad 5)) (C := "CardMessageDesk") (T := T_Dsk) (N := 7) hx hb hts in_Dsk hown hK hP 0 rfl rfl 2 (by decide) (hts _ tw199) (fun _ h9 => h9) rfl d_Dsk_writeReply_20 ?_
    refine va_getN (D := (dC, dI)) (ci := 6) (v := .long (cg_rqMap d)) (C := "CardMessageDesk$Request") (T := T_Req) (N := 10) hx hb hts in_Req hown hK hP 5 rfl rfl 2 (by decide) (nw_f hN (i := 6) rfl) (fun _ h9 => h9) rfl d_Dsk_writeReply_23 ?_
    refine lv_ldc2 (v := 8079457731511058432) hx hb hown (hts _ tw428) d_Dsk_writeReply_26 ?_
    refine lv_land hx hb d_Dsk_writeReply_29 ?_
    refine lv_lstore_n (lv' := [(3, .long ((cg_rqMap d) &&& (8079457731511058432 : Int64))), (2, .int (1 : Int32)), (0, .ref (ad 0)), (1, .int p1)]) hx hb d_Dsk_writeReply_30 rfl hl (by decide) rfl (fun ls hl => ?_)
    refine lv_aload_n hx hb d_Dsk_writeReply_31 rfl (lv_at hl 2 rfl) ?_
    refine va_get (D := (dC, dI)) (ci := 7) (v := .ref (ad 3)) (C := "CardMessageDesk") (T := T_Dsk) (N := 7) hx hb hts in_Dsk hown hK hP 0 rfl rfl 1 (by decide) (hts _ tw198) (fun _ h9 => h9) rfl d_Dsk_writeReply_32 ?_
    refine lv_aload_n hx hb d_Dsk_writeReply_35 rfl (lv_at hl 2 rfl) ?_
    refine va_get (D := (dC, dI)) (ci := 7) (v := .ref (ad 5)) (C := "CardMessageDesk") (T := T_Dsk) (N := 7) hx hb hts in_Dsk hown hK hP 0 rfl rfl 2 (by decide) (hts _ tw199) (fun _ h9 => h9) rfl d_Dsk_writeReply_36 ?_
    refine va_getN (D := (dC, dI)) (ci := 6) (v := .int (cg_rqType d)) (C := "CardMessageDesk$Request") (T := T_Req) (N := 10) hx hb hts in_Req hown hK hP 5 rfl rfl 1 (by decide) (nw_f hN (i := 5) rfl) (fun _ h9 => h9) rfl d_Dsk_writeReply_39 ?_
    refine lv_bipush (v := 10) hx hb d_Dsk_writeReply_42 (by decide) ?_
    refine lv_iadd hx hb d_Dsk_writeReply_44 ?_
    refine lv_i2l (v := (((cg_rqType d) + (10 : Int32))).toInt64) hx hb d_Dsk_writeReply_45 rfl ?_
    refine lv_iconst (v := 4) hx hb d_Dsk_writeReply_46 (by decide) ?_
    obtain ⟨d_10, hc_10, hj⟩ := bd_some hj
    have hF_10 := va_fr hD hS hA
    refine va_callv (va_runV (As := [.long (((cg_rqType d) + (10 : Int32))).toInt64, .int (4 : Int32)]) (rest := []) ⟨hx, hb, hml, hown, hts⟩ (cc_ByteRow_appendDigits_out l dC dI ad ca LA LE s.heap.size d (((cg_rqType d) + (10 : Int32))).toInt64 (4 : Int32)  d_10 hc_10) (cwV 2 hts (gtV tw429 tw430 tw431 tw2 tw432) rfl rfl rfl (by decide +kernel) ⟨Nat.le_of_ble_eq_true rfl, Nat.le_of_ble_eq_true rfl⟩) ⟨cBl, va_recv hK hP (ci := 1) (q0 := 3) rfl rfl, fun U hU hW => ⟨rfl, cPr hP hK hD hN hU hW⟩⟩ rfl rfl hl.1 rfl (lv_room (Nat.le_of_ble_eq_true rfl)) d_Dsk_writeReply_47 ⟨Nat.zero_le _, Nat.zero_le _⟩) hS (fun q _ h => hF_10 q h) hF_10 (fun u t H locs ht hvm hw hB hz1 hk1 hS => ?_)
    have hw := hw.symm
    subst hw
    obtain ⟨hP, hD⟩ := cAf hB ht hF_10
    refine lv_aload_n hx hb d_Dsk_writeReply_50 rfl (lv_at hl 2 rfl) ?_
    refine va_get (D := (dC, dI)) (ci := 7) (v := .ref (ad 3)) (C := "CardMessageDesk") (T := T_Dsk) (N := 7) hx hb hts in_Dsk hown hK hP 0 rfl rfl 1 (by decide) (hts _ tw198) (fun _ h9 => h9) rfl d_Dsk_writeReply_51 ?_
    refine lv_lload_n hx hb d_Dsk_writeReply_54 rfl (lv_at hl 0 rfl) ?_
    refine lv_ldc2 (v := 33554432) hx hb hown (hts _ tw435) d_Dsk_writeReply_55 ?_
    refine lv_lor hx hb d_Dsk_writeReply_58 ?_
    refine lv_iload_n hx hb d_Dsk_writeReply_59 rfl (lv_at hl 1 rfl) ?_
    refine lv_if_eq (tgt := 69) hx hb d_Dsk_writeReply_60 (by decide) (fun c_11 => ?_) (fun c_11 => ?_)
    · exact absurd c_11 (by decide)
    · skip
      refine lv_ldc2 (v := 1152921504606846976) hx hb hown (hts _ tw436) d_Dsk_writeReply_63 ?_
      refine lv_goto (tgt := 70) hx hb d_Dsk_writeReply_66 (by decide) ?_
      refine lv_lor hx hb d_Dsk_writeReply_70 ?_
      refine lv_bipush (v := 8) hx hb d_Dsk_writeReply_71 (by decide) ?_
      obtain ⟨d_12, hc_12, hj⟩ := bd_some hj
      have hF_12 := va_fr hD hS hA
      refine va_callv (va_runV (As := [.long ((((cg_rqMap d) &&& (8079457731511058432 : Int64)) ||| (33554432 : Int64)) ||| (1152921504606846976 : Int64)), .int (8 : Int32)]) (rest := []) ⟨hx, hb, hml, hown, hts⟩ (cc_ByteRow_appendBytes_out l dC dI ad ca LA LE H.size d_10 ((((cg_rqMap d) &&& (8079457731511058432 : Int64)) ||| (33554432 : Int64)) ||| (1152921504606846976 : Int64)) (8 : Int32)  d_12 hc_12) (cwV 2 hts (gtV tw237 tw238 tw239 tw2 tw240) rfl rfl rfl (by decide +kernel) ⟨Nat.le_of_ble_eq_true rfl, Nat.le_of_ble_eq_true rfl⟩) ⟨cBl, va_recv hK hP (ci := 1) (q0 := 3) rfl rfl, fun U hU hW => ⟨rfl, cPr hP hK hD hN hU hW⟩⟩ rfl rfl hl.1 rfl (lv_room (Nat.le_of_ble_eq_true rfl)) d_Dsk_writeReply_73 ⟨Nat.zero_le _, Nat.zero_le _⟩) hS (fun q _ h => hF_12 q h) hF_12 (fun u t H locs ht hvm hw hB hz1 hk1 hS => ?_)
      have hw := hw.symm
      subst hw
      obtain ⟨hP, hD⟩ := cAf hB ht hF_12
      refine lv_iload_n hx hb d_Dsk_writeReply_76 rfl (lv_at hl 1 rfl) ?_
      refine lv_if_eq (tgt := 96) hx hb d_Dsk_writeReply_77 (by decide) (fun c_13 => ?_) (fun c_13 => ?_)
      · exact absurd c_13 (by decide)
      · skip
        refine lv_aload_n hx hb d_Dsk_writeReply_80 rfl (lv_at hl 2 rfl) ?_
        refine va_get (D := (dC, dI)) (ci := 7) (v := .ref (ad 3)) (C := "CardMessageDesk") (T := T_Dsk) (N := 7) hx hb hts in_Dsk hown hK hP 0 rfl rfl 1 (by decide) (hts _ tw198) (fun _ h9 => h9) rfl d_Dsk_writeReply_81 ?_
        refine lv_aload_n hx hb d_Dsk_writeReply_84 rfl (lv_at hl 2 rfl) ?_
        refine va_get (D := (dC, dI)) (ci := 7) (v := .long (cg_setNow d_12)) (C := "CardMessageDesk") (T := T_Dsk) (N := 7) hx hb hts in_Dsk hown hK hP 0 rfl rfl 6 (by decide) (hts _ tw203) (fun _ h9 => h9) rfl d_Dsk_writeReply_85 ?_
        refine va_mabs_long hx hb (hml.trans hl.1.symm) hown (hts _ tw437) (hts _ tw438) (hts _ tw10) (hts _ tw439) (Nat.le_of_ble_eq_true rfl) (Nat.le_of_ble_eq_true rfl) (Nat.zero_le _) (Nat.zero_le _) d_Dsk_writeReply_88 ?_
        refine lv_bipush (v := 12) hx hb d_Dsk_writeReply_91 (by decide) ?_
        obtain ⟨d_14, hc_14, hj⟩ := bd_some hj
        have hF_14 := va_fr hD hS hA
        refine va_callv (va_runV (As := [.long (if 0 < (cg_setNow d_12) then (cg_setNow d_12) else -(cg_setNow d_12)), .int (12 : Int32)]) (rest := []) ⟨hx, hb, hml, hown, hts⟩ (cc_ByteRow_appendDigits_out l dC dI ad ca LA LE H.size d_12 (if 0 < (cg_setNow d_12) then (cg_setNow d_12) else -(cg_setNow d_12)) (12 : Int32)  d_14 hc_14) (cwV 2 hts (gtV tw429 tw430 tw431 tw2 tw432) rfl rfl rfl (by decide +kernel) ⟨Nat.le_of_ble_eq_true rfl, Nat.le_of_ble_eq_true rfl⟩) ⟨cBl, va_recv hK hP (ci := 1) (q0 := 3) rfl rfl, fun U hU hW => ⟨rfl, cPr hP hK hD hN hU hW⟩⟩ rfl rfl hl.1 rfl (lv_room (Nat.le_of_ble_eq_true rfl)) d_Dsk_writeReply_93 ⟨Nat.zero_le _, Nat.zero_le _⟩) hS (fun q _ h => hF_14 q h) hF_14 (fun u t H locs ht hvm hw hB hz1 hk1 hS => ?_)
        have hw := hw.symm
        subst hw
        obtain ⟨hP, hD⟩ := cAf hB ht hF_14
        refine lv_aload_n hx hb d_Dsk_writeReply_96 rfl (lv_at hl 2 rfl) ?_
        refine va_get (D := (dC, dI)) (ci := 7) (v := .ref (ad 5)) (C := "CardMessageDesk") (T := T_Dsk) (N := 7) hx hb hts in_Dsk hown hK hP 0 rfl rfl 2 (by decide) (hts _ tw199) (fun _ h9 => h9) rfl d_Dsk_writeReply_97 ?_
        refine va_getN (D := (dC, dI)) (ci := 6) (v := .int (cg_rqStart d_14)) (C := "CardMessageDesk$Request") (T := T_Req) (N := 10) hx hb hts in_Req hown hK hP 5 rfl rfl 8 (by decide) (nw_f hN (i := 16) rfl) (fun _ h9 => h9) rfl d_Dsk_writeReply_100 ?_
        refine lv_istore (lv' := [(5, .int (cg_rqStart d_14)), (3, .long ((cg_rqMap d) &&& (8079457731511058432 : Int64))), (2, .int (1 : Int32)), (0, .ref (ad 0)), (1, .int p1)]) hx hb d_Dsk_writeReply_103 hl (by decide) rfl (fun ls hl => ?_)
        refine lv_aload_n hx hb d_Dsk_writeReply_105 rfl (lv_at hl 3 rfl) ?_
        refine va_get (D := (dC, dI)) (ci := 7) (v := .ref (ad 3)) (C := "CardMessageDesk") (T := T_Dsk) (N := 7) hx hb hts in_Dsk hown hK hP 0 rfl rfl 1 (by decide) (hts _ tw198) (fun _ h9 => h9) rfl d_Dsk_writeReply_106 ?_
        refine lv_aload_n hx hb d_Dsk_writeReply_109 rfl (lv_at hl 3 rfl) ?_
        refine va_get (D := (dC, dI)) (ci := 7) (v := .ref (ad 1)) (C := "CardMessageDesk") (T := T_Dsk) (N := 7) hx hb hts in_Dsk hown hK hP 0 rfl rfl 0 (by decide) (hts _ tw197) (fun _ h9 => h9) rfl d_Dsk_writeReply_110 ?_
        refine lv_bipush (v := 10) hx hb d_Dsk_writeReply_113 (by decide) ?_
        refine lv_iload hx hb d_Dsk_writeReply_115 (lv_at hl 0 rfl) ?_
        obtain ⟨d_15, hc_15, hj⟩ := bd_some hj
        have hF_15 := va_fr hD hS hA
        refine va_callv (va_runV (As := [.ref (ad 1), .int (10 : Int32), .int (cg_rqStart d_14)]) (rest := []) ⟨hx, hb, hml, hown, hts⟩ (cc_ByteRow_appendFrom_out l dC dI ad ca LA LE H.size d_14 (10 : Int32) (cg_rqStart d_14)  d_15 hc_15) (cwV 3 hts (gtV tw440 tw441 tw442 tw2 tw443) rfl rfl rfl (by decide +kernel) ⟨Nat.le_of_ble_eq_true rfl, Nat.le_of_ble_eq_true rfl⟩) ⟨cBl, va_recv hK hP (ci := 1) (q0 := 3) rfl rfl, fun U hU hW => ⟨rfl, cPr hP hK hD hN hU hW⟩⟩ rfl rfl hl.1 rfl (lv_room (Nat.le_of_ble_eq_true rfl)) d_Dsk_writeReply_117 ⟨Nat.zero_le _, Nat.zero_le _⟩) hS (fun q _ h => hF_15 q h) hF_15 (fun u t H locs ht hvm hw hB hz1 hk1 hS => ?_)
        have hw := hw.symm
        subst hw
        obtain ⟨hP, hD⟩ := cAf hB ht hF_15
        refine lv_aload_n hx hb d_Dsk_writeReply_120 rfl (lv_at hl 3 rfl) ?_
        refine va_get (D := (dC, dI)) (ci := 7) (v := .ref (ad 3)) (C := "CardMessageDesk") (T := T_Dsk) (N := 7) hx hb hts in_Dsk hown hK hP 0 rfl rfl 1 (by decide) (hts _ tw198) (fun _ h9 => h9) rfl d_Dsk_writeReply_121 ?_
        refine lv_bipush (v := 48) hx hb d_Dsk_writeReply_124 (by decide) ?_
        refine lv_iload_n hx hb d_Dsk_writeReply_126 rfl (lv_at hl 4 rfl) ?_
        refine lv_bipush (v := 10) hx hb d_Dsk_writeReply_127 (by decide) ?_
        refine lv_idiv hx hb d_Dsk_writeReply_129 (by decide +kernel) ?_
        refine lv_iadd hx hb d_Dsk_writeReply_130 ?_
        obtain ⟨d_16, hc_16, hj⟩ := bd_some hj
        have hF_16 := va_fr hD hS hA
        refine va_callv (va_runV (As := [.int ((48 : Int32) + (p1 / (10 : Int32)))]) (rest := []) ⟨hx, hb, hml, hown, hts⟩ (cc_ByteRow_append_out l dC dI ad ca LA LE H.size d_15 ((48 : Int32) + (p1 / (10 : Int32)))  d_16 hc_16) (cwV 1 hts (gtV tw445 tw242 tw243 tw2 tw244) rfl rfl rfl (by decide +kernel) ⟨Nat.le_of_ble_eq_true rfl, Nat.le_of_ble_eq_true rfl⟩) ⟨cBl, va_recv hK hP (ci := 1) (q0 := 3) rfl rfl, fun U hU hW => ⟨rfl, cPr hP hK hD hN hU hW⟩⟩ rfl rfl hl.1 rfl (lv_room (Nat.le_of_ble_eq_true rfl)) d_Dsk_writeReply_131 ⟨Nat.zero_le _, Nat.zero_le _⟩) hS (fun q _ h => hF_16 q h) hF_16 (fun u t H locs ht hvm hw hB hz1 hk1 hS => ?_)
        have hw := hw.symm
        subst hw
        obtain ⟨hP, hD⟩ := cAf hB ht hF_16
        refine lv_aload_n hx hb d_Dsk_writeReply_134 rfl (lv_at hl 3 rfl) ?_
        refine va_get (D := (dC, dI)) (ci := 7) (v := .ref (ad 3)) (C := "CardMessageDesk") (T := T_Dsk) (N := 7) hx hb hts in_Dsk hown hK hP 0 rfl rfl 1 (by decide) (hts _ tw198) (fun _ h9 => h9) rfl d_Dsk_writeReply_135 ?_
        refine lv_bipush (v := 48) hx hb d_Dsk_writeReply_138 (by decide) ?_
        refine lv_iload_n hx hb d_Dsk_writeReply_140 rfl (lv_at hl 4 rfl) ?_
        refine lv_bipush (v := 10) hx hb d_Dsk_writeReply_141 (by decide) ?_
        refine lv_irem hx hb d_Dsk_writeReply_143 (by decide +kernel) ?_
        refine lv_iadd hx hb d_Dsk_writeReply_144 ?_
        obtain ⟨d_17, hc_17, hj⟩ := bd_some hj
        have hF_17 := va_fr hD hS hA
        refine va_callv (va_runV (As := [.int ((48 : Int32) + (p1 - p1 / (10 : Int32) * (10 : Int32)))]) (rest := []) ⟨hx, hb, hml, hown, hts⟩ (cc_ByteRow_append_out l dC dI ad ca LA LE H.size d_16 ((48 : Int32) + (p1 - p1 / (10 : Int32) * (10 : Int32)))  d_17 hc_17) (cwV 1 hts (gtV tw445 tw242 tw243 tw2 tw244) rfl rfl rfl (by decide +kernel) ⟨Nat.le_of_ble_eq_true rfl, Nat.le_of_ble_eq_true rfl⟩) ⟨cBl, va_recv hK hP (ci := 1) (q0 := 3) rfl rfl, fun U hU hW => ⟨rfl, cPr hP hK hD hN hU hW⟩⟩ rfl rfl hl.1 rfl (lv_room (Nat.le_of_ble_eq_true rfl)) d_Dsk_writeReply_145 ⟨Nat.zero_le _, Nat.zero_le _⟩) hS (fun q _ h => hF_17 q h) hF_17 (fun u t H locs ht hvm hw hB hz1 hk1 hS => ?_)
        have hw := hw.symm
        subst hw
        obtain ⟨hP, hD⟩ := cAf hB ht hF_17
        refine lv_aload_n hx hb d_Dsk_writeReply_148 rfl (lv_at hl 3 rfl) ?_
        refine va_get (D := (dC, dI)) (ci := 7) (v := .ref (ad 3)) (C := "CardMessageDesk") (T := T_Dsk) (N := 7) hx hb hts in_Dsk hown hK hP 0 rfl rfl 1 (by decide) (hts _ tw198) (fun _ h9 => h9) rfl d_Dsk_writeReply_149 ?_
        refine lv_aload_n hx hb d_Dsk_writeReply_152 rfl (lv_at hl 3 rfl) ?_
        refine va_get (D := (dC, dI)) (ci := 7) (v := .ref (ad 1)) (C := "CardMessageDesk") (T := T_Dsk) (N := 7) hx hb hts in_Dsk hown hK hP 0 rfl rfl 0 (by decide) (hts _ tw197) (fun _ h9 => h9) rfl d_Dsk_writeReply_153 ?_
        refine lv_iload hx hb d_Dsk_writeReply_156 (lv_at hl 0 rfl) ?_
        refine lv_iload hx hb d_Dsk_writeReply_158 (lv_at hl 0 rfl) ?_
        refine lv_iconst (v := 4) hx hb d_Dsk_writeReply_160 (by decide) ?_
        refine lv_iadd hx hb d_Dsk_writeReply_161 ?_
        obtain ⟨d_18, hc_18, hj⟩ := bd_some hj
        have hF_18 := va_fr hD hS hA
        refine va_callv (va_runV (As := [.ref (ad 1), .int (cg_rqStart d_14), .int ((cg_rqStart d_14) + (4 : Int32))]) (rest := []) ⟨hx, hb, hml, hown, hts⟩ (cc_ByteRow_appendFrom_out l dC dI ad ca LA LE H.size d_17 (cg_rqStart d_14) ((cg_rqStart d_14) + (4 : Int32))  d_18 hc_18) (cwV 3 hts (gtV tw440 tw441 tw442 tw2 tw443) rfl rfl rfl (by decide +kernel) ⟨Nat.le_of_ble_eq_true rfl, Nat.le_of_ble_eq_true rfl⟩) ⟨cBl, va_recv hK hP (ci := 1) (q0 := 3) rfl rfl, fun U hU hW => ⟨rfl, cPr hP hK hD hN hU hW⟩⟩ rfl rfl hl.1 rfl (lv_room (Nat.le_of_ble_eq_true rfl)) d_Dsk_writeReply_162 ⟨Nat.zero_le _, Nat.zero_le _⟩) hS (fun q _ h => hF_18 q h) hF_18 (fun u t H locs ht hvm hw hB hz1 hk1 hS => ?_)
        have hw := hw.symm
        subst hw
        obtain ⟨hP, hD⟩ := cAf hB ht hF_18
        obtain rfl := Option.some.inj hj
        exact W.vret hx hb hr (fun t ht hW => ⟨⟨_, rfl, rfl, by rw [ht]; exact hP, va_K.moved hW.alike hK, hD⟩, hS.F ht⟩) hS.2.2 d_Dsk_writeReply_165
set_option maxHeartbeats 4000000 in
set_option maxRecDepth 100000 in
theorem cc_D_handle (l : Launch) (dC : Nat → ClassId) (dI : Nat → Nat → Nat) (ad : Nat → Nat) (ca : Nat → ClassId) (LA LE : List Nat) (sz : Nat) (d : CS)   (r9 : Int32) (d9 : CS) (hj : jc_D_handle LA LE d = some (r9, d9)) : Met l y_Dsk_handle w_Dsk_handle ({ frames := 6, cells := 0, slots := 0, locals := 135 }) (va_Pc [.ref (ad 0)] (cPre dC dI ad ca LA LE sz d)) (va_Qi (fun (r : Int32) (u : CS) => r = r9 ∧ u = d9) (cAt dC dI ad ca LA LE (va_A (cw ad ca LA LE d) sz)) (va_A (cw ad ca LA LE d) sz)) 0 0 (va_A (cw ad ca LA LE d) sz) := by
  refine Met.ofW (cc := prog_1_method_4_code) (maxL := 2) (ret := (some .int)) (by decide) rfl ?_
  intro p e s m args below meth c s₁ B hml hv
  obtain ⟨rfl, hsz, hP, hK, hD0, hN⟩ := hv
  have hx := B.exec
  have hb := B.bytes
  have hr := B.returns
  have hts0 := atoms_spec (ws := w_Dsk_handle) B.pre
  have hts : ∀ w ∈ gt, w.before _ s = true := fun w h => hts0 w (List.mem_cons_of_mem _ h)
  have hown : s.vm.findClass "CardMessageDesk" = some m.cls := findClass_of_methodNamed B.named
  have hlocks := B.notSynchronized
  subst hsz
  have hD := hD0.self (sz := s.heap.size)
  generalize hAe : va_A (cw ad ca LA LE d) s.heap.size = A at hD ⊢
  have hA : ∀ q : Nat, s.heap.size ≤ q → A q := fun q h => by rw [← hAe]; exact Or.inr h
  have hS : va_S A s.heap s.heap [] := va_S.rf
  have hl := lv_entry ([.ref (ad 0)]) (n := 2) (Nat.le_of_ble_eq_true rfl)
  rw [lg_entry_eq]
  generalize (lg_sl ([.ref (ad 0)]) ++ List.replicate (2 - (lg_sl ([.ref (ad 0)])).length) Slot.unset).toArray = ls at hl ⊢
  have hl : lv_has ls 2 [(0, .ref (ad 0))] := hl
  unfold jc_D_handle at hj
  refine lv_aload_n hx hb d_Dsk_handle_0 rfl (lv_at hl 0 rfl) ?_
  refine va_get (D := (dC, dI)) (ci := 7) (v := .ref (ad 3)) (C := "CardMessageDesk") (T := T_Dsk) (N := 7) hx hb hts in_Dsk hown hK hP 0 rfl rfl 1 (by decide) (hts _ tw198) (fun _ h9 => h9) rfl d_Dsk_handle_1 ?_
  obtain ⟨d_1, hc_1, hj⟩ := bd_some hj
  have hF_1 := va_fr hD hS hA
  refine va_callv (va_runV (As := []) (rest := []) ⟨hx, hb, hml, hown, hts⟩ (cc_ByteRow_clear_out l dC dI ad ca LA LE s.heap.size d   d_1 hc_1) (cwV 0 hts (gtV tw249 tw250 tw251 tw2 tw252) rfl rfl rfl (by decide +kernel) ⟨Nat.le_of_ble_eq_true rfl, Nat.le_of_ble_eq_true rfl⟩) ⟨cBl, va_recv hK hP (ci := 1) (q0 := 3) rfl rfl, fun U hU hW => ⟨rfl, cPr hP hK hD hN hU hW⟩⟩ rfl rfl hl.1 rfl (lv_room (Nat.le_of_ble_eq_true rfl)) d_Dsk_handle_4 ⟨Nat.zero_le _, Nat.zero_le _⟩) hS (fun q _ h => hF_1 q h) hF_1 (fun u t H locs ht hvm hw hB hz1 hk1 hS => ?_)
  have hw := hw.symm
  subst hw
  obtain ⟨hP, hD⟩ := cAf hB ht hF_1
  refine lv_aload_n hx hb d_Dsk_handle_7 rfl (lv_at hl 0 rfl) ?_
  refine lv_lconst (v := 0) hx hb d_Dsk_handle_8 (by decide) ?_
  obtain ⟨d_2, ed_2, hj⟩ := nm_some hj
  refine va_put (D := (dC, dI)) (ci := 7) (v := .long (0 : Int64)) (ty := .long) (C := "CardMessageDesk") (T := T_Dsk) (N := 7) hx hb hts in_Dsk ty_Dsk ty_Dsk_ok nm_Dsk hown hK hP hD hS 0 rfl rfl 6 (by decide) (hts _ tw203) (fun _ h9 => h9) rfl (by decide +kernel) rfl rfl (Nat.le_of_ble_eq_true rfl) d_Dsk_handle_9 (fun H locs hP hD hS => ?_)
  have hP : va_P (dC, dI) vwCl (cw ad ca LA LE d_2) H := by rw [ed_2]; exact hP
  have hD : va_D A (cw ad ca LA LE d_2) := by rw [ed_2]; exact hD
  refine lv_bipush (v := 30) hx hb d_Dsk_handle_12 (by decide) ?_
  refine lv_istore_n (lv' := [(1, .int (30 : Int32)), (0, .ref (ad 0))]) hx hb d_Dsk_handle_14 rfl hl (by decide) rfl (fun ls hl => ?_)
  refine lv_aload_n hx hb d_Dsk_handle_15 rfl (lv_at hl 1 rfl) ?_
  refine va_get (D := (dC, dI)) (ci := 7) (v := .ref (ad 5)) (C := "CardMessageDesk") (T := T_Dsk) (N := 7) hx hb hts in_Dsk hown hK hP 0 rfl rfl 2 (by decide) (hts _ tw199) (fun _ h9 => h9) rfl d_Dsk_handle_16 ?_
  obtain ⟨p_3, hc_3, hj⟩ := bd_some hj
  have hF_3 := va_fr hD hS hA
  refine va_calli (va_runV (As := []) (rest := []) ⟨hx, hb, hml, hown, hts⟩ (cc_Request_readWhole l dC dI ad ca LA LE H.size d_2   p_3.1 p_3.2 hc_3) (cwV 0 hts (gtV tw253 tw254 tw255 tw3 tw256) rfl rfl rfl (by decide +kernel) ⟨Nat.le_of_ble_eq_true rfl, Nat.le_of_ble_eq_true rfl⟩) ⟨cBl, va_recv hK hP (ci := 6) (q0 := 5) rfl rfl, fun U hU hW => ⟨rfl, cPr hP hK hD hN hU hW⟩⟩ rfl rfl hl.1 rfl (lv_room (Nat.le_of_ble_eq_true rfl)) d_Dsk_handle_19 ⟨Nat.zero_le _, Nat.zero_le _⟩) hS (fun q _ h => hF_3 q h) hF_3 (fun r u t H locs ht hvm hw hB hz1 hk1 hS => ?_)
  obtain ⟨hw1, hw2⟩ := hw
  have hw1 := hw1.symm
  subst hw1
  have hw2 := hw2.symm
  subst hw2
  obtain ⟨hP, hD⟩ := cAf hB ht hF_3
  refine lv_if_eq (tgt := 35) hx hb d_Dsk_handle_22 (by decide) (fun c_4 => ?_) (fun c_4 => ?_)
  · have hj := it_p hj c_4
    refine lv_aload_n hx hb d_Dsk_handle_35 rfl (lv_at hl 1 rfl) ?_
    refine va_get (D := (dC, dI)) (ci := 7) (v := .ref (ad 1)) (C := "CardMessageDesk") (T := T_Dsk) (N := 7) hx hb hts in_Dsk hown hK hP 0 rfl rfl 0 (by decide) (hts _ tw197) (fun _ h9 => h9) rfl d_Dsk_handle_36 ?_
    obtain ⟨d_5, hc_5, hj⟩ := bd_some hj
    have hF_5 := va_fr hD hS hA
    refine va_callv (va_runV (As := []) (rest := []) ⟨hx, hb, hml, hown, hts⟩ (cc_ByteRow_clear_in l dC dI ad ca LA LE H.size p_3.2   d_5 hc_5) (cwV 0 hts (gtV tw249 tw250 tw251 tw2 tw252) rfl rfl rfl (by decide +kernel) ⟨Nat.le_of_ble_eq_true rfl, Nat.le_of_ble_eq_true rfl⟩) ⟨cBl, va_recv hK hP (ci := 1) (q0 := 1) rfl rfl, fun U hU hW => ⟨rfl, cPr hP hK hD hN hU hW⟩⟩ rfl rfl hl.1 rfl (lv_room (Nat.le_of_ble_eq_true rfl)) d_Dsk_handle_39 ⟨Nat.zero_le _, Nat.zero_le _⟩) hS (fun q _ h => hF_5 q h) hF_5 (fun u t H locs ht hvm hw hB hz1 hk1 hS => ?_)
    have hw := hw.symm
    subst hw
    obtain ⟨hP, hD⟩ := cAf hB ht hF_5
    refine lv_iload_n hx hb d_Dsk_handle_42 rfl (lv_at hl 0 rfl) ?_
    obtain ⟨rfl, rfl⟩ := rt_some hj
    exact W.iret hx hb hr (fun t ht hW => ⟨⟨_, _, rfl, ⟨rfl, rfl⟩, by rw [ht]; exact hP, va_K.moved hW.alike hK, hD⟩, hS.F ht⟩) hS.2.2 d_Dsk_handle_43
  · have hj := it_n hj c_4
    refine lv_aload_n hx hb d_Dsk_handle_25 rfl (lv_at hl 1 rfl) ?_
    obtain ⟨p_6, hc_6, hj⟩ := bd_some hj
    have hF_6 := va_fr hD hS hA
    refine va_calli (va_runV (As := []) (rest := []) ⟨hx, hb, hml, hown, hts⟩ (cc_D_answerRequest l dC dI ad ca LA LE H.size p_3.2   p_6.1 p_6.2 hc_6) (cwV 0 hts (gtV tw323 tw325 ts3 tw1 tw326) rfl rfl rfl (by decide +kernel) ⟨Nat.le_of_ble_eq_true rfl, Nat.le_of_ble_eq_true rfl⟩) ⟨cBl, va_recv hK hP (ci := 7) (q0 := 0) rfl rfl, fun U hU hW => ⟨rfl, cPr hP hK hD hN hU hW⟩⟩ rfl rfl hl.1 rfl (lv_room (Nat.le_of_ble_eq_true rfl)) d_Dsk_handle_26 ⟨Nat.zero_le _, Nat.zero_le _⟩) hS (fun q _ h => hF_6 q h) hF_6 (fun r u t H locs ht hvm hw hB hz1 hk1 hS => ?_)
    obtain ⟨hw1, hw2⟩ := hw
    have hw1 := hw1.symm
    subst hw1
    have hw2 := hw2.symm
    subst hw2
    obtain ⟨hP, hD⟩ := cAf hB ht hF_6
    refine lv_istore_n (lv' := [(1, .int p_6.1), (0, .ref (ad 0))]) hx hb d_Dsk_handle_29 rfl hl (by decide) rfl (fun ls hl => ?_)
    refine lv_aload_n hx hb d_Dsk_handle_30 rfl (lv_at hl 1 rfl) ?_
    refine lv_iload_n hx hb d_Dsk_handle_31 rfl (lv_at hl 0 rfl) ?_
    obtain ⟨d_7, hc_7, hj⟩ := bd_some hj
    have hF_7 := va_fr hD hS hA
    refine va_callv (va_runV (As := [.int p_6.1]) (rest := []) ⟨hx, hb, hml, hown, hts⟩ (cc_D_writeReply l dC dI ad ca LA LE H.size p_6.2 p_6.1  d_7 hc_7) (cwV 1 hts (gtV tw424 tw426 ts12 tw1 tw427) rfl rfl rfl (by decide +kernel) ⟨Nat.le_of_ble_eq_true rfl, Nat.le_of_ble_eq_true rfl⟩) ⟨cBl, va_recv hK hP (ci := 7) (q0 := 0) rfl rfl, fun U hU hW => ⟨rfl, cPr hP hK hD hN hU hW⟩⟩ rfl rfl hl.1 rfl (lv_room (Nat.le_of_ble_eq_true rfl)) d_Dsk_handle_32 ⟨Nat.zero_le _, Nat.zero_le _⟩) hS (fun q _ h => hF_7 q h) hF_7 (fun u t H locs ht hvm hw hB hz1 hk1 hS => ?_)
    have hw := hw.symm
    subst hw
    obtain ⟨hP, hD⟩ := cAf hB ht hF_7
    refine lv_aload_n hx hb d_Dsk_handle_35 rfl (lv_at hl 1 rfl) ?_
    refine va_get (D := (dC, dI)) (ci := 7) (v := .ref (ad 1)) (C := "CardMessageDesk") (T := T_Dsk) (N := 7) hx hb hts in_Dsk hown hK hP 0 rfl rfl 0 (by decide) (hts _ tw197) (fun _ h9 => h9) rfl d_Dsk_handle_36 ?_
    obtain ⟨d_8, hc_8, hj⟩ := bd_some hj
    have hF_8 := va_fr hD hS hA
    refine va_callv (va_runV (As := []) (rest := []) ⟨hx, hb, hml, hown, hts⟩ (cc_ByteRow_clear_in l dC dI ad ca LA LE H.size d_7   d_8 hc_8) (cwV 0 hts (gtV tw249 tw250 tw251 tw2 tw252) rfl rfl rfl (by decide +kernel) ⟨Nat.le_of_ble_eq_true rfl, Nat.le_of_ble_eq_true rfl⟩) ⟨cBl, va_recv hK hP (ci := 1) (q0 := 1) rfl rfl, fun U hU hW => ⟨rfl, cPr hP hK hD hN hU hW⟩⟩ rfl rfl hl.1 rfl (lv_room (Nat.le_of_ble_eq_true rfl)) d_Dsk_handle_39 ⟨Nat.zero_le _, Nat.zero_le _⟩) hS (fun q _ h => hF_8 q h) hF_8 (fun u t H locs ht hvm hw hB hz1 hk1 hS => ?_)
    have hw := hw.symm
    subst hw
    obtain ⟨hP, hD⟩ := cAf hB ht hF_8
    refine lv_iload_n hx hb d_Dsk_handle_42 rfl (lv_at hl 0 rfl) ?_
    obtain ⟨rfl, rfl⟩ := rt_some hj
    exact W.iret hx hb hr (fun t ht hW => ⟨⟨_, _, rfl, ⟨rfl, rfl⟩, by rw [ht]; exact hP, va_K.moved hW.alike hK, hD⟩, hS.F ht⟩) hS.2.2 d_Dsk_handle_43
