set_option maxHeartbeats 4000000 in
set_option maxRecDepth 100000 in
theorem cc_Reader_readBytes_L5 {p : Program} {l : Launch} {e : Env} {s : State} {m : MethodId} {args : Array Value} {below : List Frame} {meth : Method} {c : Code} {dC : Nat → ClassId} {dI : Nat → Nat → Nat} {ad : Nat → Nat} {ca : Nat → ClassId} {LA LE : List Nat} {A : Nat → Prop}  (x1 : Int32)  (r9 : Int64) (d9 : CS) (hx : p.tables.exec = Jvm.exec) (hb : c.code = prog_7_method_5_code) (hr : meth.sig.returnType = (some .long)) (hlocks : meth.locks = false) (hml : c.maxLocals = 5) (hown : s.vm.findClass "CardMessageDesk$Reader" = some m.cls) (hts : ∀ w ∈ gt, w.before args s = true) (hN : nw s) (hA : ∀ q : Nat, s.heap.size ≤ q → A q) (hK : va_K (dC, dI) vwCl (cT ca) s) :
    ∀ (n : Nat) (d : CS) (x2 : Int64) (x4 : Int32) (H : Heap) (locs : List Loc) (ls : Array Slot), loopF (jc_Reader_readBytes_L5 LA LE x1) n (d, x2, x4) = some (r9, d9) → va_P (dC, dI) vwCl (cw ad ca LA LE d) H → va_D A (cw ad ca LA LE d) → va_S A s.heap H locs → lv_has ls 5 [(0, .ref (ad 6)), (1, .int x1), (2, .long x2), (4, .int x4)] → W p l e ({ frames := 2, cells := 0, slots := 0, locals := 42 }) s m args below meth c H locs 0 0 (MQ below (va_Ql (fun (r : Int64) (u : CS) => r = r9 ∧ u = d9) (cAt dC dI ad ca LA LE A) A) args s 0 0 A) (F0 m 5 ls []) := by
  intro n
  induction n with
  | zero =>
    intro d x2 x4 H locs ls hj
    exact (loopF_z hj).elim
  | succ n ih =>
    intro d x2 x4 H locs ls hj hP hD hS hl
    have hj := loopF_s hj
    unfold jc_Reader_readBytes_L5 at hj
    try dsimp only at hj
    refine lv_iload hx hb d_Rdr_readBytes_5 (lv_at hl 3 rfl) ?_
    refine lv_iload_n hx hb d_Rdr_readBytes_7 rfl (lv_at hl 1 rfl) ?_
    refine lv_icmp_ge (tgt := 28) hx hb d_Rdr_readBytes_8 (by decide) (fun c_1 => ?_) (fun c_1 => ?_)
    · have hj := it_p hj c_1
      refine lv_lload_n hx hb d_Rdr_readBytes_28 rfl (lv_at hl 2 rfl) ?_
      obtain ⟨rfl, rfl⟩ := rt_some hj
      exact W.lret hx hb hr (fun t ht hW => ⟨⟨_, _, rfl, ⟨rfl, rfl⟩, by rw [ht]; exact hP, va_K.moved hW.alike hK, hD⟩, hS.F ht⟩) hS.2.2 d_Rdr_readBytes_29
    · have hj := it_n hj c_1
      refine lv_lload_n hx hb d_Rdr_readBytes_11 rfl (lv_at hl 2 rfl) ?_
      refine lv_bipush (v := 8) hx hb d_Rdr_readBytes_12 (by decide) ?_
      refine lv_lshl (v := (x2 <<< (((8 : Int32)).toInt64 &&& 63))) hx hb d_Rdr_readBytes_14 rfl ?_
      refine lv_aload_n hx hb d_Rdr_readBytes_15 rfl (lv_at hl 0 rfl) ?_
      obtain ⟨p_2, hc_2, hj⟩ := bd_some hj
      have hF_2 := va_fr hD hS hA
      refine va_calli (va_runV (As := []) (rest := [.long (x2 <<< (((8 : Int32)).toInt64 &&& 63))]) ⟨hx, hb, hml, hown, hts⟩ (cc_Reader_readByte l dC dI ad ca LA LE H.size d   p_2.1 p_2.2 hc_2) (cwV 0 hts (gtV tw265 tw266 tw267 tw4 tw268) rfl rfl rfl (by decide +kernel) ⟨Nat.le_of_ble_eq_true rfl, Nat.le_of_ble_eq_true rfl⟩) ⟨cBl, va_recv hK hP (ci := 5) (q0 := 6) rfl rfl, fun U hU hW => ⟨rfl, cPr hP hK hD hN hU hW⟩⟩ rfl rfl hl.1 rfl (lv_room (Nat.le_of_ble_eq_true rfl)) d_Rdr_readBytes_16 ⟨Nat.zero_le _, Nat.zero_le _⟩) hS (fun q _ h => hF_2 q h) hF_2 (fun r u t H locs ht hvm hw hB hz1 hk1 hS => ?_)
      obtain ⟨hw1, hw2⟩ := hw
      have hw1 := hw1.symm
      subst hw1
      have hw2 := hw2.symm
      subst hw2
      obtain ⟨hP, hD⟩ := cAf hB ht hF_2
      refine lv_i2l (v := (p_2.1).toInt64) hx hb d_Rdr_readBytes_19 rfl ?_
      refine lv_lor hx hb d_Rdr_readBytes_20 ?_
      refine lv_lstore_n (lv' := [(2, .long ((x2 <<< (((8 : Int32)).toInt64 &&& 63)) ||| (p_2.1).toInt64)), (0, .ref (ad 6)), (1, .int x1), (4, .int x4)]) hx hb d_Rdr_readBytes_21 rfl hl (by decide) rfl (fun ls hl => ?_)
      refine lv_iinc (v := (x4 + 1)) (lv' := [(4, .int (x4 + 1)), (2, .long ((x2 <<< (((8 : Int32)).toInt64 &&& 63)) ||| (p_2.1).toInt64)), (0, .ref (ad 6)), (1, .int x1)]) hx hb d_Rdr_readBytes_22 hl (k := 3) rfl rfl (by decide) rfl (fun ls hl => ?_)
      refine lv_goto (tgt := 5) hx hb d_Rdr_readBytes_25 (by decide) ?_
      exact ih p_2.2 ((x2 <<< (((8 : Int32)).toInt64 &&& 63)) ||| (p_2.1).toInt64) (x4 + 1) H locs ls hj hP hD hS (lv_sub hl [2, 3, 1, 0] rfl)
set_option maxHeartbeats 4000000 in
set_option maxRecDepth 100000 in
theorem cc_Reader_readBytes (l : Launch) (dC : Nat → ClassId) (dI : Nat → Nat → Nat) (ad : Nat → Nat) (ca : Nat → ClassId) (LA LE : List Nat) (sz : Nat) (d : CS) (p1 : Int32)  (r9 : Int64) (d9 : CS) (hj : jc_Reader_readBytes LA LE d p1 = some (r9, d9)) : Met l y_Rdr_readBytes w_Rdr_readBytes ({ frames := 2, cells := 0, slots := 0, locals := 42 }) (va_Pc [.ref (ad 6), .int p1] (cPre dC dI ad ca LA LE sz d)) (va_Ql (fun (r : Int64) (u : CS) => r = r9 ∧ u = d9) (cAt dC dI ad ca LA LE (va_A (cw ad ca LA LE d) sz)) (va_A (cw ad ca LA LE d) sz)) 0 0 (va_A (cw ad ca LA LE d) sz) := by
  refine Met.ofW (cc := prog_7_method_5_code) (maxL := 5) (ret := (some .long)) (by decide) rfl ?_
  intro p e s m args below meth c s₁ B hml hv
  obtain ⟨rfl, hsz, hP, hK, hD0, hN⟩ := hv
  have hx := B.exec
  have hb := B.bytes
  have hr := B.returns
  have hts0 := atoms_spec (ws := w_Rdr_readBytes) B.pre
  have hts : ∀ w ∈ gt, w.before _ s = true := fun w h => hts0 w (List.mem_cons_of_mem _ h)
  have hown : s.vm.findClass "CardMessageDesk$Reader" = some m.cls := findClass_of_methodNamed B.named
  have hlocks := B.notSynchronized
  subst hsz
  have hD := hD0.self (sz := s.heap.size)
  generalize hAe : va_A (cw ad ca LA LE d) s.heap.size = A at hD ⊢
  have hA : ∀ q : Nat, s.heap.size ≤ q → A q := fun q h => by rw [← hAe]; exact Or.inr h
  have hS : va_S A s.heap s.heap [] := va_S.rf
  have hl := lv_entry ([.ref (ad 6), .int p1]) (n := 5) (Nat.le_of_ble_eq_true rfl)
  rw [lg_entry_eq]
  generalize (lg_sl ([.ref (ad 6), .int p1]) ++ List.replicate (5 - (lg_sl ([.ref (ad 6), .int p1])).length) Slot.unset).toArray = ls at hl ⊢
  have hl : lv_has ls 5 [(0, .ref (ad 6)), (1, .int p1)] := hl
  unfold jc_Reader_readBytes at hj
  refine lv_lconst (v := 0) hx hb d_Rdr_readBytes_0 (by decide) ?_
  refine lv_lstore_n (lv' := [(2, .long (0 : Int64)), (0, .ref (ad 6)), (1, .int p1)]) hx hb d_Rdr_readBytes_1 rfl hl (by decide) rfl (fun ls hl => ?_)
  refine lv_iconst (v := 0) hx hb d_Rdr_readBytes_2 (by decide) ?_
  refine lv_istore (lv' := [(4, .int (0 : Int32)), (2, .long (0 : Int64)), (0, .ref (ad 6)), (1, .int p1)]) hx hb d_Rdr_readBytes_3 hl (by decide) rfl (fun ls hl => ?_)
  exact cc_Reader_readBytes_L5  p1 _ _ hx hb hr hlocks hml hown hts hN hA hK 200 d (0 : Int64) (0 : Int32) _ _ ls hj hP hD hS (lv_sub hl [2, 3, 1, 0] rfl)
set_option maxHeartbeats 4000000 in
set_option maxRecDepth 100000 in
theorem cc_Request_neededFields (l : Launch) (dC : Nat → ClassId) (dI : Nat → Nat → Nat) (ad : Nat → Nat) (ca : Nat → ClassId) (LA LE : List Nat) (sz : Nat) (d : CS) (p1 : Int32)  (r9 : Int64) (hj : jc_Request_neededFields LA LE d p1 = some r9) : Met l y_Req_neededFields w_Req_neededFields ({ frames := 0, cells := 0, slots := 0, locals := 0 }) (va_Pc [.int p1] (cPre dC dI ad ca LA LE sz d)) (va_Ql (fun (r : Int64) (u : CS) => r = r9 ∧ u = d) (cAt dC dI ad ca LA LE (va_A (cw ad ca LA LE d) sz)) (va_A (cw ad ca LA LE d) sz)) 0 0 (va_A (cw ad ca LA LE d) sz) := by
  refine Met.ofW (cc := prog_8_method_6_code) (maxL := 1) (ret := (some .long)) (by decide) rfl ?_
  intro p e s m args below meth c s₁ B hml hv
  obtain ⟨rfl, hsz, hP, hK, hD0, hN⟩ := hv
  have hx := B.exec
  have hb := B.bytes
  have hr := B.returns
  have hts0 := atoms_spec (ws := w_Req_neededFields) B.pre
  have hts : ∀ w ∈ gt, w.before _ s = true := fun w h => hts0 w (List.mem_cons_of_mem _ h)
  have hown : s.vm.findClass "CardMessageDesk$Request" = some m.cls := findClass_of_methodNamed B.named
  have hlocks := B.notSynchronized
  subst hsz
  have hD := hD0.self (sz := s.heap.size)
  generalize hAe : va_A (cw ad ca LA LE d) s.heap.size = A at hD ⊢
  have hA : ∀ q : Nat, s.heap.size ≤ q → A q := fun q h => by rw [← hAe]; exact Or.inr h
  have hS : va_S A s.heap s.heap [] := va_S.rf
  have hl := lv_entry ([.int p1]) (n := 1) (Nat.le_of_ble_eq_true rfl)
  rw [lg_entry_eq]
  generalize (lg_sl ([.int p1]) ++ List.replicate (1 - (lg_sl ([.int p1])).length) Slot.unset).toArray = ls at hl ⊢
  have hl : lv_has ls 1 [(0, .int p1)] := hl
  unfold jc_Request_neededFields at hj
  refine lv_iload_n hx hb d_Req_neededFields_0 rfl (lv_at hl 0 rfl) ?_
  by_cases c_1 : p1 = 100
  · have hj := it_p hj c_1
    refine lv_lookup (tgt := 36) (off := 35) hx hb d_Req_neededFields_1 (by decide) (by rw [c_1]; first | done | rfl | decide) (by decide) ?_
    refine lv_ldc2 (v := 8079457731511058432) hx hb hown (hts _ tw285) d_Req_neededFields_36 ?_
    obtain rfl := Option.some.inj hj
    exact W.lret hx hb hr (fun t ht hW => ⟨⟨_, _, rfl, ⟨rfl, rfl⟩, by rw [ht]; exact hP, va_K.moved hW.alike hK, hD⟩, hS.F ht⟩) hS.2.2 d_Req_neededFields_39
  · have hj := it_n hj c_1
    by_cases c_2 : p1 = 200
    · have hj := it_p hj c_2
      refine lv_lookup (tgt := 36) (off := 35) hx hb d_Req_neededFields_1 (by decide) (by rw [c_2]; first | done | rfl | decide) (by decide) ?_
      refine lv_ldc2 (v := 8079457731511058432) hx hb hown (hts _ tw285) d_Req_neededFields_36 ?_
      obtain rfl := Option.some.inj hj
      exact W.lret hx hb hr (fun t ht hW => ⟨⟨_, _, rfl, ⟨rfl, rfl⟩, by rw [ht]; exact hP, va_K.moved hW.alike hK, hD⟩, hS.F ht⟩) hS.2.2 d_Req_neededFields_39
    · have hj := it_n hj c_2
      by_cases c_3 : p1 = 400
      · have hj := it_p hj c_3
        refine lv_lookup (tgt := 40) (off := 39) hx hb d_Req_neededFields_1 (by decide) (by rw [c_3]; first | done | rfl | decide) (by decide) ?_
        refine lv_ldc2 (v := 4620693217690517760) hx hb hown (hts _ tw286) d_Req_neededFields_40 ?_
        obtain rfl := Option.some.inj hj
        exact W.lret hx hb hr (fun t ht hW => ⟨⟨_, _, rfl, ⟨rfl, rfl⟩, by rw [ht]; exact hP, va_K.moved hW.alike hK, hD⟩, hS.F ht⟩) hS.2.2 d_Req_neededFields_43
      · have hj := it_n hj c_3
        refine lv_lookup (tgt := 44) (off := 43) hx hb d_Req_neededFields_1 (by decide) (by rw [lv_osw c_1 (by decide), lv_osw c_2 (by decide), lv_osw c_3 (by decide)]; first | done | rfl | decide) (by decide) ?_
        refine lv_ldc2 (v := 9007199263129600) hx hb hown (hts _ tw287) d_Req_neededFields_44 ?_
        obtain rfl := Option.some.inj hj
        exact W.lret hx hb hr (fun t ht hW => ⟨⟨_, _, rfl, ⟨rfl, rfl⟩, by rw [ht]; exact hP, va_K.moved hW.alike hK, hD⟩, hS.F ht⟩) hS.2.2 d_Req_neededFields_47
set_option maxHeartbeats 4000000 in
set_option maxRecDepth 100000 in
theorem cc_Request_allowedFields (l : Launch) (dC : Nat → ClassId) (dI : Nat → Nat → Nat) (ad : Nat → Nat) (ca : Nat → ClassId) (LA LE : List Nat) (sz : Nat) (d : CS) (p1 : Int32)  (r9 : Int64) (hj : jc_Request_allowedFields LA LE d p1 = some r9) : Met l y_Req_allowedFields w_Req_allowedFields ({ frames := 1, cells := 0, slots := 0, locals := 20 }) (va_Pc [.int p1] (cPre dC dI ad ca LA LE sz d)) (va_Ql (fun (r : Int64) (u : CS) => r = r9 ∧ u = d) (cAt dC dI ad ca LA LE (va_A (cw ad ca LA LE d) sz)) (va_A (cw ad ca LA LE d) sz)) 0 0 (va_A (cw ad ca LA LE d) sz) := by
  refine Met.ofW (cc := prog_8_method_7_code) (maxL := 1) (ret := (some .long)) (by decide) rfl ?_
  intro p e s m args below meth c s₁ B hml hv
  obtain ⟨rfl, hsz, hP, hK, hD0, hN⟩ := hv
  have hx := B.exec
  have hb := B.bytes
  have hr := B.returns
  have hts0 := atoms_spec (ws := w_Req_allowedFields) B.pre
  have hts : ∀ w ∈ gt, w.before _ s = true := fun w h => hts0 w (List.mem_cons_of_mem _ h)
  have hown : s.vm.findClass "CardMessageDesk$Request" = some m.cls := findClass_of_methodNamed B.named
  have hlocks := B.notSynchronized
  subst hsz
  have hD := hD0.self (sz := s.heap.size)
  generalize hAe : va_A (cw ad ca LA LE d) s.heap.size = A at hD ⊢
  have hA : ∀ q : Nat, s.heap.size ≤ q → A q := fun q h => by rw [← hAe]; exact Or.inr h
  have hS : va_S A s.heap s.heap [] := va_S.rf
  have hl := lv_entry ([.int p1]) (n := 1) (Nat.le_of_ble_eq_true rfl)
  rw [lg_entry_eq]
  generalize (lg_sl ([.int p1]) ++ List.replicate (1 - (lg_sl ([.int p1])).length) Slot.unset).toArray = ls at hl ⊢
  have hl : lv_has ls 1 [(0, .int p1)] := hl
  unfold jc_Request_allowedFields at hj
  refine lv_iload_n hx hb d_Req_allowedFields_0 rfl (lv_at hl 0 rfl) ?_
  by_cases c_1 : p1 = 100
  · have hj := it_p hj c_1
    refine lv_lookup (tgt := 36) (off := 35) hx hb d_Req_allowedFields_1 (by decide) (by rw [c_1]; first | done | rfl | decide) (by decide) ?_
    refine lv_iload_n hx hb d_Req_allowedFields_36 rfl (lv_at hl 0 rfl) ?_
    obtain ⟨v_2, hc_2, hj⟩ := bd_some hj
    have hF_2 := va_fr hD hS hA
    refine va_calll (va_runS (As := [.int p1]) (rest := []) ⟨hx, hb, hml, hown, hts⟩ (cc_Request_neededFields l dC dI ad ca LA LE s.heap.size d p1  v_2 hc_2) (cwS 1 hts (gtS tw282 tw283 tw3 tw284) rfl rfl rfl (by decide +kernel) ⟨Nat.le_of_ble_eq_true rfl, Nat.le_of_ble_eq_true rfl⟩) ⟨cBl, fun U hU hW => ⟨rfl, cPr hP hK hD hN hU hW⟩⟩ rfl rfl hl.1 rfl (lv_room (Nat.le_of_ble_eq_true rfl)) d_Req_allowedFields_37 ⟨Nat.zero_le _, Nat.zero_le _⟩) hS (fun q _ h => hF_2 q h) hF_2 (fun r u t H locs ht hvm hw hB hz1 hk1 hS => ?_)
    obtain ⟨hw1, hw2⟩ := hw
    have hw1 := hw1.symm
    subst hw1
    have hw2 := hw2.symm
    subst hw2
    obtain ⟨hP, hD⟩ := cAf hB ht hF_2
    refine lv_ldc2 (v := 65536) hx hb hown (hts _ tw291) d_Req_allowedFields_40 ?_
    refine lv_lor hx hb d_Req_allowedFields_43 ?_
    obtain rfl := Option.some.inj hj
    exact W.lret hx hb hr (fun t ht hW => ⟨⟨_, _, rfl, ⟨rfl, rfl⟩, by rw [ht]; exact hP, va_K.moved hW.alike hK, hD⟩, hS.F ht⟩) hS.2.2 d_Req_allowedFields_44
  · have hj := it_n hj c_1
    by_cases c_3 : p1 = 400
    · have hj := it_p hj c_3
      refine lv_lookup (tgt := 36) (off := 35) hx hb d_Req_allowedFields_1 (by decide) (by rw [c_3]; first | done | rfl | decide) (by decide) ?_
      refine lv_iload_n hx hb d_Req_allowedFields_36 rfl (lv_at hl 0 rfl) ?_
      obtain ⟨v_4, hc_4, hj⟩ := bd_some hj
      have hF_4 := va_fr hD hS hA
      refine va_calll (va_runS (As := [.int p1]) (rest := []) ⟨hx, hb, hml, hown, hts⟩ (cc_Request_neededFields l dC dI ad ca LA LE s.heap.size d p1  v_4 hc_4) (cwS 1 hts (gtS tw282 tw283 tw3 tw284) rfl rfl rfl (by decide +kernel) ⟨Nat.le_of_ble_eq_true rfl, Nat.le_of_ble_eq_true rfl⟩) ⟨cBl, fun U hU hW => ⟨rfl, cPr hP hK hD hN hU hW⟩⟩ rfl rfl hl.1 rfl (lv_room (Nat.le_of_ble_eq_true rfl)) d_Req_allowedFields_37 ⟨Nat.zero_le _, Nat.zero_le _⟩) hS (fun q _ h => hF_4 q h) hF_4 (fun r u t H locs ht hvm hw hB hz1 hk1 hS => ?_)
      obtain ⟨hw1, hw2⟩ := hw
      have hw1 := hw1.symm
      subst hw1
      have hw2 := hw2.symm
      subst hw2
      obtain ⟨hP, hD⟩ := cAf hB ht hF_4
      refine lv_ldc2 (v := 65536) hx hb hown (hts _ tw291) d_Req_allowedFields_40 ?_
      refine lv_lor hx hb d_Req_allowedFields_43 ?_
      obtain rfl := Option.some.inj hj
      exact W.lret hx hb hr (fun t ht hW => ⟨⟨_, _, rfl, ⟨rfl, rfl⟩, by rw [ht]; exact hP, va_K.moved hW.alike hK, hD⟩, hS.F ht⟩) hS.2.2 d_Req_allowedFields_44
    · have hj := it_n hj c_3
      by_cases c_5 : p1 = 500
      · have hj := it_p hj c_5
        refine lv_lookup (tgt := 36) (off := 35) hx hb d_Req_allowedFields_1 (by decide) (by rw [c_5]; first | done | rfl | decide) (by decide) ?_
        refine lv_iload_n hx hb d_Req_allowedFields_36 rfl (lv_at hl 0 rfl) ?_
        obtain ⟨v_6, hc_6, hj⟩ := bd_some hj
        have hF_6 := va_fr hD hS hA
        refine va_calll (va_runS (As := [.int p1]) (rest := []) ⟨hx, hb, hml, hown, hts⟩ (cc_Request_neededFields l dC dI ad ca LA LE s.heap.size d p1  v_6 hc_6) (cwS 1 hts (gtS tw282 tw283 tw3 tw284) rfl rfl rfl (by decide +kernel) ⟨Nat.le_of_ble_eq_true rfl, Nat.le_of_ble_eq_true rfl⟩) ⟨cBl, fun U hU hW => ⟨rfl, cPr hP hK hD hN hU hW⟩⟩ rfl rfl hl.1 rfl (lv_room (Nat.le_of_ble_eq_true rfl)) d_Req_allowedFields_37 ⟨Nat.zero_le _, Nat.zero_le _⟩) hS (fun q _ h => hF_6 q h) hF_6 (fun r u t H locs ht hvm hw hB hz1 hk1 hS => ?_)
        obtain ⟨hw1, hw2⟩ := hw
        have hw1 := hw1.symm
        subst hw1
        have hw2 := hw2.symm
        subst hw2
        obtain ⟨hP, hD⟩ := cAf hB ht hF_6
        refine lv_ldc2 (v := 65536) hx hb hown (hts _ tw291) d_Req_allowedFields_40 ?_
        refine lv_lor hx hb d_Req_allowedFields_43 ?_
        obtain rfl := Option.some.inj hj
        exact W.lret hx hb hr (fun t ht hW => ⟨⟨_, _, rfl, ⟨rfl, rfl⟩, by rw [ht]; exact hP, va_K.moved hW.alike hK, hD⟩, hS.F ht⟩) hS.2.2 d_Req_allowedFields_44
      · have hj := it_n hj c_5
        refine lv_lookup (tgt := 45) (off := 44) hx hb d_Req_allowedFields_1 (by decide) (by rw [lv_osw c_1 (by decide), lv_osw c_3 (by decide), lv_osw c_5 (by decide)]; first | done | rfl | decide) (by decide) ?_
        refine lv_ldc2 (v := 8079457731511124224) hx hb hown (hts _ tw292) d_Req_allowedFields_45 ?_
        obtain rfl := Option.some.inj hj
        exact W.lret hx hb hr (fun t ht hW => ⟨⟨_, _, rfl, ⟨rfl, rfl⟩, by rw [ht]; exact hP, va_K.moved hW.alike hK, hD⟩, hS.F ht⟩) hS.2.2 d_Req_allowedFields_48
set_option maxHeartbeats 4000000 in
set_option maxRecDepth 100000 in
theorem cc_Request_fieldsBelong (l : Launch) (dC : Nat → ClassId) (dI : Nat → Nat → Nat) (ad : Nat → Nat) (ca : Nat → ClassId) (LA LE : List Nat) (sz : Nat) (d : CS)   (r9 : Int32) (hj : jc_Request_fieldsBelong LA LE d = some r9) : Met l y_Req_fieldsBelong w_Req_fieldsBelong ({ frames := 2, cells := 0, slots := 0, locals := 40 }) (va_Pc [.ref (ad 5)] (cPre dC dI ad ca LA LE sz d)) (va_Qi (fun (r : Int32) (u : CS) => r = r9 ∧ u = d) (cAt dC dI ad ca LA LE (va_A (cw ad ca LA LE d) sz)) (va_A (cw ad ca LA LE d) sz)) 0 0 (va_A (cw ad ca LA LE d) sz) := by
  refine Met.ofW (cc := prog_8_method_5_code) (maxL := 3) (ret := (some .boolean)) (by decide) rfl ?_
  intro p e s m args below meth c s₁ B hml hv
  obtain ⟨rfl, hsz, hP, hK, hD0, hN⟩ := hv
  have hx := B.exec
  have hb := B.bytes
  have hr := B.returns
  have hts0 := atoms_spec (ws := w_Req_fieldsBelong) B.pre
  have hts : ∀ w ∈ gt, w.before _ s = true := fun w h => hts0 w (List.mem_cons_of_mem _ h)
  have hown : s.vm.findClass "CardMessageDesk$Request" = some m.cls := findClass_of_methodNamed B.named
  have hlocks := B.notSynchronized
  subst hsz
  have hD := hD0.self (sz := s.heap.size)
  generalize hAe : va_A (cw ad ca LA LE d) s.heap.size = A at hD ⊢
  have hA : ∀ q : Nat, s.heap.size ≤ q → A q := fun q h => by rw [← hAe]; exact Or.inr h
  have hS : va_S A s.heap s.heap [] := va_S.rf
  have hl := lv_entry ([.ref (ad 5)]) (n := 3) (Nat.le_of_ble_eq_true rfl)
  rw [lg_entry_eq]
  generalize (lg_sl ([.ref (ad 5)]) ++ List.replicate (3 - (lg_sl ([.ref (ad 5)])).length) Slot.unset).toArray = ls at hl ⊢
  have hl : lv_has ls 3 [(0, .ref (ad 5))] := hl
  unfold jc_Request_fieldsBelong at hj
  refine lv_aload_n hx hb d_Req_fieldsBelong_0 rfl (lv_at hl 0 rfl) ?_
  refine va_get (D := (dC, dI)) (ci := 6) (v := .int (cg_rqType d)) (C := "CardMessageDesk$Request") (T := T_Req) (N := 10) hx hb hts in_Req hown hK hP 5 rfl rfl 1 (by decide) (hts _ tw61) (fun _ h9 => h9) rfl d_Req_fieldsBelong_1 ?_
  obtain ⟨v_1, hc_1, hj⟩ := bd_some hj
  have hF_1 := va_fr hD hS hA
  refine va_calll (va_runS (As := [.int (cg_rqType d)]) (rest := []) ⟨hx, hb, hml, hown, hts⟩ (cc_Request_neededFields l dC dI ad ca LA LE s.heap.size d (cg_rqType d)  v_1 hc_1) (cwS 1 hts (gtS tw282 tw283 tw3 tw284) rfl rfl rfl (by decide +kernel) ⟨Nat.le_of_ble_eq_true rfl, Nat.le_of_ble_eq_true rfl⟩) ⟨cBl, fun U hU hW => ⟨rfl, cPr hP hK hD hN hU hW⟩⟩ rfl rfl hl.1 rfl (lv_room (Nat.le_of_ble_eq_true rfl)) d_Req_fieldsBelong_4 ⟨Nat.zero_le _, Nat.zero_le _⟩) hS (fun q _ h => hF_1 q h) hF_1 (fun r u t H locs ht hvm hw hB hz1 hk1 hS => ?_)
  obtain ⟨hw1, hw2⟩ := hw
  have hw1 := hw1.symm
  subst hw1
  have hw2 := hw2.symm
  subst hw2
  obtain ⟨hP, hD⟩ := cAf hB ht hF_1
  refine lv_lstore_n (lv' := [(1, .long v_1), (0, .ref (ad 5))]) hx hb d_Req_fieldsBelong_7 rfl hl (by decide) rfl (fun ls hl => ?_)
  refine lv_aload_n hx hb d_Req_fieldsBelong_8 rfl (lv_at hl 1 rfl) ?_
  refine va_get (D := (dC, dI)) (ci := 6) (v := .long (cg_rqMap d)) (C := "CardMessageDesk$Request") (T := T_Req) (N := 10) hx hb hts in_Req hown hK hP 5 rfl rfl 2 (by decide) (hts _ tw63) (fun _ h9 => h9) rfl d_Req_fieldsBelong_9 ?_
  refine lv_lload_n hx hb d_Req_fieldsBelong_12 rfl (lv_at hl 0 rfl) ?_
  refine lv_land hx hb d_Req_fieldsBelong_13 ?_
  refine lv_lload_n hx hb d_Req_fieldsBelong_14 rfl (lv_at hl 0 rfl) ?_
  refine W.lcmp hx hb d_Req_fieldsBelong_15 ?_
  refine lv_if_ne (tgt := 44) hx hb d_Req_fieldsBelong_16 (by decide) (fun c_2 => ?_) (fun c_2 => ?_)
  · have hj := it_n hj (fun z => c_2 (lc_ne.mpr z))
    refine lv_iconst (v := 0) hx hb d_Req_fieldsBelong_44 (by decide) ?_
    obtain rfl := Option.some.inj hj
    exact W.zret (ty := .boolean) hx hb hr rfl (fun t ht hW => ⟨⟨_, _, rfl, ⟨rfl, rfl⟩, by rw [ht]; exact hP, va_K.moved hW.alike hK, hD⟩, hS.F ht⟩) hS.2.2 d_Req_fieldsBelong_45
  · have hj := it_p hj (lc_ne.mp c_2)
    refine lv_aload_n hx hb d_Req_fieldsBelong_19 rfl (lv_at hl 1 rfl) ?_
    refine va_get (D := (dC, dI)) (ci := 6) (v := .long (cg_rqMap d)) (C := "CardMessageDesk$Request") (T := T_Req) (N := 10) hx hb hts in_Req hown hK hP 5 rfl rfl 2 (by decide) (hts _ tw63) (fun _ h9 => h9) rfl d_Req_fieldsBelong_20 ?_
    refine lv_aload_n hx hb d_Req_fieldsBelong_23 rfl (lv_at hl 1 rfl) ?_
    refine va_get (D := (dC, dI)) (ci := 6) (v := .int (cg_rqType d)) (C := "CardMessageDesk$Request") (T := T_Req) (N := 10) hx hb hts in_Req hown hK hP 5 rfl rfl 1 (by decide) (hts _ tw61) (fun _ h9 => h9) rfl d_Req_fieldsBelong_24 ?_
    obtain ⟨v_3, hc_3, hj⟩ := bd_some hj
    have hF_3 := va_fr hD hS hA
    refine va_calll (va_runS (As := [.int (cg_rqType d)]) (rest := [.long (cg_rqMap d)]) ⟨hx, hb, hml, hown, hts⟩ (cc_Request_allowedFields l dC dI ad ca LA LE H.size d (cg_rqType d)  v_3 hc_3) (cwS 1 hts (gtS tw288 tw289 tw3 tw290) rfl rfl rfl (by decide +kernel) ⟨Nat.le_of_ble_eq_true rfl, Nat.le_of_ble_eq_true rfl⟩) ⟨cBl, fun U hU hW => ⟨rfl, cPr hP hK hD hN hU hW⟩⟩ rfl rfl hl.1 rfl (lv_room (Nat.le_of_ble_eq_true rfl)) d_Req_fieldsBelong_27 ⟨Nat.zero_le _, Nat.zero_le _⟩) hS (fun q _ h => hF_3 q h) hF_3 (fun r u t H locs ht hvm hw hB hz1 hk1 hS => ?_)
    obtain ⟨hw1, hw2⟩ := hw
    have hw1 := hw1.symm
    subst hw1
    have hw2 := hw2.symm
    subst hw2
    obtain ⟨hP, hD⟩ := cAf hB ht hF_3
    refine lv_ldc2 (v := (-1)) hx hb hown (hts _ tw293) d_Req_fieldsBelong_30 ?_
    refine lv_lxor hx hb d_Req_fieldsBelong_33 ?_
    refine lv_land hx hb d_Req_fieldsBelong_34 ?_
    refine lv_lconst (v := 0) hx hb d_Req_fieldsBelong_35 (by decide) ?_
    refine W.lcmp hx hb d_Req_fieldsBelong_36 ?_
    refine lv_if_ne (tgt := 44) hx hb d_Req_fieldsBelong_37 (by decide) (fun c_4 => ?_) (fun c_4 => ?_)
    · have hj := it_n hj (fun z => c_4 (lc_ne.mpr z))
      refine lv_iconst (v := 0) hx hb d_Req_fieldsBelong_44 (by decide) ?_
      obtain rfl := Option.some.inj hj
      exact W.zret (ty := .boolean) hx hb hr rfl (fun t ht hW => ⟨⟨_, _, rfl, ⟨rfl, rfl⟩, by rw [ht]; exact hP, va_K.moved hW.alike hK, hD⟩, hS.F ht⟩) hS.2.2 d_Req_fieldsBelong_45
    · have hj := it_p hj (lc_ne.mp c_4)
      refine lv_iconst (v := 1) hx hb d_Req_fieldsBelong_40 (by decide) ?_
      refine lv_goto (tgt := 45) hx hb d_Req_fieldsBelong_41 (by decide) ?_
      obtain rfl := Option.some.inj hj
      exact W.zret (ty := .boolean) hx hb hr rfl (fun t ht hW => ⟨⟨_, _, rfl, ⟨rfl, rfl⟩, by rw [ht]; exact hP, va_K.moved hW.alike hK, hD⟩, hS.F ht⟩) hS.2.2 d_Req_fieldsBelong_45
set_option maxHeartbeats 4000000 in
set_option maxRecDepth 100000 in
theorem cc_Request_has (l : Launch) (dC : Nat → ClassId) (dI : Nat → Nat → Nat) (ad : Nat → Nat) (ca : Nat → ClassId) (LA LE : List Nat) (sz : Nat) (d : CS) (p1 : Int64)  (r9 : Int32) (hj : jc_Request_has LA LE d p1 = some r9) : Met l y_Req_has w_Req_has ({ frames := 0, cells := 0, slots := 0, locals := 0 }) (va_Pc [.ref (ad 5), .long p1] (cPre dC dI ad ca LA LE sz d)) (va_Qi (fun (r : Int32) (u : CS) => r = r9 ∧ u = d) (cAt dC dI ad ca LA LE (va_A (cw ad ca LA LE d) sz)) (va_A (cw ad ca LA LE d) sz)) 0 0 (va_A (cw ad ca LA LE d) sz) := by
  refine Met.ofW (cc := prog_8_method_2_code) (maxL := 3) (ret := (some .boolean)) (by decide) rfl ?_
  intro p e s m args below meth c s₁ B hml hv
  obtain ⟨rfl, hsz, hP, hK, hD0, hN⟩ := hv
  have hx := B.exec
  have hb := B.bytes
  have hr := B.returns
  have hts0 := atoms_spec (ws := w_Req_has) B.pre
  have hts : ∀ w ∈ gt, w.before _ s = true := fun w h => hts0 w (List.mem_cons_of_mem _ h)
  have hown : s.vm.findClass "CardMessageDesk$Request" = some m.cls := findClass_of_methodNamed B.named
  have hlocks := B.notSynchronized
  subst hsz
  have hD := hD0.self (sz := s.heap.size)
  generalize hAe : va_A (cw ad ca LA LE d) s.heap.size = A at hD ⊢
  have hA : ∀ q : Nat, s.heap.size ≤ q → A q := fun q h => by rw [← hAe]; exact Or.inr h
  have hS : va_S A s.heap s.heap [] := va_S.rf
  have hl := lv_entry ([.ref (ad 5), .long p1]) (n := 3) (Nat.le_of_ble_eq_true rfl)
  rw [lg_entry_eq]
  generalize (lg_sl ([.ref (ad 5), .long p1]) ++ List.replicate (3 - (lg_sl ([.ref (ad 5), .long p1])).length) Slot.unset).toArray = ls at hl ⊢
  have hl : lv_has ls 3 [(0, .ref (ad 5)), (1, .long p1)] := hl
  unfold jc_Request_has at hj
  refine lv_aload_n hx hb d_Req_has_0 rfl (lv_at hl 0 rfl) ?_
  refine va_get (D := (dC, dI)) (ci := 6) (v := .long (cg_rqMap d)) (C := "CardMessageDesk$Request") (T := T_Req) (N := 10) hx hb hts in_Req hown hK hP 5 rfl rfl 2 (by decide) (hts _ tw63) (fun _ h9 => h9) rfl d_Req_has_1 ?_
  refine lv_lload_n hx hb d_Req_has_4 rfl (lv_at hl 1 rfl) ?_
  refine lv_land hx hb d_Req_has_5 ?_
  refine lv_lconst (v := 0) hx hb d_Req_has_6 (by decide) ?_
  refine W.lcmp hx hb d_Req_has_7 ?_
  refine lv_if_eq (tgt := 15) hx hb d_Req_has_8 (by decide) (fun c_1 => ?_) (fun c_1 => ?_)
  · have hj := it_p hj (lc_eq.mp c_1)
    refine lv_iconst (v := 0) hx hb d_Req_has_15 (by decide) ?_
    obtain rfl := Option.some.inj hj
    exact W.zret (ty := .boolean) hx hb hr rfl (fun t ht hW => ⟨⟨_, _, rfl, ⟨rfl, rfl⟩, by rw [ht]; exact hP, va_K.moved hW.alike hK, hD⟩, hS.F ht⟩) hS.2.2 d_Req_has_16
  · have hj := it_n hj (fun z => c_1 (lc_eq.mpr z))
    refine lv_iconst (v := 1) hx hb d_Req_has_11 (by decide) ?_
    refine lv_goto (tgt := 16) hx hb d_Req_has_12 (by decide) ?_
    obtain rfl := Option.some.inj hj
    exact W.zret (ty := .boolean) hx hb hr rfl (fun t ht hW => ⟨⟨_, _, rfl, ⟨rfl, rfl⟩, by rw [ht]; exact hP, va_K.moved hW.alike hK, hD⟩, hS.F ht⟩) hS.2.2 d_Req_has_16
set_option maxHeartbeats 4000000 in
set_option maxRecDepth 100000 in
theorem cc_Reader_readCount (l : Launch) (dC : Nat → ClassId) (dI : Nat → Nat → Nat) (ad : Nat → Nat) (ca : Nat → ClassId) (LA LE : List Nat) (sz : Nat) (d : CS) (p1 : Int32) (p2 : Int32) (p3 : Int32)  (r9 : Int32) (d9 : CS) (hj : jc_Reader_readCount LA LE d p1 p2 p3 = some (r9, d9)) : Met l y_Rdr_readCount w_Rdr_readCount ({ frames := 3, cells := 0, slots := 0, locals := 70 }) (va_Pc [.ref (ad 6), .int p1, .int p2, .int p3] (cPre dC dI ad ca LA LE sz d)) (va_Qi (fun (r : Int32) (u : CS) => r = r9 ∧ u = d9) (cAt dC dI ad ca LA LE (va_A (cw ad ca LA LE d) sz)) (va_A (cw ad ca LA LE d) sz)) 0 0 (va_A (cw ad ca LA LE d) sz) := by
  refine Met.ofW (cc := prog_7_method_7_code) (maxL := 6) (ret := (some .int)) (by decide) rfl ?_
  intro p e s m args below meth c s₁ B hml hv
  obtain ⟨rfl, hsz, hP, hK, hD0, hN⟩ := hv
  have hx := B.exec
  have hb := B.bytes
  have hr := B.returns
  have hts0 := atoms_spec (ws := w_Rdr_readCount) B.pre
  have hts : ∀ w ∈ gt, w.before _ s = true := fun w h => hts0 w (List.mem_cons_of_mem _ h)
  have hown : s.vm.findClass "CardMessageDesk$Reader" = some m.cls := findClass_of_methodNamed B.named
  have hlocks := B.notSynchronized
  subst hsz
  have hD := hD0.self (sz := s.heap.size)
  generalize hAe : va_A (cw ad ca LA LE d) s.heap.size = A at hD ⊢
  have hA : ∀ q : Nat, s.heap.size ≤ q → A q := fun q h => by rw [← hAe]; exact Or.inr h
  have hS : va_S A s.heap s.heap [] := va_S.rf
  have hl := lv_entry ([.ref (ad 6), .int p1, .int p2, .int p3]) (n := 6) (Nat.le_of_ble_eq_true rfl)
  rw [lg_entry_eq]
  generalize (lg_sl ([.ref (ad 6), .int p1, .int p2, .int p3]) ++ List.replicate (6 - (lg_sl ([.ref (ad 6), .int p1, .int p2, .int p3])).length) Slot.unset).toArray = ls at hl ⊢
  have hl : lv_has ls 6 [(0, .ref (ad 6)), (1, .int p1), (2, .int p2), (3, .int p3)] := hl
  unfold jc_Reader_readCount at hj
  refine lv_aload_n hx hb d_Rdr_readCount_0 rfl (lv_at hl 0 rfl) ?_
  refine lv_iload_n hx hb d_Rdr_readCount_1 rfl (lv_at hl 1 rfl) ?_
  obtain ⟨p_1, hc_1, hj⟩ := bd_some hj
  have hF_1 := va_fr hD hS hA
  refine va_calll (va_runV (As := [.int p1]) (rest := []) ⟨hx, hb, hml, hown, hts⟩ (cc_Reader_readDigits l dC dI ad ca LA LE s.heap.size d p1  p_1.1 p_1.2 hc_1) (cwV 1 hts (gtV tw307 tw262 tw263 tw4 tw264) rfl rfl rfl (by decide +kernel) ⟨Nat.le_of_ble_eq_true rfl, Nat.le_of_ble_eq_true rfl⟩) ⟨cBl, va_recv hK hP (ci := 5) (q0 := 6) rfl rfl, fun U hU hW => ⟨rfl, cPr hP hK hD hN hU hW⟩⟩ rfl rfl hl.1 rfl (lv_room (Nat.le_of_ble_eq_true rfl)) d_Rdr_readCount_2 ⟨Nat.zero_le _, Nat.zero_le _⟩) hS (fun q _ h => hF_1 q h) hF_1 (fun r u t H locs ht hvm hw hB hz1 hk1 hS => ?_)
  obtain ⟨hw1, hw2⟩ := hw
  have hw1 := hw1.symm
  subst hw1
  have hw2 := hw2.symm
  subst hw2
  obtain ⟨hP, hD⟩ := cAf hB ht hF_1
  refine lv_lstore (lv' := [(4, .long p_1.1), (0, .ref (ad 6)), (1, .int p1), (2, .int p2), (3, .int p3)]) hx hb d_Rdr_readCount_5 hl (by decide) rfl (fun ls hl => ?_)
  refine lv_lload hx hb d_Rdr_readCount_7 (lv_at hl 0 rfl) ?_
  refine lv_iload_n hx hb d_Rdr_readCount_9 rfl (lv_at hl 3 rfl) ?_
  refine lv_i2l (v := (p2).toInt64) hx hb d_Rdr_readCount_10 rfl ?_
  refine W.lcmp hx hb d_Rdr_readCount_11 ?_
  refine lv_if_lt (tgt := 23) hx hb d_Rdr_readCount_12 (by decide) (fun c_2 => ?_) (fun c_2 => ?_)
  · have hj := it_p hj (lc_lt.mp c_2)
    refine lv_aload_n hx hb d_Rdr_readCount_23 rfl (lv_at hl 1 rfl) ?_
    refine lv_iconst (v := 0) hx hb d_Rdr_readCount_24 (by decide) ?_
    obtain ⟨d_3, ed_3, hj⟩ := nm_some hj
    refine va_put (D := (dC, dI)) (ci := 5) (v := .int (0 : Int32)) (ty := .boolean) (C := "CardMessageDesk$Reader") (T := T_Rdr) (N := 3) hx hb hts in_Rdr ty_Rdr ty_Rdr_ok nm_Rdr hown hK hP hD hS 6 rfl rfl 2 (by decide) (hts _ tw50) (fun _ h9 => h9) rfl (by decide +kernel) rfl rfl (Nat.le_of_ble_eq_true rfl) d_Rdr_readCount_25 (fun H locs hP hD hS => ?_)
    have hP : va_P (dC, dI) vwCl (cw ad ca LA LE d_3) H := by rw [ed_3]; exact hP
    have hD : va_D A (cw ad ca LA LE d_3) := by rw [ed_3]; exact hD
    refine lv_iconst (v := 0) hx hb d_Rdr_readCount_28 (by decide) ?_
    obtain ⟨rfl, rfl⟩ := rt_some hj
    exact W.iret hx hb hr (fun t ht hW => ⟨⟨_, _, rfl, ⟨rfl, rfl⟩, by rw [ht]; exact hP, va_K.moved hW.alike hK, hD⟩, hS.F ht⟩) hS.2.2 d_Rdr_readCount_29
  · have hj := it_n hj (fun z => c_2 (lc_lt.mpr z))
    refine lv_lload hx hb d_Rdr_readCount_15 (lv_at hl 0 rfl) ?_
    refine lv_iload_n hx hb d_Rdr_readCount_17 rfl (lv_at hl 4 rfl) ?_
    refine lv_i2l (v := (p3).toInt64) hx hb d_Rdr_readCount_18 rfl ?_
    refine W.lcmp hx hb d_Rdr_readCount_19 ?_
    refine lv_if_le (tgt := 30) hx hb d_Rdr_readCount_20 (by decide) (fun c_4 => ?_) (fun c_4 => ?_)
    · have hj := it_p hj (lc_le.mp c_4)
      refine lv_lload hx hb d_Rdr_readCount_30 (lv_at hl 0 rfl) ?_
      refine lv_l2i (v := (p_1.1).toInt32) hx hb d_Rdr_readCount_32 rfl ?_
      obtain ⟨rfl, rfl⟩ := rt_some hj
      exact W.iret hx hb hr (fun t ht hW => ⟨⟨_, _, rfl, ⟨rfl, rfl⟩, by rw [ht]; exact hP, va_K.moved hW.alike hK, hD⟩, hS.F ht⟩) hS.2.2 d_Rdr_readCount_33
    · have hj := it_n hj (fun z => c_4 (lc_le.mpr z))
      refine lv_aload_n hx hb d_Rdr_readCount_23 rfl (lv_at hl 1 rfl) ?_
      refine lv_iconst (v := 0) hx hb d_Rdr_readCount_24 (by decide) ?_
      obtain ⟨d_5, ed_5, hj⟩ := nm_some hj
      refine va_put (D := (dC, dI)) (ci := 5) (v := .int (0 : Int32)) (ty := .boolean) (C := "CardMessageDesk$Reader") (T := T_Rdr) (N := 3) hx hb hts in_Rdr ty_Rdr ty_Rdr_ok nm_Rdr hown hK hP hD hS 6 rfl rfl 2 (by decide) (hts _ tw50) (fun _ h9 => h9) rfl (by decide +kernel) rfl rfl (Nat.le_of_ble_eq_true rfl) d_Rdr_readCount_25 (fun H locs hP hD hS => ?_)
      have hP : va_P (dC, dI) vwCl (cw ad ca LA LE d_5) H := by rw [ed_5]; exact hP
      have hD : va_D A (cw ad ca LA LE d_5) := by rw [ed_5]; exact hD
      refine lv_iconst (v := 0) hx hb d_Rdr_readCount_28 (by decide) ?_
      obtain ⟨rfl, rfl⟩ := rt_some hj
      exact W.iret hx hb hr (fun t ht hW => ⟨⟨_, _, rfl, ⟨rfl, rfl⟩, by rw [ht]; exact hP, va_K.moved hW.alike hK, hD⟩, hS.F ht⟩) hS.2.2 d_Rdr_readCount_29
set_option maxHeartbeats 4000000 in
set_option maxRecDepth 100000 in
theorem cc_Request_readMoneyFields (l : Launch) (dC : Nat → ClassId) (dI : Nat → Nat → Nat) (ad : Nat → Nat) (ca : Nat → ClassId) (LA LE : List Nat) (sz : Nat) (d : CS)   (d9 : CS) (hj : jc_Request_readMoneyFields LA LE d = some d9) : Met l y_Req_readMoneyFields w_Req_readMoneyFields ({ frames := 4, cells := 0, slots := 0, locals := 95 }) (va_Pc [.ref (ad 5)] (cPre dC dI ad ca LA LE sz d)) (va_Qv (fun u : CS => u = d9) (cAt dC dI ad ca LA LE (va_A (cw ad ca LA LE d) sz)) (va_A (cw ad ca LA LE d) sz)) 0 0 (va_A (cw ad ca LA LE d) sz) := by
  refine Met.ofW (cc := prog_8_method_8_code) (maxL := 1) (ret := none) (by decide) rfl ?_
  intro p e s m args below meth c s₁ B hml hv
  obtain ⟨rfl, hsz, hP, hK, hD0, hN⟩ := hv
  have hx := B.exec
  have hb := B.bytes
  have hr := B.returns
  have hts0 := atoms_spec (ws := w_Req_readMoneyFields) B.pre
  have hts : ∀ w ∈ gt, w.before _ s = true := fun w h => hts0 w (List.mem_cons_of_mem _ h)
  have hown : s.vm.findClass "CardMessageDesk$Request" = some m.cls := findClass_of_methodNamed B.named
  have hlocks := B.notSynchronized
  subst hsz
  have hD := hD0.self (sz := s.heap.size)
  generalize hAe : va_A (cw ad ca LA LE d) s.heap.size = A at hD ⊢
  have hA : ∀ q : Nat, s.heap.size ≤ q → A q := fun q h => by rw [← hAe]; exact Or.inr h
  have hS : va_S A s.heap s.heap [] := va_S.rf
  have hl := lv_entry ([.ref (ad 5)]) (n := 1) (Nat.le_of_ble_eq_true rfl)
  rw [lg_entry_eq]
  generalize (lg_sl ([.ref (ad 5)]) ++ List.replicate (1 - (lg_sl ([.ref (ad 5)])).length) Slot.unset).toArray = ls at hl ⊢
  have hl : lv_has ls 1 [(0, .ref (ad 5))] := hl
  unfold jc_Request_readMoneyFields at hj
  refine lv_aload_n hx hb d_Req_readMoneyFields_0 rfl (lv_at hl 0 rfl) ?_
  refine lv_aload_n hx hb d_Req_readMoneyFields_1 rfl (lv_at hl 0 rfl) ?_
  refine lv_ldc2 (v := 4611686018427387904) hx hb hown (hts _ tw298) d_Req_readMoneyFields_2 ?_
  obtain ⟨v_1, hc_1, hj⟩ := bd_some hj
  have hF_1 := va_fr hD hS hA
  refine va_calli (va_runV (As := [.long (4611686018427387904 : Int64)]) (rest := [.ref (ad 5)]) ⟨hx, hb, hml, hown, hts⟩ (cc_Request_has l dC dI ad ca LA LE s.heap.size d (4611686018427387904 : Int64)  v_1 hc_1) (cwV 1 hts (gtV tw299 tw300 tw301 tw3 tw302) rfl rfl rfl (by decide +kernel) ⟨Nat.le_of_ble_eq_true rfl, Nat.le_of_ble_eq_true rfl⟩) ⟨cBl, va_recv hK hP (ci := 6) (q0 := 5) rfl rfl, fun U hU hW => ⟨rfl, cPr hP hK hD hN hU hW⟩⟩ rfl rfl hl.1 rfl (lv_room (Nat.le_of_ble_eq_true rfl)) d_Req_readMoneyFields_5 ⟨Nat.zero_le _, Nat.zero_le _⟩) hS (fun q _ h => hF_1 q h) hF_1 (fun r u t H locs ht hvm hw hB hz1 hk1 hS => ?_)
  obtain ⟨hw1, hw2⟩ := hw
  have hw1 := hw1.symm
  subst hw1
  have hw2 := hw2.symm
  subst hw2
  obtain ⟨hP, hD⟩ := cAf hB ht hF_1
  refine lv_if_eq (tgt := 32) hx hb d_Req_readMoneyFields_8 (by decide) (fun c_2 => ?_) (fun c_2 => ?_)
  · have hj := it_p hj c_2
    refine lv_lconst (v := 0) hx hb d_Req_readMoneyFields_32 (by decide) ?_
    obtain ⟨d_3, ed_3, hj⟩ := nm_some hj
    refine va_put (D := (dC, dI)) (ci := 6) (v := .long (0 : Int64)) (ty := .long) (C := "CardMessageDesk$Request") (T := T_Req) (N := 10) hx hb hts in_Req ty_Req ty_Req_ok nm_Req hown hK hP hD hS 5 rfl rfl 3 (by decide) (hts _ tw66) (fun _ h9 => h9) rfl (by decide +kernel) rfl rfl (Nat.le_of_ble_eq_true rfl) d_Req_readMoneyFields_33 (fun H locs hP hD hS => ?_)
    have hP : va_P (dC, dI) vwCl (cw ad ca LA LE d_3) H := by rw [ed_3]; exact hP
    have hD : va_D A (cw ad ca LA LE d_3) := by rw [ed_3]; exact hD
    refine lv_aload_n hx hb d_Req_readMoneyFields_36 rfl (lv_at hl 0 rfl) ?_
    refine lv_aload_n hx hb d_Req_readMoneyFields_37 rfl (lv_at hl 0 rfl) ?_
    refine lv_ldc2 (v := 2305843009213693952) hx hb hown (hts _ tw308) d_Req_readMoneyFields_38 ?_
    obtain ⟨v_4, hc_4, hj⟩ := bd_some hj
    have hF_4 := va_fr hD hS hA
    refine va_calli (va_runV (As := [.long (2305843009213693952 : Int64)]) (rest := [.ref (ad 5)]) ⟨hx, hb, hml, hown, hts⟩ (cc_Request_has l dC dI ad ca LA LE H.size d_3 (2305843009213693952 : Int64)  v_4 hc_4) (cwV 1 hts (gtV tw299 tw300 tw301 tw3 tw302) rfl rfl rfl (by decide +kernel) ⟨Nat.le_of_ble_eq_true rfl, Nat.le_of_ble_eq_true rfl⟩) ⟨cBl, va_recv hK hP (ci := 6) (q0 := 5) rfl rfl, fun U hU hW => ⟨rfl, cPr hP hK hD hN hU hW⟩⟩ rfl rfl hl.1 rfl (lv_room (Nat.le_of_ble_eq_true rfl)) d_Req_readMoneyFields_41 ⟨Nat.zero_le _, Nat.zero_le _⟩) hS (fun q _ h => hF_4 q h) hF_4 (fun r u t H locs ht hvm hw hB hz1 hk1 hS => ?_)
    obtain ⟨hw1, hw2⟩ := hw
    have hw1 := hw1.symm
    subst hw1
    have hw2 := hw2.symm
    subst hw2
    obtain ⟨hP, hD⟩ := cAf hB ht hF_4
    refine lv_if_eq (tgt := 60) hx hb d_Req_readMoneyFields_44 (by decide) (fun c_5 => ?_) (fun c_5 => ?_)
    · have hj := it_p hj c_5
      refine lv_iconst (v := 0) hx hb d_Req_readMoneyFields_60 (by decide) ?_
      obtain ⟨d_6, ed_6, hj⟩ := nm_some hj
      refine va_put (D := (dC, dI)) (ci := 6) (v := .int (0 : Int32)) (ty := .int) (C := "CardMessageDesk$Request") (T := T_Req) (N := 10) hx hb hts in_Req ty_Req ty_Req_ok nm_Req hown hK hP hD hS 5 rfl rfl 4 (by decide) (hts _ tw68) (fun _ h9 => h9) rfl (by decide +kernel) rfl rfl (Nat.le_of_ble_eq_true rfl) d_Req_readMoneyFields_61 (fun H locs hP hD hS => ?_)
      have hP : va_P (dC, dI) vwCl (cw ad ca LA LE d_6) H := by rw [ed_6]; exact hP
      have hD : va_D A (cw ad ca LA LE d_6) := by rw [ed_6]; exact hD
      refine lv_aload_n hx hb d_Req_readMoneyFields_64 rfl (lv_at hl 0 rfl) ?_
      refine lv_aload_n hx hb d_Req_readMoneyFields_65 rfl (lv_at hl 0 rfl) ?_
      refine lv_ldc2 (v := 1152921504606846976) hx hb hown (hts _ tw309) d_Req_readMoneyFields_66 ?_
      obtain ⟨v_7, hc_7, hj⟩ := bd_some hj
      have hF_7 := va_fr hD hS hA
      refine va_calli (va_runV (As := [.long (1152921504606846976 : Int64)]) (rest := [.ref (ad 5)]) ⟨hx, hb, hml, hown, hts⟩ (cc_Request_has l dC dI ad ca LA LE H.size d_6 (1152921504606846976 : Int64)  v_7 hc_7) (cwV 1 hts (gtV tw299 tw300 tw301 tw3 tw302) rfl rfl rfl (by decide +kernel) ⟨Nat.le_of_ble_eq_true rfl, Nat.le_of_ble_eq_true rfl⟩) ⟨cBl, va_recv hK hP (ci := 6) (q0 := 5) rfl rfl, fun U hU hW => ⟨rfl, cPr hP hK hD hN hU hW⟩⟩ rfl rfl hl.1 rfl (lv_room (Nat.le_of_ble_eq_true rfl)) d_Req_readMoneyFields_69 ⟨Nat.zero_le _, Nat.zero_le _⟩) hS (fun q _ h => hF_7 q h) hF_7 (fun r u t H locs ht hvm hw hB hz1 hk1 hS => ?_)
      obtain ⟨hw1, hw2⟩ := hw
      have hw1 := hw1.symm
      subst hw1
      have hw2 := hw2.symm
      subst hw2
      obtain ⟨hP, hD⟩ := cAf hB ht hF_7
      refine lv_if_eq (tgt := 87) hx hb d_Req_readMoneyFields_72 (by decide) (fun c_8 => ?_) (fun c_8 => ?_)
      · have hj := it_p hj c_8
        refine lv_lconst (v := 0) hx hb d_Req_readMoneyFields_87 (by decide) ?_
        obtain ⟨d_9, ed_9, hj⟩ := nm_some hj
        refine va_put (D := (dC, dI)) (ci := 6) (v := .long (0 : Int64)) (ty := .long) (C := "CardMessageDesk$Request") (T := T_Req) (N := 10) hx hb hts in_Req ty_Req ty_Req_ok nm_Req hown hK hP hD hS 5 rfl rfl 5 (by decide) (hts _ tw70) (fun _ h9 => h9) rfl (by decide +kernel) rfl rfl (Nat.le_of_ble_eq_true rfl) d_Req_readMoneyFields_88 (fun H locs hP hD hS => ?_)
        have hP : va_P (dC, dI) vwCl (cw ad ca LA LE d_9) H := by rw [ed_9]; exact hP
        have hD : va_D A (cw ad ca LA LE d_9) := by rw [ed_9]; exact hD
        obtain rfl := Option.some.inj hj
        exact W.vret hx hb hr (fun t ht hW => ⟨⟨_, rfl, rfl, by rw [ht]; exact hP, va_K.moved hW.alike hK, hD⟩, hS.F ht⟩) hS.2.2 d_Req_readMoneyFields_91
      · have hj := it_n hj c_8
        refine lv_aload_n hx hb d_Req_readMoneyFields_75 rfl (lv_at hl 0 rfl) ?_
        refine va_get (D := (dC, dI)) (ci := 6) (v := .ref (ad 6)) (C := "CardMessageDesk$Request") (T := T_Req) (N := 10) hx hb hts in_Req hown hK hP 5 rfl rfl 0 (by decide) (hts _ tw58) (fun _ h9 => h9) rfl d_Req_readMoneyFields_76 ?_
        refine lv_bipush (v := 12) hx hb d_Req_readMoneyFields_79 (by decide) ?_
        obtain ⟨p_10, hc_10, hj⟩ := bd_some hj
        have hF_10 := va_fr hD hS hA
        refine va_calll (va_runV (As := [.int (12 : Int32)]) (rest := [.ref (ad 5)]) ⟨hx, hb, hml, hown, hts⟩ (cc_Reader_readDigits l dC dI ad ca LA LE H.size d_6 (12 : Int32)  p_10.1 p_10.2 hc_10) (cwV 1 hts (gtV tw261 tw262 tw263 tw4 tw264) rfl rfl rfl (by decide +kernel) ⟨Nat.le_of_ble_eq_true rfl, Nat.le_of_ble_eq_true rfl⟩) ⟨cBl, va_recv hK hP (ci := 5) (q0 := 6) rfl rfl, fun U hU hW => ⟨rfl, cPr hP hK hD hN hU hW⟩⟩ rfl rfl hl.1 rfl (lv_room (Nat.le_of_ble_eq_true rfl)) d_Req_readMoneyFields_81 ⟨Nat.zero_le _, Nat.zero_le _⟩) hS (fun q _ h => hF_10 q h) hF_10 (fun r u t H locs ht hvm hw hB hz1 hk1 hS => ?_)
        obtain ⟨hw1, hw2⟩ := hw
        have hw1 := hw1.symm
        subst hw1
        have hw2 := hw2.symm
        subst hw2
        obtain ⟨hP, hD⟩ := cAf hB ht hF_10
        refine lv_goto (tgt := 88) hx hb d_Req_readMoneyFields_84 (by decide) ?_
        obtain ⟨d_11, ed_11, hj⟩ := nm_some hj
        refine va_put (D := (dC, dI)) (ci := 6) (v := .long p_10.1) (ty := .long) (C := "CardMessageDesk$Request") (T := T_Req) (N := 10) hx hb hts in_Req ty_Req ty_Req_ok nm_Req hown hK hP hD hS 5 rfl rfl 5 (by decide) (hts _ tw70) (fun _ h9 => h9) rfl (by decide +kernel) rfl rfl (Nat.le_of_ble_eq_true rfl) d_Req_readMoneyFields_88 (fun H locs hP hD hS => ?_)
        have hP : va_P (dC, dI) vwCl (cw ad ca LA LE d_11) H := by rw [ed_11]; exact hP
        have hD : va_D A (cw ad ca LA LE d_11) := by rw [ed_11]; exact hD
        obtain rfl := Option.some.inj hj
        exact W.vret hx hb hr (fun t ht hW => ⟨⟨_, rfl, rfl, by rw [ht]; exact hP, va_K.moved hW.alike hK, hD⟩, hS.F ht⟩) hS.2.2 d_Req_readMoneyFields_91
    · have hj := it_n hj c_5
      refine lv_aload_n hx hb d_Req_readMoneyFields_47 rfl (lv_at hl 0 rfl) ?_
      refine va_get (D := (dC, dI)) (ci := 6) (v := .ref (ad 6)) (C := "CardMessageDesk$Request") (T := T_Req) (N := 10) hx hb hts in_Req hown hK hP 5 rfl rfl 0 (by decide) (hts _ tw58) (fun _ h9 => h9) rfl d_Req_readMoneyFields_48 ?_
      refine lv_bipush (v := 6) hx hb d_Req_readMoneyFields_51 (by decide) ?_
      obtain ⟨p_12, hc_12, hj⟩ := bd_some hj
      have hF_12 := va_fr hD hS hA
      refine va_calll (va_runV (As := [.int (6 : Int32)]) (rest := [.ref (ad 5)]) ⟨hx, hb, hml, hown, hts⟩ (cc_Reader_readDigits l dC dI ad ca LA LE H.size d_3 (6 : Int32)  p_12.1 p_12.2 hc_12) (cwV 1 hts (gtV tw261 tw262 tw263 tw4 tw264) rfl rfl rfl (by decide +kernel) ⟨Nat.le_of_ble_eq_true rfl, Nat.le_of_ble_eq_true rfl⟩) ⟨cBl, va_recv hK hP (ci := 5) (q0 := 6) rfl rfl, fun U hU hW => ⟨rfl, cPr hP hK hD hN hU hW⟩⟩ rfl rfl hl.1 rfl (lv_room (Nat.le_of_ble_eq_true rfl)) d_Req_readMoneyFields_53 ⟨Nat.zero_le _, Nat.zero_le _⟩) hS (fun q _ h => hF_12 q h) hF_12 (fun r u t H locs ht hvm hw hB hz1 hk1 hS => ?_)
      obtain ⟨hw1, hw2⟩ := hw
      have hw1 := hw1.symm
      subst hw1
      have hw2 := hw2.symm
      subst hw2
      obtain ⟨hP, hD⟩ := cAf hB ht hF_12
      refine lv_l2i (v := (p_12.1).toInt32) hx hb d_Req_readMoneyFields_56 rfl ?_
      refine lv_goto (tgt := 61) hx hb d_Req_readMoneyFields_57 (by decide) ?_
      obtain ⟨d_13, ed_13, hj⟩ := nm_some hj
      refine va_put (D := (dC, dI)) (ci := 6) (v := .int (p_12.1).toInt32) (ty := .int) (C := "CardMessageDesk$Request") (T := T_Req) (N := 10) hx hb hts in_Req ty_Req ty_Req_ok nm_Req hown hK hP hD hS 5 rfl rfl 4 (by decide) (hts _ tw68) (fun _ h9 => h9) rfl (by decide +kernel) rfl rfl (Nat.le_of_ble_eq_true rfl) d_Req_readMoneyFields_61 (fun H locs hP hD hS => ?_)
      have hP : va_P (dC, dI) vwCl (cw ad ca LA LE d_13) H := by rw [ed_13]; exact hP
      have hD : va_D A (cw ad ca LA LE d_13) := by rw [ed_13]; exact hD
      refine lv_aload_n hx hb d_Req_readMoneyFields_64 rfl (lv_at hl 0 rfl) ?_
      refine lv_aload_n hx hb d_Req_readMoneyFields_65 rfl (lv_at hl 0 rfl) ?_
      refine lv_ldc2 (v := 1152921504606846976) hx hb hown (hts _ tw309) d_Req_readMoneyFields_66 ?_
      obtain ⟨v_14, hc_14, hj⟩ := bd_some hj
      have hF_14 := va_fr hD hS hA
      refine va_calli (va_runV (As := [.long (1152921504606846976 : Int64)]) (rest := [.ref (ad 5)]) ⟨hx, hb, hml, hown, hts⟩ (cc_Request_has l dC dI ad ca LA LE H.size d_13 (1152921504606846976 : Int64)  v_14 hc_14) (cwV 1 hts (gtV tw299 tw300 tw301 tw3 tw302) rfl rfl rfl (by decide +kernel) ⟨Nat.le_of_ble_eq_true rfl, Nat.le_of_ble_eq_true rfl⟩) ⟨cBl, va_recv hK hP (ci := 6) (q0 := 5) rfl rfl, fun U hU hW => ⟨rfl, cPr hP hK hD hN hU hW⟩⟩ rfl rfl hl.1 rfl (lv_room (Nat.le_of_ble_eq_true rfl)) d_Req_readMoneyFields_69 ⟨Nat.zero_le _, Nat.zero_le _⟩) hS (fun q _ h => hF_14 q h) hF_14 (fun r u t H locs ht hvm hw hB hz1 hk1 hS => ?_)
      obtain ⟨hw1, hw2⟩ := hw
      have hw1 := hw1.symm
      subst hw1
      have hw2 := hw2.symm
      subst hw2
      obtain ⟨hP, hD⟩ := cAf hB ht hF_14
      refine lv_if_eq (tgt := 87) hx hb d_Req_readMoneyFields_72 (by decide) (fun c_15 => ?_) (fun c_15 => ?_)
      · have hj := it_p hj c_15
        refine lv_lconst (v := 0) hx hb d_Req_readMoneyFields_87 (by decide) ?_
        obtain ⟨d_16, ed_16, hj⟩ := nm_some hj
        refine va_put (D := (dC, dI)) (ci := 6) (v := .long (0 : Int64)) (ty := .long) (C := "CardMessageDesk$Request") (T := T_Req) (N := 10) hx hb hts in_Req ty_Req ty_Req_ok nm_Req hown hK hP hD hS 5 rfl rfl 5 (by decide) (hts _ tw70) (fun _ h9 => h9) rfl (by decide +kernel) rfl rfl (Nat.le_of_ble_eq_true rfl) d_Req_readMoneyFields_88 (fun H locs hP hD hS => ?_)
        have hP : va_P (dC, dI) vwCl (cw ad ca LA LE d_16) H := by rw [ed_16]; exact hP
        have hD : va_D A (cw ad ca LA LE d_16) := by rw [ed_16]; exact hD
        obtain rfl := Option.some.inj hj
        exact W.vret hx hb hr (fun t ht hW => ⟨⟨_, rfl, rfl, by rw [ht]; exact hP, va_K.moved hW.alike hK, hD⟩, hS.F ht⟩) hS.2.2 d_Req_readMoneyFields_91
      · have hj := it_n hj c_15
        refine lv_aload_n hx hb d_Req_readMoneyFields_75 rfl (lv_at hl 0 rfl) ?_
        refine va_get (D := (dC, dI)) (ci := 6) (v := .ref (ad 6)) (C := "CardMessageDesk$Request") (T := T_Req) (N := 10) hx hb hts in_Req hown hK hP 5 rfl rfl 0 (by decide) (hts _ tw58) (fun _ h9 => h9) rfl d_Req_readMoneyFields_76 ?_
        refine lv_bipush (v := 12) hx hb d_Req_readMoneyFields_79 (by decide) ?_
        obtain ⟨p_17, hc_17, hj⟩ := bd_some hj
        have hF_17 := va_fr hD hS hA
        refine va_calll (va_runV (As := [.int (12 : Int32)]) (rest := [.ref (ad 5)]) ⟨hx, hb, hml, hown, hts⟩ (cc_Reader_readDigits l dC dI ad ca LA LE H.size d_13 (12 : Int32)  p_17.1 p_17.2 hc_17) (cwV 1 hts (gtV tw261 tw262 tw263 tw4 tw264) rfl rfl rfl (by decide +kernel) ⟨Nat.le_of_ble_eq_true rfl, Nat.le_of_ble_eq_true rfl⟩) ⟨cBl, va_recv hK hP (ci := 5) (q0 := 6) rfl rfl, fun U hU hW => ⟨rfl, cPr hP hK hD hN hU hW⟩⟩ rfl rfl hl.1 rfl (lv_room (Nat.le_of_ble_eq_true rfl)) d_Req_readMoneyFields_81 ⟨Nat.zero_le _, Nat.zero_le _⟩) hS (fun q _ h => hF_17 q h) hF_17 (fun r u t H locs ht hvm hw hB hz1 hk1 hS => ?_)
        obtain ⟨hw1, hw2⟩ := hw
        have hw1 := hw1.symm
        subst hw1
        have hw2 := hw2.symm
        subst hw2
        obtain ⟨hP, hD⟩ := cAf hB ht hF_17
        refine lv_goto (tgt := 88) hx hb d_Req_readMoneyFields_84 (by decide) ?_
        obtain ⟨d_18, ed_18, hj⟩ := nm_some hj
        refine va_put (D := (dC, dI)) (ci := 6) (v := .long p_17.1) (ty := .long) (C := "CardMessageDesk$Request") (T := T_Req) (N := 10) hx hb hts in_Req ty_Req ty_Req_ok nm_Req hown hK hP hD hS 5 rfl rfl 5 (by decide) (hts _ tw70) (fun _ h9 => h9) rfl (by decide +kernel) rfl rfl (Nat.le_of_ble_eq_true rfl) d_Req_readMoneyFields_88 (fun H locs hP hD hS => ?_)
        have hP : va_P (dC, dI) vwCl (cw ad ca LA LE d_18) H := by rw [ed_18]; exact hP
        have hD : va_D A (cw ad ca LA LE d_18) := by rw [ed_18]; exact hD
        obtain rfl := Option.some.inj hj
        exact W.vret hx hb hr (fun t ht hW => ⟨⟨_, rfl, rfl, by rw [ht]; exact hP, va_K.moved hW.alike hK, hD⟩, hS.F ht⟩) hS.2.2 d_Req_readMoneyFields_91
  · have hj := it_n hj c_2
    refine lv_aload_n hx hb d_Req_readMoneyFields_11 rfl (lv_at hl 0 rfl) ?_
    refine va_get (D := (dC, dI)) (ci := 6) (v := .ref (ad 6)) (C := "CardMessageDesk$Request") (T := T_Req) (N := 10) hx hb hts in_Req hown hK hP 5 rfl rfl 0 (by decide) (hts _ tw58) (fun _ h9 => h9) rfl d_Req_readMoneyFields_12 ?_
    refine lv_aload_n hx hb d_Req_readMoneyFields_15 rfl (lv_at hl 0 rfl) ?_
    refine va_get (D := (dC, dI)) (ci := 6) (v := .ref (ad 6)) (C := "CardMessageDesk$Request") (T := T_Req) (N := 10) hx hb hts in_Req hown hK hP 5 rfl rfl 0 (by decide) (hts _ tw58) (fun _ h9 => h9) rfl d_Req_readMoneyFields_16 ?_
    refine lv_iconst (v := 2) hx hb d_Req_readMoneyFields_19 (by decide) ?_
    refine lv_iconst (v := 1) hx hb d_Req_readMoneyFields_20 (by decide) ?_
    refine lv_bipush (v := 16) hx hb d_Req_readMoneyFields_21 (by decide) ?_
    obtain ⟨p_19, hc_19, hj⟩ := bd_some hj
    have hF_19 := va_fr hD hS hA
    refine va_calli (va_runV (As := [.int (2 : Int32), .int (1 : Int32), .int (16 : Int32)]) (rest := [.ref (ad 6), .ref (ad 5)]) ⟨hx, hb, hml, hown, hts⟩ (cc_Reader_readCount l dC dI ad ca LA LE H.size d (2 : Int32) (1 : Int32) (16 : Int32)  p_19.1 p_19.2 hc_19) (cwV 3 hts (gtV tw303 tw304 tw305 tw4 tw306) rfl rfl rfl (by decide +kernel) ⟨Nat.le_of_ble_eq_true rfl, Nat.le_of_ble_eq_true rfl⟩) ⟨cBl, va_recv hK hP (ci := 5) (q0 := 6) rfl rfl, fun U hU hW => ⟨rfl, cPr hP hK hD hN hU hW⟩⟩ rfl rfl hl.1 rfl (lv_room (Nat.le_of_ble_eq_true rfl)) d_Req_readMoneyFields_23 ⟨Nat.zero_le _, Nat.zero_le _⟩) hS (fun q _ h => hF_19 q h) hF_19 (fun r u t H locs ht hvm hw hB hz1 hk1 hS => ?_)
    obtain ⟨hw1, hw2⟩ := hw
    have hw1 := hw1.symm
    subst hw1
    have hw2 := hw2.symm
    subst hw2
    obtain ⟨hP, hD⟩ := cAf hB ht hF_19
    obtain ⟨p_20, hc_20, hj⟩ := bd_some hj
    have hF_20 := va_fr hD hS hA
    refine va_calll (va_runV (As := [.int p_19.1]) (rest := [.ref (ad 5)]) ⟨hx, hb, hml, hown, hts⟩ (cc_Reader_readDigits l dC dI ad ca LA LE H.size p_19.2 p_19.1  p_20.1 p_20.2 hc_20) (cwV 1 hts (gtV tw261 tw262 tw263 tw4 tw264) rfl rfl rfl (by decide +kernel) ⟨Nat.le_of_ble_eq_true rfl, Nat.le_of_ble_eq_true rfl⟩) ⟨cBl, va_recv hK hP (ci := 5) (q0 := 6) rfl rfl, fun U hU hW => ⟨rfl, cPr hP hK hD hN hU hW⟩⟩ rfl rfl hl.1 rfl (lv_room (Nat.le_of_ble_eq_true rfl)) d_Req_readMoneyFields_26 ⟨Nat.zero_le _, Nat.zero_le _⟩) hS (fun q _ h => hF_20 q h) hF_20 (fun r u t H locs ht hvm hw hB hz1 hk1 hS => ?_)
    obtain ⟨hw1, hw2⟩ := hw
    have hw1 := hw1.symm
    subst hw1
    have hw2 := hw2.symm
    subst hw2
    obtain ⟨hP, hD⟩ := cAf hB ht hF_20
    refine lv_goto (tgt := 33) hx hb d_Req_readMoneyFields_29 (by decide) ?_
    obtain ⟨d_21, ed_21, hj⟩ := nm_some hj
    refine va_put (D := (dC, dI)) (ci := 6) (v := .long p_20.1) (ty := .long) (C := "CardMessageDesk$Request") (T := T_Req) (N := 10) hx hb hts in_Req ty_Req ty_Req_ok nm_Req hown hK hP hD hS 5 rfl rfl 3 (by decide) (hts _ tw66) (fun _ h9 => h9) rfl (by decide +kernel) rfl rfl (Nat.le_of_ble_eq_true rfl) d_Req_readMoneyFields_33 (fun H locs hP hD hS => ?_)
    have hP : va_P (dC, dI) vwCl (cw ad ca LA LE d_21) H := by rw [ed_21]; exact hP
    have hD : va_D A (cw ad ca LA LE d_21) := by rw [ed_21]; exact hD
    refine lv_aload_n hx hb d_Req_readMoneyFields_36 rfl (lv_at hl 0 rfl) ?_
    refine lv_aload_n hx hb d_Req_readMoneyFields_37 rfl (lv_at hl 0 rfl) ?_
    refine lv_ldc2 (v := 2305843009213693952) hx hb hown (hts _ tw308) d_Req_readMoneyFields_38 ?_
    obtain ⟨v_22, hc_22, hj⟩ := bd_some hj
    have hF_22 := va_fr hD hS hA
    refine va_calli (va_runV (As := [.long (2305843009213693952 : Int64)]) (rest := [.ref (ad 5)]) ⟨hx, hb, hml, hown, hts⟩ (cc_Request_has l dC dI ad ca LA LE H.size d_21 (2305843009213693952 : Int64)  v_22 hc_22) (cwV 1 hts (gtV tw299 tw300 tw301 tw3 tw302) rfl rfl rfl (by decide +kernel) ⟨Nat.le_of_ble_eq_true rfl, Nat.le_of_ble_eq_true rfl⟩) ⟨cBl, va_recv hK hP (ci := 6) (q0 := 5) rfl rfl, fun U hU hW => ⟨rfl, cPr hP hK hD hN hU hW⟩⟩ rfl rfl hl.1 rfl (lv_room (Nat.le_of_ble_eq_true rfl)) d_Req_readMoneyFields_41 ⟨Nat.zero_le _, Nat.zero_le _⟩) hS (fun q _ h => hF_22 q h) hF_22 (fun r u t H locs ht hvm hw hB hz1 hk1 hS => ?_)
    obtain ⟨hw1, hw2⟩ := hw
    have hw1 := hw1.symm
    subst hw1
    have hw2 := hw2.symm
    subst hw2
    obtain ⟨hP, hD⟩ := cAf hB ht hF_22
    refine lv_if_eq (tgt := 60) hx hb d_Req_readMoneyFields_44 (by decide) (fun c_23 => ?_) (fun c_23 => ?_)
    · have hj := it_p hj c_23
      refine lv_iconst (v := 0) hx hb d_Req_readMoneyFields_60 (by decide) ?_
      obtain ⟨d_24, ed_24, hj⟩ := nm_some hj
      refine va_put (D := (dC, dI)) (ci := 6) (v := .int (0 : Int32)) (ty := .int) (C := "CardMessageDesk$Request") (T := T_Req) (N := 10) hx hb hts in_Req ty_Req ty_Req_ok nm_Req hown hK hP hD hS 5 rfl rfl 4 (by decide) (hts _ tw68) (fun _ h9 => h9) rfl (by decide +kernel) rfl rfl (Nat.le_of_ble_eq_true rfl) d_Req_readMoneyFields_61 (fun H locs hP hD hS => ?_)
      have hP : va_P (dC, dI) vwCl (cw ad ca LA LE d_24) H := by rw [ed_24]; exact hP
      have hD : va_D A (cw ad ca LA LE d_24) := by rw [ed_24]; exact hD
      refine lv_aload_n hx hb d_Req_readMoneyFields_64 rfl (lv_at hl 0 rfl) ?_
      refine lv_aload_n hx hb d_Req_readMoneyFields_65 rfl (lv_at hl 0 rfl) ?_
      refine lv_ldc2 (v := 1152921504606846976) hx hb hown (hts _ tw309) d_Req_readMoneyFields_66 ?_
      obtain ⟨v_25, hc_25, hj⟩ := bd_some hj
      have hF_25 := va_fr hD hS hA
      refine va_calli (va_runV (As := [.long (1152921504606846976 : Int64)]) (rest := [.ref (ad 5)]) ⟨hx, hb, hml, hown, hts⟩ (cc_Request_has l dC dI ad ca LA LE H.size d_24 (1152921504606846976 : Int64)  v_25 hc_25) (cwV 1 hts (gtV tw299 tw300 tw301 tw3 tw302) rfl rfl rfl (by decide +kernel) ⟨Nat.le_of_ble_eq_true rfl, Nat.le_of_ble_eq_true rfl⟩) ⟨cBl, va_recv hK hP (ci := 6) (q0 := 5) rfl rfl, fun U hU hW => ⟨rfl, cPr hP hK hD hN hU hW⟩⟩ rfl rfl hl.1 rfl (lv_room (Nat.le_of_ble_eq_true rfl)) d_Req_readMoneyFields_69 ⟨Nat.zero_le _, Nat.zero_le _⟩) hS (fun q _ h => hF_25 q h) hF_25 (fun r u t H locs ht hvm hw hB hz1 hk1 hS => ?_)
      obtain ⟨hw1, hw2⟩ := hw
      have hw1 := hw1.symm
      subst hw1
      have hw2 := hw2.symm
      subst hw2
      obtain ⟨hP, hD⟩ := cAf hB ht hF_25
      refine lv_if_eq (tgt := 87) hx hb d_Req_readMoneyFields_72 (by decide) (fun c_26 => ?_) (fun c_26 => ?_)
      · have hj := it_p hj c_26
        refine lv_lconst (v := 0) hx hb d_Req_readMoneyFields_87 (by decide) ?_
        obtain ⟨d_27, ed_27, hj⟩ := nm_some hj
        refine va_put (D := (dC, dI)) (ci := 6) (v := .long (0 : Int64)) (ty := .long) (C := "CardMessageDesk$Request") (T := T_Req) (N := 10) hx hb hts in_Req ty_Req ty_Req_ok nm_Req hown hK hP hD hS 5 rfl rfl 5 (by decide) (hts _ tw70) (fun _ h9 => h9) rfl (by decide +kernel) rfl rfl (Nat.le_of_ble_eq_true rfl) d_Req_readMoneyFields_88 (fun H locs hP hD hS => ?_)
        have hP : va_P (dC, dI) vwCl (cw ad ca LA LE d_27) H := by rw [ed_27]; exact hP
        have hD : va_D A (cw ad ca LA LE d_27) := by rw [ed_27]; exact hD
        obtain rfl := Option.some.inj hj
        exact W.vret hx hb hr (fun t ht hW => ⟨⟨_, rfl, rfl, by rw [ht]; exact hP, va_K.moved hW.alike hK, hD⟩, hS.F ht⟩) hS.2.2 d_Req_readMoneyFields_91
      · have hj := it_n hj c_26
        refine lv_aload_n hx hb d_Req_readMoneyFields_75 rfl (lv_at hl 0 rfl) ?_
        refine va_get (D := (dC, dI)) (ci := 6) (v := .ref (ad 6)) (C := "CardMessageDesk$Request") (T := T_Req) (N := 10) hx hb hts in_Req hown hK hP 5 rfl rfl 0 (by decide) (hts _ tw58) (fun _ h9 => h9) rfl d_Req_readMoneyFields_76 ?_
        refine lv_bipush (v := 12) hx hb d_Req_readMoneyFields_79 (by decide) ?_
        obtain ⟨p_28, hc_28, hj⟩ := bd_some hj
        have hF_28 := va_fr hD hS hA
        refine va_calll (va_runV (As := [.int (12 : Int32)]) (rest := [.ref (ad 5)]) ⟨hx, hb, hml, hown, hts⟩ (cc_Reader_readDigits l dC dI ad ca LA LE H.size d_24 (12 : Int32)  p_28.1 p_28.2 hc_28) (cwV 1 hts (gtV tw261 tw262 tw263 tw4 tw264) rfl rfl rfl (by decide +kernel) ⟨Nat.le_of_ble_eq_true rfl, Nat.le_of_ble_eq_true rfl⟩) ⟨cBl, va_recv hK hP (ci := 5) (q0 := 6) rfl rfl, fun U hU hW => ⟨rfl, cPr hP hK hD hN hU hW⟩⟩ rfl rfl hl.1 rfl (lv_room (Nat.le_of_ble_eq_true rfl)) d_Req_readMoneyFields_81 ⟨Nat.zero_le _, Nat.zero_le _⟩) hS (fun q _ h => hF_28 q h) hF_28 (fun r u t H locs ht hvm hw hB hz1 hk1 hS => ?_)
        obtain ⟨hw1, hw2⟩ := hw
        have hw1 := hw1.symm
        subst hw1
        have hw2 := hw2.symm
        subst hw2
        obtain ⟨hP, hD⟩ := cAf hB ht hF_28
        refine lv_goto (tgt := 88) hx hb d_Req_readMoneyFields_84 (by decide) ?_
        obtain ⟨d_29, ed_29, hj⟩ := nm_some hj
        refine va_put (D := (dC, dI)) (ci := 6) (v := .long p_28.1) (ty := .long) (C := "CardMessageDesk$Request") (T := T_Req) (N := 10) hx hb hts in_Req ty_Req ty_Req_ok nm_Req hown hK hP hD hS 5 rfl rfl 5 (by decide) (hts _ tw70) (fun _ h9 => h9) rfl (by decide +kernel) rfl rfl (Nat.le_of_ble_eq_true rfl) d_Req_readMoneyFields_88 (fun H locs hP hD hS => ?_)
        have hP : va_P (dC, dI) vwCl (cw ad ca LA LE d_29) H := by rw [ed_29]; exact hP
        have hD : va_D A (cw ad ca LA LE d_29) := by rw [ed_29]; exact hD
        obtain rfl := Option.some.inj hj
        exact W.vret hx hb hr (fun t ht hW => ⟨⟨_, rfl, rfl, by rw [ht]; exact hP, va_K.moved hW.alike hK, hD⟩, hS.F ht⟩) hS.2.2 d_Req_readMoneyFields_91
    · have hj := it_n hj c_23
      refine lv_aload_n hx hb d_Req_readMoneyFields_47 rfl (lv_at hl 0 rfl) ?_
      refine va_get (D := (dC, dI)) (ci := 6) (v := .ref (ad 6)) (C := "CardMessageDesk$Request") (T := T_Req) (N := 10) hx hb hts in_Req hown hK hP 5 rfl rfl 0 (by decide) (hts _ tw58) (fun _ h9 => h9) rfl d_Req_readMoneyFields_48 ?_
      refine lv_bipush (v := 6) hx hb d_Req_readMoneyFields_51 (by decide) ?_
      obtain ⟨p_30, hc_30, hj⟩ := bd_some hj
      have hF_30 := va_fr hD hS hA
      refine va_calll (va_runV (As := [.int (6 : Int32)]) (rest := [.ref (ad 5)]) ⟨hx, hb, hml, hown, hts⟩ (cc_Reader_readDigits l dC dI ad ca LA LE H.size d_21 (6 : Int32)  p_30.1 p_30.2 hc_30) (cwV 1 hts (gtV tw261 tw262 tw263 tw4 tw264) rfl rfl rfl (by decide +kernel) ⟨Nat.le_of_ble_eq_true rfl, Nat.le_of_ble_eq_true rfl⟩) ⟨cBl, va_recv hK hP (ci := 5) (q0 := 6) rfl rfl, fun U hU hW => ⟨rfl, cPr hP hK hD hN hU hW⟩⟩ rfl rfl hl.1 rfl (lv_room (Nat.le_of_ble_eq_true rfl)) d_Req_readMoneyFields_53 ⟨Nat.zero_le _, Nat.zero_le _⟩) hS (fun q _ h => hF_30 q h) hF_30 (fun r u t H locs ht hvm hw hB hz1 hk1 hS => ?_)
      obtain ⟨hw1, hw2⟩ := hw
      have hw1 := hw1.symm
      subst hw1
      have hw2 := hw2.symm
      subst hw2
      obtain ⟨hP, hD⟩ := cAf hB ht hF_30
      refine lv_l2i (v := (p_30.1).toInt32) hx hb d_Req_readMoneyFields_56 rfl ?_
      refine lv_goto (tgt := 61) hx hb d_Req_readMoneyFields_57 (by decide) ?_
      obtain ⟨d_31, ed_31, hj⟩ := nm_some hj
      refine va_put (D := (dC, dI)) (ci := 6) (v := .int (p_30.1).toInt32) (ty := .int) (C := "CardMessageDesk$Request") (T := T_Req) (N := 10) hx hb hts in_Req ty_Req ty_Req_ok nm_Req hown hK hP hD hS 5 rfl rfl 4 (by decide) (hts _ tw68) (fun _ h9 => h9) rfl (by decide +kernel) rfl rfl (Nat.le_of_ble_eq_true rfl) d_Req_readMoneyFields_61 (fun H locs hP hD hS => ?_)
      have hP : va_P (dC, dI) vwCl (cw ad ca LA LE d_31) H := by rw [ed_31]; exact hP
      have hD : va_D A (cw ad ca LA LE d_31) := by rw [ed_31]; exact hD
      refine lv_aload_n hx hb d_Req_readMoneyFields_64 rfl (lv_at hl 0 rfl) ?_
      refine lv_aload_n hx hb d_Req_readMoneyFields_65 rfl (lv_at hl 0 rfl) ?_
      refine lv_ldc2 (v := 1152921504606846976) hx hb hown (hts _ tw309) d_Req_readMoneyFields_66 ?_
      obtain ⟨v_32, hc_32, hj⟩ := bd_some hj
      have hF_32 := va_fr hD hS hA
      refine va_calli (va_runV (As := [.long (1152921504606846976 : Int64)]) (rest := [.ref (ad 5)]) ⟨hx, hb, hml, hown, hts⟩ (cc_Request_has l dC dI ad ca LA LE H.size d_31 (1152921504606846976 : Int64)  v_32 hc_32) (cwV 1 hts (gtV tw299 tw300 tw301 tw3 tw302) rfl rfl rfl (by decide +kernel) ⟨Nat.le_of_ble_eq_true rfl, Nat.le_of_ble_eq_true rfl⟩) ⟨cBl, va_recv hK hP (ci := 6) (q0 := 5) rfl rfl, fun U hU hW => ⟨rfl, cPr hP hK hD hN hU hW⟩⟩ rfl rfl hl.1 rfl (lv_room (Nat.le_of_ble_eq_true rfl)) d_Req_readMoneyFields_69 ⟨Nat.zero_le _, Nat.zero_le _⟩) hS (fun q _ h => hF_32 q h) hF_32 (fun r u t H locs ht hvm hw hB hz1 hk1 hS => ?_)
      obtain ⟨hw1, hw2⟩ := hw
      have hw1 := hw1.symm
      subst hw1
      have hw2 := hw2.symm
      subst hw2
      obtain ⟨hP, hD⟩ := cAf hB ht hF_32
      refine lv_if_eq (tgt := 87) hx hb d_Req_readMoneyFields_72 (by decide) (fun c_33 => ?_) (fun c_33 => ?_)
      · have hj := it_p hj c_33
        refine lv_lconst (v := 0) hx hb d_Req_readMoneyFields_87 (by decide) ?_
        obtain ⟨d_34, ed_34, hj⟩ := nm_some hj
        refine va_put (D := (dC, dI)) (ci := 6) (v := .long (0 : Int64)) (ty := .long) (C := "CardMessageDesk$Request") (T := T_Req) (N := 10) hx hb hts in_Req ty_Req ty_Req_ok nm_Req hown hK hP hD hS 5 rfl rfl 5 (by decide) (hts _ tw70) (fun _ h9 => h9) rfl (by decide +kernel) rfl rfl (Nat.le_of_ble_eq_true rfl) d_Req_readMoneyFields_88 (fun H locs hP hD hS => ?_)
        have hP : va_P (dC, dI) vwCl (cw ad ca LA LE d_34) H := by rw [ed_34]; exact hP
        have hD : va_D A (cw ad ca LA LE d_34) := by rw [ed_34]; exact hD
        obtain rfl := Option.some.inj hj
        exact W.vret hx hb hr (fun t ht hW => ⟨⟨_, rfl, rfl, by rw [ht]; exact hP, va_K.moved hW.alike hK, hD⟩, hS.F ht⟩) hS.2.2 d_Req_readMoneyFields_91
      · have hj := it_n hj c_33
        refine lv_aload_n hx hb d_Req_readMoneyFields_75 rfl (lv_at hl 0 rfl) ?_
        refine va_get (D := (dC, dI)) (ci := 6) (v := .ref (ad 6)) (C := "CardMessageDesk$Request") (T := T_Req) (N := 10) hx hb hts in_Req hown hK hP 5 rfl rfl 0 (by decide) (hts _ tw58) (fun _ h9 => h9) rfl d_Req_readMoneyFields_76 ?_
        refine lv_bipush (v := 12) hx hb d_Req_readMoneyFields_79 (by decide) ?_
        obtain ⟨p_35, hc_35, hj⟩ := bd_some hj
        have hF_35 := va_fr hD hS hA
        refine va_calll (va_runV (As := [.int (12 : Int32)]) (rest := [.ref (ad 5)]) ⟨hx, hb, hml, hown, hts⟩ (cc_Reader_readDigits l dC dI ad ca LA LE H.size d_31 (12 : Int32)  p_35.1 p_35.2 hc_35) (cwV 1 hts (gtV tw261 tw262 tw263 tw4 tw264) rfl rfl rfl (by decide +kernel) ⟨Nat.le_of_ble_eq_true rfl, Nat.le_of_ble_eq_true rfl⟩) ⟨cBl, va_recv hK hP (ci := 5) (q0 := 6) rfl rfl, fun U hU hW => ⟨rfl, cPr hP hK hD hN hU hW⟩⟩ rfl rfl hl.1 rfl (lv_room (Nat.le_of_ble_eq_true rfl)) d_Req_readMoneyFields_81 ⟨Nat.zero_le _, Nat.zero_le _⟩) hS (fun q _ h => hF_35 q h) hF_35 (fun r u t H locs ht hvm hw hB hz1 hk1 hS => ?_)
        obtain ⟨hw1, hw2⟩ := hw
        have hw1 := hw1.symm
        subst hw1
        have hw2 := hw2.symm
        subst hw2
        obtain ⟨hP, hD⟩ := cAf hB ht hF_35
        refine lv_goto (tgt := 88) hx hb d_Req_readMoneyFields_84 (by decide) ?_
        obtain ⟨d_36, ed_36, hj⟩ := nm_some hj
        refine va_put (D := (dC, dI)) (ci := 6) (v := .long p_35.1) (ty := .long) (C := "CardMessageDesk$Request") (T := T_Req) (N := 10) hx hb hts in_Req ty_Req ty_Req_ok nm_Req hown hK hP hD hS 5 rfl rfl 5 (by decide) (hts _ tw70) (fun _ h9 => h9) rfl (by decide +kernel) rfl rfl (Nat.le_of_ble_eq_true rfl) d_Req_readMoneyFields_88 (fun H locs hP hD hS => ?_)
        have hP : va_P (dC, dI) vwCl (cw ad ca LA LE d_36) H := by rw [ed_36]; exact hP
        have hD : va_D A (cw ad ca LA LE d_36) := by rw [ed_36]; exact hD
        obtain rfl := Option.some.inj hj
        exact W.vret hx hb hr (fun t ht hW => ⟨⟨_, rfl, rfl, by rw [ht]; exact hP, va_K.moved hW.alike hK, hD⟩, hS.F ht⟩) hS.2.2 d_Req_readMoneyFields_91
set_option maxHeartbeats 4000000 in
set_option maxRecDepth 100000 in
theorem cc_Reader_readCharacters_L4 {p : Program} {l : Launch} {e : Env} {s : State} {m : MethodId} {args : Array Value} {below : List Frame} {meth : Method} {c : Code} {dC : Nat → ClassId} {dI : Nat → Nat → Nat} {ad : Nat → Nat} {ca : Nat → ClassId} {LA LE : List Nat} {A : Nat → Prop}  (x1 : Int32)  (r9 : Int32) (d9 : CS) (hx : p.tables.exec = Jvm.exec) (hb : c.code = prog_7_method_8_code) (hr : meth.sig.returnType = (some .int)) (hlocks : meth.locks = false) (hml : c.maxLocals = 5) (hown : s.vm.findClass "CardMessageDesk$Reader" = some m.cls) (hts : ∀ w ∈ gt, w.before args s = true) (hN : nw s) (hA : ∀ q : Nat, s.heap.size ≤ q → A q) (hK : va_K (dC, dI) vwCl (cT ca) s) :
    ∀ (n : Nat) (d : CS) (x2 : Int32) (x3 : Int32) (H : Heap) (locs : List Loc) (ls : Array Slot), loopF (jc_Reader_readCharacters_L4 LA LE x1) n (d, x2, x3) = some (r9, d9) → va_P (dC, dI) vwCl (cw ad ca LA LE d) H → va_D A (cw ad ca LA LE d) → va_S A s.heap H locs → lv_has ls 5 [(0, .ref (ad 6)), (1, .int x1), (2, .int x2), (3, .int x3)] → W p l e ({ frames := 2, cells := 0, slots := 0, locals := 42 }) s m args below meth c H locs 0 0 (MQ below (va_Qi (fun (r : Int32) (u : CS) => r = r9 ∧ u = d9) (cAt dC dI ad ca LA LE A) A) args s 0 0 A) (F0 m 4 ls []) := by
  intro n
  induction n with
  | zero =>
    intro d x2 x3 H locs ls hj
    exact (loopF_z hj).elim
  | succ n ih =>
    intro d x2 x3 H locs ls hj hP hD hS hl
    have hj := loopF_s hj
    unfold jc_Reader_readCharacters_L4 at hj
    try dsimp only at hj
    refine lv_iload_n hx hb d_Rdr_readCharacters_4 rfl (lv_at hl 3 rfl) ?_
    refine lv_iload_n hx hb d_Rdr_readCharacters_5 rfl (lv_at hl 1 rfl) ?_
    refine lv_icmp_ge (tgt := 48) hx hb d_Rdr_readCharacters_6 (by decide) (fun c_1 => ?_) (fun c_1 => ?_)
    · have hj := it_p hj c_1
      refine lv_iload_n hx hb d_Rdr_readCharacters_48 rfl (lv_at hl 2 rfl) ?_
      obtain ⟨rfl, rfl⟩ := rt_some hj
      exact W.iret hx hb hr (fun t ht hW => ⟨⟨_, _, rfl, ⟨rfl, rfl⟩, by rw [ht]; exact hP, va_K.moved hW.alike hK, hD⟩, hS.F ht⟩) hS.2.2 d_Rdr_readCharacters_49
    · have hj := it_n hj c_1
      refine lv_aload_n hx hb d_Rdr_readCharacters_9 rfl (lv_at hl 0 rfl) ?_
      obtain ⟨p_2, hc_2, hj⟩ := bd_some hj
      have hF_2 := va_fr hD hS hA
      refine va_calli (va_runV (As := []) (rest := []) ⟨hx, hb, hml, hown, hts⟩ (cc_Reader_readByte l dC dI ad ca LA LE H.size d   p_2.1 p_2.2 hc_2) (cwV 0 hts (gtV tw265 tw266 tw267 tw4 tw268) rfl rfl rfl (by decide +kernel) ⟨Nat.le_of_ble_eq_true rfl, Nat.le_of_ble_eq_true rfl⟩) ⟨cBl, va_recv hK hP (ci := 5) (q0 := 6) rfl rfl, fun U hU hW => ⟨rfl, cPr hP hK hD hN hU hW⟩⟩ rfl rfl hl.1 rfl (lv_room (Nat.le_of_ble_eq_true rfl)) d_Rdr_readCharacters_10 ⟨Nat.zero_le _, Nat.zero_le _⟩) hS (fun q _ h => hF_2 q h) hF_2 (fun r u t H locs ht hvm hw hB hz1 hk1 hS => ?_)
      obtain ⟨hw1, hw2⟩ := hw
      have hw1 := hw1.symm
      subst hw1
      have hw2 := hw2.symm
      subst hw2
      obtain ⟨hP, hD⟩ := cAf hB ht hF_2
      refine lv_istore (lv' := [(4, .int p_2.1), (0, .ref (ad 6)), (1, .int x1), (2, .int x2), (3, .int x3)]) hx hb d_Rdr_readCharacters_13 hl (by decide) rfl (fun ls hl => ?_)
      refine lv_iload hx hb d_Rdr_readCharacters_15 (lv_at hl 0 rfl) ?_
      refine lv_bipush (v := 32) hx hb d_Rdr_readCharacters_17 (by decide) ?_
      refine lv_icmp_lt (tgt := 29) hx hb d_Rdr_readCharacters_19 (by decide) (fun c_3 => ?_) (fun c_3 => ?_)
      · have hj := it_p hj c_3
        refine lv_aload_n hx hb d_Rdr_readCharacters_29 rfl (lv_at hl 1 rfl) ?_
        refine lv_iconst (v := 0) hx hb d_Rdr_readCharacters_30 (by decide) ?_
        obtain ⟨d_4, ed_4, hj⟩ := nm_some hj
        refine va_put (D := (dC, dI)) (ci := 5) (v := .int (0 : Int32)) (ty := .boolean) (C := "CardMessageDesk$Reader") (T := T_Rdr) (N := 3) hx hb hts in_Rdr ty_Rdr ty_Rdr_ok nm_Rdr hown hK hP hD hS 6 rfl rfl 2 (by decide) (hts _ tw50) (fun _ h9 => h9) rfl (by decide +kernel) rfl rfl (Nat.le_of_ble_eq_true rfl) d_Rdr_readCharacters_31 (fun H locs hP hD hS => ?_)
        have hP : va_P (dC, dI) vwCl (cw ad ca LA LE d_4) H := by rw [ed_4]; exact hP
        have hD : va_D A (cw ad ca LA LE d_4) := by rw [ed_4]; exact hD
        refine lv_iload_n hx hb d_Rdr_readCharacters_34 rfl (lv_at hl 3 rfl) ?_
        refine lv_bipush (v := 8) hx hb d_Rdr_readCharacters_35 (by decide) ?_
        refine lv_ishl hx hb d_Rdr_readCharacters_37 ?_
        refine lv_iload hx hb d_Rdr_readCharacters_38 (lv_at hl 0 rfl) ?_
        refine lv_ior hx hb d_Rdr_readCharacters_40 ?_
        refine lv_istore_n (lv' := [(2, .int ((x2 <<< ((8 : Int32) &&& 31)) ||| p_2.1)), (4, .int p_2.1), (0, .ref (ad 6)), (1, .int x1), (3, .int x3)]) hx hb d_Rdr_readCharacters_41 rfl hl (by decide) rfl (fun ls hl => ?_)
        refine lv_iinc (v := (x3 + 1)) (lv' := [(3, .int (x3 + 1)), (2, .int ((x2 <<< ((8 : Int32) &&& 31)) ||| p_2.1)), (4, .int p_2.1), (0, .ref (ad 6)), (1, .int x1)]) hx hb d_Rdr_readCharacters_42 hl (k := 4) rfl rfl (by decide) rfl (fun ls hl => ?_)
        refine lv_goto (tgt := 4) hx hb d_Rdr_readCharacters_45 (by decide) ?_
        exact ih d_4 ((x2 <<< ((8 : Int32) &&& 31)) ||| p_2.1) (x3 + 1) H locs ls hj hP hD hS (lv_sub hl [3, 4, 1, 0] rfl)
      · have hj := it_n hj c_3
        refine lv_iload hx hb d_Rdr_readCharacters_22 (lv_at hl 0 rfl) ?_
        refine lv_bipush (v := 126) hx hb d_Rdr_readCharacters_24 (by decide) ?_
        refine lv_icmp_le (tgt := 34) hx hb d_Rdr_readCharacters_26 (by decide) (fun c_5 => ?_) (fun c_5 => ?_)
        · have hj := it_p hj c_5
          refine lv_iload_n hx hb d_Rdr_readCharacters_34 rfl (lv_at hl 3 rfl) ?_
          refine lv_bipush (v := 8) hx hb d_Rdr_readCharacters_35 (by decide) ?_
          refine lv_ishl hx hb d_Rdr_readCharacters_37 ?_
          refine lv_iload hx hb d_Rdr_readCharacters_38 (lv_at hl 0 rfl) ?_
          refine lv_ior hx hb d_Rdr_readCharacters_40 ?_
          refine lv_istore_n (lv' := [(2, .int ((x2 <<< ((8 : Int32) &&& 31)) ||| p_2.1)), (4, .int p_2.1), (0, .ref (ad 6)), (1, .int x1), (3, .int x3)]) hx hb d_Rdr_readCharacters_41 rfl hl (by decide) rfl (fun ls hl => ?_)
          refine lv_iinc (v := (x3 + 1)) (lv' := [(3, .int (x3 + 1)), (2, .int ((x2 <<< ((8 : Int32) &&& 31)) ||| p_2.1)), (4, .int p_2.1), (0, .ref (ad 6)), (1, .int x1)]) hx hb d_Rdr_readCharacters_42 hl (k := 4) rfl rfl (by decide) rfl (fun ls hl => ?_)
          refine lv_goto (tgt := 4) hx hb d_Rdr_readCharacters_45 (by decide) ?_
          exact ih p_2.2 ((x2 <<< ((8 : Int32) &&& 31)) ||| p_2.1) (x3 + 1) H locs ls hj hP hD hS (lv_sub hl [3, 4, 1, 0] rfl)
        · have hj := it_n hj c_5
          refine lv_aload_n hx hb d_Rdr_readCharacters_29 rfl (lv_at hl 1 rfl) ?_
          refine lv_iconst (v := 0) hx hb d_Rdr_readCharacters_30 (by decide) ?_
          obtain ⟨d_6, ed_6, hj⟩ := nm_some hj
          refine va_put (D := (dC, dI)) (ci := 5) (v := .int (0 : Int32)) (ty := .boolean) (C := "CardMessageDesk$Reader") (T := T_Rdr) (N := 3) hx hb hts in_Rdr ty_Rdr ty_Rdr_ok nm_Rdr hown hK hP hD hS 6 rfl rfl 2 (by decide) (hts _ tw50) (fun _ h9 => h9) rfl (by decide +kernel) rfl rfl (Nat.le_of_ble_eq_true rfl) d_Rdr_readCharacters_31 (fun H locs hP hD hS => ?_)
          have hP : va_P (dC, dI) vwCl (cw ad ca LA LE d_6) H := by rw [ed_6]; exact hP
          have hD : va_D A (cw ad ca LA LE d_6) := by rw [ed_6]; exact hD
          refine lv_iload_n hx hb d_Rdr_readCharacters_34 rfl (lv_at hl 3 rfl) ?_
          refine lv_bipush (v := 8) hx hb d_Rdr_readCharacters_35 (by decide) ?_
          refine lv_ishl hx hb d_Rdr_readCharacters_37 ?_
          refine lv_iload hx hb d_Rdr_readCharacters_38 (lv_at hl 0 rfl) ?_
          refine lv_ior hx hb d_Rdr_readCharacters_40 ?_
          refine lv_istore_n (lv' := [(2, .int ((x2 <<< ((8 : Int32) &&& 31)) ||| p_2.1)), (4, .int p_2.1), (0, .ref (ad 6)), (1, .int x1), (3, .int x3)]) hx hb d_Rdr_readCharacters_41 rfl hl (by decide) rfl (fun ls hl => ?_)
          refine lv_iinc (v := (x3 + 1)) (lv' := [(3, .int (x3 + 1)), (2, .int ((x2 <<< ((8 : Int32) &&& 31)) ||| p_2.1)), (4, .int p_2.1), (0, .ref (ad 6)), (1, .int x1)]) hx hb d_Rdr_readCharacters_42 hl (k := 4) rfl rfl (by decide) rfl (fun ls hl => ?_)
          refine lv_goto (tgt := 4) hx hb d_Rdr_readCharacters_45 (by decide) ?_
          exact ih d_6 ((x2 <<< ((8 : Int32) &&& 31)) ||| p_2.1) (x3 + 1) H locs ls hj hP hD hS (lv_sub hl [3, 4, 1, 0] rfl)
set_option maxHeartbeats 4000000 in
set_option maxRecDepth 100000 in
theorem cc_Reader_readCharacters (l : Launch) (dC : Nat → ClassId) (dI : Nat → Nat → Nat) (ad : Nat → Nat) (ca : Nat → ClassId) (LA LE : List Nat) (sz : Nat) (d : CS) (p1 : Int32)  (r9 : Int32) (d9 : CS) (hj : jc_Reader_readCharacters LA LE d p1 = some (r9, d9)) : Met l y_Rdr_readCharacters w_Rdr_readCharacters ({ frames := 2, cells := 0, slots := 0, locals := 42 }) (va_Pc [.ref (ad 6), .int p1] (cPre dC dI ad ca LA LE sz d)) (va_Qi (fun (r : Int32) (u : CS) => r = r9 ∧ u = d9) (cAt dC dI ad ca LA LE (va_A (cw ad ca LA LE d) sz)) (va_A (cw ad ca LA LE d) sz)) 0 0 (va_A (cw ad ca LA LE d) sz) := by
  refine Met.ofW (cc := prog_7_method_8_code) (maxL := 5) (ret := (some .int)) (by decide) rfl ?_
  intro p e s m args below meth c s₁ B hml hv
  obtain ⟨rfl, hsz, hP, hK, hD0, hN⟩ := hv
  have hx := B.exec
  have hb := B.bytes
  have hr := B.returns
  have hts0 := atoms_spec (ws := w_Rdr_readCharacters) B.pre
  have hts : ∀ w ∈ gt, w.before _ s = true := fun w h => hts0 w (List.mem_cons_of_mem _ h)
  have hown : s.vm.findClass "CardMessageDesk$Reader" = some m.cls := findClass_of_methodNamed B.named
  have hlocks := B.notSynchronized
  subst hsz
  have hD := hD0.self (sz := s.heap.size)
  generalize hAe : va_A (cw ad ca LA LE d) s.heap.size = A at hD ⊢
  have hA : ∀ q : Nat, s.heap.size ≤ q → A q := fun q h => by rw [← hAe]; exact Or.inr h
  have hS : va_S A s.heap s.heap [] := va_S.rf
  have hl := lv_entry ([.ref (ad 6), .int p1]) (n := 5) (Nat.le_of_ble_eq_true rfl)
  rw [lg_entry_eq]
  generalize (lg_sl ([.ref (ad 6), .int p1]) ++ List.replicate (5 - (lg_sl ([.ref (ad 6), .int p1])).length) Slot.unset).toArray = ls at hl ⊢
  have hl : lv_has ls 5 [(0, .ref (ad 6)), (1, .int p1)] := hl
  unfold jc_Reader_readCharacters at hj
  refine lv_iconst (v := 0) hx hb d_Rdr_readCharacters_0 (by decide) ?_
  refine lv_istore_n (lv' := [(2, .int (0 : Int32)), (0, .ref (ad 6)), (1, .int p1)]) hx hb d_Rdr_readCharacters_1 rfl hl (by decide) rfl (fun ls hl => ?_)
  refine lv_iconst (v := 0) hx hb d_Rdr_readCharacters_2 (by decide) ?_
  refine lv_istore_n (lv' := [(3, .int (0 : Int32)), (2, .int (0 : Int32)), (0, .ref (ad 6)), (1, .int p1)]) hx hb d_Rdr_readCharacters_3 rfl hl (by decide) rfl (fun ls hl => ?_)
  exact cc_Reader_readCharacters_L4  p1 _ _ hx hb hr hlocks hml hown hts hN hA hK 200 d (0 : Int32) (0 : Int32) _ _ ls hj hP hD hS (lv_sub hl [2, 3, 1, 0] rfl)
