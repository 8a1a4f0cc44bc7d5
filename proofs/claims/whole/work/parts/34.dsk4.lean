set_option maxHeartbeats 4000000 in
set_option maxRecDepth 100000 in
theorem cc_D_reverse (l : Launch) (dC : Nat → ClassId) (dI : Nat → Nat → Nat) (ad : Nat → Nat) (ca : Nat → ClassId) (LA LE : List Nat) (sz : Nat) (d : CS) (a1 : Nat) (hm_a1 : a1 ∈ LA) (r9 : Int32) (d9 : CS) (hj : jc_D_reverse LA LE d a1 = some (r9, d9)) : Met l y_Dsk_reverse w_Dsk_reverse ({ frames := 2, cells := 0, slots := 0, locals := 45 }) (va_Pc [.ref (ad 0), .ref a1] (cPre dC dI ad ca LA LE sz d)) (va_Qi (fun (r : Int32) (u : CS) => r = r9 ∧ u = d9) (cAt dC dI ad ca LA LE (va_A (cw ad ca LA LE d) sz)) (va_A (cw ad ca LA LE d) sz)) 0 0 (va_A (cw ad ca LA LE d) sz) := by
  refine Met.ofW (cc := prog_1_method_23_code) (maxL := 3) (ret := (some .int)) (by decide) rfl ?_
  intro p e s m args below meth c s₁ B hml hv
  obtain ⟨rfl, hsz, hP, hK, hD0, hN⟩ := hv
  have hx := B.exec
  have hb := B.bytes
  have hr := B.returns
  have hts0 := atoms_spec (ws := w_Dsk_reverse) B.pre
  have hts : ∀ w ∈ gt, w.before _ s = true := fun w h => hts0 w (List.mem_cons_of_mem _ h)
  have hown : s.vm.findClass "CardMessageDesk" = some m.cls := findClass_of_methodNamed B.named
  have hlocks := B.notSynchronized
  subst hsz
  have hD := hD0.self (sz := s.heap.size)
  generalize hAe : va_A (cw ad ca LA LE d) s.heap.size = A at hD ⊢
  have hA : ∀ q : Nat, s.heap.size ≤ q → A q := fun q h => by rw [← hAe]; exact Or.inr h
  have hS : va_S A s.heap s.heap [] := va_S.rf
  have hl := lv_entry ([.ref (ad 0), .ref a1]) (n := 3) (Nat.le_of_ble_eq_true rfl)
  rw [lg_entry_eq]
  generalize (lg_sl ([.ref (ad 0), .ref a1]) ++ List.replicate (3 - (lg_sl ([.ref (ad 0), .ref a1])).length) Slot.unset).toArray = ls at hl ⊢
  have hl : lv_has ls 3 [(0, .ref (ad 0)), (1, .ref a1)] := hl
  unfold jc_D_reverse at hj
  refine lv_aload_n hx hb d_Dsk_reverse_0 rfl (lv_at hl 0 rfl) ?_
  refine va_get (D := (dC, dI)) (ci := 7) (v := .ref (ad 9)) (C := "CardMessageDesk") (T := T_Dsk) (N := 7) hx hb hts in_Dsk hown hK hP 0 rfl rfl 4 (by decide) (hts _ tw201) (fun _ h9 => h9) rfl d_Dsk_reverse_1 ?_
  refine lv_aload_n hx hb d_Dsk_reverse_4 rfl (lv_at hl 0 rfl) ?_
  refine va_get (D := (dC, dI)) (ci := 7) (v := .ref (ad 5)) (C := "CardMessageDesk") (T := T_Dsk) (N := 7) hx hb hts in_Dsk hown hK hP 0 rfl rfl 2 (by decide) (hts _ tw199) (fun _ h9 => h9) rfl d_Dsk_reverse_5 ?_
  obtain ⟨v_1, hc_1, hj⟩ := bd_some hj
  have hF_1 := va_fr hD hS hA
  refine va_callq (va_runV (As := [.ref (ad 5)]) (rest := []) ⟨hx, hb, hml, hown, hts⟩ (cc_Journal_findReversible l dC dI ad ca LA LE s.heap.size d   v_1 hc_1) (cwV 1 hts (gtV tw409 tw410 tw411 tw7 tw412) rfl rfl rfl (by decide +kernel) ⟨Nat.le_of_ble_eq_true rfl, Nat.le_of_ble_eq_true rfl⟩) ⟨cBl, va_recv hK hP (ci := 4) (q0 := 9) rfl rfl, fun U hU hW => ⟨rfl, cPr hP hK hD hN hU hW⟩⟩ rfl rfl hl.1 rfl (lv_room (Nat.le_of_ble_eq_true rfl)) d_Dsk_reverse_8 ⟨Nat.zero_le _, Nat.zero_le _⟩) hS (fun q _ h => hF_1 q h) hF_1 (fun r u t H locs ht hvm hw hB hz1 hk1 hS => ?_)
  obtain ⟨hw1, hw2⟩ := hw
  have hw1 := hw1.symm
  subst hw1
  have hw2 := hw2.symm
  subst hw2
  obtain ⟨hP, hD⟩ := cAf hB ht hF_1
  rcases oq_some hj with ⟨ho_1, hj⟩ | ⟨a_1, ho_1, hm_a_1, hj⟩
  · rw [ho_1]
    refine lv_astore_nN (lv' := [(2, .null), (0, .ref (ad 0)), (1, .ref a1)]) hx hb d_Dsk_reverse_11 rfl hl (by decide) rfl (fun ls hl => ?_)
    refine lv_aload_nN hx hb d_Dsk_reverse_12 rfl (lv_at hl 0 rfl) ?_
    refine lv_ifnonnullN hx hb d_Dsk_reverse_13 ?_
    refine lv_bipush (v := 25) hx hb d_Dsk_reverse_16 (by decide) ?_
    obtain ⟨rfl, rfl⟩ := rt_some hj
    exact W.iret hx hb hr (fun t ht hW => ⟨⟨_, _, rfl, ⟨rfl, rfl⟩, by rw [ht]; exact hP, va_K.moved hW.alike hK, hD⟩, hS.F ht⟩) hS.2.2 d_Dsk_reverse_18
  · rw [ho_1]
    refine lv_astore_n (lv' := [(2, .ref a_1), (0, .ref (ad 0)), (1, .ref a1)]) hx hb d_Dsk_reverse_11 rfl hl (by decide) rfl (fun ls hl => ?_)
    refine lv_aload_n hx hb d_Dsk_reverse_12 rfl (lv_at hl 0 rfl) ?_
    refine lv_ifnonnull (tgt := 19) hx hb d_Dsk_reverse_13 (by decide) ?_
    refine lv_aload_n hx hb d_Dsk_reverse_19 rfl (lv_at hl 2 rfl) ?_
    refine lv_dup hx hb d_Dsk_reverse_20 rfl ?_
    obtain ⟨kx_2, hkx_2⟩ := acc_at (ad := ad) (ca := ca) (LA := LA) (LE := LE) (d := _) hm_a1
    refine va_getN (D := (dC, dI)) (ci := 0) (v := .long (ca_bal (cg_acc d a1))) (C := "CardMessageDesk$Account") (T := T_Acc) (N := 2) hx hb hts in_Acc hown hK hP kx_2 hkx_2 rfl 1 (by decide) (nw_f hN (i := 22) rfl) (fun _ h9 => h9) rfl d_Dsk_reverse_21 ?_
    refine lv_aload_n hx hb d_Dsk_reverse_24 rfl (lv_at hl 0 rfl) ?_
    obtain ⟨v_3, hc_3, hj⟩ := bd_some hj
    have hF_3 := va_fr hD hS hA
    obtain ⟨kx_3, hkx_3⟩ := ent_at (ad := ad) (ca := ca) (LA := LA) (LE := LE) (d := d) hm_a_1
    refine va_calll (va_runV (As := []) (rest := [.long (ca_bal (cg_acc d a1)), .ref a1]) ⟨hx, hb, hml, hown, hts⟩ (cc_Entry_moved l dC dI ad ca LA LE H.size d a_1 hm_a_1 v_3 hc_3) (cwV 0 hts (gtV tw414 tw350 tw351 tw8 tw352) rfl rfl rfl (by decide +kernel) ⟨Nat.le_of_ble_eq_true rfl, Nat.le_of_ble_eq_true rfl⟩) ⟨cBl, va_recv hK hP (ci := 3) (q0 := kx_3) rfl hkx_3, fun U hU hW => ⟨rfl, cPr hP hK hD hN hU hW⟩⟩ rfl rfl hl.1 rfl (lv_room (Nat.le_of_ble_eq_true rfl)) d_Dsk_reverse_25 ⟨Nat.zero_le _, Nat.zero_le _⟩) hS (fun q _ h => hF_3 q h) hF_3 (fun r u t H locs ht hvm hw hB hz1 hk1 hS => ?_)
    obtain ⟨hw1, hw2⟩ := hw
    have hw1 := hw1.symm
    subst hw1
    have hw2 := hw2.symm
    subst hw2
    obtain ⟨hP, hD⟩ := cAf hB ht hF_3
    refine lv_lsub hx hb d_Dsk_reverse_28 ?_
    obtain ⟨kx_4, hkx_4⟩ := acc_at (ad := ad) (ca := ca) (LA := LA) (LE := LE) (d := _) hm_a1
    have eW_4 := acc_put_bal (ad := ad) (ca := ca) (LA := LA) (LE := LE) (d := d) (v := ((ca_bal (cg_acc d a1)) - v_3)) hD hm_a1 hkx_4
    obtain ⟨d_5, ed_5, hj⟩ := nm_some hj
    refine va_putN (D := (dC, dI)) (ci := 0) (v := .long ((ca_bal (cg_acc d a1)) - v_3)) (ty := .long) (C := "CardMessageDesk$Account") (T := T_Acc) (N := 2) hx hb hts in_Acc ty_Acc ty_Acc_ok nm_Acc hown hK hP hD hS kx_4 hkx_4 rfl 1 (by decide) (nw_f hN (i := 22) rfl) (fun _ h9 => h9) rfl (by decide +kernel) rfl rfl (Nat.le_of_ble_eq_true rfl) d_Dsk_reverse_29 (fun H locs hP hD hS => ?_)
    have hP : va_P (dC, dI) vwCl (cw ad ca LA LE d_5) H := by rw [ed_5, ← eW_4]; exact hP
    have hD : va_D A (cw ad ca LA LE d_5) := by rw [ed_5, ← eW_4]; exact hD
    refine lv_aload_n hx hb d_Dsk_reverse_32 rfl (lv_at hl 0 rfl) ?_
    refine lv_iconst (v := 3) hx hb d_Dsk_reverse_33 (by decide) ?_
    obtain ⟨kx_6, hkx_6⟩ := ent_at (ad := ad) (ca := ca) (LA := LA) (LE := LE) (d := _) hm_a_1
    have eW_6 := ent_put_state (ad := ad) (ca := ca) (LA := LA) (LE := LE) (d := d_5) (v := (3 : Int32)) hD hm_a_1 hkx_6
    obtain ⟨d_7, ed_7, hj⟩ := nm_some hj
    refine va_putN (D := (dC, dI)) (ci := 3) (v := .int (3 : Int32)) (ty := .int) (C := "CardMessageDesk$Entry") (T := T_Ent) (N := 9) hx hb hts in_Ent ty_Ent ty_Ent_ok nm_Ent hown hK hP hD hS kx_6 hkx_6 rfl 7 (by decide) (nw_f hN (i := 32) rfl) (fun _ h9 => h9) rfl (by decide +kernel) rfl rfl (Nat.le_of_ble_eq_true rfl) d_Dsk_reverse_34 (fun H locs hP hD hS => ?_)
    have hP : va_P (dC, dI) vwCl (cw ad ca LA LE d_7) H := by rw [ed_7, ← eW_6]; exact hP
    have hD : va_D A (cw ad ca LA LE d_7) := by rw [ed_7, ← eW_6]; exact hD
    refine lv_iconst (v := 0) hx hb d_Dsk_reverse_37 (by decide) ?_
    obtain ⟨rfl, rfl⟩ := rt_some hj
    exact W.iret hx hb hr (fun t ht hW => ⟨⟨_, _, rfl, ⟨rfl, rfl⟩, by rw [ht]; exact hP, va_K.moved hW.alike hK, hD⟩, hS.F ht⟩) hS.2.2 d_Dsk_reverse_38
set_option maxHeartbeats 4000000 in
set_option maxRecDepth 100000 in
theorem cc_Journal_netOf_L5 {p : Program} {l : Launch} {e : Env} {s : State} {m : MethodId} {args : Array Value} {below : List Frame} {meth : Method} {c : Code} {dC : Nat → ClassId} {dI : Nat → Nat → Nat} {ad : Nat → Nat} {ca : Nat → ClassId} {LA LE : List Nat} {A : Nat → Prop} (d : CS) (x1 : Int32)  (r9 : Int64) (hx : p.tables.exec = Jvm.exec) (hb : c.code = prog_6_method_7_code) (hr : meth.sig.returnType = (some .long)) (hlocks : meth.locks = false) (hml : c.maxLocals = 5) (hown : s.vm.findClass "CardMessageDesk$Journal" = some m.cls) (hts : ∀ w ∈ gt, w.before args s = true) (hN : nw s) (hA : ∀ q : Nat, s.heap.size ≤ q → A q) (hK : va_K (dC, dI) vwCl (cT ca) s) :
    ∀ (n : Nat) (x2 : Int64) (x4 : Int32) (H : Heap) (locs : List Loc) (ls : Array Slot), loopF (jc_Journal_netOf_L5 LA LE d x1) n (x2, x4) = some r9 → va_P (dC, dI) vwCl (cw ad ca LA LE d) H → va_D A (cw ad ca LA LE d) → va_S A s.heap H locs → lv_has ls 5 [(0, .ref (ad 9)), (1, .int x1), (2, .long x2), (4, .int x4)] → W p l e ({ frames := 2, cells := 0, slots := 0, locals := 40 }) s m args below meth c H locs 0 0 (MQ below (va_Ql (fun (r : Int64) (u : CS) => r = r9 ∧ u = d) (cAt dC dI ad ca LA LE A) A) args s 0 0 A) (F0 m 5 ls []) := by
  intro n
  induction n with
  | zero =>
    intro x2 x4 H locs ls hj
    exact (loopF_z hj).elim
  | succ n ih =>
    intro x2 x4 H locs ls hj hP hD hS hl
    have hj := loopF_s hj
    unfold jc_Journal_netOf_L5 at hj
    try dsimp only at hj
    refine lv_iload hx hb d_Jou_netOf_5 (lv_at hl 3 rfl) ?_
    refine lv_aload_n hx hb d_Jou_netOf_7 rfl (lv_at hl 0 rfl) ?_
    refine va_get (D := (dC, dI)) (ci := 4) (v := .int (cg_jSize d)) (C := "CardMessageDesk$Journal") (T := T_Jou) (N := 3) hx hb hts in_Jou hown hK hP 9 rfl rfl 1 (by decide) (hts _ tw186) (fun _ h9 => h9) rfl d_Jou_netOf_8 ?_
    refine lv_icmp_ge (tgt := 47) hx hb d_Jou_netOf_11 (by decide) (fun c_1 => ?_) (fun c_1 => ?_)
    · have hj := it_p hj c_1
      refine lv_lload_n hx hb d_Jou_netOf_47 rfl (lv_at hl 2 rfl) ?_
      obtain rfl := Option.some.inj hj
      exact W.lret hx hb hr (fun t ht hW => ⟨⟨_, _, rfl, ⟨rfl, rfl⟩, by rw [ht]; exact hP, va_K.moved hW.alike hK, hD⟩, hS.F ht⟩) hS.2.2 d_Jou_netOf_48
    · have hj := it_n hj c_1
      refine lv_aload_n hx hb d_Jou_netOf_14 rfl (lv_at hl 0 rfl) ?_
      refine va_get (D := (dC, dI)) (ci := 4) (v := .ref (ad 10)) (C := "CardMessageDesk$Journal") (T := T_Jou) (N := 3) hx hb hts in_Jou hown hK hP 9 rfl rfl 0 (by decide) (hts _ tw185) (fun _ h9 => h9) rfl d_Jou_netOf_15 ?_
      refine lv_iload hx hb d_Jou_netOf_18 (lv_at hl 3 rfl) ?_
      obtain ⟨hi_2, hj⟩ := gd_some hj
      refine va_aldq hx hb hK hP 10 3 rfl rfl hi_2 d_Jou_netOf_20 ?_
      obtain ⟨a_2, ho_2, hm_a_2, hj⟩ := gq_some hj
      rw [ho_2]
      obtain ⟨kx_3, hkx_3⟩ := ent_at (ad := ad) (ca := ca) (LA := LA) (LE := LE) (d := _) hm_a_2
      refine va_getN (D := (dC, dI)) (ci := 3) (v := .int (ce_term (cg_ent d a_2))) (C := "CardMessageDesk$Entry") (T := T_Ent) (N := 9) hx hb hts in_Ent hown hK hP kx_3 hkx_3 rfl 1 (by decide) (nw_f hN (i := 25) rfl) (fun _ h9 => h9) rfl d_Jou_netOf_21 ?_
      refine lv_iload_n hx hb d_Jou_netOf_24 rfl (lv_at hl 1 rfl) ?_
      refine lv_icmp_ne (tgt := 41) hx hb d_Jou_netOf_25 (by decide) (fun c_4 => ?_) (fun c_4 => ?_)
      · have hj := it_n hj c_4
        refine lv_iinc (v := (x4 + 1)) (lv' := [(4, .int (x4 + 1)), (0, .ref (ad 9)), (1, .int x1), (2, .long x2)]) hx hb d_Jou_netOf_41 hl (k := 3) rfl rfl (by decide) rfl (fun ls hl => ?_)
        refine lv_goto (tgt := 5) hx hb d_Jou_netOf_44 (by decide) ?_
        exact ih x2 (x4 + 1) H locs ls hj hP hD hS (lv_sub hl [1, 2, 3, 0] rfl)
      · have hj := it_p hj c_4
        refine lv_lload_n hx hb d_Jou_netOf_28 rfl (lv_at hl 2 rfl) ?_
        refine lv_aload_n hx hb d_Jou_netOf_29 rfl (lv_at hl 0 rfl) ?_
        refine va_get (D := (dC, dI)) (ci := 4) (v := .ref (ad 10)) (C := "CardMessageDesk$Journal") (T := T_Jou) (N := 3) hx hb hts in_Jou hown hK hP 9 rfl rfl 0 (by decide) (hts _ tw185) (fun _ h9 => h9) rfl d_Jou_netOf_30 ?_
        refine lv_iload hx hb d_Jou_netOf_33 (lv_at hl 3 rfl) ?_
        obtain ⟨hi_5, hj⟩ := gd_some hj
        refine va_aldq hx hb hK hP 10 3 rfl rfl hi_5 d_Jou_netOf_35 ?_
        obtain ⟨a_5, ho_5, hm_a_5, hj⟩ := gq_some hj
        rw [ho_5]
        obtain ⟨v_6, hc_6, hj⟩ := bd_some hj
        have hF_6 := va_fr hD hS hA
        obtain ⟨kx_6, hkx_6⟩ := ent_at (ad := ad) (ca := ca) (LA := LA) (LE := LE) (d := d) hm_a_5
        refine va_calll (va_runV (As := []) (rest := [.long x2]) ⟨hx, hb, hml, hown, hts⟩ (cc_Entry_moved l dC dI ad ca LA LE H.size d a_5 hm_a_5 v_6 hc_6) (cwV 0 hts (gtV tw349 tw350 tw351 tw8 tw352) rfl rfl rfl (by decide +kernel) ⟨Nat.le_of_ble_eq_true rfl, Nat.le_of_ble_eq_true rfl⟩) ⟨cBl, va_recv hK hP (ci := 3) (q0 := kx_6) rfl hkx_6, fun U hU hW => ⟨rfl, cPr hP hK hD hN hU hW⟩⟩ rfl rfl hl.1 rfl (lv_room (Nat.le_of_ble_eq_true rfl)) d_Jou_netOf_36 ⟨Nat.zero_le _, Nat.zero_le _⟩) hS (fun q _ h => hF_6 q h) hF_6 (fun r u t H locs ht hvm hw hB hz1 hk1 hS => ?_)
        obtain ⟨hw1, hw2⟩ := hw
        have hw1 := hw1.symm
        subst hw1
        have hw2 := hw2.symm
        subst hw2
        obtain ⟨hP, hD⟩ := cAf hB ht hF_6
        refine lv_ladd hx hb d_Jou_netOf_39 ?_
        refine lv_lstore_n (lv' := [(2, .long (x2 + v_6)), (0, .ref (ad 9)), (1, .int x1), (4, .int x4)]) hx hb d_Jou_netOf_40 rfl hl (by decide) rfl (fun ls hl => ?_)
        refine lv_iinc (v := (x4 + 1)) (lv' := [(4, .int (x4 + 1)), (2, .long (x2 + v_6)), (0, .ref (ad 9)), (1, .int x1)]) hx hb d_Jou_netOf_41 hl (k := 3) rfl rfl (by decide) rfl (fun ls hl => ?_)
        refine lv_goto (tgt := 5) hx hb d_Jou_netOf_44 (by decide) ?_
        exact ih (x2 + v_6) (x4 + 1) H locs ls hj hP hD hS (lv_sub hl [2, 3, 1, 0] rfl)
set_option maxHeartbeats 4000000 in
set_option maxRecDepth 100000 in
theorem cc_Journal_netOf (l : Launch) (dC : Nat → ClassId) (dI : Nat → Nat → Nat) (ad : Nat → Nat) (ca : Nat → ClassId) (LA LE : List Nat) (sz : Nat) (d : CS) (p1 : Int32)  (r9 : Int64) (hj : jc_Journal_netOf LA LE d p1 = some r9) : Met l y_Jou_netOf w_Jou_netOf ({ frames := 2, cells := 0, slots := 0, locals := 40 }) (va_Pc [.ref (ad 9), .int p1] (cPre dC dI ad ca LA LE sz d)) (va_Ql (fun (r : Int64) (u : CS) => r = r9 ∧ u = d) (cAt dC dI ad ca LA LE (va_A (cw ad ca LA LE d) sz)) (va_A (cw ad ca LA LE d) sz)) 0 0 (va_A (cw ad ca LA LE d) sz) := by
  refine Met.ofW (cc := prog_6_method_7_code) (maxL := 5) (ret := (some .long)) (by decide) rfl ?_
  intro p e s m args below meth c s₁ B hml hv
  obtain ⟨rfl, hsz, hP, hK, hD0, hN⟩ := hv
  have hx := B.exec
  have hb := B.bytes
  have hr := B.returns
  have hts0 := atoms_spec (ws := w_Jou_netOf) B.pre
  have hts : ∀ w ∈ gt, w.before _ s = true := fun w h => hts0 w (List.mem_cons_of_mem _ h)
  have hown : s.vm.findClass "CardMessageDesk$Journal" = some m.cls := findClass_of_methodNamed B.named
  have hlocks := B.notSynchronized
  subst hsz
  have hD := hD0.self (sz := s.heap.size)
  generalize hAe : va_A (cw ad ca LA LE d) s.heap.size = A at hD ⊢
  have hA : ∀ q : Nat, s.heap.size ≤ q → A q := fun q h => by rw [← hAe]; exact Or.inr h
  have hS : va_S A s.heap s.heap [] := va_S.rf
  have hl := lv_entry ([.ref (ad 9), .int p1]) (n := 5) (Nat.le_of_ble_eq_true rfl)
  rw [lg_entry_eq]
  generalize (lg_sl ([.ref (ad 9), .int p1]) ++ List.replicate (5 - (lg_sl ([.ref (ad 9), .int p1])).length) Slot.unset).toArray = ls at hl ⊢
  have hl : lv_has ls 5 [(0, .ref (ad 9)), (1, .int p1)] := hl
  unfold jc_Journal_netOf at hj
  refine lv_lconst (v := 0) hx hb d_Jou_netOf_0 (by decide) ?_
  refine lv_lstore_n (lv' := [(2, .long (0 : Int64)), (0, .ref (ad 9)), (1, .int p1)]) hx hb d_Jou_netOf_1 rfl hl (by decide) rfl (fun ls hl => ?_)
  refine lv_iconst (v := 0) hx hb d_Jou_netOf_2 (by decide) ?_
  refine lv_istore (lv' := [(4, .int (0 : Int32)), (2, .long (0 : Int64)), (0, .ref (ad 9)), (1, .int p1)]) hx hb d_Jou_netOf_3 hl (by decide) rfl (fun ls hl => ?_)
  exact cc_Journal_netOf_L5 d p1 _ hx hb hr hlocks hml hown hts hN hA hK 200 (0 : Int64) (0 : Int32) _ _ ls hj hP hD hS (lv_sub hl [2, 3, 1, 0] rfl)
set_option maxHeartbeats 4000000 in
set_option maxRecDepth 100000 in
theorem cc_Journal_takeOut_L4 {p : Program} {l : Launch} {e : Env} {s : State} {m : MethodId} {args : Array Value} {below : List Frame} {meth : Method} {c : Code} {dC : Nat → ClassId} {dI : Nat → Nat → Nat} {ad : Nat → Nat} {ca : Nat → ClassId} {LA LE : List Nat} {A : Nat → Prop}  (x1 : Int32)  (d9 : CS) (hx : p.tables.exec = Jvm.exec) (hb : c.code = prog_6_method_9_code) (hr : meth.sig.returnType = none) (hlocks : meth.locks = false) (hml : c.maxLocals = 5) (hown : s.vm.findClass "CardMessageDesk$Journal" = some m.cls) (hts : ∀ w ∈ gt, w.before args s = true) (hN : nw s) (hA : ∀ q : Nat, s.heap.size ≤ q → A q) (hK : va_K (dC, dI) vwCl (cT ca) s) :
    ∀ (n : Nat) (d : CS) (x2 : Int32) (x3 : Int32) (H : Heap) (locs : List Loc) (ls : Array Slot), loopF (jc_Journal_takeOut_L4 LA LE x1) n (d, x2, x3) = some d9 → va_P (dC, dI) vwCl (cw ad ca LA LE d) H → va_D A (cw ad ca LA LE d) → va_S A s.heap H locs → lv_has ls 5 [(0, .ref (ad 9)), (1, .int x1), (2, .int x2), (3, .int x3)] → W p l e ({ frames := 1, cells := 0, slots := 0, locals := 22 }) s m args below meth c H locs 0 0 (MQ below (va_Qv (fun u : CS => u = d9) (cAt dC dI ad ca LA LE A) A) args s 0 0 A) (F0 m 4 ls []) := by
  intro n
  induction n with
  | zero =>
    intro d x2 x3 H locs ls hj
    exact (loopF_z hj).elim
  | succ n ih =>
    intro d x2 x3 H locs ls hj hP hD hS hl
    have hj := loopF_s hj
    unfold jc_Journal_takeOut_L4 at hj
    try dsimp only at hj
    refine lv_iload_n hx hb d_Jou_takeOut_4 rfl (lv_at hl 3 rfl) ?_
    refine lv_aload_n hx hb d_Jou_takeOut_5 rfl (lv_at hl 0 rfl) ?_
    refine va_get (D := (dC, dI)) (ci := 4) (v := .int (cg_jSize d)) (C := "CardMessageDesk$Journal") (T := T_Jou) (N := 3) hx hb hts in_Jou hown hK hP 9 rfl rfl 1 (by decide) (hts _ tw186) (fun _ h9 => h9) rfl d_Jou_takeOut_6 ?_
    refine lv_icmp_ge (tgt := 70) hx hb d_Jou_takeOut_9 (by decide) (fun c_1 => ?_) (fun c_1 => ?_)
    · have hj := it_p hj c_1
      refine lv_aload_n hx hb d_Jou_takeOut_70 rfl (lv_at hl 0 rfl) ?_
      refine lv_iload_n hx hb d_Jou_takeOut_71 rfl (lv_at hl 2 rfl) ?_
      obtain ⟨d_2, ed_2, hj⟩ := nm_some hj
      refine va_put (D := (dC, dI)) (ci := 4) (v := .int x2) (ty := .int) (C := "CardMessageDesk$Journal") (T := T_Jou) (N := 3) hx hb hts in_Jou ty_Jou ty_Jou_ok nm_Jou hown hK hP hD hS 9 rfl rfl 1 (by decide) (hts _ tw186) (fun _ h9 => h9) rfl (by decide +kernel) rfl rfl (Nat.le_of_ble_eq_true rfl) d_Jou_takeOut_72 (fun H locs hP hD hS => ?_)
      have hP : va_P (dC, dI) vwCl (cw ad ca LA LE d_2) H := by rw [ed_2]; exact hP
      have hD : va_D A (cw ad ca LA LE d_2) := by rw [ed_2]; exact hD
      obtain rfl := Option.some.inj hj
      exact W.vret hx hb hr (fun t ht hW => ⟨⟨_, rfl, rfl, by rw [ht]; exact hP, va_K.moved hW.alike hK, hD⟩, hS.F ht⟩) hS.2.2 d_Jou_takeOut_75
    · have hj := it_n hj c_1
      refine lv_aload_n hx hb d_Jou_takeOut_12 rfl (lv_at hl 0 rfl) ?_
      refine va_get (D := (dC, dI)) (ci := 4) (v := .ref (ad 10)) (C := "CardMessageDesk$Journal") (T := T_Jou) (N := 3) hx hb hts in_Jou hown hK hP 9 rfl rfl 0 (by decide) (hts _ tw185) (fun _ h9 => h9) rfl d_Jou_takeOut_13 ?_
      refine lv_iload_n hx hb d_Jou_takeOut_16 rfl (lv_at hl 3 rfl) ?_
      obtain ⟨hi_3, hj⟩ := gd_some hj
      refine va_aldq hx hb hK hP 10 3 rfl rfl hi_3 d_Jou_takeOut_17 ?_
      obtain ⟨a_3, ho_3, hm_a_3, hj⟩ := gq_some hj
      rw [ho_3]
      refine lv_astore (lv' := [(4, .ref a_3), (0, .ref (ad 9)), (1, .int x1), (2, .int x2), (3, .int x3)]) hx hb d_Jou_takeOut_18 hl (by decide) rfl (fun ls hl => ?_)
      refine lv_aload hx hb d_Jou_takeOut_20 (lv_at hl 0 rfl) ?_
      obtain ⟨kx_4, hkx_4⟩ := ent_at (ad := ad) (ca := ca) (LA := LA) (LE := LE) (d := _) hm_a_3
      refine va_getN (D := (dC, dI)) (ci := 3) (v := .int (ce_term (cg_ent d a_3))) (C := "CardMessageDesk$Entry") (T := T_Ent) (N := 9) hx hb hts in_Ent hown hK hP kx_4 hkx_4 rfl 1 (by decide) (nw_f hN (i := 25) rfl) (fun _ h9 => h9) rfl d_Jou_takeOut_22 ?_
      refine lv_iload_n hx hb d_Jou_takeOut_25 rfl (lv_at hl 2 rfl) ?_
      refine lv_icmp_ne (tgt := 41) hx hb d_Jou_takeOut_26 (by decide) (fun c_5 => ?_) (fun c_5 => ?_)
      · have hj := it_n hj c_5
        refine lv_aload_n hx hb d_Jou_takeOut_41 rfl (lv_at hl 1 rfl) ?_
        refine va_get (D := (dC, dI)) (ci := 4) (v := .ref (ad 10)) (C := "CardMessageDesk$Journal") (T := T_Jou) (N := 3) hx hb hts in_Jou hown hK hP 9 rfl rfl 0 (by decide) (hts _ tw185) (fun _ h9 => h9) rfl d_Jou_takeOut_42 ?_
        refine lv_iload_n hx hb d_Jou_takeOut_45 rfl (lv_at hl 4 rfl) ?_
        refine lv_aload_n hx hb d_Jou_takeOut_46 rfl (lv_at hl 1 rfl) ?_
        refine va_get (D := (dC, dI)) (ci := 4) (v := .ref (ad 10)) (C := "CardMessageDesk$Journal") (T := T_Jou) (N := 3) hx hb hts in_Jou hown hK hP 9 rfl rfl 0 (by decide) (hts _ tw185) (fun _ h9 => h9) rfl d_Jou_takeOut_47 ?_
        refine lv_iload_n hx hb d_Jou_takeOut_50 rfl (lv_at hl 3 rfl) ?_
        obtain ⟨hi_6, hj⟩ := gd_some hj
        refine va_aldq hx hb hK hP 10 3 rfl rfl hi_6 d_Jou_takeOut_51 ?_
        obtain ⟨a_6, ho_6, hm_a_6, hj⟩ := gq_some hj
        rw [ho_6]
        obtain ⟨hi_7, hj⟩ := gd_some hj
        obtain ⟨d_8, ed_8, hj⟩ := nm_some hj
        obtain ⟨kx_7, hkx_7⟩ := ent_at (ad := ad) (ca := ca) (LA := LA) (LE := LE) (d := d) hm_a_6
        refine va_astq hx hb hK hP hD hS 10 3 kx_7 3 rfl rfl hkx_7 rfl hi_7 d_Jou_takeOut_52 (fun H locs hP hD hS => ?_)
        have hP : va_P (dC, dI) vwCl (cw ad ca LA LE d_8) H := by rw [ed_8]; exact hP
        have hD : va_D A (cw ad ca LA LE d_8) := by rw [ed_8]; exact hD
        refine lv_aload_n hx hb d_Jou_takeOut_53 rfl (lv_at hl 1 rfl) ?_
        refine va_get (D := (dC, dI)) (ci := 4) (v := .ref (ad 10)) (C := "CardMessageDesk$Journal") (T := T_Jou) (N := 3) hx hb hts in_Jou hown hK hP 9 rfl rfl 0 (by decide) (hts _ tw185) (fun _ h9 => h9) rfl d_Jou_takeOut_54 ?_
        refine lv_iload_n hx hb d_Jou_takeOut_57 rfl (lv_at hl 3 rfl) ?_
        refine lv_aload hx hb d_Jou_takeOut_58 (lv_at hl 0 rfl) ?_
        obtain ⟨hi_9, hj⟩ := gd_some hj
        obtain ⟨d_10, ed_10, hj⟩ := nm_some hj
        obtain ⟨kx_9, hkx_9⟩ := ent_at (ad := ad) (ca := ca) (LA := LA) (LE := LE) (d := d_8) hm_a_3
        refine va_astq hx hb hK hP hD hS 10 3 kx_9 3 rfl rfl hkx_9 rfl hi_9 d_Jou_takeOut_60 (fun H locs hP hD hS => ?_)
        have hP : va_P (dC, dI) vwCl (cw ad ca LA LE d_10) H := by rw [ed_10]; exact hP
        have hD : va_D A (cw ad ca LA LE d_10) := by rw [ed_10]; exact hD
        refine lv_iinc (v := (x2 + 1)) (lv' := [(2, .int (x2 + 1)), (4, .ref a_3), (0, .ref (ad 9)), (1, .int x1), (3, .int x3)]) hx hb d_Jou_takeOut_61 hl (k := 3) rfl rfl (by decide) rfl (fun ls hl => ?_)
        refine lv_iinc (v := (x3 + 1)) (lv' := [(3, .int (x3 + 1)), (2, .int (x2 + 1)), (4, .ref a_3), (0, .ref (ad 9)), (1, .int x1)]) hx hb d_Jou_takeOut_64 hl (k := 4) rfl rfl (by decide) rfl (fun ls hl => ?_)
        refine lv_goto (tgt := 4) hx hb d_Jou_takeOut_67 (by decide) ?_
        exact ih d_10 (x2 + 1) (x3 + 1) H locs ls hj hP hD hS (lv_sub hl [3, 4, 1, 0] rfl)
      · have hj := it_p hj c_5
        refine lv_aload hx hb d_Jou_takeOut_29 (lv_at hl 0 rfl) ?_
        refine lv_aload_n hx hb d_Jou_takeOut_31 rfl (lv_at hl 1 rfl) ?_
        refine va_get (D := (dC, dI)) (ci := 4) (v := .long (cg_jTime d)) (C := "CardMessageDesk$Journal") (T := T_Jou) (N := 3) hx hb hts in_Jou hown hK hP 9 rfl rfl 2 (by decide) (hts _ tw188) (fun _ h9 => h9) rfl d_Jou_takeOut_32 ?_
        obtain ⟨v_11, hc_11, hj⟩ := bd_some hj
        have hF_11 := va_fr hD hS hA
        obtain ⟨kx_11, hkx_11⟩ := ent_at (ad := ad) (ca := ca) (LA := LA) (LE := LE) (d := d) hm_a_3
        refine va_calli (va_runV (As := [.long (cg_jTime d)]) (rest := []) ⟨hx, hb, hml, hown, hts⟩ (cc_Entry_isHoldAt l dC dI ad ca LA LE H.size d a_3 (cg_jTime d) hm_a_3 v_11 hc_11) (cwV 1 hts (gtV tw361 tw362 tw363 tw8 tw364) rfl rfl rfl (by decide +kernel) ⟨Nat.le_of_ble_eq_true rfl, Nat.le_of_ble_eq_true rfl⟩) ⟨cBl, va_recv hK hP (ci := 3) (q0 := kx_11) rfl hkx_11, fun U hU hW => ⟨rfl, cPr hP hK hD hN hU hW⟩⟩ rfl rfl hl.1 rfl (lv_room (Nat.le_of_ble_eq_true rfl)) d_Jou_takeOut_35 ⟨Nat.zero_le _, Nat.zero_le _⟩) hS (fun q _ h => hF_11 q h) hF_11 (fun r u t H locs ht hvm hw hB hz1 hk1 hS => ?_)
        obtain ⟨hw1, hw2⟩ := hw
        have hw1 := hw1.symm
        subst hw1
        have hw2 := hw2.symm
        subst hw2
        obtain ⟨hP, hD⟩ := cAf hB ht hF_11
        refine lv_if_eq (tgt := 64) hx hb d_Jou_takeOut_38 (by decide) (fun c_12 => ?_) (fun c_12 => ?_)
        · have hj := it_p hj c_12
          refine lv_iinc (v := (x3 + 1)) (lv' := [(3, .int (x3 + 1)), (4, .ref a_3), (0, .ref (ad 9)), (1, .int x1), (2, .int x2)]) hx hb d_Jou_takeOut_64 hl (k := 4) rfl rfl (by decide) rfl (fun ls hl => ?_)
          refine lv_goto (tgt := 4) hx hb d_Jou_takeOut_67 (by decide) ?_
          exact ih d x2 (x3 + 1) H locs ls hj hP hD hS (lv_sub hl [2, 3, 4, 0] rfl)
        · have hj := it_n hj c_12
          refine lv_aload_n hx hb d_Jou_takeOut_41 rfl (lv_at hl 1 rfl) ?_
          refine va_get (D := (dC, dI)) (ci := 4) (v := .ref (ad 10)) (C := "CardMessageDesk$Journal") (T := T_Jou) (N := 3) hx hb hts in_Jou hown hK hP 9 rfl rfl 0 (by decide) (hts _ tw185) (fun _ h9 => h9) rfl d_Jou_takeOut_42 ?_
          refine lv_iload_n hx hb d_Jou_takeOut_45 rfl (lv_at hl 4 rfl) ?_
          refine lv_aload_n hx hb d_Jou_takeOut_46 rfl (lv_at hl 1 rfl) ?_
          refine va_get (D := (dC, dI)) (ci := 4) (v := .ref (ad 10)) (C := "CardMessageDesk$Journal") (T := T_Jou) (N := 3) hx hb hts in_Jou hown hK hP 9 rfl rfl 0 (by decide) (hts _ tw185) (fun _ h9 => h9) rfl d_Jou_takeOut_47 ?_
          refine lv_iload_n hx hb d_Jou_takeOut_50 rfl (lv_at hl 3 rfl) ?_
          obtain ⟨hi_13, hj⟩ := gd_some hj
          refine va_aldq hx hb hK hP 10 3 rfl rfl hi_13 d_Jou_takeOut_51 ?_
          obtain ⟨a_13, ho_13, hm_a_13, hj⟩ := gq_some hj
          rw [ho_13]
          obtain ⟨hi_14, hj⟩ := gd_some hj
          obtain ⟨d_15, ed_15, hj⟩ := nm_some hj
          obtain ⟨kx_14, hkx_14⟩ := ent_at (ad := ad) (ca := ca) (LA := LA) (LE := LE) (d := d) hm_a_13
          refine va_astq hx hb hK hP hD hS 10 3 kx_14 3 rfl rfl hkx_14 rfl hi_14 d_Jou_takeOut_52 (fun H locs hP hD hS => ?_)
          have hP : va_P (dC, dI) vwCl (cw ad ca LA LE d_15) H := by rw [ed_15]; exact hP
          have hD : va_D A (cw ad ca LA LE d_15) := by rw [ed_15]; exact hD
          refine lv_aload_n hx hb d_Jou_takeOut_53 rfl (lv_at hl 1 rfl) ?_
          refine va_get (D := (dC, dI)) (ci := 4) (v := .ref (ad 10)) (C := "CardMessageDesk$Journal") (T := T_Jou) (N := 3) hx hb hts in_Jou hown hK hP 9 rfl rfl 0 (by decide) (hts _ tw185) (fun _ h9 => h9) rfl d_Jou_takeOut_54 ?_
          refine lv_iload_n hx hb d_Jou_takeOut_57 rfl (lv_at hl 3 rfl) ?_
          refine lv_aload hx hb d_Jou_takeOut_58 (lv_at hl 0 rfl) ?_
          obtain ⟨hi_16, hj⟩ := gd_some hj
          obtain ⟨d_17, ed_17, hj⟩ := nm_some hj
          obtain ⟨kx_16, hkx_16⟩ := ent_at (ad := ad) (ca := ca) (LA := LA) (LE := LE) (d := d_15) hm_a_3
          refine va_astq hx hb hK hP hD hS 10 3 kx_16 3 rfl rfl hkx_16 rfl hi_16 d_Jou_takeOut_60 (fun H locs hP hD hS => ?_)
          have hP : va_P (dC, dI) vwCl (cw ad ca LA LE d_17) H := by rw [ed_17]; exact hP
          have hD : va_D A (cw ad ca LA LE d_17) := by rw [ed_17]; exact hD
          refine lv_iinc (v := (x2 + 1)) (lv' := [(2, .int (x2 + 1)), (4, .ref a_3), (0, .ref (ad 9)), (1, .int x1), (3, .int x3)]) hx hb d_Jou_takeOut_61 hl (k := 3) rfl rfl (by decide) rfl (fun ls hl => ?_)
          refine lv_iinc (v := (x3 + 1)) (lv' := [(3, .int (x3 + 1)), (2, .int (x2 + 1)), (4, .ref a_3), (0, .ref (ad 9)), (1, .int x1)]) hx hb d_Jou_takeOut_64 hl (k := 4) rfl rfl (by decide) rfl (fun ls hl => ?_)
          refine lv_goto (tgt := 4) hx hb d_Jou_takeOut_67 (by decide) ?_
          exact ih d_17 (x2 + 1) (x3 + 1) H locs ls hj hP hD hS (lv_sub hl [3, 4, 1, 0] rfl)
set_option maxHeartbeats 4000000 in
set_option maxRecDepth 100000 in
theorem cc_Journal_takeOut (l : Launch) (dC : Nat → ClassId) (dI : Nat → Nat → Nat) (ad : Nat → Nat) (ca : Nat → ClassId) (LA LE : List Nat) (sz : Nat) (d : CS) (p1 : Int32)  (d9 : CS) (hj : jc_Journal_takeOut LA LE d p1 = some d9) : Met l y_Jou_takeOut w_Jou_takeOut ({ frames := 1, cells := 0, slots := 0, locals := 22 }) (va_Pc [.ref (ad 9), .int p1] (cPre dC dI ad ca LA LE sz d)) (va_Qv (fun u : CS => u = d9) (cAt dC dI ad ca LA LE (va_A (cw ad ca LA LE d) sz)) (va_A (cw ad ca LA LE d) sz)) 0 0 (va_A (cw ad ca LA LE d) sz) := by
  refine Met.ofW (cc := prog_6_method_9_code) (maxL := 5) (ret := none) (by decide) rfl ?_
  intro p e s m args below meth c s₁ B hml hv
  obtain ⟨rfl, hsz, hP, hK, hD0, hN⟩ := hv
  have hx := B.exec
  have hb := B.bytes
  have hr := B.returns
  have hts0 := atoms_spec (ws := w_Jou_takeOut) B.pre
  have hts : ∀ w ∈ gt, w.before _ s = true := fun w h => hts0 w (List.mem_cons_of_mem _ h)
  have hown : s.vm.findClass "CardMessageDesk$Journal" = some m.cls := findClass_of_methodNamed B.named
  have hlocks := B.notSynchronized
  subst hsz
  have hD := hD0.self (sz := s.heap.size)
  generalize hAe : va_A (cw ad ca LA LE d) s.heap.size = A at hD ⊢
  have hA : ∀ q : Nat, s.heap.size ≤ q → A q := fun q h => by rw [← hAe]; exact Or.inr h
  have hS : va_S A s.heap s.heap [] := va_S.rf
  have hl := lv_entry ([.ref (ad 9), .int p1]) (n := 5) (Nat.le_of_ble_eq_true rfl)
  rw [lg_entry_eq]
  generalize (lg_sl ([.ref (ad 9), .int p1]) ++ List.replicate (5 - (lg_sl ([.ref (ad 9), .int p1])).length) Slot.unset).toArray = ls at hl ⊢
  have hl : lv_has ls 5 [(0, .ref (ad 9)), (1, .int p1)] := hl
  unfold jc_Journal_takeOut at hj
  refine lv_iconst (v := 0) hx hb d_Jou_takeOut_0 (by decide) ?_
  refine lv_istore_n (lv' := [(2, .int (0 : Int32)), (0, .ref (ad 9)), (1, .int p1)]) hx hb d_Jou_takeOut_1 rfl hl (by decide) rfl (fun ls hl => ?_)
  refine lv_iconst (v := 0) hx hb d_Jou_takeOut_2 (by decide) ?_
  refine lv_istore_n (lv' := [(3, .int (0 : Int32)), (2, .int (0 : Int32)), (0, .ref (ad 9)), (1, .int p1)]) hx hb d_Jou_takeOut_3 rfl hl (by decide) rfl (fun ls hl => ?_)
  exact cc_Journal_takeOut_L4  p1 _ hx hb hr hlocks hml hown hts hN hA hK 200 d (0 : Int32) (0 : Int32) _ _ ls hj hP hD hS (lv_sub hl [2, 3, 1, 0] rfl)
set_option maxHeartbeats 4000000 in
set_option maxRecDepth 100000 in
theorem cc_D_settle (l : Launch) (dC : Nat → ClassId) (dI : Nat → Nat → Nat) (ad : Nat → Nat) (ca : Nat → ClassId) (LA LE : List Nat) (sz : Nat) (d : CS)   (r9 : Int32) (d9 : CS) (hj : jc_D_settle LA LE d = some (r9, d9)) : Met l y_Dsk_settle w_Dsk_settle ({ frames := 3, cells := 0, slots := 0, locals := 64 }) (va_Pc [.ref (ad 0)] (cPre dC dI ad ca LA LE sz d)) (va_Qi (fun (r : Int32) (u : CS) => r = r9 ∧ u = d9) (cAt dC dI ad ca LA LE (va_A (cw ad ca LA LE d) sz)) (va_A (cw ad ca LA LE d) sz)) 0 0 (va_A (cw ad ca LA LE d) sz) := by
  refine Met.ofW (cc := prog_1_method_24_code) (maxL := 1) (ret := (some .int)) (by decide) rfl ?_
  intro p e s m args below meth c s₁ B hml hv
  obtain ⟨rfl, hsz, hP, hK, hD0, hN⟩ := hv
  have hx := B.exec
  have hb := B.bytes
  have hr := B.returns
  have hts0 := atoms_spec (ws := w_Dsk_settle) B.pre
  have hts : ∀ w ∈ gt, w.before _ s = true := fun w h => hts0 w (List.mem_cons_of_mem _ h)
  have hown : s.vm.findClass "CardMessageDesk" = some m.cls := findClass_of_methodNamed B.named
  have hlocks := B.notSynchronized
  subst hsz
  have hD := hD0.self (sz := s.heap.size)
  generalize hAe : va_A (cw ad ca LA LE d) s.heap.size = A at hD ⊢
  have hA : ∀ q : Nat, s.heap.size ≤ q → A q := fun q h => by rw [← hAe]; exact Or.inr h
  have hS : va_S A s.heap s.heap [] := va_S.rf
  have hl := lv_entry ([.ref (ad 0)]) (n := 1) (Nat.le_of_ble_eq_true rfl)
  rw [lg_entry_eq]
  generalize (lg_sl ([.ref (ad 0)]) ++ List.replicate (1 - (lg_sl ([.ref (ad 0)])).length) Slot.unset).toArray = ls at hl ⊢
  have hl : lv_has ls 1 [(0, .ref (ad 0))] := hl
  unfold jc_D_settle at hj
  refine lv_aload_n hx hb d_Dsk_settle_0 rfl (lv_at hl 0 rfl) ?_
  refine lv_aload_n hx hb d_Dsk_settle_1 rfl (lv_at hl 0 rfl) ?_
  refine va_get (D := (dC, dI)) (ci := 7) (v := .ref (ad 9)) (C := "CardMessageDesk") (T := T_Dsk) (N := 7) hx hb hts in_Dsk hown hK hP 0 rfl rfl 4 (by decide) (hts _ tw201) (fun _ h9 => h9) rfl d_Dsk_settle_2 ?_
  refine lv_aload_n hx hb d_Dsk_settle_5 rfl (lv_at hl 0 rfl) ?_
  refine va_get (D := (dC, dI)) (ci := 7) (v := .ref (ad 5)) (C := "CardMessageDesk") (T := T_Dsk) (N := 7) hx hb hts in_Dsk hown hK hP 0 rfl rfl 2 (by decide) (hts _ tw199) (fun _ h9 => h9) rfl d_Dsk_settle_6 ?_
  refine va_getN (D := (dC, dI)) (ci := 6) (v := .int (cg_rqTerm d)) (C := "CardMessageDesk$Request") (T := T_Req) (N := 10) hx hb hts in_Req hown hK hP 5 rfl rfl 7 (by decide) (nw_f hN (i := 15) rfl) (fun _ h9 => h9) rfl d_Dsk_settle_9 ?_
  obtain ⟨v_1, hc_1, hj⟩ := bd_some hj
  have hF_1 := va_fr hD hS hA
  refine va_calll (va_runV (As := [.int (cg_rqTerm d)]) (rest := [.ref (ad 0)]) ⟨hx, hb, hml, hown, hts⟩ (cc_Journal_netOf l dC dI ad ca LA LE s.heap.size d (cg_rqTerm d)  v_1 hc_1) (cwV 1 hts (gtV tw345 tw346 tw347 tw7 tw348) rfl rfl rfl (by decide +kernel) ⟨Nat.le_of_ble_eq_true rfl, Nat.le_of_ble_eq_true rfl⟩) ⟨cBl, va_recv hK hP (ci := 4) (q0 := 9) rfl rfl, fun U hU hW => ⟨rfl, cPr hP hK hD hN hU hW⟩⟩ rfl rfl hl.1 rfl (lv_room (Nat.le_of_ble_eq_true rfl)) d_Dsk_settle_12 ⟨Nat.zero_le _, Nat.zero_le _⟩) hS (fun q _ h => hF_1 q h) hF_1 (fun r u t H locs ht hvm hw hB hz1 hk1 hS => ?_)
  obtain ⟨hw1, hw2⟩ := hw
  have hw1 := hw1.symm
  subst hw1
  have hw2 := hw2.symm
  subst hw2
  obtain ⟨hP, hD⟩ := cAf hB ht hF_1
  obtain ⟨d_2, ed_2, hj⟩ := nm_some hj
  refine va_put (D := (dC, dI)) (ci := 7) (v := .long v_1) (ty := .long) (C := "CardMessageDesk") (T := T_Dsk) (N := 7) hx hb hts in_Dsk ty_Dsk ty_Dsk_ok nm_Dsk hown hK hP hD hS 0 rfl rfl 6 (by decide) (hts _ tw203) (fun _ h9 => h9) rfl (by decide +kernel) rfl rfl (Nat.le_of_ble_eq_true rfl) d_Dsk_settle_15 (fun H locs hP hD hS => ?_)
  have hP : va_P (dC, dI) vwCl (cw ad ca LA LE d_2) H := by rw [ed_2]; exact hP
  have hD : va_D A (cw ad ca LA LE d_2) := by rw [ed_2]; exact hD
  refine lv_aload_n hx hb d_Dsk_settle_18 rfl (lv_at hl 0 rfl) ?_
  refine lv_dup hx hb d_Dsk_settle_19 rfl ?_
  refine va_get (D := (dC, dI)) (ci := 7) (v := .long (cg_setSum d_2)) (C := "CardMessageDesk") (T := T_Dsk) (N := 7) hx hb hts in_Dsk hown hK hP 0 rfl rfl 5 (by decide) (hts _ tw202) (fun _ h9 => h9) rfl d_Dsk_settle_20 ?_
  refine lv_aload_n hx hb d_Dsk_settle_23 rfl (lv_at hl 0 rfl) ?_
  refine va_get (D := (dC, dI)) (ci := 7) (v := .long (cg_setNow d_2)) (C := "CardMessageDesk") (T := T_Dsk) (N := 7) hx hb hts in_Dsk hown hK hP 0 rfl rfl 6 (by decide) (hts _ tw203) (fun _ h9 => h9) rfl d_Dsk_settle_24 ?_
  refine lv_ladd hx hb d_Dsk_settle_27 ?_
  obtain ⟨d_3, ed_3, hj⟩ := nm_some hj
  refine va_put (D := (dC, dI)) (ci := 7) (v := .long ((cg_setSum d_2) + (cg_setNow d_2))) (ty := .long) (C := "CardMessageDesk") (T := T_Dsk) (N := 7) hx hb hts in_Dsk ty_Dsk ty_Dsk_ok nm_Dsk hown hK hP hD hS 0 rfl rfl 5 (by decide) (hts _ tw202) (fun _ h9 => h9) rfl (by decide +kernel) rfl rfl (Nat.le_of_ble_eq_true rfl) d_Dsk_settle_28 (fun H locs hP hD hS => ?_)
  have hP : va_P (dC, dI) vwCl (cw ad ca LA LE d_3) H := by rw [ed_3]; exact hP
  have hD : va_D A (cw ad ca LA LE d_3) := by rw [ed_3]; exact hD
  refine lv_aload_n hx hb d_Dsk_settle_31 rfl (lv_at hl 0 rfl) ?_
  refine va_get (D := (dC, dI)) (ci := 7) (v := .ref (ad 9)) (C := "CardMessageDesk") (T := T_Dsk) (N := 7) hx hb hts in_Dsk hown hK hP 0 rfl rfl 4 (by decide) (hts _ tw201) (fun _ h9 => h9) rfl d_Dsk_settle_32 ?_
  refine lv_aload_n hx hb d_Dsk_settle_35 rfl (lv_at hl 0 rfl) ?_
  refine va_get (D := (dC, dI)) (ci := 7) (v := .ref (ad 5)) (C := "CardMessageDesk") (T := T_Dsk) (N := 7) hx hb hts in_Dsk hown hK hP 0 rfl rfl 2 (by decide) (hts _ tw199) (fun _ h9 => h9) rfl d_Dsk_settle_36 ?_
  refine va_getN (D := (dC, dI)) (ci := 6) (v := .int (cg_rqTerm d_3)) (C := "CardMessageDesk$Request") (T := T_Req) (N := 10) hx hb hts in_Req hown hK hP 5 rfl rfl 7 (by decide) (nw_f hN (i := 15) rfl) (fun _ h9 => h9) rfl d_Dsk_settle_39 ?_
  obtain ⟨d_4, hc_4, hj⟩ := bd_some hj
  have hF_4 := va_fr hD hS hA
  refine va_callv (va_runV (As := [.int (cg_rqTerm d_3)]) (rest := []) ⟨hx, hb, hml, hown, hts⟩ (cc_Journal_takeOut l dC dI ad ca LA LE H.size d_3 (cg_rqTerm d_3)  d_4 hc_4) (cwV 1 hts (gtV tw357 tw358 tw359 tw7 tw360) rfl rfl rfl (by decide +kernel) ⟨Nat.le_of_ble_eq_true rfl, Nat.le_of_ble_eq_true rfl⟩) ⟨cBl, va_recv hK hP (ci := 4) (q0 := 9) rfl rfl, fun U hU hW => ⟨rfl, cPr hP hK hD hN hU hW⟩⟩ rfl rfl hl.1 rfl (lv_room (Nat.le_of_ble_eq_true rfl)) d_Dsk_settle_42 ⟨Nat.zero_le _, Nat.zero_le _⟩) hS (fun q _ h => hF_4 q h) hF_4 (fun u t H locs ht hvm hw hB hz1 hk1 hS => ?_)
  have hw := hw.symm
  subst hw
  obtain ⟨hP, hD⟩ := cAf hB ht hF_4
  refine lv_iconst (v := 0) hx hb d_Dsk_settle_45 (by decide) ?_
  obtain ⟨rfl, rfl⟩ := rt_some hj
  exact W.iret hx hb hr (fun t ht hW => ⟨⟨_, _, rfl, ⟨rfl, rfl⟩, by rw [ht]; exact hP, va_K.moved hW.alike hK, hD⟩, hS.F ht⟩) hS.2.2 d_Dsk_settle_46
set_option maxHeartbeats 4000000 in
set_option maxRecDepth 100000 in
theorem cc_D_decide (l : Launch) (dC : Nat → ClassId) (dI : Nat → Nat → Nat) (ad : Nat → Nat) (ca : Nat → ClassId) (LA LE : List Nat) (sz : Nat) (d : CS)   (r9 : Int32) (d9 : CS) (hj : jc_D_decide LA LE d = some (r9, d9)) : Met l y_Dsk_decide w_Dsk_decide ({ frames := 4, cells := 0, slots := 0, locals := 89 }) (va_Pc [.ref (ad 0)] (cPre dC dI ad ca LA LE sz d)) (va_Qi (fun (r : Int32) (u : CS) => r = r9 ∧ u = d9) (cAt dC dI ad ca LA LE (va_A (cw ad ca LA LE d) sz)) (va_A (cw ad ca LA LE d) sz)) 0 0 (va_A (cw ad ca LA LE d) sz) := by
  refine Met.ofW (cc := prog_1_method_17_code) (maxL := 2) (ret := (some .int)) (by decide) rfl ?_
  intro p e s m args below meth c s₁ B hml hv
  obtain ⟨rfl, hsz, hP, hK, hD0, hN⟩ := hv
  have hx := B.exec
  have hb := B.bytes
  have hr := B.returns
  have hts0 := atoms_spec (ws := w_Dsk_decide) B.pre
  have hts : ∀ w ∈ gt, w.before _ s = true := fun w h => hts0 w (List.mem_cons_of_mem _ h)
  have hown : s.vm.findClass "CardMessageDesk" = some m.cls := findClass_of_methodNamed B.named
  have hlocks := B.notSynchronized
  subst hsz
  have hD := hD0.self (sz := s.heap.size)
  generalize hAe : va_A (cw ad ca LA LE d) s.heap.size = A at hD ⊢
  have hA : ∀ q : Nat, s.heap.size ≤ q → A q := fun q h => by rw [← hAe]; exact Or.inr h
  have hS : va_S A s.heap s.heap [] := va_S.rf
  have hl := lv_entry ([.ref (ad 0)]) (n := 2) (Nat.le_of_ble_eq_true rfl)
  rw [lg_entry_eq]
  generalize (lg_sl ([.ref (ad 0)]) ++ List.replicate (2 - (lg_sl ([.ref (ad 0)])).length) Slot.unset).toArray = ls at hl ⊢
  have hl : lv_has ls 2 [(0, .ref (ad 0))] := hl
  unfold jc_D_decide at hj
  refine lv_aload_n hx hb d_Dsk_decide_0 rfl (lv_at hl 0 rfl) ?_
  refine va_get (D := (dC, dI)) (ci := 7) (v := .ref (ad 5)) (C := "CardMessageDesk") (T := T_Dsk) (N := 7) hx hb hts in_Dsk hown hK hP 0 rfl rfl 2 (by decide) (hts _ tw199) (fun _ h9 => h9) rfl d_Dsk_decide_1 ?_
  refine va_getN (D := (dC, dI)) (ci := 6) (v := .int (cg_rqType d)) (C := "CardMessageDesk$Request") (T := T_Req) (N := 10) hx hb hts in_Req hown hK hP 5 rfl rfl 1 (by decide) (nw_f hN (i := 5) rfl) (fun _ h9 => h9) rfl d_Dsk_decide_4 ?_
  refine lv_sipush (v := 500) hx hb d_Dsk_decide_7 (by decide) ?_
  refine lv_icmp_ne (tgt := 18) hx hb d_Dsk_decide_10 (by decide) (fun c_1 => ?_) (fun c_1 => ?_)
  · have hj := it_n hj c_1
    refine lv_aload_n hx hb d_Dsk_decide_18 rfl (lv_at hl 0 rfl) ?_
    refine va_get (D := (dC, dI)) (ci := 7) (v := .ref (ad 7)) (C := "CardMessageDesk") (T := T_Dsk) (N := 7) hx hb hts in_Dsk hown hK hP 0 rfl rfl 3 (by decide) (hts _ tw200) (fun _ h9 => h9) rfl d_Dsk_decide_19 ?_
    refine lv_aload_n hx hb d_Dsk_decide_22 rfl (lv_at hl 0 rfl) ?_
    refine va_get (D := (dC, dI)) (ci := 7) (v := .ref (ad 5)) (C := "CardMessageDesk") (T := T_Dsk) (N := 7) hx hb hts in_Dsk hown hK hP 0 rfl rfl 2 (by decide) (hts _ tw199) (fun _ h9 => h9) rfl d_Dsk_decide_23 ?_
    refine va_getN (D := (dC, dI)) (ci := 6) (v := .long (cg_rqCard d)) (C := "CardMessageDesk$Request") (T := T_Req) (N := 10) hx hb hts in_Req hown hK hP 5 rfl rfl 3 (by decide) (nw_f hN (i := 8) rfl) (fun _ h9 => h9) rfl d_Dsk_decide_26 ?_
    obtain ⟨v_2, hc_2, hj⟩ := bd_some hj
    have hF_2 := va_fr hD hS hA
    refine va_callq (va_runV (As := [.long (cg_rqCard d)]) (rest := []) ⟨hx, hb, hml, hown, hts⟩ (cc_Cards_find l dC dI ad ca LA LE s.heap.size d (cg_rqCard d)  v_2 hc_2) (cwV 1 hts (gtV tw366 tw230 tw231 tw5 tw232) rfl rfl rfl (by decide +kernel) ⟨Nat.le_of_ble_eq_true rfl, Nat.le_of_ble_eq_true rfl⟩) ⟨cBl, va_recv hK hP (ci := 2) (q0 := 7) rfl rfl, fun U hU hW => ⟨rfl, cPr hP hK hD hN hU hW⟩⟩ rfl rfl hl.1 rfl (lv_room (Nat.le_of_ble_eq_true rfl)) d_Dsk_decide_29 ⟨Nat.zero_le _, Nat.zero_le _⟩) hS (fun q _ h => hF_2 q h) hF_2 (fun r u t H locs ht hvm hw hB hz1 hk1 hS => ?_)
    obtain ⟨hw1, hw2⟩ := hw
    have hw1 := hw1.symm
    subst hw1
    have hw2 := hw2.symm
    subst hw2
    obtain ⟨hP, hD⟩ := cAf hB ht hF_2
    rcases oq_some hj with ⟨ho_2, hj⟩ | ⟨a_2, ho_2, hm_a_2, hj⟩
    · rw [ho_2]
      refine lv_astore_nN (lv' := [(1, .null), (0, .ref (ad 0))]) hx hb d_Dsk_decide_32 rfl hl (by decide) rfl (fun ls hl => ?_)
      refine lv_aload_nN hx hb d_Dsk_decide_33 rfl (lv_at hl 0 rfl) ?_
      refine lv_ifnonnullN hx hb d_Dsk_decide_34 ?_
      refine lv_bipush (v := 14) hx hb d_Dsk_decide_37 (by decide) ?_
      obtain ⟨rfl, rfl⟩ := rt_some hj
      exact W.iret hx hb hr (fun t ht hW => ⟨⟨_, _, rfl, ⟨rfl, rfl⟩, by rw [ht]; exact hP, va_K.moved hW.alike hK, hD⟩, hS.F ht⟩) hS.2.2 d_Dsk_decide_39
    · rw [ho_2]
      refine lv_astore_n (lv' := [(1, .ref a_2), (0, .ref (ad 0))]) hx hb d_Dsk_decide_32 rfl hl (by decide) rfl (fun ls hl => ?_)
      refine lv_aload_n hx hb d_Dsk_decide_33 rfl (lv_at hl 0 rfl) ?_
      refine lv_ifnonnull (tgt := 40) hx hb d_Dsk_decide_34 (by decide) ?_
      refine lv_aload_n hx hb d_Dsk_decide_40 rfl (lv_at hl 1 rfl) ?_
      refine va_get (D := (dC, dI)) (ci := 7) (v := .ref (ad 5)) (C := "CardMessageDesk") (T := T_Dsk) (N := 7) hx hb hts in_Dsk hown hK hP 0 rfl rfl 2 (by decide) (hts _ tw199) (fun _ h9 => h9) rfl d_Dsk_decide_41 ?_
      refine va_getN (D := (dC, dI)) (ci := 6) (v := .int (cg_rqType d)) (C := "CardMessageDesk$Request") (T := T_Req) (N := 10) hx hb hts in_Req hown hK hP 5 rfl rfl 1 (by decide) (nw_f hN (i := 5) rfl) (fun _ h9 => h9) rfl d_Dsk_decide_44 ?_
      by_cases c_3 : (cg_rqType d) = 100
      · have hj := it_p hj c_3
        refine lv_lookup (tgt := 72) (off := 25) hx hb d_Dsk_decide_47 (by decide) (by rw [c_3]; first | done | rfl | decide) (by decide) ?_
        refine lv_aload_n hx hb d_Dsk_decide_72 rfl (lv_at hl 1 rfl) ?_
        refine lv_aload_n hx hb d_Dsk_decide_73 rfl (lv_at hl 0 rfl) ?_
        obtain ⟨v_4, hc_4, hj⟩ := bd_some hj
        have hF_4 := va_fr hD hS hA
        refine va_calli (va_runV (As := [.ref a_2]) (rest := []) ⟨hx, hb, hml, hown, hts⟩ (cc_D_decideHold l dC dI ad ca LA LE H.size d a_2 hm_a_2 v_4 hc_4) (cwV 1 hts (gtV tw367 tw369 ts6 tw1 tw370) rfl rfl rfl (by decide +kernel) ⟨Nat.le_of_ble_eq_true rfl, Nat.le_of_ble_eq_true rfl⟩) ⟨cBl, va_recv hK hP (ci := 7) (q0 := 0) rfl rfl, fun U hU hW => ⟨rfl, cPr hP hK hD hN hU hW⟩⟩ rfl rfl hl.1 rfl (lv_room (Nat.le_of_ble_eq_true rfl)) d_Dsk_decide_74 ⟨Nat.zero_le _, Nat.zero_le _⟩) hS (fun q _ h => hF_4 q h) hF_4 (fun r u t H locs ht hvm hw hB hz1 hk1 hS => ?_)
        obtain ⟨hw1, hw2⟩ := hw
        have hw1 := hw1.symm
        subst hw1
        have hw2 := hw2.symm
        subst hw2
        obtain ⟨hP, hD⟩ := cAf hB ht hF_4
        obtain ⟨rfl, rfl⟩ := rt_some hj
        exact W.iret hx hb hr (fun t ht hW => ⟨⟨_, _, rfl, ⟨rfl, rfl⟩, by rw [ht]; exact hP, va_K.moved hW.alike hK, hD⟩, hS.F ht⟩) hS.2.2 d_Dsk_decide_77
      · have hj := it_n hj c_3
        by_cases c_5 : (cg_rqType d) = 200
        · have hj := it_p hj c_5
          refine lv_lookup (tgt := 78) (off := 31) hx hb d_Dsk_decide_47 (by decide) (by rw [c_5]; first | done | rfl | decide) (by decide) ?_
          refine lv_aload_n hx hb d_Dsk_decide_78 rfl (lv_at hl 1 rfl) ?_
          refine lv_aload_n hx hb d_Dsk_decide_79 rfl (lv_at hl 0 rfl) ?_
          obtain ⟨p_6, hc_6, hj⟩ := bd_some hj
          have hF_6 := va_fr hD hS hA
          refine va_calli (va_runV (As := [.ref a_2]) (rest := []) ⟨hx, hb, hml, hown, hts⟩ (cc_D_decideMoney l dC dI ad ca LA LE H.size d a_2 hm_a_2 p_6.1 p_6.2 hc_6) (cwV 1 hts (gtV tw379 tw381 ts7 tw1 tw382) rfl rfl rfl (by decide +kernel) ⟨Nat.le_of_ble_eq_true rfl, Nat.le_of_ble_eq_true rfl⟩) ⟨cBl, va_recv hK hP (ci := 7) (q0 := 0) rfl rfl, fun U hU hW => ⟨rfl, cPr hP hK hD hN hU hW⟩⟩ rfl rfl hl.1 rfl (lv_room (Nat.le_of_ble_eq_true rfl)) d_Dsk_decide_80 ⟨Nat.zero_le _, Nat.zero_le _⟩) hS (fun q _ h => hF_6 q h) hF_6 (fun r u t H locs ht hvm hw hB hz1 hk1 hS => ?_)
          obtain ⟨hw1, hw2⟩ := hw
          have hw1 := hw1.symm
          subst hw1
          have hw2 := hw2.symm
          subst hw2
          obtain ⟨hP, hD⟩ := cAf hB ht hF_6
          obtain ⟨rfl, rfl⟩ := rt_some hj
          exact W.iret hx hb hr (fun t ht hW => ⟨⟨_, _, rfl, ⟨rfl, rfl⟩, by rw [ht]; exact hP, va_K.moved hW.alike hK, hD⟩, hS.F ht⟩) hS.2.2 d_Dsk_decide_83
        · have hj := it_n hj c_5
          refine lv_lookup (tgt := 84) (off := 37) hx hb d_Dsk_decide_47 (by decide) (by rw [lv_osw c_3 (by decide), lv_osw c_5 (by decide)]; first | done | rfl | decide) (by decide) ?_
          refine lv_aload_n hx hb d_Dsk_decide_84 rfl (lv_at hl 1 rfl) ?_
          refine lv_aload_n hx hb d_Dsk_decide_85 rfl (lv_at hl 0 rfl) ?_
          obtain ⟨p_7, hc_7, hj⟩ := bd_some hj
          have hF_7 := va_fr hD hS hA
          refine va_calli (va_runV (As := [.ref a_2]) (rest := []) ⟨hx, hb, hml, hown, hts⟩ (cc_D_reverse l dC dI ad ca LA LE H.size d a_2 hm_a_2 p_7.1 p_7.2 hc_7) (cwV 1 hts (gtV tw405 tw407 ts11 tw1 tw408) rfl rfl rfl (by decide +kernel) ⟨Nat.le_of_ble_eq_true rfl, Nat.le_of_ble_eq_true rfl⟩) ⟨cBl, va_recv hK hP (ci := 7) (q0 := 0) rfl rfl, fun U hU hW => ⟨rfl, cPr hP hK hD hN hU hW⟩⟩ rfl rfl hl.1 rfl (lv_room (Nat.le_of_ble_eq_true rfl)) d_Dsk_decide_86 ⟨Nat.zero_le _, Nat.zero_le _⟩) hS (fun q _ h => hF_7 q h) hF_7 (fun r u t H locs ht hvm hw hB hz1 hk1 hS => ?_)
          obtain ⟨hw1, hw2⟩ := hw
          have hw1 := hw1.symm
          subst hw1
          have hw2 := hw2.symm
          subst hw2
          obtain ⟨hP, hD⟩ := cAf hB ht hF_7
          obtain ⟨rfl, rfl⟩ := rt_some hj
          exact W.iret hx hb hr (fun t ht hW => ⟨⟨_, _, rfl, ⟨rfl, rfl⟩, by rw [ht]; exact hP, va_K.moved hW.alike hK, hD⟩, hS.F ht⟩) hS.2.2 d_Dsk_decide_89
  · have hj := it_p hj c_1
    refine lv_aload_n hx hb d_Dsk_decide_13 rfl (lv_at hl 0 rfl) ?_
    obtain ⟨p_8, hc_8, hj⟩ := bd_some hj
    have hF_8 := va_fr hD hS hA
    refine va_calli (va_runV (As := []) (rest := []) ⟨hx, hb, hml, hown, hts⟩ (cc_D_settle l dC dI ad ca LA LE s.heap.size d   p_8.1 p_8.2 hc_8) (cwV 0 hts (gtV tw341 tw343 ts5 tw1 tw344) rfl rfl rfl (by decide +kernel) ⟨Nat.le_of_ble_eq_true rfl, Nat.le_of_ble_eq_true rfl⟩) ⟨cBl, va_recv hK hP (ci := 7) (q0 := 0) rfl rfl, fun U hU hW => ⟨rfl, cPr hP hK hD hN hU hW⟩⟩ rfl rfl hl.1 rfl (lv_room (Nat.le_of_ble_eq_true rfl)) d_Dsk_decide_14 ⟨Nat.zero_le _, Nat.zero_le _⟩) hS (fun q _ h => hF_8 q h) hF_8 (fun r u t H locs ht hvm hw hB hz1 hk1 hS => ?_)
    obtain ⟨hw1, hw2⟩ := hw
    have hw1 := hw1.symm
    subst hw1
    have hw2 := hw2.symm
    subst hw2
    obtain ⟨hP, hD⟩ := cAf hB ht hF_8
    obtain ⟨rfl, rfl⟩ := rt_some hj
    exact W.iret hx hb hr (fun t ht hW => ⟨⟨_, _, rfl, ⟨rfl, rfl⟩, by rw [ht]; exact hP, va_K.moved hW.alike hK, hD⟩, hS.F ht⟩) hS.2.2 d_Dsk_decide_17
set_option maxHeartbeats 4000000 in
set_option maxRecDepth 100000 in
theorem cc_Entry_fill (l : Launch) (dC : Nat → ClassId) (dI : Nat → Nat → Nat) (ad : Nat → Nat) (ca : Nat → ClassId) (LA LE : List Nat) (sz : Nat) (d : CS) (a0 : Nat) (p2 : Int32) (p3 : Int64) (hm_a0 : a0 ∈ LE) (d9 : CS) (hj : jc_Entry_fill LA LE d a0 p2 p3 = some d9) : Met l y_Ent_fill w_Ent_fill ({ frames := 1, cells := 0, slots := 0, locals := 20 }) (va_Pc [.ref a0, .ref (ad 5), .int p2, .long p3] (cPre dC dI ad ca LA LE sz d)) (va_Qv (fun u : CS => u = d9) (cAt dC dI ad ca LA LE (va_A (cw ad ca LA LE d) sz)) (va_A (cw ad ca LA LE d) sz)) 0 0 (va_A (cw ad ca LA LE d) sz) := by
  refine Met.ofW (cc := prog_5_method_2_code) (maxL := 5) (ret := none) (by decide) rfl ?_
  intro p e s m args below meth c s₁ B hml hv
  obtain ⟨rfl, hsz, hP, hK, hD0, hN⟩ := hv
  have hx := B.exec
  have hb := B.bytes
  have hr := B.returns
  have hts0 := atoms_spec (ws := w_Ent_fill) B.pre
  have hts : ∀ w ∈ gt, w.before _ s = true := fun w h => hts0 w (List.mem_cons_of_mem _ h)
  have hown : s.vm.findClass "CardMessageDesk$Entry" = some m.cls := findClass_of_methodNamed B.named
  have hlocks := B.notSynchronized
  subst hsz
  have hD := hD0.self (sz := s.heap.size)
  generalize hAe : va_A (cw ad ca LA LE d) s.heap.size = A at hD ⊢
  have hA : ∀ q : Nat, s.heap.size ≤ q → A q := fun q h => by rw [← hAe]; exact Or.inr h
  have hS : va_S A s.heap s.heap [] := va_S.rf
  have hl := lv_entry ([.ref a0, .ref (ad 5), .int p2, .long p3]) (n := 5) (Nat.le_of_ble_eq_true rfl)
  rw [lg_entry_eq]
  generalize (lg_sl ([.ref a0, .ref (ad 5), .int p2, .long p3]) ++ List.replicate (5 - (lg_sl ([.ref a0, .ref (ad 5), .int p2, .long p3])).length) Slot.unset).toArray = ls at hl ⊢
  have hl : lv_has ls 5 [(0, .ref a0), (1, .ref (ad 5)), (2, .int p2), (3, .long p3)] := hl
  unfold jc_Entry_fill at hj
  refine lv_aload_n hx hb d_Ent_fill_0 rfl (lv_at hl 0 rfl) ?_
  refine lv_aload_n hx hb d_Ent_fill_1 rfl (lv_at hl 1 rfl) ?_
  refine va_getN (D := (dC, dI)) (ci := 6) (v := .int (cg_rqType d)) (C := "CardMessageDesk$Request") (T := T_Req) (N := 10) hx hb hts in_Req hown hK hP 5 rfl rfl 1 (by decide) (nw_f hN (i := 3) rfl) (fun _ h9 => h9) rfl d_Ent_fill_2 ?_
  obtain ⟨kx_1, hkx_1⟩ := ent_at (ad := ad) (ca := ca) (LA := LA) (LE := LE) (d := _) hm_a0
  have eW_1 := ent_put_type (ad := ad) (ca := ca) (LA := LA) (LE := LE) (d := d) (v := (cg_rqType d)) hD hm_a0 hkx_1
  obtain ⟨d_2, ed_2, hj⟩ := nm_some hj
  refine va_put (D := (dC, dI)) (ci := 3) (v := .int (cg_rqType d)) (ty := .int) (C := "CardMessageDesk$Entry") (T := T_Ent) (N := 9) hx hb hts in_Ent ty_Ent ty_Ent_ok nm_Ent hown hK hP hD hS kx_1 hkx_1 rfl 0 (by decide) (hts _ tw147) (fun _ h9 => h9) rfl (by decide +kernel) rfl rfl (Nat.le_of_ble_eq_true rfl) d_Ent_fill_5 (fun H locs hP hD hS => ?_)
  have hP : va_P (dC, dI) vwCl (cw ad ca LA LE d_2) H := by rw [ed_2, ← eW_1]; exact hP
  have hD : va_D A (cw ad ca LA LE d_2) := by rw [ed_2, ← eW_1]; exact hD
  refine lv_aload_n hx hb d_Ent_fill_8 rfl (lv_at hl 0 rfl) ?_
  refine lv_aload_n hx hb d_Ent_fill_9 rfl (lv_at hl 1 rfl) ?_
  refine va_getN (D := (dC, dI)) (ci := 6) (v := .int (cg_rqTerm d_2)) (C := "CardMessageDesk$Request") (T := T_Req) (N := 10) hx hb hts in_Req hown hK hP 5 rfl rfl 7 (by decide) (nw_f hN (i := 13) rfl) (fun _ h9 => h9) rfl d_Ent_fill_10 ?_
  obtain ⟨kx_3, hkx_3⟩ := ent_at (ad := ad) (ca := ca) (LA := LA) (LE := LE) (d := _) hm_a0
  have eW_3 := ent_put_term (ad := ad) (ca := ca) (LA := LA) (LE := LE) (d := d_2) (v := (cg_rqTerm d_2)) hD hm_a0 hkx_3
  obtain ⟨d_4, ed_4, hj⟩ := nm_some hj
  refine va_put (D := (dC, dI)) (ci := 3) (v := .int (cg_rqTerm d_2)) (ty := .int) (C := "CardMessageDesk$Entry") (T := T_Ent) (N := 9) hx hb hts in_Ent ty_Ent ty_Ent_ok nm_Ent hown hK hP hD hS kx_3 hkx_3 rfl 1 (by decide) (hts _ tw150) (fun _ h9 => h9) rfl (by decide +kernel) rfl rfl (Nat.le_of_ble_eq_true rfl) d_Ent_fill_13 (fun H locs hP hD hS => ?_)
  have hP : va_P (dC, dI) vwCl (cw ad ca LA LE d_4) H := by rw [ed_4, ← eW_3]; exact hP
  have hD : va_D A (cw ad ca LA LE d_4) := by rw [ed_4, ← eW_3]; exact hD
  refine lv_aload_n hx hb d_Ent_fill_16 rfl (lv_at hl 0 rfl) ?_
  refine lv_aload_n hx hb d_Ent_fill_17 rfl (lv_at hl 1 rfl) ?_
  refine va_getN (D := (dC, dI)) (ci := 6) (v := .int (cg_rqTrace d_4)) (C := "CardMessageDesk$Request") (T := T_Req) (N := 10) hx hb hts in_Req hown hK hP 5 rfl rfl 6 (by decide) (nw_f hN (i := 11) rfl) (fun _ h9 => h9) rfl d_Ent_fill_18 ?_
  obtain ⟨kx_5, hkx_5⟩ := ent_at (ad := ad) (ca := ca) (LA := LA) (LE := LE) (d := _) hm_a0
  have eW_5 := ent_put_trace (ad := ad) (ca := ca) (LA := LA) (LE := LE) (d := d_4) (v := (cg_rqTrace d_4)) hD hm_a0 hkx_5
  obtain ⟨d_6, ed_6, hj⟩ := nm_some hj
  refine va_put (D := (dC, dI)) (ci := 3) (v := .int (cg_rqTrace d_4)) (ty := .int) (C := "CardMessageDesk$Entry") (T := T_Ent) (N := 9) hx hb hts in_Ent ty_Ent ty_Ent_ok nm_Ent hown hK hP hD hS kx_5 hkx_5 rfl 2 (by decide) (hts _ tw152) (fun _ h9 => h9) rfl (by decide +kernel) rfl rfl (Nat.le_of_ble_eq_true rfl) d_Ent_fill_21 (fun H locs hP hD hS => ?_)
  have hP : va_P (dC, dI) vwCl (cw ad ca LA LE d_6) H := by rw [ed_6, ← eW_5]; exact hP
  have hD : va_D A (cw ad ca LA LE d_6) := by rw [ed_6, ← eW_5]; exact hD
  refine lv_aload_n hx hb d_Ent_fill_24 rfl (lv_at hl 0 rfl) ?_
  refine lv_aload_n hx hb d_Ent_fill_25 rfl (lv_at hl 1 rfl) ?_
  refine va_getN (D := (dC, dI)) (ci := 6) (v := .long (cg_rqCard d_6)) (C := "CardMessageDesk$Request") (T := T_Req) (N := 10) hx hb hts in_Req hown hK hP 5 rfl rfl 3 (by decide) (nw_f hN (i := 7) rfl) (fun _ h9 => h9) rfl d_Ent_fill_26 ?_
  obtain ⟨kx_7, hkx_7⟩ := ent_at (ad := ad) (ca := ca) (LA := LA) (LE := LE) (d := _) hm_a0
  have eW_7 := ent_put_card (ad := ad) (ca := ca) (LA := LA) (LE := LE) (d := d_6) (v := (cg_rqCard d_6)) hD hm_a0 hkx_7
  obtain ⟨d_8, ed_8, hj⟩ := nm_some hj
  refine va_put (D := (dC, dI)) (ci := 3) (v := .long (cg_rqCard d_6)) (ty := .long) (C := "CardMessageDesk$Entry") (T := T_Ent) (N := 9) hx hb hts in_Ent ty_Ent ty_Ent_ok nm_Ent hown hK hP hD hS kx_7 hkx_7 rfl 3 (by decide) (hts _ tw155) (fun _ h9 => h9) rfl (by decide +kernel) rfl rfl (Nat.le_of_ble_eq_true rfl) d_Ent_fill_29 (fun H locs hP hD hS => ?_)
  have hP : va_P (dC, dI) vwCl (cw ad ca LA LE d_8) H := by rw [ed_8, ← eW_7]; exact hP
  have hD : va_D A (cw ad ca LA LE d_8) := by rw [ed_8, ← eW_7]; exact hD
  refine lv_aload_n hx hb d_Ent_fill_32 rfl (lv_at hl 0 rfl) ?_
  refine lv_aload_n hx hb d_Ent_fill_33 rfl (lv_at hl 1 rfl) ?_
  obtain ⟨v_9, hc_9, hj⟩ := bd_some hj
  have hF_9 := va_fr hD hS hA
  refine va_calli (va_runV (As := []) (rest := [.ref a0]) ⟨hx, hb, hml, hown, hts⟩ (cc_Request_sortKind l dC dI ad ca LA LE H.size d_8   v_9 hc_9) (cwV 0 hts (gtV tw423 tw372 tw373 tw3 tw374) rfl rfl rfl (by decide +kernel) ⟨Nat.le_of_ble_eq_true rfl, Nat.le_of_ble_eq_true rfl⟩) ⟨cBl, va_recv hK hP (ci := 6) (q0 := 5) rfl rfl, fun U hU hW => ⟨rfl, cPr hP hK hD hN hU hW⟩⟩ rfl rfl hl.1 rfl (lv_room (Nat.le_of_ble_eq_true rfl)) d_Ent_fill_34 ⟨Nat.zero_le _, Nat.zero_le _⟩) hS (fun q _ h => hF_9 q h) hF_9 (fun r u t H locs ht hvm hw hB hz1 hk1 hS => ?_)
  obtain ⟨hw1, hw2⟩ := hw
  have hw1 := hw1.symm
  subst hw1
  have hw2 := hw2.symm
  subst hw2
  obtain ⟨hP, hD⟩ := cAf hB ht hF_9
  obtain ⟨kx_10, hkx_10⟩ := ent_at (ad := ad) (ca := ca) (LA := LA) (LE := LE) (d := _) hm_a0
  have eW_10 := ent_put_kind (ad := ad) (ca := ca) (LA := LA) (LE := LE) (d := d_8) (v := v_9) hD hm_a0 hkx_10
  obtain ⟨d_11, ed_11, hj⟩ := nm_some hj
  refine va_put (D := (dC, dI)) (ci := 3) (v := .int v_9) (ty := .int) (C := "CardMessageDesk$Entry") (T := T_Ent) (N := 9) hx hb hts in_Ent ty_Ent ty_Ent_ok nm_Ent hown hK hP hD hS kx_10 hkx_10 rfl 4 (by decide) (hts _ tw157) (fun _ h9 => h9) rfl (by decide +kernel) rfl rfl (Nat.le_of_ble_eq_true rfl) d_Ent_fill_37 (fun H locs hP hD hS => ?_)
  have hP : va_P (dC, dI) vwCl (cw ad ca LA LE d_11) H := by rw [ed_11, ← eW_10]; exact hP
  have hD : va_D A (cw ad ca LA LE d_11) := by rw [ed_11, ← eW_10]; exact hD
  refine lv_aload_n hx hb d_Ent_fill_40 rfl (lv_at hl 0 rfl) ?_
  refine lv_aload_n hx hb d_Ent_fill_41 rfl (lv_at hl 1 rfl) ?_
  refine va_getN (D := (dC, dI)) (ci := 6) (v := .long (cg_rqAmount d_11)) (C := "CardMessageDesk$Request") (T := T_Req) (N := 10) hx hb hts in_Req hown hK hP 5 rfl rfl 5 (by decide) (nw_f hN (i := 9) rfl) (fun _ h9 => h9) rfl d_Ent_fill_42 ?_
  obtain ⟨kx_12, hkx_12⟩ := ent_at (ad := ad) (ca := ca) (LA := LA) (LE := LE) (d := _) hm_a0
  have eW_12 := ent_put_amount (ad := ad) (ca := ca) (LA := LA) (LE := LE) (d := d_11) (v := (cg_rqAmount d_11)) hD hm_a0 hkx_12
  obtain ⟨d_13, ed_13, hj⟩ := nm_some hj
  refine va_put (D := (dC, dI)) (ci := 3) (v := .long (cg_rqAmount d_11)) (ty := .long) (C := "CardMessageDesk$Entry") (T := T_Ent) (N := 9) hx hb hts in_Ent ty_Ent ty_Ent_ok nm_Ent hown hK hP hD hS kx_12 hkx_12 rfl 5 (by decide) (hts _ tw158) (fun _ h9 => h9) rfl (by decide +kernel) rfl rfl (Nat.le_of_ble_eq_true rfl) d_Ent_fill_45 (fun H locs hP hD hS => ?_)
  have hP : va_P (dC, dI) vwCl (cw ad ca LA LE d_13) H := by rw [ed_13, ← eW_12]; exact hP
  have hD : va_D A (cw ad ca LA LE d_13) := by rw [ed_13, ← eW_12]; exact hD
  refine lv_aload_n hx hb d_Ent_fill_48 rfl (lv_at hl 0 rfl) ?_
  refine lv_iload_n hx hb d_Ent_fill_49 rfl (lv_at hl 2 rfl) ?_
  obtain ⟨kx_14, hkx_14⟩ := ent_at (ad := ad) (ca := ca) (LA := LA) (LE := LE) (d := _) hm_a0
  have eW_14 := ent_put_answer (ad := ad) (ca := ca) (LA := LA) (LE := LE) (d := d_13) (v := p2) hD hm_a0 hkx_14
  obtain ⟨d_15, ed_15, hj⟩ := nm_some hj
  refine va_put (D := (dC, dI)) (ci := 3) (v := .int p2) (ty := .int) (C := "CardMessageDesk$Entry") (T := T_Ent) (N := 9) hx hb hts in_Ent ty_Ent ty_Ent_ok nm_Ent hown hK hP hD hS kx_14 hkx_14 rfl 6 (by decide) (hts _ tw161) (fun _ h9 => h9) rfl (by decide +kernel) rfl rfl (Nat.le_of_ble_eq_true rfl) d_Ent_fill_50 (fun H locs hP hD hS => ?_)
  have hP : va_P (dC, dI) vwCl (cw ad ca LA LE d_15) H := by rw [ed_15, ← eW_14]; exact hP
  have hD : va_D A (cw ad ca LA LE d_15) := by rw [ed_15, ← eW_14]; exact hD
  refine lv_aload_n hx hb d_Ent_fill_53 rfl (lv_at hl 0 rfl) ?_
  refine lv_aload_n hx hb d_Ent_fill_54 rfl (lv_at hl 0 rfl) ?_
  obtain ⟨kx_16, hkx_16⟩ := ent_at (ad := ad) (ca := ca) (LA := LA) (LE := LE) (d := _) hm_a0
  refine va_get (D := (dC, dI)) (ci := 3) (v := .int (ce_type (cg_ent d_15 a0))) (C := "CardMessageDesk$Entry") (T := T_Ent) (N := 9) hx hb hts in_Ent hown hK hP kx_16 hkx_16 rfl 0 (by decide) (hts _ tw147) (fun _ h9 => h9) rfl d_Ent_fill_55 ?_
  refine lv_bipush (v := 100) hx hb d_Ent_fill_58 (by decide) ?_
  refine lv_icmp_ne (tgt := 71) hx hb d_Ent_fill_60 (by decide) (fun c_17 => ?_) (fun c_17 => ?_)
  · have hj := it_n hj c_17
    refine lv_iconst (v := 0) hx hb d_Ent_fill_71 (by decide) ?_
    obtain ⟨kx_18, hkx_18⟩ := ent_at (ad := ad) (ca := ca) (LA := LA) (LE := LE) (d := _) hm_a0
    have eW_18 := ent_put_state (ad := ad) (ca := ca) (LA := LA) (LE := LE) (d := d_15) (v := (0 : Int32)) hD hm_a0 hkx_18
    obtain ⟨d_19, ed_19, hj⟩ := nm_some hj
    refine va_put (D := (dC, dI)) (ci := 3) (v := .int (0 : Int32)) (ty := .int) (C := "CardMessageDesk$Entry") (T := T_Ent) (N := 9) hx hb hts in_Ent ty_Ent ty_Ent_ok nm_Ent hown hK hP hD hS kx_18 hkx_18 rfl 7 (by decide) (hts _ tw163) (fun _ h9 => h9) rfl (by decide +kernel) rfl rfl (Nat.le_of_ble_eq_true rfl) d_Ent_fill_72 (fun H locs hP hD hS => ?_)
    have hP : va_P (dC, dI) vwCl (cw ad ca LA LE d_19) H := by rw [ed_19, ← eW_18]; exact hP
    have hD : va_D A (cw ad ca LA LE d_19) := by rw [ed_19, ← eW_18]; exact hD
    refine lv_aload_n hx hb d_Ent_fill_75 rfl (lv_at hl 0 rfl) ?_
    refine lv_lload_n hx hb d_Ent_fill_76 rfl (lv_at hl 3 rfl) ?_
    obtain ⟨kx_20, hkx_20⟩ := ent_at (ad := ad) (ca := ca) (LA := LA) (LE := LE) (d := _) hm_a0
    have eW_20 := ent_put_made (ad := ad) (ca := ca) (LA := LA) (LE := LE) (d := d_19) (v := p3) hD hm_a0 hkx_20
    obtain ⟨d_21, ed_21, hj⟩ := nm_some hj
    refine va_put (D := (dC, dI)) (ci := 3) (v := .long p3) (ty := .long) (C := "CardMessageDesk$Entry") (T := T_Ent) (N := 9) hx hb hts in_Ent ty_Ent ty_Ent_ok nm_Ent hown hK hP hD hS kx_20 hkx_20 rfl 8 (by decide) (hts _ tw165) (fun _ h9 => h9) rfl (by decide +kernel) rfl rfl (Nat.le_of_ble_eq_true rfl) d_Ent_fill_77 (fun H locs hP hD hS => ?_)
    have hP : va_P (dC, dI) vwCl (cw ad ca LA LE d_21) H := by rw [ed_21, ← eW_20]; exact hP
    have hD : va_D A (cw ad ca LA LE d_21) := by rw [ed_21, ← eW_20]; exact hD
    obtain rfl := Option.some.inj hj
    exact W.vret hx hb hr (fun t ht hW => ⟨⟨_, rfl, rfl, by rw [ht]; exact hP, va_K.moved hW.alike hK, hD⟩, hS.F ht⟩) hS.2.2 d_Ent_fill_80
  · have hj := it_p hj c_17
    refine lv_iload_n hx hb d_Ent_fill_63 rfl (lv_at hl 2 rfl) ?_
    refine lv_if_ne (tgt := 71) hx hb d_Ent_fill_64 (by decide) (fun c_22 => ?_) (fun c_22 => ?_)
    · have hj := it_n hj c_22
      refine lv_iconst (v := 0) hx hb d_Ent_fill_71 (by decide) ?_
      obtain ⟨kx_23, hkx_23⟩ := ent_at (ad := ad) (ca := ca) (LA := LA) (LE := LE) (d := _) hm_a0
      have eW_23 := ent_put_state (ad := ad) (ca := ca) (LA := LA) (LE := LE) (d := d_15) (v := (0 : Int32)) hD hm_a0 hkx_23
      obtain ⟨d_24, ed_24, hj⟩ := nm_some hj
      refine va_put (D := (dC, dI)) (ci := 3) (v := .int (0 : Int32)) (ty := .int) (C := "CardMessageDesk$Entry") (T := T_Ent) (N := 9) hx hb hts in_Ent ty_Ent ty_Ent_ok nm_Ent hown hK hP hD hS kx_23 hkx_23 rfl 7 (by decide) (hts _ tw163) (fun _ h9 => h9) rfl (by decide +kernel) rfl rfl (Nat.le_of_ble_eq_true rfl) d_Ent_fill_72 (fun H locs hP hD hS => ?_)
      have hP : va_P (dC, dI) vwCl (cw ad ca LA LE d_24) H := by rw [ed_24, ← eW_23]; exact hP
      have hD : va_D A (cw ad ca LA LE d_24) := by rw [ed_24, ← eW_23]; exact hD
      refine lv_aload_n hx hb d_Ent_fill_75 rfl (lv_at hl 0 rfl) ?_
      refine lv_lload_n hx hb d_Ent_fill_76 rfl (lv_at hl 3 rfl) ?_
      obtain ⟨kx_25, hkx_25⟩ := ent_at (ad := ad) (ca := ca) (LA := LA) (LE := LE) (d := _) hm_a0
      have eW_25 := ent_put_made (ad := ad) (ca := ca) (LA := LA) (LE := LE) (d := d_24) (v := p3) hD hm_a0 hkx_25
      obtain ⟨d_26, ed_26, hj⟩ := nm_some hj
      refine va_put (D := (dC, dI)) (ci := 3) (v := .long p3) (ty := .long) (C := "CardMessageDesk$Entry") (T := T_Ent) (N := 9) hx hb hts in_Ent ty_Ent ty_Ent_ok nm_Ent hown hK hP hD hS kx_25 hkx_25 rfl 8 (by decide) (hts _ tw165) (fun _ h9 => h9) rfl (by decide +kernel) rfl rfl (Nat.le_of_ble_eq_true rfl) d_Ent_fill_77 (fun H locs hP hD hS => ?_)
      have hP : va_P (dC, dI) vwCl (cw ad ca LA LE d_26) H := by rw [ed_26, ← eW_25]; exact hP
      have hD : va_D A (cw ad ca LA LE d_26) := by rw [ed_26, ← eW_25]; exact hD
      obtain rfl := Option.some.inj hj
      exact W.vret hx hb hr (fun t ht hW => ⟨⟨_, rfl, rfl, by rw [ht]; exact hP, va_K.moved hW.alike hK, hD⟩, hS.F ht⟩) hS.2.2 d_Ent_fill_80
    · have hj := it_p hj c_22
      refine lv_iconst (v := 1) hx hb d_Ent_fill_67 (by decide) ?_
      refine lv_goto (tgt := 72) hx hb d_Ent_fill_68 (by decide) ?_
      obtain ⟨kx_27, hkx_27⟩ := ent_at (ad := ad) (ca := ca) (LA := LA) (LE := LE) (d := _) hm_a0
      have eW_27 := ent_put_state (ad := ad) (ca := ca) (LA := LA) (LE := LE) (d := d_15) (v := (1 : Int32)) hD hm_a0 hkx_27
      obtain ⟨d_28, ed_28, hj⟩ := nm_some hj
      refine va_put (D := (dC, dI)) (ci := 3) (v := .int (1 : Int32)) (ty := .int) (C := "CardMessageDesk$Entry") (T := T_Ent) (N := 9) hx hb hts in_Ent ty_Ent ty_Ent_ok nm_Ent hown hK hP hD hS kx_27 hkx_27 rfl 7 (by decide) (hts _ tw163) (fun _ h9 => h9) rfl (by decide +kernel) rfl rfl (Nat.le_of_ble_eq_true rfl) d_Ent_fill_72 (fun H locs hP hD hS => ?_)
      have hP : va_P (dC, dI) vwCl (cw ad ca LA LE d_28) H := by rw [ed_28, ← eW_27]; exact hP
      have hD : va_D A (cw ad ca LA LE d_28) := by rw [ed_28, ← eW_27]; exact hD
      refine lv_aload_n hx hb d_Ent_fill_75 rfl (lv_at hl 0 rfl) ?_
      refine lv_lload_n hx hb d_Ent_fill_76 rfl (lv_at hl 3 rfl) ?_
      obtain ⟨kx_29, hkx_29⟩ := ent_at (ad := ad) (ca := ca) (LA := LA) (LE := LE) (d := _) hm_a0
      have eW_29 := ent_put_made (ad := ad) (ca := ca) (LA := LA) (LE := LE) (d := d_28) (v := p3) hD hm_a0 hkx_29
      obtain ⟨d_30, ed_30, hj⟩ := nm_some hj
      refine va_put (D := (dC, dI)) (ci := 3) (v := .long p3) (ty := .long) (C := "CardMessageDesk$Entry") (T := T_Ent) (N := 9) hx hb hts in_Ent ty_Ent ty_Ent_ok nm_Ent hown hK hP hD hS kx_29 hkx_29 rfl 8 (by decide) (hts _ tw165) (fun _ h9 => h9) rfl (by decide +kernel) rfl rfl (Nat.le_of_ble_eq_true rfl) d_Ent_fill_77 (fun H locs hP hD hS => ?_)
      have hP : va_P (dC, dI) vwCl (cw ad ca LA LE d_30) H := by rw [ed_30, ← eW_29]; exact hP
      have hD : va_D A (cw ad ca LA LE d_30) := by rw [ed_30, ← eW_29]; exact hD
      obtain rfl := Option.some.inj hj
      exact W.vret hx hb hr (fun t ht hW => ⟨⟨_, rfl, rfl, by rw [ht]; exact hP, va_K.moved hW.alike hK, hD⟩, hS.F ht⟩) hS.2.2 d_Ent_fill_80
set_option maxHeartbeats 4000000 in
set_option maxRecDepth 100000 in
theorem cc_Journal_add (l : Launch) (dC : Nat → ClassId) (dI : Nat → Nat → Nat) (ad : Nat → Nat) (ca : Nat → ClassId) (LA LE : List Nat) (sz : Nat) (d : CS) (p2 : Int32)  (d9 : CS) (hj : jc_Journal_add LA LE d p2 = some d9) : Met l y_Jou_add w_Jou_add ({ frames := 2, cells := 0, slots := 0, locals := 44 }) (va_Pc [.ref (ad 9), .ref (ad 5), .int p2] (cPre dC dI ad ca LA LE sz d)) (va_Qv (fun u : CS => u = d9) (cAt dC dI ad ca LA LE (va_A (cw ad ca LA LE d) sz)) (va_A (cw ad ca LA LE d) sz)) 0 0 (va_A (cw ad ca LA LE d) sz) := by
  refine Met.ofW (cc := prog_6_method_8_code) (maxL := 3) (ret := none) (by decide) rfl ?_
  intro p e s m args below meth c s₁ B hml hv
  obtain ⟨rfl, hsz, hP, hK, hD0, hN⟩ := hv
  have hx := B.exec
  have hb := B.bytes
  have hr := B.returns
  have hts0 := atoms_spec (ws := w_Jou_add) B.pre
  have hts : ∀ w ∈ gt, w.before _ s = true := fun w h => hts0 w (List.mem_cons_of_mem _ h)
  have hown : s.vm.findClass "CardMessageDesk$Journal" = some m.cls := findClass_of_methodNamed B.named
  have hlocks := B.notSynchronized
  subst hsz
  have hD := hD0.self (sz := s.heap.size)
  generalize hAe : va_A (cw ad ca LA LE d) s.heap.size = A at hD ⊢
  have hA : ∀ q : Nat, s.heap.size ≤ q → A q := fun q h => by rw [← hAe]; exact Or.inr h
  have hS : va_S A s.heap s.heap [] := va_S.rf
  have hl := lv_entry ([.ref (ad 9), .ref (ad 5), .int p2]) (n := 3) (Nat.le_of_ble_eq_true rfl)
  rw [lg_entry_eq]
  generalize (lg_sl ([.ref (ad 9), .ref (ad 5), .int p2]) ++ List.replicate (3 - (lg_sl ([.ref (ad 9), .ref (ad 5), .int p2])).length) Slot.unset).toArray = ls at hl ⊢
  have hl : lv_has ls 3 [(0, .ref (ad 9)), (1, .ref (ad 5)), (2, .int p2)] := hl
  unfold jc_Journal_add at hj
  refine lv_aload_n hx hb d_Jou_add_0 rfl (lv_at hl 0 rfl) ?_
  refine va_get (D := (dC, dI)) (ci := 4) (v := .int (cg_jSize d)) (C := "CardMessageDesk$Journal") (T := T_Jou) (N := 3) hx hb hts in_Jou hown hK hP 9 rfl rfl 1 (by decide) (hts _ tw186) (fun _ h9 => h9) rfl d_Jou_add_1 ?_
  refine lv_bipush (v := 32) hx hb d_Jou_add_4 (by decide) ?_
  refine lv_icmp_ge (tgt := 37) hx hb d_Jou_add_6 (by decide) (fun c_1 => ?_) (fun c_1 => ?_)
  · have hj := it_p hj c_1
    obtain rfl := Option.some.inj hj
    exact W.vret hx hb hr (fun t ht hW => ⟨⟨_, rfl, rfl, by rw [ht]; exact hP, va_K.moved hW.alike hK, hD⟩, hS.F ht⟩) hS.2.2 d_Jou_add_37
  · have hj := it_n hj c_1
    refine lv_aload_n hx hb d_Jou_add_9 rfl (lv_at hl 0 rfl) ?_
    refine va_get (D := (dC, dI)) (ci := 4) (v := .ref (ad 10)) (C := "CardMessageDesk$Journal") (T := T_Jou) (N := 3) hx hb hts in_Jou hown hK hP 9 rfl rfl 0 (by decide) (hts _ tw185) (fun _ h9 => h9) rfl d_Jou_add_10 ?_
    refine lv_aload_n hx hb d_Jou_add_13 rfl (lv_at hl 0 rfl) ?_
    refine va_get (D := (dC, dI)) (ci := 4) (v := .int (cg_jSize d)) (C := "CardMessageDesk$Journal") (T := T_Jou) (N := 3) hx hb hts in_Jou hown hK hP 9 rfl rfl 1 (by decide) (hts _ tw186) (fun _ h9 => h9) rfl d_Jou_add_14 ?_
    obtain ⟨hi_2, hj⟩ := gd_some hj
    refine va_aldq hx hb hK hP 10 3 rfl rfl hi_2 d_Jou_add_17 ?_
    obtain ⟨a_2, ho_2, hm_a_2, hj⟩ := gq_some hj
    rw [ho_2]
    refine lv_aload_n hx hb d_Jou_add_18 rfl (lv_at hl 1 rfl) ?_
    refine lv_iload_n hx hb d_Jou_add_19 rfl (lv_at hl 2 rfl) ?_
    refine lv_aload_n hx hb d_Jou_add_20 rfl (lv_at hl 0 rfl) ?_
    refine va_get (D := (dC, dI)) (ci := 4) (v := .long (cg_jTime d)) (C := "CardMessageDesk$Journal") (T := T_Jou) (N := 3) hx hb hts in_Jou hown hK hP 9 rfl rfl 2 (by decide) (hts _ tw188) (fun _ h9 => h9) rfl d_Jou_add_21 ?_
    obtain ⟨d_3, hc_3, hj⟩ := bd_some hj
    have hF_3 := va_fr hD hS hA
    obtain ⟨kx_3, hkx_3⟩ := ent_at (ad := ad) (ca := ca) (LA := LA) (LE := LE) (d := d) hm_a_2
    refine va_callv (va_runV (As := [.ref (ad 5), .int p2, .long (cg_jTime d)]) (rest := []) ⟨hx, hb, hml, hown, hts⟩ (cc_Entry_fill l dC dI ad ca LA LE s.heap.size d a_2 p2 (cg_jTime d) hm_a_2 d_3 hc_3) (cwV 3 hts (gtV tw419 tw420 tw421 tw8 tw422) rfl rfl rfl (by decide +kernel) ⟨Nat.le_of_ble_eq_true rfl, Nat.le_of_ble_eq_true rfl⟩) ⟨cBl, va_recv hK hP (ci := 3) (q0 := kx_3) rfl hkx_3, fun U hU hW => ⟨rfl, cPr hP hK hD hN hU hW⟩⟩ rfl rfl hl.1 rfl (lv_room (Nat.le_of_ble_eq_true rfl)) d_Jou_add_24 ⟨Nat.zero_le _, Nat.zero_le _⟩) hS (fun q _ h => hF_3 q h) hF_3 (fun u t H locs ht hvm hw hB hz1 hk1 hS => ?_)
    have hw := hw.symm
    subst hw
    obtain ⟨hP, hD⟩ := cAf hB ht hF_3
    refine lv_aload_n hx hb d_Jou_add_27 rfl (lv_at hl 0 rfl) ?_
    refine lv_dup hx hb d_Jou_add_28 rfl ?_
    refine va_get (D := (dC, dI)) (ci := 4) (v := .int (cg_jSize d_3)) (C := "CardMessageDesk$Journal") (T := T_Jou) (N := 3) hx hb hts in_Jou hown hK hP 9 rfl rfl 1 (by decide) (hts _ tw186) (fun _ h9 => h9) rfl d_Jou_add_29 ?_
    refine lv_iconst (v := 1) hx hb d_Jou_add_32 (by decide) ?_
    refine lv_iadd hx hb d_Jou_add_33 ?_
    obtain ⟨d_4, ed_4, hj⟩ := nm_some hj
    refine va_put (D := (dC, dI)) (ci := 4) (v := .int ((cg_jSize d_3) + (1 : Int32))) (ty := .int) (C := "CardMessageDesk$Journal") (T := T_Jou) (N := 3) hx hb hts in_Jou ty_Jou ty_Jou_ok nm_Jou hown hK hP hD hS 9 rfl rfl 1 (by decide) (hts _ tw186) (fun _ h9 => h9) rfl (by decide +kernel) rfl rfl (Nat.le_of_ble_eq_true rfl) d_Jou_add_34 (fun H locs hP hD hS => ?_)
    have hP : va_P (dC, dI) vwCl (cw ad ca LA LE d_4) H := by rw [ed_4]; exact hP
    have hD : va_D A (cw ad ca LA LE d_4) := by rw [ed_4]; exact hD
    obtain rfl := Option.some.inj hj
    exact W.vret hx hb hr (fun t ht hW => ⟨⟨_, rfl, rfl, by rw [ht]; exact hP, va_K.moved hW.alike hK, hD⟩, hS.F ht⟩) hS.2.2 d_Jou_add_37
