set_option maxHeartbeats 4000000 in
set_option maxRecDepth 100000 in
theorem cm_M_copy_L7 {p : Program} {l : Launch} {e : Env} {s : State} {m : MethodId} {args : Array Value} {below : List Frame} {meth : Method} {c : Code} {dC : Nat → ClassId} {dI : Nat → Nat → Nat} {bd : Nat → Nat} {cb : Nat → ClassId} {A : Nat → Prop}  (x1 : Int32)  (d9 : MS) (hx : p.tables.exec = Jvm.exec) (hb : c.code = prog_10_method_30_code) (hr : meth.sig.returnType = none) (hlocks : meth.locks = false) (hml : c.maxLocals = 3) (hown : s.vm.findClass "CardMessageDeskModel" = some m.cls) (hts : ∀ w ∈ gt, w.before args s = true) (hN : nw s) (hA : ∀ q : Nat, s.heap.size ≤ q → A q) (hK : va_K (dC, dI) vwCl (mT cb) s) :
    ∀ (n : Nat) (d : MS) (x2 : Int32) (H : Heap) (locs : List Loc) (ls : Array Slot), loopF (jm_M_copy_L7 x1) n (d, x2) = some d9 → va_P (dC, dI) vwCl (mw bd cb d) H → va_D A (mw bd cb d) → va_S A s.heap H locs → lv_has ls 3 [(0, .ref (bd 0)), (1, .int x1), (2, .int x2)] → W p l e ({ frames := 1, cells := 0, slots := 0, locals := 21 }) s m args below meth c H locs 0 0 (MQ below (va_Qv (fun u : MS => u = d9) (mAt dC dI bd cb A) A) args s 0 0 A) (F0 m 7 ls []) := by
  intro n
  induction n with
  | zero =>
    intro d x2 H locs ls hj
    exact (loopF_z hj).elim
  | succ n ih =>
    intro d x2 H locs ls hj hP hD hS hl
    have hj := loopF_s hj
    unfold jm_M_copy_L7 at hj
    try dsimp only at hj
    refine lv_iload_n hx hb d_Mod_copy_7 rfl (lv_at hl 2 rfl) ?_
    refine lv_aload_n hx hb d_Mod_copy_8 rfl (lv_at hl 0 rfl) ?_
    refine va_get (D := (dC, dI)) (ci := 8) (v := .ref (bd 7)) (C := "CardMessageDeskModel") (T := T_Mod) (N := 32) hx hb hts in_Mod hown hK hP 0 rfl rfl 12 (by decide) (hts _ tw512) (fun _ h9 => h9) rfl d_Mod_copy_9 ?_
    refine lv_iload_n hx hb d_Mod_copy_12 rfl (lv_at hl 1 rfl) ?_
    obtain ⟨hi_2, hj⟩ := gd_some hj
    refine va_iald hx hb hK hP 7 6 rfl rfl hi_2 d_Mod_copy_13 ?_
    refine lv_icmp_ge (tgt := 42) hx hb d_Mod_copy_14 (by decide) (fun c_3 => ?_) (fun c_3 => ?_)
    · have hj := it_p hj c_3
      obtain rfl := Option.some.inj hj
      exact W.vret hx hb hr (fun t ht hW => ⟨⟨_, rfl, rfl, by rw [ht]; exact hP, va_K.moved hW.alike hK, hD⟩, hS.F ht⟩) hS.2.2 d_Mod_copy_42
    · have hj := it_n hj c_3
      refine lv_aload_n hx hb d_Mod_copy_17 rfl (lv_at hl 0 rfl) ?_
      refine va_get (D := (dC, dI)) (ci := 8) (v := .ref (bd 5)) (C := "CardMessageDeskModel") (T := T_Mod) (N := 32) hx hb hts in_Mod hown hK hP 0 rfl rfl 10 (by decide) (hts _ tw510) (fun _ h9 => h9) rfl d_Mod_copy_18 ?_
      refine lv_iload_n hx hb d_Mod_copy_21 rfl (lv_at hl 1 rfl) ?_
      obtain ⟨hi_4, hj⟩ := gd_some hj
      refine va_zald hx hb hK hP 5 4 rfl rfl hi_4 d_Mod_copy_22 ?_
      refine lv_if_eq (tgt := 42) hx hb d_Mod_copy_23 (by decide) (fun c_5 => ?_) (fun c_5 => ?_)
      · have hj := it_p hj c_5
        obtain rfl := Option.some.inj hj
        exact W.vret hx hb hr (fun t ht hW => ⟨⟨_, rfl, rfl, by rw [ht]; exact hP, va_K.moved hW.alike hK, hD⟩, hS.F ht⟩) hS.2.2 d_Mod_copy_42
      · have hj := it_n hj c_5
        refine lv_aload_n hx hb d_Mod_copy_26 rfl (lv_at hl 0 rfl) ?_
        refine lv_aload_n hx hb d_Mod_copy_27 rfl (lv_at hl 0 rfl) ?_
        refine va_get (D := (dC, dI)) (ci := 8) (v := .ref (bd 3)) (C := "CardMessageDeskModel") (T := T_Mod) (N := 32) hx hb hts in_Mod hown hK hP 0 rfl rfl 4 (by decide) (hts _ tw504) (fun _ h9 => h9) rfl d_Mod_copy_28 ?_
        refine lv_iload_n hx hb d_Mod_copy_31 rfl (lv_at hl 2 rfl) ?_
        obtain ⟨hi_6, hj⟩ := gd_some hj
        refine va_iald hx hb hK hP 3 2 rfl rfl hi_6 d_Mod_copy_32 ?_
        obtain ⟨d_7, hc_7, hj⟩ := bd_some hj
        have hF_7 := va_fr hD hS hA
        refine va_callv (va_runV (As := [.int (mg_in d (x2).toNatClampNeg)]) (rest := []) ⟨hx, hb, hml, hown, hts⟩ (cm_M_write l dC dI bd cb H.size d (mg_in d (x2).toNatClampNeg)  d_7 hc_7) (cwV 1 hts (gtV tw724 tw726 ts36 tw9 tw727) rfl rfl rfl (by decide +kernel) ⟨Nat.le_of_ble_eq_true rfl, Nat.le_of_ble_eq_true rfl⟩) ⟨mBl, va_recv hK hP (ci := 8) (q0 := 0) rfl rfl, fun U hU hW => ⟨rfl, mPr hP hK hD hN hU hW⟩⟩ rfl rfl hl.1 rfl (lv_room (Nat.le_of_ble_eq_true rfl)) d_Mod_copy_33 ⟨Nat.zero_le _, Nat.zero_le _⟩) hS (fun q _ h => hF_7 q h) hF_7 (fun u t H locs ht hvm hw hB hz1 hk1 hS => ?_)
        have hw := hw.symm
        subst hw
        obtain ⟨hP, hD⟩ := mAf hB ht hF_7
        refine lv_iinc (v := (x2 + 1)) (lv' := [(2, .int (x2 + 1)), (0, .ref (bd 0)), (1, .int x1)]) hx hb d_Mod_copy_36 hl (k := 2) rfl rfl (by decide) rfl (fun ls hl => ?_)
        refine lv_goto (tgt := 7) hx hb d_Mod_copy_39 (by decide) ?_
        exact ih d_7 (x2 + 1) H locs ls hj hP hD hS (lv_sub hl [1, 2, 0] rfl)
set_option maxHeartbeats 4000000 in
set_option maxRecDepth 100000 in
theorem cm_M_copy (l : Launch) (dC : Nat → ClassId) (dI : Nat → Nat → Nat) (bd : Nat → Nat) (cb : Nat → ClassId) (sz : Nat) (d : MS) (p1 : Int32)  (d9 : MS) (hj : jm_M_copy d p1 = some d9) : Met l y_Mod_copy w_Mod_copy ({ frames := 1, cells := 0, slots := 0, locals := 21 }) (va_Pc [.ref (bd 0), .int p1] (mPre dC dI bd cb sz d)) (va_Qv (fun u : MS => u = d9) (mAt dC dI bd cb (va_A (mw bd cb d) sz)) (va_A (mw bd cb d) sz)) 0 0 (va_A (mw bd cb d) sz) := by
  refine Met.ofW (cc := prog_10_method_30_code) (maxL := 3) (ret := none) (by decide) rfl ?_
  intro p e s m args below meth c s₁ B hml hv
  obtain ⟨rfl, hsz, hP, hK, hD0, hN⟩ := hv
  have hx := B.exec
  have hb := B.bytes
  have hr := B.returns
  have hts0 := atoms_spec (ws := w_Mod_copy) B.pre
  have hts : ∀ w ∈ gt, w.before _ s = true := fun w h => hts0 w (List.mem_cons_of_mem _ h)
  have hown : s.vm.findClass "CardMessageDeskModel" = some m.cls := findClass_of_methodNamed B.named
  have hlocks := B.notSynchronized
  subst hsz
  have hD := hD0.self (sz := s.heap.size)
  generalize hAe : va_A (mw bd cb d) s.heap.size = A at hD ⊢
  have hA : ∀ q : Nat, s.heap.size ≤ q → A q := fun q h => by rw [← hAe]; exact Or.inr h
  have hS : va_S A s.heap s.heap [] := va_S.rf
  have hl := lv_entry ([.ref (bd 0), .int p1]) (n := 3) (Nat.le_of_ble_eq_true rfl)
  rw [lg_entry_eq]
  generalize (lg_sl ([.ref (bd 0), .int p1]) ++ List.replicate (3 - (lg_sl ([.ref (bd 0), .int p1])).length) Slot.unset).toArray = ls at hl ⊢
  have hl : lv_has ls 3 [(0, .ref (bd 0)), (1, .int p1)] := hl
  unfold jm_M_copy at hj
  refine lv_aload_n hx hb d_Mod_copy_0 rfl (lv_at hl 0 rfl) ?_
  refine va_get (D := (dC, dI)) (ci := 8) (v := .ref (bd 6)) (C := "CardMessageDeskModel") (T := T_Mod) (N := 32) hx hb hts in_Mod hown hK hP 0 rfl rfl 11 (by decide) (hts _ tw511) (fun _ h9 => h9) rfl d_Mod_copy_1 ?_
  refine lv_iload_n hx hb d_Mod_copy_4 rfl (lv_at hl 1 rfl) ?_
  obtain ⟨hi_1, hj⟩ := gd_some hj
  refine va_iald hx hb hK hP 6 5 rfl rfl hi_1 d_Mod_copy_5 ?_
  refine lv_istore_n (lv' := [(2, .int (mg_from d (p1).toNatClampNeg)), (0, .ref (bd 0)), (1, .int p1)]) hx hb d_Mod_copy_6 rfl hl (by decide) rfl (fun ls hl => ?_)
  exact cm_M_copy_L7  p1 _ hx hb hr hlocks hml hown hts hN hA hK 200 d (mg_from d (p1).toNatClampNeg) _ _ ls hj hP hD hS (lv_sub hl [1, 2, 0] rfl)
set_option maxHeartbeats 4000000 in
set_option maxRecDepth 100000 in
theorem cm_M_writeAmount_L7 {p : Program} {l : Launch} {e : Env} {s : State} {m : MethodId} {args : Array Value} {below : List Frame} {meth : Method} {c : Code} {dC : Nat → ClassId} {dI : Nat → Nat → Nat} {bd : Nat → Nat} {cb : Nat → ClassId} {A : Nat → Prop}  (x1 : Int64)  (d9 : MS) (hx : p.tables.exec = Jvm.exec) (hb : c.code = prog_10_method_31_code) (hr : meth.sig.returnType = none) (hlocks : meth.locks = false) (hml : c.maxLocals = 8) (hown : s.vm.findClass "CardMessageDeskModel" = some m.cls) (hts : ∀ w ∈ gt, w.before args s = true) (hN : nw s) (hA : ∀ q : Nat, s.heap.size ≤ q → A q) (hK : va_K (dC, dI) vwCl (mT cb) s) :
    ∀ (n : Nat) (d : MS) (x3 : Int64) (x5 : Int32) (H : Heap) (locs : List Loc) (ls : Array Slot), loopF (jm_M_writeAmount_L7 x1) n (d, x3, x5) = some d9 → va_P (dC, dI) vwCl (mw bd cb d) H → va_D A (mw bd cb d) → va_S A s.heap H locs → lv_has ls 8 [(0, .ref (bd 0)), (1, .long x1), (3, .long x3), (5, .int x5)] → W p l e ({ frames := 1, cells := 0, slots := 0, locals := 21 }) s m args below meth c H locs 0 0 (MQ below (va_Qv (fun u : MS => u = d9) (mAt dC dI bd cb A) A) args s 0 0 A) (F0 m 7 ls []) := by
  intro n
  induction n with
  | zero =>
    intro d x3 x5 H locs ls hj
    exact (loopF_z hj).elim
  | succ n ih =>
    intro d x3 x5 H locs ls hj hP hD hS hl
    have hj := loopF_s hj
    unfold jm_M_writeAmount_L7 at hj
    try dsimp only at hj
    refine lv_iload hx hb d_Mod_writeAmount_7 (lv_at hl 3 rfl) ?_
    refine lv_bipush (v := 6) hx hb d_Mod_writeAmount_9 (by decide) ?_
    refine lv_icmp_ge (tgt := 62) hx hb d_Mod_writeAmount_11 (by decide) (fun c_1 => ?_) (fun c_1 => ?_)
    · have hj := it_p hj c_1
      obtain rfl := Option.some.inj hj
      exact W.vret hx hb hr (fun t ht hW => ⟨⟨_, rfl, rfl, by rw [ht]; exact hP, va_K.moved hW.alike hK, hD⟩, hS.F ht⟩) hS.2.2 d_Mod_writeAmount_62
    · have hj := it_n hj c_1
      refine lv_lload_n hx hb d_Mod_writeAmount_14 rfl (lv_at hl 1 rfl) ?_
      refine lv_lload_n hx hb d_Mod_writeAmount_15 rfl (lv_at hl 2 rfl) ?_
      obtain ⟨hz_2, hj⟩ := gd_some hj
      refine lv_ldiv hx hb d_Mod_writeAmount_16 hz_2 ?_
      refine lv_ldc2 (v := 10) hx hb hown (hts _ tw647) d_Mod_writeAmount_17 ?_
      refine lv_lrem hx hb d_Mod_writeAmount_20 (by decide +kernel) ?_
      refine lv_l2i (v := (((x1 / x3) - (x1 / x3) / (10 : Int64) * (10 : Int64))).toInt32) hx hb d_Mod_writeAmount_21 rfl ?_
      refine lv_istore (lv' := [(6, .int (((x1 / x3) - (x1 / x3) / (10 : Int64) * (10 : Int64))).toInt32), (0, .ref (bd 0)), (1, .long x1), (3, .long x3), (5, .int x5)]) hx hb d_Mod_writeAmount_22 hl (by decide) rfl (fun ls hl => ?_)
      refine lv_lload_n hx hb d_Mod_writeAmount_24 rfl (lv_at hl 2 rfl) ?_
      refine lv_lload_n hx hb d_Mod_writeAmount_25 rfl (lv_at hl 3 rfl) ?_
      refine lv_ldc2 (v := 10) hx hb hown (hts _ tw647) d_Mod_writeAmount_26 ?_
      refine lv_ldiv hx hb d_Mod_writeAmount_29 (by decide +kernel) ?_
      obtain ⟨hz_3, hj⟩ := gd_some hj
      refine lv_ldiv hx hb d_Mod_writeAmount_30 hz_3 ?_
      refine lv_ldc2 (v := 10) hx hb hown (hts _ tw647) d_Mod_writeAmount_31 ?_
      refine lv_lrem hx hb d_Mod_writeAmount_34 (by decide +kernel) ?_
      refine lv_l2i (v := (((x1 / (x3 / (10 : Int64))) - (x1 / (x3 / (10 : Int64))) / (10 : Int64) * (10 : Int64))).toInt32) hx hb d_Mod_writeAmount_35 rfl ?_
      refine lv_istore (lv' := [(7, .int (((x1 / (x3 / (10 : Int64))) - (x1 / (x3 / (10 : Int64))) / (10 : Int64) * (10 : Int64))).toInt32), (6, .int (((x1 / x3) - (x1 / x3) / (10 : Int64) * (10 : Int64))).toInt32), (0, .ref (bd 0)), (1, .long x1), (3, .long x3), (5, .int x5)]) hx hb d_Mod_writeAmount_36 hl (by decide) rfl (fun ls hl => ?_)
      refine lv_aload_n hx hb d_Mod_writeAmount_38 rfl (lv_at hl 2 rfl) ?_
      refine lv_bipush (v := 16) hx hb d_Mod_writeAmount_39 (by decide) ?_
      refine lv_iload hx hb d_Mod_writeAmount_41 (lv_at hl 1 rfl) ?_
      refine lv_imul hx hb d_Mod_writeAmount_43 ?_
      refine lv_iload hx hb d_Mod_writeAmount_44 (lv_at hl 0 rfl) ?_
      refine lv_iadd hx hb d_Mod_writeAmount_46 ?_
      obtain ⟨d_4, hc_4, hj⟩ := bd_some hj
      have hF_4 := va_fr hD hS hA
      refine va_callv (va_runV (As := [.int (((16 : Int32) * (((x1 / x3) - (x1 / x3) / (10 : Int64) * (10 : Int64))).toInt32) + (((x1 / (x3 / (10 : Int64))) - (x1 / (x3 / (10 : Int64))) / (10 : Int64) * (10 : Int64))).toInt32)]) (rest := []) ⟨hx, hb, hml, hown, hts⟩ (cm_M_write l dC dI bd cb H.size d (((16 : Int32) * (((x1 / x3) - (x1 / x3) / (10 : Int64) * (10 : Int64))).toInt32) + (((x1 / (x3 / (10 : Int64))) - (x1 / (x3 / (10 : Int64))) / (10 : Int64) * (10 : Int64))).toInt32)  d_4 hc_4) (cwV 1 hts (gtV tw724 tw726 ts36 tw9 tw727) rfl rfl rfl (by decide +kernel) ⟨Nat.le_of_ble_eq_true rfl, Nat.le_of_ble_eq_true rfl⟩) ⟨mBl, va_recv hK hP (ci := 8) (q0 := 0) rfl rfl, fun U hU hW => ⟨rfl, mPr hP hK hD hN hU hW⟩⟩ rfl rfl hl.1 rfl (lv_room (Nat.le_of_ble_eq_true rfl)) d_Mod_writeAmount_47 ⟨Nat.zero_le _, Nat.zero_le _⟩) hS (fun q _ h => hF_4 q h) hF_4 (fun u t H locs ht hvm hw hB hz1 hk1 hS => ?_)
      have hw := hw.symm
      subst hw
      obtain ⟨hP, hD⟩ := mAf hB ht hF_4
      refine lv_lload_n hx hb d_Mod_writeAmount_50 rfl (lv_at hl 4 rfl) ?_
      refine lv_ldc2 (v := 100) hx hb hown (hts _ tw737) d_Mod_writeAmount_51 ?_
      refine lv_ldiv hx hb d_Mod_writeAmount_54 (by decide +kernel) ?_
      refine lv_lstore_n (lv' := [(3, .long (x3 / (100 : Int64))), (7, .int (((x1 / (x3 / (10 : Int64))) - (x1 / (x3 / (10 : Int64))) / (10 : Int64) * (10 : Int64))).toInt32), (6, .int (((x1 / x3) - (x1 / x3) / (10 : Int64) * (10 : Int64))).toInt32), (0, .ref (bd 0)), (1, .long x1), (5, .int x5)]) hx hb d_Mod_writeAmount_55 rfl hl (by decide) rfl (fun ls hl => ?_)
      refine lv_iinc (v := (x5 + 1)) (lv' := [(5, .int (x5 + 1)), (3, .long (x3 / (100 : Int64))), (7, .int (((x1 / (x3 / (10 : Int64))) - (x1 / (x3 / (10 : Int64))) / (10 : Int64) * (10 : Int64))).toInt32), (6, .int (((x1 / x3) - (x1 / x3) / (10 : Int64) * (10 : Int64))).toInt32), (0, .ref (bd 0)), (1, .long x1)]) hx hb d_Mod_writeAmount_56 hl (k := 5) rfl rfl (by decide) rfl (fun ls hl => ?_)
      refine lv_goto (tgt := 7) hx hb d_Mod_writeAmount_59 (by decide) ?_
      exact ih d_4 (x3 / (100 : Int64)) (x5 + 1) H locs ls hj hP hD hS (lv_sub hl [4, 5, 1, 0] rfl)
set_option maxHeartbeats 4000000 in
set_option maxRecDepth 100000 in
theorem cm_M_writeAmount (l : Launch) (dC : Nat → ClassId) (dI : Nat → Nat → Nat) (bd : Nat → Nat) (cb : Nat → ClassId) (sz : Nat) (d : MS) (p1 : Int64)  (d9 : MS) (hj : jm_M_writeAmount d p1 = some d9) : Met l y_Mod_writeAmount w_Mod_writeAmount ({ frames := 1, cells := 0, slots := 0, locals := 21 }) (va_Pc [.ref (bd 0), .long p1] (mPre dC dI bd cb sz d)) (va_Qv (fun u : MS => u = d9) (mAt dC dI bd cb (va_A (mw bd cb d) sz)) (va_A (mw bd cb d) sz)) 0 0 (va_A (mw bd cb d) sz) := by
  refine Met.ofW (cc := prog_10_method_31_code) (maxL := 8) (ret := none) (by decide) rfl ?_
  intro p e s m args below meth c s₁ B hml hv
  obtain ⟨rfl, hsz, hP, hK, hD0, hN⟩ := hv
  have hx := B.exec
  have hb := B.bytes
  have hr := B.returns
  have hts0 := atoms_spec (ws := w_Mod_writeAmount) B.pre
  have hts : ∀ w ∈ gt, w.before _ s = true := fun w h => hts0 w (List.mem_cons_of_mem _ h)
  have hown : s.vm.findClass "CardMessageDeskModel" = some m.cls := findClass_of_methodNamed B.named
  have hlocks := B.notSynchronized
  subst hsz
  have hD := hD0.self (sz := s.heap.size)
  generalize hAe : va_A (mw bd cb d) s.heap.size = A at hD ⊢
  have hA : ∀ q : Nat, s.heap.size ≤ q → A q := fun q h => by rw [← hAe]; exact Or.inr h
  have hS : va_S A s.heap s.heap [] := va_S.rf
  have hl := lv_entry ([.ref (bd 0), .long p1]) (n := 8) (Nat.le_of_ble_eq_true rfl)
  rw [lg_entry_eq]
  generalize (lg_sl ([.ref (bd 0), .long p1]) ++ List.replicate (8 - (lg_sl ([.ref (bd 0), .long p1])).length) Slot.unset).toArray = ls at hl ⊢
  have hl : lv_has ls 8 [(0, .ref (bd 0)), (1, .long p1)] := hl
  unfold jm_M_writeAmount at hj
  refine lv_ldc2 (v := 100000000000) hx hb hown (hts _ tw736) d_Mod_writeAmount_0 ?_
  refine lv_lstore_n (lv' := [(3, .long (100000000000 : Int64)), (0, .ref (bd 0)), (1, .long p1)]) hx hb d_Mod_writeAmount_3 rfl hl (by decide) rfl (fun ls hl => ?_)
  refine lv_iconst (v := 0) hx hb d_Mod_writeAmount_4 (by decide) ?_
  refine lv_istore (lv' := [(5, .int (0 : Int32)), (3, .long (100000000000 : Int64)), (0, .ref (bd 0)), (1, .long p1)]) hx hb d_Mod_writeAmount_5 hl (by decide) rfl (fun ls hl => ?_)
  exact cm_M_writeAmount_L7  p1 _ hx hb hr hlocks hml hown hts hN hA hK 200 d (100000000000 : Int64) (0 : Int32) _ _ ls hj hP hD hS (lv_sub hl [2, 3, 1, 0] rfl)
set_option maxHeartbeats 4000000 in
set_option maxRecDepth 100000 in
theorem cm_M_answerWith_B214 {p : Program} {l : Launch} {e : Env} {s : State} {m : MethodId} {args : Array Value} {below : List Frame} {meth : Method} {c : Code} {dC : Nat → ClassId} {dI : Nat → Nat → Nat} {bd : Nat → Nat} {cb : Nat → ClassId} {A : Nat → Prop} (d : MS) (x1 : Int32)  (d9 : MS) (hx : p.tables.exec = Jvm.exec) (hb : c.code = prog_10_method_32_code) (hr : meth.sig.returnType = none) (hlocks : meth.locks = false) (hml : c.maxLocals = 4) (hown : s.vm.findClass "CardMessageDeskModel" = some m.cls) (hts : ∀ w ∈ gt, w.before args s = true) (hN : nw s) (hA : ∀ q : Nat, s.heap.size ≤ q → A q) (hK : va_K (dC, dI) vwCl (mT cb) s)
    (H : Heap) (locs : List Loc) (ls : Array Slot) (hj : jm_M_answerWith_B214 d x1 = some d9) (hP : va_P (dC, dI) vwCl (mw bd cb d) H) (hD : va_D A (mw bd cb d)) (hS : va_S A s.heap H locs) (hl : lv_has ls 4 [(0, .ref (bd 0)), (1, .int x1)]) : W p l e ({ frames := 2, cells := 0, slots := 0, locals := 48 }) s m args below meth c H locs 0 0 (MQ below (va_Qv (fun u : MS => u = d9) (mAt dC dI bd cb A) A) args s 0 0 A) (F0 m 214 ls []) := by
  unfold jm_M_answerWith_B214 at hj
  refine lv_aload_n hx hb d_Mod_answerWith_214 rfl (lv_at hl 0 rfl) ?_
  refine lv_bipush (v := 11) hx hb d_Mod_answerWith_215 (by decide) ?_
  obtain ⟨d_23, hc_23, hj⟩ := bd_some hj
  have hF_23 := va_fr hD hS hA
  refine va_callv (va_runV (As := [.int (11 : Int32)]) (rest := []) ⟨hx, hb, hml, hown, hts⟩ (cm_M_copy l dC dI bd cb H.size d (11 : Int32)  d_23 hc_23) (cwV 1 hts (gtV tw728 tw730 ts37 tw9 tw731) rfl rfl rfl (by decide +kernel) ⟨Nat.le_of_ble_eq_true rfl, Nat.le_of_ble_eq_true rfl⟩) ⟨mBl, va_recv hK hP (ci := 8) (q0 := 0) rfl rfl, fun U hU hW => ⟨rfl, mPr hP hK hD hN hU hW⟩⟩ rfl rfl hl.1 rfl (lv_room (Nat.le_of_ble_eq_true rfl)) d_Mod_answerWith_217 ⟨Nat.zero_le _, Nat.zero_le _⟩) hS (fun q _ h => hF_23 q h) hF_23 (fun u t H locs ht hvm hw hB hz1 hk1 hS => ?_)
  have hw := hw.symm
  subst hw
  obtain ⟨hP, hD⟩ := mAf hB ht hF_23
  refine lv_aload_n hx hb d_Mod_answerWith_220 rfl (lv_at hl 0 rfl) ?_
  refine lv_bipush (v := 48) hx hb d_Mod_answerWith_221 (by decide) ?_
  refine lv_iload_n hx hb d_Mod_answerWith_223 rfl (lv_at hl 1 rfl) ?_
  refine lv_bipush (v := 10) hx hb d_Mod_answerWith_224 (by decide) ?_
  refine lv_idiv hx hb d_Mod_answerWith_226 (by decide +kernel) ?_
  refine lv_iadd hx hb d_Mod_answerWith_227 ?_
  obtain ⟨d_24, hc_24, hj⟩ := bd_some hj
  have hF_24 := va_fr hD hS hA
  refine va_callv (va_runV (As := [.int ((48 : Int32) + (x1 / (10 : Int32)))]) (rest := []) ⟨hx, hb, hml, hown, hts⟩ (cm_M_write l dC dI bd cb H.size d_23 ((48 : Int32) + (x1 / (10 : Int32)))  d_24 hc_24) (cwV 1 hts (gtV tw724 tw726 ts36 tw9 tw727) rfl rfl rfl (by decide +kernel) ⟨Nat.le_of_ble_eq_true rfl, Nat.le_of_ble_eq_true rfl⟩) ⟨mBl, va_recv hK hP (ci := 8) (q0 := 0) rfl rfl, fun U hU hW => ⟨rfl, mPr hP hK hD hN hU hW⟩⟩ rfl rfl hl.1 rfl (lv_room (Nat.le_of_ble_eq_true rfl)) d_Mod_answerWith_228 ⟨Nat.zero_le _, Nat.zero_le _⟩) hS (fun q _ h => hF_24 q h) hF_24 (fun u t H locs ht hvm hw hB hz1 hk1 hS => ?_)
  have hw := hw.symm
  subst hw
  obtain ⟨hP, hD⟩ := mAf hB ht hF_24
  refine lv_aload_n hx hb d_Mod_answerWith_231 rfl (lv_at hl 0 rfl) ?_
  refine lv_bipush (v := 48) hx hb d_Mod_answerWith_232 (by decide) ?_
  refine lv_iload_n hx hb d_Mod_answerWith_234 rfl (lv_at hl 1 rfl) ?_
  refine lv_bipush (v := 10) hx hb d_Mod_answerWith_235 (by decide) ?_
  refine lv_irem hx hb d_Mod_answerWith_237 (by decide +kernel) ?_
  refine lv_iadd hx hb d_Mod_answerWith_238 ?_
  obtain ⟨d_25, hc_25, hj⟩ := bd_some hj
  have hF_25 := va_fr hD hS hA
  refine va_callv (va_runV (As := [.int ((48 : Int32) + (x1 - x1 / (10 : Int32) * (10 : Int32)))]) (rest := []) ⟨hx, hb, hml, hown, hts⟩ (cm_M_write l dC dI bd cb H.size d_24 ((48 : Int32) + (x1 - x1 / (10 : Int32) * (10 : Int32)))  d_25 hc_25) (cwV 1 hts (gtV tw724 tw726 ts36 tw9 tw727) rfl rfl rfl (by decide +kernel) ⟨Nat.le_of_ble_eq_true rfl, Nat.le_of_ble_eq_true rfl⟩) ⟨mBl, va_recv hK hP (ci := 8) (q0 := 0) rfl rfl, fun U hU hW => ⟨rfl, mPr hP hK hD hN hU hW⟩⟩ rfl rfl hl.1 rfl (lv_room (Nat.le_of_ble_eq_true rfl)) d_Mod_answerWith_239 ⟨Nat.zero_le _, Nat.zero_le _⟩) hS (fun q _ h => hF_25 q h) hF_25 (fun u t H locs ht hvm hw hB hz1 hk1 hS => ?_)
  have hw := hw.symm
  subst hw
  obtain ⟨hP, hD⟩ := mAf hB ht hF_25
  refine lv_aload_n hx hb d_Mod_answerWith_242 rfl (lv_at hl 0 rfl) ?_
  refine lv_bipush (v := 41) hx hb d_Mod_answerWith_243 (by decide) ?_
  obtain ⟨d_26, hc_26, hj⟩ := bd_some hj
  have hF_26 := va_fr hD hS hA
  refine va_callv (va_runV (As := [.int (41 : Int32)]) (rest := []) ⟨hx, hb, hml, hown, hts⟩ (cm_M_copy l dC dI bd cb H.size d_25 (41 : Int32)  d_26 hc_26) (cwV 1 hts (gtV tw728 tw730 ts37 tw9 tw731) rfl rfl rfl (by decide +kernel) ⟨Nat.le_of_ble_eq_true rfl, Nat.le_of_ble_eq_true rfl⟩) ⟨mBl, va_recv hK hP (ci := 8) (q0 := 0) rfl rfl, fun U hU hW => ⟨rfl, mPr hP hK hD hN hU hW⟩⟩ rfl rfl hl.1 rfl (lv_room (Nat.le_of_ble_eq_true rfl)) d_Mod_answerWith_245 ⟨Nat.zero_le _, Nat.zero_le _⟩) hS (fun q _ h => hF_26 q h) hF_26 (fun u t H locs ht hvm hw hB hz1 hk1 hS => ?_)
  have hw := hw.symm
  subst hw
  obtain ⟨hP, hD⟩ := mAf hB ht hF_26
  obtain rfl := Option.some.inj hj
  exact W.vret hx hb hr (fun t ht hW => ⟨⟨_, rfl, rfl, by rw [ht]; exact hP, va_K.moved hW.alike hK, hD⟩, hS.F ht⟩) hS.2.2 d_Mod_answerWith_248
set_option maxHeartbeats 4000000 in
set_option maxRecDepth 100000 in
theorem cm_M_answerWith_B119 {p : Program} {l : Launch} {e : Env} {s : State} {m : MethodId} {args : Array Value} {below : List Frame} {meth : Method} {c : Code} {dC : Nat → ClassId} {dI : Nat → Nat → Nat} {bd : Nat → Nat} {cb : Nat → ClassId} {A : Nat → Prop} (d : MS) (x1 : Int32) (y0 : Int32) (y1 : Int32)  (d9 : MS) (hx : p.tables.exec = Jvm.exec) (hb : c.code = prog_10_method_32_code) (hr : meth.sig.returnType = none) (hlocks : meth.locks = false) (hml : c.maxLocals = 4) (hown : s.vm.findClass "CardMessageDeskModel" = some m.cls) (hts : ∀ w ∈ gt, w.before args s = true) (hN : nw s) (hA : ∀ q : Nat, s.heap.size ≤ q → A q) (hK : va_K (dC, dI) vwCl (mT cb) s)
    (H : Heap) (locs : List Loc) (ls : Array Slot) (hj : jm_M_answerWith_B119 d x1 y0 y1 = some d9) (hP : va_P (dC, dI) vwCl (mw bd cb d) H) (hD : va_D A (mw bd cb d)) (hS : va_S A s.heap H locs) (hl : lv_has ls 4 [(0, .ref (bd 0)), (1, .int x1)]) : W p l e ({ frames := 2, cells := 0, slots := 0, locals := 48 }) s m args below meth c H locs 0 0 (MQ below (va_Qv (fun u : MS => u = d9) (mAt dC dI bd cb A) A) args s 0 0 A) (F0 m 119 ls [.int y0, .int y1, .ref (bd 0)]) := by
  unfold jm_M_answerWith_B119 at hj
  refine lv_iadd hx hb d_Mod_answerWith_119 ?_
  obtain ⟨d_11, hc_11, hj⟩ := bd_some hj
  have hF_11 := va_fr hD hS hA
  refine va_callv (va_runV (As := [.int (y1 + y0)]) (rest := []) ⟨hx, hb, hml, hown, hts⟩ (cm_M_write l dC dI bd cb H.size d (y1 + y0)  d_11 hc_11) (cwV 1 hts (gtV tw724 tw726 ts36 tw9 tw727) rfl rfl rfl (by decide +kernel) ⟨Nat.le_of_ble_eq_true rfl, Nat.le_of_ble_eq_true rfl⟩) ⟨mBl, va_recv hK hP (ci := 8) (q0 := 0) rfl rfl, fun U hU hW => ⟨rfl, mPr hP hK hD hN hU hW⟩⟩ rfl rfl hl.1 rfl (lv_room (Nat.le_of_ble_eq_true rfl)) d_Mod_answerWith_120 ⟨Nat.zero_le _, Nat.zero_le _⟩) hS (fun q _ h => hF_11 q h) hF_11 (fun u t H locs ht hvm hw hB hz1 hk1 hS => ?_)
  have hw := hw.symm
  subst hw
  obtain ⟨hP, hD⟩ := mAf hB ht hF_11
  refine lv_aload_n hx hb d_Mod_answerWith_123 rfl (lv_at hl 0 rfl) ?_
  refine lv_bipush (v := 32) hx hb d_Mod_answerWith_124 (by decide) ?_
  obtain ⟨d_12, hc_12, hj⟩ := bd_some hj
  have hF_12 := va_fr hD hS hA
  refine va_callv (va_runV (As := [.int (32 : Int32)]) (rest := []) ⟨hx, hb, hml, hown, hts⟩ (cm_M_write l dC dI bd cb H.size d_11 (32 : Int32)  d_12 hc_12) (cwV 1 hts (gtV tw724 tw726 ts36 tw9 tw727) rfl rfl rfl (by decide +kernel) ⟨Nat.le_of_ble_eq_true rfl, Nat.le_of_ble_eq_true rfl⟩) ⟨mBl, va_recv hK hP (ci := 8) (q0 := 0) rfl rfl, fun U hU hW => ⟨rfl, mPr hP hK hD hN hU hW⟩⟩ rfl rfl hl.1 rfl (lv_room (Nat.le_of_ble_eq_true rfl)) d_Mod_answerWith_126 ⟨Nat.zero_le _, Nat.zero_le _⟩) hS (fun q _ h => hF_12 q h) hF_12 (fun u t H locs ht hvm hw hB hz1 hk1 hS => ?_)
  have hw := hw.symm
  subst hw
  obtain ⟨hP, hD⟩ := mAf hB ht hF_12
  refine lv_aload_n hx hb d_Mod_answerWith_129 rfl (lv_at hl 0 rfl) ?_
  refine lv_iconst (v := 0) hx hb d_Mod_answerWith_130 (by decide) ?_
  obtain ⟨d_13, hc_13, hj⟩ := bd_some hj
  have hF_13 := va_fr hD hS hA
  refine va_callv (va_runV (As := [.int (0 : Int32)]) (rest := []) ⟨hx, hb, hml, hown, hts⟩ (cm_M_write l dC dI bd cb H.size d_12 (0 : Int32)  d_13 hc_13) (cwV 1 hts (gtV tw724 tw726 ts36 tw9 tw727) rfl rfl rfl (by decide +kernel) ⟨Nat.le_of_ble_eq_true rfl, Nat.le_of_ble_eq_true rfl⟩) ⟨mBl, va_recv hK hP (ci := 8) (q0 := 0) rfl rfl, fun U hU hW => ⟨rfl, mPr hP hK hD hN hU hW⟩⟩ rfl rfl hl.1 rfl (lv_room (Nat.le_of_ble_eq_true rfl)) d_Mod_answerWith_131 ⟨Nat.zero_le _, Nat.zero_le _⟩) hS (fun q _ h => hF_13 q h) hF_13 (fun u t H locs ht hvm hw hB hz1 hk1 hS => ?_)
  have hw := hw.symm
  subst hw
  obtain ⟨hP, hD⟩ := mAf hB ht hF_13
  refine lv_aload_n hx hb d_Mod_answerWith_134 rfl (lv_at hl 0 rfl) ?_
  refine lv_iconst (v := 0) hx hb d_Mod_answerWith_135 (by decide) ?_
  obtain ⟨d_14, hc_14, hj⟩ := bd_some hj
  have hF_14 := va_fr hD hS hA
  refine va_callv (va_runV (As := [.int (0 : Int32)]) (rest := []) ⟨hx, hb, hml, hown, hts⟩ (cm_M_write l dC dI bd cb H.size d_13 (0 : Int32)  d_14 hc_14) (cwV 1 hts (gtV tw724 tw726 ts36 tw9 tw727) rfl rfl rfl (by decide +kernel) ⟨Nat.le_of_ble_eq_true rfl, Nat.le_of_ble_eq_true rfl⟩) ⟨mBl, va_recv hK hP (ci := 8) (q0 := 0) rfl rfl, fun U hU hW => ⟨rfl, mPr hP hK hD hN hU hW⟩⟩ rfl rfl hl.1 rfl (lv_room (Nat.le_of_ble_eq_true rfl)) d_Mod_answerWith_136 ⟨Nat.zero_le _, Nat.zero_le _⟩) hS (fun q _ h => hF_14 q h) hF_14 (fun u t H locs ht hvm hw hB hz1 hk1 hS => ?_)
  have hw := hw.symm
  subst hw
  obtain ⟨hP, hD⟩ := mAf hB ht hF_14
  refine lv_aload_n hx hb d_Mod_answerWith_139 rfl (lv_at hl 0 rfl) ?_
  refine lv_iconst (v := 2) hx hb d_Mod_answerWith_140 (by decide) ?_
  obtain ⟨d_15, hc_15, hj⟩ := bd_some hj
  have hF_15 := va_fr hD hS hA
  refine va_callv (va_runV (As := [.int (2 : Int32)]) (rest := []) ⟨hx, hb, hml, hown, hts⟩ (cm_M_write l dC dI bd cb H.size d_14 (2 : Int32)  d_15 hc_15) (cwV 1 hts (gtV tw724 tw726 ts36 tw9 tw727) rfl rfl rfl (by decide +kernel) ⟨Nat.le_of_ble_eq_true rfl, Nat.le_of_ble_eq_true rfl⟩) ⟨mBl, va_recv hK hP (ci := 8) (q0 := 0) rfl rfl, fun U hU hW => ⟨rfl, mPr hP hK hD hN hU hW⟩⟩ rfl rfl hl.1 rfl (lv_room (Nat.le_of_ble_eq_true rfl)) d_Mod_answerWith_141 ⟨Nat.zero_le _, Nat.zero_le _⟩) hS (fun q _ h => hF_15 q h) hF_15 (fun u t H locs ht hvm hw hB hz1 hk1 hS => ?_)
  have hw := hw.symm
  subst hw
  obtain ⟨hP, hD⟩ := mAf hB ht hF_15
  refine lv_aload_n hx hb d_Mod_answerWith_144 rfl (lv_at hl 0 rfl) ?_
  refine lv_sipush (v := 128) hx hb d_Mod_answerWith_145 (by decide) ?_
  obtain ⟨d_16, hc_16, hj⟩ := bd_some hj
  have hF_16 := va_fr hD hS hA
  refine va_callv (va_runV (As := [.int (128 : Int32)]) (rest := []) ⟨hx, hb, hml, hown, hts⟩ (cm_M_write l dC dI bd cb H.size d_15 (128 : Int32)  d_16 hc_16) (cwV 1 hts (gtV tw724 tw726 ts36 tw9 tw727) rfl rfl rfl (by decide +kernel) ⟨Nat.le_of_ble_eq_true rfl, Nat.le_of_ble_eq_true rfl⟩) ⟨mBl, va_recv hK hP (ci := 8) (q0 := 0) rfl rfl, fun U hU hW => ⟨rfl, mPr hP hK hD hN hU hW⟩⟩ rfl rfl hl.1 rfl (lv_room (Nat.le_of_ble_eq_true rfl)) d_Mod_answerWith_148 ⟨Nat.zero_le _, Nat.zero_le _⟩) hS (fun q _ h => hF_16 q h) hF_16 (fun u t H locs ht hvm hw hB hz1 hk1 hS => ?_)
  have hw := hw.symm
  subst hw
  obtain ⟨hP, hD⟩ := mAf hB ht hF_16
  refine lv_aload_n hx hb d_Mod_answerWith_151 rfl (lv_at hl 0 rfl) ?_
  refine lv_iconst (v := 0) hx hb d_Mod_answerWith_152 (by decide) ?_
  obtain ⟨d_17, hc_17, hj⟩ := bd_some hj
  have hF_17 := va_fr hD hS hA
  refine va_callv (va_runV (As := [.int (0 : Int32)]) (rest := []) ⟨hx, hb, hml, hown, hts⟩ (cm_M_write l dC dI bd cb H.size d_16 (0 : Int32)  d_17 hc_17) (cwV 1 hts (gtV tw724 tw726 ts36 tw9 tw727) rfl rfl rfl (by decide +kernel) ⟨Nat.le_of_ble_eq_true rfl, Nat.le_of_ble_eq_true rfl⟩) ⟨mBl, va_recv hK hP (ci := 8) (q0 := 0) rfl rfl, fun U hU hW => ⟨rfl, mPr hP hK hD hN hU hW⟩⟩ rfl rfl hl.1 rfl (lv_room (Nat.le_of_ble_eq_true rfl)) d_Mod_answerWith_153 ⟨Nat.zero_le _, Nat.zero_le _⟩) hS (fun q _ h => hF_17 q h) hF_17 (fun u t H locs ht hvm hw hB hz1 hk1 hS => ?_)
  have hw := hw.symm
  subst hw
  obtain ⟨hP, hD⟩ := mAf hB ht hF_17
  refine lv_aload_n hx hb d_Mod_answerWith_156 rfl (lv_at hl 0 rfl) ?_
  refine lv_iconst (v := 0) hx hb d_Mod_answerWith_157 (by decide) ?_
  obtain ⟨d_18, hc_18, hj⟩ := bd_some hj
  have hF_18 := va_fr hD hS hA
  refine va_callv (va_runV (As := [.int (0 : Int32)]) (rest := []) ⟨hx, hb, hml, hown, hts⟩ (cm_M_write l dC dI bd cb H.size d_17 (0 : Int32)  d_18 hc_18) (cwV 1 hts (gtV tw724 tw726 ts36 tw9 tw727) rfl rfl rfl (by decide +kernel) ⟨Nat.le_of_ble_eq_true rfl, Nat.le_of_ble_eq_true rfl⟩) ⟨mBl, va_recv hK hP (ci := 8) (q0 := 0) rfl rfl, fun U hU hW => ⟨rfl, mPr hP hK hD hN hU hW⟩⟩ rfl rfl hl.1 rfl (lv_room (Nat.le_of_ble_eq_true rfl)) d_Mod_answerWith_158 ⟨Nat.zero_le _, Nat.zero_le _⟩) hS (fun q _ h => hF_18 q h) hF_18 (fun u t H locs ht hvm hw hB hz1 hk1 hS => ?_)
  have hw := hw.symm
  subst hw
  obtain ⟨hP, hD⟩ := mAf hB ht hF_18
  refine lv_aload_n hx hb d_Mod_answerWith_161 rfl (lv_at hl 0 rfl) ?_
  refine lv_iconst (v := 2) hx hb d_Mod_answerWith_162 (by decide) ?_
  obtain ⟨d_19, hc_19, hj⟩ := bd_some hj
  have hF_19 := va_fr hD hS hA
  refine va_callv (va_runV (As := [.int (2 : Int32)]) (rest := []) ⟨hx, hb, hml, hown, hts⟩ (cm_M_copy l dC dI bd cb H.size d_18 (2 : Int32)  d_19 hc_19) (cwV 1 hts (gtV tw728 tw730 ts37 tw9 tw731) rfl rfl rfl (by decide +kernel) ⟨Nat.le_of_ble_eq_true rfl, Nat.le_of_ble_eq_true rfl⟩) ⟨mBl, va_recv hK hP (ci := 8) (q0 := 0) rfl rfl, fun U hU hW => ⟨rfl, mPr hP hK hD hN hU hW⟩⟩ rfl rfl hl.1 rfl (lv_room (Nat.le_of_ble_eq_true rfl)) d_Mod_answerWith_163 ⟨Nat.zero_le _, Nat.zero_le _⟩) hS (fun q _ h => hF_19 q h) hF_19 (fun u t H locs ht hvm hw hB hz1 hk1 hS => ?_)
  have hw := hw.symm
  subst hw
  obtain ⟨hP, hD⟩ := mAf hB ht hF_19
  refine lv_aload_n hx hb d_Mod_answerWith_166 rfl (lv_at hl 0 rfl) ?_
  refine lv_iconst (v := 3) hx hb d_Mod_answerWith_167 (by decide) ?_
  obtain ⟨d_20, hc_20, hj⟩ := bd_some hj
  have hF_20 := va_fr hD hS hA
  refine va_callv (va_runV (As := [.int (3 : Int32)]) (rest := []) ⟨hx, hb, hml, hown, hts⟩ (cm_M_copy l dC dI bd cb H.size d_19 (3 : Int32)  d_20 hc_20) (cwV 1 hts (gtV tw728 tw730 ts37 tw9 tw731) rfl rfl rfl (by decide +kernel) ⟨Nat.le_of_ble_eq_true rfl, Nat.le_of_ble_eq_true rfl⟩) ⟨mBl, va_recv hK hP (ci := 8) (q0 := 0) rfl rfl, fun U hU hW => ⟨rfl, mPr hP hK hD hN hU hW⟩⟩ rfl rfl hl.1 rfl (lv_room (Nat.le_of_ble_eq_true rfl)) d_Mod_answerWith_168 ⟨Nat.zero_le _, Nat.zero_le _⟩) hS (fun q _ h => hF_20 q h) hF_20 (fun u t H locs ht hvm hw hB hz1 hk1 hS => ?_)
  have hw := hw.symm
  subst hw
  obtain ⟨hP, hD⟩ := mAf hB ht hF_20
  refine lv_aload_n hx hb d_Mod_answerWith_171 rfl (lv_at hl 0 rfl) ?_
  refine va_get (D := (dC, dI)) (ci := 8) (v := .int (mg_type d_20)) (C := "CardMessageDeskModel") (T := T_Mod) (N := 32) hx hb hts in_Mod hown hK hP 0 rfl rfl 13 (by decide) (hts _ tw513) (fun _ h9 => h9) rfl d_Mod_answerWith_172 ?_
  refine lv_sipush (v := 500) hx hb d_Mod_answerWith_175 (by decide) ?_
  refine lv_icmp_ne (tgt := 209) hx hb d_Mod_answerWith_178 (by decide) (fun c_21 => ?_) (fun c_21 => ?_)
  · have hj := it_n hj c_21
    refine lv_aload_n hx hb d_Mod_answerWith_209 rfl (lv_at hl 0 rfl) ?_
    refine lv_iconst (v := 4) hx hb d_Mod_answerWith_210 (by decide) ?_
    obtain ⟨d_22, hc_22, hj⟩ := bd_some hj
    have hF_22 := va_fr hD hS hA
    refine va_callv (va_runV (As := [.int (4 : Int32)]) (rest := []) ⟨hx, hb, hml, hown, hts⟩ (cm_M_copy l dC dI bd cb H.size d_20 (4 : Int32)  d_22 hc_22) (cwV 1 hts (gtV tw728 tw730 ts37 tw9 tw731) rfl rfl rfl (by decide +kernel) ⟨Nat.le_of_ble_eq_true rfl, Nat.le_of_ble_eq_true rfl⟩) ⟨mBl, va_recv hK hP (ci := 8) (q0 := 0) rfl rfl, fun U hU hW => ⟨rfl, mPr hP hK hD hN hU hW⟩⟩ rfl rfl hl.1 rfl (lv_room (Nat.le_of_ble_eq_true rfl)) d_Mod_answerWith_211 ⟨Nat.zero_le _, Nat.zero_le _⟩) hS (fun q _ h => hF_22 q h) hF_22 (fun u t H locs ht hvm hw hB hz1 hk1 hS => ?_)
    have hw := hw.symm
    subst hw
    obtain ⟨hP, hD⟩ := mAf hB ht hF_22
    exact cm_M_answerWith_B214 d_22 x1  _ hx hb hr hlocks hml hown hts hN hA hK _ _ ls hj hP hD hS (lv_sub hl [0, 1] rfl)
  · have hj := it_p hj c_21
    refine lv_aload_n hx hb d_Mod_answerWith_181 rfl (lv_at hl 0 rfl) ?_
    refine lv_aload_n hx hb d_Mod_answerWith_182 rfl (lv_at hl 0 rfl) ?_
    refine va_get (D := (dC, dI)) (ci := 8) (v := .long (mg_closed d_20)) (C := "CardMessageDeskModel") (T := T_Mod) (N := 32) hx hb hts in_Mod hown hK hP 0 rfl rfl 31 (by decide) (hts _ tw531) (fun _ h9 => h9) rfl d_Mod_answerWith_183 ?_
    refine lv_lconst (v := 0) hx hb d_Mod_answerWith_186 (by decide) ?_
    refine W.lcmp hx hb d_Mod_answerWith_187 ?_
    refine lv_if_ge (tgt := 199) hx hb d_Mod_answerWith_188 (by decide) (fun c_23 => ?_) (fun c_23 => ?_)
    · have hj := it_p hj (lc_ge.mp c_23)
      refine lv_aload_n hx hb d_Mod_answerWith_199 rfl (lv_at hl 0 rfl) ?_
      refine va_get (D := (dC, dI)) (ci := 8) (v := .long (mg_closed d_20)) (C := "CardMessageDeskModel") (T := T_Mod) (N := 32) hx hb hts in_Mod hown hK hP 0 rfl rfl 31 (by decide) (hts _ tw531) (fun _ h9 => h9) rfl d_Mod_answerWith_200 ?_
      obtain ⟨d_24, hc_24, hj⟩ := bd_some hj
      have hF_24 := va_fr hD hS hA
      refine va_callv (va_runV (As := [.long (mg_closed d_20)]) (rest := []) ⟨hx, hb, hml, hown, hts⟩ (cm_M_writeAmount l dC dI bd cb H.size d_20 (mg_closed d_20)  d_24 hc_24) (cwV 1 hts (gtV tw732 tw734 ts38 tw9 tw735) rfl rfl rfl (by decide +kernel) ⟨Nat.le_of_ble_eq_true rfl, Nat.le_of_ble_eq_true rfl⟩) ⟨mBl, va_recv hK hP (ci := 8) (q0 := 0) rfl rfl, fun U hU hW => ⟨rfl, mPr hP hK hD hN hU hW⟩⟩ rfl rfl hl.1 rfl (lv_room (Nat.le_of_ble_eq_true rfl)) d_Mod_answerWith_203 ⟨Nat.zero_le _, Nat.zero_le _⟩) hS (fun q _ h => hF_24 q h) hF_24 (fun u t H locs ht hvm hw hB hz1 hk1 hS => ?_)
      have hw := hw.symm
      subst hw
      obtain ⟨hP, hD⟩ := mAf hB ht hF_24
      refine lv_goto (tgt := 214) hx hb d_Mod_answerWith_206 (by decide) ?_
      exact cm_M_answerWith_B214 d_24 x1  _ hx hb hr hlocks hml hown hts hN hA hK _ _ ls hj hP hD hS (lv_sub hl [0, 1] rfl)
    · have hj := it_n hj (fun z => c_23 (lc_ge.mpr z))
      refine lv_aload_n hx hb d_Mod_answerWith_191 rfl (lv_at hl 0 rfl) ?_
      refine va_get (D := (dC, dI)) (ci := 8) (v := .long (mg_closed d_20)) (C := "CardMessageDeskModel") (T := T_Mod) (N := 32) hx hb hts in_Mod hown hK hP 0 rfl rfl 31 (by decide) (hts _ tw531) (fun _ h9 => h9) rfl d_Mod_answerWith_192 ?_
      refine lv_lneg hx hb d_Mod_answerWith_195 ?_
      refine lv_goto (tgt := 203) hx hb d_Mod_answerWith_196 (by decide) ?_
      obtain ⟨d_25, hc_25, hj⟩ := bd_some hj
      have hF_25 := va_fr hD hS hA
      refine va_callv (va_runV (As := [.long (-(mg_closed d_20))]) (rest := []) ⟨hx, hb, hml, hown, hts⟩ (cm_M_writeAmount l dC dI bd cb H.size d_20 (-(mg_closed d_20))  d_25 hc_25) (cwV 1 hts (gtV tw732 tw734 ts38 tw9 tw735) rfl rfl rfl (by decide +kernel) ⟨Nat.le_of_ble_eq_true rfl, Nat.le_of_ble_eq_true rfl⟩) ⟨mBl, va_recv hK hP (ci := 8) (q0 := 0) rfl rfl, fun U hU hW => ⟨rfl, mPr hP hK hD hN hU hW⟩⟩ rfl rfl hl.1 rfl (lv_room (Nat.le_of_ble_eq_true rfl)) d_Mod_answerWith_203 ⟨Nat.zero_le _, Nat.zero_le _⟩) hS (fun q _ h => hF_25 q h) hF_25 (fun u t H locs ht hvm hw hB hz1 hk1 hS => ?_)
      have hw := hw.symm
      subst hw
      obtain ⟨hP, hD⟩ := mAf hB ht hF_25
      refine lv_goto (tgt := 214) hx hb d_Mod_answerWith_206 (by decide) ?_
      exact cm_M_answerWith_B214 d_25 x1  _ hx hb hr hlocks hml hown hts hN hA hK _ _ ls hj hP hD hS (lv_sub hl [0, 1] rfl)
set_option maxHeartbeats 4000000 in
set_option maxRecDepth 100000 in
theorem cm_M_answerWith_B108 {p : Program} {l : Launch} {e : Env} {s : State} {m : MethodId} {args : Array Value} {below : List Frame} {meth : Method} {c : Code} {dC : Nat → ClassId} {dI : Nat → Nat → Nat} {bd : Nat → Nat} {cb : Nat → ClassId} {A : Nat → Prop} (d : MS) (x1 : Int32) (x3 : Int32) (y0 : Int32) (y1 : Int32)  (d9 : MS) (hx : p.tables.exec = Jvm.exec) (hb : c.code = prog_10_method_32_code) (hr : meth.sig.returnType = none) (hlocks : meth.locks = false) (hml : c.maxLocals = 4) (hown : s.vm.findClass "CardMessageDeskModel" = some m.cls) (hts : ∀ w ∈ gt, w.before args s = true) (hN : nw s) (hA : ∀ q : Nat, s.heap.size ≤ q → A q) (hK : va_K (dC, dI) vwCl (mT cb) s)
    (H : Heap) (locs : List Loc) (ls : Array Slot) (hj : jm_M_answerWith_B108 d x1 x3 y0 y1 = some d9) (hP : va_P (dC, dI) vwCl (mw bd cb d) H) (hD : va_D A (mw bd cb d)) (hS : va_S A s.heap H locs) (hl : lv_has ls 4 [(0, .ref (bd 0)), (1, .int x1), (3, .int x3)]) : W p l e ({ frames := 2, cells := 0, slots := 0, locals := 48 }) s m args below meth c H locs 0 0 (MQ below (va_Qv (fun u : MS => u = d9) (mAt dC dI bd cb A) A) args s 0 0 A) (F0 m 108 ls [.int y0, .int y1, .ref (bd 0)]) := by
  unfold jm_M_answerWith_B108 at hj
  refine lv_iadd hx hb d_Mod_answerWith_108 ?_
  refine lv_iload_n hx hb d_Mod_answerWith_109 rfl (lv_at hl 2 rfl) ?_
  refine lv_if_eq (tgt := 118) hx hb d_Mod_answerWith_110 (by decide) (fun c_10 => ?_) (fun c_10 => ?_)
  · have hj := it_p hj c_10
    refine lv_iconst (v := 0) hx hb d_Mod_answerWith_118 (by decide) ?_
    exact cm_M_answerWith_B119 d x1 (0 : Int32) (y1 + y0)  _ hx hb hr hlocks hml hown hts hN hA hK _ _ ls hj hP hD hS (lv_sub hl [0, 1] rfl)
  · have hj := it_n hj c_10
    refine lv_bipush (v := 16) hx hb d_Mod_answerWith_113 (by decide) ?_
    refine lv_goto (tgt := 119) hx hb d_Mod_answerWith_115 (by decide) ?_
    exact cm_M_answerWith_B119 d x1 (16 : Int32) (y1 + y0)  _ hx hb hr hlocks hml hown hts hN hA hK _ _ ls hj hP hD hS (lv_sub hl [0, 1] rfl)
set_option maxHeartbeats 4000000 in
set_option maxRecDepth 100000 in
theorem cm_M_answerWith_B93 {p : Program} {l : Launch} {e : Env} {s : State} {m : MethodId} {args : Array Value} {below : List Frame} {meth : Method} {c : Code} {dC : Nat → ClassId} {dI : Nat → Nat → Nat} {bd : Nat → Nat} {cb : Nat → ClassId} {A : Nat → Prop} (d : MS) (x1 : Int32) (x3 : Int32) (y0 : Int32)  (d9 : MS) (hx : p.tables.exec = Jvm.exec) (hb : c.code = prog_10_method_32_code) (hr : meth.sig.returnType = none) (hlocks : meth.locks = false) (hml : c.maxLocals = 4) (hown : s.vm.findClass "CardMessageDeskModel" = some m.cls) (hts : ∀ w ∈ gt, w.before args s = true) (hN : nw s) (hA : ∀ q : Nat, s.heap.size ≤ q → A q) (hK : va_K (dC, dI) vwCl (mT cb) s)
    (H : Heap) (locs : List Loc) (ls : Array Slot) (hj : jm_M_answerWith_B93 d x1 x3 y0 = some d9) (hP : va_P (dC, dI) vwCl (mw bd cb d) H) (hD : va_D A (mw bd cb d)) (hS : va_S A s.heap H locs) (hl : lv_has ls 4 [(0, .ref (bd 0)), (1, .int x1), (3, .int x3)]) : W p l e ({ frames := 2, cells := 0, slots := 0, locals := 48 }) s m args below meth c H locs 0 0 (MQ below (va_Qv (fun u : MS => u = d9) (mAt dC dI bd cb A) A) args s 0 0 A) (F0 m 93 ls [.int y0, .ref (bd 0)]) := by
  unfold jm_M_answerWith_B93 at hj
  refine lv_aload_n hx hb d_Mod_answerWith_93 rfl (lv_at hl 0 rfl) ?_
  refine va_get (D := (dC, dI)) (ci := 8) (v := .ref (bd 5)) (C := "CardMessageDeskModel") (T := T_Mod) (N := 32) hx hb hts in_Mod hown hK hP 0 rfl rfl 10 (by decide) (hts _ tw510) (fun _ h9 => h9) rfl d_Mod_answerWith_94 ?_
  refine lv_iconst (v := 3) hx hb d_Mod_answerWith_97 (by decide) ?_
  obtain ⟨hi_8, hj⟩ := gd_some hj
  refine va_zald hx hb hK hP 5 4 rfl rfl hi_8 d_Mod_answerWith_98 ?_
  refine lv_if_eq (tgt := 107) hx hb d_Mod_answerWith_99 (by decide) (fun c_9 => ?_) (fun c_9 => ?_)
  · have hj := it_p hj c_9
    refine lv_iconst (v := 0) hx hb d_Mod_answerWith_107 (by decide) ?_
    exact cm_M_answerWith_B108 d x1 x3 (0 : Int32) y0  _ hx hb hr hlocks hml hown hts hN hA hK _ _ ls hj hP hD hS (lv_sub hl [0, 1, 2] rfl)
  · have hj := it_n hj c_9
    refine lv_bipush (v := 32) hx hb d_Mod_answerWith_102 (by decide) ?_
    refine lv_goto (tgt := 108) hx hb d_Mod_answerWith_104 (by decide) ?_
    exact cm_M_answerWith_B108 d x1 x3 (32 : Int32) y0  _ hx hb hr hlocks hml hown hts hN hA hK _ _ ls hj hP hD hS (lv_sub hl [0, 1, 2] rfl)
set_option maxHeartbeats 4000000 in
set_option maxRecDepth 100000 in
theorem cm_M_answerWith_B76 {p : Program} {l : Launch} {e : Env} {s : State} {m : MethodId} {args : Array Value} {below : List Frame} {meth : Method} {c : Code} {dC : Nat → ClassId} {dI : Nat → Nat → Nat} {bd : Nat → Nat} {cb : Nat → ClassId} {A : Nat → Prop} (d : MS) (x1 : Int32) (y0 : Int32)  (d9 : MS) (hx : p.tables.exec = Jvm.exec) (hb : c.code = prog_10_method_32_code) (hr : meth.sig.returnType = none) (hlocks : meth.locks = false) (hml : c.maxLocals = 4) (hown : s.vm.findClass "CardMessageDeskModel" = some m.cls) (hts : ∀ w ∈ gt, w.before args s = true) (hN : nw s) (hA : ∀ q : Nat, s.heap.size ≤ q → A q) (hK : va_K (dC, dI) vwCl (mT cb) s)
    (H : Heap) (locs : List Loc) (ls : Array Slot) (hj : jm_M_answerWith_B76 d x1 y0 = some d9) (hP : va_P (dC, dI) vwCl (mw bd cb d) H) (hD : va_D A (mw bd cb d)) (hS : va_S A s.heap H locs) (hl : lv_has ls 4 [(0, .ref (bd 0)), (1, .int x1)]) : W p l e ({ frames := 2, cells := 0, slots := 0, locals := 48 }) s m args below meth c H locs 0 0 (MQ below (va_Qv (fun u : MS => u = d9) (mAt dC dI bd cb A) A) args s 0 0 A) (F0 m 76 ls [.int y0]) := by
  unfold jm_M_answerWith_B76 at hj
  refine lv_istore_n (lv' := [(3, .int y0), (0, .ref (bd 0)), (1, .int x1)]) hx hb d_Mod_answerWith_76 rfl hl (by decide) rfl (fun ls hl => ?_)
  refine lv_aload_n hx hb d_Mod_answerWith_77 rfl (lv_at hl 1 rfl) ?_
  refine lv_aload_n hx hb d_Mod_answerWith_78 rfl (lv_at hl 1 rfl) ?_
  refine va_get (D := (dC, dI)) (ci := 8) (v := .ref (bd 5)) (C := "CardMessageDeskModel") (T := T_Mod) (N := 32) hx hb hts in_Mod hown hK hP 0 rfl rfl 10 (by decide) (hts _ tw510) (fun _ h9 => h9) rfl d_Mod_answerWith_79 ?_
  refine lv_iconst (v := 2) hx hb d_Mod_answerWith_82 (by decide) ?_
  obtain ⟨hi_6, hj⟩ := gd_some hj
  refine va_zald hx hb hK hP 5 4 rfl rfl hi_6 d_Mod_answerWith_83 ?_
  refine lv_if_eq (tgt := 92) hx hb d_Mod_answerWith_84 (by decide) (fun c_7 => ?_) (fun c_7 => ?_)
  · have hj := it_p hj c_7
    refine lv_iconst (v := 0) hx hb d_Mod_answerWith_92 (by decide) ?_
    exact cm_M_answerWith_B93 d x1 y0 (0 : Int32)  _ hx hb hr hlocks hml hown hts hN hA hK _ _ ls hj hP hD hS (lv_sub hl [1, 2, 0] rfl)
  · have hj := it_n hj c_7
    refine lv_bipush (v := 64) hx hb d_Mod_answerWith_87 (by decide) ?_
    refine lv_goto (tgt := 93) hx hb d_Mod_answerWith_89 (by decide) ?_
    exact cm_M_answerWith_B93 d x1 y0 (64 : Int32)  _ hx hb hr hlocks hml hown hts hN hA hK _ _ ls hj hP hD hS (lv_sub hl [1, 2, 0] rfl)
set_option maxHeartbeats 4000000 in
set_option maxRecDepth 100000 in
theorem cm_M_answerWith (l : Launch) (dC : Nat → ClassId) (dI : Nat → Nat → Nat) (bd : Nat → Nat) (cb : Nat → ClassId) (sz : Nat) (d : MS) (p1 : Int32)  (d9 : MS) (hj : jm_M_answerWith d p1 = some d9) : Met l y_Mod_answerWith w_Mod_answerWith ({ frames := 2, cells := 0, slots := 0, locals := 48 }) (va_Pc [.ref (bd 0), .int p1] (mPre dC dI bd cb sz d)) (va_Qv (fun u : MS => u = d9) (mAt dC dI bd cb (va_A (mw bd cb d) sz)) (va_A (mw bd cb d) sz)) 0 0 (va_A (mw bd cb d) sz) := by
  refine Met.ofW (cc := prog_10_method_32_code) (maxL := 4) (ret := none) (by decide) rfl ?_
  intro p e s m args below meth c s₁ B hml hv
  obtain ⟨rfl, hsz, hP, hK, hD0, hN⟩ := hv
  have hx := B.exec
  have hb := B.bytes
  have hr := B.returns
  have hts0 := atoms_spec (ws := w_Mod_answerWith) B.pre
  have hts : ∀ w ∈ gt, w.before _ s = true := fun w h => hts0 w (List.mem_cons_of_mem _ h)
  have hown : s.vm.findClass "CardMessageDeskModel" = some m.cls := findClass_of_methodNamed B.named
  have hlocks := B.notSynchronized
  subst hsz
  have hD := hD0.self (sz := s.heap.size)
  generalize hAe : va_A (mw bd cb d) s.heap.size = A at hD ⊢
  have hA : ∀ q : Nat, s.heap.size ≤ q → A q := fun q h => by rw [← hAe]; exact Or.inr h
  have hS : va_S A s.heap s.heap [] := va_S.rf
  have hl := lv_entry ([.ref (bd 0), .int p1]) (n := 4) (Nat.le_of_ble_eq_true rfl)
  rw [lg_entry_eq]
  generalize (lg_sl ([.ref (bd 0), .int p1]) ++ List.replicate (4 - (lg_sl ([.ref (bd 0), .int p1])).length) Slot.unset).toArray = ls at hl ⊢
  have hl : lv_has ls 4 [(0, .ref (bd 0)), (1, .int p1)] := hl
  unfold jm_M_answerWith at hj
  refine lv_aload_n hx hb d_Mod_answerWith_0 rfl (lv_at hl 0 rfl) ?_
  refine lv_iconst (v := 0) hx hb d_Mod_answerWith_1 (by decide) ?_
  obtain ⟨d_1, ed_1, hj⟩ := nm_some hj
  refine va_put (D := (dC, dI)) (ci := 8) (v := .int (0 : Int32)) (ty := .int) (C := "CardMessageDeskModel") (T := T_Mod) (N := 32) hx hb hts in_Mod ty_Mod ty_Mod_ok nm_Mod hown hK hP hD hS 0 rfl rfl 7 (by decide) (hts _ tw507) (fun _ h9 => h9) rfl (by decide +kernel) rfl rfl (Nat.le_of_ble_eq_true rfl) d_Mod_answerWith_2 (fun H locs hP hD hS => ?_)
  have hP : va_P (dC, dI) vwCl (mw bd cb d_1) H := by rw [ed_1]; exact hP
  have hD : va_D A (mw bd cb d_1) := by rw [ed_1]; exact hD
  refine lv_aload_n hx hb d_Mod_answerWith_5 rfl (lv_at hl 0 rfl) ?_
  refine va_get (D := (dC, dI)) (ci := 8) (v := .int (mg_type d_1)) (C := "CardMessageDeskModel") (T := T_Mod) (N := 32) hx hb hts in_Mod hown hK hP 0 rfl rfl 13 (by decide) (hts _ tw513) (fun _ h9 => h9) rfl d_Mod_answerWith_6 ?_
  refine lv_bipush (v := 10) hx hb d_Mod_answerWith_9 (by decide) ?_
  refine lv_iadd hx hb d_Mod_answerWith_11 ?_
  refine lv_istore_n (lv' := [(2, .int ((mg_type d_1) + (10 : Int32))), (0, .ref (bd 0)), (1, .int p1)]) hx hb d_Mod_answerWith_12 rfl hl (by decide) rfl (fun ls hl => ?_)
  refine lv_aload_n hx hb d_Mod_answerWith_13 rfl (lv_at hl 1 rfl) ?_
  refine lv_bipush (v := 16) hx hb d_Mod_answerWith_14 (by decide) ?_
  refine lv_iload_n hx hb d_Mod_answerWith_16 rfl (lv_at hl 0 rfl) ?_
  refine lv_sipush (v := 1000) hx hb d_Mod_answerWith_17 (by decide) ?_
  refine lv_idiv hx hb d_Mod_answerWith_20 (by decide +kernel) ?_
  refine lv_imul hx hb d_Mod_answerWith_21 ?_
  refine lv_iload_n hx hb d_Mod_answerWith_22 rfl (lv_at hl 0 rfl) ?_
  refine lv_bipush (v := 100) hx hb d_Mod_answerWith_23 (by decide) ?_
  refine lv_idiv hx hb d_Mod_answerWith_25 (by decide +kernel) ?_
  refine lv_bipush (v := 10) hx hb d_Mod_answerWith_26 (by decide) ?_
  refine lv_irem hx hb d_Mod_answerWith_28 (by decide +kernel) ?_
  refine lv_iadd hx hb d_Mod_answerWith_29 ?_
  obtain ⟨d_2, hc_2, hj⟩ := bd_some hj
  have hF_2 := va_fr hD hS hA
  refine va_callv (va_runV (As := [.int (((16 : Int32) * (((mg_type d_1) + (10 : Int32)) / (1000 : Int32))) + ((((mg_type d_1) + (10 : Int32)) / (100 : Int32)) - (((mg_type d_1) + (10 : Int32)) / (100 : Int32)) / (10 : Int32) * (10 : Int32)))]) (rest := []) ⟨hx, hb, hml, hown, hts⟩ (cm_M_write l dC dI bd cb H.size d_1 (((16 : Int32) * (((mg_type d_1) + (10 : Int32)) / (1000 : Int32))) + ((((mg_type d_1) + (10 : Int32)) / (100 : Int32)) - (((mg_type d_1) + (10 : Int32)) / (100 : Int32)) / (10 : Int32) * (10 : Int32)))  d_2 hc_2) (cwV 1 hts (gtV tw724 tw726 ts36 tw9 tw727) rfl rfl rfl (by decide +kernel) ⟨Nat.le_of_ble_eq_true rfl, Nat.le_of_ble_eq_true rfl⟩) ⟨mBl, va_recv hK hP (ci := 8) (q0 := 0) rfl rfl, fun U hU hW => ⟨rfl, mPr hP hK hD hN hU hW⟩⟩ rfl rfl hl.1 rfl (lv_room (Nat.le_of_ble_eq_true rfl)) d_Mod_answerWith_30 ⟨Nat.zero_le _, Nat.zero_le _⟩) hS (fun q _ h => hF_2 q h) hF_2 (fun u t H locs ht hvm hw hB hz1 hk1 hS => ?_)
  have hw := hw.symm
  subst hw
  obtain ⟨hP, hD⟩ := mAf hB ht hF_2
  refine lv_aload_n hx hb d_Mod_answerWith_33 rfl (lv_at hl 1 rfl) ?_
  refine lv_bipush (v := 16) hx hb d_Mod_answerWith_34 (by decide) ?_
  refine lv_iload_n hx hb d_Mod_answerWith_36 rfl (lv_at hl 0 rfl) ?_
  refine lv_bipush (v := 10) hx hb d_Mod_answerWith_37 (by decide) ?_
  refine lv_idiv hx hb d_Mod_answerWith_39 (by decide +kernel) ?_
  refine lv_bipush (v := 10) hx hb d_Mod_answerWith_40 (by decide) ?_
  refine lv_irem hx hb d_Mod_answerWith_42 (by decide +kernel) ?_
  refine lv_imul hx hb d_Mod_answerWith_43 ?_
  refine lv_iload_n hx hb d_Mod_answerWith_44 rfl (lv_at hl 0 rfl) ?_
  refine lv_bipush (v := 10) hx hb d_Mod_answerWith_45 (by decide) ?_
  refine lv_irem hx hb d_Mod_answerWith_47 (by decide +kernel) ?_
  refine lv_iadd hx hb d_Mod_answerWith_48 ?_
  obtain ⟨d_3, hc_3, hj⟩ := bd_some hj
  have hF_3 := va_fr hD hS hA
  refine va_callv (va_runV (As := [.int (((16 : Int32) * ((((mg_type d_1) + (10 : Int32)) / (10 : Int32)) - (((mg_type d_1) + (10 : Int32)) / (10 : Int32)) / (10 : Int32) * (10 : Int32))) + (((mg_type d_1) + (10 : Int32)) - ((mg_type d_1) + (10 : Int32)) / (10 : Int32) * (10 : Int32)))]) (rest := []) ⟨hx, hb, hml, hown, hts⟩ (cm_M_write l dC dI bd cb H.size d_2 (((16 : Int32) * ((((mg_type d_1) + (10 : Int32)) / (10 : Int32)) - (((mg_type d_1) + (10 : Int32)) / (10 : Int32)) / (10 : Int32) * (10 : Int32))) + (((mg_type d_1) + (10 : Int32)) - ((mg_type d_1) + (10 : Int32)) / (10 : Int32) * (10 : Int32)))  d_3 hc_3) (cwV 1 hts (gtV tw724 tw726 ts36 tw9 tw727) rfl rfl rfl (by decide +kernel) ⟨Nat.le_of_ble_eq_true rfl, Nat.le_of_ble_eq_true rfl⟩) ⟨mBl, va_recv hK hP (ci := 8) (q0 := 0) rfl rfl, fun U hU hW => ⟨rfl, mPr hP hK hD hN hU hW⟩⟩ rfl rfl hl.1 rfl (lv_room (Nat.le_of_ble_eq_true rfl)) d_Mod_answerWith_49 ⟨Nat.zero_le _, Nat.zero_le _⟩) hS (fun q _ h => hF_3 q h) hF_3 (fun u t H locs ht hvm hw hB hz1 hk1 hS => ?_)
  have hw := hw.symm
  subst hw
  obtain ⟨hP, hD⟩ := mAf hB ht hF_3
  refine lv_aload_n hx hb d_Mod_answerWith_52 rfl (lv_at hl 1 rfl) ?_
  refine va_get (D := (dC, dI)) (ci := 8) (v := .ref (bd 5)) (C := "CardMessageDeskModel") (T := T_Mod) (N := 32) hx hb hts in_Mod hown hK hP 0 rfl rfl 10 (by decide) (hts _ tw510) (fun _ h9 => h9) rfl d_Mod_answerWith_53 ?_
  refine lv_iconst (v := 4) hx hb d_Mod_answerWith_56 (by decide) ?_
  obtain ⟨hi_4, hj⟩ := gd_some hj
  refine va_zald hx hb hK hP 5 4 rfl rfl hi_4 d_Mod_answerWith_57 ?_
  refine lv_if_ne (tgt := 71) hx hb d_Mod_answerWith_58 (by decide) (fun c_5 => ?_) (fun c_5 => ?_)
  · have hj := it_n hj c_5
    refine lv_iconst (v := 1) hx hb d_Mod_answerWith_71 (by decide) ?_
    refine lv_goto (tgt := 76) hx hb d_Mod_answerWith_72 (by decide) ?_
    exact cm_M_answerWith_B76 d_3 p1 (1 : Int32)  _ hx hb hr hlocks hml hown hts hN hA hK _ _ ls hj hP hD hS (lv_sub hl [1, 2] rfl)
  · have hj := it_p hj c_5
    refine lv_aload_n hx hb d_Mod_answerWith_61 rfl (lv_at hl 1 rfl) ?_
    refine va_get (D := (dC, dI)) (ci := 8) (v := .int (mg_type d_3)) (C := "CardMessageDeskModel") (T := T_Mod) (N := 32) hx hb hts in_Mod hown hK hP 0 rfl rfl 13 (by decide) (hts _ tw513) (fun _ h9 => h9) rfl d_Mod_answerWith_62 ?_
    refine lv_sipush (v := 500) hx hb d_Mod_answerWith_65 (by decide) ?_
    refine lv_icmp_ne (tgt := 75) hx hb d_Mod_answerWith_68 (by decide) (fun c_6 => ?_) (fun c_6 => ?_)
    · have hj := it_n hj c_6
      refine lv_iconst (v := 0) hx hb d_Mod_answerWith_75 (by decide) ?_
      exact cm_M_answerWith_B76 d_3 p1 (0 : Int32)  _ hx hb hr hlocks hml hown hts hN hA hK _ _ ls hj hP hD hS (lv_sub hl [1, 2] rfl)
    · have hj := it_p hj c_6
      refine lv_iconst (v := 1) hx hb d_Mod_answerWith_71 (by decide) ?_
      refine lv_goto (tgt := 76) hx hb d_Mod_answerWith_72 (by decide) ?_
      exact cm_M_answerWith_B76 d_3 p1 (1 : Int32)  _ hx hb hr hlocks hml hown hts hN hA hK _ _ ls hj hP hD hS (lv_sub hl [1, 2] rfl)
set_option maxHeartbeats 4000000 in
set_option maxRecDepth 100000 in
theorem cm_M_handle (l : Launch) (dC : Nat → ClassId) (dI : Nat → Nat → Nat) (bd : Nat → Nat) (cb : Nat → ClassId) (sz : Nat) (d : MS)   (r9 : Int32) (d9 : MS) (hj : jm_M_handle d = some (r9, d9)) : Met l y_Mod_handle w_Mod_handle ({ frames := 5, cells := 0, slots := 0, locals := 115 }) (va_Pc [.ref (bd 0)] (mPre dC dI bd cb sz d)) (va_Qi (fun (r : Int32) (u : MS) => r = r9 ∧ u = d9) (mAt dC dI bd cb (va_A (mw bd cb d) sz)) (va_A (mw bd cb d) sz)) 0 0 (va_A (mw bd cb d) sz) := by
  refine Met.ofW (cc := prog_10_method_33_code) (maxL := 3) (ret := (some .int)) (by decide) rfl ?_
  intro p e s m args below meth c s₁ B hml hv
  obtain ⟨rfl, hsz, hP, hK, hD0, hN⟩ := hv
  have hx := B.exec
  have hb := B.bytes
  have hr := B.returns
  have hts0 := atoms_spec (ws := w_Mod_handle) B.pre
  have hts : ∀ w ∈ gt, w.before _ s = true := fun w h => hts0 w (List.mem_cons_of_mem _ h)
  have hown : s.vm.findClass "CardMessageDeskModel" = some m.cls := findClass_of_methodNamed B.named
  have hlocks := B.notSynchronized
  subst hsz
  have hD := hD0.self (sz := s.heap.size)
  generalize hAe : va_A (mw bd cb d) s.heap.size = A at hD ⊢
  have hA : ∀ q : Nat, s.heap.size ≤ q → A q := fun q h => by rw [← hAe]; exact Or.inr h
  have hS : va_S A s.heap s.heap [] := va_S.rf
  have hl := lv_entry ([.ref (bd 0)]) (n := 3) (Nat.le_of_ble_eq_true rfl)
  rw [lg_entry_eq]
  generalize (lg_sl ([.ref (bd 0)]) ++ List.replicate (3 - (lg_sl ([.ref (bd 0)])).length) Slot.unset).toArray = ls at hl ⊢
  have hl : lv_has ls 3 [(0, .ref (bd 0))] := hl
  unfold jm_M_handle at hj
  refine lv_aload_n hx hb d_Mod_handle_0 rfl (lv_at hl 0 rfl) ?_
  obtain ⟨p_1, hc_1, hj⟩ := bd_some hj
  have hF_1 := va_fr hD hS hA
  refine va_calli (va_runV (As := []) (rest := []) ⟨hx, hb, hml, hown, hts⟩ (cm_M_isRequest l dC dI bd cb s.heap.size d   p_1.1 p_1.2 hc_1) (cwV 0 hts (gtV tw635 tw637 ts15 tw9 tw638) rfl rfl rfl (by decide +kernel) ⟨Nat.le_of_ble_eq_true rfl, Nat.le_of_ble_eq_true rfl⟩) ⟨mBl, va_recv hK hP (ci := 8) (q0 := 0) rfl rfl, fun U hU hW => ⟨rfl, mPr hP hK hD hN hU hW⟩⟩ rfl rfl hl.1 rfl (lv_room (Nat.le_of_ble_eq_true rfl)) d_Mod_handle_1 ⟨Nat.zero_le _, Nat.zero_le _⟩) hS (fun q _ h => hF_1 q h) hF_1 (fun r u t H locs ht hvm hw hB hz1 hk1 hS => ?_)
  obtain ⟨hw1, hw2⟩ := hw
  have hw1 := hw1.symm
  subst hw1
  have hw2 := hw2.symm
  subst hw2
  obtain ⟨hP, hD⟩ := mAf hB ht hF_1
  refine lv_istore_n (lv' := [(1, .int p_1.1), (0, .ref (bd 0))]) hx hb d_Mod_handle_4 rfl hl (by decide) rfl (fun ls hl => ?_)
  refine lv_bipush (v := 30) hx hb d_Mod_handle_5 (by decide) ?_
  refine lv_istore_n (lv' := [(2, .int (30 : Int32)), (1, .int p_1.1), (0, .ref (bd 0))]) hx hb d_Mod_handle_7 rfl hl (by decide) rfl (fun ls hl => ?_)
  refine lv_aload_n hx hb d_Mod_handle_8 rfl (lv_at hl 2 rfl) ?_
  refine lv_iconst (v := 0) hx hb d_Mod_handle_9 (by decide) ?_
  obtain ⟨d_2, ed_2, hj⟩ := nm_some hj
  refine va_put (D := (dC, dI)) (ci := 8) (v := .int (0 : Int32)) (ty := .int) (C := "CardMessageDeskModel") (T := T_Mod) (N := 32) hx hb hts in_Mod ty_Mod ty_Mod_ok nm_Mod hown hK hP hD hS 0 rfl rfl 7 (by decide) (hts _ tw507) (fun _ h9 => h9) rfl (by decide +kernel) rfl rfl (Nat.le_of_ble_eq_true rfl) d_Mod_handle_10 (fun H locs hP hD hS => ?_)
  have hP : va_P (dC, dI) vwCl (mw bd cb d_2) H := by rw [ed_2]; exact hP
  have hD : va_D A (mw bd cb d_2) := by rw [ed_2]; exact hD
  refine lv_iload_n hx hb d_Mod_handle_13 rfl (lv_at hl 1 rfl) ?_
  refine lv_if_eq (tgt := 27) hx hb d_Mod_handle_14 (by decide) (fun c_3 => ?_) (fun c_3 => ?_)
  · have hj := it_p hj c_3
    refine lv_aload_n hx hb d_Mod_handle_27 rfl (lv_at hl 2 rfl) ?_
    refine lv_iconst (v := 0) hx hb d_Mod_handle_28 (by decide) ?_
    obtain ⟨d_4, ed_4, hj⟩ := nm_some hj
    refine va_put (D := (dC, dI)) (ci := 8) (v := .int (0 : Int32)) (ty := .int) (C := "CardMessageDeskModel") (T := T_Mod) (N := 32) hx hb hts in_Mod ty_Mod ty_Mod_ok nm_Mod hown hK hP hD hS 0 rfl rfl 5 (by decide) (hts _ tw505) (fun _ h9 => h9) rfl (by decide +kernel) rfl rfl (Nat.le_of_ble_eq_true rfl) d_Mod_handle_29 (fun H locs hP hD hS => ?_)
    have hP : va_P (dC, dI) vwCl (mw bd cb d_4) H := by rw [ed_4]; exact hP
    have hD : va_D A (mw bd cb d_4) := by rw [ed_4]; exact hD
    refine lv_iload_n hx hb d_Mod_handle_32 rfl (lv_at hl 0 rfl) ?_
    obtain ⟨rfl, rfl⟩ := rt_some hj
    exact W.iret hx hb hr (fun t ht hW => ⟨⟨_, _, rfl, ⟨rfl, rfl⟩, by rw [ht]; exact hP, va_K.moved hW.alike hK, hD⟩, hS.F ht⟩) hS.2.2 d_Mod_handle_33
  · have hj := it_n hj c_3
    refine lv_aload_n hx hb d_Mod_handle_17 rfl (lv_at hl 2 rfl) ?_
    obtain ⟨p_5, hc_5, hj⟩ := bd_some hj
    have hF_5 := va_fr hD hS hA
    refine va_calli (va_runV (As := []) (rest := []) ⟨hx, hb, hml, hown, hts⟩ (cm_M_answer l dC dI bd cb H.size d_2   p_5.1 p_5.2 hc_5) (cwV 0 hts (gtV tw675 tw677 ts24 tw9 tw678) rfl rfl rfl (by decide +kernel) ⟨Nat.le_of_ble_eq_true rfl, Nat.le_of_ble_eq_true rfl⟩) ⟨mBl, va_recv hK hP (ci := 8) (q0 := 0) rfl rfl, fun U hU hW => ⟨rfl, mPr hP hK hD hN hU hW⟩⟩ rfl rfl hl.1 rfl (lv_room (Nat.le_of_ble_eq_true rfl)) d_Mod_handle_18 ⟨Nat.zero_le _, Nat.zero_le _⟩) hS (fun q _ h => hF_5 q h) hF_5 (fun r u t H locs ht hvm hw hB hz1 hk1 hS => ?_)
    obtain ⟨hw1, hw2⟩ := hw
    have hw1 := hw1.symm
    subst hw1
    have hw2 := hw2.symm
    subst hw2
    obtain ⟨hP, hD⟩ := mAf hB ht hF_5
    refine lv_istore_n (lv' := [(2, .int p_5.1), (1, .int p_1.1), (0, .ref (bd 0))]) hx hb d_Mod_handle_21 rfl hl (by decide) rfl (fun ls hl => ?_)
    refine lv_aload_n hx hb d_Mod_handle_22 rfl (lv_at hl 2 rfl) ?_
    refine lv_iload_n hx hb d_Mod_handle_23 rfl (lv_at hl 0 rfl) ?_
    obtain ⟨d_6, hc_6, hj⟩ := bd_some hj
    have hF_6 := va_fr hD hS hA
    refine va_callv (va_runV (As := [.int p_5.1]) (rest := []) ⟨hx, hb, hml, hown, hts⟩ (cm_M_answerWith l dC dI bd cb H.size p_5.2 p_5.1  d_6 hc_6) (cwV 1 hts (gtV tw720 tw722 ts35 tw9 tw723) rfl rfl rfl (by decide +kernel) ⟨Nat.le_of_ble_eq_true rfl, Nat.le_of_ble_eq_true rfl⟩) ⟨mBl, va_recv hK hP (ci := 8) (q0 := 0) rfl rfl, fun U hU hW => ⟨rfl, mPr hP hK hD hN hU hW⟩⟩ rfl rfl hl.1 rfl (lv_room (Nat.le_of_ble_eq_true rfl)) d_Mod_handle_24 ⟨Nat.zero_le _, Nat.zero_le _⟩) hS (fun q _ h => hF_6 q h) hF_6 (fun u t H locs ht hvm hw hB hz1 hk1 hS => ?_)
    have hw := hw.symm
    subst hw
    obtain ⟨hP, hD⟩ := mAf hB ht hF_6
    refine lv_aload_n hx hb d_Mod_handle_27 rfl (lv_at hl 2 rfl) ?_
    refine lv_iconst (v := 0) hx hb d_Mod_handle_28 (by decide) ?_
    obtain ⟨d_7, ed_7, hj⟩ := nm_some hj
    refine va_put (D := (dC, dI)) (ci := 8) (v := .int (0 : Int32)) (ty := .int) (C := "CardMessageDeskModel") (T := T_Mod) (N := 32) hx hb hts in_Mod ty_Mod ty_Mod_ok nm_Mod hown hK hP hD hS 0 rfl rfl 5 (by decide) (hts _ tw505) (fun _ h9 => h9) rfl (by decide +kernel) rfl rfl (Nat.le_of_ble_eq_true rfl) d_Mod_handle_29 (fun H locs hP hD hS => ?_)
    have hP : va_P (dC, dI) vwCl (mw bd cb d_7) H := by rw [ed_7]; exact hP
    have hD : va_D A (mw bd cb d_7) := by rw [ed_7]; exact hD
    refine lv_iload_n hx hb d_Mod_handle_32 rfl (lv_at hl 0 rfl) ?_
    obtain ⟨rfl, rfl⟩ := rt_some hj
    exact W.iret hx hb hr (fun t ht hW => ⟨⟨_, _, rfl, ⟨rfl, rfl⟩, by rw [ht]; exact hP, va_K.moved hW.alike hK, hD⟩, hS.F ht⟩) hS.2.2 d_Mod_handle_33
set_option maxHeartbeats 4000000 in
set_option maxRecDepth 100000 in
theorem cm_M_reply (l : Launch) (dC : Nat → ClassId) (dI : Nat → Nat → Nat) (bd : Nat → Nat) (cb : Nat → ClassId) (sz : Nat) (d : MS) (p1 : Int32)  (r9 : Int32) (hj : jm_M_reply d p1 = some r9) : Met l y_Mod_reply w_Mod_reply ({ frames := 0, cells := 0, slots := 0, locals := 0 }) (va_Pc [.ref (bd 0), .int p1] (mPre dC dI bd cb sz d)) (va_Qi (fun (r : Int32) (u : MS) => r = r9 ∧ u = d) (mAt dC dI bd cb (va_A (mw bd cb d) sz)) (va_A (mw bd cb d) sz)) 0 0 (va_A (mw bd cb d) sz) := by
  refine Met.ofW (cc := prog_10_method_34_code) (maxL := 2) (ret := (some .int)) (by decide) rfl ?_
  intro p e s m args below meth c s₁ B hml hv
  obtain ⟨rfl, hsz, hP, hK, hD0, hN⟩ := hv
  have hx := B.exec
  have hb := B.bytes
  have hr := B.returns
  have hts0 := atoms_spec (ws := w_Mod_reply) B.pre
  have hts : ∀ w ∈ gt, w.before _ s = true := fun w h => hts0 w (List.mem_cons_of_mem _ h)
  have hown : s.vm.findClass "CardMessageDeskModel" = some m.cls := findClass_of_methodNamed B.named
  have hlocks := B.notSynchronized
  subst hsz
  have hD := hD0.self (sz := s.heap.size)
  generalize hAe : va_A (mw bd cb d) s.heap.size = A at hD ⊢
  have hA : ∀ q : Nat, s.heap.size ≤ q → A q := fun q h => by rw [← hAe]; exact Or.inr h
  have hS : va_S A s.heap s.heap [] := va_S.rf
  have hl := lv_entry ([.ref (bd 0), .int p1]) (n := 2) (Nat.le_of_ble_eq_true rfl)
  rw [lg_entry_eq]
  generalize (lg_sl ([.ref (bd 0), .int p1]) ++ List.replicate (2 - (lg_sl ([.ref (bd 0), .int p1])).length) Slot.unset).toArray = ls at hl ⊢
  have hl : lv_has ls 2 [(0, .ref (bd 0)), (1, .int p1)] := hl
  unfold jm_M_reply at hj
  refine lv_iload_n hx hb d_Mod_reply_0 rfl (lv_at hl 1 rfl) ?_
  refine lv_if_lt (tgt := 21) hx hb d_Mod_reply_1 (by decide) (fun c_1 => ?_) (fun c_1 => ?_)
  · have hj := it_p hj c_1
    refine lv_iconst (v := (-1)) hx hb d_Mod_reply_21 (by decide) ?_
    obtain rfl := Option.some.inj hj
    exact W.iret hx hb hr (fun t ht hW => ⟨⟨_, _, rfl, ⟨rfl, rfl⟩, by rw [ht]; exact hP, va_K.moved hW.alike hK, hD⟩, hS.F ht⟩) hS.2.2 d_Mod_reply_22
  · have hj := it_n hj c_1
    refine lv_iload_n hx hb d_Mod_reply_4 rfl (lv_at hl 1 rfl) ?_
    refine lv_aload_n hx hb d_Mod_reply_5 rfl (lv_at hl 0 rfl) ?_
    refine va_get (D := (dC, dI)) (ci := 8) (v := .int (mg_outs d)) (C := "CardMessageDeskModel") (T := T_Mod) (N := 32) hx hb hts in_Mod hown hK hP 0 rfl rfl 7 (by decide) (hts _ tw507) (fun _ h9 => h9) rfl d_Mod_reply_6 ?_
    refine lv_icmp_ge (tgt := 21) hx hb d_Mod_reply_9 (by decide) (fun c_2 => ?_) (fun c_2 => ?_)
    · have hj := it_p hj c_2
      refine lv_iconst (v := (-1)) hx hb d_Mod_reply_21 (by decide) ?_
      obtain rfl := Option.some.inj hj
      exact W.iret hx hb hr (fun t ht hW => ⟨⟨_, _, rfl, ⟨rfl, rfl⟩, by rw [ht]; exact hP, va_K.moved hW.alike hK, hD⟩, hS.F ht⟩) hS.2.2 d_Mod_reply_22
    · have hj := it_n hj c_2
      refine lv_aload_n hx hb d_Mod_reply_12 rfl (lv_at hl 0 rfl) ?_
      refine va_get (D := (dC, dI)) (ci := 8) (v := .ref (bd 4)) (C := "CardMessageDeskModel") (T := T_Mod) (N := 32) hx hb hts in_Mod hown hK hP 0 rfl rfl 6 (by decide) (hts _ tw506) (fun _ h9 => h9) rfl d_Mod_reply_13 ?_
      refine lv_iload_n hx hb d_Mod_reply_16 rfl (lv_at hl 1 rfl) ?_
      obtain ⟨hi_3, hj⟩ := gd_some hj
      refine va_iald hx hb hK hP 4 3 rfl rfl hi_3 d_Mod_reply_17 ?_
      refine lv_goto (tgt := 22) hx hb d_Mod_reply_18 (by decide) ?_
      obtain rfl := Option.some.inj hj
      exact W.iret hx hb hr (fun t ht hW => ⟨⟨_, _, rfl, ⟨rfl, rfl⟩, by rw [ht]; exact hP, va_K.moved hW.alike hK, hD⟩, hS.F ht⟩) hS.2.2 d_Mod_reply_22
set_option maxHeartbeats 4000000 in
set_option maxRecDepth 100000 in
theorem cm_M_entries (l : Launch) (dC : Nat → ClassId) (dI : Nat → Nat → Nat) (bd : Nat → Nat) (cb : Nat → ClassId) (sz : Nat) (d : MS)   (r9 : Int32) (hj : jm_M_entries d = some r9) : Met l y_Mod_entries w_Mod_entries ({ frames := 0, cells := 0, slots := 0, locals := 0 }) (va_Pc [.ref (bd 0)] (mPre dC dI bd cb sz d)) (va_Qi (fun (r : Int32) (u : MS) => r = r9 ∧ u = d) (mAt dC dI bd cb (va_A (mw bd cb d) sz)) (va_A (mw bd cb d) sz)) 0 0 (va_A (mw bd cb d) sz) := by
  refine Met.ofW (cc := prog_10_method_35_code) (maxL := 1) (ret := (some .int)) (by decide) rfl ?_
  intro p e s m args below meth c s₁ B hml hv
  obtain ⟨rfl, hsz, hP, hK, hD0, hN⟩ := hv
  have hx := B.exec
  have hb := B.bytes
  have hr := B.returns
  have hts0 := atoms_spec (ws := w_Mod_entries) B.pre
  have hts : ∀ w ∈ gt, w.before _ s = true := fun w h => hts0 w (List.mem_cons_of_mem _ h)
  have hown : s.vm.findClass "CardMessageDeskModel" = some m.cls := findClass_of_methodNamed B.named
  have hlocks := B.notSynchronized
  subst hsz
  have hD := hD0.self (sz := s.heap.size)
  generalize hAe : va_A (mw bd cb d) s.heap.size = A at hD ⊢
  have hA : ∀ q : Nat, s.heap.size ≤ q → A q := fun q h => by rw [← hAe]; exact Or.inr h
  have hS : va_S A s.heap s.heap [] := va_S.rf
  have hl := lv_entry ([.ref (bd 0)]) (n := 1) (Nat.le_of_ble_eq_true rfl)
  rw [lg_entry_eq]
  generalize (lg_sl ([.ref (bd 0)]) ++ List.replicate (1 - (lg_sl ([.ref (bd 0)])).length) Slot.unset).toArray = ls at hl ⊢
  have hl : lv_has ls 1 [(0, .ref (bd 0))] := hl
  unfold jm_M_entries at hj
  refine lv_aload_n hx hb d_Mod_entries_0 rfl (lv_at hl 0 rfl) ?_
  refine va_get (D := (dC, dI)) (ci := 8) (v := .int (mg_entries d)) (C := "CardMessageDeskModel") (T := T_Mod) (N := 32) hx hb hts in_Mod hown hK hP 0 rfl rfl 20 (by decide) (hts _ tw520) (fun _ h9 => h9) rfl d_Mod_entries_1 ?_
  obtain rfl := Option.some.inj hj
  exact W.iret hx hb hr (fun t ht hW => ⟨⟨_, _, rfl, ⟨rfl, rfl⟩, by rw [ht]; exact hP, va_K.moved hW.alike hK, hD⟩, hS.F ht⟩) hS.2.2 d_Mod_entries_4
set_option maxHeartbeats 4000000 in
set_option maxRecDepth 100000 in
theorem cm_M_entry (l : Launch) (dC : Nat → ClassId) (dI : Nat → Nat → Nat) (bd : Nat → Nat) (cb : Nat → ClassId) (sz : Nat) (d : MS) (p1 : Int32) (p2 : Int32)  (r9 : Int32) (hj : jm_M_entry d p1 p2 = some r9) : Met l y_Mod_entry w_Mod_entry ({ frames := 1, cells := 0, slots := 0, locals := 21 }) (va_Pc [.ref (bd 0), .int p1, .int p2] (mPre dC dI bd cb sz d)) (va_Qi (fun (r : Int32) (u : MS) => r = r9 ∧ u = d) (mAt dC dI bd cb (va_A (mw bd cb d) sz)) (va_A (mw bd cb d) sz)) 0 0 (va_A (mw bd cb d) sz) := by
  refine Met.ofW (cc := prog_10_method_36_code) (maxL := 3) (ret := (some .int)) (by decide) rfl ?_
  intro p e s m args below meth c s₁ B hml hv
  obtain ⟨rfl, hsz, hP, hK, hD0, hN⟩ := hv
  have hx := B.exec
  have hb := B.bytes
  have hr := B.returns
  have hts0 := atoms_spec (ws := w_Mod_entry) B.pre
  have hts : ∀ w ∈ gt, w.before _ s = true := fun w h => hts0 w (List.mem_cons_of_mem _ h)
  have hown : s.vm.findClass "CardMessageDeskModel" = some m.cls := findClass_of_methodNamed B.named
  have hlocks := B.notSynchronized
  subst hsz
  have hD := hD0.self (sz := s.heap.size)
  generalize hAe : va_A (mw bd cb d) s.heap.size = A at hD ⊢
  have hA : ∀ q : Nat, s.heap.size ≤ q → A q := fun q h => by rw [← hAe]; exact Or.inr h
  have hS : va_S A s.heap s.heap [] := va_S.rf
  have hl := lv_entry ([.ref (bd 0), .int p1, .int p2]) (n := 3) (Nat.le_of_ble_eq_true rfl)
  rw [lg_entry_eq]
  generalize (lg_sl ([.ref (bd 0), .int p1, .int p2]) ++ List.replicate (3 - (lg_sl ([.ref (bd 0), .int p1, .int p2])).length) Slot.unset).toArray = ls at hl ⊢
  have hl : lv_has ls 3 [(0, .ref (bd 0)), (1, .int p1), (2, .int p2)] := hl
  unfold jm_M_entry at hj
  refine lv_iload_n hx hb d_Mod_entry_0 rfl (lv_at hl 1 rfl) ?_
  refine lv_if_lt (tgt := 21) hx hb d_Mod_entry_1 (by decide) (fun c_1 => ?_) (fun c_1 => ?_)
  · have hj := it_p hj c_1
    refine lv_iconst (v := (-1)) hx hb d_Mod_entry_21 (by decide) ?_
    obtain rfl := Option.some.inj hj
    exact W.iret hx hb hr (fun t ht hW => ⟨⟨_, _, rfl, ⟨rfl, rfl⟩, by rw [ht]; exact hP, va_K.moved hW.alike hK, hD⟩, hS.F ht⟩) hS.2.2 d_Mod_entry_22
  · have hj := it_n hj c_1
    refine lv_iload_n hx hb d_Mod_entry_4 rfl (lv_at hl 1 rfl) ?_
    refine lv_aload_n hx hb d_Mod_entry_5 rfl (lv_at hl 0 rfl) ?_
    refine va_get (D := (dC, dI)) (ci := 8) (v := .int (mg_entries d)) (C := "CardMessageDeskModel") (T := T_Mod) (N := 32) hx hb hts in_Mod hown hK hP 0 rfl rfl 20 (by decide) (hts _ tw520) (fun _ h9 => h9) rfl d_Mod_entry_6 ?_
    refine lv_icmp_ge (tgt := 21) hx hb d_Mod_entry_9 (by decide) (fun c_2 => ?_) (fun c_2 => ?_)
    · have hj := it_p hj c_2
      refine lv_iconst (v := (-1)) hx hb d_Mod_entry_21 (by decide) ?_
      obtain rfl := Option.some.inj hj
      exact W.iret hx hb hr (fun t ht hW => ⟨⟨_, _, rfl, ⟨rfl, rfl⟩, by rw [ht]; exact hP, va_K.moved hW.alike hK, hD⟩, hS.F ht⟩) hS.2.2 d_Mod_entry_22
    · have hj := it_n hj c_2
      refine lv_iload_n hx hb d_Mod_entry_12 rfl (lv_at hl 2 rfl) ?_
      refine lv_if_lt (tgt := 21) hx hb d_Mod_entry_13 (by decide) (fun c_3 => ?_) (fun c_3 => ?_)
      · have hj := it_p hj c_3
        refine lv_iconst (v := (-1)) hx hb d_Mod_entry_21 (by decide) ?_
        obtain rfl := Option.some.inj hj
        exact W.iret hx hb hr (fun t ht hW => ⟨⟨_, _, rfl, ⟨rfl, rfl⟩, by rw [ht]; exact hP, va_K.moved hW.alike hK, hD⟩, hS.F ht⟩) hS.2.2 d_Mod_entry_22
      · have hj := it_n hj c_3
        refine lv_iload_n hx hb d_Mod_entry_16 rfl (lv_at hl 2 rfl) ?_
        refine lv_iconst (v := 3) hx hb d_Mod_entry_17 (by decide) ?_
        refine lv_icmp_le (tgt := 23) hx hb d_Mod_entry_18 (by decide) (fun c_4 => ?_) (fun c_4 => ?_)
        · have hj := it_p hj c_4
          refine lv_iload_n hx hb d_Mod_entry_23 rfl (lv_at hl 2 rfl) ?_
          refine lv_if_ne (tgt := 36) hx hb d_Mod_entry_24 (by decide) (fun c_5 => ?_) (fun c_5 => ?_)
          · have hj := it_n hj c_5
            refine lv_iload_n hx hb d_Mod_entry_36 rfl (lv_at hl 2 rfl) ?_
            refine lv_iconst (v := 1) hx hb d_Mod_entry_37 (by decide) ?_
            refine lv_icmp_ne (tgt := 50) hx hb d_Mod_entry_38 (by decide) (fun c_6 => ?_) (fun c_6 => ?_)
            · have hj := it_n hj c_6
              refine lv_iload_n hx hb d_Mod_entry_50 rfl (lv_at hl 2 rfl) ?_
              refine lv_iconst (v := 2) hx hb d_Mod_entry_51 (by decide) ?_
              refine lv_icmp_ne (tgt := 64) hx hb d_Mod_entry_52 (by decide) (fun c_7 => ?_) (fun c_7 => ?_)
              · have hj := it_n hj c_7
                refine lv_aload_n hx hb d_Mod_entry_64 rfl (lv_at hl 0 rfl) ?_
                refine va_get (D := (dC, dI)) (ci := 8) (v := .ref (bd 15)) (C := "CardMessageDeskModel") (T := T_Mod) (N := 32) hx hb hts in_Mod hown hK hP 0 rfl rfl 28 (by decide) (hts _ tw528) (fun _ h9 => h9) rfl d_Mod_entry_65 ?_
                refine lv_iload_n hx hb d_Mod_entry_68 rfl (lv_at hl 1 rfl) ?_
                obtain ⟨hi_8, hj⟩ := gd_some hj
                refine va_iald hx hb hK hP 15 14 rfl rfl hi_8 d_Mod_entry_69 ?_
                refine lv_iconst (v := 1) hx hb d_Mod_entry_70 (by decide) ?_
                refine lv_icmp_ne (tgt := 86) hx hb d_Mod_entry_71 (by decide) (fun c_9 => ?_) (fun c_9 => ?_)
                · have hj := it_n hj c_9
                  refine lv_aload_n hx hb d_Mod_entry_86 rfl (lv_at hl 0 rfl) ?_
                  refine va_get (D := (dC, dI)) (ci := 8) (v := .ref (bd 15)) (C := "CardMessageDeskModel") (T := T_Mod) (N := 32) hx hb hts in_Mod hown hK hP 0 rfl rfl 28 (by decide) (hts _ tw528) (fun _ h9 => h9) rfl d_Mod_entry_87 ?_
                  refine lv_iload_n hx hb d_Mod_entry_90 rfl (lv_at hl 1 rfl) ?_
                  obtain ⟨hi_10, hj⟩ := gd_some hj
                  refine va_iald hx hb hK hP 15 14 rfl rfl hi_10 d_Mod_entry_91 ?_
                  obtain rfl := Option.some.inj hj
                  exact W.iret hx hb hr (fun t ht hW => ⟨⟨_, _, rfl, ⟨rfl, rfl⟩, by rw [ht]; exact hP, va_K.moved hW.alike hK, hD⟩, hS.F ht⟩) hS.2.2 d_Mod_entry_92
                · have hj := it_p hj c_9
                  refine lv_aload_n hx hb d_Mod_entry_74 rfl (lv_at hl 0 rfl) ?_
                  refine lv_iload_n hx hb d_Mod_entry_75 rfl (lv_at hl 1 rfl) ?_
                  obtain ⟨v_11, hc_11, hj⟩ := bd_some hj
                  have hF_11 := va_fr hD hS hA
                  refine va_calli (va_runV (As := [.int p1]) (rest := []) ⟨hx, hb, hml, hown, hts⟩ (cm_M_isHold l dC dI bd cb s.heap.size d p1  v_11 hc_11) (cwV 1 hts (gtV tw618 tw620 ts14 tw9 tw621) rfl rfl rfl (by decide +kernel) ⟨Nat.le_of_ble_eq_true rfl, Nat.le_of_ble_eq_true rfl⟩) ⟨mBl, va_recv hK hP (ci := 8) (q0 := 0) rfl rfl, fun U hU hW => ⟨rfl, mPr hP hK hD hN hU hW⟩⟩ rfl rfl hl.1 rfl (lv_room (Nat.le_of_ble_eq_true rfl)) d_Mod_entry_76 ⟨Nat.zero_le _, Nat.zero_le _⟩) hS (fun q _ h => hF_11 q h) hF_11 (fun r u t H locs ht hvm hw hB hz1 hk1 hS => ?_)
                  obtain ⟨hw1, hw2⟩ := hw
                  have hw1 := hw1.symm
                  subst hw1
                  have hw2 := hw2.symm
                  subst hw2
                  obtain ⟨hP, hD⟩ := mAf hB ht hF_11
                  refine lv_if_ne (tgt := 86) hx hb d_Mod_entry_79 (by decide) (fun c_12 => ?_) (fun c_12 => ?_)
                  · have hj := it_n hj c_12
                    refine lv_aload_n hx hb d_Mod_entry_86 rfl (lv_at hl 0 rfl) ?_
                    refine va_get (D := (dC, dI)) (ci := 8) (v := .ref (bd 15)) (C := "CardMessageDeskModel") (T := T_Mod) (N := 32) hx hb hts in_Mod hown hK hP 0 rfl rfl 28 (by decide) (hts _ tw528) (fun _ h9 => h9) rfl d_Mod_entry_87 ?_
                    refine lv_iload_n hx hb d_Mod_entry_90 rfl (lv_at hl 1 rfl) ?_
                    obtain ⟨hi_13, hj⟩ := gd_some hj
                    refine va_iald hx hb hK hP 15 14 rfl rfl hi_13 d_Mod_entry_91 ?_
                    obtain rfl := Option.some.inj hj
                    exact W.iret hx hb hr (fun t ht hW => ⟨⟨_, _, rfl, ⟨rfl, rfl⟩, by rw [ht]; exact hP, va_K.moved hW.alike hK, hD⟩, hS.F ht⟩) hS.2.2 d_Mod_entry_92
                  · have hj := it_p hj c_12
                    refine lv_iconst (v := 0) hx hb d_Mod_entry_82 (by decide) ?_
                    refine lv_goto (tgt := 92) hx hb d_Mod_entry_83 (by decide) ?_
                    obtain rfl := Option.some.inj hj
                    exact W.iret hx hb hr (fun t ht hW => ⟨⟨_, _, rfl, ⟨rfl, rfl⟩, by rw [ht]; exact hP, va_K.moved hW.alike hK, hD⟩, hS.F ht⟩) hS.2.2 d_Mod_entry_92
              · have hj := it_p hj c_7
                refine lv_aload_n hx hb d_Mod_entry_55 rfl (lv_at hl 0 rfl) ?_
                refine va_get (D := (dC, dI)) (ci := 8) (v := .ref (bd 14)) (C := "CardMessageDeskModel") (T := T_Mod) (N := 32) hx hb hts in_Mod hown hK hP 0 rfl rfl 27 (by decide) (hts _ tw527) (fun _ h9 => h9) rfl d_Mod_entry_56 ?_
                refine lv_iload_n hx hb d_Mod_entry_59 rfl (lv_at hl 1 rfl) ?_
                obtain ⟨hi_14, hj⟩ := gd_some hj
                refine va_iald hx hb hK hP 14 13 rfl rfl hi_14 d_Mod_entry_60 ?_
                refine lv_goto (tgt := 92) hx hb d_Mod_entry_61 (by decide) ?_
                obtain rfl := Option.some.inj hj
                exact W.iret hx hb hr (fun t ht hW => ⟨⟨_, _, rfl, ⟨rfl, rfl⟩, by rw [ht]; exact hP, va_K.moved hW.alike hK, hD⟩, hS.F ht⟩) hS.2.2 d_Mod_entry_92
            · have hj := it_p hj c_6
              refine lv_aload_n hx hb d_Mod_entry_41 rfl (lv_at hl 0 rfl) ?_
              refine va_get (D := (dC, dI)) (ci := 8) (v := .ref (bd 10)) (C := "CardMessageDeskModel") (T := T_Mod) (N := 32) hx hb hts in_Mod hown hK hP 0 rfl rfl 23 (by decide) (hts _ tw523) (fun _ h9 => h9) rfl d_Mod_entry_42 ?_
              refine lv_iload_n hx hb d_Mod_entry_45 rfl (lv_at hl 1 rfl) ?_
              obtain ⟨hi_15, hj⟩ := gd_some hj
              refine va_iald hx hb hK hP 10 9 rfl rfl hi_15 d_Mod_entry_46 ?_
              refine lv_goto (tgt := 92) hx hb d_Mod_entry_47 (by decide) ?_
              obtain rfl := Option.some.inj hj
              exact W.iret hx hb hr (fun t ht hW => ⟨⟨_, _, rfl, ⟨rfl, rfl⟩, by rw [ht]; exact hP, va_K.moved hW.alike hK, hD⟩, hS.F ht⟩) hS.2.2 d_Mod_entry_92
          · have hj := it_p hj c_5
            refine lv_aload_n hx hb d_Mod_entry_27 rfl (lv_at hl 0 rfl) ?_
            refine va_get (D := (dC, dI)) (ci := 8) (v := .ref (bd 8)) (C := "CardMessageDeskModel") (T := T_Mod) (N := 32) hx hb hts in_Mod hown hK hP 0 rfl rfl 21 (by decide) (hts _ tw521) (fun _ h9 => h9) rfl d_Mod_entry_28 ?_
            refine lv_iload_n hx hb d_Mod_entry_31 rfl (lv_at hl 1 rfl) ?_
            obtain ⟨hi_16, hj⟩ := gd_some hj
            refine va_iald hx hb hK hP 8 7 rfl rfl hi_16 d_Mod_entry_32 ?_
            refine lv_goto (tgt := 92) hx hb d_Mod_entry_33 (by decide) ?_
            obtain rfl := Option.some.inj hj
            exact W.iret hx hb hr (fun t ht hW => ⟨⟨_, _, rfl, ⟨rfl, rfl⟩, by rw [ht]; exact hP, va_K.moved hW.alike hK, hD⟩, hS.F ht⟩) hS.2.2 d_Mod_entry_92
        · have hj := it_n hj c_4
          refine lv_iconst (v := (-1)) hx hb d_Mod_entry_21 (by decide) ?_
          obtain rfl := Option.some.inj hj
          exact W.iret hx hb hr (fun t ht hW => ⟨⟨_, _, rfl, ⟨rfl, rfl⟩, by rw [ht]; exact hP, va_K.moved hW.alike hK, hD⟩, hS.F ht⟩) hS.2.2 d_Mod_entry_22
