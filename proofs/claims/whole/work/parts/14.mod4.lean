set_option maxHeartbeats 4000000 in
set_option maxRecDepth 100000 in
theorem cm_M_payment_B45 {p : Program} {l : Launch} {e : Env} {s : State} {m : MethodId} {args : Array Value} {below : List Frame} {meth : Method} {c : Code} {dC : Nat → ClassId} {dI : Nat → Nat → Nat} {bd : Nat → Nat} {cb : Nat → ClassId} {A : Nat → Prop} (d : MS) (x2 : Int32)  (r9 : Int32) (hx : p.tables.exec = Jvm.exec) (hb : c.code = prog_10_method_21_code) (hr : meth.sig.returnType = (some .int)) (hlocks : meth.locks = false) (hml : c.maxLocals = 4) (hown : s.vm.findClass "CardMessageDeskModel" = some m.cls) (hts : ∀ w ∈ gt, w.before args s = true) (hN : nw s) (hA : ∀ q : Nat, s.heap.size ≤ q → A q) (hK : va_K (dC, dI) vwCl (mT cb) s)
    (H : Heap) (locs : List Loc) (ls : Array Slot) (hj : jm_M_payment_B45 d x2 = some r9) (hP : va_P (dC, dI) vwCl (mw bd cb d) H) (hD : va_D A (mw bd cb d)) (hS : va_S A s.heap H locs) (hl : lv_has ls 4 [(0, .ref (bd 0)), (2, .int x2)]) : W p l e ({ frames := 2, cells := 0, slots := 0, locals := 49 }) s m args below meth c H locs 0 0 (MQ below (va_Qi (fun (r : Int32) (u : MS) => r = r9 ∧ u = d) (mAt dC dI bd cb A) A) args s 0 0 A) (F0 m 45 ls []) := by
  unfold jm_M_payment_B45 at hj
  refine lv_iload_n hx hb d_Mod_payment_45 rfl (lv_at hl 1 rfl) ?_
  refine lv_bipush (v := 20) hx hb d_Mod_payment_46 (by decide) ?_
  refine lv_icmp_ne (tgt := 53) hx hb d_Mod_payment_48 (by decide) (fun c_4 => ?_) (fun c_4 => ?_)
  · have hj := it_n hj c_4
    refine lv_aload_n hx hb d_Mod_payment_53 rfl (lv_at hl 0 rfl) ?_
    refine va_get (D := (dC, dI)) (ci := 8) (v := .ref (bd 5)) (C := "CardMessageDeskModel") (T := T_Mod) (N := 32) hx hb hts in_Mod hown hK hP 0 rfl rfl 10 (by decide) (hts _ tw510) (fun _ h9 => h9) rfl d_Mod_payment_54 ?_
    refine lv_bipush (v := 56) hx hb d_Mod_payment_57 (by decide) ?_
    obtain ⟨hi_5, hj⟩ := gd_some hj
    refine va_zald hx hb hK hP 5 4 rfl rfl hi_5 d_Mod_payment_59 ?_
    refine lv_if_ne (tgt := 86) hx hb d_Mod_payment_60 (by decide) (fun c_6 => ?_) (fun c_6 => ?_)
    · have hj := it_n hj c_6
      refine lv_aload_n hx hb d_Mod_payment_86 rfl (lv_at hl 0 rfl) ?_
      refine lv_bipush (v := 100) hx hb d_Mod_payment_87 (by decide) ?_
      refine lv_aload_n hx hb d_Mod_payment_89 rfl (lv_at hl 0 rfl) ?_
      refine va_get (D := (dC, dI)) (ci := 8) (v := .int (mg_original d)) (C := "CardMessageDeskModel") (T := T_Mod) (N := 32) hx hb hts in_Mod hown hK hP 0 rfl rfl 19 (by decide) (hts _ tw519) (fun _ h9 => h9) rfl d_Mod_payment_90 ?_
      obtain ⟨v_7, hc_7, hj⟩ := bd_some hj
      have hF_7 := va_fr hD hS hA
      refine va_calli (va_runV (As := [.int (100 : Int32), .int (mg_original d)]) (rest := []) ⟨hx, hb, hml, hown, hts⟩ (cm_M_same l dC dI bd cb H.size d (100 : Int32) (mg_original d)  v_7 hc_7) (cwV 2 hts (gtV tw679 tw681 ts25 tw9 tw682) rfl rfl rfl (by decide +kernel) ⟨Nat.le_of_ble_eq_true rfl, Nat.le_of_ble_eq_true rfl⟩) ⟨mBl, va_recv hK hP (ci := 8) (q0 := 0) rfl rfl, fun U hU hW => ⟨rfl, mPr hP hK hD hN hU hW⟩⟩ rfl rfl hl.1 rfl (lv_room (Nat.le_of_ble_eq_true rfl)) d_Mod_payment_93 ⟨Nat.zero_le _, Nat.zero_le _⟩) hS (fun q _ h => hF_7 q h) hF_7 (fun r u t H locs ht hvm hw hB hz1 hk1 hS => ?_)
      obtain ⟨hw1, hw2⟩ := hw
      have hw1 := hw1.symm
      subst hw1
      have hw2 := hw2.symm
      subst hw2
      obtain ⟨hP, hD⟩ := mAf hB ht hF_7
      refine lv_istore_n (lv' := [(3, .int v_7), (0, .ref (bd 0)), (2, .int x2)]) hx hb d_Mod_payment_96 rfl hl (by decide) rfl (fun ls hl => ?_)
      refine lv_iload_n hx hb d_Mod_payment_97 rfl (lv_at hl 0 rfl) ?_
      refine lv_if_lt (tgt := 123) hx hb d_Mod_payment_98 (by decide) (fun c_8 => ?_) (fun c_8 => ?_)
      · have hj := it_p hj c_8
        refine lv_bipush (v := 25) hx hb d_Mod_payment_123 (by decide) ?_
        obtain rfl := Option.some.inj hj
        exact W.iret hx hb hr (fun t ht hW => ⟨⟨_, _, rfl, ⟨rfl, rfl⟩, by rw [ht]; exact hP, va_K.moved hW.alike hK, hD⟩, hS.F ht⟩) hS.2.2 d_Mod_payment_125
      · have hj := it_n hj c_8
        refine lv_aload_n hx hb d_Mod_payment_101 rfl (lv_at hl 1 rfl) ?_
        refine lv_iload_n hx hb d_Mod_payment_102 rfl (lv_at hl 0 rfl) ?_
        obtain ⟨v_9, hc_9, hj⟩ := bd_some hj
        have hF_9 := va_fr hD hS hA
        refine va_calli (va_runV (As := [.int v_7]) (rest := []) ⟨hx, hb, hml, hown, hts⟩ (cm_M_isHold l dC dI bd cb H.size d v_7  v_9 hc_9) (cwV 1 hts (gtV tw618 tw620 ts14 tw9 tw621) rfl rfl rfl (by decide +kernel) ⟨Nat.le_of_ble_eq_true rfl, Nat.le_of_ble_eq_true rfl⟩) ⟨mBl, va_recv hK hP (ci := 8) (q0 := 0) rfl rfl, fun U hU hW => ⟨rfl, mPr hP hK hD hN hU hW⟩⟩ rfl rfl hl.1 rfl (lv_room (Nat.le_of_ble_eq_true rfl)) d_Mod_payment_103 ⟨Nat.zero_le _, Nat.zero_le _⟩) hS (fun q _ h => hF_9 q h) hF_9 (fun r u t H locs ht hvm hw hB hz1 hk1 hS => ?_)
        obtain ⟨hw1, hw2⟩ := hw
        have hw1 := hw1.symm
        subst hw1
        have hw2 := hw2.symm
        subst hw2
        obtain ⟨hP, hD⟩ := mAf hB ht hF_9
        refine lv_if_eq (tgt := 123) hx hb d_Mod_payment_106 (by decide) (fun c_10 => ?_) (fun c_10 => ?_)
        · have hj := it_p hj c_10
          refine lv_bipush (v := 25) hx hb d_Mod_payment_123 (by decide) ?_
          obtain rfl := Option.some.inj hj
          exact W.iret hx hb hr (fun t ht hW => ⟨⟨_, _, rfl, ⟨rfl, rfl⟩, by rw [ht]; exact hP, va_K.moved hW.alike hK, hD⟩, hS.F ht⟩) hS.2.2 d_Mod_payment_125
        · have hj := it_n hj c_10
          refine lv_aload_n hx hb d_Mod_payment_109 rfl (lv_at hl 1 rfl) ?_
          refine va_get (D := (dC, dI)) (ci := 8) (v := .ref (bd 11)) (C := "CardMessageDeskModel") (T := T_Mod) (N := 32) hx hb hts in_Mod hown hK hP 0 rfl rfl 24 (by decide) (hts _ tw524) (fun _ h9 => h9) rfl d_Mod_payment_110 ?_
          refine lv_iload_n hx hb d_Mod_payment_113 rfl (lv_at hl 0 rfl) ?_
          obtain ⟨hi_11, hj⟩ := gd_some hj
          refine va_lald hx hb hK hP 11 10 rfl rfl hi_11 d_Mod_payment_114 ?_
          refine lv_aload_n hx hb d_Mod_payment_115 rfl (lv_at hl 1 rfl) ?_
          refine va_get (D := (dC, dI)) (ci := 8) (v := .long (mg_card d)) (C := "CardMessageDeskModel") (T := T_Mod) (N := 32) hx hb hts in_Mod hown hK hP 0 rfl rfl 14 (by decide) (hts _ tw514) (fun _ h9 => h9) rfl d_Mod_payment_116 ?_
          refine W.lcmp hx hb d_Mod_payment_119 ?_
          refine lv_if_eq (tgt := 126) hx hb d_Mod_payment_120 (by decide) (fun c_12 => ?_) (fun c_12 => ?_)
          · have hj := it_p hj (lc_eq.mp c_12)
            refine lv_aload_n hx hb d_Mod_payment_126 rfl (lv_at hl 1 rfl) ?_
            refine va_get (D := (dC, dI)) (ci := 8) (v := .long (mg_amount d)) (C := "CardMessageDeskModel") (T := T_Mod) (N := 32) hx hb hts in_Mod hown hK hP 0 rfl rfl 16 (by decide) (hts _ tw516) (fun _ h9 => h9) rfl d_Mod_payment_127 ?_
            refine lv_aload_n hx hb d_Mod_payment_130 rfl (lv_at hl 1 rfl) ?_
            refine va_get (D := (dC, dI)) (ci := 8) (v := .ref (bd 13)) (C := "CardMessageDeskModel") (T := T_Mod) (N := 32) hx hb hts in_Mod hown hK hP 0 rfl rfl 26 (by decide) (hts _ tw526) (fun _ h9 => h9) rfl d_Mod_payment_131 ?_
            refine lv_iload_n hx hb d_Mod_payment_134 rfl (lv_at hl 0 rfl) ?_
            obtain ⟨hi_13, hj⟩ := gd_some hj
            refine va_lald hx hb hK hP 13 12 rfl rfl hi_13 d_Mod_payment_135 ?_
            refine W.lcmp hx hb d_Mod_payment_136 ?_
            refine lv_if_le (tgt := 145) hx hb d_Mod_payment_137 (by decide) (fun c_14 => ?_) (fun c_14 => ?_)
            · have hj := it_p hj (lc_le.mp c_14)
              refine lv_iconst (v := 0) hx hb d_Mod_payment_145 (by decide) ?_
              obtain rfl := Option.some.inj hj
              exact W.iret hx hb hr (fun t ht hW => ⟨⟨_, _, rfl, ⟨rfl, rfl⟩, by rw [ht]; exact hP, va_K.moved hW.alike hK, hD⟩, hS.F ht⟩) hS.2.2 d_Mod_payment_146
            · have hj := it_n hj (fun z => c_14 (lc_le.mpr z))
              refine lv_bipush (v := 51) hx hb d_Mod_payment_140 (by decide) ?_
              refine lv_goto (tgt := 146) hx hb d_Mod_payment_142 (by decide) ?_
              obtain rfl := Option.some.inj hj
              exact W.iret hx hb hr (fun t ht hW => ⟨⟨_, _, rfl, ⟨rfl, rfl⟩, by rw [ht]; exact hP, va_K.moved hW.alike hK, hD⟩, hS.F ht⟩) hS.2.2 d_Mod_payment_146
          · have hj := it_n hj (fun z => c_12 (lc_eq.mpr z))
            refine lv_bipush (v := 25) hx hb d_Mod_payment_123 (by decide) ?_
            obtain rfl := Option.some.inj hj
            exact W.iret hx hb hr (fun t ht hW => ⟨⟨_, _, rfl, ⟨rfl, rfl⟩, by rw [ht]; exact hP, va_K.moved hW.alike hK, hD⟩, hS.F ht⟩) hS.2.2 d_Mod_payment_125
    · have hj := it_p hj c_6
      refine lv_aload_n hx hb d_Mod_payment_63 rfl (lv_at hl 0 rfl) ?_
      refine va_get (D := (dC, dI)) (ci := 8) (v := .long (mg_amount d)) (C := "CardMessageDeskModel") (T := T_Mod) (N := 32) hx hb hts in_Mod hown hK hP 0 rfl rfl 16 (by decide) (hts _ tw516) (fun _ h9 => h9) rfl d_Mod_payment_64 ?_
      refine lv_aload_n hx hb d_Mod_payment_67 rfl (lv_at hl 0 rfl) ?_
      refine lv_aload_n hx hb d_Mod_payment_68 rfl (lv_at hl 0 rfl) ?_
      refine va_get (D := (dC, dI)) (ci := 8) (v := .long (mg_card d)) (C := "CardMessageDeskModel") (T := T_Mod) (N := 32) hx hb hts in_Mod hown hK hP 0 rfl rfl 14 (by decide) (hts _ tw514) (fun _ h9 => h9) rfl d_Mod_payment_69 ?_
      obtain ⟨v_15, hc_15, hj⟩ := bd_some hj
      have hF_15 := va_fr hD hS hA
      refine va_calll (va_runV (As := [.long (mg_card d)]) (rest := [.long (mg_amount d)]) ⟨hx, hb, hml, hown, hts⟩ (cm_M_available l dC dI bd cb H.size d (mg_card d)  v_15 hc_15) (cwV 1 hts (gtV tw687 tw615 tw616 tw9 tw617) rfl rfl rfl (by decide +kernel) ⟨Nat.le_of_ble_eq_true rfl, Nat.le_of_ble_eq_true rfl⟩) ⟨mBl, va_recv hK hP (ci := 8) (q0 := 0) rfl rfl, fun U hU hW => ⟨rfl, mPr hP hK hD hN hU hW⟩⟩ rfl rfl hl.1 rfl (lv_room (Nat.le_of_ble_eq_true rfl)) d_Mod_payment_72 ⟨Nat.zero_le _, Nat.zero_le _⟩) hS (fun q _ h => hF_15 q h) hF_15 (fun r u t H locs ht hvm hw hB hz1 hk1 hS => ?_)
      obtain ⟨hw1, hw2⟩ := hw
      have hw1 := hw1.symm
      subst hw1
      have hw2 := hw2.symm
      subst hw2
      obtain ⟨hP, hD⟩ := mAf hB ht hF_15
      refine W.lcmp hx hb d_Mod_payment_75 ?_
      refine lv_if_le (tgt := 84) hx hb d_Mod_payment_76 (by decide) (fun c_16 => ?_) (fun c_16 => ?_)
      · have hj := it_p hj (lc_le.mp c_16)
        refine lv_iconst (v := 0) hx hb d_Mod_payment_84 (by decide) ?_
        obtain rfl := Option.some.inj hj
        exact W.iret hx hb hr (fun t ht hW => ⟨⟨_, _, rfl, ⟨rfl, rfl⟩, by rw [ht]; exact hP, va_K.moved hW.alike hK, hD⟩, hS.F ht⟩) hS.2.2 d_Mod_payment_85
      · have hj := it_n hj (fun z => c_16 (lc_le.mpr z))
        refine lv_bipush (v := 51) hx hb d_Mod_payment_79 (by decide) ?_
        refine lv_goto (tgt := 85) hx hb d_Mod_payment_81 (by decide) ?_
        obtain rfl := Option.some.inj hj
        exact W.iret hx hb hr (fun t ht hW => ⟨⟨_, _, rfl, ⟨rfl, rfl⟩, by rw [ht]; exact hP, va_K.moved hW.alike hK, hD⟩, hS.F ht⟩) hS.2.2 d_Mod_payment_85
  · have hj := it_p hj c_4
    refine lv_iconst (v := 0) hx hb d_Mod_payment_51 (by decide) ?_
    obtain rfl := Option.some.inj hj
    exact W.iret hx hb hr (fun t ht hW => ⟨⟨_, _, rfl, ⟨rfl, rfl⟩, by rw [ht]; exact hP, va_K.moved hW.alike hK, hD⟩, hS.F ht⟩) hS.2.2 d_Mod_payment_52
set_option maxHeartbeats 4000000 in
set_option maxRecDepth 100000 in
theorem cm_M_payment_B26 {p : Program} {l : Launch} {e : Env} {s : State} {m : MethodId} {args : Array Value} {below : List Frame} {meth : Method} {c : Code} {dC : Nat → ClassId} {dI : Nat → Nat → Nat} {bd : Nat → Nat} {cb : Nat → ClassId} {A : Nat → Prop} (d : MS) (x2 : Int32)  (r9 : Int32) (hx : p.tables.exec = Jvm.exec) (hb : c.code = prog_10_method_21_code) (hr : meth.sig.returnType = (some .int)) (hlocks : meth.locks = false) (hml : c.maxLocals = 4) (hown : s.vm.findClass "CardMessageDeskModel" = some m.cls) (hts : ∀ w ∈ gt, w.before args s = true) (hN : nw s) (hA : ∀ q : Nat, s.heap.size ≤ q → A q) (hK : va_K (dC, dI) vwCl (mT cb) s)
    (H : Heap) (locs : List Loc) (ls : Array Slot) (hj : jm_M_payment_B26 d x2 = some r9) (hP : va_P (dC, dI) vwCl (mw bd cb d) H) (hD : va_D A (mw bd cb d)) (hS : va_S A s.heap H locs) (hl : lv_has ls 4 [(0, .ref (bd 0)), (2, .int x2)]) : W p l e ({ frames := 2, cells := 0, slots := 0, locals := 49 }) s m args below meth c H locs 0 0 (MQ below (va_Qi (fun (r : Int32) (u : MS) => r = r9 ∧ u = d) (mAt dC dI bd cb A) A) args s 0 0 A) (F0 m 26 ls []) := by
  unfold jm_M_payment_B26 at hj
  refine lv_iload_n hx hb d_Mod_payment_26 rfl (lv_at hl 1 rfl) ?_
  refine lv_bipush (v := 20) hx hb d_Mod_payment_27 (by decide) ?_
  refine lv_icmp_ne (tgt := 45) hx hb d_Mod_payment_29 (by decide) (fun c_3 => ?_) (fun c_3 => ?_)
  · have hj := it_n hj c_3
    exact cm_M_payment_B45 d x2  _ hx hb hr hlocks hml hown hts hN hA hK _ _ ls hj hP hD hS (lv_sub hl [0, 1] rfl)
  · have hj := it_p hj c_3
    refine lv_aload_n hx hb d_Mod_payment_32 rfl (lv_at hl 0 rfl) ?_
    refine va_get (D := (dC, dI)) (ci := 8) (v := .ref (bd 5)) (C := "CardMessageDeskModel") (T := T_Mod) (N := 32) hx hb hts in_Mod hown hK hP 0 rfl rfl 10 (by decide) (hts _ tw510) (fun _ h9 => h9) rfl d_Mod_payment_33 ?_
    refine lv_bipush (v := 56) hx hb d_Mod_payment_36 (by decide) ?_
    obtain ⟨hi_4, hj⟩ := gd_some hj
    refine va_zald hx hb hK hP 5 4 rfl rfl hi_4 d_Mod_payment_38 ?_
    refine lv_if_eq (tgt := 45) hx hb d_Mod_payment_39 (by decide) (fun c_5 => ?_) (fun c_5 => ?_)
    · have hj := it_p hj c_5
      exact cm_M_payment_B45 d x2  _ hx hb hr hlocks hml hown hts hN hA hK _ _ ls hj hP hD hS (lv_sub hl [0, 1] rfl)
    · have hj := it_n hj c_5
      refine lv_bipush (v := 12) hx hb d_Mod_payment_42 (by decide) ?_
      obtain rfl := Option.some.inj hj
      exact W.iret hx hb hr (fun t ht hW => ⟨⟨_, _, rfl, ⟨rfl, rfl⟩, by rw [ht]; exact hP, va_K.moved hW.alike hK, hD⟩, hS.F ht⟩) hS.2.2 d_Mod_payment_44
set_option maxHeartbeats 4000000 in
set_option maxRecDepth 100000 in
theorem cm_M_payment (l : Launch) (dC : Nat → ClassId) (dI : Nat → Nat → Nat) (bd : Nat → Nat) (cb : Nat → ClassId) (sz : Nat) (d : MS) (p1 : Int32)  (r9 : Int32) (hj : jm_M_payment d p1 = some r9) : Met l y_Mod_payment w_Mod_payment ({ frames := 2, cells := 0, slots := 0, locals := 49 }) (va_Pc [.ref (bd 0), .int p1] (mPre dC dI bd cb sz d)) (va_Qi (fun (r : Int32) (u : MS) => r = r9 ∧ u = d) (mAt dC dI bd cb (va_A (mw bd cb d) sz)) (va_A (mw bd cb d) sz)) 0 0 (va_A (mw bd cb d) sz) := by
  refine Met.ofW (cc := prog_10_method_21_code) (maxL := 4) (ret := (some .int)) (by decide) rfl ?_
  intro p e s m args below meth c s₁ B hml hv
  obtain ⟨rfl, hsz, hP, hK, hD0, hN⟩ := hv
  have hx := B.exec
  have hb := B.bytes
  have hr := B.returns
  have hts0 := atoms_spec (ws := w_Mod_payment) B.pre
  have hts : ∀ w ∈ gt, w.before _ s = true := fun w h => hts0 w (List.mem_cons_of_mem _ h)
  have hown : s.vm.findClass "CardMessageDeskModel" = some m.cls := findClass_of_methodNamed B.named
  have hlocks := B.notSynchronized
  subst hsz
  have hD := hD0.self (sz := s.heap.size)
  generalize hAe : va_A (mw bd cb d) s.heap.size = A at hD ⊢
  have hA : ∀ q : Nat, s.heap.size ≤ q → A q := fun q h => by rw [← hAe]; exact Or.inr h
  have hS : va_S A s.heap s.heap [] := va_S.rf
  have hl := lv_entry ([.ref (bd 0), .int p1]) (n := 4) (Nat.le_of_ble_eq_true rfl)
  rw [lg_entry_eq]
  generalize (lg_sl ([.ref (bd 0), .int p1]) ++ List.replicate (4 - (lg_sl ([.ref (bd 0), .int p1])).length) Slot.unset).toArray = ls at hl ⊢
  have hl : lv_has ls 4 [(0, .ref (bd 0)), (1, .int p1)] := hl
  unfold jm_M_payment at hj
  refine lv_aload_n hx hb d_Mod_payment_0 rfl (lv_at hl 0 rfl) ?_
  refine va_get (D := (dC, dI)) (ci := 8) (v := .int (mg_sort d)) (C := "CardMessageDeskModel") (T := T_Mod) (N := 32) hx hb hts in_Mod hown hK hP 0 rfl rfl 15 (by decide) (hts _ tw515) (fun _ h9 => h9) rfl d_Mod_payment_1 ?_
  refine lv_sipush (v := 10000) hx hb d_Mod_payment_4 (by decide) ?_
  refine lv_idiv hx hb d_Mod_payment_7 (by decide +kernel) ?_
  refine lv_istore_n (lv' := [(2, .int ((mg_sort d) / (10000 : Int32))), (0, .ref (bd 0)), (1, .int p1)]) hx hb d_Mod_payment_8 rfl hl (by decide) rfl (fun ls hl => ?_)
  refine lv_iload_n hx hb d_Mod_payment_9 rfl (lv_at hl 2 rfl) ?_
  refine lv_if_ge (tgt := 16) hx hb d_Mod_payment_10 (by decide) (fun c_1 => ?_) (fun c_1 => ?_)
  · have hj := it_p hj c_1
    refine lv_iload_n hx hb d_Mod_payment_16 rfl (lv_at hl 0 rfl) ?_
    refine lv_if_eq (tgt := 26) hx hb d_Mod_payment_17 (by decide) (fun c_2 => ?_) (fun c_2 => ?_)
    · have hj := it_p hj c_2
      exact cm_M_payment_B26 d ((mg_sort d) / (10000 : Int32))  _ hx hb hr hlocks hml hown hts hN hA hK _ _ ls hj hP hD hS (lv_sub hl [1, 0] rfl)
    · have hj := it_n hj c_2
      refine lv_iload_n hx hb d_Mod_payment_20 rfl (lv_at hl 0 rfl) ?_
      refine lv_bipush (v := 20) hx hb d_Mod_payment_21 (by decide) ?_
      refine lv_icmp_ne (tgt := 42) hx hb d_Mod_payment_23 (by decide) (fun c_3 => ?_) (fun c_3 => ?_)
      · have hj := it_n hj c_3
        refine lv_bipush (v := 12) hx hb d_Mod_payment_42 (by decide) ?_
        obtain rfl := Option.some.inj hj
        exact W.iret hx hb hr (fun t ht hW => ⟨⟨_, _, rfl, ⟨rfl, rfl⟩, by rw [ht]; exact hP, va_K.moved hW.alike hK, hD⟩, hS.F ht⟩) hS.2.2 d_Mod_payment_44
      · have hj := it_p hj c_3
        exact cm_M_payment_B26 d ((mg_sort d) / (10000 : Int32))  _ hx hb hr hlocks hml hown hts hN hA hK _ _ ls hj hP hD hS (lv_sub hl [1, 0] rfl)
  · have hj := it_n hj c_1
    refine lv_bipush (v := 14) hx hb d_Mod_payment_13 (by decide) ?_
    obtain rfl := Option.some.inj hj
    exact W.iret hx hb hr (fun t ht hW => ⟨⟨_, _, rfl, ⟨rfl, rfl⟩, by rw [ht]; exact hP, va_K.moved hW.alike hK, hD⟩, hS.F ht⟩) hS.2.2 d_Mod_payment_15
set_option maxHeartbeats 4000000 in
set_option maxRecDepth 100000 in
theorem cm_M_pay (l : Launch) (dC : Nat → ClassId) (dI : Nat → Nat → Nat) (bd : Nat → Nat) (cb : Nat → ClassId) (sz : Nat) (d : MS)   (r9 : Int32) (d9 : MS) (hj : jm_M_pay d = some (r9, d9)) : Met l y_Mod_pay w_Mod_pay ({ frames := 3, cells := 0, slots := 0, locals := 72 }) (va_Pc [.ref (bd 0)] (mPre dC dI bd cb sz d)) (va_Qi (fun (r : Int32) (u : MS) => r = r9 ∧ u = d9) (mAt dC dI bd cb (va_A (mw bd cb d) sz)) (va_A (mw bd cb d) sz)) 0 0 (va_A (mw bd cb d) sz) := by
  refine Met.ofW (cc := prog_10_method_22_code) (maxL := 3) (ret := (some .int)) (by decide) rfl ?_
  intro p e s m args below meth c s₁ B hml hv
  obtain ⟨rfl, hsz, hP, hK, hD0, hN⟩ := hv
  have hx := B.exec
  have hb := B.bytes
  have hr := B.returns
  have hts0 := atoms_spec (ws := w_Mod_pay) B.pre
  have hts : ∀ w ∈ gt, w.before _ s = true := fun w h => hts0 w (List.mem_cons_of_mem _ h)
  have hown : s.vm.findClass "CardMessageDeskModel" = some m.cls := findClass_of_methodNamed B.named
  have hlocks := B.notSynchronized
  subst hsz
  have hD := hD0.self (sz := s.heap.size)
  generalize hAe : va_A (mw bd cb d) s.heap.size = A at hD ⊢
  have hA : ∀ q : Nat, s.heap.size ≤ q → A q := fun q h => by rw [← hAe]; exact Or.inr h
  have hS : va_S A s.heap s.heap [] := va_S.rf
  have hl := lv_entry ([.ref (bd 0)]) (n := 3) (Nat.le_of_ble_eq_true rfl)
  rw [lg_entry_eq]
  generalize (lg_sl ([.ref (bd 0)]) ++ List.replicate (3 - (lg_sl ([.ref (bd 0)])).length) Slot.unset).toArray = ls at hl ⊢
  have hl : lv_has ls 3 [(0, .ref (bd 0))] := hl
  unfold jm_M_pay at hj
  refine lv_aload_n hx hb d_Mod_pay_0 rfl (lv_at hl 0 rfl) ?_
  refine lv_aload_n hx hb d_Mod_pay_1 rfl (lv_at hl 0 rfl) ?_
  refine va_get (D := (dC, dI)) (ci := 8) (v := .long (mg_card d)) (C := "CardMessageDeskModel") (T := T_Mod) (N := 32) hx hb hts in_Mod hown hK hP 0 rfl rfl 14 (by decide) (hts _ tw514) (fun _ h9 => h9) rfl d_Mod_pay_2 ?_
  obtain ⟨v_1, hc_1, hj⟩ := bd_some hj
  have hF_1 := va_fr hD hS hA
  refine va_calli (va_runV (As := [.long (mg_card d)]) (rest := []) ⟨hx, hb, hml, hown, hts⟩ (cm_M_find l dC dI bd cb s.heap.size d (mg_card d)  v_1 hc_1) (cwV 1 hts (gtV tw603 tw605 ts13 tw9 tw606) rfl rfl rfl (by decide +kernel) ⟨Nat.le_of_ble_eq_true rfl, Nat.le_of_ble_eq_true rfl⟩) ⟨mBl, va_recv hK hP (ci := 8) (q0 := 0) rfl rfl, fun U hU hW => ⟨rfl, mPr hP hK hD hN hU hW⟩⟩ rfl rfl hl.1 rfl (lv_room (Nat.le_of_ble_eq_true rfl)) d_Mod_pay_5 ⟨Nat.zero_le _, Nat.zero_le _⟩) hS (fun q _ h => hF_1 q h) hF_1 (fun r u t H locs ht hvm hw hB hz1 hk1 hS => ?_)
  obtain ⟨hw1, hw2⟩ := hw
  have hw1 := hw1.symm
  subst hw1
  have hw2 := hw2.symm
  subst hw2
  obtain ⟨hP, hD⟩ := mAf hB ht hF_1
  refine lv_istore_n (lv' := [(1, .int v_1), (0, .ref (bd 0))]) hx hb d_Mod_pay_8 rfl hl (by decide) rfl (fun ls hl => ?_)
  refine lv_aload_n hx hb d_Mod_pay_9 rfl (lv_at hl 1 rfl) ?_
  refine lv_iload_n hx hb d_Mod_pay_10 rfl (lv_at hl 0 rfl) ?_
  obtain ⟨v_2, hc_2, hj⟩ := bd_some hj
  have hF_2 := va_fr hD hS hA
  refine va_calli (va_runV (As := [.int v_1]) (rest := []) ⟨hx, hb, hml, hown, hts⟩ (cm_M_payment l dC dI bd cb H.size d v_1  v_2 hc_2) (cwV 1 hts (gtV tw696 tw698 ts29 tw9 tw699) rfl rfl rfl (by decide +kernel) ⟨Nat.le_of_ble_eq_true rfl, Nat.le_of_ble_eq_true rfl⟩) ⟨mBl, va_recv hK hP (ci := 8) (q0 := 0) rfl rfl, fun U hU hW => ⟨rfl, mPr hP hK hD hN hU hW⟩⟩ rfl rfl hl.1 rfl (lv_room (Nat.le_of_ble_eq_true rfl)) d_Mod_pay_11 ⟨Nat.zero_le _, Nat.zero_le _⟩) hS (fun q _ h => hF_2 q h) hF_2 (fun r u t H locs ht hvm hw hB hz1 hk1 hS => ?_)
  obtain ⟨hw1, hw2⟩ := hw
  have hw1 := hw1.symm
  subst hw1
  have hw2 := hw2.symm
  subst hw2
  obtain ⟨hP, hD⟩ := mAf hB ht hF_2
  refine lv_istore_n (lv' := [(2, .int v_2), (1, .int v_1), (0, .ref (bd 0))]) hx hb d_Mod_pay_14 rfl hl (by decide) rfl (fun ls hl => ?_)
  refine lv_iload_n hx hb d_Mod_pay_15 rfl (lv_at hl 0 rfl) ?_
  refine lv_if_ne (tgt := 89) hx hb d_Mod_pay_16 (by decide) (fun c_3 => ?_) (fun c_3 => ?_)
  · have hj := it_n hj c_3
    refine lv_aload_n hx hb d_Mod_pay_89 rfl (lv_at hl 2 rfl) ?_
    refine lv_iload_n hx hb d_Mod_pay_90 rfl (lv_at hl 0 rfl) ?_
    refine lv_iconst (v := 0) hx hb d_Mod_pay_91 (by decide) ?_
    obtain ⟨d_4, hc_4, hj⟩ := bd_some hj
    have hF_4 := va_fr hD hS hA
    refine va_callv (va_runV (As := [.int v_2, .int (0 : Int32)]) (rest := []) ⟨hx, hb, hml, hown, hts⟩ (cm_M_enter l dC dI bd cb H.size d v_2 (0 : Int32)  d_4 hc_4) (cwV 2 hts (gtV tw688 tw690 ts27 tw9 tw691) rfl rfl rfl (by decide +kernel) ⟨Nat.le_of_ble_eq_true rfl, Nat.le_of_ble_eq_true rfl⟩) ⟨mBl, va_recv hK hP (ci := 8) (q0 := 0) rfl rfl, fun U hU hW => ⟨rfl, mPr hP hK hD hN hU hW⟩⟩ rfl rfl hl.1 rfl (lv_room (Nat.le_of_ble_eq_true rfl)) d_Mod_pay_92 ⟨Nat.zero_le _, Nat.zero_le _⟩) hS (fun q _ h => hF_4 q h) hF_4 (fun u t H locs ht hvm hw hB hz1 hk1 hS => ?_)
    have hw := hw.symm
    subst hw
    obtain ⟨hP, hD⟩ := mAf hB ht hF_4
    refine lv_iload_n hx hb d_Mod_pay_95 rfl (lv_at hl 0 rfl) ?_
    obtain ⟨rfl, rfl⟩ := rt_some hj
    exact W.iret hx hb hr (fun t ht hW => ⟨⟨_, _, rfl, ⟨rfl, rfl⟩, by rw [ht]; exact hP, va_K.moved hW.alike hK, hD⟩, hS.F ht⟩) hS.2.2 d_Mod_pay_96
  · have hj := it_p hj c_3
    refine lv_aload_n hx hb d_Mod_pay_19 rfl (lv_at hl 2 rfl) ?_
    refine va_get (D := (dC, dI)) (ci := 8) (v := .ref (bd 2)) (C := "CardMessageDeskModel") (T := T_Mod) (N := 32) hx hb hts in_Mod hown hK hP 0 rfl rfl 1 (by decide) (hts _ tw501) (fun _ h9 => h9) rfl d_Mod_pay_20 ?_
    refine lv_iload_n hx hb d_Mod_pay_23 rfl (lv_at hl 1 rfl) ?_
    refine lv_aload_n hx hb d_Mod_pay_24 rfl (lv_at hl 2 rfl) ?_
    refine va_get (D := (dC, dI)) (ci := 8) (v := .int (mg_sort d)) (C := "CardMessageDeskModel") (T := T_Mod) (N := 32) hx hb hts in_Mod hown hK hP 0 rfl rfl 15 (by decide) (hts _ tw515) (fun _ h9 => h9) rfl d_Mod_pay_25 ?_
    refine lv_sipush (v := 10000) hx hb d_Mod_pay_28 (by decide) ?_
    refine lv_idiv hx hb d_Mod_pay_31 (by decide +kernel) ?_
    refine lv_bipush (v := 20) hx hb d_Mod_pay_32 (by decide) ?_
    refine lv_icmp_ne (tgt := 51) hx hb d_Mod_pay_34 (by decide) (fun c_5 => ?_) (fun c_5 => ?_)
    · have hj := it_n hj c_5
      refine lv_aload_n hx hb d_Mod_pay_51 rfl (lv_at hl 2 rfl) ?_
      refine va_get (D := (dC, dI)) (ci := 8) (v := .ref (bd 2)) (C := "CardMessageDeskModel") (T := T_Mod) (N := 32) hx hb hts in_Mod hown hK hP 0 rfl rfl 1 (by decide) (hts _ tw501) (fun _ h9 => h9) rfl d_Mod_pay_52 ?_
      refine lv_iload_n hx hb d_Mod_pay_55 rfl (lv_at hl 1 rfl) ?_
      obtain ⟨hi_6, hj⟩ := gd_some hj
      refine va_lald hx hb hK hP 2 1 rfl rfl hi_6 d_Mod_pay_56 ?_
      refine lv_aload_n hx hb d_Mod_pay_57 rfl (lv_at hl 2 rfl) ?_
      refine va_get (D := (dC, dI)) (ci := 8) (v := .long (mg_amount d)) (C := "CardMessageDeskModel") (T := T_Mod) (N := 32) hx hb hts in_Mod hown hK hP 0 rfl rfl 16 (by decide) (hts _ tw516) (fun _ h9 => h9) rfl d_Mod_pay_58 ?_
      refine lv_lsub hx hb d_Mod_pay_61 ?_
      obtain ⟨hi_7, hj⟩ := gd_some hj
      obtain ⟨d_8, ed_8, hj⟩ := nm_some hj
      refine va_last hx hb hK hP hD hS 2 1 rfl rfl hi_7 d_Mod_pay_62 (fun H locs hP hD hS => ?_)
      have hP : va_P (dC, dI) vwCl (mw bd cb d_8) H := by rw [ed_8]; exact hP
      have hD : va_D A (mw bd cb d_8) := by rw [ed_8]; exact hD
      refine lv_aload_n hx hb d_Mod_pay_63 rfl (lv_at hl 2 rfl) ?_
      refine va_get (D := (dC, dI)) (ci := 8) (v := .ref (bd 5)) (C := "CardMessageDeskModel") (T := T_Mod) (N := 32) hx hb hts in_Mod hown hK hP 0 rfl rfl 10 (by decide) (hts _ tw510) (fun _ h9 => h9) rfl d_Mod_pay_64 ?_
      refine lv_bipush (v := 56) hx hb d_Mod_pay_67 (by decide) ?_
      obtain ⟨hi_9, hj⟩ := gd_some hj
      refine va_zald hx hb hK hP 5 4 rfl rfl hi_9 d_Mod_pay_69 ?_
      refine lv_if_eq (tgt := 89) hx hb d_Mod_pay_70 (by decide) (fun c_10 => ?_) (fun c_10 => ?_)
      · have hj := it_p hj c_10
        refine lv_aload_n hx hb d_Mod_pay_89 rfl (lv_at hl 2 rfl) ?_
        refine lv_iload_n hx hb d_Mod_pay_90 rfl (lv_at hl 0 rfl) ?_
        refine lv_iconst (v := 0) hx hb d_Mod_pay_91 (by decide) ?_
        obtain ⟨d_11, hc_11, hj⟩ := bd_some hj
        have hF_11 := va_fr hD hS hA
        refine va_callv (va_runV (As := [.int v_2, .int (0 : Int32)]) (rest := []) ⟨hx, hb, hml, hown, hts⟩ (cm_M_enter l dC dI bd cb H.size d_8 v_2 (0 : Int32)  d_11 hc_11) (cwV 2 hts (gtV tw688 tw690 ts27 tw9 tw691) rfl rfl rfl (by decide +kernel) ⟨Nat.le_of_ble_eq_true rfl, Nat.le_of_ble_eq_true rfl⟩) ⟨mBl, va_recv hK hP (ci := 8) (q0 := 0) rfl rfl, fun U hU hW => ⟨rfl, mPr hP hK hD hN hU hW⟩⟩ rfl rfl hl.1 rfl (lv_room (Nat.le_of_ble_eq_true rfl)) d_Mod_pay_92 ⟨Nat.zero_le _, Nat.zero_le _⟩) hS (fun q _ h => hF_11 q h) hF_11 (fun u t H locs ht hvm hw hB hz1 hk1 hS => ?_)
        have hw := hw.symm
        subst hw
        obtain ⟨hP, hD⟩ := mAf hB ht hF_11
        refine lv_iload_n hx hb d_Mod_pay_95 rfl (lv_at hl 0 rfl) ?_
        obtain ⟨rfl, rfl⟩ := rt_some hj
        exact W.iret hx hb hr (fun t ht hW => ⟨⟨_, _, rfl, ⟨rfl, rfl⟩, by rw [ht]; exact hP, va_K.moved hW.alike hK, hD⟩, hS.F ht⟩) hS.2.2 d_Mod_pay_96
      · have hj := it_n hj c_10
        refine lv_aload_n hx hb d_Mod_pay_73 rfl (lv_at hl 2 rfl) ?_
        refine va_get (D := (dC, dI)) (ci := 8) (v := .ref (bd 15)) (C := "CardMessageDeskModel") (T := T_Mod) (N := 32) hx hb hts in_Mod hown hK hP 0 rfl rfl 28 (by decide) (hts _ tw528) (fun _ h9 => h9) rfl d_Mod_pay_74 ?_
        refine lv_aload_n hx hb d_Mod_pay_77 rfl (lv_at hl 2 rfl) ?_
        refine lv_bipush (v := 100) hx hb d_Mod_pay_78 (by decide) ?_
        refine lv_aload_n hx hb d_Mod_pay_80 rfl (lv_at hl 2 rfl) ?_
        refine va_get (D := (dC, dI)) (ci := 8) (v := .int (mg_original d_8)) (C := "CardMessageDeskModel") (T := T_Mod) (N := 32) hx hb hts in_Mod hown hK hP 0 rfl rfl 19 (by decide) (hts _ tw519) (fun _ h9 => h9) rfl d_Mod_pay_81 ?_
        obtain ⟨v_12, hc_12, hj⟩ := bd_some hj
        have hF_12 := va_fr hD hS hA
        refine va_calli (va_runV (As := [.int (100 : Int32), .int (mg_original d_8)]) (rest := [.ref (bd 15)]) ⟨hx, hb, hml, hown, hts⟩ (cm_M_same l dC dI bd cb H.size d_8 (100 : Int32) (mg_original d_8)  v_12 hc_12) (cwV 2 hts (gtV tw679 tw681 ts25 tw9 tw682) rfl rfl rfl (by decide +kernel) ⟨Nat.le_of_ble_eq_true rfl, Nat.le_of_ble_eq_true rfl⟩) ⟨mBl, va_recv hK hP (ci := 8) (q0 := 0) rfl rfl, fun U hU hW => ⟨rfl, mPr hP hK hD hN hU hW⟩⟩ rfl rfl hl.1 rfl (lv_room (Nat.le_of_ble_eq_true rfl)) d_Mod_pay_84 ⟨Nat.zero_le _, Nat.zero_le _⟩) hS (fun q _ h => hF_12 q h) hF_12 (fun r u t H locs ht hvm hw hB hz1 hk1 hS => ?_)
        obtain ⟨hw1, hw2⟩ := hw
        have hw1 := hw1.symm
        subst hw1
        have hw2 := hw2.symm
        subst hw2
        obtain ⟨hP, hD⟩ := mAf hB ht hF_12
        refine lv_iconst (v := 2) hx hb d_Mod_pay_87 (by decide) ?_
        obtain ⟨hi_13, hj⟩ := gd_some hj
        obtain ⟨d_14, ed_14, hj⟩ := nm_some hj
        refine va_iast hx hb hK hP hD hS 15 14 rfl rfl hi_13 d_Mod_pay_88 (fun H locs hP hD hS => ?_)
        have hP : va_P (dC, dI) vwCl (mw bd cb d_14) H := by rw [ed_14]; exact hP
        have hD : va_D A (mw bd cb d_14) := by rw [ed_14]; exact hD
        refine lv_aload_n hx hb d_Mod_pay_89 rfl (lv_at hl 2 rfl) ?_
        refine lv_iload_n hx hb d_Mod_pay_90 rfl (lv_at hl 0 rfl) ?_
        refine lv_iconst (v := 0) hx hb d_Mod_pay_91 (by decide) ?_
        obtain ⟨d_15, hc_15, hj⟩ := bd_some hj
        have hF_15 := va_fr hD hS hA
        refine va_callv (va_runV (As := [.int v_2, .int (0 : Int32)]) (rest := []) ⟨hx, hb, hml, hown, hts⟩ (cm_M_enter l dC dI bd cb H.size d_14 v_2 (0 : Int32)  d_15 hc_15) (cwV 2 hts (gtV tw688 tw690 ts27 tw9 tw691) rfl rfl rfl (by decide +kernel) ⟨Nat.le_of_ble_eq_true rfl, Nat.le_of_ble_eq_true rfl⟩) ⟨mBl, va_recv hK hP (ci := 8) (q0 := 0) rfl rfl, fun U hU hW => ⟨rfl, mPr hP hK hD hN hU hW⟩⟩ rfl rfl hl.1 rfl (lv_room (Nat.le_of_ble_eq_true rfl)) d_Mod_pay_92 ⟨Nat.zero_le _, Nat.zero_le _⟩) hS (fun q _ h => hF_15 q h) hF_15 (fun u t H locs ht hvm hw hB hz1 hk1 hS => ?_)
        have hw := hw.symm
        subst hw
        obtain ⟨hP, hD⟩ := mAf hB ht hF_15
        refine lv_iload_n hx hb d_Mod_pay_95 rfl (lv_at hl 0 rfl) ?_
        obtain ⟨rfl, rfl⟩ := rt_some hj
        exact W.iret hx hb hr (fun t ht hW => ⟨⟨_, _, rfl, ⟨rfl, rfl⟩, by rw [ht]; exact hP, va_K.moved hW.alike hK, hD⟩, hS.F ht⟩) hS.2.2 d_Mod_pay_96
    · have hj := it_p hj c_5
      refine lv_aload_n hx hb d_Mod_pay_37 rfl (lv_at hl 2 rfl) ?_
      refine va_get (D := (dC, dI)) (ci := 8) (v := .ref (bd 2)) (C := "CardMessageDeskModel") (T := T_Mod) (N := 32) hx hb hts in_Mod hown hK hP 0 rfl rfl 1 (by decide) (hts _ tw501) (fun _ h9 => h9) rfl d_Mod_pay_38 ?_
      refine lv_iload_n hx hb d_Mod_pay_41 rfl (lv_at hl 1 rfl) ?_
      obtain ⟨hi_16, hj⟩ := gd_some hj
      refine va_lald hx hb hK hP 2 1 rfl rfl hi_16 d_Mod_pay_42 ?_
      refine lv_aload_n hx hb d_Mod_pay_43 rfl (lv_at hl 2 rfl) ?_
      refine va_get (D := (dC, dI)) (ci := 8) (v := .long (mg_amount d)) (C := "CardMessageDeskModel") (T := T_Mod) (N := 32) hx hb hts in_Mod hown hK hP 0 rfl rfl 16 (by decide) (hts _ tw516) (fun _ h9 => h9) rfl d_Mod_pay_44 ?_
      refine lv_ladd hx hb d_Mod_pay_47 ?_
      refine lv_goto (tgt := 62) hx hb d_Mod_pay_48 (by decide) ?_
      obtain ⟨hi_17, hj⟩ := gd_some hj
      obtain ⟨d_18, ed_18, hj⟩ := nm_some hj
      refine va_last hx hb hK hP hD hS 2 1 rfl rfl hi_17 d_Mod_pay_62 (fun H locs hP hD hS => ?_)
      have hP : va_P (dC, dI) vwCl (mw bd cb d_18) H := by rw [ed_18]; exact hP
      have hD : va_D A (mw bd cb d_18) := by rw [ed_18]; exact hD
      refine lv_aload_n hx hb d_Mod_pay_63 rfl (lv_at hl 2 rfl) ?_
      refine va_get (D := (dC, dI)) (ci := 8) (v := .ref (bd 5)) (C := "CardMessageDeskModel") (T := T_Mod) (N := 32) hx hb hts in_Mod hown hK hP 0 rfl rfl 10 (by decide) (hts _ tw510) (fun _ h9 => h9) rfl d_Mod_pay_64 ?_
      refine lv_bipush (v := 56) hx hb d_Mod_pay_67 (by decide) ?_
      obtain ⟨hi_19, hj⟩ := gd_some hj
      refine va_zald hx hb hK hP 5 4 rfl rfl hi_19 d_Mod_pay_69 ?_
      refine lv_if_eq (tgt := 89) hx hb d_Mod_pay_70 (by decide) (fun c_20 => ?_) (fun c_20 => ?_)
      · have hj := it_p hj c_20
        refine lv_aload_n hx hb d_Mod_pay_89 rfl (lv_at hl 2 rfl) ?_
        refine lv_iload_n hx hb d_Mod_pay_90 rfl (lv_at hl 0 rfl) ?_
        refine lv_iconst (v := 0) hx hb d_Mod_pay_91 (by decide) ?_
        obtain ⟨d_21, hc_21, hj⟩ := bd_some hj
        have hF_21 := va_fr hD hS hA
        refine va_callv (va_runV (As := [.int v_2, .int (0 : Int32)]) (rest := []) ⟨hx, hb, hml, hown, hts⟩ (cm_M_enter l dC dI bd cb H.size d_18 v_2 (0 : Int32)  d_21 hc_21) (cwV 2 hts (gtV tw688 tw690 ts27 tw9 tw691) rfl rfl rfl (by decide +kernel) ⟨Nat.le_of_ble_eq_true rfl, Nat.le_of_ble_eq_true rfl⟩) ⟨mBl, va_recv hK hP (ci := 8) (q0 := 0) rfl rfl, fun U hU hW => ⟨rfl, mPr hP hK hD hN hU hW⟩⟩ rfl rfl hl.1 rfl (lv_room (Nat.le_of_ble_eq_true rfl)) d_Mod_pay_92 ⟨Nat.zero_le _, Nat.zero_le _⟩) hS (fun q _ h => hF_21 q h) hF_21 (fun u t H locs ht hvm hw hB hz1 hk1 hS => ?_)
        have hw := hw.symm
        subst hw
        obtain ⟨hP, hD⟩ := mAf hB ht hF_21
        refine lv_iload_n hx hb d_Mod_pay_95 rfl (lv_at hl 0 rfl) ?_
        obtain ⟨rfl, rfl⟩ := rt_some hj
        exact W.iret hx hb hr (fun t ht hW => ⟨⟨_, _, rfl, ⟨rfl, rfl⟩, by rw [ht]; exact hP, va_K.moved hW.alike hK, hD⟩, hS.F ht⟩) hS.2.2 d_Mod_pay_96
      · have hj := it_n hj c_20
        refine lv_aload_n hx hb d_Mod_pay_73 rfl (lv_at hl 2 rfl) ?_
        refine va_get (D := (dC, dI)) (ci := 8) (v := .ref (bd 15)) (C := "CardMessageDeskModel") (T := T_Mod) (N := 32) hx hb hts in_Mod hown hK hP 0 rfl rfl 28 (by decide) (hts _ tw528) (fun _ h9 => h9) rfl d_Mod_pay_74 ?_
        refine lv_aload_n hx hb d_Mod_pay_77 rfl (lv_at hl 2 rfl) ?_
        refine lv_bipush (v := 100) hx hb d_Mod_pay_78 (by decide) ?_
        refine lv_aload_n hx hb d_Mod_pay_80 rfl (lv_at hl 2 rfl) ?_
        refine va_get (D := (dC, dI)) (ci := 8) (v := .int (mg_original d_18)) (C := "CardMessageDeskModel") (T := T_Mod) (N := 32) hx hb hts in_Mod hown hK hP 0 rfl rfl 19 (by decide) (hts _ tw519) (fun _ h9 => h9) rfl d_Mod_pay_81 ?_
        obtain ⟨v_22, hc_22, hj⟩ := bd_some hj
        have hF_22 := va_fr hD hS hA
        refine va_calli (va_runV (As := [.int (100 : Int32), .int (mg_original d_18)]) (rest := [.ref (bd 15)]) ⟨hx, hb, hml, hown, hts⟩ (cm_M_same l dC dI bd cb H.size d_18 (100 : Int32) (mg_original d_18)  v_22 hc_22) (cwV 2 hts (gtV tw679 tw681 ts25 tw9 tw682) rfl rfl rfl (by decide +kernel) ⟨Nat.le_of_ble_eq_true rfl, Nat.le_of_ble_eq_true rfl⟩) ⟨mBl, va_recv hK hP (ci := 8) (q0 := 0) rfl rfl, fun U hU hW => ⟨rfl, mPr hP hK hD hN hU hW⟩⟩ rfl rfl hl.1 rfl (lv_room (Nat.le_of_ble_eq_true rfl)) d_Mod_pay_84 ⟨Nat.zero_le _, Nat.zero_le _⟩) hS (fun q _ h => hF_22 q h) hF_22 (fun r u t H locs ht hvm hw hB hz1 hk1 hS => ?_)
        obtain ⟨hw1, hw2⟩ := hw
        have hw1 := hw1.symm
        subst hw1
        have hw2 := hw2.symm
        subst hw2
        obtain ⟨hP, hD⟩ := mAf hB ht hF_22
        refine lv_iconst (v := 2) hx hb d_Mod_pay_87 (by decide) ?_
        obtain ⟨hi_23, hj⟩ := gd_some hj
        obtain ⟨d_24, ed_24, hj⟩ := nm_some hj
        refine va_iast hx hb hK hP hD hS 15 14 rfl rfl hi_23 d_Mod_pay_88 (fun H locs hP hD hS => ?_)
        have hP : va_P (dC, dI) vwCl (mw bd cb d_24) H := by rw [ed_24]; exact hP
        have hD : va_D A (mw bd cb d_24) := by rw [ed_24]; exact hD
        refine lv_aload_n hx hb d_Mod_pay_89 rfl (lv_at hl 2 rfl) ?_
        refine lv_iload_n hx hb d_Mod_pay_90 rfl (lv_at hl 0 rfl) ?_
        refine lv_iconst (v := 0) hx hb d_Mod_pay_91 (by decide) ?_
        obtain ⟨d_25, hc_25, hj⟩ := bd_some hj
        have hF_25 := va_fr hD hS hA
        refine va_callv (va_runV (As := [.int v_2, .int (0 : Int32)]) (rest := []) ⟨hx, hb, hml, hown, hts⟩ (cm_M_enter l dC dI bd cb H.size d_24 v_2 (0 : Int32)  d_25 hc_25) (cwV 2 hts (gtV tw688 tw690 ts27 tw9 tw691) rfl rfl rfl (by decide +kernel) ⟨Nat.le_of_ble_eq_true rfl, Nat.le_of_ble_eq_true rfl⟩) ⟨mBl, va_recv hK hP (ci := 8) (q0 := 0) rfl rfl, fun U hU hW => ⟨rfl, mPr hP hK hD hN hU hW⟩⟩ rfl rfl hl.1 rfl (lv_room (Nat.le_of_ble_eq_true rfl)) d_Mod_pay_92 ⟨Nat.zero_le _, Nat.zero_le _⟩) hS (fun q _ h => hF_25 q h) hF_25 (fun u t H locs ht hvm hw hB hz1 hk1 hS => ?_)
        have hw := hw.symm
        subst hw
        obtain ⟨hP, hD⟩ := mAf hB ht hF_25
        refine lv_iload_n hx hb d_Mod_pay_95 rfl (lv_at hl 0 rfl) ?_
        obtain ⟨rfl, rfl⟩ := rt_some hj
        exact W.iret hx hb hr (fun t ht hW => ⟨⟨_, _, rfl, ⟨rfl, rfl⟩, by rw [ht]; exact hP, va_K.moved hW.alike hK, hD⟩, hS.F ht⟩) hS.2.2 d_Mod_pay_96
set_option maxHeartbeats 4000000 in
set_option maxRecDepth 100000 in
theorem cm_M_authorize (l : Launch) (dC : Nat → ClassId) (dI : Nat → Nat → Nat) (bd : Nat → Nat) (cb : Nat → ClassId) (sz : Nat) (d : MS)   (r9 : Int32) (d9 : MS) (hj : jm_M_authorize d = some (r9, d9)) : Met l y_Mod_authorize w_Mod_authorize ({ frames := 2, cells := 0, slots := 0, locals := 49 }) (va_Pc [.ref (bd 0)] (mPre dC dI bd cb sz d)) (va_Qi (fun (r : Int32) (u : MS) => r = r9 ∧ u = d9) (mAt dC dI bd cb (va_A (mw bd cb d) sz)) (va_A (mw bd cb d) sz)) 0 0 (va_A (mw bd cb d) sz) := by
  refine Met.ofW (cc := prog_10_method_20_code) (maxL := 4) (ret := (some .int)) (by decide) rfl ?_
  intro p e s m args below meth c s₁ B hml hv
  obtain ⟨rfl, hsz, hP, hK, hD0, hN⟩ := hv
  have hx := B.exec
  have hb := B.bytes
  have hr := B.returns
  have hts0 := atoms_spec (ws := w_Mod_authorize) B.pre
  have hts : ∀ w ∈ gt, w.before _ s = true := fun w h => hts0 w (List.mem_cons_of_mem _ h)
  have hown : s.vm.findClass "CardMessageDeskModel" = some m.cls := findClass_of_methodNamed B.named
  have hlocks := B.notSynchronized
  subst hsz
  have hD := hD0.self (sz := s.heap.size)
  generalize hAe : va_A (mw bd cb d) s.heap.size = A at hD ⊢
  have hA : ∀ q : Nat, s.heap.size ≤ q → A q := fun q h => by rw [← hAe]; exact Or.inr h
  have hS : va_S A s.heap s.heap [] := va_S.rf
  have hl := lv_entry ([.ref (bd 0)]) (n := 4) (Nat.le_of_ble_eq_true rfl)
  rw [lg_entry_eq]
  generalize (lg_sl ([.ref (bd 0)]) ++ List.replicate (4 - (lg_sl ([.ref (bd 0)])).length) Slot.unset).toArray = ls at hl ⊢
  have hl : lv_has ls 4 [(0, .ref (bd 0))] := hl
  unfold jm_M_authorize at hj
  refine lv_aload_n hx hb d_Mod_authorize_0 rfl (lv_at hl 0 rfl) ?_
  refine lv_aload_n hx hb d_Mod_authorize_1 rfl (lv_at hl 0 rfl) ?_
  refine va_get (D := (dC, dI)) (ci := 8) (v := .long (mg_card d)) (C := "CardMessageDeskModel") (T := T_Mod) (N := 32) hx hb hts in_Mod hown hK hP 0 rfl rfl 14 (by decide) (hts _ tw514) (fun _ h9 => h9) rfl d_Mod_authorize_2 ?_
  obtain ⟨v_1, hc_1, hj⟩ := bd_some hj
  have hF_1 := va_fr hD hS hA
  refine va_calll (va_runV (As := [.long (mg_card d)]) (rest := []) ⟨hx, hb, hml, hown, hts⟩ (cm_M_available l dC dI bd cb s.heap.size d (mg_card d)  v_1 hc_1) (cwV 1 hts (gtV tw687 tw615 tw616 tw9 tw617) rfl rfl rfl (by decide +kernel) ⟨Nat.le_of_ble_eq_true rfl, Nat.le_of_ble_eq_true rfl⟩) ⟨mBl, va_recv hK hP (ci := 8) (q0 := 0) rfl rfl, fun U hU hW => ⟨rfl, mPr hP hK hD hN hU hW⟩⟩ rfl rfl hl.1 rfl (lv_room (Nat.le_of_ble_eq_true rfl)) d_Mod_authorize_5 ⟨Nat.zero_le _, Nat.zero_le _⟩) hS (fun q _ h => hF_1 q h) hF_1 (fun r u t H locs ht hvm hw hB hz1 hk1 hS => ?_)
  obtain ⟨hw1, hw2⟩ := hw
  have hw1 := hw1.symm
  subst hw1
  have hw2 := hw2.symm
  subst hw2
  obtain ⟨hP, hD⟩ := mAf hB ht hF_1
  refine lv_lstore_n (lv' := [(1, .long v_1), (0, .ref (bd 0))]) hx hb d_Mod_authorize_8 rfl hl (by decide) rfl (fun ls hl => ?_)
  refine lv_aload_n hx hb d_Mod_authorize_9 rfl (lv_at hl 1 rfl) ?_
  refine lv_aload_n hx hb d_Mod_authorize_10 rfl (lv_at hl 1 rfl) ?_
  refine va_get (D := (dC, dI)) (ci := 8) (v := .long (mg_card d)) (C := "CardMessageDeskModel") (T := T_Mod) (N := 32) hx hb hts in_Mod hown hK hP 0 rfl rfl 14 (by decide) (hts _ tw514) (fun _ h9 => h9) rfl d_Mod_authorize_11 ?_
  obtain ⟨v_2, hc_2, hj⟩ := bd_some hj
  have hF_2 := va_fr hD hS hA
  refine va_calli (va_runV (As := [.long (mg_card d)]) (rest := []) ⟨hx, hb, hml, hown, hts⟩ (cm_M_find l dC dI bd cb H.size d (mg_card d)  v_2 hc_2) (cwV 1 hts (gtV tw603 tw605 ts13 tw9 tw606) rfl rfl rfl (by decide +kernel) ⟨Nat.le_of_ble_eq_true rfl, Nat.le_of_ble_eq_true rfl⟩) ⟨mBl, va_recv hK hP (ci := 8) (q0 := 0) rfl rfl, fun U hU hW => ⟨rfl, mPr hP hK hD hN hU hW⟩⟩ rfl rfl hl.1 rfl (lv_room (Nat.le_of_ble_eq_true rfl)) d_Mod_authorize_14 ⟨Nat.zero_le _, Nat.zero_le _⟩) hS (fun q _ h => hF_2 q h) hF_2 (fun r u t H locs ht hvm hw hB hz1 hk1 hS => ?_)
  obtain ⟨hw1, hw2⟩ := hw
  have hw1 := hw1.symm
  subst hw1
  have hw2 := hw2.symm
  subst hw2
  obtain ⟨hP, hD⟩ := mAf hB ht hF_2
  refine lv_if_ge (tgt := 25) hx hb d_Mod_authorize_17 (by decide) (fun c_3 => ?_) (fun c_3 => ?_)
  · have hj := it_p hj c_3
    refine lv_aload_n hx hb d_Mod_authorize_25 rfl (lv_at hl 1 rfl) ?_
    refine va_get (D := (dC, dI)) (ci := 8) (v := .int (mg_sort d)) (C := "CardMessageDeskModel") (T := T_Mod) (N := 32) hx hb hts in_Mod hown hK hP 0 rfl rfl 15 (by decide) (hts _ tw515) (fun _ h9 => h9) rfl d_Mod_authorize_26 ?_
    refine lv_sipush (v := 10000) hx hb d_Mod_authorize_29 (by decide) ?_
    refine lv_idiv hx hb d_Mod_authorize_32 (by decide +kernel) ?_
    refine lv_if_eq (tgt := 41) hx hb d_Mod_authorize_33 (by decide) (fun c_4 => ?_) (fun c_4 => ?_)
    · have hj := it_p hj c_4
      refine lv_aload_n hx hb d_Mod_authorize_41 rfl (lv_at hl 1 rfl) ?_
      refine va_get (D := (dC, dI)) (ci := 8) (v := .long (mg_amount d)) (C := "CardMessageDeskModel") (T := T_Mod) (N := 32) hx hb hts in_Mod hown hK hP 0 rfl rfl 16 (by decide) (hts _ tw516) (fun _ h9 => h9) rfl d_Mod_authorize_42 ?_
      refine lv_lload_n hx hb d_Mod_authorize_45 rfl (lv_at hl 0 rfl) ?_
      refine W.lcmp hx hb d_Mod_authorize_46 ?_
      refine lv_if_le (tgt := 55) hx hb d_Mod_authorize_47 (by decide) (fun c_5 => ?_) (fun c_5 => ?_)
      · have hj := it_p hj (lc_le.mp c_5)
        refine lv_iconst (v := 0) hx hb d_Mod_authorize_55 (by decide) ?_
        refine lv_istore_n (lv' := [(3, .int (0 : Int32)), (1, .long v_1), (0, .ref (bd 0))]) hx hb d_Mod_authorize_56 rfl hl (by decide) rfl (fun ls hl => ?_)
        refine lv_aload_n hx hb d_Mod_authorize_57 rfl (lv_at hl 2 rfl) ?_
        refine lv_iload_n hx hb d_Mod_authorize_58 rfl (lv_at hl 0 rfl) ?_
        refine lv_iload_n hx hb d_Mod_authorize_59 rfl (lv_at hl 0 rfl) ?_
        refine lv_if_ne (tgt := 67) hx hb d_Mod_authorize_60 (by decide) (fun c_6 => ?_) (fun c_6 => ?_)
        · exact absurd c_6 (by decide)
        · skip
          refine lv_iconst (v := 1) hx hb d_Mod_authorize_63 (by decide) ?_
          refine lv_goto (tgt := 68) hx hb d_Mod_authorize_64 (by decide) ?_
          obtain ⟨d_7, hc_7, hj⟩ := bd_some hj
          have hF_7 := va_fr hD hS hA
          refine va_callv (va_runV (As := [.int (0 : Int32), .int (1 : Int32)]) (rest := []) ⟨hx, hb, hml, hown, hts⟩ (cm_M_enter l dC dI bd cb H.size d (0 : Int32) (1 : Int32)  d_7 hc_7) (cwV 2 hts (gtV tw688 tw690 ts27 tw9 tw691) rfl rfl rfl (by decide +kernel) ⟨Nat.le_of_ble_eq_true rfl, Nat.le_of_ble_eq_true rfl⟩) ⟨mBl, va_recv hK hP (ci := 8) (q0 := 0) rfl rfl, fun U hU hW => ⟨rfl, mPr hP hK hD hN hU hW⟩⟩ rfl rfl hl.1 rfl (lv_room (Nat.le_of_ble_eq_true rfl)) d_Mod_authorize_68 ⟨Nat.zero_le _, Nat.zero_le _⟩) hS (fun q _ h => hF_7 q h) hF_7 (fun u t H locs ht hvm hw hB hz1 hk1 hS => ?_)
          have hw := hw.symm
          subst hw
          obtain ⟨hP, hD⟩ := mAf hB ht hF_7
          refine lv_iload_n hx hb d_Mod_authorize_71 rfl (lv_at hl 0 rfl) ?_
          obtain ⟨rfl, rfl⟩ := rt_some hj
          exact W.iret hx hb hr (fun t ht hW => ⟨⟨_, _, rfl, ⟨rfl, rfl⟩, by rw [ht]; exact hP, va_K.moved hW.alike hK, hD⟩, hS.F ht⟩) hS.2.2 d_Mod_authorize_72
      · have hj := it_n hj (fun z => c_5 (lc_le.mpr z))
        refine lv_bipush (v := 51) hx hb d_Mod_authorize_50 (by decide) ?_
        refine lv_goto (tgt := 56) hx hb d_Mod_authorize_52 (by decide) ?_
        refine lv_istore_n (lv' := [(3, .int (51 : Int32)), (1, .long v_1), (0, .ref (bd 0))]) hx hb d_Mod_authorize_56 rfl hl (by decide) rfl (fun ls hl => ?_)
        refine lv_aload_n hx hb d_Mod_authorize_57 rfl (lv_at hl 2 rfl) ?_
        refine lv_iload_n hx hb d_Mod_authorize_58 rfl (lv_at hl 0 rfl) ?_
        refine lv_iload_n hx hb d_Mod_authorize_59 rfl (lv_at hl 0 rfl) ?_
        refine lv_if_ne (tgt := 67) hx hb d_Mod_authorize_60 (by decide) (fun c_8 => ?_) (fun c_8 => ?_)
        · skip
          refine lv_iconst (v := 0) hx hb d_Mod_authorize_67 (by decide) ?_
          obtain ⟨d_9, hc_9, hj⟩ := bd_some hj
          have hF_9 := va_fr hD hS hA
          refine va_callv (va_runV (As := [.int (51 : Int32), .int (0 : Int32)]) (rest := []) ⟨hx, hb, hml, hown, hts⟩ (cm_M_enter l dC dI bd cb H.size d (51 : Int32) (0 : Int32)  d_9 hc_9) (cwV 2 hts (gtV tw688 tw690 ts27 tw9 tw691) rfl rfl rfl (by decide +kernel) ⟨Nat.le_of_ble_eq_true rfl, Nat.le_of_ble_eq_true rfl⟩) ⟨mBl, va_recv hK hP (ci := 8) (q0 := 0) rfl rfl, fun U hU hW => ⟨rfl, mPr hP hK hD hN hU hW⟩⟩ rfl rfl hl.1 rfl (lv_room (Nat.le_of_ble_eq_true rfl)) d_Mod_authorize_68 ⟨Nat.zero_le _, Nat.zero_le _⟩) hS (fun q _ h => hF_9 q h) hF_9 (fun u t H locs ht hvm hw hB hz1 hk1 hS => ?_)
          have hw := hw.symm
          subst hw
          obtain ⟨hP, hD⟩ := mAf hB ht hF_9
          refine lv_iload_n hx hb d_Mod_authorize_71 rfl (lv_at hl 0 rfl) ?_
          obtain ⟨rfl, rfl⟩ := rt_some hj
          exact W.iret hx hb hr (fun t ht hW => ⟨⟨_, _, rfl, ⟨rfl, rfl⟩, by rw [ht]; exact hP, va_K.moved hW.alike hK, hD⟩, hS.F ht⟩) hS.2.2 d_Mod_authorize_72
        · exact absurd c_8 (by decide)
    · have hj := it_n hj c_4
      refine lv_bipush (v := 12) hx hb d_Mod_authorize_36 (by decide) ?_
      refine lv_goto (tgt := 56) hx hb d_Mod_authorize_38 (by decide) ?_
      refine lv_istore_n (lv' := [(3, .int (12 : Int32)), (1, .long v_1), (0, .ref (bd 0))]) hx hb d_Mod_authorize_56 rfl hl (by decide) rfl (fun ls hl => ?_)
      refine lv_aload_n hx hb d_Mod_authorize_57 rfl (lv_at hl 2 rfl) ?_
      refine lv_iload_n hx hb d_Mod_authorize_58 rfl (lv_at hl 0 rfl) ?_
      refine lv_iload_n hx hb d_Mod_authorize_59 rfl (lv_at hl 0 rfl) ?_
      refine lv_if_ne (tgt := 67) hx hb d_Mod_authorize_60 (by decide) (fun c_10 => ?_) (fun c_10 => ?_)
      · skip
        refine lv_iconst (v := 0) hx hb d_Mod_authorize_67 (by decide) ?_
        obtain ⟨d_11, hc_11, hj⟩ := bd_some hj
        have hF_11 := va_fr hD hS hA
        refine va_callv (va_runV (As := [.int (12 : Int32), .int (0 : Int32)]) (rest := []) ⟨hx, hb, hml, hown, hts⟩ (cm_M_enter l dC dI bd cb H.size d (12 : Int32) (0 : Int32)  d_11 hc_11) (cwV 2 hts (gtV tw688 tw690 ts27 tw9 tw691) rfl rfl rfl (by decide +kernel) ⟨Nat.le_of_ble_eq_true rfl, Nat.le_of_ble_eq_true rfl⟩) ⟨mBl, va_recv hK hP (ci := 8) (q0 := 0) rfl rfl, fun U hU hW => ⟨rfl, mPr hP hK hD hN hU hW⟩⟩ rfl rfl hl.1 rfl (lv_room (Nat.le_of_ble_eq_true rfl)) d_Mod_authorize_68 ⟨Nat.zero_le _, Nat.zero_le _⟩) hS (fun q _ h => hF_11 q h) hF_11 (fun u t H locs ht hvm hw hB hz1 hk1 hS => ?_)
        have hw := hw.symm
        subst hw
        obtain ⟨hP, hD⟩ := mAf hB ht hF_11
        refine lv_iload_n hx hb d_Mod_authorize_71 rfl (lv_at hl 0 rfl) ?_
        obtain ⟨rfl, rfl⟩ := rt_some hj
        exact W.iret hx hb hr (fun t ht hW => ⟨⟨_, _, rfl, ⟨rfl, rfl⟩, by rw [ht]; exact hP, va_K.moved hW.alike hK, hD⟩, hS.F ht⟩) hS.2.2 d_Mod_authorize_72
      · exact absurd c_10 (by decide)
  · have hj := it_n hj c_3
    refine lv_bipush (v := 14) hx hb d_Mod_authorize_20 (by decide) ?_
    refine lv_goto (tgt := 56) hx hb d_Mod_authorize_22 (by decide) ?_
    refine lv_istore_n (lv' := [(3, .int (14 : Int32)), (1, .long v_1), (0, .ref (bd 0))]) hx hb d_Mod_authorize_56 rfl hl (by decide) rfl (fun ls hl => ?_)
    refine lv_aload_n hx hb d_Mod_authorize_57 rfl (lv_at hl 2 rfl) ?_
    refine lv_iload_n hx hb d_Mod_authorize_58 rfl (lv_at hl 0 rfl) ?_
    refine lv_iload_n hx hb d_Mod_authorize_59 rfl (lv_at hl 0 rfl) ?_
    refine lv_if_ne (tgt := 67) hx hb d_Mod_authorize_60 (by decide) (fun c_12 => ?_) (fun c_12 => ?_)
    · skip
      refine lv_iconst (v := 0) hx hb d_Mod_authorize_67 (by decide) ?_
      obtain ⟨d_13, hc_13, hj⟩ := bd_some hj
      have hF_13 := va_fr hD hS hA
      refine va_callv (va_runV (As := [.int (14 : Int32), .int (0 : Int32)]) (rest := []) ⟨hx, hb, hml, hown, hts⟩ (cm_M_enter l dC dI bd cb H.size d (14 : Int32) (0 : Int32)  d_13 hc_13) (cwV 2 hts (gtV tw688 tw690 ts27 tw9 tw691) rfl rfl rfl (by decide +kernel) ⟨Nat.le_of_ble_eq_true rfl, Nat.le_of_ble_eq_true rfl⟩) ⟨mBl, va_recv hK hP (ci := 8) (q0 := 0) rfl rfl, fun U hU hW => ⟨rfl, mPr hP hK hD hN hU hW⟩⟩ rfl rfl hl.1 rfl (lv_room (Nat.le_of_ble_eq_true rfl)) d_Mod_authorize_68 ⟨Nat.zero_le _, Nat.zero_le _⟩) hS (fun q _ h => hF_13 q h) hF_13 (fun u t H locs ht hvm hw hB hz1 hk1 hS => ?_)
      have hw := hw.symm
      subst hw
      obtain ⟨hP, hD⟩ := mAf hB ht hF_13
      refine lv_iload_n hx hb d_Mod_authorize_71 rfl (lv_at hl 0 rfl) ?_
      obtain ⟨rfl, rfl⟩ := rt_some hj
      exact W.iret hx hb hr (fun t ht hW => ⟨⟨_, _, rfl, ⟨rfl, rfl⟩, by rw [ht]; exact hP, va_K.moved hW.alike hK, hD⟩, hS.F ht⟩) hS.2.2 d_Mod_authorize_72
    · exact absurd c_12 (by decide)
set_option maxHeartbeats 4000000 in
set_option maxRecDepth 100000 in
theorem cm_M_answer_B98 {p : Program} {l : Launch} {e : Env} {s : State} {m : MethodId} {args : Array Value} {below : List Frame} {meth : Method} {c : Code} {dC : Nat → ClassId} {dI : Nat → Nat → Nat} {bd : Nat → Nat} {cb : Nat → ClassId} {A : Nat → Prop} (d : MS)   (r9 : Int32) (d9 : MS) (hx : p.tables.exec = Jvm.exec) (hb : c.code = prog_10_method_28_code) (hr : meth.sig.returnType = (some .int)) (hlocks : meth.locks = false) (hml : c.maxLocals = 2) (hown : s.vm.findClass "CardMessageDeskModel" = some m.cls) (hts : ∀ w ∈ gt, w.before args s = true) (hN : nw s) (hA : ∀ q : Nat, s.heap.size ≤ q → A q) (hK : va_K (dC, dI) vwCl (mT cb) s)
    (H : Heap) (locs : List Loc) (ls : Array Slot) (hj : jm_M_answer_B98 d = some (r9, d9)) (hP : va_P (dC, dI) vwCl (mw bd cb d) H) (hD : va_D A (mw bd cb d)) (hS : va_S A s.heap H locs) (hl : lv_has ls 2 [(0, .ref (bd 0))]) : W p l e ({ frames := 4, cells := 0, slots := 0, locals := 94 }) s m args below meth c H locs 0 0 (MQ below (va_Qi (fun (r : Int32) (u : MS) => r = r9 ∧ u = d9) (mAt dC dI bd cb A) A) args s 0 0 A) (F0 m 98 ls []) := by
  unfold jm_M_answer_B98 at hj
  refine lv_aload_n hx hb d_Mod_answer_98 rfl (lv_at hl 0 rfl) ?_
  refine va_get (D := (dC, dI)) (ci := 8) (v := .int (mg_type d)) (C := "CardMessageDeskModel") (T := T_Mod) (N := 32) hx hb hts in_Mod hown hK hP 0 rfl rfl 13 (by decide) (hts _ tw513) (fun _ h9 => h9) rfl d_Mod_answer_99 ?_
  refine lv_bipush (v := 100) hx hb d_Mod_answer_102 (by decide) ?_
  refine lv_icmp_ne (tgt := 114) hx hb d_Mod_answer_104 (by decide) (fun c_7 => ?_) (fun c_7 => ?_)
  · have hj := it_n hj c_7
    refine lv_aload_n hx hb d_Mod_answer_114 rfl (lv_at hl 0 rfl) ?_
    refine va_get (D := (dC, dI)) (ci := 8) (v := .int (mg_type d)) (C := "CardMessageDeskModel") (T := T_Mod) (N := 32) hx hb hts in_Mod hown hK hP 0 rfl rfl 13 (by decide) (hts _ tw513) (fun _ h9 => h9) rfl d_Mod_answer_115 ?_
    refine lv_sipush (v := 200) hx hb d_Mod_answer_118 (by decide) ?_
    refine lv_icmp_ne (tgt := 131) hx hb d_Mod_answer_121 (by decide) (fun c_8 => ?_) (fun c_8 => ?_)
    · have hj := it_n hj c_8
      refine lv_aload_n hx hb d_Mod_answer_131 rfl (lv_at hl 0 rfl) ?_
      refine va_get (D := (dC, dI)) (ci := 8) (v := .int (mg_type d)) (C := "CardMessageDeskModel") (T := T_Mod) (N := 32) hx hb hts in_Mod hown hK hP 0 rfl rfl 13 (by decide) (hts _ tw513) (fun _ h9 => h9) rfl d_Mod_answer_132 ?_
      refine lv_sipush (v := 400) hx hb d_Mod_answer_135 (by decide) ?_
      refine lv_icmp_ne (tgt := 148) hx hb d_Mod_answer_138 (by decide) (fun c_9 => ?_) (fun c_9 => ?_)
      · have hj := it_n hj c_9
        refine lv_aload_n hx hb d_Mod_answer_148 rfl (lv_at hl 0 rfl) ?_
        obtain ⟨p_10, hc_10, hj⟩ := bd_some hj
        have hF_10 := va_fr hD hS hA
        refine va_calli (va_runV (As := []) (rest := []) ⟨hx, hb, hml, hown, hts⟩ (cm_M_settle l dC dI bd cb H.size d   p_10.1 p_10.2 hc_10) (cwV 0 hts (gtV tw708 tw710 ts32 tw9 tw711) rfl rfl rfl (by decide +kernel) ⟨Nat.le_of_ble_eq_true rfl, Nat.le_of_ble_eq_true rfl⟩) ⟨mBl, va_recv hK hP (ci := 8) (q0 := 0) rfl rfl, fun U hU hW => ⟨rfl, mPr hP hK hD hN hU hW⟩⟩ rfl rfl hl.1 rfl (lv_room (Nat.le_of_ble_eq_true rfl)) d_Mod_answer_149 ⟨Nat.zero_le _, Nat.zero_le _⟩) hS (fun q _ h => hF_10 q h) hF_10 (fun r u t H locs ht hvm hw hB hz1 hk1 hS => ?_)
        obtain ⟨hw1, hw2⟩ := hw
        have hw1 := hw1.symm
        subst hw1
        have hw2 := hw2.symm
        subst hw2
        obtain ⟨hP, hD⟩ := mAf hB ht hF_10
        obtain ⟨rfl, rfl⟩ := rt_some hj
        exact W.iret hx hb hr (fun t ht hW => ⟨⟨_, _, rfl, ⟨rfl, rfl⟩, by rw [ht]; exact hP, va_K.moved hW.alike hK, hD⟩, hS.F ht⟩) hS.2.2 d_Mod_answer_152
      · have hj := it_p hj c_9
        refine lv_aload_n hx hb d_Mod_answer_141 rfl (lv_at hl 0 rfl) ?_
        obtain ⟨p_11, hc_11, hj⟩ := bd_some hj
        have hF_11 := va_fr hD hS hA
        refine va_calli (va_runV (As := []) (rest := []) ⟨hx, hb, hml, hown, hts⟩ (cm_M_reverse l dC dI bd cb H.size d   p_11.1 p_11.2 hc_11) (cwV 0 hts (gtV tw700 tw702 ts30 tw9 tw703) rfl rfl rfl (by decide +kernel) ⟨Nat.le_of_ble_eq_true rfl, Nat.le_of_ble_eq_true rfl⟩) ⟨mBl, va_recv hK hP (ci := 8) (q0 := 0) rfl rfl, fun U hU hW => ⟨rfl, mPr hP hK hD hN hU hW⟩⟩ rfl rfl hl.1 rfl (lv_room (Nat.le_of_ble_eq_true rfl)) d_Mod_answer_142 ⟨Nat.zero_le _, Nat.zero_le _⟩) hS (fun q _ h => hF_11 q h) hF_11 (fun r u t H locs ht hvm hw hB hz1 hk1 hS => ?_)
        obtain ⟨hw1, hw2⟩ := hw
        have hw1 := hw1.symm
        subst hw1
        have hw2 := hw2.symm
        subst hw2
        obtain ⟨hP, hD⟩ := mAf hB ht hF_11
        refine lv_goto (tgt := 152) hx hb d_Mod_answer_145 (by decide) ?_
        obtain ⟨rfl, rfl⟩ := rt_some hj
        exact W.iret hx hb hr (fun t ht hW => ⟨⟨_, _, rfl, ⟨rfl, rfl⟩, by rw [ht]; exact hP, va_K.moved hW.alike hK, hD⟩, hS.F ht⟩) hS.2.2 d_Mod_answer_152
    · have hj := it_p hj c_8
      refine lv_aload_n hx hb d_Mod_answer_124 rfl (lv_at hl 0 rfl) ?_
      obtain ⟨p_12, hc_12, hj⟩ := bd_some hj
      have hF_12 := va_fr hD hS hA
      refine va_calli (va_runV (As := []) (rest := []) ⟨hx, hb, hml, hown, hts⟩ (cm_M_pay l dC dI bd cb H.size d   p_12.1 p_12.2 hc_12) (cwV 0 hts (gtV tw692 tw694 ts28 tw9 tw695) rfl rfl rfl (by decide +kernel) ⟨Nat.le_of_ble_eq_true rfl, Nat.le_of_ble_eq_true rfl⟩) ⟨mBl, va_recv hK hP (ci := 8) (q0 := 0) rfl rfl, fun U hU hW => ⟨rfl, mPr hP hK hD hN hU hW⟩⟩ rfl rfl hl.1 rfl (lv_room (Nat.le_of_ble_eq_true rfl)) d_Mod_answer_125 ⟨Nat.zero_le _, Nat.zero_le _⟩) hS (fun q _ h => hF_12 q h) hF_12 (fun r u t H locs ht hvm hw hB hz1 hk1 hS => ?_)
      obtain ⟨hw1, hw2⟩ := hw
      have hw1 := hw1.symm
      subst hw1
      have hw2 := hw2.symm
      subst hw2
      obtain ⟨hP, hD⟩ := mAf hB ht hF_12
      refine lv_goto (tgt := 152) hx hb d_Mod_answer_128 (by decide) ?_
      obtain ⟨rfl, rfl⟩ := rt_some hj
      exact W.iret hx hb hr (fun t ht hW => ⟨⟨_, _, rfl, ⟨rfl, rfl⟩, by rw [ht]; exact hP, va_K.moved hW.alike hK, hD⟩, hS.F ht⟩) hS.2.2 d_Mod_answer_152
  · have hj := it_p hj c_7
    refine lv_aload_n hx hb d_Mod_answer_107 rfl (lv_at hl 0 rfl) ?_
    obtain ⟨p_13, hc_13, hj⟩ := bd_some hj
    have hF_13 := va_fr hD hS hA
    refine va_calli (va_runV (As := []) (rest := []) ⟨hx, hb, hml, hown, hts⟩ (cm_M_authorize l dC dI bd cb H.size d   p_13.1 p_13.2 hc_13) (cwV 0 hts (gtV tw683 tw685 ts26 tw9 tw686) rfl rfl rfl (by decide +kernel) ⟨Nat.le_of_ble_eq_true rfl, Nat.le_of_ble_eq_true rfl⟩) ⟨mBl, va_recv hK hP (ci := 8) (q0 := 0) rfl rfl, fun U hU hW => ⟨rfl, mPr hP hK hD hN hU hW⟩⟩ rfl rfl hl.1 rfl (lv_room (Nat.le_of_ble_eq_true rfl)) d_Mod_answer_108 ⟨Nat.zero_le _, Nat.zero_le _⟩) hS (fun q _ h => hF_13 q h) hF_13 (fun r u t H locs ht hvm hw hB hz1 hk1 hS => ?_)
    obtain ⟨hw1, hw2⟩ := hw
    have hw1 := hw1.symm
    subst hw1
    have hw2 := hw2.symm
    subst hw2
    obtain ⟨hP, hD⟩ := mAf hB ht hF_13
    refine lv_goto (tgt := 152) hx hb d_Mod_answer_111 (by decide) ?_
    obtain ⟨rfl, rfl⟩ := rt_some hj
    exact W.iret hx hb hr (fun t ht hW => ⟨⟨_, _, rfl, ⟨rfl, rfl⟩, by rw [ht]; exact hP, va_K.moved hW.alike hK, hD⟩, hS.F ht⟩) hS.2.2 d_Mod_answer_152
set_option maxHeartbeats 4000000 in
set_option maxRecDepth 100000 in
theorem cm_M_answer_B71 {p : Program} {l : Launch} {e : Env} {s : State} {m : MethodId} {args : Array Value} {below : List Frame} {meth : Method} {c : Code} {dC : Nat → ClassId} {dI : Nat → Nat → Nat} {bd : Nat → Nat} {cb : Nat → ClassId} {A : Nat → Prop} (d : MS)   (r9 : Int32) (d9 : MS) (hx : p.tables.exec = Jvm.exec) (hb : c.code = prog_10_method_28_code) (hr : meth.sig.returnType = (some .int)) (hlocks : meth.locks = false) (hml : c.maxLocals = 2) (hown : s.vm.findClass "CardMessageDeskModel" = some m.cls) (hts : ∀ w ∈ gt, w.before args s = true) (hN : nw s) (hA : ∀ q : Nat, s.heap.size ≤ q → A q) (hK : va_K (dC, dI) vwCl (mT cb) s)
    (H : Heap) (locs : List Loc) (ls : Array Slot) (hj : jm_M_answer_B71 d = some (r9, d9)) (hP : va_P (dC, dI) vwCl (mw bd cb d) H) (hD : va_D A (mw bd cb d)) (hS : va_S A s.heap H locs) (hl : lv_has ls 2 [(0, .ref (bd 0))]) : W p l e ({ frames := 4, cells := 0, slots := 0, locals := 94 }) s m args below meth c H locs 0 0 (MQ below (va_Qi (fun (r : Int32) (u : MS) => r = r9 ∧ u = d9) (mAt dC dI bd cb A) A) args s 0 0 A) (F0 m 71 ls []) := by
  unfold jm_M_answer_B71 at hj
  refine lv_aload_n hx hb d_Mod_answer_71 rfl (lv_at hl 0 rfl) ?_
  refine va_get (D := (dC, dI)) (ci := 8) (v := .int (mg_entries d)) (C := "CardMessageDeskModel") (T := T_Mod) (N := 32) hx hb hts in_Mod hown hK hP 0 rfl rfl 20 (by decide) (hts _ tw520) (fun _ h9 => h9) rfl d_Mod_answer_72 ?_
  refine lv_aload_n hx hb d_Mod_answer_75 rfl (lv_at hl 0 rfl) ?_
  refine va_get (D := (dC, dI)) (ci := 8) (v := .int (mg_type d)) (C := "CardMessageDeskModel") (T := T_Mod) (N := 32) hx hb hts in_Mod hown hK hP 0 rfl rfl 13 (by decide) (hts _ tw513) (fun _ h9 => h9) rfl d_Mod_answer_76 ?_
  refine lv_sipush (v := 500) hx hb d_Mod_answer_79 (by decide) ?_
  refine lv_icmp_ne (tgt := 90) hx hb d_Mod_answer_82 (by decide) (fun c_5 => ?_) (fun c_5 => ?_)
  · have hj := it_n hj c_5
    refine lv_bipush (v := 24) hx hb d_Mod_answer_90 (by decide) ?_
    refine lv_icmp_lt (tgt := 98) hx hb d_Mod_answer_92 (by decide) (fun c_6 => ?_) (fun c_6 => ?_)
    · have hj := it_p hj c_6
      exact cm_M_answer_B98 d   _ _ hx hb hr hlocks hml hown hts hN hA hK _ _ ls hj hP hD hS (lv_sub hl [0] rfl)
    · have hj := it_n hj c_6
      refine lv_bipush (v := 96) hx hb d_Mod_answer_95 (by decide) ?_
      obtain ⟨rfl, rfl⟩ := rt_some hj
      exact W.iret hx hb hr (fun t ht hW => ⟨⟨_, _, rfl, ⟨rfl, rfl⟩, by rw [ht]; exact hP, va_K.moved hW.alike hK, hD⟩, hS.F ht⟩) hS.2.2 d_Mod_answer_97
  · have hj := it_p hj c_5
    refine lv_bipush (v := 32) hx hb d_Mod_answer_85 (by decide) ?_
    refine lv_goto (tgt := 92) hx hb d_Mod_answer_87 (by decide) ?_
    refine lv_icmp_lt (tgt := 98) hx hb d_Mod_answer_92 (by decide) (fun c_7 => ?_) (fun c_7 => ?_)
    · have hj := it_p hj c_7
      exact cm_M_answer_B98 d   _ _ hx hb hr hlocks hml hown hts hN hA hK _ _ ls hj hP hD hS (lv_sub hl [0] rfl)
    · have hj := it_n hj c_7
      refine lv_bipush (v := 96) hx hb d_Mod_answer_95 (by decide) ?_
      obtain ⟨rfl, rfl⟩ := rt_some hj
      exact W.iret hx hb hr (fun t ht hW => ⟨⟨_, _, rfl, ⟨rfl, rfl⟩, by rw [ht]; exact hP, va_K.moved hW.alike hK, hD⟩, hS.F ht⟩) hS.2.2 d_Mod_answer_97
set_option maxHeartbeats 4000000 in
set_option maxRecDepth 100000 in
theorem cm_M_answer (l : Launch) (dC : Nat → ClassId) (dI : Nat → Nat → Nat) (bd : Nat → Nat) (cb : Nat → ClassId) (sz : Nat) (d : MS)   (r9 : Int32) (d9 : MS) (hj : jm_M_answer d = some (r9, d9)) : Met l y_Mod_answer w_Mod_answer ({ frames := 4, cells := 0, slots := 0, locals := 94 }) (va_Pc [.ref (bd 0)] (mPre dC dI bd cb sz d)) (va_Qi (fun (r : Int32) (u : MS) => r = r9 ∧ u = d9) (mAt dC dI bd cb (va_A (mw bd cb d) sz)) (va_A (mw bd cb d) sz)) 0 0 (va_A (mw bd cb d) sz) := by
  refine Met.ofW (cc := prog_10_method_28_code) (maxL := 2) (ret := (some .int)) (by decide) rfl ?_
  intro p e s m args below meth c s₁ B hml hv
  obtain ⟨rfl, hsz, hP, hK, hD0, hN⟩ := hv
  have hx := B.exec
  have hb := B.bytes
  have hr := B.returns
  have hts0 := atoms_spec (ws := w_Mod_answer) B.pre
  have hts : ∀ w ∈ gt, w.before _ s = true := fun w h => hts0 w (List.mem_cons_of_mem _ h)
  have hown : s.vm.findClass "CardMessageDeskModel" = some m.cls := findClass_of_methodNamed B.named
  have hlocks := B.notSynchronized
  subst hsz
  have hD := hD0.self (sz := s.heap.size)
  generalize hAe : va_A (mw bd cb d) s.heap.size = A at hD ⊢
  have hA : ∀ q : Nat, s.heap.size ≤ q → A q := fun q h => by rw [← hAe]; exact Or.inr h
  have hS : va_S A s.heap s.heap [] := va_S.rf
  have hl := lv_entry ([.ref (bd 0)]) (n := 2) (Nat.le_of_ble_eq_true rfl)
  rw [lg_entry_eq]
  generalize (lg_sl ([.ref (bd 0)]) ++ List.replicate (2 - (lg_sl ([.ref (bd 0)])).length) Slot.unset).toArray = ls at hl ⊢
  have hl : lv_has ls 2 [(0, .ref (bd 0))] := hl
  unfold jm_M_answer at hj
  refine lv_aload_n hx hb d_Mod_answer_0 rfl (lv_at hl 0 rfl) ?_
  refine lv_aload_n hx hb d_Mod_answer_1 rfl (lv_at hl 0 rfl) ?_
  refine va_get (D := (dC, dI)) (ci := 8) (v := .int (mg_type d)) (C := "CardMessageDeskModel") (T := T_Mod) (N := 32) hx hb hts in_Mod hown hK hP 0 rfl rfl 13 (by decide) (hts _ tw513) (fun _ h9 => h9) rfl d_Mod_answer_2 ?_
  refine lv_aload_n hx hb d_Mod_answer_5 rfl (lv_at hl 0 rfl) ?_
  refine va_get (D := (dC, dI)) (ci := 8) (v := .int (mg_trace d)) (C := "CardMessageDeskModel") (T := T_Mod) (N := 32) hx hb hts in_Mod hown hK hP 0 rfl rfl 17 (by decide) (hts _ tw517) (fun _ h9 => h9) rfl d_Mod_answer_6 ?_
  obtain ⟨v_1, hc_1, hj⟩ := bd_some hj
  have hF_1 := va_fr hD hS hA
  refine va_calli (va_runV (As := [.int (mg_type d), .int (mg_trace d)]) (rest := []) ⟨hx, hb, hml, hown, hts⟩ (cm_M_same l dC dI bd cb s.heap.size d (mg_type d) (mg_trace d)  v_1 hc_1) (cwV 2 hts (gtV tw679 tw681 ts25 tw9 tw682) rfl rfl rfl (by decide +kernel) ⟨Nat.le_of_ble_eq_true rfl, Nat.le_of_ble_eq_true rfl⟩) ⟨mBl, va_recv hK hP (ci := 8) (q0 := 0) rfl rfl, fun U hU hW => ⟨rfl, mPr hP hK hD hN hU hW⟩⟩ rfl rfl hl.1 rfl (lv_room (Nat.le_of_ble_eq_true rfl)) d_Mod_answer_9 ⟨Nat.zero_le _, Nat.zero_le _⟩) hS (fun q _ h => hF_1 q h) hF_1 (fun r u t H locs ht hvm hw hB hz1 hk1 hS => ?_)
  obtain ⟨hw1, hw2⟩ := hw
  have hw1 := hw1.symm
  subst hw1
  have hw2 := hw2.symm
  subst hw2
  obtain ⟨hP, hD⟩ := mAf hB ht hF_1
  refine lv_istore_n (lv' := [(1, .int v_1), (0, .ref (bd 0))]) hx hb d_Mod_answer_12 rfl hl (by decide) rfl (fun ls hl => ?_)
  refine lv_aload_n hx hb d_Mod_answer_13 rfl (lv_at hl 1 rfl) ?_
  refine lv_lconst (v := 0) hx hb d_Mod_answer_14 (by decide) ?_
  obtain ⟨d_2, ed_2, hj⟩ := nm_some hj
  refine va_put (D := (dC, dI)) (ci := 8) (v := .long (0 : Int64)) (ty := .long) (C := "CardMessageDeskModel") (T := T_Mod) (N := 32) hx hb hts in_Mod ty_Mod ty_Mod_ok nm_Mod hown hK hP hD hS 0 rfl rfl 31 (by decide) (hts _ tw531) (fun _ h9 => h9) rfl (by decide +kernel) rfl rfl (Nat.le_of_ble_eq_true rfl) d_Mod_answer_15 (fun H locs hP hD hS => ?_)
  have hP : va_P (dC, dI) vwCl (mw bd cb d_2) H := by rw [ed_2]; exact hP
  have hD : va_D A (mw bd cb d_2) := by rw [ed_2]; exact hD
  refine lv_iload_n hx hb d_Mod_answer_18 rfl (lv_at hl 0 rfl) ?_
  refine lv_if_lt (tgt := 29) hx hb d_Mod_answer_19 (by decide) (fun c_3 => ?_) (fun c_3 => ?_)
  · have hj := it_p hj c_3
    refine lv_aload_n hx hb d_Mod_answer_29 rfl (lv_at hl 1 rfl) ?_
    refine va_get (D := (dC, dI)) (ci := 8) (v := .int (mg_type d_2)) (C := "CardMessageDeskModel") (T := T_Mod) (N := 32) hx hb hts in_Mod hown hK hP 0 rfl rfl 13 (by decide) (hts _ tw513) (fun _ h9 => h9) rfl d_Mod_answer_30 ?_
    refine lv_bipush (v := 100) hx hb d_Mod_answer_33 (by decide) ?_
    refine lv_icmp_eq (tgt := 71) hx hb d_Mod_answer_35 (by decide) (fun c_4 => ?_) (fun c_4 => ?_)
    · have hj := it_p hj c_4
      exact cm_M_answer_B71 d_2   _ _ hx hb hr hlocks hml hown hts hN hA hK _ _ ls hj hP hD hS (lv_sub hl [1] rfl)
    · have hj := it_n hj c_4
      refine lv_aload_n hx hb d_Mod_answer_38 rfl (lv_at hl 1 rfl) ?_
      refine va_get (D := (dC, dI)) (ci := 8) (v := .int (mg_type d_2)) (C := "CardMessageDeskModel") (T := T_Mod) (N := 32) hx hb hts in_Mod hown hK hP 0 rfl rfl 13 (by decide) (hts _ tw513) (fun _ h9 => h9) rfl d_Mod_answer_39 ?_
      refine lv_sipush (v := 200) hx hb d_Mod_answer_42 (by decide) ?_
      refine lv_icmp_eq (tgt := 71) hx hb d_Mod_answer_45 (by decide) (fun c_5 => ?_) (fun c_5 => ?_)
      · have hj := it_p hj c_5
        exact cm_M_answer_B71 d_2   _ _ hx hb hr hlocks hml hown hts hN hA hK _ _ ls hj hP hD hS (lv_sub hl [1] rfl)
      · have hj := it_n hj c_5
        refine lv_aload_n hx hb d_Mod_answer_48 rfl (lv_at hl 1 rfl) ?_
        refine va_get (D := (dC, dI)) (ci := 8) (v := .int (mg_type d_2)) (C := "CardMessageDeskModel") (T := T_Mod) (N := 32) hx hb hts in_Mod hown hK hP 0 rfl rfl 13 (by decide) (hts _ tw513) (fun _ h9 => h9) rfl d_Mod_answer_49 ?_
        refine lv_sipush (v := 400) hx hb d_Mod_answer_52 (by decide) ?_
        refine lv_icmp_eq (tgt := 71) hx hb d_Mod_answer_55 (by decide) (fun c_6 => ?_) (fun c_6 => ?_)
        · have hj := it_p hj c_6
          exact cm_M_answer_B71 d_2   _ _ hx hb hr hlocks hml hown hts hN hA hK _ _ ls hj hP hD hS (lv_sub hl [1] rfl)
        · have hj := it_n hj c_6
          refine lv_aload_n hx hb d_Mod_answer_58 rfl (lv_at hl 1 rfl) ?_
          refine va_get (D := (dC, dI)) (ci := 8) (v := .int (mg_type d_2)) (C := "CardMessageDeskModel") (T := T_Mod) (N := 32) hx hb hts in_Mod hown hK hP 0 rfl rfl 13 (by decide) (hts _ tw513) (fun _ h9 => h9) rfl d_Mod_answer_59 ?_
          refine lv_sipush (v := 500) hx hb d_Mod_answer_62 (by decide) ?_
          refine lv_icmp_eq (tgt := 71) hx hb d_Mod_answer_65 (by decide) (fun c_7 => ?_) (fun c_7 => ?_)
          · have hj := it_p hj c_7
            exact cm_M_answer_B71 d_2   _ _ hx hb hr hlocks hml hown hts hN hA hK _ _ ls hj hP hD hS (lv_sub hl [1] rfl)
          · have hj := it_n hj c_7
            refine lv_bipush (v := 12) hx hb d_Mod_answer_68 (by decide) ?_
            obtain ⟨rfl, rfl⟩ := rt_some hj
            exact W.iret hx hb hr (fun t ht hW => ⟨⟨_, _, rfl, ⟨rfl, rfl⟩, by rw [ht]; exact hP, va_K.moved hW.alike hK, hD⟩, hS.F ht⟩) hS.2.2 d_Mod_answer_70
  · have hj := it_n hj c_3
    refine lv_aload_n hx hb d_Mod_answer_22 rfl (lv_at hl 1 rfl) ?_
    refine va_get (D := (dC, dI)) (ci := 8) (v := .ref (bd 14)) (C := "CardMessageDeskModel") (T := T_Mod) (N := 32) hx hb hts in_Mod hown hK hP 0 rfl rfl 27 (by decide) (hts _ tw527) (fun _ h9 => h9) rfl d_Mod_answer_23 ?_
    refine lv_iload_n hx hb d_Mod_answer_26 rfl (lv_at hl 0 rfl) ?_
    obtain ⟨hi_8, hj⟩ := gd_some hj
    refine va_iald hx hb hK hP 14 13 rfl rfl hi_8 d_Mod_answer_27 ?_
    obtain ⟨rfl, rfl⟩ := rt_some hj
    exact W.iret hx hb hr (fun t ht hW => ⟨⟨_, _, rfl, ⟨rfl, rfl⟩, by rw [ht]; exact hP, va_K.moved hW.alike hK, hD⟩, hS.F ht⟩) hS.2.2 d_Mod_answer_28
set_option maxHeartbeats 4000000 in
set_option maxRecDepth 100000 in
theorem cm_M_write (l : Launch) (dC : Nat → ClassId) (dI : Nat → Nat → Nat) (bd : Nat → Nat) (cb : Nat → ClassId) (sz : Nat) (d : MS) (p1 : Int32)  (d9 : MS) (hj : jm_M_write d p1 = some d9) : Met l y_Mod_write w_Mod_write ({ frames := 0, cells := 0, slots := 0, locals := 0 }) (va_Pc [.ref (bd 0), .int p1] (mPre dC dI bd cb sz d)) (va_Qv (fun u : MS => u = d9) (mAt dC dI bd cb (va_A (mw bd cb d) sz)) (va_A (mw bd cb d) sz)) 0 0 (va_A (mw bd cb d) sz) := by
  refine Met.ofW (cc := prog_10_method_29_code) (maxL := 2) (ret := none) (by decide) rfl ?_
  intro p e s m args below meth c s₁ B hml hv
  obtain ⟨rfl, hsz, hP, hK, hD0, hN⟩ := hv
  have hx := B.exec
  have hb := B.bytes
  have hr := B.returns
  have hts0 := atoms_spec (ws := w_Mod_write) B.pre
  have hts : ∀ w ∈ gt, w.before _ s = true := fun w h => hts0 w (List.mem_cons_of_mem _ h)
  have hown : s.vm.findClass "CardMessageDeskModel" = some m.cls := findClass_of_methodNamed B.named
  have hlocks := B.notSynchronized
  subst hsz
  have hD := hD0.self (sz := s.heap.size)
  generalize hAe : va_A (mw bd cb d) s.heap.size = A at hD ⊢
  have hA : ∀ q : Nat, s.heap.size ≤ q → A q := fun q h => by rw [← hAe]; exact Or.inr h
  have hS : va_S A s.heap s.heap [] := va_S.rf
  have hl := lv_entry ([.ref (bd 0), .int p1]) (n := 2) (Nat.le_of_ble_eq_true rfl)
  rw [lg_entry_eq]
  generalize (lg_sl ([.ref (bd 0), .int p1]) ++ List.replicate (2 - (lg_sl ([.ref (bd 0), .int p1])).length) Slot.unset).toArray = ls at hl ⊢
  have hl : lv_has ls 2 [(0, .ref (bd 0)), (1, .int p1)] := hl
  unfold jm_M_write at hj
  refine lv_aload_n hx hb d_Mod_write_0 rfl (lv_at hl 0 rfl) ?_
  refine va_get (D := (dC, dI)) (ci := 8) (v := .ref (bd 4)) (C := "CardMessageDeskModel") (T := T_Mod) (N := 32) hx hb hts in_Mod hown hK hP 0 rfl rfl 6 (by decide) (hts _ tw506) (fun _ h9 => h9) rfl d_Mod_write_1 ?_
  refine lv_aload_n hx hb d_Mod_write_4 rfl (lv_at hl 0 rfl) ?_
  refine va_get (D := (dC, dI)) (ci := 8) (v := .int (mg_outs d)) (C := "CardMessageDeskModel") (T := T_Mod) (N := 32) hx hb hts in_Mod hown hK hP 0 rfl rfl 7 (by decide) (hts _ tw507) (fun _ h9 => h9) rfl d_Mod_write_5 ?_
  refine lv_iload_n hx hb d_Mod_write_8 rfl (lv_at hl 1 rfl) ?_
  obtain ⟨hi_1, hj⟩ := gd_some hj
  obtain ⟨d_2, ed_2, hj⟩ := nm_some hj
  refine va_iast hx hb hK hP hD hS 4 3 rfl rfl hi_1 d_Mod_write_9 (fun H locs hP hD hS => ?_)
  have hP : va_P (dC, dI) vwCl (mw bd cb d_2) H := by rw [ed_2]; exact hP
  have hD : va_D A (mw bd cb d_2) := by rw [ed_2]; exact hD
  refine lv_aload_n hx hb d_Mod_write_10 rfl (lv_at hl 0 rfl) ?_
  refine lv_dup hx hb d_Mod_write_11 rfl ?_
  refine va_get (D := (dC, dI)) (ci := 8) (v := .int (mg_outs d_2)) (C := "CardMessageDeskModel") (T := T_Mod) (N := 32) hx hb hts in_Mod hown hK hP 0 rfl rfl 7 (by decide) (hts _ tw507) (fun _ h9 => h9) rfl d_Mod_write_12 ?_
  refine lv_iconst (v := 1) hx hb d_Mod_write_15 (by decide) ?_
  refine lv_iadd hx hb d_Mod_write_16 ?_
  obtain ⟨d_3, ed_3, hj⟩ := nm_some hj
  refine va_put (D := (dC, dI)) (ci := 8) (v := .int ((mg_outs d_2) + (1 : Int32))) (ty := .int) (C := "CardMessageDeskModel") (T := T_Mod) (N := 32) hx hb hts in_Mod ty_Mod ty_Mod_ok nm_Mod hown hK hP hD hS 0 rfl rfl 7 (by decide) (hts _ tw507) (fun _ h9 => h9) rfl (by decide +kernel) rfl rfl (Nat.le_of_ble_eq_true rfl) d_Mod_write_17 (fun H locs hP hD hS => ?_)
  have hP : va_P (dC, dI) vwCl (mw bd cb d_3) H := by rw [ed_3]; exact hP
  have hD : va_D A (mw bd cb d_3) := by rw [ed_3]; exact hD
  obtain rfl := Option.some.inj hj
  exact W.vret hx hb hr (fun t ht hW => ⟨⟨_, rfl, rfl, by rw [ht]; exact hP, va_K.moved hW.alike hK, hD⟩, hS.F ht⟩) hS.2.2 d_Mod_write_20
