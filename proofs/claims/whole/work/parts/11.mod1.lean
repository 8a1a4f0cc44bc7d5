set_option maxHeartbeats 4000000 in
set_option maxRecDepth 100000 in
theorem cm_M_readCard (l : Launch) (dC : Nat → ClassId) (dI : Nat → Nat → Nat) (bd : Nat → Nat) (cb : Nat → ClassId) (sz : Nat) (d : MS)   (r9 : Int32) (d9 : MS) (hj : jm_M_readCard d = some (r9, d9)) : Met l y_Mod_readCard w_Mod_readCard ({ frames := 1, cells := 0, slots := 0, locals := 24 }) (va_Pc [.ref (bd 0)] (mPre dC dI bd cb sz d)) (va_Qi (fun (r : Int32) (u : MS) => r = r9 ∧ u = d9) (mAt dC dI bd cb (va_A (mw bd cb d) sz)) (va_A (mw bd cb d) sz)) 0 0 (va_A (mw bd cb d) sz) := by
  refine Met.ofW (cc := prog_10_method_11_code) (maxL := 1) (ret := (some .boolean)) (by decide) rfl ?_
  intro p e s m args below meth c s₁ B hml hv
  obtain ⟨rfl, hsz, hP, hK, hD0, hN⟩ := hv
  have hx := B.exec
  have hb := B.bytes
  have hr := B.returns
  have hts0 := atoms_spec (ws := w_Mod_readCard) B.pre
  have hts : ∀ w ∈ gt, w.before _ s = true := fun w h => hts0 w (List.mem_cons_of_mem _ h)
  have hown : s.vm.findClass "CardMessageDeskModel" = some m.cls := findClass_of_methodNamed B.named
  have hlocks := B.notSynchronized
  subst hsz
  have hD := hD0.self (sz := s.heap.size)
  generalize hAe : va_A (mw bd cb d) s.heap.size = A at hD ⊢
  have hA : ∀ q : Nat, s.heap.size ≤ q → A q := fun q h => by rw [← hAe]; exact Or.inr h
  have hS : va_S A s.heap s.heap [] := va_S.rf
  have hl := lv_entry ([.ref (bd 0)]) (n := 1) (Nat.le_of_ble_eq_true rfl)
  rw [lg_entry_eq]
  generalize (lg_sl ([.ref (bd 0)]) ++ List.replicate (1 - (lg_sl ([.ref (bd 0)])).length) Slot.unset).toArray = ls at hl ⊢
  have hl : lv_has ls 1 [(0, .ref (bd 0))] := hl
  unfold jm_M_readCard at hj
  refine lv_aload_n hx hb d_Mod_readCard_0 rfl (lv_at hl 0 rfl) ?_
  refine lv_iconst (v := 2) hx hb d_Mod_readCard_1 (by decide) ?_
  obtain ⟨p_1, hc_1, hj⟩ := bd_some hj
  have hF_1 := va_fr hD hS hA
  refine va_calli (va_runV (As := [.int (2 : Int32)]) (rest := []) ⟨hx, hb, hml, hown, hts⟩ (cm_M_digits l dC dI bd cb s.heap.size d (2 : Int32)  p_1.1 p_1.2 hc_1) (cwV 1 hts (gtV tw643 tw645 ts17 tw9 tw646) rfl rfl rfl (by decide +kernel) ⟨Nat.le_of_ble_eq_true rfl, Nat.le_of_ble_eq_true rfl⟩) ⟨mBl, va_recv hK hP (ci := 8) (q0 := 0) rfl rfl, fun U hU hW => ⟨rfl, mPr hP hK hD hN hU hW⟩⟩ rfl rfl hl.1 rfl (lv_room (Nat.le_of_ble_eq_true rfl)) d_Mod_readCard_2 ⟨Nat.zero_le _, Nat.zero_le _⟩) hS (fun q _ h => hF_1 q h) hF_1 (fun r u t H locs ht hvm hw hB hz1 hk1 hS => ?_)
  obtain ⟨hw1, hw2⟩ := hw
  have hw1 := hw1.symm
  subst hw1
  have hw2 := hw2.symm
  subst hw2
  obtain ⟨hP, hD⟩ := mAf hB ht hF_1
  refine lv_if_eq (tgt := 40) hx hb d_Mod_readCard_5 (by decide) (fun c_2 => ?_) (fun c_2 => ?_)
  · have hj := it_p hj c_2
    refine lv_iconst (v := 0) hx hb d_Mod_readCard_40 (by decide) ?_
    obtain ⟨rfl, rfl⟩ := rt_some hj
    exact W.zret (ty := .boolean) hx hb hr rfl (fun t ht hW => ⟨⟨_, _, rfl, ⟨rfl, rfl⟩, by rw [ht]; exact hP, va_K.moved hW.alike hK, hD⟩, hS.F ht⟩) hS.2.2 d_Mod_readCard_41
  · have hj := it_n hj c_2
    refine lv_aload_n hx hb d_Mod_readCard_8 rfl (lv_at hl 0 rfl) ?_
    refine va_get (D := (dC, dI)) (ci := 8) (v := .long (mg_value p_1.2)) (C := "CardMessageDeskModel") (T := T_Mod) (N := 32) hx hb hts in_Mod hown hK hP 0 rfl rfl 9 (by decide) (hts _ tw509) (fun _ h9 => h9) rfl d_Mod_readCard_9 ?_
    refine lv_lconst (v := 1) hx hb d_Mod_readCard_12 (by decide) ?_
    refine W.lcmp hx hb d_Mod_readCard_13 ?_
    refine lv_if_lt (tgt := 40) hx hb d_Mod_readCard_14 (by decide) (fun c_3 => ?_) (fun c_3 => ?_)
    · have hj := it_p hj (lc_lt.mp c_3)
      refine lv_iconst (v := 0) hx hb d_Mod_readCard_40 (by decide) ?_
      obtain ⟨rfl, rfl⟩ := rt_some hj
      exact W.zret (ty := .boolean) hx hb hr rfl (fun t ht hW => ⟨⟨_, _, rfl, ⟨rfl, rfl⟩, by rw [ht]; exact hP, va_K.moved hW.alike hK, hD⟩, hS.F ht⟩) hS.2.2 d_Mod_readCard_41
    · have hj := it_n hj (fun z => c_3 (lc_lt.mpr z))
      refine lv_aload_n hx hb d_Mod_readCard_17 rfl (lv_at hl 0 rfl) ?_
      refine va_get (D := (dC, dI)) (ci := 8) (v := .long (mg_value p_1.2)) (C := "CardMessageDeskModel") (T := T_Mod) (N := 32) hx hb hts in_Mod hown hK hP 0 rfl rfl 9 (by decide) (hts _ tw509) (fun _ h9 => h9) rfl d_Mod_readCard_18 ?_
      refine lv_ldc2 (v := 16) hx hb hown (hts _ tw656) d_Mod_readCard_21 ?_
      refine W.lcmp hx hb d_Mod_readCard_24 ?_
      refine lv_if_gt (tgt := 40) hx hb d_Mod_readCard_25 (by decide) (fun c_4 => ?_) (fun c_4 => ?_)
      · have hj := it_p hj (lc_gt.mp c_4)
        refine lv_iconst (v := 0) hx hb d_Mod_readCard_40 (by decide) ?_
        obtain ⟨rfl, rfl⟩ := rt_some hj
        exact W.zret (ty := .boolean) hx hb hr rfl (fun t ht hW => ⟨⟨_, _, rfl, ⟨rfl, rfl⟩, by rw [ht]; exact hP, va_K.moved hW.alike hK, hD⟩, hS.F ht⟩) hS.2.2 d_Mod_readCard_41
      · have hj := it_n hj (fun z => c_4 (lc_gt.mpr z))
        refine lv_aload_n hx hb d_Mod_readCard_28 rfl (lv_at hl 0 rfl) ?_
        refine lv_aload_n hx hb d_Mod_readCard_29 rfl (lv_at hl 0 rfl) ?_
        refine va_get (D := (dC, dI)) (ci := 8) (v := .long (mg_value p_1.2)) (C := "CardMessageDeskModel") (T := T_Mod) (N := 32) hx hb hts in_Mod hown hK hP 0 rfl rfl 9 (by decide) (hts _ tw509) (fun _ h9 => h9) rfl d_Mod_readCard_30 ?_
        refine lv_l2i (v := ((mg_value p_1.2)).toInt32) hx hb d_Mod_readCard_33 rfl ?_
        obtain ⟨p_5, hc_5, hj⟩ := bd_some hj
        have hF_5 := va_fr hD hS hA
        refine va_calli (va_runV (As := [.int ((mg_value p_1.2)).toInt32]) (rest := []) ⟨hx, hb, hml, hown, hts⟩ (cm_M_digits l dC dI bd cb H.size p_1.2 ((mg_value p_1.2)).toInt32  p_5.1 p_5.2 hc_5) (cwV 1 hts (gtV tw643 tw645 ts17 tw9 tw646) rfl rfl rfl (by decide +kernel) ⟨Nat.le_of_ble_eq_true rfl, Nat.le_of_ble_eq_true rfl⟩) ⟨mBl, va_recv hK hP (ci := 8) (q0 := 0) rfl rfl, fun U hU hW => ⟨rfl, mPr hP hK hD hN hU hW⟩⟩ rfl rfl hl.1 rfl (lv_room (Nat.le_of_ble_eq_true rfl)) d_Mod_readCard_34 ⟨Nat.zero_le _, Nat.zero_le _⟩) hS (fun q _ h => hF_5 q h) hF_5 (fun r u t H locs ht hvm hw hB hz1 hk1 hS => ?_)
        obtain ⟨hw1, hw2⟩ := hw
        have hw1 := hw1.symm
        subst hw1
        have hw2 := hw2.symm
        subst hw2
        obtain ⟨hP, hD⟩ := mAf hB ht hF_5
        refine lv_if_ne (tgt := 42) hx hb d_Mod_readCard_37 (by decide) (fun c_6 => ?_) (fun c_6 => ?_)
        · have hj := it_n hj c_6
          refine lv_aload_n hx hb d_Mod_readCard_42 rfl (lv_at hl 0 rfl) ?_
          refine lv_aload_n hx hb d_Mod_readCard_43 rfl (lv_at hl 0 rfl) ?_
          refine va_get (D := (dC, dI)) (ci := 8) (v := .long (mg_value p_5.2)) (C := "CardMessageDeskModel") (T := T_Mod) (N := 32) hx hb hts in_Mod hown hK hP 0 rfl rfl 9 (by decide) (hts _ tw509) (fun _ h9 => h9) rfl d_Mod_readCard_44 ?_
          obtain ⟨d_7, ed_7, hj⟩ := nm_some hj
          refine va_put (D := (dC, dI)) (ci := 8) (v := .long (mg_value p_5.2)) (ty := .long) (C := "CardMessageDeskModel") (T := T_Mod) (N := 32) hx hb hts in_Mod ty_Mod ty_Mod_ok nm_Mod hown hK hP hD hS 0 rfl rfl 14 (by decide) (hts _ tw514) (fun _ h9 => h9) rfl (by decide +kernel) rfl rfl (Nat.le_of_ble_eq_true rfl) d_Mod_readCard_47 (fun H locs hP hD hS => ?_)
          have hP : va_P (dC, dI) vwCl (mw bd cb d_7) H := by rw [ed_7]; exact hP
          have hD : va_D A (mw bd cb d_7) := by rw [ed_7]; exact hD
          refine lv_iconst (v := 1) hx hb d_Mod_readCard_50 (by decide) ?_
          obtain ⟨rfl, rfl⟩ := rt_some hj
          exact W.zret (ty := .boolean) hx hb hr rfl (fun t ht hW => ⟨⟨_, _, rfl, ⟨rfl, rfl⟩, by rw [ht]; exact hP, va_K.moved hW.alike hK, hD⟩, hS.F ht⟩) hS.2.2 d_Mod_readCard_51
        · have hj := it_p hj c_6
          refine lv_iconst (v := 0) hx hb d_Mod_readCard_40 (by decide) ?_
          obtain ⟨rfl, rfl⟩ := rt_some hj
          exact W.zret (ty := .boolean) hx hb hr rfl (fun t ht hW => ⟨⟨_, _, rfl, ⟨rfl, rfl⟩, by rw [ht]; exact hP, va_K.moved hW.alike hK, hD⟩, hS.F ht⟩) hS.2.2 d_Mod_readCard_41
set_option maxHeartbeats 4000000 in
set_option maxRecDepth 100000 in
theorem cm_M_characters_L23 {p : Program} {l : Launch} {e : Env} {s : State} {m : MethodId} {args : Array Value} {below : List Frame} {meth : Method} {c : Code} {dC : Nat → ClassId} {dI : Nat → Nat → Nat} {bd : Nat → Nat} {cb : Nat → ClassId} {A : Nat → Prop}  (x1 : Int32) (x2 : Int32) (x3 : Int32)  (r9 : Int32) (d9 : MS) (hx : p.tables.exec = Jvm.exec) (hb : c.code = prog_10_method_10_code) (hr : meth.sig.returnType = (some .boolean)) (hlocks : meth.locks = false) (hml : c.maxLocals = 6) (hown : s.vm.findClass "CardMessageDeskModel" = some m.cls) (hts : ∀ w ∈ gt, w.before args s = true) (hN : nw s) (hA : ∀ q : Nat, s.heap.size ≤ q → A q) (hK : va_K (dC, dI) vwCl (mT cb) s) :
    ∀ (n : Nat) (d : MS) (x4 : Int32) (H : Heap) (locs : List Loc) (ls : Array Slot), loopF (jm_M_characters_L23 x1 x2 x3) n (d, x4) = some (r9, d9) → va_P (dC, dI) vwCl (mw bd cb d) H → va_D A (mw bd cb d) → va_S A s.heap H locs → lv_has ls 6 [(0, .ref (bd 0)), (1, .int x1), (2, .int x2), (3, .int x3), (4, .int x4)] → W p l e ({ frames := 0, cells := 0, slots := 0, locals := 0 }) s m args below meth c H locs 0 0 (MQ below (va_Qi (fun (r : Int32) (u : MS) => r = r9 ∧ u = d9) (mAt dC dI bd cb A) A) args s 0 0 A) (F0 m 23 ls []) := by
  intro n
  induction n with
  | zero =>
    intro d x4 H locs ls hj
    exact (loopF_z hj).elim
  | succ n ih =>
    intro d x4 H locs ls hj hP hD hS hl
    have hj := loopF_s hj
    unfold jm_M_characters_L23 at hj
    try dsimp only at hj
    refine lv_iload hx hb d_Mod_characters_23 (lv_at hl 4 rfl) ?_
    refine lv_iload_n hx hb d_Mod_characters_25 rfl (lv_at hl 1 rfl) ?_
    refine lv_icmp_ge (tgt := 78) hx hb d_Mod_characters_26 (by decide) (fun c_3 => ?_) (fun c_3 => ?_)
    · have hj := it_p hj c_3
      refine lv_aload_n hx hb d_Mod_characters_78 rfl (lv_at hl 0 rfl) ?_
      refine lv_aload_n hx hb d_Mod_characters_79 rfl (lv_at hl 0 rfl) ?_
      refine va_get (D := (dC, dI)) (ci := 8) (v := .int (mg_at d)) (C := "CardMessageDeskModel") (T := T_Mod) (N := 32) hx hb hts in_Mod hown hK hP 0 rfl rfl 8 (by decide) (hts _ tw508) (fun _ h9 => h9) rfl d_Mod_characters_80 ?_
      refine lv_iload_n hx hb d_Mod_characters_83 rfl (lv_at hl 1 rfl) ?_
      refine lv_iadd hx hb d_Mod_characters_84 ?_
      obtain ⟨d_4, ed_4, hj⟩ := nm_some hj
      refine va_put (D := (dC, dI)) (ci := 8) (v := .int ((mg_at d) + x1)) (ty := .int) (C := "CardMessageDeskModel") (T := T_Mod) (N := 32) hx hb hts in_Mod ty_Mod ty_Mod_ok nm_Mod hown hK hP hD hS 0 rfl rfl 8 (by decide) (hts _ tw508) (fun _ h9 => h9) rfl (by decide +kernel) rfl rfl (Nat.le_of_ble_eq_true rfl) d_Mod_characters_85 (fun H locs hP hD hS => ?_)
      have hP : va_P (dC, dI) vwCl (mw bd cb d_4) H := by rw [ed_4]; exact hP
      have hD : va_D A (mw bd cb d_4) := by rw [ed_4]; exact hD
      refine lv_iconst (v := 1) hx hb d_Mod_characters_88 (by decide) ?_
      obtain ⟨rfl, rfl⟩ := rt_some hj
      exact W.zret (ty := .boolean) hx hb hr rfl (fun t ht hW => ⟨⟨_, _, rfl, ⟨rfl, rfl⟩, by rw [ht]; exact hP, va_K.moved hW.alike hK, hD⟩, hS.F ht⟩) hS.2.2 d_Mod_characters_89
    · have hj := it_n hj c_3
      refine lv_aload_n hx hb d_Mod_characters_29 rfl (lv_at hl 0 rfl) ?_
      refine va_get (D := (dC, dI)) (ci := 8) (v := .ref (bd 3)) (C := "CardMessageDeskModel") (T := T_Mod) (N := 32) hx hb hts in_Mod hown hK hP 0 rfl rfl 4 (by decide) (hts _ tw504) (fun _ h9 => h9) rfl d_Mod_characters_30 ?_
      refine lv_aload_n hx hb d_Mod_characters_33 rfl (lv_at hl 0 rfl) ?_
      refine va_get (D := (dC, dI)) (ci := 8) (v := .int (mg_at d)) (C := "CardMessageDeskModel") (T := T_Mod) (N := 32) hx hb hts in_Mod hown hK hP 0 rfl rfl 8 (by decide) (hts _ tw508) (fun _ h9 => h9) rfl d_Mod_characters_34 ?_
      refine lv_iload hx hb d_Mod_characters_37 (lv_at hl 4 rfl) ?_
      refine lv_iadd hx hb d_Mod_characters_39 ?_
      obtain ⟨hi_5, hj⟩ := gd_some hj
      refine va_iald hx hb hK hP 3 2 rfl rfl hi_5 d_Mod_characters_40 ?_
      refine lv_istore (lv' := [(5, .int (mg_in d (((mg_at d) + x4)).toNatClampNeg)), (0, .ref (bd 0)), (1, .int x1), (2, .int x2), (3, .int x3), (4, .int x4)]) hx hb d_Mod_characters_41 hl (by decide) rfl (fun ls hl => ?_)
      refine lv_iload hx hb d_Mod_characters_43 (lv_at hl 0 rfl) ?_
      refine lv_iload_n hx hb d_Mod_characters_45 rfl (lv_at hl 3 rfl) ?_
      refine lv_icmp_lt (tgt := 55) hx hb d_Mod_characters_46 (by decide) (fun c_6 => ?_) (fun c_6 => ?_)
      · have hj := it_p hj c_6
        refine lv_iconst (v := 0) hx hb d_Mod_characters_55 (by decide) ?_
        obtain ⟨rfl, rfl⟩ := rt_some hj
        exact W.zret (ty := .boolean) hx hb hr rfl (fun t ht hW => ⟨⟨_, _, rfl, ⟨rfl, rfl⟩, by rw [ht]; exact hP, va_K.moved hW.alike hK, hD⟩, hS.F ht⟩) hS.2.2 d_Mod_characters_56
      · have hj := it_n hj c_6
        refine lv_iload hx hb d_Mod_characters_49 (lv_at hl 0 rfl) ?_
        refine lv_iload_n hx hb d_Mod_characters_51 rfl (lv_at hl 4 rfl) ?_
        refine lv_icmp_le (tgt := 57) hx hb d_Mod_characters_52 (by decide) (fun c_7 => ?_) (fun c_7 => ?_)
        · have hj := it_p hj c_7
          refine lv_aload_n hx hb d_Mod_characters_57 rfl (lv_at hl 1 rfl) ?_
          refine lv_aload_n hx hb d_Mod_characters_58 rfl (lv_at hl 1 rfl) ?_
          refine va_get (D := (dC, dI)) (ci := 8) (v := .long (mg_value d)) (C := "CardMessageDeskModel") (T := T_Mod) (N := 32) hx hb hts in_Mod hown hK hP 0 rfl rfl 9 (by decide) (hts _ tw509) (fun _ h9 => h9) rfl d_Mod_characters_59 ?_
          refine lv_bipush (v := 8) hx hb d_Mod_characters_62 (by decide) ?_
          refine lv_lshl (v := ((mg_value d) <<< (((8 : Int32)).toInt64 &&& 63))) hx hb d_Mod_characters_64 rfl ?_
          refine lv_iload hx hb d_Mod_characters_65 (lv_at hl 0 rfl) ?_
          refine lv_i2l (v := ((mg_in d (((mg_at d) + x4)).toNatClampNeg)).toInt64) hx hb d_Mod_characters_67 rfl ?_
          refine lv_lor hx hb d_Mod_characters_68 ?_
          obtain ⟨d_8, ed_8, hj⟩ := nm_some hj
          refine va_put (D := (dC, dI)) (ci := 8) (v := .long (((mg_value d) <<< (((8 : Int32)).toInt64 &&& 63)) ||| ((mg_in d (((mg_at d) + x4)).toNatClampNeg)).toInt64)) (ty := .long) (C := "CardMessageDeskModel") (T := T_Mod) (N := 32) hx hb hts in_Mod ty_Mod ty_Mod_ok nm_Mod hown hK hP hD hS 0 rfl rfl 9 (by decide) (hts _ tw509) (fun _ h9 => h9) rfl (by decide +kernel) rfl rfl (Nat.le_of_ble_eq_true rfl) d_Mod_characters_69 (fun H locs hP hD hS => ?_)
          have hP : va_P (dC, dI) vwCl (mw bd cb d_8) H := by rw [ed_8]; exact hP
          have hD : va_D A (mw bd cb d_8) := by rw [ed_8]; exact hD
          refine lv_iinc (v := (x4 + 1)) (lv' := [(4, .int (x4 + 1)), (5, .int (mg_in d (((mg_at d) + x4)).toNatClampNeg)), (0, .ref (bd 0)), (1, .int x1), (2, .int x2), (3, .int x3)]) hx hb d_Mod_characters_72 hl (k := 5) rfl rfl (by decide) rfl (fun ls hl => ?_)
          refine lv_goto (tgt := 23) hx hb d_Mod_characters_75 (by decide) ?_
          exact ih d_8 (x4 + 1) H locs ls hj hP hD hS (lv_sub hl [2, 3, 4, 5, 0] rfl)
        · have hj := it_n hj c_7
          refine lv_iconst (v := 0) hx hb d_Mod_characters_55 (by decide) ?_
          obtain ⟨rfl, rfl⟩ := rt_some hj
          exact W.zret (ty := .boolean) hx hb hr rfl (fun t ht hW => ⟨⟨_, _, rfl, ⟨rfl, rfl⟩, by rw [ht]; exact hP, va_K.moved hW.alike hK, hD⟩, hS.F ht⟩) hS.2.2 d_Mod_characters_56
set_option maxHeartbeats 4000000 in
set_option maxRecDepth 100000 in
theorem cm_M_characters (l : Launch) (dC : Nat → ClassId) (dI : Nat → Nat → Nat) (bd : Nat → Nat) (cb : Nat → ClassId) (sz : Nat) (d : MS) (p1 : Int32) (p2 : Int32) (p3 : Int32)  (r9 : Int32) (d9 : MS) (hj : jm_M_characters d p1 p2 p3 = some (r9, d9)) : Met l y_Mod_characters w_Mod_characters ({ frames := 0, cells := 0, slots := 0, locals := 0 }) (va_Pc [.ref (bd 0), .int p1, .int p2, .int p3] (mPre dC dI bd cb sz d)) (va_Qi (fun (r : Int32) (u : MS) => r = r9 ∧ u = d9) (mAt dC dI bd cb (va_A (mw bd cb d) sz)) (va_A (mw bd cb d) sz)) 0 0 (va_A (mw bd cb d) sz) := by
  refine Met.ofW (cc := prog_10_method_10_code) (maxL := 6) (ret := (some .boolean)) (by decide) rfl ?_
  intro p e s m args below meth c s₁ B hml hv
  obtain ⟨rfl, hsz, hP, hK, hD0, hN⟩ := hv
  have hx := B.exec
  have hb := B.bytes
  have hr := B.returns
  have hts0 := atoms_spec (ws := w_Mod_characters) B.pre
  have hts : ∀ w ∈ gt, w.before _ s = true := fun w h => hts0 w (List.mem_cons_of_mem _ h)
  have hown : s.vm.findClass "CardMessageDeskModel" = some m.cls := findClass_of_methodNamed B.named
  have hlocks := B.notSynchronized
  subst hsz
  have hD := hD0.self (sz := s.heap.size)
  generalize hAe : va_A (mw bd cb d) s.heap.size = A at hD ⊢
  have hA : ∀ q : Nat, s.heap.size ≤ q → A q := fun q h => by rw [← hAe]; exact Or.inr h
  have hS : va_S A s.heap s.heap [] := va_S.rf
  have hl := lv_entry ([.ref (bd 0), .int p1, .int p2, .int p3]) (n := 6) (Nat.le_of_ble_eq_true rfl)
  rw [lg_entry_eq]
  generalize (lg_sl ([.ref (bd 0), .int p1, .int p2, .int p3]) ++ List.replicate (6 - (lg_sl ([.ref (bd 0), .int p1, .int p2, .int p3])).length) Slot.unset).toArray = ls at hl ⊢
  have hl : lv_has ls 6 [(0, .ref (bd 0)), (1, .int p1), (2, .int p2), (3, .int p3)] := hl
  unfold jm_M_characters at hj
  refine lv_aload_n hx hb d_Mod_characters_0 rfl (lv_at hl 0 rfl) ?_
  refine va_get (D := (dC, dI)) (ci := 8) (v := .int (mg_at d)) (C := "CardMessageDeskModel") (T := T_Mod) (N := 32) hx hb hts in_Mod hown hK hP 0 rfl rfl 8 (by decide) (hts _ tw508) (fun _ h9 => h9) rfl d_Mod_characters_1 ?_
  refine lv_iload_n hx hb d_Mod_characters_4 rfl (lv_at hl 1 rfl) ?_
  refine lv_iadd hx hb d_Mod_characters_5 ?_
  refine lv_aload_n hx hb d_Mod_characters_6 rfl (lv_at hl 0 rfl) ?_
  refine va_get (D := (dC, dI)) (ci := 8) (v := .int (mg_ins d)) (C := "CardMessageDeskModel") (T := T_Mod) (N := 32) hx hb hts in_Mod hown hK hP 0 rfl rfl 5 (by decide) (hts _ tw505) (fun _ h9 => h9) rfl d_Mod_characters_7 ?_
  refine lv_icmp_le (tgt := 15) hx hb d_Mod_characters_10 (by decide) (fun c_1 => ?_) (fun c_1 => ?_)
  · have hj := it_p hj c_1
    refine lv_aload_n hx hb d_Mod_characters_15 rfl (lv_at hl 0 rfl) ?_
    refine lv_lconst (v := 0) hx hb d_Mod_characters_16 (by decide) ?_
    obtain ⟨d_2, ed_2, hj⟩ := nm_some hj
    refine va_put (D := (dC, dI)) (ci := 8) (v := .long (0 : Int64)) (ty := .long) (C := "CardMessageDeskModel") (T := T_Mod) (N := 32) hx hb hts in_Mod ty_Mod ty_Mod_ok nm_Mod hown hK hP hD hS 0 rfl rfl 9 (by decide) (hts _ tw509) (fun _ h9 => h9) rfl (by decide +kernel) rfl rfl (Nat.le_of_ble_eq_true rfl) d_Mod_characters_17 (fun H locs hP hD hS => ?_)
    have hP : va_P (dC, dI) vwCl (mw bd cb d_2) H := by rw [ed_2]; exact hP
    have hD : va_D A (mw bd cb d_2) := by rw [ed_2]; exact hD
    refine lv_iconst (v := 0) hx hb d_Mod_characters_20 (by decide) ?_
    refine lv_istore (lv' := [(4, .int (0 : Int32)), (0, .ref (bd 0)), (1, .int p1), (2, .int p2), (3, .int p3)]) hx hb d_Mod_characters_21 hl (by decide) rfl (fun ls hl => ?_)
    exact cm_M_characters_L23  p1 p2 p3 _ _ hx hb hr hlocks hml hown hts hN hA hK 200 d_2 (0 : Int32) _ _ ls hj hP hD hS (lv_sub hl [1, 2, 3, 4, 0] rfl)
  · have hj := it_n hj c_1
    refine lv_iconst (v := 0) hx hb d_Mod_characters_13 (by decide) ?_
    obtain ⟨rfl, rfl⟩ := rt_some hj
    exact W.zret (ty := .boolean) hx hb hr rfl (fun t ht hW => ⟨⟨_, _, rfl, ⟨rfl, rfl⟩, by rw [ht]; exact hP, va_K.moved hW.alike hK, hD⟩, hS.F ht⟩) hS.2.2 d_Mod_characters_14
set_option maxHeartbeats 4000000 in
set_option maxRecDepth 100000 in
theorem cm_M_readNote (l : Launch) (dC : Nat → ClassId) (dI : Nat → Nat → Nat) (bd : Nat → Nat) (cb : Nat → ClassId) (sz : Nat) (d : MS)   (r9 : Int32) (d9 : MS) (hj : jm_M_readNote d = some (r9, d9)) : Met l y_Mod_readNote w_Mod_readNote ({ frames := 1, cells := 0, slots := 0, locals := 25 }) (va_Pc [.ref (bd 0)] (mPre dC dI bd cb sz d)) (va_Qi (fun (r : Int32) (u : MS) => r = r9 ∧ u = d9) (mAt dC dI bd cb (va_A (mw bd cb d) sz)) (va_A (mw bd cb d) sz)) 0 0 (va_A (mw bd cb d) sz) := by
  refine Met.ofW (cc := prog_10_method_12_code) (maxL := 1) (ret := (some .boolean)) (by decide) rfl ?_
  intro p e s m args below meth c s₁ B hml hv
  obtain ⟨rfl, hsz, hP, hK, hD0, hN⟩ := hv
  have hx := B.exec
  have hb := B.bytes
  have hr := B.returns
  have hts0 := atoms_spec (ws := w_Mod_readNote) B.pre
  have hts : ∀ w ∈ gt, w.before _ s = true := fun w h => hts0 w (List.mem_cons_of_mem _ h)
  have hown : s.vm.findClass "CardMessageDeskModel" = some m.cls := findClass_of_methodNamed B.named
  have hlocks := B.notSynchronized
  subst hsz
  have hD := hD0.self (sz := s.heap.size)
  generalize hAe : va_A (mw bd cb d) s.heap.size = A at hD ⊢
  have hA : ∀ q : Nat, s.heap.size ≤ q → A q := fun q h => by rw [← hAe]; exact Or.inr h
  have hS : va_S A s.heap s.heap [] := va_S.rf
  have hl := lv_entry ([.ref (bd 0)]) (n := 1) (Nat.le_of_ble_eq_true rfl)
  rw [lg_entry_eq]
  generalize (lg_sl ([.ref (bd 0)]) ++ List.replicate (1 - (lg_sl ([.ref (bd 0)])).length) Slot.unset).toArray = ls at hl ⊢
  have hl : lv_has ls 1 [(0, .ref (bd 0))] := hl
  unfold jm_M_readNote at hj
  refine lv_aload_n hx hb d_Mod_readNote_0 rfl (lv_at hl 0 rfl) ?_
  refine lv_iconst (v := 4) hx hb d_Mod_readNote_1 (by decide) ?_
  obtain ⟨p_1, hc_1, hj⟩ := bd_some hj
  have hF_1 := va_fr hD hS hA
  refine va_calli (va_runV (As := [.int (4 : Int32)]) (rest := []) ⟨hx, hb, hml, hown, hts⟩ (cm_M_digits l dC dI bd cb s.heap.size d (4 : Int32)  p_1.1 p_1.2 hc_1) (cwV 1 hts (gtV tw643 tw645 ts17 tw9 tw646) rfl rfl rfl (by decide +kernel) ⟨Nat.le_of_ble_eq_true rfl, Nat.le_of_ble_eq_true rfl⟩) ⟨mBl, va_recv hK hP (ci := 8) (q0 := 0) rfl rfl, fun U hU hW => ⟨rfl, mPr hP hK hD hN hU hW⟩⟩ rfl rfl hl.1 rfl (lv_room (Nat.le_of_ble_eq_true rfl)) d_Mod_readNote_2 ⟨Nat.zero_le _, Nat.zero_le _⟩) hS (fun q _ h => hF_1 q h) hF_1 (fun r u t H locs ht hvm hw hB hz1 hk1 hS => ?_)
  obtain ⟨hw1, hw2⟩ := hw
  have hw1 := hw1.symm
  subst hw1
  have hw2 := hw2.symm
  subst hw2
  obtain ⟨hP, hD⟩ := mAf hB ht hF_1
  refine lv_if_eq (tgt := 39) hx hb d_Mod_readNote_5 (by decide) (fun c_2 => ?_) (fun c_2 => ?_)
  · have hj := it_p hj c_2
    refine lv_iconst (v := 0) hx hb d_Mod_readNote_39 (by decide) ?_
    obtain ⟨rfl, rfl⟩ := rt_some hj
    exact W.zret (ty := .boolean) hx hb hr rfl (fun t ht hW => ⟨⟨_, _, rfl, ⟨rfl, rfl⟩, by rw [ht]; exact hP, va_K.moved hW.alike hK, hD⟩, hS.F ht⟩) hS.2.2 d_Mod_readNote_40
  · have hj := it_n hj c_2
    refine lv_aload_n hx hb d_Mod_readNote_8 rfl (lv_at hl 0 rfl) ?_
    refine va_get (D := (dC, dI)) (ci := 8) (v := .long (mg_value p_1.2)) (C := "CardMessageDeskModel") (T := T_Mod) (N := 32) hx hb hts in_Mod hown hK hP 0 rfl rfl 9 (by decide) (hts _ tw509) (fun _ h9 => h9) rfl d_Mod_readNote_9 ?_
    refine lv_ldc2 (v := 40) hx hb hown (hts _ tw665) d_Mod_readNote_12 ?_
    refine W.lcmp hx hb d_Mod_readNote_15 ?_
    refine lv_if_gt (tgt := 39) hx hb d_Mod_readNote_16 (by decide) (fun c_3 => ?_) (fun c_3 => ?_)
    · have hj := it_p hj (lc_gt.mp c_3)
      refine lv_iconst (v := 0) hx hb d_Mod_readNote_39 (by decide) ?_
      obtain ⟨rfl, rfl⟩ := rt_some hj
      exact W.zret (ty := .boolean) hx hb hr rfl (fun t ht hW => ⟨⟨_, _, rfl, ⟨rfl, rfl⟩, by rw [ht]; exact hP, va_K.moved hW.alike hK, hD⟩, hS.F ht⟩) hS.2.2 d_Mod_readNote_40
    · have hj := it_n hj (fun z => c_3 (lc_gt.mpr z))
      refine lv_aload_n hx hb d_Mod_readNote_19 rfl (lv_at hl 0 rfl) ?_
      refine lv_aload_n hx hb d_Mod_readNote_20 rfl (lv_at hl 0 rfl) ?_
      refine va_get (D := (dC, dI)) (ci := 8) (v := .long (mg_value p_1.2)) (C := "CardMessageDeskModel") (T := T_Mod) (N := 32) hx hb hts in_Mod hown hK hP 0 rfl rfl 9 (by decide) (hts _ tw509) (fun _ h9 => h9) rfl d_Mod_readNote_21 ?_
      refine lv_l2i (v := ((mg_value p_1.2)).toInt32) hx hb d_Mod_readNote_24 rfl ?_
      refine lv_bipush (v := 32) hx hb d_Mod_readNote_25 (by decide) ?_
      refine lv_bipush (v := 126) hx hb d_Mod_readNote_27 (by decide) ?_
      obtain ⟨p_4, hc_4, hj⟩ := bd_some hj
      have hF_4 := va_fr hD hS hA
      refine va_calli (va_runV (As := [.int ((mg_value p_1.2)).toInt32, .int (32 : Int32), .int (126 : Int32)]) (rest := []) ⟨hx, hb, hml, hown, hts⟩ (cm_M_characters l dC dI bd cb H.size p_1.2 ((mg_value p_1.2)).toInt32 (32 : Int32) (126 : Int32)  p_4.1 p_4.2 hc_4) (cwV 3 hts (gtV tw657 tw659 ts20 tw9 tw660) rfl rfl rfl (by decide +kernel) ⟨Nat.le_of_ble_eq_true rfl, Nat.le_of_ble_eq_true rfl⟩) ⟨mBl, va_recv hK hP (ci := 8) (q0 := 0) rfl rfl, fun U hU hW => ⟨rfl, mPr hP hK hD hN hU hW⟩⟩ rfl rfl hl.1 rfl (lv_room (Nat.le_of_ble_eq_true rfl)) d_Mod_readNote_29 ⟨Nat.zero_le _, Nat.zero_le _⟩) hS (fun q _ h => hF_4 q h) hF_4 (fun r u t H locs ht hvm hw hB hz1 hk1 hS => ?_)
      obtain ⟨hw1, hw2⟩ := hw
      have hw1 := hw1.symm
      subst hw1
      have hw2 := hw2.symm
      subst hw2
      obtain ⟨hP, hD⟩ := mAf hB ht hF_4
      refine lv_if_eq (tgt := 39) hx hb d_Mod_readNote_32 (by decide) (fun c_5 => ?_) (fun c_5 => ?_)
      · have hj := it_p hj c_5
        refine lv_iconst (v := 0) hx hb d_Mod_readNote_39 (by decide) ?_
        obtain ⟨rfl, rfl⟩ := rt_some hj
        exact W.zret (ty := .boolean) hx hb hr rfl (fun t ht hW => ⟨⟨_, _, rfl, ⟨rfl, rfl⟩, by rw [ht]; exact hP, va_K.moved hW.alike hK, hD⟩, hS.F ht⟩) hS.2.2 d_Mod_readNote_40
      · have hj := it_n hj c_5
        refine lv_iconst (v := 1) hx hb d_Mod_readNote_35 (by decide) ?_
        refine lv_goto (tgt := 40) hx hb d_Mod_readNote_36 (by decide) ?_
        obtain ⟨rfl, rfl⟩ := rt_some hj
        exact W.zret (ty := .boolean) hx hb hr rfl (fun t ht hW => ⟨⟨_, _, rfl, ⟨rfl, rfl⟩, by rw [ht]; exact hP, va_K.moved hW.alike hK, hD⟩, hS.F ht⟩) hS.2.2 d_Mod_readNote_40
set_option maxHeartbeats 4000000 in
set_option maxRecDepth 100000 in
theorem cm_M_readOriginal (l : Launch) (dC : Nat → ClassId) (dI : Nat → Nat → Nat) (bd : Nat → Nat) (cb : Nat → ClassId) (sz : Nat) (d : MS)   (r9 : Int32) (d9 : MS) (hj : jm_M_readOriginal d = some (r9, d9)) : Met l y_Mod_readOriginal w_Mod_readOriginal ({ frames := 1, cells := 0, slots := 0, locals := 24 }) (va_Pc [.ref (bd 0)] (mPre dC dI bd cb sz d)) (va_Qi (fun (r : Int32) (u : MS) => r = r9 ∧ u = d9) (mAt dC dI bd cb (va_A (mw bd cb d) sz)) (va_A (mw bd cb d) sz)) 0 0 (va_A (mw bd cb d) sz) := by
  refine Met.ofW (cc := prog_10_method_13_code) (maxL := 1) (ret := (some .boolean)) (by decide) rfl ?_
  intro p e s m args below meth c s₁ B hml hv
  obtain ⟨rfl, hsz, hP, hK, hD0, hN⟩ := hv
  have hx := B.exec
  have hb := B.bytes
  have hr := B.returns
  have hts0 := atoms_spec (ws := w_Mod_readOriginal) B.pre
  have hts : ∀ w ∈ gt, w.before _ s = true := fun w h => hts0 w (List.mem_cons_of_mem _ h)
  have hown : s.vm.findClass "CardMessageDeskModel" = some m.cls := findClass_of_methodNamed B.named
  have hlocks := B.notSynchronized
  subst hsz
  have hD := hD0.self (sz := s.heap.size)
  generalize hAe : va_A (mw bd cb d) s.heap.size = A at hD ⊢
  have hA : ∀ q : Nat, s.heap.size ≤ q → A q := fun q h => by rw [← hAe]; exact Or.inr h
  have hS : va_S A s.heap s.heap [] := va_S.rf
  have hl := lv_entry ([.ref (bd 0)]) (n := 1) (Nat.le_of_ble_eq_true rfl)
  rw [lg_entry_eq]
  generalize (lg_sl ([.ref (bd 0)]) ++ List.replicate (1 - (lg_sl ([.ref (bd 0)])).length) Slot.unset).toArray = ls at hl ⊢
  have hl : lv_has ls 1 [(0, .ref (bd 0))] := hl
  unfold jm_M_readOriginal at hj
  refine lv_aload_n hx hb d_Mod_readOriginal_0 rfl (lv_at hl 0 rfl) ?_
  refine lv_iconst (v := 2) hx hb d_Mod_readOriginal_1 (by decide) ?_
  obtain ⟨p_1, hc_1, hj⟩ := bd_some hj
  have hF_1 := va_fr hD hS hA
  refine va_calli (va_runV (As := [.int (2 : Int32)]) (rest := []) ⟨hx, hb, hml, hown, hts⟩ (cm_M_digits l dC dI bd cb s.heap.size d (2 : Int32)  p_1.1 p_1.2 hc_1) (cwV 1 hts (gtV tw643 tw645 ts17 tw9 tw646) rfl rfl rfl (by decide +kernel) ⟨Nat.le_of_ble_eq_true rfl, Nat.le_of_ble_eq_true rfl⟩) ⟨mBl, va_recv hK hP (ci := 8) (q0 := 0) rfl rfl, fun U hU hW => ⟨rfl, mPr hP hK hD hN hU hW⟩⟩ rfl rfl hl.1 rfl (lv_room (Nat.le_of_ble_eq_true rfl)) d_Mod_readOriginal_2 ⟨Nat.zero_le _, Nat.zero_le _⟩) hS (fun q _ h => hF_1 q h) hF_1 (fun r u t H locs ht hvm hw hB hz1 hk1 hS => ?_)
  obtain ⟨hw1, hw2⟩ := hw
  have hw1 := hw1.symm
  subst hw1
  have hw2 := hw2.symm
  subst hw2
  obtain ⟨hP, hD⟩ := mAf hB ht hF_1
  refine lv_if_eq (tgt := 28) hx hb d_Mod_readOriginal_5 (by decide) (fun c_2 => ?_) (fun c_2 => ?_)
  · have hj := it_p hj c_2
    refine lv_iconst (v := 0) hx hb d_Mod_readOriginal_28 (by decide) ?_
    obtain ⟨rfl, rfl⟩ := rt_some hj
    exact W.zret (ty := .boolean) hx hb hr rfl (fun t ht hW => ⟨⟨_, _, rfl, ⟨rfl, rfl⟩, by rw [ht]; exact hP, va_K.moved hW.alike hK, hD⟩, hS.F ht⟩) hS.2.2 d_Mod_readOriginal_29
  · have hj := it_n hj c_2
    refine lv_aload_n hx hb d_Mod_readOriginal_8 rfl (lv_at hl 0 rfl) ?_
    refine va_get (D := (dC, dI)) (ci := 8) (v := .long (mg_value p_1.2)) (C := "CardMessageDeskModel") (T := T_Mod) (N := 32) hx hb hts in_Mod hown hK hP 0 rfl rfl 9 (by decide) (hts _ tw509) (fun _ h9 => h9) rfl d_Mod_readOriginal_9 ?_
    refine lv_ldc2 (v := 6) hx hb hown (hts _ tw670) d_Mod_readOriginal_12 ?_
    refine W.lcmp hx hb d_Mod_readOriginal_15 ?_
    refine lv_if_ne (tgt := 28) hx hb d_Mod_readOriginal_16 (by decide) (fun c_3 => ?_) (fun c_3 => ?_)
    · have hj := it_n hj (fun z => c_3 (lc_ne.mpr z))
      refine lv_iconst (v := 0) hx hb d_Mod_readOriginal_28 (by decide) ?_
      obtain ⟨rfl, rfl⟩ := rt_some hj
      exact W.zret (ty := .boolean) hx hb hr rfl (fun t ht hW => ⟨⟨_, _, rfl, ⟨rfl, rfl⟩, by rw [ht]; exact hP, va_K.moved hW.alike hK, hD⟩, hS.F ht⟩) hS.2.2 d_Mod_readOriginal_29
    · have hj := it_p hj (lc_ne.mp c_3)
      refine lv_aload_n hx hb d_Mod_readOriginal_19 rfl (lv_at hl 0 rfl) ?_
      refine lv_bipush (v := 6) hx hb d_Mod_readOriginal_20 (by decide) ?_
      obtain ⟨p_4, hc_4, hj⟩ := bd_some hj
      have hF_4 := va_fr hD hS hA
      refine va_calli (va_runV (As := [.int (6 : Int32)]) (rest := []) ⟨hx, hb, hml, hown, hts⟩ (cm_M_digits l dC dI bd cb H.size p_1.2 (6 : Int32)  p_4.1 p_4.2 hc_4) (cwV 1 hts (gtV tw643 tw645 ts17 tw9 tw646) rfl rfl rfl (by decide +kernel) ⟨Nat.le_of_ble_eq_true rfl, Nat.le_of_ble_eq_true rfl⟩) ⟨mBl, va_recv hK hP (ci := 8) (q0 := 0) rfl rfl, fun U hU hW => ⟨rfl, mPr hP hK hD hN hU hW⟩⟩ rfl rfl hl.1 rfl (lv_room (Nat.le_of_ble_eq_true rfl)) d_Mod_readOriginal_22 ⟨Nat.zero_le _, Nat.zero_le _⟩) hS (fun q _ h => hF_4 q h) hF_4 (fun r u t H locs ht hvm hw hB hz1 hk1 hS => ?_)
      obtain ⟨hw1, hw2⟩ := hw
      have hw1 := hw1.symm
      subst hw1
      have hw2 := hw2.symm
      subst hw2
      obtain ⟨hP, hD⟩ := mAf hB ht hF_4
      refine lv_if_ne (tgt := 30) hx hb d_Mod_readOriginal_25 (by decide) (fun c_5 => ?_) (fun c_5 => ?_)
      · have hj := it_n hj c_5
        refine lv_aload_n hx hb d_Mod_readOriginal_30 rfl (lv_at hl 0 rfl) ?_
        refine lv_aload_n hx hb d_Mod_readOriginal_31 rfl (lv_at hl 0 rfl) ?_
        refine va_get (D := (dC, dI)) (ci := 8) (v := .long (mg_value p_4.2)) (C := "CardMessageDeskModel") (T := T_Mod) (N := 32) hx hb hts in_Mod hown hK hP 0 rfl rfl 9 (by decide) (hts _ tw509) (fun _ h9 => h9) rfl d_Mod_readOriginal_32 ?_
        refine lv_l2i (v := ((mg_value p_4.2)).toInt32) hx hb d_Mod_readOriginal_35 rfl ?_
        obtain ⟨d_6, ed_6, hj⟩ := nm_some hj
        refine va_put (D := (dC, dI)) (ci := 8) (v := .int ((mg_value p_4.2)).toInt32) (ty := .int) (C := "CardMessageDeskModel") (T := T_Mod) (N := 32) hx hb hts in_Mod ty_Mod ty_Mod_ok nm_Mod hown hK hP hD hS 0 rfl rfl 19 (by decide) (hts _ tw519) (fun _ h9 => h9) rfl (by decide +kernel) rfl rfl (Nat.le_of_ble_eq_true rfl) d_Mod_readOriginal_36 (fun H locs hP hD hS => ?_)
        have hP : va_P (dC, dI) vwCl (mw bd cb d_6) H := by rw [ed_6]; exact hP
        have hD : va_D A (mw bd cb d_6) := by rw [ed_6]; exact hD
        refine lv_iconst (v := 1) hx hb d_Mod_readOriginal_39 (by decide) ?_
        obtain ⟨rfl, rfl⟩ := rt_some hj
        exact W.zret (ty := .boolean) hx hb hr rfl (fun t ht hW => ⟨⟨_, _, rfl, ⟨rfl, rfl⟩, by rw [ht]; exact hP, va_K.moved hW.alike hK, hD⟩, hS.F ht⟩) hS.2.2 d_Mod_readOriginal_40
      · have hj := it_p hj c_5
        refine lv_iconst (v := 0) hx hb d_Mod_readOriginal_28 (by decide) ?_
        obtain ⟨rfl, rfl⟩ := rt_some hj
        exact W.zret (ty := .boolean) hx hb hr rfl (fun t ht hW => ⟨⟨_, _, rfl, ⟨rfl, rfl⟩, by rw [ht]; exact hP, va_K.moved hW.alike hK, hD⟩, hS.F ht⟩) hS.2.2 d_Mod_readOriginal_29
set_option maxHeartbeats 4000000 in
set_option maxRecDepth 100000 in
theorem cm_M_readField (l : Launch) (dC : Nat → ClassId) (dI : Nat → Nat → Nat) (bd : Nat → Nat) (cb : Nat → ClassId) (sz : Nat) (d : MS) (p1 : Int32)  (r9 : Int32) (d9 : MS) (hj : jm_M_readField d p1 = some (r9, d9)) : Met l y_Mod_readField w_Mod_readField ({ frames := 2, cells := 0, slots := 0, locals := 45 }) (va_Pc [.ref (bd 0), .int p1] (mPre dC dI bd cb sz d)) (va_Qi (fun (r : Int32) (u : MS) => r = r9 ∧ u = d9) (mAt dC dI bd cb (va_A (mw bd cb d) sz)) (va_A (mw bd cb d) sz)) 0 0 (va_A (mw bd cb d) sz) := by
  refine Met.ofW (cc := prog_10_method_14_code) (maxL := 3) (ret := (some .boolean)) (by decide) rfl ?_
  intro p e s m args below meth c s₁ B hml hv
  obtain ⟨rfl, hsz, hP, hK, hD0, hN⟩ := hv
  have hx := B.exec
  have hb := B.bytes
  have hr := B.returns
  have hts0 := atoms_spec (ws := w_Mod_readField) B.pre
  have hts : ∀ w ∈ gt, w.before _ s = true := fun w h => hts0 w (List.mem_cons_of_mem _ h)
  have hown : s.vm.findClass "CardMessageDeskModel" = some m.cls := findClass_of_methodNamed B.named
  have hlocks := B.notSynchronized
  subst hsz
  have hD := hD0.self (sz := s.heap.size)
  generalize hAe : va_A (mw bd cb d) s.heap.size = A at hD ⊢
  have hA : ∀ q : Nat, s.heap.size ≤ q → A q := fun q h => by rw [← hAe]; exact Or.inr h
  have hS : va_S A s.heap s.heap [] := va_S.rf
  have hl := lv_entry ([.ref (bd 0), .int p1]) (n := 3) (Nat.le_of_ble_eq_true rfl)
  rw [lg_entry_eq]
  generalize (lg_sl ([.ref (bd 0), .int p1]) ++ List.replicate (3 - (lg_sl ([.ref (bd 0), .int p1])).length) Slot.unset).toArray = ls at hl ⊢
  have hl : lv_has ls 3 [(0, .ref (bd 0)), (1, .int p1)] := hl
  unfold jm_M_readField at hj
  refine lv_iconst (v := 0) hx hb d_Mod_readField_0 (by decide) ?_
  refine lv_istore_n (lv' := [(2, .int (0 : Int32)), (0, .ref (bd 0)), (1, .int p1)]) hx hb d_Mod_readField_1 rfl hl (by decide) rfl (fun ls hl => ?_)
  refine lv_iload_n hx hb d_Mod_readField_2 rfl (lv_at hl 2 rfl) ?_
  by_cases c_1 : p1 = 2
  · have hj := it_p hj c_1
    refine lv_lookup (tgt := 76) (off := 73) hx hb d_Mod_readField_3 (by decide) (by rw [c_1]; first | done | rfl | decide) (by decide) ?_
    refine lv_aload_n hx hb d_Mod_readField_76 rfl (lv_at hl 1 rfl) ?_
    obtain ⟨p_2, hc_2, hj⟩ := bd_some hj
    have hF_2 := va_fr hD hS hA
    refine va_calli (va_runV (As := []) (rest := []) ⟨hx, hb, hml, hown, hts⟩ (cm_M_readCard l dC dI bd cb s.heap.size d   p_2.1 p_2.2 hc_2) (cwV 0 hts (gtV tw652 tw654 ts19 tw9 tw655) rfl rfl rfl (by decide +kernel) ⟨Nat.le_of_ble_eq_true rfl, Nat.le_of_ble_eq_true rfl⟩) ⟨mBl, va_recv hK hP (ci := 8) (q0 := 0) rfl rfl, fun U hU hW => ⟨rfl, mPr hP hK hD hN hU hW⟩⟩ rfl rfl hl.1 rfl (lv_room (Nat.le_of_ble_eq_true rfl)) d_Mod_readField_77 ⟨Nat.zero_le _, Nat.zero_le _⟩) hS (fun q _ h => hF_2 q h) hF_2 (fun r u t H locs ht hvm hw hB hz1 hk1 hS => ?_)
    obtain ⟨hw1, hw2⟩ := hw
    have hw1 := hw1.symm
    subst hw1
    have hw2 := hw2.symm
    subst hw2
    obtain ⟨hP, hD⟩ := mAf hB ht hF_2
    obtain ⟨hz_3, hj⟩ := gd_some hj
    obtain ⟨rfl, rfl⟩ := rt_some hj
    exact W.zret (ty := .boolean) hx hb hr (bz_n hz_3) (fun t ht hW => ⟨⟨_, _, rfl, ⟨rfl, rfl⟩, by rw [ht]; exact hP, va_K.moved hW.alike hK, hD⟩, hS.F ht⟩) hS.2.2 d_Mod_readField_80
  · have hj := it_n hj c_1
    by_cases c_4 : p1 = 3
    · have hj := it_p hj c_4
      refine lv_lookup (tgt := 81) (off := 78) hx hb d_Mod_readField_3 (by decide) (by rw [c_4]; first | done | rfl | decide) (by decide) ?_
      refine lv_aload_n hx hb d_Mod_readField_81 rfl (lv_at hl 1 rfl) ?_
      refine lv_bipush (v := 6) hx hb d_Mod_readField_82 (by decide) ?_
      obtain ⟨p_5, hc_5, hj⟩ := bd_some hj
      have hF_5 := va_fr hD hS hA
      refine va_calli (va_runV (As := [.int (6 : Int32)]) (rest := []) ⟨hx, hb, hml, hown, hts⟩ (cm_M_digits l dC dI bd cb s.heap.size d (6 : Int32)  p_5.1 p_5.2 hc_5) (cwV 1 hts (gtV tw643 tw645 ts17 tw9 tw646) rfl rfl rfl (by decide +kernel) ⟨Nat.le_of_ble_eq_true rfl, Nat.le_of_ble_eq_true rfl⟩) ⟨mBl, va_recv hK hP (ci := 8) (q0 := 0) rfl rfl, fun U hU hW => ⟨rfl, mPr hP hK hD hN hU hW⟩⟩ rfl rfl hl.1 rfl (lv_room (Nat.le_of_ble_eq_true rfl)) d_Mod_readField_84 ⟨Nat.zero_le _, Nat.zero_le _⟩) hS (fun q _ h => hF_5 q h) hF_5 (fun r u t H locs ht hvm hw hB hz1 hk1 hS => ?_)
      obtain ⟨hw1, hw2⟩ := hw
      have hw1 := hw1.symm
      subst hw1
      have hw2 := hw2.symm
      subst hw2
      obtain ⟨hP, hD⟩ := mAf hB ht hF_5
      refine lv_istore_n (lv' := [(2, .int p_5.1), (0, .ref (bd 0)), (1, .int p1)]) hx hb d_Mod_readField_87 rfl hl (by decide) rfl (fun ls hl => ?_)
      refine lv_aload_n hx hb d_Mod_readField_88 rfl (lv_at hl 1 rfl) ?_
      refine lv_aload_n hx hb d_Mod_readField_89 rfl (lv_at hl 1 rfl) ?_
      refine va_get (D := (dC, dI)) (ci := 8) (v := .long (mg_value p_5.2)) (C := "CardMessageDeskModel") (T := T_Mod) (N := 32) hx hb hts in_Mod hown hK hP 0 rfl rfl 9 (by decide) (hts _ tw509) (fun _ h9 => h9) rfl d_Mod_readField_90 ?_
      refine lv_l2i (v := ((mg_value p_5.2)).toInt32) hx hb d_Mod_readField_93 rfl ?_
      obtain ⟨d_6, ed_6, hj⟩ := nm_some hj
      refine va_put (D := (dC, dI)) (ci := 8) (v := .int ((mg_value p_5.2)).toInt32) (ty := .int) (C := "CardMessageDeskModel") (T := T_Mod) (N := 32) hx hb hts in_Mod ty_Mod ty_Mod_ok nm_Mod hown hK hP hD hS 0 rfl rfl 15 (by decide) (hts _ tw515) (fun _ h9 => h9) rfl (by decide +kernel) rfl rfl (Nat.le_of_ble_eq_true rfl) d_Mod_readField_94 (fun H locs hP hD hS => ?_)
      have hP : va_P (dC, dI) vwCl (mw bd cb d_6) H := by rw [ed_6]; exact hP
      have hD : va_D A (mw bd cb d_6) := by rw [ed_6]; exact hD
      refine lv_iload_n hx hb d_Mod_readField_97 rfl (lv_at hl 0 rfl) ?_
      obtain ⟨hz_7, hj⟩ := gd_some hj
      obtain ⟨rfl, rfl⟩ := rt_some hj
      exact W.zret (ty := .boolean) hx hb hr (bz_n hz_7) (fun t ht hW => ⟨⟨_, _, rfl, ⟨rfl, rfl⟩, by rw [ht]; exact hP, va_K.moved hW.alike hK, hD⟩, hS.F ht⟩) hS.2.2 d_Mod_readField_98
    · have hj := it_n hj c_4
      by_cases c_8 : p1 = 4
      · have hj := it_p hj c_8
        refine lv_lookup (tgt := 99) (off := 96) hx hb d_Mod_readField_3 (by decide) (by rw [c_8]; first | done | rfl | decide) (by decide) ?_
        refine lv_aload_n hx hb d_Mod_readField_99 rfl (lv_at hl 1 rfl) ?_
        refine lv_bipush (v := 12) hx hb d_Mod_readField_100 (by decide) ?_
        obtain ⟨p_9, hc_9, hj⟩ := bd_some hj
        have hF_9 := va_fr hD hS hA
        refine va_calli (va_runV (As := [.int (12 : Int32)]) (rest := []) ⟨hx, hb, hml, hown, hts⟩ (cm_M_digits l dC dI bd cb s.heap.size d (12 : Int32)  p_9.1 p_9.2 hc_9) (cwV 1 hts (gtV tw643 tw645 ts17 tw9 tw646) rfl rfl rfl (by decide +kernel) ⟨Nat.le_of_ble_eq_true rfl, Nat.le_of_ble_eq_true rfl⟩) ⟨mBl, va_recv hK hP (ci := 8) (q0 := 0) rfl rfl, fun U hU hW => ⟨rfl, mPr hP hK hD hN hU hW⟩⟩ rfl rfl hl.1 rfl (lv_room (Nat.le_of_ble_eq_true rfl)) d_Mod_readField_102 ⟨Nat.zero_le _, Nat.zero_le _⟩) hS (fun q _ h => hF_9 q h) hF_9 (fun r u t H locs ht hvm hw hB hz1 hk1 hS => ?_)
        obtain ⟨hw1, hw2⟩ := hw
        have hw1 := hw1.symm
        subst hw1
        have hw2 := hw2.symm
        subst hw2
        obtain ⟨hP, hD⟩ := mAf hB ht hF_9
        refine lv_istore_n (lv' := [(2, .int p_9.1), (0, .ref (bd 0)), (1, .int p1)]) hx hb d_Mod_readField_105 rfl hl (by decide) rfl (fun ls hl => ?_)
        refine lv_aload_n hx hb d_Mod_readField_106 rfl (lv_at hl 1 rfl) ?_
        refine lv_aload_n hx hb d_Mod_readField_107 rfl (lv_at hl 1 rfl) ?_
        refine va_get (D := (dC, dI)) (ci := 8) (v := .long (mg_value p_9.2)) (C := "CardMessageDeskModel") (T := T_Mod) (N := 32) hx hb hts in_Mod hown hK hP 0 rfl rfl 9 (by decide) (hts _ tw509) (fun _ h9 => h9) rfl d_Mod_readField_108 ?_
        obtain ⟨d_10, ed_10, hj⟩ := nm_some hj
        refine va_put (D := (dC, dI)) (ci := 8) (v := .long (mg_value p_9.2)) (ty := .long) (C := "CardMessageDeskModel") (T := T_Mod) (N := 32) hx hb hts in_Mod ty_Mod ty_Mod_ok nm_Mod hown hK hP hD hS 0 rfl rfl 16 (by decide) (hts _ tw516) (fun _ h9 => h9) rfl (by decide +kernel) rfl rfl (Nat.le_of_ble_eq_true rfl) d_Mod_readField_111 (fun H locs hP hD hS => ?_)
        have hP : va_P (dC, dI) vwCl (mw bd cb d_10) H := by rw [ed_10]; exact hP
        have hD : va_D A (mw bd cb d_10) := by rw [ed_10]; exact hD
        refine lv_iload_n hx hb d_Mod_readField_114 rfl (lv_at hl 0 rfl) ?_
        obtain ⟨hz_11, hj⟩ := gd_some hj
        obtain ⟨rfl, rfl⟩ := rt_some hj
        exact W.zret (ty := .boolean) hx hb hr (bz_n hz_11) (fun t ht hW => ⟨⟨_, _, rfl, ⟨rfl, rfl⟩, by rw [ht]; exact hP, va_K.moved hW.alike hK, hD⟩, hS.F ht⟩) hS.2.2 d_Mod_readField_115
      · have hj := it_n hj c_8
        by_cases c_12 : p1 = 11
        · have hj := it_p hj c_12
          refine lv_lookup (tgt := 116) (off := 113) hx hb d_Mod_readField_3 (by decide) (by rw [c_12]; first | done | rfl | decide) (by decide) ?_
          refine lv_aload_n hx hb d_Mod_readField_116 rfl (lv_at hl 1 rfl) ?_
          refine lv_bipush (v := 6) hx hb d_Mod_readField_117 (by decide) ?_
          obtain ⟨p_13, hc_13, hj⟩ := bd_some hj
          have hF_13 := va_fr hD hS hA
          refine va_calli (va_runV (As := [.int (6 : Int32)]) (rest := []) ⟨hx, hb, hml, hown, hts⟩ (cm_M_digits l dC dI bd cb s.heap.size d (6 : Int32)  p_13.1 p_13.2 hc_13) (cwV 1 hts (gtV tw643 tw645 ts17 tw9 tw646) rfl rfl rfl (by decide +kernel) ⟨Nat.le_of_ble_eq_true rfl, Nat.le_of_ble_eq_true rfl⟩) ⟨mBl, va_recv hK hP (ci := 8) (q0 := 0) rfl rfl, fun U hU hW => ⟨rfl, mPr hP hK hD hN hU hW⟩⟩ rfl rfl hl.1 rfl (lv_room (Nat.le_of_ble_eq_true rfl)) d_Mod_readField_119 ⟨Nat.zero_le _, Nat.zero_le _⟩) hS (fun q _ h => hF_13 q h) hF_13 (fun r u t H locs ht hvm hw hB hz1 hk1 hS => ?_)
          obtain ⟨hw1, hw2⟩ := hw
          have hw1 := hw1.symm
          subst hw1
          have hw2 := hw2.symm
          subst hw2
          obtain ⟨hP, hD⟩ := mAf hB ht hF_13
          refine lv_istore_n (lv' := [(2, .int p_13.1), (0, .ref (bd 0)), (1, .int p1)]) hx hb d_Mod_readField_122 rfl hl (by decide) rfl (fun ls hl => ?_)
          refine lv_aload_n hx hb d_Mod_readField_123 rfl (lv_at hl 1 rfl) ?_
          refine lv_aload_n hx hb d_Mod_readField_124 rfl (lv_at hl 1 rfl) ?_
          refine va_get (D := (dC, dI)) (ci := 8) (v := .long (mg_value p_13.2)) (C := "CardMessageDeskModel") (T := T_Mod) (N := 32) hx hb hts in_Mod hown hK hP 0 rfl rfl 9 (by decide) (hts _ tw509) (fun _ h9 => h9) rfl d_Mod_readField_125 ?_
          refine lv_l2i (v := ((mg_value p_13.2)).toInt32) hx hb d_Mod_readField_128 rfl ?_
          obtain ⟨d_14, ed_14, hj⟩ := nm_some hj
          refine va_put (D := (dC, dI)) (ci := 8) (v := .int ((mg_value p_13.2)).toInt32) (ty := .int) (C := "CardMessageDeskModel") (T := T_Mod) (N := 32) hx hb hts in_Mod ty_Mod ty_Mod_ok nm_Mod hown hK hP hD hS 0 rfl rfl 17 (by decide) (hts _ tw517) (fun _ h9 => h9) rfl (by decide +kernel) rfl rfl (Nat.le_of_ble_eq_true rfl) d_Mod_readField_129 (fun H locs hP hD hS => ?_)
          have hP : va_P (dC, dI) vwCl (mw bd cb d_14) H := by rw [ed_14]; exact hP
          have hD : va_D A (mw bd cb d_14) := by rw [ed_14]; exact hD
          refine lv_iload_n hx hb d_Mod_readField_132 rfl (lv_at hl 0 rfl) ?_
          obtain ⟨hz_15, hj⟩ := gd_some hj
          obtain ⟨rfl, rfl⟩ := rt_some hj
          exact W.zret (ty := .boolean) hx hb hr (bz_n hz_15) (fun t ht hW => ⟨⟨_, _, rfl, ⟨rfl, rfl⟩, by rw [ht]; exact hP, va_K.moved hW.alike hK, hD⟩, hS.F ht⟩) hS.2.2 d_Mod_readField_133
        · have hj := it_n hj c_12
          by_cases c_16 : p1 = 39
          · have hj := it_p hj c_16
            refine lv_lookup (tgt := 134) (off := 131) hx hb d_Mod_readField_3 (by decide) (by rw [c_16]; first | done | rfl | decide) (by decide) ?_
            refine lv_aload_n hx hb d_Mod_readField_134 rfl (lv_at hl 1 rfl) ?_
            refine lv_iconst (v := 2) hx hb d_Mod_readField_135 (by decide) ?_
            refine lv_bipush (v := 48) hx hb d_Mod_readField_136 (by decide) ?_
            refine lv_bipush (v := 57) hx hb d_Mod_readField_138 (by decide) ?_
            obtain ⟨p_17, hc_17, hj⟩ := bd_some hj
            have hF_17 := va_fr hD hS hA
            refine va_calli (va_runV (As := [.int (2 : Int32), .int (48 : Int32), .int (57 : Int32)]) (rest := []) ⟨hx, hb, hml, hown, hts⟩ (cm_M_characters l dC dI bd cb s.heap.size d (2 : Int32) (48 : Int32) (57 : Int32)  p_17.1 p_17.2 hc_17) (cwV 3 hts (gtV tw657 tw659 ts20 tw9 tw660) rfl rfl rfl (by decide +kernel) ⟨Nat.le_of_ble_eq_true rfl, Nat.le_of_ble_eq_true rfl⟩) ⟨mBl, va_recv hK hP (ci := 8) (q0 := 0) rfl rfl, fun U hU hW => ⟨rfl, mPr hP hK hD hN hU hW⟩⟩ rfl rfl hl.1 rfl (lv_room (Nat.le_of_ble_eq_true rfl)) d_Mod_readField_140 ⟨Nat.zero_le _, Nat.zero_le _⟩) hS (fun q _ h => hF_17 q h) hF_17 (fun r u t H locs ht hvm hw hB hz1 hk1 hS => ?_)
            obtain ⟨hw1, hw2⟩ := hw
            have hw1 := hw1.symm
            subst hw1
            have hw2 := hw2.symm
            subst hw2
            obtain ⟨hP, hD⟩ := mAf hB ht hF_17
            obtain ⟨hz_18, hj⟩ := gd_some hj
            obtain ⟨rfl, rfl⟩ := rt_some hj
            exact W.zret (ty := .boolean) hx hb hr (bz_n hz_18) (fun t ht hW => ⟨⟨_, _, rfl, ⟨rfl, rfl⟩, by rw [ht]; exact hP, va_K.moved hW.alike hK, hD⟩, hS.F ht⟩) hS.2.2 d_Mod_readField_143
          · have hj := it_n hj c_16
            by_cases c_19 : p1 = 41
            · have hj := it_p hj c_19
              refine lv_lookup (tgt := 144) (off := 141) hx hb d_Mod_readField_3 (by decide) (by rw [c_19]; first | done | rfl | decide) (by decide) ?_
              refine lv_aload_n hx hb d_Mod_readField_144 rfl (lv_at hl 1 rfl) ?_
              refine lv_iconst (v := 4) hx hb d_Mod_readField_145 (by decide) ?_
              refine lv_bipush (v := 32) hx hb d_Mod_readField_146 (by decide) ?_
              refine lv_bipush (v := 126) hx hb d_Mod_readField_148 (by decide) ?_
              obtain ⟨p_20, hc_20, hj⟩ := bd_some hj
              have hF_20 := va_fr hD hS hA
              refine va_calli (va_runV (As := [.int (4 : Int32), .int (32 : Int32), .int (126 : Int32)]) (rest := []) ⟨hx, hb, hml, hown, hts⟩ (cm_M_characters l dC dI bd cb s.heap.size d (4 : Int32) (32 : Int32) (126 : Int32)  p_20.1 p_20.2 hc_20) (cwV 3 hts (gtV tw657 tw659 ts20 tw9 tw660) rfl rfl rfl (by decide +kernel) ⟨Nat.le_of_ble_eq_true rfl, Nat.le_of_ble_eq_true rfl⟩) ⟨mBl, va_recv hK hP (ci := 8) (q0 := 0) rfl rfl, fun U hU hW => ⟨rfl, mPr hP hK hD hN hU hW⟩⟩ rfl rfl hl.1 rfl (lv_room (Nat.le_of_ble_eq_true rfl)) d_Mod_readField_150 ⟨Nat.zero_le _, Nat.zero_le _⟩) hS (fun q _ h => hF_20 q h) hF_20 (fun r u t H locs ht hvm hw hB hz1 hk1 hS => ?_)
              obtain ⟨hw1, hw2⟩ := hw
              have hw1 := hw1.symm
              subst hw1
              have hw2 := hw2.symm
              subst hw2
              obtain ⟨hP, hD⟩ := mAf hB ht hF_20
              refine lv_istore_n (lv' := [(2, .int p_20.1), (0, .ref (bd 0)), (1, .int p1)]) hx hb d_Mod_readField_153 rfl hl (by decide) rfl (fun ls hl => ?_)
              refine lv_aload_n hx hb d_Mod_readField_154 rfl (lv_at hl 1 rfl) ?_
              refine lv_aload_n hx hb d_Mod_readField_155 rfl (lv_at hl 1 rfl) ?_
              refine va_get (D := (dC, dI)) (ci := 8) (v := .long (mg_value p_20.2)) (C := "CardMessageDeskModel") (T := T_Mod) (N := 32) hx hb hts in_Mod hown hK hP 0 rfl rfl 9 (by decide) (hts _ tw509) (fun _ h9 => h9) rfl d_Mod_readField_156 ?_
              refine lv_l2i (v := ((mg_value p_20.2)).toInt32) hx hb d_Mod_readField_159 rfl ?_
              obtain ⟨d_21, ed_21, hj⟩ := nm_some hj
              refine va_put (D := (dC, dI)) (ci := 8) (v := .int ((mg_value p_20.2)).toInt32) (ty := .int) (C := "CardMessageDeskModel") (T := T_Mod) (N := 32) hx hb hts in_Mod ty_Mod ty_Mod_ok nm_Mod hown hK hP hD hS 0 rfl rfl 18 (by decide) (hts _ tw518) (fun _ h9 => h9) rfl (by decide +kernel) rfl rfl (Nat.le_of_ble_eq_true rfl) d_Mod_readField_160 (fun H locs hP hD hS => ?_)
              have hP : va_P (dC, dI) vwCl (mw bd cb d_21) H := by rw [ed_21]; exact hP
              have hD : va_D A (mw bd cb d_21) := by rw [ed_21]; exact hD
              refine lv_iload_n hx hb d_Mod_readField_163 rfl (lv_at hl 0 rfl) ?_
              obtain ⟨hz_22, hj⟩ := gd_some hj
              obtain ⟨rfl, rfl⟩ := rt_some hj
              exact W.zret (ty := .boolean) hx hb hr (bz_n hz_22) (fun t ht hW => ⟨⟨_, _, rfl, ⟨rfl, rfl⟩, by rw [ht]; exact hP, va_K.moved hW.alike hK, hD⟩, hS.F ht⟩) hS.2.2 d_Mod_readField_164
            · have hj := it_n hj c_19
              by_cases c_23 : p1 = 48
              · have hj := it_p hj c_23
                refine lv_lookup (tgt := 165) (off := 162) hx hb d_Mod_readField_3 (by decide) (by rw [c_23]; first | done | rfl | decide) (by decide) ?_
                refine lv_aload_n hx hb d_Mod_readField_165 rfl (lv_at hl 1 rfl) ?_
                obtain ⟨p_24, hc_24, hj⟩ := bd_some hj
                have hF_24 := va_fr hD hS hA
                refine va_calli (va_runV (As := []) (rest := []) ⟨hx, hb, hml, hown, hts⟩ (cm_M_readNote l dC dI bd cb s.heap.size d   p_24.1 p_24.2 hc_24) (cwV 0 hts (gtV tw661 tw663 ts21 tw9 tw664) rfl rfl rfl (by decide +kernel) ⟨Nat.le_of_ble_eq_true rfl, Nat.le_of_ble_eq_true rfl⟩) ⟨mBl, va_recv hK hP (ci := 8) (q0 := 0) rfl rfl, fun U hU hW => ⟨rfl, mPr hP hK hD hN hU hW⟩⟩ rfl rfl hl.1 rfl (lv_room (Nat.le_of_ble_eq_true rfl)) d_Mod_readField_166 ⟨Nat.zero_le _, Nat.zero_le _⟩) hS (fun q _ h => hF_24 q h) hF_24 (fun r u t H locs ht hvm hw hB hz1 hk1 hS => ?_)
                obtain ⟨hw1, hw2⟩ := hw
                have hw1 := hw1.symm
                subst hw1
                have hw2 := hw2.symm
                subst hw2
                obtain ⟨hP, hD⟩ := mAf hB ht hF_24
                obtain ⟨hz_25, hj⟩ := gd_some hj
                obtain ⟨rfl, rfl⟩ := rt_some hj
                exact W.zret (ty := .boolean) hx hb hr (bz_n hz_25) (fun t ht hW => ⟨⟨_, _, rfl, ⟨rfl, rfl⟩, by rw [ht]; exact hP, va_K.moved hW.alike hK, hD⟩, hS.F ht⟩) hS.2.2 d_Mod_readField_169
              · have hj := it_n hj c_23
                by_cases c_26 : p1 = 56
                · have hj := it_p hj c_26
                  refine lv_lookup (tgt := 170) (off := 167) hx hb d_Mod_readField_3 (by decide) (by rw [c_26]; first | done | rfl | decide) (by decide) ?_
                  refine lv_aload_n hx hb d_Mod_readField_170 rfl (lv_at hl 1 rfl) ?_
                  obtain ⟨p_27, hc_27, hj⟩ := bd_some hj
                  have hF_27 := va_fr hD hS hA
                  refine va_calli (va_runV (As := []) (rest := []) ⟨hx, hb, hml, hown, hts⟩ (cm_M_readOriginal l dC dI bd cb s.heap.size d   p_27.1 p_27.2 hc_27) (cwV 0 hts (gtV tw666 tw668 ts22 tw9 tw669) rfl rfl rfl (by decide +kernel) ⟨Nat.le_of_ble_eq_true rfl, Nat.le_of_ble_eq_true rfl⟩) ⟨mBl, va_recv hK hP (ci := 8) (q0 := 0) rfl rfl, fun U hU hW => ⟨rfl, mPr hP hK hD hN hU hW⟩⟩ rfl rfl hl.1 rfl (lv_room (Nat.le_of_ble_eq_true rfl)) d_Mod_readField_171 ⟨Nat.zero_le _, Nat.zero_le _⟩) hS (fun q _ h => hF_27 q h) hF_27 (fun r u t H locs ht hvm hw hB hz1 hk1 hS => ?_)
                  obtain ⟨hw1, hw2⟩ := hw
                  have hw1 := hw1.symm
                  subst hw1
                  have hw2 := hw2.symm
                  subst hw2
                  obtain ⟨hP, hD⟩ := mAf hB ht hF_27
                  obtain ⟨hz_28, hj⟩ := gd_some hj
                  obtain ⟨rfl, rfl⟩ := rt_some hj
                  exact W.zret (ty := .boolean) hx hb hr (bz_n hz_28) (fun t ht hW => ⟨⟨_, _, rfl, ⟨rfl, rfl⟩, by rw [ht]; exact hP, va_K.moved hW.alike hK, hD⟩, hS.F ht⟩) hS.2.2 d_Mod_readField_174
                · have hj := it_n hj c_26
                  refine lv_lookup (tgt := 175) (off := 172) hx hb d_Mod_readField_3 (by decide) (by rw [lv_osw c_1 (by decide), lv_osw c_4 (by decide), lv_osw c_8 (by decide), lv_osw c_12 (by decide), lv_osw c_16 (by decide), lv_osw c_19 (by decide), lv_osw c_23 (by decide), lv_osw c_26 (by decide)]; first | done | rfl | decide) (by decide) ?_
                  refine lv_iconst (v := 0) hx hb d_Mod_readField_175 (by decide) ?_
                  obtain ⟨rfl, rfl⟩ := rt_some hj
                  exact W.zret (ty := .boolean) hx hb hr rfl (fun t ht hW => ⟨⟨_, _, rfl, ⟨rfl, rfl⟩, by rw [ht]; exact hP, va_K.moved hW.alike hK, hD⟩, hS.F ht⟩) hS.2.2 d_Mod_readField_176
set_option maxHeartbeats 4000000 in
set_option maxRecDepth 100000 in
theorem cm_M_readMessage_L115 {p : Program} {l : Launch} {e : Env} {s : State} {m : MethodId} {args : Array Value} {below : List Frame} {meth : Method} {c : Code} {dC : Nat → ClassId} {dI : Nat → Nat → Nat} {bd : Nat → Nat} {cb : Nat → ClassId} {A : Nat → Prop}    (r9 : Int32) (d9 : MS) (hx : p.tables.exec = Jvm.exec) (hb : c.code = prog_10_method_15_code) (hr : meth.sig.returnType = (some .boolean)) (hlocks : meth.locks = false) (hml : c.maxLocals = 2) (hown : s.vm.findClass "CardMessageDeskModel" = some m.cls) (hts : ∀ w ∈ gt, w.before args s = true) (hN : nw s) (hA : ∀ q : Nat, s.heap.size ≤ q → A q) (hK : va_K (dC, dI) vwCl (mT cb) s) :
    ∀ (n : Nat) (d : MS) (x1 : Int32) (H : Heap) (locs : List Loc) (ls : Array Slot), loopF (jm_M_readMessage_L115) n (d, x1) = some (r9, d9) → va_P (dC, dI) vwCl (mw bd cb d) H → va_D A (mw bd cb d) → va_S A s.heap H locs → lv_has ls 2 [(0, .ref (bd 0)), (1, .int x1)] → W p l e ({ frames := 3, cells := 0, slots := 0, locals := 67 }) s m args below meth c H locs 0 0 (MQ below (va_Qi (fun (r : Int32) (u : MS) => r = r9 ∧ u = d9) (mAt dC dI bd cb A) A) args s 0 0 A) (F0 m 115 ls []) := by
  intro n
  induction n with
  | zero =>
    intro d x1 H locs ls hj
    exact (loopF_z hj).elim
  | succ n ih =>
    intro d x1 H locs ls hj hP hD hS hl
    have hj := loopF_s hj
    unfold jm_M_readMessage_L115 at hj
    try dsimp only at hj
    refine lv_iload_n hx hb d_Mod_readMessage_115 rfl (lv_at hl 1 rfl) ?_
    refine lv_bipush (v := 64) hx hb d_Mod_readMessage_116 (by decide) ?_
    refine lv_icmp_gt (tgt := 166) hx hb d_Mod_readMessage_118 (by decide) (fun c_12 => ?_) (fun c_12 => ?_)
    · have hj := it_p hj c_12
      refine lv_aload_n hx hb d_Mod_readMessage_166 rfl (lv_at hl 0 rfl) ?_
      refine va_get (D := (dC, dI)) (ci := 8) (v := .int (mg_at d)) (C := "CardMessageDeskModel") (T := T_Mod) (N := 32) hx hb hts in_Mod hown hK hP 0 rfl rfl 8 (by decide) (hts _ tw508) (fun _ h9 => h9) rfl d_Mod_readMessage_167 ?_
      refine lv_aload_n hx hb d_Mod_readMessage_170 rfl (lv_at hl 0 rfl) ?_
      refine va_get (D := (dC, dI)) (ci := 8) (v := .int (mg_ins d)) (C := "CardMessageDeskModel") (T := T_Mod) (N := 32) hx hb hts in_Mod hown hK hP 0 rfl rfl 5 (by decide) (hts _ tw505) (fun _ h9 => h9) rfl d_Mod_readMessage_171 ?_
      refine lv_icmp_ne (tgt := 181) hx hb d_Mod_readMessage_174 (by decide) (fun c_13 => ?_) (fun c_13 => ?_)
      · have hj := it_n hj c_13
        refine lv_iconst (v := 0) hx hb d_Mod_readMessage_181 (by decide) ?_
        obtain ⟨rfl, rfl⟩ := rt_some hj
        exact W.zret (ty := .boolean) hx hb hr rfl (fun t ht hW => ⟨⟨_, _, rfl, ⟨rfl, rfl⟩, by rw [ht]; exact hP, va_K.moved hW.alike hK, hD⟩, hS.F ht⟩) hS.2.2 d_Mod_readMessage_182
      · have hj := it_p hj c_13
        refine lv_iconst (v := 1) hx hb d_Mod_readMessage_177 (by decide) ?_
        refine lv_goto (tgt := 182) hx hb d_Mod_readMessage_178 (by decide) ?_
        obtain ⟨rfl, rfl⟩ := rt_some hj
        exact W.zret (ty := .boolean) hx hb hr rfl (fun t ht hW => ⟨⟨_, _, rfl, ⟨rfl, rfl⟩, by rw [ht]; exact hP, va_K.moved hW.alike hK, hD⟩, hS.F ht⟩) hS.2.2 d_Mod_readMessage_182
    · have hj := it_n hj c_12
      refine lv_aload_n hx hb d_Mod_readMessage_121 rfl (lv_at hl 0 rfl) ?_
      refine va_get (D := (dC, dI)) (ci := 8) (v := .ref (bd 6)) (C := "CardMessageDeskModel") (T := T_Mod) (N := 32) hx hb hts in_Mod hown hK hP 0 rfl rfl 11 (by decide) (hts _ tw511) (fun _ h9 => h9) rfl d_Mod_readMessage_122 ?_
      refine lv_iload_n hx hb d_Mod_readMessage_125 rfl (lv_at hl 1 rfl) ?_
      refine lv_aload_n hx hb d_Mod_readMessage_126 rfl (lv_at hl 0 rfl) ?_
      refine va_get (D := (dC, dI)) (ci := 8) (v := .int (mg_at d)) (C := "CardMessageDeskModel") (T := T_Mod) (N := 32) hx hb hts in_Mod hown hK hP 0 rfl rfl 8 (by decide) (hts _ tw508) (fun _ h9 => h9) rfl d_Mod_readMessage_127 ?_
      obtain ⟨hi_14, hj⟩ := gd_some hj
      obtain ⟨d_15, ed_15, hj⟩ := nm_some hj
      refine va_iast hx hb hK hP hD hS 6 5 rfl rfl hi_14 d_Mod_readMessage_130 (fun H locs hP hD hS => ?_)
      have hP : va_P (dC, dI) vwCl (mw bd cb d_15) H := by rw [ed_15]; exact hP
      have hD : va_D A (mw bd cb d_15) := by rw [ed_15]; exact hD
      refine lv_aload_n hx hb d_Mod_readMessage_131 rfl (lv_at hl 0 rfl) ?_
      refine va_get (D := (dC, dI)) (ci := 8) (v := .ref (bd 5)) (C := "CardMessageDeskModel") (T := T_Mod) (N := 32) hx hb hts in_Mod hown hK hP 0 rfl rfl 10 (by decide) (hts _ tw510) (fun _ h9 => h9) rfl d_Mod_readMessage_132 ?_
      refine lv_iload_n hx hb d_Mod_readMessage_135 rfl (lv_at hl 1 rfl) ?_
      obtain ⟨hi_16, hj⟩ := gd_some hj
      refine va_zald hx hb hK hP 5 4 rfl rfl hi_16 d_Mod_readMessage_136 ?_
      refine lv_if_eq (tgt := 150) hx hb d_Mod_readMessage_137 (by decide) (fun c_17 => ?_) (fun c_17 => ?_)
      · have hj := it_p hj c_17
        refine lv_aload_n hx hb d_Mod_readMessage_150 rfl (lv_at hl 0 rfl) ?_
        refine va_get (D := (dC, dI)) (ci := 8) (v := .ref (bd 7)) (C := "CardMessageDeskModel") (T := T_Mod) (N := 32) hx hb hts in_Mod hown hK hP 0 rfl rfl 12 (by decide) (hts _ tw512) (fun _ h9 => h9) rfl d_Mod_readMessage_151 ?_
        refine lv_iload_n hx hb d_Mod_readMessage_154 rfl (lv_at hl 1 rfl) ?_
        refine lv_aload_n hx hb d_Mod_readMessage_155 rfl (lv_at hl 0 rfl) ?_
        refine va_get (D := (dC, dI)) (ci := 8) (v := .int (mg_at d_15)) (C := "CardMessageDeskModel") (T := T_Mod) (N := 32) hx hb hts in_Mod hown hK hP 0 rfl rfl 8 (by decide) (hts _ tw508) (fun _ h9 => h9) rfl d_Mod_readMessage_156 ?_
        obtain ⟨hi_18, hj⟩ := gd_some hj
        obtain ⟨d_19, ed_19, hj⟩ := nm_some hj
        refine va_iast hx hb hK hP hD hS 7 6 rfl rfl hi_18 d_Mod_readMessage_159 (fun H locs hP hD hS => ?_)
        have hP : va_P (dC, dI) vwCl (mw bd cb d_19) H := by rw [ed_19]; exact hP
        have hD : va_D A (mw bd cb d_19) := by rw [ed_19]; exact hD
        refine lv_iinc (v := (x1 + 1)) (lv' := [(1, .int (x1 + 1)), (0, .ref (bd 0))]) hx hb d_Mod_readMessage_160 hl (k := 1) rfl rfl (by decide) rfl (fun ls hl => ?_)
        refine lv_goto (tgt := 115) hx hb d_Mod_readMessage_163 (by decide) ?_
        exact ih d_19 (x1 + 1) H locs ls hj hP hD hS (lv_sub hl [1, 0] rfl)
      · have hj := it_n hj c_17
        refine lv_aload_n hx hb d_Mod_readMessage_140 rfl (lv_at hl 0 rfl) ?_
        refine lv_iload_n hx hb d_Mod_readMessage_141 rfl (lv_at hl 1 rfl) ?_
        obtain ⟨p_20, hc_20, hj⟩ := bd_some hj
        have hF_20 := va_fr hD hS hA
        refine va_calli (va_runV (As := [.int x1]) (rest := []) ⟨hx, hb, hml, hown, hts⟩ (cm_M_readField l dC dI bd cb H.size d_15 x1  p_20.1 p_20.2 hc_20) (cwV 1 hts (gtV tw648 tw650 ts18 tw9 tw651) rfl rfl rfl (by decide +kernel) ⟨Nat.le_of_ble_eq_true rfl, Nat.le_of_ble_eq_true rfl⟩) ⟨mBl, va_recv hK hP (ci := 8) (q0 := 0) rfl rfl, fun U hU hW => ⟨rfl, mPr hP hK hD hN hU hW⟩⟩ rfl rfl hl.1 rfl (lv_room (Nat.le_of_ble_eq_true rfl)) d_Mod_readMessage_142 ⟨Nat.zero_le _, Nat.zero_le _⟩) hS (fun q _ h => hF_20 q h) hF_20 (fun r u t H locs ht hvm hw hB hz1 hk1 hS => ?_)
        obtain ⟨hw1, hw2⟩ := hw
        have hw1 := hw1.symm
        subst hw1
        have hw2 := hw2.symm
        subst hw2
        obtain ⟨hP, hD⟩ := mAf hB ht hF_20
        refine lv_if_ne (tgt := 150) hx hb d_Mod_readMessage_145 (by decide) (fun c_21 => ?_) (fun c_21 => ?_)
        · have hj := it_n hj c_21
          refine lv_aload_n hx hb d_Mod_readMessage_150 rfl (lv_at hl 0 rfl) ?_
          refine va_get (D := (dC, dI)) (ci := 8) (v := .ref (bd 7)) (C := "CardMessageDeskModel") (T := T_Mod) (N := 32) hx hb hts in_Mod hown hK hP 0 rfl rfl 12 (by decide) (hts _ tw512) (fun _ h9 => h9) rfl d_Mod_readMessage_151 ?_
          refine lv_iload_n hx hb d_Mod_readMessage_154 rfl (lv_at hl 1 rfl) ?_
          refine lv_aload_n hx hb d_Mod_readMessage_155 rfl (lv_at hl 0 rfl) ?_
          refine va_get (D := (dC, dI)) (ci := 8) (v := .int (mg_at p_20.2)) (C := "CardMessageDeskModel") (T := T_Mod) (N := 32) hx hb hts in_Mod hown hK hP 0 rfl rfl 8 (by decide) (hts _ tw508) (fun _ h9 => h9) rfl d_Mod_readMessage_156 ?_
          obtain ⟨hi_22, hj⟩ := gd_some hj
          obtain ⟨d_23, ed_23, hj⟩ := nm_some hj
          refine va_iast hx hb hK hP hD hS 7 6 rfl rfl hi_22 d_Mod_readMessage_159 (fun H locs hP hD hS => ?_)
          have hP : va_P (dC, dI) vwCl (mw bd cb d_23) H := by rw [ed_23]; exact hP
          have hD : va_D A (mw bd cb d_23) := by rw [ed_23]; exact hD
          refine lv_iinc (v := (x1 + 1)) (lv' := [(1, .int (x1 + 1)), (0, .ref (bd 0))]) hx hb d_Mod_readMessage_160 hl (k := 1) rfl rfl (by decide) rfl (fun ls hl => ?_)
          refine lv_goto (tgt := 115) hx hb d_Mod_readMessage_163 (by decide) ?_
          exact ih d_23 (x1 + 1) H locs ls hj hP hD hS (lv_sub hl [1, 0] rfl)
        · have hj := it_p hj c_21
          refine lv_iconst (v := 0) hx hb d_Mod_readMessage_148 (by decide) ?_
          obtain ⟨rfl, rfl⟩ := rt_some hj
          exact W.zret (ty := .boolean) hx hb hr rfl (fun t ht hW => ⟨⟨_, _, rfl, ⟨rfl, rfl⟩, by rw [ht]; exact hP, va_K.moved hW.alike hK, hD⟩, hS.F ht⟩) hS.2.2 d_Mod_readMessage_149
set_option maxHeartbeats 4000000 in
set_option maxRecDepth 100000 in
theorem cm_M_readMessage_L55 {p : Program} {l : Launch} {e : Env} {s : State} {m : MethodId} {args : Array Value} {below : List Frame} {meth : Method} {c : Code} {dC : Nat → ClassId} {dI : Nat → Nat → Nat} {bd : Nat → Nat} {cb : Nat → ClassId} {A : Nat → Prop}    (r9 : Int32) (d9 : MS) (hx : p.tables.exec = Jvm.exec) (hb : c.code = prog_10_method_15_code) (hr : meth.sig.returnType = (some .boolean)) (hlocks : meth.locks = false) (hml : c.maxLocals = 2) (hown : s.vm.findClass "CardMessageDeskModel" = some m.cls) (hts : ∀ w ∈ gt, w.before args s = true) (hN : nw s) (hA : ∀ q : Nat, s.heap.size ≤ q → A q) (hK : va_K (dC, dI) vwCl (mT cb) s) :
    ∀ (n : Nat) (d : MS) (x1 : Int32) (H : Heap) (locs : List Loc) (ls : Array Slot), loopF (jm_M_readMessage_L55) n (d, x1) = some (r9, d9) → va_P (dC, dI) vwCl (mw bd cb d) H → va_D A (mw bd cb d) → va_S A s.heap H locs → lv_has ls 2 [(0, .ref (bd 0)), (1, .int x1)] → W p l e ({ frames := 3, cells := 0, slots := 0, locals := 67 }) s m args below meth c H locs 0 0 (MQ below (va_Qi (fun (r : Int32) (u : MS) => r = r9 ∧ u = d9) (mAt dC dI bd cb A) A) args s 0 0 A) (F0 m 55 ls []) := by
  intro n
  induction n with
  | zero =>
    intro d x1 H locs ls hj
    exact (loopF_z hj).elim
  | succ n ih =>
    intro d x1 H locs ls hj hP hD hS hl
    have hj := loopF_s hj
    unfold jm_M_readMessage_L55 at hj
    try dsimp only at hj
    refine lv_iload_n hx hb d_Mod_readMessage_55 rfl (lv_at hl 1 rfl) ?_
    refine lv_bipush (v := 64) hx hb d_Mod_readMessage_56 (by decide) ?_
    refine lv_icmp_gt (tgt := 107) hx hb d_Mod_readMessage_58 (by decide) (fun c_10 => ?_) (fun c_10 => ?_)
    · have hj := it_p hj c_10
      refine lv_aload_n hx hb d_Mod_readMessage_107 rfl (lv_at hl 0 rfl) ?_
      refine lv_bipush (v := 10) hx hb d_Mod_readMessage_108 (by decide) ?_
      obtain ⟨d_11, ed_11, hj⟩ := nm_some hj
      refine va_put (D := (dC, dI)) (ci := 8) (v := .int (10 : Int32)) (ty := .int) (C := "CardMessageDeskModel") (T := T_Mod) (N := 32) hx hb hts in_Mod ty_Mod ty_Mod_ok nm_Mod hown hK hP hD hS 0 rfl rfl 8 (by decide) (hts _ tw508) (fun _ h9 => h9) rfl (by decide +kernel) rfl rfl (Nat.le_of_ble_eq_true rfl) d_Mod_readMessage_110 (fun H locs hP hD hS => ?_)
      have hP : va_P (dC, dI) vwCl (mw bd cb d_11) H := by rw [ed_11]; exact hP
      have hD : va_D A (mw bd cb d_11) := by rw [ed_11]; exact hD
      refine lv_iconst (v := 1) hx hb d_Mod_readMessage_113 (by decide) ?_
      refine lv_istore_n (lv' := [(1, .int (1 : Int32)), (0, .ref (bd 0))]) hx hb d_Mod_readMessage_114 rfl hl (by decide) rfl (fun ls hl => ?_)
      exact cm_M_readMessage_L115   _ _ hx hb hr hlocks hml hown hts hN hA hK 200 d_11 (1 : Int32) _ _ ls hj hP hD hS (lv_sub hl [1, 0] rfl)
    · have hj := it_n hj c_10
      refine lv_aload_n hx hb d_Mod_readMessage_61 rfl (lv_at hl 0 rfl) ?_
      refine va_get (D := (dC, dI)) (ci := 8) (v := .ref (bd 5)) (C := "CardMessageDeskModel") (T := T_Mod) (N := 32) hx hb hts in_Mod hown hK hP 0 rfl rfl 10 (by decide) (hts _ tw510) (fun _ h9 => h9) rfl d_Mod_readMessage_62 ?_
      refine lv_iload_n hx hb d_Mod_readMessage_65 rfl (lv_at hl 1 rfl) ?_
      refine lv_aload_n hx hb d_Mod_readMessage_66 rfl (lv_at hl 0 rfl) ?_
      refine va_get (D := (dC, dI)) (ci := 8) (v := .ref (bd 3)) (C := "CardMessageDeskModel") (T := T_Mod) (N := 32) hx hb hts in_Mod hown hK hP 0 rfl rfl 4 (by decide) (hts _ tw504) (fun _ h9 => h9) rfl d_Mod_readMessage_67 ?_
      refine lv_iconst (v := 2) hx hb d_Mod_readMessage_70 (by decide) ?_
      refine lv_iload_n hx hb d_Mod_readMessage_71 rfl (lv_at hl 1 rfl) ?_
      refine lv_iconst (v := 1) hx hb d_Mod_readMessage_72 (by decide) ?_
      refine lv_isub hx hb d_Mod_readMessage_73 ?_
      refine lv_bipush (v := 8) hx hb d_Mod_readMessage_74 (by decide) ?_
      refine lv_idiv hx hb d_Mod_readMessage_76 (by decide +kernel) ?_
      refine lv_iadd hx hb d_Mod_readMessage_77 ?_
      obtain ⟨hi_12, hj⟩ := gd_some hj
      refine va_iald hx hb hK hP 3 2 rfl rfl hi_12 d_Mod_readMessage_78 ?_
      refine lv_bipush (v := 7) hx hb d_Mod_readMessage_79 (by decide) ?_
      refine lv_iload_n hx hb d_Mod_readMessage_81 rfl (lv_at hl 1 rfl) ?_
      refine lv_iconst (v := 1) hx hb d_Mod_readMessage_82 (by decide) ?_
      refine lv_isub hx hb d_Mod_readMessage_83 ?_
      refine lv_bipush (v := 8) hx hb d_Mod_readMessage_84 (by decide) ?_
      refine lv_irem hx hb d_Mod_readMessage_86 (by decide +kernel) ?_
      refine lv_isub hx hb d_Mod_readMessage_87 ?_
      refine lv_ishr hx hb d_Mod_readMessage_88 ?_
      refine lv_iconst (v := 1) hx hb d_Mod_readMessage_89 (by decide) ?_
      refine lv_iand hx hb d_Mod_readMessage_90 ?_
      refine lv_iconst (v := 1) hx hb d_Mod_readMessage_91 (by decide) ?_
      refine lv_icmp_ne (tgt := 99) hx hb d_Mod_readMessage_92 (by decide) (fun c_13 => ?_) (fun c_13 => ?_)
      · have hj := it_n hj c_13
        refine lv_iconst (v := 0) hx hb d_Mod_readMessage_99 (by decide) ?_
        obtain ⟨hi_14, hj⟩ := gd_some hj
        obtain ⟨d_15, ed_15, hj⟩ := nm_some hj
        refine va_zast hx hb hK hP hD hS 5 4 rfl rfl hi_14 d_Mod_readMessage_100 (fun H locs hP hD hS => ?_)
        have hP : va_P (dC, dI) vwCl (mw bd cb d_15) H := by rw [ed_15]; exact hP
        have hD : va_D A (mw bd cb d_15) := by rw [ed_15]; exact hD
        refine lv_iinc (v := (x1 + 1)) (lv' := [(1, .int (x1 + 1)), (0, .ref (bd 0))]) hx hb d_Mod_readMessage_101 hl (k := 1) rfl rfl (by decide) rfl (fun ls hl => ?_)
        refine lv_goto (tgt := 55) hx hb d_Mod_readMessage_104 (by decide) ?_
        exact ih d_15 (x1 + 1) H locs ls hj hP hD hS (lv_sub hl [1, 0] rfl)
      · have hj := it_p hj c_13
        refine lv_iconst (v := 1) hx hb d_Mod_readMessage_95 (by decide) ?_
        refine lv_goto (tgt := 100) hx hb d_Mod_readMessage_96 (by decide) ?_
        obtain ⟨hi_16, hj⟩ := gd_some hj
        obtain ⟨d_17, ed_17, hj⟩ := nm_some hj
        refine va_zast hx hb hK hP hD hS 5 4 rfl rfl hi_16 d_Mod_readMessage_100 (fun H locs hP hD hS => ?_)
        have hP : va_P (dC, dI) vwCl (mw bd cb d_17) H := by rw [ed_17]; exact hP
        have hD : va_D A (mw bd cb d_17) := by rw [ed_17]; exact hD
        refine lv_iinc (v := (x1 + 1)) (lv' := [(1, .int (x1 + 1)), (0, .ref (bd 0))]) hx hb d_Mod_readMessage_101 hl (k := 1) rfl rfl (by decide) rfl (fun ls hl => ?_)
        refine lv_goto (tgt := 55) hx hb d_Mod_readMessage_104 (by decide) ?_
        exact ih d_17 (x1 + 1) H locs ls hj hP hD hS (lv_sub hl [1, 0] rfl)
set_option maxHeartbeats 4000000 in
set_option maxRecDepth 100000 in
theorem cm_M_readMessage (l : Launch) (dC : Nat → ClassId) (dI : Nat → Nat → Nat) (bd : Nat → Nat) (cb : Nat → ClassId) (sz : Nat) (d : MS)   (r9 : Int32) (d9 : MS) (hj : jm_M_readMessage d = some (r9, d9)) : Met l y_Mod_readMessage w_Mod_readMessage ({ frames := 3, cells := 0, slots := 0, locals := 67 }) (va_Pc [.ref (bd 0)] (mPre dC dI bd cb sz d)) (va_Qi (fun (r : Int32) (u : MS) => r = r9 ∧ u = d9) (mAt dC dI bd cb (va_A (mw bd cb d) sz)) (va_A (mw bd cb d) sz)) 0 0 (va_A (mw bd cb d) sz) := by
  refine Met.ofW (cc := prog_10_method_15_code) (maxL := 2) (ret := (some .boolean)) (by decide) rfl ?_
  intro p e s m args below meth c s₁ B hml hv
  obtain ⟨rfl, hsz, hP, hK, hD0, hN⟩ := hv
  have hx := B.exec
  have hb := B.bytes
  have hr := B.returns
  have hts0 := atoms_spec (ws := w_Mod_readMessage) B.pre
  have hts : ∀ w ∈ gt, w.before _ s = true := fun w h => hts0 w (List.mem_cons_of_mem _ h)
  have hown : s.vm.findClass "CardMessageDeskModel" = some m.cls := findClass_of_methodNamed B.named
  have hlocks := B.notSynchronized
  subst hsz
  have hD := hD0.self (sz := s.heap.size)
  generalize hAe : va_A (mw bd cb d) s.heap.size = A at hD ⊢
  have hA : ∀ q : Nat, s.heap.size ≤ q → A q := fun q h => by rw [← hAe]; exact Or.inr h
  have hS : va_S A s.heap s.heap [] := va_S.rf
  have hl := lv_entry ([.ref (bd 0)]) (n := 2) (Nat.le_of_ble_eq_true rfl)
  rw [lg_entry_eq]
  generalize (lg_sl ([.ref (bd 0)]) ++ List.replicate (2 - (lg_sl ([.ref (bd 0)])).length) Slot.unset).toArray = ls at hl ⊢
  have hl : lv_has ls 2 [(0, .ref (bd 0))] := hl
  unfold jm_M_readMessage at hj
  refine lv_aload_n hx hb d_Mod_readMessage_0 rfl (lv_at hl 0 rfl) ?_
  refine lv_iconst (v := 0) hx hb d_Mod_readMessage_1 (by decide) ?_
  obtain ⟨d_1, ed_1, hj⟩ := nm_some hj
  refine va_put (D := (dC, dI)) (ci := 8) (v := .int (0 : Int32)) (ty := .int) (C := "CardMessageDeskModel") (T := T_Mod) (N := 32) hx hb hts in_Mod ty_Mod ty_Mod_ok nm_Mod hown hK hP hD hS 0 rfl rfl 8 (by decide) (hts _ tw508) (fun _ h9 => h9) rfl (by decide +kernel) rfl rfl (Nat.le_of_ble_eq_true rfl) d_Mod_readMessage_2 (fun H locs hP hD hS => ?_)
  have hP : va_P (dC, dI) vwCl (mw bd cb d_1) H := by rw [ed_1]; exact hP
  have hD : va_D A (mw bd cb d_1) := by rw [ed_1]; exact hD
  refine lv_aload_n hx hb d_Mod_readMessage_5 rfl (lv_at hl 0 rfl) ?_
  refine lv_lconst (v := 0) hx hb d_Mod_readMessage_6 (by decide) ?_
  obtain ⟨d_2, ed_2, hj⟩ := nm_some hj
  refine va_put (D := (dC, dI)) (ci := 8) (v := .long (0 : Int64)) (ty := .long) (C := "CardMessageDeskModel") (T := T_Mod) (N := 32) hx hb hts in_Mod ty_Mod ty_Mod_ok nm_Mod hown hK hP hD hS 0 rfl rfl 14 (by decide) (hts _ tw514) (fun _ h9 => h9) rfl (by decide +kernel) rfl rfl (Nat.le_of_ble_eq_true rfl) d_Mod_readMessage_7 (fun H locs hP hD hS => ?_)
  have hP : va_P (dC, dI) vwCl (mw bd cb d_2) H := by rw [ed_2]; exact hP
  have hD : va_D A (mw bd cb d_2) := by rw [ed_2]; exact hD
  refine lv_aload_n hx hb d_Mod_readMessage_10 rfl (lv_at hl 0 rfl) ?_
  refine lv_iconst (v := 0) hx hb d_Mod_readMessage_11 (by decide) ?_
  obtain ⟨d_3, ed_3, hj⟩ := nm_some hj
  refine va_put (D := (dC, dI)) (ci := 8) (v := .int (0 : Int32)) (ty := .int) (C := "CardMessageDeskModel") (T := T_Mod) (N := 32) hx hb hts in_Mod ty_Mod ty_Mod_ok nm_Mod hown hK hP hD hS 0 rfl rfl 15 (by decide) (hts _ tw515) (fun _ h9 => h9) rfl (by decide +kernel) rfl rfl (Nat.le_of_ble_eq_true rfl) d_Mod_readMessage_12 (fun H locs hP hD hS => ?_)
  have hP : va_P (dC, dI) vwCl (mw bd cb d_3) H := by rw [ed_3]; exact hP
  have hD : va_D A (mw bd cb d_3) := by rw [ed_3]; exact hD
  refine lv_aload_n hx hb d_Mod_readMessage_15 rfl (lv_at hl 0 rfl) ?_
  refine lv_lconst (v := 0) hx hb d_Mod_readMessage_16 (by decide) ?_
  obtain ⟨d_4, ed_4, hj⟩ := nm_some hj
  refine va_put (D := (dC, dI)) (ci := 8) (v := .long (0 : Int64)) (ty := .long) (C := "CardMessageDeskModel") (T := T_Mod) (N := 32) hx hb hts in_Mod ty_Mod ty_Mod_ok nm_Mod hown hK hP hD hS 0 rfl rfl 16 (by decide) (hts _ tw516) (fun _ h9 => h9) rfl (by decide +kernel) rfl rfl (Nat.le_of_ble_eq_true rfl) d_Mod_readMessage_17 (fun H locs hP hD hS => ?_)
  have hP : va_P (dC, dI) vwCl (mw bd cb d_4) H := by rw [ed_4]; exact hP
  have hD : va_D A (mw bd cb d_4) := by rw [ed_4]; exact hD
  refine lv_aload_n hx hb d_Mod_readMessage_20 rfl (lv_at hl 0 rfl) ?_
  refine lv_iconst (v := 0) hx hb d_Mod_readMessage_21 (by decide) ?_
  obtain ⟨d_5, ed_5, hj⟩ := nm_some hj
  refine va_put (D := (dC, dI)) (ci := 8) (v := .int (0 : Int32)) (ty := .int) (C := "CardMessageDeskModel") (T := T_Mod) (N := 32) hx hb hts in_Mod ty_Mod ty_Mod_ok nm_Mod hown hK hP hD hS 0 rfl rfl 19 (by decide) (hts _ tw519) (fun _ h9 => h9) rfl (by decide +kernel) rfl rfl (Nat.le_of_ble_eq_true rfl) d_Mod_readMessage_22 (fun H locs hP hD hS => ?_)
  have hP : va_P (dC, dI) vwCl (mw bd cb d_5) H := by rw [ed_5]; exact hP
  have hD : va_D A (mw bd cb d_5) := by rw [ed_5]; exact hD
  refine lv_aload_n hx hb d_Mod_readMessage_25 rfl (lv_at hl 0 rfl) ?_
  refine va_get (D := (dC, dI)) (ci := 8) (v := .int (mg_ins d_5)) (C := "CardMessageDeskModel") (T := T_Mod) (N := 32) hx hb hts in_Mod hown hK hP 0 rfl rfl 5 (by decide) (hts _ tw505) (fun _ h9 => h9) rfl d_Mod_readMessage_26 ?_
  refine lv_bipush (v := 10) hx hb d_Mod_readMessage_29 (by decide) ?_
  refine lv_icmp_lt (tgt := 42) hx hb d_Mod_readMessage_31 (by decide) (fun c_6 => ?_) (fun c_6 => ?_)
  · have hj := it_p hj c_6
    refine lv_iconst (v := 0) hx hb d_Mod_readMessage_42 (by decide) ?_
    obtain ⟨rfl, rfl⟩ := rt_some hj
    exact W.zret (ty := .boolean) hx hb hr rfl (fun t ht hW => ⟨⟨_, _, rfl, ⟨rfl, rfl⟩, by rw [ht]; exact hP, va_K.moved hW.alike hK, hD⟩, hS.F ht⟩) hS.2.2 d_Mod_readMessage_43
  · have hj := it_n hj c_6
    refine lv_aload_n hx hb d_Mod_readMessage_34 rfl (lv_at hl 0 rfl) ?_
    refine lv_iconst (v := 4) hx hb d_Mod_readMessage_35 (by decide) ?_
    obtain ⟨p_7, hc_7, hj⟩ := bd_some hj
    have hF_7 := va_fr hD hS hA
    refine va_calli (va_runV (As := [.int (4 : Int32)]) (rest := []) ⟨hx, hb, hml, hown, hts⟩ (cm_M_digits l dC dI bd cb H.size d_5 (4 : Int32)  p_7.1 p_7.2 hc_7) (cwV 1 hts (gtV tw643 tw645 ts17 tw9 tw646) rfl rfl rfl (by decide +kernel) ⟨Nat.le_of_ble_eq_true rfl, Nat.le_of_ble_eq_true rfl⟩) ⟨mBl, va_recv hK hP (ci := 8) (q0 := 0) rfl rfl, fun U hU hW => ⟨rfl, mPr hP hK hD hN hU hW⟩⟩ rfl rfl hl.1 rfl (lv_room (Nat.le_of_ble_eq_true rfl)) d_Mod_readMessage_36 ⟨Nat.zero_le _, Nat.zero_le _⟩) hS (fun q _ h => hF_7 q h) hF_7 (fun r u t H locs ht hvm hw hB hz1 hk1 hS => ?_)
    obtain ⟨hw1, hw2⟩ := hw
    have hw1 := hw1.symm
    subst hw1
    have hw2 := hw2.symm
    subst hw2
    obtain ⟨hP, hD⟩ := mAf hB ht hF_7
    refine lv_if_ne (tgt := 44) hx hb d_Mod_readMessage_39 (by decide) (fun c_8 => ?_) (fun c_8 => ?_)
    · have hj := it_n hj c_8
      refine lv_aload_n hx hb d_Mod_readMessage_44 rfl (lv_at hl 0 rfl) ?_
      refine lv_aload_n hx hb d_Mod_readMessage_45 rfl (lv_at hl 0 rfl) ?_
      refine va_get (D := (dC, dI)) (ci := 8) (v := .long (mg_value p_7.2)) (C := "CardMessageDeskModel") (T := T_Mod) (N := 32) hx hb hts in_Mod hown hK hP 0 rfl rfl 9 (by decide) (hts _ tw509) (fun _ h9 => h9) rfl d_Mod_readMessage_46 ?_
      refine lv_l2i (v := ((mg_value p_7.2)).toInt32) hx hb d_Mod_readMessage_49 rfl ?_
      obtain ⟨d_9, ed_9, hj⟩ := nm_some hj
      refine va_put (D := (dC, dI)) (ci := 8) (v := .int ((mg_value p_7.2)).toInt32) (ty := .int) (C := "CardMessageDeskModel") (T := T_Mod) (N := 32) hx hb hts in_Mod ty_Mod ty_Mod_ok nm_Mod hown hK hP hD hS 0 rfl rfl 13 (by decide) (hts _ tw513) (fun _ h9 => h9) rfl (by decide +kernel) rfl rfl (Nat.le_of_ble_eq_true rfl) d_Mod_readMessage_50 (fun H locs hP hD hS => ?_)
      have hP : va_P (dC, dI) vwCl (mw bd cb d_9) H := by rw [ed_9]; exact hP
      have hD : va_D A (mw bd cb d_9) := by rw [ed_9]; exact hD
      refine lv_iconst (v := 1) hx hb d_Mod_readMessage_53 (by decide) ?_
      refine lv_istore_n (lv' := [(1, .int (1 : Int32)), (0, .ref (bd 0))]) hx hb d_Mod_readMessage_54 rfl hl (by decide) rfl (fun ls hl => ?_)
      exact cm_M_readMessage_L55   _ _ hx hb hr hlocks hml hown hts hN hA hK 200 d_9 (1 : Int32) _ _ ls hj hP hD hS (lv_sub hl [1, 0] rfl)
    · have hj := it_p hj c_8
      refine lv_iconst (v := 0) hx hb d_Mod_readMessage_42 (by decide) ?_
      obtain ⟨rfl, rfl⟩ := rt_some hj
      exact W.zret (ty := .boolean) hx hb hr rfl (fun t ht hW => ⟨⟨_, _, rfl, ⟨rfl, rfl⟩, by rw [ht]; exact hP, va_K.moved hW.alike hK, hD⟩, hS.F ht⟩) hS.2.2 d_Mod_readMessage_43
