set_option maxHeartbeats 4000000 in
set_option maxRecDepth 100000 in
theorem cm_M_find_L2 {p : Program} {l : Launch} {e : Env} {s : State} {m : MethodId} {args : Array Value} {below : List Frame} {meth : Method} {c : Code} {dC : Nat → ClassId} {dI : Nat → Nat → Nat} {bd : Nat → Nat} {cb : Nat → ClassId} {A : Nat → Prop} (d : MS) (x1 : Int64)  (r9 : Int32) (hx : p.tables.exec = Jvm.exec) (hb : c.code = prog_10_method_2_code) (hr : meth.sig.returnType = (some .int)) (hlocks : meth.locks = false) (hml : c.maxLocals = 4) (hown : s.vm.findClass "CardMessageDeskModel" = some m.cls) (hts : ∀ w ∈ gt, w.before args s = true) (hN : nw s) (hA : ∀ q : Nat, s.heap.size ≤ q → A q) (hK : va_K (dC, dI) vwCl (mT cb) s) :
    ∀ (n : Nat) (x3 : Int32) (H : Heap) (locs : List Loc) (ls : Array Slot), loopF (jm_M_find_L2 d x1) n x3 = some r9 → va_P (dC, dI) vwCl (mw bd cb d) H → va_D A (mw bd cb d) → va_S A s.heap H locs → lv_has ls 4 [(0, .ref (bd 0)), (1, .long x1), (3, .int x3)] → W p l e ({ frames := 0, cells := 0, slots := 0, locals := 0 }) s m args below meth c H locs 0 0 (MQ below (va_Qi (fun (r : Int32) (u : MS) => r = r9 ∧ u = d) (mAt dC dI bd cb A) A) args s 0 0 A) (F0 m 2 ls []) := by
  intro n
  induction n with
  | zero =>
    intro x3 H locs ls hj
    exact (loopF_z hj).elim
  | succ n ih =>
    intro x3 H locs ls hj hP hD hS hl
    have hj := loopF_s hj
    unfold jm_M_find_L2 at hj
    try dsimp only at hj
    refine lv_iload_n hx hb d_Mod_find_2 rfl (lv_at hl 2 rfl) ?_
    refine lv_aload_n hx hb d_Mod_find_3 rfl (lv_at hl 0 rfl) ?_
    refine va_get (D := (dC, dI)) (ci := 8) (v := .int (mg_many d)) (C := "CardMessageDeskModel") (T := T_Mod) (N := 32) hx hb hts in_Mod hown hK hP 0 rfl rfl 2 (by decide) (hts _ tw502) (fun _ h9 => h9) rfl d_Mod_find_4 ?_
    refine lv_icmp_ge (tgt := 29) hx hb d_Mod_find_7 (by decide) (fun c_1 => ?_) (fun c_1 => ?_)
    · have hj := it_p hj c_1
      refine lv_iconst (v := (-1)) hx hb d_Mod_find_29 (by decide) ?_
      obtain rfl := Option.some.inj hj
      exact W.iret hx hb hr (fun t ht hW => ⟨⟨_, _, rfl, ⟨rfl, rfl⟩, by rw [ht]; exact hP, va_K.moved hW.alike hK, hD⟩, hS.F ht⟩) hS.2.2 d_Mod_find_30
    · have hj := it_n hj c_1
      refine lv_aload_n hx hb d_Mod_find_10 rfl (lv_at hl 0 rfl) ?_
      refine va_get (D := (dC, dI)) (ci := 8) (v := .ref (bd 1)) (C := "CardMessageDeskModel") (T := T_Mod) (N := 32) hx hb hts in_Mod hown hK hP 0 rfl rfl 0 (by decide) (hts _ tw500) (fun _ h9 => h9) rfl d_Mod_find_11 ?_
      refine lv_iload_n hx hb d_Mod_find_14 rfl (lv_at hl 2 rfl) ?_
      obtain ⟨hi_2, hj⟩ := gd_some hj
      refine va_lald hx hb hK hP 1 0 rfl rfl hi_2 d_Mod_find_15 ?_
      refine lv_lload_n hx hb d_Mod_find_16 rfl (lv_at hl 1 rfl) ?_
      refine W.lcmp hx hb d_Mod_find_17 ?_
      refine lv_if_ne (tgt := 23) hx hb d_Mod_find_18 (by decide) (fun c_3 => ?_) (fun c_3 => ?_)
      · have hj := it_n hj (fun z => c_3 (lc_ne.mpr z))
        refine lv_iinc (v := (x3 + 1)) (lv' := [(3, .int (x3 + 1)), (0, .ref (bd 0)), (1, .long x1)]) hx hb d_Mod_find_23 hl (k := 2) rfl rfl (by decide) rfl (fun ls hl => ?_)
        refine lv_goto (tgt := 2) hx hb d_Mod_find_26 (by decide) ?_
        exact ih (x3 + 1) H locs ls hj hP hD hS (lv_sub hl [1, 2, 0] rfl)
      · have hj := it_p hj (lc_ne.mp c_3)
        refine lv_iload_n hx hb d_Mod_find_21 rfl (lv_at hl 2 rfl) ?_
        obtain rfl := Option.some.inj hj
        exact W.iret hx hb hr (fun t ht hW => ⟨⟨_, _, rfl, ⟨rfl, rfl⟩, by rw [ht]; exact hP, va_K.moved hW.alike hK, hD⟩, hS.F ht⟩) hS.2.2 d_Mod_find_22
set_option maxHeartbeats 4000000 in
set_option maxRecDepth 100000 in
theorem cm_M_find (l : Launch) (dC : Nat → ClassId) (dI : Nat → Nat → Nat) (bd : Nat → Nat) (cb : Nat → ClassId) (sz : Nat) (d : MS) (p1 : Int64)  (r9 : Int32) (hj : jm_M_find d p1 = some r9) : Met l y_Mod_find w_Mod_find ({ frames := 0, cells := 0, slots := 0, locals := 0 }) (va_Pc [.ref (bd 0), .long p1] (mPre dC dI bd cb sz d)) (va_Qi (fun (r : Int32) (u : MS) => r = r9 ∧ u = d) (mAt dC dI bd cb (va_A (mw bd cb d) sz)) (va_A (mw bd cb d) sz)) 0 0 (va_A (mw bd cb d) sz) := by
  refine Met.ofW (cc := prog_10_method_2_code) (maxL := 4) (ret := (some .int)) (by decide) rfl ?_
  intro p e s m args below meth c s₁ B hml hv
  obtain ⟨rfl, hsz, hP, hK, hD0, hN⟩ := hv
  have hx := B.exec
  have hb := B.bytes
  have hr := B.returns
  have hts0 := atoms_spec (ws := w_Mod_find) B.pre
  have hts : ∀ w ∈ gt, w.before _ s = true := fun w h => hts0 w (List.mem_cons_of_mem _ h)
  have hown : s.vm.findClass "CardMessageDeskModel" = some m.cls := findClass_of_methodNamed B.named
  have hlocks := B.notSynchronized
  subst hsz
  have hD := hD0.self (sz := s.heap.size)
  generalize hAe : va_A (mw bd cb d) s.heap.size = A at hD ⊢
  have hA : ∀ q : Nat, s.heap.size ≤ q → A q := fun q h => by rw [← hAe]; exact Or.inr h
  have hS : va_S A s.heap s.heap [] := va_S.rf
  have hl := lv_entry ([.ref (bd 0), .long p1]) (n := 4) (Nat.le_of_ble_eq_true rfl)
  rw [lg_entry_eq]
  generalize (lg_sl ([.ref (bd 0), .long p1]) ++ List.replicate (4 - (lg_sl ([.ref (bd 0), .long p1])).length) Slot.unset).toArray = ls at hl ⊢
  have hl : lv_has ls 4 [(0, .ref (bd 0)), (1, .long p1)] := hl
  unfold jm_M_find at hj
  refine lv_iconst (v := 0) hx hb d_Mod_find_0 (by decide) ?_
  refine lv_istore_n (lv' := [(3, .int (0 : Int32)), (0, .ref (bd 0)), (1, .long p1)]) hx hb d_Mod_find_1 rfl hl (by decide) rfl (fun ls hl => ?_)
  exact cm_M_find_L2 d p1 _ hx hb hr hlocks hml hown hts hN hA hK 200 (0 : Int32) _ _ ls hj hP hD hS (lv_sub hl [1, 2, 0] rfl)
set_option maxHeartbeats 4000000 in
set_option maxRecDepth 100000 in
theorem cm_M_open (l : Launch) (dC : Nat → ClassId) (dI : Nat → Nat → Nat) (bd : Nat → Nat) (cb : Nat → ClassId) (sz : Nat) (d : MS) (p1 : Int64) (p2 : Int64)  (r9 : Int32) (d9 : MS) (hj : jm_M_open d p1 p2 = some (r9, d9)) : Met l y_Mod_open w_Mod_open ({ frames := 1, cells := 0, slots := 0, locals := 23 }) (va_Pc [.ref (bd 0), .long p1, .long p2] (mPre dC dI bd cb sz d)) (va_Qi (fun (r : Int32) (u : MS) => r = r9 ∧ u = d9) (mAt dC dI bd cb (va_A (mw bd cb d) sz)) (va_A (mw bd cb d) sz)) 0 0 (va_A (mw bd cb d) sz) := by
  refine Met.ofW (cc := prog_10_method_3_code) (maxL := 6) (ret := (some .boolean)) (by decide) rfl ?_
  intro p e s m args below meth c s₁ B hml hv
  obtain ⟨rfl, hsz, hP, hK, hD0, hN⟩ := hv
  have hx := B.exec
  have hb := B.bytes
  have hr := B.returns
  have hts0 := atoms_spec (ws := w_Mod_open) B.pre
  have hts : ∀ w ∈ gt, w.before _ s = true := fun w h => hts0 w (List.mem_cons_of_mem _ h)
  have hown : s.vm.findClass "CardMessageDeskModel" = some m.cls := findClass_of_methodNamed B.named
  have hlocks := B.notSynchronized
  subst hsz
  have hD := hD0.self (sz := s.heap.size)
  generalize hAe : va_A (mw bd cb d) s.heap.size = A at hD ⊢
  have hA : ∀ q : Nat, s.heap.size ≤ q → A q := fun q h => by rw [← hAe]; exact Or.inr h
  have hS : va_S A s.heap s.heap [] := va_S.rf
  have hl := lv_entry ([.ref (bd 0), .long p1, .long p2]) (n := 6) (Nat.le_of_ble_eq_true rfl)
  rw [lg_entry_eq]
  generalize (lg_sl ([.ref (bd 0), .long p1, .long p2]) ++ List.replicate (6 - (lg_sl ([.ref (bd 0), .long p1, .long p2])).length) Slot.unset).toArray = ls at hl ⊢
  have hl : lv_has ls 6 [(0, .ref (bd 0)), (1, .long p1), (3, .long p2)] := hl
  unfold jm_M_open at hj
  refine lv_aload_n hx hb d_Mod_open_0 rfl (lv_at hl 0 rfl) ?_
  refine lv_lload_n hx hb d_Mod_open_1 rfl (lv_at hl 1 rfl) ?_
  obtain ⟨v_1, hc_1, hj⟩ := bd_some hj
  have hF_1 := va_fr hD hS hA
  refine va_calli (va_runV (As := [.long p1]) (rest := []) ⟨hx, hb, hml, hown, hts⟩ (cm_M_find l dC dI bd cb s.heap.size d p1  v_1 hc_1) (cwV 1 hts (gtV tw603 tw605 ts13 tw9 tw606) rfl rfl rfl (by decide +kernel) ⟨Nat.le_of_ble_eq_true rfl, Nat.le_of_ble_eq_true rfl⟩) ⟨mBl, va_recv hK hP (ci := 8) (q0 := 0) rfl rfl, fun U hU hW => ⟨rfl, mPr hP hK hD hN hU hW⟩⟩ rfl rfl hl.1 rfl (lv_room (Nat.le_of_ble_eq_true rfl)) d_Mod_open_2 ⟨Nat.zero_le _, Nat.zero_le _⟩) hS (fun q _ h => hF_1 q h) hF_1 (fun r u t H locs ht hvm hw hB hz1 hk1 hS => ?_)
  obtain ⟨hw1, hw2⟩ := hw
  have hw1 := hw1.symm
  subst hw1
  have hw2 := hw2.symm
  subst hw2
  obtain ⟨hP, hD⟩ := mAf hB ht hF_1
  refine lv_istore (lv' := [(5, .int v_1), (0, .ref (bd 0)), (1, .long p1), (3, .long p2)]) hx hb d_Mod_open_5 hl (by decide) rfl (fun ls hl => ?_)
  refine lv_iload hx hb d_Mod_open_7 (lv_at hl 0 rfl) ?_
  refine lv_if_ge (tgt := 49) hx hb d_Mod_open_9 (by decide) (fun c_2 => ?_) (fun c_2 => ?_)
  · have hj := it_p hj c_2
    refine lv_iconst (v := 0) hx hb d_Mod_open_49 (by decide) ?_
    obtain ⟨rfl, rfl⟩ := rt_some hj
    exact W.zret (ty := .boolean) hx hb hr rfl (fun t ht hW => ⟨⟨_, _, rfl, ⟨rfl, rfl⟩, by rw [ht]; exact hP, va_K.moved hW.alike hK, hD⟩, hS.F ht⟩) hS.2.2 d_Mod_open_50
  · have hj := it_n hj c_2
    refine lv_lload_n hx hb d_Mod_open_12 rfl (lv_at hl 2 rfl) ?_
    refine lv_lconst (v := 1) hx hb d_Mod_open_13 (by decide) ?_
    refine W.lcmp hx hb d_Mod_open_14 ?_
    refine lv_if_lt (tgt := 49) hx hb d_Mod_open_15 (by decide) (fun c_3 => ?_) (fun c_3 => ?_)
    · have hj := it_p hj (lc_lt.mp c_3)
      refine lv_iconst (v := 0) hx hb d_Mod_open_49 (by decide) ?_
      obtain ⟨rfl, rfl⟩ := rt_some hj
      exact W.zret (ty := .boolean) hx hb hr rfl (fun t ht hW => ⟨⟨_, _, rfl, ⟨rfl, rfl⟩, by rw [ht]; exact hP, va_K.moved hW.alike hK, hD⟩, hS.F ht⟩) hS.2.2 d_Mod_open_50
    · have hj := it_n hj (fun z => c_3 (lc_lt.mpr z))
      refine lv_lload_n hx hb d_Mod_open_18 rfl (lv_at hl 2 rfl) ?_
      refine lv_ldc2 (v := 9999999999999999) hx hb hown (hts _ tw607) d_Mod_open_19 ?_
      refine W.lcmp hx hb d_Mod_open_22 ?_
      refine lv_if_gt (tgt := 49) hx hb d_Mod_open_23 (by decide) (fun c_4 => ?_) (fun c_4 => ?_)
      · have hj := it_p hj (lc_gt.mp c_4)
        refine lv_iconst (v := 0) hx hb d_Mod_open_49 (by decide) ?_
        obtain ⟨rfl, rfl⟩ := rt_some hj
        exact W.zret (ty := .boolean) hx hb hr rfl (fun t ht hW => ⟨⟨_, _, rfl, ⟨rfl, rfl⟩, by rw [ht]; exact hP, va_K.moved hW.alike hK, hD⟩, hS.F ht⟩) hS.2.2 d_Mod_open_50
      · have hj := it_n hj (fun z => c_4 (lc_gt.mpr z))
        refine lv_lload_n hx hb d_Mod_open_26 rfl (lv_at hl 3 rfl) ?_
        refine lv_lconst (v := 0) hx hb d_Mod_open_27 (by decide) ?_
        refine W.lcmp hx hb d_Mod_open_28 ?_
        refine lv_if_lt (tgt := 49) hx hb d_Mod_open_29 (by decide) (fun c_5 => ?_) (fun c_5 => ?_)
        · have hj := it_p hj (lc_lt.mp c_5)
          refine lv_iconst (v := 0) hx hb d_Mod_open_49 (by decide) ?_
          obtain ⟨rfl, rfl⟩ := rt_some hj
          exact W.zret (ty := .boolean) hx hb hr rfl (fun t ht hW => ⟨⟨_, _, rfl, ⟨rfl, rfl⟩, by rw [ht]; exact hP, va_K.moved hW.alike hK, hD⟩, hS.F ht⟩) hS.2.2 d_Mod_open_50
        · have hj := it_n hj (fun z => c_5 (lc_lt.mpr z))
          refine lv_lload_n hx hb d_Mod_open_32 rfl (lv_at hl 3 rfl) ?_
          refine lv_ldc2 (v := 1000000000000) hx hb hown (hts _ tw608) d_Mod_open_33 ?_
          refine W.lcmp hx hb d_Mod_open_36 ?_
          refine lv_if_gt (tgt := 49) hx hb d_Mod_open_37 (by decide) (fun c_6 => ?_) (fun c_6 => ?_)
          · have hj := it_p hj (lc_gt.mp c_6)
            refine lv_iconst (v := 0) hx hb d_Mod_open_49 (by decide) ?_
            obtain ⟨rfl, rfl⟩ := rt_some hj
            exact W.zret (ty := .boolean) hx hb hr rfl (fun t ht hW => ⟨⟨_, _, rfl, ⟨rfl, rfl⟩, by rw [ht]; exact hP, va_K.moved hW.alike hK, hD⟩, hS.F ht⟩) hS.2.2 d_Mod_open_50
          · have hj := it_n hj (fun z => c_6 (lc_gt.mpr z))
            refine lv_aload_n hx hb d_Mod_open_40 rfl (lv_at hl 1 rfl) ?_
            refine va_get (D := (dC, dI)) (ci := 8) (v := .int (mg_many d)) (C := "CardMessageDeskModel") (T := T_Mod) (N := 32) hx hb hts in_Mod hown hK hP 0 rfl rfl 2 (by decide) (hts _ tw502) (fun _ h9 => h9) rfl d_Mod_open_41 ?_
            refine lv_bipush (v := 6) hx hb d_Mod_open_44 (by decide) ?_
            refine lv_icmp_ne (tgt := 51) hx hb d_Mod_open_46 (by decide) (fun c_7 => ?_) (fun c_7 => ?_)
            · have hj := it_n hj c_7
              refine lv_aload_n hx hb d_Mod_open_51 rfl (lv_at hl 1 rfl) ?_
              refine va_get (D := (dC, dI)) (ci := 8) (v := .ref (bd 1)) (C := "CardMessageDeskModel") (T := T_Mod) (N := 32) hx hb hts in_Mod hown hK hP 0 rfl rfl 0 (by decide) (hts _ tw500) (fun _ h9 => h9) rfl d_Mod_open_52 ?_
              refine lv_aload_n hx hb d_Mod_open_55 rfl (lv_at hl 1 rfl) ?_
              refine va_get (D := (dC, dI)) (ci := 8) (v := .int (mg_many d)) (C := "CardMessageDeskModel") (T := T_Mod) (N := 32) hx hb hts in_Mod hown hK hP 0 rfl rfl 2 (by decide) (hts _ tw502) (fun _ h9 => h9) rfl d_Mod_open_56 ?_
              refine lv_lload_n hx hb d_Mod_open_59 rfl (lv_at hl 2 rfl) ?_
              obtain ⟨hi_8, hj⟩ := gd_some hj
              obtain ⟨d_9, ed_9, hj⟩ := nm_some hj
              refine va_last hx hb hK hP hD hS 1 0 rfl rfl hi_8 d_Mod_open_60 (fun H locs hP hD hS => ?_)
              have hP : va_P (dC, dI) vwCl (mw bd cb d_9) H := by rw [ed_9]; exact hP
              have hD : va_D A (mw bd cb d_9) := by rw [ed_9]; exact hD
              refine lv_aload_n hx hb d_Mod_open_61 rfl (lv_at hl 1 rfl) ?_
              refine va_get (D := (dC, dI)) (ci := 8) (v := .ref (bd 2)) (C := "CardMessageDeskModel") (T := T_Mod) (N := 32) hx hb hts in_Mod hown hK hP 0 rfl rfl 1 (by decide) (hts _ tw501) (fun _ h9 => h9) rfl d_Mod_open_62 ?_
              refine lv_aload_n hx hb d_Mod_open_65 rfl (lv_at hl 1 rfl) ?_
              refine va_get (D := (dC, dI)) (ci := 8) (v := .int (mg_many d_9)) (C := "CardMessageDeskModel") (T := T_Mod) (N := 32) hx hb hts in_Mod hown hK hP 0 rfl rfl 2 (by decide) (hts _ tw502) (fun _ h9 => h9) rfl d_Mod_open_66 ?_
              refine lv_lload_n hx hb d_Mod_open_69 rfl (lv_at hl 3 rfl) ?_
              obtain ⟨hi_10, hj⟩ := gd_some hj
              obtain ⟨d_11, ed_11, hj⟩ := nm_some hj
              refine va_last hx hb hK hP hD hS 2 1 rfl rfl hi_10 d_Mod_open_70 (fun H locs hP hD hS => ?_)
              have hP : va_P (dC, dI) vwCl (mw bd cb d_11) H := by rw [ed_11]; exact hP
              have hD : va_D A (mw bd cb d_11) := by rw [ed_11]; exact hD
              refine lv_aload_n hx hb d_Mod_open_71 rfl (lv_at hl 1 rfl) ?_
              refine lv_dup hx hb d_Mod_open_72 rfl ?_
              refine va_get (D := (dC, dI)) (ci := 8) (v := .int (mg_many d_11)) (C := "CardMessageDeskModel") (T := T_Mod) (N := 32) hx hb hts in_Mod hown hK hP 0 rfl rfl 2 (by decide) (hts _ tw502) (fun _ h9 => h9) rfl d_Mod_open_73 ?_
              refine lv_iconst (v := 1) hx hb d_Mod_open_76 (by decide) ?_
              refine lv_iadd hx hb d_Mod_open_77 ?_
              obtain ⟨d_12, ed_12, hj⟩ := nm_some hj
              refine va_put (D := (dC, dI)) (ci := 8) (v := .int ((mg_many d_11) + (1 : Int32))) (ty := .int) (C := "CardMessageDeskModel") (T := T_Mod) (N := 32) hx hb hts in_Mod ty_Mod ty_Mod_ok nm_Mod hown hK hP hD hS 0 rfl rfl 2 (by decide) (hts _ tw502) (fun _ h9 => h9) rfl (by decide +kernel) rfl rfl (Nat.le_of_ble_eq_true rfl) d_Mod_open_78 (fun H locs hP hD hS => ?_)
              have hP : va_P (dC, dI) vwCl (mw bd cb d_12) H := by rw [ed_12]; exact hP
              have hD : va_D A (mw bd cb d_12) := by rw [ed_12]; exact hD
              refine lv_iconst (v := 1) hx hb d_Mod_open_81 (by decide) ?_
              obtain ⟨rfl, rfl⟩ := rt_some hj
              exact W.zret (ty := .boolean) hx hb hr rfl (fun t ht hW => ⟨⟨_, _, rfl, ⟨rfl, rfl⟩, by rw [ht]; exact hP, va_K.moved hW.alike hK, hD⟩, hS.F ht⟩) hS.2.2 d_Mod_open_82
            · have hj := it_p hj c_7
              refine lv_iconst (v := 0) hx hb d_Mod_open_49 (by decide) ?_
              obtain ⟨rfl, rfl⟩ := rt_some hj
              exact W.zret (ty := .boolean) hx hb hr rfl (fun t ht hW => ⟨⟨_, _, rfl, ⟨rfl, rfl⟩, by rw [ht]; exact hP, va_K.moved hW.alike hK, hD⟩, hS.F ht⟩) hS.2.2 d_Mod_open_50
set_option maxHeartbeats 4000000 in
set_option maxRecDepth 100000 in
theorem cm_M_balance (l : Launch) (dC : Nat → ClassId) (dI : Nat → Nat → Nat) (bd : Nat → Nat) (cb : Nat → ClassId) (sz : Nat) (d : MS) (p1 : Int64)  (r9 : Int64) (hj : jm_M_balance d p1 = some r9) : Met l y_Mod_balance w_Mod_balance ({ frames := 1, cells := 0, slots := 0, locals := 23 }) (va_Pc [.ref (bd 0), .long p1] (mPre dC dI bd cb sz d)) (va_Ql (fun (r : Int64) (u : MS) => r = r9 ∧ u = d) (mAt dC dI bd cb (va_A (mw bd cb d) sz)) (va_A (mw bd cb d) sz)) 0 0 (va_A (mw bd cb d) sz) := by
  refine Met.ofW (cc := prog_10_method_4_code) (maxL := 4) (ret := (some .long)) (by decide) rfl ?_
  intro p e s m args below meth c s₁ B hml hv
  obtain ⟨rfl, hsz, hP, hK, hD0, hN⟩ := hv
  have hx := B.exec
  have hb := B.bytes
  have hr := B.returns
  have hts0 := atoms_spec (ws := w_Mod_balance) B.pre
  have hts : ∀ w ∈ gt, w.before _ s = true := fun w h => hts0 w (List.mem_cons_of_mem _ h)
  have hown : s.vm.findClass "CardMessageDeskModel" = some m.cls := findClass_of_methodNamed B.named
  have hlocks := B.notSynchronized
  subst hsz
  have hD := hD0.self (sz := s.heap.size)
  generalize hAe : va_A (mw bd cb d) s.heap.size = A at hD ⊢
  have hA : ∀ q : Nat, s.heap.size ≤ q → A q := fun q h => by rw [← hAe]; exact Or.inr h
  have hS : va_S A s.heap s.heap [] := va_S.rf
  have hl := lv_entry ([.ref (bd 0), .long p1]) (n := 4) (Nat.le_of_ble_eq_true rfl)
  rw [lg_entry_eq]
  generalize (lg_sl ([.ref (bd 0), .long p1]) ++ List.replicate (4 - (lg_sl ([.ref (bd 0), .long p1])).length) Slot.unset).toArray = ls at hl ⊢
  have hl : lv_has ls 4 [(0, .ref (bd 0)), (1, .long p1)] := hl
  unfold jm_M_balance at hj
  refine lv_aload_n hx hb d_Mod_balance_0 rfl (lv_at hl 0 rfl) ?_
  refine lv_lload_n hx hb d_Mod_balance_1 rfl (lv_at hl 1 rfl) ?_
  obtain ⟨v_1, hc_1, hj⟩ := bd_some hj
  have hF_1 := va_fr hD hS hA
  refine va_calli (va_runV (As := [.long p1]) (rest := []) ⟨hx, hb, hml, hown, hts⟩ (cm_M_find l dC dI bd cb s.heap.size d p1  v_1 hc_1) (cwV 1 hts (gtV tw603 tw605 ts13 tw9 tw606) rfl rfl rfl (by decide +kernel) ⟨Nat.le_of_ble_eq_true rfl, Nat.le_of_ble_eq_true rfl⟩) ⟨mBl, va_recv hK hP (ci := 8) (q0 := 0) rfl rfl, fun U hU hW => ⟨rfl, mPr hP hK hD hN hU hW⟩⟩ rfl rfl hl.1 rfl (lv_room (Nat.le_of_ble_eq_true rfl)) d_Mod_balance_2 ⟨Nat.zero_le _, Nat.zero_le _⟩) hS (fun q _ h => hF_1 q h) hF_1 (fun r u t H locs ht hvm hw hB hz1 hk1 hS => ?_)
  obtain ⟨hw1, hw2⟩ := hw
  have hw1 := hw1.symm
  subst hw1
  have hw2 := hw2.symm
  subst hw2
  obtain ⟨hP, hD⟩ := mAf hB ht hF_1
  refine lv_istore_n (lv' := [(3, .int v_1), (0, .ref (bd 0)), (1, .long p1)]) hx hb d_Mod_balance_5 rfl hl (by decide) rfl (fun ls hl => ?_)
  refine lv_iload_n hx hb d_Mod_balance_6 rfl (lv_at hl 0 rfl) ?_
  refine lv_if_ge (tgt := 16) hx hb d_Mod_balance_7 (by decide) (fun c_2 => ?_) (fun c_2 => ?_)
  · have hj := it_p hj c_2
    refine lv_aload_n hx hb d_Mod_balance_16 rfl (lv_at hl 1 rfl) ?_
    refine va_get (D := (dC, dI)) (ci := 8) (v := .ref (bd 2)) (C := "CardMessageDeskModel") (T := T_Mod) (N := 32) hx hb hts in_Mod hown hK hP 0 rfl rfl 1 (by decide) (hts _ tw501) (fun _ h9 => h9) rfl d_Mod_balance_17 ?_
    refine lv_iload_n hx hb d_Mod_balance_20 rfl (lv_at hl 0 rfl) ?_
    obtain ⟨hi_3, hj⟩ := gd_some hj
    refine va_lald hx hb hK hP 2 1 rfl rfl hi_3 d_Mod_balance_21 ?_
    obtain rfl := Option.some.inj hj
    exact W.lret hx hb hr (fun t ht hW => ⟨⟨_, _, rfl, ⟨rfl, rfl⟩, by rw [ht]; exact hP, va_K.moved hW.alike hK, hD⟩, hS.F ht⟩) hS.2.2 d_Mod_balance_22
  · have hj := it_n hj c_2
    refine lv_ldc2 (v := (-1099511627776)) hx hb hown (hts _ tw613) d_Mod_balance_10 ?_
    refine lv_goto (tgt := 22) hx hb d_Mod_balance_13 (by decide) ?_
    obtain rfl := Option.some.inj hj
    exact W.lret hx hb hr (fun t ht hW => ⟨⟨_, _, rfl, ⟨rfl, rfl⟩, by rw [ht]; exact hP, va_K.moved hW.alike hK, hD⟩, hS.F ht⟩) hS.2.2 d_Mod_balance_22
set_option maxHeartbeats 4000000 in
set_option maxRecDepth 100000 in
theorem cm_M_isHold (l : Launch) (dC : Nat → ClassId) (dI : Nat → Nat → Nat) (bd : Nat → Nat) (cb : Nat → ClassId) (sz : Nat) (d : MS) (p1 : Int32)  (r9 : Int32) (hj : jm_M_isHold d p1 = some r9) : Met l y_Mod_isHold w_Mod_isHold ({ frames := 0, cells := 0, slots := 0, locals := 0 }) (va_Pc [.ref (bd 0), .int p1] (mPre dC dI bd cb sz d)) (va_Qi (fun (r : Int32) (u : MS) => r = r9 ∧ u = d) (mAt dC dI bd cb (va_A (mw bd cb d) sz)) (va_A (mw bd cb d) sz)) 0 0 (va_A (mw bd cb d) sz) := by
  refine Met.ofW (cc := prog_10_method_5_code) (maxL := 2) (ret := (some .boolean)) (by decide) rfl ?_
  intro p e s m args below meth c s₁ B hml hv
  obtain ⟨rfl, hsz, hP, hK, hD0, hN⟩ := hv
  have hx := B.exec
  have hb := B.bytes
  have hr := B.returns
  have hts0 := atoms_spec (ws := w_Mod_isHold) B.pre
  have hts : ∀ w ∈ gt, w.before _ s = true := fun w h => hts0 w (List.mem_cons_of_mem _ h)
  have hown : s.vm.findClass "CardMessageDeskModel" = some m.cls := findClass_of_methodNamed B.named
  have hlocks := B.notSynchronized
  subst hsz
  have hD := hD0.self (sz := s.heap.size)
  generalize hAe : va_A (mw bd cb d) s.heap.size = A at hD ⊢
  have hA : ∀ q : Nat, s.heap.size ≤ q → A q := fun q h => by rw [← hAe]; exact Or.inr h
  have hS : va_S A s.heap s.heap [] := va_S.rf
  have hl := lv_entry ([.ref (bd 0), .int p1]) (n := 2) (Nat.le_of_ble_eq_true rfl)
  rw [lg_entry_eq]
  generalize (lg_sl ([.ref (bd 0), .int p1]) ++ List.replicate (2 - (lg_sl ([.ref (bd 0), .int p1])).length) Slot.unset).toArray = ls at hl ⊢
  have hl : lv_has ls 2 [(0, .ref (bd 0)), (1, .int p1)] := hl
  unfold jm_M_isHold at hj
  refine lv_aload_n hx hb d_Mod_isHold_0 rfl (lv_at hl 0 rfl) ?_
  refine va_get (D := (dC, dI)) (ci := 8) (v := .ref (bd 15)) (C := "CardMessageDeskModel") (T := T_Mod) (N := 32) hx hb hts in_Mod hown hK hP 0 rfl rfl 28 (by decide) (hts _ tw528) (fun _ h9 => h9) rfl d_Mod_isHold_1 ?_
  refine lv_iload_n hx hb d_Mod_isHold_4 rfl (lv_at hl 1 rfl) ?_
  obtain ⟨hi_1, hj⟩ := gd_some hj
  refine va_iald hx hb hK hP 15 14 rfl rfl hi_1 d_Mod_isHold_5 ?_
  refine lv_iconst (v := 1) hx hb d_Mod_isHold_6 (by decide) ?_
  refine lv_icmp_ne (tgt := 30) hx hb d_Mod_isHold_7 (by decide) (fun c_2 => ?_) (fun c_2 => ?_)
  · have hj := it_n hj c_2
    refine lv_iconst (v := 0) hx hb d_Mod_isHold_30 (by decide) ?_
    obtain rfl := Option.some.inj hj
    exact W.zret (ty := .boolean) hx hb hr rfl (fun t ht hW => ⟨⟨_, _, rfl, ⟨rfl, rfl⟩, by rw [ht]; exact hP, va_K.moved hW.alike hK, hD⟩, hS.F ht⟩) hS.2.2 d_Mod_isHold_31
  · have hj := it_p hj c_2
    refine lv_aload_n hx hb d_Mod_isHold_10 rfl (lv_at hl 0 rfl) ?_
    refine va_get (D := (dC, dI)) (ci := 8) (v := .int (mg_now d)) (C := "CardMessageDeskModel") (T := T_Mod) (N := 32) hx hb hts in_Mod hown hK hP 0 rfl rfl 3 (by decide) (hts _ tw503) (fun _ h9 => h9) rfl d_Mod_isHold_11 ?_
    refine lv_aload_n hx hb d_Mod_isHold_14 rfl (lv_at hl 0 rfl) ?_
    refine va_get (D := (dC, dI)) (ci := 8) (v := .ref (bd 16)) (C := "CardMessageDeskModel") (T := T_Mod) (N := 32) hx hb hts in_Mod hown hK hP 0 rfl rfl 29 (by decide) (hts _ tw529) (fun _ h9 => h9) rfl d_Mod_isHold_15 ?_
    refine lv_iload_n hx hb d_Mod_isHold_18 rfl (lv_at hl 1 rfl) ?_
    obtain ⟨hi_3, hj⟩ := gd_some hj
    refine va_iald hx hb hK hP 16 15 rfl rfl hi_3 d_Mod_isHold_19 ?_
    refine lv_isub hx hb d_Mod_isHold_20 ?_
    refine lv_bipush (v := 50) hx hb d_Mod_isHold_21 (by decide) ?_
    refine lv_icmp_ge (tgt := 30) hx hb d_Mod_isHold_23 (by decide) (fun c_4 => ?_) (fun c_4 => ?_)
    · have hj := it_p hj c_4
      refine lv_iconst (v := 0) hx hb d_Mod_isHold_30 (by decide) ?_
      obtain rfl := Option.some.inj hj
      exact W.zret (ty := .boolean) hx hb hr rfl (fun t ht hW => ⟨⟨_, _, rfl, ⟨rfl, rfl⟩, by rw [ht]; exact hP, va_K.moved hW.alike hK, hD⟩, hS.F ht⟩) hS.2.2 d_Mod_isHold_31
    · have hj := it_n hj c_4
      refine lv_iconst (v := 1) hx hb d_Mod_isHold_26 (by decide) ?_
      refine lv_goto (tgt := 31) hx hb d_Mod_isHold_27 (by decide) ?_
      obtain rfl := Option.some.inj hj
      exact W.zret (ty := .boolean) hx hb hr rfl (fun t ht hW => ⟨⟨_, _, rfl, ⟨rfl, rfl⟩, by rw [ht]; exact hP, va_K.moved hW.alike hK, hD⟩, hS.F ht⟩) hS.2.2 d_Mod_isHold_31
set_option maxHeartbeats 4000000 in
set_option maxRecDepth 100000 in
theorem cm_M_available_L25 {p : Program} {l : Launch} {e : Env} {s : State} {m : MethodId} {args : Array Value} {below : List Frame} {meth : Method} {c : Code} {dC : Nat → ClassId} {dI : Nat → Nat → Nat} {bd : Nat → Nat} {cb : Nat → ClassId} {A : Nat → Prop} (d : MS) (x1 : Int64)  (r9 : Int64) (hx : p.tables.exec = Jvm.exec) (hb : c.code = prog_10_method_6_code) (hr : meth.sig.returnType = (some .long)) (hlocks : meth.locks = false) (hml : c.maxLocals = 7) (hown : s.vm.findClass "CardMessageDeskModel" = some m.cls) (hts : ∀ w ∈ gt, w.before args s = true) (hN : nw s) (hA : ∀ q : Nat, s.heap.size ≤ q → A q) (hK : va_K (dC, dI) vwCl (mT cb) s) :
    ∀ (n : Nat) (x4 : Int64) (x6 : Int32) (H : Heap) (locs : List Loc) (ls : Array Slot), loopF (jm_M_available_L25 d x1) n (x4, x6) = some r9 → va_P (dC, dI) vwCl (mw bd cb d) H → va_D A (mw bd cb d) → va_S A s.heap H locs → lv_has ls 7 [(0, .ref (bd 0)), (1, .long x1), (4, .long x4), (6, .int x6)] → W p l e ({ frames := 1, cells := 0, slots := 0, locals := 23 }) s m args below meth c H locs 0 0 (MQ below (va_Ql (fun (r : Int64) (u : MS) => r = r9 ∧ u = d) (mAt dC dI bd cb A) A) args s 0 0 A) (F0 m 25 ls []) := by
  intro n
  induction n with
  | zero =>
    intro x4 x6 H locs ls hj
    exact (loopF_z hj).elim
  | succ n ih =>
    intro x4 x6 H locs ls hj hP hD hS hl
    have hj := loopF_s hj
    unfold jm_M_available_L25 at hj
    try dsimp only at hj
    refine lv_iload hx hb d_Mod_available_25 (lv_at hl 3 rfl) ?_
    refine lv_aload_n hx hb d_Mod_available_27 rfl (lv_at hl 0 rfl) ?_
    refine va_get (D := (dC, dI)) (ci := 8) (v := .int (mg_entries d)) (C := "CardMessageDeskModel") (T := T_Mod) (N := 32) hx hb hts in_Mod hown hK hP 0 rfl rfl 20 (by decide) (hts _ tw520) (fun _ h9 => h9) rfl d_Mod_available_28 ?_
    refine lv_icmp_ge (tgt := 78) hx hb d_Mod_available_31 (by decide) (fun c_4 => ?_) (fun c_4 => ?_)
    · have hj := it_p hj c_4
      refine lv_lload hx hb d_Mod_available_78 (lv_at hl 2 rfl) ?_
      obtain rfl := Option.some.inj hj
      exact W.lret hx hb hr (fun t ht hW => ⟨⟨_, _, rfl, ⟨rfl, rfl⟩, by rw [ht]; exact hP, va_K.moved hW.alike hK, hD⟩, hS.F ht⟩) hS.2.2 d_Mod_available_80
    · have hj := it_n hj c_4
      refine lv_aload_n hx hb d_Mod_available_34 rfl (lv_at hl 0 rfl) ?_
      refine lv_iload hx hb d_Mod_available_35 (lv_at hl 3 rfl) ?_
      obtain ⟨v_5, hc_5, hj⟩ := bd_some hj
      have hF_5 := va_fr hD hS hA
      refine va_calli (va_runV (As := [.int x6]) (rest := []) ⟨hx, hb, hml, hown, hts⟩ (cm_M_isHold l dC dI bd cb H.size d x6  v_5 hc_5) (cwV 1 hts (gtV tw618 tw620 ts14 tw9 tw621) rfl rfl rfl (by decide +kernel) ⟨Nat.le_of_ble_eq_true rfl, Nat.le_of_ble_eq_true rfl⟩) ⟨mBl, va_recv hK hP (ci := 8) (q0 := 0) rfl rfl, fun U hU hW => ⟨rfl, mPr hP hK hD hN hU hW⟩⟩ rfl rfl hl.1 rfl (lv_room (Nat.le_of_ble_eq_true rfl)) d_Mod_available_37 ⟨Nat.zero_le _, Nat.zero_le _⟩) hS (fun q _ h => hF_5 q h) hF_5 (fun r u t H locs ht hvm hw hB hz1 hk1 hS => ?_)
      obtain ⟨hw1, hw2⟩ := hw
      have hw1 := hw1.symm
      subst hw1
      have hw2 := hw2.symm
      subst hw2
      obtain ⟨hP, hD⟩ := mAf hB ht hF_5
      refine lv_if_eq (tgt := 68) hx hb d_Mod_available_40 (by decide) (fun c_6 => ?_) (fun c_6 => ?_)
      · have hj := it_p hj c_6
        refine lv_lload hx hb d_Mod_available_68 (lv_at hl 2 rfl) ?_
        refine lv_lstore (lv' := [(4, .long x4), (0, .ref (bd 0)), (1, .long x1), (6, .int x6)]) hx hb d_Mod_available_70 hl (by decide) rfl (fun ls hl => ?_)
        refine lv_iinc (v := (x6 + 1)) (lv' := [(6, .int (x6 + 1)), (4, .long x4), (0, .ref (bd 0)), (1, .long x1)]) hx hb d_Mod_available_72 hl (k := 3) rfl rfl (by decide) rfl (fun ls hl => ?_)
        refine lv_goto (tgt := 25) hx hb d_Mod_available_75 (by decide) ?_
        exact ih x4 (x6 + 1) H locs ls hj hP hD hS (lv_sub hl [2, 3, 1, 0] rfl)
      · have hj := it_n hj c_6
        refine lv_aload_n hx hb d_Mod_available_43 rfl (lv_at hl 0 rfl) ?_
        refine va_get (D := (dC, dI)) (ci := 8) (v := .ref (bd 11)) (C := "CardMessageDeskModel") (T := T_Mod) (N := 32) hx hb hts in_Mod hown hK hP 0 rfl rfl 24 (by decide) (hts _ tw524) (fun _ h9 => h9) rfl d_Mod_available_44 ?_
        refine lv_iload hx hb d_Mod_available_47 (lv_at hl 3 rfl) ?_
        obtain ⟨hi_7, hj⟩ := gd_some hj
        refine va_lald hx hb hK hP 11 10 rfl rfl hi_7 d_Mod_available_49 ?_
        refine lv_lload_n hx hb d_Mod_available_50 rfl (lv_at hl 1 rfl) ?_
        refine W.lcmp hx hb d_Mod_available_51 ?_
        refine lv_if_ne (tgt := 68) hx hb d_Mod_available_52 (by decide) (fun c_8 => ?_) (fun c_8 => ?_)
        · have hj := it_n hj (fun z => c_8 (lc_ne.mpr z))
          refine lv_lload hx hb d_Mod_available_68 (lv_at hl 2 rfl) ?_
          refine lv_lstore (lv' := [(4, .long x4), (0, .ref (bd 0)), (1, .long x1), (6, .int x6)]) hx hb d_Mod_available_70 hl (by decide) rfl (fun ls hl => ?_)
          refine lv_iinc (v := (x6 + 1)) (lv' := [(6, .int (x6 + 1)), (4, .long x4), (0, .ref (bd 0)), (1, .long x1)]) hx hb d_Mod_available_72 hl (k := 3) rfl rfl (by decide) rfl (fun ls hl => ?_)
          refine lv_goto (tgt := 25) hx hb d_Mod_available_75 (by decide) ?_
          exact ih x4 (x6 + 1) H locs ls hj hP hD hS (lv_sub hl [2, 3, 1, 0] rfl)
        · have hj := it_p hj (lc_ne.mp c_8)
          refine lv_lload hx hb d_Mod_available_55 (lv_at hl 2 rfl) ?_
          refine lv_aload_n hx hb d_Mod_available_57 rfl (lv_at hl 0 rfl) ?_
          refine va_get (D := (dC, dI)) (ci := 8) (v := .ref (bd 13)) (C := "CardMessageDeskModel") (T := T_Mod) (N := 32) hx hb hts in_Mod hown hK hP 0 rfl rfl 26 (by decide) (hts _ tw526) (fun _ h9 => h9) rfl d_Mod_available_58 ?_
          refine lv_iload hx hb d_Mod_available_61 (lv_at hl 3 rfl) ?_
          obtain ⟨hi_9, hj⟩ := gd_some hj
          refine va_lald hx hb hK hP 13 12 rfl rfl hi_9 d_Mod_available_63 ?_
          refine lv_lsub hx hb d_Mod_available_64 ?_
          refine lv_goto (tgt := 70) hx hb d_Mod_available_65 (by decide) ?_
          refine lv_lstore (lv' := [(4, .long (x4 - (mg_amounts d (x6).toNatClampNeg))), (0, .ref (bd 0)), (1, .long x1), (6, .int x6)]) hx hb d_Mod_available_70 hl (by decide) rfl (fun ls hl => ?_)
          refine lv_iinc (v := (x6 + 1)) (lv' := [(6, .int (x6 + 1)), (4, .long (x4 - (mg_amounts d (x6).toNatClampNeg))), (0, .ref (bd 0)), (1, .long x1)]) hx hb d_Mod_available_72 hl (k := 3) rfl rfl (by decide) rfl (fun ls hl => ?_)
          refine lv_goto (tgt := 25) hx hb d_Mod_available_75 (by decide) ?_
          exact ih (x4 - (mg_amounts d (x6).toNatClampNeg)) (x6 + 1) H locs ls hj hP hD hS (lv_sub hl [2, 3, 1, 0] rfl)
set_option maxHeartbeats 4000000 in
set_option maxRecDepth 100000 in
theorem cm_M_available (l : Launch) (dC : Nat → ClassId) (dI : Nat → Nat → Nat) (bd : Nat → Nat) (cb : Nat → ClassId) (sz : Nat) (d : MS) (p1 : Int64)  (r9 : Int64) (hj : jm_M_available d p1 = some r9) : Met l y_Mod_available w_Mod_available ({ frames := 1, cells := 0, slots := 0, locals := 23 }) (va_Pc [.ref (bd 0), .long p1] (mPre dC dI bd cb sz d)) (va_Ql (fun (r : Int64) (u : MS) => r = r9 ∧ u = d) (mAt dC dI bd cb (va_A (mw bd cb d) sz)) (va_A (mw bd cb d) sz)) 0 0 (va_A (mw bd cb d) sz) := by
  refine Met.ofW (cc := prog_10_method_6_code) (maxL := 7) (ret := (some .long)) (by decide) rfl ?_
  intro p e s m args below meth c s₁ B hml hv
  obtain ⟨rfl, hsz, hP, hK, hD0, hN⟩ := hv
  have hx := B.exec
  have hb := B.bytes
  have hr := B.returns
  have hts0 := atoms_spec (ws := w_Mod_available) B.pre
  have hts : ∀ w ∈ gt, w.before _ s = true := fun w h => hts0 w (List.mem_cons_of_mem _ h)
  have hown : s.vm.findClass "CardMessageDeskModel" = some m.cls := findClass_of_methodNamed B.named
  have hlocks := B.notSynchronized
  subst hsz
  have hD := hD0.self (sz := s.heap.size)
  generalize hAe : va_A (mw bd cb d) s.heap.size = A at hD ⊢
  have hA : ∀ q : Nat, s.heap.size ≤ q → A q := fun q h => by rw [← hAe]; exact Or.inr h
  have hS : va_S A s.heap s.heap [] := va_S.rf
  have hl := lv_entry ([.ref (bd 0), .long p1]) (n := 7) (Nat.le_of_ble_eq_true rfl)
  rw [lg_entry_eq]
  generalize (lg_sl ([.ref (bd 0), .long p1]) ++ List.replicate (7 - (lg_sl ([.ref (bd 0), .long p1])).length) Slot.unset).toArray = ls at hl ⊢
  have hl : lv_has ls 7 [(0, .ref (bd 0)), (1, .long p1)] := hl
  unfold jm_M_available at hj
  refine lv_aload_n hx hb d_Mod_available_0 rfl (lv_at hl 0 rfl) ?_
  refine lv_lload_n hx hb d_Mod_available_1 rfl (lv_at hl 1 rfl) ?_
  obtain ⟨v_1, hc_1, hj⟩ := bd_some hj
  have hF_1 := va_fr hD hS hA
  refine va_calli (va_runV (As := [.long p1]) (rest := []) ⟨hx, hb, hml, hown, hts⟩ (cm_M_find l dC dI bd cb s.heap.size d p1  v_1 hc_1) (cwV 1 hts (gtV tw603 tw605 ts13 tw9 tw606) rfl rfl rfl (by decide +kernel) ⟨Nat.le_of_ble_eq_true rfl, Nat.le_of_ble_eq_true rfl⟩) ⟨mBl, va_recv hK hP (ci := 8) (q0 := 0) rfl rfl, fun U hU hW => ⟨rfl, mPr hP hK hD hN hU hW⟩⟩ rfl rfl hl.1 rfl (lv_room (Nat.le_of_ble_eq_true rfl)) d_Mod_available_2 ⟨Nat.zero_le _, Nat.zero_le _⟩) hS (fun q _ h => hF_1 q h) hF_1 (fun r u t H locs ht hvm hw hB hz1 hk1 hS => ?_)
  obtain ⟨hw1, hw2⟩ := hw
  have hw1 := hw1.symm
  subst hw1
  have hw2 := hw2.symm
  subst hw2
  obtain ⟨hP, hD⟩ := mAf hB ht hF_1
  refine lv_istore_n (lv' := [(3, .int v_1), (0, .ref (bd 0)), (1, .long p1)]) hx hb d_Mod_available_5 rfl hl (by decide) rfl (fun ls hl => ?_)
  refine lv_iload_n hx hb d_Mod_available_6 rfl (lv_at hl 0 rfl) ?_
  refine lv_if_ge (tgt := 14) hx hb d_Mod_available_7 (by decide) (fun c_2 => ?_) (fun c_2 => ?_)
  · have hj := it_p hj c_2
    refine lv_aload_n hx hb d_Mod_available_14 rfl (lv_at hl 1 rfl) ?_
    refine va_get (D := (dC, dI)) (ci := 8) (v := .ref (bd 2)) (C := "CardMessageDeskModel") (T := T_Mod) (N := 32) hx hb hts in_Mod hown hK hP 0 rfl rfl 1 (by decide) (hts _ tw501) (fun _ h9 => h9) rfl d_Mod_available_15 ?_
    refine lv_iload_n hx hb d_Mod_available_18 rfl (lv_at hl 0 rfl) ?_
    obtain ⟨hi_3, hj⟩ := gd_some hj
    refine va_lald hx hb hK hP 2 1 rfl rfl hi_3 d_Mod_available_19 ?_
    refine lv_lstore (lv' := [(4, .long (mg_balances d (v_1).toNatClampNeg)), (3, .int v_1), (0, .ref (bd 0)), (1, .long p1)]) hx hb d_Mod_available_20 hl (by decide) rfl (fun ls hl => ?_)
    refine lv_iconst (v := 0) hx hb d_Mod_available_22 (by decide) ?_
    refine lv_istore (lv' := [(6, .int (0 : Int32)), (4, .long (mg_balances d (v_1).toNatClampNeg)), (3, .int v_1), (0, .ref (bd 0)), (1, .long p1)]) hx hb d_Mod_available_23 hl (by decide) rfl (fun ls hl => ?_)
    exact cm_M_available_L25 d p1 _ hx hb hr hlocks hml hown hts hN hA hK 200 (mg_balances d (v_1).toNatClampNeg) (0 : Int32) _ _ ls hj hP hD hS (lv_sub hl [3, 4, 1, 0] rfl)
  · have hj := it_n hj c_2
    refine lv_ldc2 (v := (-1099511627776)) hx hb hown (hts _ tw613) d_Mod_available_10 ?_
    obtain rfl := Option.some.inj hj
    exact W.lret hx hb hr (fun t ht hW => ⟨⟨_, _, rfl, ⟨rfl, rfl⟩, by rw [ht]; exact hP, va_K.moved hW.alike hK, hD⟩, hS.F ht⟩) hS.2.2 d_Mod_available_13
set_option maxHeartbeats 4000000 in
set_option maxRecDepth 100000 in
theorem cm_M_tick (l : Launch) (dC : Nat → ClassId) (dI : Nat → Nat → Nat) (bd : Nat → Nat) (cb : Nat → ClassId) (sz : Nat) (d : MS) (p1 : Int32)  (r9 : Int32) (d9 : MS) (hj : jm_M_tick d p1 = some (r9, d9)) : Met l y_Mod_tick w_Mod_tick ({ frames := 0, cells := 0, slots := 0, locals := 0 }) (va_Pc [.ref (bd 0), .int p1] (mPre dC dI bd cb sz d)) (va_Qi (fun (r : Int32) (u : MS) => r = r9 ∧ u = d9) (mAt dC dI bd cb (va_A (mw bd cb d) sz)) (va_A (mw bd cb d) sz)) 0 0 (va_A (mw bd cb d) sz) := by
  refine Met.ofW (cc := prog_10_method_7_code) (maxL := 2) (ret := (some .boolean)) (by decide) rfl ?_
  intro p e s m args below meth c s₁ B hml hv
  obtain ⟨rfl, hsz, hP, hK, hD0, hN⟩ := hv
  have hx := B.exec
  have hb := B.bytes
  have hr := B.returns
  have hts0 := atoms_spec (ws := w_Mod_tick) B.pre
  have hts : ∀ w ∈ gt, w.before _ s = true := fun w h => hts0 w (List.mem_cons_of_mem _ h)
  have hown : s.vm.findClass "CardMessageDeskModel" = some m.cls := findClass_of_methodNamed B.named
  have hlocks := B.notSynchronized
  subst hsz
  have hD := hD0.self (sz := s.heap.size)
  generalize hAe : va_A (mw bd cb d) s.heap.size = A at hD ⊢
  have hA : ∀ q : Nat, s.heap.size ≤ q → A q := fun q h => by rw [← hAe]; exact Or.inr h
  have hS : va_S A s.heap s.heap [] := va_S.rf
  have hl := lv_entry ([.ref (bd 0), .int p1]) (n := 2) (Nat.le_of_ble_eq_true rfl)
  rw [lg_entry_eq]
  generalize (lg_sl ([.ref (bd 0), .int p1]) ++ List.replicate (2 - (lg_sl ([.ref (bd 0), .int p1])).length) Slot.unset).toArray = ls at hl ⊢
  have hl : lv_has ls 2 [(0, .ref (bd 0)), (1, .int p1)] := hl
  unfold jm_M_tick at hj
  refine lv_iload_n hx hb d_Mod_tick_0 rfl (lv_at hl 1 rfl) ?_
  refine lv_if_lt (tgt := 11) hx hb d_Mod_tick_1 (by decide) (fun c_1 => ?_) (fun c_1 => ?_)
  · have hj := it_p hj c_1
    refine lv_iconst (v := 0) hx hb d_Mod_tick_11 (by decide) ?_
    obtain ⟨rfl, rfl⟩ := rt_some hj
    exact W.zret (ty := .boolean) hx hb hr rfl (fun t ht hW => ⟨⟨_, _, rfl, ⟨rfl, rfl⟩, by rw [ht]; exact hP, va_K.moved hW.alike hK, hD⟩, hS.F ht⟩) hS.2.2 d_Mod_tick_12
  · have hj := it_n hj c_1
    refine lv_iload_n hx hb d_Mod_tick_4 rfl (lv_at hl 1 rfl) ?_
    refine lv_sipush (v := 1000) hx hb d_Mod_tick_5 (by decide) ?_
    refine lv_icmp_le (tgt := 13) hx hb d_Mod_tick_8 (by decide) (fun c_2 => ?_) (fun c_2 => ?_)
    · have hj := it_p hj c_2
      refine lv_aload_n hx hb d_Mod_tick_13 rfl (lv_at hl 0 rfl) ?_
      refine lv_aload_n hx hb d_Mod_tick_14 rfl (lv_at hl 0 rfl) ?_
      refine va_get (D := (dC, dI)) (ci := 8) (v := .int (mg_now d)) (C := "CardMessageDeskModel") (T := T_Mod) (N := 32) hx hb hts in_Mod hown hK hP 0 rfl rfl 3 (by decide) (hts _ tw503) (fun _ h9 => h9) rfl d_Mod_tick_15 ?_
      refine lv_iload_n hx hb d_Mod_tick_18 rfl (lv_at hl 1 rfl) ?_
      refine lv_iadd hx hb d_Mod_tick_19 ?_
      obtain ⟨d_3, ed_3, hj⟩ := nm_some hj
      refine va_put (D := (dC, dI)) (ci := 8) (v := .int ((mg_now d) + p1)) (ty := .int) (C := "CardMessageDeskModel") (T := T_Mod) (N := 32) hx hb hts in_Mod ty_Mod ty_Mod_ok nm_Mod hown hK hP hD hS 0 rfl rfl 3 (by decide) (hts _ tw503) (fun _ h9 => h9) rfl (by decide +kernel) rfl rfl (Nat.le_of_ble_eq_true rfl) d_Mod_tick_20 (fun H locs hP hD hS => ?_)
      have hP : va_P (dC, dI) vwCl (mw bd cb d_3) H := by rw [ed_3]; exact hP
      have hD : va_D A (mw bd cb d_3) := by rw [ed_3]; exact hD
      refine lv_iconst (v := 1) hx hb d_Mod_tick_23 (by decide) ?_
      obtain ⟨rfl, rfl⟩ := rt_some hj
      exact W.zret (ty := .boolean) hx hb hr rfl (fun t ht hW => ⟨⟨_, _, rfl, ⟨rfl, rfl⟩, by rw [ht]; exact hP, va_K.moved hW.alike hK, hD⟩, hS.F ht⟩) hS.2.2 d_Mod_tick_24
    · have hj := it_n hj c_2
      refine lv_iconst (v := 0) hx hb d_Mod_tick_11 (by decide) ?_
      obtain ⟨rfl, rfl⟩ := rt_some hj
      exact W.zret (ty := .boolean) hx hb hr rfl (fun t ht hW => ⟨⟨_, _, rfl, ⟨rfl, rfl⟩, by rw [ht]; exact hP, va_K.moved hW.alike hK, hD⟩, hS.F ht⟩) hS.2.2 d_Mod_tick_12
set_option maxHeartbeats 4000000 in
set_option maxRecDepth 100000 in
theorem cm_M_feed_L29 {p : Program} {l : Launch} {e : Env} {s : State} {m : MethodId} {args : Array Value} {below : List Frame} {meth : Method} {c : Code} {dC : Nat → ClassId} {dI : Nat → Nat → Nat} {bd : Nat → Nat} {cb : Nat → ClassId} {A : Nat → Prop}  (x1 : Int64)  (r9 : Int32) (d9 : MS) (hx : p.tables.exec = Jvm.exec) (hb : c.code = prog_10_method_8_code) (hr : meth.sig.returnType = (some .int)) (hlocks : meth.locks = false) (hml : c.maxLocals = 5) (hown : s.vm.findClass "CardMessageDeskModel" = some m.cls) (hts : ∀ w ∈ gt, w.before args s = true) (hN : nw s) (hA : ∀ q : Nat, s.heap.size ≤ q → A q) (hK : va_K (dC, dI) vwCl (mT cb) s) :
    ∀ (n : Nat) (d : MS) (x4 : Int32) (H : Heap) (locs : List Loc) (ls : Array Slot), loopF (jm_M_feed_L29 x1) n (d, x4) = some (r9, d9) → va_P (dC, dI) vwCl (mw bd cb d) H → va_D A (mw bd cb d) → va_S A s.heap H locs → lv_has ls 5 [(0, .ref (bd 0)), (1, .long x1), (4, .int x4)] → W p l e ({ frames := 0, cells := 0, slots := 0, locals := 0 }) s m args below meth c H locs 0 0 (MQ below (va_Qi (fun (r : Int32) (u : MS) => r = r9 ∧ u = d9) (mAt dC dI bd cb A) A) args s 0 0 A) (F0 m 29 ls []) := by
  intro n
  induction n with
  | zero =>
    intro d x4 H locs ls hj
    exact (loopF_z hj).elim
  | succ n ih =>
    intro d x4 H locs ls hj hP hD hS hl
    have hj := loopF_s hj
    unfold jm_M_feed_L29 at hj
    try dsimp only at hj
    refine lv_iload hx hb d_Mod_feed_29 (lv_at hl 2 rfl) ?_
    refine lv_if_lt (tgt := 71) hx hb d_Mod_feed_31 (by decide) (fun c_4 => ?_) (fun c_4 => ?_)
    · have hj := it_p hj c_4
      refine lv_aload_n hx hb d_Mod_feed_71 rfl (lv_at hl 0 rfl) ?_
      refine va_get (D := (dC, dI)) (ci := 8) (v := .int (mg_ins d)) (C := "CardMessageDeskModel") (T := T_Mod) (N := 32) hx hb hts in_Mod hown hK hP 0 rfl rfl 5 (by decide) (hts _ tw505) (fun _ h9 => h9) rfl d_Mod_feed_72 ?_
      obtain ⟨rfl, rfl⟩ := rt_some hj
      exact W.iret hx hb hr (fun t ht hW => ⟨⟨_, _, rfl, ⟨rfl, rfl⟩, by rw [ht]; exact hP, va_K.moved hW.alike hK, hD⟩, hS.F ht⟩) hS.2.2 d_Mod_feed_75
    · have hj := it_n hj c_4
      refine lv_aload_n hx hb d_Mod_feed_34 rfl (lv_at hl 0 rfl) ?_
      refine va_get (D := (dC, dI)) (ci := 8) (v := .ref (bd 3)) (C := "CardMessageDeskModel") (T := T_Mod) (N := 32) hx hb hts in_Mod hown hK hP 0 rfl rfl 4 (by decide) (hts _ tw504) (fun _ h9 => h9) rfl d_Mod_feed_35 ?_
      refine lv_aload_n hx hb d_Mod_feed_38 rfl (lv_at hl 0 rfl) ?_
      refine va_get (D := (dC, dI)) (ci := 8) (v := .int (mg_ins d)) (C := "CardMessageDeskModel") (T := T_Mod) (N := 32) hx hb hts in_Mod hown hK hP 0 rfl rfl 5 (by decide) (hts _ tw505) (fun _ h9 => h9) rfl d_Mod_feed_39 ?_
      refine lv_lload_n hx hb d_Mod_feed_42 rfl (lv_at hl 1 rfl) ?_
      refine lv_bipush (v := 8) hx hb d_Mod_feed_43 (by decide) ?_
      refine lv_iload hx hb d_Mod_feed_45 (lv_at hl 2 rfl) ?_
      refine lv_imul hx hb d_Mod_feed_47 ?_
      refine lv_lshr (v := (x1 >>> ((((8 : Int32) * x4)).toInt64 &&& 63))) hx hb d_Mod_feed_48 rfl ?_
      refine lv_ldc2 (v := 255) hx hb hown (hts _ tw630) d_Mod_feed_49 ?_
      refine lv_land hx hb d_Mod_feed_52 ?_
      refine lv_l2i (v := (((x1 >>> ((((8 : Int32) * x4)).toInt64 &&& 63)) &&& (255 : Int64))).toInt32) hx hb d_Mod_feed_53 rfl ?_
      obtain ⟨hi_5, hj⟩ := gd_some hj
      obtain ⟨d_6, ed_6, hj⟩ := nm_some hj
      refine va_iast hx hb hK hP hD hS 3 2 rfl rfl hi_5 d_Mod_feed_54 (fun H locs hP hD hS => ?_)
      have hP : va_P (dC, dI) vwCl (mw bd cb d_6) H := by rw [ed_6]; exact hP
      have hD : va_D A (mw bd cb d_6) := by rw [ed_6]; exact hD
      refine lv_aload_n hx hb d_Mod_feed_55 rfl (lv_at hl 0 rfl) ?_
      refine lv_dup hx hb d_Mod_feed_56 rfl ?_
      refine va_get (D := (dC, dI)) (ci := 8) (v := .int (mg_ins d_6)) (C := "CardMessageDeskModel") (T := T_Mod) (N := 32) hx hb hts in_Mod hown hK hP 0 rfl rfl 5 (by decide) (hts _ tw505) (fun _ h9 => h9) rfl d_Mod_feed_57 ?_
      refine lv_iconst (v := 1) hx hb d_Mod_feed_60 (by decide) ?_
      refine lv_iadd hx hb d_Mod_feed_61 ?_
      obtain ⟨d_7, ed_7, hj⟩ := nm_some hj
      refine va_put (D := (dC, dI)) (ci := 8) (v := .int ((mg_ins d_6) + (1 : Int32))) (ty := .int) (C := "CardMessageDeskModel") (T := T_Mod) (N := 32) hx hb hts in_Mod ty_Mod ty_Mod_ok nm_Mod hown hK hP hD hS 0 rfl rfl 5 (by decide) (hts _ tw505) (fun _ h9 => h9) rfl (by decide +kernel) rfl rfl (Nat.le_of_ble_eq_true rfl) d_Mod_feed_62 (fun H locs hP hD hS => ?_)
      have hP : va_P (dC, dI) vwCl (mw bd cb d_7) H := by rw [ed_7]; exact hP
      have hD : va_D A (mw bd cb d_7) := by rw [ed_7]; exact hD
      refine lv_iinc (v := (x4 + (-1))) (lv' := [(4, .int (x4 + (-1))), (0, .ref (bd 0)), (1, .long x1)]) hx hb d_Mod_feed_65 hl (k := 2) rfl rfl (by decide) rfl (fun ls hl => ?_)
      refine lv_goto (tgt := 29) hx hb d_Mod_feed_68 (by decide) ?_
      exact ih d_7 (x4 + (-1)) H locs ls hj hP hD hS (lv_sub hl [1, 2, 0] rfl)
set_option maxHeartbeats 4000000 in
set_option maxRecDepth 100000 in
theorem cm_M_feed (l : Launch) (dC : Nat → ClassId) (dI : Nat → Nat → Nat) (bd : Nat → Nat) (cb : Nat → ClassId) (sz : Nat) (d : MS) (p1 : Int64) (p2 : Int32)  (r9 : Int32) (d9 : MS) (hj : jm_M_feed d p1 p2 = some (r9, d9)) : Met l y_Mod_feed w_Mod_feed ({ frames := 0, cells := 0, slots := 0, locals := 0 }) (va_Pc [.ref (bd 0), .long p1, .int p2] (mPre dC dI bd cb sz d)) (va_Qi (fun (r : Int32) (u : MS) => r = r9 ∧ u = d9) (mAt dC dI bd cb (va_A (mw bd cb d) sz)) (va_A (mw bd cb d) sz)) 0 0 (va_A (mw bd cb d) sz) := by
  refine Met.ofW (cc := prog_10_method_8_code) (maxL := 5) (ret := (some .int)) (by decide) rfl ?_
  intro p e s m args below meth c s₁ B hml hv
  obtain ⟨rfl, hsz, hP, hK, hD0, hN⟩ := hv
  have hx := B.exec
  have hb := B.bytes
  have hr := B.returns
  have hts0 := atoms_spec (ws := w_Mod_feed) B.pre
  have hts : ∀ w ∈ gt, w.before _ s = true := fun w h => hts0 w (List.mem_cons_of_mem _ h)
  have hown : s.vm.findClass "CardMessageDeskModel" = some m.cls := findClass_of_methodNamed B.named
  have hlocks := B.notSynchronized
  subst hsz
  have hD := hD0.self (sz := s.heap.size)
  generalize hAe : va_A (mw bd cb d) s.heap.size = A at hD ⊢
  have hA : ∀ q : Nat, s.heap.size ≤ q → A q := fun q h => by rw [← hAe]; exact Or.inr h
  have hS : va_S A s.heap s.heap [] := va_S.rf
  have hl := lv_entry ([.ref (bd 0), .long p1, .int p2]) (n := 5) (Nat.le_of_ble_eq_true rfl)
  rw [lg_entry_eq]
  generalize (lg_sl ([.ref (bd 0), .long p1, .int p2]) ++ List.replicate (5 - (lg_sl ([.ref (bd 0), .long p1, .int p2])).length) Slot.unset).toArray = ls at hl ⊢
  have hl : lv_has ls 5 [(0, .ref (bd 0)), (1, .long p1), (3, .int p2)] := hl
  unfold jm_M_feed at hj
  refine lv_iload_n hx hb d_Mod_feed_0 rfl (lv_at hl 2 rfl) ?_
  refine lv_iconst (v := 1) hx hb d_Mod_feed_1 (by decide) ?_
  refine lv_icmp_lt (tgt := 22) hx hb d_Mod_feed_2 (by decide) (fun c_1 => ?_) (fun c_1 => ?_)
  · have hj := it_p hj c_1
    refine lv_iconst (v := (-1)) hx hb d_Mod_feed_22 (by decide) ?_
    obtain ⟨rfl, rfl⟩ := rt_some hj
    exact W.iret hx hb hr (fun t ht hW => ⟨⟨_, _, rfl, ⟨rfl, rfl⟩, by rw [ht]; exact hP, va_K.moved hW.alike hK, hD⟩, hS.F ht⟩) hS.2.2 d_Mod_feed_23
  · have hj := it_n hj c_1
    refine lv_iload_n hx hb d_Mod_feed_5 rfl (lv_at hl 2 rfl) ?_
    refine lv_bipush (v := 8) hx hb d_Mod_feed_6 (by decide) ?_
    refine lv_icmp_gt (tgt := 22) hx hb d_Mod_feed_8 (by decide) (fun c_2 => ?_) (fun c_2 => ?_)
    · have hj := it_p hj c_2
      refine lv_iconst (v := (-1)) hx hb d_Mod_feed_22 (by decide) ?_
      obtain ⟨rfl, rfl⟩ := rt_some hj
      exact W.iret hx hb hr (fun t ht hW => ⟨⟨_, _, rfl, ⟨rfl, rfl⟩, by rw [ht]; exact hP, va_K.moved hW.alike hK, hD⟩, hS.F ht⟩) hS.2.2 d_Mod_feed_23
    · have hj := it_n hj c_2
      refine lv_aload_n hx hb d_Mod_feed_11 rfl (lv_at hl 0 rfl) ?_
      refine va_get (D := (dC, dI)) (ci := 8) (v := .int (mg_ins d)) (C := "CardMessageDeskModel") (T := T_Mod) (N := 32) hx hb hts in_Mod hown hK hP 0 rfl rfl 5 (by decide) (hts _ tw505) (fun _ h9 => h9) rfl d_Mod_feed_12 ?_
      refine lv_iload_n hx hb d_Mod_feed_15 rfl (lv_at hl 2 rfl) ?_
      refine lv_iadd hx hb d_Mod_feed_16 ?_
      refine lv_bipush (v := 120) hx hb d_Mod_feed_17 (by decide) ?_
      refine lv_icmp_le (tgt := 24) hx hb d_Mod_feed_19 (by decide) (fun c_3 => ?_) (fun c_3 => ?_)
      · have hj := it_p hj c_3
        refine lv_iload_n hx hb d_Mod_feed_24 rfl (lv_at hl 2 rfl) ?_
        refine lv_iconst (v := 1) hx hb d_Mod_feed_25 (by decide) ?_
        refine lv_isub hx hb d_Mod_feed_26 ?_
        refine lv_istore (lv' := [(4, .int (p2 - (1 : Int32))), (0, .ref (bd 0)), (1, .long p1), (3, .int p2)]) hx hb d_Mod_feed_27 hl (by decide) rfl (fun ls hl => ?_)
        exact cm_M_feed_L29  p1 _ _ hx hb hr hlocks hml hown hts hN hA hK 200 d (p2 - (1 : Int32)) _ _ ls hj hP hD hS (lv_sub hl [1, 2, 0] rfl)
      · have hj := it_n hj c_3
        refine lv_iconst (v := (-1)) hx hb d_Mod_feed_22 (by decide) ?_
        obtain ⟨rfl, rfl⟩ := rt_some hj
        exact W.iret hx hb hr (fun t ht hW => ⟨⟨_, _, rfl, ⟨rfl, rfl⟩, by rw [ht]; exact hP, va_K.moved hW.alike hK, hD⟩, hS.F ht⟩) hS.2.2 d_Mod_feed_23
set_option maxHeartbeats 4000000 in
set_option maxRecDepth 100000 in
theorem cm_M_digits_L28 {p : Program} {l : Launch} {e : Env} {s : State} {m : MethodId} {args : Array Value} {below : List Frame} {meth : Method} {c : Code} {dC : Nat → ClassId} {dI : Nat → Nat → Nat} {bd : Nat → Nat} {cb : Nat → ClassId} {A : Nat → Prop}  (x1 : Int32) (x2 : Int32)  (r9 : Int32) (d9 : MS) (hx : p.tables.exec = Jvm.exec) (hb : c.code = prog_10_method_9_code) (hr : meth.sig.returnType = (some .boolean)) (hlocks : meth.locks = false) (hml : c.maxLocals = 5) (hown : s.vm.findClass "CardMessageDeskModel" = some m.cls) (hts : ∀ w ∈ gt, w.before args s = true) (hN : nw s) (hA : ∀ q : Nat, s.heap.size ≤ q → A q) (hK : va_K (dC, dI) vwCl (mT cb) s) :
    ∀ (n : Nat) (d : MS) (x3 : Int32) (H : Heap) (locs : List Loc) (ls : Array Slot), loopF (jm_M_digits_L28 x1 x2) n (d, x3) = some (r9, d9) → va_P (dC, dI) vwCl (mw bd cb d) H → va_D A (mw bd cb d) → va_S A s.heap H locs → lv_has ls 5 [(0, .ref (bd 0)), (1, .int x1), (2, .int x2), (3, .int x3)] → W p l e ({ frames := 0, cells := 0, slots := 0, locals := 0 }) s m args below meth c H locs 0 0 (MQ below (va_Qi (fun (r : Int32) (u : MS) => r = r9 ∧ u = d9) (mAt dC dI bd cb A) A) args s 0 0 A) (F0 m 28 ls []) := by
  intro n
  induction n with
  | zero =>
    intro d x3 H locs ls hj
    exact (loopF_z hj).elim
  | succ n ih =>
    intro d x3 H locs ls hj hP hD hS hl
    have hj := loopF_s hj
    unfold jm_M_digits_L28 at hj
    try dsimp only at hj
    refine lv_iload_n hx hb d_Mod_digits_28 rfl (lv_at hl 3 rfl) ?_
    refine lv_iconst (v := 2) hx hb d_Mod_digits_29 (by decide) ?_
    refine lv_iload_n hx hb d_Mod_digits_30 rfl (lv_at hl 2 rfl) ?_
    refine lv_imul hx hb d_Mod_digits_31 ?_
    refine lv_icmp_ge (tgt := 112) hx hb d_Mod_digits_32 (by decide) (fun c_3 => ?_) (fun c_3 => ?_)
    · have hj := it_p hj c_3
      refine lv_aload_n hx hb d_Mod_digits_112 rfl (lv_at hl 0 rfl) ?_
      refine lv_aload_n hx hb d_Mod_digits_113 rfl (lv_at hl 0 rfl) ?_
      refine va_get (D := (dC, dI)) (ci := 8) (v := .int (mg_at d)) (C := "CardMessageDeskModel") (T := T_Mod) (N := 32) hx hb hts in_Mod hown hK hP 0 rfl rfl 8 (by decide) (hts _ tw508) (fun _ h9 => h9) rfl d_Mod_digits_114 ?_
      refine lv_iload_n hx hb d_Mod_digits_117 rfl (lv_at hl 2 rfl) ?_
      refine lv_iadd hx hb d_Mod_digits_118 ?_
      obtain ⟨d_4, ed_4, hj⟩ := nm_some hj
      refine va_put (D := (dC, dI)) (ci := 8) (v := .int ((mg_at d) + x2)) (ty := .int) (C := "CardMessageDeskModel") (T := T_Mod) (N := 32) hx hb hts in_Mod ty_Mod ty_Mod_ok nm_Mod hown hK hP hD hS 0 rfl rfl 8 (by decide) (hts _ tw508) (fun _ h9 => h9) rfl (by decide +kernel) rfl rfl (Nat.le_of_ble_eq_true rfl) d_Mod_digits_119 (fun H locs hP hD hS => ?_)
      have hP : va_P (dC, dI) vwCl (mw bd cb d_4) H := by rw [ed_4]; exact hP
      have hD : va_D A (mw bd cb d_4) := by rw [ed_4]; exact hD
      refine lv_iconst (v := 1) hx hb d_Mod_digits_122 (by decide) ?_
      obtain ⟨rfl, rfl⟩ := rt_some hj
      exact W.zret (ty := .boolean) hx hb hr rfl (fun t ht hW => ⟨⟨_, _, rfl, ⟨rfl, rfl⟩, by rw [ht]; exact hP, va_K.moved hW.alike hK, hD⟩, hS.F ht⟩) hS.2.2 d_Mod_digits_123
    · have hj := it_n hj c_3
      refine lv_aload_n hx hb d_Mod_digits_35 rfl (lv_at hl 0 rfl) ?_
      refine va_get (D := (dC, dI)) (ci := 8) (v := .ref (bd 3)) (C := "CardMessageDeskModel") (T := T_Mod) (N := 32) hx hb hts in_Mod hown hK hP 0 rfl rfl 4 (by decide) (hts _ tw504) (fun _ h9 => h9) rfl d_Mod_digits_36 ?_
      refine lv_aload_n hx hb d_Mod_digits_39 rfl (lv_at hl 0 rfl) ?_
      refine va_get (D := (dC, dI)) (ci := 8) (v := .int (mg_at d)) (C := "CardMessageDeskModel") (T := T_Mod) (N := 32) hx hb hts in_Mod hown hK hP 0 rfl rfl 8 (by decide) (hts _ tw508) (fun _ h9 => h9) rfl d_Mod_digits_40 ?_
      refine lv_iload_n hx hb d_Mod_digits_43 rfl (lv_at hl 3 rfl) ?_
      refine lv_iconst (v := 2) hx hb d_Mod_digits_44 (by decide) ?_
      refine lv_idiv hx hb d_Mod_digits_45 (by decide +kernel) ?_
      refine lv_iadd hx hb d_Mod_digits_46 ?_
      obtain ⟨hi_5, hj⟩ := gd_some hj
      refine va_iald hx hb hK hP 3 2 rfl rfl hi_5 d_Mod_digits_47 ?_
      refine lv_iload_n hx hb d_Mod_digits_48 rfl (lv_at hl 3 rfl) ?_
      refine lv_iconst (v := 2) hx hb d_Mod_digits_49 (by decide) ?_
      refine lv_irem hx hb d_Mod_digits_50 (by decide +kernel) ?_
      refine lv_if_ne (tgt := 58) hx hb d_Mod_digits_51 (by decide) (fun c_6 => ?_) (fun c_6 => ?_)
      · have hj := it_n hj c_6
        refine lv_iconst (v := 0) hx hb d_Mod_digits_58 (by decide) ?_
        refine lv_ishr hx hb d_Mod_digits_59 ?_
        refine lv_bipush (v := 15) hx hb d_Mod_digits_60 (by decide) ?_
        refine lv_iand hx hb d_Mod_digits_62 ?_
        refine lv_istore (lv' := [(4, .int (((mg_in d (((mg_at d) + (x3 / (2 : Int32)))).toNatClampNeg) >>> ((0 : Int32) &&& 31)) &&& (15 : Int32))), (0, .ref (bd 0)), (1, .int x1), (2, .int x2), (3, .int x3)]) hx hb d_Mod_digits_63 hl (by decide) rfl (fun ls hl => ?_)
        refine lv_iload hx hb d_Mod_digits_65 (lv_at hl 0 rfl) ?_
        refine lv_bipush (v := 9) hx hb d_Mod_digits_67 (by decide) ?_
        refine lv_icmp_gt (tgt := 88) hx hb d_Mod_digits_69 (by decide) (fun c_7 => ?_) (fun c_7 => ?_)
        · have hj := it_p hj c_7
          refine lv_iconst (v := 0) hx hb d_Mod_digits_88 (by decide) ?_
          obtain ⟨rfl, rfl⟩ := rt_some hj
          exact W.zret (ty := .boolean) hx hb hr rfl (fun t ht hW => ⟨⟨_, _, rfl, ⟨rfl, rfl⟩, by rw [ht]; exact hP, va_K.moved hW.alike hK, hD⟩, hS.F ht⟩) hS.2.2 d_Mod_digits_89
        · have hj := it_n hj c_7
          refine lv_iload_n hx hb d_Mod_digits_72 rfl (lv_at hl 2 rfl) ?_
          refine lv_iconst (v := 2) hx hb d_Mod_digits_73 (by decide) ?_
          refine lv_irem hx hb d_Mod_digits_74 (by decide +kernel) ?_
          refine lv_iconst (v := 1) hx hb d_Mod_digits_75 (by decide) ?_
          refine lv_icmp_ne (tgt := 90) hx hb d_Mod_digits_76 (by decide) (fun c_8 => ?_) (fun c_8 => ?_)
          · have hj := it_n hj c_8
            refine lv_aload_n hx hb d_Mod_digits_90 rfl (lv_at hl 1 rfl) ?_
            refine lv_ldc2 (v := 10) hx hb hown (hts _ tw647) d_Mod_digits_91 ?_
            refine lv_aload_n hx hb d_Mod_digits_94 rfl (lv_at hl 1 rfl) ?_
            refine va_get (D := (dC, dI)) (ci := 8) (v := .long (mg_value d)) (C := "CardMessageDeskModel") (T := T_Mod) (N := 32) hx hb hts in_Mod hown hK hP 0 rfl rfl 9 (by decide) (hts _ tw509) (fun _ h9 => h9) rfl d_Mod_digits_95 ?_
            refine lv_lmul hx hb d_Mod_digits_98 ?_
            refine lv_iload hx hb d_Mod_digits_99 (lv_at hl 0 rfl) ?_
            refine lv_i2l (v := ((((mg_in d (((mg_at d) + (x3 / (2 : Int32)))).toNatClampNeg) >>> ((0 : Int32) &&& 31)) &&& (15 : Int32))).toInt64) hx hb d_Mod_digits_101 rfl ?_
            refine lv_ladd hx hb d_Mod_digits_102 ?_
            obtain ⟨d_9, ed_9, hj⟩ := nm_some hj
            refine va_put (D := (dC, dI)) (ci := 8) (v := .long (((10 : Int64) * (mg_value d)) + ((((mg_in d (((mg_at d) + (x3 / (2 : Int32)))).toNatClampNeg) >>> ((0 : Int32) &&& 31)) &&& (15 : Int32))).toInt64)) (ty := .long) (C := "CardMessageDeskModel") (T := T_Mod) (N := 32) hx hb hts in_Mod ty_Mod ty_Mod_ok nm_Mod hown hK hP hD hS 0 rfl rfl 9 (by decide) (hts _ tw509) (fun _ h9 => h9) rfl (by decide +kernel) rfl rfl (Nat.le_of_ble_eq_true rfl) d_Mod_digits_103 (fun H locs hP hD hS => ?_)
            have hP : va_P (dC, dI) vwCl (mw bd cb d_9) H := by rw [ed_9]; exact hP
            have hD : va_D A (mw bd cb d_9) := by rw [ed_9]; exact hD
            refine lv_iinc (v := (x3 + 1)) (lv' := [(3, .int (x3 + 1)), (4, .int (((mg_in d (((mg_at d) + (x3 / (2 : Int32)))).toNatClampNeg) >>> ((0 : Int32) &&& 31)) &&& (15 : Int32))), (0, .ref (bd 0)), (1, .int x1), (2, .int x2)]) hx hb d_Mod_digits_106 hl (k := 4) rfl rfl (by decide) rfl (fun ls hl => ?_)
            refine lv_goto (tgt := 28) hx hb d_Mod_digits_109 (by decide) ?_
            exact ih d_9 (x3 + 1) H locs ls hj hP hD hS (lv_sub hl [2, 3, 4, 0] rfl)
          · have hj := it_p hj c_8
            refine lv_iload_n hx hb d_Mod_digits_79 rfl (lv_at hl 4 rfl) ?_
            refine lv_if_ne (tgt := 90) hx hb d_Mod_digits_80 (by decide) (fun c_10 => ?_) (fun c_10 => ?_)
            · have hj := it_n hj c_10
              refine lv_aload_n hx hb d_Mod_digits_90 rfl (lv_at hl 1 rfl) ?_
              refine lv_ldc2 (v := 10) hx hb hown (hts _ tw647) d_Mod_digits_91 ?_
              refine lv_aload_n hx hb d_Mod_digits_94 rfl (lv_at hl 1 rfl) ?_
              refine va_get (D := (dC, dI)) (ci := 8) (v := .long (mg_value d)) (C := "CardMessageDeskModel") (T := T_Mod) (N := 32) hx hb hts in_Mod hown hK hP 0 rfl rfl 9 (by decide) (hts _ tw509) (fun _ h9 => h9) rfl d_Mod_digits_95 ?_
              refine lv_lmul hx hb d_Mod_digits_98 ?_
              refine lv_iload hx hb d_Mod_digits_99 (lv_at hl 0 rfl) ?_
              refine lv_i2l (v := ((((mg_in d (((mg_at d) + (x3 / (2 : Int32)))).toNatClampNeg) >>> ((0 : Int32) &&& 31)) &&& (15 : Int32))).toInt64) hx hb d_Mod_digits_101 rfl ?_
              refine lv_ladd hx hb d_Mod_digits_102 ?_
              obtain ⟨d_11, ed_11, hj⟩ := nm_some hj
              refine va_put (D := (dC, dI)) (ci := 8) (v := .long (((10 : Int64) * (mg_value d)) + ((((mg_in d (((mg_at d) + (x3 / (2 : Int32)))).toNatClampNeg) >>> ((0 : Int32) &&& 31)) &&& (15 : Int32))).toInt64)) (ty := .long) (C := "CardMessageDeskModel") (T := T_Mod) (N := 32) hx hb hts in_Mod ty_Mod ty_Mod_ok nm_Mod hown hK hP hD hS 0 rfl rfl 9 (by decide) (hts _ tw509) (fun _ h9 => h9) rfl (by decide +kernel) rfl rfl (Nat.le_of_ble_eq_true rfl) d_Mod_digits_103 (fun H locs hP hD hS => ?_)
              have hP : va_P (dC, dI) vwCl (mw bd cb d_11) H := by rw [ed_11]; exact hP
              have hD : va_D A (mw bd cb d_11) := by rw [ed_11]; exact hD
              refine lv_iinc (v := (x3 + 1)) (lv' := [(3, .int (x3 + 1)), (4, .int (((mg_in d (((mg_at d) + (x3 / (2 : Int32)))).toNatClampNeg) >>> ((0 : Int32) &&& 31)) &&& (15 : Int32))), (0, .ref (bd 0)), (1, .int x1), (2, .int x2)]) hx hb d_Mod_digits_106 hl (k := 4) rfl rfl (by decide) rfl (fun ls hl => ?_)
              refine lv_goto (tgt := 28) hx hb d_Mod_digits_109 (by decide) ?_
              exact ih d_11 (x3 + 1) H locs ls hj hP hD hS (lv_sub hl [2, 3, 4, 0] rfl)
            · have hj := it_p hj c_10
              refine lv_iload hx hb d_Mod_digits_83 (lv_at hl 0 rfl) ?_
              refine lv_if_eq (tgt := 90) hx hb d_Mod_digits_85 (by decide) (fun c_12 => ?_) (fun c_12 => ?_)
              · have hj := it_p hj c_12
                refine lv_aload_n hx hb d_Mod_digits_90 rfl (lv_at hl 1 rfl) ?_
                refine lv_ldc2 (v := 10) hx hb hown (hts _ tw647) d_Mod_digits_91 ?_
                refine lv_aload_n hx hb d_Mod_digits_94 rfl (lv_at hl 1 rfl) ?_
                refine va_get (D := (dC, dI)) (ci := 8) (v := .long (mg_value d)) (C := "CardMessageDeskModel") (T := T_Mod) (N := 32) hx hb hts in_Mod hown hK hP 0 rfl rfl 9 (by decide) (hts _ tw509) (fun _ h9 => h9) rfl d_Mod_digits_95 ?_
                refine lv_lmul hx hb d_Mod_digits_98 ?_
                refine lv_iload hx hb d_Mod_digits_99 (lv_at hl 0 rfl) ?_
                refine lv_i2l (v := ((((mg_in d (((mg_at d) + (x3 / (2 : Int32)))).toNatClampNeg) >>> ((0 : Int32) &&& 31)) &&& (15 : Int32))).toInt64) hx hb d_Mod_digits_101 rfl ?_
                refine lv_ladd hx hb d_Mod_digits_102 ?_
                obtain ⟨d_13, ed_13, hj⟩ := nm_some hj
                refine va_put (D := (dC, dI)) (ci := 8) (v := .long (((10 : Int64) * (mg_value d)) + ((((mg_in d (((mg_at d) + (x3 / (2 : Int32)))).toNatClampNeg) >>> ((0 : Int32) &&& 31)) &&& (15 : Int32))).toInt64)) (ty := .long) (C := "CardMessageDeskModel") (T := T_Mod) (N := 32) hx hb hts in_Mod ty_Mod ty_Mod_ok nm_Mod hown hK hP hD hS 0 rfl rfl 9 (by decide) (hts _ tw509) (fun _ h9 => h9) rfl (by decide +kernel) rfl rfl (Nat.le_of_ble_eq_true rfl) d_Mod_digits_103 (fun H locs hP hD hS => ?_)
                have hP : va_P (dC, dI) vwCl (mw bd cb d_13) H := by rw [ed_13]; exact hP
                have hD : va_D A (mw bd cb d_13) := by rw [ed_13]; exact hD
                refine lv_iinc (v := (x3 + 1)) (lv' := [(3, .int (x3 + 1)), (4, .int (((mg_in d (((mg_at d) + (x3 / (2 : Int32)))).toNatClampNeg) >>> ((0 : Int32) &&& 31)) &&& (15 : Int32))), (0, .ref (bd 0)), (1, .int x1), (2, .int x2)]) hx hb d_Mod_digits_106 hl (k := 4) rfl rfl (by decide) rfl (fun ls hl => ?_)
                refine lv_goto (tgt := 28) hx hb d_Mod_digits_109 (by decide) ?_
                exact ih d_13 (x3 + 1) H locs ls hj hP hD hS (lv_sub hl [2, 3, 4, 0] rfl)
              · have hj := it_n hj c_12
                refine lv_iconst (v := 0) hx hb d_Mod_digits_88 (by decide) ?_
                obtain ⟨rfl, rfl⟩ := rt_some hj
                exact W.zret (ty := .boolean) hx hb hr rfl (fun t ht hW => ⟨⟨_, _, rfl, ⟨rfl, rfl⟩, by rw [ht]; exact hP, va_K.moved hW.alike hK, hD⟩, hS.F ht⟩) hS.2.2 d_Mod_digits_89
      · have hj := it_p hj c_6
        refine lv_iconst (v := 4) hx hb d_Mod_digits_54 (by decide) ?_
        refine lv_goto (tgt := 59) hx hb d_Mod_digits_55 (by decide) ?_
        refine lv_ishr hx hb d_Mod_digits_59 ?_
        refine lv_bipush (v := 15) hx hb d_Mod_digits_60 (by decide) ?_
        refine lv_iand hx hb d_Mod_digits_62 ?_
        refine lv_istore (lv' := [(4, .int (((mg_in d (((mg_at d) + (x3 / (2 : Int32)))).toNatClampNeg) >>> ((4 : Int32) &&& 31)) &&& (15 : Int32))), (0, .ref (bd 0)), (1, .int x1), (2, .int x2), (3, .int x3)]) hx hb d_Mod_digits_63 hl (by decide) rfl (fun ls hl => ?_)
        refine lv_iload hx hb d_Mod_digits_65 (lv_at hl 0 rfl) ?_
        refine lv_bipush (v := 9) hx hb d_Mod_digits_67 (by decide) ?_
        refine lv_icmp_gt (tgt := 88) hx hb d_Mod_digits_69 (by decide) (fun c_14 => ?_) (fun c_14 => ?_)
        · have hj := it_p hj c_14
          refine lv_iconst (v := 0) hx hb d_Mod_digits_88 (by decide) ?_
          obtain ⟨rfl, rfl⟩ := rt_some hj
          exact W.zret (ty := .boolean) hx hb hr rfl (fun t ht hW => ⟨⟨_, _, rfl, ⟨rfl, rfl⟩, by rw [ht]; exact hP, va_K.moved hW.alike hK, hD⟩, hS.F ht⟩) hS.2.2 d_Mod_digits_89
        · have hj := it_n hj c_14
          refine lv_iload_n hx hb d_Mod_digits_72 rfl (lv_at hl 2 rfl) ?_
          refine lv_iconst (v := 2) hx hb d_Mod_digits_73 (by decide) ?_
          refine lv_irem hx hb d_Mod_digits_74 (by decide +kernel) ?_
          refine lv_iconst (v := 1) hx hb d_Mod_digits_75 (by decide) ?_
          refine lv_icmp_ne (tgt := 90) hx hb d_Mod_digits_76 (by decide) (fun c_15 => ?_) (fun c_15 => ?_)
          · have hj := it_n hj c_15
            refine lv_aload_n hx hb d_Mod_digits_90 rfl (lv_at hl 1 rfl) ?_
            refine lv_ldc2 (v := 10) hx hb hown (hts _ tw647) d_Mod_digits_91 ?_
            refine lv_aload_n hx hb d_Mod_digits_94 rfl (lv_at hl 1 rfl) ?_
            refine va_get (D := (dC, dI)) (ci := 8) (v := .long (mg_value d)) (C := "CardMessageDeskModel") (T := T_Mod) (N := 32) hx hb hts in_Mod hown hK hP 0 rfl rfl 9 (by decide) (hts _ tw509) (fun _ h9 => h9) rfl d_Mod_digits_95 ?_
            refine lv_lmul hx hb d_Mod_digits_98 ?_
            refine lv_iload hx hb d_Mod_digits_99 (lv_at hl 0 rfl) ?_
            refine lv_i2l (v := ((((mg_in d (((mg_at d) + (x3 / (2 : Int32)))).toNatClampNeg) >>> ((4 : Int32) &&& 31)) &&& (15 : Int32))).toInt64) hx hb d_Mod_digits_101 rfl ?_
            refine lv_ladd hx hb d_Mod_digits_102 ?_
            obtain ⟨d_16, ed_16, hj⟩ := nm_some hj
            refine va_put (D := (dC, dI)) (ci := 8) (v := .long (((10 : Int64) * (mg_value d)) + ((((mg_in d (((mg_at d) + (x3 / (2 : Int32)))).toNatClampNeg) >>> ((4 : Int32) &&& 31)) &&& (15 : Int32))).toInt64)) (ty := .long) (C := "CardMessageDeskModel") (T := T_Mod) (N := 32) hx hb hts in_Mod ty_Mod ty_Mod_ok nm_Mod hown hK hP hD hS 0 rfl rfl 9 (by decide) (hts _ tw509) (fun _ h9 => h9) rfl (by decide +kernel) rfl rfl (Nat.le_of_ble_eq_true rfl) d_Mod_digits_103 (fun H locs hP hD hS => ?_)
            have hP : va_P (dC, dI) vwCl (mw bd cb d_16) H := by rw [ed_16]; exact hP
            have hD : va_D A (mw bd cb d_16) := by rw [ed_16]; exact hD
            refine lv_iinc (v := (x3 + 1)) (lv' := [(3, .int (x3 + 1)), (4, .int (((mg_in d (((mg_at d) + (x3 / (2 : Int32)))).toNatClampNeg) >>> ((4 : Int32) &&& 31)) &&& (15 : Int32))), (0, .ref (bd 0)), (1, .int x1), (2, .int x2)]) hx hb d_Mod_digits_106 hl (k := 4) rfl rfl (by decide) rfl (fun ls hl => ?_)
            refine lv_goto (tgt := 28) hx hb d_Mod_digits_109 (by decide) ?_
            exact ih d_16 (x3 + 1) H locs ls hj hP hD hS (lv_sub hl [2, 3, 4, 0] rfl)
          · have hj := it_p hj c_15
            refine lv_iload_n hx hb d_Mod_digits_79 rfl (lv_at hl 4 rfl) ?_
            refine lv_if_ne (tgt := 90) hx hb d_Mod_digits_80 (by decide) (fun c_17 => ?_) (fun c_17 => ?_)
            · have hj := it_n hj c_17
              refine lv_aload_n hx hb d_Mod_digits_90 rfl (lv_at hl 1 rfl) ?_
              refine lv_ldc2 (v := 10) hx hb hown (hts _ tw647) d_Mod_digits_91 ?_
              refine lv_aload_n hx hb d_Mod_digits_94 rfl (lv_at hl 1 rfl) ?_
              refine va_get (D := (dC, dI)) (ci := 8) (v := .long (mg_value d)) (C := "CardMessageDeskModel") (T := T_Mod) (N := 32) hx hb hts in_Mod hown hK hP 0 rfl rfl 9 (by decide) (hts _ tw509) (fun _ h9 => h9) rfl d_Mod_digits_95 ?_
              refine lv_lmul hx hb d_Mod_digits_98 ?_
              refine lv_iload hx hb d_Mod_digits_99 (lv_at hl 0 rfl) ?_
              refine lv_i2l (v := ((((mg_in d (((mg_at d) + (x3 / (2 : Int32)))).toNatClampNeg) >>> ((4 : Int32) &&& 31)) &&& (15 : Int32))).toInt64) hx hb d_Mod_digits_101 rfl ?_
              refine lv_ladd hx hb d_Mod_digits_102 ?_
              obtain ⟨d_18, ed_18, hj⟩ := nm_some hj
              refine va_put (D := (dC, dI)) (ci := 8) (v := .long (((10 : Int64) * (mg_value d)) + ((((mg_in d (((mg_at d) + (x3 / (2 : Int32)))).toNatClampNeg) >>> ((4 : Int32) &&& 31)) &&& (15 : Int32))).toInt64)) (ty := .long) (C := "CardMessageDeskModel") (T := T_Mod) (N := 32) hx hb hts in_Mod ty_Mod ty_Mod_ok nm_Mod hown hK hP hD hS 0 rfl rfl 9 (by decide) (hts _ tw509) (fun _ h9 => h9) rfl (by decide +kernel) rfl rfl (Nat.le_of_ble_eq_true rfl) d_Mod_digits_103 (fun H locs hP hD hS => ?_)
              have hP : va_P (dC, dI) vwCl (mw bd cb d_18) H := by rw [ed_18]; exact hP
              have hD : va_D A (mw bd cb d_18) := by rw [ed_18]; exact hD
              refine lv_iinc (v := (x3 + 1)) (lv' := [(3, .int (x3 + 1)), (4, .int (((mg_in d (((mg_at d) + (x3 / (2 : Int32)))).toNatClampNeg) >>> ((4 : Int32) &&& 31)) &&& (15 : Int32))), (0, .ref (bd 0)), (1, .int x1), (2, .int x2)]) hx hb d_Mod_digits_106 hl (k := 4) rfl rfl (by decide) rfl (fun ls hl => ?_)
              refine lv_goto (tgt := 28) hx hb d_Mod_digits_109 (by decide) ?_
              exact ih d_18 (x3 + 1) H locs ls hj hP hD hS (lv_sub hl [2, 3, 4, 0] rfl)
            · have hj := it_p hj c_17
              refine lv_iload hx hb d_Mod_digits_83 (lv_at hl 0 rfl) ?_
              refine lv_if_eq (tgt := 90) hx hb d_Mod_digits_85 (by decide) (fun c_19 => ?_) (fun c_19 => ?_)
              · have hj := it_p hj c_19
                refine lv_aload_n hx hb d_Mod_digits_90 rfl (lv_at hl 1 rfl) ?_
                refine lv_ldc2 (v := 10) hx hb hown (hts _ tw647) d_Mod_digits_91 ?_
                refine lv_aload_n hx hb d_Mod_digits_94 rfl (lv_at hl 1 rfl) ?_
                refine va_get (D := (dC, dI)) (ci := 8) (v := .long (mg_value d)) (C := "CardMessageDeskModel") (T := T_Mod) (N := 32) hx hb hts in_Mod hown hK hP 0 rfl rfl 9 (by decide) (hts _ tw509) (fun _ h9 => h9) rfl d_Mod_digits_95 ?_
                refine lv_lmul hx hb d_Mod_digits_98 ?_
                refine lv_iload hx hb d_Mod_digits_99 (lv_at hl 0 rfl) ?_
                refine lv_i2l (v := ((((mg_in d (((mg_at d) + (x3 / (2 : Int32)))).toNatClampNeg) >>> ((4 : Int32) &&& 31)) &&& (15 : Int32))).toInt64) hx hb d_Mod_digits_101 rfl ?_
                refine lv_ladd hx hb d_Mod_digits_102 ?_
                obtain ⟨d_20, ed_20, hj⟩ := nm_some hj
                refine va_put (D := (dC, dI)) (ci := 8) (v := .long (((10 : Int64) * (mg_value d)) + ((((mg_in d (((mg_at d) + (x3 / (2 : Int32)))).toNatClampNeg) >>> ((4 : Int32) &&& 31)) &&& (15 : Int32))).toInt64)) (ty := .long) (C := "CardMessageDeskModel") (T := T_Mod) (N := 32) hx hb hts in_Mod ty_Mod ty_Mod_ok nm_Mod hown hK hP hD hS 0 rfl rfl 9 (by decide) (hts _ tw509) (fun _ h9 => h9) rfl (by decide +kernel) rfl rfl (Nat.le_of_ble_eq_true rfl) d_Mod_digits_103 (fun H locs hP hD hS => ?_)
                have hP : va_P (dC, dI) vwCl (mw bd cb d_20) H := by rw [ed_20]; exact hP
                have hD : va_D A (mw bd cb d_20) := by rw [ed_20]; exact hD
                refine lv_iinc (v := (x3 + 1)) (lv' := [(3, .int (x3 + 1)), (4, .int (((mg_in d (((mg_at d) + (x3 / (2 : Int32)))).toNatClampNeg) >>> ((4 : Int32) &&& 31)) &&& (15 : Int32))), (0, .ref (bd 0)), (1, .int x1), (2, .int x2)]) hx hb d_Mod_digits_106 hl (k := 4) rfl rfl (by decide) rfl (fun ls hl => ?_)
                refine lv_goto (tgt := 28) hx hb d_Mod_digits_109 (by decide) ?_
                exact ih d_20 (x3 + 1) H locs ls hj hP hD hS (lv_sub hl [2, 3, 4, 0] rfl)
              · have hj := it_n hj c_19
                refine lv_iconst (v := 0) hx hb d_Mod_digits_88 (by decide) ?_
                obtain ⟨rfl, rfl⟩ := rt_some hj
                exact W.zret (ty := .boolean) hx hb hr rfl (fun t ht hW => ⟨⟨_, _, rfl, ⟨rfl, rfl⟩, by rw [ht]; exact hP, va_K.moved hW.alike hK, hD⟩, hS.F ht⟩) hS.2.2 d_Mod_digits_89
set_option maxHeartbeats 4000000 in
set_option maxRecDepth 100000 in
theorem cm_M_digits (l : Launch) (dC : Nat → ClassId) (dI : Nat → Nat → Nat) (bd : Nat → Nat) (cb : Nat → ClassId) (sz : Nat) (d : MS) (p1 : Int32)  (r9 : Int32) (d9 : MS) (hj : jm_M_digits d p1 = some (r9, d9)) : Met l y_Mod_digits w_Mod_digits ({ frames := 0, cells := 0, slots := 0, locals := 0 }) (va_Pc [.ref (bd 0), .int p1] (mPre dC dI bd cb sz d)) (va_Qi (fun (r : Int32) (u : MS) => r = r9 ∧ u = d9) (mAt dC dI bd cb (va_A (mw bd cb d) sz)) (va_A (mw bd cb d) sz)) 0 0 (va_A (mw bd cb d) sz) := by
  refine Met.ofW (cc := prog_10_method_9_code) (maxL := 5) (ret := (some .boolean)) (by decide) rfl ?_
  intro p e s m args below meth c s₁ B hml hv
  obtain ⟨rfl, hsz, hP, hK, hD0, hN⟩ := hv
  have hx := B.exec
  have hb := B.bytes
  have hr := B.returns
  have hts0 := atoms_spec (ws := w_Mod_digits) B.pre
  have hts : ∀ w ∈ gt, w.before _ s = true := fun w h => hts0 w (List.mem_cons_of_mem _ h)
  have hown : s.vm.findClass "CardMessageDeskModel" = some m.cls := findClass_of_methodNamed B.named
  have hlocks := B.notSynchronized
  subst hsz
  have hD := hD0.self (sz := s.heap.size)
  generalize hAe : va_A (mw bd cb d) s.heap.size = A at hD ⊢
  have hA : ∀ q : Nat, s.heap.size ≤ q → A q := fun q h => by rw [← hAe]; exact Or.inr h
  have hS : va_S A s.heap s.heap [] := va_S.rf
  have hl := lv_entry ([.ref (bd 0), .int p1]) (n := 5) (Nat.le_of_ble_eq_true rfl)
  rw [lg_entry_eq]
  generalize (lg_sl ([.ref (bd 0), .int p1]) ++ List.replicate (5 - (lg_sl ([.ref (bd 0), .int p1])).length) Slot.unset).toArray = ls at hl ⊢
  have hl : lv_has ls 5 [(0, .ref (bd 0)), (1, .int p1)] := hl
  unfold jm_M_digits at hj
  refine lv_iload_n hx hb d_Mod_digits_0 rfl (lv_at hl 1 rfl) ?_
  refine lv_iconst (v := 1) hx hb d_Mod_digits_1 (by decide) ?_
  refine lv_iadd hx hb d_Mod_digits_2 ?_
  refine lv_iconst (v := 2) hx hb d_Mod_digits_3 (by decide) ?_
  refine lv_idiv hx hb d_Mod_digits_4 (by decide +kernel) ?_
  refine lv_istore_n (lv' := [(2, .int ((p1 + (1 : Int32)) / (2 : Int32))), (0, .ref (bd 0)), (1, .int p1)]) hx hb d_Mod_digits_5 rfl hl (by decide) rfl (fun ls hl => ?_)
  refine lv_aload_n hx hb d_Mod_digits_6 rfl (lv_at hl 1 rfl) ?_
  refine va_get (D := (dC, dI)) (ci := 8) (v := .int (mg_at d)) (C := "CardMessageDeskModel") (T := T_Mod) (N := 32) hx hb hts in_Mod hown hK hP 0 rfl rfl 8 (by decide) (hts _ tw508) (fun _ h9 => h9) rfl d_Mod_digits_7 ?_
  refine lv_iload_n hx hb d_Mod_digits_10 rfl (lv_at hl 0 rfl) ?_
  refine lv_iadd hx hb d_Mod_digits_11 ?_
  refine lv_aload_n hx hb d_Mod_digits_12 rfl (lv_at hl 1 rfl) ?_
  refine va_get (D := (dC, dI)) (ci := 8) (v := .int (mg_ins d)) (C := "CardMessageDeskModel") (T := T_Mod) (N := 32) hx hb hts in_Mod hown hK hP 0 rfl rfl 5 (by decide) (hts _ tw505) (fun _ h9 => h9) rfl d_Mod_digits_13 ?_
  refine lv_icmp_le (tgt := 21) hx hb d_Mod_digits_16 (by decide) (fun c_1 => ?_) (fun c_1 => ?_)
  · have hj := it_p hj c_1
    refine lv_aload_n hx hb d_Mod_digits_21 rfl (lv_at hl 1 rfl) ?_
    refine lv_lconst (v := 0) hx hb d_Mod_digits_22 (by decide) ?_
    obtain ⟨d_2, ed_2, hj⟩ := nm_some hj
    refine va_put (D := (dC, dI)) (ci := 8) (v := .long (0 : Int64)) (ty := .long) (C := "CardMessageDeskModel") (T := T_Mod) (N := 32) hx hb hts in_Mod ty_Mod ty_Mod_ok nm_Mod hown hK hP hD hS 0 rfl rfl 9 (by decide) (hts _ tw509) (fun _ h9 => h9) rfl (by decide +kernel) rfl rfl (Nat.le_of_ble_eq_true rfl) d_Mod_digits_23 (fun H locs hP hD hS => ?_)
    have hP : va_P (dC, dI) vwCl (mw bd cb d_2) H := by rw [ed_2]; exact hP
    have hD : va_D A (mw bd cb d_2) := by rw [ed_2]; exact hD
    refine lv_iconst (v := 0) hx hb d_Mod_digits_26 (by decide) ?_
    refine lv_istore_n (lv' := [(3, .int (0 : Int32)), (2, .int ((p1 + (1 : Int32)) / (2 : Int32))), (0, .ref (bd 0)), (1, .int p1)]) hx hb d_Mod_digits_27 rfl hl (by decide) rfl (fun ls hl => ?_)
    exact cm_M_digits_L28  p1 ((p1 + (1 : Int32)) / (2 : Int32)) _ _ hx hb hr hlocks hml hown hts hN hA hK 200 d_2 (0 : Int32) _ _ ls hj hP hD hS (lv_sub hl [2, 3, 1, 0] rfl)
  · have hj := it_n hj c_1
    refine lv_iconst (v := 0) hx hb d_Mod_digits_19 (by decide) ?_
    obtain ⟨rfl, rfl⟩ := rt_some hj
    exact W.zret (ty := .boolean) hx hb hr rfl (fun t ht hW => ⟨⟨_, _, rfl, ⟨rfl, rfl⟩, by rw [ht]; exact hP, va_K.moved hW.alike hK, hD⟩, hS.F ht⟩) hS.2.2 d_Mod_digits_20
