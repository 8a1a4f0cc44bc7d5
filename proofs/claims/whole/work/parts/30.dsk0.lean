set_option maxHeartbeats 4000000 in
set_option maxRecDepth 100000 in
theorem cc_Cards_find_L2 {p : Program} {l : Launch} {e : Env} {s : State} {m : MethodId} {args : Array Value} {below : List Frame} {meth : Method} {c : Code} {dC : Nat → ClassId} {dI : Nat → Nat → Nat} {ad : Nat → Nat} {ca : Nat → ClassId} {LA LE : List Nat} {A : Nat → Prop} (d : CS) (x1 : Int64)  (r9 : Option Nat) (hx : p.tables.exec = Jvm.exec) (hb : c.code = prog_4_method_2_code) (hr : meth.sig.returnType = (some (.object "CardMessageDesk$Account"))) (hlocks : meth.locks = false) (hml : c.maxLocals = 4) (hown : s.vm.findClass "CardMessageDesk$Cards" = some m.cls) (hts : ∀ w ∈ gt, w.before args s = true) (hN : nw s) (hA : ∀ q : Nat, s.heap.size ≤ q → A q) (hK : va_K (dC, dI) vwCl (cT ca) s) :
    ∀ (n : Nat) (x3 : Int32) (H : Heap) (locs : List Loc) (ls : Array Slot), loopF (jc_Cards_find_L2 LA LE d x1) n x3 = some r9 → va_P (dC, dI) vwCl (cw ad ca LA LE d) H → va_D A (cw ad ca LA LE d) → va_S A s.heap H locs → lv_has ls 4 [(0, .ref (ad 7)), (1, .long x1), (3, .int x3)] → W p l e ({ frames := 0, cells := 0, slots := 0, locals := 0 }) s m args below meth c H locs 0 0 (MQ below (va_Qq (fun (r : Option Nat) (u : CS) => r = r9 ∧ u = d) (cAt dC dI ad ca LA LE A) A) args s 0 0 A) (F0 m 2 ls []) := by
  intro n
  induction n with
  | zero =>
    intro x3 H locs ls hj
    exact (loopF_z hj).elim
  | succ n ih =>
    intro x3 H locs ls hj hP hD hS hl
    have hj := loopF_s hj
    unfold jc_Cards_find_L2 at hj
    try dsimp only at hj
    refine lv_iload_n hx hb d_Crd_find_2 rfl (lv_at hl 2 rfl) ?_
    refine lv_aload_n hx hb d_Crd_find_3 rfl (lv_at hl 0 rfl) ?_
    refine va_get (D := (dC, dI)) (ci := 2) (v := .int (cg_cCount d)) (C := "CardMessageDesk$Cards") (T := T_Crd) (N := 2) hx hb hts in_Crd hown hK hP 7 rfl rfl 1 (by decide) (hts _ tw128) (fun _ h9 => h9) rfl d_Crd_find_4 ?_
    refine lv_icmp_ge (tgt := 37) hx hb d_Crd_find_7 (by decide) (fun c_1 => ?_) (fun c_1 => ?_)
    · have hj := it_p hj c_1
      refine lv_null hx hb d_Crd_find_37 ?_
      obtain rfl := Option.some.inj hj
      exact W.aret hx hb hr (Or.inl ⟨_, rfl⟩) (Or.inl rfl) (fun t ht hW => ⟨⟨none, _, rfl, ⟨rfl, rfl⟩, by rw [ht]; exact hP, va_K.moved hW.alike hK, hD⟩, hS.F ht⟩) hS.2.2 d_Crd_find_38
    · have hj := it_n hj c_1
      refine lv_aload_n hx hb d_Crd_find_10 rfl (lv_at hl 0 rfl) ?_
      refine va_get (D := (dC, dI)) (ci := 2) (v := .ref (ad 8)) (C := "CardMessageDesk$Cards") (T := T_Crd) (N := 2) hx hb hts in_Crd hown hK hP 7 rfl rfl 0 (by decide) (hts _ tw127) (fun _ h9 => h9) rfl d_Crd_find_11 ?_
      refine lv_iload_n hx hb d_Crd_find_14 rfl (lv_at hl 2 rfl) ?_
      obtain ⟨hi_2, hj⟩ := gd_some hj
      refine va_aldq hx hb hK hP 8 2 rfl rfl hi_2 d_Crd_find_15 ?_
      obtain ⟨a_2, ho_2, hm_a_2, hj⟩ := gq_some hj
      rw [ho_2]
      obtain ⟨kx_3, hkx_3⟩ := acc_at (ad := ad) (ca := ca) (LA := LA) (LE := LE) (d := _) hm_a_2
      refine va_getN (D := (dC, dI)) (ci := 0) (v := .long (ca_card (cg_acc d a_2))) (C := "CardMessageDesk$Account") (T := T_Acc) (N := 2) hx hb hts in_Acc hown hK hP kx_3 hkx_3 rfl 0 (by decide) (nw_f hN (i := 18) rfl) (fun _ h9 => h9) rfl d_Crd_find_16 ?_
      refine lv_lload_n hx hb d_Crd_find_19 rfl (lv_at hl 1 rfl) ?_
      refine W.lcmp hx hb d_Crd_find_20 ?_
      refine lv_if_ne (tgt := 31) hx hb d_Crd_find_21 (by decide) (fun c_4 => ?_) (fun c_4 => ?_)
      · have hj := it_n hj (fun z => c_4 (lc_ne.mpr z))
        refine lv_iinc (v := (x3 + 1)) (lv' := [(3, .int (x3 + 1)), (0, .ref (ad 7)), (1, .long x1)]) hx hb d_Crd_find_31 hl (k := 2) rfl rfl (by decide) rfl (fun ls hl => ?_)
        refine lv_goto (tgt := 2) hx hb d_Crd_find_34 (by decide) ?_
        exact ih (x3 + 1) H locs ls hj hP hD hS (lv_sub hl [1, 2, 0] rfl)
      · have hj := it_p hj (lc_ne.mp c_4)
        refine lv_aload_n hx hb d_Crd_find_24 rfl (lv_at hl 0 rfl) ?_
        refine va_get (D := (dC, dI)) (ci := 2) (v := .ref (ad 8)) (C := "CardMessageDesk$Cards") (T := T_Crd) (N := 2) hx hb hts in_Crd hown hK hP 7 rfl rfl 0 (by decide) (hts _ tw127) (fun _ h9 => h9) rfl d_Crd_find_25 ?_
        refine lv_iload_n hx hb d_Crd_find_28 rfl (lv_at hl 2 rfl) ?_
        obtain ⟨hi_5, hj⟩ := gd_some hj
        refine va_aldq hx hb hK hP 8 2 rfl rfl hi_5 d_Crd_find_29 ?_
        obtain ⟨a_5, ho_5, hm_a_5, hj⟩ := gq_some hj
        rw [ho_5]
        obtain rfl := Option.some.inj hj
        exact W.aret hx hb hr (Or.inl ⟨_, rfl⟩) (Or.inr ⟨_, rfl⟩) (fun t ht hW => ⟨⟨some _, _, rfl, ⟨rfl, rfl⟩, by rw [ht]; exact hP, va_K.moved hW.alike hK, hD⟩, hS.F ht⟩) hS.2.2 d_Crd_find_30
set_option maxHeartbeats 4000000 in
set_option maxRecDepth 100000 in
theorem cc_Cards_find (l : Launch) (dC : Nat → ClassId) (dI : Nat → Nat → Nat) (ad : Nat → Nat) (ca : Nat → ClassId) (LA LE : List Nat) (sz : Nat) (d : CS) (p1 : Int64)  (r9 : Option Nat) (hj : jc_Cards_find LA LE d p1 = some r9) : Met l y_Crd_find w_Crd_find ({ frames := 0, cells := 0, slots := 0, locals := 0 }) (va_Pc [.ref (ad 7), .long p1] (cPre dC dI ad ca LA LE sz d)) (va_Qq (fun (r : Option Nat) (u : CS) => r = r9 ∧ u = d) (cAt dC dI ad ca LA LE (va_A (cw ad ca LA LE d) sz)) (va_A (cw ad ca LA LE d) sz)) 0 0 (va_A (cw ad ca LA LE d) sz) := by
  refine Met.ofW (cc := prog_4_method_2_code) (maxL := 4) (ret := (some (.object "CardMessageDesk$Account"))) (by decide) rfl ?_
  intro p e s m args below meth c s₁ B hml hv
  obtain ⟨rfl, hsz, hP, hK, hD0, hN⟩ := hv
  have hx := B.exec
  have hb := B.bytes
  have hr := B.returns
  have hts0 := atoms_spec (ws := w_Crd_find) B.pre
  have hts : ∀ w ∈ gt, w.before _ s = true := fun w h => hts0 w (List.mem_cons_of_mem _ h)
  have hown : s.vm.findClass "CardMessageDesk$Cards" = some m.cls := findClass_of_methodNamed B.named
  have hlocks := B.notSynchronized
  subst hsz
  have hD := hD0.self (sz := s.heap.size)
  generalize hAe : va_A (cw ad ca LA LE d) s.heap.size = A at hD ⊢
  have hA : ∀ q : Nat, s.heap.size ≤ q → A q := fun q h => by rw [← hAe]; exact Or.inr h
  have hS : va_S A s.heap s.heap [] := va_S.rf
  have hl := lv_entry ([.ref (ad 7), .long p1]) (n := 4) (Nat.le_of_ble_eq_true rfl)
  rw [lg_entry_eq]
  generalize (lg_sl ([.ref (ad 7), .long p1]) ++ List.replicate (4 - (lg_sl ([.ref (ad 7), .long p1])).length) Slot.unset).toArray = ls at hl ⊢
  have hl : lv_has ls 4 [(0, .ref (ad 7)), (1, .long p1)] := hl
  unfold jc_Cards_find at hj
  refine lv_iconst (v := 0) hx hb d_Crd_find_0 (by decide) ?_
  refine lv_istore_n (lv' := [(3, .int (0 : Int32)), (0, .ref (ad 7)), (1, .long p1)]) hx hb d_Crd_find_1 rfl hl (by decide) rfl (fun ls hl => ?_)
  exact cc_Cards_find_L2 d p1 _ hx hb hr hlocks hml hown hts hN hA hK 200 (0 : Int32) _ _ ls hj hP hD hS (lv_sub hl [1, 2, 0] rfl)
set_option maxHeartbeats 4000000 in
set_option maxRecDepth 100000 in
theorem cc_Cards_add (l : Launch) (dC : Nat → ClassId) (dI : Nat → Nat → Nat) (ad : Nat → Nat) (ca : Nat → ClassId) (LA LE : List Nat) (sz : Nat) (d : CS) (p1 : Int64) (p2 : Int64)  (r9 : Int32) (d9 : CS) (hj : jc_Cards_add LA LE d p1 p2 = some (r9, d9)) : Met l y_Crd_add w_Crd_add ({ frames := 1, cells := 0, slots := 0, locals := 23 }) (va_Pc [.ref (ad 7), .long p1, .long p2] (cPre dC dI ad ca LA LE sz d)) (va_Qi (fun (r : Int32) (u : CS) => r = r9 ∧ u = d9) (cAt dC dI ad ca LA LE (va_A (cw ad ca LA LE d) sz)) (va_A (cw ad ca LA LE d) sz)) 0 0 (va_A (cw ad ca LA LE d) sz) := by
  refine Met.ofW (cc := prog_4_method_3_code) (maxL := 5) (ret := (some .boolean)) (by decide) rfl ?_
  intro p e s m args below meth c s₁ B hml hv
  obtain ⟨rfl, hsz, hP, hK, hD0, hN⟩ := hv
  have hx := B.exec
  have hb := B.bytes
  have hr := B.returns
  have hts0 := atoms_spec (ws := w_Crd_add) B.pre
  have hts : ∀ w ∈ gt, w.before _ s = true := fun w h => hts0 w (List.mem_cons_of_mem _ h)
  have hown : s.vm.findClass "CardMessageDesk$Cards" = some m.cls := findClass_of_methodNamed B.named
  have hlocks := B.notSynchronized
  subst hsz
  have hD := hD0.self (sz := s.heap.size)
  generalize hAe : va_A (cw ad ca LA LE d) s.heap.size = A at hD ⊢
  have hA : ∀ q : Nat, s.heap.size ≤ q → A q := fun q h => by rw [← hAe]; exact Or.inr h
  have hS : va_S A s.heap s.heap [] := va_S.rf
  have hl := lv_entry ([.ref (ad 7), .long p1, .long p2]) (n := 5) (Nat.le_of_ble_eq_true rfl)
  rw [lg_entry_eq]
  generalize (lg_sl ([.ref (ad 7), .long p1, .long p2]) ++ List.replicate (5 - (lg_sl ([.ref (ad 7), .long p1, .long p2])).length) Slot.unset).toArray = ls at hl ⊢
  have hl : lv_has ls 5 [(0, .ref (ad 7)), (1, .long p1), (3, .long p2)] := hl
  unfold jc_Cards_add at hj
  refine lv_aload_n hx hb d_Crd_add_0 rfl (lv_at hl 0 rfl) ?_
  refine va_get (D := (dC, dI)) (ci := 2) (v := .int (cg_cCount d)) (C := "CardMessageDesk$Cards") (T := T_Crd) (N := 2) hx hb hts in_Crd hown hK hP 7 rfl rfl 1 (by decide) (hts _ tw128) (fun _ h9 => h9) rfl d_Crd_add_1 ?_
  refine lv_bipush (v := 6) hx hb d_Crd_add_4 (by decide) ?_
  refine lv_icmp_ge (tgt := 17) hx hb d_Crd_add_6 (by decide) (fun c_1 => ?_) (fun c_1 => ?_)
  · have hj := it_p hj c_1
    refine lv_iconst (v := 0) hx hb d_Crd_add_17 (by decide) ?_
    obtain ⟨rfl, rfl⟩ := rt_some hj
    exact W.zret (ty := .boolean) hx hb hr rfl (fun t ht hW => ⟨⟨_, _, rfl, ⟨rfl, rfl⟩, by rw [ht]; exact hP, va_K.moved hW.alike hK, hD⟩, hS.F ht⟩) hS.2.2 d_Crd_add_18
  · have hj := it_n hj c_1
    refine lv_aload_n hx hb d_Crd_add_9 rfl (lv_at hl 0 rfl) ?_
    refine lv_lload_n hx hb d_Crd_add_10 rfl (lv_at hl 1 rfl) ?_
    obtain ⟨v_2, hc_2, hj⟩ := bd_some hj
    have hF_2 := va_fr hD hS hA
    refine va_callq (va_runV (As := [.long p1]) (rest := []) ⟨hx, hb, hml, hown, hts⟩ (cc_Cards_find l dC dI ad ca LA LE s.heap.size d p1  v_2 hc_2) (cwV 1 hts (gtV tw229 tw230 tw231 tw5 tw232) rfl rfl rfl (by decide +kernel) ⟨Nat.le_of_ble_eq_true rfl, Nat.le_of_ble_eq_true rfl⟩) ⟨cBl, va_recv hK hP (ci := 2) (q0 := 7) rfl rfl, fun U hU hW => ⟨rfl, cPr hP hK hD hN hU hW⟩⟩ rfl rfl hl.1 rfl (lv_room (Nat.le_of_ble_eq_true rfl)) d_Crd_add_11 ⟨Nat.zero_le _, Nat.zero_le _⟩) hS (fun q _ h => hF_2 q h) hF_2 (fun r u t H locs ht hvm hw hB hz1 hk1 hS => ?_)
    obtain ⟨hw1, hw2⟩ := hw
    have hw1 := hw1.symm
    subst hw1
    have hw2 := hw2.symm
    subst hw2
    obtain ⟨hP, hD⟩ := cAf hB ht hF_2
    rcases oq_some hj with ⟨ho_2, hj⟩ | ⟨a_2, ho_2, hm_a_2, hj⟩
    · rw [ho_2]
      refine lv_ifnullN (tgt := 19) hx hb d_Crd_add_14 (by decide) ?_
      refine lv_aload_n hx hb d_Crd_add_19 rfl (lv_at hl 0 rfl) ?_
      refine va_get (D := (dC, dI)) (ci := 2) (v := .ref (ad 8)) (C := "CardMessageDesk$Cards") (T := T_Crd) (N := 2) hx hb hts in_Crd hown hK hP 7 rfl rfl 0 (by decide) (hts _ tw127) (fun _ h9 => h9) rfl d_Crd_add_20 ?_
      refine lv_aload_n hx hb d_Crd_add_23 rfl (lv_at hl 0 rfl) ?_
      refine va_get (D := (dC, dI)) (ci := 2) (v := .int (cg_cCount d)) (C := "CardMessageDesk$Cards") (T := T_Crd) (N := 2) hx hb hts in_Crd hown hK hP 7 rfl rfl 1 (by decide) (hts _ tw128) (fun _ h9 => h9) rfl d_Crd_add_24 ?_
      obtain ⟨hi_3, hj⟩ := gd_some hj
      refine va_aldq hx hb hK hP 8 2 rfl rfl hi_3 d_Crd_add_27 ?_
      obtain ⟨a_3, ho_3, hm_a_3, hj⟩ := gq_some hj
      rw [ho_3]
      refine lv_lload_n hx hb d_Crd_add_28 rfl (lv_at hl 1 rfl) ?_
      obtain ⟨kx_4, hkx_4⟩ := acc_at (ad := ad) (ca := ca) (LA := LA) (LE := LE) (d := _) hm_a_3
      have eW_4 := acc_put_card (ad := ad) (ca := ca) (LA := LA) (LE := LE) (d := d) (v := p1) hD hm_a_3 hkx_4
      obtain ⟨d_5, ed_5, hj⟩ := nm_some hj
      refine va_putN (D := (dC, dI)) (ci := 0) (v := .long p1) (ty := .long) (C := "CardMessageDesk$Account") (T := T_Acc) (N := 2) hx hb hts in_Acc ty_Acc ty_Acc_ok nm_Acc hown hK hP hD hS kx_4 hkx_4 rfl 0 (by decide) (nw_f hN (i := 18) rfl) (fun _ h9 => h9) rfl (by decide +kernel) rfl rfl (Nat.le_of_ble_eq_true rfl) d_Crd_add_29 (fun H locs hP hD hS => ?_)
      have hP : va_P (dC, dI) vwCl (cw ad ca LA LE d_5) H := by rw [ed_5, ← eW_4]; exact hP
      have hD : va_D A (cw ad ca LA LE d_5) := by rw [ed_5, ← eW_4]; exact hD
      refine lv_aload_n hx hb d_Crd_add_32 rfl (lv_at hl 0 rfl) ?_
      refine va_get (D := (dC, dI)) (ci := 2) (v := .ref (ad 8)) (C := "CardMessageDesk$Cards") (T := T_Crd) (N := 2) hx hb hts in_Crd hown hK hP 7 rfl rfl 0 (by decide) (hts _ tw127) (fun _ h9 => h9) rfl d_Crd_add_33 ?_
      refine lv_aload_n hx hb d_Crd_add_36 rfl (lv_at hl 0 rfl) ?_
      refine va_get (D := (dC, dI)) (ci := 2) (v := .int (cg_cCount d_5)) (C := "CardMessageDesk$Cards") (T := T_Crd) (N := 2) hx hb hts in_Crd hown hK hP 7 rfl rfl 1 (by decide) (hts _ tw128) (fun _ h9 => h9) rfl d_Crd_add_37 ?_
      obtain ⟨hi_6, hj⟩ := gd_some hj
      refine va_aldq hx hb hK hP 8 2 rfl rfl hi_6 d_Crd_add_40 ?_
      obtain ⟨a_6, ho_6, hm_a_6, hj⟩ := gq_some hj
      rw [ho_6]
      refine lv_lload_n hx hb d_Crd_add_41 rfl (lv_at hl 2 rfl) ?_
      obtain ⟨kx_7, hkx_7⟩ := acc_at (ad := ad) (ca := ca) (LA := LA) (LE := LE) (d := _) hm_a_6
      have eW_7 := acc_put_bal (ad := ad) (ca := ca) (LA := LA) (LE := LE) (d := d_5) (v := p2) hD hm_a_6 hkx_7
      obtain ⟨d_8, ed_8, hj⟩ := nm_some hj
      refine va_putN (D := (dC, dI)) (ci := 0) (v := .long p2) (ty := .long) (C := "CardMessageDesk$Account") (T := T_Acc) (N := 2) hx hb hts in_Acc ty_Acc ty_Acc_ok nm_Acc hown hK hP hD hS kx_7 hkx_7 rfl 1 (by decide) (nw_f hN (i := 20) rfl) (fun _ h9 => h9) rfl (by decide +kernel) rfl rfl (Nat.le_of_ble_eq_true rfl) d_Crd_add_42 (fun H locs hP hD hS => ?_)
      have hP : va_P (dC, dI) vwCl (cw ad ca LA LE d_8) H := by rw [ed_8, ← eW_7]; exact hP
      have hD : va_D A (cw ad ca LA LE d_8) := by rw [ed_8, ← eW_7]; exact hD
      refine lv_aload_n hx hb d_Crd_add_45 rfl (lv_at hl 0 rfl) ?_
      refine lv_dup hx hb d_Crd_add_46 rfl ?_
      refine va_get (D := (dC, dI)) (ci := 2) (v := .int (cg_cCount d_8)) (C := "CardMessageDesk$Cards") (T := T_Crd) (N := 2) hx hb hts in_Crd hown hK hP 7 rfl rfl 1 (by decide) (hts _ tw128) (fun _ h9 => h9) rfl d_Crd_add_47 ?_
      refine lv_iconst (v := 1) hx hb d_Crd_add_50 (by decide) ?_
      refine lv_iadd hx hb d_Crd_add_51 ?_
      obtain ⟨d_9, ed_9, hj⟩ := nm_some hj
      refine va_put (D := (dC, dI)) (ci := 2) (v := .int ((cg_cCount d_8) + (1 : Int32))) (ty := .int) (C := "CardMessageDesk$Cards") (T := T_Crd) (N := 2) hx hb hts in_Crd ty_Crd ty_Crd_ok nm_Crd hown hK hP hD hS 7 rfl rfl 1 (by decide) (hts _ tw128) (fun _ h9 => h9) rfl (by decide +kernel) rfl rfl (Nat.le_of_ble_eq_true rfl) d_Crd_add_52 (fun H locs hP hD hS => ?_)
      have hP : va_P (dC, dI) vwCl (cw ad ca LA LE d_9) H := by rw [ed_9]; exact hP
      have hD : va_D A (cw ad ca LA LE d_9) := by rw [ed_9]; exact hD
      refine lv_iconst (v := 1) hx hb d_Crd_add_55 (by decide) ?_
      obtain ⟨rfl, rfl⟩ := rt_some hj
      exact W.zret (ty := .boolean) hx hb hr rfl (fun t ht hW => ⟨⟨_, _, rfl, ⟨rfl, rfl⟩, by rw [ht]; exact hP, va_K.moved hW.alike hK, hD⟩, hS.F ht⟩) hS.2.2 d_Crd_add_56
    · rw [ho_2]
      refine lv_ifnull hx hb d_Crd_add_14 ?_
      refine lv_iconst (v := 0) hx hb d_Crd_add_17 (by decide) ?_
      obtain ⟨rfl, rfl⟩ := rt_some hj
      exact W.zret (ty := .boolean) hx hb hr rfl (fun t ht hW => ⟨⟨_, _, rfl, ⟨rfl, rfl⟩, by rw [ht]; exact hP, va_K.moved hW.alike hK, hD⟩, hS.F ht⟩) hS.2.2 d_Crd_add_18
set_option maxHeartbeats 4000000 in
set_option maxRecDepth 100000 in
theorem cc_D_open (l : Launch) (dC : Nat → ClassId) (dI : Nat → Nat → Nat) (ad : Nat → Nat) (ca : Nat → ClassId) (LA LE : List Nat) (sz : Nat) (d : CS) (p1 : Int64) (p2 : Int64)  (r9 : Int32) (d9 : CS) (hj : jc_D_open LA LE d p1 p2 = some (r9, d9)) : Met l y_Dsk_open w_Dsk_open ({ frames := 2, cells := 0, slots := 0, locals := 47 }) (va_Pc [.ref (ad 0), .long p1, .long p2] (cPre dC dI ad ca LA LE sz d)) (va_Qi (fun (r : Int32) (u : CS) => r = r9 ∧ u = d9) (cAt dC dI ad ca LA LE (va_A (cw ad ca LA LE d) sz)) (va_A (cw ad ca LA LE d) sz)) 0 0 (va_A (cw ad ca LA LE d) sz) := by
  refine Met.ofW (cc := prog_1_method_2_code) (maxL := 5) (ret := (some .boolean)) (by decide) rfl ?_
  intro p e s m args below meth c s₁ B hml hv
  obtain ⟨rfl, hsz, hP, hK, hD0, hN⟩ := hv
  have hx := B.exec
  have hb := B.bytes
  have hr := B.returns
  have hts0 := atoms_spec (ws := w_Dsk_open) B.pre
  have hts : ∀ w ∈ gt, w.before _ s = true := fun w h => hts0 w (List.mem_cons_of_mem _ h)
  have hown : s.vm.findClass "CardMessageDesk" = some m.cls := findClass_of_methodNamed B.named
  have hlocks := B.notSynchronized
  subst hsz
  have hD := hD0.self (sz := s.heap.size)
  generalize hAe : va_A (cw ad ca LA LE d) s.heap.size = A at hD ⊢
  have hA : ∀ q : Nat, s.heap.size ≤ q → A q := fun q h => by rw [← hAe]; exact Or.inr h
  have hS : va_S A s.heap s.heap [] := va_S.rf
  have hl := lv_entry ([.ref (ad 0), .long p1, .long p2]) (n := 5) (Nat.le_of_ble_eq_true rfl)
  rw [lg_entry_eq]
  generalize (lg_sl ([.ref (ad 0), .long p1, .long p2]) ++ List.replicate (5 - (lg_sl ([.ref (ad 0), .long p1, .long p2])).length) Slot.unset).toArray = ls at hl ⊢
  have hl : lv_has ls 5 [(0, .ref (ad 0)), (1, .long p1), (3, .long p2)] := hl
  unfold jc_D_open at hj
  refine lv_lload_n hx hb d_Dsk_open_0 rfl (lv_at hl 1 rfl) ?_
  refine lv_lconst (v := 1) hx hb d_Dsk_open_1 (by decide) ?_
  refine W.lcmp hx hb d_Dsk_open_2 ?_
  refine lv_if_lt (tgt := 28) hx hb d_Dsk_open_3 (by decide) (fun c_1 => ?_) (fun c_1 => ?_)
  · have hj := it_p hj (lc_lt.mp c_1)
    refine lv_iconst (v := 0) hx hb d_Dsk_open_28 (by decide) ?_
    obtain ⟨rfl, rfl⟩ := rt_some hj
    exact W.zret (ty := .boolean) hx hb hr rfl (fun t ht hW => ⟨⟨_, _, rfl, ⟨rfl, rfl⟩, by rw [ht]; exact hP, va_K.moved hW.alike hK, hD⟩, hS.F ht⟩) hS.2.2 d_Dsk_open_29
  · have hj := it_n hj (fun z => c_1 (lc_lt.mpr z))
    refine lv_lload_n hx hb d_Dsk_open_6 rfl (lv_at hl 1 rfl) ?_
    refine lv_ldc2 (v := 9999999999999999) hx hb hown (hts _ tw223) d_Dsk_open_7 ?_
    refine W.lcmp hx hb d_Dsk_open_10 ?_
    refine lv_if_gt (tgt := 28) hx hb d_Dsk_open_11 (by decide) (fun c_2 => ?_) (fun c_2 => ?_)
    · have hj := it_p hj (lc_gt.mp c_2)
      refine lv_iconst (v := 0) hx hb d_Dsk_open_28 (by decide) ?_
      obtain ⟨rfl, rfl⟩ := rt_some hj
      exact W.zret (ty := .boolean) hx hb hr rfl (fun t ht hW => ⟨⟨_, _, rfl, ⟨rfl, rfl⟩, by rw [ht]; exact hP, va_K.moved hW.alike hK, hD⟩, hS.F ht⟩) hS.2.2 d_Dsk_open_29
    · have hj := it_n hj (fun z => c_2 (lc_gt.mpr z))
      refine lv_lload_n hx hb d_Dsk_open_14 rfl (lv_at hl 2 rfl) ?_
      refine lv_lconst (v := 0) hx hb d_Dsk_open_15 (by decide) ?_
      refine W.lcmp hx hb d_Dsk_open_16 ?_
      refine lv_if_lt (tgt := 28) hx hb d_Dsk_open_17 (by decide) (fun c_3 => ?_) (fun c_3 => ?_)
      · have hj := it_p hj (lc_lt.mp c_3)
        refine lv_iconst (v := 0) hx hb d_Dsk_open_28 (by decide) ?_
        obtain ⟨rfl, rfl⟩ := rt_some hj
        exact W.zret (ty := .boolean) hx hb hr rfl (fun t ht hW => ⟨⟨_, _, rfl, ⟨rfl, rfl⟩, by rw [ht]; exact hP, va_K.moved hW.alike hK, hD⟩, hS.F ht⟩) hS.2.2 d_Dsk_open_29
      · have hj := it_n hj (fun z => c_3 (lc_lt.mpr z))
        refine lv_lload_n hx hb d_Dsk_open_20 rfl (lv_at hl 2 rfl) ?_
        refine lv_ldc2 (v := 1000000000000) hx hb hown (hts _ tw224) d_Dsk_open_21 ?_
        refine W.lcmp hx hb d_Dsk_open_24 ?_
        refine lv_if_le (tgt := 30) hx hb d_Dsk_open_25 (by decide) (fun c_4 => ?_) (fun c_4 => ?_)
        · have hj := it_p hj (lc_le.mp c_4)
          refine lv_aload_n hx hb d_Dsk_open_30 rfl (lv_at hl 0 rfl) ?_
          refine va_get (D := (dC, dI)) (ci := 7) (v := .ref (ad 7)) (C := "CardMessageDesk") (T := T_Dsk) (N := 7) hx hb hts in_Dsk hown hK hP 0 rfl rfl 3 (by decide) (hts _ tw200) (fun _ h9 => h9) rfl d_Dsk_open_31 ?_
          refine lv_lload_n hx hb d_Dsk_open_34 rfl (lv_at hl 1 rfl) ?_
          refine lv_lload_n hx hb d_Dsk_open_35 rfl (lv_at hl 2 rfl) ?_
          obtain ⟨p_5, hc_5, hj⟩ := bd_some hj
          have hF_5 := va_fr hD hS hA
          refine va_calli (va_runV (As := [.long p1, .long p2]) (rest := []) ⟨hx, hb, hml, hown, hts⟩ (cc_Cards_add l dC dI ad ca LA LE s.heap.size d p1 p2  p_5.1 p_5.2 hc_5) (cwV 2 hts (gtV tw225 tw226 tw227 tw5 tw228) rfl rfl rfl (by decide +kernel) ⟨Nat.le_of_ble_eq_true rfl, Nat.le_of_ble_eq_true rfl⟩) ⟨cBl, va_recv hK hP (ci := 2) (q0 := 7) rfl rfl, fun U hU hW => ⟨rfl, cPr hP hK hD hN hU hW⟩⟩ rfl rfl hl.1 rfl (lv_room (Nat.le_of_ble_eq_true rfl)) d_Dsk_open_36 ⟨Nat.zero_le _, Nat.zero_le _⟩) hS (fun q _ h => hF_5 q h) hF_5 (fun r u t H locs ht hvm hw hB hz1 hk1 hS => ?_)
          obtain ⟨hw1, hw2⟩ := hw
          have hw1 := hw1.symm
          subst hw1
          have hw2 := hw2.symm
          subst hw2
          obtain ⟨hP, hD⟩ := cAf hB ht hF_5
          obtain ⟨hz_6, hj⟩ := gd_some hj
          obtain ⟨rfl, rfl⟩ := rt_some hj
          exact W.zret (ty := .boolean) hx hb hr (bz_n hz_6) (fun t ht hW => ⟨⟨_, _, rfl, ⟨rfl, rfl⟩, by rw [ht]; exact hP, va_K.moved hW.alike hK, hD⟩, hS.F ht⟩) hS.2.2 d_Dsk_open_39
        · have hj := it_n hj (fun z => c_4 (lc_le.mpr z))
          refine lv_iconst (v := 0) hx hb d_Dsk_open_28 (by decide) ?_
          obtain ⟨rfl, rfl⟩ := rt_some hj
          exact W.zret (ty := .boolean) hx hb hr rfl (fun t ht hW => ⟨⟨_, _, rfl, ⟨rfl, rfl⟩, by rw [ht]; exact hP, va_K.moved hW.alike hK, hD⟩, hS.F ht⟩) hS.2.2 d_Dsk_open_29
set_option maxHeartbeats 4000000 in
set_option maxRecDepth 100000 in
theorem cc_ByteRow_append_in (l : Launch) (dC : Nat → ClassId) (dI : Nat → Nat → Nat) (ad : Nat → Nat) (ca : Nat → ClassId) (LA LE : List Nat) (sz : Nat) (d : CS) (p1 : Int32)  (d9 : CS) (hj : jc_ByteRow_append_in LA LE d p1 = some d9) : Met l y_Row_append w_Row_append ({ frames := 0, cells := 0, slots := 0, locals := 0 }) (va_Pc [.ref (ad 1), .int p1] (cPre dC dI ad ca LA LE sz d)) (va_Qv (fun u : CS => u = d9) (cAt dC dI ad ca LA LE (va_A (cw ad ca LA LE d) sz)) (va_A (cw ad ca LA LE d) sz)) 0 0 (va_A (cw ad ca LA LE d) sz) := by
  refine Met.ofW (cc := prog_3_method_4_code) (maxL := 2) (ret := none) (by decide) rfl ?_
  intro p e s m args below meth c s₁ B hml hv
  obtain ⟨rfl, hsz, hP, hK, hD0, hN⟩ := hv
  have hx := B.exec
  have hb := B.bytes
  have hr := B.returns
  have hts0 := atoms_spec (ws := w_Row_append) B.pre
  have hts : ∀ w ∈ gt, w.before _ s = true := fun w h => hts0 w (List.mem_cons_of_mem _ h)
  have hown : s.vm.findClass "CardMessageDesk$ByteRow" = some m.cls := findClass_of_methodNamed B.named
  have hlocks := B.notSynchronized
  subst hsz
  have hD := hD0.self (sz := s.heap.size)
  generalize hAe : va_A (cw ad ca LA LE d) s.heap.size = A at hD ⊢
  have hA : ∀ q : Nat, s.heap.size ≤ q → A q := fun q h => by rw [← hAe]; exact Or.inr h
  have hS : va_S A s.heap s.heap [] := va_S.rf
  have hl := lv_entry ([.ref (ad 1), .int p1]) (n := 2) (Nat.le_of_ble_eq_true rfl)
  rw [lg_entry_eq]
  generalize (lg_sl ([.ref (ad 1), .int p1]) ++ List.replicate (2 - (lg_sl ([.ref (ad 1), .int p1])).length) Slot.unset).toArray = ls at hl ⊢
  have hl : lv_has ls 2 [(0, .ref (ad 1)), (1, .int p1)] := hl
  unfold jc_ByteRow_append_in at hj
  refine lv_aload_n hx hb d_Row_append_0 rfl (lv_at hl 0 rfl) ?_
  refine va_get (D := (dC, dI)) (ci := 1) (v := .int (cg_inSize d)) (C := "CardMessageDesk$ByteRow") (T := T_Row) (N := 2) hx hb hts in_Row hown hK hP 1 rfl rfl 1 (by decide) (hts _ tw26) (fun _ h9 => h9) rfl d_Row_append_1 ?_
  refine lv_aload_n hx hb d_Row_append_4 rfl (lv_at hl 0 rfl) ?_
  refine va_get (D := (dC, dI)) (ci := 1) (v := .ref (ad 2)) (C := "CardMessageDesk$ByteRow") (T := T_Row) (N := 2) hx hb hts in_Row hown hK hP 1 rfl rfl 0 (by decide) (hts _ tw25) (fun _ h9 => h9) rfl d_Row_append_5 ?_
  refine va_alen (v := 120) hx hb hK hP 2 0 rfl rfl rfl d_Row_append_8 ?_
  refine lv_icmp_ge (tgt := 36) hx hb d_Row_append_9 (by decide) (fun c_1 => ?_) (fun c_1 => ?_)
  · have hj := it_p hj c_1
    obtain rfl := Option.some.inj hj
    exact W.vret hx hb hr (fun t ht hW => ⟨⟨_, rfl, rfl, by rw [ht]; exact hP, va_K.moved hW.alike hK, hD⟩, hS.F ht⟩) hS.2.2 d_Row_append_36
  · have hj := it_n hj c_1
    refine lv_aload_n hx hb d_Row_append_12 rfl (lv_at hl 0 rfl) ?_
    refine va_get (D := (dC, dI)) (ci := 1) (v := .ref (ad 2)) (C := "CardMessageDesk$ByteRow") (T := T_Row) (N := 2) hx hb hts in_Row hown hK hP 1 rfl rfl 0 (by decide) (hts _ tw25) (fun _ h9 => h9) rfl d_Row_append_13 ?_
    refine lv_aload_n hx hb d_Row_append_16 rfl (lv_at hl 0 rfl) ?_
    refine va_get (D := (dC, dI)) (ci := 1) (v := .int (cg_inSize d)) (C := "CardMessageDesk$ByteRow") (T := T_Row) (N := 2) hx hb hts in_Row hown hK hP 1 rfl rfl 1 (by decide) (hts _ tw26) (fun _ h9 => h9) rfl d_Row_append_17 ?_
    refine lv_iload_n hx hb d_Row_append_20 rfl (lv_at hl 1 rfl) ?_
    refine lv_sipush (v := 255) hx hb d_Row_append_21 (by decide) ?_
    refine lv_iand hx hb d_Row_append_24 ?_
    obtain ⟨hi_2, hj⟩ := gd_some hj
    obtain ⟨d_3, ed_3, hj⟩ := nm_some hj
    refine va_iast hx hb hK hP hD hS 2 0 rfl rfl hi_2 d_Row_append_25 (fun H locs hP hD hS => ?_)
    have hP : va_P (dC, dI) vwCl (cw ad ca LA LE d_3) H := by rw [ed_3]; exact hP
    have hD : va_D A (cw ad ca LA LE d_3) := by rw [ed_3]; exact hD
    refine lv_aload_n hx hb d_Row_append_26 rfl (lv_at hl 0 rfl) ?_
    refine lv_dup hx hb d_Row_append_27 rfl ?_
    refine va_get (D := (dC, dI)) (ci := 1) (v := .int (cg_inSize d_3)) (C := "CardMessageDesk$ByteRow") (T := T_Row) (N := 2) hx hb hts in_Row hown hK hP 1 rfl rfl 1 (by decide) (hts _ tw26) (fun _ h9 => h9) rfl d_Row_append_28 ?_
    refine lv_iconst (v := 1) hx hb d_Row_append_31 (by decide) ?_
    refine lv_iadd hx hb d_Row_append_32 ?_
    obtain ⟨d_4, ed_4, hj⟩ := nm_some hj
    refine va_put (D := (dC, dI)) (ci := 1) (v := .int ((cg_inSize d_3) + (1 : Int32))) (ty := .int) (C := "CardMessageDesk$ByteRow") (T := T_Row) (N := 2) hx hb hts in_Row ty_Row ty_Row_ok nm_Row hown hK hP hD hS 1 rfl rfl 1 (by decide) (hts _ tw26) (fun _ h9 => h9) rfl (by decide +kernel) rfl rfl (Nat.le_of_ble_eq_true rfl) d_Row_append_33 (fun H locs hP hD hS => ?_)
    have hP : va_P (dC, dI) vwCl (cw ad ca LA LE d_4) H := by rw [ed_4]; exact hP
    have hD : va_D A (cw ad ca LA LE d_4) := by rw [ed_4]; exact hD
    obtain rfl := Option.some.inj hj
    exact W.vret hx hb hr (fun t ht hW => ⟨⟨_, rfl, rfl, by rw [ht]; exact hP, va_K.moved hW.alike hK, hD⟩, hS.F ht⟩) hS.2.2 d_Row_append_36
set_option maxHeartbeats 4000000 in
set_option maxRecDepth 100000 in
theorem cc_ByteRow_appendBytes_in_L5 {p : Program} {l : Launch} {e : Env} {s : State} {m : MethodId} {args : Array Value} {below : List Frame} {meth : Method} {c : Code} {dC : Nat → ClassId} {dI : Nat → Nat → Nat} {ad : Nat → Nat} {ca : Nat → ClassId} {LA LE : List Nat} {A : Nat → Prop}  (x1 : Int64)  (d9 : CS) (hx : p.tables.exec = Jvm.exec) (hb : c.code = prog_3_method_5_code) (hr : meth.sig.returnType = none) (hlocks : meth.locks = false) (hml : c.maxLocals = 5) (hown : s.vm.findClass "CardMessageDesk$ByteRow" = some m.cls) (hts : ∀ w ∈ gt, w.before args s = true) (hN : nw s) (hA : ∀ q : Nat, s.heap.size ≤ q → A q) (hK : va_K (dC, dI) vwCl (cT ca) s) :
    ∀ (n : Nat) (d : CS) (x4 : Int32) (H : Heap) (locs : List Loc) (ls : Array Slot), loopF (jc_ByteRow_appendBytes_in_L5 LA LE x1) n (d, x4) = some d9 → va_P (dC, dI) vwCl (cw ad ca LA LE d) H → va_D A (cw ad ca LA LE d) → va_S A s.heap H locs → lv_has ls 5 [(0, .ref (ad 1)), (1, .long x1), (4, .int x4)] → W p l e ({ frames := 1, cells := 0, slots := 0, locals := 21 }) s m args below meth c H locs 0 0 (MQ below (va_Qv (fun u : CS => u = d9) (cAt dC dI ad ca LA LE A) A) args s 0 0 A) (F0 m 5 ls []) := by
  intro n
  induction n with
  | zero =>
    intro d x4 H locs ls hj
    exact (loopF_z hj).elim
  | succ n ih =>
    intro d x4 H locs ls hj hP hD hS hl
    have hj := loopF_s hj
    unfold jc_ByteRow_appendBytes_in_L5 at hj
    try dsimp only at hj
    refine lv_iload hx hb d_Row_appendBytes_5 (lv_at hl 2 rfl) ?_
    refine lv_if_lt (tgt := 28) hx hb d_Row_appendBytes_7 (by decide) (fun c_1 => ?_) (fun c_1 => ?_)
    · have hj := it_p hj c_1
      obtain rfl := Option.some.inj hj
      exact W.vret hx hb hr (fun t ht hW => ⟨⟨_, rfl, rfl, by rw [ht]; exact hP, va_K.moved hW.alike hK, hD⟩, hS.F ht⟩) hS.2.2 d_Row_appendBytes_28
    · have hj := it_n hj c_1
      refine lv_aload_n hx hb d_Row_appendBytes_10 rfl (lv_at hl 0 rfl) ?_
      refine lv_lload_n hx hb d_Row_appendBytes_11 rfl (lv_at hl 1 rfl) ?_
      refine lv_bipush (v := 8) hx hb d_Row_appendBytes_12 (by decide) ?_
      refine lv_iload hx hb d_Row_appendBytes_14 (lv_at hl 2 rfl) ?_
      refine lv_imul hx hb d_Row_appendBytes_16 ?_
      refine lv_lushr (v := ((x1).toUInt64 >>> ((((8 : Int32) * x4)).toInt64.toUInt64 &&& Int64.toUInt64 63)).toInt64) hx hb d_Row_appendBytes_17 rfl ?_
      refine lv_l2i (v := (((x1).toUInt64 >>> ((((8 : Int32) * x4)).toInt64.toUInt64 &&& Int64.toUInt64 63)).toInt64).toInt32) hx hb d_Row_appendBytes_18 rfl ?_
      obtain ⟨d_2, hc_2, hj⟩ := bd_some hj
      have hF_2 := va_fr hD hS hA
      refine va_callv (va_runV (As := [.int (((x1).toUInt64 >>> ((((8 : Int32) * x4)).toInt64.toUInt64 &&& Int64.toUInt64 63)).toInt64).toInt32]) (rest := []) ⟨hx, hb, hml, hown, hts⟩ (cc_ByteRow_append_in l dC dI ad ca LA LE H.size d (((x1).toUInt64 >>> ((((8 : Int32) * x4)).toInt64.toUInt64 &&& Int64.toUInt64 63)).toInt64).toInt32  d_2 hc_2) (cwV 1 hts (gtV tw241 tw242 tw243 tw2 tw244) rfl rfl rfl (by decide +kernel) ⟨Nat.le_of_ble_eq_true rfl, Nat.le_of_ble_eq_true rfl⟩) ⟨cBl, va_recv hK hP (ci := 1) (q0 := 1) rfl rfl, fun U hU hW => ⟨rfl, cPr hP hK hD hN hU hW⟩⟩ rfl rfl hl.1 rfl (lv_room (Nat.le_of_ble_eq_true rfl)) d_Row_appendBytes_19 ⟨Nat.zero_le _, Nat.zero_le _⟩) hS (fun q _ h => hF_2 q h) hF_2 (fun u t H locs ht hvm hw hB hz1 hk1 hS => ?_)
      have hw := hw.symm
      subst hw
      obtain ⟨hP, hD⟩ := cAf hB ht hF_2
      refine lv_iinc (v := (x4 + (-1))) (lv' := [(4, .int (x4 + (-1))), (0, .ref (ad 1)), (1, .long x1)]) hx hb d_Row_appendBytes_22 hl (k := 2) rfl rfl (by decide) rfl (fun ls hl => ?_)
      refine lv_goto (tgt := 5) hx hb d_Row_appendBytes_25 (by decide) ?_
      exact ih d_2 (x4 + (-1)) H locs ls hj hP hD hS (lv_sub hl [1, 2, 0] rfl)
set_option maxHeartbeats 4000000 in
set_option maxRecDepth 100000 in
theorem cc_ByteRow_appendBytes_in (l : Launch) (dC : Nat → ClassId) (dI : Nat → Nat → Nat) (ad : Nat → Nat) (ca : Nat → ClassId) (LA LE : List Nat) (sz : Nat) (d : CS) (p1 : Int64) (p2 : Int32)  (d9 : CS) (hj : jc_ByteRow_appendBytes_in LA LE d p1 p2 = some d9) : Met l y_Row_appendBytes w_Row_appendBytes ({ frames := 1, cells := 0, slots := 0, locals := 21 }) (va_Pc [.ref (ad 1), .long p1, .int p2] (cPre dC dI ad ca LA LE sz d)) (va_Qv (fun u : CS => u = d9) (cAt dC dI ad ca LA LE (va_A (cw ad ca LA LE d) sz)) (va_A (cw ad ca LA LE d) sz)) 0 0 (va_A (cw ad ca LA LE d) sz) := by
  refine Met.ofW (cc := prog_3_method_5_code) (maxL := 5) (ret := none) (by decide) rfl ?_
  intro p e s m args below meth c s₁ B hml hv
  obtain ⟨rfl, hsz, hP, hK, hD0, hN⟩ := hv
  have hx := B.exec
  have hb := B.bytes
  have hr := B.returns
  have hts0 := atoms_spec (ws := w_Row_appendBytes) B.pre
  have hts : ∀ w ∈ gt, w.before _ s = true := fun w h => hts0 w (List.mem_cons_of_mem _ h)
  have hown : s.vm.findClass "CardMessageDesk$ByteRow" = some m.cls := findClass_of_methodNamed B.named
  have hlocks := B.notSynchronized
  subst hsz
  have hD := hD0.self (sz := s.heap.size)
  generalize hAe : va_A (cw ad ca LA LE d) s.heap.size = A at hD ⊢
  have hA : ∀ q : Nat, s.heap.size ≤ q → A q := fun q h => by rw [← hAe]; exact Or.inr h
  have hS : va_S A s.heap s.heap [] := va_S.rf
  have hl := lv_entry ([.ref (ad 1), .long p1, .int p2]) (n := 5) (Nat.le_of_ble_eq_true rfl)
  rw [lg_entry_eq]
  generalize (lg_sl ([.ref (ad 1), .long p1, .int p2]) ++ List.replicate (5 - (lg_sl ([.ref (ad 1), .long p1, .int p2])).length) Slot.unset).toArray = ls at hl ⊢
  have hl : lv_has ls 5 [(0, .ref (ad 1)), (1, .long p1), (3, .int p2)] := hl
  unfold jc_ByteRow_appendBytes_in at hj
  refine lv_iload_n hx hb d_Row_appendBytes_0 rfl (lv_at hl 2 rfl) ?_
  refine lv_iconst (v := 1) hx hb d_Row_appendBytes_1 (by decide) ?_
  refine lv_isub hx hb d_Row_appendBytes_2 ?_
  refine lv_istore (lv' := [(4, .int (p2 - (1 : Int32))), (0, .ref (ad 1)), (1, .long p1), (3, .int p2)]) hx hb d_Row_appendBytes_3 hl (by decide) rfl (fun ls hl => ?_)
  exact cc_ByteRow_appendBytes_in_L5  p1 _ hx hb hr hlocks hml hown hts hN hA hK 200 d (p2 - (1 : Int32)) _ _ ls hj hP hD hS (lv_sub hl [1, 2, 0] rfl)
set_option maxHeartbeats 4000000 in
set_option maxRecDepth 100000 in
theorem cc_D_feed (l : Launch) (dC : Nat → ClassId) (dI : Nat → Nat → Nat) (ad : Nat → Nat) (ca : Nat → ClassId) (LA LE : List Nat) (sz : Nat) (d : CS) (p1 : Int64) (p2 : Int32)  (r9 : Int32) (d9 : CS) (hj : jc_D_feed LA LE d p1 p2 = some (r9, d9)) : Met l y_Dsk_feed w_Dsk_feed ({ frames := 2, cells := 0, slots := 0, locals := 45 }) (va_Pc [.ref (ad 0), .long p1, .int p2] (cPre dC dI ad ca LA LE sz d)) (va_Qi (fun (r : Int32) (u : CS) => r = r9 ∧ u = d9) (cAt dC dI ad ca LA LE (va_A (cw ad ca LA LE d) sz)) (va_A (cw ad ca LA LE d) sz)) 0 0 (va_A (cw ad ca LA LE d) sz) := by
  refine Met.ofW (cc := prog_1_method_3_code) (maxL := 4) (ret := (some .int)) (by decide) rfl ?_
  intro p e s m args below meth c s₁ B hml hv
  obtain ⟨rfl, hsz, hP, hK, hD0, hN⟩ := hv
  have hx := B.exec
  have hb := B.bytes
  have hr := B.returns
  have hts0 := atoms_spec (ws := w_Dsk_feed) B.pre
  have hts : ∀ w ∈ gt, w.before _ s = true := fun w h => hts0 w (List.mem_cons_of_mem _ h)
  have hown : s.vm.findClass "CardMessageDesk" = some m.cls := findClass_of_methodNamed B.named
  have hlocks := B.notSynchronized
  subst hsz
  have hD := hD0.self (sz := s.heap.size)
  generalize hAe : va_A (cw ad ca LA LE d) s.heap.size = A at hD ⊢
  have hA : ∀ q : Nat, s.heap.size ≤ q → A q := fun q h => by rw [← hAe]; exact Or.inr h
  have hS : va_S A s.heap s.heap [] := va_S.rf
  have hl := lv_entry ([.ref (ad 0), .long p1, .int p2]) (n := 4) (Nat.le_of_ble_eq_true rfl)
  rw [lg_entry_eq]
  generalize (lg_sl ([.ref (ad 0), .long p1, .int p2]) ++ List.replicate (4 - (lg_sl ([.ref (ad 0), .long p1, .int p2])).length) Slot.unset).toArray = ls at hl ⊢
  have hl : lv_has ls 4 [(0, .ref (ad 0)), (1, .long p1), (3, .int p2)] := hl
  unfold jc_D_feed at hj
  refine lv_iload_n hx hb d_Dsk_feed_0 rfl (lv_at hl 2 rfl) ?_
  refine lv_iconst (v := 1) hx hb d_Dsk_feed_1 (by decide) ?_
  refine lv_icmp_lt (tgt := 25) hx hb d_Dsk_feed_2 (by decide) (fun c_1 => ?_) (fun c_1 => ?_)
  · have hj := it_p hj c_1
    refine lv_iconst (v := (-1)) hx hb d_Dsk_feed_25 (by decide) ?_
    obtain ⟨rfl, rfl⟩ := rt_some hj
    exact W.iret hx hb hr (fun t ht hW => ⟨⟨_, _, rfl, ⟨rfl, rfl⟩, by rw [ht]; exact hP, va_K.moved hW.alike hK, hD⟩, hS.F ht⟩) hS.2.2 d_Dsk_feed_26
  · have hj := it_n hj c_1
    refine lv_iload_n hx hb d_Dsk_feed_5 rfl (lv_at hl 2 rfl) ?_
    refine lv_bipush (v := 8) hx hb d_Dsk_feed_6 (by decide) ?_
    refine lv_icmp_gt (tgt := 25) hx hb d_Dsk_feed_8 (by decide) (fun c_2 => ?_) (fun c_2 => ?_)
    · have hj := it_p hj c_2
      refine lv_iconst (v := (-1)) hx hb d_Dsk_feed_25 (by decide) ?_
      obtain ⟨rfl, rfl⟩ := rt_some hj
      exact W.iret hx hb hr (fun t ht hW => ⟨⟨_, _, rfl, ⟨rfl, rfl⟩, by rw [ht]; exact hP, va_K.moved hW.alike hK, hD⟩, hS.F ht⟩) hS.2.2 d_Dsk_feed_26
    · have hj := it_n hj c_2
      refine lv_aload_n hx hb d_Dsk_feed_11 rfl (lv_at hl 0 rfl) ?_
      refine va_get (D := (dC, dI)) (ci := 7) (v := .ref (ad 1)) (C := "CardMessageDesk") (T := T_Dsk) (N := 7) hx hb hts in_Dsk hown hK hP 0 rfl rfl 0 (by decide) (hts _ tw197) (fun _ h9 => h9) rfl d_Dsk_feed_12 ?_
      refine va_getN (D := (dC, dI)) (ci := 1) (v := .int (cg_inSize d)) (C := "CardMessageDesk$ByteRow") (T := T_Row) (N := 2) hx hb hts in_Row hown hK hP 1 rfl rfl 1 (by decide) (nw_f hN (i := 0) rfl) (fun _ h9 => h9) rfl d_Dsk_feed_15 ?_
      refine lv_iload_n hx hb d_Dsk_feed_18 rfl (lv_at hl 2 rfl) ?_
      refine lv_iadd hx hb d_Dsk_feed_19 ?_
      refine lv_bipush (v := 120) hx hb d_Dsk_feed_20 (by decide) ?_
      refine lv_icmp_le (tgt := 27) hx hb d_Dsk_feed_22 (by decide) (fun c_3 => ?_) (fun c_3 => ?_)
      · have hj := it_p hj c_3
        refine lv_aload_n hx hb d_Dsk_feed_27 rfl (lv_at hl 0 rfl) ?_
        refine va_get (D := (dC, dI)) (ci := 7) (v := .ref (ad 1)) (C := "CardMessageDesk") (T := T_Dsk) (N := 7) hx hb hts in_Dsk hown hK hP 0 rfl rfl 0 (by decide) (hts _ tw197) (fun _ h9 => h9) rfl d_Dsk_feed_28 ?_
        refine lv_lload_n hx hb d_Dsk_feed_31 rfl (lv_at hl 1 rfl) ?_
        refine lv_iload_n hx hb d_Dsk_feed_32 rfl (lv_at hl 2 rfl) ?_
        obtain ⟨d_4, hc_4, hj⟩ := bd_some hj
        have hF_4 := va_fr hD hS hA
        refine va_callv (va_runV (As := [.long p1, .int p2]) (rest := []) ⟨hx, hb, hml, hown, hts⟩ (cc_ByteRow_appendBytes_in l dC dI ad ca LA LE s.heap.size d p1 p2  d_4 hc_4) (cwV 2 hts (gtV tw237 tw238 tw239 tw2 tw240) rfl rfl rfl (by decide +kernel) ⟨Nat.le_of_ble_eq_true rfl, Nat.le_of_ble_eq_true rfl⟩) ⟨cBl, va_recv hK hP (ci := 1) (q0 := 1) rfl rfl, fun U hU hW => ⟨rfl, cPr hP hK hD hN hU hW⟩⟩ rfl rfl hl.1 rfl (lv_room (Nat.le_of_ble_eq_true rfl)) d_Dsk_feed_33 ⟨Nat.zero_le _, Nat.zero_le _⟩) hS (fun q _ h => hF_4 q h) hF_4 (fun u t H locs ht hvm hw hB hz1 hk1 hS => ?_)
        have hw := hw.symm
        subst hw
        obtain ⟨hP, hD⟩ := cAf hB ht hF_4
        refine lv_aload_n hx hb d_Dsk_feed_36 rfl (lv_at hl 0 rfl) ?_
        refine va_get (D := (dC, dI)) (ci := 7) (v := .ref (ad 1)) (C := "CardMessageDesk") (T := T_Dsk) (N := 7) hx hb hts in_Dsk hown hK hP 0 rfl rfl 0 (by decide) (hts _ tw197) (fun _ h9 => h9) rfl d_Dsk_feed_37 ?_
        refine va_getN (D := (dC, dI)) (ci := 1) (v := .int (cg_inSize d_4)) (C := "CardMessageDesk$ByteRow") (T := T_Row) (N := 2) hx hb hts in_Row hown hK hP 1 rfl rfl 1 (by decide) (nw_f hN (i := 0) rfl) (fun _ h9 => h9) rfl d_Dsk_feed_40 ?_
        obtain ⟨rfl, rfl⟩ := rt_some hj
        exact W.iret hx hb hr (fun t ht hW => ⟨⟨_, _, rfl, ⟨rfl, rfl⟩, by rw [ht]; exact hP, va_K.moved hW.alike hK, hD⟩, hS.F ht⟩) hS.2.2 d_Dsk_feed_43
      · have hj := it_n hj c_3
        refine lv_iconst (v := (-1)) hx hb d_Dsk_feed_25 (by decide) ?_
        obtain ⟨rfl, rfl⟩ := rt_some hj
        exact W.iret hx hb hr (fun t ht hW => ⟨⟨_, _, rfl, ⟨rfl, rfl⟩, by rw [ht]; exact hP, va_K.moved hW.alike hK, hD⟩, hS.F ht⟩) hS.2.2 d_Dsk_feed_26
set_option maxHeartbeats 4000000 in
set_option maxRecDepth 100000 in
theorem cc_ByteRow_clear_out (l : Launch) (dC : Nat → ClassId) (dI : Nat → Nat → Nat) (ad : Nat → Nat) (ca : Nat → ClassId) (LA LE : List Nat) (sz : Nat) (d : CS)   (d9 : CS) (hj : jc_ByteRow_clear_out LA LE d = some d9) : Met l y_Row_clear w_Row_clear ({ frames := 0, cells := 0, slots := 0, locals := 0 }) (va_Pc [.ref (ad 3)] (cPre dC dI ad ca LA LE sz d)) (va_Qv (fun u : CS => u = d9) (cAt dC dI ad ca LA LE (va_A (cw ad ca LA LE d) sz)) (va_A (cw ad ca LA LE d) sz)) 0 0 (va_A (cw ad ca LA LE d) sz) := by
  refine Met.ofW (cc := prog_3_method_2_code) (maxL := 1) (ret := none) (by decide) rfl ?_
  intro p e s m args below meth c s₁ B hml hv
  obtain ⟨rfl, hsz, hP, hK, hD0, hN⟩ := hv
  have hx := B.exec
  have hb := B.bytes
  have hr := B.returns
  have hts0 := atoms_spec (ws := w_Row_clear) B.pre
  have hts : ∀ w ∈ gt, w.before _ s = true := fun w h => hts0 w (List.mem_cons_of_mem _ h)
  have hown : s.vm.findClass "CardMessageDesk$ByteRow" = some m.cls := findClass_of_methodNamed B.named
  have hlocks := B.notSynchronized
  subst hsz
  have hD := hD0.self (sz := s.heap.size)
  generalize hAe : va_A (cw ad ca LA LE d) s.heap.size = A at hD ⊢
  have hA : ∀ q : Nat, s.heap.size ≤ q → A q := fun q h => by rw [← hAe]; exact Or.inr h
  have hS : va_S A s.heap s.heap [] := va_S.rf
  have hl := lv_entry ([.ref (ad 3)]) (n := 1) (Nat.le_of_ble_eq_true rfl)
  rw [lg_entry_eq]
  generalize (lg_sl ([.ref (ad 3)]) ++ List.replicate (1 - (lg_sl ([.ref (ad 3)])).length) Slot.unset).toArray = ls at hl ⊢
  have hl : lv_has ls 1 [(0, .ref (ad 3))] := hl
  unfold jc_ByteRow_clear_out at hj
  refine lv_aload_n hx hb d_Row_clear_0 rfl (lv_at hl 0 rfl) ?_
  refine lv_iconst (v := 0) hx hb d_Row_clear_1 (by decide) ?_
  obtain ⟨d_1, ed_1, hj⟩ := nm_some hj
  refine va_put (D := (dC, dI)) (ci := 1) (v := .int (0 : Int32)) (ty := .int) (C := "CardMessageDesk$ByteRow") (T := T_Row) (N := 2) hx hb hts in_Row ty_Row ty_Row_ok nm_Row hown hK hP hD hS 3 rfl rfl 1 (by decide) (hts _ tw26) (fun _ h9 => h9) rfl (by decide +kernel) rfl rfl (Nat.le_of_ble_eq_true rfl) d_Row_clear_2 (fun H locs hP hD hS => ?_)
  have hP : va_P (dC, dI) vwCl (cw ad ca LA LE d_1) H := by rw [ed_1]; exact hP
  have hD : va_D A (cw ad ca LA LE d_1) := by rw [ed_1]; exact hD
  obtain rfl := Option.some.inj hj
  exact W.vret hx hb hr (fun t ht hW => ⟨⟨_, rfl, rfl, by rw [ht]; exact hP, va_K.moved hW.alike hK, hD⟩, hS.F ht⟩) hS.2.2 d_Row_clear_5
set_option maxHeartbeats 4000000 in
set_option maxRecDepth 100000 in
theorem cc_Reader_restart (l : Launch) (dC : Nat → ClassId) (dI : Nat → Nat → Nat) (ad : Nat → Nat) (ca : Nat → ClassId) (LA LE : List Nat) (sz : Nat) (d : CS)   (d9 : CS) (hj : jc_Reader_restart LA LE d = some d9) : Met l y_Rdr_restart w_Rdr_restart ({ frames := 0, cells := 0, slots := 0, locals := 0 }) (va_Pc [.ref (ad 6)] (cPre dC dI ad ca LA LE sz d)) (va_Qv (fun u : CS => u = d9) (cAt dC dI ad ca LA LE (va_A (cw ad ca LA LE d) sz)) (va_A (cw ad ca LA LE d) sz)) 0 0 (va_A (cw ad ca LA LE d) sz) := by
  refine Met.ofW (cc := prog_7_method_2_code) (maxL := 1) (ret := none) (by decide) rfl ?_
  intro p e s m args below meth c s₁ B hml hv
  obtain ⟨rfl, hsz, hP, hK, hD0, hN⟩ := hv
  have hx := B.exec
  have hb := B.bytes
  have hr := B.returns
  have hts0 := atoms_spec (ws := w_Rdr_restart) B.pre
  have hts : ∀ w ∈ gt, w.before _ s = true := fun w h => hts0 w (List.mem_cons_of_mem _ h)
  have hown : s.vm.findClass "CardMessageDesk$Reader" = some m.cls := findClass_of_methodNamed B.named
  have hlocks := B.notSynchronized
  subst hsz
  have hD := hD0.self (sz := s.heap.size)
  generalize hAe : va_A (cw ad ca LA LE d) s.heap.size = A at hD ⊢
  have hA : ∀ q : Nat, s.heap.size ≤ q → A q := fun q h => by rw [← hAe]; exact Or.inr h
  have hS : va_S A s.heap s.heap [] := va_S.rf
  have hl := lv_entry ([.ref (ad 6)]) (n := 1) (Nat.le_of_ble_eq_true rfl)
  rw [lg_entry_eq]
  generalize (lg_sl ([.ref (ad 6)]) ++ List.replicate (1 - (lg_sl ([.ref (ad 6)])).length) Slot.unset).toArray = ls at hl ⊢
  have hl : lv_has ls 1 [(0, .ref (ad 6))] := hl
  unfold jc_Reader_restart at hj
  refine lv_aload_n hx hb d_Rdr_restart_0 rfl (lv_at hl 0 rfl) ?_
  refine lv_iconst (v := 0) hx hb d_Rdr_restart_1 (by decide) ?_
  obtain ⟨d_1, ed_1, hj⟩ := nm_some hj
  refine va_put (D := (dC, dI)) (ci := 5) (v := .int (0 : Int32)) (ty := .int) (C := "CardMessageDesk$Reader") (T := T_Rdr) (N := 3) hx hb hts in_Rdr ty_Rdr ty_Rdr_ok nm_Rdr hown hK hP hD hS 6 rfl rfl 1 (by decide) (hts _ tw48) (fun _ h9 => h9) rfl (by decide +kernel) rfl rfl (Nat.le_of_ble_eq_true rfl) d_Rdr_restart_2 (fun H locs hP hD hS => ?_)
  have hP : va_P (dC, dI) vwCl (cw ad ca LA LE d_1) H := by rw [ed_1]; exact hP
  have hD : va_D A (cw ad ca LA LE d_1) := by rw [ed_1]; exact hD
  refine lv_aload_n hx hb d_Rdr_restart_5 rfl (lv_at hl 0 rfl) ?_
  refine lv_iconst (v := 1) hx hb d_Rdr_restart_6 (by decide) ?_
  obtain ⟨d_2, ed_2, hj⟩ := nm_some hj
  refine va_put (D := (dC, dI)) (ci := 5) (v := .int (1 : Int32)) (ty := .boolean) (C := "CardMessageDesk$Reader") (T := T_Rdr) (N := 3) hx hb hts in_Rdr ty_Rdr ty_Rdr_ok nm_Rdr hown hK hP hD hS 6 rfl rfl 2 (by decide) (hts _ tw50) (fun _ h9 => h9) rfl (by decide +kernel) rfl rfl (Nat.le_of_ble_eq_true rfl) d_Rdr_restart_7 (fun H locs hP hD hS => ?_)
  have hP : va_P (dC, dI) vwCl (cw ad ca LA LE d_2) H := by rw [ed_2]; exact hP
  have hD : va_D A (cw ad ca LA LE d_2) := by rw [ed_2]; exact hD
  obtain rfl := Option.some.inj hj
  exact W.vret hx hb hr (fun t ht hW => ⟨⟨_, rfl, rfl, by rw [ht]; exact hP, va_K.moved hW.alike hK, hD⟩, hS.F ht⟩) hS.2.2 d_Rdr_restart_10
set_option maxHeartbeats 4000000 in
set_option maxRecDepth 100000 in
theorem cc_ByteRow_byteAt_in (l : Launch) (dC : Nat → ClassId) (dI : Nat → Nat → Nat) (ad : Nat → Nat) (ca : Nat → ClassId) (LA LE : List Nat) (sz : Nat) (d : CS) (p1 : Int32)  (r9 : Int32) (hj : jc_ByteRow_byteAt_in LA LE d p1 = some r9) : Met l y_Row_byteAt w_Row_byteAt ({ frames := 0, cells := 0, slots := 0, locals := 0 }) (va_Pc [.ref (ad 1), .int p1] (cPre dC dI ad ca LA LE sz d)) (va_Qi (fun (r : Int32) (u : CS) => r = r9 ∧ u = d) (cAt dC dI ad ca LA LE (va_A (cw ad ca LA LE d) sz)) (va_A (cw ad ca LA LE d) sz)) 0 0 (va_A (cw ad ca LA LE d) sz) := by
  refine Met.ofW (cc := prog_3_method_3_code) (maxL := 2) (ret := (some .int)) (by decide) rfl ?_
  intro p e s m args below meth c s₁ B hml hv
  obtain ⟨rfl, hsz, hP, hK, hD0, hN⟩ := hv
  have hx := B.exec
  have hb := B.bytes
  have hr := B.returns
  have hts0 := atoms_spec (ws := w_Row_byteAt) B.pre
  have hts : ∀ w ∈ gt, w.before _ s = true := fun w h => hts0 w (List.mem_cons_of_mem _ h)
  have hown : s.vm.findClass "CardMessageDesk$ByteRow" = some m.cls := findClass_of_methodNamed B.named
  have hlocks := B.notSynchronized
  subst hsz
  have hD := hD0.self (sz := s.heap.size)
  generalize hAe : va_A (cw ad ca LA LE d) s.heap.size = A at hD ⊢
  have hA : ∀ q : Nat, s.heap.size ≤ q → A q := fun q h => by rw [← hAe]; exact Or.inr h
  have hS : va_S A s.heap s.heap [] := va_S.rf
  have hl := lv_entry ([.ref (ad 1), .int p1]) (n := 2) (Nat.le_of_ble_eq_true rfl)
  rw [lg_entry_eq]
  generalize (lg_sl ([.ref (ad 1), .int p1]) ++ List.replicate (2 - (lg_sl ([.ref (ad 1), .int p1])).length) Slot.unset).toArray = ls at hl ⊢
  have hl : lv_has ls 2 [(0, .ref (ad 1)), (1, .int p1)] := hl
  unfold jc_ByteRow_byteAt_in at hj
  refine lv_iload_n hx hb d_Row_byteAt_0 rfl (lv_at hl 1 rfl) ?_
  refine lv_if_lt (tgt := 21) hx hb d_Row_byteAt_1 (by decide) (fun c_1 => ?_) (fun c_1 => ?_)
  · have hj := it_p hj c_1
    refine lv_iconst (v := (-1)) hx hb d_Row_byteAt_21 (by decide) ?_
    obtain rfl := Option.some.inj hj
    exact W.iret hx hb hr (fun t ht hW => ⟨⟨_, _, rfl, ⟨rfl, rfl⟩, by rw [ht]; exact hP, va_K.moved hW.alike hK, hD⟩, hS.F ht⟩) hS.2.2 d_Row_byteAt_22
  · have hj := it_n hj c_1
    refine lv_iload_n hx hb d_Row_byteAt_4 rfl (lv_at hl 1 rfl) ?_
    refine lv_aload_n hx hb d_Row_byteAt_5 rfl (lv_at hl 0 rfl) ?_
    refine va_get (D := (dC, dI)) (ci := 1) (v := .int (cg_inSize d)) (C := "CardMessageDesk$ByteRow") (T := T_Row) (N := 2) hx hb hts in_Row hown hK hP 1 rfl rfl 1 (by decide) (hts _ tw26) (fun _ h9 => h9) rfl d_Row_byteAt_6 ?_
    refine lv_icmp_ge (tgt := 21) hx hb d_Row_byteAt_9 (by decide) (fun c_2 => ?_) (fun c_2 => ?_)
    · have hj := it_p hj c_2
      refine lv_iconst (v := (-1)) hx hb d_Row_byteAt_21 (by decide) ?_
      obtain rfl := Option.some.inj hj
      exact W.iret hx hb hr (fun t ht hW => ⟨⟨_, _, rfl, ⟨rfl, rfl⟩, by rw [ht]; exact hP, va_K.moved hW.alike hK, hD⟩, hS.F ht⟩) hS.2.2 d_Row_byteAt_22
    · have hj := it_n hj c_2
      refine lv_aload_n hx hb d_Row_byteAt_12 rfl (lv_at hl 0 rfl) ?_
      refine va_get (D := (dC, dI)) (ci := 1) (v := .ref (ad 2)) (C := "CardMessageDesk$ByteRow") (T := T_Row) (N := 2) hx hb hts in_Row hown hK hP 1 rfl rfl 0 (by decide) (hts _ tw25) (fun _ h9 => h9) rfl d_Row_byteAt_13 ?_
      refine lv_iload_n hx hb d_Row_byteAt_16 rfl (lv_at hl 1 rfl) ?_
      obtain ⟨hi_3, hj⟩ := gd_some hj
      refine va_iald hx hb hK hP 2 0 rfl rfl hi_3 d_Row_byteAt_17 ?_
      refine lv_goto (tgt := 22) hx hb d_Row_byteAt_18 (by decide) ?_
      obtain rfl := Option.some.inj hj
      exact W.iret hx hb hr (fun t ht hW => ⟨⟨_, _, rfl, ⟨rfl, rfl⟩, by rw [ht]; exact hP, va_K.moved hW.alike hK, hD⟩, hS.F ht⟩) hS.2.2 d_Row_byteAt_22
set_option maxHeartbeats 4000000 in
set_option maxRecDepth 100000 in
theorem cc_Reader_readByte (l : Launch) (dC : Nat → ClassId) (dI : Nat → Nat → Nat) (ad : Nat → Nat) (ca : Nat → ClassId) (LA LE : List Nat) (sz : Nat) (d : CS)   (r9 : Int32) (d9 : CS) (hj : jc_Reader_readByte LA LE d = some (r9, d9)) : Met l y_Rdr_readByte w_Rdr_readByte ({ frames := 1, cells := 0, slots := 0, locals := 21 }) (va_Pc [.ref (ad 6)] (cPre dC dI ad ca LA LE sz d)) (va_Qi (fun (r : Int32) (u : CS) => r = r9 ∧ u = d9) (cAt dC dI ad ca LA LE (va_A (cw ad ca LA LE d) sz)) (va_A (cw ad ca LA LE d) sz)) 0 0 (va_A (cw ad ca LA LE d) sz) := by
  refine Met.ofW (cc := prog_7_method_4_code) (maxL := 2) (ret := (some .int)) (by decide) rfl ?_
  intro p e s m args below meth c s₁ B hml hv
  obtain ⟨rfl, hsz, hP, hK, hD0, hN⟩ := hv
  have hx := B.exec
  have hb := B.bytes
  have hr := B.returns
  have hts0 := atoms_spec (ws := w_Rdr_readByte) B.pre
  have hts : ∀ w ∈ gt, w.before _ s = true := fun w h => hts0 w (List.mem_cons_of_mem _ h)
  have hown : s.vm.findClass "CardMessageDesk$Reader" = some m.cls := findClass_of_methodNamed B.named
  have hlocks := B.notSynchronized
  subst hsz
  have hD := hD0.self (sz := s.heap.size)
  generalize hAe : va_A (cw ad ca LA LE d) s.heap.size = A at hD ⊢
  have hA : ∀ q : Nat, s.heap.size ≤ q → A q := fun q h => by rw [← hAe]; exact Or.inr h
  have hS : va_S A s.heap s.heap [] := va_S.rf
  have hl := lv_entry ([.ref (ad 6)]) (n := 2) (Nat.le_of_ble_eq_true rfl)
  rw [lg_entry_eq]
  generalize (lg_sl ([.ref (ad 6)]) ++ List.replicate (2 - (lg_sl ([.ref (ad 6)])).length) Slot.unset).toArray = ls at hl ⊢
  have hl : lv_has ls 2 [(0, .ref (ad 6))] := hl
  unfold jc_Reader_readByte at hj
  refine lv_aload_n hx hb d_Rdr_readByte_0 rfl (lv_at hl 0 rfl) ?_
  refine va_get (D := (dC, dI)) (ci := 5) (v := .ref (ad 1)) (C := "CardMessageDesk$Reader") (T := T_Rdr) (N := 3) hx hb hts in_Rdr hown hK hP 6 rfl rfl 0 (by decide) (hts _ tw47) (fun _ h9 => h9) rfl d_Rdr_readByte_1 ?_
  refine lv_aload_n hx hb d_Rdr_readByte_4 rfl (lv_at hl 0 rfl) ?_
  refine va_get (D := (dC, dI)) (ci := 5) (v := .int (cg_rdPlace d)) (C := "CardMessageDesk$Reader") (T := T_Rdr) (N := 3) hx hb hts in_Rdr hown hK hP 6 rfl rfl 1 (by decide) (hts _ tw48) (fun _ h9 => h9) rfl d_Rdr_readByte_5 ?_
  obtain ⟨v_1, hc_1, hj⟩ := bd_some hj
  have hF_1 := va_fr hD hS hA
  refine va_calli (va_runV (As := [.int (cg_rdPlace d)]) (rest := []) ⟨hx, hb, hml, hown, hts⟩ (cc_ByteRow_byteAt_in l dC dI ad ca LA LE s.heap.size d (cg_rdPlace d)  v_1 hc_1) (cwV 1 hts (gtV tw269 tw270 tw271 tw2 tw272) rfl rfl rfl (by decide +kernel) ⟨Nat.le_of_ble_eq_true rfl, Nat.le_of_ble_eq_true rfl⟩) ⟨cBl, va_recv hK hP (ci := 1) (q0 := 1) rfl rfl, fun U hU hW => ⟨rfl, cPr hP hK hD hN hU hW⟩⟩ rfl rfl hl.1 rfl (lv_room (Nat.le_of_ble_eq_true rfl)) d_Rdr_readByte_8 ⟨Nat.zero_le _, Nat.zero_le _⟩) hS (fun q _ h => hF_1 q h) hF_1 (fun r u t H locs ht hvm hw hB hz1 hk1 hS => ?_)
  obtain ⟨hw1, hw2⟩ := hw
  have hw1 := hw1.symm
  subst hw1
  have hw2 := hw2.symm
  subst hw2
  obtain ⟨hP, hD⟩ := cAf hB ht hF_1
  refine lv_istore_n (lv' := [(1, .int v_1), (0, .ref (ad 6))]) hx hb d_Rdr_readByte_11 rfl hl (by decide) rfl (fun ls hl => ?_)
  refine lv_iload_n hx hb d_Rdr_readByte_12 rfl (lv_at hl 0 rfl) ?_
  refine lv_iconst (v := (-1)) hx hb d_Rdr_readByte_13 (by decide) ?_
  refine lv_icmp_ne (tgt := 24) hx hb d_Rdr_readByte_14 (by decide) (fun c_2 => ?_) (fun c_2 => ?_)
  · have hj := it_n hj c_2
    refine lv_aload_n hx hb d_Rdr_readByte_24 rfl (lv_at hl 1 rfl) ?_
    refine lv_dup hx hb d_Rdr_readByte_25 rfl ?_
    refine va_get (D := (dC, dI)) (ci := 5) (v := .int (cg_rdPlace d)) (C := "CardMessageDesk$Reader") (T := T_Rdr) (N := 3) hx hb hts in_Rdr hown hK hP 6 rfl rfl 1 (by decide) (hts _ tw48) (fun _ h9 => h9) rfl d_Rdr_readByte_26 ?_
    refine lv_iconst (v := 1) hx hb d_Rdr_readByte_29 (by decide) ?_
    refine lv_iadd hx hb d_Rdr_readByte_30 ?_
    obtain ⟨d_3, ed_3, hj⟩ := nm_some hj
    refine va_put (D := (dC, dI)) (ci := 5) (v := .int ((cg_rdPlace d) + (1 : Int32))) (ty := .int) (C := "CardMessageDesk$Reader") (T := T_Rdr) (N := 3) hx hb hts in_Rdr ty_Rdr ty_Rdr_ok nm_Rdr hown hK hP hD hS 6 rfl rfl 1 (by decide) (hts _ tw48) (fun _ h9 => h9) rfl (by decide +kernel) rfl rfl (Nat.le_of_ble_eq_true rfl) d_Rdr_readByte_31 (fun H locs hP hD hS => ?_)
    have hP : va_P (dC, dI) vwCl (cw ad ca LA LE d_3) H := by rw [ed_3]; exact hP
    have hD : va_D A (cw ad ca LA LE d_3) := by rw [ed_3]; exact hD
    refine lv_iload_n hx hb d_Rdr_readByte_34 rfl (lv_at hl 0 rfl) ?_
    obtain ⟨rfl, rfl⟩ := rt_some hj
    exact W.iret hx hb hr (fun t ht hW => ⟨⟨_, _, rfl, ⟨rfl, rfl⟩, by rw [ht]; exact hP, va_K.moved hW.alike hK, hD⟩, hS.F ht⟩) hS.2.2 d_Rdr_readByte_35
  · have hj := it_p hj c_2
    refine lv_aload_n hx hb d_Rdr_readByte_17 rfl (lv_at hl 1 rfl) ?_
    refine lv_iconst (v := 0) hx hb d_Rdr_readByte_18 (by decide) ?_
    obtain ⟨d_4, ed_4, hj⟩ := nm_some hj
    refine va_put (D := (dC, dI)) (ci := 5) (v := .int (0 : Int32)) (ty := .boolean) (C := "CardMessageDesk$Reader") (T := T_Rdr) (N := 3) hx hb hts in_Rdr ty_Rdr ty_Rdr_ok nm_Rdr hown hK hP hD hS 6 rfl rfl 2 (by decide) (hts _ tw50) (fun _ h9 => h9) rfl (by decide +kernel) rfl rfl (Nat.le_of_ble_eq_true rfl) d_Rdr_readByte_19 (fun H locs hP hD hS => ?_)
    have hP : va_P (dC, dI) vwCl (cw ad ca LA LE d_4) H := by rw [ed_4]; exact hP
    have hD : va_D A (cw ad ca LA LE d_4) := by rw [ed_4]; exact hD
    refine lv_iconst (v := 0) hx hb d_Rdr_readByte_22 (by decide) ?_
    obtain ⟨rfl, rfl⟩ := rt_some hj
    exact W.iret hx hb hr (fun t ht hW => ⟨⟨_, _, rfl, ⟨rfl, rfl⟩, by rw [ht]; exact hP, va_K.moved hW.alike hK, hD⟩, hS.F ht⟩) hS.2.2 d_Rdr_readByte_23
set_option maxHeartbeats 4000000 in
set_option maxRecDepth 100000 in
theorem cc_Reader_readDigits_L19 {p : Program} {l : Launch} {e : Env} {s : State} {m : MethodId} {args : Array Value} {below : List Frame} {meth : Method} {c : Code} {dC : Nat → ClassId} {dI : Nat → Nat → Nat} {ad : Nat → Nat} {ca : Nat → ClassId} {LA LE : List Nat} {A : Nat → Prop}  (x1 : Int32)  (r9 : Int64) (d9 : CS) (hx : p.tables.exec = Jvm.exec) (hb : c.code = prog_7_method_6_code) (hr : meth.sig.returnType = (some .long)) (hlocks : meth.locks = false) (hml : c.maxLocals = 9) (hown : s.vm.findClass "CardMessageDesk$Reader" = some m.cls) (hts : ∀ w ∈ gt, w.before args s = true) (hN : nw s) (hA : ∀ q : Nat, s.heap.size ≤ q → A q) (hK : va_K (dC, dI) vwCl (cT ca) s) :
    ∀ (n : Nat) (d : CS) (x2 : Int64) (x4 : Int32) (x5 : Int32) (H : Heap) (locs : List Loc) (ls : Array Slot), loopF (jc_Reader_readDigits_L19 LA LE x1) n (d, x2, x4, x5) = some (r9, d9) → va_P (dC, dI) vwCl (cw ad ca LA LE d) H → va_D A (cw ad ca LA LE d) → va_S A s.heap H locs → lv_has ls 9 [(0, .ref (ad 6)), (1, .int x1), (2, .long x2), (4, .int x4), (5, .int x5)] → W p l e ({ frames := 2, cells := 0, slots := 0, locals := 42 }) s m args below meth c H locs 0 0 (MQ below (va_Ql (fun (r : Int64) (u : CS) => r = r9 ∧ u = d9) (cAt dC dI ad ca LA LE A) A) args s 0 0 A) (F0 m 19 ls []) := by
  intro n
  induction n with
  | zero =>
    intro d x2 x4 x5 H locs ls hj
    exact (loopF_z hj).elim
  | succ n ih =>
    intro d x2 x4 x5 H locs ls hj hP hD hS hl
    have hj := loopF_s hj
    unfold jc_Reader_readDigits_L19 at hj
    try dsimp only at hj
    refine lv_iload hx hb d_Rdr_readDigits_19 (lv_at hl 4 rfl) ?_
    refine lv_iload_n hx hb d_Rdr_readDigits_21 rfl (lv_at hl 1 rfl) ?_
    refine lv_icmp_ge (tgt := 90) hx hb d_Rdr_readDigits_22 (by decide) (fun c_2 => ?_) (fun c_2 => ?_)
    · have hj := it_p hj c_2
      refine lv_lload_n hx hb d_Rdr_readDigits_90 rfl (lv_at hl 2 rfl) ?_
      obtain ⟨rfl, rfl⟩ := rt_some hj
      exact W.lret hx hb hr (fun t ht hW => ⟨⟨_, _, rfl, ⟨rfl, rfl⟩, by rw [ht]; exact hP, va_K.moved hW.alike hK, hD⟩, hS.F ht⟩) hS.2.2 d_Rdr_readDigits_91
    · have hj := it_n hj c_2
      refine lv_aload_n hx hb d_Rdr_readDigits_25 rfl (lv_at hl 0 rfl) ?_
      obtain ⟨p_3, hc_3, hj⟩ := bd_some hj
      have hF_3 := va_fr hD hS hA
      refine va_calli (va_runV (As := []) (rest := []) ⟨hx, hb, hml, hown, hts⟩ (cc_Reader_readByte l dC dI ad ca LA LE H.size d   p_3.1 p_3.2 hc_3) (cwV 0 hts (gtV tw265 tw266 tw267 tw4 tw268) rfl rfl rfl (by decide +kernel) ⟨Nat.le_of_ble_eq_true rfl, Nat.le_of_ble_eq_true rfl⟩) ⟨cBl, va_recv hK hP (ci := 5) (q0 := 6) rfl rfl, fun U hU hW => ⟨rfl, cPr hP hK hD hN hU hW⟩⟩ rfl rfl hl.1 rfl (lv_room (Nat.le_of_ble_eq_true rfl)) d_Rdr_readDigits_26 ⟨Nat.zero_le _, Nat.zero_le _⟩) hS (fun q _ h => hF_3 q h) hF_3 (fun r u t H locs ht hvm hw hB hz1 hk1 hS => ?_)
      obtain ⟨hw1, hw2⟩ := hw
      have hw1 := hw1.symm
      subst hw1
      have hw2 := hw2.symm
      subst hw2
      obtain ⟨hP, hD⟩ := cAf hB ht hF_3
      refine lv_istore (lv' := [(6, .int p_3.1), (0, .ref (ad 6)), (1, .int x1), (2, .long x2), (4, .int x4), (5, .int x5)]) hx hb d_Rdr_readDigits_29 hl (by decide) rfl (fun ls hl => ?_)
      refine lv_iload hx hb d_Rdr_readDigits_31 (lv_at hl 0 rfl) ?_
      refine lv_iconst (v := 4) hx hb d_Rdr_readDigits_33 (by decide) ?_
      refine lv_ishr hx hb d_Rdr_readDigits_34 ?_
      refine lv_istore (lv' := [(7, .int (p_3.1 >>> ((4 : Int32) &&& 31))), (6, .int p_3.1), (0, .ref (ad 6)), (1, .int x1), (2, .long x2), (4, .int x4), (5, .int x5)]) hx hb d_Rdr_readDigits_35 hl (by decide) rfl (fun ls hl => ?_)
      refine lv_iload hx hb d_Rdr_readDigits_37 (lv_at hl 1 rfl) ?_
      refine lv_bipush (v := 15) hx hb d_Rdr_readDigits_39 (by decide) ?_
      refine lv_iand hx hb d_Rdr_readDigits_41 ?_
      refine lv_istore (lv' := [(8, .int (p_3.1 &&& (15 : Int32))), (7, .int (p_3.1 >>> ((4 : Int32) &&& 31))), (6, .int p_3.1), (0, .ref (ad 6)), (1, .int x1), (2, .long x2), (4, .int x4), (5, .int x5)]) hx hb d_Rdr_readDigits_42 hl (by decide) rfl (fun ls hl => ?_)
      refine lv_iload hx hb d_Rdr_readDigits_44 (lv_at hl 1 rfl) ?_
      refine lv_iload hx hb d_Rdr_readDigits_46 (lv_at hl 6 rfl) ?_
      refine lv_icmp_gt (tgt := 58) hx hb d_Rdr_readDigits_48 (by decide) (fun c_4 => ?_) (fun c_4 => ?_)
      · have hj := it_p hj c_4
        refine lv_aload_n hx hb d_Rdr_readDigits_58 rfl (lv_at hl 3 rfl) ?_
        refine lv_iconst (v := 0) hx hb d_Rdr_readDigits_59 (by decide) ?_
        obtain ⟨d_5, ed_5, hj⟩ := nm_some hj
        refine va_put (D := (dC, dI)) (ci := 5) (v := .int (0 : Int32)) (ty := .boolean) (C := "CardMessageDesk$Reader") (T := T_Rdr) (N := 3) hx hb hts in_Rdr ty_Rdr ty_Rdr_ok nm_Rdr hown hK hP hD hS 6 rfl rfl 2 (by decide) (hts _ tw50) (fun _ h9 => h9) rfl (by decide +kernel) rfl rfl (Nat.le_of_ble_eq_true rfl) d_Rdr_readDigits_60 (fun H locs hP hD hS => ?_)
        have hP : va_P (dC, dI) vwCl (cw ad ca LA LE d_5) H := by rw [ed_5]; exact hP
        have hD : va_D A (cw ad ca LA LE d_5) := by rw [ed_5]; exact hD
        refine lv_lload_n hx hb d_Rdr_readDigits_63 rfl (lv_at hl 5 rfl) ?_
        refine lv_ldc2 (v := 100) hx hb hown (hts _ tw273) d_Rdr_readDigits_64 ?_
        refine lv_lmul hx hb d_Rdr_readDigits_67 ?_
        refine lv_iload hx hb d_Rdr_readDigits_68 (lv_at hl 1 rfl) ?_
        refine lv_bipush (v := 10) hx hb d_Rdr_readDigits_70 (by decide) ?_
        refine lv_imul hx hb d_Rdr_readDigits_72 ?_
        refine lv_i2l (v := (((p_3.1 >>> ((4 : Int32) &&& 31)) * (10 : Int32))).toInt64) hx hb d_Rdr_readDigits_73 rfl ?_
        refine lv_ladd hx hb d_Rdr_readDigits_74 ?_
        refine lv_iload hx hb d_Rdr_readDigits_75 (lv_at hl 0 rfl) ?_
        refine lv_i2l (v := ((p_3.1 &&& (15 : Int32))).toInt64) hx hb d_Rdr_readDigits_77 rfl ?_
        refine lv_ladd hx hb d_Rdr_readDigits_78 ?_
        refine lv_lstore_n (lv' := [(2, .long (((x2 * (100 : Int64)) + (((p_3.1 >>> ((4 : Int32) &&& 31)) * (10 : Int32))).toInt64) + ((p_3.1 &&& (15 : Int32))).toInt64)), (8, .int (p_3.1 &&& (15 : Int32))), (7, .int (p_3.1 >>> ((4 : Int32) &&& 31))), (6, .int p_3.1), (0, .ref (ad 6)), (1, .int x1), (4, .int x4), (5, .int x5)]) hx hb d_Rdr_readDigits_79 rfl hl (by decide) rfl (fun ls hl => ?_)
        refine lv_bipush (v := 9) hx hb d_Rdr_readDigits_80 (by decide) ?_
        refine lv_istore (lv' := [(4, .int (9 : Int32)), (2, .long (((x2 * (100 : Int64)) + (((p_3.1 >>> ((4 : Int32) &&& 31)) * (10 : Int32))).toInt64) + ((p_3.1 &&& (15 : Int32))).toInt64)), (8, .int (p_3.1 &&& (15 : Int32))), (7, .int (p_3.1 >>> ((4 : Int32) &&& 31))), (6, .int p_3.1), (0, .ref (ad 6)), (1, .int x1), (5, .int x5)]) hx hb d_Rdr_readDigits_82 hl (by decide) rfl (fun ls hl => ?_)
        refine lv_iinc (v := (x5 + 2)) (lv' := [(5, .int (x5 + 2)), (4, .int (9 : Int32)), (2, .long (((x2 * (100 : Int64)) + (((p_3.1 >>> ((4 : Int32) &&& 31)) * (10 : Int32))).toInt64) + ((p_3.1 &&& (15 : Int32))).toInt64)), (8, .int (p_3.1 &&& (15 : Int32))), (7, .int (p_3.1 >>> ((4 : Int32) &&& 31))), (6, .int p_3.1), (0, .ref (ad 6)), (1, .int x1)]) hx hb d_Rdr_readDigits_84 hl (k := 7) rfl rfl (by decide) rfl (fun ls hl => ?_)
        refine lv_goto (tgt := 19) hx hb d_Rdr_readDigits_87 (by decide) ?_
        exact ih d_5 (((x2 * (100 : Int64)) + (((p_3.1 >>> ((4 : Int32) &&& 31)) * (10 : Int32))).toInt64) + ((p_3.1 &&& (15 : Int32))).toInt64) (9 : Int32) (x5 + 2) H locs ls hj hP hD hS (lv_sub hl [6, 7, 2, 1, 0] rfl)
      · have hj := it_n hj c_4
        refine lv_iload hx hb d_Rdr_readDigits_51 (lv_at hl 0 rfl) ?_
        refine lv_bipush (v := 9) hx hb d_Rdr_readDigits_53 (by decide) ?_
        refine lv_icmp_le (tgt := 63) hx hb d_Rdr_readDigits_55 (by decide) (fun c_6 => ?_) (fun c_6 => ?_)
        · have hj := it_p hj c_6
          refine lv_lload_n hx hb d_Rdr_readDigits_63 rfl (lv_at hl 5 rfl) ?_
          refine lv_ldc2 (v := 100) hx hb hown (hts _ tw273) d_Rdr_readDigits_64 ?_
          refine lv_lmul hx hb d_Rdr_readDigits_67 ?_
          refine lv_iload hx hb d_Rdr_readDigits_68 (lv_at hl 1 rfl) ?_
          refine lv_bipush (v := 10) hx hb d_Rdr_readDigits_70 (by decide) ?_
          refine lv_imul hx hb d_Rdr_readDigits_72 ?_
          refine lv_i2l (v := (((p_3.1 >>> ((4 : Int32) &&& 31)) * (10 : Int32))).toInt64) hx hb d_Rdr_readDigits_73 rfl ?_
          refine lv_ladd hx hb d_Rdr_readDigits_74 ?_
          refine lv_iload hx hb d_Rdr_readDigits_75 (lv_at hl 0 rfl) ?_
          refine lv_i2l (v := ((p_3.1 &&& (15 : Int32))).toInt64) hx hb d_Rdr_readDigits_77 rfl ?_
          refine lv_ladd hx hb d_Rdr_readDigits_78 ?_
          refine lv_lstore_n (lv' := [(2, .long (((x2 * (100 : Int64)) + (((p_3.1 >>> ((4 : Int32) &&& 31)) * (10 : Int32))).toInt64) + ((p_3.1 &&& (15 : Int32))).toInt64)), (8, .int (p_3.1 &&& (15 : Int32))), (7, .int (p_3.1 >>> ((4 : Int32) &&& 31))), (6, .int p_3.1), (0, .ref (ad 6)), (1, .int x1), (4, .int x4), (5, .int x5)]) hx hb d_Rdr_readDigits_79 rfl hl (by decide) rfl (fun ls hl => ?_)
          refine lv_bipush (v := 9) hx hb d_Rdr_readDigits_80 (by decide) ?_
          refine lv_istore (lv' := [(4, .int (9 : Int32)), (2, .long (((x2 * (100 : Int64)) + (((p_3.1 >>> ((4 : Int32) &&& 31)) * (10 : Int32))).toInt64) + ((p_3.1 &&& (15 : Int32))).toInt64)), (8, .int (p_3.1 &&& (15 : Int32))), (7, .int (p_3.1 >>> ((4 : Int32) &&& 31))), (6, .int p_3.1), (0, .ref (ad 6)), (1, .int x1), (5, .int x5)]) hx hb d_Rdr_readDigits_82 hl (by decide) rfl (fun ls hl => ?_)
          refine lv_iinc (v := (x5 + 2)) (lv' := [(5, .int (x5 + 2)), (4, .int (9 : Int32)), (2, .long (((x2 * (100 : Int64)) + (((p_3.1 >>> ((4 : Int32) &&& 31)) * (10 : Int32))).toInt64) + ((p_3.1 &&& (15 : Int32))).toInt64)), (8, .int (p_3.1 &&& (15 : Int32))), (7, .int (p_3.1 >>> ((4 : Int32) &&& 31))), (6, .int p_3.1), (0, .ref (ad 6)), (1, .int x1)]) hx hb d_Rdr_readDigits_84 hl (k := 7) rfl rfl (by decide) rfl (fun ls hl => ?_)
          refine lv_goto (tgt := 19) hx hb d_Rdr_readDigits_87 (by decide) ?_
          exact ih p_3.2 (((x2 * (100 : Int64)) + (((p_3.1 >>> ((4 : Int32) &&& 31)) * (10 : Int32))).toInt64) + ((p_3.1 &&& (15 : Int32))).toInt64) (9 : Int32) (x5 + 2) H locs ls hj hP hD hS (lv_sub hl [6, 7, 2, 1, 0] rfl)
        · have hj := it_n hj c_6
          refine lv_aload_n hx hb d_Rdr_readDigits_58 rfl (lv_at hl 3 rfl) ?_
          refine lv_iconst (v := 0) hx hb d_Rdr_readDigits_59 (by decide) ?_
          obtain ⟨d_7, ed_7, hj⟩ := nm_some hj
          refine va_put (D := (dC, dI)) (ci := 5) (v := .int (0 : Int32)) (ty := .boolean) (C := "CardMessageDesk$Reader") (T := T_Rdr) (N := 3) hx hb hts in_Rdr ty_Rdr ty_Rdr_ok nm_Rdr hown hK hP hD hS 6 rfl rfl 2 (by decide) (hts _ tw50) (fun _ h9 => h9) rfl (by decide +kernel) rfl rfl (Nat.le_of_ble_eq_true rfl) d_Rdr_readDigits_60 (fun H locs hP hD hS => ?_)
          have hP : va_P (dC, dI) vwCl (cw ad ca LA LE d_7) H := by rw [ed_7]; exact hP
          have hD : va_D A (cw ad ca LA LE d_7) := by rw [ed_7]; exact hD
          refine lv_lload_n hx hb d_Rdr_readDigits_63 rfl (lv_at hl 5 rfl) ?_
          refine lv_ldc2 (v := 100) hx hb hown (hts _ tw273) d_Rdr_readDigits_64 ?_
          refine lv_lmul hx hb d_Rdr_readDigits_67 ?_
          refine lv_iload hx hb d_Rdr_readDigits_68 (lv_at hl 1 rfl) ?_
          refine lv_bipush (v := 10) hx hb d_Rdr_readDigits_70 (by decide) ?_
          refine lv_imul hx hb d_Rdr_readDigits_72 ?_
          refine lv_i2l (v := (((p_3.1 >>> ((4 : Int32) &&& 31)) * (10 : Int32))).toInt64) hx hb d_Rdr_readDigits_73 rfl ?_
          refine lv_ladd hx hb d_Rdr_readDigits_74 ?_
          refine lv_iload hx hb d_Rdr_readDigits_75 (lv_at hl 0 rfl) ?_
          refine lv_i2l (v := ((p_3.1 &&& (15 : Int32))).toInt64) hx hb d_Rdr_readDigits_77 rfl ?_
          refine lv_ladd hx hb d_Rdr_readDigits_78 ?_
          refine lv_lstore_n (lv' := [(2, .long (((x2 * (100 : Int64)) + (((p_3.1 >>> ((4 : Int32) &&& 31)) * (10 : Int32))).toInt64) + ((p_3.1 &&& (15 : Int32))).toInt64)), (8, .int (p_3.1 &&& (15 : Int32))), (7, .int (p_3.1 >>> ((4 : Int32) &&& 31))), (6, .int p_3.1), (0, .ref (ad 6)), (1, .int x1), (4, .int x4), (5, .int x5)]) hx hb d_Rdr_readDigits_79 rfl hl (by decide) rfl (fun ls hl => ?_)
          refine lv_bipush (v := 9) hx hb d_Rdr_readDigits_80 (by decide) ?_
          refine lv_istore (lv' := [(4, .int (9 : Int32)), (2, .long (((x2 * (100 : Int64)) + (((p_3.1 >>> ((4 : Int32) &&& 31)) * (10 : Int32))).toInt64) + ((p_3.1 &&& (15 : Int32))).toInt64)), (8, .int (p_3.1 &&& (15 : Int32))), (7, .int (p_3.1 >>> ((4 : Int32) &&& 31))), (6, .int p_3.1), (0, .ref (ad 6)), (1, .int x1), (5, .int x5)]) hx hb d_Rdr_readDigits_82 hl (by decide) rfl (fun ls hl => ?_)
          refine lv_iinc (v := (x5 + 2)) (lv' := [(5, .int (x5 + 2)), (4, .int (9 : Int32)), (2, .long (((x2 * (100 : Int64)) + (((p_3.1 >>> ((4 : Int32) &&& 31)) * (10 : Int32))).toInt64) + ((p_3.1 &&& (15 : Int32))).toInt64)), (8, .int (p_3.1 &&& (15 : Int32))), (7, .int (p_3.1 >>> ((4 : Int32) &&& 31))), (6, .int p_3.1), (0, .ref (ad 6)), (1, .int x1)]) hx hb d_Rdr_readDigits_84 hl (k := 7) rfl rfl (by decide) rfl (fun ls hl => ?_)
          refine lv_goto (tgt := 19) hx hb d_Rdr_readDigits_87 (by decide) ?_
          exact ih d_7 (((x2 * (100 : Int64)) + (((p_3.1 >>> ((4 : Int32) &&& 31)) * (10 : Int32))).toInt64) + ((p_3.1 &&& (15 : Int32))).toInt64) (9 : Int32) (x5 + 2) H locs ls hj hP hD hS (lv_sub hl [6, 7, 2, 1, 0] rfl)
set_option maxHeartbeats 4000000 in
set_option maxRecDepth 100000 in
theorem cc_Reader_readDigits (l : Launch) (dC : Nat → ClassId) (dI : Nat → Nat → Nat) (ad : Nat → Nat) (ca : Nat → ClassId) (LA LE : List Nat) (sz : Nat) (d : CS) (p1 : Int32)  (r9 : Int64) (d9 : CS) (hj : jc_Reader_readDigits LA LE d p1 = some (r9, d9)) : Met l y_Rdr_readDigits w_Rdr_readDigits ({ frames := 2, cells := 0, slots := 0, locals := 42 }) (va_Pc [.ref (ad 6), .int p1] (cPre dC dI ad ca LA LE sz d)) (va_Ql (fun (r : Int64) (u : CS) => r = r9 ∧ u = d9) (cAt dC dI ad ca LA LE (va_A (cw ad ca LA LE d) sz)) (va_A (cw ad ca LA LE d) sz)) 0 0 (va_A (cw ad ca LA LE d) sz) := by
  refine Met.ofW (cc := prog_7_method_6_code) (maxL := 9) (ret := (some .long)) (by decide) rfl ?_
  intro p e s m args below meth c s₁ B hml hv
  obtain ⟨rfl, hsz, hP, hK, hD0, hN⟩ := hv
  have hx := B.exec
  have hb := B.bytes
  have hr := B.returns
  have hts0 := atoms_spec (ws := w_Rdr_readDigits) B.pre
  have hts : ∀ w ∈ gt, w.before _ s = true := fun w h => hts0 w (List.mem_cons_of_mem _ h)
  have hown : s.vm.findClass "CardMessageDesk$Reader" = some m.cls := findClass_of_methodNamed B.named
  have hlocks := B.notSynchronized
  subst hsz
  have hD := hD0.self (sz := s.heap.size)
  generalize hAe : va_A (cw ad ca LA LE d) s.heap.size = A at hD ⊢
  have hA : ∀ q : Nat, s.heap.size ≤ q → A q := fun q h => by rw [← hAe]; exact Or.inr h
  have hS : va_S A s.heap s.heap [] := va_S.rf
  have hl := lv_entry ([.ref (ad 6), .int p1]) (n := 9) (Nat.le_of_ble_eq_true rfl)
  rw [lg_entry_eq]
  generalize (lg_sl ([.ref (ad 6), .int p1]) ++ List.replicate (9 - (lg_sl ([.ref (ad 6), .int p1])).length) Slot.unset).toArray = ls at hl ⊢
  have hl : lv_has ls 9 [(0, .ref (ad 6)), (1, .int p1)] := hl
  unfold jc_Reader_readDigits at hj
  refine lv_lconst (v := 0) hx hb d_Rdr_readDigits_0 (by decide) ?_
  refine lv_lstore_n (lv' := [(2, .long (0 : Int64)), (0, .ref (ad 6)), (1, .int p1)]) hx hb d_Rdr_readDigits_1 rfl hl (by decide) rfl (fun ls hl => ?_)
  refine lv_iload_n hx hb d_Rdr_readDigits_2 rfl (lv_at hl 2 rfl) ?_
  refine lv_iconst (v := 2) hx hb d_Rdr_readDigits_3 (by decide) ?_
  refine lv_irem hx hb d_Rdr_readDigits_4 (by decide +kernel) ?_
  refine lv_if_ne (tgt := 13) hx hb d_Rdr_readDigits_5 (by decide) (fun c_1 => ?_) (fun c_1 => ?_)
  · have hj := it_n hj c_1
    refine lv_iconst (v := 0) hx hb d_Rdr_readDigits_13 (by decide) ?_
    refine lv_istore (lv' := [(4, .int (0 : Int32)), (2, .long (0 : Int64)), (0, .ref (ad 6)), (1, .int p1)]) hx hb d_Rdr_readDigits_14 hl (by decide) rfl (fun ls hl => ?_)
    refine lv_iconst (v := 0) hx hb d_Rdr_readDigits_16 (by decide) ?_
    refine lv_istore (lv' := [(5, .int (0 : Int32)), (4, .int (0 : Int32)), (2, .long (0 : Int64)), (0, .ref (ad 6)), (1, .int p1)]) hx hb d_Rdr_readDigits_17 hl (by decide) rfl (fun ls hl => ?_)
    exact cc_Reader_readDigits_L19  p1 _ _ hx hb hr hlocks hml hown hts hN hA hK 200 d (0 : Int64) (0 : Int32) (0 : Int32) _ _ ls hj hP hD hS (lv_sub hl [3, 4, 2, 1, 0] rfl)
  · have hj := it_p hj c_1
    refine lv_bipush (v := 9) hx hb d_Rdr_readDigits_8 (by decide) ?_
    refine lv_goto (tgt := 14) hx hb d_Rdr_readDigits_10 (by decide) ?_
    refine lv_istore (lv' := [(4, .int (9 : Int32)), (2, .long (0 : Int64)), (0, .ref (ad 6)), (1, .int p1)]) hx hb d_Rdr_readDigits_14 hl (by decide) rfl (fun ls hl => ?_)
    refine lv_iconst (v := 0) hx hb d_Rdr_readDigits_16 (by decide) ?_
    refine lv_istore (lv' := [(5, .int (0 : Int32)), (4, .int (9 : Int32)), (2, .long (0 : Int64)), (0, .ref (ad 6)), (1, .int p1)]) hx hb d_Rdr_readDigits_17 hl (by decide) rfl (fun ls hl => ?_)
    exact cc_Reader_readDigits_L19  p1 _ _ hx hb hr hlocks hml hown hts hN hA hK 200 d (0 : Int64) (9 : Int32) (0 : Int32) _ _ ls hj hP hD hS (lv_sub hl [3, 4, 2, 1, 0] rfl)
