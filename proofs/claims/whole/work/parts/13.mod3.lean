set_option maxHeartbeats 4000000 in
set_option maxRecDepth 100000 in
theorem cm_M_enter (l : Launch) (dC : Nat → ClassId) (dI : Nat → Nat → Nat) (bd : Nat → Nat) (cb : Nat → ClassId) (sz : Nat) (d : MS) (p1 : Int32) (p2 : Int32)  (d9 : MS) (hj : jm_M_enter d p1 p2 = some d9) : Met l y_Mod_enter w_Mod_enter ({ frames := 0, cells := 0, slots := 0, locals := 0 }) (va_Pc [.ref (bd 0), .int p1, .int p2] (mPre dC dI bd cb sz d)) (va_Qv (fun u : MS => u = d9) (mAt dC dI bd cb (va_A (mw bd cb d) sz)) (va_A (mw bd cb d) sz)) 0 0 (va_A (mw bd cb d) sz) := by
  refine Met.ofW (cc := prog_10_method_19_code) (maxL := 3) (ret := none) (by decide) rfl ?_
  intro p e s m args below meth c s₁ B hml hv
  obtain ⟨rfl, hsz, hP, hK, hD0, hN⟩ := hv
  have hx := B.exec
  have hb := B.bytes
  have hr := B.returns
  have hts0 := atoms_spec (ws := w_Mod_enter) B.pre
  have hts : ∀ w ∈ gt, w.before _ s = true := fun w h => hts0 w (List.mem_cons_of_mem _ h)
  have hown : s.vm.findClass "CardMessageDeskModel" = some m.cls := findClass_of_methodNamed B.named
  have hlocks := B.notSynchronized
  subst hsz
  have hD := hD0.self (sz := s.heap.size)
  generalize hAe : va_A (mw bd cb d) s.heap.size = A at hD ⊢
  have hA : ∀ q : Nat, s.heap.size ≤ q → A q := fun q h => by rw [← hAe]; exact Or.inr h
  have hS : va_S A s.heap s.heap [] := va_S.rf
  have hl := lv_entry ([.ref (bd 0), .int p1, .int p2]) (n := 3) (Nat.le_of_ble_eq_true rfl)
  rw [lg_entry_eq]
  generalize (lg_sl ([.ref (bd 0), .int p1, .int p2]) ++ List.replicate (3 - (lg_sl ([.ref (bd 0), .int p1, .int p2])).length) Slot.unset).toArray = ls at hl ⊢
  have hl : lv_has ls 3 [(0, .ref (bd 0)), (1, .int p1), (2, .int p2)] := hl
  unfold jm_M_enter at hj
  refine lv_aload_n hx hb d_Mod_enter_0 rfl (lv_at hl 0 rfl) ?_
  refine va_get (D := (dC, dI)) (ci := 8) (v := .ref (bd 8)) (C := "CardMessageDeskModel") (T := T_Mod) (N := 32) hx hb hts in_Mod hown hK hP 0 rfl rfl 21 (by decide) (hts _ tw521) (fun _ h9 => h9) rfl d_Mod_enter_1 ?_
  refine lv_aload_n hx hb d_Mod_enter_4 rfl (lv_at hl 0 rfl) ?_
  refine va_get (D := (dC, dI)) (ci := 8) (v := .int (mg_entries d)) (C := "CardMessageDeskModel") (T := T_Mod) (N := 32) hx hb hts in_Mod hown hK hP 0 rfl rfl 20 (by decide) (hts _ tw520) (fun _ h9 => h9) rfl d_Mod_enter_5 ?_
  refine lv_aload_n hx hb d_Mod_enter_8 rfl (lv_at hl 0 rfl) ?_
  refine va_get (D := (dC, dI)) (ci := 8) (v := .int (mg_type d)) (C := "CardMessageDeskModel") (T := T_Mod) (N := 32) hx hb hts in_Mod hown hK hP 0 rfl rfl 13 (by decide) (hts _ tw513) (fun _ h9 => h9) rfl d_Mod_enter_9 ?_
  obtain ⟨hi_1, hj⟩ := gd_some hj
  obtain ⟨d_2, ed_2, hj⟩ := nm_some hj
  refine va_iast hx hb hK hP hD hS 8 7 rfl rfl hi_1 d_Mod_enter_12 (fun H locs hP hD hS => ?_)
  have hP : va_P (dC, dI) vwCl (mw bd cb d_2) H := by rw [ed_2]; exact hP
  have hD : va_D A (mw bd cb d_2) := by rw [ed_2]; exact hD
  refine lv_aload_n hx hb d_Mod_enter_13 rfl (lv_at hl 0 rfl) ?_
  refine va_get (D := (dC, dI)) (ci := 8) (v := .ref (bd 9)) (C := "CardMessageDeskModel") (T := T_Mod) (N := 32) hx hb hts in_Mod hown hK hP 0 rfl rfl 22 (by decide) (hts _ tw522) (fun _ h9 => h9) rfl d_Mod_enter_14 ?_
  refine lv_aload_n hx hb d_Mod_enter_17 rfl (lv_at hl 0 rfl) ?_
  refine va_get (D := (dC, dI)) (ci := 8) (v := .int (mg_entries d_2)) (C := "CardMessageDeskModel") (T := T_Mod) (N := 32) hx hb hts in_Mod hown hK hP 0 rfl rfl 20 (by decide) (hts _ tw520) (fun _ h9 => h9) rfl d_Mod_enter_18 ?_
  refine lv_aload_n hx hb d_Mod_enter_21 rfl (lv_at hl 0 rfl) ?_
  refine va_get (D := (dC, dI)) (ci := 8) (v := .int (mg_terminal d_2)) (C := "CardMessageDeskModel") (T := T_Mod) (N := 32) hx hb hts in_Mod hown hK hP 0 rfl rfl 18 (by decide) (hts _ tw518) (fun _ h9 => h9) rfl d_Mod_enter_22 ?_
  obtain ⟨hi_3, hj⟩ := gd_some hj
  obtain ⟨d_4, ed_4, hj⟩ := nm_some hj
  refine va_iast hx hb hK hP hD hS 9 8 rfl rfl hi_3 d_Mod_enter_25 (fun H locs hP hD hS => ?_)
  have hP : va_P (dC, dI) vwCl (mw bd cb d_4) H := by rw [ed_4]; exact hP
  have hD : va_D A (mw bd cb d_4) := by rw [ed_4]; exact hD
  refine lv_aload_n hx hb d_Mod_enter_26 rfl (lv_at hl 0 rfl) ?_
  refine va_get (D := (dC, dI)) (ci := 8) (v := .ref (bd 10)) (C := "CardMessageDeskModel") (T := T_Mod) (N := 32) hx hb hts in_Mod hown hK hP 0 rfl rfl 23 (by decide) (hts _ tw523) (fun _ h9 => h9) rfl d_Mod_enter_27 ?_
  refine lv_aload_n hx hb d_Mod_enter_30 rfl (lv_at hl 0 rfl) ?_
  refine va_get (D := (dC, dI)) (ci := 8) (v := .int (mg_entries d_4)) (C := "CardMessageDeskModel") (T := T_Mod) (N := 32) hx hb hts in_Mod hown hK hP 0 rfl rfl 20 (by decide) (hts _ tw520) (fun _ h9 => h9) rfl d_Mod_enter_31 ?_
  refine lv_aload_n hx hb d_Mod_enter_34 rfl (lv_at hl 0 rfl) ?_
  refine va_get (D := (dC, dI)) (ci := 8) (v := .int (mg_trace d_4)) (C := "CardMessageDeskModel") (T := T_Mod) (N := 32) hx hb hts in_Mod hown hK hP 0 rfl rfl 17 (by decide) (hts _ tw517) (fun _ h9 => h9) rfl d_Mod_enter_35 ?_
  obtain ⟨hi_5, hj⟩ := gd_some hj
  obtain ⟨d_6, ed_6, hj⟩ := nm_some hj
  refine va_iast hx hb hK hP hD hS 10 9 rfl rfl hi_5 d_Mod_enter_38 (fun H locs hP hD hS => ?_)
  have hP : va_P (dC, dI) vwCl (mw bd cb d_6) H := by rw [ed_6]; exact hP
  have hD : va_D A (mw bd cb d_6) := by rw [ed_6]; exact hD
  refine lv_aload_n hx hb d_Mod_enter_39 rfl (lv_at hl 0 rfl) ?_
  refine va_get (D := (dC, dI)) (ci := 8) (v := .ref (bd 11)) (C := "CardMessageDeskModel") (T := T_Mod) (N := 32) hx hb hts in_Mod hown hK hP 0 rfl rfl 24 (by decide) (hts _ tw524) (fun _ h9 => h9) rfl d_Mod_enter_40 ?_
  refine lv_aload_n hx hb d_Mod_enter_43 rfl (lv_at hl 0 rfl) ?_
  refine va_get (D := (dC, dI)) (ci := 8) (v := .int (mg_entries d_6)) (C := "CardMessageDeskModel") (T := T_Mod) (N := 32) hx hb hts in_Mod hown hK hP 0 rfl rfl 20 (by decide) (hts _ tw520) (fun _ h9 => h9) rfl d_Mod_enter_44 ?_
  refine lv_aload_n hx hb d_Mod_enter_47 rfl (lv_at hl 0 rfl) ?_
  refine va_get (D := (dC, dI)) (ci := 8) (v := .long (mg_card d_6)) (C := "CardMessageDeskModel") (T := T_Mod) (N := 32) hx hb hts in_Mod hown hK hP 0 rfl rfl 14 (by decide) (hts _ tw514) (fun _ h9 => h9) rfl d_Mod_enter_48 ?_
  obtain ⟨hi_7, hj⟩ := gd_some hj
  obtain ⟨d_8, ed_8, hj⟩ := nm_some hj
  refine va_last hx hb hK hP hD hS 11 10 rfl rfl hi_7 d_Mod_enter_51 (fun H locs hP hD hS => ?_)
  have hP : va_P (dC, dI) vwCl (mw bd cb d_8) H := by rw [ed_8]; exact hP
  have hD : va_D A (mw bd cb d_8) := by rw [ed_8]; exact hD
  refine lv_aload_n hx hb d_Mod_enter_52 rfl (lv_at hl 0 rfl) ?_
  refine va_get (D := (dC, dI)) (ci := 8) (v := .ref (bd 12)) (C := "CardMessageDeskModel") (T := T_Mod) (N := 32) hx hb hts in_Mod hown hK hP 0 rfl rfl 25 (by decide) (hts _ tw525) (fun _ h9 => h9) rfl d_Mod_enter_53 ?_
  refine lv_aload_n hx hb d_Mod_enter_56 rfl (lv_at hl 0 rfl) ?_
  refine va_get (D := (dC, dI)) (ci := 8) (v := .int (mg_entries d_8)) (C := "CardMessageDeskModel") (T := T_Mod) (N := 32) hx hb hts in_Mod hown hK hP 0 rfl rfl 20 (by decide) (hts _ tw520) (fun _ h9 => h9) rfl d_Mod_enter_57 ?_
  refine lv_aload_n hx hb d_Mod_enter_60 rfl (lv_at hl 0 rfl) ?_
  refine va_get (D := (dC, dI)) (ci := 8) (v := .int (mg_sort d_8)) (C := "CardMessageDeskModel") (T := T_Mod) (N := 32) hx hb hts in_Mod hown hK hP 0 rfl rfl 15 (by decide) (hts _ tw515) (fun _ h9 => h9) rfl d_Mod_enter_61 ?_
  obtain ⟨hi_9, hj⟩ := gd_some hj
  obtain ⟨d_10, ed_10, hj⟩ := nm_some hj
  refine va_iast hx hb hK hP hD hS 12 11 rfl rfl hi_9 d_Mod_enter_64 (fun H locs hP hD hS => ?_)
  have hP : va_P (dC, dI) vwCl (mw bd cb d_10) H := by rw [ed_10]; exact hP
  have hD : va_D A (mw bd cb d_10) := by rw [ed_10]; exact hD
  refine lv_aload_n hx hb d_Mod_enter_65 rfl (lv_at hl 0 rfl) ?_
  refine va_get (D := (dC, dI)) (ci := 8) (v := .ref (bd 13)) (C := "CardMessageDeskModel") (T := T_Mod) (N := 32) hx hb hts in_Mod hown hK hP 0 rfl rfl 26 (by decide) (hts _ tw526) (fun _ h9 => h9) rfl d_Mod_enter_66 ?_
  refine lv_aload_n hx hb d_Mod_enter_69 rfl (lv_at hl 0 rfl) ?_
  refine va_get (D := (dC, dI)) (ci := 8) (v := .int (mg_entries d_10)) (C := "CardMessageDeskModel") (T := T_Mod) (N := 32) hx hb hts in_Mod hown hK hP 0 rfl rfl 20 (by decide) (hts _ tw520) (fun _ h9 => h9) rfl d_Mod_enter_70 ?_
  refine lv_aload_n hx hb d_Mod_enter_73 rfl (lv_at hl 0 rfl) ?_
  refine va_get (D := (dC, dI)) (ci := 8) (v := .long (mg_amount d_10)) (C := "CardMessageDeskModel") (T := T_Mod) (N := 32) hx hb hts in_Mod hown hK hP 0 rfl rfl 16 (by decide) (hts _ tw516) (fun _ h9 => h9) rfl d_Mod_enter_74 ?_
  obtain ⟨hi_11, hj⟩ := gd_some hj
  obtain ⟨d_12, ed_12, hj⟩ := nm_some hj
  refine va_last hx hb hK hP hD hS 13 12 rfl rfl hi_11 d_Mod_enter_77 (fun H locs hP hD hS => ?_)
  have hP : va_P (dC, dI) vwCl (mw bd cb d_12) H := by rw [ed_12]; exact hP
  have hD : va_D A (mw bd cb d_12) := by rw [ed_12]; exact hD
  refine lv_aload_n hx hb d_Mod_enter_78 rfl (lv_at hl 0 rfl) ?_
  refine va_get (D := (dC, dI)) (ci := 8) (v := .ref (bd 14)) (C := "CardMessageDeskModel") (T := T_Mod) (N := 32) hx hb hts in_Mod hown hK hP 0 rfl rfl 27 (by decide) (hts _ tw527) (fun _ h9 => h9) rfl d_Mod_enter_79 ?_
  refine lv_aload_n hx hb d_Mod_enter_82 rfl (lv_at hl 0 rfl) ?_
  refine va_get (D := (dC, dI)) (ci := 8) (v := .int (mg_entries d_12)) (C := "CardMessageDeskModel") (T := T_Mod) (N := 32) hx hb hts in_Mod hown hK hP 0 rfl rfl 20 (by decide) (hts _ tw520) (fun _ h9 => h9) rfl d_Mod_enter_83 ?_
  refine lv_iload_n hx hb d_Mod_enter_86 rfl (lv_at hl 1 rfl) ?_
  obtain ⟨hi_13, hj⟩ := gd_some hj
  obtain ⟨d_14, ed_14, hj⟩ := nm_some hj
  refine va_iast hx hb hK hP hD hS 14 13 rfl rfl hi_13 d_Mod_enter_87 (fun H locs hP hD hS => ?_)
  have hP : va_P (dC, dI) vwCl (mw bd cb d_14) H := by rw [ed_14]; exact hP
  have hD : va_D A (mw bd cb d_14) := by rw [ed_14]; exact hD
  refine lv_aload_n hx hb d_Mod_enter_88 rfl (lv_at hl 0 rfl) ?_
  refine va_get (D := (dC, dI)) (ci := 8) (v := .ref (bd 15)) (C := "CardMessageDeskModel") (T := T_Mod) (N := 32) hx hb hts in_Mod hown hK hP 0 rfl rfl 28 (by decide) (hts _ tw528) (fun _ h9 => h9) rfl d_Mod_enter_89 ?_
  refine lv_aload_n hx hb d_Mod_enter_92 rfl (lv_at hl 0 rfl) ?_
  refine va_get (D := (dC, dI)) (ci := 8) (v := .int (mg_entries d_14)) (C := "CardMessageDeskModel") (T := T_Mod) (N := 32) hx hb hts in_Mod hown hK hP 0 rfl rfl 20 (by decide) (hts _ tw520) (fun _ h9 => h9) rfl d_Mod_enter_93 ?_
  refine lv_iload_n hx hb d_Mod_enter_96 rfl (lv_at hl 2 rfl) ?_
  obtain ⟨hi_15, hj⟩ := gd_some hj
  obtain ⟨d_16, ed_16, hj⟩ := nm_some hj
  refine va_iast hx hb hK hP hD hS 15 14 rfl rfl hi_15 d_Mod_enter_97 (fun H locs hP hD hS => ?_)
  have hP : va_P (dC, dI) vwCl (mw bd cb d_16) H := by rw [ed_16]; exact hP
  have hD : va_D A (mw bd cb d_16) := by rw [ed_16]; exact hD
  refine lv_aload_n hx hb d_Mod_enter_98 rfl (lv_at hl 0 rfl) ?_
  refine va_get (D := (dC, dI)) (ci := 8) (v := .ref (bd 16)) (C := "CardMessageDeskModel") (T := T_Mod) (N := 32) hx hb hts in_Mod hown hK hP 0 rfl rfl 29 (by decide) (hts _ tw529) (fun _ h9 => h9) rfl d_Mod_enter_99 ?_
  refine lv_aload_n hx hb d_Mod_enter_102 rfl (lv_at hl 0 rfl) ?_
  refine va_get (D := (dC, dI)) (ci := 8) (v := .int (mg_entries d_16)) (C := "CardMessageDeskModel") (T := T_Mod) (N := 32) hx hb hts in_Mod hown hK hP 0 rfl rfl 20 (by decide) (hts _ tw520) (fun _ h9 => h9) rfl d_Mod_enter_103 ?_
  refine lv_aload_n hx hb d_Mod_enter_106 rfl (lv_at hl 0 rfl) ?_
  refine va_get (D := (dC, dI)) (ci := 8) (v := .int (mg_now d_16)) (C := "CardMessageDeskModel") (T := T_Mod) (N := 32) hx hb hts in_Mod hown hK hP 0 rfl rfl 3 (by decide) (hts _ tw503) (fun _ h9 => h9) rfl d_Mod_enter_107 ?_
  obtain ⟨hi_17, hj⟩ := gd_some hj
  obtain ⟨d_18, ed_18, hj⟩ := nm_some hj
  refine va_iast hx hb hK hP hD hS 16 15 rfl rfl hi_17 d_Mod_enter_110 (fun H locs hP hD hS => ?_)
  have hP : va_P (dC, dI) vwCl (mw bd cb d_18) H := by rw [ed_18]; exact hP
  have hD : va_D A (mw bd cb d_18) := by rw [ed_18]; exact hD
  refine lv_aload_n hx hb d_Mod_enter_111 rfl (lv_at hl 0 rfl) ?_
  refine lv_dup hx hb d_Mod_enter_112 rfl ?_
  refine va_get (D := (dC, dI)) (ci := 8) (v := .int (mg_entries d_18)) (C := "CardMessageDeskModel") (T := T_Mod) (N := 32) hx hb hts in_Mod hown hK hP 0 rfl rfl 20 (by decide) (hts _ tw520) (fun _ h9 => h9) rfl d_Mod_enter_113 ?_
  refine lv_iconst (v := 1) hx hb d_Mod_enter_116 (by decide) ?_
  refine lv_iadd hx hb d_Mod_enter_117 ?_
  obtain ⟨d_19, ed_19, hj⟩ := nm_some hj
  refine va_put (D := (dC, dI)) (ci := 8) (v := .int ((mg_entries d_18) + (1 : Int32))) (ty := .int) (C := "CardMessageDeskModel") (T := T_Mod) (N := 32) hx hb hts in_Mod ty_Mod ty_Mod_ok nm_Mod hown hK hP hD hS 0 rfl rfl 20 (by decide) (hts _ tw520) (fun _ h9 => h9) rfl (by decide +kernel) rfl rfl (Nat.le_of_ble_eq_true rfl) d_Mod_enter_118 (fun H locs hP hD hS => ?_)
  have hP : va_P (dC, dI) vwCl (mw bd cb d_19) H := by rw [ed_19]; exact hP
  have hD : va_D A (mw bd cb d_19) := by rw [ed_19]; exact hD
  obtain rfl := Option.some.inj hj
  exact W.vret hx hb hr (fun t ht hW => ⟨⟨_, rfl, rfl, by rw [ht]; exact hP, va_K.moved hW.alike hK, hD⟩, hS.F ht⟩) hS.2.2 d_Mod_enter_121
set_option maxHeartbeats 4000000 in
set_option maxRecDepth 100000 in
theorem cm_M_move (l : Launch) (dC : Nat → ClassId) (dI : Nat → Nat → Nat) (bd : Nat → Nat) (cb : Nat → ClassId) (sz : Nat) (d : MS) (p1 : Int32) (p2 : Int32)  (d9 : MS) (hj : jm_M_move d p1 p2 = some d9) : Met l y_Mod_move w_Mod_move ({ frames := 0, cells := 0, slots := 0, locals := 0 }) (va_Pc [.ref (bd 0), .int p1, .int p2] (mPre dC dI bd cb sz d)) (va_Qv (fun u : MS => u = d9) (mAt dC dI bd cb (va_A (mw bd cb d) sz)) (va_A (mw bd cb d) sz)) 0 0 (va_A (mw bd cb d) sz) := by
  refine Met.ofW (cc := prog_10_method_26_code) (maxL := 3) (ret := none) (by decide) rfl ?_
  intro p e s m args below meth c s₁ B hml hv
  obtain ⟨rfl, hsz, hP, hK, hD0, hN⟩ := hv
  have hx := B.exec
  have hb := B.bytes
  have hr := B.returns
  have hts0 := atoms_spec (ws := w_Mod_move) B.pre
  have hts : ∀ w ∈ gt, w.before _ s = true := fun w h => hts0 w (List.mem_cons_of_mem _ h)
  have hown : s.vm.findClass "CardMessageDeskModel" = some m.cls := findClass_of_methodNamed B.named
  have hlocks := B.notSynchronized
  subst hsz
  have hD := hD0.self (sz := s.heap.size)
  generalize hAe : va_A (mw bd cb d) s.heap.size = A at hD ⊢
  have hA : ∀ q : Nat, s.heap.size ≤ q → A q := fun q h => by rw [← hAe]; exact Or.inr h
  have hS : va_S A s.heap s.heap [] := va_S.rf
  have hl := lv_entry ([.ref (bd 0), .int p1, .int p2]) (n := 3) (Nat.le_of_ble_eq_true rfl)
  rw [lg_entry_eq]
  generalize (lg_sl ([.ref (bd 0), .int p1, .int p2]) ++ List.replicate (3 - (lg_sl ([.ref (bd 0), .int p1, .int p2])).length) Slot.unset).toArray = ls at hl ⊢
  have hl : lv_has ls 3 [(0, .ref (bd 0)), (1, .int p1), (2, .int p2)] := hl
  unfold jm_M_move at hj
  refine lv_aload_n hx hb d_Mod_move_0 rfl (lv_at hl 0 rfl) ?_
  refine va_get (D := (dC, dI)) (ci := 8) (v := .ref (bd 8)) (C := "CardMessageDeskModel") (T := T_Mod) (N := 32) hx hb hts in_Mod hown hK hP 0 rfl rfl 21 (by decide) (hts _ tw521) (fun _ h9 => h9) rfl d_Mod_move_1 ?_
  refine lv_iload_n hx hb d_Mod_move_4 rfl (lv_at hl 2 rfl) ?_
  refine lv_aload_n hx hb d_Mod_move_5 rfl (lv_at hl 0 rfl) ?_
  refine va_get (D := (dC, dI)) (ci := 8) (v := .ref (bd 8)) (C := "CardMessageDeskModel") (T := T_Mod) (N := 32) hx hb hts in_Mod hown hK hP 0 rfl rfl 21 (by decide) (hts _ tw521) (fun _ h9 => h9) rfl d_Mod_move_6 ?_
  refine lv_iload_n hx hb d_Mod_move_9 rfl (lv_at hl 1 rfl) ?_
  obtain ⟨hi_1, hj⟩ := gd_some hj
  refine va_iald hx hb hK hP 8 7 rfl rfl hi_1 d_Mod_move_10 ?_
  obtain ⟨hi_2, hj⟩ := gd_some hj
  obtain ⟨d_3, ed_3, hj⟩ := nm_some hj
  refine va_iast hx hb hK hP hD hS 8 7 rfl rfl hi_2 d_Mod_move_11 (fun H locs hP hD hS => ?_)
  have hP : va_P (dC, dI) vwCl (mw bd cb d_3) H := by rw [ed_3]; exact hP
  have hD : va_D A (mw bd cb d_3) := by rw [ed_3]; exact hD
  refine lv_aload_n hx hb d_Mod_move_12 rfl (lv_at hl 0 rfl) ?_
  refine va_get (D := (dC, dI)) (ci := 8) (v := .ref (bd 9)) (C := "CardMessageDeskModel") (T := T_Mod) (N := 32) hx hb hts in_Mod hown hK hP 0 rfl rfl 22 (by decide) (hts _ tw522) (fun _ h9 => h9) rfl d_Mod_move_13 ?_
  refine lv_iload_n hx hb d_Mod_move_16 rfl (lv_at hl 2 rfl) ?_
  refine lv_aload_n hx hb d_Mod_move_17 rfl (lv_at hl 0 rfl) ?_
  refine va_get (D := (dC, dI)) (ci := 8) (v := .ref (bd 9)) (C := "CardMessageDeskModel") (T := T_Mod) (N := 32) hx hb hts in_Mod hown hK hP 0 rfl rfl 22 (by decide) (hts _ tw522) (fun _ h9 => h9) rfl d_Mod_move_18 ?_
  refine lv_iload_n hx hb d_Mod_move_21 rfl (lv_at hl 1 rfl) ?_
  obtain ⟨hi_4, hj⟩ := gd_some hj
  refine va_iald hx hb hK hP 9 8 rfl rfl hi_4 d_Mod_move_22 ?_
  obtain ⟨hi_5, hj⟩ := gd_some hj
  obtain ⟨d_6, ed_6, hj⟩ := nm_some hj
  refine va_iast hx hb hK hP hD hS 9 8 rfl rfl hi_5 d_Mod_move_23 (fun H locs hP hD hS => ?_)
  have hP : va_P (dC, dI) vwCl (mw bd cb d_6) H := by rw [ed_6]; exact hP
  have hD : va_D A (mw bd cb d_6) := by rw [ed_6]; exact hD
  refine lv_aload_n hx hb d_Mod_move_24 rfl (lv_at hl 0 rfl) ?_
  refine va_get (D := (dC, dI)) (ci := 8) (v := .ref (bd 10)) (C := "CardMessageDeskModel") (T := T_Mod) (N := 32) hx hb hts in_Mod hown hK hP 0 rfl rfl 23 (by decide) (hts _ tw523) (fun _ h9 => h9) rfl d_Mod_move_25 ?_
  refine lv_iload_n hx hb d_Mod_move_28 rfl (lv_at hl 2 rfl) ?_
  refine lv_aload_n hx hb d_Mod_move_29 rfl (lv_at hl 0 rfl) ?_
  refine va_get (D := (dC, dI)) (ci := 8) (v := .ref (bd 10)) (C := "CardMessageDeskModel") (T := T_Mod) (N := 32) hx hb hts in_Mod hown hK hP 0 rfl rfl 23 (by decide) (hts _ tw523) (fun _ h9 => h9) rfl d_Mod_move_30 ?_
  refine lv_iload_n hx hb d_Mod_move_33 rfl (lv_at hl 1 rfl) ?_
  obtain ⟨hi_7, hj⟩ := gd_some hj
  refine va_iald hx hb hK hP 10 9 rfl rfl hi_7 d_Mod_move_34 ?_
  obtain ⟨hi_8, hj⟩ := gd_some hj
  obtain ⟨d_9, ed_9, hj⟩ := nm_some hj
  refine va_iast hx hb hK hP hD hS 10 9 rfl rfl hi_8 d_Mod_move_35 (fun H locs hP hD hS => ?_)
  have hP : va_P (dC, dI) vwCl (mw bd cb d_9) H := by rw [ed_9]; exact hP
  have hD : va_D A (mw bd cb d_9) := by rw [ed_9]; exact hD
  refine lv_aload_n hx hb d_Mod_move_36 rfl (lv_at hl 0 rfl) ?_
  refine va_get (D := (dC, dI)) (ci := 8) (v := .ref (bd 11)) (C := "CardMessageDeskModel") (T := T_Mod) (N := 32) hx hb hts in_Mod hown hK hP 0 rfl rfl 24 (by decide) (hts _ tw524) (fun _ h9 => h9) rfl d_Mod_move_37 ?_
  refine lv_iload_n hx hb d_Mod_move_40 rfl (lv_at hl 2 rfl) ?_
  refine lv_aload_n hx hb d_Mod_move_41 rfl (lv_at hl 0 rfl) ?_
  refine va_get (D := (dC, dI)) (ci := 8) (v := .ref (bd 11)) (C := "CardMessageDeskModel") (T := T_Mod) (N := 32) hx hb hts in_Mod hown hK hP 0 rfl rfl 24 (by decide) (hts _ tw524) (fun _ h9 => h9) rfl d_Mod_move_42 ?_
  refine lv_iload_n hx hb d_Mod_move_45 rfl (lv_at hl 1 rfl) ?_
  obtain ⟨hi_10, hj⟩ := gd_some hj
  refine va_lald hx hb hK hP 11 10 rfl rfl hi_10 d_Mod_move_46 ?_
  obtain ⟨hi_11, hj⟩ := gd_some hj
  obtain ⟨d_12, ed_12, hj⟩ := nm_some hj
  refine va_last hx hb hK hP hD hS 11 10 rfl rfl hi_11 d_Mod_move_47 (fun H locs hP hD hS => ?_)
  have hP : va_P (dC, dI) vwCl (mw bd cb d_12) H := by rw [ed_12]; exact hP
  have hD : va_D A (mw bd cb d_12) := by rw [ed_12]; exact hD
  refine lv_aload_n hx hb d_Mod_move_48 rfl (lv_at hl 0 rfl) ?_
  refine va_get (D := (dC, dI)) (ci := 8) (v := .ref (bd 12)) (C := "CardMessageDeskModel") (T := T_Mod) (N := 32) hx hb hts in_Mod hown hK hP 0 rfl rfl 25 (by decide) (hts _ tw525) (fun _ h9 => h9) rfl d_Mod_move_49 ?_
  refine lv_iload_n hx hb d_Mod_move_52 rfl (lv_at hl 2 rfl) ?_
  refine lv_aload_n hx hb d_Mod_move_53 rfl (lv_at hl 0 rfl) ?_
  refine va_get (D := (dC, dI)) (ci := 8) (v := .ref (bd 12)) (C := "CardMessageDeskModel") (T := T_Mod) (N := 32) hx hb hts in_Mod hown hK hP 0 rfl rfl 25 (by decide) (hts _ tw525) (fun _ h9 => h9) rfl d_Mod_move_54 ?_
  refine lv_iload_n hx hb d_Mod_move_57 rfl (lv_at hl 1 rfl) ?_
  obtain ⟨hi_13, hj⟩ := gd_some hj
  refine va_iald hx hb hK hP 12 11 rfl rfl hi_13 d_Mod_move_58 ?_
  obtain ⟨hi_14, hj⟩ := gd_some hj
  obtain ⟨d_15, ed_15, hj⟩ := nm_some hj
  refine va_iast hx hb hK hP hD hS 12 11 rfl rfl hi_14 d_Mod_move_59 (fun H locs hP hD hS => ?_)
  have hP : va_P (dC, dI) vwCl (mw bd cb d_15) H := by rw [ed_15]; exact hP
  have hD : va_D A (mw bd cb d_15) := by rw [ed_15]; exact hD
  refine lv_aload_n hx hb d_Mod_move_60 rfl (lv_at hl 0 rfl) ?_
  refine va_get (D := (dC, dI)) (ci := 8) (v := .ref (bd 13)) (C := "CardMessageDeskModel") (T := T_Mod) (N := 32) hx hb hts in_Mod hown hK hP 0 rfl rfl 26 (by decide) (hts _ tw526) (fun _ h9 => h9) rfl d_Mod_move_61 ?_
  refine lv_iload_n hx hb d_Mod_move_64 rfl (lv_at hl 2 rfl) ?_
  refine lv_aload_n hx hb d_Mod_move_65 rfl (lv_at hl 0 rfl) ?_
  refine va_get (D := (dC, dI)) (ci := 8) (v := .ref (bd 13)) (C := "CardMessageDeskModel") (T := T_Mod) (N := 32) hx hb hts in_Mod hown hK hP 0 rfl rfl 26 (by decide) (hts _ tw526) (fun _ h9 => h9) rfl d_Mod_move_66 ?_
  refine lv_iload_n hx hb d_Mod_move_69 rfl (lv_at hl 1 rfl) ?_
  obtain ⟨hi_16, hj⟩ := gd_some hj
  refine va_lald hx hb hK hP 13 12 rfl rfl hi_16 d_Mod_move_70 ?_
  obtain ⟨hi_17, hj⟩ := gd_some hj
  obtain ⟨d_18, ed_18, hj⟩ := nm_some hj
  refine va_last hx hb hK hP hD hS 13 12 rfl rfl hi_17 d_Mod_move_71 (fun H locs hP hD hS => ?_)
  have hP : va_P (dC, dI) vwCl (mw bd cb d_18) H := by rw [ed_18]; exact hP
  have hD : va_D A (mw bd cb d_18) := by rw [ed_18]; exact hD
  refine lv_aload_n hx hb d_Mod_move_72 rfl (lv_at hl 0 rfl) ?_
  refine va_get (D := (dC, dI)) (ci := 8) (v := .ref (bd 14)) (C := "CardMessageDeskModel") (T := T_Mod) (N := 32) hx hb hts in_Mod hown hK hP 0 rfl rfl 27 (by decide) (hts _ tw527) (fun _ h9 => h9) rfl d_Mod_move_73 ?_
  refine lv_iload_n hx hb d_Mod_move_76 rfl (lv_at hl 2 rfl) ?_
  refine lv_aload_n hx hb d_Mod_move_77 rfl (lv_at hl 0 rfl) ?_
  refine va_get (D := (dC, dI)) (ci := 8) (v := .ref (bd 14)) (C := "CardMessageDeskModel") (T := T_Mod) (N := 32) hx hb hts in_Mod hown hK hP 0 rfl rfl 27 (by decide) (hts _ tw527) (fun _ h9 => h9) rfl d_Mod_move_78 ?_
  refine lv_iload_n hx hb d_Mod_move_81 rfl (lv_at hl 1 rfl) ?_
  obtain ⟨hi_19, hj⟩ := gd_some hj
  refine va_iald hx hb hK hP 14 13 rfl rfl hi_19 d_Mod_move_82 ?_
  obtain ⟨hi_20, hj⟩ := gd_some hj
  obtain ⟨d_21, ed_21, hj⟩ := nm_some hj
  refine va_iast hx hb hK hP hD hS 14 13 rfl rfl hi_20 d_Mod_move_83 (fun H locs hP hD hS => ?_)
  have hP : va_P (dC, dI) vwCl (mw bd cb d_21) H := by rw [ed_21]; exact hP
  have hD : va_D A (mw bd cb d_21) := by rw [ed_21]; exact hD
  refine lv_aload_n hx hb d_Mod_move_84 rfl (lv_at hl 0 rfl) ?_
  refine va_get (D := (dC, dI)) (ci := 8) (v := .ref (bd 15)) (C := "CardMessageDeskModel") (T := T_Mod) (N := 32) hx hb hts in_Mod hown hK hP 0 rfl rfl 28 (by decide) (hts _ tw528) (fun _ h9 => h9) rfl d_Mod_move_85 ?_
  refine lv_iload_n hx hb d_Mod_move_88 rfl (lv_at hl 2 rfl) ?_
  refine lv_aload_n hx hb d_Mod_move_89 rfl (lv_at hl 0 rfl) ?_
  refine va_get (D := (dC, dI)) (ci := 8) (v := .ref (bd 15)) (C := "CardMessageDeskModel") (T := T_Mod) (N := 32) hx hb hts in_Mod hown hK hP 0 rfl rfl 28 (by decide) (hts _ tw528) (fun _ h9 => h9) rfl d_Mod_move_90 ?_
  refine lv_iload_n hx hb d_Mod_move_93 rfl (lv_at hl 1 rfl) ?_
  obtain ⟨hi_22, hj⟩ := gd_some hj
  refine va_iald hx hb hK hP 15 14 rfl rfl hi_22 d_Mod_move_94 ?_
  obtain ⟨hi_23, hj⟩ := gd_some hj
  obtain ⟨d_24, ed_24, hj⟩ := nm_some hj
  refine va_iast hx hb hK hP hD hS 15 14 rfl rfl hi_23 d_Mod_move_95 (fun H locs hP hD hS => ?_)
  have hP : va_P (dC, dI) vwCl (mw bd cb d_24) H := by rw [ed_24]; exact hP
  have hD : va_D A (mw bd cb d_24) := by rw [ed_24]; exact hD
  refine lv_aload_n hx hb d_Mod_move_96 rfl (lv_at hl 0 rfl) ?_
  refine va_get (D := (dC, dI)) (ci := 8) (v := .ref (bd 16)) (C := "CardMessageDeskModel") (T := T_Mod) (N := 32) hx hb hts in_Mod hown hK hP 0 rfl rfl 29 (by decide) (hts _ tw529) (fun _ h9 => h9) rfl d_Mod_move_97 ?_
  refine lv_iload_n hx hb d_Mod_move_100 rfl (lv_at hl 2 rfl) ?_
  refine lv_aload_n hx hb d_Mod_move_101 rfl (lv_at hl 0 rfl) ?_
  refine va_get (D := (dC, dI)) (ci := 8) (v := .ref (bd 16)) (C := "CardMessageDeskModel") (T := T_Mod) (N := 32) hx hb hts in_Mod hown hK hP 0 rfl rfl 29 (by decide) (hts _ tw529) (fun _ h9 => h9) rfl d_Mod_move_102 ?_
  refine lv_iload_n hx hb d_Mod_move_105 rfl (lv_at hl 1 rfl) ?_
  obtain ⟨hi_25, hj⟩ := gd_some hj
  refine va_iald hx hb hK hP 16 15 rfl rfl hi_25 d_Mod_move_106 ?_
  obtain ⟨hi_26, hj⟩ := gd_some hj
  obtain ⟨d_27, ed_27, hj⟩ := nm_some hj
  refine va_iast hx hb hK hP hD hS 16 15 rfl rfl hi_26 d_Mod_move_107 (fun H locs hP hD hS => ?_)
  have hP : va_P (dC, dI) vwCl (mw bd cb d_27) H := by rw [ed_27]; exact hP
  have hD : va_D A (mw bd cb d_27) := by rw [ed_27]; exact hD
  obtain rfl := Option.some.inj hj
  exact W.vret hx hb hr (fun t ht hW => ⟨⟨_, rfl, rfl, by rw [ht]; exact hP, va_K.moved hW.alike hK, hD⟩, hS.F ht⟩) hS.2.2 d_Mod_move_108
set_option maxHeartbeats 4000000 in
set_option maxRecDepth 100000 in
theorem cm_M_settle_L29 {p : Program} {l : Launch} {e : Env} {s : State} {m : MethodId} {args : Array Value} {below : List Frame} {meth : Method} {c : Code} {dC : Nat → ClassId} {dI : Nat → Nat → Nat} {bd : Nat → Nat} {cb : Nat → ClassId} {A : Nat → Prop}    (r9 : Int32) (d9 : MS) (hx : p.tables.exec = Jvm.exec) (hb : c.code = prog_10_method_27_code) (hr : meth.sig.returnType = (some .int)) (hlocks : meth.locks = false) (hml : c.maxLocals = 3) (hown : s.vm.findClass "CardMessageDeskModel" = some m.cls) (hts : ∀ w ∈ gt, w.before args s = true) (hN : nw s) (hA : ∀ q : Nat, s.heap.size ≤ q → A q) (hK : va_K (dC, dI) vwCl (mT cb) s) :
    ∀ (n : Nat) (d : MS) (x1 : Int32) (x2 : Int32) (H : Heap) (locs : List Loc) (ls : Array Slot), loopF (jm_M_settle_L29) n (d, x1, x2) = some (r9, d9) → va_P (dC, dI) vwCl (mw bd cb d) H → va_D A (mw bd cb d) → va_S A s.heap H locs → lv_has ls 3 [(0, .ref (bd 0)), (1, .int x1), (2, .int x2)] → W p l e ({ frames := 1, cells := 0, slots := 0, locals := 24 }) s m args below meth c H locs 0 0 (MQ below (va_Qi (fun (r : Int32) (u : MS) => r = r9 ∧ u = d9) (mAt dC dI bd cb A) A) args s 0 0 A) (F0 m 29 ls []) := by
  intro n
  induction n with
  | zero =>
    intro d x1 x2 H locs ls hj
    exact (loopF_z hj).elim
  | succ n ih =>
    intro d x1 x2 H locs ls hj hP hD hS hl
    have hj := loopF_s hj
    unfold jm_M_settle_L29 at hj
    try dsimp only at hj
    refine lv_iload_n hx hb d_Mod_settle_29 rfl (lv_at hl 2 rfl) ?_
    refine lv_aload_n hx hb d_Mod_settle_30 rfl (lv_at hl 0 rfl) ?_
    refine va_get (D := (dC, dI)) (ci := 8) (v := .int (mg_entries d)) (C := "CardMessageDeskModel") (T := T_Mod) (N := 32) hx hb hts in_Mod hown hK hP 0 rfl rfl 20 (by decide) (hts _ tw520) (fun _ h9 => h9) rfl d_Mod_settle_31 ?_
    refine lv_icmp_ge (tgt := 73) hx hb d_Mod_settle_34 (by decide) (fun c_4 => ?_) (fun c_4 => ?_)
    · have hj := it_p hj c_4
      refine lv_aload_n hx hb d_Mod_settle_73 rfl (lv_at hl 0 rfl) ?_
      refine lv_iload_n hx hb d_Mod_settle_74 rfl (lv_at hl 1 rfl) ?_
      obtain ⟨d_5, ed_5, hj⟩ := nm_some hj
      refine va_put (D := (dC, dI)) (ci := 8) (v := .int x1) (ty := .int) (C := "CardMessageDeskModel") (T := T_Mod) (N := 32) hx hb hts in_Mod ty_Mod ty_Mod_ok nm_Mod hown hK hP hD hS 0 rfl rfl 20 (by decide) (hts _ tw520) (fun _ h9 => h9) rfl (by decide +kernel) rfl rfl (Nat.le_of_ble_eq_true rfl) d_Mod_settle_75 (fun H locs hP hD hS => ?_)
      have hP : va_P (dC, dI) vwCl (mw bd cb d_5) H := by rw [ed_5]; exact hP
      have hD : va_D A (mw bd cb d_5) := by rw [ed_5]; exact hD
      refine lv_aload_n hx hb d_Mod_settle_78 rfl (lv_at hl 0 rfl) ?_
      refine lv_iconst (v := 0) hx hb d_Mod_settle_79 (by decide) ?_
      refine lv_iconst (v := 0) hx hb d_Mod_settle_80 (by decide) ?_
      obtain ⟨d_6, hc_6, hj⟩ := bd_some hj
      have hF_6 := va_fr hD hS hA
      refine va_callv (va_runV (As := [.int (0 : Int32), .int (0 : Int32)]) (rest := []) ⟨hx, hb, hml, hown, hts⟩ (cm_M_enter l dC dI bd cb H.size d_5 (0 : Int32) (0 : Int32)  d_6 hc_6) (cwV 2 hts (gtV tw688 tw690 ts27 tw9 tw691) rfl rfl rfl (by decide +kernel) ⟨Nat.le_of_ble_eq_true rfl, Nat.le_of_ble_eq_true rfl⟩) ⟨mBl, va_recv hK hP (ci := 8) (q0 := 0) rfl rfl, fun U hU hW => ⟨rfl, mPr hP hK hD hN hU hW⟩⟩ rfl rfl hl.1 rfl (lv_room (Nat.le_of_ble_eq_true rfl)) d_Mod_settle_81 ⟨Nat.zero_le _, Nat.zero_le _⟩) hS (fun q _ h => hF_6 q h) hF_6 (fun u t H locs ht hvm hw hB hz1 hk1 hS => ?_)
      have hw := hw.symm
      subst hw
      obtain ⟨hP, hD⟩ := mAf hB ht hF_6
      refine lv_iconst (v := 0) hx hb d_Mod_settle_84 (by decide) ?_
      obtain ⟨rfl, rfl⟩ := rt_some hj
      exact W.iret hx hb hr (fun t ht hW => ⟨⟨_, _, rfl, ⟨rfl, rfl⟩, by rw [ht]; exact hP, va_K.moved hW.alike hK, hD⟩, hS.F ht⟩) hS.2.2 d_Mod_settle_85
    · have hj := it_n hj c_4
      refine lv_aload_n hx hb d_Mod_settle_37 rfl (lv_at hl 0 rfl) ?_
      refine va_get (D := (dC, dI)) (ci := 8) (v := .ref (bd 9)) (C := "CardMessageDeskModel") (T := T_Mod) (N := 32) hx hb hts in_Mod hown hK hP 0 rfl rfl 22 (by decide) (hts _ tw522) (fun _ h9 => h9) rfl d_Mod_settle_38 ?_
      refine lv_iload_n hx hb d_Mod_settle_41 rfl (lv_at hl 2 rfl) ?_
      obtain ⟨hi_7, hj⟩ := gd_some hj
      refine va_iald hx hb hK hP 9 8 rfl rfl hi_7 d_Mod_settle_42 ?_
      refine lv_aload_n hx hb d_Mod_settle_43 rfl (lv_at hl 0 rfl) ?_
      refine va_get (D := (dC, dI)) (ci := 8) (v := .int (mg_terminal d)) (C := "CardMessageDeskModel") (T := T_Mod) (N := 32) hx hb hts in_Mod hown hK hP 0 rfl rfl 18 (by decide) (hts _ tw518) (fun _ h9 => h9) rfl d_Mod_settle_44 ?_
      refine lv_icmp_ne (tgt := 58) hx hb d_Mod_settle_47 (by decide) (fun c_8 => ?_) (fun c_8 => ?_)
      · have hj := it_n hj c_8
        refine lv_aload_n hx hb d_Mod_settle_58 rfl (lv_at hl 0 rfl) ?_
        refine lv_iload_n hx hb d_Mod_settle_59 rfl (lv_at hl 2 rfl) ?_
        refine lv_iload_n hx hb d_Mod_settle_60 rfl (lv_at hl 1 rfl) ?_
        obtain ⟨d_9, hc_9, hj⟩ := bd_some hj
        have hF_9 := va_fr hD hS hA
        refine va_callv (va_runV (As := [.int x2, .int x1]) (rest := []) ⟨hx, hb, hml, hown, hts⟩ (cm_M_move l dC dI bd cb H.size d x2 x1  d_9 hc_9) (cwV 2 hts (gtV tw716 tw718 ts34 tw9 tw719) rfl rfl rfl (by decide +kernel) ⟨Nat.le_of_ble_eq_true rfl, Nat.le_of_ble_eq_true rfl⟩) ⟨mBl, va_recv hK hP (ci := 8) (q0 := 0) rfl rfl, fun U hU hW => ⟨rfl, mPr hP hK hD hN hU hW⟩⟩ rfl rfl hl.1 rfl (lv_room (Nat.le_of_ble_eq_true rfl)) d_Mod_settle_61 ⟨Nat.zero_le _, Nat.zero_le _⟩) hS (fun q _ h => hF_9 q h) hF_9 (fun u t H locs ht hvm hw hB hz1 hk1 hS => ?_)
        have hw := hw.symm
        subst hw
        obtain ⟨hP, hD⟩ := mAf hB ht hF_9
        refine lv_iinc (v := (x1 + 1)) (lv' := [(1, .int (x1 + 1)), (0, .ref (bd 0)), (2, .int x2)]) hx hb d_Mod_settle_64 hl (k := 1) rfl rfl (by decide) rfl (fun ls hl => ?_)
        refine lv_iinc (v := (x2 + 1)) (lv' := [(2, .int (x2 + 1)), (1, .int (x1 + 1)), (0, .ref (bd 0))]) hx hb d_Mod_settle_67 hl (k := 2) rfl rfl (by decide) rfl (fun ls hl => ?_)
        refine lv_goto (tgt := 29) hx hb d_Mod_settle_70 (by decide) ?_
        exact ih d_9 (x1 + 1) (x2 + 1) H locs ls hj hP hD hS (lv_sub hl [2, 1, 0] rfl)
      · have hj := it_p hj c_8
        refine lv_aload_n hx hb d_Mod_settle_50 rfl (lv_at hl 0 rfl) ?_
        refine lv_iload_n hx hb d_Mod_settle_51 rfl (lv_at hl 2 rfl) ?_
        obtain ⟨v_10, hc_10, hj⟩ := bd_some hj
        have hF_10 := va_fr hD hS hA
        refine va_calli (va_runV (As := [.int x2]) (rest := []) ⟨hx, hb, hml, hown, hts⟩ (cm_M_isHold l dC dI bd cb H.size d x2  v_10 hc_10) (cwV 1 hts (gtV tw618 tw620 ts14 tw9 tw621) rfl rfl rfl (by decide +kernel) ⟨Nat.le_of_ble_eq_true rfl, Nat.le_of_ble_eq_true rfl⟩) ⟨mBl, va_recv hK hP (ci := 8) (q0 := 0) rfl rfl, fun U hU hW => ⟨rfl, mPr hP hK hD hN hU hW⟩⟩ rfl rfl hl.1 rfl (lv_room (Nat.le_of_ble_eq_true rfl)) d_Mod_settle_52 ⟨Nat.zero_le _, Nat.zero_le _⟩) hS (fun q _ h => hF_10 q h) hF_10 (fun r u t H locs ht hvm hw hB hz1 hk1 hS => ?_)
        obtain ⟨hw1, hw2⟩ := hw
        have hw1 := hw1.symm
        subst hw1
        have hw2 := hw2.symm
        subst hw2
        obtain ⟨hP, hD⟩ := mAf hB ht hF_10
        refine lv_if_eq (tgt := 67) hx hb d_Mod_settle_55 (by decide) (fun c_11 => ?_) (fun c_11 => ?_)
        · have hj := it_p hj c_11
          refine lv_iinc (v := (x2 + 1)) (lv' := [(2, .int (x2 + 1)), (0, .ref (bd 0)), (1, .int x1)]) hx hb d_Mod_settle_67 hl (k := 2) rfl rfl (by decide) rfl (fun ls hl => ?_)
          refine lv_goto (tgt := 29) hx hb d_Mod_settle_70 (by decide) ?_
          exact ih d x1 (x2 + 1) H locs ls hj hP hD hS (lv_sub hl [1, 2, 0] rfl)
        · have hj := it_n hj c_11
          refine lv_aload_n hx hb d_Mod_settle_58 rfl (lv_at hl 0 rfl) ?_
          refine lv_iload_n hx hb d_Mod_settle_59 rfl (lv_at hl 2 rfl) ?_
          refine lv_iload_n hx hb d_Mod_settle_60 rfl (lv_at hl 1 rfl) ?_
          obtain ⟨d_12, hc_12, hj⟩ := bd_some hj
          have hF_12 := va_fr hD hS hA
          refine va_callv (va_runV (As := [.int x2, .int x1]) (rest := []) ⟨hx, hb, hml, hown, hts⟩ (cm_M_move l dC dI bd cb H.size d x2 x1  d_12 hc_12) (cwV 2 hts (gtV tw716 tw718 ts34 tw9 tw719) rfl rfl rfl (by decide +kernel) ⟨Nat.le_of_ble_eq_true rfl, Nat.le_of_ble_eq_true rfl⟩) ⟨mBl, va_recv hK hP (ci := 8) (q0 := 0) rfl rfl, fun U hU hW => ⟨rfl, mPr hP hK hD hN hU hW⟩⟩ rfl rfl hl.1 rfl (lv_room (Nat.le_of_ble_eq_true rfl)) d_Mod_settle_61 ⟨Nat.zero_le _, Nat.zero_le _⟩) hS (fun q _ h => hF_12 q h) hF_12 (fun u t H locs ht hvm hw hB hz1 hk1 hS => ?_)
          have hw := hw.symm
          subst hw
          obtain ⟨hP, hD⟩ := mAf hB ht hF_12
          refine lv_iinc (v := (x1 + 1)) (lv' := [(1, .int (x1 + 1)), (0, .ref (bd 0)), (2, .int x2)]) hx hb d_Mod_settle_64 hl (k := 1) rfl rfl (by decide) rfl (fun ls hl => ?_)
          refine lv_iinc (v := (x2 + 1)) (lv' := [(2, .int (x2 + 1)), (1, .int (x1 + 1)), (0, .ref (bd 0))]) hx hb d_Mod_settle_67 hl (k := 2) rfl rfl (by decide) rfl (fun ls hl => ?_)
          refine lv_goto (tgt := 29) hx hb d_Mod_settle_70 (by decide) ?_
          exact ih d_12 (x1 + 1) (x2 + 1) H locs ls hj hP hD hS (lv_sub hl [2, 1, 0] rfl)
set_option maxHeartbeats 4000000 in
set_option maxRecDepth 100000 in
theorem cm_M_settle (l : Launch) (dC : Nat → ClassId) (dI : Nat → Nat → Nat) (bd : Nat → Nat) (cb : Nat → ClassId) (sz : Nat) (d : MS)   (r9 : Int32) (d9 : MS) (hj : jm_M_settle d = some (r9, d9)) : Met l y_Mod_settle w_Mod_settle ({ frames := 1, cells := 0, slots := 0, locals := 24 }) (va_Pc [.ref (bd 0)] (mPre dC dI bd cb sz d)) (va_Qi (fun (r : Int32) (u : MS) => r = r9 ∧ u = d9) (mAt dC dI bd cb (va_A (mw bd cb d) sz)) (va_A (mw bd cb d) sz)) 0 0 (va_A (mw bd cb d) sz) := by
  refine Met.ofW (cc := prog_10_method_27_code) (maxL := 3) (ret := (some .int)) (by decide) rfl ?_
  intro p e s m args below meth c s₁ B hml hv
  obtain ⟨rfl, hsz, hP, hK, hD0, hN⟩ := hv
  have hx := B.exec
  have hb := B.bytes
  have hr := B.returns
  have hts0 := atoms_spec (ws := w_Mod_settle) B.pre
  have hts : ∀ w ∈ gt, w.before _ s = true := fun w h => hts0 w (List.mem_cons_of_mem _ h)
  have hown : s.vm.findClass "CardMessageDeskModel" = some m.cls := findClass_of_methodNamed B.named
  have hlocks := B.notSynchronized
  subst hsz
  have hD := hD0.self (sz := s.heap.size)
  generalize hAe : va_A (mw bd cb d) s.heap.size = A at hD ⊢
  have hA : ∀ q : Nat, s.heap.size ≤ q → A q := fun q h => by rw [← hAe]; exact Or.inr h
  have hS : va_S A s.heap s.heap [] := va_S.rf
  have hl := lv_entry ([.ref (bd 0)]) (n := 3) (Nat.le_of_ble_eq_true rfl)
  rw [lg_entry_eq]
  generalize (lg_sl ([.ref (bd 0)]) ++ List.replicate (3 - (lg_sl ([.ref (bd 0)])).length) Slot.unset).toArray = ls at hl ⊢
  have hl : lv_has ls 3 [(0, .ref (bd 0))] := hl
  unfold jm_M_settle at hj
  refine lv_aload_n hx hb d_Mod_settle_0 rfl (lv_at hl 0 rfl) ?_
  refine lv_aload_n hx hb d_Mod_settle_1 rfl (lv_at hl 0 rfl) ?_
  refine lv_aload_n hx hb d_Mod_settle_2 rfl (lv_at hl 0 rfl) ?_
  refine va_get (D := (dC, dI)) (ci := 8) (v := .int (mg_terminal d)) (C := "CardMessageDeskModel") (T := T_Mod) (N := 32) hx hb hts in_Mod hown hK hP 0 rfl rfl 18 (by decide) (hts _ tw518) (fun _ h9 => h9) rfl d_Mod_settle_3 ?_
  obtain ⟨v_1, hc_1, hj⟩ := bd_some hj
  have hF_1 := va_fr hD hS hA
  refine va_calll (va_runV (As := [.int (mg_terminal d)]) (rest := [.ref (bd 0)]) ⟨hx, hb, hml, hown, hts⟩ (cm_M_netOf l dC dI bd cb s.heap.size d (mg_terminal d)  v_1 hc_1) (cwV 1 hts (gtV tw712 tw714 ts33 tw9 tw715) rfl rfl rfl (by decide +kernel) ⟨Nat.le_of_ble_eq_true rfl, Nat.le_of_ble_eq_true rfl⟩) ⟨mBl, va_recv hK hP (ci := 8) (q0 := 0) rfl rfl, fun U hU hW => ⟨rfl, mPr hP hK hD hN hU hW⟩⟩ rfl rfl hl.1 rfl (lv_room (Nat.le_of_ble_eq_true rfl)) d_Mod_settle_6 ⟨Nat.zero_le _, Nat.zero_le _⟩) hS (fun q _ h => hF_1 q h) hF_1 (fun r u t H locs ht hvm hw hB hz1 hk1 hS => ?_)
  obtain ⟨hw1, hw2⟩ := hw
  have hw1 := hw1.symm
  subst hw1
  have hw2 := hw2.symm
  subst hw2
  obtain ⟨hP, hD⟩ := mAf hB ht hF_1
  obtain ⟨d_2, ed_2, hj⟩ := nm_some hj
  refine va_put (D := (dC, dI)) (ci := 8) (v := .long v_1) (ty := .long) (C := "CardMessageDeskModel") (T := T_Mod) (N := 32) hx hb hts in_Mod ty_Mod ty_Mod_ok nm_Mod hown hK hP hD hS 0 rfl rfl 31 (by decide) (hts _ tw531) (fun _ h9 => h9) rfl (by decide +kernel) rfl rfl (Nat.le_of_ble_eq_true rfl) d_Mod_settle_9 (fun H locs hP hD hS => ?_)
  have hP : va_P (dC, dI) vwCl (mw bd cb d_2) H := by rw [ed_2]; exact hP
  have hD : va_D A (mw bd cb d_2) := by rw [ed_2]; exact hD
  refine lv_aload_n hx hb d_Mod_settle_12 rfl (lv_at hl 0 rfl) ?_
  refine lv_aload_n hx hb d_Mod_settle_13 rfl (lv_at hl 0 rfl) ?_
  refine va_get (D := (dC, dI)) (ci := 8) (v := .long (mg_settled d_2)) (C := "CardMessageDeskModel") (T := T_Mod) (N := 32) hx hb hts in_Mod hown hK hP 0 rfl rfl 30 (by decide) (hts _ tw530) (fun _ h9 => h9) rfl d_Mod_settle_14 ?_
  refine lv_aload_n hx hb d_Mod_settle_17 rfl (lv_at hl 0 rfl) ?_
  refine va_get (D := (dC, dI)) (ci := 8) (v := .long (mg_closed d_2)) (C := "CardMessageDeskModel") (T := T_Mod) (N := 32) hx hb hts in_Mod hown hK hP 0 rfl rfl 31 (by decide) (hts _ tw531) (fun _ h9 => h9) rfl d_Mod_settle_18 ?_
  refine lv_ladd hx hb d_Mod_settle_21 ?_
  obtain ⟨d_3, ed_3, hj⟩ := nm_some hj
  refine va_put (D := (dC, dI)) (ci := 8) (v := .long ((mg_settled d_2) + (mg_closed d_2))) (ty := .long) (C := "CardMessageDeskModel") (T := T_Mod) (N := 32) hx hb hts in_Mod ty_Mod ty_Mod_ok nm_Mod hown hK hP hD hS 0 rfl rfl 30 (by decide) (hts _ tw530) (fun _ h9 => h9) rfl (by decide +kernel) rfl rfl (Nat.le_of_ble_eq_true rfl) d_Mod_settle_22 (fun H locs hP hD hS => ?_)
  have hP : va_P (dC, dI) vwCl (mw bd cb d_3) H := by rw [ed_3]; exact hP
  have hD : va_D A (mw bd cb d_3) := by rw [ed_3]; exact hD
  refine lv_iconst (v := 0) hx hb d_Mod_settle_25 (by decide) ?_
  refine lv_istore_n (lv' := [(1, .int (0 : Int32)), (0, .ref (bd 0))]) hx hb d_Mod_settle_26 rfl hl (by decide) rfl (fun ls hl => ?_)
  refine lv_iconst (v := 0) hx hb d_Mod_settle_27 (by decide) ?_
  refine lv_istore_n (lv' := [(2, .int (0 : Int32)), (1, .int (0 : Int32)), (0, .ref (bd 0))]) hx hb d_Mod_settle_28 rfl hl (by decide) rfl (fun ls hl => ?_)
  exact cm_M_settle_L29   _ _ hx hb hr hlocks hml hown hts hN hA hK 200 d_3 (0 : Int32) (0 : Int32) _ _ ls hj hP hD hS (lv_sub hl [2, 1, 0] rfl)
set_option maxHeartbeats 4000000 in
set_option maxRecDepth 100000 in
theorem cm_M_reversible (l : Launch) (dC : Nat → ClassId) (dI : Nat → Nat → Nat) (bd : Nat → Nat) (cb : Nat → ClassId) (sz : Nat) (d : MS) (p1 : Int32)  (r9 : Int32) (hj : jm_M_reversible d p1 = some r9) : Met l y_Mod_reversible w_Mod_reversible ({ frames := 1, cells := 0, slots := 0, locals := 21 }) (va_Pc [.ref (bd 0), .int p1] (mPre dC dI bd cb sz d)) (va_Qi (fun (r : Int32) (u : MS) => r = r9 ∧ u = d) (mAt dC dI bd cb (va_A (mw bd cb d) sz)) (va_A (mw bd cb d) sz)) 0 0 (va_A (mw bd cb d) sz) := by
  refine Met.ofW (cc := prog_10_method_23_code) (maxL := 3) (ret := (some .boolean)) (by decide) rfl ?_
  intro p e s m args below meth c s₁ B hml hv
  obtain ⟨rfl, hsz, hP, hK, hD0, hN⟩ := hv
  have hx := B.exec
  have hb := B.bytes
  have hr := B.returns
  have hts0 := atoms_spec (ws := w_Mod_reversible) B.pre
  have hts : ∀ w ∈ gt, w.before _ s = true := fun w h => hts0 w (List.mem_cons_of_mem _ h)
  have hown : s.vm.findClass "CardMessageDeskModel" = some m.cls := findClass_of_methodNamed B.named
  have hlocks := B.notSynchronized
  subst hsz
  have hD := hD0.self (sz := s.heap.size)
  generalize hAe : va_A (mw bd cb d) s.heap.size = A at hD ⊢
  have hA : ∀ q : Nat, s.heap.size ≤ q → A q := fun q h => by rw [← hAe]; exact Or.inr h
  have hS : va_S A s.heap s.heap [] := va_S.rf
  have hl := lv_entry ([.ref (bd 0), .int p1]) (n := 3) (Nat.le_of_ble_eq_true rfl)
  rw [lg_entry_eq]
  generalize (lg_sl ([.ref (bd 0), .int p1]) ++ List.replicate (3 - (lg_sl ([.ref (bd 0), .int p1])).length) Slot.unset).toArray = ls at hl ⊢
  have hl : lv_has ls 3 [(0, .ref (bd 0)), (1, .int p1)] := hl
  unfold jm_M_reversible at hj
  refine lv_aload_n hx hb d_Mod_reversible_0 rfl (lv_at hl 0 rfl) ?_
  refine va_get (D := (dC, dI)) (ci := 8) (v := .ref (bd 8)) (C := "CardMessageDeskModel") (T := T_Mod) (N := 32) hx hb hts in_Mod hown hK hP 0 rfl rfl 21 (by decide) (hts _ tw521) (fun _ h9 => h9) rfl d_Mod_reversible_1 ?_
  refine lv_iload_n hx hb d_Mod_reversible_4 rfl (lv_at hl 1 rfl) ?_
  obtain ⟨hi_1, hj⟩ := gd_some hj
  refine va_iald hx hb hK hP 8 7 rfl rfl hi_1 d_Mod_reversible_5 ?_
  refine lv_bipush (v := 100) hx hb d_Mod_reversible_6 (by decide) ?_
  refine lv_icmp_ne (tgt := 19) hx hb d_Mod_reversible_8 (by decide) (fun c_2 => ?_) (fun c_2 => ?_)
  · have hj := it_n hj c_2
    refine lv_aload_n hx hb d_Mod_reversible_19 rfl (lv_at hl 0 rfl) ?_
    refine va_get (D := (dC, dI)) (ci := 8) (v := .ref (bd 8)) (C := "CardMessageDeskModel") (T := T_Mod) (N := 32) hx hb hts in_Mod hown hK hP 0 rfl rfl 21 (by decide) (hts _ tw521) (fun _ h9 => h9) rfl d_Mod_reversible_20 ?_
    refine lv_iload_n hx hb d_Mod_reversible_23 rfl (lv_at hl 1 rfl) ?_
    obtain ⟨hi_3, hj⟩ := gd_some hj
    refine va_iald hx hb hK hP 8 7 rfl rfl hi_3 d_Mod_reversible_24 ?_
    refine lv_sipush (v := 200) hx hb d_Mod_reversible_25 (by decide) ?_
    refine lv_icmp_ne (tgt := 54) hx hb d_Mod_reversible_28 (by decide) (fun c_4 => ?_) (fun c_4 => ?_)
    · have hj := it_n hj c_4
      refine lv_iconst (v := 0) hx hb d_Mod_reversible_54 (by decide) ?_
      refine lv_istore_n (lv' := [(2, .int (0 : Int32)), (0, .ref (bd 0)), (1, .int p1)]) hx hb d_Mod_reversible_55 rfl hl (by decide) rfl (fun ls hl => ?_)
      refine lv_iload_n hx hb d_Mod_reversible_56 rfl (lv_at hl 0 rfl) ?_
      refine lv_if_eq (tgt := 104) hx hb d_Mod_reversible_57 (by decide) (fun c_5 => ?_) (fun c_5 => ?_)
      · skip
        refine lv_iconst (v := 0) hx hb d_Mod_reversible_104 (by decide) ?_
        obtain rfl := Option.some.inj hj
        exact W.zret (ty := .boolean) hx hb hr rfl (fun t ht hW => ⟨⟨_, _, rfl, ⟨rfl, rfl⟩, by rw [ht]; exact hP, va_K.moved hW.alike hK, hD⟩, hS.F ht⟩) hS.2.2 d_Mod_reversible_105
      · exact absurd c_5 (by decide)
    · have hj := it_p hj c_4
      refine lv_aload_n hx hb d_Mod_reversible_31 rfl (lv_at hl 0 rfl) ?_
      refine va_get (D := (dC, dI)) (ci := 8) (v := .ref (bd 14)) (C := "CardMessageDeskModel") (T := T_Mod) (N := 32) hx hb hts in_Mod hown hK hP 0 rfl rfl 27 (by decide) (hts _ tw527) (fun _ h9 => h9) rfl d_Mod_reversible_32 ?_
      refine lv_iload_n hx hb d_Mod_reversible_35 rfl (lv_at hl 1 rfl) ?_
      obtain ⟨hi_6, hj⟩ := gd_some hj
      refine va_iald hx hb hK hP 14 13 rfl rfl hi_6 d_Mod_reversible_36 ?_
      refine lv_if_ne (tgt := 54) hx hb d_Mod_reversible_37 (by decide) (fun c_7 => ?_) (fun c_7 => ?_)
      · have hj := it_n hj c_7
        refine lv_iconst (v := 0) hx hb d_Mod_reversible_54 (by decide) ?_
        refine lv_istore_n (lv' := [(2, .int (0 : Int32)), (0, .ref (bd 0)), (1, .int p1)]) hx hb d_Mod_reversible_55 rfl hl (by decide) rfl (fun ls hl => ?_)
        refine lv_iload_n hx hb d_Mod_reversible_56 rfl (lv_at hl 0 rfl) ?_
        refine lv_if_eq (tgt := 104) hx hb d_Mod_reversible_57 (by decide) (fun c_8 => ?_) (fun c_8 => ?_)
        · skip
          refine lv_iconst (v := 0) hx hb d_Mod_reversible_104 (by decide) ?_
          obtain rfl := Option.some.inj hj
          exact W.zret (ty := .boolean) hx hb hr rfl (fun t ht hW => ⟨⟨_, _, rfl, ⟨rfl, rfl⟩, by rw [ht]; exact hP, va_K.moved hW.alike hK, hD⟩, hS.F ht⟩) hS.2.2 d_Mod_reversible_105
        · exact absurd c_8 (by decide)
      · have hj := it_p hj c_7
        refine lv_aload_n hx hb d_Mod_reversible_40 rfl (lv_at hl 0 rfl) ?_
        refine va_get (D := (dC, dI)) (ci := 8) (v := .ref (bd 15)) (C := "CardMessageDeskModel") (T := T_Mod) (N := 32) hx hb hts in_Mod hown hK hP 0 rfl rfl 28 (by decide) (hts _ tw528) (fun _ h9 => h9) rfl d_Mod_reversible_41 ?_
        refine lv_iload_n hx hb d_Mod_reversible_44 rfl (lv_at hl 1 rfl) ?_
        obtain ⟨hi_9, hj⟩ := gd_some hj
        refine va_iald hx hb hK hP 15 14 rfl rfl hi_9 d_Mod_reversible_45 ?_
        refine lv_iconst (v := 3) hx hb d_Mod_reversible_46 (by decide) ?_
        refine lv_icmp_eq (tgt := 54) hx hb d_Mod_reversible_47 (by decide) (fun c_10 => ?_) (fun c_10 => ?_)
        · have hj := it_p hj c_10
          refine lv_iconst (v := 0) hx hb d_Mod_reversible_54 (by decide) ?_
          refine lv_istore_n (lv' := [(2, .int (0 : Int32)), (0, .ref (bd 0)), (1, .int p1)]) hx hb d_Mod_reversible_55 rfl hl (by decide) rfl (fun ls hl => ?_)
          refine lv_iload_n hx hb d_Mod_reversible_56 rfl (lv_at hl 0 rfl) ?_
          refine lv_if_eq (tgt := 104) hx hb d_Mod_reversible_57 (by decide) (fun c_11 => ?_) (fun c_11 => ?_)
          · skip
            refine lv_iconst (v := 0) hx hb d_Mod_reversible_104 (by decide) ?_
            obtain rfl := Option.some.inj hj
            exact W.zret (ty := .boolean) hx hb hr rfl (fun t ht hW => ⟨⟨_, _, rfl, ⟨rfl, rfl⟩, by rw [ht]; exact hP, va_K.moved hW.alike hK, hD⟩, hS.F ht⟩) hS.2.2 d_Mod_reversible_105
          · exact absurd c_11 (by decide)
        · have hj := it_n hj c_10
          refine lv_iconst (v := 1) hx hb d_Mod_reversible_50 (by decide) ?_
          refine lv_goto (tgt := 55) hx hb d_Mod_reversible_51 (by decide) ?_
          refine lv_istore_n (lv' := [(2, .int (1 : Int32)), (0, .ref (bd 0)), (1, .int p1)]) hx hb d_Mod_reversible_55 rfl hl (by decide) rfl (fun ls hl => ?_)
          refine lv_iload_n hx hb d_Mod_reversible_56 rfl (lv_at hl 0 rfl) ?_
          refine lv_if_eq (tgt := 104) hx hb d_Mod_reversible_57 (by decide) (fun c_12 => ?_) (fun c_12 => ?_)
          · exact absurd c_12 (by decide)
          · skip
            refine lv_aload_n hx hb d_Mod_reversible_60 rfl (lv_at hl 1 rfl) ?_
            refine va_get (D := (dC, dI)) (ci := 8) (v := .ref (bd 10)) (C := "CardMessageDeskModel") (T := T_Mod) (N := 32) hx hb hts in_Mod hown hK hP 0 rfl rfl 23 (by decide) (hts _ tw523) (fun _ h9 => h9) rfl d_Mod_reversible_61 ?_
            refine lv_iload_n hx hb d_Mod_reversible_64 rfl (lv_at hl 2 rfl) ?_
            obtain ⟨hi_13, hj⟩ := gd_some hj
            refine va_iald hx hb hK hP 10 9 rfl rfl hi_13 d_Mod_reversible_65 ?_
            refine lv_aload_n hx hb d_Mod_reversible_66 rfl (lv_at hl 1 rfl) ?_
            refine va_get (D := (dC, dI)) (ci := 8) (v := .int (mg_original d)) (C := "CardMessageDeskModel") (T := T_Mod) (N := 32) hx hb hts in_Mod hown hK hP 0 rfl rfl 19 (by decide) (hts _ tw519) (fun _ h9 => h9) rfl d_Mod_reversible_67 ?_
            refine lv_icmp_ne (tgt := 104) hx hb d_Mod_reversible_70 (by decide) (fun c_14 => ?_) (fun c_14 => ?_)
            · have hj := it_n hj c_14
              refine lv_iconst (v := 0) hx hb d_Mod_reversible_104 (by decide) ?_
              obtain rfl := Option.some.inj hj
              exact W.zret (ty := .boolean) hx hb hr rfl (fun t ht hW => ⟨⟨_, _, rfl, ⟨rfl, rfl⟩, by rw [ht]; exact hP, va_K.moved hW.alike hK, hD⟩, hS.F ht⟩) hS.2.2 d_Mod_reversible_105
            · have hj := it_p hj c_14
              refine lv_aload_n hx hb d_Mod_reversible_73 rfl (lv_at hl 1 rfl) ?_
              refine va_get (D := (dC, dI)) (ci := 8) (v := .ref (bd 9)) (C := "CardMessageDeskModel") (T := T_Mod) (N := 32) hx hb hts in_Mod hown hK hP 0 rfl rfl 22 (by decide) (hts _ tw522) (fun _ h9 => h9) rfl d_Mod_reversible_74 ?_
              refine lv_iload_n hx hb d_Mod_reversible_77 rfl (lv_at hl 2 rfl) ?_
              obtain ⟨hi_15, hj⟩ := gd_some hj
              refine va_iald hx hb hK hP 9 8 rfl rfl hi_15 d_Mod_reversible_78 ?_
              refine lv_aload_n hx hb d_Mod_reversible_79 rfl (lv_at hl 1 rfl) ?_
              refine va_get (D := (dC, dI)) (ci := 8) (v := .int (mg_terminal d)) (C := "CardMessageDeskModel") (T := T_Mod) (N := 32) hx hb hts in_Mod hown hK hP 0 rfl rfl 18 (by decide) (hts _ tw518) (fun _ h9 => h9) rfl d_Mod_reversible_80 ?_
              refine lv_icmp_ne (tgt := 104) hx hb d_Mod_reversible_83 (by decide) (fun c_16 => ?_) (fun c_16 => ?_)
              · have hj := it_n hj c_16
                refine lv_iconst (v := 0) hx hb d_Mod_reversible_104 (by decide) ?_
                obtain rfl := Option.some.inj hj
                exact W.zret (ty := .boolean) hx hb hr rfl (fun t ht hW => ⟨⟨_, _, rfl, ⟨rfl, rfl⟩, by rw [ht]; exact hP, va_K.moved hW.alike hK, hD⟩, hS.F ht⟩) hS.2.2 d_Mod_reversible_105
              · have hj := it_p hj c_16
                refine lv_aload_n hx hb d_Mod_reversible_86 rfl (lv_at hl 1 rfl) ?_
                refine va_get (D := (dC, dI)) (ci := 8) (v := .ref (bd 11)) (C := "CardMessageDeskModel") (T := T_Mod) (N := 32) hx hb hts in_Mod hown hK hP 0 rfl rfl 24 (by decide) (hts _ tw524) (fun _ h9 => h9) rfl d_Mod_reversible_87 ?_
                refine lv_iload_n hx hb d_Mod_reversible_90 rfl (lv_at hl 2 rfl) ?_
                obtain ⟨hi_17, hj⟩ := gd_some hj
                refine va_lald hx hb hK hP 11 10 rfl rfl hi_17 d_Mod_reversible_91 ?_
                refine lv_aload_n hx hb d_Mod_reversible_92 rfl (lv_at hl 1 rfl) ?_
                refine va_get (D := (dC, dI)) (ci := 8) (v := .long (mg_card d)) (C := "CardMessageDeskModel") (T := T_Mod) (N := 32) hx hb hts in_Mod hown hK hP 0 rfl rfl 14 (by decide) (hts _ tw514) (fun _ h9 => h9) rfl d_Mod_reversible_93 ?_
                refine W.lcmp hx hb d_Mod_reversible_96 ?_
                refine lv_if_ne (tgt := 104) hx hb d_Mod_reversible_97 (by decide) (fun c_18 => ?_) (fun c_18 => ?_)
                · have hj := it_n hj (fun z => c_18 (lc_ne.mpr z))
                  refine lv_iconst (v := 0) hx hb d_Mod_reversible_104 (by decide) ?_
                  obtain rfl := Option.some.inj hj
                  exact W.zret (ty := .boolean) hx hb hr rfl (fun t ht hW => ⟨⟨_, _, rfl, ⟨rfl, rfl⟩, by rw [ht]; exact hP, va_K.moved hW.alike hK, hD⟩, hS.F ht⟩) hS.2.2 d_Mod_reversible_105
                · have hj := it_p hj (lc_ne.mp c_18)
                  refine lv_iconst (v := 1) hx hb d_Mod_reversible_100 (by decide) ?_
                  refine lv_goto (tgt := 105) hx hb d_Mod_reversible_101 (by decide) ?_
                  obtain rfl := Option.some.inj hj
                  exact W.zret (ty := .boolean) hx hb hr rfl (fun t ht hW => ⟨⟨_, _, rfl, ⟨rfl, rfl⟩, by rw [ht]; exact hP, va_K.moved hW.alike hK, hD⟩, hS.F ht⟩) hS.2.2 d_Mod_reversible_105
  · have hj := it_p hj c_2
    refine lv_aload_n hx hb d_Mod_reversible_11 rfl (lv_at hl 0 rfl) ?_
    refine lv_iload_n hx hb d_Mod_reversible_12 rfl (lv_at hl 1 rfl) ?_
    obtain ⟨v_19, hc_19, hj⟩ := bd_some hj
    have hF_19 := va_fr hD hS hA
    refine va_calli (va_runV (As := [.int p1]) (rest := []) ⟨hx, hb, hml, hown, hts⟩ (cm_M_isHold l dC dI bd cb s.heap.size d p1  v_19 hc_19) (cwV 1 hts (gtV tw618 tw620 ts14 tw9 tw621) rfl rfl rfl (by decide +kernel) ⟨Nat.le_of_ble_eq_true rfl, Nat.le_of_ble_eq_true rfl⟩) ⟨mBl, va_recv hK hP (ci := 8) (q0 := 0) rfl rfl, fun U hU hW => ⟨rfl, mPr hP hK hD hN hU hW⟩⟩ rfl rfl hl.1 rfl (lv_room (Nat.le_of_ble_eq_true rfl)) d_Mod_reversible_13 ⟨Nat.zero_le _, Nat.zero_le _⟩) hS (fun q _ h => hF_19 q h) hF_19 (fun r u t H locs ht hvm hw hB hz1 hk1 hS => ?_)
    obtain ⟨hw1, hw2⟩ := hw
    have hw1 := hw1.symm
    subst hw1
    have hw2 := hw2.symm
    subst hw2
    obtain ⟨hP, hD⟩ := mAf hB ht hF_19
    refine lv_if_ne (tgt := 50) hx hb d_Mod_reversible_16 (by decide) (fun c_20 => ?_) (fun c_20 => ?_)
    · have hj := it_n hj c_20
      refine lv_iconst (v := 1) hx hb d_Mod_reversible_50 (by decide) ?_
      refine lv_goto (tgt := 55) hx hb d_Mod_reversible_51 (by decide) ?_
      refine lv_istore_n (lv' := [(2, .int (1 : Int32)), (0, .ref (bd 0)), (1, .int p1)]) hx hb d_Mod_reversible_55 rfl hl (by decide) rfl (fun ls hl => ?_)
      refine lv_iload_n hx hb d_Mod_reversible_56 rfl (lv_at hl 0 rfl) ?_
      refine lv_if_eq (tgt := 104) hx hb d_Mod_reversible_57 (by decide) (fun c_21 => ?_) (fun c_21 => ?_)
      · exact absurd c_21 (by decide)
      · skip
        refine lv_aload_n hx hb d_Mod_reversible_60 rfl (lv_at hl 1 rfl) ?_
        refine va_get (D := (dC, dI)) (ci := 8) (v := .ref (bd 10)) (C := "CardMessageDeskModel") (T := T_Mod) (N := 32) hx hb hts in_Mod hown hK hP 0 rfl rfl 23 (by decide) (hts _ tw523) (fun _ h9 => h9) rfl d_Mod_reversible_61 ?_
        refine lv_iload_n hx hb d_Mod_reversible_64 rfl (lv_at hl 2 rfl) ?_
        obtain ⟨hi_22, hj⟩ := gd_some hj
        refine va_iald hx hb hK hP 10 9 rfl rfl hi_22 d_Mod_reversible_65 ?_
        refine lv_aload_n hx hb d_Mod_reversible_66 rfl (lv_at hl 1 rfl) ?_
        refine va_get (D := (dC, dI)) (ci := 8) (v := .int (mg_original d)) (C := "CardMessageDeskModel") (T := T_Mod) (N := 32) hx hb hts in_Mod hown hK hP 0 rfl rfl 19 (by decide) (hts _ tw519) (fun _ h9 => h9) rfl d_Mod_reversible_67 ?_
        refine lv_icmp_ne (tgt := 104) hx hb d_Mod_reversible_70 (by decide) (fun c_23 => ?_) (fun c_23 => ?_)
        · have hj := it_n hj c_23
          refine lv_iconst (v := 0) hx hb d_Mod_reversible_104 (by decide) ?_
          obtain rfl := Option.some.inj hj
          exact W.zret (ty := .boolean) hx hb hr rfl (fun t ht hW => ⟨⟨_, _, rfl, ⟨rfl, rfl⟩, by rw [ht]; exact hP, va_K.moved hW.alike hK, hD⟩, hS.F ht⟩) hS.2.2 d_Mod_reversible_105
        · have hj := it_p hj c_23
          refine lv_aload_n hx hb d_Mod_reversible_73 rfl (lv_at hl 1 rfl) ?_
          refine va_get (D := (dC, dI)) (ci := 8) (v := .ref (bd 9)) (C := "CardMessageDeskModel") (T := T_Mod) (N := 32) hx hb hts in_Mod hown hK hP 0 rfl rfl 22 (by decide) (hts _ tw522) (fun _ h9 => h9) rfl d_Mod_reversible_74 ?_
          refine lv_iload_n hx hb d_Mod_reversible_77 rfl (lv_at hl 2 rfl) ?_
          obtain ⟨hi_24, hj⟩ := gd_some hj
          refine va_iald hx hb hK hP 9 8 rfl rfl hi_24 d_Mod_reversible_78 ?_
          refine lv_aload_n hx hb d_Mod_reversible_79 rfl (lv_at hl 1 rfl) ?_
          refine va_get (D := (dC, dI)) (ci := 8) (v := .int (mg_terminal d)) (C := "CardMessageDeskModel") (T := T_Mod) (N := 32) hx hb hts in_Mod hown hK hP 0 rfl rfl 18 (by decide) (hts _ tw518) (fun _ h9 => h9) rfl d_Mod_reversible_80 ?_
          refine lv_icmp_ne (tgt := 104) hx hb d_Mod_reversible_83 (by decide) (fun c_25 => ?_) (fun c_25 => ?_)
          · have hj := it_n hj c_25
            refine lv_iconst (v := 0) hx hb d_Mod_reversible_104 (by decide) ?_
            obtain rfl := Option.some.inj hj
            exact W.zret (ty := .boolean) hx hb hr rfl (fun t ht hW => ⟨⟨_, _, rfl, ⟨rfl, rfl⟩, by rw [ht]; exact hP, va_K.moved hW.alike hK, hD⟩, hS.F ht⟩) hS.2.2 d_Mod_reversible_105
          · have hj := it_p hj c_25
            refine lv_aload_n hx hb d_Mod_reversible_86 rfl (lv_at hl 1 rfl) ?_
            refine va_get (D := (dC, dI)) (ci := 8) (v := .ref (bd 11)) (C := "CardMessageDeskModel") (T := T_Mod) (N := 32) hx hb hts in_Mod hown hK hP 0 rfl rfl 24 (by decide) (hts _ tw524) (fun _ h9 => h9) rfl d_Mod_reversible_87 ?_
            refine lv_iload_n hx hb d_Mod_reversible_90 rfl (lv_at hl 2 rfl) ?_
            obtain ⟨hi_26, hj⟩ := gd_some hj
            refine va_lald hx hb hK hP 11 10 rfl rfl hi_26 d_Mod_reversible_91 ?_
            refine lv_aload_n hx hb d_Mod_reversible_92 rfl (lv_at hl 1 rfl) ?_
            refine va_get (D := (dC, dI)) (ci := 8) (v := .long (mg_card d)) (C := "CardMessageDeskModel") (T := T_Mod) (N := 32) hx hb hts in_Mod hown hK hP 0 rfl rfl 14 (by decide) (hts _ tw514) (fun _ h9 => h9) rfl d_Mod_reversible_93 ?_
            refine W.lcmp hx hb d_Mod_reversible_96 ?_
            refine lv_if_ne (tgt := 104) hx hb d_Mod_reversible_97 (by decide) (fun c_27 => ?_) (fun c_27 => ?_)
            · have hj := it_n hj (fun z => c_27 (lc_ne.mpr z))
              refine lv_iconst (v := 0) hx hb d_Mod_reversible_104 (by decide) ?_
              obtain rfl := Option.some.inj hj
              exact W.zret (ty := .boolean) hx hb hr rfl (fun t ht hW => ⟨⟨_, _, rfl, ⟨rfl, rfl⟩, by rw [ht]; exact hP, va_K.moved hW.alike hK, hD⟩, hS.F ht⟩) hS.2.2 d_Mod_reversible_105
            · have hj := it_p hj (lc_ne.mp c_27)
              refine lv_iconst (v := 1) hx hb d_Mod_reversible_100 (by decide) ?_
              refine lv_goto (tgt := 105) hx hb d_Mod_reversible_101 (by decide) ?_
              obtain rfl := Option.some.inj hj
              exact W.zret (ty := .boolean) hx hb hr rfl (fun t ht hW => ⟨⟨_, _, rfl, ⟨rfl, rfl⟩, by rw [ht]; exact hP, va_K.moved hW.alike hK, hD⟩, hS.F ht⟩) hS.2.2 d_Mod_reversible_105
    · have hj := it_p hj c_20
      refine lv_aload_n hx hb d_Mod_reversible_19 rfl (lv_at hl 0 rfl) ?_
      refine va_get (D := (dC, dI)) (ci := 8) (v := .ref (bd 8)) (C := "CardMessageDeskModel") (T := T_Mod) (N := 32) hx hb hts in_Mod hown hK hP 0 rfl rfl 21 (by decide) (hts _ tw521) (fun _ h9 => h9) rfl d_Mod_reversible_20 ?_
      refine lv_iload_n hx hb d_Mod_reversible_23 rfl (lv_at hl 1 rfl) ?_
      obtain ⟨hi_28, hj⟩ := gd_some hj
      refine va_iald hx hb hK hP 8 7 rfl rfl hi_28 d_Mod_reversible_24 ?_
      refine lv_sipush (v := 200) hx hb d_Mod_reversible_25 (by decide) ?_
      refine lv_icmp_ne (tgt := 54) hx hb d_Mod_reversible_28 (by decide) (fun c_29 => ?_) (fun c_29 => ?_)
      · have hj := it_n hj c_29
        refine lv_iconst (v := 0) hx hb d_Mod_reversible_54 (by decide) ?_
        refine lv_istore_n (lv' := [(2, .int (0 : Int32)), (0, .ref (bd 0)), (1, .int p1)]) hx hb d_Mod_reversible_55 rfl hl (by decide) rfl (fun ls hl => ?_)
        refine lv_iload_n hx hb d_Mod_reversible_56 rfl (lv_at hl 0 rfl) ?_
        refine lv_if_eq (tgt := 104) hx hb d_Mod_reversible_57 (by decide) (fun c_30 => ?_) (fun c_30 => ?_)
        · skip
          refine lv_iconst (v := 0) hx hb d_Mod_reversible_104 (by decide) ?_
          obtain rfl := Option.some.inj hj
          exact W.zret (ty := .boolean) hx hb hr rfl (fun t ht hW => ⟨⟨_, _, rfl, ⟨rfl, rfl⟩, by rw [ht]; exact hP, va_K.moved hW.alike hK, hD⟩, hS.F ht⟩) hS.2.2 d_Mod_reversible_105
        · exact absurd c_30 (by decide)
      · have hj := it_p hj c_29
        refine lv_aload_n hx hb d_Mod_reversible_31 rfl (lv_at hl 0 rfl) ?_
        refine va_get (D := (dC, dI)) (ci := 8) (v := .ref (bd 14)) (C := "CardMessageDeskModel") (T := T_Mod) (N := 32) hx hb hts in_Mod hown hK hP 0 rfl rfl 27 (by decide) (hts _ tw527) (fun _ h9 => h9) rfl d_Mod_reversible_32 ?_
        refine lv_iload_n hx hb d_Mod_reversible_35 rfl (lv_at hl 1 rfl) ?_
        obtain ⟨hi_31, hj⟩ := gd_some hj
        refine va_iald hx hb hK hP 14 13 rfl rfl hi_31 d_Mod_reversible_36 ?_
        refine lv_if_ne (tgt := 54) hx hb d_Mod_reversible_37 (by decide) (fun c_32 => ?_) (fun c_32 => ?_)
        · have hj := it_n hj c_32
          refine lv_iconst (v := 0) hx hb d_Mod_reversible_54 (by decide) ?_
          refine lv_istore_n (lv' := [(2, .int (0 : Int32)), (0, .ref (bd 0)), (1, .int p1)]) hx hb d_Mod_reversible_55 rfl hl (by decide) rfl (fun ls hl => ?_)
          refine lv_iload_n hx hb d_Mod_reversible_56 rfl (lv_at hl 0 rfl) ?_
          refine lv_if_eq (tgt := 104) hx hb d_Mod_reversible_57 (by decide) (fun c_33 => ?_) (fun c_33 => ?_)
          · skip
            refine lv_iconst (v := 0) hx hb d_Mod_reversible_104 (by decide) ?_
            obtain rfl := Option.some.inj hj
            exact W.zret (ty := .boolean) hx hb hr rfl (fun t ht hW => ⟨⟨_, _, rfl, ⟨rfl, rfl⟩, by rw [ht]; exact hP, va_K.moved hW.alike hK, hD⟩, hS.F ht⟩) hS.2.2 d_Mod_reversible_105
          · exact absurd c_33 (by decide)
        · have hj := it_p hj c_32
          refine lv_aload_n hx hb d_Mod_reversible_40 rfl (lv_at hl 0 rfl) ?_
          refine va_get (D := (dC, dI)) (ci := 8) (v := .ref (bd 15)) (C := "CardMessageDeskModel") (T := T_Mod) (N := 32) hx hb hts in_Mod hown hK hP 0 rfl rfl 28 (by decide) (hts _ tw528) (fun _ h9 => h9) rfl d_Mod_reversible_41 ?_
          refine lv_iload_n hx hb d_Mod_reversible_44 rfl (lv_at hl 1 rfl) ?_
          obtain ⟨hi_34, hj⟩ := gd_some hj
          refine va_iald hx hb hK hP 15 14 rfl rfl hi_34 d_Mod_reversible_45 ?_
          refine lv_iconst (v := 3) hx hb d_Mod_reversible_46 (by decide) ?_
          refine lv_icmp_eq (tgt := 54) hx hb d_Mod_reversible_47 (by decide) (fun c_35 => ?_) (fun c_35 => ?_)
          · have hj := it_p hj c_35
            refine lv_iconst (v := 0) hx hb d_Mod_reversible_54 (by decide) ?_
            refine lv_istore_n (lv' := [(2, .int (0 : Int32)), (0, .ref (bd 0)), (1, .int p1)]) hx hb d_Mod_reversible_55 rfl hl (by decide) rfl (fun ls hl => ?_)
            refine lv_iload_n hx hb d_Mod_reversible_56 rfl (lv_at hl 0 rfl) ?_
            refine lv_if_eq (tgt := 104) hx hb d_Mod_reversible_57 (by decide) (fun c_36 => ?_) (fun c_36 => ?_)
            · skip
              refine lv_iconst (v := 0) hx hb d_Mod_reversible_104 (by decide) ?_
              obtain rfl := Option.some.inj hj
              exact W.zret (ty := .boolean) hx hb hr rfl (fun t ht hW => ⟨⟨_, _, rfl, ⟨rfl, rfl⟩, by rw [ht]; exact hP, va_K.moved hW.alike hK, hD⟩, hS.F ht⟩) hS.2.2 d_Mod_reversible_105
            · exact absurd c_36 (by decide)
          · have hj := it_n hj c_35
            refine lv_iconst (v := 1) hx hb d_Mod_reversible_50 (by decide) ?_
            refine lv_goto (tgt := 55) hx hb d_Mod_reversible_51 (by decide) ?_
            refine lv_istore_n (lv' := [(2, .int (1 : Int32)), (0, .ref (bd 0)), (1, .int p1)]) hx hb d_Mod_reversible_55 rfl hl (by decide) rfl (fun ls hl => ?_)
            refine lv_iload_n hx hb d_Mod_reversible_56 rfl (lv_at hl 0 rfl) ?_
            refine lv_if_eq (tgt := 104) hx hb d_Mod_reversible_57 (by decide) (fun c_37 => ?_) (fun c_37 => ?_)
            · exact absurd c_37 (by decide)
            · skip
              refine lv_aload_n hx hb d_Mod_reversible_60 rfl (lv_at hl 1 rfl) ?_
              refine va_get (D := (dC, dI)) (ci := 8) (v := .ref (bd 10)) (C := "CardMessageDeskModel") (T := T_Mod) (N := 32) hx hb hts in_Mod hown hK hP 0 rfl rfl 23 (by decide) (hts _ tw523) (fun _ h9 => h9) rfl d_Mod_reversible_61 ?_
              refine lv_iload_n hx hb d_Mod_reversible_64 rfl (lv_at hl 2 rfl) ?_
              obtain ⟨hi_38, hj⟩ := gd_some hj
              refine va_iald hx hb hK hP 10 9 rfl rfl hi_38 d_Mod_reversible_65 ?_
              refine lv_aload_n hx hb d_Mod_reversible_66 rfl (lv_at hl 1 rfl) ?_
              refine va_get (D := (dC, dI)) (ci := 8) (v := .int (mg_original d)) (C := "CardMessageDeskModel") (T := T_Mod) (N := 32) hx hb hts in_Mod hown hK hP 0 rfl rfl 19 (by decide) (hts _ tw519) (fun _ h9 => h9) rfl d_Mod_reversible_67 ?_
              refine lv_icmp_ne (tgt := 104) hx hb d_Mod_reversible_70 (by decide) (fun c_39 => ?_) (fun c_39 => ?_)
              · have hj := it_n hj c_39
                refine lv_iconst (v := 0) hx hb d_Mod_reversible_104 (by decide) ?_
                obtain rfl := Option.some.inj hj
                exact W.zret (ty := .boolean) hx hb hr rfl (fun t ht hW => ⟨⟨_, _, rfl, ⟨rfl, rfl⟩, by rw [ht]; exact hP, va_K.moved hW.alike hK, hD⟩, hS.F ht⟩) hS.2.2 d_Mod_reversible_105
              · have hj := it_p hj c_39
                refine lv_aload_n hx hb d_Mod_reversible_73 rfl (lv_at hl 1 rfl) ?_
                refine va_get (D := (dC, dI)) (ci := 8) (v := .ref (bd 9)) (C := "CardMessageDeskModel") (T := T_Mod) (N := 32) hx hb hts in_Mod hown hK hP 0 rfl rfl 22 (by decide) (hts _ tw522) (fun _ h9 => h9) rfl d_Mod_reversible_74 ?_
                refine lv_iload_n hx hb d_Mod_reversible_77 rfl (lv_at hl 2 rfl) ?_
                obtain ⟨hi_40, hj⟩ := gd_some hj
                refine va_iald hx hb hK hP 9 8 rfl rfl hi_40 d_Mod_reversible_78 ?_
                refine lv_aload_n hx hb d_Mod_reversible_79 rfl (lv_at hl 1 rfl) ?_
                refine va_get (D := (dC, dI)) (ci := 8) (v := .int (mg_terminal d)) (C := "CardMessageDeskModel") (T := T_Mod) (N := 32) hx hb hts in_Mod hown hK hP 0 rfl rfl 18 (by decide) (hts _ tw518) (fun _ h9 => h9) rfl d_Mod_reversible_80 ?_
                refine lv_icmp_ne (tgt := 104) hx hb d_Mod_reversible_83 (by decide) (fun c_41 => ?_) (fun c_41 => ?_)
                · have hj := it_n hj c_41
                  refine lv_iconst (v := 0) hx hb d_Mod_reversible_104 (by decide) ?_
                  obtain rfl := Option.some.inj hj
                  exact W.zret (ty := .boolean) hx hb hr rfl (fun t ht hW => ⟨⟨_, _, rfl, ⟨rfl, rfl⟩, by rw [ht]; exact hP, va_K.moved hW.alike hK, hD⟩, hS.F ht⟩) hS.2.2 d_Mod_reversible_105
                · have hj := it_p hj c_41
                  refine lv_aload_n hx hb d_Mod_reversible_86 rfl (lv_at hl 1 rfl) ?_
                  refine va_get (D := (dC, dI)) (ci := 8) (v := .ref (bd 11)) (C := "CardMessageDeskModel") (T := T_Mod) (N := 32) hx hb hts in_Mod hown hK hP 0 rfl rfl 24 (by decide) (hts _ tw524) (fun _ h9 => h9) rfl d_Mod_reversible_87 ?_
                  refine lv_iload_n hx hb d_Mod_reversible_90 rfl (lv_at hl 2 rfl) ?_
                  obtain ⟨hi_42, hj⟩ := gd_some hj
                  refine va_lald hx hb hK hP 11 10 rfl rfl hi_42 d_Mod_reversible_91 ?_
                  refine lv_aload_n hx hb d_Mod_reversible_92 rfl (lv_at hl 1 rfl) ?_
                  refine va_get (D := (dC, dI)) (ci := 8) (v := .long (mg_card d)) (C := "CardMessageDeskModel") (T := T_Mod) (N := 32) hx hb hts in_Mod hown hK hP 0 rfl rfl 14 (by decide) (hts _ tw514) (fun _ h9 => h9) rfl d_Mod_reversible_93 ?_
                  refine W.lcmp hx hb d_Mod_reversible_96 ?_
                  refine lv_if_ne (tgt := 104) hx hb d_Mod_reversible_97 (by decide) (fun c_43 => ?_) (fun c_43 => ?_)
                  · have hj := it_n hj (fun z => c_43 (lc_ne.mpr z))
                    refine lv_iconst (v := 0) hx hb d_Mod_reversible_104 (by decide) ?_
                    obtain rfl := Option.some.inj hj
                    exact W.zret (ty := .boolean) hx hb hr rfl (fun t ht hW => ⟨⟨_, _, rfl, ⟨rfl, rfl⟩, by rw [ht]; exact hP, va_K.moved hW.alike hK, hD⟩, hS.F ht⟩) hS.2.2 d_Mod_reversible_105
                  · have hj := it_p hj (lc_ne.mp c_43)
                    refine lv_iconst (v := 1) hx hb d_Mod_reversible_100 (by decide) ?_
                    refine lv_goto (tgt := 105) hx hb d_Mod_reversible_101 (by decide) ?_
                    obtain rfl := Option.some.inj hj
                    exact W.zret (ty := .boolean) hx hb hr rfl (fun t ht hW => ⟨⟨_, _, rfl, ⟨rfl, rfl⟩, by rw [ht]; exact hP, va_K.moved hW.alike hK, hD⟩, hS.F ht⟩) hS.2.2 d_Mod_reversible_105
set_option maxHeartbeats 4000000 in
set_option maxRecDepth 100000 in
theorem cm_M_reverse_L13 {p : Program} {l : Launch} {e : Env} {s : State} {m : MethodId} {args : Array Value} {below : List Frame} {meth : Method} {c : Code} {dC : Nat → ClassId} {dI : Nat → Nat → Nat} {bd : Nat → Nat} {cb : Nat → ClassId} {A : Nat → Prop}  (x1 : Int32)  (r9 : Int32) (d9 : MS) (hx : p.tables.exec = Jvm.exec) (hb : c.code = prog_10_method_24_code) (hr : meth.sig.returnType = (some .int)) (hlocks : meth.locks = false) (hml : c.maxLocals = 4) (hown : s.vm.findClass "CardMessageDeskModel" = some m.cls) (hts : ∀ w ∈ gt, w.before args s = true) (hN : nw s) (hA : ∀ q : Nat, s.heap.size ≤ q → A q) (hK : va_K (dC, dI) vwCl (mT cb) s) :
    ∀ (n : Nat) (d : MS) (x2 : Int32) (x3 : Int32) (H : Heap) (locs : List Loc) (ls : Array Slot), loopF (jm_M_reverse_L13 x1) n (d, x2, x3) = some (r9, d9) → va_P (dC, dI) vwCl (mw bd cb d) H → va_D A (mw bd cb d) → va_S A s.heap H locs → lv_has ls 4 [(0, .ref (bd 0)), (1, .int x1), (2, .int x2), (3, .int x3)] → W p l e ({ frames := 2, cells := 0, slots := 0, locals := 43 }) s m args below meth c H locs 0 0 (MQ below (va_Qi (fun (r : Int32) (u : MS) => r = r9 ∧ u = d9) (mAt dC dI bd cb A) A) args s 0 0 A) (F0 m 13 ls []) := by
  intro n
  induction n with
  | zero =>
    intro d x2 x3 H locs ls hj
    exact (loopF_z hj).elim
  | succ n ih =>
    intro d x2 x3 H locs ls hj hP hD hS hl
    have hj := loopF_s hj
    unfold jm_M_reverse_L13 at hj
    try dsimp only at hj
    refine lv_iload_n hx hb d_Mod_reverse_13 rfl (lv_at hl 3 rfl) ?_
    refine lv_aload_n hx hb d_Mod_reverse_14 rfl (lv_at hl 0 rfl) ?_
    refine va_get (D := (dC, dI)) (ci := 8) (v := .int (mg_entries d)) (C := "CardMessageDeskModel") (T := T_Mod) (N := 32) hx hb hts in_Mod hown hK hP 0 rfl rfl 20 (by decide) (hts _ tw520) (fun _ h9 => h9) rfl d_Mod_reverse_15 ?_
    refine lv_icmp_ge (tgt := 41) hx hb d_Mod_reverse_18 (by decide) (fun c_2 => ?_) (fun c_2 => ?_)
    · have hj := it_p hj c_2
      refine lv_iload_n hx hb d_Mod_reverse_41 rfl (lv_at hl 1 rfl) ?_
      refine lv_if_ge (tgt := 50) hx hb d_Mod_reverse_42 (by decide) (fun c_3 => ?_) (fun c_3 => ?_)
      · have hj := it_p hj c_3
        refine lv_iload_n hx hb d_Mod_reverse_50 rfl (lv_at hl 2 rfl) ?_
        refine lv_if_ge (tgt := 59) hx hb d_Mod_reverse_51 (by decide) (fun c_4 => ?_) (fun c_4 => ?_)
        · have hj := it_p hj c_4
          refine lv_iconst (v := 0) hx hb d_Mod_reverse_59 (by decide) ?_
          refine lv_istore_n (lv' := [(3, .int (0 : Int32)), (0, .ref (bd 0)), (1, .int x1), (2, .int x2)]) hx hb d_Mod_reverse_60 rfl hl (by decide) rfl (fun ls hl => ?_)
          refine lv_iload_n hx hb d_Mod_reverse_61 rfl (lv_at hl 0 rfl) ?_
          refine lv_if_ne (tgt := 134) hx hb d_Mod_reverse_62 (by decide) (fun c_5 => ?_) (fun c_5 => ?_)
          · exact absurd c_5 (by decide)
          · skip
            refine lv_aload_n hx hb d_Mod_reverse_65 rfl (lv_at hl 1 rfl) ?_
            refine va_get (D := (dC, dI)) (ci := 8) (v := .ref (bd 15)) (C := "CardMessageDeskModel") (T := T_Mod) (N := 32) hx hb hts in_Mod hown hK hP 0 rfl rfl 28 (by decide) (hts _ tw528) (fun _ h9 => h9) rfl d_Mod_reverse_66 ?_
            refine lv_iload_n hx hb d_Mod_reverse_69 rfl (lv_at hl 3 rfl) ?_
            refine lv_iconst (v := 3) hx hb d_Mod_reverse_70 (by decide) ?_
            obtain ⟨hi_6, hj⟩ := gd_some hj
            obtain ⟨d_7, ed_7, hj⟩ := nm_some hj
            refine va_iast hx hb hK hP hD hS 15 14 rfl rfl hi_6 d_Mod_reverse_71 (fun H locs hP hD hS => ?_)
            have hP : va_P (dC, dI) vwCl (mw bd cb d_7) H := by rw [ed_7]; exact hP
            have hD : va_D A (mw bd cb d_7) := by rw [ed_7]; exact hD
            refine lv_aload_n hx hb d_Mod_reverse_72 rfl (lv_at hl 1 rfl) ?_
            refine va_get (D := (dC, dI)) (ci := 8) (v := .ref (bd 8)) (C := "CardMessageDeskModel") (T := T_Mod) (N := 32) hx hb hts in_Mod hown hK hP 0 rfl rfl 21 (by decide) (hts _ tw521) (fun _ h9 => h9) rfl d_Mod_reverse_73 ?_
            refine lv_iload_n hx hb d_Mod_reverse_76 rfl (lv_at hl 3 rfl) ?_
            obtain ⟨hi_8, hj⟩ := gd_some hj
            refine va_iald hx hb hK hP 8 7 rfl rfl hi_8 d_Mod_reverse_77 ?_
            refine lv_sipush (v := 200) hx hb d_Mod_reverse_78 (by decide) ?_
            refine lv_icmp_ne (tgt := 134) hx hb d_Mod_reverse_81 (by decide) (fun c_9 => ?_) (fun c_9 => ?_)
            · have hj := it_n hj c_9
              refine lv_aload_n hx hb d_Mod_reverse_134 rfl (lv_at hl 1 rfl) ?_
              refine lv_iload_n hx hb d_Mod_reverse_135 rfl (lv_at hl 0 rfl) ?_
              refine lv_iconst (v := 0) hx hb d_Mod_reverse_136 (by decide) ?_
              obtain ⟨d_10, hc_10, hj⟩ := bd_some hj
              have hF_10 := va_fr hD hS hA
              refine va_callv (va_runV (As := [.int (0 : Int32), .int (0 : Int32)]) (rest := []) ⟨hx, hb, hml, hown, hts⟩ (cm_M_enter l dC dI bd cb H.size d_7 (0 : Int32) (0 : Int32)  d_10 hc_10) (cwV 2 hts (gtV tw688 tw690 ts27 tw9 tw691) rfl rfl rfl (by decide +kernel) ⟨Nat.le_of_ble_eq_true rfl, Nat.le_of_ble_eq_true rfl⟩) ⟨mBl, va_recv hK hP (ci := 8) (q0 := 0) rfl rfl, fun U hU hW => ⟨rfl, mPr hP hK hD hN hU hW⟩⟩ rfl rfl hl.1 rfl (lv_room (Nat.le_of_ble_eq_true rfl)) d_Mod_reverse_137 ⟨Nat.zero_le _, Nat.zero_le _⟩) hS (fun q _ h => hF_10 q h) hF_10 (fun u t H locs ht hvm hw hB hz1 hk1 hS => ?_)
              have hw := hw.symm
              subst hw
              obtain ⟨hP, hD⟩ := mAf hB ht hF_10
              refine lv_iload_n hx hb d_Mod_reverse_140 rfl (lv_at hl 0 rfl) ?_
              obtain ⟨rfl, rfl⟩ := rt_some hj
              exact W.iret hx hb hr (fun t ht hW => ⟨⟨_, _, rfl, ⟨rfl, rfl⟩, by rw [ht]; exact hP, va_K.moved hW.alike hK, hD⟩, hS.F ht⟩) hS.2.2 d_Mod_reverse_141
            · have hj := it_p hj c_9
              refine lv_aload_n hx hb d_Mod_reverse_84 rfl (lv_at hl 1 rfl) ?_
              refine va_get (D := (dC, dI)) (ci := 8) (v := .ref (bd 2)) (C := "CardMessageDeskModel") (T := T_Mod) (N := 32) hx hb hts in_Mod hown hK hP 0 rfl rfl 1 (by decide) (hts _ tw501) (fun _ h9 => h9) rfl d_Mod_reverse_85 ?_
              refine lv_iload_n hx hb d_Mod_reverse_88 rfl (lv_at hl 2 rfl) ?_
              refine lv_aload_n hx hb d_Mod_reverse_89 rfl (lv_at hl 1 rfl) ?_
              refine va_get (D := (dC, dI)) (ci := 8) (v := .ref (bd 12)) (C := "CardMessageDeskModel") (T := T_Mod) (N := 32) hx hb hts in_Mod hown hK hP 0 rfl rfl 25 (by decide) (hts _ tw525) (fun _ h9 => h9) rfl d_Mod_reverse_90 ?_
              refine lv_iload_n hx hb d_Mod_reverse_93 rfl (lv_at hl 3 rfl) ?_
              obtain ⟨hi_11, hj⟩ := gd_some hj
              refine va_iald hx hb hK hP 12 11 rfl rfl hi_11 d_Mod_reverse_94 ?_
              refine lv_sipush (v := 10000) hx hb d_Mod_reverse_95 (by decide) ?_
              refine lv_idiv hx hb d_Mod_reverse_98 (by decide +kernel) ?_
              refine lv_bipush (v := 20) hx hb d_Mod_reverse_99 (by decide) ?_
              refine lv_icmp_ne (tgt := 120) hx hb d_Mod_reverse_101 (by decide) (fun c_12 => ?_) (fun c_12 => ?_)
              · have hj := it_n hj c_12
                refine lv_aload_n hx hb d_Mod_reverse_120 rfl (lv_at hl 1 rfl) ?_
                refine va_get (D := (dC, dI)) (ci := 8) (v := .ref (bd 2)) (C := "CardMessageDeskModel") (T := T_Mod) (N := 32) hx hb hts in_Mod hown hK hP 0 rfl rfl 1 (by decide) (hts _ tw501) (fun _ h9 => h9) rfl d_Mod_reverse_121 ?_
                refine lv_iload_n hx hb d_Mod_reverse_124 rfl (lv_at hl 2 rfl) ?_
                obtain ⟨hi_13, hj⟩ := gd_some hj
                refine va_lald hx hb hK hP 2 1 rfl rfl hi_13 d_Mod_reverse_125 ?_
                refine lv_aload_n hx hb d_Mod_reverse_126 rfl (lv_at hl 1 rfl) ?_
                refine va_get (D := (dC, dI)) (ci := 8) (v := .ref (bd 13)) (C := "CardMessageDeskModel") (T := T_Mod) (N := 32) hx hb hts in_Mod hown hK hP 0 rfl rfl 26 (by decide) (hts _ tw526) (fun _ h9 => h9) rfl d_Mod_reverse_127 ?_
                refine lv_iload_n hx hb d_Mod_reverse_130 rfl (lv_at hl 3 rfl) ?_
                obtain ⟨hi_14, hj⟩ := gd_some hj
                refine va_lald hx hb hK hP 13 12 rfl rfl hi_14 d_Mod_reverse_131 ?_
                refine lv_ladd hx hb d_Mod_reverse_132 ?_
                obtain ⟨hi_15, hj⟩ := gd_some hj
                obtain ⟨d_16, ed_16, hj⟩ := nm_some hj
                refine va_last hx hb hK hP hD hS 2 1 rfl rfl hi_15 d_Mod_reverse_133 (fun H locs hP hD hS => ?_)
                have hP : va_P (dC, dI) vwCl (mw bd cb d_16) H := by rw [ed_16]; exact hP
                have hD : va_D A (mw bd cb d_16) := by rw [ed_16]; exact hD
                refine lv_aload_n hx hb d_Mod_reverse_134 rfl (lv_at hl 1 rfl) ?_
                refine lv_iload_n hx hb d_Mod_reverse_135 rfl (lv_at hl 0 rfl) ?_
                refine lv_iconst (v := 0) hx hb d_Mod_reverse_136 (by decide) ?_
                obtain ⟨d_17, hc_17, hj⟩ := bd_some hj
                have hF_17 := va_fr hD hS hA
                refine va_callv (va_runV (As := [.int (0 : Int32), .int (0 : Int32)]) (rest := []) ⟨hx, hb, hml, hown, hts⟩ (cm_M_enter l dC dI bd cb H.size d_16 (0 : Int32) (0 : Int32)  d_17 hc_17) (cwV 2 hts (gtV tw688 tw690 ts27 tw9 tw691) rfl rfl rfl (by decide +kernel) ⟨Nat.le_of_ble_eq_true rfl, Nat.le_of_ble_eq_true rfl⟩) ⟨mBl, va_recv hK hP (ci := 8) (q0 := 0) rfl rfl, fun U hU hW => ⟨rfl, mPr hP hK hD hN hU hW⟩⟩ rfl rfl hl.1 rfl (lv_room (Nat.le_of_ble_eq_true rfl)) d_Mod_reverse_137 ⟨Nat.zero_le _, Nat.zero_le _⟩) hS (fun q _ h => hF_17 q h) hF_17 (fun u t H locs ht hvm hw hB hz1 hk1 hS => ?_)
                have hw := hw.symm
                subst hw
                obtain ⟨hP, hD⟩ := mAf hB ht hF_17
                refine lv_iload_n hx hb d_Mod_reverse_140 rfl (lv_at hl 0 rfl) ?_
                obtain ⟨rfl, rfl⟩ := rt_some hj
                exact W.iret hx hb hr (fun t ht hW => ⟨⟨_, _, rfl, ⟨rfl, rfl⟩, by rw [ht]; exact hP, va_K.moved hW.alike hK, hD⟩, hS.F ht⟩) hS.2.2 d_Mod_reverse_141
              · have hj := it_p hj c_12
                refine lv_aload_n hx hb d_Mod_reverse_104 rfl (lv_at hl 1 rfl) ?_
                refine va_get (D := (dC, dI)) (ci := 8) (v := .ref (bd 2)) (C := "CardMessageDeskModel") (T := T_Mod) (N := 32) hx hb hts in_Mod hown hK hP 0 rfl rfl 1 (by decide) (hts _ tw501) (fun _ h9 => h9) rfl d_Mod_reverse_105 ?_
                refine lv_iload_n hx hb d_Mod_reverse_108 rfl (lv_at hl 2 rfl) ?_
                obtain ⟨hi_18, hj⟩ := gd_some hj
                refine va_lald hx hb hK hP 2 1 rfl rfl hi_18 d_Mod_reverse_109 ?_
                refine lv_aload_n hx hb d_Mod_reverse_110 rfl (lv_at hl 1 rfl) ?_
                refine va_get (D := (dC, dI)) (ci := 8) (v := .ref (bd 13)) (C := "CardMessageDeskModel") (T := T_Mod) (N := 32) hx hb hts in_Mod hown hK hP 0 rfl rfl 26 (by decide) (hts _ tw526) (fun _ h9 => h9) rfl d_Mod_reverse_111 ?_
                refine lv_iload_n hx hb d_Mod_reverse_114 rfl (lv_at hl 3 rfl) ?_
                obtain ⟨hi_19, hj⟩ := gd_some hj
                refine va_lald hx hb hK hP 13 12 rfl rfl hi_19 d_Mod_reverse_115 ?_
                refine lv_lsub hx hb d_Mod_reverse_116 ?_
                refine lv_goto (tgt := 133) hx hb d_Mod_reverse_117 (by decide) ?_
                obtain ⟨hi_20, hj⟩ := gd_some hj
                obtain ⟨d_21, ed_21, hj⟩ := nm_some hj
                refine va_last hx hb hK hP hD hS 2 1 rfl rfl hi_20 d_Mod_reverse_133 (fun H locs hP hD hS => ?_)
                have hP : va_P (dC, dI) vwCl (mw bd cb d_21) H := by rw [ed_21]; exact hP
                have hD : va_D A (mw bd cb d_21) := by rw [ed_21]; exact hD
                refine lv_aload_n hx hb d_Mod_reverse_134 rfl (lv_at hl 1 rfl) ?_
                refine lv_iload_n hx hb d_Mod_reverse_135 rfl (lv_at hl 0 rfl) ?_
                refine lv_iconst (v := 0) hx hb d_Mod_reverse_136 (by decide) ?_
                obtain ⟨d_22, hc_22, hj⟩ := bd_some hj
                have hF_22 := va_fr hD hS hA
                refine va_callv (va_runV (As := [.int (0 : Int32), .int (0 : Int32)]) (rest := []) ⟨hx, hb, hml, hown, hts⟩ (cm_M_enter l dC dI bd cb H.size d_21 (0 : Int32) (0 : Int32)  d_22 hc_22) (cwV 2 hts (gtV tw688 tw690 ts27 tw9 tw691) rfl rfl rfl (by decide +kernel) ⟨Nat.le_of_ble_eq_true rfl, Nat.le_of_ble_eq_true rfl⟩) ⟨mBl, va_recv hK hP (ci := 8) (q0 := 0) rfl rfl, fun U hU hW => ⟨rfl, mPr hP hK hD hN hU hW⟩⟩ rfl rfl hl.1 rfl (lv_room (Nat.le_of_ble_eq_true rfl)) d_Mod_reverse_137 ⟨Nat.zero_le _, Nat.zero_le _⟩) hS (fun q _ h => hF_22 q h) hF_22 (fun u t H locs ht hvm hw hB hz1 hk1 hS => ?_)
                have hw := hw.symm
                subst hw
                obtain ⟨hP, hD⟩ := mAf hB ht hF_22
                refine lv_iload_n hx hb d_Mod_reverse_140 rfl (lv_at hl 0 rfl) ?_
                obtain ⟨rfl, rfl⟩ := rt_some hj
                exact W.iret hx hb hr (fun t ht hW => ⟨⟨_, _, rfl, ⟨rfl, rfl⟩, by rw [ht]; exact hP, va_K.moved hW.alike hK, hD⟩, hS.F ht⟩) hS.2.2 d_Mod_reverse_141
        · have hj := it_n hj c_4
          refine lv_bipush (v := 25) hx hb d_Mod_reverse_54 (by decide) ?_
          refine lv_goto (tgt := 60) hx hb d_Mod_reverse_56 (by decide) ?_
          refine lv_istore_n (lv' := [(3, .int (25 : Int32)), (0, .ref (bd 0)), (1, .int x1), (2, .int x2)]) hx hb d_Mod_reverse_60 rfl hl (by decide) rfl (fun ls hl => ?_)
          refine lv_iload_n hx hb d_Mod_reverse_61 rfl (lv_at hl 0 rfl) ?_
          refine lv_if_ne (tgt := 134) hx hb d_Mod_reverse_62 (by decide) (fun c_23 => ?_) (fun c_23 => ?_)
          · skip
            refine lv_aload_n hx hb d_Mod_reverse_134 rfl (lv_at hl 1 rfl) ?_
            refine lv_iload_n hx hb d_Mod_reverse_135 rfl (lv_at hl 0 rfl) ?_
            refine lv_iconst (v := 0) hx hb d_Mod_reverse_136 (by decide) ?_
            obtain ⟨d_24, hc_24, hj⟩ := bd_some hj
            have hF_24 := va_fr hD hS hA
            refine va_callv (va_runV (As := [.int (25 : Int32), .int (0 : Int32)]) (rest := []) ⟨hx, hb, hml, hown, hts⟩ (cm_M_enter l dC dI bd cb H.size d (25 : Int32) (0 : Int32)  d_24 hc_24) (cwV 2 hts (gtV tw688 tw690 ts27 tw9 tw691) rfl rfl rfl (by decide +kernel) ⟨Nat.le_of_ble_eq_true rfl, Nat.le_of_ble_eq_true rfl⟩) ⟨mBl, va_recv hK hP (ci := 8) (q0 := 0) rfl rfl, fun U hU hW => ⟨rfl, mPr hP hK hD hN hU hW⟩⟩ rfl rfl hl.1 rfl (lv_room (Nat.le_of_ble_eq_true rfl)) d_Mod_reverse_137 ⟨Nat.zero_le _, Nat.zero_le _⟩) hS (fun q _ h => hF_24 q h) hF_24 (fun u t H locs ht hvm hw hB hz1 hk1 hS => ?_)
            have hw := hw.symm
            subst hw
            obtain ⟨hP, hD⟩ := mAf hB ht hF_24
            refine lv_iload_n hx hb d_Mod_reverse_140 rfl (lv_at hl 0 rfl) ?_
            obtain ⟨rfl, rfl⟩ := rt_some hj
            exact W.iret hx hb hr (fun t ht hW => ⟨⟨_, _, rfl, ⟨rfl, rfl⟩, by rw [ht]; exact hP, va_K.moved hW.alike hK, hD⟩, hS.F ht⟩) hS.2.2 d_Mod_reverse_141
          · exact absurd c_23 (by decide)
      · have hj := it_n hj c_3
        refine lv_bipush (v := 14) hx hb d_Mod_reverse_45 (by decide) ?_
        refine lv_goto (tgt := 60) hx hb d_Mod_reverse_47 (by decide) ?_
        refine lv_istore_n (lv' := [(3, .int (14 : Int32)), (0, .ref (bd 0)), (1, .int x1), (2, .int x2)]) hx hb d_Mod_reverse_60 rfl hl (by decide) rfl (fun ls hl => ?_)
        refine lv_iload_n hx hb d_Mod_reverse_61 rfl (lv_at hl 0 rfl) ?_
        refine lv_if_ne (tgt := 134) hx hb d_Mod_reverse_62 (by decide) (fun c_25 => ?_) (fun c_25 => ?_)
        · skip
          refine lv_aload_n hx hb d_Mod_reverse_134 rfl (lv_at hl 1 rfl) ?_
          refine lv_iload_n hx hb d_Mod_reverse_135 rfl (lv_at hl 0 rfl) ?_
          refine lv_iconst (v := 0) hx hb d_Mod_reverse_136 (by decide) ?_
          obtain ⟨d_26, hc_26, hj⟩ := bd_some hj
          have hF_26 := va_fr hD hS hA
          refine va_callv (va_runV (As := [.int (14 : Int32), .int (0 : Int32)]) (rest := []) ⟨hx, hb, hml, hown, hts⟩ (cm_M_enter l dC dI bd cb H.size d (14 : Int32) (0 : Int32)  d_26 hc_26) (cwV 2 hts (gtV tw688 tw690 ts27 tw9 tw691) rfl rfl rfl (by decide +kernel) ⟨Nat.le_of_ble_eq_true rfl, Nat.le_of_ble_eq_true rfl⟩) ⟨mBl, va_recv hK hP (ci := 8) (q0 := 0) rfl rfl, fun U hU hW => ⟨rfl, mPr hP hK hD hN hU hW⟩⟩ rfl rfl hl.1 rfl (lv_room (Nat.le_of_ble_eq_true rfl)) d_Mod_reverse_137 ⟨Nat.zero_le _, Nat.zero_le _⟩) hS (fun q _ h => hF_26 q h) hF_26 (fun u t H locs ht hvm hw hB hz1 hk1 hS => ?_)
          have hw := hw.symm
          subst hw
          obtain ⟨hP, hD⟩ := mAf hB ht hF_26
          refine lv_iload_n hx hb d_Mod_reverse_140 rfl (lv_at hl 0 rfl) ?_
          obtain ⟨rfl, rfl⟩ := rt_some hj
          exact W.iret hx hb hr (fun t ht hW => ⟨⟨_, _, rfl, ⟨rfl, rfl⟩, by rw [ht]; exact hP, va_K.moved hW.alike hK, hD⟩, hS.F ht⟩) hS.2.2 d_Mod_reverse_141
        · exact absurd c_25 (by decide)
    · have hj := it_n hj c_2
      refine lv_aload_n hx hb d_Mod_reverse_21 rfl (lv_at hl 0 rfl) ?_
      refine lv_iload_n hx hb d_Mod_reverse_22 rfl (lv_at hl 3 rfl) ?_
      obtain ⟨v_27, hc_27, hj⟩ := bd_some hj
      have hF_27 := va_fr hD hS hA
      refine va_calli (va_runV (As := [.int x3]) (rest := []) ⟨hx, hb, hml, hown, hts⟩ (cm_M_reversible l dC dI bd cb H.size d x3  v_27 hc_27) (cwV 1 hts (gtV tw704 tw706 ts31 tw9 tw707) rfl rfl rfl (by decide +kernel) ⟨Nat.le_of_ble_eq_true rfl, Nat.le_of_ble_eq_true rfl⟩) ⟨mBl, va_recv hK hP (ci := 8) (q0 := 0) rfl rfl, fun U hU hW => ⟨rfl, mPr hP hK hD hN hU hW⟩⟩ rfl rfl hl.1 rfl (lv_room (Nat.le_of_ble_eq_true rfl)) d_Mod_reverse_23 ⟨Nat.zero_le _, Nat.zero_le _⟩) hS (fun q _ h => hF_27 q h) hF_27 (fun r u t H locs ht hvm hw hB hz1 hk1 hS => ?_)
      obtain ⟨hw1, hw2⟩ := hw
      have hw1 := hw1.symm
      subst hw1
      have hw2 := hw2.symm
      subst hw2
      obtain ⟨hP, hD⟩ := mAf hB ht hF_27
      refine lv_if_eq (tgt := 33) hx hb d_Mod_reverse_26 (by decide) (fun c_28 => ?_) (fun c_28 => ?_)
      · have hj := it_p hj c_28
        refine lv_iload_n hx hb d_Mod_reverse_33 rfl (lv_at hl 2 rfl) ?_
        refine lv_istore_n (lv' := [(2, .int x2), (0, .ref (bd 0)), (1, .int x1), (3, .int x3)]) hx hb d_Mod_reverse_34 rfl hl (by decide) rfl (fun ls hl => ?_)
        refine lv_iinc (v := (x3 + 1)) (lv' := [(3, .int (x3 + 1)), (2, .int x2), (0, .ref (bd 0)), (1, .int x1)]) hx hb d_Mod_reverse_35 hl (k := 3) rfl rfl (by decide) rfl (fun ls hl => ?_)
        refine lv_goto (tgt := 13) hx hb d_Mod_reverse_38 (by decide) ?_
        exact ih d x2 (x3 + 1) H locs ls hj hP hD hS (lv_sub hl [2, 3, 1, 0] rfl)
      · have hj := it_n hj c_28
        refine lv_iload_n hx hb d_Mod_reverse_29 rfl (lv_at hl 3 rfl) ?_
        refine lv_goto (tgt := 34) hx hb d_Mod_reverse_30 (by decide) ?_
        refine lv_istore_n (lv' := [(2, .int x3), (0, .ref (bd 0)), (1, .int x1), (3, .int x3)]) hx hb d_Mod_reverse_34 rfl hl (by decide) rfl (fun ls hl => ?_)
        refine lv_iinc (v := (x3 + 1)) (lv' := [(3, .int (x3 + 1)), (2, .int x3), (0, .ref (bd 0)), (1, .int x1)]) hx hb d_Mod_reverse_35 hl (k := 3) rfl rfl (by decide) rfl (fun ls hl => ?_)
        refine lv_goto (tgt := 13) hx hb d_Mod_reverse_38 (by decide) ?_
        exact ih d x3 (x3 + 1) H locs ls hj hP hD hS (lv_sub hl [2, 3, 1, 0] rfl)
set_option maxHeartbeats 4000000 in
set_option maxRecDepth 100000 in
theorem cm_M_reverse (l : Launch) (dC : Nat → ClassId) (dI : Nat → Nat → Nat) (bd : Nat → Nat) (cb : Nat → ClassId) (sz : Nat) (d : MS)   (r9 : Int32) (d9 : MS) (hj : jm_M_reverse d = some (r9, d9)) : Met l y_Mod_reverse w_Mod_reverse ({ frames := 2, cells := 0, slots := 0, locals := 43 }) (va_Pc [.ref (bd 0)] (mPre dC dI bd cb sz d)) (va_Qi (fun (r : Int32) (u : MS) => r = r9 ∧ u = d9) (mAt dC dI bd cb (va_A (mw bd cb d) sz)) (va_A (mw bd cb d) sz)) 0 0 (va_A (mw bd cb d) sz) := by
  refine Met.ofW (cc := prog_10_method_24_code) (maxL := 4) (ret := (some .int)) (by decide) rfl ?_
  intro p e s m args below meth c s₁ B hml hv
  obtain ⟨rfl, hsz, hP, hK, hD0, hN⟩ := hv
  have hx := B.exec
  have hb := B.bytes
  have hr := B.returns
  have hts0 := atoms_spec (ws := w_Mod_reverse) B.pre
  have hts : ∀ w ∈ gt, w.before _ s = true := fun w h => hts0 w (List.mem_cons_of_mem _ h)
  have hown : s.vm.findClass "CardMessageDeskModel" = some m.cls := findClass_of_methodNamed B.named
  have hlocks := B.notSynchronized
  subst hsz
  have hD := hD0.self (sz := s.heap.size)
  generalize hAe : va_A (mw bd cb d) s.heap.size = A at hD ⊢
  have hA : ∀ q : Nat, s.heap.size ≤ q → A q := fun q h => by rw [← hAe]; exact Or.inr h
  have hS : va_S A s.heap s.heap [] := va_S.rf
  have hl := lv_entry ([.ref (bd 0)]) (n := 4) (Nat.le_of_ble_eq_true rfl)
  rw [lg_entry_eq]
  generalize (lg_sl ([.ref (bd 0)]) ++ List.replicate (4 - (lg_sl ([.ref (bd 0)])).length) Slot.unset).toArray = ls at hl ⊢
  have hl : lv_has ls 4 [(0, .ref (bd 0))] := hl
  unfold jm_M_reverse at hj
  refine lv_aload_n hx hb d_Mod_reverse_0 rfl (lv_at hl 0 rfl) ?_
  refine lv_aload_n hx hb d_Mod_reverse_1 rfl (lv_at hl 0 rfl) ?_
  refine va_get (D := (dC, dI)) (ci := 8) (v := .long (mg_card d)) (C := "CardMessageDeskModel") (T := T_Mod) (N := 32) hx hb hts in_Mod hown hK hP 0 rfl rfl 14 (by decide) (hts _ tw514) (fun _ h9 => h9) rfl d_Mod_reverse_2 ?_
  obtain ⟨v_1, hc_1, hj⟩ := bd_some hj
  have hF_1 := va_fr hD hS hA
  refine va_calli (va_runV (As := [.long (mg_card d)]) (rest := []) ⟨hx, hb, hml, hown, hts⟩ (cm_M_find l dC dI bd cb s.heap.size d (mg_card d)  v_1 hc_1) (cwV 1 hts (gtV tw603 tw605 ts13 tw9 tw606) rfl rfl rfl (by decide +kernel) ⟨Nat.le_of_ble_eq_true rfl, Nat.le_of_ble_eq_true rfl⟩) ⟨mBl, va_recv hK hP (ci := 8) (q0 := 0) rfl rfl, fun U hU hW => ⟨rfl, mPr hP hK hD hN hU hW⟩⟩ rfl rfl hl.1 rfl (lv_room (Nat.le_of_ble_eq_true rfl)) d_Mod_reverse_5 ⟨Nat.zero_le _, Nat.zero_le _⟩) hS (fun q _ h => hF_1 q h) hF_1 (fun r u t H locs ht hvm hw hB hz1 hk1 hS => ?_)
  obtain ⟨hw1, hw2⟩ := hw
  have hw1 := hw1.symm
  subst hw1
  have hw2 := hw2.symm
  subst hw2
  obtain ⟨hP, hD⟩ := mAf hB ht hF_1
  refine lv_istore_n (lv' := [(1, .int v_1), (0, .ref (bd 0))]) hx hb d_Mod_reverse_8 rfl hl (by decide) rfl (fun ls hl => ?_)
  refine lv_iconst (v := (-1)) hx hb d_Mod_reverse_9 (by decide) ?_
  refine lv_istore_n (lv' := [(2, .int ((-1) : Int32)), (1, .int v_1), (0, .ref (bd 0))]) hx hb d_Mod_reverse_10 rfl hl (by decide) rfl (fun ls hl => ?_)
  refine lv_iconst (v := 0) hx hb d_Mod_reverse_11 (by decide) ?_
  refine lv_istore_n (lv' := [(3, .int (0 : Int32)), (2, .int ((-1) : Int32)), (1, .int v_1), (0, .ref (bd 0))]) hx hb d_Mod_reverse_12 rfl hl (by decide) rfl (fun ls hl => ?_)
  exact cm_M_reverse_L13  v_1 _ _ hx hb hr hlocks hml hown hts hN hA hK 200 d ((-1) : Int32) (0 : Int32) _ _ ls hj hP hD hS (lv_sub hl [3, 2, 1, 0] rfl)
