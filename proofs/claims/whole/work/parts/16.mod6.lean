set_option maxHeartbeats 4000000 in
set_option maxRecDepth 100000 in
theorem cm_M_amount (l : Launch) (dC : Nat → ClassId) (dI : Nat → Nat → Nat) (bd : Nat → Nat) (cb : Nat → ClassId) (sz : Nat) (d : MS) (p1 : Int32)  (r9 : Int64) (hj : jm_M_amount d p1 = some r9) : Met l y_Mod_amount w_Mod_amount ({ frames := 0, cells := 0, slots := 0, locals := 0 }) (va_Pc [.ref (bd 0), .int p1] (mPre dC dI bd cb sz d)) (va_Ql (fun (r : Int64) (u : MS) => r = r9 ∧ u = d) (mAt dC dI bd cb (va_A (mw bd cb d) sz)) (va_A (mw bd cb d) sz)) 0 0 (va_A (mw bd cb d) sz) := by
  refine Met.ofW (cc := prog_10_method_37_code) (maxL := 2) (ret := (some .long)) (by decide) rfl ?_
  intro p e s m args below meth c s₁ B hml hv
  obtain ⟨rfl, hsz, hP, hK, hD0, hN⟩ := hv
  have hx := B.exec
  have hb := B.bytes
  have hr := B.returns
  have hts0 := atoms_spec (ws := w_Mod_amount) B.pre
  have hts : ∀ w ∈ gt, w.before _ s = true := fun w h => hts0 w (List.mem_cons_of_mem _ h)
  have hown : s.vm.findClass "CardMessageDeskModel" = some m.cls := findClass_of_methodNamed B.named
  have hlocks := B.notSynchronized
  subst hsz
  have hD := hD0.self (sz := s.heap.size)
  generalize hAe : va_A (mw bd cb d) s.heap.size = A at hD ⊢
  have hA : ∀ q : Nat, s.heap.size ≤ q → A q := fun q h => by rw [← hAe]; exact Or.inr h
  have hS : va_S A s.heap s.heap [] := va_S.rf
  have hl := lv_entry ([.ref (bd 0), .int p1]) (n := 2) (Nat.le_of_ble_eq_true rfl)
  rw [lg_entry_eq]
  generalize (lg_sl ([.ref (bd 0), .int p1]) ++ List.replicate (2 - (lg_sl ([.ref (bd 0), .int p1])).length) Slot.unset).toArray = ls at hl ⊢
  have hl : lv_has ls 2 [(0, .ref (bd 0)), (1, .int p1)] := hl
  unfold jm_M_amount at hj
  refine lv_iload_n hx hb d_Mod_amount_0 rfl (lv_at hl 1 rfl) ?_
  refine lv_if_lt (tgt := 21) hx hb d_Mod_amount_1 (by decide) (fun c_1 => ?_) (fun c_1 => ?_)
  · have hj := it_p hj c_1
    refine lv_ldc2 (v := (-1)) hx hb hown (hts _ tw754) d_Mod_amount_21 ?_
    obtain rfl := Option.some.inj hj
    exact W.lret hx hb hr (fun t ht hW => ⟨⟨_, _, rfl, ⟨rfl, rfl⟩, by rw [ht]; exact hP, va_K.moved hW.alike hK, hD⟩, hS.F ht⟩) hS.2.2 d_Mod_amount_24
  · have hj := it_n hj c_1
    refine lv_iload_n hx hb d_Mod_amount_4 rfl (lv_at hl 1 rfl) ?_
    refine lv_aload_n hx hb d_Mod_amount_5 rfl (lv_at hl 0 rfl) ?_
    refine va_get (D := (dC, dI)) (ci := 8) (v := .int (mg_entries d)) (C := "CardMessageDeskModel") (T := T_Mod) (N := 32) hx hb hts in_Mod hown hK hP 0 rfl rfl 20 (by decide) (hts _ tw520) (fun _ h9 => h9) rfl d_Mod_amount_6 ?_
    refine lv_icmp_ge (tgt := 21) hx hb d_Mod_amount_9 (by decide) (fun c_2 => ?_) (fun c_2 => ?_)
    · have hj := it_p hj c_2
      refine lv_ldc2 (v := (-1)) hx hb hown (hts _ tw754) d_Mod_amount_21 ?_
      obtain rfl := Option.some.inj hj
      exact W.lret hx hb hr (fun t ht hW => ⟨⟨_, _, rfl, ⟨rfl, rfl⟩, by rw [ht]; exact hP, va_K.moved hW.alike hK, hD⟩, hS.F ht⟩) hS.2.2 d_Mod_amount_24
    · have hj := it_n hj c_2
      refine lv_aload_n hx hb d_Mod_amount_12 rfl (lv_at hl 0 rfl) ?_
      refine va_get (D := (dC, dI)) (ci := 8) (v := .ref (bd 13)) (C := "CardMessageDeskModel") (T := T_Mod) (N := 32) hx hb hts in_Mod hown hK hP 0 rfl rfl 26 (by decide) (hts _ tw526) (fun _ h9 => h9) rfl d_Mod_amount_13 ?_
      refine lv_iload_n hx hb d_Mod_amount_16 rfl (lv_at hl 1 rfl) ?_
      obtain ⟨hi_3, hj⟩ := gd_some hj
      refine va_lald hx hb hK hP 13 12 rfl rfl hi_3 d_Mod_amount_17 ?_
      refine lv_goto (tgt := 24) hx hb d_Mod_amount_18 (by decide) ?_
      obtain rfl := Option.some.inj hj
      exact W.lret hx hb hr (fun t ht hW => ⟨⟨_, _, rfl, ⟨rfl, rfl⟩, by rw [ht]; exact hP, va_K.moved hW.alike hK, hD⟩, hS.F ht⟩) hS.2.2 d_Mod_amount_24
set_option maxHeartbeats 4000000 in
set_option maxRecDepth 100000 in
theorem cm_M_net (l : Launch) (dC : Nat → ClassId) (dI : Nat → Nat → Nat) (bd : Nat → Nat) (cb : Nat → ClassId) (sz : Nat) (d : MS) (p1 : Int32)  (r9 : Int64) (hj : jm_M_net d p1 = some r9) : Met l y_Mod_net w_Mod_net ({ frames := 1, cells := 0, slots := 0, locals := 24 }) (va_Pc [.ref (bd 0), .int p1] (mPre dC dI bd cb sz d)) (va_Ql (fun (r : Int64) (u : MS) => r = r9 ∧ u = d) (mAt dC dI bd cb (va_A (mw bd cb d) sz)) (va_A (mw bd cb d) sz)) 0 0 (va_A (mw bd cb d) sz) := by
  refine Met.ofW (cc := prog_10_method_38_code) (maxL := 2) (ret := (some .long)) (by decide) rfl ?_
  intro p e s m args below meth c s₁ B hml hv
  obtain ⟨rfl, hsz, hP, hK, hD0, hN⟩ := hv
  have hx := B.exec
  have hb := B.bytes
  have hr := B.returns
  have hts0 := atoms_spec (ws := w_Mod_net) B.pre
  have hts : ∀ w ∈ gt, w.before _ s = true := fun w h => hts0 w (List.mem_cons_of_mem _ h)
  have hown : s.vm.findClass "CardMessageDeskModel" = some m.cls := findClass_of_methodNamed B.named
  have hlocks := B.notSynchronized
  subst hsz
  have hD := hD0.self (sz := s.heap.size)
  generalize hAe : va_A (mw bd cb d) s.heap.size = A at hD ⊢
  have hA : ∀ q : Nat, s.heap.size ≤ q → A q := fun q h => by rw [← hAe]; exact Or.inr h
  have hS : va_S A s.heap s.heap [] := va_S.rf
  have hl := lv_entry ([.ref (bd 0), .int p1]) (n := 2) (Nat.le_of_ble_eq_true rfl)
  rw [lg_entry_eq]
  generalize (lg_sl ([.ref (bd 0), .int p1]) ++ List.replicate (2 - (lg_sl ([.ref (bd 0), .int p1])).length) Slot.unset).toArray = ls at hl ⊢
  have hl : lv_has ls 2 [(0, .ref (bd 0)), (1, .int p1)] := hl
  unfold jm_M_net at hj
  refine lv_aload_n hx hb d_Mod_net_0 rfl (lv_at hl 0 rfl) ?_
  refine lv_iload_n hx hb d_Mod_net_1 rfl (lv_at hl 1 rfl) ?_
  obtain ⟨v_1, hc_1, hj⟩ := bd_some hj
  have hF_1 := va_fr hD hS hA
  refine va_calll (va_runV (As := [.int p1]) (rest := []) ⟨hx, hb, hml, hown, hts⟩ (cm_M_netOf l dC dI bd cb s.heap.size d p1  v_1 hc_1) (cwV 1 hts (gtV tw712 tw714 ts33 tw9 tw715) rfl rfl rfl (by decide +kernel) ⟨Nat.le_of_ble_eq_true rfl, Nat.le_of_ble_eq_true rfl⟩) ⟨mBl, va_recv hK hP (ci := 8) (q0 := 0) rfl rfl, fun U hU hW => ⟨rfl, mPr hP hK hD hN hU hW⟩⟩ rfl rfl hl.1 rfl (lv_room (Nat.le_of_ble_eq_true rfl)) d_Mod_net_2 ⟨Nat.zero_le _, Nat.zero_le _⟩) hS (fun q _ h => hF_1 q h) hF_1 (fun r u t H locs ht hvm hw hB hz1 hk1 hS => ?_)
  obtain ⟨hw1, hw2⟩ := hw
  have hw1 := hw1.symm
  subst hw1
  have hw2 := hw2.symm
  subst hw2
  obtain ⟨hP, hD⟩ := mAf hB ht hF_1
  obtain rfl := Option.some.inj hj
  exact W.lret hx hb hr (fun t ht hW => ⟨⟨_, _, rfl, ⟨rfl, rfl⟩, by rw [ht]; exact hP, va_K.moved hW.alike hK, hD⟩, hS.F ht⟩) hS.2.2 d_Mod_net_5
set_option maxHeartbeats 4000000 in
set_option maxRecDepth 100000 in
theorem cm_M_settled (l : Launch) (dC : Nat → ClassId) (dI : Nat → Nat → Nat) (bd : Nat → Nat) (cb : Nat → ClassId) (sz : Nat) (d : MS)   (r9 : Int64) (hj : jm_M_settled d = some r9) : Met l y_Mod_settled w_Mod_settled ({ frames := 0, cells := 0, slots := 0, locals := 0 }) (va_Pc [.ref (bd 0)] (mPre dC dI bd cb sz d)) (va_Ql (fun (r : Int64) (u : MS) => r = r9 ∧ u = d) (mAt dC dI bd cb (va_A (mw bd cb d) sz)) (va_A (mw bd cb d) sz)) 0 0 (va_A (mw bd cb d) sz) := by
  refine Met.ofW (cc := prog_10_method_39_code) (maxL := 1) (ret := (some .long)) (by decide) rfl ?_
  intro p e s m args below meth c s₁ B hml hv
  obtain ⟨rfl, hsz, hP, hK, hD0, hN⟩ := hv
  have hx := B.exec
  have hb := B.bytes
  have hr := B.returns
  have hts0 := atoms_spec (ws := w_Mod_settled) B.pre
  have hts : ∀ w ∈ gt, w.before _ s = true := fun w h => hts0 w (List.mem_cons_of_mem _ h)
  have hown : s.vm.findClass "CardMessageDeskModel" = some m.cls := findClass_of_methodNamed B.named
  have hlocks := B.notSynchronized
  subst hsz
  have hD := hD0.self (sz := s.heap.size)
  generalize hAe : va_A (mw bd cb d) s.heap.size = A at hD ⊢
  have hA : ∀ q : Nat, s.heap.size ≤ q → A q := fun q h => by rw [← hAe]; exact Or.inr h
  have hS : va_S A s.heap s.heap [] := va_S.rf
  have hl := lv_entry ([.ref (bd 0)]) (n := 1) (Nat.le_of_ble_eq_true rfl)
  rw [lg_entry_eq]
  generalize (lg_sl ([.ref (bd 0)]) ++ List.replicate (1 - (lg_sl ([.ref (bd 0)])).length) Slot.unset).toArray = ls at hl ⊢
  have hl : lv_has ls 1 [(0, .ref (bd 0))] := hl
  unfold jm_M_settled at hj
  refine lv_aload_n hx hb d_Mod_settled_0 rfl (lv_at hl 0 rfl) ?_
  refine va_get (D := (dC, dI)) (ci := 8) (v := .long (mg_settled d)) (C := "CardMessageDeskModel") (T := T_Mod) (N := 32) hx hb hts in_Mod hown hK hP 0 rfl rfl 30 (by decide) (hts _ tw530) (fun _ h9 => h9) rfl d_Mod_settled_1 ?_
  obtain rfl := Option.some.inj hj
  exact W.lret hx hb hr (fun t ht hW => ⟨⟨_, _, rfl, ⟨rfl, rfl⟩, by rw [ht]; exact hP, va_K.moved hW.alike hK, hD⟩, hS.F ht⟩) hS.2.2 d_Mod_settled_4
