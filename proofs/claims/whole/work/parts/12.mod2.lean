set_option maxHeartbeats 4000000 in
set_option maxRecDepth 100000 in
theorem cm_M_due (l : Launch) (dC : Nat → ClassId) (dI : Nat → Nat → Nat) (bd : Nat → Nat) (cb : Nat → ClassId) (sz : Nat) (d : MS) (p1 : Int32)  (r9 : Int32) (hj : jm_M_due d p1 = some r9) : Met l y_Mod_due w_Mod_due ({ frames := 0, cells := 0, slots := 0, locals := 0 }) (va_Pc [.ref (bd 0), .int p1] (mPre dC dI bd cb sz d)) (va_Qi (fun (r : Int32) (u : MS) => r = r9 ∧ u = d) (mAt dC dI bd cb (va_A (mw bd cb d) sz)) (va_A (mw bd cb d) sz)) 0 0 (va_A (mw bd cb d) sz) := by
  refine Met.ofW (cc := prog_10_method_16_code) (maxL := 4) (ret := (some .int)) (by decide) rfl ?_
  intro p e s m args below meth c s₁ B hml hv
  obtain ⟨rfl, hsz, hP, hK, hD0, hN⟩ := hv
  have hx := B.exec
  have hb := B.bytes
  have hr := B.returns
  have hts0 := atoms_spec (ws := w_Mod_due) B.pre
  have hts : ∀ w ∈ gt, w.before _ s = true := fun w h => hts0 w (List.mem_cons_of_mem _ h)
  have hown : s.vm.findClass "CardMessageDeskModel" = some m.cls := findClass_of_methodNamed B.named
  have hlocks := B.notSynchronized
  subst hsz
  have hD := hD0.self (sz := s.heap.size)
  generalize hAe : va_A (mw bd cb d) s.heap.size = A at hD ⊢
  have hA : ∀ q : Nat, s.heap.size ≤ q → A q := fun q h => by rw [← hAe]; exact Or.inr h
  have hS : va_S A s.heap s.heap [] := va_S.rf
  have hl := lv_entry ([.ref (bd 0), .int p1]) (n := 4) (Nat.le_of_ble_eq_true rfl)
  rw [lg_entry_eq]
  generalize (lg_sl ([.ref (bd 0), .int p1]) ++ List.replicate (4 - (lg_sl ([.ref (bd 0), .int p1])).length) Slot.unset).toArray = ls at hl ⊢
  have hl : lv_has ls 4 [(0, .ref (bd 0)), (1, .int p1)] := hl
  unfold jm_M_due at hj
  refine lv_iload_n hx hb d_Mod_due_0 rfl (lv_at hl 1 rfl) ?_
  refine lv_bipush (v := 48) hx hb d_Mod_due_1 (by decide) ?_
  refine lv_icmp_ne (tgt := 8) hx hb d_Mod_due_3 (by decide) (fun c_1 => ?_) (fun c_1 => ?_)
  · have hj := it_n hj c_1
    refine lv_iload_n hx hb d_Mod_due_8 rfl (lv_at hl 1 rfl) ?_
    refine lv_bipush (v := 11) hx hb d_Mod_due_9 (by decide) ?_
    refine lv_icmp_eq (tgt := 20) hx hb d_Mod_due_11 (by decide) (fun c_2 => ?_) (fun c_2 => ?_)
    · have hj := it_p hj c_2
      refine lv_iconst (v := 1) hx hb d_Mod_due_20 (by decide) ?_
      obtain rfl := Option.some.inj hj
      exact W.iret hx hb hr (fun t ht hW => ⟨⟨_, _, rfl, ⟨rfl, rfl⟩, by rw [ht]; exact hP, va_K.moved hW.alike hK, hD⟩, hS.F ht⟩) hS.2.2 d_Mod_due_21
    · have hj := it_n hj c_2
      refine lv_iload_n hx hb d_Mod_due_14 rfl (lv_at hl 1 rfl) ?_
      refine lv_bipush (v := 41) hx hb d_Mod_due_15 (by decide) ?_
      refine lv_icmp_ne (tgt := 22) hx hb d_Mod_due_17 (by decide) (fun c_3 => ?_) (fun c_3 => ?_)
      · have hj := it_n hj c_3
        refine lv_aload_n hx hb d_Mod_due_22 rfl (lv_at hl 0 rfl) ?_
        refine va_get (D := (dC, dI)) (ci := 8) (v := .int (mg_type d)) (C := "CardMessageDeskModel") (T := T_Mod) (N := 32) hx hb hts in_Mod hown hK hP 0 rfl rfl 13 (by decide) (hts _ tw513) (fun _ h9 => h9) rfl d_Mod_due_23 ?_
        refine lv_bipush (v := 100) hx hb d_Mod_due_26 (by decide) ?_
        refine lv_icmp_eq (tgt := 41) hx hb d_Mod_due_28 (by decide) (fun c_4 => ?_) (fun c_4 => ?_)
        · have hj := it_p hj c_4
          refine lv_iconst (v := 1) hx hb d_Mod_due_41 (by decide) ?_
          refine lv_goto (tgt := 46) hx hb d_Mod_due_42 (by decide) ?_
          refine lv_istore_n (lv' := [(2, .int (1 : Int32)), (0, .ref (bd 0)), (1, .int p1)]) hx hb d_Mod_due_46 rfl hl (by decide) rfl (fun ls hl => ?_)
          refine lv_iload_n hx hb d_Mod_due_47 rfl (lv_at hl 0 rfl) ?_
          refine lv_if_ne (tgt := 71) hx hb d_Mod_due_48 (by decide) (fun c_5 => ?_) (fun c_5 => ?_)
          · skip
            refine lv_iconst (v := 1) hx hb d_Mod_due_71 (by decide) ?_
            refine lv_goto (tgt := 76) hx hb d_Mod_due_72 (by decide) ?_
            refine lv_istore_n (lv' := [(3, .int (1 : Int32)), (2, .int (1 : Int32)), (0, .ref (bd 0)), (1, .int p1)]) hx hb d_Mod_due_76 rfl hl (by decide) rfl (fun ls hl => ?_)
            refine lv_iload_n hx hb d_Mod_due_77 rfl (lv_at hl 0 rfl) ?_
            refine lv_if_ne (tgt := 93) hx hb d_Mod_due_78 (by decide) (fun c_6 => ?_) (fun c_6 => ?_)
            · skip
              refine lv_iload_n hx hb d_Mod_due_93 rfl (lv_at hl 3 rfl) ?_
              refine lv_iconst (v := 2) hx hb d_Mod_due_94 (by decide) ?_
              refine lv_icmp_ne (tgt := 114) hx hb d_Mod_due_95 (by decide) (fun c_7 => ?_) (fun c_7 => ?_)
              · have hj := it_n hj c_7
                refine lv_iload_n hx hb d_Mod_due_114 rfl (lv_at hl 3 rfl) ?_
                refine lv_iconst (v := 3) hx hb d_Mod_due_115 (by decide) ?_
                refine lv_icmp_eq (tgt := 124) hx hb d_Mod_due_116 (by decide) (fun c_8 => ?_) (fun c_8 => ?_)
                · have hj := it_p hj c_8
                  refine lv_iload_n hx hb d_Mod_due_124 rfl (lv_at hl 1 rfl) ?_
                  refine lv_if_eq (tgt := 132) hx hb d_Mod_due_125 (by decide) (fun c_9 => ?_) (fun c_9 => ?_)
                  · exact absurd c_9 (by decide)
                  · skip
                    refine lv_iconst (v := 1) hx hb d_Mod_due_128 (by decide) ?_
                    refine lv_goto (tgt := 133) hx hb d_Mod_due_129 (by decide) ?_
                    obtain rfl := Option.some.inj hj
                    exact W.iret hx hb hr (fun t ht hW => ⟨⟨_, _, rfl, ⟨rfl, rfl⟩, by rw [ht]; exact hP, va_K.moved hW.alike hK, hD⟩, hS.F ht⟩) hS.2.2 d_Mod_due_133
                · have hj := it_n hj c_8
                  refine lv_iload_n hx hb d_Mod_due_119 rfl (lv_at hl 3 rfl) ?_
                  refine lv_iconst (v := 4) hx hb d_Mod_due_120 (by decide) ?_
                  refine lv_icmp_ne (tgt := 134) hx hb d_Mod_due_121 (by decide) (fun c_10 => ?_) (fun c_10 => ?_)
                  · have hj := it_n hj c_10
                    refine lv_iload_n hx hb d_Mod_due_134 rfl (lv_at hl 3 rfl) ?_
                    refine lv_bipush (v := 56) hx hb d_Mod_due_135 (by decide) ?_
                    refine lv_icmp_ne (tgt := 172) hx hb d_Mod_due_137 (by decide) (fun c_11 => ?_) (fun c_11 => ?_)
                    · have hj := it_n hj c_11
                      refine lv_iconst (v := (-1)) hx hb d_Mod_due_172 (by decide) ?_
                      obtain rfl := Option.some.inj hj
                      exact W.iret hx hb hr (fun t ht hW => ⟨⟨_, _, rfl, ⟨rfl, rfl⟩, by rw [ht]; exact hP, va_K.moved hW.alike hK, hD⟩, hS.F ht⟩) hS.2.2 d_Mod_due_173
                    · have hj := it_p hj c_11
                      refine lv_aload_n hx hb d_Mod_due_140 rfl (lv_at hl 2 rfl) ?_
                      refine va_get (D := (dC, dI)) (ci := 8) (v := .int (mg_type d)) (C := "CardMessageDeskModel") (T := T_Mod) (N := 32) hx hb hts in_Mod hown hK hP 0 rfl rfl 13 (by decide) (hts _ tw513) (fun _ h9 => h9) rfl d_Mod_due_141 ?_
                      refine lv_sipush (v := 400) hx hb d_Mod_due_144 (by decide) ?_
                      refine lv_icmp_ne (tgt := 154) hx hb d_Mod_due_147 (by decide) (fun c_12 => ?_) (fun c_12 => ?_)
                      · have hj := it_n hj c_12
                        refine lv_aload_n hx hb d_Mod_due_154 rfl (lv_at hl 2 rfl) ?_
                        refine va_get (D := (dC, dI)) (ci := 8) (v := .int (mg_type d)) (C := "CardMessageDeskModel") (T := T_Mod) (N := 32) hx hb hts in_Mod hown hK hP 0 rfl rfl 13 (by decide) (hts _ tw513) (fun _ h9 => h9) rfl d_Mod_due_155 ?_
                        refine lv_sipush (v := 200) hx hb d_Mod_due_158 (by decide) ?_
                        refine lv_icmp_ne (tgt := 168) hx hb d_Mod_due_161 (by decide) (fun c_13 => ?_) (fun c_13 => ?_)
                        · have hj := it_n hj c_13
                          refine lv_iconst (v := (-1)) hx hb d_Mod_due_168 (by decide) ?_
                          refine lv_goto (tgt := 173) hx hb d_Mod_due_169 (by decide) ?_
                          obtain rfl := Option.some.inj hj
                          exact W.iret hx hb hr (fun t ht hW => ⟨⟨_, _, rfl, ⟨rfl, rfl⟩, by rw [ht]; exact hP, va_K.moved hW.alike hK, hD⟩, hS.F ht⟩) hS.2.2 d_Mod_due_173
                        · have hj := it_p hj c_13
                          refine lv_iconst (v := 0) hx hb d_Mod_due_164 (by decide) ?_
                          refine lv_goto (tgt := 173) hx hb d_Mod_due_165 (by decide) ?_
                          obtain rfl := Option.some.inj hj
                          exact W.iret hx hb hr (fun t ht hW => ⟨⟨_, _, rfl, ⟨rfl, rfl⟩, by rw [ht]; exact hP, va_K.moved hW.alike hK, hD⟩, hS.F ht⟩) hS.2.2 d_Mod_due_173
                      · have hj := it_p hj c_12
                        refine lv_iconst (v := 1) hx hb d_Mod_due_150 (by decide) ?_
                        refine lv_goto (tgt := 173) hx hb d_Mod_due_151 (by decide) ?_
                        obtain rfl := Option.some.inj hj
                        exact W.iret hx hb hr (fun t ht hW => ⟨⟨_, _, rfl, ⟨rfl, rfl⟩, by rw [ht]; exact hP, va_K.moved hW.alike hK, hD⟩, hS.F ht⟩) hS.2.2 d_Mod_due_173
                  · have hj := it_p hj c_10
                    refine lv_iload_n hx hb d_Mod_due_124 rfl (lv_at hl 1 rfl) ?_
                    refine lv_if_eq (tgt := 132) hx hb d_Mod_due_125 (by decide) (fun c_14 => ?_) (fun c_14 => ?_)
                    · exact absurd c_14 (by decide)
                    · skip
                      refine lv_iconst (v := 1) hx hb d_Mod_due_128 (by decide) ?_
                      refine lv_goto (tgt := 133) hx hb d_Mod_due_129 (by decide) ?_
                      obtain rfl := Option.some.inj hj
                      exact W.iret hx hb hr (fun t ht hW => ⟨⟨_, _, rfl, ⟨rfl, rfl⟩, by rw [ht]; exact hP, va_K.moved hW.alike hK, hD⟩, hS.F ht⟩) hS.2.2 d_Mod_due_133
              · have hj := it_p hj c_7
                refine lv_aload_n hx hb d_Mod_due_98 rfl (lv_at hl 2 rfl) ?_
                refine va_get (D := (dC, dI)) (ci := 8) (v := .int (mg_type d)) (C := "CardMessageDeskModel") (T := T_Mod) (N := 32) hx hb hts in_Mod hown hK hP 0 rfl rfl 13 (by decide) (hts _ tw513) (fun _ h9 => h9) rfl d_Mod_due_99 ?_
                refine lv_sipush (v := 500) hx hb d_Mod_due_102 (by decide) ?_
                refine lv_icmp_ne (tgt := 112) hx hb d_Mod_due_105 (by decide) (fun c_15 => ?_) (fun c_15 => ?_)
                · have hj := it_n hj c_15
                  refine lv_iconst (v := 1) hx hb d_Mod_due_112 (by decide) ?_
                  obtain rfl := Option.some.inj hj
                  exact W.iret hx hb hr (fun t ht hW => ⟨⟨_, _, rfl, ⟨rfl, rfl⟩, by rw [ht]; exact hP, va_K.moved hW.alike hK, hD⟩, hS.F ht⟩) hS.2.2 d_Mod_due_113
                · have hj := it_p hj c_15
                  refine lv_iconst (v := (-1)) hx hb d_Mod_due_108 (by decide) ?_
                  refine lv_goto (tgt := 113) hx hb d_Mod_due_109 (by decide) ?_
                  obtain rfl := Option.some.inj hj
                  exact W.iret hx hb hr (fun t ht hW => ⟨⟨_, _, rfl, ⟨rfl, rfl⟩, by rw [ht]; exact hP, va_K.moved hW.alike hK, hD⟩, hS.F ht⟩) hS.2.2 d_Mod_due_113
            · exact absurd c_6 (by decide)
          · exact absurd c_5 (by decide)
        · have hj := it_n hj c_4
          refine lv_aload_n hx hb d_Mod_due_31 rfl (lv_at hl 0 rfl) ?_
          refine va_get (D := (dC, dI)) (ci := 8) (v := .int (mg_type d)) (C := "CardMessageDeskModel") (T := T_Mod) (N := 32) hx hb hts in_Mod hown hK hP 0 rfl rfl 13 (by decide) (hts _ tw513) (fun _ h9 => h9) rfl d_Mod_due_32 ?_
          refine lv_sipush (v := 200) hx hb d_Mod_due_35 (by decide) ?_
          refine lv_icmp_ne (tgt := 45) hx hb d_Mod_due_38 (by decide) (fun c_16 => ?_) (fun c_16 => ?_)
          · have hj := it_n hj c_16
            refine lv_iconst (v := 0) hx hb d_Mod_due_45 (by decide) ?_
            refine lv_istore_n (lv' := [(2, .int (0 : Int32)), (0, .ref (bd 0)), (1, .int p1)]) hx hb d_Mod_due_46 rfl hl (by decide) rfl (fun ls hl => ?_)
            refine lv_iload_n hx hb d_Mod_due_47 rfl (lv_at hl 0 rfl) ?_
            refine lv_if_ne (tgt := 71) hx hb d_Mod_due_48 (by decide) (fun c_17 => ?_) (fun c_17 => ?_)
            · exact absurd c_17 (by decide)
            · skip
              refine lv_aload_n hx hb d_Mod_due_51 rfl (lv_at hl 1 rfl) ?_
              refine va_get (D := (dC, dI)) (ci := 8) (v := .int (mg_type d)) (C := "CardMessageDeskModel") (T := T_Mod) (N := 32) hx hb hts in_Mod hown hK hP 0 rfl rfl 13 (by decide) (hts _ tw513) (fun _ h9 => h9) rfl d_Mod_due_52 ?_
              refine lv_sipush (v := 400) hx hb d_Mod_due_55 (by decide) ?_
              refine lv_icmp_eq (tgt := 71) hx hb d_Mod_due_58 (by decide) (fun c_18 => ?_) (fun c_18 => ?_)
              · have hj := it_p hj c_18
                refine lv_iconst (v := 1) hx hb d_Mod_due_71 (by decide) ?_
                refine lv_goto (tgt := 76) hx hb d_Mod_due_72 (by decide) ?_
                refine lv_istore_n (lv' := [(3, .int (1 : Int32)), (2, .int (0 : Int32)), (0, .ref (bd 0)), (1, .int p1)]) hx hb d_Mod_due_76 rfl hl (by decide) rfl (fun ls hl => ?_)
                refine lv_iload_n hx hb d_Mod_due_77 rfl (lv_at hl 0 rfl) ?_
                refine lv_if_ne (tgt := 93) hx hb d_Mod_due_78 (by decide) (fun c_19 => ?_) (fun c_19 => ?_)
                · skip
                  refine lv_iload_n hx hb d_Mod_due_93 rfl (lv_at hl 3 rfl) ?_
                  refine lv_iconst (v := 2) hx hb d_Mod_due_94 (by decide) ?_
                  refine lv_icmp_ne (tgt := 114) hx hb d_Mod_due_95 (by decide) (fun c_20 => ?_) (fun c_20 => ?_)
                  · have hj := it_n hj c_20
                    refine lv_iload_n hx hb d_Mod_due_114 rfl (lv_at hl 3 rfl) ?_
                    refine lv_iconst (v := 3) hx hb d_Mod_due_115 (by decide) ?_
                    refine lv_icmp_eq (tgt := 124) hx hb d_Mod_due_116 (by decide) (fun c_21 => ?_) (fun c_21 => ?_)
                    · have hj := it_p hj c_21
                      refine lv_iload_n hx hb d_Mod_due_124 rfl (lv_at hl 1 rfl) ?_
                      refine lv_if_eq (tgt := 132) hx hb d_Mod_due_125 (by decide) (fun c_22 => ?_) (fun c_22 => ?_)
                      · skip
                        refine lv_iconst (v := (-1)) hx hb d_Mod_due_132 (by decide) ?_
                        obtain rfl := Option.some.inj hj
                        exact W.iret hx hb hr (fun t ht hW => ⟨⟨_, _, rfl, ⟨rfl, rfl⟩, by rw [ht]; exact hP, va_K.moved hW.alike hK, hD⟩, hS.F ht⟩) hS.2.2 d_Mod_due_133
                      · exact absurd c_22 (by decide)
                    · have hj := it_n hj c_21
                      refine lv_iload_n hx hb d_Mod_due_119 rfl (lv_at hl 3 rfl) ?_
                      refine lv_iconst (v := 4) hx hb d_Mod_due_120 (by decide) ?_
                      refine lv_icmp_ne (tgt := 134) hx hb d_Mod_due_121 (by decide) (fun c_23 => ?_) (fun c_23 => ?_)
                      · have hj := it_n hj c_23
                        refine lv_iload_n hx hb d_Mod_due_134 rfl (lv_at hl 3 rfl) ?_
                        refine lv_bipush (v := 56) hx hb d_Mod_due_135 (by decide) ?_
                        refine lv_icmp_ne (tgt := 172) hx hb d_Mod_due_137 (by decide) (fun c_24 => ?_) (fun c_24 => ?_)
                        · have hj := it_n hj c_24
                          refine lv_iconst (v := (-1)) hx hb d_Mod_due_172 (by decide) ?_
                          obtain rfl := Option.some.inj hj
                          exact W.iret hx hb hr (fun t ht hW => ⟨⟨_, _, rfl, ⟨rfl, rfl⟩, by rw [ht]; exact hP, va_K.moved hW.alike hK, hD⟩, hS.F ht⟩) hS.2.2 d_Mod_due_173
                        · have hj := it_p hj c_24
                          refine lv_aload_n hx hb d_Mod_due_140 rfl (lv_at hl 2 rfl) ?_
                          refine va_get (D := (dC, dI)) (ci := 8) (v := .int (mg_type d)) (C := "CardMessageDeskModel") (T := T_Mod) (N := 32) hx hb hts in_Mod hown hK hP 0 rfl rfl 13 (by decide) (hts _ tw513) (fun _ h9 => h9) rfl d_Mod_due_141 ?_
                          refine lv_sipush (v := 400) hx hb d_Mod_due_144 (by decide) ?_
                          refine lv_icmp_ne (tgt := 154) hx hb d_Mod_due_147 (by decide) (fun c_25 => ?_) (fun c_25 => ?_)
                          · have hj := it_n hj c_25
                            refine lv_aload_n hx hb d_Mod_due_154 rfl (lv_at hl 2 rfl) ?_
                            refine va_get (D := (dC, dI)) (ci := 8) (v := .int (mg_type d)) (C := "CardMessageDeskModel") (T := T_Mod) (N := 32) hx hb hts in_Mod hown hK hP 0 rfl rfl 13 (by decide) (hts _ tw513) (fun _ h9 => h9) rfl d_Mod_due_155 ?_
                            refine lv_sipush (v := 200) hx hb d_Mod_due_158 (by decide) ?_
                            refine lv_icmp_ne (tgt := 168) hx hb d_Mod_due_161 (by decide) (fun c_26 => ?_) (fun c_26 => ?_)
                            · have hj := it_n hj c_26
                              refine lv_iconst (v := (-1)) hx hb d_Mod_due_168 (by decide) ?_
                              refine lv_goto (tgt := 173) hx hb d_Mod_due_169 (by decide) ?_
                              obtain rfl := Option.some.inj hj
                              exact W.iret hx hb hr (fun t ht hW => ⟨⟨_, _, rfl, ⟨rfl, rfl⟩, by rw [ht]; exact hP, va_K.moved hW.alike hK, hD⟩, hS.F ht⟩) hS.2.2 d_Mod_due_173
                            · have hj := it_p hj c_26
                              refine lv_iconst (v := 0) hx hb d_Mod_due_164 (by decide) ?_
                              refine lv_goto (tgt := 173) hx hb d_Mod_due_165 (by decide) ?_
                              obtain rfl := Option.some.inj hj
                              exact W.iret hx hb hr (fun t ht hW => ⟨⟨_, _, rfl, ⟨rfl, rfl⟩, by rw [ht]; exact hP, va_K.moved hW.alike hK, hD⟩, hS.F ht⟩) hS.2.2 d_Mod_due_173
                          · have hj := it_p hj c_25
                            refine lv_iconst (v := 1) hx hb d_Mod_due_150 (by decide) ?_
                            refine lv_goto (tgt := 173) hx hb d_Mod_due_151 (by decide) ?_
                            obtain rfl := Option.some.inj hj
                            exact W.iret hx hb hr (fun t ht hW => ⟨⟨_, _, rfl, ⟨rfl, rfl⟩, by rw [ht]; exact hP, va_K.moved hW.alike hK, hD⟩, hS.F ht⟩) hS.2.2 d_Mod_due_173
                      · have hj := it_p hj c_23
                        refine lv_iload_n hx hb d_Mod_due_124 rfl (lv_at hl 1 rfl) ?_
                        refine lv_if_eq (tgt := 132) hx hb d_Mod_due_125 (by decide) (fun c_27 => ?_) (fun c_27 => ?_)
                        · skip
                          refine lv_iconst (v := (-1)) hx hb d_Mod_due_132 (by decide) ?_
                          obtain rfl := Option.some.inj hj
                          exact W.iret hx hb hr (fun t ht hW => ⟨⟨_, _, rfl, ⟨rfl, rfl⟩, by rw [ht]; exact hP, va_K.moved hW.alike hK, hD⟩, hS.F ht⟩) hS.2.2 d_Mod_due_133
                        · exact absurd c_27 (by decide)
                  · have hj := it_p hj c_20
                    refine lv_aload_n hx hb d_Mod_due_98 rfl (lv_at hl 2 rfl) ?_
                    refine va_get (D := (dC, dI)) (ci := 8) (v := .int (mg_type d)) (C := "CardMessageDeskModel") (T := T_Mod) (N := 32) hx hb hts in_Mod hown hK hP 0 rfl rfl 13 (by decide) (hts _ tw513) (fun _ h9 => h9) rfl d_Mod_due_99 ?_
                    refine lv_sipush (v := 500) hx hb d_Mod_due_102 (by decide) ?_
                    refine lv_icmp_ne (tgt := 112) hx hb d_Mod_due_105 (by decide) (fun c_28 => ?_) (fun c_28 => ?_)
                    · have hj := it_n hj c_28
                      refine lv_iconst (v := 1) hx hb d_Mod_due_112 (by decide) ?_
                      obtain rfl := Option.some.inj hj
                      exact W.iret hx hb hr (fun t ht hW => ⟨⟨_, _, rfl, ⟨rfl, rfl⟩, by rw [ht]; exact hP, va_K.moved hW.alike hK, hD⟩, hS.F ht⟩) hS.2.2 d_Mod_due_113
                    · have hj := it_p hj c_28
                      refine lv_iconst (v := (-1)) hx hb d_Mod_due_108 (by decide) ?_
                      refine lv_goto (tgt := 113) hx hb d_Mod_due_109 (by decide) ?_
                      obtain rfl := Option.some.inj hj
                      exact W.iret hx hb hr (fun t ht hW => ⟨⟨_, _, rfl, ⟨rfl, rfl⟩, by rw [ht]; exact hP, va_K.moved hW.alike hK, hD⟩, hS.F ht⟩) hS.2.2 d_Mod_due_113
                · exact absurd c_19 (by decide)
              · have hj := it_n hj c_18
                refine lv_aload_n hx hb d_Mod_due_61 rfl (lv_at hl 1 rfl) ?_
                refine va_get (D := (dC, dI)) (ci := 8) (v := .int (mg_type d)) (C := "CardMessageDeskModel") (T := T_Mod) (N := 32) hx hb hts in_Mod hown hK hP 0 rfl rfl 13 (by decide) (hts _ tw513) (fun _ h9 => h9) rfl d_Mod_due_62 ?_
                refine lv_sipush (v := 500) hx hb d_Mod_due_65 (by decide) ?_
                refine lv_icmp_ne (tgt := 75) hx hb d_Mod_due_68 (by decide) (fun c_29 => ?_) (fun c_29 => ?_)
                · have hj := it_n hj c_29
                  refine lv_iconst (v := 0) hx hb d_Mod_due_75 (by decide) ?_
                  refine lv_istore_n (lv' := [(3, .int (0 : Int32)), (2, .int (0 : Int32)), (0, .ref (bd 0)), (1, .int p1)]) hx hb d_Mod_due_76 rfl hl (by decide) rfl (fun ls hl => ?_)
                  refine lv_iload_n hx hb d_Mod_due_77 rfl (lv_at hl 0 rfl) ?_
                  refine lv_if_ne (tgt := 93) hx hb d_Mod_due_78 (by decide) (fun c_30 => ?_) (fun c_30 => ?_)
                  · exact absurd c_30 (by decide)
                  · skip
                    refine lv_iload_n hx hb d_Mod_due_81 rfl (lv_at hl 3 rfl) ?_
                    refine lv_bipush (v := 39) hx hb d_Mod_due_82 (by decide) ?_
                    refine lv_icmp_ne (tgt := 91) hx hb d_Mod_due_84 (by decide) (fun c_31 => ?_) (fun c_31 => ?_)
                    · have hj := it_n hj c_31
                      refine lv_iconst (v := 0) hx hb d_Mod_due_91 (by decide) ?_
                      obtain rfl := Option.some.inj hj
                      exact W.iret hx hb hr (fun t ht hW => ⟨⟨_, _, rfl, ⟨rfl, rfl⟩, by rw [ht]; exact hP, va_K.moved hW.alike hK, hD⟩, hS.F ht⟩) hS.2.2 d_Mod_due_92
                    · have hj := it_p hj c_31
                      refine lv_iconst (v := (-1)) hx hb d_Mod_due_87 (by decide) ?_
                      refine lv_goto (tgt := 92) hx hb d_Mod_due_88 (by decide) ?_
                      obtain rfl := Option.some.inj hj
                      exact W.iret hx hb hr (fun t ht hW => ⟨⟨_, _, rfl, ⟨rfl, rfl⟩, by rw [ht]; exact hP, va_K.moved hW.alike hK, hD⟩, hS.F ht⟩) hS.2.2 d_Mod_due_92
                · have hj := it_p hj c_29
                  refine lv_iconst (v := 1) hx hb d_Mod_due_71 (by decide) ?_
                  refine lv_goto (tgt := 76) hx hb d_Mod_due_72 (by decide) ?_
                  refine lv_istore_n (lv' := [(3, .int (1 : Int32)), (2, .int (0 : Int32)), (0, .ref (bd 0)), (1, .int p1)]) hx hb d_Mod_due_76 rfl hl (by decide) rfl (fun ls hl => ?_)
                  refine lv_iload_n hx hb d_Mod_due_77 rfl (lv_at hl 0 rfl) ?_
                  refine lv_if_ne (tgt := 93) hx hb d_Mod_due_78 (by decide) (fun c_32 => ?_) (fun c_32 => ?_)
                  · skip
                    refine lv_iload_n hx hb d_Mod_due_93 rfl (lv_at hl 3 rfl) ?_
                    refine lv_iconst (v := 2) hx hb d_Mod_due_94 (by decide) ?_
                    refine lv_icmp_ne (tgt := 114) hx hb d_Mod_due_95 (by decide) (fun c_33 => ?_) (fun c_33 => ?_)
                    · have hj := it_n hj c_33
                      refine lv_iload_n hx hb d_Mod_due_114 rfl (lv_at hl 3 rfl) ?_
                      refine lv_iconst (v := 3) hx hb d_Mod_due_115 (by decide) ?_
                      refine lv_icmp_eq (tgt := 124) hx hb d_Mod_due_116 (by decide) (fun c_34 => ?_) (fun c_34 => ?_)
                      · have hj := it_p hj c_34
                        refine lv_iload_n hx hb d_Mod_due_124 rfl (lv_at hl 1 rfl) ?_
                        refine lv_if_eq (tgt := 132) hx hb d_Mod_due_125 (by decide) (fun c_35 => ?_) (fun c_35 => ?_)
                        · skip
                          refine lv_iconst (v := (-1)) hx hb d_Mod_due_132 (by decide) ?_
                          obtain rfl := Option.some.inj hj
                          exact W.iret hx hb hr (fun t ht hW => ⟨⟨_, _, rfl, ⟨rfl, rfl⟩, by rw [ht]; exact hP, va_K.moved hW.alike hK, hD⟩, hS.F ht⟩) hS.2.2 d_Mod_due_133
                        · exact absurd c_35 (by decide)
                      · have hj := it_n hj c_34
                        refine lv_iload_n hx hb d_Mod_due_119 rfl (lv_at hl 3 rfl) ?_
                        refine lv_iconst (v := 4) hx hb d_Mod_due_120 (by decide) ?_
                        refine lv_icmp_ne (tgt := 134) hx hb d_Mod_due_121 (by decide) (fun c_36 => ?_) (fun c_36 => ?_)
                        · have hj := it_n hj c_36
                          refine lv_iload_n hx hb d_Mod_due_134 rfl (lv_at hl 3 rfl) ?_
                          refine lv_bipush (v := 56) hx hb d_Mod_due_135 (by decide) ?_
                          refine lv_icmp_ne (tgt := 172) hx hb d_Mod_due_137 (by decide) (fun c_37 => ?_) (fun c_37 => ?_)
                          · have hj := it_n hj c_37
                            refine lv_iconst (v := (-1)) hx hb d_Mod_due_172 (by decide) ?_
                            obtain rfl := Option.some.inj hj
                            exact W.iret hx hb hr (fun t ht hW => ⟨⟨_, _, rfl, ⟨rfl, rfl⟩, by rw [ht]; exact hP, va_K.moved hW.alike hK, hD⟩, hS.F ht⟩) hS.2.2 d_Mod_due_173
                          · have hj := it_p hj c_37
                            refine lv_aload_n hx hb d_Mod_due_140 rfl (lv_at hl 2 rfl) ?_
                            refine va_get (D := (dC, dI)) (ci := 8) (v := .int (mg_type d)) (C := "CardMessageDeskModel") (T := T_Mod) (N := 32) hx hb hts in_Mod hown hK hP 0 rfl rfl 13 (by decide) (hts _ tw513) (fun _ h9 => h9) rfl d_Mod_due_141 ?_
                            refine lv_sipush (v := 400) hx hb d_Mod_due_144 (by decide) ?_
                            refine lv_icmp_ne (tgt := 154) hx hb d_Mod_due_147 (by decide) (fun c_38 => ?_) (fun c_38 => ?_)
                            · have hj := it_n hj c_38
                              refine lv_aload_n hx hb d_Mod_due_154 rfl (lv_at hl 2 rfl) ?_
                              refine va_get (D := (dC, dI)) (ci := 8) (v := .int (mg_type d)) (C := "CardMessageDeskModel") (T := T_Mod) (N := 32) hx hb hts in_Mod hown hK hP 0 rfl rfl 13 (by decide) (hts _ tw513) (fun _ h9 => h9) rfl d_Mod_due_155 ?_
                              refine lv_sipush (v := 200) hx hb d_Mod_due_158 (by decide) ?_
                              refine lv_icmp_ne (tgt := 168) hx hb d_Mod_due_161 (by decide) (fun c_39 => ?_) (fun c_39 => ?_)
                              · have hj := it_n hj c_39
                                refine lv_iconst (v := (-1)) hx hb d_Mod_due_168 (by decide) ?_
                                refine lv_goto (tgt := 173) hx hb d_Mod_due_169 (by decide) ?_
                                obtain rfl := Option.some.inj hj
                                exact W.iret hx hb hr (fun t ht hW => ⟨⟨_, _, rfl, ⟨rfl, rfl⟩, by rw [ht]; exact hP, va_K.moved hW.alike hK, hD⟩, hS.F ht⟩) hS.2.2 d_Mod_due_173
                              · have hj := it_p hj c_39
                                refine lv_iconst (v := 0) hx hb d_Mod_due_164 (by decide) ?_
                                refine lv_goto (tgt := 173) hx hb d_Mod_due_165 (by decide) ?_
                                obtain rfl := Option.some.inj hj
                                exact W.iret hx hb hr (fun t ht hW => ⟨⟨_, _, rfl, ⟨rfl, rfl⟩, by rw [ht]; exact hP, va_K.moved hW.alike hK, hD⟩, hS.F ht⟩) hS.2.2 d_Mod_due_173
                            · have hj := it_p hj c_38
                              refine lv_iconst (v := 1) hx hb d_Mod_due_150 (by decide) ?_
                              refine lv_goto (tgt := 173) hx hb d_Mod_due_151 (by decide) ?_
                              obtain rfl := Option.some.inj hj
                              exact W.iret hx hb hr (fun t ht hW => ⟨⟨_, _, rfl, ⟨rfl, rfl⟩, by rw [ht]; exact hP, va_K.moved hW.alike hK, hD⟩, hS.F ht⟩) hS.2.2 d_Mod_due_173
                        · have hj := it_p hj c_36
                          refine lv_iload_n hx hb d_Mod_due_124 rfl (lv_at hl 1 rfl) ?_
                          refine lv_if_eq (tgt := 132) hx hb d_Mod_due_125 (by decide) (fun c_40 => ?_) (fun c_40 => ?_)
                          · skip
                            refine lv_iconst (v := (-1)) hx hb d_Mod_due_132 (by decide) ?_
                            obtain rfl := Option.some.inj hj
                            exact W.iret hx hb hr (fun t ht hW => ⟨⟨_, _, rfl, ⟨rfl, rfl⟩, by rw [ht]; exact hP, va_K.moved hW.alike hK, hD⟩, hS.F ht⟩) hS.2.2 d_Mod_due_133
                          · exact absurd c_40 (by decide)
                    · have hj := it_p hj c_33
                      refine lv_aload_n hx hb d_Mod_due_98 rfl (lv_at hl 2 rfl) ?_
                      refine va_get (D := (dC, dI)) (ci := 8) (v := .int (mg_type d)) (C := "CardMessageDeskModel") (T := T_Mod) (N := 32) hx hb hts in_Mod hown hK hP 0 rfl rfl 13 (by decide) (hts _ tw513) (fun _ h9 => h9) rfl d_Mod_due_99 ?_
                      refine lv_sipush (v := 500) hx hb d_Mod_due_102 (by decide) ?_
                      refine lv_icmp_ne (tgt := 112) hx hb d_Mod_due_105 (by decide) (fun c_41 => ?_) (fun c_41 => ?_)
                      · have hj := it_n hj c_41
                        refine lv_iconst (v := 1) hx hb d_Mod_due_112 (by decide) ?_
                        obtain rfl := Option.some.inj hj
                        exact W.iret hx hb hr (fun t ht hW => ⟨⟨_, _, rfl, ⟨rfl, rfl⟩, by rw [ht]; exact hP, va_K.moved hW.alike hK, hD⟩, hS.F ht⟩) hS.2.2 d_Mod_due_113
                      · have hj := it_p hj c_41
                        refine lv_iconst (v := (-1)) hx hb d_Mod_due_108 (by decide) ?_
                        refine lv_goto (tgt := 113) hx hb d_Mod_due_109 (by decide) ?_
                        obtain rfl := Option.some.inj hj
                        exact W.iret hx hb hr (fun t ht hW => ⟨⟨_, _, rfl, ⟨rfl, rfl⟩, by rw [ht]; exact hP, va_K.moved hW.alike hK, hD⟩, hS.F ht⟩) hS.2.2 d_Mod_due_113
                  · exact absurd c_32 (by decide)
          · have hj := it_p hj c_16
            refine lv_iconst (v := 1) hx hb d_Mod_due_41 (by decide) ?_
            refine lv_goto (tgt := 46) hx hb d_Mod_due_42 (by decide) ?_
            refine lv_istore_n (lv' := [(2, .int (1 : Int32)), (0, .ref (bd 0)), (1, .int p1)]) hx hb d_Mod_due_46 rfl hl (by decide) rfl (fun ls hl => ?_)
            refine lv_iload_n hx hb d_Mod_due_47 rfl (lv_at hl 0 rfl) ?_
            refine lv_if_ne (tgt := 71) hx hb d_Mod_due_48 (by decide) (fun c_42 => ?_) (fun c_42 => ?_)
            · skip
              refine lv_iconst (v := 1) hx hb d_Mod_due_71 (by decide) ?_
              refine lv_goto (tgt := 76) hx hb d_Mod_due_72 (by decide) ?_
              refine lv_istore_n (lv' := [(3, .int (1 : Int32)), (2, .int (1 : Int32)), (0, .ref (bd 0)), (1, .int p1)]) hx hb d_Mod_due_76 rfl hl (by decide) rfl (fun ls hl => ?_)
              refine lv_iload_n hx hb d_Mod_due_77 rfl (lv_at hl 0 rfl) ?_
              refine lv_if_ne (tgt := 93) hx hb d_Mod_due_78 (by decide) (fun c_43 => ?_) (fun c_43 => ?_)
              · skip
                refine lv_iload_n hx hb d_Mod_due_93 rfl (lv_at hl 3 rfl) ?_
                refine lv_iconst (v := 2) hx hb d_Mod_due_94 (by decide) ?_
                refine lv_icmp_ne (tgt := 114) hx hb d_Mod_due_95 (by decide) (fun c_44 => ?_) (fun c_44 => ?_)
                · have hj := it_n hj c_44
                  refine lv_iload_n hx hb d_Mod_due_114 rfl (lv_at hl 3 rfl) ?_
                  refine lv_iconst (v := 3) hx hb d_Mod_due_115 (by decide) ?_
                  refine lv_icmp_eq (tgt := 124) hx hb d_Mod_due_116 (by decide) (fun c_45 => ?_) (fun c_45 => ?_)
                  · have hj := it_p hj c_45
                    refine lv_iload_n hx hb d_Mod_due_124 rfl (lv_at hl 1 rfl) ?_
                    refine lv_if_eq (tgt := 132) hx hb d_Mod_due_125 (by decide) (fun c_46 => ?_) (fun c_46 => ?_)
                    · exact absurd c_46 (by decide)
                    · skip
                      refine lv_iconst (v := 1) hx hb d_Mod_due_128 (by decide) ?_
                      refine lv_goto (tgt := 133) hx hb d_Mod_due_129 (by decide) ?_
                      obtain rfl := Option.some.inj hj
                      exact W.iret hx hb hr (fun t ht hW => ⟨⟨_, _, rfl, ⟨rfl, rfl⟩, by rw [ht]; exact hP, va_K.moved hW.alike hK, hD⟩, hS.F ht⟩) hS.2.2 d_Mod_due_133
                  · have hj := it_n hj c_45
                    refine lv_iload_n hx hb d_Mod_due_119 rfl (lv_at hl 3 rfl) ?_
                    refine lv_iconst (v := 4) hx hb d_Mod_due_120 (by decide) ?_
                    refine lv_icmp_ne (tgt := 134) hx hb d_Mod_due_121 (by decide) (fun c_47 => ?_) (fun c_47 => ?_)
                    · have hj := it_n hj c_47
                      refine lv_iload_n hx hb d_Mod_due_134 rfl (lv_at hl 3 rfl) ?_
                      refine lv_bipush (v := 56) hx hb d_Mod_due_135 (by decide) ?_
                      refine lv_icmp_ne (tgt := 172) hx hb d_Mod_due_137 (by decide) (fun c_48 => ?_) (fun c_48 => ?_)
                      · have hj := it_n hj c_48
                        refine lv_iconst (v := (-1)) hx hb d_Mod_due_172 (by decide) ?_
                        obtain rfl := Option.some.inj hj
                        exact W.iret hx hb hr (fun t ht hW => ⟨⟨_, _, rfl, ⟨rfl, rfl⟩, by rw [ht]; exact hP, va_K.moved hW.alike hK, hD⟩, hS.F ht⟩) hS.2.2 d_Mod_due_173
                      · have hj := it_p hj c_48
                        refine lv_aload_n hx hb d_Mod_due_140 rfl (lv_at hl 2 rfl) ?_
                        refine va_get (D := (dC, dI)) (ci := 8) (v := .int (mg_type d)) (C := "CardMessageDeskModel") (T := T_Mod) (N := 32) hx hb hts in_Mod hown hK hP 0 rfl rfl 13 (by decide) (hts _ tw513) (fun _ h9 => h9) rfl d_Mod_due_141 ?_
                        refine lv_sipush (v := 400) hx hb d_Mod_due_144 (by decide) ?_
                        refine lv_icmp_ne (tgt := 154) hx hb d_Mod_due_147 (by decide) (fun c_49 => ?_) (fun c_49 => ?_)
                        · have hj := it_n hj c_49
                          refine lv_aload_n hx hb d_Mod_due_154 rfl (lv_at hl 2 rfl) ?_
                          refine va_get (D := (dC, dI)) (ci := 8) (v := .int (mg_type d)) (C := "CardMessageDeskModel") (T := T_Mod) (N := 32) hx hb hts in_Mod hown hK hP 0 rfl rfl 13 (by decide) (hts _ tw513) (fun _ h9 => h9) rfl d_Mod_due_155 ?_
                          refine lv_sipush (v := 200) hx hb d_Mod_due_158 (by decide) ?_
                          refine lv_icmp_ne (tgt := 168) hx hb d_Mod_due_161 (by decide) (fun c_50 => ?_) (fun c_50 => ?_)
                          · have hj := it_n hj c_50
                            refine lv_iconst (v := (-1)) hx hb d_Mod_due_168 (by decide) ?_
                            refine lv_goto (tgt := 173) hx hb d_Mod_due_169 (by decide) ?_
                            obtain rfl := Option.some.inj hj
                            exact W.iret hx hb hr (fun t ht hW => ⟨⟨_, _, rfl, ⟨rfl, rfl⟩, by rw [ht]; exact hP, va_K.moved hW.alike hK, hD⟩, hS.F ht⟩) hS.2.2 d_Mod_due_173
                          · have hj := it_p hj c_50
                            refine lv_iconst (v := 0) hx hb d_Mod_due_164 (by decide) ?_
                            refine lv_goto (tgt := 173) hx hb d_Mod_due_165 (by decide) ?_
                            obtain rfl := Option.some.inj hj
                            exact W.iret hx hb hr (fun t ht hW => ⟨⟨_, _, rfl, ⟨rfl, rfl⟩, by rw [ht]; exact hP, va_K.moved hW.alike hK, hD⟩, hS.F ht⟩) hS.2.2 d_Mod_due_173
                        · have hj := it_p hj c_49
                          refine lv_iconst (v := 1) hx hb d_Mod_due_150 (by decide) ?_
                          refine lv_goto (tgt := 173) hx hb d_Mod_due_151 (by decide) ?_
                          obtain rfl := Option.some.inj hj
                          exact W.iret hx hb hr (fun t ht hW => ⟨⟨_, _, rfl, ⟨rfl, rfl⟩, by rw [ht]; exact hP, va_K.moved hW.alike hK, hD⟩, hS.F ht⟩) hS.2.2 d_Mod_due_173
                    · have hj := it_p hj c_47
                      refine lv_iload_n hx hb d_Mod_due_124 rfl (lv_at hl 1 rfl) ?_
                      refine lv_if_eq (tgt := 132) hx hb d_Mod_due_125 (by decide) (fun c_51 => ?_) (fun c_51 => ?_)
                      · exact absurd c_51 (by decide)
                      · skip
                        refine lv_iconst (v := 1) hx hb d_Mod_due_128 (by decide) ?_
                        refine lv_goto (tgt := 133) hx hb d_Mod_due_129 (by decide) ?_
                        obtain rfl := Option.some.inj hj
                        exact W.iret hx hb hr (fun t ht hW => ⟨⟨_, _, rfl, ⟨rfl, rfl⟩, by rw [ht]; exact hP, va_K.moved hW.alike hK, hD⟩, hS.F ht⟩) hS.2.2 d_Mod_due_133
                · have hj := it_p hj c_44
                  refine lv_aload_n hx hb d_Mod_due_98 rfl (lv_at hl 2 rfl) ?_
                  refine va_get (D := (dC, dI)) (ci := 8) (v := .int (mg_type d)) (C := "CardMessageDeskModel") (T := T_Mod) (N := 32) hx hb hts in_Mod hown hK hP 0 rfl rfl 13 (by decide) (hts _ tw513) (fun _ h9 => h9) rfl d_Mod_due_99 ?_
                  refine lv_sipush (v := 500) hx hb d_Mod_due_102 (by decide) ?_
                  refine lv_icmp_ne (tgt := 112) hx hb d_Mod_due_105 (by decide) (fun c_52 => ?_) (fun c_52 => ?_)
                  · have hj := it_n hj c_52
                    refine lv_iconst (v := 1) hx hb d_Mod_due_112 (by decide) ?_
                    obtain rfl := Option.some.inj hj
                    exact W.iret hx hb hr (fun t ht hW => ⟨⟨_, _, rfl, ⟨rfl, rfl⟩, by rw [ht]; exact hP, va_K.moved hW.alike hK, hD⟩, hS.F ht⟩) hS.2.2 d_Mod_due_113
                  · have hj := it_p hj c_52
                    refine lv_iconst (v := (-1)) hx hb d_Mod_due_108 (by decide) ?_
                    refine lv_goto (tgt := 113) hx hb d_Mod_due_109 (by decide) ?_
                    obtain rfl := Option.some.inj hj
                    exact W.iret hx hb hr (fun t ht hW => ⟨⟨_, _, rfl, ⟨rfl, rfl⟩, by rw [ht]; exact hP, va_K.moved hW.alike hK, hD⟩, hS.F ht⟩) hS.2.2 d_Mod_due_113
              · exact absurd c_43 (by decide)
            · exact absurd c_42 (by decide)
      · have hj := it_p hj c_3
        refine lv_iconst (v := 1) hx hb d_Mod_due_20 (by decide) ?_
        obtain rfl := Option.some.inj hj
        exact W.iret hx hb hr (fun t ht hW => ⟨⟨_, _, rfl, ⟨rfl, rfl⟩, by rw [ht]; exact hP, va_K.moved hW.alike hK, hD⟩, hS.F ht⟩) hS.2.2 d_Mod_due_21
  · have hj := it_p hj c_1
    refine lv_iconst (v := 0) hx hb d_Mod_due_6 (by decide) ?_
    obtain rfl := Option.some.inj hj
    exact W.iret hx hb hr (fun t ht hW => ⟨⟨_, _, rfl, ⟨rfl, rfl⟩, by rw [ht]; exact hP, va_K.moved hW.alike hK, hD⟩, hS.F ht⟩) hS.2.2 d_Mod_due_7
set_option maxHeartbeats 4000000 in
set_option maxRecDepth 100000 in
theorem cm_M_isRequest_L24 {p : Program} {l : Launch} {e : Env} {s : State} {m : MethodId} {args : Array Value} {below : List Frame} {meth : Method} {c : Code} {dC : Nat → ClassId} {dI : Nat → Nat → Nat} {bd : Nat → Nat} {cb : Nat → ClassId} {A : Nat → Prop}    (r9 : Int32) (d9 : MS) (hx : p.tables.exec = Jvm.exec) (hb : c.code = prog_10_method_17_code) (hr : meth.sig.returnType = (some .boolean)) (hlocks : meth.locks = false) (hml : c.maxLocals = 3) (hown : s.vm.findClass "CardMessageDeskModel" = some m.cls) (hts : ∀ w ∈ gt, w.before args s = true) (hN : nw s) (hA : ∀ q : Nat, s.heap.size ≤ q → A q) (hK : va_K (dC, dI) vwCl (mT cb) s) :
    ∀ (n : Nat) (d : MS) (x1 : Int32) (H : Heap) (locs : List Loc) (ls : Array Slot), loopF (jm_M_isRequest_L24) n (d, x1) = some (r9, d9) → va_P (dC, dI) vwCl (mw bd cb d) H → va_D A (mw bd cb d) → va_S A s.heap H locs → lv_has ls 3 [(0, .ref (bd 0)), (1, .int x1)] → W p l e ({ frames := 4, cells := 0, slots := 0, locals := 88 }) s m args below meth c H locs 0 0 (MQ below (va_Qi (fun (r : Int32) (u : MS) => r = r9 ∧ u = d9) (mAt dC dI bd cb A) A) args s 0 0 A) (F0 m 24 ls []) := by
  intro n
  induction n with
  | zero =>
    intro d x1 H locs ls hj
    exact (loopF_z hj).elim
  | succ n ih =>
    intro d x1 H locs ls hj hP hD hS hl
    have hj := loopF_s hj
    unfold jm_M_isRequest_L24 at hj
    try dsimp only at hj
    refine lv_iload_n hx hb d_Mod_isRequest_24 rfl (lv_at hl 1 rfl) ?_
    refine lv_bipush (v := 64) hx hb d_Mod_isRequest_25 (by decide) ?_
    refine lv_icmp_gt (tgt := 72) hx hb d_Mod_isRequest_27 (by decide) (fun c_4 => ?_) (fun c_4 => ?_)
    · have hj := it_p hj c_4
      refine lv_iconst (v := 1) hx hb d_Mod_isRequest_72 (by decide) ?_
      obtain ⟨rfl, rfl⟩ := rt_some hj
      exact W.zret (ty := .boolean) hx hb hr rfl (fun t ht hW => ⟨⟨_, _, rfl, ⟨rfl, rfl⟩, by rw [ht]; exact hP, va_K.moved hW.alike hK, hD⟩, hS.F ht⟩) hS.2.2 d_Mod_isRequest_73
    · have hj := it_n hj c_4
      refine lv_aload_n hx hb d_Mod_isRequest_30 rfl (lv_at hl 0 rfl) ?_
      refine lv_iload_n hx hb d_Mod_isRequest_31 rfl (lv_at hl 1 rfl) ?_
      obtain ⟨v_5, hc_5, hj⟩ := bd_some hj
      have hF_5 := va_fr hD hS hA
      refine va_calli (va_runV (As := [.int x1]) (rest := []) ⟨hx, hb, hml, hown, hts⟩ (cm_M_due l dC dI bd cb H.size d x1  v_5 hc_5) (cwV 1 hts (gtV tw671 tw673 ts23 tw9 tw674) rfl rfl rfl (by decide +kernel) ⟨Nat.le_of_ble_eq_true rfl, Nat.le_of_ble_eq_true rfl⟩) ⟨mBl, va_recv hK hP (ci := 8) (q0 := 0) rfl rfl, fun U hU hW => ⟨rfl, mPr hP hK hD hN hU hW⟩⟩ rfl rfl hl.1 rfl (lv_room (Nat.le_of_ble_eq_true rfl)) d_Mod_isRequest_32 ⟨Nat.zero_le _, Nat.zero_le _⟩) hS (fun q _ h => hF_5 q h) hF_5 (fun r u t H locs ht hvm hw hB hz1 hk1 hS => ?_)
      obtain ⟨hw1, hw2⟩ := hw
      have hw1 := hw1.symm
      subst hw1
      have hw2 := hw2.symm
      subst hw2
      obtain ⟨hP, hD⟩ := mAf hB ht hF_5
      refine lv_istore_n (lv' := [(2, .int v_5), (0, .ref (bd 0)), (1, .int x1)]) hx hb d_Mod_isRequest_35 rfl hl (by decide) rfl (fun ls hl => ?_)
      refine lv_iload_n hx hb d_Mod_isRequest_36 rfl (lv_at hl 0 rfl) ?_
      refine lv_iconst (v := 1) hx hb d_Mod_isRequest_37 (by decide) ?_
      refine lv_icmp_ne (tgt := 50) hx hb d_Mod_isRequest_38 (by decide) (fun c_6 => ?_) (fun c_6 => ?_)
      · have hj := it_n hj c_6
        refine lv_iload_n hx hb d_Mod_isRequest_50 rfl (lv_at hl 0 rfl) ?_
        refine lv_iconst (v := (-1)) hx hb d_Mod_isRequest_51 (by decide) ?_
        refine lv_icmp_ne (tgt := 66) hx hb d_Mod_isRequest_52 (by decide) (fun c_7 => ?_) (fun c_7 => ?_)
        · have hj := it_n hj c_7
          refine lv_iinc (v := (x1 + 1)) (lv' := [(1, .int (x1 + 1)), (2, .int v_5), (0, .ref (bd 0))]) hx hb d_Mod_isRequest_66 hl (k := 2) rfl rfl (by decide) rfl (fun ls hl => ?_)
          refine lv_goto (tgt := 24) hx hb d_Mod_isRequest_69 (by decide) ?_
          exact ih d (x1 + 1) H locs ls hj hP hD hS (lv_sub hl [2, 0] rfl)
        · have hj := it_p hj c_7
          refine lv_aload_n hx hb d_Mod_isRequest_55 rfl (lv_at hl 1 rfl) ?_
          refine va_get (D := (dC, dI)) (ci := 8) (v := .ref (bd 5)) (C := "CardMessageDeskModel") (T := T_Mod) (N := 32) hx hb hts in_Mod hown hK hP 0 rfl rfl 10 (by decide) (hts _ tw510) (fun _ h9 => h9) rfl d_Mod_isRequest_56 ?_
          refine lv_iload_n hx hb d_Mod_isRequest_59 rfl (lv_at hl 2 rfl) ?_
          obtain ⟨hi_8, hj⟩ := gd_some hj
          refine va_zald hx hb hK hP 5 4 rfl rfl hi_8 d_Mod_isRequest_60 ?_
          refine lv_if_eq (tgt := 66) hx hb d_Mod_isRequest_61 (by decide) (fun c_9 => ?_) (fun c_9 => ?_)
          · have hj := it_p hj c_9
            refine lv_iinc (v := (x1 + 1)) (lv' := [(1, .int (x1 + 1)), (2, .int v_5), (0, .ref (bd 0))]) hx hb d_Mod_isRequest_66 hl (k := 2) rfl rfl (by decide) rfl (fun ls hl => ?_)
            refine lv_goto (tgt := 24) hx hb d_Mod_isRequest_69 (by decide) ?_
            exact ih d (x1 + 1) H locs ls hj hP hD hS (lv_sub hl [2, 0] rfl)
          · have hj := it_n hj c_9
            refine lv_iconst (v := 0) hx hb d_Mod_isRequest_64 (by decide) ?_
            obtain ⟨rfl, rfl⟩ := rt_some hj
            exact W.zret (ty := .boolean) hx hb hr rfl (fun t ht hW => ⟨⟨_, _, rfl, ⟨rfl, rfl⟩, by rw [ht]; exact hP, va_K.moved hW.alike hK, hD⟩, hS.F ht⟩) hS.2.2 d_Mod_isRequest_65
      · have hj := it_p hj c_6
        refine lv_aload_n hx hb d_Mod_isRequest_41 rfl (lv_at hl 1 rfl) ?_
        refine va_get (D := (dC, dI)) (ci := 8) (v := .ref (bd 5)) (C := "CardMessageDeskModel") (T := T_Mod) (N := 32) hx hb hts in_Mod hown hK hP 0 rfl rfl 10 (by decide) (hts _ tw510) (fun _ h9 => h9) rfl d_Mod_isRequest_42 ?_
        refine lv_iload_n hx hb d_Mod_isRequest_45 rfl (lv_at hl 2 rfl) ?_
        obtain ⟨hi_10, hj⟩ := gd_some hj
        refine va_zald hx hb hK hP 5 4 rfl rfl hi_10 d_Mod_isRequest_46 ?_
        refine lv_if_eq (tgt := 64) hx hb d_Mod_isRequest_47 (by decide) (fun c_11 => ?_) (fun c_11 => ?_)
        · have hj := it_p hj c_11
          refine lv_iconst (v := 0) hx hb d_Mod_isRequest_64 (by decide) ?_
          obtain ⟨rfl, rfl⟩ := rt_some hj
          exact W.zret (ty := .boolean) hx hb hr rfl (fun t ht hW => ⟨⟨_, _, rfl, ⟨rfl, rfl⟩, by rw [ht]; exact hP, va_K.moved hW.alike hK, hD⟩, hS.F ht⟩) hS.2.2 d_Mod_isRequest_65
        · have hj := it_n hj c_11
          refine lv_iload_n hx hb d_Mod_isRequest_50 rfl (lv_at hl 0 rfl) ?_
          refine lv_iconst (v := (-1)) hx hb d_Mod_isRequest_51 (by decide) ?_
          refine lv_icmp_ne (tgt := 66) hx hb d_Mod_isRequest_52 (by decide) (fun c_12 => ?_) (fun c_12 => ?_)
          · have hj := it_n hj c_12
            refine lv_iinc (v := (x1 + 1)) (lv' := [(1, .int (x1 + 1)), (2, .int v_5), (0, .ref (bd 0))]) hx hb d_Mod_isRequest_66 hl (k := 2) rfl rfl (by decide) rfl (fun ls hl => ?_)
            refine lv_goto (tgt := 24) hx hb d_Mod_isRequest_69 (by decide) ?_
            exact ih d (x1 + 1) H locs ls hj hP hD hS (lv_sub hl [2, 0] rfl)
          · have hj := it_p hj c_12
            refine lv_aload_n hx hb d_Mod_isRequest_55 rfl (lv_at hl 1 rfl) ?_
            refine va_get (D := (dC, dI)) (ci := 8) (v := .ref (bd 5)) (C := "CardMessageDeskModel") (T := T_Mod) (N := 32) hx hb hts in_Mod hown hK hP 0 rfl rfl 10 (by decide) (hts _ tw510) (fun _ h9 => h9) rfl d_Mod_isRequest_56 ?_
            refine lv_iload_n hx hb d_Mod_isRequest_59 rfl (lv_at hl 2 rfl) ?_
            obtain ⟨hi_13, hj⟩ := gd_some hj
            refine va_zald hx hb hK hP 5 4 rfl rfl hi_13 d_Mod_isRequest_60 ?_
            refine lv_if_eq (tgt := 66) hx hb d_Mod_isRequest_61 (by decide) (fun c_14 => ?_) (fun c_14 => ?_)
            · have hj := it_p hj c_14
              refine lv_iinc (v := (x1 + 1)) (lv' := [(1, .int (x1 + 1)), (2, .int v_5), (0, .ref (bd 0))]) hx hb d_Mod_isRequest_66 hl (k := 2) rfl rfl (by decide) rfl (fun ls hl => ?_)
              refine lv_goto (tgt := 24) hx hb d_Mod_isRequest_69 (by decide) ?_
              exact ih d (x1 + 1) H locs ls hj hP hD hS (lv_sub hl [2, 0] rfl)
            · have hj := it_n hj c_14
              refine lv_iconst (v := 0) hx hb d_Mod_isRequest_64 (by decide) ?_
              obtain ⟨rfl, rfl⟩ := rt_some hj
              exact W.zret (ty := .boolean) hx hb hr rfl (fun t ht hW => ⟨⟨_, _, rfl, ⟨rfl, rfl⟩, by rw [ht]; exact hP, va_K.moved hW.alike hK, hD⟩, hS.F ht⟩) hS.2.2 d_Mod_isRequest_65
set_option maxHeartbeats 4000000 in
set_option maxRecDepth 100000 in
theorem cm_M_isRequest (l : Launch) (dC : Nat → ClassId) (dI : Nat → Nat → Nat) (bd : Nat → Nat) (cb : Nat → ClassId) (sz : Nat) (d : MS)   (r9 : Int32) (d9 : MS) (hj : jm_M_isRequest d = some (r9, d9)) : Met l y_Mod_isRequest w_Mod_isRequest ({ frames := 4, cells := 0, slots := 0, locals := 88 }) (va_Pc [.ref (bd 0)] (mPre dC dI bd cb sz d)) (va_Qi (fun (r : Int32) (u : MS) => r = r9 ∧ u = d9) (mAt dC dI bd cb (va_A (mw bd cb d) sz)) (va_A (mw bd cb d) sz)) 0 0 (va_A (mw bd cb d) sz) := by
  refine Met.ofW (cc := prog_10_method_17_code) (maxL := 3) (ret := (some .boolean)) (by decide) rfl ?_
  intro p e s m args below meth c s₁ B hml hv
  obtain ⟨rfl, hsz, hP, hK, hD0, hN⟩ := hv
  have hx := B.exec
  have hb := B.bytes
  have hr := B.returns
  have hts0 := atoms_spec (ws := w_Mod_isRequest) B.pre
  have hts : ∀ w ∈ gt, w.before _ s = true := fun w h => hts0 w (List.mem_cons_of_mem _ h)
  have hown : s.vm.findClass "CardMessageDeskModel" = some m.cls := findClass_of_methodNamed B.named
  have hlocks := B.notSynchronized
  subst hsz
  have hD := hD0.self (sz := s.heap.size)
  generalize hAe : va_A (mw bd cb d) s.heap.size = A at hD ⊢
  have hA : ∀ q : Nat, s.heap.size ≤ q → A q := fun q h => by rw [← hAe]; exact Or.inr h
  have hS : va_S A s.heap s.heap [] := va_S.rf
  have hl := lv_entry ([.ref (bd 0)]) (n := 3) (Nat.le_of_ble_eq_true rfl)
  rw [lg_entry_eq]
  generalize (lg_sl ([.ref (bd 0)]) ++ List.replicate (3 - (lg_sl ([.ref (bd 0)])).length) Slot.unset).toArray = ls at hl ⊢
  have hl : lv_has ls 3 [(0, .ref (bd 0))] := hl
  unfold jm_M_isRequest at hj
  refine lv_aload_n hx hb d_Mod_isRequest_0 rfl (lv_at hl 0 rfl) ?_
  obtain ⟨p_1, hc_1, hj⟩ := bd_some hj
  have hF_1 := va_fr hD hS hA
  refine va_calli (va_runV (As := []) (rest := []) ⟨hx, hb, hml, hown, hts⟩ (cm_M_readMessage l dC dI bd cb s.heap.size d   p_1.1 p_1.2 hc_1) (cwV 0 hts (gtV tw639 tw641 ts16 tw9 tw642) rfl rfl rfl (by decide +kernel) ⟨Nat.le_of_ble_eq_true rfl, Nat.le_of_ble_eq_true rfl⟩) ⟨mBl, va_recv hK hP (ci := 8) (q0 := 0) rfl rfl, fun U hU hW => ⟨rfl, mPr hP hK hD hN hU hW⟩⟩ rfl rfl hl.1 rfl (lv_room (Nat.le_of_ble_eq_true rfl)) d_Mod_isRequest_1 ⟨Nat.zero_le _, Nat.zero_le _⟩) hS (fun q _ h => hF_1 q h) hF_1 (fun r u t H locs ht hvm hw hB hz1 hk1 hS => ?_)
  obtain ⟨hw1, hw2⟩ := hw
  have hw1 := hw1.symm
  subst hw1
  have hw2 := hw2.symm
  subst hw2
  obtain ⟨hP, hD⟩ := mAf hB ht hF_1
  refine lv_if_eq (tgt := 20) hx hb d_Mod_isRequest_4 (by decide) (fun c_2 => ?_) (fun c_2 => ?_)
  · have hj := it_p hj c_2
    refine lv_iconst (v := 0) hx hb d_Mod_isRequest_20 (by decide) ?_
    obtain ⟨rfl, rfl⟩ := rt_some hj
    exact W.zret (ty := .boolean) hx hb hr rfl (fun t ht hW => ⟨⟨_, _, rfl, ⟨rfl, rfl⟩, by rw [ht]; exact hP, va_K.moved hW.alike hK, hD⟩, hS.F ht⟩) hS.2.2 d_Mod_isRequest_21
  · have hj := it_n hj c_2
    refine lv_aload_n hx hb d_Mod_isRequest_7 rfl (lv_at hl 0 rfl) ?_
    refine va_get (D := (dC, dI)) (ci := 8) (v := .int (mg_type p_1.2)) (C := "CardMessageDeskModel") (T := T_Mod) (N := 32) hx hb hts in_Mod hown hK hP 0 rfl rfl 13 (by decide) (hts _ tw513) (fun _ h9 => h9) rfl d_Mod_isRequest_8 ?_
    refine lv_bipush (v := 10) hx hb d_Mod_isRequest_11 (by decide) ?_
    refine lv_idiv hx hb d_Mod_isRequest_13 (by decide +kernel) ?_
    refine lv_bipush (v := 10) hx hb d_Mod_isRequest_14 (by decide) ?_
    refine lv_irem hx hb d_Mod_isRequest_16 (by decide +kernel) ?_
    refine lv_if_eq (tgt := 22) hx hb d_Mod_isRequest_17 (by decide) (fun c_3 => ?_) (fun c_3 => ?_)
    · have hj := it_p hj c_3
      refine lv_iconst (v := 1) hx hb d_Mod_isRequest_22 (by decide) ?_
      refine lv_istore_n (lv' := [(1, .int (1 : Int32)), (0, .ref (bd 0))]) hx hb d_Mod_isRequest_23 rfl hl (by decide) rfl (fun ls hl => ?_)
      exact cm_M_isRequest_L24   _ _ hx hb hr hlocks hml hown hts hN hA hK 200 p_1.2 (1 : Int32) _ _ ls hj hP hD hS (lv_sub hl [1, 0] rfl)
    · have hj := it_n hj c_3
      refine lv_iconst (v := 0) hx hb d_Mod_isRequest_20 (by decide) ?_
      obtain ⟨rfl, rfl⟩ := rt_some hj
      exact W.zret (ty := .boolean) hx hb hr rfl (fun t ht hW => ⟨⟨_, _, rfl, ⟨rfl, rfl⟩, by rw [ht]; exact hP, va_K.moved hW.alike hK, hD⟩, hS.F ht⟩) hS.2.2 d_Mod_isRequest_21
set_option maxHeartbeats 4000000 in
set_option maxRecDepth 100000 in
theorem cm_M_same_L2 {p : Program} {l : Launch} {e : Env} {s : State} {m : MethodId} {args : Array Value} {below : List Frame} {meth : Method} {c : Code} {dC : Nat → ClassId} {dI : Nat → Nat → Nat} {bd : Nat → Nat} {cb : Nat → ClassId} {A : Nat → Prop} (d : MS) (x1 : Int32) (x2 : Int32)  (r9 : Int32) (hx : p.tables.exec = Jvm.exec) (hb : c.code = prog_10_method_18_code) (hr : meth.sig.returnType = (some .int)) (hlocks : meth.locks = false) (hml : c.maxLocals = 4) (hown : s.vm.findClass "CardMessageDeskModel" = some m.cls) (hts : ∀ w ∈ gt, w.before args s = true) (hN : nw s) (hA : ∀ q : Nat, s.heap.size ≤ q → A q) (hK : va_K (dC, dI) vwCl (mT cb) s) :
    ∀ (n : Nat) (x3 : Int32) (H : Heap) (locs : List Loc) (ls : Array Slot), loopF (jm_M_same_L2 d x1 x2) n x3 = some r9 → va_P (dC, dI) vwCl (mw bd cb d) H → va_D A (mw bd cb d) → va_S A s.heap H locs → lv_has ls 4 [(0, .ref (bd 0)), (1, .int x1), (2, .int x2), (3, .int x3)] → W p l e ({ frames := 0, cells := 0, slots := 0, locals := 0 }) s m args below meth c H locs 0 0 (MQ below (va_Qi (fun (r : Int32) (u : MS) => r = r9 ∧ u = d) (mAt dC dI bd cb A) A) args s 0 0 A) (F0 m 2 ls []) := by
  intro n
  induction n with
  | zero =>
    intro x3 H locs ls hj
    exact (loopF_z hj).elim
  | succ n ih =>
    intro x3 H locs ls hj hP hD hS hl
    have hj := loopF_s hj
    unfold jm_M_same_L2 at hj
    try dsimp only at hj
    refine lv_iload_n hx hb d_Mod_same_2 rfl (lv_at hl 3 rfl) ?_
    refine lv_aload_n hx hb d_Mod_same_3 rfl (lv_at hl 0 rfl) ?_
    refine va_get (D := (dC, dI)) (ci := 8) (v := .int (mg_entries d)) (C := "CardMessageDeskModel") (T := T_Mod) (N := 32) hx hb hts in_Mod hown hK hP 0 rfl rfl 20 (by decide) (hts _ tw520) (fun _ h9 => h9) rfl d_Mod_same_4 ?_
    refine lv_icmp_ge (tgt := 51) hx hb d_Mod_same_7 (by decide) (fun c_1 => ?_) (fun c_1 => ?_)
    · have hj := it_p hj c_1
      refine lv_iconst (v := (-1)) hx hb d_Mod_same_51 (by decide) ?_
      obtain rfl := Option.some.inj hj
      exact W.iret hx hb hr (fun t ht hW => ⟨⟨_, _, rfl, ⟨rfl, rfl⟩, by rw [ht]; exact hP, va_K.moved hW.alike hK, hD⟩, hS.F ht⟩) hS.2.2 d_Mod_same_52
    · have hj := it_n hj c_1
      refine lv_aload_n hx hb d_Mod_same_10 rfl (lv_at hl 0 rfl) ?_
      refine va_get (D := (dC, dI)) (ci := 8) (v := .ref (bd 8)) (C := "CardMessageDeskModel") (T := T_Mod) (N := 32) hx hb hts in_Mod hown hK hP 0 rfl rfl 21 (by decide) (hts _ tw521) (fun _ h9 => h9) rfl d_Mod_same_11 ?_
      refine lv_iload_n hx hb d_Mod_same_14 rfl (lv_at hl 3 rfl) ?_
      obtain ⟨hi_2, hj⟩ := gd_some hj
      refine va_iald hx hb hK hP 8 7 rfl rfl hi_2 d_Mod_same_15 ?_
      refine lv_iload_n hx hb d_Mod_same_16 rfl (lv_at hl 1 rfl) ?_
      refine lv_icmp_ne (tgt := 45) hx hb d_Mod_same_17 (by decide) (fun c_3 => ?_) (fun c_3 => ?_)
      · have hj := it_n hj c_3
        refine lv_iinc (v := (x3 + 1)) (lv' := [(3, .int (x3 + 1)), (0, .ref (bd 0)), (1, .int x1), (2, .int x2)]) hx hb d_Mod_same_45 hl (k := 3) rfl rfl (by decide) rfl (fun ls hl => ?_)
        refine lv_goto (tgt := 2) hx hb d_Mod_same_48 (by decide) ?_
        exact ih (x3 + 1) H locs ls hj hP hD hS (lv_sub hl [1, 2, 3, 0] rfl)
      · have hj := it_p hj c_3
        refine lv_aload_n hx hb d_Mod_same_20 rfl (lv_at hl 0 rfl) ?_
        refine va_get (D := (dC, dI)) (ci := 8) (v := .ref (bd 9)) (C := "CardMessageDeskModel") (T := T_Mod) (N := 32) hx hb hts in_Mod hown hK hP 0 rfl rfl 22 (by decide) (hts _ tw522) (fun _ h9 => h9) rfl d_Mod_same_21 ?_
        refine lv_iload_n hx hb d_Mod_same_24 rfl (lv_at hl 3 rfl) ?_
        obtain ⟨hi_4, hj⟩ := gd_some hj
        refine va_iald hx hb hK hP 9 8 rfl rfl hi_4 d_Mod_same_25 ?_
        refine lv_aload_n hx hb d_Mod_same_26 rfl (lv_at hl 0 rfl) ?_
        refine va_get (D := (dC, dI)) (ci := 8) (v := .int (mg_terminal d)) (C := "CardMessageDeskModel") (T := T_Mod) (N := 32) hx hb hts in_Mod hown hK hP 0 rfl rfl 18 (by decide) (hts _ tw518) (fun _ h9 => h9) rfl d_Mod_same_27 ?_
        refine lv_icmp_ne (tgt := 45) hx hb d_Mod_same_30 (by decide) (fun c_5 => ?_) (fun c_5 => ?_)
        · have hj := it_n hj c_5
          refine lv_iinc (v := (x3 + 1)) (lv' := [(3, .int (x3 + 1)), (0, .ref (bd 0)), (1, .int x1), (2, .int x2)]) hx hb d_Mod_same_45 hl (k := 3) rfl rfl (by decide) rfl (fun ls hl => ?_)
          refine lv_goto (tgt := 2) hx hb d_Mod_same_48 (by decide) ?_
          exact ih (x3 + 1) H locs ls hj hP hD hS (lv_sub hl [1, 2, 3, 0] rfl)
        · have hj := it_p hj c_5
          refine lv_aload_n hx hb d_Mod_same_33 rfl (lv_at hl 0 rfl) ?_
          refine va_get (D := (dC, dI)) (ci := 8) (v := .ref (bd 10)) (C := "CardMessageDeskModel") (T := T_Mod) (N := 32) hx hb hts in_Mod hown hK hP 0 rfl rfl 23 (by decide) (hts _ tw523) (fun _ h9 => h9) rfl d_Mod_same_34 ?_
          refine lv_iload_n hx hb d_Mod_same_37 rfl (lv_at hl 3 rfl) ?_
          obtain ⟨hi_6, hj⟩ := gd_some hj
          refine va_iald hx hb hK hP 10 9 rfl rfl hi_6 d_Mod_same_38 ?_
          refine lv_iload_n hx hb d_Mod_same_39 rfl (lv_at hl 2 rfl) ?_
          refine lv_icmp_ne (tgt := 45) hx hb d_Mod_same_40 (by decide) (fun c_7 => ?_) (fun c_7 => ?_)
          · have hj := it_n hj c_7
            refine lv_iinc (v := (x3 + 1)) (lv' := [(3, .int (x3 + 1)), (0, .ref (bd 0)), (1, .int x1), (2, .int x2)]) hx hb d_Mod_same_45 hl (k := 3) rfl rfl (by decide) rfl (fun ls hl => ?_)
            refine lv_goto (tgt := 2) hx hb d_Mod_same_48 (by decide) ?_
            exact ih (x3 + 1) H locs ls hj hP hD hS (lv_sub hl [1, 2, 3, 0] rfl)
          · have hj := it_p hj c_7
            refine lv_iload_n hx hb d_Mod_same_43 rfl (lv_at hl 3 rfl) ?_
            obtain rfl := Option.some.inj hj
            exact W.iret hx hb hr (fun t ht hW => ⟨⟨_, _, rfl, ⟨rfl, rfl⟩, by rw [ht]; exact hP, va_K.moved hW.alike hK, hD⟩, hS.F ht⟩) hS.2.2 d_Mod_same_44
set_option maxHeartbeats 4000000 in
set_option maxRecDepth 100000 in
theorem cm_M_same (l : Launch) (dC : Nat → ClassId) (dI : Nat → Nat → Nat) (bd : Nat → Nat) (cb : Nat → ClassId) (sz : Nat) (d : MS) (p1 : Int32) (p2 : Int32)  (r9 : Int32) (hj : jm_M_same d p1 p2 = some r9) : Met l y_Mod_same w_Mod_same ({ frames := 0, cells := 0, slots := 0, locals := 0 }) (va_Pc [.ref (bd 0), .int p1, .int p2] (mPre dC dI bd cb sz d)) (va_Qi (fun (r : Int32) (u : MS) => r = r9 ∧ u = d) (mAt dC dI bd cb (va_A (mw bd cb d) sz)) (va_A (mw bd cb d) sz)) 0 0 (va_A (mw bd cb d) sz) := by
  refine Met.ofW (cc := prog_10_method_18_code) (maxL := 4) (ret := (some .int)) (by decide) rfl ?_
  intro p e s m args below meth c s₁ B hml hv
  obtain ⟨rfl, hsz, hP, hK, hD0, hN⟩ := hv
  have hx := B.exec
  have hb := B.bytes
  have hr := B.returns
  have hts0 := atoms_spec (ws := w_Mod_same) B.pre
  have hts : ∀ w ∈ gt, w.before _ s = true := fun w h => hts0 w (List.mem_cons_of_mem _ h)
  have hown : s.vm.findClass "CardMessageDeskModel" = some m.cls := findClass_of_methodNamed B.named
  have hlocks := B.notSynchronized
  subst hsz
  have hD := hD0.self (sz := s.heap.size)
  generalize hAe : va_A (mw bd cb d) s.heap.size = A at hD ⊢
  have hA : ∀ q : Nat, s.heap.size ≤ q → A q := fun q h => by rw [← hAe]; exact Or.inr h
  have hS : va_S A s.heap s.heap [] := va_S.rf
  have hl := lv_entry ([.ref (bd 0), .int p1, .int p2]) (n := 4) (Nat.le_of_ble_eq_true rfl)
  rw [lg_entry_eq]
  generalize (lg_sl ([.ref (bd 0), .int p1, .int p2]) ++ List.replicate (4 - (lg_sl ([.ref (bd 0), .int p1, .int p2])).length) Slot.unset).toArray = ls at hl ⊢
  have hl : lv_has ls 4 [(0, .ref (bd 0)), (1, .int p1), (2, .int p2)] := hl
  unfold jm_M_same at hj
  refine lv_iconst (v := 0) hx hb d_Mod_same_0 (by decide) ?_
  refine lv_istore_n (lv' := [(3, .int (0 : Int32)), (0, .ref (bd 0)), (1, .int p1), (2, .int p2)]) hx hb d_Mod_same_1 rfl hl (by decide) rfl (fun ls hl => ?_)
  exact cm_M_same_L2 d p1 p2 _ hx hb hr hlocks hml hown hts hN hA hK 200 (0 : Int32) _ _ ls hj hP hD hS (lv_sub hl [1, 2, 3, 0] rfl)
set_option maxHeartbeats 4000000 in
set_option maxRecDepth 100000 in
theorem cm_M_netOf_L5 {p : Program} {l : Launch} {e : Env} {s : State} {m : MethodId} {args : Array Value} {below : List Frame} {meth : Method} {c : Code} {dC : Nat → ClassId} {dI : Nat → Nat → Nat} {bd : Nat → Nat} {cb : Nat → ClassId} {A : Nat → Prop} (d : MS) (x1 : Int32)  (r9 : Int64) (hx : p.tables.exec = Jvm.exec) (hb : c.code = prog_10_method_25_code) (hr : meth.sig.returnType = (some .long)) (hlocks : meth.locks = false) (hml : c.maxLocals = 5) (hown : s.vm.findClass "CardMessageDeskModel" = some m.cls) (hts : ∀ w ∈ gt, w.before args s = true) (hN : nw s) (hA : ∀ q : Nat, s.heap.size ≤ q → A q) (hK : va_K (dC, dI) vwCl (mT cb) s) :
    ∀ (n : Nat) (x2 : Int64) (x4 : Int32) (H : Heap) (locs : List Loc) (ls : Array Slot), loopF (jm_M_netOf_L5 d x1) n (x2, x4) = some r9 → va_P (dC, dI) vwCl (mw bd cb d) H → va_D A (mw bd cb d) → va_S A s.heap H locs → lv_has ls 5 [(0, .ref (bd 0)), (1, .int x1), (2, .long x2), (4, .int x4)] → W p l e ({ frames := 0, cells := 0, slots := 0, locals := 0 }) s m args below meth c H locs 0 0 (MQ below (va_Ql (fun (r : Int64) (u : MS) => r = r9 ∧ u = d) (mAt dC dI bd cb A) A) args s 0 0 A) (F0 m 5 ls []) := by
  intro n
  induction n with
  | zero =>
    intro x2 x4 H locs ls hj
    exact (loopF_z hj).elim
  | succ n ih =>
    intro x2 x4 H locs ls hj hP hD hS hl
    have hj := loopF_s hj
    unfold jm_M_netOf_L5 at hj
    try dsimp only at hj
    refine lv_iload hx hb d_Mod_netOf_5 (lv_at hl 3 rfl) ?_
    refine lv_aload_n hx hb d_Mod_netOf_7 rfl (lv_at hl 0 rfl) ?_
    refine va_get (D := (dC, dI)) (ci := 8) (v := .int (mg_entries d)) (C := "CardMessageDeskModel") (T := T_Mod) (N := 32) hx hb hts in_Mod hown hK hP 0 rfl rfl 20 (by decide) (hts _ tw520) (fun _ h9 => h9) rfl d_Mod_netOf_8 ?_
    refine lv_icmp_ge (tgt := 103) hx hb d_Mod_netOf_11 (by decide) (fun c_1 => ?_) (fun c_1 => ?_)
    · have hj := it_p hj c_1
      refine lv_lload_n hx hb d_Mod_netOf_103 rfl (lv_at hl 2 rfl) ?_
      obtain rfl := Option.some.inj hj
      exact W.lret hx hb hr (fun t ht hW => ⟨⟨_, _, rfl, ⟨rfl, rfl⟩, by rw [ht]; exact hP, va_K.moved hW.alike hK, hD⟩, hS.F ht⟩) hS.2.2 d_Mod_netOf_104
    · have hj := it_n hj c_1
      refine lv_aload_n hx hb d_Mod_netOf_14 rfl (lv_at hl 0 rfl) ?_
      refine va_get (D := (dC, dI)) (ci := 8) (v := .ref (bd 8)) (C := "CardMessageDeskModel") (T := T_Mod) (N := 32) hx hb hts in_Mod hown hK hP 0 rfl rfl 21 (by decide) (hts _ tw521) (fun _ h9 => h9) rfl d_Mod_netOf_15 ?_
      refine lv_iload hx hb d_Mod_netOf_18 (lv_at hl 3 rfl) ?_
      obtain ⟨hi_2, hj⟩ := gd_some hj
      refine va_iald hx hb hK hP 8 7 rfl rfl hi_2 d_Mod_netOf_20 ?_
      refine lv_sipush (v := 200) hx hb d_Mod_netOf_21 (by decide) ?_
      refine lv_icmp_ne (tgt := 97) hx hb d_Mod_netOf_24 (by decide) (fun c_3 => ?_) (fun c_3 => ?_)
      · have hj := it_n hj c_3
        refine lv_iinc (v := (x4 + 1)) (lv' := [(4, .int (x4 + 1)), (0, .ref (bd 0)), (1, .int x1), (2, .long x2)]) hx hb d_Mod_netOf_97 hl (k := 3) rfl rfl (by decide) rfl (fun ls hl => ?_)
        refine lv_goto (tgt := 5) hx hb d_Mod_netOf_100 (by decide) ?_
        exact ih x2 (x4 + 1) H locs ls hj hP hD hS (lv_sub hl [1, 2, 3, 0] rfl)
      · have hj := it_p hj c_3
        refine lv_aload_n hx hb d_Mod_netOf_27 rfl (lv_at hl 0 rfl) ?_
        refine va_get (D := (dC, dI)) (ci := 8) (v := .ref (bd 9)) (C := "CardMessageDeskModel") (T := T_Mod) (N := 32) hx hb hts in_Mod hown hK hP 0 rfl rfl 22 (by decide) (hts _ tw522) (fun _ h9 => h9) rfl d_Mod_netOf_28 ?_
        refine lv_iload hx hb d_Mod_netOf_31 (lv_at hl 3 rfl) ?_
        obtain ⟨hi_4, hj⟩ := gd_some hj
        refine va_iald hx hb hK hP 9 8 rfl rfl hi_4 d_Mod_netOf_33 ?_
        refine lv_iload_n hx hb d_Mod_netOf_34 rfl (lv_at hl 1 rfl) ?_
        refine lv_icmp_ne (tgt := 97) hx hb d_Mod_netOf_35 (by decide) (fun c_5 => ?_) (fun c_5 => ?_)
        · have hj := it_n hj c_5
          refine lv_iinc (v := (x4 + 1)) (lv' := [(4, .int (x4 + 1)), (0, .ref (bd 0)), (1, .int x1), (2, .long x2)]) hx hb d_Mod_netOf_97 hl (k := 3) rfl rfl (by decide) rfl (fun ls hl => ?_)
          refine lv_goto (tgt := 5) hx hb d_Mod_netOf_100 (by decide) ?_
          exact ih x2 (x4 + 1) H locs ls hj hP hD hS (lv_sub hl [1, 2, 3, 0] rfl)
        · have hj := it_p hj c_5
          refine lv_aload_n hx hb d_Mod_netOf_38 rfl (lv_at hl 0 rfl) ?_
          refine va_get (D := (dC, dI)) (ci := 8) (v := .ref (bd 14)) (C := "CardMessageDeskModel") (T := T_Mod) (N := 32) hx hb hts in_Mod hown hK hP 0 rfl rfl 27 (by decide) (hts _ tw527) (fun _ h9 => h9) rfl d_Mod_netOf_39 ?_
          refine lv_iload hx hb d_Mod_netOf_42 (lv_at hl 3 rfl) ?_
          obtain ⟨hi_6, hj⟩ := gd_some hj
          refine va_iald hx hb hK hP 14 13 rfl rfl hi_6 d_Mod_netOf_44 ?_
          refine lv_if_ne (tgt := 97) hx hb d_Mod_netOf_45 (by decide) (fun c_7 => ?_) (fun c_7 => ?_)
          · have hj := it_n hj c_7
            refine lv_iinc (v := (x4 + 1)) (lv' := [(4, .int (x4 + 1)), (0, .ref (bd 0)), (1, .int x1), (2, .long x2)]) hx hb d_Mod_netOf_97 hl (k := 3) rfl rfl (by decide) rfl (fun ls hl => ?_)
            refine lv_goto (tgt := 5) hx hb d_Mod_netOf_100 (by decide) ?_
            exact ih x2 (x4 + 1) H locs ls hj hP hD hS (lv_sub hl [1, 2, 3, 0] rfl)
          · have hj := it_p hj c_7
            refine lv_aload_n hx hb d_Mod_netOf_48 rfl (lv_at hl 0 rfl) ?_
            refine va_get (D := (dC, dI)) (ci := 8) (v := .ref (bd 15)) (C := "CardMessageDeskModel") (T := T_Mod) (N := 32) hx hb hts in_Mod hown hK hP 0 rfl rfl 28 (by decide) (hts _ tw528) (fun _ h9 => h9) rfl d_Mod_netOf_49 ?_
            refine lv_iload hx hb d_Mod_netOf_52 (lv_at hl 3 rfl) ?_
            obtain ⟨hi_8, hj⟩ := gd_some hj
            refine va_iald hx hb hK hP 15 14 rfl rfl hi_8 d_Mod_netOf_54 ?_
            refine lv_iconst (v := 3) hx hb d_Mod_netOf_55 (by decide) ?_
            refine lv_icmp_eq (tgt := 97) hx hb d_Mod_netOf_56 (by decide) (fun c_9 => ?_) (fun c_9 => ?_)
            · have hj := it_p hj c_9
              refine lv_iinc (v := (x4 + 1)) (lv' := [(4, .int (x4 + 1)), (0, .ref (bd 0)), (1, .int x1), (2, .long x2)]) hx hb d_Mod_netOf_97 hl (k := 3) rfl rfl (by decide) rfl (fun ls hl => ?_)
              refine lv_goto (tgt := 5) hx hb d_Mod_netOf_100 (by decide) ?_
              exact ih x2 (x4 + 1) H locs ls hj hP hD hS (lv_sub hl [1, 2, 3, 0] rfl)
            · have hj := it_n hj c_9
              refine lv_aload_n hx hb d_Mod_netOf_59 rfl (lv_at hl 0 rfl) ?_
              refine va_get (D := (dC, dI)) (ci := 8) (v := .ref (bd 12)) (C := "CardMessageDeskModel") (T := T_Mod) (N := 32) hx hb hts in_Mod hown hK hP 0 rfl rfl 25 (by decide) (hts _ tw525) (fun _ h9 => h9) rfl d_Mod_netOf_60 ?_
              refine lv_iload hx hb d_Mod_netOf_63 (lv_at hl 3 rfl) ?_
              obtain ⟨hi_10, hj⟩ := gd_some hj
              refine va_iald hx hb hK hP 12 11 rfl rfl hi_10 d_Mod_netOf_65 ?_
              refine lv_sipush (v := 10000) hx hb d_Mod_netOf_66 (by decide) ?_
              refine lv_idiv hx hb d_Mod_netOf_69 (by decide +kernel) ?_
              refine lv_bipush (v := 20) hx hb d_Mod_netOf_70 (by decide) ?_
              refine lv_icmp_ne (tgt := 87) hx hb d_Mod_netOf_72 (by decide) (fun c_11 => ?_) (fun c_11 => ?_)
              · have hj := it_n hj c_11
                refine lv_lload_n hx hb d_Mod_netOf_87 rfl (lv_at hl 2 rfl) ?_
                refine lv_aload_n hx hb d_Mod_netOf_88 rfl (lv_at hl 0 rfl) ?_
                refine va_get (D := (dC, dI)) (ci := 8) (v := .ref (bd 13)) (C := "CardMessageDeskModel") (T := T_Mod) (N := 32) hx hb hts in_Mod hown hK hP 0 rfl rfl 26 (by decide) (hts _ tw526) (fun _ h9 => h9) rfl d_Mod_netOf_89 ?_
                refine lv_iload hx hb d_Mod_netOf_92 (lv_at hl 3 rfl) ?_
                obtain ⟨hi_12, hj⟩ := gd_some hj
                refine va_lald hx hb hK hP 13 12 rfl rfl hi_12 d_Mod_netOf_94 ?_
                refine lv_lsub hx hb d_Mod_netOf_95 ?_
                refine lv_lstore_n (lv' := [(2, .long (x2 - (mg_amounts d (x4).toNatClampNeg))), (0, .ref (bd 0)), (1, .int x1), (4, .int x4)]) hx hb d_Mod_netOf_96 rfl hl (by decide) rfl (fun ls hl => ?_)
                refine lv_iinc (v := (x4 + 1)) (lv' := [(4, .int (x4 + 1)), (2, .long (x2 - (mg_amounts d (x4).toNatClampNeg))), (0, .ref (bd 0)), (1, .int x1)]) hx hb d_Mod_netOf_97 hl (k := 3) rfl rfl (by decide) rfl (fun ls hl => ?_)
                refine lv_goto (tgt := 5) hx hb d_Mod_netOf_100 (by decide) ?_
                exact ih (x2 - (mg_amounts d (x4).toNatClampNeg)) (x4 + 1) H locs ls hj hP hD hS (lv_sub hl [2, 3, 1, 0] rfl)
              · have hj := it_p hj c_11
                refine lv_lload_n hx hb d_Mod_netOf_75 rfl (lv_at hl 2 rfl) ?_
                refine lv_aload_n hx hb d_Mod_netOf_76 rfl (lv_at hl 0 rfl) ?_
                refine va_get (D := (dC, dI)) (ci := 8) (v := .ref (bd 13)) (C := "CardMessageDeskModel") (T := T_Mod) (N := 32) hx hb hts in_Mod hown hK hP 0 rfl rfl 26 (by decide) (hts _ tw526) (fun _ h9 => h9) rfl d_Mod_netOf_77 ?_
                refine lv_iload hx hb d_Mod_netOf_80 (lv_at hl 3 rfl) ?_
                obtain ⟨hi_13, hj⟩ := gd_some hj
                refine va_lald hx hb hK hP 13 12 rfl rfl hi_13 d_Mod_netOf_82 ?_
                refine lv_ladd hx hb d_Mod_netOf_83 ?_
                refine lv_goto (tgt := 96) hx hb d_Mod_netOf_84 (by decide) ?_
                refine lv_lstore_n (lv' := [(2, .long (x2 + (mg_amounts d (x4).toNatClampNeg))), (0, .ref (bd 0)), (1, .int x1), (4, .int x4)]) hx hb d_Mod_netOf_96 rfl hl (by decide) rfl (fun ls hl => ?_)
                refine lv_iinc (v := (x4 + 1)) (lv' := [(4, .int (x4 + 1)), (2, .long (x2 + (mg_amounts d (x4).toNatClampNeg))), (0, .ref (bd 0)), (1, .int x1)]) hx hb d_Mod_netOf_97 hl (k := 3) rfl rfl (by decide) rfl (fun ls hl => ?_)
                refine lv_goto (tgt := 5) hx hb d_Mod_netOf_100 (by decide) ?_
                exact ih (x2 + (mg_amounts d (x4).toNatClampNeg)) (x4 + 1) H locs ls hj hP hD hS (lv_sub hl [2, 3, 1, 0] rfl)
set_option maxHeartbeats 4000000 in
set_option maxRecDepth 100000 in
theorem cm_M_netOf (l : Launch) (dC : Nat → ClassId) (dI : Nat → Nat → Nat) (bd : Nat → Nat) (cb : Nat → ClassId) (sz : Nat) (d : MS) (p1 : Int32)  (r9 : Int64) (hj : jm_M_netOf d p1 = some r9) : Met l y_Mod_netOf w_Mod_netOf ({ frames := 0, cells := 0, slots := 0, locals := 0 }) (va_Pc [.ref (bd 0), .int p1] (mPre dC dI bd cb sz d)) (va_Ql (fun (r : Int64) (u : MS) => r = r9 ∧ u = d) (mAt dC dI bd cb (va_A (mw bd cb d) sz)) (va_A (mw bd cb d) sz)) 0 0 (va_A (mw bd cb d) sz) := by
  refine Met.ofW (cc := prog_10_method_25_code) (maxL := 5) (ret := (some .long)) (by decide) rfl ?_
  intro p e s m args below meth c s₁ B hml hv
  obtain ⟨rfl, hsz, hP, hK, hD0, hN⟩ := hv
  have hx := B.exec
  have hb := B.bytes
  have hr := B.returns
  have hts0 := atoms_spec (ws := w_Mod_netOf) B.pre
  have hts : ∀ w ∈ gt, w.before _ s = true := fun w h => hts0 w (List.mem_cons_of_mem _ h)
  have hown : s.vm.findClass "CardMessageDeskModel" = some m.cls := findClass_of_methodNamed B.named
  have hlocks := B.notSynchronized
  subst hsz
  have hD := hD0.self (sz := s.heap.size)
  generalize hAe : va_A (mw bd cb d) s.heap.size = A at hD ⊢
  have hA : ∀ q : Nat, s.heap.size ≤ q → A q := fun q h => by rw [← hAe]; exact Or.inr h
  have hS : va_S A s.heap s.heap [] := va_S.rf
  have hl := lv_entry ([.ref (bd 0), .int p1]) (n := 5) (Nat.le_of_ble_eq_true rfl)
  rw [lg_entry_eq]
  generalize (lg_sl ([.ref (bd 0), .int p1]) ++ List.replicate (5 - (lg_sl ([.ref (bd 0), .int p1])).length) Slot.unset).toArray = ls at hl ⊢
  have hl : lv_has ls 5 [(0, .ref (bd 0)), (1, .int p1)] := hl
  unfold jm_M_netOf at hj
  refine lv_lconst (v := 0) hx hb d_Mod_netOf_0 (by decide) ?_
  refine lv_lstore_n (lv' := [(2, .long (0 : Int64)), (0, .ref (bd 0)), (1, .int p1)]) hx hb d_Mod_netOf_1 rfl hl (by decide) rfl (fun ls hl => ?_)
  refine lv_iconst (v := 0) hx hb d_Mod_netOf_2 (by decide) ?_
  refine lv_istore (lv' := [(4, .int (0 : Int32)), (2, .long (0 : Int64)), (0, .ref (bd 0)), (1, .int p1)]) hx hb d_Mod_netOf_3 hl (by decide) rfl (fun ls hl => ?_)
  exact cm_M_netOf_L5 d p1 _ hx hb hr hlocks hml hown hts hN hA hK 200 (0 : Int64) (0 : Int32) _ _ ls hj hP hD hS (lv_sub hl [2, 3, 1, 0] rfl)
