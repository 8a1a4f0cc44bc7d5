/-! settling -/
/-- all but the journal's columns -/
def mks (u : MS) := (mg_cards u, mg_balances u, mg_many u, mg_now u, mg_in u, mg_ins u, mg_out u, mg_outs u, mg_has u, mg_from u, mg_to u, mg_type u, mg_card u, mg_sort u, mg_amount u, mg_trace u, mg_terminal u, mg_original u, mg_entries u, mg_settled u, mg_closed u)
theorem mks_types (u : MS) (v : Nat → Int32) : mks (ms_types u v) = mks u := rfl
theorem mks_terminals (u : MS) (v : Nat → Int32) : mks (ms_terminals u v) = mks u := rfl
theorem mks_traces (u : MS) (v : Nat → Int32) : mks (ms_traces u v) = mks u := rfl
theorem mks_whose (u : MS) (v : Nat → Int64) : mks (ms_whose u v) = mks u := rfl
theorem mks_sorts (u : MS) (v : Nat → Int32) : mks (ms_sorts u v) = mks u := rfl
theorem mks_amounts (u : MS) (v : Nat → Int64) : mks (ms_amounts u v) = mks u := rfl
theorem mks_answers (u : MS) (v : Nat → Int32) : mks (ms_answers u v) = mks u := rfl
theorem mks_marks (u : MS) (v : Nat → Int32) : mks (ms_marks u v) = mks u := rfl
theorem mks_made (u : MS) (v : Nat → Int32) : mks (ms_made u v) = mks u := rfl
theorem m_move {u : MS} {e c : Nat} (he : e < 40) (hc : c < 40) : ∃ u2, jm_M_move u (nI e) (nI c) = some u2 ∧ (∀ i r, i ≠ c → mrow u i r → mrow u2 i r) ∧ (∀ r, mrow u e r → mrow u2 c r) ∧ mks u2 = mks u := by
  have ee : (nI e).toNatClampNeg = e := nI_clamp (by omega)
  have ec : (nI c).toNatClampNeg = c := nI_clamp (by omega)
  unfold jm_M_move
  rw [git he (by decide), git hc (by decide), ee, ec, nmd_e]
  rw [gjt he (by decide), gjt hc (by decide), G_terminals_ms_types, nmd_e]
  rw [gjt he (by decide), gjt hc (by decide), G_traces_ms_terminals, G_traces_ms_types, nmd_e]
  rw [gjt he (by decide), gjt hc (by decide), G_whose_ms_traces, G_whose_ms_terminals, G_whose_ms_types, nmd_e]
  rw [gjt he (by decide), gjt hc (by decide), G_sorts_ms_whose, G_sorts_ms_traces, G_sorts_ms_terminals, G_sorts_ms_types, nmd_e]
  rw [gjt he (by decide), gjt hc (by decide), G_amounts_ms_sorts, G_amounts_ms_whose, G_amounts_ms_traces, G_amounts_ms_terminals, G_amounts_ms_types, nmd_e]
  rw [gjt he (by decide), gjt hc (by decide), G_answers_ms_amounts, G_answers_ms_sorts, G_answers_ms_whose, G_answers_ms_traces, G_answers_ms_terminals, G_answers_ms_types, nmd_e]
  rw [gjt he (by decide), gjt hc (by decide), G_marks_ms_answers, G_marks_ms_amounts, G_marks_ms_sorts, G_marks_ms_whose, G_marks_ms_traces, G_marks_ms_terminals, G_marks_ms_types, nmd_e]
  rw [gjt he (by decide), gjt hc (by decide), G_made_ms_marks, G_made_ms_answers, G_made_ms_amounts, G_made_ms_sorts, G_made_ms_whose, G_made_ms_traces, G_made_ms_terminals, G_made_ms_types, nmd_e]
  refine ⟨_, rfl, fun i r hi h => ?_, fun r h => ?_, by rw [mks_made, mks_marks, mks_answers, mks_amounts, mks_sorts, mks_whose, mks_traces, mks_terminals, mks_types]⟩
  · obtain ⟨e1, e2, e3, e4, e5, e6, e7, e8, e9⟩ := h
    refine ⟨?_, ?_, ?_, ?_, ?_, ?_, ?_, ?_, ?_⟩
    · rw [G_types_ms_made, G_types_ms_marks, G_types_ms_answers, G_types_ms_amounts, G_types_ms_sorts, G_types_ms_whose, G_types_ms_traces, G_types_ms_terminals, E_types, pk_un hi, e1]
    · rw [G_terminals_ms_made, G_terminals_ms_marks, G_terminals_ms_answers, G_terminals_ms_amounts, G_terminals_ms_sorts, G_terminals_ms_whose, G_terminals_ms_traces, E_terminals, pk_un hi, e2]
    · rw [G_traces_ms_made, G_traces_ms_marks, G_traces_ms_answers, G_traces_ms_amounts, G_traces_ms_sorts, G_traces_ms_whose, E_traces, pk_un hi, e3]
    · rw [G_whose_ms_made, G_whose_ms_marks, G_whose_ms_answers, G_whose_ms_amounts, G_whose_ms_sorts, E_whose, pk_uLn hi, e4]
    · rw [G_sorts_ms_made, G_sorts_ms_marks, G_sorts_ms_answers, G_sorts_ms_amounts, E_sorts, pk_un hi, e5]
    · rw [G_amounts_ms_made, G_amounts_ms_marks, G_amounts_ms_answers, E_amounts, pk_uLn hi, e6]
    · rw [G_answers_ms_made, G_answers_ms_marks, E_answers, pk_un hi, e7]
    · rw [G_marks_ms_made, E_marks, pk_un hi, e8]
    · rw [E_made, pk_un hi, e9]
  · obtain ⟨e1, e2, e3, e4, e5, e6, e7, e8, e9⟩ := h
    refine ⟨?_, ?_, ?_, ?_, ?_, ?_, ?_, ?_, ?_⟩
    · rw [G_types_ms_made, G_types_ms_marks, G_types_ms_answers, G_types_ms_amounts, G_types_ms_sorts, G_types_ms_whose, G_types_ms_traces, G_types_ms_terminals, E_types, pk_us, e1]
    · rw [G_terminals_ms_made, G_terminals_ms_marks, G_terminals_ms_answers, G_terminals_ms_amounts, G_terminals_ms_sorts, G_terminals_ms_whose, G_terminals_ms_traces, E_terminals, pk_us, e2]
    · rw [G_traces_ms_made, G_traces_ms_marks, G_traces_ms_answers, G_traces_ms_amounts, G_traces_ms_sorts, G_traces_ms_whose, E_traces, pk_us, e3]
    · rw [G_whose_ms_made, G_whose_ms_marks, G_whose_ms_answers, G_whose_ms_amounts, G_whose_ms_sorts, E_whose, pk_uLs, e4]
    · rw [G_sorts_ms_made, G_sorts_ms_marks, G_sorts_ms_answers, G_sorts_ms_amounts, E_sorts, pk_us, e5]
    · rw [G_amounts_ms_made, G_amounts_ms_marks, G_amounts_ms_answers, E_amounts, pk_uLs, e6]
    · rw [G_answers_ms_made, G_answers_ms_marks, E_answers, pk_us, e7]
    · rw [G_marks_ms_made, E_marks, pk_us, e8]
    · rw [E_made, pk_us, e9]
def kp (t : Int64) (te : Int32) (r : CE) : Bool := !decide (ce_term r = te) || ho t r
theorem flt_s {J : List CE} {p : CE → Bool} {k : Nat} (h : k < J.length) : (J.take (k + 1)).filter p = (J.take k).filter p ++ (if p J[k] = true then [J[k]] else []) := by
  rw [List.take_succ_eq_append_getElem h, List.filter_append]
  congr 1
  by_cases c : p J[k] = true
  · rw [if_pos c, List.filter_cons_of_pos c]
    rfl
  · rw [if_neg c, List.filter_cons_of_neg c]
    rfl
theorem flt_le {J : List CE} {p : CE → Bool} {k : Nat} : ((J.take k).filter p).length ≤ k := Nat.le_trans (List.length_filter_le _ _) (by rw [List.length_take]; omega)
theorem c_take {LA LE : List Nat} {ln : Nat → Nat} {d0 : CS} {J : List CE} {nw : Nat} (h : cJo LE ln d0 J) (ht : cg_jTime d0 = lN nw) (hl : J.length ≤ 32) (te : Int32) :
    ∃ d2, jc_Journal_takeOut LA LE d0 te = some d2 ∧ ∃ ln2, cJo LE ln2 d2 (J.filter (kp (lN nw) te)) ∧ d2 = cs_jSize (cs_lines d0 (cg_lines d2)) (cg_jSize d2) := by
  unfold jc_Journal_takeOut
  have key := loop_run (F := jc_Journal_takeOut_L4 LA LE te) J.length
    (fun k s => s.2.2 = nI k ∧ s.2.1 = nI ((J.take k).filter (kp (lN nw) te)).length ∧ s.1 = cs_lines d0 (cg_lines s.1) ∧ ∃ ln2 : Nat → Nat, (∀ i, i < 32 → cg_lines s.1 i = some (ln2 i) ∧ ln2 i ∈ LE) ∧ (∀ i j, i < 32 → j < 32 → ln2 i = ln2 j → i = j) ∧ isL (fun i => cg_ent d0 (ln2 i)) ((J.take k).filter (kp (lN nw) te)) ∧ ∀ i, k ≤ i → i < 32 → ln2 i = ln i)
    (fun d2 => ∃ ln2, cJo LE ln2 d2 (J.filter (kp (lN nw) te)) ∧ d2 = cs_jSize (cs_lines d0 (cg_lines d2)) (cg_jSize d2))
    (fun rc s hI => by
      obtain ⟨d, c, k⟩ := s
      obtain ⟨h1, h2, h3, ln2, h4, h5, h6, h7⟩ := hI
      try dsimp only at h1 h2 h3 h4 h5 h6 h7
      subst h1 h2
      have ez : cg_jSize d = nI J.length := by rw [h3]; exact h.1
      rw [List.take_length] at h6 ⊢
      refine ⟨cs_jSize d (nI (J.filter (kp (lN nw) te)).length), ?_, ln2, ⟨rfl, h4, h5, ?_⟩, ?_⟩
      · unfold jc_Journal_takeOut_L4
        try dsimp only
        rw [ez, if_pos (nI_le (Nat.le_refl _) (by omega)), nmd_e]
      · intro i hi
        have := h6 i hi
        have eE : cg_ent (cs_jSize d (nI (J.filter (kp (lN nw) te)).length)) = cg_ent d0 := by
          show cg_ent d = cg_ent d0
          rw [h3]
          rfl
        try dsimp only
        rw [eE]
        exact this
      · show cs_jSize d _ = cs_jSize (cs_lines d0 (cg_lines d)) _
        rw [← h3]
        rfl)
    (fun rc k s hk hI => by
      obtain ⟨d, c, k2⟩ := s
      obtain ⟨h1, h2, h3, ln2, h4, h5, h6, h7⟩ := hI
      try dsimp only at h1 h2 h3 h4 h5 h6 h7
      subst h1 h2
      obtain ⟨m, hm⟩ : ∃ m, m = ((J.take k).filter (kp (lN nw) te)).length := ⟨_, rfl⟩
      have hmk : m ≤ k := by rw [hm]; exact flt_le
      have hk3 : k < 32 := by omega
      have ez : cg_jSize d = nI J.length := by rw [h3]; exact h.1
      have et : cg_jTime d = lN nw := by rw [h3]; exact ht
      have eE : cg_ent d = cg_ent d0 := by rw [h3]; rfl
      have ek : ln2 k = ln k := h7 k (Nat.le_refl _) hk3
      have er : cg_ent d (ln2 k) = J[k] := by
        rw [eE, ek]
        exact h.2.2.2 k hk
      rw [← hm] at *
      have swap : kp (lN nw) te J[k] = true → ∃ s', (s'.2.2 = nI (k + 1) ∧ s'.2.1 = nI ((J.take (k + 1)).filter (kp (lN nw) te)).length ∧ s'.1 = cs_lines d0 (cg_lines s'.1) ∧ ∃ ln2 : Nat → Nat, (∀ i, i < 32 → cg_lines s'.1 i = some (ln2 i) ∧ ln2 i ∈ LE) ∧ (∀ i j, i < 32 → j < 32 → ln2 i = ln2 j → i = j) ∧ isL (fun i => cg_ent d0 (ln2 i)) ((J.take (k + 1)).filter (kp (lN nw) te)) ∧ ∀ i, k + 1 ≤ i → i < 32 → ln2 i = ln i) ∧ (if ¬ (nI m < 0 ∨ 32 ≤ (nI m).toNatClampNeg) then gq LE (cg_lines d (nI m).toNatClampNeg) (fun a => if ¬ (nI k < 0 ∨ 32 ≤ (nI k).toNatClampNeg) then nmd (cs_lines d (va_up (cg_lines d) (nI k).toNatClampNeg (some a))) fun e => if ¬ (nI m < 0 ∨ 32 ≤ (nI m).toNatClampNeg) then nmd (cs_lines e (va_up (cg_lines e) (nI m).toNatClampNeg (some (ln2 k)))) fun e => rc (e, nI m + 1, nI k + 1) else none else none) else none) = rc s' := by
        intro hkp
        have e1 : (J.take (k + 1)).filter (kp (lN nw) te) = (J.take k).filter (kp (lN nw) te) ++ [J[k]] := by rw [flt_s hk, if_pos hkp]
        rw [git (by omega) (by decide), nI_clamp (by omega), gq_e (h4 m (by omega)).1 (h4 m (by omega)).2, git hk3 (by decide), nI_clamp (by omega), nmd_e, git (by omega) (by decide), nmd_e]
        refine ⟨_, ⟨?_, ?_, ?_, fun i => ln2 (if i = m then k else if i = k then m else i), fun i hi => ?_, fun i j hi hj q => ?_, ?_, fun i hi1 hi2 => ?_⟩, rfl⟩
        · exact nI_1 k
        · show nI m + 1 = _
          rw [nI_1, e1, List.length_append, ← hm]
          rfl
        · show cs_lines (cs_lines d _) _ = cs_lines d0 _
          rw [h3]
          rfl
        · show va_up (va_up (cg_lines d) k (some (ln2 m))) m (some (ln2 k)) i = some (ln2 (if i = m then k else if i = k then m else i)) ∧ ln2 (if i = m then k else if i = k then m else i) ∈ LE
          by_cases c1 : i = m
          · subst c1
            rw [va_up_self, if_pos rfl]
            exact ⟨rfl, (h4 k hk3).2⟩
          · rw [va_up_ne _ _ c1, if_neg c1]
            by_cases c2 : i = k
            · subst c2
              rw [va_up_self, if_pos rfl]
              exact ⟨rfl, (h4 m (by omega)).2⟩
            · rw [va_up_ne _ _ c2, if_neg c2]
              exact h4 i hi
        · have q2 := h5 _ _ (by split; omega; split <;> omega) (by split; omega; split <;> omega) q
          split at q2 <;> split at q2 <;> (try split at q2) <;> (try split at q2) <;> omega
        · rw [e1]
          refine isL_put h6 (fun j hj => ?_) ?_
          · have c1 : ¬ j = m := by omega
            have c2 : ¬ j = k := by omega
            try dsimp only
            rw [if_neg c1, if_neg c2]
          · dsimp only
            rw [← hm, if_pos rfl, ← eE, er]
        · dsimp only
          rw [if_neg (by omega), if_neg (by omega)]
          exact h7 i (by omega) hi2
      refine Or.inr ?_
      unfold jc_Journal_takeOut_L4
      try dsimp only
      rw [ez, if_neg (nI_ge hk (by omega))]
      have eL : ∀ (f : Nat → Option CS), (if ¬ (nI k < 0 ∨ 32 ≤ (nI k).toNatClampNeg) then gq LE (cg_lines d (nI k).toNatClampNeg) f else none) = f (ln2 k) := fun f => by rw [git hk3 (by decide), nI_clamp (by omega), gq_e (h4 k hk3).1 (h4 k hk3).2]
      rw [eL, er]
      by_cases c1 : ce_term J[k] = te
      · rw [if_pos c1, c_hold, ob_s, et, er]
        cases c2 : ho (lN nw) J[k] with
        | true =>
          have hkp : kp (lN nw) te J[k] = true := by unfold kp; rw [c2, Bool.or_true]
          rw [if_pos rfl, if_neg (show ¬ (1 : Int32) = 0 by decide)]
          exact swap hkp
        | false =>
          have hkp : ¬ kp (lN nw) te J[k] = true := by unfold kp; rw [c2, decide_eq_true c1]; decide
          have e1 : (J.take (k + 1)).filter (kp (lN nw) te) = (J.take k).filter (kp (lN nw) te) := by rw [flt_s hk, if_neg hkp, List.append_nil]
          rw [if_neg (show ¬ false = true by decide), if_pos rfl]
          refine ⟨_, ⟨nI_1 k, ?_, h3, ln2, h4, h5, ?_, fun i h1 h2 => h7 i (by omega) h2⟩, rfl⟩
          · show nI m = _
            rw [e1, ← hm]
          · rw [e1]
            exact h6
      · have hkp : kp (lN nw) te J[k] = true := by unfold kp; rw [decide_eq_false c1]; rfl
        rw [if_neg c1]
        exact swap hkp)
    J.length 0 200 (d0, 0, 0) (by omega) (by omega) ⟨rfl, rfl, rfl, ln, h.2.1, h.2.2.1, isL_nil, fun i _ _ => rfl⟩
  obtain ⟨r, e1, ln2, e2, e3⟩ := key
  exact ⟨r, e1, ln2, e2, e3⟩
theorem mrq_k {u w : MS} {q : RQ} (e : mks w = mks u) (h : mrq u q) : mrq w q := by
  unfold mks at e
  simp only [Prod.mk.injEq] at e
  obtain ⟨a1, a2, a3, a4, a5, a6, a7, a8, a9, a10, a11, a12, a13, a14, a15, a16, a17, a18, a19, a20, a21⟩ := e
  unfold mrq at h ⊢
  rw [a9, a10, a11, a12, a13, a14, a15, a16, a17, a18]
  exact h
theorem m_keep {u0 : MS} {J : List CE} {q : RQ} {nw : Nat} (h : mJo u0 J) (hn : mg_now u0 = nI nw) (hl : J.length ≤ 32) (hw : nw < 2 ^ 30) (hok : ∀ r ∈ J, rw_ok nw r) (hq : mrq u0 q) (hf : (J.filter (kp (lN nw) (mg_terminal u0))).length < 32) :
    ∃ u2, loopF jm_M_settle_L29 200 (u0, 0, 0) = some (0, u2) ∧ mJo u2 (J.filter (kp (lN nw) (mg_terminal u0)) ++ [nrow q 0 0 (lN nw)]) ∧ mke u2 = mke u0 := by
  have key := loop_run (F := jm_M_settle_L29) J.length
    (fun k s => s.2.2 = nI k ∧ s.2.1 = nI ((J.take k).filter (kp (lN nw) (mg_terminal u0))).length ∧ mks s.1 = mks u0 ∧ (∀ (i : Nat) (hi : i < ((J.take k).filter (kp (lN nw) (mg_terminal u0))).length), mrow s.1 i ((J.take k).filter (kp (lN nw) (mg_terminal u0)))[i]) ∧ ∀ (i : Nat) (hi : i < J.length), k ≤ i → mrow s.1 i J[i])
    (fun r => ∃ u2, r = ((0 : Int32), u2) ∧ mJo u2 (J.filter (kp (lN nw) (mg_terminal u0)) ++ [nrow q 0 0 (lN nw)]) ∧ mke u2 = mke u0)
    (fun rc s hI => by
      obtain ⟨u, c, k⟩ := s
      obtain ⟨h1, h2, h3, h4, h5⟩ := hI
      try dsimp only at h1 h2 h3 h4 h5
      subst h1 h2
      rw [List.take_length] at h4 ⊢
      have h3b := h3
      unfold mks at h3b
      simp only [Prod.mk.injEq] at h3b
      obtain ⟨a1, a2, a3, a4, a5, a6, a7, a8, a9, a10, a11, a12, a13, a14, a15, a16, a17, a18, a19, a20, a21⟩ := h3b
      have hq2 : mrq (ms_entries u (nI (J.filter (kp (lN nw) (mg_terminal u0))).length)) q := mrq_k h3 hq
      have hJ2 : mJo (ms_entries u (nI (J.filter (kp (lN nw) (mg_terminal u0))).length)) (J.filter (kp (lN nw) (mg_terminal u0))) := ⟨rfl, h4⟩
      obtain ⟨u2, e1, e2, e3⟩ := m_enter hq2 hJ2 (show mg_now u = nI nw by rw [a4]; exact hn) hf 0 0
      refine ⟨(0, u2), ?_, u2, rfl, e2, ?_⟩
      · unfold jm_M_settle_L29
        try dsimp only
        rw [a19, h.1, if_pos (nI_le (Nat.le_refl _) (by omega)), nmd_e, e1, ob_s]
      · rw [e3]
        show mke u = mke u0
        unfold mke
        rw [a1, a2, a3, a4, a5, a6, a7, a8, a9, a10, a11, a12, a20, a21])
    (fun rc k s hk hI => by
      obtain ⟨u, c, k2⟩ := s
      obtain ⟨h1, h2, h3, h4, h5⟩ := hI
      try dsimp only at h1 h2 h3 h4 h5
      subst h1 h2
      have h3b := h3
      unfold mks at h3b
      simp only [Prod.mk.injEq] at h3b
      obtain ⟨a1, a2, a3, a4, a5, a6, a7, a8, a9, a10, a11, a12, a13, a14, a15, a16, a17, a18, a19, a20, a21⟩ := h3b
      have hmk : ((J.take k).filter (kp (lN nw) (mg_terminal u0))).length ≤ k := flt_le
      have hrow := h5 k hk (Nat.le_refl _)
      obtain ⟨e1, e2, e3, e4, e5, e6, e7, e8, e9⟩ := hrow
      have ehold : jm_M_isHold u (nI k) = some (if ho (lN nw) J[k] = true then 1 else 0) := by
        obtain ⟨⟨m, hm, em⟩, -⟩ := hok J[k] (List.getElem_mem hk)
        have c2 : (50 : Int32) ≤ nI (nw - m) ↔ (50 : Int64) ≤ lN (nw - m) := (nI_leI (a := 50) (by decide) (by omega)).trans (lN_le (a := 50) (by decide) (by omega)).symm
        unfold jm_M_isHold ho
        rw [git (by omega) (by decide), git (by omega) (by decide), nI_clamp (by omega), e8, e9, a4, hn, em, lN_i, pk_sub hm, lN_sub hm]
        by_cases c1 : ce_state J[k] = 1
        · rw [if_pos c1, decide_eq_true c1]
          by_cases c3 : (50 : Int64) ≤ lN (nw - m)
          · rw [if_pos (c2.mpr c3), decide_eq_true c3]
            rfl
          · rw [if_neg (fun q => c3 (c2.mp q)), decide_eq_false c3]
            rfl
        · rw [if_neg c1, decide_eq_false c1]
          rfl
      have mv : kp (lN nw) (mg_terminal u0) J[k] = true → ∃ s', (s'.2.2 = nI (k + 1) ∧ s'.2.1 = nI ((J.take (k + 1)).filter (kp (lN nw) (mg_terminal u0))).length ∧ mks s'.1 = mks u0 ∧ (∀ (i : Nat) (hi : i < ((J.take (k + 1)).filter (kp (lN nw) (mg_terminal u0))).length), mrow s'.1 i ((J.take (k + 1)).filter (kp (lN nw) (mg_terminal u0)))[i]) ∧ ∀ (i : Nat) (hi : i < J.length), k + 1 ≤ i → mrow s'.1 i J[i]) ∧ ((jm_M_move u (nI k) (nI ((J.take k).filter (kp (lN nw) (mg_terminal u0))).length)).bind fun e => rc (e, nI ((J.take k).filter (kp (lN nw) (mg_terminal u0))).length + 1, nI k + 1)) = rc s' := by
        intro hkp
        obtain ⟨u2, f1, f2, f3, f4⟩ := m_move (u := u) (e := k) (c := ((J.take k).filter (kp (lN nw) (mg_terminal u0))).length) (by omega) (by omega)
        have eq1 : (J.take (k + 1)).filter (kp (lN nw) (mg_terminal u0)) = (J.take k).filter (kp (lN nw) (mg_terminal u0)) ++ [J[k]] := by rw [flt_s hk, if_pos hkp]
        rw [f1, ob_s]
        refine ⟨_, ⟨nI_1 k, ?_, f4.trans h3, ?_, fun i hi h1 => f2 i _ (by omega) (h5 i hi (by omega))⟩, rfl⟩
        · show nI _ + 1 = _
          rw [nI_1, eq1, List.length_append]
          rfl
        · rw [eq1]
          intro i hi
          by_cases c : i < ((J.take k).filter (kp (lN nw) (mg_terminal u0))).length
          · rw [List.getElem_append_left c]
            exact f2 i _ (by omega) (h4 i c)
          · have hi2 : i = ((J.take k).filter (kp (lN nw) (mg_terminal u0))).length := by
              rw [List.length_append] at hi
              simp at hi
              omega
            have eg : ((J.take k).filter (kp (lN nw) (mg_terminal u0)) ++ [J[k]])[i] = J[k] := by
              rw [List.getElem_append_right (by omega)]
              simp
            rw [eg, hi2]
            exact f3 _ (h5 k hk (Nat.le_refl _))
      refine Or.inr ?_
      unfold jm_M_settle_L29
      try dsimp only
      rw [a19, h.1, if_neg (nI_ge hk (by omega)), git (by omega) (by decide), nI_clamp (by omega), e2, a17, ehold]
      by_cases c1 : ce_term J[k] = mg_terminal u0
      · rw [if_pos c1, ob_s]
        cases c2 : ho (lN nw) J[k] with
        | true =>
          have hkp : kp (lN nw) (mg_terminal u0) J[k] = true := by unfold kp; rw [c2, Bool.or_true]
          rw [if_pos rfl, if_neg (show ¬ (1 : Int32) = 0 by decide)]
          exact mv hkp
        | false =>
          have hkp : ¬ kp (lN nw) (mg_terminal u0) J[k] = true := by unfold kp; rw [c2, decide_eq_true c1]; decide
          have eq1 : (J.take (k + 1)).filter (kp (lN nw) (mg_terminal u0)) = (J.take k).filter (kp (lN nw) (mg_terminal u0)) := by rw [flt_s hk, if_neg hkp, List.append_nil]
          rw [if_neg (show ¬ false = true by decide), if_pos rfl]
          refine ⟨_, ⟨nI_1 k, ?_, h3, ?_, fun i hi h1 => h5 i hi (by omega)⟩, rfl⟩
          · show nI _ = _
            rw [eq1]
          · rw [eq1]
            exact h4
      · have hkp : kp (lN nw) (mg_terminal u0) J[k] = true := by unfold kp; rw [decide_eq_false c1]; rfl
        rw [if_neg c1]
        exact mv hkp)
    J.length 0 200 (u0, 0, 0) (by omega) (by omega) ⟨rfl, rfl, rfl, fun i hi => absurd hi (Nat.not_lt_zero i), fun i hi _ => h.2 i hi⟩
  obtain ⟨r, e1, u2, e2, e3, e4⟩ := key
  exact ⟨u2, by rw [e1, e2], e3, e4⟩
