/-! settling -/
/-- all but the journal's columns -/
def mks (u : MS) := (mg_cards u, mg_balances u, mg_many u, mg_now u, mg_in u, mg_ins u, mg_out u, mg_outs u, mg_has u, mg_from u, mg_to u, mg_type u, mg_card u, mg_sort u, mg_amount u, mg_trace u, mg_terminal u, mg_original u, mg_entries u, mg_settled u, mg_closed u)
theorem mks_types (u : MS) (v : Nat → Int32) : mks (ms_types u v) = mks u := rfl
theorem mks_terminals (u : MS) (v : Nat → Int32) : mks (ms_terminals u v) = mks u := rfl
theorem mks_traces (u : MS) (v : Nat → Int32) : mks (ms_traces u v) = mks u := rfl
theorem mks_whose (u : MS) (v : Nat → Int64) : mks (ms_whose u v) = mks u := rfl
theorem mks_sorts (u : MS) (v : Nat → Int32) : mks (ms_sorts u v) = mks u := rfl
theorem mks_amounts (u : MS) (v : Nat → Int64) : mks (ms_amounts u v) = mks u := rfl
theorem mks_answers (u : MS) (v : Nat → Int32) : mks (ms_answers u v) = mks u := rfl
theorem mks_marks (u : MS) (v : Nat → Int32) : mks (ms_marks u v) = mks u := rfl
theorem mks_made (u : MS) (v : Nat → Int32) : mks (ms_made u v) = mks u := rfl
theorem m_move {u : MS} {e c : Nat} (he : e < 40) (hc : c < 40) : ∃ u2, jm_M_move u (nI e) (nI c) = some u2 ∧ (∀ i r, i ≠ c → mrow u i r → mrow u2 i r) ∧ (∀ r, mrow u e r → mrow u2 c r) ∧ mks u2 = mks u := by
  have ee : (nI e).toNatClampNeg = e := nI_clamp (by omega)
  have ec : (nI c).toNatClampNeg = c := nI_clamp (by omega)
  unfold jm_M_move
  rw [git he (by decide), git hc (by decide), ee, ec, nmd_e]
  rw [gjt he (by decide), gjt hc (by decide), G_terminals_ms_types, nmd_e]
  rw [gjt he (by decide), gjt hc (by decide), G_traces_ms_terminals, G_traces_ms_types, nmd_e]
  rw [gjt he (by decide), gjt hc (by decide), G_whose_ms_traces, G_whose_ms_terminals, G_whose_ms_types, nmd_e]
  rw [gjt he (by decide), gjt hc (by decide), G_sorts_ms_whose, G_sorts_ms_traces, G_sorts_ms_terminals, G_sorts_ms_types, nmd_e]
  rw [gjt he (by decide), gjt hc (by decide), G_amounts_ms_sorts, G_amounts_ms_whose, G_amounts_ms_traces, G_amounts_ms_terminals, G_amounts_ms_types, nmd_e]
  rw [gjt he (by decide), gjt hc (by decide), G_answers_ms_amounts, G_answers_ms_sorts, G_answers_ms_whose, G_answers_ms_traces, G_answers_ms_terminals, G_answers_ms_types, nmd_e]
  rw [gjt he (by decide), gjt hc (by decide), G_marks_ms_answers, G_marks_ms_amounts, G_marks_ms_sorts, G_marks_ms_whose, G_marks_ms_traces, G_marks_ms_terminals, G_marks_ms_types, nmd_e]
  rw [gjt he (by decide), gjt hc (by decide), G_made_ms_marks, G_made_ms_answers, G_made_ms_amounts, G_made_ms_sorts, G_made_ms_whose, G_made_ms_traces, G_made_ms_terminals, G_made_ms_types, nmd_e]
  refine ⟨_, rfl, fun i r hi h => ?_, fun r h => ?_, by rw [mks_made, mks_marks, mks_answers, mks_amounts, mks_sorts, mks_whose, mks_traces, mks_terminals, mks_types]⟩
  · obtain ⟨e1, e2, e3, e4, e5, e6, e7, e8, e9⟩ := h
    refine ⟨?_, ?_, ?_, ?_, ?_, ?_, ?_, ?_, ?_⟩
    · rw [G_types_ms_made, G_types_ms_marks, G_types_ms_answers, G_types_ms_amounts, G_types_ms_sorts, G_types_ms_whose, G_types_ms_traces, G_types_ms_terminals, E_types, pk_un hi, e1]
    · rw [G_terminals_ms_made, G_terminals_ms_marks, G_terminals_ms_answers, G_terminals_ms_amounts, G_terminals_ms_sorts, G_terminals_ms_whose, G_terminals_ms_traces, E_terminals, pk_un hi, e2]
    · rw [G_traces_ms_made, G_traces_ms_marks, G_traces_ms_answers, G_traces_ms_amounts, G_traces_ms_sorts, G_traces_ms_whose, E_traces, pk_un hi, e3]
    · rw [G_whose_ms_made, G_whose_ms_marks, G_whose_ms_answers, G_whose_ms_amounts, G_whose_ms_sorts, E_whose, pk_uLn hi, e4]
    · rw [G_sorts_ms_made, G_sorts_ms_marks, G_sorts_ms_answers, G_sorts_ms_amounts, E_sorts, pk_un hi, e5]
    · rw [G_amounts_ms_made, G_amounts_ms_marks, G_amounts_ms_answers, E_amounts, pk_uLn hi, e6]
    · rw [G_answers_ms_made, G_answers_ms_marks, E_answers, pk_un hi, e7]
    · rw [G_marks_ms_made, E_marks, pk_un hi, e8]
    · rw [E_made, pk_un hi, e9]
  · obtain ⟨e1, e2, e3, e4, e5, e6, e7, e8, e9⟩ := h
    refine ⟨?_, ?_, ?_, ?_, ?_, ?_, ?_, ?_, ?_⟩
    · rw [G_types_ms_made, G_types_ms_marks, G_types_ms_answers, G_types_ms_amounts, G_types_ms_sorts, G_types_ms_whose, G_types_ms_traces, G_types_ms_terminals, E_types, pk_us, e1]
    · rw [G_terminals_ms_made, G_terminals_ms_marks, G_terminals_ms_answers, G_terminals_ms_amounts, G_terminals_ms_sorts, G_terminals_ms_whose, G_terminals_ms_traces, E_terminals, pk_us, e2]
    · rw [G_traces_ms_made, G_traces_ms_marks, G_traces_ms_answers, G_traces_ms_amounts, G_traces_ms_sorts, G_traces_ms_whose, E_traces, pk_us, e3]
    · rw [G_whose_ms_made, G_whose_ms_marks, G_whose_ms_answers, G_whose_ms_amounts, G_whose_ms_sorts, E_whose, pk_uLs, e4]
    · rw [G_sorts_ms_made, G_sorts_ms_marks, G_sorts_ms_answers, G_sorts_ms_amounts, E_sorts, pk_us, e5]
    · rw [G_amounts_ms_made, G_amounts_ms_marks, G_amounts_ms_answers, E_amounts, pk_uLs, e6]
    · rw [G_answers_ms_made, G_answers_ms_marks, E_answers, pk_us, e7]
    · rw [G_marks_ms_made, E_marks, pk_us, e8]
    · rw [E_made, pk_us, e9]
def kp (t : Int64) (te : Int32) (r : CE) : Bool := !decide (ce_term r = te) || ho t r
theorem flt_s {J : List CE} {p : CE → Bool} {k : Nat} (h : k < J.length) : (J.take (k + 1)).filter p = (J.take k).filter p ++ (if p J[k] = true then [J[k]] else []) := by
  rw [List.take_succ_eq_append_getElem h, List.filter_append]
  congr 1
  by_cases c : p J[k] = true
  · rw [if_pos c, List.filter_cons_of_pos c]
    rfl
  · rw [if_neg c, List.filter_cons_of_neg c]
    rfl
theorem flt_le {J : List CE} {p : CE → Bool} {k : Nat} : ((J.take k).filter p).length ≤ k := Nat.le_trans (List.length_filter_le _ _) (by rw [List.length_take]; omega)
theorem ll_ll (d : CS) (A B : Nat → Option Nat) : cs_lines (cs_lines d A) B = cs_lines d B := rfl
theorem ll_g (d : CS) (A : Nat → Option Nat) : cg_lines (cs_lines d A) = A := rfl
theorem c_take_step {LA LE : List Nat} {ln2 : Nat → Nat} {d : CS} {J : List CE} {nw k m : Nat} {te : Int32} (ez : cg_jSize d = nI J.length) (et : cg_jTime d = lN nw) (hk : k < J.length) (hl : J.length ≤ 32) (hm : m ≤ k) (h4 : ∀ i, i < 32 → cg_lines d i = some (ln2 i) ∧ ln2 i ∈ LE) (er : cg_ent d (ln2 k) = J[k]) (rc : CS × Int32 × Int32 → Option CS) :
    jc_Journal_takeOut_L4 LA LE te rc (d, nI m, nI k) = if kp (lN nw) te J[k] = true then rc (cs_lines d (va_up (va_up (cg_lines d) k (some (ln2 m))) m (some (ln2 k))), nI (m + 1), nI (k + 1)) else rc (d, nI m, nI (k + 1)) := by
  have hk3 : k < 32 := by omega
  have hm3 : m < 32 := by omega
  unfold jc_Journal_takeOut_L4
  simp only [git hk3 (show (32 : Nat) < 2 ^ 31 by decide), git hm3 (show (32 : Nat) < 2 ^ 31 by decide), nmd_e]
  rw [ez, if_neg (nI_ge hk (by omega)), nI_clamp (show k < 2 ^ 31 by omega), nI_clamp (show m < 2 ^ 31 by omega), gq_e (h4 k hk3).1 (h4 k hk3).2, gq_e (h4 m hm3).1 (h4 m hm3).2, er, c_hold, ob_s, et, er, ll_g, ll_ll, nI_1, nI_1]
  unfold kp
  by_cases c1 : ce_term J[k] = te
  · rw [if_pos c1, decide_eq_true c1]
    cases c2 : ho (lN nw) J[k] with
    | true => rfl
    | false => rfl
  · rw [if_neg c1, decide_eq_false c1]
    rfl
theorem c_take_end {LA LE : List Nat} {d : CS} {n : Nat} {x te : Int32} (ez : cg_jSize d = nI n) (hn : n ≤ 32) (rc : CS × Int32 × Int32 → Option CS) : jc_Journal_takeOut_L4 LA LE te rc (d, x, nI n) = some (cs_jSize d x) := by
  unfold jc_Journal_takeOut_L4
  simp only [nmd_e]
  rw [ez, if_pos (nI_le (Nat.le_refl _) (by omega))]
theorem jl_2 (d : CS) (A : Nat → Option Nat) (x : Int32) : cg_lines (cs_jSize (cs_lines d A) x) = A := rfl
theorem jl_3 (d : CS) (x : Int32) : cg_jSize (cs_jSize d x) = x := rfl
theorem c_take {LA LE : List Nat} {ln : Nat → Nat} {d0 : CS} {J : List CE} {nw : Nat} (h : cJo LE ln d0 J) (ht : cg_jTime d0 = lN nw) (hl : J.length ≤ 32) (te : Int32) :
    ∃ d2, jc_Journal_takeOut LA LE d0 te = some d2 ∧ ∃ ln2, cJo LE ln2 d2 (J.filter (kp (lN nw) te)) ∧ d2 = cs_jSize (cs_lines d0 (cg_lines d2)) (cg_jSize d2) := by
  have key : ∀ (n k m f : Nat) (F : Nat → Option Nat) (ln2 : Nat → Nat), k + n = J.length → n < f → m = ((J.take k).filter (kp (lN nw) te)).length → (∀ i, i < 32 → F i = some (ln2 i) ∧ ln2 i ∈ LE) → (∀ i j, i < 32 → j < 32 → ln2 i = ln2 j → i = j) → isL (fun i => cg_ent d0 (ln2 i)) ((J.take k).filter (kp (lN nw) te)) → (∀ i, k ≤ i → i < 32 → ln2 i = ln i) →
      ∃ (F2 : Nat → Option Nat) (ln3 : Nat → Nat), loopF (jc_Journal_takeOut_L4 LA LE te) f (cs_lines d0 F, nI m, nI k) = some (cs_jSize (cs_lines d0 F2) (nI (J.filter (kp (lN nw) te)).length)) ∧ (∀ i, i < 32 → F2 i = some (ln3 i) ∧ ln3 i ∈ LE) ∧ (∀ i j, i < 32 → j < 32 → ln3 i = ln3 j → i = j) ∧ isL (fun i => cg_ent d0 (ln3 i)) (J.filter (kp (lN nw) te)) := by
    intro n
    induction n with
    | zero =>
      intro k m f F ln2 hk hf hm h4 h5 h6 h7
      obtain ⟨g, rfl⟩ : ∃ g, f = g + 1 := ⟨f - 1, by omega⟩
      have hk2 : k = J.length := by omega
      subst hk2
      rw [List.take_length] at hm h6
      subst hm
      have ez : cg_jSize (cs_lines d0 F) = nI J.length := (G_jSize_cs_lines d0 F).trans h.1
      exact ⟨F, ln2, c_take_end ez hl _, h4, h5, h6⟩
    | succ n ih =>
      intro k m f F ln2 hk hf hm h4 h5 h6 h7
      obtain ⟨g, rfl⟩ : ∃ g, f = g + 1 := ⟨f - 1, by omega⟩
      have hk2 : k < J.length := by omega
      have hk3 : k < 32 := by omega
      have hmk : m ≤ k := by rw [hm]; exact flt_le
      have ez : cg_jSize (cs_lines d0 F) = nI J.length := (G_jSize_cs_lines d0 F).trans h.1
      have et : cg_jTime (cs_lines d0 F) = lN nw := (G_jTime_cs_lines d0 F).trans ht
      have e4 : ∀ i, i < 32 → cg_lines (cs_lines d0 F) i = some (ln2 i) ∧ ln2 i ∈ LE := fun i hi => by rw [ll_g]; exact h4 i hi
      have ek : ln2 k = ln k := h7 k (Nat.le_refl _) hk3
      have er0 : cg_ent d0 (ln2 k) = J[k] := by
        rw [ek]
        exact h.2.2.2 k hk2
      have er : cg_ent (cs_lines d0 F) (ln2 k) = J[k] := by rw [G_ent_cs_lines]; exact er0
      have eL : loopF (jc_Journal_takeOut_L4 LA LE te) (g + 1) (cs_lines d0 F, nI m, nI k) = if kp (lN nw) te J[k] = true then loopF (jc_Journal_takeOut_L4 LA LE te) g (cs_lines (cs_lines d0 F) (va_up (va_up (cg_lines (cs_lines d0 F)) k (some (ln2 m))) m (some (ln2 k))), nI (m + 1), nI (k + 1)) else loopF (jc_Journal_takeOut_L4 LA LE te) g (cs_lines d0 F, nI m, nI (k + 1)) := c_take_step ez et hk2 hl hmk e4 er _
      rw [eL, ll_g, ll_ll]
      by_cases c : kp (lN nw) te J[k] = true
      · have e1 : (J.take (k + 1)).filter (kp (lN nw) te) = (J.take k).filter (kp (lN nw) te) ++ [J[k]] := by rw [flt_s hk2, if_pos c]
        rw [if_pos c]
        refine ih (k + 1) (m + 1) g _ (fun i => ln2 (if i = m then k else if i = k then m else i)) (by omega) (by omega) ?_ (fun i hi => ?_) (fun i j hi hj q => ?_) ?_ (fun i h1 h2 => ?_)
        · rw [e1, List.length_append, ← hm]
          rfl
        · by_cases c1 : i = m
          · subst c1
            rw [va_up_self]
            simp only [if_true]
            exact ⟨trivial, (h4 k hk3).2⟩
          · rw [va_up_ne _ _ c1]
            simp only [c1, if_false]
            by_cases c2 : i = k
            · subst c2
              rw [va_up_self]
              simp only [if_true]
              exact ⟨trivial, (h4 m (by omega)).2⟩
            · rw [va_up_ne _ _ c2]
              simp only [c2, if_false]
              exact h4 i hi
        · have q2 := h5 _ _ (by split; omega; split <;> omega) (by split; omega; split <;> omega) q
          split at q2 <;> split at q2 <;> (try split at q2) <;> (try split at q2) <;> omega
        · rw [e1]
          refine isL_put h6 (fun j hj => ?_) ?_
          · have c1 : ¬ j = m := by omega
            have c2 : ¬ j = k := by omega
            simp only [c1, c2, if_false]
          · rw [← hm]
            simp only [if_true]
            exact er0
        · have c1 : ¬ i = m := by omega
          have c2 : ¬ i = k := by omega
          simp only [c1, c2, if_false]
          exact h7 i (by omega) h2
      · have e1 : (J.take (k + 1)).filter (kp (lN nw) te) = (J.take k).filter (kp (lN nw) te) := by rw [flt_s hk2, if_neg c, List.append_nil]
        rw [if_neg c]
        exact ih (k + 1) m g F ln2 (by omega) (by omega) (by rw [e1]; exact hm) h4 h5 (by rw [e1]; exact h6) (fun i h1 h2 => h7 i (by omega) h2)
  have e0 : cs_lines d0 (cg_lines d0) = d0 := rfl
  obtain ⟨F2, ln3, k1, k2, k3, k4⟩ := key J.length 0 0 200 (cg_lines d0) ln (by omega) (by omega) rfl h.2.1 h.2.2.1 isL_nil (fun _ _ _ => rfl)
  rw [e0] at k1
  refine ⟨_, k1, ln3, ⟨jl_3 _ _, fun i hi => ?_, k3, ?_⟩, ?_⟩
  · rw [jl_2]
    exact k2 i hi
  · intro i hi
    have e9 : cg_ent (cs_jSize (cs_lines d0 F2) (nI (J.filter (kp (lN nw) te)).length)) = cg_ent d0 := by rw [G_ent_cs_jSize, G_ent_cs_lines]
    rw [e9]
    exact k4 i hi
  · rw [jl_2, jl_3]
theorem mrq_k {u w : MS} {q : RQ} (e : mks w = mks u) (h : mrq u q) : mrq w q := by
  unfold mks at e
  simp only [Prod.mk.injEq] at e
  obtain ⟨a1, a2, a3, a4, a5, a6, a7, a8, a9, a10, a11, a12, a13, a14, a15, a16, a17, a18, a19, a20, a21⟩ := e
  unfold mrq at h ⊢
  rw [a9, a10, a11, a12, a13, a14, a15, a16, a17, a18]
  exact h
theorem mrq_ent {u : MS} {v : Int32} {q : RQ} (h : mrq u q) : mrq (ms_entries u v) q := h
theorem now_ent (u : MS) (v : Int32) : mg_now (ms_entries u v) = mg_now u := rfl
theorem mJo_ent {u : MS} {L : List CE} (h : ∀ (i : Nat) (hi : i < L.length), mrow u i L[i]) : mJo (ms_entries u (nI L.length)) L := ⟨rfl, h⟩
theorem hold_of {u : MS} {nw k : Nat} {r : CE} (hr : mrow u k r) (hn : mg_now u = nI nw) (hw : nw < 2 ^ 30) (hok : rw_ok nw r) (hk : k < 40) : jm_M_isHold u (nI k) = some (if ho (lN nw) r = true then 1 else 0) := by
  obtain ⟨e1, e2, e3, e4, e5, e6, e7, e8, e9⟩ := hr
  obtain ⟨⟨m, hm, em⟩, -⟩ := hok
  have c2 : (50 : Int32) ≤ nI (nw - m) ↔ (50 : Int64) ≤ lN (nw - m) := (nI_leI (a := 50) (by decide) (by omega)).trans (lN_le (a := 50) (by decide) (by omega)).symm
  unfold jm_M_isHold ho
  rw [git hk (by decide), git hk (by decide), nI_clamp (by omega), e8, e9, hn, em, lN_i, pk_sub hm, lN_sub hm]
  by_cases c1 : ce_state r = 1
  · rw [if_pos c1, decide_eq_true c1]
    by_cases c3 : (50 : Int64) ≤ lN (nw - m)
    · rw [if_pos (c2.mpr c3), decide_eq_true c3]
      rfl
    · rw [if_neg (fun q => c3 (c2.mp q)), decide_eq_false c3]
      rfl
  · rw [if_neg c1, decide_eq_false c1]
    rfl
theorem m_keep_step {u : MS} {nw k m n : Nat} {r : CE} (he : mg_entries u = nI n) (hkn : k < n) (hn : n ≤ 32) (hr : mrow u k r) (ht : mg_now u = nI nw) (hw : nw < 2 ^ 30) (hok : rw_ok nw r) (rc : MS × Int32 × Int32 → Option (Int32 × MS)) :
    jm_M_settle_L29 rc (u, nI m, nI k) = if kp (lN nw) (mg_terminal u) r = true then (jm_M_move u (nI k) (nI m)).bind fun e => rc (e, nI (m + 1), nI (k + 1)) else rc (u, nI m, nI (k + 1)) := by
  have hk4 : k < 40 := by omega
  unfold jm_M_settle_L29
  simp only [git hk4 (show (40 : Nat) < 2 ^ 31 by decide), nmd_e]
  rw [he, if_neg (nI_ge hkn (by omega)), nI_clamp (by omega), hr.2.1, hold_of hr ht hw hok hk4, ob_s, nI_1, nI_1]
  unfold kp
  by_cases c1 : ce_term r = mg_terminal u
  · rw [if_pos c1, decide_eq_true c1]
    cases c2 : ho (lN nw) r with
    | true => rfl
    | false => rfl
  · rw [if_neg c1, decide_eq_false c1]
    rfl
theorem m_keep_end {u : MS} {n : Nat} {x : Int32} (he : mg_entries u = nI n) (hn : n ≤ 32) (rc : MS × Int32 × Int32 → Option (Int32 × MS)) : jm_M_settle_L29 rc (u, x, nI n) = (jm_M_enter (ms_entries u x) 0 0).bind fun e => some (0, e) := by
  unfold jm_M_settle_L29
  simp only [nmd_e]
  rw [he, if_pos (nI_le (Nat.le_refl _) (by omega))]
theorem m_keep {u0 : MS} {J : List CE} {q : RQ} {nw : Nat} (h : mJo u0 J) (hn : mg_now u0 = nI nw) (hl : J.length ≤ 32) (hw : nw < 2 ^ 30) (hok : ∀ r ∈ J, rw_ok nw r) (hq : mrq u0 q) (hf : (J.filter (kp (lN nw) (mg_terminal u0))).length < 32) :
    ∃ u2, loopF jm_M_settle_L29 200 (u0, 0, 0) = some (0, u2) ∧ mJo u2 (J.filter (kp (lN nw) (mg_terminal u0)) ++ [nrow q 0 0 (lN nw)]) ∧ mke u2 = mke u0 := by
  obtain ⟨te, hte⟩ : ∃ te, te = mg_terminal u0 := ⟨_, rfl⟩
  rw [← hte] at hf ⊢
  have key : ∀ (n k m f : Nat) (u : MS), k + n = J.length → n < f → m = ((J.take k).filter (kp (lN nw) te)).length → mks u = mks u0 → (∀ (i : Nat) (hi : i < ((J.take k).filter (kp (lN nw) te)).length), mrow u i ((J.take k).filter (kp (lN nw) te))[i]) → (∀ (i : Nat) (hi : i < J.length), k ≤ i → mrow u i J[i]) →
      ∃ u2, loopF jm_M_settle_L29 f (u, nI m, nI k) = some (0, u2) ∧ mJo u2 (J.filter (kp (lN nw) te) ++ [nrow q 0 0 (lN nw)]) ∧ mke u2 = mke u0 := by
    intro n
    induction n with
    | zero =>
      intro k m f u hk hfu hm h3 h4 h5
      obtain ⟨g, rfl⟩ : ∃ g, f = g + 1 := ⟨f - 1, by omega⟩
      have hk2 : k = J.length := by omega
      subst hk2
      rw [List.take_length] at hm h4
      subst hm
      have h3b := h3
      unfold mks at h3b
      simp only [Prod.mk.injEq] at h3b
      obtain ⟨a1, a2, a3, a4, a5, a6, a7, a8, a9, a10, a11, a12, a13, a14, a15, a16, a17, a18, a19, a20, a21⟩ := h3b
      have he : mg_entries u = nI J.length := a19.trans h.1
      obtain ⟨u2, e1, e2, e3⟩ := m_enter (mrq_ent (v := nI (J.filter (kp (lN nw) te)).length) (mrq_k h3 hq)) (mJo_ent h4) ((now_ent u _).trans (a4.trans hn)) hf 0 0
      refine ⟨u2, ?_, e2, ?_⟩
      · have eL : loopF jm_M_settle_L29 (g + 1) (u, nI (J.filter (kp (lN nw) te)).length, nI J.length) = (jm_M_enter (ms_entries u (nI (J.filter (kp (lN nw) te)).length)) 0 0).bind fun e => some (0, e) := m_keep_end he hl _
        rw [eL, e1, ob_s]
      · rw [e3, mke_entries]
        unfold mke
        rw [a1, a2, a3, a4, a5, a6, a7, a8, a9, a10, a11, a12, a20, a21]
    | succ n ih =>
      intro k m f u hk hfu hm h3 h4 h5
      obtain ⟨g, rfl⟩ : ∃ g, f = g + 1 := ⟨f - 1, by omega⟩
      have hk2 : k < J.length := by omega
      have hmk : m ≤ k := by rw [hm]; exact flt_le
      have h3b := h3
      unfold mks at h3b
      simp only [Prod.mk.injEq] at h3b
      obtain ⟨a1, a2, a3, a4, a5, a6, a7, a8, a9, a10, a11, a12, a13, a14, a15, a16, a17, a18, a19, a20, a21⟩ := h3b
      have he : mg_entries u = nI J.length := a19.trans h.1
      have hrow := h5 k hk2 (Nat.le_refl _)
      have eL : loopF jm_M_settle_L29 (g + 1) (u, nI m, nI k) = if kp (lN nw) (mg_terminal u) J[k] = true then (jm_M_move u (nI k) (nI m)).bind fun e => loopF jm_M_settle_L29 g (e, nI (m + 1), nI (k + 1)) else loopF jm_M_settle_L29 g (u, nI m, nI (k + 1)) := m_keep_step he hk2 hl hrow (a4.trans hn) hw (hok _ (List.getElem_mem hk2)) _
      rw [eL, a17, ← hte]
      by_cases c : kp (lN nw) te J[k] = true
      · have e1 : (J.take (k + 1)).filter (kp (lN nw) te) = (J.take k).filter (kp (lN nw) te) ++ [J[k]] := by rw [flt_s hk2, if_pos c]
        obtain ⟨u2, f1, f2, f3, f4⟩ := m_move (u := u) (e := k) (c := m) (by omega) (by omega)
        rw [if_pos c, f1, ob_s]
        refine ih (k + 1) (m + 1) g u2 (by omega) (by omega) ?_ (f4.trans h3) ?_ (fun i hi h1 => f2 i _ (by omega) (h5 i hi (by omega)))
        · rw [e1, List.length_append, ← hm]
          rfl
        · rw [e1]
          intro i hi
          by_cases ci : i < ((J.take k).filter (kp (lN nw) te)).length
          · rw [List.getElem_append_left ci]
            exact f2 i _ (by omega) (h4 i ci)
          · have hi2 : i = m := by
              rw [List.length_append] at hi
              simp at hi
              omega
            have eg : ((J.take k).filter (kp (lN nw) te) ++ [J[k]])[i] = J[k] := by
              rw [List.getElem_append_right (by omega)]
              simp
            rw [eg, hi2]
            exact f3 _ hrow
      · have e1 : (J.take (k + 1)).filter (kp (lN nw) te) = (J.take k).filter (kp (lN nw) te) := by rw [flt_s hk2, if_neg c, List.append_nil]
        rw [if_neg c]
        exact ih (k + 1) m g u (by omega) (by omega) (by rw [e1]; exact hm) h3 (by rw [e1]; exact h4) (fun i hi h1 => h5 i hi (by omega))
  exact key J.length 0 0 200 u0 (by omega) (by omega) rfl rfl (fun i hi => absurd hi (Nat.not_lt_zero i)) (fun i hi _ => h.2 i hi)
