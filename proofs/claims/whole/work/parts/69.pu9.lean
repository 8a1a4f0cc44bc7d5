/-! the journal's and the cards' changes -/
def wst (r : CE) (v : Int32) : CE := (r.1, r.2.1, r.2.2.1, r.2.2.2.1, r.2.2.2.2.1, r.2.2.2.2.2.1, r.2.2.2.2.2.2.1, v, r.2.2.2.2.2.2.2.2)
theorem cJo_set {LE : List Nat} {ln : Nat → Nat} {d : CS} {J : List CE} (h : cJo LE ln d J) (hl : J.length ≤ 32) {j : Nat} (hj : j < J.length) (v : Int32) : cJo LE ln (ent_set_state d (ln j) v) (J.set j (wst J[j] v)) := by
  refine ⟨?_, h.2.1, h.2.2.1, isL_set h.2.2.2 (fun i hi hne => ?_) (fun _ => ?_)⟩
  · rw [List.length_set]
    exact h.1
  · have hne2 : ln i ≠ ln j := fun q => hne (h.2.2.1 i j (by omega) (by omega) q)
    show va_up (cg_ent d) (ln j) _ (ln i) = cg_ent d (ln i)
    rw [va_up_ne _ _ hne2]
  · have e := h.2.2.2 j hj
    try dsimp only at e
    show va_up (cg_ent d) (ln j) (wst (cg_ent d (ln j)) v) (ln j) = _
    rw [va_up_self, e]
theorem mJo_set {u : MS} {J : List CE} (h : mJo u J) {j : Nat} (hj : j < J.length) (v : Int32) : mJo (ms_marks u (upd (mg_marks u) j v)) (J.set j (wst J[j] v)) := by
  refine ⟨?_, fun k hk => ?_⟩
  · rw [List.length_set]
    exact h.1
  · have hk1 : k < J.length := by rw [List.length_set] at hk; exact hk
    obtain ⟨e1, e2, e3, e4, e5, e6, e7, e8, e9⟩ := h.2 k hk1
    rw [List.getElem_set]
    by_cases c : j = k
    · subst c
      rw [if_pos rfl]
      refine ⟨e1, e2, e3, e4, e5, e6, e7, ?_, e9⟩
      show upd (mg_marks u) j v j = v
      exact pk_us
    · rw [if_neg c]
      refine ⟨e1, e2, e3, e4, e5, e6, e7, ?_, e9⟩
      show upd (mg_marks u) j v k = _
      rw [pk_un (fun q => c q.symm)]
      exact e8
theorem cKd_set {LA : List Nat} {ac : Nat → Nat} {d : CS} {K : List CA} (h : cKd LA ac d K) (hl : K.length ≤ 6) {j : Nat} (hj : j < K.length) (b : Int64) : cKd LA ac (acc_set_bal d (ac j) b) (K.set j (ca_card K[j], b)) := by
  refine ⟨?_, h.2.1, h.2.2.1, isL_set h.2.2.2 (fun i hi hne => ?_) (fun _ => ?_)⟩
  · rw [List.length_set]
    exact h.1
  · have hne2 : ac i ≠ ac j := fun q => hne (h.2.2.1 i j (by omega) (by omega) q)
    show va_up (cg_acc d) (ac j) _ (ac i) = cg_acc d (ac i)
    rw [va_up_ne _ _ hne2]
  · have e := h.2.2.2 j hj
    try dsimp only at e
    show va_up (cg_acc d) (ac j) ((cg_acc d (ac j)).1, b) (ac j) = _
    rw [va_up_self, e]
    rfl
theorem mKd_set {u : MS} {K : List CA} (h : mKd u K) {j : Nat} (hj : j < K.length) (b : Int64) : mKd (ms_balances u (vp_updL (mg_balances u) j b)) (K.set j (ca_card K[j], b)) := by
  refine ⟨?_, isL_set h.2 (fun i hi hne => ?_) (fun _ => ?_)⟩
  · rw [List.length_set]
    exact h.1
  · show (mg_cards u i, vp_updL (mg_balances u) j b i) = (mg_cards u i, mg_balances u i)
    rw [pk_uLn hne]
  · show (mg_cards u j, vp_updL (mg_balances u) j b j) = _
    rw [pk_uLs]
    have e : mg_cards u j = ca_card K[j] := congrArg Prod.fst (h.2 j hj)
    rw [e]
theorem pw_set {J : List CE} (h : J.Pairwise rw_ne) {j : Nat} (hj : j < J.length) (v : Int32) : (J.set j (wst J[j] v)).Pairwise rw_ne := by
  rw [List.pairwise_iff_getElem] at h ⊢
  intro a b ha hb hab
  have ha1 : a < J.length := by rw [List.length_set] at ha; exact ha
  have hb1 : b < J.length := by rw [List.length_set] at hb; exact hb
  have h0 := h a b ha1 hb1 hab
  rw [List.getElem_set, List.getElem_set]
  by_cases c1 : j = a
  · subst c1
    rw [if_pos rfl, if_neg (by omega)]
    exact h0
  · rw [if_neg c1]
    by_cases c2 : j = b
    · subst c2
      rw [if_pos rfl]
      exact h0
    · rw [if_neg c2]
      exact h0
theorem ok_set {J : List CE} {nw : Nat} (h : ∀ r ∈ J, rw_ok nw r) {j : Nat} (hj : j < J.length) {v : Int32} (hv : ¬ v = 1) : ∀ r ∈ J.set j (wst J[j] v), rw_ok nw r := by
  intro r hr
  rcases List.mem_or_eq_of_mem_set hr with q | q
  · exact h r q
  · rw [q]
    obtain ⟨h1, h2, h3, h4⟩ := h J[j] (List.getElem_mem hj)
    exact ⟨h1, fun z => absurd z hv, h3, h4⟩
/-- the row that a request leaves -/
def nrow (q : RQ) (a : Int32) (s : Int32) (t : Int64) : CE := (nI q.1, q.2.2.2.2.2.2.2.1, nI q.2.2.2.2.2.1, lN q.2.2.1, nI q.2.2.2.1 / 10000, lN q.2.2.2.2.1, a, s, t)
theorem c_fill {LA LE : List Nat} {d : CS} {q : RQ} (h : rqIs d q) (x : Nat) (a : Int32) (t : Int64) : jc_Entry_fill LA LE d x a t = some (cs_ent d (va_up (cg_ent d) x (nrow q a (if nI q.1 = 100 ∧ a = 0 then 1 else 0) t))) := by
  obtain ⟨h1, h2, h3, h4, h5, h6, h7, h8, h9⟩ := h
  have key : ∀ s : Int32, ent_set_made (ent_set_state (ent_set_answer (ent_set_amount (ent_set_kind (ent_set_card (ent_set_trace (ent_set_term (ent_set_type d x (nI q.1)) x q.2.2.2.2.2.2.2.1) x (nI q.2.2.2.2.2.1)) x (lN q.2.2.1)) x (nI q.2.2.2.1 / 10000)) x (lN q.2.2.2.2.1)) x a) x s) x t = cs_ent d (va_up (cg_ent d) x (nrow q a s t)) := by
    intro s
    unfold ent_set_made ent_set_state ent_set_answer ent_set_amount ent_set_kind ent_set_card ent_set_trace ent_set_term ent_set_type
    have eg : ∀ (e : CS) (f : Nat → CE), cg_ent (cs_ent e f) = f := fun _ _ => rfl
    have es : ∀ (e : CS) (f g : Nat → CE), cs_ent (cs_ent e f) g = cs_ent e g := fun _ _ _ => rfl
    simp only [eg, es, va_up_self, bx_uu]
    rfl
  have k1 : cg_rqTerm (ent_set_type d x (nI q.1)) = q.2.2.2.2.2.2.2.1 := by rw [G_rqTerm_ent_set_type]; exact h8
  have k2 : cg_rqTrace (ent_set_term (ent_set_type d x (nI q.1)) x q.2.2.2.2.2.2.2.1) = nI q.2.2.2.2.2.1 := by rw [G_rqTrace_ent_set_term, G_rqTrace_ent_set_type]; exact h6
  have k3 : cg_rqCard (ent_set_trace (ent_set_term (ent_set_type d x (nI q.1)) x q.2.2.2.2.2.2.2.1) x (nI q.2.2.2.2.2.1)) = lN q.2.2.1 := by rw [G_rqCard_ent_set_trace, G_rqCard_ent_set_term, G_rqCard_ent_set_type]; exact h3
  have k4 : jc_Request_sortKind LA LE (ent_set_card (ent_set_trace (ent_set_term (ent_set_type d x (nI q.1)) x q.2.2.2.2.2.2.2.1) x (nI q.2.2.2.2.2.1)) x (lN q.2.2.1)) = some (nI q.2.2.2.1 / 10000) := by
    unfold jc_Request_sortKind
    rw [G_rqSort_ent_set_card, G_rqSort_ent_set_trace, G_rqSort_ent_set_term, G_rqSort_ent_set_type, h4]
  have k5 : cg_rqAmount (ent_set_kind (ent_set_card (ent_set_trace (ent_set_term (ent_set_type d x (nI q.1)) x q.2.2.2.2.2.2.2.1) x (nI q.2.2.2.2.2.1)) x (lN q.2.2.1)) x (nI q.2.2.2.1 / 10000)) = lN q.2.2.2.2.1 := by rw [G_rqAmount_ent_set_kind, G_rqAmount_ent_set_card, G_rqAmount_ent_set_trace, G_rqAmount_ent_set_term, G_rqAmount_ent_set_type]; exact h5
  have k6 : ce_type (cg_ent (ent_set_answer (ent_set_amount (ent_set_kind (ent_set_card (ent_set_trace (ent_set_term (ent_set_type d x (nI q.1)) x q.2.2.2.2.2.2.2.1) x (nI q.2.2.2.2.2.1)) x (lN q.2.2.1)) x (nI q.2.2.2.1 / 10000)) x (lN q.2.2.2.2.1)) x a) x) = nI q.1 := by
    unfold ent_set_answer ent_set_amount ent_set_kind ent_set_card ent_set_trace ent_set_term ent_set_type
    have eg : ∀ (e : CS) (f : Nat → CE), cg_ent (cs_ent e f) = f := fun _ _ => rfl
    simp only [eg, va_up_self]
    rfl
  unfold jc_Entry_fill
  rw [h1, nmd_e, k1, nmd_e, k2, nmd_e, k3, nmd_e, k4, ob_s, nmd_e, k5, nmd_e, nmd_e, k6]
  by_cases c1 : nI q.1 = 100
  · rw [if_pos c1]
    by_cases c2 : a = 0
    · rw [if_pos c2, if_pos ⟨c1, c2⟩, nmd_e, nmd_e, key]
    · rw [if_neg c2, if_neg (fun z => c2 z.2), nmd_e, nmd_e, key]
  · rw [if_neg c1, if_neg (fun z => c1 z.1), nmd_e, nmd_e, key]
theorem c_jadd {LA LE : List Nat} {ln : Nat → Nat} {d : CS} {J : List CE} {q : RQ} {nw : Nat} (h : rqIs d q) (hJ : cJo LE ln d J) (ht : cg_jTime d = lN nw) (hl : J.length < 32) (a : Int32) :
    ∃ d2, jc_Journal_add LA LE d a = some d2 ∧ cJo LE ln d2 (J ++ [nrow q a (if nI q.1 = 100 ∧ a = 0 then 1 else 0) (lN nw)]) ∧ d2 = cs_jSize (cs_ent d (cg_ent d2)) (cg_jSize d2) := by
  unfold jc_Journal_add
  rw [hJ.1, if_neg (show ¬ (32 : Int32) ≤ _ from nI_ge (b := 32) hl (by decide)), git hl (by decide), nI_clamp (by omega), gq_e (hJ.2.1 _ hl).1 (hJ.2.1 _ hl).2, ht, c_fill h, ob_s, nmd_e]
  refine ⟨_, rfl, ⟨?_, hJ.2.1, hJ.2.2.1, isL_put hJ.2.2.2 (fun j hj => ?_) ?_⟩, rfl⟩
  · show cg_jSize d + 1 = _
    rw [hJ.1, nI_1, List.length_append]
    rfl
  · have hne : ln j ≠ ln J.length := fun z => by
      have := hJ.2.2.1 j J.length (by omega) hl z
      omega
    show va_up (cg_ent d) (ln J.length) _ (ln j) = cg_ent d (ln j)
    rw [va_up_ne _ _ hne]
  · show va_up (cg_ent d) (ln J.length) _ (ln J.length) = _
    rw [va_up_self]
/-- what an entry leaves alone -/
def mke (u : MS) := (mg_cards u, mg_balances u, mg_many u, mg_now u, mg_in u, mg_ins u, mg_out u, mg_outs u, mg_has u, mg_from u, mg_to u, mg_type u, mg_settled u, mg_closed u)
theorem mke_types (u : MS) (v : Nat → Int32) : mke (ms_types u v) = mke u := rfl
theorem mke_terminals (u : MS) (v : Nat → Int32) : mke (ms_terminals u v) = mke u := rfl
theorem mke_traces (u : MS) (v : Nat → Int32) : mke (ms_traces u v) = mke u := rfl
theorem mke_whose (u : MS) (v : Nat → Int64) : mke (ms_whose u v) = mke u := rfl
theorem mke_sorts (u : MS) (v : Nat → Int32) : mke (ms_sorts u v) = mke u := rfl
theorem mke_amounts (u : MS) (v : Nat → Int64) : mke (ms_amounts u v) = mke u := rfl
theorem mke_answers (u : MS) (v : Nat → Int32) : mke (ms_answers u v) = mke u := rfl
theorem mke_marks (u : MS) (v : Nat → Int32) : mke (ms_marks u v) = mke u := rfl
theorem mke_made (u : MS) (v : Nat → Int32) : mke (ms_made u v) = mke u := rfl
theorem mke_entries (u : MS) (v : Int32) : mke (ms_entries u v) = mke u := rfl
theorem E_types (u : MS) (v : Nat → Int32) : mg_types (ms_types u v) = v := rfl
theorem E_terminals (u : MS) (v : Nat → Int32) : mg_terminals (ms_terminals u v) = v := rfl
theorem E_traces (u : MS) (v : Nat → Int32) : mg_traces (ms_traces u v) = v := rfl
theorem E_whose (u : MS) (v : Nat → Int64) : mg_whose (ms_whose u v) = v := rfl
theorem E_sorts (u : MS) (v : Nat → Int32) : mg_sorts (ms_sorts u v) = v := rfl
theorem E_amounts (u : MS) (v : Nat → Int64) : mg_amounts (ms_amounts u v) = v := rfl
theorem E_answers (u : MS) (v : Nat → Int32) : mg_answers (ms_answers u v) = v := rfl
theorem E_marks (u : MS) (v : Nat → Int32) : mg_marks (ms_marks u v) = v := rfl
theorem E_made (u : MS) (v : Nat → Int32) : mg_made (ms_made u v) = v := rfl
theorem m_enter {u : MS} {J : List CE} {q : RQ} {nw : Nat} (h : mrq u q) (hJ : mJo u J) (ht : mg_now u = nI nw) (hl : J.length < 32) (a s : Int32) :
    ∃ u2, jm_M_enter u a s = some u2 ∧ mJo u2 (J ++ [nrow q a s (lN nw)]) ∧ mke u2 = mke u := by
  obtain ⟨h1, h2, h3, h4, h5, h6, h7, -⟩ := h
  have hl4 : J.length < 40 := by omega
  obtain ⟨n, hn⟩ : ∃ n, n = J.length := ⟨_, rfl⟩
  have he : mg_entries u = nI n := by rw [hn]; exact hJ.1
  have key : jm_M_enter u a s = some (ms_entries (ms_made (ms_marks (ms_answers (ms_amounts (ms_sorts (ms_whose (ms_traces (ms_terminals (ms_types u (upd (mg_types u) n (mg_type u))) (upd (mg_terminals u) n (mg_terminal u))) (upd (mg_traces u) n (mg_trace u))) (vp_updL (mg_whose u) n (mg_card u))) (upd (mg_sorts u) n (mg_sort u))) (vp_updL (mg_amounts u) n (mg_amount u))) (upd (mg_answers u) n (a))) (upd (mg_marks u) n (s))) (upd (mg_made u) n (mg_now u))) (nI n + 1)) := by
    have gn : ¬ (nI n < 0 ∨ 40 ≤ (nI n).toNatClampNeg) := nI_in (by omega) (by decide)
    have gc : (nI n).toNatClampNeg = n := nI_clamp (by omega)
    unfold jm_M_enter
    rw [he, if_pos gn, gc, nmd_e]
    rw [G_entries_ms_types, he, if_pos gn, gc, G_terminals_ms_types, G_terminal_ms_types, nmd_e]
    rw [G_entries_ms_terminals, G_entries_ms_types, he, if_pos gn, gc, G_traces_ms_terminals, G_traces_ms_types, G_trace_ms_terminals, G_trace_ms_types, nmd_e]
    rw [G_entries_ms_traces, G_entries_ms_terminals, G_entries_ms_types, he, if_pos gn, gc, G_whose_ms_traces, G_whose_ms_terminals, G_whose_ms_types, G_card_ms_traces, G_card_ms_terminals, G_card_ms_types, nmd_e]
    rw [G_entries_ms_whose, G_entries_ms_traces, G_entries_ms_terminals, G_entries_ms_types, he, if_pos gn, gc, G_sorts_ms_whose, G_sorts_ms_traces, G_sorts_ms_terminals, G_sorts_ms_types, G_sort_ms_whose, G_sort_ms_traces, G_sort_ms_terminals, G_sort_ms_types, nmd_e]
    rw [G_entries_ms_sorts, G_entries_ms_whose, G_entries_ms_traces, G_entries_ms_terminals, G_entries_ms_types, he, if_pos gn, gc, G_amounts_ms_sorts, G_amounts_ms_whose, G_amounts_ms_traces, G_amounts_ms_terminals, G_amounts_ms_types, G_amount_ms_sorts, G_amount_ms_whose, G_amount_ms_traces, G_amount_ms_terminals, G_amount_ms_types, nmd_e]
    rw [G_entries_ms_amounts, G_entries_ms_sorts, G_entries_ms_whose, G_entries_ms_traces, G_entries_ms_terminals, G_entries_ms_types, he, if_pos gn, gc, G_answers_ms_amounts, G_answers_ms_sorts, G_answers_ms_whose, G_answers_ms_traces, G_answers_ms_terminals, G_answers_ms_types, nmd_e]
    rw [G_entries_ms_answers, G_entries_ms_amounts, G_entries_ms_sorts, G_entries_ms_whose, G_entries_ms_traces, G_entries_ms_terminals, G_entries_ms_types, he, if_pos gn, gc, G_marks_ms_answers, G_marks_ms_amounts, G_marks_ms_sorts, G_marks_ms_whose, G_marks_ms_traces, G_marks_ms_terminals, G_marks_ms_types, nmd_e]
    rw [G_entries_ms_marks, G_entries_ms_answers, G_entries_ms_amounts, G_entries_ms_sorts, G_entries_ms_whose, G_entries_ms_traces, G_entries_ms_terminals, G_entries_ms_types, he, if_pos gn, gc, G_made_ms_marks, G_made_ms_answers, G_made_ms_amounts, G_made_ms_sorts, G_made_ms_whose, G_made_ms_traces, G_made_ms_terminals, G_made_ms_types, G_now_ms_marks, G_now_ms_answers, G_now_ms_amounts, G_now_ms_sorts, G_now_ms_whose, G_now_ms_traces, G_now_ms_terminals, G_now_ms_types, nmd_e]
    rw [G_entries_ms_made, G_entries_ms_marks, G_entries_ms_answers, G_entries_ms_amounts, G_entries_ms_sorts, G_entries_ms_whose, G_entries_ms_traces, G_entries_ms_terminals, G_entries_ms_types, he, nmd_e]
  refine ⟨_, key, ⟨?_, fun k hk => ?_⟩, by rw [mke_entries, mke_made, mke_marks, mke_answers, mke_amounts, mke_sorts, mke_whose, mke_traces, mke_terminals, mke_types]⟩
  · show nI n + 1 = _
    rw [hn, nI_1, List.length_append]
    rfl
  · by_cases c : k < J.length
    · obtain ⟨e1, e2, e3, e4, e5, e6, e7, e8, e9⟩ := hJ.2 k c
      have hne : k ≠ n := by omega
      rw [List.getElem_append_left c]
      refine ⟨?_, ?_, ?_, ?_, ?_, ?_, ?_, ?_, ?_⟩
      · rw [G_types_ms_entries, G_types_ms_made, G_types_ms_marks, G_types_ms_answers, G_types_ms_amounts, G_types_ms_sorts, G_types_ms_whose, G_types_ms_traces, G_types_ms_terminals, E_types, pk_un hne, e1]
      · rw [G_terminals_ms_entries, G_terminals_ms_made, G_terminals_ms_marks, G_terminals_ms_answers, G_terminals_ms_amounts, G_terminals_ms_sorts, G_terminals_ms_whose, G_terminals_ms_traces, E_terminals, pk_un hne, e2]
      · rw [G_traces_ms_entries, G_traces_ms_made, G_traces_ms_marks, G_traces_ms_answers, G_traces_ms_amounts, G_traces_ms_sorts, G_traces_ms_whose, E_traces, pk_un hne, e3]
      · rw [G_whose_ms_entries, G_whose_ms_made, G_whose_ms_marks, G_whose_ms_answers, G_whose_ms_amounts, G_whose_ms_sorts, E_whose, pk_uLn hne, e4]
      · rw [G_sorts_ms_entries, G_sorts_ms_made, G_sorts_ms_marks, G_sorts_ms_answers, G_sorts_ms_amounts, E_sorts, pk_un hne, e5]
      · rw [G_amounts_ms_entries, G_amounts_ms_made, G_amounts_ms_marks, G_amounts_ms_answers, E_amounts, pk_uLn hne, e6]
      · rw [G_answers_ms_entries, G_answers_ms_made, G_answers_ms_marks, E_answers, pk_un hne, e7]
      · rw [G_marks_ms_entries, G_marks_ms_made, E_marks, pk_un hne, e8]
      · rw [G_made_ms_entries, E_made, pk_un hne, e9]
    · have hk2 : k = n := by
        have : (J ++ [nrow q a s (lN nw)]).length = J.length + 1 := by simp
        omega
      have er : (J ++ [nrow q a s (lN nw)])[k] = nrow q a s (lN nw) := by
        rw [List.getElem_append_right (by omega)]
        simp
      rw [er, hk2]
      refine ⟨?_, ?_, ?_, ?_, ?_, ?_, ?_, ?_, ?_⟩
      · rw [G_types_ms_entries, G_types_ms_made, G_types_ms_marks, G_types_ms_answers, G_types_ms_amounts, G_types_ms_sorts, G_types_ms_whose, G_types_ms_traces, G_types_ms_terminals, E_types, pk_us, h1]
        rfl
      · rw [G_terminals_ms_entries, G_terminals_ms_made, G_terminals_ms_marks, G_terminals_ms_answers, G_terminals_ms_amounts, G_terminals_ms_sorts, G_terminals_ms_whose, G_terminals_ms_traces, E_terminals, pk_us, h6]
        rfl
      · rw [G_traces_ms_entries, G_traces_ms_made, G_traces_ms_marks, G_traces_ms_answers, G_traces_ms_amounts, G_traces_ms_sorts, G_traces_ms_whose, E_traces, pk_us, h5]
        rfl
      · rw [G_whose_ms_entries, G_whose_ms_made, G_whose_ms_marks, G_whose_ms_answers, G_whose_ms_amounts, G_whose_ms_sorts, E_whose, pk_uLs, h2]
        rfl
      · rw [G_sorts_ms_entries, G_sorts_ms_made, G_sorts_ms_marks, G_sorts_ms_answers, G_sorts_ms_amounts, E_sorts, pk_us, h3]
        rfl
      · rw [G_amounts_ms_entries, G_amounts_ms_made, G_amounts_ms_marks, G_amounts_ms_answers, E_amounts, pk_uLs, h4]
        rfl
      · rw [G_answers_ms_entries, G_answers_ms_made, G_answers_ms_marks, E_answers, pk_us]
        rfl
      · rw [G_marks_ms_entries, G_marks_ms_made, E_marks, pk_us]
        rfl
      · rw [G_made_ms_entries, E_made, pk_us, ht]
        show nI nw = (lN nw).toInt32
        rw [lN_i]
