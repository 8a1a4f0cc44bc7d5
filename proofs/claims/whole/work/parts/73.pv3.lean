/-! reversals, settlements, the answer -/
def lsI (o : Option Nat) : Int32 := match o with | none => -1 | some j => nI j
theorem m_revloop {u : MS} {J : List CE} {nw : Nat} (h : mJo u J) (hn : mg_now u = nI nw) (hl : J.length ≤ 32) (hw : nw < 2 ^ 30) (hok : ∀ r ∈ J, rw_ok nw r) (x : Int32) :
    ∀ (m k f : Nat) (acc : Option Nat), k + m = J.length → m < f → loopF (jm_M_reverse_L13 x) f (u, lsI acc, nI k) = jm_M_reverse_L13 x (fun _ => none) (u, lsI (lx (rv (lN nw) (mg_terminal u) (mg_original u) (mg_card u)) (J.drop k) k acc), nI J.length) := by
  intro m
  induction m with
  | zero =>
    intro k f acc hk hf
    obtain ⟨g, rfl⟩ : ∃ g, f = g + 1 := ⟨f - 1, by omega⟩
    have hk2 : k = J.length := by omega
    subst hk2
    rw [List.drop_length]
    have hle : mg_entries u ≤ nI J.length := by rw [h.1]; exact nI_le (Nat.le_refl _) (by omega)
    have eK : ∀ rc rd : MS × Int32 × Int32 → Option (Int32 × MS), jm_M_reverse_L13 x rc (u, lsI acc, nI J.length) = jm_M_reverse_L13 x rd (u, lsI acc, nI J.length) := by
      intro rc rd
      unfold jm_M_reverse_L13
      try dsimp only
      rw [if_pos hle, if_pos hle]
    exact eK (loopF (jm_M_reverse_L13 x) g) _
  | succ m ih =>
    intro k f acc hk hf
    obtain ⟨g, rfl⟩ : ∃ g, f = g + 1 := ⟨f - 1, by omega⟩
    have hk2 : k < J.length := by omega
    rw [List.drop_eq_getElem_cons hk2]
    have eK : ∀ rc : MS × Int32 × Int32 → Option (Int32 × MS), jm_M_reverse_L13 x rc (u, lsI acc, nI k) = rc (u, lsI (if rv (lN nw) (mg_terminal u) (mg_original u) (mg_card u) J[k] = true then some k else acc), nI (k + 1)) := by
      intro rc
      have hle : ¬ mg_entries u ≤ nI k := by rw [h.1]; exact nI_ge hk2 (by omega)
      unfold jm_M_reverse_L13
      try dsimp only
      rw [if_neg hle, m_rev h hn hl hw hok hk2, ob_s, nI_1]
      cases c : rv (lN nw) (mg_terminal u) (mg_original u) (mg_card u) J[k] with
      | true => rfl
      | false => rfl
    have eL : loopF (jm_M_reverse_L13 x) (g + 1) (u, lsI acc, nI k) = loopF (jm_M_reverse_L13 x) g (u, lsI (if rv (lN nw) (mg_terminal u) (mg_original u) (mg_card u) J[k] = true then some k else acc), nI (k + 1)) := eK (loopF (jm_M_reverse_L13 x) g)
    rw [eL, ih (k + 1) g _ (by omega) (by omega)]
    rfl
theorem MID_rev {LA LE : List Nat} {ac ln : Nat → Nat} {nw : Nat} {q : RQ} {K : List CA} {J : List CE} {d : CS} {u : MS} (h : MID LA LE ac ln nw q K J d u) {j : Nat} (hj : j < K.length) (b : Int64) {x : Nat} (hx : x < J.length) {v : Int32} (hv : ¬ v = 1) : MID LA LE ac ln nw q (K.set j (ca_card K[j], b)) (J.set x (wst J[x] v)) (ent_set_state (acc_set_bal d (ac j) b) (ln x) v) (ms_balances (ms_marks u (upd (mg_marks u) x v)) (vp_updL (mg_balances (ms_marks u (upd (mg_marks u) x v))) j b)) := by
  have h2 := MID_bal (MID_mark h hx hv) hj b
  obtain ⟨a1, a2, a3, a4, a5, a6, a7, a8, a9, a10, a11, a12, a13, a14, a15, a16, a17⟩ := h2
  obtain ⟨h1, h2, h3, h4, h5, h6, h7, h8, h9, h10, h11, h12, h13, h14, h15, h16, h17⟩ := h
  exact ⟨a1, a2, a3, a4, k_cKd_ent_set_state (cKd_set h5 h1 hj b), cJo_set (k_cJo_acc_set_bal h6) h2 hx v, (G_jTime_ent_set_state _ _ _).trans ((G_jTime_acc_set_bal _ _ _).trans h7), a8, a9, a10, (G_setSum_ent_set_state _ _ _).trans ((G_setSum_acc_set_bal _ _ _).trans (h11.trans ((G_settled_ms_marks _ _).symm.trans (G_settled_ms_balances _ _).symm))), (G_setNow_ent_set_state _ _ _).trans ((G_setNow_acc_set_bal _ _ _).trans (h12.trans ((G_closed_ms_marks _ _).symm.trans (G_closed_ms_balances _ _).symm))), a13, rqIs_entst (rqIs_accbal h14), a15, a16, a17⟩
theorem bal_eta (u : MS) (M : Nat → Int32) : ms_balances (ms_marks u M) (mg_balances u) = ms_marks u M := rfl
def REg (KK : Int32 → Option (Int32 × MS)) (u : MS) : Option (Int32 × MS) := (jm_M_find u (mg_card u)).bind KK
theorem REg_e (u : MS) : jm_M_reverse u = REg (fun x => loopF (jm_M_reverse_L13 x) 200 (u, ((-1) : Int32), (0 : Int32))) u := rfl
theorem a_400 {LA LE : List Nat} {ac ln : Nat → Nat} {nw : Nat} {q : RQ} {K : List CA} {J : List CE} {d : CS} {u : MS} (h : MID LA LE ac ln nw q K J d u) (hl : J.length < 32) (hn : ∀ r ∈ J, sm (nI q.1) q.2.2.2.2.2.2.2.1 (nI q.2.2.2.2.2.1) r = false) (ht : q.1 = 400) :
    ANS LA LE ac nw d u ((jc_D_decide LA LE d).bind fun p => (jc_Journal_add LA LE p.2 p.1).bind fun e => some (p.1, e)) (jm_M_reverse u) := by
  have hh := h
  obtain ⟨h1, h2, h3, h4, h5, h6, h7, h8, h9, h10, h11, h12, h13, h14, h15, h16, h17⟩ := h
  obtain ⟨r1, r2, r3, r4, r5, r6, r7, r8, r9⟩ := h14
  obtain ⟨m1, m2, m3, m4, m5, m6, m7, -⟩ := h15
  have n100 : ¬ nI q.1 = 100 := by rw [ht]; decide
  have fz : ∀ (a : Nat), (0 : Int32) = if nI q.1 = 100 ∧ nI a = 0 then 1 else 0 := fun a => by rw [if_neg (fun z => n100 z.1)]
  have edec : jc_D_decide LA LE d = (jc_Cards_find LA LE d (lN q.2.2.1)).bind fun v => oq LA v (some ((14 : Int32), d)) fun a => (jc_D_reverse LA LE d a).bind fun p => some (p.1, p.2) := by
    unfold jc_D_decide
    rw [r1, ht, if_neg (by decide), r3]
    rfl
  have hle : mg_entries u ≤ nI J.length := by rw [h9.1]; exact nI_le (Nat.le_refl _) (by omega)
  have erev : ∀ x : Int32, loopF (jm_M_reverse_L13 x) 200 (u, ((-1) : Int32), (0 : Int32)) = jm_M_reverse_L13 x (fun _ => none) (u, lsI (lx (rv (lN nw) q.2.2.2.2.2.2.2.1 (nI q.2.2.2.2.2.2.2.2) (lN q.2.2.1)) J 0 none), nI J.length) := fun x => by
    have := m_revloop h9 h10 h2 h17 h3 x J.length 0 200 none (by omega) (by omega)
    rw [List.drop_zero, m6, m7, m2] at this
    exact this
  obtain ⟨KK, hKK⟩ : ∃ K : Int32 → Option (Int32 × MS), K = fun x => loopF (jm_M_reverse_L13 x) 200 (u, ((-1) : Int32), (0 : Int32)) := ⟨_, rfl⟩
  have eKK : ∀ x : Int32, KK x = jm_M_reverse_L13 x (fun _ => none) (u, lsI (lx (rv (lN nw) q.2.2.2.2.2.2.2.1 (nI q.2.2.2.2.2.2.2.2) (lN q.2.2.1)) J 0 none), nI J.length) := fun x => by rw [hKK]; exact erev x
  rw [edec, c_find h5 h1, REg_e, ← hKK]
  unfold REg
  rw [m2, m_find h8 h1, ob_s, ob_s, eKK]
  cases hk : kx K (lN q.2.2.1) with
  | none =>
    unfold jm_M_reverse_L13
    try dsimp only
    rw [if_pos hle, if_neg (by decide)]
    show ANS LA LE ac nw d u ((some ((14 : Int32), d)).bind _) _
    rw [ob_s]
    exact fin hh hl hn (a := 14) (by decide) (fz 14) rfl rfl
  | some j =>
    obtain ⟨hj, hc⟩ := kx_some hk
    have em : ∀ f : Nat → Option (Int32 × CS), oq LA (Option.map ac (some j)) (some ((14 : Int32), d)) f = f (ac j) := fun f => oq_s rfl (h5.2.1 j (by omega)).2
    have e3 := h5.2.2.2 j hj
    try dsimp only at e3
    have e4 : mg_balances u j = ca_bal K[j] := congrArg Prod.snd (h8.2 j hj)
    have hj6 : j < 6 := by omega
    rw [em]
    unfold jc_D_reverse
    rw [c_frev h6 h7 h2, ob_s, r8, r9, r3]
    unfold jm_M_reverse_L13
    try dsimp only
    rw [if_pos hle, if_pos (nI_pos' (by omega))]
    cases hx : lx (rv (lN nw) q.2.2.2.2.2.2.2.1 (nI q.2.2.2.2.2.2.2.2) (lN q.2.2.1)) J 0 none with
    | none =>
      have eq1 : ∀ (k : Option (Int32 × CS)) (f : Nat → Option (Int32 × CS)), oq LE (Option.map ln none) k f = k := fun k f => rfl
      rw [eq1, if_neg (show ¬ (0 : Int32) ≤ lsI none by decide), ob_s, ob_s]
      exact fin hh hl hn (a := 25) (by decide) (fz 25) rfl rfl
    | some x =>
      obtain ⟨hx2, hxp⟩ : ∃ hx2 : x < J.length, rv (lN nw) q.2.2.2.2.2.2.2.1 (nI q.2.2.2.2.2.2.2.2) (lN q.2.2.1) J[x] = true := by
        rcases lx_some hx with z | ⟨i, hi, z1, z2⟩
        · cases z
        · have z1 : x = i := by omega
          subst z1
          exact ⟨hi, z2⟩
      have eq1 : ∀ (k : Option (Int32 × CS)) (f : Nat → Option (Int32 × CS)), oq LE (Option.map ln (some x)) k f = f (ln x) := fun k f => oq_s rfl (h6.2.1 x (by omega)).2
      obtain ⟨y1, y2, y3, y4, y5, y6, y7, y8, y9⟩ := h9.2 x hx2
      have ee := h6.2.2.2 x hx2
      try dsimp only at ee
      have hx4 : x < 40 := by omega
      have el : lsI (some x) = nI x := rfl
      rw [eq1, c_moved, ob_s, ee, nmd_e, nmd_e, ob_s, ob_s, e3, el, if_pos (nI_pos' (by omega))]
      simp only [git hx4 (show (40 : Nat) < 2 ^ 31 by decide), git hj6 (show (6 : Nat) < 2 ^ 31 by decide)]
      rw [nI_clamp (by omega), nI_clamp (by omega), nmd_e]
      have t1 : mg_types (ms_marks u (upd (mg_marks u) x 3)) x = ce_type J[x] := by rw [G_types_ms_marks]; exact y1
      have t2 : mg_sorts (ms_marks u (upd (mg_marks u) x 3)) x / 10000 = ce_kind J[x] := by rw [G_sorts_ms_marks]; exact y5
      have t3 : mg_amounts (ms_marks u (upd (mg_marks u) x 3)) x = ce_amount J[x] := by rw [G_amounts_ms_marks]; exact y6
      have t4 : mg_balances (ms_marks u (upd (mg_marks u) x 3)) = mg_balances u := G_balances_ms_marks u _
      rw [t1, t2, t3, t4, e4]
      have hkind : (po J[x] = true ∧ ce_type J[x] = 200) ∨ (po J[x] = false ∧ ¬ ce_type J[x] = 200) := by
        unfold rv at hxp
        rw [Bool.and_eq_true, Bool.or_eq_true] at hxp
        cases cp : po J[x] with
        | true =>
          unfold po at cp
          rw [Bool.and_eq_true, Bool.and_eq_true, decide_eq_true_eq] at cp
          exact Or.inl ⟨rfl, cp.1.1⟩
        | false =>
          refine Or.inr ⟨rfl, ?_⟩
          rcases hxp.1 with z | z
          · unfold ho at z
            rw [Bool.and_eq_true, decide_eq_true_eq] at z
            rw [(h3 J[x] (List.getElem_mem hx2)).2.1 z.1]
            decide
          · rw [cp] at z
            cases z
      have mid := fun b => MID_rev hh hj b hx2 (v := 3) (by decide)
      have fi := fun b => fin (mid b) (by rw [List.length_set]; exact hl) (hn_set hn hx2 3) (a := 0) (by decide) (fz 0) (d0 := d) (u0 := u) ((cx_entst _ _ _).trans (cx_accbal _ _ _)) ((mx_bal _ _).trans (mx_marks _ _))
      rw [t4] at fi
      rcases hkind with ⟨z1, z2⟩ | ⟨z1, z2⟩
      · rw [if_pos z2]
        unfold mo
        rw [if_pos z1]
        by_cases c20 : ce_kind J[x] = 20
        · rw [if_pos c20, if_pos c20, nmd_e]
          exact fi _
        · have en : ∀ y z : Int64, y - -z = y + z := fun y z => by grind
          rw [if_neg c20, if_neg c20, nmd_e, en]
          exact fi _
      · have ez : ∀ y : Int64, y - 0 = y := fun y => by grind
        rw [if_neg z2]
        unfold mo
        rw [if_neg (by rw [z1]; decide), ez]
        have e5 : vp_updL (mg_balances u) j (ca_bal K[j]) = mg_balances u := by
          funext i
          by_cases ci : i = j
          · subst ci
            rw [pk_uLs, e4]
          · rw [pk_uLn ci]
        have f0 := fi (ca_bal K[j])
        have e6 : ms_balances (ms_marks u (upd (mg_marks u) x 3)) (vp_updL (mg_balances u) j (ca_bal K[j])) = ms_marks u (upd (mg_marks u) x 3) := by
          rw [e5, bal_eta]
        rw [e6] at f0
        exact f0
theorem mo_bd {nw : Nat} {r : CE} (h : rw_ok nw r) : -(1000000000000 : Int) ≤ (mo r).toInt ∧ (mo r).toInt ≤ 1000000000000 := by
  obtain ⟨-, -, ⟨m, hm, e⟩, -⟩ := h
  have hm : m < 1000000000000 := hm
  have e1 : (ce_amount r).toInt = (m : Int) := by rw [e]; exact pk_lT (by omega)
  unfold mo
  by_cases c : po r = true
  · rw [if_pos c]
    by_cases c2 : ce_kind r = 20
    · rw [if_pos c2, e1]
      omega
    · rw [if_neg c2, Jvm.Kit.i64_neg (by rw [e1]; omega), e1]
      omega
  · rw [if_neg c]
    have : (0 : Int64).toInt = 0 := rfl
    omega
theorem nt_bd0 {nw : Nat} {x : Int32} : ∀ (J : List CE) (s : Int64) (m : Nat), (∀ r ∈ J, rw_ok nw r) → m + J.length ≤ 32 → -((m : Int) * 1000000000000) ≤ s.toInt → s.toInt ≤ (m : Int) * 1000000000000 → (List.foldl (fun s r => if ce_term r = x then s + mo r else s) s J).toInt.natAbs ≤ 32000000000000 := by
  intro J
  induction J with
  | nil =>
    intro s m _ hl h1 h2
    have hl : m + 0 ≤ 32 := hl
    rw [List.foldl_nil]
    omega
  | cons r J ih =>
    intro s m hr hl h1 h2
    have hl : m + (J.length + 1) ≤ 32 := hl
    rw [List.foldl_cons]
    obtain ⟨b1, b2⟩ := mo_bd (hr r List.mem_cons_self)
    by_cases c : ce_term r = x
    · rw [if_pos c]
      have e := Jvm.Kit.i64_add (x := s) (y := mo r) (by omega) (by omega)
      exact ih (s + mo r) (m + 1) (fun z hz => hr z (List.mem_cons_of_mem _ hz)) (by omega) (by rw [e]; omega) (by rw [e]; omega)
    · rw [if_neg c]
      exact ih s (m + 1) (fun z hz => hr z (List.mem_cons_of_mem _ hz)) (by omega) (by omega) (by omega)
theorem nt_bd {nw : Nat} {x : Int32} {J : List CE} (h : ∀ r ∈ J, rw_ok nw r) (hl : J.length ≤ 32) : (nt x J).toInt.natAbs ≤ 32 * 10 ^ 12 := Nat.le_trans (nt_bd0 J 0 0 h (by omega) (by decide) (by decide)) (by decide)
theorem rqIs_setSum {d : CS} {v : Int64} {q : RQ} (h : rqIs d q) : rqIs (cs_setSum d v) q := h
theorem rqIs_setNow {d : CS} {v : Int64} {q : RQ} (h : rqIs d q) : rqIs (cs_setNow d v) q := h
theorem rqIs_jSize {d : CS} {v : Int32} {q : RQ} (h : rqIs d q) : rqIs (cs_jSize d v) q := h
theorem rqIs_lines {d : CS} {v : Nat → Option Nat} {q : RQ} (h : rqIs d q) : rqIs (cs_lines d v) q := h
theorem S_setNow (d : CS) (v : Int64) : cg_setNow (cs_setNow d v) = v := rfl
theorem S_setSum (d : CS) (v : Int64) : cg_setSum (cs_setSum d v) = v := rfl
theorem S_closed (u : MS) (v : Int64) : mg_closed (ms_closed u v) = v := rfl
theorem S_settled (u : MS) (v : Int64) : mg_settled (ms_settled u v) = v := rfl
theorem mrq_settled {u : MS} {v : Int64} {q : RQ} (h : mrq u q) : mrq (ms_settled u v) q := h
theorem mrq_closed {u : MS} {v : Int64} {q : RQ} (h : mrq u q) : mrq (ms_closed u v) q := h
theorem mx_settled (u : MS) (v : Int64) : mx (ms_settled u v) = mx u := rfl
theorem mx_closed (u : MS) (v : Int64) : mx (ms_closed u v) = mx u := rfl
theorem cx_lines (d : CS) (v : Nat → Option Nat) : cx (cs_lines d v) = cx d := rfl
theorem cx_setSum (d : CS) (v : Int64) : cx (cs_setSum d v) = cx d := rfl
theorem cx_setNow (d : CS) (v : Int64) : cx (cs_setNow d v) = cx d := rfl
theorem a_500 {LA LE : List Nat} {ac ln : Nat → Nat} {nw : Nat} {q : RQ} {K : List CA} {J : List CE} {d : CS} {u : MS} (h : MID LA LE ac ln nw q K J d u) (hl : J.length < 32) (hn : ∀ r ∈ J, sm (nI q.1) q.2.2.2.2.2.2.2.1 (nI q.2.2.2.2.2.1) r = false) (ht : q.1 = 500) :
    ANS LA LE ac nw d u ((jc_D_decide LA LE d).bind fun p => (jc_Journal_add LA LE p.2 p.1).bind fun e => some (p.1, e)) (jm_M_settle u) := by
  obtain ⟨h1, h2, h3, h4, h5, h6, h7, h8, h9, h10, h11, h12, h13, h14, h15, h16, h17⟩ := h
  have h14b := h14
  obtain ⟨r1, r2, r3, r4, r5, r6, r7, r8, r9⟩ := h14
  have h15b := h15
  obtain ⟨m1, m2, m3, m4, m5, m6, m7, -⟩ := h15
  obtain ⟨te, hte⟩ : ∃ te, te = q.2.2.2.2.2.2.2.1 := ⟨_, rfl⟩
  rw [← hte] at r8 m6
  have e5 : nI q.1 = 500 := by rw [ht]; rfl
  obtain ⟨d3, hd3⟩ : ∃ d3, d3 = cs_setSum (cs_setNow d (nt te J)) (cg_setSum d + nt te J) := ⟨_, rfl⟩
  have hJ3 : cJo LE ln d3 J := by rw [hd3]; exact k_cJo_cs_setSum (k_cJo_cs_setNow h6)
  have ht3 : cg_jTime d3 = lN nw := by rw [hd3, G_jTime_cs_setSum, G_jTime_cs_setNow]; exact h7
  obtain ⟨d4, f1, ln4, f2, f3⟩ := c_take (LA := LA) hJ3 ht3 h2 te
  have hfl : (J.filter (kp (lN nw) te)).length ≤ J.length := List.length_filter_le _ _
  have hq3 : rqIs d3 q := by rw [hd3]; exact rqIs_setSum (rqIs_setNow h14b)
  have hq4 : rqIs d4 q := by rw [f3]; exact rqIs_jSize (rqIs_lines hq3)
  have ht4 : cg_jTime d4 = lN nw := by rw [f3, G_jTime_cs_jSize, G_jTime_cs_lines]; exact ht3
  obtain ⟨d5, g1, g2, g3⟩ := c_jadd (LA := LA) hq4 f2 ht4 (by omega) 0
  have hs0 : (if nI q.1 = 100 ∧ (0 : Int32) = 0 then (1 : Int32) else 0) = 0 := if_neg (fun z => by rw [e5] at z; exact absurd z.1 (by decide))
  rw [hs0] at g2
  have ed : ((jc_D_decide LA LE d).bind fun p => (jc_Journal_add LA LE p.2 p.1).bind fun e => some (p.1, e)) = some (nI 0, d5) := by
    have e1 : jc_D_decide LA LE d = some (0, d4) := by
      unfold jc_D_decide jc_D_settle
      rw [r1, e5, if_pos rfl, r8, c_net h6 h2, ob_s, nmd_e, nmd_e]
      have ea : cs_setSum (cs_setNow d (nt te J)) (cg_setSum (cs_setNow d (nt te J)) + cg_setNow (cs_setNow d (nt te J))) = d3 := by rw [hd3, G_setSum_cs_setNow, S_setNow]
      have eb : cg_rqTerm d3 = te := by rw [hd3, G_rqTerm_cs_setSum, G_rqTerm_cs_setNow]; exact r8
      rw [ea, eb, f1]
      rfl
    rw [e1, ob_s]
    try dsimp only
    rw [g1]
    rfl
  obtain ⟨u3, hu3⟩ : ∃ u3, u3 = ms_settled (ms_closed u (nt te J)) (mg_settled u + nt te J) := ⟨_, rfl⟩
  have ku : mJo u3 J := by rw [hu3]; exact k_mJo_ms_settled (k_mJo_ms_closed h9)
  have kn : mg_now u3 = nI nw := by rw [hu3, G_now_ms_settled, G_now_ms_closed]; exact h10
  have kq : mrq u3 q := by rw [hu3]; exact mrq_settled (mrq_closed h15b)
  have kt : mg_terminal u3 = te := by rw [hu3, G_terminal_ms_settled, G_terminal_ms_closed]; exact m6
  obtain ⟨u4, k1, k2, k3⟩ := m_keep ku kn h2 h17 h3 kq (by rw [kt]; omega)
  rw [kt] at k2
  have kK : mKd u3 K := by rw [hu3]; exact k_mKd_ms_settled (k_mKd_ms_closed h8)
  obtain ⟨l1, l2, l3, l4, l5⟩ := mke_e k3 kK kn
  have em : jm_M_settle u = some (nI 0, u4) := by
    unfold jm_M_settle
    rw [m6, m_net h9 h2, ob_s, nmd_e, nmd_e]
    have ea : ms_settled (ms_closed u (nt te J)) (mg_settled (ms_closed u (nt te J)) + mg_closed (ms_closed u (nt te J))) = u3 := by rw [hu3, G_settled_ms_closed, S_closed]
    rw [ea, k1]
    rfl
  rw [ed, em]
  have hrow : rw_ok nw (nrow q 0 0 (lN nw)) := ⟨⟨nw, Nat.le_refl _, rfl⟩, fun z => absurd (show (0 : Int32) = 1 from z) (by decide), ⟨_, h16, rfl⟩, ⟨0, by decide, rfl⟩⟩
  refine ⟨0, d5, u4, K, J.filter (kp (lN nw) te) ++ [nrow q 0 0 (lN nw)], ln4, rfl, rfl, by decide, h1, by rw [List.length_append]; simp; omega, fun r hr => ?_, ?_, ?_, g2, ?_, l1, k2, l2, ?_, ?_, ?_, ?_, l5.trans (by rw [hu3, mx_settled, mx_closed])⟩
  · rcases List.mem_append.mp hr with z | z
    · exact h3 r (List.mem_filter.mp z).1
    · rw [List.mem_singleton.mp z]
      exact hrow
  · rw [List.pairwise_append]
    refine ⟨h4.filter _, List.pairwise_singleton _ _, fun r hr b hb => ?_⟩
    rw [List.mem_singleton.mp hb]
    intro z
    have := hn r (List.mem_filter.mp hr).1
    have z2 : sm (nI q.1) q.2.2.2.2.2.2.2.1 (nI q.2.2.2.2.2.1) r = true := sm_t.mpr ⟨z.1, z.2.1, z.2.2⟩
    rw [z2] at this
    cases this
  · rw [g3, f3, hd3]
    exact k_cKd_cs_jSize (k_cKd_cs_ent (k_cKd_cs_jSize (k_cKd_cs_lines (k_cKd_cs_setSum (k_cKd_cs_setNow h5)))))
  · rw [g3, G_jTime_cs_jSize, G_jTime_cs_ent]
    exact ht4
  · rw [l3, g3, G_setSum_cs_jSize, G_setSum_cs_ent, f3, G_setSum_cs_jSize, G_setSum_cs_lines, hd3, S_setSum, hu3, S_settled, h11]
  · rw [l4, g3, G_setNow_cs_jSize, G_setNow_cs_ent, f3, G_setNow_cs_jSize, G_setNow_cs_lines, hd3, G_setNow_cs_setSum, S_setNow, hu3, G_closed_ms_settled, S_closed]
  · rw [l4, hu3, G_closed_ms_settled, S_closed]
    exact nt_bd h3 h2
  · rw [g3, cx_jSize, cx_ent, f3, cx_jSize, cx_lines, hd3, cx_setSum, cx_setNow]
theorem s_answer {LA LE : List Nat} {ac ln : Nat → Nat} {nw : Nat} {q : RQ} {K : List CA} {J : List CE} {d : CS} {u : MS} (h : MID LA LE ac ln nw q K J d (ms_closed u 0)) (ht : q.1 < 10000) (hmp : q.2.1 < 2 ^ 64) : ANS LA LE ac nw d (ms_closed u 0) (jc_D_answerRequest LA LE d) (jm_M_answer u) := by
  have hh := h
  obtain ⟨h1, h2, h3, h4, h5, h6, h7, h8, h9, h10, h11, h12, h13, h14, h15, h16, h17⟩ := h
  obtain ⟨r1, r2, r3, r4, r5, r6, r7, r8, r9⟩ := h14
  obtain ⟨m1, m2, m3, m4, m5, m6, m7, -⟩ := h15
  have m1 : mg_type u = nI q.1 := m1
  have m5 : mg_trace u = nI q.2.2.2.2.2.1 := m5
  have m6 : mg_terminal u = q.2.2.2.2.2.2.2.1 := m6
  have k1 : mJo u J := h9
  have t1 : mg_type (ms_closed u 0) = nI q.1 := m1
  unfold jc_D_answerRequest jm_M_answer
  rw [c_same h6 h2, r1, r8, r6, m1, m5, m_same k1 h2, m6, ob_s, ob_s, nmd_e, t1]
  cases hf : fx (sm (nI q.1) q.2.2.2.2.2.2.2.1 (nI q.2.2.2.2.2.1)) J 0 with
  | some j =>
    obtain ⟨i, hi, e1, e2⟩ := fx_some hf
    have e1 : j = i := by omega
    subst e1
    obtain ⟨-, -, -, a, ha, ea⟩ := h3 J[j] (List.getElem_mem hi)
    have eq1 : ∀ (k : Option (Int32 × CS)) (f : Nat → Option (Int32 × CS)), oq LE (Option.map ln (some j)) k f = f (ln j) := fun k f => oq_s rfl (h6.2.1 j (by omega)).2
    have ee := h6.2.2.2 j hi
    try dsimp only at ee
    have e7 : mg_answers (ms_closed u 0) j = ce_answer J[j] := (h9.2 j hi).2.2.2.2.2.2.1
    rw [eq1]
    try dsimp only
    rw [if_neg (nI_pos (by omega)), git (by omega) (by decide), nI_clamp (by omega), e7, ee, ea]
    exact ⟨a, d, ms_closed u 0, K, J, ln, rfl, rfl, ha, h1, h2, h3, h4, h5, h6, h7, h8, h9, h10, h11, h12, h13, rfl, rfl⟩
  | none =>
    have hn := fx_none hf
    have eq1 : ∀ (k : Option (Int32 × CS)) (f : Nat → Option (Int32 × CS)), oq LE (Option.map ln none) k f = k := fun k f => rfl
    have q1 : nI q.1 = 100 ↔ q.1 = 100 := nI_eq (a := q.1) (b := 100) (by omega) (by decide)
    have q2 : nI q.1 = 200 ↔ q.1 = 200 := nI_eq (a := q.1) (b := 200) (by omega) (by decide)
    have q4 : nI q.1 = 400 ↔ q.1 = 400 := nI_eq (a := q.1) (b := 400) (by omega) (by decide)
    have q5 : nI q.1 = 500 ↔ q.1 = 500 := nI_eq (a := q.1) (b := 500) (by omega) (by decide)
    rw [eq1]
    try dsimp only
    rw [if_pos (show (-1 : Int32) < 0 by decide)]
    unfold jc_D_isHandled jc_D_journalLimit
    have full : ∀ c : Nat, ANS LA LE ac nw d (ms_closed u 0) (some (nI c, d)) (some (nI c, ms_closed u 0)) ∨ 100 ≤ c := fun c => by
      by_cases hc : c < 100
      · exact Or.inl ⟨c, d, ms_closed u 0, K, J, ln, rfl, rfl, hc, h1, h2, h3, h4, h5, h6, h7, h8, h9, h10, h11, h12, h13, rfl, rfl⟩
      · exact Or.inr (by omega)
    have f96 : ANS LA LE ac nw d (ms_closed u 0) (some (96, d)) (some (96, ms_closed u 0)) := (full 96).resolve_right (by decide)
    have f12 : ANS LA LE ac nw d (ms_closed u 0) (some (12, d)) (some (12, ms_closed u 0)) := (full 12).resolve_right (by decide)
    have e9 : mg_entries (ms_closed u 0) = nI J.length := h9.1
    have l24 : nI J.length < 24 ↔ J.length < 24 := nI_ltI (b := 24) (by omega) (by decide)
    have l32 : nI J.length < 32 ↔ J.length < 32 := nI_ltI (b := 32) (by omega) (by decide)
    have b71 : jm_M_answer_B71 (ms_closed u 0) = if nI q.1 = 500 then (if nI J.length < 32 then jm_M_answer_B98 (ms_closed u 0) else some (96, ms_closed u 0)) else (if nI J.length < 24 then jm_M_answer_B98 (ms_closed u 0) else some (96, ms_closed u 0)) := by
      unfold jm_M_answer_B71
      rw [t1, e9]
    have un : ∀ (o : Option (Int32 × MS)), (o.bind fun p => some (p.1, p.2)) = o := fun o => by cases o <;> rfl
    have b98 : jm_M_answer_B98 (ms_closed u 0) = if nI q.1 = 100 then jm_M_authorize (ms_closed u 0) else if nI q.1 = 200 then jm_M_pay (ms_closed u 0) else if nI q.1 = 400 then jm_M_reverse (ms_closed u 0) else jm_M_settle (ms_closed u 0) := by
      unfold jm_M_answer_B98
      rw [t1, un, un, un, un]
    rw [b71, b98, h6.1]
    by_cases c1 : q.1 = 100
    · have z5 : ¬ nI q.1 = 500 := fun z => by have := q5.mp z; omega
      rw [if_pos (q1.mpr c1), if_pos (q1.mpr c1), if_neg z5, if_neg z5, ob_s, if_neg (show ¬ (1 : Int32) = 0 by decide), ob_s, if_pos (q1.mpr c1)]
      by_cases cl : J.length < 24
      · rw [if_pos (l24.mpr cl), if_pos (l24.mpr cl)]
        exact a_100 hh (by omega) hn c1
      · rw [if_neg (fun z => cl (l24.mp z)), if_neg (fun z => cl (l24.mp z))]
        exact f96
    have z1 : ¬ nI q.1 = 100 := fun z => c1 (q1.mp z)
    rw [if_neg z1, if_neg z1]
    by_cases c2 : q.1 = 200
    · have z5 : ¬ nI q.1 = 500 := fun z => by have := q5.mp z; omega
      rw [if_pos (q2.mpr c2), if_pos (q2.mpr c2), if_neg z5, if_neg z5, ob_s, if_neg (show ¬ (1 : Int32) = 0 by decide), ob_s, if_neg z1, if_pos (q2.mpr c2)]
      by_cases cl : J.length < 24
      · rw [if_pos (l24.mpr cl), if_pos (l24.mpr cl)]
        exact a_200 hh (by omega) hn c2 hmp
      · rw [if_neg (fun z => cl (l24.mp z)), if_neg (fun z => cl (l24.mp z))]
        exact f96
    have z2 : ¬ nI q.1 = 200 := fun z => c2 (q2.mp z)
    rw [if_neg z2, if_neg z2]
    by_cases c4 : q.1 = 400
    · have z5 : ¬ nI q.1 = 500 := fun z => by have := q5.mp z; omega
      rw [if_pos (q4.mpr c4), if_pos (q4.mpr c4), if_neg z5, if_neg z5, ob_s, if_neg (show ¬ (1 : Int32) = 0 by decide), ob_s, if_neg z1, if_neg z2, if_pos (q4.mpr c4)]
      by_cases cl : J.length < 24
      · rw [if_pos (l24.mpr cl), if_pos (l24.mpr cl)]
        exact a_400 hh (by omega) hn c4
      · rw [if_neg (fun z => cl (l24.mp z)), if_neg (fun z => cl (l24.mp z))]
        exact f96
    have z4 : ¬ nI q.1 = 400 := fun z => c4 (q4.mp z)
    rw [if_neg z4, if_neg z4]
    by_cases c5 : q.1 = 500
    · rw [if_pos (q5.mpr c5), if_pos (q5.mpr c5), if_pos (q5.mpr c5), ob_s, if_neg (show ¬ (1 : Int32) = 0 by decide), if_pos (q5.mpr c5), ob_s, if_neg z1, if_neg z2, if_neg z4]
      by_cases cl : J.length < 32
      · rw [if_pos (l32.mpr cl), if_pos (l32.mpr cl)]
        exact a_500 hh cl hn c5
      · rw [if_neg (fun z => cl (l32.mp z)), if_neg (fun z => cl (l32.mp z))]
        exact f96
    have z5 : ¬ nI q.1 = 500 := fun z => c5 (q5.mp z)
    repeat rw [if_neg z5]
    rw [ob_s, if_pos (show (0 : Int32) = 0 from rfl)]
    exact f12
