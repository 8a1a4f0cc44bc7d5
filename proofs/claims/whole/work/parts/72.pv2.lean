/-! answering a request -/
def cx (d : CS) := (cg_inSize d, cg_inB d, cg_outSize d, cg_outB d, cg_rqType d, cg_rqMap d, cg_rqStart d)
def mx (u : MS) := (mg_in u, mg_ins u, mg_out u, mg_outs u, mg_has u, mg_from u, mg_to u, mg_type u)
theorem cx_jSize (d : CS) (v : Int32) : cx (cs_jSize d v) = cx d := rfl
theorem cx_ent (d : CS) (v : Nat → CE) : cx (cs_ent d v) = cx d := rfl
theorem cx_accbal (d : CS) (a : Nat) (v : Int64) : cx (acc_set_bal d a v) = cx d := rfl
theorem cx_entst (d : CS) (a : Nat) (v : Int32) : cx (ent_set_state d a v) = cx d := rfl
theorem mx_bal (u : MS) (f : Nat → Int64) : mx (ms_balances u f) = mx u := rfl
theorem mx_marks (u : MS) (f : Nat → Int32) : mx (ms_marks u f) = mx u := rfl
theorem rqIs_accbal {d : CS} {a : Nat} {v : Int64} {q : RQ} (h : rqIs d q) : rqIs (acc_set_bal d a v) q := h
theorem rqIs_entst {d : CS} {a : Nat} {v : Int32} {q : RQ} (h : rqIs d q) : rqIs (ent_set_state d a v) q := h
theorem mrq_bal {u : MS} {f : Nat → Int64} {q : RQ} (h : mrq u q) : mrq (ms_balances u f) q := h
theorem mrq_marks {u : MS} {f : Nat → Int32} {q : RQ} (h : mrq u q) : mrq (ms_marks u f) q := h
/-- both answer alike, and stand for the same again -/
def ANS (LA LE : List Nat) (ac : Nat → Nat) (nw : Nat) (d : CS) (u : MS) (x : Option (Int32 × CS)) (y : Option (Int32 × MS)) : Prop := ∃ (a : Nat) (d2 : CS) (u2 : MS) (K : List CA) (J : List CE) (ln : Nat → Nat), x = some (nI a, d2) ∧ y = some (nI a, u2) ∧ a < 100 ∧ K.length ≤ 6 ∧ J.length ≤ 32 ∧ (∀ r ∈ J, rw_ok nw r) ∧ J.Pairwise rw_ne ∧ cKd LA ac d2 K ∧ cJo LE ln d2 J ∧ cg_jTime d2 = lN nw ∧ mKd u2 K ∧ mJo u2 J ∧ mg_now u2 = nI nw ∧ cg_setSum d2 = mg_settled u2 ∧ cg_setNow d2 = mg_closed u2 ∧ (mg_closed u2).toInt.natAbs ≤ 32 * 10 ^ 12 ∧ cx d2 = cx d ∧ mx u2 = mx u
/-- the two states stand for the same, a request in hand -/
def MID (LA LE : List Nat) (ac ln : Nat → Nat) (nw : Nat) (q : RQ) (K : List CA) (J : List CE) (d : CS) (u : MS) : Prop := K.length ≤ 6 ∧ J.length ≤ 32 ∧ (∀ r ∈ J, rw_ok nw r) ∧ J.Pairwise rw_ne ∧ cKd LA ac d K ∧ cJo LE ln d J ∧ cg_jTime d = lN nw ∧ mKd u K ∧ mJo u J ∧ mg_now u = nI nw ∧ cg_setSum d = mg_settled u ∧ cg_setNow d = mg_closed u ∧ (mg_closed u).toInt.natAbs ≤ 32 * 10 ^ 12 ∧ rqIs d q ∧ mrq u q ∧ q.2.2.2.2.1 < 10 ^ 12 ∧ nw < 2 ^ 30
theorem mke_e {u w : MS} {K : List CA} {nw : Nat} (e : mke w = mke u) (hK : mKd u K) (hn : mg_now u = nI nw) : mKd w K ∧ mg_now w = nI nw ∧ mg_settled w = mg_settled u ∧ mg_closed w = mg_closed u ∧ mx w = mx u := by
  unfold mke at e
  simp only [Prod.mk.injEq] at e
  obtain ⟨a1, a2, a3, a4, a5, a6, a7, a8, a9, a10, a11, a12, a13, a14⟩ := e
  refine ⟨?_, by rw [a4]; exact hn, a13, a14, ?_⟩
  · unfold mKd at hK ⊢
    rw [a1, a2, a3]
    exact hK
  · unfold mx
    rw [a5, a6, a7, a8, a9, a10, a11, a12]
theorem fin {LA LE : List Nat} {ac ln : Nat → Nat} {nw : Nat} {q : RQ} {K : List CA} {J : List CE} {d d0 : CS} {u u0 : MS} (h : MID LA LE ac ln nw q K J d u) (hl : J.length < 32) (hn : ∀ r ∈ J, sm (nI q.1) q.2.2.2.2.2.2.2.1 (nI q.2.2.2.2.2.1) r = false) {a : Nat} (ha : a < 100) {s : Int32} (hs : s = if nI q.1 = 100 ∧ nI a = 0 then 1 else 0) (hc : cx d = cx d0) (hm : mx u = mx u0) :
    ANS LA LE ac nw d0 u0 ((jc_Journal_add LA LE d (nI a)).bind fun e => some (nI a, e)) ((jm_M_enter u (nI a) s).bind fun e => some (nI a, e)) := by
  obtain ⟨h1, h2, h3, h4, h5, h6, h7, h8, h9, h10, h11, h12, h13, h14, h15, h16, h17⟩ := h
  obtain ⟨d2, e1, e2, e3⟩ := c_jadd (LA := LA) h14 h6 h7 hl (nI a)
  obtain ⟨u2, f1, f2, f3⟩ := m_enter h15 h9 h10 hl (nI a) s
  obtain ⟨g1, g2, g3, g4, g5⟩ := mke_e f3 h8 h10
  rw [← hs] at e2
  have hrow : rw_ok nw (nrow q (nI a) s (lN nw)) := ⟨⟨nw, Nat.le_refl _, rfl⟩, fun z => by
    have z : s = 1 := z
    rw [hs] at z
    by_cases c : nI q.1 = 100 ∧ nI a = 0
    · exact c.1
    · rw [if_neg c] at z
      exact absurd z (by decide), ⟨_, h16, rfl⟩, ⟨a, ha, rfl⟩⟩
  refine ⟨a, d2, u2, K, J ++ [nrow q (nI a) s (lN nw)], ln, by rw [e1]; rfl, by rw [f1]; rfl, ha, h1, by rw [List.length_append]; simp; omega, fun r hr => ?_, ?_, ?_, e2, ?_, g1, f2, g2, ?_, ?_, by rw [g4]; exact h13, ?_, g5.trans hm⟩
  · rcases List.mem_append.mp hr with z | z
    · exact h3 r z
    · rw [List.mem_singleton.mp z]
      exact hrow
  · rw [List.pairwise_append]
    refine ⟨h4, List.pairwise_singleton _ _, fun r hr b hb => ?_⟩
    rw [List.mem_singleton.mp hb]
    intro z
    have := hn r hr
    have z2 : sm (nI q.1) q.2.2.2.2.2.2.2.1 (nI q.2.2.2.2.2.1) r = true := sm_t.mpr ⟨z.1, z.2.1, z.2.2⟩
    rw [z2] at this
    cases this
  · rw [e3]
    exact k_cKd_cs_jSize (k_cKd_cs_ent h5)
  · rw [e3, G_jTime_cs_jSize, G_jTime_cs_ent]
    exact h7
  · rw [e3, G_setSum_cs_jSize, G_setSum_cs_ent, g3]
    exact h11
  · rw [e3, G_setNow_cs_jSize, G_setNow_cs_ent, g4]
    exact h12
  · rw [e3, cx_jSize, cx_ent]
    exact hc
theorem m_available {u : MS} {K : List CA} {J : List CE} {nw : Nat} (hK : mKd u K) (hk : K.length ≤ 6) (h : mJo u J) (hn : mg_now u = nI nw) (hl : J.length ≤ 32) (hw : nw < 2 ^ 30) (ho_ : ∀ r ∈ J, rw_ok nw r) (c : Int64) : (kx K c = none ∧ jm_M_available u c = some (-1099511627776)) ∨ ∃ j, ∃ hj : j < K.length, kx K c = some j ∧ jm_M_available u c = some (av (lN nw) c (ca_bal K[j]) J) := by
  unfold jm_M_available
  rw [m_find hK hk c, ob_s]
  cases hc : kx K c with
  | none => exact Or.inl ⟨rfl, rfl⟩
  | some j =>
    obtain ⟨hj, -⟩ := kx_some hc
    have e4 : mg_balances u j = ca_bal K[j] := congrArg Prod.snd (hK.2 j hj)
    refine Or.inr ⟨j, hj, rfl, ?_⟩
    try dsimp only
    rw [if_pos (nI_pos' (by omega)), git (by omega) (by decide), nI_clamp (by omega), e4, m_avail h hn hl hw ho_]
theorem a_100 {LA LE : List Nat} {ac ln : Nat → Nat} {nw : Nat} {q : RQ} {K : List CA} {J : List CE} {d : CS} {u : MS} (h : MID LA LE ac ln nw q K J d u) (hl : J.length < 32) (hn : ∀ r ∈ J, sm (nI q.1) q.2.2.2.2.2.2.2.1 (nI q.2.2.2.2.2.1) r = false) (ht : q.1 = 100) :
    ANS LA LE ac nw d u ((jc_D_decide LA LE d).bind fun p => (jc_Journal_add LA LE p.2 p.1).bind fun e => some (p.1, e)) (jm_M_authorize u) := by
  have hh := h
  obtain ⟨h1, h2, h3, h4, h5, h6, h7, h8, h9, h10, h11, h12, h13, h14, h15, h16, h17⟩ := h
  obtain ⟨r1, r2, r3, r4, r5, r6, r7, r8, r9⟩ := h14
  obtain ⟨m1, m2, m3, m4, m5, m6, m7, -⟩ := h15
  have e100 : nI q.1 = 100 := by rw [ht]; rfl
  have fz : ∀ (a : Nat), a < 100 → ¬ a = 0 → (0 : Int32) = if nI q.1 = 100 ∧ nI a = 0 then 1 else 0 := fun a ha h0 => by rw [if_neg (fun z => h0 ((nI_eq (b := 0) (by omega) (by decide)).mp z.2))]
  have edec : jc_D_decide LA LE d = (jc_Cards_find LA LE d (lN q.2.2.1)).bind fun v => oq LA v (some ((14 : Int32), d)) fun a => (jc_D_decideHold LA LE d a).bind fun v => some (v, d) := by
    unfold jc_D_decide
    rw [r1, e100, if_neg (by decide), r3]
    rfl
  rw [edec, c_find h5 h1]
  unfold jm_M_authorize
  rw [m2]
  rcases m_available h8 h1 h9 h10 h2 h17 h3 (lN q.2.2.1) with ⟨k1, k2⟩ | ⟨j, hj, k1, k2⟩
  · rw [k1, k2, ob_s, m_find h8 h1, k1, ob_s, ob_s]
    show ANS LA LE ac nw d u ((some ((14 : Int32), d)).bind _) (if 0 ≤ (-1 : Int32) then _ else _)
    rw [if_neg (by decide), ob_s]
    exact fin hh hl hn (a := 14) (by decide) (fz 14 (by decide) (by decide)) rfl rfl
  · rw [k1, k2, ob_s, m_find h8 h1, k1, ob_s, ob_s]
    have em : ∀ f : Nat → Option (Int32 × CS), oq LA (Option.map ac (some j)) (some ((14 : Int32), d)) f = f (ac j) := fun f => oq_s rfl (h5.2.1 j (by omega)).2
    rw [em]
    try dsimp only
    rw [if_pos (nI_pos' (by omega)), m3, m4]
    have e3 := h5.2.2.2 j hj
    try dsimp only at e3
    have hc := (kx_some k1).2
    unfold jc_D_decideHold jc_Request_sortKind
    rw [ob_s, r4, c_avail h6 h7 h2, ob_s, r5, e3, hc]
    by_cases c0 : nI q.2.2.2.1 / 10000 = 0
    · rw [if_pos c0, if_pos c0]
      by_cases c1 : lN q.2.2.2.2.1 ≤ av (lN nw) (lN q.2.2.1) (ca_bal K[j]) J
      · rw [if_pos c1, if_pos c1, ob_s, ob_s]
        exact fin hh hl hn (a := 0) (by decide) (by rw [if_pos ⟨e100, rfl⟩]) rfl rfl
      · rw [if_neg c1, if_neg c1, ob_s, ob_s]
        exact fin hh hl hn (a := 51) (by decide) (fz 51 (by decide) (by decide)) rfl rfl
    · rw [if_neg c0, if_neg c0, ob_s, ob_s]
      exact fin hh hl hn (a := 12) (by decide) (fz 12 (by decide) (by decide)) rfl rfl
/-! money -/
theorem sm_wst {ty te tr : Int32} {r : CE} {v : Int32} : sm ty te tr (wst r v) = sm ty te tr r := rfl
theorem hn_set {J : List CE} {ty te tr : Int32} (hn : ∀ r ∈ J, sm ty te tr r = false) {j : Nat} (hj : j < J.length) (v : Int32) : ∀ r ∈ J.set j (wst J[j] v), sm ty te tr r = false := by
  intro r hr
  rcases List.mem_or_eq_of_mem_set hr with z | z
  · exact hn r z
  · rw [z, sm_wst]
    exact hn _ (List.getElem_mem hj)
theorem MID_bal {LA LE : List Nat} {ac ln : Nat → Nat} {nw : Nat} {q : RQ} {K : List CA} {J : List CE} {d : CS} {u : MS} (h : MID LA LE ac ln nw q K J d u) {j : Nat} (hj : j < K.length) (b : Int64) : MID LA LE ac ln nw q (K.set j (ca_card K[j], b)) J (acc_set_bal d (ac j) b) (ms_balances u (vp_updL (mg_balances u) j b)) := by
  obtain ⟨h1, h2, h3, h4, h5, h6, h7, h8, h9, h10, h11, h12, h13, h14, h15, h16, h17⟩ := h
  exact ⟨by rw [List.length_set]; exact h1, h2, h3, h4, cKd_set h5 h1 hj b, k_cJo_acc_set_bal h6, (G_jTime_acc_set_bal _ _ _).trans h7, mKd_set h8 hj b, k_mJo_ms_balances h9, (G_now_ms_balances _ _).trans h10, (G_setSum_acc_set_bal _ _ _).trans (h11.trans (G_settled_ms_balances _ _).symm), (G_setNow_acc_set_bal _ _ _).trans (h12.trans (G_closed_ms_balances _ _).symm), by rw [G_closed_ms_balances]; exact h13, rqIs_accbal h14, mrq_bal h15, h16, h17⟩
theorem MID_mark {LA LE : List Nat} {ac ln : Nat → Nat} {nw : Nat} {q : RQ} {K : List CA} {J : List CE} {d : CS} {u : MS} (h : MID LA LE ac ln nw q K J d u) {j : Nat} (hj : j < J.length) {v : Int32} (hv : ¬ v = 1) : MID LA LE ac ln nw q K (J.set j (wst J[j] v)) (ent_set_state d (ln j) v) (ms_marks u (upd (mg_marks u) j v)) := by
  obtain ⟨h1, h2, h3, h4, h5, h6, h7, h8, h9, h10, h11, h12, h13, h14, h15, h16, h17⟩ := h
  exact ⟨h1, by rw [List.length_set]; exact h2, ok_set h3 hj hv, pw_set h4 hj v, k_cKd_ent_set_state h5, cJo_set h6 h2 hj v, (G_jTime_ent_set_state _ _ _).trans h7, k_mKd_ms_marks h8, mJo_set h9 hj v, (G_now_ms_marks _ _).trans h10, (G_setSum_ent_set_state _ _ _).trans (h11.trans (G_settled_ms_marks _ _).symm), (G_setNow_ent_set_state _ _ _).trans (h12.trans (G_closed_ms_marks _ _).symm), by rw [G_closed_ms_marks]; exact h13, rqIs_entst h14, mrq_marks h15, h16, h17⟩
theorem m_has56 {u : MS} {q : RQ} (h : mrq u q) : mg_has u ((56 : Int32)).toNatClampNeg = if q.2.1.testBit 8 = true then 1 else 0 := h.2.2.2.2.2.2.2.1 56 (by decide) (by decide)
theorem a_200 {LA LE : List Nat} {ac ln : Nat → Nat} {nw : Nat} {q : RQ} {K : List CA} {J : List CE} {d : CS} {u : MS} (h : MID LA LE ac ln nw q K J d u) (hl : J.length < 32) (hn : ∀ r ∈ J, sm (nI q.1) q.2.2.2.2.2.2.2.1 (nI q.2.2.2.2.2.1) r = false) (ht : q.1 = 200) (hmp : q.2.1 < 2 ^ 64) :
    ANS LA LE ac nw d u ((jc_D_decide LA LE d).bind fun p => (jc_Journal_add LA LE p.2 p.1).bind fun e => some (p.1, e)) (jm_M_pay u) := by
  have hh := h
  obtain ⟨h1, h2, h3, h4, h5, h6, h7, h8, h9, h10, h11, h12, h13, h14, h15, h16, h17⟩ := h
  have h15b := h15
  obtain ⟨r1, r2, r3, r4, r5, r6, r7, r8, r9⟩ := h14
  obtain ⟨m1, m2, m3, m4, m5, m6, m7, -⟩ := h15
  have n100 : ¬ nI q.1 = 100 := by rw [ht]; decide
  have fz : ∀ (a : Nat), (0 : Int32) = if nI q.1 = 100 ∧ nI a = 0 then 1 else 0 := fun a => by rw [if_neg (fun z => n100 z.1)]
  have g56 : ¬ ((56 : Int32) < 0 ∨ 65 ≤ ((56 : Int32)).toNatClampNeg) := by decide
  have edec : jc_D_decide LA LE d = (jc_Cards_find LA LE d (lN q.2.2.1)).bind fun v => oq LA v (some ((14 : Int32), d)) fun a => (jc_D_decideMoney LA LE d a).bind fun p => some (p.1, p.2) := by
    unfold jc_D_decide
    rw [r1, ht, if_neg (by decide), r3]
    rfl
  rw [edec, c_find h5 h1]
  unfold jm_M_pay
  rw [m2, m_find h8 h1, ob_s, ob_s]
  cases hk : kx K (lN q.2.2.1) with
  | none =>
    have ep : jm_M_payment u (-1) = some 14 := by
      unfold jm_M_payment
      rw [if_neg (by decide)]
    try dsimp only
    rw [ep, ob_s, if_neg (by decide)]
    show ANS LA LE ac nw d u ((some ((14 : Int32), d)).bind _) _
    rw [ob_s]
    exact fin hh hl hn (a := 14) (by decide) (fz 14) rfl rfl
  | some j =>
    obtain ⟨hj, hc⟩ := kx_some hk
    have em : ∀ f : Nat → Option (Int32 × CS), oq LA (Option.map ac (some j)) (some ((14 : Int32), d)) f = f (ac j) := fun f => oq_s rfl (h5.2.1 j (by omega)).2
    have e3 := h5.2.2.2 j hj
    try dsimp only at e3
    have e4 : mg_balances u j = ca_bal K[j] := congrArg Prod.snd (h8.2 j hj)
    have ehas : jc_Request_has LA LE d (256 : Int64) = some (if q.2.1.testBit 8 = true then 1 else 0) := c_has r2 hmp 8 (by decide)
    have hj6 : j < 6 := by omega
    have hav : jm_M_available u (lN q.2.2.1) = some (av (lN nw) (lN q.2.2.1) (ca_bal K[j]) J) := by
      rcases m_available h8 h1 h9 h10 h2 h17 h3 (lN q.2.2.1) with ⟨k1, k2⟩ | ⟨j2, hj2, k1, k2⟩
      · rw [hk] at k1
        cases k1
      · rw [hk] at k1
        cases k1
        exact k2
    rw [em]
    try dsimp only
    have ep0 : jm_M_payment u (nI j) = if nI q.2.2.2.1 / 10000 = 0 then jm_M_payment_B26 u (nI q.2.2.2.1 / 10000) else if nI q.2.2.2.1 / 10000 = 20 then jm_M_payment_B26 u (nI q.2.2.2.1 / 10000) else some 12 := by
      unfold jm_M_payment
      rw [if_pos (nI_pos' (by omega)), m3]
    have e26 : jm_M_payment_B26 u (nI q.2.2.2.1 / 10000) = if nI q.2.2.2.1 / 10000 = 20 then (if (if q.2.1.testBit 8 = true then (1 : Int32) else 0) = 0 then jm_M_payment_B45 u (nI q.2.2.2.1 / 10000) else some 12) else jm_M_payment_B45 u (nI q.2.2.2.1 / 10000) := by
      unfold jm_M_payment_B26
      rw [if_pos g56, m_has56 h15b]
    have e45 : jm_M_payment_B45 u (nI q.2.2.2.1 / 10000) = if nI q.2.2.2.1 / 10000 = 20 then some 0 else if (if q.2.1.testBit 8 = true then (1 : Int32) else 0) = 0 then (if lN q.2.2.2.2.1 ≤ av (lN nw) (lN q.2.2.1) (ca_bal K[j]) J then some 0 else some 51) else (jm_M_same u 100 (nI q.2.2.2.2.2.2.2.2)).bind fun v => if v < 0 then some 25 else (jm_M_isHold u v).bind fun w => if w = 0 then some 25 else if ¬ (v < 0 ∨ 40 ≤ v.toNatClampNeg) then (if mg_whose u v.toNatClampNeg = lN q.2.2.1 then (if ¬ (v < 0 ∨ 40 ≤ v.toNatClampNeg) then (if lN q.2.2.2.2.1 ≤ mg_amounts u v.toNatClampNeg then some 0 else some 51) else none) else some 25) else none := by
      unfold jm_M_payment_B45
      rw [if_pos g56, m_has56 h15b, m2, hav, ob_s, m4, m7]
    have epay : ∀ (uu : MS), mg_has uu = mg_has u → (if ¬ ((56 : Int32) < 0 ∨ 65 ≤ ((56 : Int32)).toNatClampNeg) then (if mg_has uu ((56 : Int32)).toNatClampNeg = 0 then (1 : Nat) else 2) else 3) = if (if q.2.1.testBit 8 = true then (1 : Int32) else 0) = 0 then 1 else 2 := fun uu e => by rw [if_pos g56, e, m_has56 h15b]
    have emon : jc_D_decideMoney LA LE d (ac j) = if nI q.2.2.2.1 / 10000 = 0 then (if (if q.2.1.testBit 8 = true then (1 : Int32) else 0) = 0 then (jc_D_debit LA LE d (ac j)).bind fun p => some (p.1, p.2) else (jc_D_complete LA LE d (ac j)).bind fun p => some (p.1, p.2)) else if nI q.2.2.2.1 / 10000 = 20 then (if (if q.2.1.testBit 8 = true then (1 : Int32) else 0) = 0 then (jc_D_credit LA LE d (ac j)).bind fun p => some (p.1, p.2) else some (12, d)) else some (12, d) := by
      unfold jc_D_decideMoney jc_Request_sortKind
      rw [ehas, ob_s, ob_s, r4]
    rw [emon, ep0, e26, e45]
    by_cases c20 : nI q.2.2.2.1 / 10000 = 20
    · have c0 : ¬ nI q.2.2.2.1 / 10000 = 0 := by rw [c20]; decide
      rw [if_neg c0, if_neg c0, if_pos c20, if_pos c20, if_pos c20, if_pos c20]
      cases cb : q.2.1.testBit 8 with
      | true =>
        rw [if_pos rfl, if_neg (show ¬ (1 : Int32) = 0 by decide), if_neg (show ¬ (1 : Int32) = 0 by decide), ob_s, ob_s, ob_s, if_neg (show ¬ (12 : Int32) = 0 by decide)]
        exact fin hh hl hn (a := 12) (by decide) (fz 12) rfl rfl
      | false =>
        rw [if_neg (show ¬ false = true by decide), if_pos rfl, if_pos rfl, ob_s, if_pos rfl, m3, if_pos c20, git hj6 (by decide), git hj6 (by decide), nI_clamp (by omega), nmd_e, m4, if_pos g56]
        have hb : mg_has (ms_balances u (vp_updL (mg_balances u) j (mg_balances u j + lN q.2.2.2.2.1))) ((56 : Int32)).toNatClampNeg = 0 := by
          have := m_has56 h15b
          rw [cb, if_neg (by decide)] at this
          exact this
        rw [if_pos hb]
        unfold jc_D_credit
        rw [nmd_e, e3, r5, ob_s, ob_s, ob_s, e4]
        exact fin (MID_bal hh hj (ca_bal K[j] + lN q.2.2.2.2.1)) hl hn (a := 0) (by decide) (fz 0) (cx_accbal _ _ _) (mx_bal _ _)
    · by_cases c0 : nI q.2.2.2.1 / 10000 = 0
      · rw [if_pos c0, if_pos c0, if_neg c20, if_neg c20]
        cases cb : q.2.1.testBit 8 with
        | false =>
          rw [if_neg (show ¬ false = true by decide), if_pos rfl, if_pos rfl]
          unfold jc_D_debit
          rw [c_avail h6 h7 h2, ob_s, r5, e3, hc]
          by_cases c1 : lN q.2.2.2.2.1 ≤ av (lN nw) (lN q.2.2.1) (ca_bal K[j]) J
          · have hb : mg_has (ms_balances u (vp_updL (mg_balances u) j (mg_balances u j - lN q.2.2.2.2.1))) ((56 : Int32)).toNatClampNeg = 0 := by
              have := m_has56 h15b
              rw [cb, if_neg (by decide)] at this
              exact this
            rw [if_pos c1, if_pos c1, nmd_e, ob_s, ob_s, ob_s, ob_s, if_pos rfl, m3, if_neg c20, git hj6 (by decide), git hj6 (by decide), nI_clamp (by omega), nmd_e, m4, if_pos g56, if_pos hb, e4]
            exact fin (MID_bal hh hj (ca_bal K[j] - lN q.2.2.2.2.1)) hl hn (a := 0) (by decide) (fz 0) (cx_accbal _ _ _) (mx_bal _ _)
          · rw [if_neg c1, if_neg c1, ob_s, ob_s, ob_s, ob_s, if_neg (show ¬ (51 : Int32) = 0 by decide)]
            exact fin hh hl hn (a := 51) (by decide) (fz 51) rfl rfl
        | true =>
          rw [if_pos rfl, if_neg (show ¬ (1 : Int32) = 0 by decide), if_neg (show ¬ (1 : Int32) = 0 by decide)]
          unfold jc_D_complete
          rw [c_fhold h6 h7 h2, ob_s, r8, r9, r3, m_same h9 h2, m6, ob_s]
          rcases hold_two h3 h4 q.2.2.2.2.2.2.2.1 (nI q.2.2.2.2.2.2.2.2) (lN q.2.2.1) with ⟨x, hx, x1, x2, x3, x4⟩ | ⟨x1, x2⟩
          · have eq1 : ∀ (k : Option (Int32 × CS)) (f : Nat → Option (Int32 × CS)), oq LE (Option.map ln (some x)) k f = f (ln x) := fun k f => oq_s rfl (h6.2.1 x (by omega)).2
            obtain ⟨y1, y2, y3, y4, y5, y6, y7, y8, y9⟩ := h9.2 x hx
            have ee := h6.2.2.2 x hx
            try dsimp only at ee
            rw [x1, x2, eq1]
            try dsimp only
            rw [if_neg (nI_pos (by omega)), m_hold h9 h10 h2 h17 h3 hx, ob_s, if_pos x3, if_neg (show ¬ (1 : Int32) = 0 by decide), git (by omega) (by decide), git (by omega) (by decide), nI_clamp (by omega), y4, x4, if_pos rfl, y6, r5, ee]
            by_cases c1 : lN q.2.2.2.2.1 ≤ ce_amount J[x]
            · have hb : ¬ mg_has (ms_balances u (vp_updL (mg_balances u) j (mg_balances u j - lN q.2.2.2.2.1))) ((56 : Int32)).toNatClampNeg = 0 := by
                have := m_has56 h15b
                rw [cb, if_pos rfl] at this
                intro z
                have z : mg_has u ((56 : Int32)).toNatClampNeg = 0 := z
                rw [this] at z
                exact absurd z (by decide)
              have hJ2 : mJo (ms_balances u (vp_updL (mg_balances u) j (mg_balances u j - lN q.2.2.2.2.1))) J := h9
              have hs2 : jm_M_same (ms_balances u (vp_updL (mg_balances u) j (mg_balances u j - lN q.2.2.2.2.1))) 100 (mg_original (ms_balances u (vp_updL (mg_balances u) j (mg_balances u j - lN q.2.2.2.2.1)))) = some (nI x) := by
                have t1 : mg_original (ms_balances u (vp_updL (mg_balances u) j (mg_balances u j - lN q.2.2.2.2.1))) = nI q.2.2.2.2.2.2.2.2 := m7
                have t2 : mg_terminal (ms_balances u (vp_updL (mg_balances u) j (mg_balances u j - lN q.2.2.2.2.1))) = q.2.2.2.2.2.2.2.1 := m6
                rw [t1, m_same hJ2 h2, t2, x2]
              have ea : cg_acc (ent_set_state d (ln x) 2) = cg_acc d := rfl
              have eb : cg_rqAmount (ent_set_state d (ln x) 2) = lN q.2.2.2.2.1 := r5
              rw [if_pos c1, if_pos c1, nmd_e, nmd_e, ea, eb, e3, ob_s, ob_s, ob_s, ob_s, if_pos rfl, m3, if_neg c20, git hj6 (by decide), git hj6 (by decide), nI_clamp (by omega), nmd_e, m4, if_pos g56, if_neg hb, hs2, ob_s, git (by omega) (by decide), nI_clamp (by omega), nmd_e, e4]
              have mid := MID_bal (MID_mark hh hx (v := 2) (by decide)) hj (ca_bal K[j] - lN q.2.2.2.2.1)
              exact fin mid (by rw [List.length_set]; exact hl) (hn_set hn hx 2) (a := 0) (by decide) (fz 0) ((cx_accbal _ _ _).trans (cx_entst _ _ _)) ((mx_bal _ _).trans (mx_marks _ _))
            · rw [if_neg c1, if_neg c1, ob_s, ob_s, ob_s, ob_s, if_neg (show ¬ (51 : Int32) = 0 by decide)]
              exact fin hh hl hn (a := 51) (by decide) (fz 51) rfl rfl
          · rw [x1]
            have eq1 : ∀ (k : Option (Int32 × CS)) (f : Nat → Option (Int32 × CS)), oq LE (Option.map ln none) k f = k := fun k f => rfl
            rw [eq1, ob_s, ob_s, ob_s]
            rcases x2 with x2 | ⟨x, hx, x2, x3⟩
            · rw [x2]
              try dsimp only
              rw [if_pos (by decide), ob_s, if_neg (show ¬ (25 : Int32) = 0 by decide)]
              exact fin hh hl hn (a := 25) (by decide) (fz 25) rfl rfl
            · obtain ⟨y1, y2, y3, y4, y5, y6, y7, y8, y9⟩ := h9.2 x hx
              rw [x2]
              try dsimp only
              rw [if_neg (nI_pos (by omega)), m_hold h9 h10 h2 h17 h3 hx, ob_s]
              cases ch : ho (lN nw) J[x] with
              | false =>
                rw [if_neg (show ¬ false = true by decide), if_pos rfl, ob_s, if_neg (show ¬ (25 : Int32) = 0 by decide)]
                exact fin hh hl hn (a := 25) (by decide) (fz 25) rfl rfl
              | true =>
                have x4 : ¬ ce_card J[x] = lN q.2.2.1 := by
                  rcases x3 with z | z
                  · rw [ch] at z
                    cases z
                  · exact z
                rw [if_pos rfl, if_neg (show ¬ (1 : Int32) = 0 by decide), git (by omega) (by decide), nI_clamp (by omega), y4, if_neg x4, ob_s, if_neg (show ¬ (25 : Int32) = 0 by decide)]
                exact fin hh hl hn (a := 25) (by decide) (fz 25) rfl rfl
      · rw [if_neg c0, if_neg c20, if_neg c0, if_neg c20, ob_s, ob_s, ob_s, if_neg (show ¬ (12 : Int32) = 0 by decide)]
        exact fin hh hl hn (a := 12) (by decide) (fz 12) rfl rfl
