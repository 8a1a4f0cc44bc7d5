/-! handle -/
theorem mrp_of {u : MS} {q : RQ} (h : mrq u q) : mrp u q := ⟨h.1, h.2.2.2.2.2.2.2⟩
theorem mrp_x {u w : MS} {q : RQ} (e : mx w = mx u) (h : mrp u q) : mrp w q := by
  unfold mx at e
  simp only [Prod.mk.injEq] at e
  obtain ⟨e1, e2, e3, e4, e5, e6, e7, e8⟩ := e
  unfold mrp at h ⊢
  rw [e5, e6, e7, e8]
  exact h
theorem prs_amt {B : List Nat} (hb : ∀ b ∈ B, b < 256) {q : RQ} (h : prs B = some q) : q.2.2.2.2.1 < 10 ^ 12 := by
  unfold prs at h
  obtain ⟨t, -, h⟩ := bd_some h
  by_cases c : 10 ≤ B.length ∧ t.1 / 10 % 10 = 0 ∧ belongs t.1 (mVal 0 (tk B 2 8))
  · rw [if_pos c] at h
    obtain ⟨a, h1, h⟩ := bd_some h
    obtain ⟨o, -, h⟩ := bd_some h
    by_cases c2 : o.2.2.2.2 = B.length
    · rw [if_pos c2] at h
      have e := congrArg (fun x : RQ => x.2.2.2.2.1) (Option.some.inj h)
      try dsimp only at e
      rw [← e]
      unfold pMon at h1
      obtain ⟨x, -, h1⟩ := bd_some h1
      obtain ⟨y, -, h1⟩ := bd_some h1
      obtain ⟨z, h2, h1⟩ := bd_some h1
      have e2 := congrArg (fun x : Nat × Nat × Nat × Nat => x.2.2.1) (Option.some.inj h1)
      try dsimp only at e2
      rw [← e2]
      unfold pNum at h2
      by_cases c3 : (mVal 0 (tk B 2 8)).testBit 60 = true
      · rw [if_pos c3] at h2
        exact sD_lt hb (by decide) (v := z.1) (q := z.2) h2
      · rw [if_neg c3] at h2
        cases h2
        exact (show (0 : Nat) < 10 ^ 12 by decide)
    · rw [if_neg c2] at h
      cases h
  · rw [if_neg c] at h
    cases h
theorem ck_e {LA LE : List Nat} {ac ln : Nat → Nat} {d w : CS} {K : List CA} {J : List CE} {B O : List Nat} (e : ck w = ck d) : (cKd LA ac d K → cKd LA ac w K) ∧ (cJo LE ln d J → cJo LE ln w J) ∧ (cIn d B → cIn w B) ∧ (cOu d O → cOu w O) ∧ cg_jTime w = cg_jTime d ∧ cg_setSum w = cg_setSum d ∧ cg_setNow w = cg_setNow d := by
  unfold ck at e
  simp only [Prod.mk.injEq] at e
  obtain ⟨e1, e2, e3, e4, e5, e6, e7, e8, e9, e10, e11, e12, e13⟩ := e
  refine ⟨fun h => ?_, fun h => ?_, fun h => ?_, fun h => ?_, e8, e10, e11⟩
  · unfold cKd at h ⊢
    rw [e5, e6, e12]
    exact h
  · unfold cJo at h ⊢
    rw [e7, e9, e13]
    exact h
  · unfold cIn at h ⊢
    rw [e1, e2]
    exact h
  · unfold cOu at h ⊢
    rw [e3, e4]
    exact h
theorem cx_e {d w : CS} {B O : List Nat} (e : cx w = cx d) : (cIn d B → cIn w B) ∧ (cOu d O → cOu w O) ∧ cg_rqType w = cg_rqType d ∧ cg_rqMap w = cg_rqMap d ∧ cg_rqStart w = cg_rqStart d := by
  unfold cx at e
  simp only [Prod.mk.injEq] at e
  obtain ⟨e1, e2, e3, e4, e5, e6, e7⟩ := e
  refine ⟨fun h => ?_, fun h => ?_, e5, e6, e7⟩
  · unfold cIn at h ⊢
    rw [e1, e2]
    exact h
  · unfold cOu at h ⊢
    rw [e3, e4]
    exact h
theorem mkk_e {u w : MS} {K : List CA} {J : List CE} {B O : List Nat} (e : mkk w = mkk u) : (mKd u K → mKd w K) ∧ (mJo u J → mJo w J) ∧ (mIn u B → mIn w B) ∧ (mOu u O → mOu w O) ∧ mg_now w = mg_now u ∧ mg_settled w = mg_settled u := by
  unfold mkk at e
  simp only [Prod.mk.injEq] at e
  obtain ⟨e1, e2, e3, e4, e5, e6, e7, e8, e9, e10, e11, e12, e13, e14, e15, e16, e17, e18, e19, e20⟩ := e
  refine ⟨fun h => ?_, fun h => ?_, fun h => ?_, fun h => ?_, e4, e19⟩
  · unfold mKd at h ⊢
    rw [e1, e2, e3]
    exact h
  · unfold mJo mrow at h ⊢
    rw [e9, e10, e11, e12, e13, e14, e15, e16, e17, e18]
    exact h
  · unfold mIn at h ⊢
    rw [e5, e6]
    exact h
  · unfold mOu at h ⊢
    rw [e7, e8]
    exact h
theorem mx_in {u w : MS} {B : List Nat} (e : mx w = mx u) (h : mIn u B) : mIn w B := by
  unfold mx at e
  simp only [Prod.mk.injEq] at e
  unfold mIn at h ⊢
  rw [e.1, e.2.1]
  exact h
theorem abs_l {x : Int64} (h : x.toInt.natAbs ≤ 32 * 10 ^ 12) : (if 0 < x then x else -x) = lN x.toInt.natAbs ∧ (if (0 : Int64) ≤ x then x else -x) = lN x.toInt.natAbs := by
  have e0 : (0 : Int64).toInt = 0 := rfl
  have eN : (lN x.toInt.natAbs).toInt = (x.toInt.natAbs : Int) := pk_lT (by omega)
  have en : (-x).toInt = -x.toInt := Jvm.Kit.i64_neg (by omega)
  constructor
  · by_cases c : 0 < x
    · rw [if_pos c]
      apply Int64.toInt_inj.mp
      rw [Int64.lt_iff_toInt_lt] at c
      omega
    · rw [if_neg c]
      apply Int64.toInt_inj.mp
      rw [Int64.lt_iff_toInt_lt] at c
      omega
  · by_cases c : (0 : Int64) ≤ x
    · rw [if_pos c]
      apply Int64.toInt_inj.mp
      rw [Int64.le_iff_toInt_le] at c
      omega
    · rw [if_neg c]
      apply Int64.toInt_inj.mp
      rw [Int64.le_iff_toInt_le] at c
      omega
theorem outp_len {B : List Nat} {ty mp st w a : Nat} (h10 : 10 ≤ st) (hs : st + 4 ≤ B.length) (h1 : st ≤ 31) (h5 : ty = 500 → st = 13) : (outp B ty mp st w a).length ≤ 37 := by
  have l1 : (tk B 10 (st - 10)).length = st - 10 := tk_len (by omega)
  have l2 : (tk B st 4).length = 4 := tk_len hs
  unfold outp
  by_cases c : ty = 500
  · have := h5 c
    rw [if_pos c, if_pos c]
    simp only [List.length_append, amB_len, l1, l2, List.length_cons, List.length_nil]
    omega
  · rw [if_neg c, if_neg c]
    simp only [List.length_append, amB_len, l1, l2, List.length_cons, List.length_nil]
    omega
theorem mrq_outs {u : MS} {v : Int32} {q : RQ} (h : mrq u q) : mrq (ms_outs u v) q := h
theorem s_handle {LA LE : List Nat} {t : Nat} (ht : t ≤ 1000) {d : CS} {u : MS} (h : relS LA LE t d u) : ∃ r d2 u2, jc_D_handle LA LE d = some (r, d2) ∧ jm_M_handle u = some (r, u2) ∧ relS LA LE (t + 1) d2 u2 := by
  obtain ⟨ac, ln, K, J, nw, B, O, hw, hcK, hcJ, hct, hcB, hcO, hmK, hmJ, hmt, hmB, hmO, hs⟩ := h
  obtain ⟨w1, w2, w3, w4, w5, w6, w7, w8⟩ := hw
  obtain ⟨dA, hdA⟩ : ∃ dA, dA = cs_setNow (cs_outSize d 0) 0 := ⟨_, rfl⟩
  have aK : cKd LA ac dA K := by rw [hdA]; exact k_cKd_cs_setNow (k_cKd_cs_outSize hcK)
  have aJ : cJo LE ln dA J := by rw [hdA]; exact k_cJo_cs_setNow (k_cJo_cs_outSize hcJ)
  have aB : cIn dA B := by rw [hdA]; exact k_cIn_cs_setNow (k_cIn_cs_outSize hcB)
  have aO : cOu dA [] := by rw [hdA]; exact ⟨rfl, isL_nil⟩
  have at_ : cg_jTime dA = lN nw := by rw [hdA]; exact hct
  have as_ : cg_setSum dA = mg_settled u := by rw [hdA]; exact hs
  have an_ : cg_setNow dA = 0 := by rw [hdA]; rfl
  obtain ⟨r, dB, e1, k1, p1⟩ := c_parse (LA := LA) (LE := LE) aB w4 w5
  obtain ⟨r2, uB, e2, k2, p2⟩ := m_parse hmB w4 w5
  obtain ⟨c1, c2, c3, c4, c5, c6, c7⟩ := ck_e (LA := LA) (LE := LE) (ac := ac) (ln := ln) (K := K) (J := J) (B := B) (O := []) k1
  obtain ⟨m1, m2, m3, m4, m5, m6⟩ := mkk_e (K := K) (J := J) (B := B) (O := O) k2
  have ec : jc_D_handle LA LE d = (jc_Request_readWhole LA LE dA).bind fun p => if p.1 = 0 then (jc_ByteRow_clear_in LA LE p.2).bind fun e => some ((30 : Int32), e) else (jc_D_answerRequest LA LE p.2).bind fun q => (jc_D_writeReply LA LE q.2 q.1).bind fun e => (jc_ByteRow_clear_in LA LE e).bind fun e => some (q.1, e) := by rw [hdA]; rfl
  have em : jm_M_handle u = (jm_M_isRequest u).bind fun p => nmd (ms_outs p.2 (0 : Int32)) fun e => if p.1 = 0 then nmd (ms_ins e (0 : Int32)) fun e => some ((30 : Int32), e) else (jm_M_answer e).bind fun q => (jm_M_answerWith q.2 q.1).bind fun e => nmd (ms_ins e (0 : Int32)) fun e => some (q.1, e) := rfl
  rw [ec, em, e1, e2, ob_s, ob_s]
  try dsimp only
  rw [nmd_e]
  rcases p1 with ⟨q1, q2⟩ | ⟨q1, q, q2, q3⟩
  · rcases p2 with ⟨q4, -⟩ | ⟨-, q, q5, -⟩
    · rw [q1, q4, if_pos rfl, if_pos rfl]
      refine ⟨_, _, _, rfl, rfl, ac, ln, K, J, nw, [], [], ⟨w1, w2, by omega, by simp, fun b hb => (by cases hb), by simp, w7, w8⟩, k_cKd_cs_inSize (c1 aK), k_cJo_cs_inSize (c2 aJ), (G_jTime_cs_inSize _ _).trans (c5.trans at_), ⟨rfl, isL_nil⟩, k_cOu_cs_inSize (c4 aO), k_mKd_ms_ins (k_mKd_ms_outs (m1 hmK)), k_mJo_ms_ins (k_mJo_ms_outs (m2 hmJ)), (G_now_ms_ins _ _).trans ((G_now_ms_outs _ _).trans (m5.trans hmt)), ⟨rfl, isL_nil⟩, k_mOu_ms_ins ⟨rfl, isL_nil⟩, ?_⟩
      exact (G_setSum_cs_inSize _ _).trans ((c6.trans as_).trans (m6.symm.trans ((G_settled_ms_outs _ _).symm.trans (G_settled_ms_ins _ _).symm)))
    · rw [q2] at q5
      cases q5
  · rcases p2 with ⟨-, q5⟩ | ⟨q4, qq, q5, q6, q7, q8, q9, q10, q11⟩
    · rw [q2] at q5
      cases q5
    · rw [q2] at q5
      cases q5
      have nr : ¬ (1 : Int32) = 0 := by decide
      rw [q1, q4, if_neg nr, if_neg nr]
      have hamt := prs_amt w5 q2
      have mid : MID LA LE ac ln nw q K J dB (ms_closed (ms_outs uB 0) 0) := ⟨w1, w2, w7, w8, c1 aK, c2 aJ, c5.trans at_, k_mKd_ms_closed (k_mKd_ms_outs (m1 hmK)), k_mJo_ms_closed (k_mJo_ms_outs (m2 hmJ)), (G_now_ms_closed _ _).trans ((G_now_ms_outs _ _).trans (m5.trans hmt)), (c6.trans as_).trans (m6.symm.trans ((G_settled_ms_outs _ _).symm.trans (G_settled_ms_closed _ _).symm)), (c7.trans an_).trans (S_closed _ _).symm, by rw [S_closed]; decide, q3, mrq_closed (mrq_outs q6), hamt, by omega⟩
      obtain ⟨a, dC, uD, K2, J2, ln2, f1, f2, f3, f4, f5, f6, f7, f8, f9, f10, f11, f12, f13, f14, f15, f16, f17, f18⟩ := s_answer mid q10 q11
      obtain ⟨x1, x2, x3, x4, x5⟩ := cx_e (B := B) (O := []) f17
      have hbC : cIn dC B := x1 (c3 aB)
      have hbO : cOu dC [] := x2 (c4 aO)
      have hmD : mIn uD B := mx_in f18 (k_mIn_ms_closed (k_mIn_ms_outs (m3 hmB)))
      have hpD : mrp uD q := mrp_x f18 (mrp_of (mrq_closed (mrq_outs q6)))
      obtain ⟨ab1, ab2⟩ := abs_l f16
      obtain ⟨uE, g1, g2, g3, g4, g5⟩ := m_reply (w := (mg_closed uD).toInt.natAbs) hmD w4 hpD q7 q10 q9 q8 f3 (by omega) ab2
      obtain ⟨dE, h1, h2⟩ := c_reply (LA := LA) (LE := LE) (w := (mg_closed uD).toInt.natAbs) hbC w4 w5 hbO (x3.trans q3.1) q10 (x4.trans q3.2.1) q11 q7 (x5.trans q3.2.2.2.2.2.2.1) g3 q8 g4 g5 f3 (by omega) (by rw [f15]; exact ab1)
      rw [f1, f2, ob_s, ob_s]
      try dsimp only
      rw [h1, g1, ob_s, ob_s, nmd_e]
      refine ⟨_, _, _, rfl, rfl, ac, ln2, K2, J2, nw, [], outp B q.1 q.2.1 q.2.2.2.2.2.2.1 (mg_closed uD).toInt.natAbs a, ⟨f4, f5, by omega, by simp, fun b hb => (by cases hb), outp_len g3 q8 g4 g5, f6, f7⟩, ?_, ?_, ?_, ⟨rfl, isL_nil⟩, k_cOu_cs_inSize h2.1, ?_, ?_, ?_, ⟨rfl, isL_nil⟩, k_mOu_ms_ins g2.1, ?_⟩
      · rw [h2.2]; exact k_cKd_cs_inSize (k_cKd_cs_outSize (k_cKd_cs_outB f8))
      · rw [h2.2]; exact k_cJo_cs_inSize (k_cJo_cs_outSize (k_cJo_cs_outB f9))
      · rw [G_jTime_cs_inSize, h2.2, G_jTime_cs_outSize, G_jTime_cs_outB]; exact f10
      · rw [g2.2]; exact k_mKd_ms_ins (k_mKd_ms_outs (k_mKd_ms_out f11))
      · rw [g2.2]; exact k_mJo_ms_ins (k_mJo_ms_outs (k_mJo_ms_out f12))
      · rw [G_now_ms_ins, g2.2, G_now_ms_outs, G_now_ms_out]; exact f13
      · rw [G_setSum_cs_inSize, h2.2, G_setSum_cs_outSize, G_setSum_cs_outB, G_settled_ms_ins, g2.2, G_settled_ms_outs, G_settled_ms_out]; exact f14
