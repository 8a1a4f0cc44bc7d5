/-! the two replies, and handle -/
def cE (x y z : Bool) : Nat := x.toNat * 4611686018427387904 + y.toNat * 2305843009213693952 + z.toNat * 1152921504606846976 + 9007199263129600
theorem cE_bits : ∀ x y z : Bool, ∀ i, i < 64 → (cE x y z).testBit i = (if i = 62 then x else if i = 61 then y else if i = 60 then z else decide (i = 53 ∨ i = 23)) := by decide +kernel
theorem cE_lt : ∀ x y z : Bool, cE x y z < 2 ^ 64 := by decide +kernel
theorem cE_by0 : ∀ x y z : Bool, by8s (cE x y z ||| 33554432 ||| 0) 8 = [64 * x.toNat + 32 * y.toNat + 16 * z.toNat, 32, 0, 0, 2, 128, 0, 0] := by decide +kernel
theorem cE_by1 : ∀ x y z : Bool, by8s (cE x y z ||| 33554432 ||| 1152921504606846976) 8 = [64 * x.toNat + 32 * y.toNat + 16, 32, 0, 0, 2, 128, 0, 0] := by decide +kernel
theorem cE_and {ty mp : Nat} (h : belongs ty mp) : mp &&& 8079457731511058432 = cE (mp.testBit 62) (mp.testBit 61) (mp.testBit 60) := by
  have e : 8079457731511058432 = cE true true true := by decide +kernel
  rw [e]
  apply Nat.eq_of_testBit_eq
  intro i
  rw [Nat.testBit_and]
  by_cases hi : i < 64
  · rw [cE_bits _ _ _ i hi, cE_bits _ _ _ i hi]
    by_cases c2 : i = 62
    · subst c2
      rw [if_pos rfl, if_pos rfl, Bool.and_true]
    rw [if_neg c2, if_neg c2]
    by_cases c3 : i = 61
    · subst c3
      rw [if_pos rfl, if_pos rfl, Bool.and_true]
    rw [if_neg c3, if_neg c3]
    by_cases c4 : i = 60
    · subst c4
      rw [if_pos rfl, if_pos rfl, Bool.and_true]
    rw [if_neg c4, if_neg c4]
    by_cases c5 : i = 53 ∨ i = 23
    · rw [bel_yes h c5, decide_eq_true c5]
      rfl
    · rw [decide_eq_false c5, Bool.and_false]
  · have h1 : ∀ x y z, cE x y z < 2 ^ i := fun x y z => Nat.lt_of_lt_of_le (cE_lt x y z) (Nat.pow_le_pow_right (by decide) (by omega))
    rw [Nat.testBit_lt_two_pow (h1 _ _ _), Nat.testBit_lt_two_pow (h1 _ _ _), Bool.and_false]
/-- what a reply holds -/
def outp (B : List Nat) (ty mp st w a : Nat) : List Nat := amB (ty + 10) 2 ++ [64 * (mp.testBit 62).toNat + 32 * (mp.testBit 61).toNat + (if ty = 500 then 16 else 16 * (mp.testBit 60).toNat), 32, 0, 0, 2, 128, 0, 0] ++ (if ty = 500 then amB w 6 else []) ++ tk B 10 (st - 10) ++ [48 + a / 10] ++ [48 + a % 10] ++ tk B st 4
theorem amB_len (w : Nat) : ∀ k, (amB w k).length = k
  | 0 => rfl
  | k + 1 => by show (amB w k).length + 1 = _; rw [amB_len w k]
theorem c_tail {LA LE : List Nat} {d0 d : CS} {B O : List Nat} {st a : Nat} (hin : cIn d0 B) (hl : B.length ≤ 120) (hb : ∀ b ∈ B, b < 256) (hst : cg_rqStart d0 = nI st) (h10 : 10 ≤ st) (hs : st + 4 ≤ B.length) (ha : a < 100) (h : cW d0 d O) (hO : O.length + (st - 10) + 6 ≤ 37) :
    ∃ d2, ((jc_ByteRow_appendFrom_out LA LE d (10 : Int32) (cg_rqStart d)).bind fun e => (jc_ByteRow_append_out LA LE e ((48 : Int32) + (nI a / (10 : Int32)))).bind fun e => (jc_ByteRow_append_out LA LE e ((48 : Int32) + (nI a - nI a / (10 : Int32) * (10 : Int32)))).bind fun e => (jc_ByteRow_appendFrom_out LA LE e (cg_rqStart d) ((cg_rqStart d) + (4 : Int32))).bind fun e => some e) = some d2 ∧ cW d0 d2 (O ++ tk B 10 (st - 10) ++ [48 + a / 10] ++ [48 + a % 10] ++ tk B st 4) := by
  have e0 : cg_rqStart d = nI st := by rw [h.2, G_rqStart_cs_outSize, G_rqStart_cs_outB]; exact hst
  have a1 : nI a / 10 = nI (a / 10) := pk_div (d := 10) (by omega) (by decide) (by decide)
  have a2 : nI a - nI a / 10 * 10 = nI (a % 10) := pk_rem (d := 10) (by omega) (by decide) (by decide)
  have a3 : (48 : Int32) + nI (a / 10) = nI (48 + a / 10) := nI_add 48 _
  have a4 : (48 : Int32) + nI (a % 10) = nI (48 + a % 10) := nI_add 48 _
  have a5 : nI st + 4 = nI (st + 4) := nI_add st 4
  have hL : (tk B 10 (st - 10)).length = st - 10 := tk_len (by omega)
  obtain ⟨d1, e1, w1⟩ := c_from (LA := LA) (LE := LE) hin hl hb (q := st) (by omega) (st - 10) 10 d O 200 (by omega) (by omega) h (by omega)
  have e1 : jc_ByteRow_appendFrom_out LA LE d (10 : Int32) (nI st) = some d1 := e1
  obtain ⟨d2, e2, w2⟩ := c_app (LA := LA) (LE := LE) (x := nI (48 + a / 10)) (b := 48 + a / 10) w1 (by rw [List.length_append]; omega) (by rw [nI_255]; congr 1; omega)
  obtain ⟨d3, e3, w3⟩ := c_app (LA := LA) (LE := LE) (x := nI (48 + a % 10)) (b := 48 + a % 10) w2 (by rw [List.length_append, List.length_append]; simp; omega) (by rw [nI_255]; congr 1; omega)
  obtain ⟨d4, e4, w4⟩ := c_from (LA := LA) (LE := LE) hin hl hb (q := st + 4) hs 4 st d3 _ 200 rfl (by decide) w3 (by rw [List.length_append, List.length_append, List.length_append]; simp; omega)
  have e4 : jc_ByteRow_appendFrom_out LA LE d3 (nI st) (nI (st + 4)) = some d4 := e4
  refine ⟨d4, ?_, w4⟩
  rw [e0, e1, ob_s, a1, a3, e2, ob_s, ← a1, a2, a4, e3, ob_s, a5, e4, ob_s]
theorem c_reply {LA LE : List Nat} {d : CS} {B : List Nat} {ty mp st w a : Nat} (hin : cIn d B) (hl : B.length ≤ 120) (hb : ∀ b ∈ B, b < 256) (hO : cOu d []) (ht : cg_rqType d = nI ty) (hty : ty < 10000) (hm : cg_rqMap d = lN mp) (hmp : mp < 2 ^ 64) (hbel : belongs ty mp) (hst : cg_rqStart d = nI st) (h10 : 10 ≤ st) (hs : st + 4 ≤ B.length) (hst2 : st ≤ 31) (hst5 : ty = 500 → st = 13) (ha : a < 100) (hw : w < 2 ^ 63) (hsn : (if 0 < cg_setNow d then cg_setNow d else -cg_setNow d) = lN w) :
    ∃ d2, jc_D_writeReply LA LE d (nI a) = some d2 ∧ cW d d2 (outp B ty mp st w a) := by
  have w0 : cW d d [] := ⟨hO, rfl⟩
  have t1 : nI ty + 10 = nI (ty + 10) := nI_add ty 10
  obtain ⟨d1, e1, w1⟩ := c_appDig (LA := LA) (LE := LE) (v := ty + 10) (n := 4) (by omega) (by decide) w0 (by decide)
  have e1 : jc_ByteRow_appendDigits_out LA LE d (lN (ty + 10)) (4 : Int32) = some d1 := e1
  rw [pkd_bys (ty + 10) 4 (4 / 2) (by decide)] at w1
  have w1 : cW d d1 (amB (ty + 10) 2) := w1
  have hand : mp &&& 8079457731511058432 < 2 ^ 64 := Nat.and_lt_two_pow _ (by decide)
  have hor : (mp &&& 8079457731511058432) ||| 33554432 < 2 ^ 64 := Nat.or_lt_two_pow hand (by decide)
  have m1 : lN mp &&& 8079457731511058432 = lN (mp &&& 8079457731511058432) := wb_and hmp (by decide)
  have m2 : lN (mp &&& 8079457731511058432) ||| 33554432 = lN ((mp &&& 8079457731511058432) ||| 33554432) := wb_or hand (by decide)
  unfold jc_D_writeReply outp
  rw [ht, t1, nI_l (by omega), hm, m1, m2]
  by_cases c : ty = 500
  · have ct : nI ty = 500 := by rw [c]; rfl
    have m3 : lN ((mp &&& 8079457731511058432) ||| 33554432) ||| 1152921504606846976 = lN ((mp &&& 8079457731511058432) ||| 33554432 ||| 1152921504606846976) := wb_or hor (by decide)
    obtain ⟨d2, e2, w2⟩ := c_appBytes (LA := LA) (LE := LE) (n := (mp &&& 8079457731511058432) ||| 33554432 ||| 1152921504606846976) (Nat.or_lt_two_pow hor (by decide)) 8 (by decide) w1 (by rw [amB_len]; decide)
    have e2 : jc_ByteRow_appendBytes_out LA LE d1 (lN ((mp &&& 8079457731511058432) ||| 33554432 ||| 1152921504606846976)) (8 : Int32) = some d2 := e2
    rw [cE_and hbel, cE_by1] at w2
    have es : (if 0 < cg_setNow d2 then cg_setNow d2 else -cg_setNow d2) = lN w := by rw [w2.2, G_setNow_cs_outSize, G_setNow_cs_outB]; exact hsn
    obtain ⟨d3, e3, w3⟩ := c_appDig (LA := LA) (LE := LE) (v := w) (n := 12) hw (by decide) w2 (by rw [List.length_append, amB_len]; simp)
    have e3 : jc_ByteRow_appendDigits_out LA LE d2 (lN w) (12 : Int32) = some d3 := e3
    rw [pkd_bys w 12 (12 / 2) (by decide)] at w3
    have w3 : cW d d3 (amB (ty + 10) 2 ++ [64 * (mp.testBit 62).toNat + 32 * (mp.testBit 61).toNat + 16, 32, 0, 0, 2, 128, 0, 0] ++ amB w 6) := w3
    obtain ⟨d4, e4, w4⟩ := c_tail (LA := LA) (LE := LE) hin hl hb hst h10 hs ha w3 (by rw [List.length_append, List.length_append, amB_len, amB_len]; have := hst5 c; simp; omega)
    refine ⟨d4, ?_, by rw [if_pos c, if_pos c]; exact w4⟩
    rw [if_pos ct, e1, ob_s, m3, e2, ob_s, es, e3, ob_s]
    exact e4
  · have ct : ¬ nI ty = 500 := fun z => c ((nI_eq (b := 500) (by omega) (by decide)).mp z)
    have m3 : lN ((mp &&& 8079457731511058432) ||| 33554432) ||| 0 = lN ((mp &&& 8079457731511058432) ||| 33554432 ||| 0) := wb_or hor (by decide)
    obtain ⟨d2, e2, w2⟩ := c_appBytes (LA := LA) (LE := LE) (n := (mp &&& 8079457731511058432) ||| 33554432 ||| 0) (Nat.or_lt_two_pow hor (by decide)) 8 (by decide) w1 (by rw [amB_len]; decide)
    have e2 : jc_ByteRow_appendBytes_out LA LE d1 (lN ((mp &&& 8079457731511058432) ||| 33554432 ||| 0)) (8 : Int32) = some d2 := e2
    rw [cE_and hbel, cE_by0] at w2
    obtain ⟨d4, e4, w4⟩ := c_tail (LA := LA) (LE := LE) hin hl hb hst h10 hs ha w2 (by rw [List.length_append, amB_len]; simp; omega)
    refine ⟨d4, ?_, by rw [if_neg c, if_neg c, List.append_nil]; exact w4⟩
    rw [if_neg ct, e1, ob_s, m3, e2, ob_s]
    exact e4
/-! the reference's reply -/
theorem m_cp {u0 u : MS} {B : List Nat} (hin : mIn u0 B) (hl : B.length ≤ 120) {mp k p q : Nat} (hk : k < 65) (hpq : p ≤ q) (hq : q ≤ B.length) (hh : mg_has u0 k = hsI mp k) (h1 : mp.testBit (64 - k) = true → mg_from u0 k = nI p ∧ mg_to u0 k = nI q) (h0 : mp.testBit (64 - k) = false → q = p) {O : List Nat} (h : mW u0 u O) (hO : O.length + (q - p) ≤ 80) : ∃ u2, jm_M_copy u (nI k) = some u2 ∧ mW u0 u2 (O ++ tk B p (q - p)) := by
  unfold hsI at hh
  cases c : mp.testBit (64 - k) with
  | true =>
    rw [c, if_pos rfl] at hh
    exact m_copy1 hin hl hk hpq hq (h1 c).1 (h1 c).2 (by rw [hh]; decide) h hO
  | false =>
    rw [c, if_neg (by decide)] at hh
    refine ⟨u, m_copy0 hk hh h, ?_⟩
    rw [h0 c, Nat.sub_self, tk_0, List.append_nil]
    exact h
theorem m_wr8 {u0 u : MS} {O : List Nat} {x : Nat} (h : mW u0 u O) (hO : O.length + 8 ≤ 80) (k : MS → Option MS) : ∃ u2, ((jm_M_write u (nI x)).bind fun e => (jm_M_write e (32 : Int32)).bind fun e => (jm_M_write e (0 : Int32)).bind fun e => (jm_M_write e (0 : Int32)).bind fun e => (jm_M_write e (2 : Int32)).bind fun e => (jm_M_write e (128 : Int32)).bind fun e => (jm_M_write e (0 : Int32)).bind fun e => (jm_M_write e (0 : Int32)).bind k) = k u2 ∧ mW u0 u2 (O ++ [x, 32, 0, 0, 2, 128, 0, 0]) := by
  have L : ∀ (O : List Nat) (b : Nat), (O ++ [b]).length = O.length + 1 := fun O b => by simp
  obtain ⟨u1, e1, w1⟩ := m_wr (b := x) h (by omega)
  obtain ⟨u2, e2, w2⟩ := m_wr (b := 32) w1 (by simp only [L]; omega)
  obtain ⟨u3, e3, w3⟩ := m_wr (b := 0) w2 (by simp only [L]; omega)
  obtain ⟨u4, e4, w4⟩ := m_wr (b := 0) w3 (by simp only [L]; omega)
  obtain ⟨u5, e5, w5⟩ := m_wr (b := 2) w4 (by simp only [L]; omega)
  obtain ⟨u6, e6, w6⟩ := m_wr (b := 128) w5 (by simp only [L]; omega)
  obtain ⟨u7, e7, w7⟩ := m_wr (b := 0) w6 (by simp only [L]; omega)
  obtain ⟨u8, e8, w8⟩ := m_wr (b := 0) w7 (by simp only [L]; omega)
  refine ⟨u8, ?_, by simp only [List.append_assoc, List.cons_append, List.nil_append] at w8; exact w8⟩
  have e2 : jm_M_write u1 (32 : Int32) = some u2 := e2
  have e3 : jm_M_write u2 (0 : Int32) = some u3 := e3
  have e4 : jm_M_write u3 (0 : Int32) = some u4 := e4
  have e5 : jm_M_write u4 (2 : Int32) = some u5 := e5
  have e6 : jm_M_write u5 (128 : Int32) = some u6 := e6
  have e7 : jm_M_write u6 (0 : Int32) = some u7 := e7
  have e8 : jm_M_write u7 (0 : Int32) = some u8 := e8
  rw [e1, ob_s, e2, ob_s, e3, ob_s, e4, ob_s, e5, ob_s, e6, ob_s, e7, ob_s, e8, ob_s]
theorem m_tail {u0 u : MS} {B O : List Nat} {mp p st a : Nat} (hin : mIn u0 B) (hl : B.length ≤ 120) (b53 : mp.testBit 53 = true) (b23 : mp.testBit 23 = true) (hh : ∀ k, 1 ≤ k → k ≤ 64 → mg_has u0 k = hsI mp k) (f11 : mg_from u0 11 = nI p ∧ mg_to u0 11 = nI st) (f41 : mg_from u0 41 = nI st ∧ mg_to u0 41 = nI (st + 4)) (hps : p ≤ st) (hs : st + 4 ≤ B.length) (ha : a < 100) (h : mW u0 u O) (hO : O.length + (st - p) + 6 ≤ 80) : ∃ u2, jm_M_answerWith_B214 u (nI a) = some u2 ∧ mW u0 u2 (O ++ tk B p (st - p) ++ [48 + a / 10] ++ [48 + a % 10] ++ tk B st 4) := by
  have a1 : nI a / 10 = nI (a / 10) := pk_div (d := 10) (by omega) (by decide) (by decide)
  have a2 : nI a - nI a / 10 * 10 = nI (a % 10) := pk_rem (d := 10) (by omega) (by decide) (by decide)
  have a3 : (48 : Int32) + nI (a / 10) = nI (48 + a / 10) := nI_add 48 _
  have a4 : (48 : Int32) + nI (a % 10) = nI (48 + a % 10) := nI_add 48 _
  have hL : (tk B p (st - p)).length = st - p := tk_len (by omega)
  obtain ⟨u1, e1, w1⟩ := m_cp (k := 11) hin hl (by decide) hps (by omega) (hh 11 (by decide) (by decide)) (fun _ => f11) (fun z => by rw [show 64 - 11 = 53 from rfl, b53] at z; cases z) h (by omega)
  have e1 : jm_M_copy u (11 : Int32) = some u1 := e1
  obtain ⟨u2, e2, w2⟩ := m_wr (b := 48 + a / 10) w1 (by rw [List.length_append]; omega)
  obtain ⟨u3, e3, w3⟩ := m_wr (b := 48 + a % 10) w2 (by rw [List.length_append, List.length_append]; simp; omega)
  obtain ⟨u4, e4, w4⟩ := m_cp (k := 41) (p := st) (q := st + 4) hin hl (by decide) (by omega) hs (hh 41 (by decide) (by decide)) (fun _ => f41) (fun z => by rw [show 64 - 41 = 23 from rfl, b23] at z; cases z) w3 (by rw [List.length_append, List.length_append, List.length_append]; simp; omega)
  have e4 : jm_M_copy u3 (41 : Int32) = some u4 := e4
  rw [show st + 4 - st = 4 by omega] at w4
  refine ⟨u4, ?_, w4⟩
  unfold jm_M_answerWith_B214
  rw [e1, ob_s, a1, a3, e2, ob_s, ← a1, a2, a4, e3, ob_s, e4, ob_s]
def mrp (u : MS) (q : RQ) : Prop := mg_type u = nI q.1 ∧ (∀ k, 1 ≤ k → k ≤ 64 → mg_has u k = hsI q.2.1 k) ∧ ∃ F T : Nat → Nat, chn q.2.1 F T q.2.2.2.2.2.2.1 ∧ ∀ k, 1 ≤ k → k ≤ 64 → q.2.1.testBit (64 - k) = true → mg_from u k = nI (F k) ∧ mg_to u k = nI (T k)
theorem m_reply {u : MS} {B : List Nat} {q : RQ} {w a : Nat} (hin : mIn u B) (hl : B.length ≤ 120) (hq : mrp u q) (hbel : belongs q.1 q.2.1) (hty : q.1 < 10000) (hz : q.1 / 10 % 10 = 0) (hs : q.2.2.2.2.2.2.1 + 4 ≤ B.length) (ha : a < 100) (hw : w < 2 ^ 63) (hcl : (if (0 : Int64) ≤ mg_closed u then mg_closed u else -mg_closed u) = lN w) :
    ∃ u2, jm_M_answerWith u (nI a) = some u2 ∧ mW u u2 (outp B q.1 q.2.1 q.2.2.2.2.2.2.1 w a) ∧ 10 ≤ q.2.2.2.2.2.2.1 ∧ q.2.2.2.2.2.2.1 ≤ 31 ∧ (q.1 = 500 → q.2.2.2.2.2.2.1 = 13) := by
  obtain ⟨m1, hh, F, T, ⟨c, s, am, c1, c2, c3, c4, c5, c6, c7, c8, c9, c10, c11, c12, c13, c14, c15, c16, c17, c18⟩, hft⟩ := hq
  generalize q.1 = ty at *
  generalize q.2.1 = mp at *
  generalize q.2.2.2.2.2.2.1 = st at *
  have b53 := bel_yes hbel (Or.inl rfl)
  have b23 := bel_yes hbel (Or.inr rfl)
  have f11 := hft 11 (by decide) (by decide) b53
  have f41 := hft 41 (by decide) (by decide) b23
  rw [c11, c12] at f11
  rw [c13, c14] at f41
  have w0 : mW u (ms_outs u 0) [] := ⟨⟨rfl, isL_nil⟩, rfl⟩
  have t0 : mg_type (ms_outs u 0) = nI ty := m1
  have t1 : nI ty + 10 = nI (ty + 10) := nI_add ty 10
  have k1 : nI (ty + 10) / 1000 = nI ((ty + 10) / 1000) := pk_div (d := 1000) (by omega) (by decide) (by decide)
  have k2 : nI (ty + 10) / 100 = nI ((ty + 10) / 100) := pk_div (d := 100) (by omega) (by decide) (by decide)
  have k3 : nI ((ty + 10) / 100) - nI ((ty + 10) / 100) / 10 * 10 = nI ((ty + 10) / 100 % 10) := pk_rem (d := 10) (by omega) (by decide) (by decide)
  have k4 : nI (ty + 10) / 10 = nI ((ty + 10) / 10) := pk_div (d := 10) (by omega) (by decide) (by decide)
  have k5 : nI ((ty + 10) / 10) - nI ((ty + 10) / 10) / 10 * 10 = nI ((ty + 10) / 10 % 10) := pk_rem (d := 10) (by omega) (by decide) (by decide)
  have k6 : nI (ty + 10) - nI ((ty + 10) / 10) * 10 = nI ((ty + 10) % 10) := by
    rw [← k4]
    exact pk_rem (d := 10) (by omega) (by decide) (by decide)
  have k7 : (16 : Int32) * nI ((ty + 10) / 1000) = nI (16 * ((ty + 10) / 1000)) := pk_mul 16 _
  have k8 : (16 : Int32) * nI ((ty + 10) / 10 % 10) = nI (16 * ((ty + 10) / 10 % 10)) := pk_mul 16 _
  obtain ⟨u1, e1, w1⟩ := m_wr (b := 16 * ((ty + 10) / 1000) + (ty + 10) / 100 % 10) w0 (by decide)
  obtain ⟨u2, e2, w2⟩ := m_wr (b := 16 * ((ty + 10) / 10 % 10) + (ty + 10) % 10) w1 (by simp)
  have eam : ([] ++ [16 * ((ty + 10) / 1000) + (ty + 10) / 100 % 10]) ++ [16 * ((ty + 10) / 10 % 10) + (ty + 10) % 10] = amB (ty + 10) 2 := by
    show [_, _] = [16 * ((ty + 10) / 10 ^ (2 * 1 + 1) % 10) + (ty + 10) / 10 ^ (2 * 1) % 10, 16 * ((ty + 10) / 10 ^ (2 * 0 + 1) % 10) + (ty + 10) / 10 ^ (2 * 0) % 10]
    congr 1
    · have p1 : (10 : Nat) ^ (2 * 1 + 1) = 1000 := by decide
      have p2 : (10 : Nat) ^ (2 * 1) = 100 := by decide
      rw [p1, p2]
      omega
    · congr 1
      have p1 : (10 : Nat) ^ (2 * 0 + 1) = 10 := by decide
      have p2 : (10 : Nat) ^ (2 * 0) = 1 := by decide
      rw [p1, p2]
      omega
  rw [eam] at w2
  have has_e : ∀ k, 1 ≤ k → k ≤ 64 → ∀ v : MS, ∀ O : List Nat, mW u v O → mg_has v k = hsI mp k := fun k h1 h2 v O hv => by
    rw [hv.2, G_has_ms_outs, G_has_ms_out]
    exact hh k h1 h2
  have g4 : ¬ ((4 : Int32) < 0 ∨ 65 ≤ ((4 : Int32)).toNatClampNeg) := by decide
  have g3 : ¬ ((3 : Int32) < 0 ∨ 65 ≤ ((3 : Int32)).toNatClampNeg) := by decide
  have g2 : ¬ ((2 : Int32) < 0 ∨ 65 ≤ ((2 : Int32)).toNatClampNeg) := by decide
  have h4 : mg_has u2 ((4 : Int32)).toNatClampNeg = hsI mp 4 := has_e 4 (by decide) (by decide) u2 _ w2
  have h3 : mg_has u2 ((3 : Int32)).toNatClampNeg = hsI mp 3 := has_e 3 (by decide) (by decide) u2 _ w2
  have h2 : mg_has u2 ((2 : Int32)).toNatClampNeg = hsI mp 2 := has_e 2 (by decide) (by decide) u2 _ w2
  have ty2 : ∀ v : MS, ∀ O : List Nat, mW u v O → mg_type v = nI ty := fun v O hv => by rw [hv.2, G_type_ms_outs, G_type_ms_out]; exact m1
  have q5 : nI ty = 500 ↔ ty = 500 := nI_eq (a := ty) (b := 500) (by omega) (by decide)
  have five : ty = 500 → mp.testBit 62 = false ∧ mp.testBit 61 = false ∧ mp.testBit 60 = false := fun z => by
    have en : nall ty = 18446744073709551615 - 9007199263195136 := by rw [z]; rfl
    have key : ∀ i, (i = 62 ∨ i = 61 ∨ i = 60) → mp.testBit i = false := fun i hi => by
      have e := congrArg (fun x => Nat.testBit x i) hbel.2
      try dsimp only at e
      have ht : (nall ty).testBit i = true := by
        rw [en]
        rcases hi with rfl | rfl | rfl <;> decide +kernel
      rw [Nat.testBit_and, ht, Bool.and_true, Nat.zero_testBit] at e
      exact e
    exact ⟨key 62 (Or.inl rfl), key 61 (Or.inr (Or.inl rfl)), key 60 (Or.inr (Or.inr rfl))⟩
  obtain ⟨X, hX⟩ : ∃ X, X = 64 * (mp.testBit 62).toNat + 32 * (mp.testBit 61).toNat + (if ty = 500 then 16 else 16 * (mp.testBit 60).toNat) := ⟨_, rfl⟩
  -- the eight bytes, then the fields
  have rest : ∃ u9, ((jm_M_write u2 (nI X)).bind fun e => (jm_M_write e (32 : Int32)).bind fun e => (jm_M_write e (0 : Int32)).bind fun e => (jm_M_write e (0 : Int32)).bind fun e => (jm_M_write e (2 : Int32)).bind fun e => (jm_M_write e (128 : Int32)).bind fun e => (jm_M_write e (0 : Int32)).bind fun e => (jm_M_write e (0 : Int32)).bind fun e => (jm_M_copy e (2 : Int32)).bind fun e => (jm_M_copy e (3 : Int32)).bind fun e => if mg_type e = (500 : Int32) then (if (0 : Int64) ≤ mg_closed e then (jm_M_writeAmount e (mg_closed e)).bind fun e => jm_M_answerWith_B214 e (nI a) else (jm_M_writeAmount e (-(mg_closed e))).bind fun e => jm_M_answerWith_B214 e (nI a)) else (jm_M_copy e (4 : Int32)).bind fun e => jm_M_answerWith_B214 e (nI a)) = some u9 ∧ mW u u9 (outp B ty mp st w a) := by
    obtain ⟨u3, e3, w3⟩ := m_wr8 (x := X) w2 (by rw [amB_len]; decide) (fun e => (jm_M_copy e (2 : Int32)).bind fun e => (jm_M_copy e (3 : Int32)).bind fun e => if mg_type e = (500 : Int32) then (if (0 : Int64) ≤ mg_closed e then (jm_M_writeAmount e (mg_closed e)).bind fun e => jm_M_answerWith_B214 e (nI a) else (jm_M_writeAmount e (-(mg_closed e))).bind fun e => jm_M_answerWith_B214 e (nI a)) else (jm_M_copy e (4 : Int32)).bind fun e => jm_M_answerWith_B214 e (nI a))
    rw [e3]
    have hc2 : mp.testBit (64 - 2) = true → mg_from u 2 = nI 10 ∧ mg_to u 2 = nI c := fun z => by
      have := hft 2 (by decide) (by decide) z
      rw [(c5 z).1, (c5 z).2] at this
      exact this
    have hc3 : mp.testBit (64 - 3) = true → mg_from u 3 = nI c ∧ mg_to u 3 = nI s := fun z => by
      have := hft 3 (by decide) (by decide) z
      rw [(c7 z).1, (c7 z).2] at this
      exact this
    have hc4 : mp.testBit (64 - 4) = true → mg_from u 4 = nI s ∧ mg_to u 4 = nI am := fun z => by
      have := hft 4 (by decide) (by decide) z
      rw [(c9 z).1, (c9 z).2] at this
      exact this
    obtain ⟨u4, e4, w4⟩ := m_cp (k := 2) (p := 10) (q := c) hin hl (by decide) c1 (by omega) (hh 2 (by decide) (by decide)) hc2 (fun z => c6 z) w3 (by rw [List.length_append, amB_len]; simp; omega)
    have e4 : jm_M_copy u3 (2 : Int32) = some u4 := e4
    have l4 : (tk B 10 (c - 10)).length = c - 10 := tk_len (by omega)
    obtain ⟨u5, e5, w5⟩ := m_cp (k := 3) (p := c) (q := s) hin hl (by decide) c2 (by omega) (hh 3 (by decide) (by decide)) hc3 (fun z => c8 z) w4 (by rw [List.length_append, List.length_append, amB_len, l4]; simp; omega)
    have e5 : jm_M_copy u4 (3 : Int32) = some u5 := e5
    have l5 : (tk B c (s - c)).length = s - c := tk_len (by omega)
    try dsimp only
    rw [e4, ob_s, e5, ob_s, ty2 u5 _ w5]
    by_cases z5 : ty = 500
    · obtain ⟨y1, y2, y3⟩ := five z5
      have hc : c = 10 := c6 y1
      have hs2 : s = c := c8 y2
      have ha2 : am = s := c10 y3
      have ecl : mg_closed u5 = mg_closed u := by rw [w5.2, G_closed_ms_outs, G_closed_ms_out]
      obtain ⟨u6, e6, w6⟩ := m_wAm hw w5 (by rw [List.length_append, List.length_append, List.length_append, amB_len, l4, l5]; simp; omega)
      obtain ⟨u7, e7, w7⟩ := m_tail (p := am) hin hl b53 b23 hh f11 f41 c4 hs ha w6 (by rw [List.length_append, List.length_append, List.length_append, List.length_append, amB_len, amB_len, l4, l5]; simp; omega)
      refine ⟨u7, ?_, ?_⟩
      · rw [if_pos (q5.mpr z5), ecl]
        by_cases cs : (0 : Int64) ≤ mg_closed u
        · rw [if_pos cs] at hcl ⊢
          rw [hcl, e6, ob_s, e7]
        · rw [if_neg cs] at hcl ⊢
          rw [hcl, e6, ob_s, e7]
      · unfold outp
        rw [← hX, if_pos z5]
        have t1 : tk B 10 (c - 10) = [] := by rw [hc]; exact tk_0 B 10
        have t2 : tk B c (s - c) = [] := by rw [hs2, Nat.sub_self]; exact tk_0 B c
        rw [t1, t2, List.append_nil, List.append_nil] at w7
        have t3 : am = 10 := by omega
        rw [t3] at w7
        exact w7
    · obtain ⟨u6, e6, w6⟩ := m_cp (k := 4) (p := s) (q := am) hin hl (by decide) c3 (by omega) (hh 4 (by decide) (by decide)) hc4 (fun z => c10 z) w5 (by rw [List.length_append, List.length_append, List.length_append, amB_len, l4, l5]; simp; omega)
      have e6 : jm_M_copy u5 (4 : Int32) = some u6 := e6
      have l6 : (tk B s (am - s)).length = am - s := tk_len (by omega)
      obtain ⟨u7, e7, w7⟩ := m_tail (p := am) hin hl b53 b23 hh f11 f41 c4 hs ha w6 (by rw [List.length_append, List.length_append, List.length_append, List.length_append, amB_len, l4, l5, l6]; simp; omega)
      refine ⟨u7, ?_, ?_⟩
      · rw [if_neg (fun z => z5 (q5.mp z)), e6, ob_s, e7]
      · unfold outp
        rw [← hX, if_neg z5, List.append_nil]
        have j1 : tk B 10 (c - 10) ++ tk B c (s - c) = tk B 10 (s - 10) := by
          have := tk_app (B := B) (p := 10) (m := c - 10) (n := s - c)
          rw [show 10 + (c - 10) = c by omega, show c - 10 + (s - c) = s - 10 by omega] at this
          exact this
        have j2 : tk B 10 (s - 10) ++ tk B s (am - s) = tk B 10 (am - 10) := by
          have := tk_app (B := B) (p := 10) (m := s - 10) (n := am - s)
          rw [show 10 + (s - 10) = s by omega, show s - 10 + (am - s) = am - 10 by omega] at this
          exact this
        have j3 : tk B 10 (am - 10) ++ tk B am (st - am) = tk B 10 (st - 10) := by
          have := tk_app (B := B) (p := 10) (m := am - 10) (n := st - am)
          rw [show 10 + (am - 10) = am by omega, show am - 10 + (st - am) = st - 10 by omega] at this
          exact this
        have j : ∀ P : List Nat, P ++ tk B 10 (c - 10) ++ tk B c (s - c) ++ tk B s (am - s) ++ tk B am (st - am) = P ++ tk B 10 (st - 10) := fun P => by rw [List.append_assoc P, j1, List.append_assoc P, j2, List.append_assoc P, j3]
        rw [j] at w7
        exact w7
  obtain ⟨u9, e9, w9⟩ := rest
  refine ⟨u9, ?_, w9, by omega, by omega, fun z => ?_⟩
  · unfold jm_M_answerWith
    rw [nmd_e, t0, t1, k1, k2, k3, k4, k5, k6, k7, k8, nI_add, e1, ob_s, nI_add, e2, ob_s, if_pos g4, h4, ty2 u2 _ w2]
    have b119 : ∀ (y0 y1 : Int32), y1 + y0 = nI X → jm_M_answerWith_B119 u2 (nI a) y0 y1 = some u9 := fun y0 y1 hy => by
      unfold jm_M_answerWith_B119
      rw [hy]
      exact e9
    have fin_ : ∀ (x3 : Int32), (x3 = if ty = 500 then 1 else hsI mp 4) → jm_M_answerWith_B76 u2 (nI a) x3 = some u9 := fun x3 hx => by
      unfold jm_M_answerWith_B76 jm_M_answerWith_B93 jm_M_answerWith_B108
      rw [if_pos g2, h2, if_pos g3, h3]
      have hx4 : hsI mp 4 = if mp.testBit 60 = true then 1 else 0 := rfl
      have hx3 : hsI mp 3 = if mp.testBit 61 = true then 1 else 0 := rfl
      have hx2 : hsI mp 2 = if mp.testBit 62 = true then 1 else 0 := rfl
      rw [hx, hx2, hx3, hx4]
      by_cases z5 : ty = 500
      · rw [if_pos z5] at hX ⊢
        cases e62 : mp.testBit 62 <;> cases e61 : mp.testBit 61 <;> exact b119 _ _ (by rw [hX, e62, e61]; rfl)
      · rw [if_neg z5] at hX ⊢
        cases e62 : mp.testBit 62 <;> cases e61 : mp.testBit 61 <;> cases e60 : mp.testBit 60 <;> exact b119 _ _ (by rw [hX, e62, e61, e60]; rfl)
    by_cases z5 : ty = 500
    · obtain ⟨y1, y2, y3⟩ := five z5
      have e0 : hsI mp 4 = 0 := by
        show (if mp.testBit 60 = true then (1 : Int32) else 0) = 0
        rw [y3]
        rfl
      rw [if_pos e0, if_pos (q5.mpr z5)]
      exact fin_ 1 (by rw [if_pos z5])
    · by_cases e0 : hsI mp 4 = 0
      · rw [if_pos e0, if_neg (fun z => z5 (q5.mp z))]
        exact fin_ 0 (by rw [if_neg z5, e0])
      · rw [if_neg e0]
        refine fin_ 1 ?_
        rw [if_neg z5]
        have : hsI mp 4 = if mp.testBit 60 = true then 1 else 0 := rfl
        rw [this] at e0 ⊢
        by_cases z : mp.testBit 60 = true
        · rw [if_pos z]
        · rw [if_neg z] at e0
          exact absurd rfl e0
  · obtain ⟨y1, y2, y3⟩ := five z
    have hc : c = 10 := c6 y1
    have hs2 : s = c := c8 y2
    have ha2 : am = s := c10 y3
    omega
