/-! open, feed -/
theorem l_nlt {x y : Int64} : ¬ x < y ↔ y ≤ x := by rw [Int64.lt_iff_toInt_lt, Int64.le_iff_toInt_le]; omega
theorem l_nle {x y : Int64} : ¬ x ≤ y ↔ y < x := by rw [Int64.lt_iff_toInt_lt, Int64.le_iff_toInt_le]; omega
theorem i_nlt {x y : Int32} : ¬ x < y ↔ y ≤ x := by rw [Int32.lt_iff_toInt_lt, Int32.le_iff_toInt_le]; omega
theorem i_nle {x y : Int32} : ¬ x ≤ y ↔ y < x := by rw [Int32.lt_iff_toInt_lt, Int32.le_iff_toInt_le]; omega
theorem wf_up {t : Nat} {K : List CA} {J : List CE} {nw : Nat} {B O : List Nat} (h : wf t K J nw B O) : wf (t + 1) K J nw B O := by
  obtain ⟨w1, w2, w3, w4, w5, w6, w7, w8⟩ := h
  exact ⟨w1, w2, by omega, w4, w5, w6, w7, w8⟩
theorem relS_up {LA LE : List Nat} {t : Nat} {d : CS} {u : MS} (h : relS LA LE t d u) : relS LA LE (t + 1) d u := by
  obtain ⟨ac, ln, K, J, nw, B, O, hw, h⟩ := h
  exact ⟨ac, ln, K, J, nw, B, O, wf_up hw, h⟩
theorem c_add_no {LA LE : List Nat} {ac : Nat → Nat} {d : CS} {K : List CA} (h : cKd LA ac d K) (hl : K.length ≤ 6) {c b : Int64} {j : Nat} (hk : kx K c = some j) : jc_Cards_add LA LE d c b = some (0, d) := by
  obtain ⟨hj, hc⟩ := kx_some hk
  unfold jc_Cards_add
  rw [h.1]
  by_cases c1 : (6 : Int32) ≤ nI K.length
  · rw [if_pos c1]
  · have em : ∀ (k : Option (Int32 × CS)) (f : Nat → Option (Int32 × CS)), oq LA (Option.map ac (some j)) k f = f (ac j) := fun k f => oq_s rfl (h.2.1 j (by omega)).2
    rw [if_neg c1, c_find h hl c, hk, ob_s, em]
theorem c_add_full {LA LE : List Nat} {ac : Nat → Nat} {d : CS} {K : List CA} (h : cKd LA ac d K) (hl : K.length = 6) {c b : Int64} : jc_Cards_add LA LE d c b = some (0, d) := by
  unfold jc_Cards_add
  rw [h.1, hl, if_pos (show (6 : Int32) ≤ nI 6 by decide)]
theorem c_add_yes {LA LE : List Nat} {ac : Nat → Nat} {d : CS} {K : List CA} (h : cKd LA ac d K) (hl : K.length < 6) {c b : Int64} (hk : kx K c = none) : jc_Cards_add LA LE d c b = some (1, cs_cCount (acc_set_bal (acc_set_card d (ac K.length) c) (ac K.length) b) (nI K.length + 1)) := by
  unfold jc_Cards_add
  have e0 : cg_cCount (acc_set_card d (ac K.length) c) = nI K.length := h.1
  have e2 : cg_cCount (acc_set_bal (acc_set_card d (ac K.length) c) (ac K.length) b) = nI K.length := h.1
  have e1 : cg_accs (acc_set_card d (ac K.length) c) K.length = some (ac K.length) := (h.2.1 _ hl).1
  rw [h.1, if_neg (show ¬ (6 : Int32) ≤ _ from nI_ge (b := 6) hl (by decide)), c_find h (by omega) c, hk, ob_s]
  have en : ∀ (k : Option (Int32 × CS)) (f : Nat → Option (Int32 × CS)), oq LA (Option.map ac none) k f = k := fun k f => rfl
  rw [en, git hl (by decide), nI_clamp (by omega), gq_e (h.2.1 _ hl).1 (h.2.1 _ hl).2, nmd_e, e0, git hl (by decide), nI_clamp (by omega), gq_e e1 (h.2.1 _ hl).2, nmd_e, nmd_e, e2]
theorem s_open {LA LE : List Nat} {t : Nat} {d : CS} {u : MS} (h : relS LA LE t d u) (c b : Int64) : ∃ r d2 u2, jc_D_open LA LE d c b = some (r, d2) ∧ jm_M_open u c b = some (r, u2) ∧ relS LA LE (t + 1) d2 u2 := by
  have hstay := relS_up h
  obtain ⟨ac, ln, K, J, nw, B, O, hw, hcK, hcJ, hct, hcB, hcO, hmK, hmJ, hmt, hmB, hmO, hs⟩ := h
  unfold jc_D_open jm_M_open
  rw [m_find hmK hw.1 c, ob_s]
  by_cases a1 : c < 1
  · rw [if_pos a1, if_pos a1]
    refine ⟨_, _, u, rfl, ?_, hstay⟩
    rw [ite_self]
  rw [if_neg a1, if_neg a1]
  by_cases a2 : (9999999999999999 : Int64) < c
  · rw [if_pos a2, if_pos a2]
    refine ⟨_, _, u, rfl, ?_, hstay⟩
    rw [ite_self]
  rw [if_neg a2, if_neg a2]
  by_cases a3 : b < 0
  · rw [if_pos a3, if_pos a3]
    refine ⟨_, _, u, rfl, ?_, hstay⟩
    rw [ite_self]
  rw [if_neg a3, if_neg a3]
  by_cases a4 : b ≤ 1000000000000
  · rw [if_pos a4, if_neg (l_nlt.mpr a4)]
    cases hk : kx K c with
    | some j =>
      obtain ⟨hj, -⟩ := kx_some hk
      have := hw.1
      rw [c_add_no hcK hw.1 hk, ob_s]
      dsimp only
      rw [if_pos (Or.inl rfl), if_pos (nI_pos' (by omega))]
      exact ⟨_, _, _, rfl, rfl, hstay⟩
    | none =>
      dsimp only
      rw [if_neg (by decide), hmK.1]
      by_cases a5 : K.length = 6
      · rw [c_add_full hcK a5, ob_s, a5]
        dsimp only
        rw [if_pos (Or.inl rfl), if_pos (show nI 6 = 6 from rfl)]
        exact ⟨_, _, _, rfl, rfl, hstay⟩
      · have hl : K.length < 6 := by have := hw.1; omega
        have e0 : mg_many (ms_cards u (vp_updL (mg_cards u) K.length c)) = nI K.length := hmK.1
        have e1 : mg_many (ms_balances (ms_cards u (vp_updL (mg_cards u) K.length c)) (vp_updL (mg_balances (ms_cards u (vp_updL (mg_cards u) K.length c))) K.length b)) = nI K.length := hmK.1
        rw [c_add_yes hcK hl hk, ob_s]
        dsimp only
        rw [if_pos (Or.inr rfl), if_neg (show ¬ _ = (6 : Int32) from fun q => a5 ((nI_eq (b := 6) (by omega) (by decide)).mp q)), git hl (by decide), nI_clamp (by omega), nmd_e, e0, git hl (by decide), nI_clamp (by omega), nmd_e, nmd_e, e1]
        refine ⟨_, _, _, rfl, rfl, ac, ln, K ++ [(c, b)], J, nw, B, O, ?_, ?_, k_cJo_cs_cCount (k_cJo_acc_set_bal (k_cJo_acc_set_card hcJ)), hct, k_cIn_cs_cCount (k_cIn_acc_set_bal (k_cIn_acc_set_card hcB)), k_cOu_cs_cCount (k_cOu_acc_set_bal (k_cOu_acc_set_card hcO)), ?_, k_mJo_ms_many (k_mJo_ms_balances (k_mJo_ms_cards hmJ)), hmt, k_mIn_ms_many (k_mIn_ms_balances (k_mIn_ms_cards hmB)), k_mOu_ms_many (k_mOu_ms_balances (k_mOu_ms_cards hmO)), hs⟩
        · obtain ⟨w1, w2, w3, w4, w5, w6, w7, w8⟩ := hw
          exact ⟨by rw [List.length_append]; simp; omega, w2, by omega, w4, w5, w6, w7, w8⟩
        · refine ⟨?_, ?_, hcK.2.2.1, isL_put hcK.2.2.2 (fun j hj => ?_) ?_⟩
          · show nI K.length + 1 = _
            rw [nI_1, List.length_append]
            rfl
          · rw [G_accs_cs_cCount, G_accs_acc_set_bal, G_accs_acc_set_card]
            exact hcK.2.1
          · have hne : ac j ≠ ac K.length := fun q => by
              have := hcK.2.2.1 j K.length (by omega) hl q
              omega
            show va_up (va_up (cg_acc d) (ac K.length) _) (ac K.length) _ (ac j) = cg_acc d (ac j)
            rw [va_up_ne _ _ hne, va_up_ne _ _ hne]
          · show va_up (va_up (cg_acc d) (ac K.length) (c, (cg_acc d (ac K.length)).2)) (ac K.length) ((va_up (cg_acc d) (ac K.length) (c, (cg_acc d (ac K.length)).2) (ac K.length)).1, b) (ac K.length) = (c, b)
            rw [va_up_self, va_up_self]
        · refine ⟨?_, isL_put hmK.2 (fun j hj => ?_) ?_⟩
          · show nI K.length + 1 = _
            rw [nI_1, List.length_append]
            rfl
          · show (vp_updL (mg_cards u) K.length c j, vp_updL (mg_balances u) K.length b j) = (mg_cards u j, mg_balances u j)
            rw [pk_uLn (by omega), pk_uLn (by omega)]
          · show (vp_updL (mg_cards u) K.length c K.length, vp_updL (mg_balances u) K.length b K.length) = (c, b)
            rw [pk_uLs, pk_uLs]
  · rw [if_neg a4, if_pos (l_nle.mp a4)]
    refine ⟨_, _, u, rfl, ?_, hstay⟩
    rw [ite_self]
/-- byte i of a long -/
def by8 (n i : Nat) : Nat := n / 2 ^ (8 * i) % 256
theorem by8_lt (n i : Nat) : by8 n i < 256 := Nat.mod_lt _ (by decide)
theorem nI_255 (q : Nat) : nI q &&& 255 = nI (q % 256) := by
  rw [pk_and (nI q) (m := 255) 8 rfl]
  congr 1
  show (BitVec.ofNat 32 q).toNat % 2 ^ 8 = _
  rw [BitVec.toNat_ofNat]
  omega
theorem by8_c {n : Nat} (hn : n < 2 ^ 64) {i : Nat} (hi : i < 8) : (((lN n).toUInt64 >>> (((8 : Int32) * nI i).toInt64.toUInt64 &&& Int64.toUInt64 63)).toInt64).toInt32 &&& 255 = nI (by8 n i) := by
  have e8 : (8 : Int32) * nI i = nI (8 * i) := pk_mul 8 i
  rw [e8, wb_shr hn (by omega), lN_i, nI_255]
  rfl
theorem lN_int {m : Nat} (h : m < 2 ^ 64) : (lN m).toInt = if m < 2 ^ 63 then (m : Int) else (m : Int) - 2 ^ 64 := by
  show (BitVec.ofNat 64 m).toInt = _
  rw [BitVec.toInt_eq_toNat_cond, BitVec.toNat_ofNat, Nat.mod_eq_of_lt h]
  by_cases c : m < 2 ^ 63
  · rw [if_pos c, if_pos (by omega)]
  · rw [if_neg c, if_neg (by omega)]
    rfl
theorem by8_m {n : Nat} (hn : n < 2 ^ 64) {i : Nat} (hi : i < 8) : ((lN n >>> (((8 : Int32) * nI i).toInt64 &&& 63)) &&& 255).toInt32 = nI (by8 n i) := by
  have e8 : (8 : Int32) * nI i = nI (8 * i) := pk_mul 8 i
  rw [e8]
  obtain ⟨y, hy, ey⟩ := wb_of (lN n >>> ((nI (8 * i)).toInt64 &&& 63))
  have e1 := Jvm.Kit.i64_shr (lN n) ((nI (8 * i)).toInt64 &&& 63) (k := 8 * i) (by rw [wb_c _ (by omega), wb_tb, wb_sm _ (by omega), BitVec.toNat_ofNat]; omega)
  rw [ey] at e1 ⊢
  rw [lN_int hy, lN_int hn] at e1
  have e3 : lN y &&& 255 = lN (y % 2 ^ 8) := wb_mask (k := 8) hy (by decide)
  rw [e3, lN_i]
  congr 1
  unfold by8
  have hc : i = 0 ∨ i = 1 ∨ i = 2 ∨ i = 3 ∨ i = 4 ∨ i = 5 ∨ i = 6 ∨ i = 7 := by omega
  rcases hc with rfl | rfl | rfl | rfl | rfl | rfl | rfl | rfl
  · have p1 : (2 : Int) ^ (8 * 0) = 1 := by decide
    have p2 : (2 : Nat) ^ (8 * 0) = 1 := by decide
    rw [p1] at e1
    rw [p2]
    by_cases a : y < 2 ^ 63 <;> by_cases b : n < 2 ^ 63 <;> simp only [a, b, if_true, if_false] at e1 <;> omega
  · have p1 : (2 : Int) ^ (8 * 1) = 256 := by decide
    have p2 : (2 : Nat) ^ (8 * 1) = 256 := by decide
    rw [p1] at e1
    rw [p2]
    by_cases a : y < 2 ^ 63 <;> by_cases b : n < 2 ^ 63 <;> simp only [a, b, if_true, if_false] at e1 <;> omega
  · have p1 : (2 : Int) ^ (8 * 2) = 65536 := by decide
    have p2 : (2 : Nat) ^ (8 * 2) = 65536 := by decide
    rw [p1] at e1
    rw [p2]
    by_cases a : y < 2 ^ 63 <;> by_cases b : n < 2 ^ 63 <;> simp only [a, b, if_true, if_false] at e1 <;> omega
  · have p1 : (2 : Int) ^ (8 * 3) = 16777216 := by decide
    have p2 : (2 : Nat) ^ (8 * 3) = 16777216 := by decide
    rw [p1] at e1
    rw [p2]
    by_cases a : y < 2 ^ 63 <;> by_cases b : n < 2 ^ 63 <;> simp only [a, b, if_true, if_false] at e1 <;> omega
  · have p1 : (2 : Int) ^ (8 * 4) = 4294967296 := by decide
    have p2 : (2 : Nat) ^ (8 * 4) = 4294967296 := by decide
    rw [p1] at e1
    rw [p2]
    by_cases a : y < 2 ^ 63 <;> by_cases b : n < 2 ^ 63 <;> simp only [a, b, if_true, if_false] at e1 <;> omega
  · have p1 : (2 : Int) ^ (8 * 5) = 1099511627776 := by decide
    have p2 : (2 : Nat) ^ (8 * 5) = 1099511627776 := by decide
    rw [p1] at e1
    rw [p2]
    by_cases a : y < 2 ^ 63 <;> by_cases b : n < 2 ^ 63 <;> simp only [a, b, if_true, if_false] at e1 <;> omega
  · have p1 : (2 : Int) ^ (8 * 6) = 281474976710656 := by decide
    have p2 : (2 : Nat) ^ (8 * 6) = 281474976710656 := by decide
    rw [p1] at e1
    rw [p2]
    by_cases a : y < 2 ^ 63 <;> by_cases b : n < 2 ^ 63 <;> simp only [a, b, if_true, if_false] at e1 <;> omega
  · have p1 : (2 : Int) ^ (8 * 7) = 72057594037927936 := by decide
    have p2 : (2 : Nat) ^ (8 * 7) = 72057594037927936 := by decide
    rw [p1] at e1
    rw [p2]
    by_cases a : y < 2 ^ 63 <;> by_cases b : n < 2 ^ 63 <;> simp only [a, b, if_true, if_false] at e1 <;> omega

/-- n's bytes, the highest of the lowest k first -/
def by8s (n : Nat) : Nat → List Nat
  | 0 => []
  | k + 1 => by8 n k :: by8s n k
theorem by8s_len (n : Nat) : ∀ k, (by8s n k).length = k
  | 0 => rfl
  | k + 1 => by show (by8s n k).length + 1 = _; rw [by8s_len n k]
theorem by8s_lt (n : Nat) : ∀ k, ∀ b ∈ by8s n k, b < 256
  | 0 => by intro b h; cases h
  | k + 1 => by
    intro b h
    rcases List.mem_cons.mp h with rfl | h
    · exact by8_lt _ _
    · exact by8s_lt n k b h
theorem m1_n1 : nI 0 - 1 = (-1 : Int32) := by decide
theorem nI_dn (k : Nat) : nI (k + 1) - 1 = nI k := nI_pred k
/-- one byte more into the class's row -/
theorem c_app_in {LA LE : List Nat} {d : CS} {B : List Nat} {x : Int32} {b : Nat} (h : cIn d B) (hl : B.length < 120) (hx : x &&& 255 = nI b) : ∃ d2, jc_ByteRow_append_in LA LE d x = some d2 ∧ cIn d2 (B ++ [b]) ∧ d2 = cs_inSize (cs_inB d (cg_inB d2)) (cg_inSize d2) := by
  unfold jc_ByteRow_append_in
  rw [h.1, if_neg (show ¬ (120 : Int32) ≤ _ from nI_ge (b := 120) hl (by decide)), git hl (by decide), nI_clamp (by omega), nmd_e, nmd_e]
  refine ⟨_, rfl, ⟨?_, ?_⟩, rfl⟩
  · show cg_inSize d + 1 = _
    rw [h.1, nI_1, List.length_append]
    rfl
  · rw [List.map_append]
    have hL : (B.map nI).length = B.length := List.length_map ..
    refine isL_put h.2 (fun j hj => ?_) ?_
    · show upd (cg_inB d) B.length (x &&& 255) j = _
      rw [pk_un (by omega)]
    · show upd (cg_inB d) B.length (x &&& 255) (B.map nI).length = _
      rw [hL, pk_us, hx]
theorem c_feed_loop {LA LE : List Nat} {n : Nat} (hn : n < 2 ^ 64) {d0 : CS} : ∀ (k : Nat) (d : CS) (B : List Nat) (f : Nat), k ≤ 8 → k < f → cIn d B → d = cs_inSize (cs_inB d0 (cg_inB d)) (cg_inSize d) → B.length + k ≤ 120 → ∃ d2, loopF (jc_ByteRow_appendBytes_in_L5 LA LE (lN n)) f (d, nI k - 1) = some d2 ∧ cIn d2 (B ++ by8s n k) ∧ d2 = cs_inSize (cs_inB d0 (cg_inB d2)) (cg_inSize d2) := by
  intro k
  induction k with
  | zero =>
    intro d B f hk hf h h0 hB
    obtain ⟨g, rfl⟩ : ∃ g, f = g + 1 := ⟨f - 1, by omega⟩
    refine ⟨d, ?_, by rw [show by8s n 0 = [] from rfl, List.append_nil]; exact h, h0⟩
    show jc_ByteRow_appendBytes_in_L5 LA LE (lN n) _ (d, nI 0 - 1) = _
    unfold jc_ByteRow_appendBytes_in_L5
    dsimp only
    rw [if_pos (by decide)]
  | succ k ih =>
    intro d B f hk hf h h0 hB
    obtain ⟨g, rfl⟩ : ∃ g, f = g + 1 := ⟨f - 1, by omega⟩
    obtain ⟨d1, e1, h1, h2⟩ := c_app_in (LA := LA) (LE := LE) (b := by8 n k) h (by omega) (by8_c hn (i := k) (by omega))
    have h3 : d1 = cs_inSize (cs_inB d0 (cg_inB d1)) (cg_inSize d1) := by
      rw [h2, h0]
      rfl
    obtain ⟨d2, e2, h4, h5⟩ := ih d1 (B ++ [by8 n k]) g (by omega) (by omega) h1 h3 (by rw [List.length_append]; simp; omega)
    refine ⟨d2, ?_, by rw [show by8s n (k + 1) = [by8 n k] ++ by8s n k from rfl, ← List.append_assoc]; exact h4, h5⟩
    show jc_ByteRow_appendBytes_in_L5 LA LE (lN n) (loopF _ g) (d, nI (k + 1) - 1) = _
    unfold jc_ByteRow_appendBytes_in_L5
    dsimp only
    rw [nI_dn, if_neg (nI_pos (by omega)), e1, ob_s]
    have e3 : nI k + (-1) = nI k - 1 := by grind
    rw [e3]
    exact e2
theorem m_feed_loop {n : Nat} (hn : n < 2 ^ 64) {u0 : MS} : ∀ (k : Nat) (u : MS) (B : List Nat) (f : Nat), k ≤ 8 → k < f → mIn u B → u = ms_ins (ms_in u0 (mg_in u)) (mg_ins u) → B.length + k ≤ 120 → ∃ u2, loopF (jm_M_feed_L29 (lN n)) f (u, nI k - 1) = some (nI (B.length + k), u2) ∧ mIn u2 (B ++ by8s n k) ∧ u2 = ms_ins (ms_in u0 (mg_in u2)) (mg_ins u2) := by
  intro k
  induction k with
  | zero =>
    intro d B f hk hf h h0 hB
    obtain ⟨g, rfl⟩ : ∃ g, f = g + 1 := ⟨f - 1, by omega⟩
    refine ⟨d, ?_, by rw [show by8s n 0 = [] from rfl, List.append_nil]; exact h, h0⟩
    show jm_M_feed_L29 (lN n) _ (d, nI 0 - 1) = _
    unfold jm_M_feed_L29
    dsimp only
    rw [if_pos (by decide), h.1]
    rfl
  | succ k ih =>
    intro d B f hk hf h h0 hB
    obtain ⟨g, rfl⟩ : ∃ g, f = g + 1 := ⟨f - 1, by omega⟩
    have hb : B.length < 120 := by omega
    have e0 : mg_ins (ms_in d (upd (mg_in d) B.length (nI (by8 n k)))) = nI B.length := h.1
    have h1 : mIn (ms_ins (ms_in d (upd (mg_in d) B.length (nI (by8 n k)))) (nI B.length + 1)) (B ++ [by8 n k]) := by
      refine ⟨?_, ?_⟩
      · show nI B.length + 1 = _
        rw [nI_1, List.length_append]
        rfl
      · rw [List.map_append]
        have hL : (B.map nI).length = B.length := List.length_map ..
        refine isL_put h.2 (fun j hj => ?_) ?_
        · show upd (mg_in d) B.length _ j = _
          rw [pk_un (by omega)]
        · show upd (mg_in d) B.length _ (B.map nI).length = _
          rw [hL, pk_us]
    obtain ⟨d2, e2, h4, h5⟩ := ih _ (B ++ [by8 n k]) g (by omega) (by omega) h1 (by rw [h0]; rfl) (by rw [List.length_append]; simp; omega)
    refine ⟨d2, ?_, by rw [show by8s n (k + 1) = [by8 n k] ++ by8s n k from rfl, ← List.append_assoc]; exact h4, h5⟩
    show jm_M_feed_L29 (lN n) (loopF _ g) (d, nI (k + 1) - 1) = _
    unfold jm_M_feed_L29
    dsimp only
    rw [nI_dn, if_neg (nI_pos (by omega)), h.1, git hb (by decide), nI_clamp (by omega), by8_m hn (i := k) (by omega), nmd_e, e0, nmd_e]
    have e3 : nI k + (-1) = nI k - 1 := by grind
    have e4 : B.length + (k + 1) = (B ++ [by8 n k]).length + k := by rw [List.length_append]; simp; omega
    rw [e3, e4]
    exact e2
theorem s_feed {LA LE : List Nat} {t : Nat} {d : CS} {u : MS} (h : relS LA LE t d u) (x : Int64) (n : Int32) : ∃ r d2 u2, jc_D_feed LA LE d x n = some (r, d2) ∧ jm_M_feed u x n = some (r, u2) ∧ relS LA LE (t + 1) d2 u2 := by
  have hstay := relS_up h
  obtain ⟨ac, ln, K, J, nw, B, O, hw, hcK, hcJ, hct, hcB, hcO, hmK, hmJ, hmt, hmB, hmO, hs⟩ := h
  obtain ⟨w1, w2, w3, w4, w5, w6, w7, w8⟩ := hw
  unfold jc_D_feed jm_M_feed
  rw [hcB.1, hmB.1]
  by_cases a1 : n < 1
  · rw [if_pos a1, if_pos a1]
    exact ⟨_, _, _, rfl, rfl, hstay⟩
  rw [if_neg a1, if_neg a1]
  by_cases a2 : (8 : Int32) < n
  · rw [if_pos a2, if_pos a2]
    exact ⟨_, _, _, rfl, rfl, hstay⟩
  rw [if_neg a2, if_neg a2]
  have a0 : ¬ n < 0 := fun q => a1 (by
    rw [Int32.lt_iff_toInt_lt] at q ⊢
    have g0 : (0 : Int32).toInt = 0 := rfl
    have g1 : (1 : Int32).toInt = 1 := rfl
    omega)
  obtain ⟨k, hk, rfl⟩ := nI_of2 (M := 8) (n := 8) rfl a0 (i_nlt.mp a2)
  rw [nI_add]
  by_cases a3 : nI (B.length + k) ≤ 120
  · rw [if_pos a3, if_pos a3]
    have hB : B.length + k ≤ 120 := (nI_leI (b := 120) (by omega) (by decide)).mp a3
    obtain ⟨y, hy, rfl⟩ := wb_of x
    obtain ⟨d2, e1, h1, h2⟩ := c_feed_loop (LA := LA) (LE := LE) hy (d0 := d) k d B 200 hk (by omega) hcB rfl hB
    obtain ⟨u2, e3, h3, h4⟩ := m_feed_loop hy (u0 := u) k u B 200 hk (by omega) hmB rfl hB
    unfold jc_ByteRow_appendBytes_in
    have hL : (B ++ by8s y k).length = B.length + k := by rw [List.length_append, by8s_len]
    rw [e1, ob_s, e3, h1.1, hL]
    refine ⟨_, _, _, rfl, rfl, ac, ln, K, J, nw, B ++ by8s y k, O, ⟨w1, w2, by omega, by rw [hL]; exact hB, fun b hb => (List.mem_append.mp hb).elim (w5 b) (by8s_lt y k b), w6, w7, w8⟩, ?_, ?_, ?_, h1, ?_, ?_, ?_, ?_, h3, ?_, ?_⟩
    · rw [h2]; exact hcK
    · rw [h2]; exact hcJ
    · rw [h2]; exact hct
    · rw [h2]; exact hcO
    · rw [h4]; exact hmK
    · rw [h4]; exact hmJ
    · rw [h4]; exact hmt
    · rw [h4]; exact hmO
    · rw [h2, h4]; exact hs
  · rw [if_neg a3, if_neg a3]
    exact ⟨_, _, _, rfl, rfl, hstay⟩
