/-! the relation between the class's state and the reference's, over lists -/
def ho (t : Int64) (r : CE) : Bool := decide (ce_state r = 1) && !decide ((50 : Int64) ≤ t - ce_made r)
def po (r : CE) : Bool := decide (ce_type r = 200) && decide (ce_answer r = 0) && !decide (ce_state r = 3)
def mo (r : CE) : Int64 := if po r = true then (if ce_kind r = 20 then ce_amount r else -ce_amount r) else 0
def kx (K : List CA) (c : Int64) : Option Nat := fx (fun a => decide (ca_card a = c)) K 0
/-- a row of the journal that may stand there -/
def rw_ok (nw : Nat) (r : CE) : Prop := (∃ m : Nat, m ≤ nw ∧ ce_made r = lN m) ∧ (ce_state r = 1 → ce_type r = 100) ∧ (∃ m : Nat, m < 10 ^ 12 ∧ ce_amount r = lN m) ∧ (∃ m : Nat, m < 100 ∧ ce_answer r = nI m)
def rw_ne (r q : CE) : Prop := ¬ (ce_type r = ce_type q ∧ ce_term r = ce_term q ∧ ce_trace r = ce_trace q)
def cKd (LA : List Nat) (ac : Nat → Nat) (d : CS) (K : List CA) : Prop := cg_cCount d = nI K.length ∧ (∀ k, k < 6 → cg_accs d k = some (ac k) ∧ ac k ∈ LA) ∧ (∀ i j, i < 6 → j < 6 → ac i = ac j → i = j) ∧ isL (fun k => cg_acc d (ac k)) K
def cJo (LE : List Nat) (ln : Nat → Nat) (d : CS) (J : List CE) : Prop := cg_jSize d = nI J.length ∧ (∀ k, k < 32 → cg_lines d k = some (ln k) ∧ ln k ∈ LE) ∧ (∀ i j, i < 32 → j < 32 → ln i = ln j → i = j) ∧ isL (fun k => cg_ent d (ln k)) J
def cIn (d : CS) (B : List Nat) : Prop := cg_inSize d = nI B.length ∧ isL (cg_inB d) (B.map nI)
def cOu (d : CS) (O : List Nat) : Prop := cg_outSize d = nI O.length ∧ isL (cg_outB d) (O.map nI)
def mKd (u : MS) (K : List CA) : Prop := mg_many u = nI K.length ∧ isL (fun k => ((mg_cards u k, mg_balances u k) : CA)) K
def mrow (u : MS) (k : Nat) (r : CE) : Prop := mg_types u k = ce_type r ∧ mg_terminals u k = ce_term r ∧ mg_traces u k = ce_trace r ∧ mg_whose u k = ce_card r ∧ mg_sorts u k / 10000 = ce_kind r ∧ mg_amounts u k = ce_amount r ∧ mg_answers u k = ce_answer r ∧ mg_marks u k = ce_state r ∧ mg_made u k = (ce_made r).toInt32
def mJo (u : MS) (J : List CE) : Prop := mg_entries u = nI J.length ∧ ∀ (k : Nat) (h : k < J.length), mrow u k J[k]
def mIn (u : MS) (B : List Nat) : Prop := mg_ins u = nI B.length ∧ isL (mg_in u) (B.map nI)
def mOu (u : MS) (O : List Nat) : Prop := mg_outs u = nI O.length ∧ isL (mg_out u) (O.map nI)
def wf (t : Nat) (K : List CA) (J : List CE) (nw : Nat) (B O : List Nat) : Prop := K.length ≤ 6 ∧ J.length ≤ 32 ∧ nw ≤ 1000 * t ∧ B.length ≤ 120 ∧ (∀ b ∈ B, b < 256) ∧ O.length ≤ 37 ∧ (∀ r ∈ J, rw_ok nw r) ∧ J.Pairwise rw_ne
def relS (LA LE : List Nat) (t : Nat) (d : CS) (u : MS) : Prop := ∃ (ac ln : Nat → Nat) (K : List CA) (J : List CE) (nw : Nat) (B O : List Nat),
  wf t K J nw B O ∧ cKd LA ac d K ∧ cJo LE ln d J ∧ cg_jTime d = lN nw ∧ cIn d B ∧ cOu d O ∧ mKd u K ∧ mJo u J ∧ mg_now u = nI nw ∧ mIn u B ∧ mOu u O ∧ cg_setSum d = mg_settled u
/-! guards -/
theorem gi {c N : Nat} (h : c < N) (hN : N < 2 ^ 31) : (¬ (nI c < 0 ∨ N ≤ (nI c).toNatClampNeg)) = True := eq_true (nI_in h hN)
theorem git {α : Type} {c N : Nat} (h : c < N) (hN : N < 2 ^ 31) {a b : Option α} : (if ¬ (nI c < 0 ∨ N ≤ (nI c).toNatClampNeg) then a else b) = a := if_pos (nI_in h hN)
theorem gjt {α : Type} {c N : Nat} (h : c < N) (hN : N < 2 ^ 31) {a b : Option α} : (if ¬ (nI c < 0 ∨ N ≤ c) then a else b) = a := if_pos (fun q => q.elim (nI_pos (by omega)) (by omega))
/-! finding a card -/
theorem c_find {LA LE : List Nat} {ac : Nat → Nat} {d : CS} {K : List CA} (h : cKd LA ac d K) (hl : K.length ≤ 6) (c : Int64) : jc_Cards_find LA LE d c = some ((kx K c).map ac) := by
  obtain ⟨h1, h2, h3, h4⟩ := h
  have key := loop_fx (F := jc_Cards_find_L2 LA LE d c) (p := fun a : CA => decide (ca_card a = c)) (L := K) (en := none) (hit := fun j => some (ac j)) (fun rc => by
      unfold jc_Cards_find_L2
      rw [h1, if_pos (nI_le (Nat.le_refl _) (by omega))]) (fun rc k hk => by
      have e4 := h4 k hk
      have hk6 : k < 6 := by omega
      unfold jc_Cards_find_L2
      rw [h1, if_neg (nI_ge hk (by omega)), git hk6 (by decide), nI_clamp (by omega), gq_e (h2 k hk6).1 (h2 k hk6).2]
      dsimp only at e4
      rw [e4, gjt hk6 (by decide), gq_e (h2 k hk6).1 (h2 k hk6).2]
      by_cases c1 : ca_card K[k] = c
      · rw [if_pos c1, if_pos (decide_eq_true c1)]
      · rw [if_neg c1, if_neg (by rw [decide_eq_true_eq]; exact c1), nI_1]) K.length 0 200 (by omega) (by omega)
  unfold jc_Cards_find
  rw [← nI_0, key, List.drop_zero]
  unfold kx
  cases fx (fun a : CA => decide (ca_card a = c)) K 0 <;> rfl
theorem m_find {u : MS} {K : List CA} (h : mKd u K) (hl : K.length ≤ 6) (c : Int64) : jm_M_find u c = some (match kx K c with | none => -1 | some j => nI j) := by
  obtain ⟨h1, h4⟩ := h
  have key := loop_fx (F := jm_M_find_L2 u c) (p := fun a : CA => decide (ca_card a = c)) (L := K) (en := (-1 : Int32)) (hit := fun j => nI j) (fun rc => by
      unfold jm_M_find_L2
      rw [h1, if_pos (nI_le (Nat.le_refl _) (by omega))]) (fun rc k hk => by
      have e4 : mg_cards u k = ca_card K[k] := congrArg Prod.fst (h4 k hk)
      have hk6 : k < 6 := by omega
      unfold jm_M_find_L2
      rw [h1, if_neg (nI_ge hk (by omega)), git hk6 (by decide), nI_clamp (by omega), e4]
      by_cases c1 : ca_card K[k] = c
      · rw [if_pos c1, if_pos (decide_eq_true c1)]
      · rw [if_neg c1, if_neg (by rw [decide_eq_true_eq]; exact c1), nI_1]) K.length 0 200 (by omega) (by omega)
  unfold jm_M_find
  rw [← nI_0, key, List.drop_zero]
  rfl
theorem kx_some {K : List CA} {c : Int64} {j : Nat} (h : kx K c = some j) : ∃ hj : j < K.length, ca_card K[j] = c := by
  obtain ⟨i, hi, e1, e2⟩ := fx_some h
  have e : j = i := by omega
  subst e
  exact ⟨hi, of_decide_eq_true e2⟩
/-! balance -/
theorem s_balance {LA LE : List Nat} {t : Nat} {d : CS} {u : MS} (h : relS LA LE t d u) (c : Int64) : ∃ r, jc_D_balance LA LE d c = some r ∧ jm_M_balance u c = some r := by
  obtain ⟨ac, ln, K, J, nw, B, O, hw, hcK, hcJ, hct, hcB, hcO, hmK, hmJ, hmt, hmB, hmO, hs⟩ := h
  have e1 := c_find (LE := LE) hcK hw.1 c
  have e2 := m_find hmK hw.1 c
  unfold jc_D_balance jm_M_balance
  rw [e1, e2, ob_s, ob_s]
  cases hk : kx K c with
  | none => exact ⟨_, rfl, rfl⟩
  | some j =>
    obtain ⟨hj, hc⟩ := kx_some hk
    have hl := hw.1
    have e3 := hcK.2.2.2 j hj
    have e4 : mg_balances u j = ca_bal K[j] := congrArg Prod.snd (hmK.2 j hj)
    dsimp only at e3
    refine ⟨ca_bal K[j], ?_, ?_⟩
    · have em : ∀ (k : Option Int64) (f : Nat → Option Int64), oq LA (Option.map ac (some j)) k f = f (ac j) := fun k f => oq_s rfl (hcK.2.1 j (by omega)).2
      rw [em, e3]
    · dsimp only
      rw [if_pos (nI_pos' (by omega)), git (by omega) (by decide), nI_clamp (by omega), e4]
/-! holds -/
theorem c_hold {LA LE : List Nat} {d : CS} {a : Nat} {t : Int64} : jc_Entry_isHoldAt LA LE d a t = some (if ho t (cg_ent d a) = true then 1 else 0) := by
  unfold jc_Entry_isHoldAt ho
  by_cases c1 : ce_state (cg_ent d a) = 1
  · rw [if_pos c1, decide_eq_true c1]
    by_cases c2 : (50 : Int64) ≤ t - ce_made (cg_ent d a)
    · rw [if_pos c2, decide_eq_true c2]
      rfl
    · rw [if_neg c2, decide_eq_false c2]
      rfl
  · rw [if_neg c1, decide_eq_false c1]
    rfl
theorem m_hold {u : MS} {J : List CE} {nw k : Nat} (h : mJo u J) (hn : mg_now u = nI nw) (hl : J.length ≤ 32) (hw : nw < 2 ^ 30) (ho_ : ∀ r ∈ J, rw_ok nw r) (hk : k < J.length) : jm_M_isHold u (nI k) = some (if ho (lN nw) J[k] = true then 1 else 0) := by
  obtain ⟨e1, e2, e3, e4, e5, e6, e7, e8, e9⟩ := h.2 k hk
  obtain ⟨⟨m, hm, em⟩, -⟩ := ho_ J[k] (List.getElem_mem hk)
  unfold jm_M_isHold ho
  rw [git (by omega) (by decide), git (by omega) (by decide), nI_clamp (by omega), e8, e9, hn, em, lN_i, pk_sub hm, lN_sub hm]
  have c2 : (50 : Int32) ≤ nI (nw - m) ↔ (50 : Int64) ≤ lN (nw - m) := (nI_leI (a := 50) (by decide) (by omega)).trans (lN_le (a := 50) (by decide) (by omega)).symm
  by_cases c1 : ce_state J[k] = 1
  · rw [if_pos c1, decide_eq_true c1]
    by_cases c3 : (50 : Int64) ≤ lN (nw - m)
    · rw [if_pos (c2.mpr c3), decide_eq_true c3]
      rfl
    · rw [if_neg (fun q => c3 (c2.mp q)), decide_eq_false c3]
      rfl
  · rw [if_neg c1, decide_eq_false c1]
    rfl
/-! available -/
def av (t c b : Int64) (J : List CE) : Int64 := List.foldl (fun s r => if ho t r = true ∧ ce_card r = c then s - ce_amount r else s) b J
theorem c_avail {LA LE : List Nat} {ln : Nat → Nat} {d : CS} {J : List CE} {nw : Nat} (h : cJo LE ln d J) (ht : cg_jTime d = lN nw) (hl : J.length ≤ 32) (a : Nat) : jc_Journal_availableOn LA LE d a = some (av (lN nw) (ca_card (cg_acc d a)) (ca_bal (cg_acc d a)) J) := by
  obtain ⟨h1, h2, h3, h4⟩ := h
  have key := loop_sum (F := jc_Journal_availableOn_L8 LA LE d a) (g := fun s r => if ho (lN nw) r = true ∧ ce_card r = ca_card (cg_acc d a) then s - ce_amount r else s) (L := J) (fin := fun s => s) (fun rc s => by
      unfold jc_Journal_availableOn_L8
      rw [h1, if_pos (nI_le (Nat.le_refl _) (by omega))]) (fun rc s k hk => by
      have e4 := h4 k hk
      dsimp only at e4
      have hk6 : k < 32 := by omega
      unfold jc_Journal_availableOn_L8
      dsimp only
      rw [h1, if_neg (nI_ge hk (by omega)), git hk6 (by decide), nI_clamp (by omega), gq_e (h2 k hk6).1 (h2 k hk6).2, e4]
      by_cases c1 : ce_card J[k] = ca_card (cg_acc d a)
      · rw [if_pos c1, gjt hk6 (by decide), gq_e (h2 k hk6).1 (h2 k hk6).2, c_hold, ob_s, ht, e4]
        by_cases c2 : ho (lN nw) J[k] = true
        · rw [if_pos c2, if_neg (by decide), gjt hk6 (by decide), gq_e (h2 k hk6).1 (h2 k hk6).2, e4, if_pos ⟨c2, c1⟩, nI_1]
        · rw [if_neg c2, if_pos rfl, if_neg (fun q => c2 q.1), nI_1]
      · rw [if_neg c1, if_neg (fun q => c1 q.2), nI_1]) J.length 0 200 (ca_bal (cg_acc d a)) (by omega) (by omega)
  unfold jc_Journal_availableOn
  rw [← nI_0, key, List.drop_zero]
  rfl
theorem m_avail {u : MS} {J : List CE} {nw : Nat} (h : mJo u J) (hn : mg_now u = nI nw) (hl : J.length ≤ 32) (hw : nw < 2 ^ 30) (ho_ : ∀ r ∈ J, rw_ok nw r) (c b : Int64) : loopF (jm_M_available_L25 u c) 200 (b, (0 : Int32)) = some (av (lN nw) c b J) := by
  have key := loop_sum (F := jm_M_available_L25 u c) (g := fun s r => if ho (lN nw) r = true ∧ ce_card r = c then s - ce_amount r else s) (L := J) (fin := fun s => s) (fun rc s => by
      unfold jm_M_available_L25
      dsimp only
      rw [h.1, if_pos (nI_le (Nat.le_refl _) (by omega))]) (fun rc s k hk => by
      obtain ⟨e1, e2, e3, e4, e5, e6, e7, e8, e9⟩ := h.2 k hk
      have hk6 : k < 40 := by omega
      unfold jm_M_available_L25
      dsimp only
      rw [h.1, if_neg (nI_ge hk (by omega)), m_hold h hn hl hw ho_ hk, ob_s]
      by_cases c2 : ho (lN nw) J[k] = true
      · rw [if_pos c2, if_neg (by decide), git hk6 (by decide), nI_clamp (by omega), e4]
        by_cases c1 : ce_card J[k] = c
        · rw [if_pos c1, gjt hk6 (by decide), e6, if_pos ⟨c2, c1⟩, nI_1]
        · rw [if_neg c1, if_neg (fun q => c1 q.2), nI_1]
      · rw [if_neg c2, if_pos rfl, if_neg (fun q => c2 q.1), nI_1]) J.length 0 200 b (by omega) (by omega)
  rw [← nI_0, key, List.drop_zero]
  rfl
theorem s_available {LA LE : List Nat} {t : Nat} (ht : t ≤ 1000) {d : CS} {u : MS} (h : relS LA LE t d u) (c : Int64) : ∃ r, jc_D_available LA LE d c = some r ∧ jm_M_available u c = some r := by
  obtain ⟨ac, ln, K, J, nw, B, O, hw, hcK, hcJ, hct, hcB, hcO, hmK, hmJ, hmt, hmB, hmO, hs⟩ := h
  have e1 := c_find (LE := LE) hcK hw.1 c
  have e2 := m_find hmK hw.1 c
  unfold jc_D_available jm_M_available
  rw [e1, e2, ob_s, ob_s]
  obtain ⟨w1, w2, w3, w4, w5, w6, w7, w8⟩ := hw
  cases hk : kx K c with
  | none => exact ⟨_, rfl, rfl⟩
  | some j =>
    obtain ⟨hj, hc⟩ := kx_some hk
    have e3 := hcK.2.2.2 j hj
    dsimp only at e3
    have e4 : mg_balances u j = ca_bal K[j] := congrArg Prod.snd (hmK.2 j hj)
    refine ⟨av (lN nw) c (ca_bal K[j]) J, ?_, ?_⟩
    · have em : ∀ (k : Option Int64) (f : Nat → Option Int64), oq LA (Option.map ac (some j)) k f = f (ac j) := fun k f => oq_s rfl (hcK.2.1 j (by omega)).2
      rw [em, c_avail hcJ hct w2, ob_s, e3, hc]
    · dsimp only
      rw [if_pos (nI_pos' (by omega)), git (by omega) (by decide), nI_clamp (by omega), e4, m_avail hmJ hmt w2 (by omega) w7]
/-! net -/
def nt (x : Int32) (J : List CE) : Int64 := List.foldl (fun s r => if ce_term r = x then s + mo r else s) 0 J
theorem c_posted {LA LE : List Nat} {d : CS} {a : Nat} : jc_Entry_isPosted LA LE d a = some (if po (cg_ent d a) = true then 1 else 0) := by
  unfold jc_Entry_isPosted po
  by_cases c1 : ce_type (cg_ent d a) = 200
  · rw [if_pos c1, decide_eq_true c1]
    by_cases c2 : ce_answer (cg_ent d a) = 0
    · rw [if_pos c2, decide_eq_true c2]
      by_cases c3 : ce_state (cg_ent d a) = 3
      · rw [if_pos c3, decide_eq_true c3]
        rfl
      · rw [if_neg c3, decide_eq_false c3]
        rfl
    · rw [if_neg c2, decide_eq_false c2]
      rfl
  · rw [if_neg c1, decide_eq_false c1]
    rfl
theorem c_moved {LA LE : List Nat} {d : CS} {a : Nat} : jc_Entry_moved LA LE d a = some (mo (cg_ent d a)) := by
  unfold jc_Entry_moved mo
  rw [c_posted, ob_s]
  by_cases c1 : po (cg_ent d a) = true
  · rw [if_pos c1, if_pos c1, if_neg (by decide)]
    by_cases c2 : ce_kind (cg_ent d a) = 20
    · rw [if_pos c2, if_pos c2]
    · rw [if_neg c2, if_neg c2]
  · rw [if_neg c1, if_neg c1, if_pos rfl]
theorem c_net {LA LE : List Nat} {ln : Nat → Nat} {d : CS} {J : List CE} (h : cJo LE ln d J) (hl : J.length ≤ 32) (x : Int32) : jc_Journal_netOf LA LE d x = some (nt x J) := by
  obtain ⟨h1, h2, h3, h4⟩ := h
  have key := loop_sum (F := jc_Journal_netOf_L5 LA LE d x) (g := fun s r => if ce_term r = x then s + mo r else s) (L := J) (fin := fun s => s) (fun rc s => by
      unfold jc_Journal_netOf_L5
      dsimp only
      rw [h1, if_pos (nI_le (Nat.le_refl _) (by omega))]) (fun rc s k hk => by
      have e4 := h4 k hk
      dsimp only at e4
      have hk6 : k < 32 := by omega
      unfold jc_Journal_netOf_L5
      dsimp only
      rw [h1, if_neg (nI_ge hk (by omega)), git hk6 (by decide), nI_clamp (by omega), gq_e (h2 k hk6).1 (h2 k hk6).2, e4]
      by_cases c1 : ce_term J[k] = x
      · rw [if_pos c1, gjt hk6 (by decide), gq_e (h2 k hk6).1 (h2 k hk6).2, c_moved, ob_s, e4, if_pos c1, nI_1]
      · rw [if_neg c1, if_neg c1, nI_1]) J.length 0 200 0 (by omega) (by omega)
  unfold jc_Journal_netOf
  rw [← nI_0, key, List.drop_zero]
  rfl
theorem m_net {u : MS} {J : List CE} (h : mJo u J) (hl : J.length ≤ 32) (x : Int32) : jm_M_netOf u x = some (nt x J) := by
  have key := loop_sum (F := jm_M_netOf_L5 u x) (g := fun s r => if ce_term r = x then s + mo r else s) (L := J) (fin := fun s => s) (fun rc s => by
      unfold jm_M_netOf_L5
      dsimp only
      rw [h.1, if_pos (nI_le (Nat.le_refl _) (by omega))]) (fun rc s k hk => by
      obtain ⟨e1, e2, e3, e4, e5, e6, e7, e8, e9⟩ := h.2 k hk
      have hk6 : k < 40 := by omega
      have z0 : ∀ y : Int64, y + 0 = y := fun y => by grind
      have zn : ∀ y z : Int64, y + -z = y - z := fun y z => by grind
      unfold jm_M_netOf_L5
      dsimp only
      simp only [git hk6 (show (40 : Nat) < 2 ^ 31 by decide)]
      rw [h.1, if_neg (nI_ge hk (by omega)), nI_clamp (by omega), e1, e2, e5, e6, e7, e8]
      unfold mo po
      by_cases c1 : ce_type J[k] = 200
      · rw [if_pos c1, decide_eq_true c1]
        by_cases c2 : ce_term J[k] = x
        · rw [if_pos c2, if_pos c2]
          by_cases c3 : ce_answer J[k] = 0
          · rw [if_pos c3, decide_eq_true c3]
            by_cases c4 : ce_state J[k] = 3
            · rw [if_pos c4, decide_eq_true c4, if_neg (show ¬ (true && true && !true) = true by decide), z0, nI_1]
            · rw [if_neg c4, decide_eq_false c4, if_pos (show (true && true && !false) = true from rfl)]
              by_cases c5 : ce_kind J[k] = 20
              · rw [if_pos c5, if_pos c5, nI_1]
              · rw [if_neg c5, if_neg c5, zn, nI_1]
          · rw [if_neg c3, decide_eq_false c3, if_neg (by simp), z0, nI_1]
        · rw [if_neg c2, if_neg c2, nI_1]
      · rw [if_neg c1, decide_eq_false c1, if_neg (show ¬ (false && decide (ce_answer J[k] = 0) && !decide (ce_state J[k] = 3)) = true by simp), z0, ite_self, nI_1]) J.length 0 200 0 (by omega) (by omega)
  unfold jm_M_netOf
  rw [← nI_0, key, List.drop_zero]
  rfl
theorem s_net {LA LE : List Nat} {t : Nat} {d : CS} {u : MS} (h : relS LA LE t d u) (x : Int32) : ∃ r, jc_D_net LA LE d x = some r ∧ jm_M_net u x = some r := by
  obtain ⟨ac, ln, K, J, nw, B, O, hw, hcK, hcJ, hct, hcB, hcO, hmK, hmJ, hmt, hmB, hmO, hs⟩ := h
  unfold jc_D_net jm_M_net
  rw [c_net hcJ hw.2.1, m_net hmJ hw.2.1]
  exact ⟨_, rfl, rfl⟩
/-! entries, settled, reply, amount, entry, tick -/
theorem s_entries {LA LE : List Nat} {t : Nat} {d : CS} {u : MS} (h : relS LA LE t d u) : ∃ r, jc_D_entries LA LE d = some r ∧ jm_M_entries u = some r := by
  obtain ⟨ac, ln, K, J, nw, B, O, hw, hcK, hcJ, hct, hcB, hcO, hmK, hmJ, hmt, hmB, hmO, hs⟩ := h
  refine ⟨nI J.length, ?_, ?_⟩
  · unfold jc_D_entries
    rw [hcJ.1]
  · unfold jm_M_entries
    rw [hmJ.1]
theorem s_settled {LA LE : List Nat} {t : Nat} {d : CS} {u : MS} (h : relS LA LE t d u) : ∃ r, jc_D_settled LA LE d = some r ∧ jm_M_settled u = some r := by
  obtain ⟨ac, ln, K, J, nw, B, O, hw, hcK, hcJ, hct, hcB, hcO, hmK, hmJ, hmt, hmB, hmO, hs⟩ := h
  refine ⟨mg_settled u, ?_, rfl⟩
  unfold jc_D_settled
  rw [hs]
theorem s_reply {LA LE : List Nat} {t : Nat} {d : CS} {u : MS} (h : relS LA LE t d u) (i : Int32) : ∃ r, jc_D_reply LA LE d i = some r ∧ jm_M_reply u i = some r := by
  obtain ⟨ac, ln, K, J, nw, B, O, hw, hcK, hcJ, hct, hcB, hcO, hmK, hmJ, hmt, hmB, hmO, hs⟩ := h
  have hl := hw.2.2.2.2.2.1
  unfold jc_D_reply jm_M_reply jc_ByteRow_byteAt_out
  rw [hcO.1, hmO.1]
  rcases pk_ix i (n := O.length) (by omega) with c | c | ⟨j, hj, rfl⟩
  · rw [if_pos c, if_pos c]
    exact ⟨_, rfl, rfl⟩
  · by_cases c0 : i < 0
    · rw [if_pos c0, if_pos c0]
      exact ⟨_, rfl, rfl⟩
    · rw [if_neg c0, if_neg c0, if_pos c, if_pos c]
      exact ⟨_, rfl, rfl⟩
  · rw [if_neg (nI_pos (by omega)), if_neg (nI_pos (by omega)), if_neg (nI_ge hj (by omega)), if_neg (nI_ge hj (by omega)), git (by omega) (by decide), git (by omega) (by decide), nI_clamp (by omega), isL_mapG hcO.2 hj, isL_mapG hmO.2 hj]
    exact ⟨_, rfl, rfl⟩
theorem c_line {LA LE : List Nat} {ln : Nat → Nat} {d : CS} {J : List CE} (h : cJo LE ln d J) (hl : J.length ≤ 32) (i : Int32) : ((i < 0 ∨ (¬ i < 0 ∧ nI J.length ≤ i)) ∧ jc_Journal_lineAt LA LE d i = some none) ∨ ∃ j, j < J.length ∧ i = nI j ∧ jc_Journal_lineAt LA LE d i = some (some (ln j)) := by
  unfold jc_Journal_lineAt
  rw [h.1]
  by_cases c0 : i < 0
  · rw [if_pos c0]
    exact Or.inl ⟨Or.inl c0, rfl⟩
  · rcases pk_ix i (n := J.length) (by omega) with c | c | ⟨j, hj, rfl⟩
    · exact absurd c c0
    · rw [if_neg c0, if_pos c]
      exact Or.inl ⟨Or.inr ⟨c0, c⟩, rfl⟩
    · have hj3 : j < 32 := by omega
      rw [if_neg c0, if_neg (nI_ge hj (by omega)), git hj3 (by decide), nI_clamp (by omega), gq_e (h.2.1 j hj3).1 (h.2.1 j hj3).2]
      exact Or.inr ⟨j, hj, rfl, rfl⟩
theorem s_amount {LA LE : List Nat} {t : Nat} {d : CS} {u : MS} (h : relS LA LE t d u) (i : Int32) : ∃ r, jc_D_amount LA LE d i = some r ∧ jm_M_amount u i = some r := by
  obtain ⟨ac, ln, K, J, nw, B, O, hw, hcK, hcJ, hct, hcB, hcO, hmK, hmJ, hmt, hmB, hmO, hs⟩ := h
  have hl := hw.2.1
  unfold jc_D_amount jm_M_amount
  rw [hmJ.1]
  rcases c_line (LA := LA) hcJ hl i with ⟨c, e⟩ | ⟨j, hj, rfl, e⟩
  · rw [e]
    rcases c with c | ⟨c0, c⟩
    · rw [if_pos c]
      exact ⟨_, rfl, rfl⟩
    · rw [if_neg c0, if_pos c]
      exact ⟨_, rfl, rfl⟩
  · have e3 := hcJ.2.2.2 j hj
    dsimp only at e3
    rw [e, ob_s, oq_s rfl (hcJ.2.1 j (by omega)).2, e3, if_neg (nI_pos (by omega)), if_neg (nI_ge hj (by omega)), git (by omega) (by decide), nI_clamp (by omega), (hmJ.2 j hj).2.2.2.2.2.1]
    exact ⟨_, rfl, rfl⟩
theorem s_entry {LA LE : List Nat} {t : Nat} (ht : t ≤ 1000) {d : CS} {u : MS} (h : relS LA LE t d u) (i x : Int32) : ∃ r, jc_D_entry LA LE d i x = some r ∧ jm_M_entry u i x = some r := by
  obtain ⟨ac, ln, K, J, nw, B, O, hw, hcK, hcJ, hct, hcB, hcO, hmK, hmJ, hmt, hmB, hmO, hs⟩ := h
  obtain ⟨w1, w2, w3, w4, w5, w6, w7, w8⟩ := hw
  unfold jc_D_entry jm_M_entry
  rw [hmJ.1]
  rcases c_line (LA := LA) hcJ w2 i with ⟨c, e⟩ | ⟨j, hj, rfl, e⟩
  · rw [e]
    rcases c with c | ⟨c0, c⟩
    · rw [if_pos c]
      exact ⟨_, rfl, rfl⟩
    · rw [if_neg c0, if_pos c]
      exact ⟨_, rfl, rfl⟩
  · have e3 := hcJ.2.2.2 j hj
    dsimp only at e3
    obtain ⟨q1, q2, q3, q4, q5, q6, q7, q8, q9⟩ := hmJ.2 j hj
    have hj4 : j < 40 := by omega
    simp only [git hj4 (show (40 : Nat) < 2 ^ 31 by decide)]
    rw [e, ob_s, oq_s rfl (hcJ.2.1 j (by omega)).2, e3, if_neg (nI_pos (by omega)), if_neg (nI_ge hj (by omega)), nI_clamp (by omega), m_hold hmJ hmt w2 (by omega) w7 hj, q1, q3, q7, q8]
    unfold jc_Entry_stateAt
    rw [c_hold, hct, e3]
    by_cases c0 : x = 0
    · subst c0
      rw [if_pos (show (0 : Int32) = 0 from rfl), if_neg (show ¬ (0 : Int32) < 0 by decide), if_pos (show (0 : Int32) ≤ 3 by decide)]
      exact ⟨_, rfl, rfl⟩
    · rw [if_neg c0]
      by_cases c1 : x = 1
      · subst c1
        rw [if_pos (show (1 : Int32) = 1 from rfl), if_neg (show ¬ (1 : Int32) < 0 by decide), if_pos (show (1 : Int32) ≤ 3 by decide), if_neg (show ¬ (1 : Int32) = 0 by decide)]
        exact ⟨_, rfl, rfl⟩
      · rw [if_neg c1]
        by_cases c2 : x = 2
        · subst c2
          rw [if_pos (show (2 : Int32) = 2 from rfl), if_neg (show ¬ (2 : Int32) < 0 by decide), if_pos (show (2 : Int32) ≤ 3 by decide), if_neg (show ¬ (2 : Int32) = 0 by decide), if_neg (show ¬ (2 : Int32) = 1 by decide)]
          exact ⟨_, rfl, rfl⟩
        · rw [if_neg c2]
          by_cases c3 : x = 3
          · subst c3
            rw [if_pos (show (3 : Int32) = 3 from rfl), if_neg (show ¬ (3 : Int32) < 0 by decide), if_pos (show (3 : Int32) ≤ 3 by decide), if_neg (show ¬ (3 : Int32) = 0 by decide), if_neg (show ¬ (3 : Int32) = 1 by decide), if_neg (show ¬ (3 : Int32) = 2 by decide)]
            by_cases d1 : ce_state J[j] = 1
            · rw [if_pos d1]
              by_cases d2 : ho (lN nw) J[j] = true
              · rw [if_pos d2]
                exact ⟨_, rfl, rfl⟩
              · rw [if_neg d2]
                exact ⟨_, rfl, rfl⟩
            · rw [if_neg d1]
              exact ⟨_, rfl, rfl⟩
          · rw [if_neg c3]
            refine ⟨-1, rfl, ?_⟩
            by_cases d0 : x < 0
            · rw [if_pos d0]
            · rw [if_neg d0]
              by_cases d1 : x ≤ 3
              · exfalso
                rw [Int32.lt_iff_toInt_lt] at d0
                rw [Int32.le_iff_toInt_le] at d1
                have f0 : ¬ x.toInt = (0 : Int32).toInt := fun q => c0 (Int32.toInt_inj.mp q)
                have f1 : ¬ x.toInt = (1 : Int32).toInt := fun q => c1 (Int32.toInt_inj.mp q)
                have f2 : ¬ x.toInt = (2 : Int32).toInt := fun q => c2 (Int32.toInt_inj.mp q)
                have f3 : ¬ x.toInt = (3 : Int32).toInt := fun q => c3 (Int32.toInt_inj.mp q)
                have g0 : (0 : Int32).toInt = 0 := rfl
                have g1 : (1 : Int32).toInt = 1 := rfl
                have g2 : (2 : Int32).toInt = 2 := rfl
                have g3 : (3 : Int32).toInt = 3 := rfl
                omega
              · rw [if_neg d1]
theorem rw_later {nw nw2 : Nat} {r : CE} (h : nw ≤ nw2) (q : rw_ok nw r) : rw_ok nw2 r := by
  obtain ⟨⟨m, hm, em⟩, q2⟩ := q
  exact ⟨⟨m, Nat.le_trans hm h, em⟩, q2⟩
theorem s_tick {LA LE : List Nat} {t : Nat} (ht : t ≤ 1000) {d : CS} {u : MS} (h : relS LA LE t d u) (n : Int32) : ∃ r d2 u2, jc_D_tick LA LE d n = some (r, d2) ∧ jm_M_tick u n = some (r, u2) ∧ relS LA LE (t + 1) d2 u2 := by
  obtain ⟨ac, ln, K, J, nw, B, O, hw, hcK, hcJ, hct, hcB, hcO, hmK, hmJ, hmt, hmB, hmO, hs⟩ := h
  obtain ⟨w1, w2, w3, w4, w5, w6, w7, w8⟩ := hw
  have hstay : relS LA LE (t + 1) d u := ⟨ac, ln, K, J, nw, B, O, ⟨w1, w2, by omega, w4, w5, w6, w7, w8⟩, hcK, hcJ, hct, hcB, hcO, hmK, hmJ, hmt, hmB, hmO, hs⟩
  unfold jc_D_tick jm_M_tick
  by_cases c0 : n < 0
  · rw [if_pos c0, if_pos c0]
    exact ⟨_, _, _, rfl, rfl, hstay⟩
  · rw [if_neg c0, if_neg c0]
    by_cases c1 : n ≤ 1000
    · rw [if_pos c1, if_pos c1]
      obtain ⟨j, hj, rfl⟩ := nI_of2 (M := 1000) (n := 1000) rfl c0 c1
      refine ⟨_, _, _, rfl, rfl, ac, ln, K, J, nw + j, B, O, ⟨w1, w2, by omega, w4, w5, w6, fun r hr => rw_later (Nat.le_add_right _ _) (w7 r hr), w8⟩, hcK, hcJ, ?_, hcB, hcO, hmK, hmJ, ?_, hmB, hmO, hs⟩
      · show cg_jTime d + (nI j).toInt64 = _
        rw [hct, nI_l (by omega), lN_add]
      · show mg_now u + nI j = _
        rw [hmt, nI_add]
    · rw [if_neg c1, if_neg c1]
      exact ⟨_, _, _, rfl, rfl, hstay⟩
