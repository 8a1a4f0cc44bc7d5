/-! searches in the journal -/
def sm (ty te tr : Int32) (r : CE) : Bool := decide (ce_type r = ty) && decide (ce_term r = te) && decide (ce_trace r = tr)
def og (te tr : Int32) (cd : Int64) (r : CE) : Bool := decide (ce_trace r = tr) && decide (ce_term r = te) && decide (ce_card r = cd)
theorem sm_t {ty te tr : Int32} {r : CE} : sm ty te tr r = true ↔ ce_type r = ty ∧ ce_term r = te ∧ ce_trace r = tr := by
  unfold sm
  rw [Bool.and_eq_true, Bool.and_eq_true, decide_eq_true_eq, decide_eq_true_eq, decide_eq_true_eq, and_assoc]
theorem og_t {te tr : Int32} {cd : Int64} {r : CE} : og te tr cd r = true ↔ ce_trace r = tr ∧ ce_term r = te ∧ ce_card r = cd := by
  unfold og
  rw [Bool.and_eq_true, Bool.and_eq_true, decide_eq_true_eq, decide_eq_true_eq, decide_eq_true_eq, and_assoc]
theorem c_same {LA LE : List Nat} {ln : Nat → Nat} {d : CS} {J : List CE} (h : cJo LE ln d J) (hl : J.length ≤ 32) : jc_Journal_findSame LA LE d = some ((fx (sm (cg_rqType d) (cg_rqTerm d) (cg_rqTrace d)) J 0).map ln) := by
  obtain ⟨h1, h2, h3, h4⟩ := h
  have key := loop_fx (F := jc_Journal_findSame_L2 LA LE d) (p := sm (cg_rqType d) (cg_rqTerm d) (cg_rqTrace d)) (L := J) (en := none) (hit := fun j => some (ln j)) (fun rc => by
      unfold jc_Journal_findSame_L2
      rw [h1, if_pos (nI_le (Nat.le_refl _) (by omega))]) (fun rc k hk => by
      have e4 := h4 k hk
      try dsimp only at e4
      have hk6 : k < 32 := by omega
      unfold jc_Journal_findSame_L2
      rw [h1, if_neg (nI_ge hk (by omega)), git hk6 (by decide), nI_clamp (by omega), gq_e (h2 k hk6).1 (h2 k hk6).2, e4, nI_1]
      by_cases c1 : ce_type J[k] = cg_rqType d
      · rw [if_pos c1]
        by_cases c2 : ce_term J[k] = cg_rqTerm d
        · rw [if_pos c2]
          by_cases c3 : ce_trace J[k] = cg_rqTrace d
          · rw [if_pos c3, if_pos (sm_t.mpr ⟨c1, c2, c3⟩)]
          · rw [if_neg c3, if_neg (fun q => c3 (sm_t.mp q).2.2)]
        · rw [if_neg c2, if_neg (fun q => c2 (sm_t.mp q).2.1)]
      · rw [if_neg c1, if_neg (fun q => c1 (sm_t.mp q).1)]) J.length 0 200 (by omega) (by omega)
  unfold jc_Journal_findSame
  rw [← nI_0, key, List.drop_zero]
  cases fx (sm (cg_rqType d) (cg_rqTerm d) (cg_rqTrace d)) J 0 <;> rfl
theorem m_same {u : MS} {J : List CE} (h : mJo u J) (hl : J.length ≤ 32) (ty tr : Int32) : jm_M_same u ty tr = some (match fx (sm ty (mg_terminal u) tr) J 0 with | none => -1 | some j => nI j) := by
  have key := loop_fx (F := jm_M_same_L2 u ty tr) (p := sm ty (mg_terminal u) tr) (L := J) (en := (-1 : Int32)) (hit := fun j => nI j) (fun rc => by
      unfold jm_M_same_L2
      rw [h.1, if_pos (nI_le (Nat.le_refl _) (by omega))]) (fun rc k hk => by
      obtain ⟨e1, e2, e3, e4, e5, e6, e7, e8, e9⟩ := h.2 k hk
      have hk6 : k < 40 := by omega
      unfold jm_M_same_L2
      simp only [git hk6 (show (40 : Nat) < 2 ^ 31 by decide)]
      rw [h.1, if_neg (nI_ge hk (by omega)), nI_clamp (by omega), e1, e2, e3, nI_1]
      by_cases c1 : ce_type J[k] = ty
      · rw [if_pos c1]
        by_cases c2 : ce_term J[k] = mg_terminal u
        · rw [if_pos c2]
          by_cases c3 : ce_trace J[k] = tr
          · rw [if_pos c3, if_pos (sm_t.mpr ⟨c1, c2, c3⟩)]
          · rw [if_neg c3, if_neg (fun q => c3 (sm_t.mp q).2.2)]
        · rw [if_neg c2, if_neg (fun q => c2 (sm_t.mp q).2.1)]
      · rw [if_neg c1, if_neg (fun q => c1 (sm_t.mp q).1)]) J.length 0 200 (by omega) (by omega)
  unfold jm_M_same
  rw [← nI_0, key, List.drop_zero]
  first | done | rfl
theorem c_orig {LA LE : List Nat} {d : CS} {a : Nat} : jc_Entry_isOriginalOf LA LE d a = some (if og (cg_rqTerm d) (cg_rqOrig d) (cg_rqCard d) (cg_ent d a) = true then 1 else 0) := by
  unfold jc_Entry_isOriginalOf
  by_cases c1 : ce_trace (cg_ent d a) = cg_rqOrig d
  · rw [if_pos c1]
    by_cases c2 : ce_term (cg_ent d a) = cg_rqTerm d
    · rw [if_pos c2]
      by_cases c3 : ce_card (cg_ent d a) = cg_rqCard d
      · rw [if_pos c3, if_pos (og_t.mpr ⟨c1, c2, c3⟩)]
      · rw [if_neg c3, if_neg (fun q => c3 (og_t.mp q).2.2)]
    · rw [if_neg c2, if_neg (fun q => c2 (og_t.mp q).2.1)]
  · rw [if_neg c1, if_neg (fun q => c1 (og_t.mp q).1)]
def hd (t : Int64) (te tr : Int32) (cd : Int64) (r : CE) : Bool := ho t r && og te tr cd r
theorem c_fhold {LA LE : List Nat} {ln : Nat → Nat} {d : CS} {J : List CE} {nw : Nat} (h : cJo LE ln d J) (ht : cg_jTime d = lN nw) (hl : J.length ≤ 32) : jc_Journal_findHold LA LE d = some ((fx (hd (lN nw) (cg_rqTerm d) (cg_rqOrig d) (cg_rqCard d)) J 0).map ln) := by
  obtain ⟨h1, h2, h3, h4⟩ := h
  have key := loop_fx (F := jc_Journal_findHold_L2 LA LE d) (p := hd (lN nw) (cg_rqTerm d) (cg_rqOrig d) (cg_rqCard d)) (L := J) (en := none) (hit := fun j => some (ln j)) (fun rc => by
      unfold jc_Journal_findHold_L2
      rw [h1, if_pos (nI_le (Nat.le_refl _) (by omega))]) (fun rc k hk => by
      have e4 := h4 k hk
      try dsimp only at e4
      have hk6 : k < 32 := by omega
      unfold jc_Journal_findHold_L2 hd
      simp only [git hk6 (show (32 : Nat) < 2 ^ 31 by decide)]
      rw [h1, if_neg (nI_ge hk (by omega)), nI_clamp (by omega), gq_e (h2 k hk6).1 (h2 k hk6).2, c_hold, ob_s, ht, e4, gq_e (h2 k hk6).1 (h2 k hk6).2, c_orig, ob_s, e4, gq_e (h2 k hk6).1 (h2 k hk6).2, nI_1]
      cases c1 : ho (lN nw) J[k] with
      | true =>
        cases c2 : og (cg_rqTerm d) (cg_rqOrig d) (cg_rqCard d) J[k] with
        | true => rfl
        | false => rfl
      | false => rfl) J.length 0 200 (by omega) (by omega)
  unfold jc_Journal_findHold
  rw [← nI_0, key, List.drop_zero]
  cases fx (hd (lN nw) (cg_rqTerm d) (cg_rqOrig d) (cg_rqCard d)) J 0 <;> rfl
/-- the hold that a request names, found in two ways -/
theorem hold_two {J : List CE} {nw : Nat} (hok : ∀ r ∈ J, rw_ok nw r) (hpw : J.Pairwise rw_ne) (te tr : Int32) (cd : Int64) :
    (∃ j, ∃ hj : j < J.length, fx (hd (lN nw) te tr cd) J 0 = some j ∧ fx (sm 100 te tr) J 0 = some j ∧ ho (lN nw) J[j] = true ∧ ce_card J[j] = cd) ∨ (fx (hd (lN nw) te tr cd) J 0 = none ∧ (fx (sm 100 te tr) J 0 = none ∨ ∃ j, ∃ hj : j < J.length, fx (sm 100 te tr) J 0 = some j ∧ (ho (lN nw) J[j] = false ∨ ¬ ce_card J[j] = cd))) := by
  have hho : ∀ r ∈ J, ho (lN nw) r = true → ce_type r = 100 := fun r hr q => by
    unfold ho at q
    rw [Bool.and_eq_true, decide_eq_true_eq] at q
    exact (hok r hr).2.1 q.1
  have uniq : ∀ a b (ha : a < J.length) (hb : b < J.length), sm 100 te tr J[a] = true → sm 100 te tr J[b] = true → a = b := by
    intro a b ha hb qa qb
    rw [List.pairwise_iff_getElem] at hpw
    have za := sm_t.mp qa
    have zb := sm_t.mp qb
    rcases Nat.lt_trichotomy a b with c | c | c
    · exact absurd ⟨za.1.trans zb.1.symm, za.2.1.trans zb.2.1.symm, za.2.2.trans zb.2.2.symm⟩ (hpw a b ha hb c)
    · exact c
    · exact absurd ⟨zb.1.trans za.1.symm, zb.2.1.trans za.2.1.symm, zb.2.2.trans za.2.2.symm⟩ (hpw b a hb ha c)
  cases h1 : fx (hd (lN nw) te tr cd) J 0 with
  | some j =>
    obtain ⟨i, hi, e1, e2⟩ := fx_some h1
    have e1 : j = i := by omega
    subst e1
    unfold hd at e2
    rw [Bool.and_eq_true] at e2
    obtain ⟨q1, q2, q3⟩ := og_t.mp e2.2
    have hs : sm 100 te tr J[j] = true := sm_t.mpr ⟨hho _ (List.getElem_mem hi) e2.1, q2, q1⟩
    refine Or.inl ⟨j, hi, rfl, ?_, e2.1, q3⟩
    cases h2 : fx (sm 100 te tr) J 0 with
    | none =>
      have := fx_none h2 J[j] (List.getElem_mem hi)
      rw [hs] at this
      cases this
    | some a =>
      obtain ⟨i2, hi2, e3, e4⟩ := fx_some h2
      have e3 : a = i2 := by omega
      subst e3
      rw [uniq a j hi2 hi e4 hs]
  | none =>
    refine Or.inr ⟨rfl, ?_⟩
    cases h2 : fx (sm 100 te tr) J 0 with
    | none => exact Or.inl rfl
    | some a =>
      obtain ⟨i2, hi2, e3, e4⟩ := fx_some h2
      have e3 : a = i2 := by omega
      subst e3
      refine Or.inr ⟨a, hi2, rfl, ?_⟩
      have hn := fx_none h1 J[a] (List.getElem_mem hi2)
      have z := sm_t.mp e4
      cases c1 : ho (lN nw) J[a] with
      | false => exact Or.inl rfl
      | true =>
        refine Or.inr (fun q => ?_)
        have : hd (lN nw) te tr cd J[a] = true := by
          unfold hd
          rw [c1, og_t.mpr ⟨z.2.2, z.2.1, q⟩]
          rfl
        rw [hn] at this
        cases this
/-! the entry to be reversed -/
def rv (t : Int64) (te tr : Int32) (cd : Int64) (r : CE) : Bool := (ho t r || po r) && og te tr cd r
theorem lx_take {α : Type} {p : α → Bool} {L : List α} {m : Nat} (h : m < L.length) : lx p (L.take (m + 1)) 0 none = if p L[m] = true then some m else lx p (L.take m) 0 none := by
  rw [List.take_succ_eq_append_getElem h, lx_app]
  have e : 0 + (L.take m).length = m := by
    rw [List.length_take]
    omega
  rw [e]
theorem c_frev {LA LE : List Nat} {ln : Nat → Nat} {d : CS} {J : List CE} {nw : Nat} (h : cJo LE ln d J) (ht : cg_jTime d = lN nw) (hl : J.length ≤ 32) : jc_Journal_findReversible LA LE d = some ((lx (rv (lN nw) (cg_rqTerm d) (cg_rqOrig d) (cg_rqCard d)) J 0 none).map ln) := by
  obtain ⟨h1, h2, h3, h4⟩ := h
  have key : ∀ (m f : Nat), m ≤ J.length → m < f → loopF (jc_Journal_findReversible_L7 LA LE d) f (nI m - 1) = some ((lx (rv (lN nw) (cg_rqTerm d) (cg_rqOrig d) (cg_rqCard d)) (J.take m) 0 none).map ln) := by
    intro m
    induction m with
    | zero =>
      intro f hm hf
      obtain ⟨g, rfl⟩ : ∃ g, f = g + 1 := ⟨f - 1, by omega⟩
      show jc_Journal_findReversible_L7 LA LE d _ (nI 0 - 1) = _
      unfold jc_Journal_findReversible_L7
      rw [if_pos (by decide), List.take_zero]
      rfl
    | succ m ih =>
      intro f hm hf
      obtain ⟨g, rfl⟩ : ∃ g, f = g + 1 := ⟨f - 1, by omega⟩
      have hm2 : m < J.length := by omega
      have hk6 : m < 32 := by omega
      have e4 := h4 m hm2
      try dsimp only at e4
      have e3 : nI m + (-1) = nI m - 1 := by grind
      have ih2 := ih g (by omega) (by omega)
      have eK : ∀ rc : Int32 → Option (Option Nat), jc_Journal_findReversible_L7 LA LE d rc (nI m) = if rv (lN nw) (cg_rqTerm d) (cg_rqOrig d) (cg_rqCard d) J[m] = true then some (some (ln m)) else rc (nI m - 1) := by
        intro rc
        unfold jc_Journal_findReversible_L7
        rw [if_neg (nI_pos (by omega)), git hk6 (by decide), nI_clamp (by omega), gq_e (h2 m hk6).1 (h2 m hk6).2, c_hold, ob_s, c_posted, ob_s, c_orig, ob_s, ht, e4, e3]
        unfold rv
        cases c1 : ho (lN nw) J[m] with
        | true =>
          cases c2 : og (cg_rqTerm d) (cg_rqOrig d) (cg_rqCard d) J[m] with
          | true => rfl
          | false => rfl
        | false =>
          cases c3 : po J[m] with
          | true =>
            cases c2 : og (cg_rqTerm d) (cg_rqOrig d) (cg_rqCard d) J[m] with
            | true => rfl
            | false => rfl
          | false => rfl
      have eL : loopF (jc_Journal_findReversible_L7 LA LE d) (g + 1) (nI (m + 1) - 1) = if rv (lN nw) (cg_rqTerm d) (cg_rqOrig d) (cg_rqCard d) J[m] = true then some (some (ln m)) else loopF (jc_Journal_findReversible_L7 LA LE d) g (nI m - 1) := by
        rw [nI_dn]
        exact eK (loopF (jc_Journal_findReversible_L7 LA LE d) g)
      rw [lx_take hm2, eL, ih2]
      by_cases c : rv (lN nw) (cg_rqTerm d) (cg_rqOrig d) (cg_rqCard d) J[m] = true
      · rw [if_pos c, if_pos c]
        rfl
      · rw [if_neg c, if_neg c]
  unfold jc_Journal_findReversible
  rw [h1, key J.length 200 (Nat.le_refl _) (by omega), List.take_length]
theorem m_rev {u : MS} {J : List CE} {nw k : Nat} (h : mJo u J) (hn : mg_now u = nI nw) (hl : J.length ≤ 32) (hw : nw < 2 ^ 30) (hok : ∀ r ∈ J, rw_ok nw r) (hk : k < J.length) : jm_M_reversible u (nI k) = some (if rv (lN nw) (mg_terminal u) (mg_original u) (mg_card u) J[k] = true then 1 else 0) := by
  obtain ⟨e1, e2, e3, e4, e5, e6, e7, e8, e9⟩ := h.2 k hk
  have hk6 : k < 40 := by omega
  have hho : ho (lN nw) J[k] = true → ce_type J[k] = 100 := fun q => by
    unfold ho at q
    rw [Bool.and_eq_true, decide_eq_true_eq] at q
    exact (hok J[k] (List.getElem_mem hk)).2.1 q.1
  have ogc : (if ce_trace J[k] = mg_original u then (if ce_term J[k] = mg_terminal u then (if ce_card J[k] = mg_card u then some (1 : Int32) else some 0) else some 0) else some 0) = some (if og (mg_terminal u) (mg_original u) (mg_card u) J[k] = true then 1 else 0) := by
    by_cases c1 : ce_trace J[k] = mg_original u
    · rw [if_pos c1]
      by_cases c2 : ce_term J[k] = mg_terminal u
      · rw [if_pos c2]
        by_cases c3 : ce_card J[k] = mg_card u
        · rw [if_pos c3, if_pos (og_t.mpr ⟨c1, c2, c3⟩)]
        · rw [if_neg c3, if_neg (fun q => c3 (og_t.mp q).2.2)]
      · rw [if_neg c2, if_neg (fun q => c2 (og_t.mp q).2.1)]
    · rw [if_neg c1, if_neg (fun q => c1 (og_t.mp q).1)]
  unfold jm_M_reversible
  simp only [git hk6 (show (40 : Nat) < 2 ^ 31 by decide)]
  rw [nI_clamp (by omega), m_hold h hn hl hw hok hk, e1, e2, e3, e4, e7, e8]
  simp only [ob_s]
  rw [ogc]
  unfold rv
  by_cases t1 : ce_type J[k] = 100
  · have np : po J[k] = false := by
      unfold po
      rw [t1]
      rfl
    have t2 : ¬ ce_type J[k] = 200 := by rw [t1]; decide
    rw [if_pos t1, if_neg t2, np]
    cases c1 : ho (lN nw) J[k] with
    | true => rfl
    | false => rfl
  · have nh : ho (lN nw) J[k] = false := by
      cases c1 : ho (lN nw) J[k] with
      | false => rfl
      | true => exact absurd (hho c1) t1
    rw [if_neg t1, nh]
    unfold po
    by_cases t2 : ce_type J[k] = 200
    · rw [if_pos t2, decide_eq_true t2]
      by_cases t3 : ce_answer J[k] = 0
      · rw [if_pos t3, decide_eq_true t3]
        by_cases t4 : ce_state J[k] = 3
        · rw [if_pos t4, decide_eq_true t4]
          rfl
        · rw [if_neg t4, decide_eq_false t4]
          rfl
      · rw [if_neg t3, decide_eq_false t3]
        rfl
    · rw [if_neg t2, decide_eq_false t2]
      rfl
