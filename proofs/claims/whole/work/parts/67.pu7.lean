/-! the map's bits, and which fields are due -/
theorem mv_hi : ∀ (l : List Nat) (v i : Nat), (∀ b ∈ l, b < 256) → (mVal v l).testBit (8 * l.length + i) = v.testBit i
  | [], v, i, _ => by
    show v.testBit (8 * 0 + i) = _
    rw [Nat.mul_zero, Nat.zero_add]
  | b :: l, v, i, h => by
    show (mVal (v * 256 + b) l).testBit (8 * (l.length + 1) + i) = _
    have e : 8 * (l.length + 1) + i = 8 * l.length + (8 + i) := by omega
    have hb : b < 2 ^ 8 := h b List.mem_cons_self
    rw [e, mv_hi l (v * 256 + b) (8 + i) (fun x hx => h x (List.mem_cons_of_mem _ hx))]
    have e2 : v * 256 + b = 2 ^ 8 * v + b := by rw [Nat.mul_comm]
    rw [e2, Nat.testBit_two_pow_mul_add v hb, if_neg (by omega)]
    congr 1
    omega
theorem mv_lo : ∀ (l : List Nat) (v k : Nat), (∀ b ∈ l, b < 256) → 1 ≤ k → k ≤ 8 * l.length → (mVal v l).testBit (8 * l.length - k) = (l.getD ((k - 1) / 8) 0).testBit (7 - (k - 1) % 8)
  | [], v, k, _, h1, h2 => by
    have h2 : k ≤ 8 * 0 := h2
    omega
  | b :: l, v, k, h, h1, h2 => by
    have hl : (b :: l).length = l.length + 1 := rfl
    rw [hl] at h2 ⊢
    show (mVal (v * 256 + b) l).testBit (8 * (l.length + 1) - k) = _
    have hb : b < 2 ^ 8 := h b List.mem_cons_self
    have hr : ∀ x ∈ l, x < 256 := fun x hx => h x (List.mem_cons_of_mem _ hx)
    by_cases c : k ≤ 8
    · have e : 8 * (l.length + 1) - k = 8 * l.length + (8 - k) := by omega
      have e3 : (k - 1) / 8 = 0 := by omega
      have e4 : 7 - (k - 1) % 8 = 8 - k := by omega
      rw [e, mv_hi l _ _ hr, e3, e4, List.getD_cons_zero]
      have e2 : v * 256 + b = 2 ^ 8 * v + b := by rw [Nat.mul_comm]
      rw [e2, Nat.testBit_two_pow_mul_add v hb, if_pos (by omega)]
    · have e : 8 * (l.length + 1) - k = 8 * l.length - (k - 8) := by omega
      have e3 : (k - 1) / 8 = (k - 8 - 1) / 8 + 1 := by omega
      have e4 : (k - 1) % 8 = (k - 8 - 1) % 8 := by omega
      rw [e, mv_lo l _ (k - 8) hr (by omega) (by omega), e3, e4, List.getD_cons_succ]
theorem tk_getD {B : List Nat} {p m j : Nat} (hj : j < m) (h : p + m ≤ B.length) : (tk B p m).getD j 0 = B[p + j]'(by omega) := by
  unfold tk
  rw [List.getD_eq_getElem?_getD, List.getElem?_take_of_lt hj, List.getElem?_drop, List.getElem?_eq_getElem (by omega)]
  rfl
theorem tk_mem {B : List Nat} {p m x : Nat} (h : x ∈ tk B p m) : x ∈ B := List.mem_of_mem_drop (List.mem_of_mem_take h)
theorem tk_len {B : List Nat} {p m : Nat} (h : p + m ≤ B.length) : (tk B p m).length = m := by
  unfold tk
  rw [List.length_take, List.length_drop]
  omega
theorem mp_bit {B : List Nat} (hb : ∀ b ∈ B, b < 256) (h10 : 10 ≤ B.length) {k : Nat} (h1 : 1 ≤ k) (h2 : k ≤ 64) : (mVal 0 (tk B 2 8)).testBit (64 - k) = (B[2 + (k - 1) / 8]'(by omega)).testBit (7 - (k - 1) % 8) := by
  have hl : (tk B 2 8).length = 8 := tk_len (by omega)
  have e := mv_lo (tk B 2 8) 0 k (fun b hb2 => hb b (tk_mem hb2)) h1 (by rw [hl]; omega)
  rw [hl, tk_getD (by omega) (by omega)] at e
  exact e
theorem mp_lt {B : List Nat} (hb : ∀ b ∈ B, b < 256) (h10 : 10 ≤ B.length) : mVal 0 (tk B 2 8) < 2 ^ 64 := by
  have hl : (tk B 2 8).length = 8 := tk_len (by omega)
  apply Nat.lt_pow_two_of_testBit
  intro i hi
  have e := mv_hi (tk B 2 8) 0 (i - 64) (fun b hb2 => hb b (tk_mem hb2))
  rw [hl, Nat.zero_testBit] at e
  have e2 : 8 * 8 + (i - 64) = i := by omega
  rw [e2] at e
  exact e
theorem sh8 : ∀ s, s < 8 → ((nI s &&& 31).toBitVec.smod 32).toNat = s := by decide +kernel
theorem bit_I {b s : Nat} (hb : b < 256) (hs : s < 8) : ((nI b >>> (nI s &&& 31)) &&& 1 = 1) ↔ b.testBit s = true := by
  have hd : b / 2 ^ s ≤ b := Nat.div_le_self _ _
  rw [pk_shrN (by omega) _ s (sh8 s hs), pk_andN (by omega) (m := 1) 1 rfl, Nat.testBit_eq_decide_div_mod_eq, decide_eq_true_eq]
  exact nI_eq (b := 1) (by omega) (by decide)
theorem hasl_end (KK : MS → Option (Int32 × MS)) (rc : MS × Int32 → Option (Int32 × MS)) (u : MS) (x : Int32) (hx : 64 < x) : L55g KK rc (u, x) = KK (ms_at u 10) := by
  unfold L55g
  exact if_pos hx
theorem hasl_step {B : List Nat} (hl : B.length ≤ 120) (hb : ∀ b ∈ B, b < 256) (h10 : 10 ≤ B.length) {u : MS} (h : mIn u B) {k : Nat} (hk1 : 1 ≤ k) (hk2 : k ≤ 64) (KK : MS → Option (Int32 × MS)) (rc : MS × Int32 → Option (Int32 × MS)) : L55g KK rc (u, nI k) = rc (ms_has u (upd (mg_has u) k (hsI (mVal 0 (tk B 2 8)) k)), nI (k + 1)) := by
  have a1 : nI k - 1 = nI (k - 1) := pk_sub (b := 1) hk1
  have a2 : nI (k - 1) / 8 = nI ((k - 1) / 8) := pk_div (d := 8) (by omega) (by decide) (by decide)
  have a3 : nI (k - 1) - nI (k - 1) / 8 * 8 = nI ((k - 1) % 8) := pk_rem (d := 8) (by omega) (by decide) (by decide)
  have a4 : (7 : Int32) - nI ((k - 1) % 8) = nI (7 - (k - 1) % 8) := pk_sub (a := 7) (by omega)
  have a5 : (2 : Int32) + nI ((k - 1) / 8) = nI (2 + (k - 1) / 8) := nI_add 2 _
  have hx : 2 + (k - 1) / 8 < B.length := by omega
  have hb2 := hb _ (List.getElem_mem hx)
  have hbit := bit_I hb2 (s := 7 - (k - 1) % 8) (by omega)
  have hmp := mp_bit hb h10 hk1 hk2
  have h65 : k < 65 := by omega
  have v1 : vp_nar .boolean (1 : Int32) = 1 := rfl
  have v0 : vp_nar .boolean (0 : Int32) = 0 := rfl
  generalize hM : hsI (mVal 0 (tk B 2 8)) k = M
  have hM1 : M = if (B[2 + (k - 1) / 8]'hx).testBit (7 - (k - 1) % 8) = true then 1 else 0 := by
    rw [← hM]
    unfold hsI
    rw [hmp]
  unfold L55g
  simp only [git h65 (show (65 : Nat) < 2 ^ 31 by decide), nmd_e]
  rw [if_neg (show ¬ (64 : Int32) < nI k from nI_nlt (a := 64) (by omega) (by decide)), a1, a3, a4, a2, a5, git (by omega) (by decide), nI_clamp (by omega), nI_clamp (by omega), m_inAt h hx, nI_1, v1, v0]
  by_cases c : (B[2 + (k - 1) / 8]'hx).testBit (7 - (k - 1) % 8) = true
  · rw [if_pos c] at hM1
    rw [if_pos (hbit.mpr c), hM1]
  · rw [if_neg c] at hM1
    rw [if_neg (fun q => c (hbit.mp q)), hM1]
theorem has_hh (u : MS) (f g : Nat → Int32) : ms_has (ms_has u f) g = ms_has u g := rfl
theorem has_gg (u : MS) (f : Nat → Int32) : mg_has (ms_has u f) = f := rfl
theorem m_hasl {B : List Nat} (hl : B.length ≤ 120) (hb : ∀ b ∈ B, b < 256) (h10 : 10 ≤ B.length) {u0 : MS} (KK : MS → Option (Int32 × MS)) :
    ∀ (m : Nat) (u : MS) (f : Nat), m ≤ 64 → m < f → mIn u B → u = ms_has u0 (mg_has u) → (∀ k, 1 ≤ k → k < 65 - m → mg_has u k = hsI (mVal 0 (tk B 2 8)) k) → ∃ H : Nat → Int32, loopF (L55g KK) f (u, nI (65 - m)) = KK (ms_at (ms_has u0 H) 10) ∧ ∀ k, 1 ≤ k → k ≤ 64 → H k = hsI (mVal 0 (tk B 2 8)) k := by
  intro m
  induction m with
  | zero =>
    intro u f hm hf h hu hh
    obtain ⟨g, rfl⟩ : ∃ g, f = g + 1 := ⟨f - 1, by omega⟩
    refine ⟨mg_has u, ?_, fun k h1 h2 => hh k h1 (by omega)⟩
    rw [← hu]
    exact hasl_end KK (loopF (L55g KK) g) u (nI (65 - 0)) (by decide)
  | succ m ih =>
    intro u f hm hf h hu hh
    obtain ⟨g, rfl⟩ : ∃ g, f = g + 1 := ⟨f - 1, by omega⟩
    obtain ⟨k, hkm⟩ : ∃ k, k = 65 - (m + 1) := ⟨_, rfl⟩
    have hk1 : 1 ≤ k := by omega
    have hk2 : k ≤ 64 := by omega
    have hk3 : 65 - m = k + 1 := by omega
    have eL : loopF (L55g KK) (g + 1) (u, nI k) = loopF (L55g KK) g (ms_has u (upd (mg_has u) k (hsI (mVal 0 (tk B 2 8)) k)), nI (k + 1)) := hasl_step hl hb h10 h hk1 hk2 KK (loopF (L55g KK) g)
    rw [← hkm, eL]
    generalize hsI (mVal 0 (tk B 2 8)) = HS at *
    have ih2 := ih (ms_has u (upd (mg_has u) k (HS k))) g (by omega) (by omega) (k_mIn_ms_has h) (by
      rw [has_gg]
      exact (congrArg (fun z => ms_has z _) hu).trans (has_hh _ _ _)) (fun j h1 h2 => by
      rw [has_gg]
      by_cases c : j = k
      · subst c
        rw [pk_us]
      · rw [pk_un c]
        exact hh j h1 (by omega))
    rw [hk3] at ih2
    exact ih2
/-! which fields are due -/
/-- of a type that is not handled the reference refuses field 39 alone here: others it has not read -/
def nalm (ty : Nat) : Nat := if ty = 100 ∨ ty = 200 ∨ ty = 400 ∨ ty = 500 then nall ty else 33554432
def dv (ty k : Nat) : Int32 := if (ndf ty).testBit (64 - k) = true then 1 else if (nalm ty).testBit (64 - k) = true then -1 else 0
def kAll (P : Nat → Bool) : Bool := (List.range 65).all fun k => k == 0 || P k
theorem kAll_e {P : Nat → Bool} (h : kAll P = true) {k : Nat} (h1 : 1 ≤ k) (h2 : k ≤ 64) : P k = true := by
  unfold kAll at h
  rw [List.all_eq_true] at h
  have := h k (List.mem_range.mpr (by omega))
  rw [Bool.or_eq_true] at this
  rcases this with q | q
  · have := eq_of_beq q
    omega
  · exact q
theorem due_100 {k : Nat} (h1 : 1 ≤ k) (h2 : k ≤ 64) : dueF 100 (nI k) = some (dv 100 k) := of_decide_eq_true (kAll_e (P := fun k => decide (dueF 100 (nI k) = some (dv 100 k))) (by decide +kernel) h1 h2)
theorem due_200 {k : Nat} (h1 : 1 ≤ k) (h2 : k ≤ 64) : dueF 200 (nI k) = some (dv 200 k) := of_decide_eq_true (kAll_e (P := fun k => decide (dueF 200 (nI k) = some (dv 200 k))) (by decide +kernel) h1 h2)
theorem due_400 {k : Nat} (h1 : 1 ≤ k) (h2 : k ≤ 64) : dueF 400 (nI k) = some (dv 400 k) := of_decide_eq_true (kAll_e (P := fun k => decide (dueF 400 (nI k) = some (dv 400 k))) (by decide +kernel) h1 h2)
theorem due_500 {k : Nat} (h1 : 1 ≤ k) (h2 : k ≤ 64) : dueF 500 (nI k) = some (dv 500 k) := of_decide_eq_true (kAll_e (P := fun k => decide (dueF 500 (nI k) = some (dv 500 k))) (by decide +kernel) h1 h2)
theorem due_oth {k : Nat} (h1 : 1 ≤ k) (h2 : k ≤ 64) : dueF 0 (nI k) = some (dv 0 k) := of_decide_eq_true (kAll_e (P := fun k => decide (dueF 0 (nI k) = some (dv 0 k))) (by decide +kernel) h1 h2)
theorem m_due {u : MS} {ty : Nat} (ht : ty < 2 ^ 31) (e : mg_type u = nI ty) {k : Nat} (h1 : 1 ≤ k) (h2 : k ≤ 64) : jm_M_due u (nI k) = some (dv ty k) := by
  have eF : jm_M_due u (nI k) = dueF (mg_type u) (nI k) := rfl
  rw [eF, e]
  by_cases c1 : ty = 100
  · subst c1
    exact due_100 h1 h2
  by_cases c2 : ty = 200
  · subst c2
    exact due_200 h1 h2
  by_cases c4 : ty = 400
  · subst c4
    exact due_400 h1 h2
  by_cases c5 : ty = 500
  · subst c5
    exact due_500 h1 h2
  have e1 : ndf ty = ndf 0 := by unfold ndf; rw [if_neg (show ¬ (ty = 100 ∨ ty = 200) from fun q => q.elim c1 c2), if_neg c4]; rfl
  have e2 : nalm ty = nalm 0 := by unfold nalm; rw [if_neg (show ¬ (ty = 100 ∨ ty = 200 ∨ ty = 400 ∨ ty = 500) from fun q => q.elim c1 (fun q => q.elim c2 (fun q => q.elim c4 c5)))]; rfl
  have e3 : dv ty k = dv 0 k := by unfold dv; rw [e1, e2]
  have n1 : ¬ nI ty = 100 := fun q => c1 ((nI_eq (b := 100) ht (by decide)).mp q)
  have n2 : ¬ nI ty = 200 := fun q => c2 ((nI_eq (b := 200) ht (by decide)).mp q)
  have n4 : ¬ nI ty = 400 := fun q => c4 ((nI_eq (b := 400) ht (by decide)).mp q)
  have n5 : ¬ nI ty = 500 := fun q => c5 ((nI_eq (b := 500) ht (by decide)).mp q)
  have eo : dueF (nI ty) (nI k) = dueF 0 (nI k) := by
    have m1 : ¬ (0 : Int32) = 100 := by decide
    have m2 : ¬ (0 : Int32) = 200 := by decide
    have m4 : ¬ (0 : Int32) = 400 := by decide
    have m5 : ¬ (0 : Int32) = 500 := by decide
    unfold dueF
    simp only [n1, n2, n4, n5, m1, m2, m4, m5, if_false]
  rw [eo, e3]
  exact due_oth h1 h2
def okk (ty mp k : Nat) : Prop := ((ndf ty).testBit (64 - k) = true → mp.testBit (64 - k) = true) ∧ ((nalm ty).testBit (64 - k) = true → mp.testBit (64 - k) = false)
theorem nd_al (ty i : Nat) : (ndf ty).testBit i = true → (nalm ty).testBit i = false := by
  have key : ndf ty &&& nalm ty = 0 := by
    by_cases c1 : ty = 100
    · subst c1; decide +kernel
    by_cases c2 : ty = 200
    · subst c2; decide +kernel
    by_cases c4 : ty = 400
    · subst c4; decide +kernel
    by_cases c5 : ty = 500
    · subst c5; decide +kernel
    unfold ndf nalm
    rw [if_neg (show ¬ (ty = 100 ∨ ty = 200) from fun q => q.elim c1 c2), if_neg c4, if_neg (show ¬ (ty = 100 ∨ ty = 200 ∨ ty = 400 ∨ ty = 500) from fun q => q.elim c1 (fun q => q.elim c2 (fun q => q.elim c4 c5)))]
    decide +kernel
  intro h
  have h2 := congrArg (fun x => Nat.testBit x i) key
  try dsimp only at h2
  rw [Nat.testBit_and, h, Nat.zero_testBit, Bool.true_and] at h2
  exact h2
theorem m_dueloop {ty mp : Nat} (ht : ty < 2 ^ 31) {u : MS} (e : mg_type u = nI ty) (hh : ∀ k, 1 ≤ k → k ≤ 64 → mg_has u k = hsI mp k) :
    ∀ (m f : Nat), m ≤ 64 → m < f → ((∀ k, 65 - m ≤ k → k ≤ 64 → okk ty mp k) ∧ loopF jm_M_isRequest_L24 f (u, nI (65 - m)) = some (1, u)) ∨ (¬ (∀ k, 65 - m ≤ k → k ≤ 64 → okk ty mp k) ∧ loopF jm_M_isRequest_L24 f (u, nI (65 - m)) = some (0, u)) := by
  intro m
  induction m with
  | zero =>
    intro f hm hf
    obtain ⟨g, rfl⟩ : ∃ g, f = g + 1 := ⟨f - 1, by omega⟩
    refine Or.inl ⟨fun k h1 h2 => by omega, ?_⟩
    show jm_M_isRequest_L24 _ _ = _
    unfold jm_M_isRequest_L24
    try dsimp only
    rw [if_pos (show (64 : Int32) < nI (65 - 0) by decide)]
  | succ m ih =>
    intro f hm hf
    obtain ⟨g, rfl⟩ : ∃ g, f = g + 1 := ⟨f - 1, by omega⟩
    obtain ⟨k, hkm⟩ : ∃ k, k = 65 - (m + 1) := ⟨_, rfl⟩
    have hk1 : 1 ≤ k := by omega
    have hk2 : k ≤ 64 := by omega
    have hk3 : 65 - m = k + 1 := by omega
    have h65 : k < 65 := by omega
    have ih2 := ih g (by omega) (by omega)
    rw [hk3] at ih2
    rw [← hkm]
    have eK : ∀ rc : MS × Int32 → Option (Int32 × MS), jm_M_isRequest_L24 rc (u, nI k) = if dv ty k = 1 then (if hsI mp k = 0 then some (0, u) else if dv ty k = -1 then (if hsI mp k = 0 then rc (u, nI (k + 1)) else some (0, u)) else rc (u, nI (k + 1))) else if dv ty k = -1 then (if hsI mp k = 0 then rc (u, nI (k + 1)) else some (0, u)) else rc (u, nI (k + 1)) := by
      intro rc
      unfold jm_M_isRequest_L24
      simp only [git h65 (show (65 : Nat) < 2 ^ 31 by decide)]
      rw [if_neg (show ¬ (64 : Int32) < nI k from nI_nlt (a := 64) (by omega) (by decide)), m_due ht e hk1 hk2, ob_s, nI_clamp (by omega), hh k hk1 hk2, nI_1]
    have eL : loopF jm_M_isRequest_L24 (g + 1) (u, nI k) = _ := eK (loopF jm_M_isRequest_L24 g)
    rw [eL]
    have split : (∀ j, k ≤ j → j ≤ 64 → okk ty mp j) ↔ (okk ty mp k ∧ ∀ j, k + 1 ≤ j → j ≤ 64 → okk ty mp j) := by
      constructor
      · intro q
        exact ⟨q k (Nat.le_refl _) hk2, fun j h1 h2 => q j (by omega) h2⟩
      · intro q j h1 h2
        by_cases c : j = k
        · subst c
          exact q.1
        · exact q.2 j (by omega) h2
    rw [split]
    have cont : okk ty mp k → (((okk ty mp k ∧ ∀ j, k + 1 ≤ j → j ≤ 64 → okk ty mp j) ∧ loopF jm_M_isRequest_L24 g (u, nI (k + 1)) = some (1, u)) ∨ (¬ (okk ty mp k ∧ ∀ j, k + 1 ≤ j → j ≤ 64 → okk ty mp j) ∧ loopF jm_M_isRequest_L24 g (u, nI (k + 1)) = some (0, u))) := by
      intro q
      rcases ih2 with ⟨a, b⟩ | ⟨a, b⟩
      · exact Or.inl ⟨⟨q, a⟩, b⟩
      · exact Or.inr ⟨fun z => a z.2, b⟩
    have hx := nd_al ty (64 - k)
    unfold dv hsI
    have bT : ∀ b : Bool, b = true → ¬ b = false := fun b h q => by rw [h] at q; cases q
    cases c1 : (ndf ty).testBit (64 - k) with
    | true =>
      have c2 := hx c1
      cases c3 : mp.testBit (64 - k) with
      | true => exact cont ⟨fun _ => c3, fun q => absurd c2 (bT _ q)⟩
      | false => exact Or.inr ⟨fun q => absurd c3 (bT _ (q.1.1 c1)), rfl⟩
    | false =>
      cases c2 : (nalm ty).testBit (64 - k) with
      | true =>
        cases c3 : mp.testBit (64 - k) with
        | true => exact Or.inr ⟨fun q => absurd (q.1.2 c2) (bT _ c3), rfl⟩
        | false => exact cont ⟨fun q => absurd c1 (bT _ q), fun _ => c3⟩
      | false => exact cont ⟨fun q => absurd c1 (bT _ q), fun q => absurd c2 (bT _ q)⟩
theorem nalm_sub {ty i : Nat} (h : (nalm ty).testBit i = true) : (nall ty).testBit i = true := by
  unfold nalm at h
  by_cases c : ty = 100 ∨ ty = 200 ∨ ty = 400 ∨ ty = 500
  · rw [if_pos c] at h
    exact h
  · rw [if_neg c] at h
    have hi : i = 25 := by
      have e : (33554432 : Nat) = 2 ^ 25 := by decide
      rw [e, Nat.testBit_two_pow, decide_eq_true_eq] at h
      exact h.symm
    subst hi
    unfold nall
    split
    · decide +kernel
    · split
      · decide +kernel
      · split <;> decide +kernel
theorem okk_of {ty mp : Nat} (q : belongs ty mp) : ∀ k, 1 ≤ k → k ≤ 64 → okk ty mp k := by
  intro k h1 h2
  refine ⟨fun z => ?_, fun z => ?_⟩
  · have e := congrArg (fun x => Nat.testBit x (64 - k)) q.1
    try dsimp only at e
    rw [Nat.testBit_and, z, Bool.and_true] at e
    exact e
  · have e := congrArg (fun x => Nat.testBit x (64 - k)) q.2
    try dsimp only at e
    rw [Nat.testBit_and, nalm_sub z, Bool.and_true, Nat.zero_testBit] at e
    exact e
theorem al_bits : ∀ i, i < 64 → i ∈ [62, 61, 60, 53, 25, 23, 16, 8] → i ≠ 25 → (18446744073709551615 - 8079457731511124224).testBit i = false := by decide +kernel
theorem bel_of {ty mp : Nat} (q : ∀ k, 1 ≤ k → k ≤ 64 → okk ty mp k) (hb : ∀ i, i < 64 → mp.testBit i = true → i ∈ [62, 61, 60, 53, 25, 23, 16, 8]) : belongs ty mp := by
  have nob : ∀ i, i < 64 → (nall ty).testBit i = true → mp.testBit i = false := by
    intro i hi z
    have h2 := (q (64 - i) (by omega) (by omega)).2
    rw [show 64 - (64 - i) = i by omega] at h2
    by_cases c : ty = 100 ∨ ty = 200 ∨ ty = 400 ∨ ty = 500
    · refine h2 ?_
      unfold nalm
      rw [if_pos c]
      exact z
    · cases cm : mp.testBit i with
      | false => rfl
      | true =>
        have hm := hb i hi cm
        by_cases c25 : i = 25
        · subst c25
          have h3 : (nalm ty).testBit 25 = true := by
            unfold nalm
            rw [if_neg c]
            decide +kernel
          rw [h2 h3] at cm
          cases cm
        · have hf := al_bits i hi hm c25
          have en : nall ty = 18446744073709551615 - 8079457731511124224 := by
            unfold nall
            rw [if_neg (fun z => c (Or.inl z)), if_neg (fun z => c (Or.inr (Or.inr (Or.inl z)))), if_neg (fun z => c (Or.inr (Or.inr (Or.inr z))))]
          rw [en, hf] at z
          cases z
  refine ⟨Nat.eq_of_testBit_eq (fun i => ?_), Nat.eq_of_testBit_eq (fun i => ?_)⟩
  · rw [Nat.testBit_and]
    by_cases hi : i < 64
    · have := (q (64 - i) (by omega) (by omega)).1
      rw [show 64 - (64 - i) = i by omega] at this
      cases c : (ndf ty).testBit i with
      | true => rw [this c]; rfl
      | false => rw [Bool.and_false]
    · have : ndf ty < 2 ^ i := Nat.lt_of_lt_of_le (need_lt ty) (Nat.pow_le_pow_right (by decide) (by omega))
      rw [Nat.testBit_lt_two_pow this, Bool.and_false]
  · rw [Nat.testBit_and, Nat.zero_testBit]
    by_cases hi : i < 64
    · cases c : (nall ty).testBit i with
      | true => rw [nob i hi c]; rfl
      | false => rw [Bool.and_false]
    · have : nall ty < 2 ^ i := Nat.lt_of_lt_of_le (nall_lt ty) (Nat.pow_le_pow_right (by decide) (by omega))
      rw [Nat.testBit_lt_two_pow this, Bool.and_false]
theorem fst_in {B : List Nat} {k : Nat} {V : VA} {p : Nat} {x : VA × Nat} (h : fst_ B k V p = some x) : k ∈ [2, 3, 4, 11, 39, 41, 48, 56] := by
  unfold fst_ at h
  by_cases c2 : k = 2
  · subst c2; decide
  by_cases c3 : k = 3
  · subst c3; decide
  by_cases c4 : k = 4
  · subst c4; decide
  by_cases c11 : k = 11
  · subst c11; decide
  by_cases c39 : k = 39
  · subst c39; decide
  by_cases c41 : k = 41
  · subst c41; decide
  by_cases c48 : k = 48
  · subst c48; decide
  by_cases c56 : k = 56
  · subst c56; decide
  rw [if_neg c2, if_neg c3, if_neg c4, if_neg c11, if_neg c39, if_neg c41, if_neg c48, if_neg c56] at h
  cases h
theorem fk_bits : ∀ i, i < 64 → 64 - i ∈ [2, 3, 4, 11, 39, 41, 48, 56] → i ∈ [62, 61, 60, 53, 25, 23, 16, 8] := by decide +kernel
theorem tl_in {B : List Nat} {mp : Nat} : ∀ (m : Nat) (V : VA) (p : Nat) (W : VA), m ≤ 64 → tl B mp m V p = some W → ∀ i, i < m → mp.testBit i = true → i ∈ [62, 61, 60, 53, 25, 23, 16, 8]
  | 0, _, _, _, _, _ => fun i hi => absurd hi (Nat.not_lt_zero i)
  | m + 1, V, p, W, hm, h => by
    intro i hi hb
    have h : (if mp.testBit m = true then (fst_ B (64 - m) V p).bind fun x => tl B mp m (setFT x.1 (64 - m) p x.2) x.2 else tl B mp m V p) = some W := h
    by_cases c : mp.testBit m = true
    · rw [if_pos c] at h
      obtain ⟨x, h1, h2⟩ := bd_some h
      by_cases ci : i = m
      · subst ci
        exact fk_bits i (by omega) (fst_in h1)
      · exact tl_in m _ _ W (by omega) h2 i (by omega) hb
    · rw [if_neg c] at h
      by_cases ci : i = m
      · subst ci
        exact absurd hb c
      · exact tl_in m V p W (by omega) h i (by omega) hb
