/-! the reference's loop over the 64 fields -/
abbrev VA : Type := Int64 × Int32 × Int64 × Int32 × Int32 × Int32 × (Nat → Nat) × (Nat → Nat)
def vaOf (u : MS) (F T : Nat → Nat) : VA := (mg_card u, mg_sort u, mg_amount u, mg_trace u, mg_terminal u, mg_original u, F, T)
def fst_ (B : List Nat) (k : Nat) (V : VA) (p : Nat) : Option (VA × Nat) :=
  if k = 2 then ((sNm B 2 1 16 p).bind fun q => sD B q.1 q.2).bind fun x => some ((lN x.1, V.2), x.2)
  else if k = 3 then (sD B 6 p).bind fun x => some ((V.1, nI x.1, V.2.2), x.2)
  else if k = 4 then (sD B 12 p).bind fun x => some ((V.1, V.2.1, lN x.1, V.2.2.2), x.2)
  else if k = 11 then (sD B 6 p).bind fun x => some ((V.1, V.2.1, V.2.2.1, nI x.1, V.2.2.2.2), x.2)
  else if k = 39 then (if sC B 48 57 2 p then some (V, p + 2) else none)
  else if k = 41 then (if sC B 32 126 4 p then some ((V.1, V.2.1, V.2.2.1, V.2.2.2.1, chI 0 (tk B p 4), V.2.2.2.2.2), p + 4) else none)
  else if k = 48 then ((sNm B 4 0 40 p).bind fun q => if sC B 32 126 q.1 q.2 then some (q.2 + q.1) else none).bind fun q => some (V, q)
  else if k = 56 then ((sNm B 2 6 6 p).bind fun q => sD B 6 q.2).bind fun x => some ((V.1, V.2.1, V.2.2.1, V.2.2.2.1, V.2.2.2.2.1, nI x.1, V.2.2.2.2.2.2), x.2)
  else none
def setFT (V : VA) (k p q : Nat) : VA := (V.1, V.2.1, V.2.2.1, V.2.2.2.1, V.2.2.2.2.1, V.2.2.2.2.2.1, va_up V.2.2.2.2.2.2.1 k p, va_up V.2.2.2.2.2.2.2 k q)
def tl (B : List Nat) (mp : Nat) : Nat → VA → Nat → Option VA
  | 0, V, p => if p = B.length then some V else none
  | m + 1, V, p => if mp.testBit m = true then (fst_ B (64 - m) V p).bind fun x => tl B mp m (setFT x.1 (64 - m) p x.2) x.2 else tl B mp m V p
theorem m_numf {u : MS} {B : List Nat} (h : mIn u B) (hl : B.length ≤ 120) (hb : ∀ b ∈ B, b < 256) {p : Nat} (hat : mg_at u = nI p) (hp : p ≤ B.length) (n : Nat) (hn : n ≤ 16) (st : MS → Int64 → MS) (F T : Nat → Nat) (fv : VA → Nat → VA) (K : Option (Int32 × MS))
    (hst : ∀ v q, mkh (st (ms_at (ms_value u (lN v)) (nI q)) (lN v)) = mkh u ∧ mg_at (st (ms_at (ms_value u (lN v)) (nI q)) (lN v)) = nI q ∧ mg_from (st (ms_at (ms_value u (lN v)) (nI q)) (lN v)) = mg_from u ∧ mg_to (st (ms_at (ms_value u (lN v)) (nI q)) (lN v)) = mg_to u ∧ vaOf (st (ms_at (ms_value u (lN v)) (nI q)) (lN v)) F T = fv (vaOf u F T) v)
    (hst0 : ∀ w, mkh (st (ms_value u w) w) = mkh u)
    (hK : K = (jm_M_digits u (nI n)).bind fun q => nmd (st q.2 (mg_value q.2)) fun e => if q.1 = 0 ∨ q.1 = 1 then some (q.1, e) else none) :
    (((sD B n p).bind fun x => some (fv (vaOf u F T) x.1, x.2)) = none ∧ ∃ u2, K = some (0, u2) ∧ mkh u2 = mkh u) ∨ (∃ u2 q, ((sD B n p).bind fun x => some (fv (vaOf u F T) x.1, x.2)) = some (vaOf u2 F T, q) ∧ q ≤ B.length ∧ K = some (1, u2) ∧ mkh u2 = mkh u ∧ mg_at u2 = nI q ∧ mg_from u2 = mg_from u ∧ mg_to u2 = mg_to u) := by
  rw [hK]
  rcases m_dig h hl hb hat hn hp with ⟨v, q, a1, a2, a3⟩ | ⟨a1, w, a2⟩
  · obtain ⟨s1, s2, s3, s4, s5⟩ := hst v q
    have ev : mg_value (ms_at (ms_value u (lN v)) (nI q)) = lN v := rfl
    rw [a1, a3, ob_s, ob_s]
    try dsimp only
    rw [ev, nmd_e, if_pos (Or.inr rfl)]
    exact Or.inr ⟨_, q, by rw [s5], a2, rfl, s1, s2, s3, s4⟩
  · have ev : mg_value (ms_value u w) = w := rfl
    rw [a1, a2, ob_s]
    try dsimp only
    rw [ev, nmd_e, if_pos (Or.inl rfl)]
    exact Or.inl ⟨rfl, _, rfl, hst0 w⟩
theorem m_field {u : MS} {B : List Nat} (h : mIn u B) (hl : B.length ≤ 120) (hb : ∀ b ∈ B, b < 256) {p : Nat} (hat : mg_at u = nI p) (hp : p ≤ B.length) (k : Nat) (hk : k ≤ 64) (F T : Nat → Nat) :
    (fst_ B k (vaOf u F T) p = none ∧ ∃ u2, jm_M_readField u (nI k) = some (0, u2) ∧ mkh u2 = mkh u) ∨ (∃ u2 q, fst_ B k (vaOf u F T) p = some (vaOf u2 F T, q) ∧ q ≤ B.length ∧ jm_M_readField u (nI k) = some (1, u2) ∧ mkh u2 = mkh u ∧ mg_at u2 = nI q ∧ mg_from u2 = mg_from u ∧ mg_to u2 = mg_to u) := by
  have ek : ∀ n : Nat, n < 100 → (nI k = nI n ↔ k = n) := fun n hn => nI_eq (by omega) (by omega)
  unfold fst_
  by_cases c2 : k = 2
  · subst c2
    rw [if_pos rfl]
    have e : jm_M_readField u (nI 2) = (jm_M_readCard u).bind fun q => if q.1 = 0 ∨ q.1 = 1 then some (q.1, q.2) else none := if_pos rfl
    rw [e]
    rcases m_card h hl hb hat hp with ⟨v, q, a1, a2, a3⟩ | ⟨a1, u2, a2, a3⟩
    · rw [a1, a3, ob_s, ob_s]
      try dsimp only
      rw [if_pos (Or.inr rfl)]
      exact Or.inr ⟨_, q, rfl, a2, rfl, rfl, rfl, rfl, rfl⟩
    · rw [a1, a2, ob_s]
      try dsimp only
      rw [if_pos (Or.inl rfl)]
      exact Or.inl ⟨rfl, _, rfl, a3⟩
  rw [if_neg c2]
  have n2 : ¬ nI k = 2 := fun q => c2 ((ek 2 (by decide)).mp q)
  by_cases c3 : k = 3
  · subst c3
    rw [if_pos rfl]
    exact m_numf h hl hb hat hp 6 (by decide) (fun s v => ms_sort s v.toInt32) F T (fun V v => (V.1, nI v, V.2.2)) (jm_M_readField u (nI 3)) (fun v q => ⟨rfl, rfl, rfl, rfl, by rw [lN_i]; rfl⟩) (fun w => rfl) ((if_neg (by decide)).trans (if_pos rfl))
  rw [if_neg c3]
  have n3 : ¬ nI k = 3 := fun q => c3 ((ek 3 (by decide)).mp q)
  by_cases c4 : k = 4
  · subst c4
    rw [if_pos rfl]
    exact m_numf h hl hb hat hp 12 (by decide) (fun s v => ms_amount s v) F T (fun V v => (V.1, V.2.1, lN v, V.2.2.2)) (jm_M_readField u (nI 4)) (fun v q => ⟨rfl, rfl, rfl, rfl, rfl⟩) (fun w => rfl) (((if_neg (by decide)).trans (if_neg (by decide))).trans (if_pos rfl))
  rw [if_neg c4]
  have n4 : ¬ nI k = 4 := fun q => c4 ((ek 4 (by decide)).mp q)
  by_cases c11 : k = 11
  · subst c11
    rw [if_pos rfl]
    exact m_numf h hl hb hat hp 6 (by decide) (fun s v => ms_trace s v.toInt32) F T (fun V v => (V.1, V.2.1, V.2.2.1, nI v, V.2.2.2.2)) (jm_M_readField u (nI 11)) (fun v q => ⟨rfl, rfl, rfl, rfl, by rw [lN_i]; rfl⟩) (fun w => rfl) ((((if_neg (by decide)).trans (if_neg (by decide))).trans (if_neg (by decide))).trans (if_pos rfl))
  rw [if_neg c11]
  have n11 : ¬ nI k = 11 := fun q => c11 ((ek 11 (by decide)).mp q)
  unfold jm_M_readField
  rw [if_neg n2, if_neg n3, if_neg n4, if_neg n11]
  by_cases c39 : k = 39
  · subst c39
    rw [if_pos rfl, if_pos (show nI 39 = 39 from rfl)]
    rcases m_chr (n := 2) (lo := 48) (hi := 57) h hl hb hat (by decide) (by decide) (by decide) hp with ⟨a1, a2⟩ | ⟨a1, w, a2⟩
    · have a2 : jm_M_characters u (2 : Int32) (48 : Int32) (57 : Int32) = _ := a2
      rw [a2, ob_s]
      try dsimp only
      rw [if_pos a1, if_pos (Or.inr rfl)]
      exact Or.inr ⟨ms_at (ms_value u (chL 0 (tk B p 2))) (nI (p + 2)), p + 2, rfl, a1.1, rfl, rfl, rfl, rfl, rfl⟩
    · have a2 : jm_M_characters u (2 : Int32) (48 : Int32) (57 : Int32) = _ := a2
      rw [a2, ob_s]
      try dsimp only
      rw [if_neg a1, if_pos (Or.inl rfl)]
      exact Or.inl ⟨rfl, _, rfl, rfl⟩
  rw [if_neg c39, if_neg (show ¬ nI k = (39 : Int32) from fun q => c39 ((ek 39 (by decide)).mp q))]
  by_cases c41 : k = 41
  · subst c41
    rw [if_pos rfl, if_pos (show nI 41 = 41 from rfl)]
    rcases m_chr (n := 4) (lo := 32) (hi := 126) h hl hb hat (by decide) (by decide) (by decide) hp with ⟨a1, a2⟩ | ⟨a1, w, a2⟩
    · have a2 : jm_M_characters u (4 : Int32) (32 : Int32) (126 : Int32) = _ := a2
      rw [a2, ob_s]
      try dsimp only
      rw [nmd_e, if_pos a1, if_pos (Or.inr rfl)]
      have ev : mg_value (ms_at (ms_value u (chL 0 (tk B p 4))) (nI (p + 4))) = chL 0 (tk B p 4) := rfl
      have e0 : (0 : Int64).toInt32 = 0 := rfl
      rw [ev, chLI, e0]
      exact Or.inr ⟨_, _, rfl, a1.1, rfl, rfl, rfl, rfl, rfl⟩
    · have a2 : jm_M_characters u (4 : Int32) (32 : Int32) (126 : Int32) = _ := a2
      rw [a2, ob_s]
      try dsimp only
      rw [nmd_e, if_neg a1, if_pos (Or.inl rfl)]
      exact Or.inl ⟨rfl, _, rfl, rfl⟩
  rw [if_neg c41, if_neg (show ¬ nI k = (41 : Int32) from fun q => c41 ((ek 41 (by decide)).mp q))]
  by_cases c48 : k = 48
  · subst c48
    rw [if_pos rfl, if_pos (show nI 48 = 48 from rfl)]
    rcases m_note h hl hb hat hp with ⟨q, w, a1, a2, a3⟩ | ⟨a1, u2, a2, a3⟩
    · rw [a1, a3, ob_s, ob_s]
      try dsimp only
      rw [if_pos (Or.inr rfl)]
      exact Or.inr ⟨ms_at (ms_value u w) (nI q), q, rfl, a2, rfl, rfl, rfl, rfl, rfl⟩
    · rw [a1, a2, ob_s]
      try dsimp only
      rw [if_pos (Or.inl rfl)]
      exact Or.inl ⟨rfl, _, rfl, a3⟩
  rw [if_neg c48, if_neg (show ¬ nI k = (48 : Int32) from fun q => c48 ((ek 48 (by decide)).mp q))]
  by_cases c56 : k = 56
  · subst c56
    rw [if_pos rfl, if_pos (show nI 56 = 56 from rfl)]
    rcases m_orig h hl hb hat hp with ⟨v, q, a1, a2, a3⟩ | ⟨a1, u2, a2, a3⟩
    · rw [a1, a3, ob_s, ob_s]
      try dsimp only
      rw [if_pos (Or.inr rfl)]
      exact Or.inr ⟨_, q, rfl, a2, rfl, rfl, rfl, rfl, rfl⟩
    · rw [a1, a2, ob_s]
      try dsimp only
      rw [if_pos (Or.inl rfl)]
      exact Or.inl ⟨rfl, _, rfl, a3⟩
  rw [if_neg c56, if_neg (show ¬ nI k = (56 : Int32) from fun q => c56 ((ek 56 (by decide)).mp q))]
  exact Or.inl ⟨rfl, _, rfl, rfl⟩
def hsI (mp k : Nat) : Int32 := if mp.testBit (64 - k) = true then 1 else 0
theorem m_loop {B : List Nat} (hl : B.length ≤ 120) (hb : ∀ b ∈ B, b < 256) {mp : Nat} :
    ∀ (m : Nat) (u : MS) (p : Nat) (F T : Nat → Nat) (f : Nat), m ≤ 64 → m < f → mIn u B → mg_at u = nI p → p ≤ B.length → (∀ k, 1 ≤ k → k ≤ 64 → mg_has u k = hsI mp k) → (∀ k, 1 ≤ k → k < 65 - m → mp.testBit (64 - k) = true → mg_from u k = nI (F k) ∧ mg_to u k = nI (T k)) →
      (tl B mp m (vaOf u F T) p = none ∧ ∃ u2, loopF jm_M_readMessage_L115 f (u, nI (65 - m)) = some (0, u2) ∧ mkh u2 = mkh u) ∨ (∃ (u2 : MS) (F2 T2 : Nat → Nat), tl B mp m (vaOf u F T) p = some (vaOf u2 F2 T2) ∧ loopF jm_M_readMessage_L115 f (u, nI (65 - m)) = some (1, u2) ∧ mkh u2 = mkh u ∧ ∀ k, 1 ≤ k → k ≤ 64 → mp.testBit (64 - k) = true → mg_from u2 k = nI (F2 k) ∧ mg_to u2 k = nI (T2 k)) := by
  intro m
  induction m with
  | zero =>
    intro u p F T f hm hf h hat hp hh hft
    obtain ⟨g, rfl⟩ : ∃ g, f = g + 1 := ⟨f - 1, by omega⟩
    have eL : loopF jm_M_readMessage_L115 (g + 1) (u, nI (65 - 0)) = if p = B.length then some (1, u) else some (0, u) := by
      show jm_M_readMessage_L115 _ _ = _
      unfold jm_M_readMessage_L115
      try dsimp only
      rw [if_pos (show (64 : Int32) < nI (65 - 0) by decide), hat, h.1]
      by_cases c : p = B.length
      · rw [if_pos (by rw [c]), if_pos c]
      · rw [if_neg (fun q => c ((nI_eq (by omega) (by omega)).mp q)), if_neg c]
    rw [eL]
    show ((if p = B.length then some (vaOf u F T) else none) = none ∧ _) ∨ _
    by_cases c : p = B.length
    · refine Or.inr ⟨u, F, T, if_pos c, if_pos c, rfl, fun k h1 h2 h3 => hft k h1 (by omega) h3⟩
    · exact Or.inl ⟨if_neg c, u, if_neg c, rfl⟩
  | succ m ih =>
    intro u p F T f hm hf h hat hp hh hft
    obtain ⟨g, rfl⟩ : ∃ g, f = g + 1 := ⟨f - 1, by omega⟩
    have hk : 65 - (m + 1) = 64 - m := by omega
    have hk1 : 64 - m + 1 = 65 - m := by omega
    have hkm : 64 - (64 - m) = m := by omega
    have h65 : 64 - m < 65 := by omega
    have hhk : mg_has u (64 - m) = hsI mp (64 - m) := hh (64 - m) (by omega) (by omega)
    rw [hk]
    have e1 : mg_has (ms_from u (upd (mg_from u) (64 - m) (mg_at u))) (64 - m) = hsI mp (64 - m) := hhk
    have e2 : mg_at (ms_from u (upd (mg_from u) (64 - m) (mg_at u))) = nI p := hat
    have eK : ∀ rc : MS × Int32 → Option (Int32 × MS), jm_M_readMessage_L115 rc (u, nI (64 - m)) = if hsI mp (64 - m) = 0 then rc (ms_to (ms_from u (upd (mg_from u) (64 - m) (nI p))) (upd (mg_to u) (64 - m) (nI p)), nI (65 - m)) else (jm_M_readField (ms_from u (upd (mg_from u) (64 - m) (nI p))) (nI (64 - m))).bind fun q => if q.1 = 0 then some (0, q.2) else rc (ms_to q.2 (upd (mg_to q.2) (64 - m) (mg_at q.2)), nI (65 - m)) := by
      intro rc
      unfold jm_M_readMessage_L115
      simp only [git h65 (show (65 : Nat) < 2 ^ 31 by decide), nmd_e]
      rw [if_neg (show ¬ (64 : Int32) < nI (64 - m) from nI_nlt (a := 64) (by omega) (by decide)), nI_clamp (by omega), e1, e2, G_to_ms_from, nI_1, hk1, hat]
    have eL := eK (loopF jm_M_readMessage_L115 g)
    have eL : loopF jm_M_readMessage_L115 (g + 1) (u, nI (64 - m)) = _ := eL
    rw [eL]
    cases c : mp.testBit m with
    | false =>
      have e0 : hsI mp (64 - m) = 0 := by unfold hsI; rw [hkm, c, if_neg (by decide)]
      have et : tl B mp (m + 1) (vaOf u F T) p = tl B mp m (vaOf u F T) p := by
        show (if mp.testBit m = true then _ else _) = _
        rw [c, if_neg (by decide)]
      rw [if_pos e0, et]
      have ih2 := ih (ms_to (ms_from u (upd (mg_from u) (64 - m) (nI p))) (upd (mg_to u) (64 - m) (nI p))) p F T g (by omega) (by omega) h hat hp hh (fun k h1 h2 h3 => by
        have hne : k ≠ 64 - m := fun q => by
          rw [q, hkm, c] at h3
          cases h3
        obtain ⟨b1, b2⟩ := hft k h1 (by omega) h3
        refine ⟨?_, ?_⟩
        · show upd (mg_from u) (64 - m) (nI p) k = _
          rw [pk_un hne, b1]
        · show upd (mg_to u) (64 - m) (nI p) k = _
          rw [pk_un hne, b2])
      exact ih2
    | true =>
      have e0 : ¬ hsI mp (64 - m) = 0 := by unfold hsI; rw [hkm, c, if_pos rfl]; decide
      have et : tl B mp (m + 1) (vaOf u F T) p = (fst_ B (64 - m) (vaOf u F T) p).bind fun x => tl B mp m (setFT x.1 (64 - m) p x.2) x.2 := by
        show (if mp.testBit m = true then _ else _) = _
        rw [c, if_pos rfl]
      rw [if_neg e0, et]
      rcases m_field (u := ms_from u (upd (mg_from u) (64 - m) (nI p))) (p := p) h hl hb hat hp (64 - m) (by omega) F T with ⟨a1, u2, a2, a3⟩ | ⟨u2, q, a1, a2, a3, a4, a5, a6, a7⟩
      · have a1 : fst_ B (64 - m) (vaOf u F T) p = none := a1
        rw [a1, a2, ob_s]
        try dsimp only
        rw [if_pos rfl]
        exact Or.inl ⟨rfl, u2, rfl, a3⟩
      · have a1 : fst_ B (64 - m) (vaOf u F T) p = some (vaOf u2 F T, q) := a1
        rw [a1, a3, ob_s, ob_s]
        try dsimp only
        rw [if_neg (by decide), a5]
        have hin2 : mIn u2 B := mIn_k (u := ms_from u (upd (mg_from u) (64 - m) (nI p))) a4 h
        have hh2 : mg_has u2 = mg_has u := mhas_k (u := ms_from u (upd (mg_from u) (64 - m) (nI p))) a4
        have ih2 := ih (ms_to u2 (upd (mg_to u2) (64 - m) (nI q))) q (va_up F (64 - m) p) (va_up T (64 - m) q) g (by omega) (by omega) hin2 a5 a2 (fun k h1 h2 => by
            show mg_has u2 k = _
            rw [hh2]
            exact hh k h1 h2) (fun k h1 h2 h3 => by
            by_cases hne : k = 64 - m
            · subst hne
              refine ⟨?_, ?_⟩
              · show mg_from u2 (64 - m) = _
                rw [a6, va_up_self]
                exact pk_us
              · show upd (mg_to u2) (64 - m) (nI q) (64 - m) = _
                rw [pk_us, va_up_self]
            · obtain ⟨b1, b2⟩ := hft k h1 (by omega) h3
              refine ⟨?_, ?_⟩
              · show mg_from u2 k = _
                rw [a6, va_up_ne _ _ hne, ← b1]
                exact pk_un hne
              · show upd (mg_to u2) (64 - m) (nI q) k = _
                rw [pk_un hne, a7, va_up_ne _ _ hne, ← b2]
                rfl)
        rcases ih2 with ⟨b1, u3, b2, b3⟩ | ⟨u3, F3, T3, b1, b2, b3, b4⟩
        · exact Or.inl ⟨b1, u3, b2, b3.trans a4⟩
        · exact Or.inr ⟨u3, F3, T3, b1, b2, b3.trans a4, b4⟩
