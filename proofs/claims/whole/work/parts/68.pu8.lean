/-! the loop over 64 fields reads what is asked -/
theorem an_bits : ∀ i, i < 64 → i ∉ [62, 61, 60, 53, 23, 16, 8] → (18446744073709551615 - 8079457731511123968).testBit i = true ∧ (18446744073709551615 - 4620693217690583296).testBit i = true ∧ (18446744073709551615 - 9007199263195136).testBit i = true ∧ (18446744073709551615 - 8079457731511124224).testBit i = true := by decide +kernel
theorem bel_no {ty mp : Nat} (h : belongs ty mp) {i : Nat} (hi : i < 64) (hn : i ∉ [62, 61, 60, 53, 23, 16, 8]) : mp.testBit i = false := by
  have hx : (nall ty).testBit i = true := by
    obtain ⟨a, b, c, d⟩ := an_bits i hi hn
    unfold nall
    split
    · exact a
    · split
      · exact b
      · split
        · exact c
        · exact d
  have e := congrArg (fun x => Nat.testBit x i) h.2
  try dsimp only at e
  rw [Nat.testBit_and, hx, Bool.and_true, Nat.zero_testBit] at e
  exact e
theorem bel_yes {ty mp : Nat} (h : belongs ty mp) {i : Nat} (hi : i = 53 ∨ i = 23) : mp.testBit i = true := by
  have hx : (ndf ty).testBit i = true := by
    unfold ndf
    rcases hi with rfl | rfl
    · split
      · decide +kernel
      · split <;> decide +kernel
    · split
      · decide +kernel
      · split <;> decide +kernel
  have e := congrArg (fun x => Nat.testBit x i) h.1
  try dsimp only at e
  rw [Nat.testBit_and, hx, Bool.and_true] at e
  exact e
theorem tl_skip {B : List Nat} {mp : Nat} {V : VA} {p a : Nat} : ∀ n, (∀ i, a ≤ i → i < a + n → mp.testBit i = false) → tl B mp (a + n) V p = tl B mp a V p
  | 0, _ => rfl
  | n + 1, h => by
    show (if mp.testBit (a + n) = true then _ else tl B mp (a + n) V p) = _
    rw [h (a + n) (by omega) (by omega), if_neg (by decide)]
    exact tl_skip n (fun i h1 h2 => h i h1 (by omega))
theorem tl_no {B : List Nat} {mp m : Nat} {V : VA} {p : Nat} (h : mp.testBit m = false) : tl B mp (m + 1) V p = tl B mp m V p := by
  show (if mp.testBit m = true then _ else tl B mp m V p) = _
  rw [h, if_neg (by decide)]
theorem tl_yes {B : List Nat} {mp m : Nat} {V : VA} {p : Nat} (h : mp.testBit m = true) : tl B mp (m + 1) V p = (fst_ B (64 - m) V p).bind fun x => tl B mp m (setFT x.1 (64 - m) p x.2) x.2 := by
  show (if mp.testBit m = true then _ else tl B mp m V p) = _
  rw [h, if_pos rfl]
def vaF (V : VA) : Nat → Nat := V.2.2.2.2.2.2.1
def vaT (V : VA) : Nat → Nat := V.2.2.2.2.2.2.2
def va6 (V : VA) : Int64 × Int32 × Int64 × Int32 × Int32 × Int32 := (V.1, V.2.1, V.2.2.1, V.2.2.2.1, V.2.2.2.2.1, V.2.2.2.2.2.1)
/-- field k (bit i) was read from p to q -/
def stg (mp k i p q : Nat) (V W : VA) : Prop := (∀ j, j ≠ k → vaF W j = vaF V j ∧ vaT W j = vaT V j) ∧ (mp.testBit i = true → vaF W k = p ∧ vaT W k = q) ∧ p ≤ q
theorem stg_set {mp k i p q : Nat} {V W : VA} (hF : vaF W = vaF V) (hT : vaT W = vaT V) (h : p ≤ q) : stg mp k i p q V (setFT W k p q) := by
  refine ⟨fun j hj => ⟨?_, ?_⟩, fun _ => ⟨?_, ?_⟩, h⟩
  · show va_up (vaF W) k p j = _
    rw [va_up_ne _ _ hj, hF]
  · show va_up (vaT W) k q j = _
    rw [va_up_ne _ _ hj, hT]
  · show va_up (vaF W) k p k = _
    rw [va_up_self]
  · show va_up (vaT W) k q k = _
    rw [va_up_self]
theorem stg_no {mp k i p : Nat} {V : VA} (h : mp.testBit i = false) : stg mp k i p p V V := ⟨fun _ _ => ⟨rfl, rfl⟩, fun q => (by rw [h] at q; cases q), Nat.le_refl _⟩
theorem sD_le {B : List Nat} {n p : Nat} {x : Nat × Nat} (h : sD B n p = some x) : p ≤ x.2 := by
  have := (sD_pos (v := x.1) (q := x.2) h).1
  omega
theorem sN_le {B : List Nat} {n lo hi p : Nat} {x : Nat × Nat} (h : sNm B n lo hi p = some x) : p ≤ x.2 := by
  unfold sNm at h
  obtain ⟨a, h1, h2⟩ := bd_some h
  by_cases c : lo ≤ a.1 ∧ a.1 ≤ hi
  · rw [if_pos c] at h2
    cases h2
    exact sD_le h1
  · rw [if_neg c] at h2
    cases h2
theorem bd_le {p : Nat} {o : Option (Nat × Nat)} {f : Nat × Nat → Option (Nat × Nat)} {x : Nat × Nat} (h1 : ∀ a, o = some a → p ≤ a.2) (h2 : ∀ a b, f a = some b → a.2 ≤ b.2) (h : o.bind f = some x) : p ≤ x.2 := by
  obtain ⟨a, e1, e2⟩ := bd_some h
  exact Nat.le_trans (h1 a e1) (h2 a x e2)
theorem tl_card {B : List Nat} {mp : Nat} {V : VA} {p : Nat} : (pCard B mp p = none ∧ tl B mp 63 V p = none) ∨ ∃ (v q : Nat) (W : VA), pCard B mp p = some (v, q) ∧ tl B mp 63 V p = tl B mp 62 W q ∧ stg mp 2 62 p q V W ∧ (mp.testBit 62 = false → v = 0 ∧ q = p ∧ W = V) ∧ (mp.testBit 62 = true → va6 W = (lN v, V.2.1, V.2.2.1, V.2.2.2.1, V.2.2.2.2.1, V.2.2.2.2.2.1)) := by
  unfold pCard
  cases c : mp.testBit 62 with
  | false =>
    rw [if_neg (by decide), tl_no c]
    exact Or.inr ⟨0, p, V, rfl, rfl, stg_no c, fun _ => ⟨rfl, rfl, rfl⟩, fun q => (by cases q)⟩
  | true =>
    rw [if_pos rfl, tl_yes c]
    have e : ∀ V : VA, fst_ B (64 - 62) V p = ((sNm B 2 1 16 p).bind fun q => sD B q.1 q.2).bind fun x => some ((lN x.1, V.2), x.2) := fun V => rfl
    rw [e]
    cases hc : (sNm B 2 1 16 p).bind fun q => sD B q.1 q.2 with
    | none => exact Or.inl ⟨rfl, rfl⟩
    | some x =>
      obtain ⟨v, q⟩ := x
      refine Or.inr ⟨v, q, _, rfl, rfl, stg_set rfl rfl ?_, fun q => (by cases q), fun _ => rfl⟩
      exact bd_le (fun a h1 => sN_le h1) (fun a b h1 => sD_le h1) hc
theorem tl_sort {B : List Nat} {mp : Nat} {V : VA} {p : Nat} : (pNum B mp 61 6 p = none ∧ tl B mp 62 V p = none) ∨ ∃ (v q : Nat) (W : VA), pNum B mp 61 6 p = some (v, q) ∧ tl B mp 62 V p = tl B mp 61 W q ∧ stg mp 3 61 p q V W ∧ (mp.testBit 61 = false → v = 0 ∧ q = p ∧ W = V) ∧ (mp.testBit 61 = true → va6 W = (V.1, nI v, V.2.2.1, V.2.2.2.1, V.2.2.2.2.1, V.2.2.2.2.2.1)) := by
  unfold pNum
  cases c : mp.testBit 61 with
  | false =>
    rw [if_neg (by decide), tl_no c]
    exact Or.inr ⟨0, p, V, rfl, rfl, stg_no c, fun _ => ⟨rfl, rfl, rfl⟩, fun q => (by cases q)⟩
  | true =>
    rw [if_pos rfl, tl_yes c]
    have e : ∀ V : VA, fst_ B (64 - 61) V p = (sD B 6 p).bind fun x => some ((V.1, nI x.1, V.2.2), x.2) := fun V => rfl
    rw [e]
    cases hc : sD B 6 p with
    | none => exact Or.inl ⟨rfl, rfl⟩
    | some x =>
      obtain ⟨v, q⟩ := x
      refine Or.inr ⟨v, q, _, rfl, rfl, stg_set rfl rfl ?_, fun q => (by cases q), fun _ => rfl⟩
      exact (sD_pos hc).1 ▸ Nat.le_add_right _ _
theorem tl_amou {B : List Nat} {mp : Nat} {V : VA} {p : Nat} : (pNum B mp 60 12 p = none ∧ tl B mp 61 V p = none) ∨ ∃ (v q : Nat) (W : VA), pNum B mp 60 12 p = some (v, q) ∧ tl B mp 61 V p = tl B mp 60 W q ∧ stg mp 4 60 p q V W ∧ (mp.testBit 60 = false → v = 0 ∧ q = p ∧ W = V) ∧ (mp.testBit 60 = true → va6 W = (V.1, V.2.1, lN v, V.2.2.2.1, V.2.2.2.2.1, V.2.2.2.2.2.1)) := by
  unfold pNum
  cases c : mp.testBit 60 with
  | false =>
    rw [if_neg (by decide), tl_no c]
    exact Or.inr ⟨0, p, V, rfl, rfl, stg_no c, fun _ => ⟨rfl, rfl, rfl⟩, fun q => (by cases q)⟩
  | true =>
    rw [if_pos rfl, tl_yes c]
    have e : ∀ V : VA, fst_ B (64 - 60) V p = (sD B 12 p).bind fun x => some ((V.1, V.2.1, lN x.1, V.2.2.2), x.2) := fun V => rfl
    rw [e]
    cases hc : sD B 12 p with
    | none => exact Or.inl ⟨rfl, rfl⟩
    | some x =>
      obtain ⟨v, q⟩ := x
      refine Or.inr ⟨v, q, _, rfl, rfl, stg_set rfl rfl ?_, fun q => (by cases q), fun _ => rfl⟩
      exact (sD_pos hc).1 ▸ Nat.le_add_right _ _
theorem tl_orig {B : List Nat} {mp : Nat} {V : VA} {p : Nat} : (pOrig B mp p = none ∧ tl B mp 9 V p = none) ∨ ∃ (v q : Nat) (W : VA), pOrig B mp p = some (v, q) ∧ tl B mp 9 V p = tl B mp 8 W q ∧ stg mp 56 8 p q V W ∧ (mp.testBit 8 = false → v = 0 ∧ q = p ∧ W = V) ∧ (mp.testBit 8 = true → va6 W = (V.1, V.2.1, V.2.2.1, V.2.2.2.1, V.2.2.2.2.1, nI v)) := by
  unfold pOrig
  cases c : mp.testBit 8 with
  | false =>
    rw [if_neg (by decide), tl_no c]
    exact Or.inr ⟨0, p, V, rfl, rfl, stg_no c, fun _ => ⟨rfl, rfl, rfl⟩, fun q => (by cases q)⟩
  | true =>
    rw [if_pos rfl, tl_yes c]
    have e : ∀ V : VA, fst_ B (64 - 8) V p = ((sNm B 2 6 6 p).bind fun q => sD B 6 q.2).bind fun x => some ((V.1, V.2.1, V.2.2.1, V.2.2.2.1, V.2.2.2.2.1, nI x.1, V.2.2.2.2.2.2), x.2) := fun V => rfl
    rw [e]
    cases hc : (sNm B 2 6 6 p).bind fun q => sD B 6 q.2 with
    | none => exact Or.inl ⟨rfl, rfl⟩
    | some x =>
      obtain ⟨v, q⟩ := x
      refine Or.inr ⟨v, q, _, rfl, rfl, stg_set rfl rfl ?_, fun q => (by cases q), fun _ => rfl⟩
      exact bd_le (fun a h1 => sN_le h1) (fun a b h1 => sD_le h1) hc
theorem tl_trac {B : List Nat} {mp : Nat} {V : VA} {p : Nat} (c : mp.testBit 53 = true) : (sD B 6 p = none ∧ tl B mp 54 V p = none) ∨ ∃ (v q : Nat) (W : VA), sD B 6 p = some (v, q) ∧ tl B mp 54 V p = tl B mp 53 W q ∧ stg mp 11 53 p q V W ∧ va6 W = (V.1, V.2.1, V.2.2.1, nI v, V.2.2.2.2.1, V.2.2.2.2.2.1) := by
  rw [tl_yes c]
  have e : ∀ V : VA, fst_ B (64 - 53) V p = (sD B 6 p).bind fun x => some ((V.1, V.2.1, V.2.2.1, nI x.1, V.2.2.2.2), x.2) := fun V => rfl
  rw [e]
  cases hc : sD B 6 p with
  | none => exact Or.inl ⟨rfl, rfl⟩
  | some x =>
    obtain ⟨v, q⟩ := x
    exact Or.inr ⟨v, q, _, rfl, rfl, stg_set rfl rfl (sD_le hc), rfl⟩
theorem tl_term {B : List Nat} {mp : Nat} {V : VA} {p : Nat} (c : mp.testBit 23 = true) : (¬ sC B 32 126 4 p ∧ tl B mp 24 V p = none) ∨ ∃ (W : VA), sC B 32 126 4 p ∧ tl B mp 24 V p = tl B mp 23 W (p + 4) ∧ stg mp 41 23 p (p + 4) V W ∧ va6 W = (V.1, V.2.1, V.2.2.1, V.2.2.2.1, chI 0 (tk B p 4), V.2.2.2.2.2.1) := by
  rw [tl_yes c]
  have e : ∀ V : VA, fst_ B (64 - 23) V p = (if sC B 32 126 4 p then some ((V.1, V.2.1, V.2.2.1, V.2.2.2.1, chI 0 (tk B p 4), V.2.2.2.2.2), p + 4) else none) := fun V => rfl
  rw [e]
  by_cases hc : sC B 32 126 4 p
  · rw [if_pos hc]
    exact Or.inr ⟨_, hc, rfl, stg_set rfl rfl (Nat.le_add_right _ _), rfl⟩
  · rw [if_neg hc]
    exact Or.inl ⟨hc, rfl⟩
theorem tl_note {B : List Nat} {mp : Nat} {V : VA} {p : Nat} : (pNote B mp p = none ∧ tl B mp 17 V p = none) ∨ ∃ (q : Nat) (W : VA), pNote B mp p = some q ∧ tl B mp 17 V p = tl B mp 16 W q ∧ (∀ j, j ≠ 48 → vaF W j = vaF V j ∧ vaT W j = vaT V j) ∧ va6 W = va6 V := by
  unfold pNote
  cases c : mp.testBit 16 with
  | false =>
    rw [if_neg (by decide), tl_no c]
    exact Or.inr ⟨p, V, rfl, rfl, fun _ _ => ⟨rfl, rfl⟩, rfl⟩
  | true =>
    rw [if_pos rfl, tl_yes c]
    have e : ∀ V : VA, fst_ B (64 - 16) V p = ((sNm B 4 0 40 p).bind fun q => if sC B 32 126 q.1 q.2 then some (q.2 + q.1) else none).bind fun q => some (V, q) := fun V => rfl
    rw [e]
    cases hc : (sNm B 4 0 40 p).bind fun q => if sC B 32 126 q.1 q.2 then some (q.2 + q.1) else none with
    | none => exact Or.inl ⟨rfl, rfl⟩
    | some q =>
      refine Or.inr ⟨q, _, rfl, rfl, fun j hj => ⟨?_, ?_⟩, rfl⟩
      · show va_up (vaF V) 48 p j = _
        rw [va_up_ne _ _ hj]
      · show va_up (vaT V) 48 q j = _
        rw [va_up_ne _ _ hj]
theorem pCard_le {B : List Nat} {mp p v q : Nat} (h : pCard B mp p = some (v, q)) : q ≤ p + 9 := by
  unfold pCard at h
  by_cases c : mp.testBit 62 = true
  · rw [if_pos c] at h
    obtain ⟨x, h1, h2⟩ := bd_some h
    unfold sNm at h1
    obtain ⟨y, h3, h4⟩ := bd_some h1
    by_cases c2 : 1 ≤ y.1 ∧ y.1 ≤ 16
    · rw [if_pos c2] at h4
      have e4 : y = x := Option.some.inj h4
      have e1 := (sD_pos (v := y.1) (q := y.2) h3).1
      rw [e4] at e1 c2
      have e2 := (sD_pos h2).1
      omega
    · rw [if_neg c2] at h4
      cases h4
  · rw [if_neg c] at h
    cases h
    omega
theorem pNum_le {B : List Nat} {mp i n p v q : Nat} (h : pNum B mp i n p = some (v, q)) : q ≤ p + (n + 1) / 2 := by
  unfold pNum at h
  by_cases c : mp.testBit i = true
  · rw [if_pos c] at h
    have e1 := (sD_pos h).1
    omega
  · rw [if_neg c] at h
    cases h
    omega
/-- where the fields of the reply stand -/
def chn (mp : Nat) (F T : Nat → Nat) (st : Nat) : Prop := ∃ c s a, 10 ≤ c ∧ c ≤ s ∧ s ≤ a ∧ a ≤ st ∧ (mp.testBit 62 = true → F 2 = 10 ∧ T 2 = c) ∧ (mp.testBit 62 = false → c = 10) ∧ (mp.testBit 61 = true → F 3 = c ∧ T 3 = s) ∧ (mp.testBit 61 = false → s = c) ∧ (mp.testBit 60 = true → F 4 = s ∧ T 4 = a) ∧ (mp.testBit 60 = false → a = s) ∧ F 11 = a ∧ T 11 = st ∧ F 41 = st ∧ T 41 = st + 4 ∧ c ≤ 19 ∧ s ≤ c + 3 ∧ a ≤ s + 6 ∧ st = a + 3
theorem tl_prs {B : List Nat} {ty mp : Nat} (hbel : belongs ty mp) {x y : Int32} {F T : Nat → Nat} :
    (((pMon B mp 10).bind fun a => (pOth B mp a.2.2.2).bind fun o => if o.2.2.2.2 = B.length then some (a, o) else none) = none ∧ tl B mp 64 (0, 0, 0, x, y, 0, F, T) 10 = none) ∨
    ∃ (cd so am tr st : Nat) (te : Int32) (og q0 q1 : Nat) (W : VA), ((pMon B mp 10).bind fun a => (pOth B mp a.2.2.2).bind fun o => if o.2.2.2.2 = B.length then some (a, o) else none) = some ((cd, so, am, q0), (tr, st, te, og, q1)) ∧ tl B mp 64 (0, 0, 0, x, y, 0, F, T) 10 = some W ∧ va6 W = (lN cd, nI so, lN am, nI tr, te, nI og) ∧ chn mp (vaF W) (vaT W) st ∧ st + 4 ≤ B.length := by
  have b53 := bel_yes hbel (Or.inl rfl)
  have b23 := bel_yes hbel (Or.inr rfl)
  have k1 : ∀ V p, tl B mp 64 V p = tl B mp 63 V p := fun V p => tl_skip (a := 63) 1 (fun i h1 h2 => bel_no hbel (by omega) (by simp; omega))
  have k2 : ∀ V p, tl B mp 60 V p = tl B mp 54 V p := fun V p => tl_skip (a := 54) 6 (fun i h1 h2 => bel_no hbel (by omega) (by simp; omega))
  have k3 : ∀ V p, tl B mp 53 V p = tl B mp 24 V p := fun V p => tl_skip (a := 24) 29 (fun i h1 h2 => bel_no hbel (by omega) (by simp; omega))
  have k4 : ∀ V p, tl B mp 23 V p = tl B mp 17 V p := fun V p => tl_skip (a := 17) 6 (fun i h1 h2 => bel_no hbel (by omega) (by simp; omega))
  have k5 : ∀ V p, tl B mp 16 V p = tl B mp 9 V p := fun V p => tl_skip (a := 9) 7 (fun i h1 h2 => bel_no hbel (by omega) (by simp; omega))
  have k6 : ∀ V p, tl B mp 8 V p = tl B mp 0 V p := fun V p => tl_skip (a := 0) 8 (fun i h1 h2 => bel_no hbel (by omega) (by simp; omega))
  unfold pMon pOth
  rw [k1]
  rcases tl_card (B := B) (mp := mp) (V := (0, 0, 0, x, y, 0, F, T)) (p := 10) with ⟨a1, a2⟩ | ⟨cd, c, W1, a1, a2, a3, a4, a5⟩
  · rw [a1, a2]
    exact Or.inl ⟨rfl, rfl⟩
  rw [a1, a2, ob_s]
  try dsimp only
  rcases tl_sort (B := B) (mp := mp) (V := W1) (p := c) with ⟨b1, b2⟩ | ⟨so, s, W2, b1, b2, b3, b4, b5⟩
  · rw [b1, b2]
    exact Or.inl ⟨rfl, rfl⟩
  rw [b1, b2, ob_s]
  try dsimp only
  rcases tl_amou (B := B) (mp := mp) (V := W2) (p := s) with ⟨c1, c2⟩ | ⟨am, a, W3, c1, c2, c3, c4, c5⟩
  · rw [c1, c2]
    exact Or.inl ⟨rfl, rfl⟩
  rw [c1, c2, ob_s, ob_s, k2]
  try dsimp only
  rcases tl_trac (B := B) (mp := mp) (V := W3) (p := a) b53 with ⟨d1, d2⟩ | ⟨tr, st, W4, d1, d2, d3, d5⟩
  · rw [d1, d2]
    exact Or.inl ⟨rfl, rfl⟩
  rw [d1, d2, ob_s, k3]
  try dsimp only
  rcases tl_term (B := B) (mp := mp) (V := W4) (p := st) b23 with ⟨e1, e2⟩ | ⟨W5, e1, e2, e3, e5⟩
  · rw [if_neg e1, e2]
    exact Or.inl ⟨rfl, rfl⟩
  rw [if_pos e1, e2, ob_s, k4]
  rcases tl_note (B := B) (mp := mp) (V := W5) (p := st + 4) with ⟨f1, f2⟩ | ⟨q, W6, f1, f2, f3, f5⟩
  · rw [f1, f2]
    exact Or.inl ⟨rfl, rfl⟩
  rw [f1, f2, ob_s, k5]
  rcases tl_orig (B := B) (mp := mp) (V := W6) (p := q) with ⟨g1, g2⟩ | ⟨og, q2, W7, g1, g2, g3, g4, g5⟩
  · rw [g1, g2]
    exact Or.inl ⟨rfl, rfl⟩
  rw [g1, g2, ob_s, ob_s, k6]
  try dsimp only
  show ((if q2 = B.length then _ else none) = none ∧ (if q2 = B.length then some W7 else none) = none) ∨ _
  by_cases hq : q2 = B.length
  · rw [if_pos hq]
    have e0 : tl B mp 0 W7 q2 = some W7 := if_pos hq
    refine Or.inr ⟨cd, so, am, tr, st, chI 0 (tk B st 4), og, a, q2, W7, rfl, e0, ?_, ?_, e1.1⟩
    · have h1 : va6 W1 = (lN cd, 0, 0, x, y, 0) := by
        cases hb : mp.testBit 62 with
        | true => exact a5 hb
        | false =>
          obtain ⟨z1, z2, z3⟩ := a4 hb
          rw [z1, z3]
          rfl
      have h2 : va6 W2 = (lN cd, nI so, 0, x, y, 0) := by
        cases hb : mp.testBit 61 with
        | true =>
          rw [b5 hb]
          have := h1
          unfold va6 at this
          simp only [Prod.mk.injEq] at this ⊢
          obtain ⟨t1, t2, t3, t4, t5, t6⟩ := this
          exact ⟨t1, trivial, t3, t4, t5, t6⟩
        | false =>
          obtain ⟨z1, z2, z3⟩ := b4 hb
          rw [z1, z3, h1]
          rfl
      have h3 : va6 W3 = (lN cd, nI so, lN am, x, y, 0) := by
        cases hb : mp.testBit 60 with
        | true =>
          rw [c5 hb]
          have := h2
          unfold va6 at this
          simp only [Prod.mk.injEq] at this ⊢
          obtain ⟨t1, t2, t3, t4, t5, t6⟩ := this
          exact ⟨t1, t2, trivial, t4, t5, t6⟩
        | false =>
          obtain ⟨z1, z2, z3⟩ := c4 hb
          rw [z1, z3, h2]
          rfl
      have h4 : va6 W4 = (lN cd, nI so, lN am, nI tr, y, 0) := by
        rw [d5]
        have := h3
        unfold va6 at this
        simp only [Prod.mk.injEq] at this ⊢
        obtain ⟨t1, t2, t3, t4, t5, t6⟩ := this
        exact ⟨t1, t2, t3, trivial, t5, t6⟩
      have h5 : va6 W5 = (lN cd, nI so, lN am, nI tr, chI 0 (tk B st 4), 0) := by
        rw [e5]
        have := h4
        unfold va6 at this
        simp only [Prod.mk.injEq] at this ⊢
        obtain ⟨t1, t2, t3, t4, t5, t6⟩ := this
        exact ⟨t1, t2, t3, t4, trivial, t6⟩
      rw [← f5] at h5
      cases hb : mp.testBit 8 with
      | true =>
        rw [g5 hb]
        have := h5
        unfold va6 at this
        simp only [Prod.mk.injEq] at this ⊢
        obtain ⟨t1, t2, t3, t4, t5, t6⟩ := this
        exact ⟨t1, t2, t3, t4, t5, trivial⟩
      | false =>
        obtain ⟨z1, z2, z3⟩ := g4 hb
        rw [z1, z3, h5]
        rfl
    · have hF : ∀ j, j ≠ 48 → j ≠ 56 → vaF W7 j = vaF W5 j ∧ vaT W7 j = vaT W5 j := fun j h1 h2 => ⟨(g3.1 j h2).1.trans (f3 j h1).1, (g3.1 j h2).2.trans (f3 j h1).2⟩
      refine ⟨c, s, a, a3.2.2, b3.2.2, c3.2.2, d3.2.2, fun hb => ⟨?_, ?_⟩, fun hb => (a4 hb).2.1, fun hb => ⟨?_, ?_⟩, fun hb => (b4 hb).2.1, fun hb => ⟨?_, ?_⟩, fun hb => (c4 hb).2.1, ?_, ?_, ?_, ?_, pCard_le a1, pNum_le b1, pNum_le c1, (sD_pos d1).1⟩
      · rw [(hF 2 (by decide) (by decide)).1, (e3.1 2 (by decide)).1, (d3.1 2 (by decide)).1, (c3.1 2 (by decide)).1, (b3.1 2 (by decide)).1]
        exact (a3.2.1 hb).1
      · rw [(hF 2 (by decide) (by decide)).2, (e3.1 2 (by decide)).2, (d3.1 2 (by decide)).2, (c3.1 2 (by decide)).2, (b3.1 2 (by decide)).2]
        exact (a3.2.1 hb).2
      · rw [(hF 3 (by decide) (by decide)).1, (e3.1 3 (by decide)).1, (d3.1 3 (by decide)).1, (c3.1 3 (by decide)).1]
        exact (b3.2.1 hb).1
      · rw [(hF 3 (by decide) (by decide)).2, (e3.1 3 (by decide)).2, (d3.1 3 (by decide)).2, (c3.1 3 (by decide)).2]
        exact (b3.2.1 hb).2
      · rw [(hF 4 (by decide) (by decide)).1, (e3.1 4 (by decide)).1, (d3.1 4 (by decide)).1]
        exact (c3.2.1 hb).1
      · rw [(hF 4 (by decide) (by decide)).2, (e3.1 4 (by decide)).2, (d3.1 4 (by decide)).2]
        exact (c3.2.1 hb).2
      · rw [(hF 11 (by decide) (by decide)).1, (e3.1 11 (by decide)).1]
        exact (d3.2.1 b53).1
      · rw [(hF 11 (by decide) (by decide)).2, (e3.1 11 (by decide)).2]
        exact (d3.2.1 b53).2
      · rw [(hF 41 (by decide) (by decide)).1]
        exact (e3.2.1 b23).1
      · rw [(hF 41 (by decide) (by decide)).2]
        exact (e3.2.1 b23).2
  · rw [if_neg hq]
    exact Or.inl ⟨rfl, if_neg hq⟩
/-! the reference's reading of the whole message -/
/-- what the reading leaves alone -/
def mkk (u : MS) := (mg_cards u, mg_balances u, mg_many u, mg_now u, mg_in u, mg_ins u, mg_out u, mg_outs u, mg_entries u, mg_types u, mg_terminals u, mg_traces u, mg_whose u, mg_sorts u, mg_amounts u, mg_answers u, mg_marks u, mg_made u, mg_settled u, mg_closed u)
theorem mkk_value (u : MS) (v : Int64) : mkk (ms_value u v) = mkk u := rfl
theorem mkk_at (u : MS) (v : Int32) : mkk (ms_at u v) = mkk u := rfl
theorem mkk_card (u : MS) (v : Int64) : mkk (ms_card u v) = mkk u := rfl
theorem mkk_sort (u : MS) (v : Int32) : mkk (ms_sort u v) = mkk u := rfl
theorem mkk_amount (u : MS) (v : Int64) : mkk (ms_amount u v) = mkk u := rfl
theorem mkk_type (u : MS) (v : Int32) : mkk (ms_type u v) = mkk u := rfl
theorem mkk_original (u : MS) (v : Int32) : mkk (ms_original u v) = mkk u := rfl
theorem mkk_has (u : MS) (v : Nat → Int32) : mkk (ms_has u v) = mkk u := rfl
theorem S_card (u : MS) (v : Int64) : mg_card (ms_card u v) = v := rfl
theorem S_sort (u : MS) (v : Int32) : mg_sort (ms_sort u v) = v := rfl
theorem S_amount (u : MS) (v : Int64) : mg_amount (ms_amount u v) = v := rfl
theorem S_original (u : MS) (v : Int32) : mg_original (ms_original u v) = v := rfl
theorem vaOf_at (u : MS) (v : Int32) (F T : Nat → Nat) : vaOf (ms_at u v) F T = vaOf u F T := rfl
theorem vaOf_has (u : MS) (v : Nat → Int32) (F T : Nat → Nat) : vaOf (ms_has u v) F T = vaOf u F T := rfl
theorem vaOf_type (u : MS) (v : Int32) (F T : Nat → Nat) : vaOf (ms_type u v) F T = vaOf u F T := rfl
theorem vaOf_value (u : MS) (v : Int64) (F T : Nat → Nat) : vaOf (ms_value u v) F T = vaOf u F T := rfl
theorem va_0 (u : MS) (x : Int32) (F T : Nat → Nat) : vaOf (ms_original (ms_amount (ms_sort (ms_card (ms_at u x) 0) 0) 0) 0) F T = (0, 0, 0, mg_trace u, mg_terminal u, 0, F, T) := by
  unfold vaOf
  simp only [G_card_ms_original, G_card_ms_amount, G_card_ms_sort, G_sort_ms_original, G_sort_ms_amount, G_amount_ms_original, G_trace_ms_original, G_trace_ms_amount, G_trace_ms_sort, G_trace_ms_card, G_trace_ms_at, G_terminal_ms_original, G_terminal_ms_amount, G_terminal_ms_sort, G_terminal_ms_card, G_terminal_ms_at, S_card, S_sort, S_amount, S_original]
theorem mk_h {u w : MS} (e : mkh w = mkh u) : mkk w = mkk u := by
  unfold mkh at e
  unfold mkk
  simp only [Prod.mk.injEq] at e ⊢
  obtain ⟨e1, e2, e3, e4, e5, e6, e7, e8, e9, e10, e11, e12, e13, e14, e15, e16, e17, e18, e19, e20, e21, e22⟩ := e
  exact ⟨e1, e2, e3, e4, e5, e6, e7, e8, e9, e10, e11, e12, e13, e14, e15, e16, e17, e18, e19, e20⟩
theorem mty_h {u w : MS} (e : mkh w = mkh u) : mg_type w = mg_type u := by
  unfold mkh at e
  simp only [Prod.mk.injEq] at e
  exact e.2.2.2.2.2.2.2.2.2.2.2.2.2.2.2.2.2.2.2.2.2
def mrq (u : MS) (q : RQ) : Prop := mg_type u = nI q.1 ∧ mg_card u = lN q.2.2.1 ∧ mg_sort u = nI q.2.2.2.1 ∧ mg_amount u = lN q.2.2.2.2.1 ∧ mg_trace u = nI q.2.2.2.2.2.1 ∧ mg_terminal u = q.2.2.2.2.2.2.2.1 ∧ mg_original u = nI q.2.2.2.2.2.2.2.2 ∧ (∀ k, 1 ≤ k → k ≤ 64 → mg_has u k = hsI q.2.1 k) ∧ ∃ F T : Nat → Nat, chn q.2.1 F T q.2.2.2.2.2.2.1 ∧ ∀ k, 1 ≤ k → k ≤ 64 → q.2.1.testBit (64 - k) = true → mg_from u k = nI (F k) ∧ mg_to u k = nI (T k)
theorem m_parse {u : MS} {B : List Nat} (h : mIn u B) (hl : B.length ≤ 120) (hb : ∀ b ∈ B, b < 256) : ∃ (r : Int32) (u2 : MS), jm_M_isRequest u = some (r, u2) ∧ mkk u2 = mkk u ∧ ((r = 0 ∧ prs B = none) ∨ (r = 1 ∧ ∃ q, prs B = some q ∧ mrq u2 q ∧ belongs q.1 q.2.1 ∧ q.2.2.2.2.2.2.1 + 4 ≤ B.length ∧ q.1 / 10 % 10 = 0 ∧ q.1 < 10000 ∧ q.2.1 < 2 ^ 64)) := by
  obtain ⟨u1, hu1⟩ : ∃ u1, u1 = ms_original (ms_amount (ms_sort (ms_card (ms_at u 0) 0) 0) 0) 0 := ⟨_, rfl⟩
  have hi1 : mIn u1 B := by rw [hu1]; exact k_mIn_ms_original (k_mIn_ms_amount (k_mIn_ms_sort (k_mIn_ms_card (k_mIn_ms_at h))))
  have ha1 : mg_at u1 = nI 0 := by rw [hu1]; rfl
  have hm1 : mkk u1 = mkk u := by rw [hu1, mkk_original, mkk_amount, mkk_sort, mkk_card, mkk_at]
  obtain ⟨K1, hK1⟩ : ∃ K : MS → Option (Int32 × MS), K = fun e => loopF jm_M_isRequest_L24 200 (e, (1 : Int32)) := ⟨_, rfl⟩
  obtain ⟨K2, hK2⟩ : ∃ K : MS → Option (Int32 × MS), K = fun e => loopF jm_M_readMessage_L55 200 (e, (1 : Int32)) := ⟨_, rfl⟩
  have em : RMg K2 u = if mg_ins u1 < 10 then some (0, u1) else (jm_M_digits u1 4).bind fun q => if q.1 = 0 then some (0, q.2) else nmd (ms_type q.2 (mg_value q.2).toInt32) fun d => K2 d := by rw [hu1]; rfl
  have ei : IRg K1 u = (jm_M_readMessage u).bind fun q => if q.1 = 0 then some (0, q.2) else if mg_type q.2 / 10 - mg_type q.2 / 10 / 10 * 10 = 0 then K1 q.2 else some (0, q.2) := rfl
  rw [IRg_e, ← hK1, ei, RMg_e, ← hK2, em, hi1.1]
  rcases m_dig (n := 4) hi1 hl hb ha1 (by decide) (Nat.zero_le _) with ⟨ty, q, a1, a2, a3⟩ | ⟨a1, w, a2⟩
  · have a3 : jm_M_digits u1 4 = some (1, ms_at (ms_value u1 (lN ty)) (nI q)) := a3
    by_cases c10 : B.length < 10
    · rw [if_pos (show _ < (10 : Int32) from nI_lt (b := 10) c10 (by decide)), ob_s]
      try dsimp only
      rw [if_pos rfl]
      refine ⟨_, _, rfl, hm1, Or.inl ⟨rfl, ?_⟩⟩
      unfold prs
      rw [a1, ob_s, if_neg (fun z => by have := z.1; omega)]
    · rw [if_neg (show ¬ _ < (10 : Int32) from nI_nlt (b := 10) (by omega) (by omega)), a3, ob_s]
      try dsimp only
      have ev : mg_value (ms_at (ms_value u1 (lN ty)) (nI q)) = lN ty := mv_ga u1 _ _
      rw [if_neg (by decide), nmd_e, ev, lN_i]
      have h10 : 10 ≤ B.length := by omega
      have hty : ty < 10000 := sD_lt hb (by decide) a1
      have hm := mp_lt hb h10
      obtain ⟨w0, hw0⟩ : ∃ w, w = ms_type (ms_at (ms_value u1 (lN ty)) (nI q)) (nI ty) := ⟨_, rfl⟩
      have hi0 : mIn w0 B := by rw [hw0]; exact k_mIn_ms_type (k_mIn_ms_at (k_mIn_ms_value hi1))
      rw [← hw0]
      obtain ⟨H, eH, hH⟩ := m_hasl hl hb h10 (u0 := w0) (fun e => loopF jm_M_readMessage_L115 200 (e, (1 : Int32))) 64 w0 200 (Nat.le_refl _) (by decide) hi0 rfl (fun k h1 h2 => by omega)
      have eK2 : K2 w0 = loopF jm_M_readMessage_L115 200 (ms_at (ms_has w0 H) 10, (1 : Int32)) := by
        rw [hK2, L55g_e]
        exact eH
      rw [eK2]
      obtain ⟨u3, hu3⟩ : ∃ u3, u3 = ms_at (ms_has w0 H) 10 := ⟨_, rfl⟩
      rw [← hu3]
      have hi3 : mIn u3 B := by rw [hu3]; exact k_mIn_ms_at (k_mIn_ms_has hi0)
      have ha3 : mg_at u3 = nI 10 := by rw [hu3]; rfl
      have hh3 : ∀ k, 1 ≤ k → k ≤ 64 → mg_has u3 k = hsI (mVal 0 (tk B 2 8)) k := by rw [hu3]; exact hH
      have ht3 : mg_type u3 = nI ty := by rw [hu3, G_type_ms_at, G_type_ms_has, hw0]; rfl
      have hm3 : mkk u3 = mkk u := by rw [hu3, mkk_at, mkk_has, hw0, mkk_type, mkk_at, mkk_value, hm1]
      have hv3 : ∀ F T : Nat → Nat, vaOf u3 F T = (0, 0, 0, mg_trace u, mg_terminal u, 0, F, T) := fun F T => by rw [hu3, vaOf_at, vaOf_has, hw0, vaOf_type, vaOf_at, vaOf_value, hu1, va_0]
      have e4 : nI ty / 10 - nI ty / 10 / 10 * 10 = nI (ty / 10 % 10) := by
        have b1 : nI ty / 10 = nI (ty / 10) := pk_div (d := 10) (by omega) (by decide) (by decide)
        rw [b1]
        exact pk_rem (d := 10) (by omega) (by decide) (by decide)
      have ep : prs B = if 10 ≤ B.length ∧ ty / 10 % 10 = 0 ∧ belongs ty (mVal 0 (tk B 2 8)) then (pMon B (mVal 0 (tk B 2 8)) 10).bind fun a => (pOth B (mVal 0 (tk B 2 8)) a.2.2.2).bind fun o => if o.2.2.2.2 = B.length then some (ty, mVal 0 (tk B 2 8), a.1, a.2.1, a.2.2.1, o.1, o.2.1, o.2.2.1, o.2.2.2.1) else none else none := by
        unfold prs
        rw [a1, ob_s]
      generalize hmp : mVal 0 (tk B 2 8) = mp at *
      have eR : ((pMon B mp 10).bind fun a => (pOth B mp a.2.2.2).bind fun o => if o.2.2.2.2 = B.length then some (ty, mp, a.1, a.2.1, a.2.2.1, o.1, o.2.1, o.2.2.1, o.2.2.2.1) else none) = (((pMon B mp 10).bind fun a => (pOth B mp a.2.2.2).bind fun o => if o.2.2.2.2 = B.length then some (a, o) else none).bind fun x => some (ty, mp, x.1.1, x.1.2.1, x.1.2.2.1, x.2.1, x.2.2.1, x.2.2.2.1, x.2.2.2.2.1)) := by
        cases pMon B mp 10 with
        | none => rfl
        | some a =>
          show (pOth B mp a.2.2.2).bind _ = ((pOth B mp a.2.2.2).bind _).bind _
          cases pOth B mp a.2.2.2 with
          | none => rfl
          | some o =>
            show (if o.2.2.2.2 = B.length then _ else none) = (if o.2.2.2.2 = B.length then _ else none).bind _
            by_cases c : o.2.2.2.2 = B.length
            · rw [if_pos c, if_pos c]
              rfl
            · rw [if_neg c, if_neg c]
              rfl
      rcases m_loop hl hb (mp := mp) 64 u3 10 (fun _ => 0) (fun _ => 0) 200 (Nat.le_refl _) (by decide) hi3 ha3 h10 hh3 (fun k h1 h2 => by omega) with ⟨c1, u4, c2, c3⟩ | ⟨u4, F4, T4, c1, c2, c3, c4⟩
      · have c2 : loopF jm_M_readMessage_L115 200 (u3, 1) = some (0, u4) := c2
        rw [c2, ob_s]
        try dsimp only
        rw [if_pos rfl]
        refine ⟨_, _, rfl, (mk_h c3).trans hm3, Or.inl ⟨rfl, ?_⟩⟩
        rw [ep]
        by_cases cb : 10 ≤ B.length ∧ ty / 10 % 10 = 0 ∧ belongs ty mp
        · rw [if_pos cb, eR]
          rw [hv3] at c1
          rcases tl_prs (B := B) cb.2.2 (x := mg_trace u) (y := mg_terminal u) (F := fun _ => 0) (T := fun _ => 0) with ⟨d1, d2⟩ | ⟨cd, so, am, tr, st, te, og, q0, q1, W, d1, d2, d3⟩
          · rw [d1]
            rfl
          · rw [d2] at c1
            cases c1
        · rw [if_neg cb]
      · have c2 : loopF jm_M_readMessage_L115 200 (u3, 1) = some (1, u4) := c2
        have ht4 : mg_type u4 = nI ty := (mty_h c3).trans ht3
        have hh4 : ∀ k, 1 ≤ k → k ≤ 64 → mg_has u4 k = hsI mp k := fun k h1 h2 => by rw [mhas_k c3]; exact hh3 k h1 h2
        rw [c2, ob_s]
        try dsimp only
        rw [if_neg (by decide), ht4, e4, ep]
        by_cases cz : ty / 10 % 10 = 0
        · rw [cz, if_pos (show nI 0 = 0 from rfl)]
          rcases m_dueloop (by omega) ht4 hh4 64 200 (Nat.le_refl _) (by decide) with ⟨d1, d2⟩ | ⟨d1, d2⟩
          · have d2 : K1 u4 = some (1, u4) := by rw [hK1]; exact d2
            have cb : belongs ty mp := bel_of (fun k h1 h2 => d1 k (by omega) h2) (fun i hi hb2 => tl_in 64 _ _ _ (Nat.le_refl _) c1 i hi hb2)
            rw [d2, if_pos (show 10 ≤ B.length ∧ 0 = 0 ∧ belongs ty mp from ⟨h10, rfl, cb⟩), eR]
            refine ⟨_, _, rfl, (mk_h c3).trans hm3, Or.inr ⟨rfl, ?_⟩⟩
            rw [hv3] at c1
            rcases tl_prs (B := B) cb (x := mg_trace u) (y := mg_terminal u) (F := fun _ => 0) (T := fun _ => 0) with ⟨f1, f2⟩ | ⟨cd, so, am, tr, st, te, og, q0, q1, W, f1, f2, f3, f4, f5⟩
            · rw [f2] at c1
              cases c1
            · rw [f2] at c1
              have hW := Option.some.inj c1
              rw [f1]
              refine ⟨_, rfl, ?_, cb, f5, cz, hty, hm⟩
              rw [hW] at f3 f4
              unfold va6 vaOf at f3
              simp only [Prod.mk.injEq] at f3
              obtain ⟨g1, g2, g3, g4, g5, g6⟩ := f3
              exact ⟨ht4, g1, g2, g3, g4, g5, g6, hh4, F4, T4, f4, c4⟩
          · have d2 : K1 u4 = some (0, u4) := by rw [hK1]; exact d2
            have cb : ¬ belongs ty mp := fun z => d1 (fun k h1 h2 => okk_of z k (by omega) h2)
            rw [d2, if_neg (fun z => cb z.2.2)]
            exact ⟨_, _, rfl, (mk_h c3).trans hm3, Or.inl ⟨rfl, rfl⟩⟩
        · rw [if_neg (show ¬ _ = (0 : Int32) from fun z => cz ((nI_eq (b := 0) (by omega) (by decide)).mp z)), if_neg (fun z => cz z.2.1)]
          exact ⟨_, _, rfl, (mk_h c3).trans hm3, Or.inl ⟨rfl, rfl⟩⟩
  · have a2 : jm_M_digits u1 4 = some (0, ms_value u1 w) := a2
    have ep : prs B = none := by
      unfold prs
      rw [a1]
      rfl
    by_cases c10 : B.length < 10
    · rw [if_pos (show _ < (10 : Int32) from nI_lt (b := 10) c10 (by decide)), ob_s]
      try dsimp only
      rw [if_pos rfl]
      exact ⟨_, _, rfl, hm1, Or.inl ⟨rfl, ep⟩⟩
    · rw [if_neg (show ¬ _ < (10 : Int32) from nI_nlt (b := 10) (by omega) (by omega)), a2, ob_s]
      try dsimp only
      rw [if_pos rfl, ob_s]
      try dsimp only
      rw [if_pos rfl]
      exact ⟨_, _, rfl, (mkk_value u1 w).trans hm1, Or.inl ⟨rfl, ep⟩⟩
