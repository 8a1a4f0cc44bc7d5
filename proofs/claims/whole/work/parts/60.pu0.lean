/-! lists in arrays, first places, sums: generic rows -/
def isL {α : Type} (f : Nat → α) (L : List α) : Prop := ∀ (k : Nat) (h : k < L.length), f k = L[k]
theorem isL_nil {α : Type} {f : Nat → α} : isL f [] := fun k h => absurd h (Nat.not_lt_zero k)
theorem isL_put {α : Type} {f g : Nat → α} {L : List α} {x : α} (h : isL f L) (hg : ∀ j, j < L.length → g j = f j) (hx : g L.length = x) : isL g (L ++ [x]) := by
  intro k hk
  by_cases h1 : k < L.length
  · rw [hg k h1, h k h1, List.getElem_append_left h1]
  · have hk2 : k = L.length := by
      have : (L ++ [x]).length = L.length + 1 := by simp
      omega
    subst hk2
    rw [hx, List.getElem_append_right (Nat.le_refl _)]
    simp
theorem isL_set {α : Type} {f g : Nat → α} {L : List α} {i : Nat} {x : α} (h : isL f L) (hg : ∀ j, j < L.length → j ≠ i → g j = f j) (hx : i < L.length → g i = x) : isL g (L.set i x) := by
  intro k hk
  have hk1 : k < L.length := by rw [List.length_set] at hk; exact hk
  rw [List.getElem_set]
  by_cases e : i = k
  · subst e
    rw [if_pos rfl]
    exact hx hk1
  · rw [if_neg e, hg k hk1 (fun q => e q.symm), h k hk1]
theorem isL_same {α : Type} {f g : Nat → α} {L : List α} (h : isL f L) (hg : ∀ j, j < L.length → g j = f j) : isL g L := fun k hk => (hg k hk).trans (h k hk)
theorem isL_mapG {f : Nat → Int32} {L : List Nat} (h : isL f (L.map nI)) {k : Nat} (hk : k < L.length) : f k = nI L[k] := by
  rw [h k (by rw [List.length_map]; exact hk), List.getElem_map]
theorem ob_s {α β : Type} (a : α) (f : α → Option β) : (some a).bind f = f a := rfl
theorem nmd_e {α β : Type} (x : α) (k : α → Option β) : nmd x k = k x := rfl
theorem gq_e {β : Type} {L : List Nat} {o : Option Nat} {k : Nat → Option β} {a : Nat} (ho : o = some a) (hm : a ∈ L) : gq L o k = k a := by
  subst ho
  exact if_pos hm
theorem oq_s {β : Type} {L : List Nat} {o : Option Nat} {kn : Option β} {k : Nat → Option β} {a : Nat} (ho : o = some a) (hm : a ∈ L) : oq L o kn k = k a := by
  subst ho
  exact if_pos hm
theorem oq_n {β : Type} {L : List Nat} {o : Option Nat} {kn : Option β} {k : Nat → Option β} (ho : o = none) : oq L o kn k = kn := by
  subst ho
  rfl
/-- the first place, counted from k -/
def fx {α : Type} (p : α → Bool) : List α → Nat → Option Nat
  | [], _ => none
  | a :: l, k => if p a = true then some k else fx p l (k + 1)
theorem fx_some {α : Type} {p : α → Bool} : ∀ {L : List α} {k j : Nat}, fx p L k = some j → ∃ i, ∃ h : i < L.length, j = k + i ∧ p L[i] = true
  | [], k, j, h => by cases h
  | a :: l, k, j, h => by
    by_cases c : p a = true
    · have e : some k = some j := by rw [← h]; exact (if_pos c).symm
      exact ⟨0, Nat.zero_lt_succ _, by have := Option.some.inj e; omega, c⟩
    · have e : fx p l (k + 1) = some j := by rw [← h]; exact (if_neg c).symm
      obtain ⟨i, hi, e1, e2⟩ := fx_some e
      exact ⟨i + 1, Nat.succ_lt_succ hi, by omega, e2⟩
theorem fx_none {α : Type} {p : α → Bool} : ∀ {L : List α} {k : Nat}, fx p L k = none → ∀ a ∈ L, p a = false
  | [], _, _ => by intro a h; cases h
  | b :: l, k, h => by
    by_cases c : p b = true
    · have e : some k = none := by rw [← h]; exact (if_pos c).symm
      cases e
    · have e : fx p l (k + 1) = none := by rw [← h]; exact (if_neg c).symm
      intro a ha
      rcases List.mem_cons.mp ha with rfl | ha
      · cases hp : p a
        · rfl
        · exact absurd hp c
      · exact fx_none e a ha
/-- first place: those ahead of it are refused -/
theorem fx_first {α : Type} {p : α → Bool} : ∀ {L : List α} {k j : Nat}, fx p L k = some j → ∀ i, i < j - k → ∀ h : i < L.length, p L[i] = false
  | [], k, j, h => by cases h
  | a :: l, k, j, h => by
    by_cases c : p a = true
    · have e : some k = some j := by rw [← h]; exact (if_pos c).symm
      intro i hi
      have := Option.some.inj e
      omega
    · have e : fx p l (k + 1) = some j := by rw [← h]; exact (if_neg c).symm
      intro i hi hl
      cases i with
      | zero =>
        cases hp : p a
        · exact hp
        · exact absurd hp c
      | succ i => exact fx_first e i (by omega) (Nat.lt_of_succ_lt_succ hl)
theorem loop_fx {α ρ : Type} {F : (Int32 → Option ρ) → Int32 → Option ρ} {p : α → Bool} {L : List α} {en : ρ} {hit : Nat → ρ}
    (hend : ∀ rc, F rc (nI L.length) = some en) (hstep : ∀ rc k (h : k < L.length), F rc (nI k) = if p L[k] = true then some (hit k) else rc (nI (k + 1))) :
    ∀ (m k f : Nat), k + m = L.length → m < f → loopF F f (nI k) = some (match fx p (L.drop k) k with | none => en | some j => hit j) := by
  intro m
  induction m with
  | zero =>
    intro k f hk hf
    obtain ⟨g, rfl⟩ : ∃ g, f = g + 1 := ⟨f - 1, by omega⟩
    have hk2 : k = L.length := by omega
    subst hk2
    rw [List.drop_length]
    exact hend _
  | succ m ih =>
    intro k f hk hf
    obtain ⟨g, rfl⟩ : ∃ g, f = g + 1 := ⟨f - 1, by omega⟩
    have hk2 : k < L.length := by omega
    rw [List.drop_eq_getElem_cons hk2]
    show F (loopF F g) (nI k) = _
    rw [hstep _ k hk2]
    by_cases c : p L[k] = true
    · rw [if_pos c]
      show _ = some (match (if p L[k] = true then some k else fx p (L.drop (k + 1)) (k + 1)) with | none => en | some j => hit j)
      rw [if_pos c]
    · rw [if_neg c, ih (k + 1) g (by omega) (by omega)]
      show _ = some (match (if p L[k] = true then some k else fx p (L.drop (k + 1)) (k + 1)) with | none => en | some j => hit j)
      rw [if_neg c]
theorem loop_sum {α σ ρ : Type} {F : (σ × Int32 → Option ρ) → σ × Int32 → Option ρ} {g : σ → α → σ} {L : List α} {fin : σ → ρ}
    (hend : ∀ rc s, F rc (s, nI L.length) = some (fin s)) (hstep : ∀ rc s k (h : k < L.length), F rc (s, nI k) = rc (g s L[k], nI (k + 1))) :
    ∀ (m k f : Nat) (s : σ), k + m = L.length → m < f → loopF F f (s, nI k) = some (fin (List.foldl g s (L.drop k))) := by
  intro m
  induction m with
  | zero =>
    intro k f s hk hf
    obtain ⟨h, rfl⟩ : ∃ h, f = h + 1 := ⟨f - 1, by omega⟩
    have hk2 : k = L.length := by omega
    subst hk2
    rw [List.drop_length]
    exact hend _ s
  | succ m ih =>
    intro k f s hk hf
    obtain ⟨h, rfl⟩ : ∃ h, f = h + 1 := ⟨f - 1, by omega⟩
    have hk2 : k < L.length := by omega
    rw [List.drop_eq_getElem_cons hk2, List.foldl_cons]
    show F (loopF F h) (s, nI k) = _
    rw [hstep _ s k hk2, ih (k + 1) h _ (by omega) (by omega)]
/-- a loop with a count up to n, an invariant, and what its end says -/
theorem loop_run {σ ρ : Type} {F : (σ → Option ρ) → σ → Option ρ} (n : Nat) (I : Nat → σ → Prop) (Q : ρ → Prop)
    (hend : ∀ rc s, I n s → ∃ r, F rc s = some r ∧ Q r) (hstep : ∀ rc k s, k < n → I k s → (∃ r, F rc s = some r ∧ Q r) ∨ ∃ s', I (k + 1) s' ∧ F rc s = rc s') :
    ∀ (m k f : Nat) (s : σ), k + m = n → m < f → I k s → ∃ r, loopF F f s = some r ∧ Q r := by
  intro m
  induction m with
  | zero =>
    intro k f s hk hf hI
    obtain ⟨h, rfl⟩ : ∃ h, f = h + 1 := ⟨f - 1, by omega⟩
    have hk2 : k = n := by omega
    subst hk2
    exact hend _ s hI
  | succ m ih =>
    intro k f s hk hf hI
    obtain ⟨h, rfl⟩ : ∃ h, f = h + 1 := ⟨f - 1, by omega⟩
    rcases hstep (loopF F h) k s (by omega) hI with h1 | ⟨s', hI', e⟩
    · exact h1
    · obtain ⟨r, e1, e2⟩ := ih (k + 1) h s' (by omega) (by omega) hI'
      exact ⟨r, (show F (loopF F h) s = some r from e.trans e1), e2⟩
/-- the last place, counted from k -/
def lx {α : Type} (p : α → Bool) : List α → Nat → Option Nat → Option Nat
  | [], _, a => a
  | b :: l, k, a => lx p l (k + 1) (if p b = true then some k else a)
theorem lx_app {α : Type} {p : α → Bool} {b : α} : ∀ (L : List α) (k : Nat) (a : Option Nat), lx p (L ++ [b]) k a = if p b = true then some (k + L.length) else lx p L k a
  | [], k, a => rfl
  | c :: l, k, a => by
    show lx p (l ++ [b]) (k + 1) _ = _
    rw [lx_app l (k + 1)]
    have e : k + 1 + l.length = k + (c :: l).length := by rw [List.length_cons]; omega
    rw [e]
    rfl
theorem lx_some {α : Type} {p : α → Bool} : ∀ {L : List α} {k j : Nat} {a : Option Nat}, lx p L k a = some j → a = some j ∨ ∃ i, ∃ h : i < L.length, j = k + i ∧ p L[i] = true
  | [], k, j, a, h => Or.inl h
  | b :: l, k, j, a, h => by
    have h : lx p l (k + 1) (if p b = true then some k else a) = some j := h
    rcases lx_some h with h1 | ⟨i, hi, e1, e2⟩
    · by_cases c : p b = true
      · rw [if_pos c] at h1
        exact Or.inr ⟨0, Nat.zero_lt_succ _, by have := Option.some.inj h1; omega, c⟩
      · rw [if_neg c] at h1
        exact Or.inl h1
    · exact Or.inr ⟨i + 1, Nat.succ_lt_succ hi, by omega, e2⟩
