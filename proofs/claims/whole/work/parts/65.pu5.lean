/-! the reference's reading -/
theorem mv_vv (u : MS) (x y : Int64) : ms_value (ms_value u x) y = ms_value u y := rfl
theorem mv_gv (u : MS) (x : Int64) : mg_value (ms_value u x) = x := rfl
theorem mv_ga (u : MS) (x : Int64) (y : Int32) : mg_value (ms_at (ms_value u x) y) = x := rfl
theorem mv_gat (u : MS) (y : Int32) : mg_at (ms_at u y) = y := rfl
theorem mv_av (u : MS) (a c : Int64) (b e : Int32) : ms_at (ms_value (ms_at (ms_value u a) b) c) e = ms_at (ms_value u c) e := rfl
theorem mv_vav (u : MS) (a c : Int64) (b : Int32) : ms_value (ms_at (ms_value u a) b) c = ms_at (ms_value u c) b := rfl
theorem mv_in {u : MS} {B : List Nat} {a : Int64} {b : Int32} (h : mIn u B) : mIn (ms_at (ms_value u a) b) B := k_mIn_ms_at (k_mIn_ms_value h)
theorem m_inAt {u : MS} {B : List Nat} (h : mIn u B) {k : Nat} (hk : k < B.length) : mg_in u k = nI B[k] := isL_mapG h.2 hk
theorem nI_h2 (j : Nat) (hj : j < 1000) : nI (2 * j) / 2 = nI j ∧ nI (2 * j) - nI (2 * j) / 2 * 2 = 0 ∧ nI (2 * j + 1) / 2 = nI j ∧ nI (2 * j + 1) - nI (2 * j + 1) / 2 * 2 = 1 := by
  have a1 : nI (2 * j) / 2 = nI (2 * j / 2) := pk_div (d := 2) (by omega) (by decide) (by decide)
  have a2 : nI (2 * j) - nI (2 * j) / 2 * 2 = nI (2 * j % 2) := pk_rem (d := 2) (by omega) (by decide) (by decide)
  have a3 : nI (2 * j + 1) / 2 = nI ((2 * j + 1) / 2) := pk_div (d := 2) (by omega) (by decide) (by decide)
  have a4 : nI (2 * j + 1) - nI (2 * j + 1) / 2 * 2 = nI ((2 * j + 1) % 2) := pk_rem (d := 2) (by omega) (by decide) (by decide)
  have b1 : 2 * j / 2 = j := by omega
  have b2 : 2 * j % 2 = 0 := by omega
  have b3 : (2 * j + 1) / 2 = j := by omega
  have b4 : (2 * j + 1) % 2 = 1 := by omega
  rw [b1] at a1
  rw [b2] at a2
  rw [b3] at a3
  rw [b4] at a4
  exact ⟨a1, a2, a3, a4⟩
theorem nb_h4 {b : Nat} (h : b < 256) : (nI b >>> ((4 : Int32) &&& 31)) &&& 15 = nI (b / 16) := by
  rw [nb_hi h, nb_lo]
  congr 1
  omega
theorem nb_l4 {b : Nat} (h : b < 256) : (nI b >>> ((0 : Int32) &&& 31)) &&& 15 = nI (b % 16) := by rw [sb_shr0, nb_lo]
theorem nv10 {v x : Nat} (h : x < 256) : (10 : Int64) * lN v + (nI x).toInt64 = lN (10 * v + x) := by
  have e1 : (10 : Int64) * lN v = lN (10 * v) := lN_mul 10 v
  rw [e1, nI_l (by omega), lN_add]
theorem m_stepE {u : MS} {B : List Nat} (h : mIn u B) (hl : B.length ≤ 120) (hb : ∀ b ∈ B, b < 256) {n nb p j v : Nat} (hat : mg_at u = nI p) (hn : n ≤ 16) (hj : j < nb) (hnb : nb ≤ 8) (hp : p + nb ≤ B.length) (hx : p + j < B.length) (rc : MS × Int32 → Option (Int32 × MS)) :
    jm_M_digits_L28 (nI n) (nI nb) rc (ms_value u (lN v), nI (2 * j)) = if B[p + j] / 16 ≤ (if j = 0 then hiN n else 9) then rc (ms_value u (lN (10 * v + B[p + j] / 16)), nI (2 * j + 1)) else some (0, ms_value u (lN v)) := by
  have hb2 := hb _ (List.getElem_mem hx)
  obtain ⟨q1, q2, -, -⟩ := nI_h2 j (by omega)
  have e1 : mg_at (ms_value u (lN v)) = nI p := (G_at_ms_value u _).trans hat
  have e2 : mg_in (ms_value u (lN v)) (p + j) = nI B[p + j] := by rw [G_in_ms_value]; exact m_inAt h hx
  have e3 : mg_value (ms_value u (lN v)) = lN v := mv_gv u _
  have e4 : ∀ x, ms_value (ms_value u (lN v)) x = ms_value u x := fun x => mv_vv u _ x
  have er : nI n - nI n / 2 * 2 = nI (n % 2) := pk_rem (d := 2) (by omega) (by decide) (by decide)
  have e5 : (2 : Int32) * nI nb = nI (2 * nb) := pk_mul 2 nb
  unfold jm_M_digits_L28
  try dsimp only
  rw [e5, if_neg (nI_ge (by omega) (by omega)), q2, if_pos rfl, q1, e1, nI_add, git (by omega) (by decide), nI_clamp (by omega), e2, nb_h4 hb2, e3, nv10 (by omega), er]
  rw [nmd_e, e4, nI_1]
  by_cases c9 : B[p + j] / 16 ≤ 9
  · rw [if_neg (show ¬ (9 : Int32) < _ from nI_nlt (a := 9) c9 (by decide))]
    by_cases c1 : n % 2 = 1
    · rw [c1, if_pos (show nI 1 = 1 from rfl)]
      by_cases c0 : j = 0
      · subst c0
        have eh : hiN n = 0 := by unfold hiN; rw [if_neg (by omega)]
        rw [if_pos (show nI (2 * 0) = 0 from rfl), if_pos (show (0 : Nat) = 0 from rfl), eh]
        by_cases cz : B[p + 0] / 16 = 0
        · rw [cz, if_pos (show nI 0 = 0 from rfl), if_pos (Nat.le_refl 0)]
        · rw [if_neg (nI_ne0 (by omega) (by omega)), if_neg (by omega)]
      · rw [if_neg (nI_ne0 (by omega) (by omega)), if_neg c0, if_pos c9]
    · have c2 : n % 2 = 0 := by omega
      have eh : hiN n = 9 := by unfold hiN; rw [if_pos c2]
      rw [c2, if_neg (show ¬ nI 0 = 1 by decide), eh, ite_self, if_pos c9]
  · have hle : ¬ B[p + j] / 16 ≤ (if j = 0 then hiN n else 9) := by
      unfold hiN
      split
      · split <;> omega
      · exact c9
    rw [if_pos (show (9 : Int32) < _ from nI_lt (a := 9) (by omega) (by omega)), if_neg hle]
theorem m_stepO {u : MS} {B : List Nat} (h : mIn u B) (hl : B.length ≤ 120) (hb : ∀ b ∈ B, b < 256) {n nb p j v : Nat} (hat : mg_at u = nI p) (hn : n ≤ 16) (hj : j < nb) (hnb : nb ≤ 8) (hp : p + nb ≤ B.length) (hx : p + j < B.length) (rc : MS × Int32 → Option (Int32 × MS)) :
    jm_M_digits_L28 (nI n) (nI nb) rc (ms_value u (lN v), nI (2 * j + 1)) = if B[p + j] % 16 ≤ 9 then rc (ms_value u (lN (10 * v + B[p + j] % 16)), nI (2 * (j + 1))) else some (0, ms_value u (lN v)) := by
  have hb2 := hb _ (List.getElem_mem hx)
  obtain ⟨-, -, q1, q2⟩ := nI_h2 j (by omega)
  have e1 : mg_at (ms_value u (lN v)) = nI p := (G_at_ms_value u _).trans hat
  have e2 : mg_in (ms_value u (lN v)) (p + j) = nI B[p + j] := by rw [G_in_ms_value]; exact m_inAt h hx
  have e3 : mg_value (ms_value u (lN v)) = lN v := mv_gv u _
  have e4 : ∀ x, ms_value (ms_value u (lN v)) x = ms_value u x := fun x => mv_vv u _ x
  have e5 : (2 : Int32) * nI nb = nI (2 * nb) := pk_mul 2 nb
  unfold jm_M_digits_L28
  try dsimp only
  rw [e5, if_neg (nI_ge (by omega) (by omega)), q2, if_neg (show ¬ (1 : Int32) = 0 by decide), q1, e1, nI_add, git (by omega) (by decide), nI_clamp (by omega), e2, nb_l4 hb2, e3, nv10 (by omega)]
  have e6 : 2 * j + 1 + 1 = 2 * (j + 1) := by omega
  rw [nmd_e, e4, nI_1, e6, if_neg (show ¬ nI (2 * j + 1) = 0 from nI_ne0 (by omega) (by omega)), ite_self]
  by_cases c9 : B[p + j] % 16 ≤ 9
  · rw [if_neg (show ¬ (9 : Int32) < _ from nI_nlt (a := 9) c9 (by decide)), if_pos c9]
  · rw [if_pos (show (9 : Int32) < _ from nI_lt (a := 9) (by omega) (by omega)), if_neg c9]
theorem m_dig_loop {u : MS} {B : List Nat} (h : mIn u B) (hl : B.length ≤ 120) (hb : ∀ b ∈ B, b < 256) {n nb p : Nat} (hat : mg_at u = nI p) (hn : n ≤ 16) (hnb : nb ≤ 8) (hp : p + nb ≤ B.length) :
    ∀ (m j v f : Nat), j + m = nb → 2 * m < f → (dOk (if j = 0 then hiN n else 9) (tk B (p + j) m) = true ∧ loopF (jm_M_digits_L28 (nI n) (nI nb)) f (ms_value u (lN v), nI (2 * j)) = some (1, ms_at (ms_value u (lN (dVal v (tk B (p + j) m)))) (nI (p + nb)))) ∨ (¬ dOk (if j = 0 then hiN n else 9) (tk B (p + j) m) = true ∧ ∃ w, loopF (jm_M_digits_L28 (nI n) (nI nb)) f (ms_value u (lN v), nI (2 * j)) = some (0, ms_value u w)) := by
  intro m
  induction m with
  | zero =>
    intro j v f hj hf
    obtain ⟨k, rfl⟩ : ∃ k, f = k + 1 := ⟨f - 1, by omega⟩
    have hj2 : j = nb := by omega
    subst hj2
    refine Or.inl ⟨by rw [tk_0]; rfl, ?_⟩
    rw [tk_0]
    show jm_M_digits_L28 (nI n) (nI j) _ _ = _
    have e5 : (2 : Int32) * nI j = nI (2 * j) := pk_mul 2 j
    have e1 : mg_at (ms_value u (lN v)) = nI p := (G_at_ms_value u _).trans hat
    unfold jm_M_digits_L28
    try dsimp only
    rw [e5, if_pos (nI_le (Nat.le_refl _) (by omega)), nmd_e, e1, nI_add]
    rfl
  | succ m ih =>
    intro j v f hj hf
    obtain ⟨k, rfl⟩ : ∃ k, f = k + 1 + 1 := ⟨f - 2, by omega⟩
    have hx : p + j < B.length := by omega
    have eL : ∀ (k : Nat) (z : MS × Int32), loopF (jm_M_digits_L28 (nI n) (nI nb)) (k + 1) z = jm_M_digits_L28 (nI n) (nI nb) (loopF (jm_M_digits_L28 (nI n) (nI nb)) k) z := fun _ _ => rfl
    have eo : dOk (if j = 0 then hiN n else 9) (tk B (p + j) (m + 1)) = (decide (B[p + j] / 16 ≤ (if j = 0 then hiN n else 9)) && decide (B[p + j] % 16 ≤ 9) && dOk 9 (tk B (p + j + 1) m)) := by
      rw [tk_s m hx]
      rfl
    have ev : dVal v (tk B (p + j) (m + 1)) = dVal (v * 100 + B[p + j] / 16 * 10 + B[p + j] % 16) (tk B (p + j + 1) m) := by
      rw [tk_s m hx]
      rfl
    rw [eL, m_stepE h hl hb hat hn (by omega) hnb hp hx, eo, ev]
    by_cases c1 : B[p + j] / 16 ≤ (if j = 0 then hiN n else 9)
    · rw [if_pos c1, eL, m_stepO h hl hb hat hn (by omega) hnb hp hx, decide_eq_true c1]
      by_cases c2 : B[p + j] % 16 ≤ 9
      · rw [if_pos c2, decide_eq_true c2]
        have e10 : 10 * (10 * v + B[p + j] / 16) + B[p + j] % 16 = v * 100 + B[p + j] / 16 * 10 + B[p + j] % 16 := by omega
        have ih2 := ih (j + 1) (v * 100 + B[p + j] / 16 * 10 + B[p + j] % 16) k (by omega) (by omega)
        rw [if_neg (Nat.succ_ne_zero j)] at ih2
        rw [e10]
        exact ih2
      · rw [if_neg c2, decide_eq_false c2]
        exact Or.inr ⟨by simp, _, rfl⟩
    · rw [if_neg c1, decide_eq_false c1]
      exact Or.inr ⟨by simp, _, rfl⟩
theorem m_dig {u : MS} {B : List Nat} (h : mIn u B) (hl : B.length ≤ 120) (hb : ∀ b ∈ B, b < 256) {n p : Nat} (hat : mg_at u = nI p) (hn : n ≤ 16) (hp : p ≤ B.length) :
    (∃ v q, sD B n p = some (v, q) ∧ q ≤ B.length ∧ jm_M_digits u (nI n) = some (1, ms_at (ms_value u (lN v)) (nI q))) ∨ (sD B n p = none ∧ ∃ w, jm_M_digits u (nI n) = some (0, ms_value u w)) := by
  have en : (nI n + 1) / 2 = nI ((n + 1) / 2) := by
    rw [nI_1]
    exact pk_div (d := 2) (by omega) (by decide) (by decide)
  unfold jm_M_digits sD
  rw [en, hat, h.1, nI_add]
  by_cases c : p + (n + 1) / 2 ≤ B.length
  · rw [if_pos (nI_le c (by omega)), nmd_e]
    rcases m_dig_loop h hl hb hat hn (nb := (n + 1) / 2) (by omega) c ((n + 1) / 2) 0 0 200 (by omega) (by omega) with ⟨a1, a2⟩ | ⟨a1, w, a2⟩
    · rw [if_pos rfl, Nat.add_zero] at a1
      rw [Nat.add_zero] at a2
      refine Or.inl ⟨_, _, if_pos ⟨c, a1⟩, c, ?_⟩
      exact a2
    · rw [if_pos rfl, Nat.add_zero] at a1
      exact Or.inr ⟨if_neg (fun q => a1 q.2), w, a2⟩
  · rw [if_neg (nI_ge (by omega) (by omega))]
    exact Or.inr ⟨if_neg (fun q => c q.1), mg_value u, rfl⟩
/-! characters -/
def chL : Int64 → List Nat → Int64
  | v, [] => v
  | v, c :: l => chL ((v <<< ((8 : Int32).toInt64 &&& 63)) ||| (nI c).toInt64) l
theorem m_chr_loop {u : MS} {B : List Nat} (h : mIn u B) (hl : B.length ≤ 120) (hb : ∀ b ∈ B, b < 256) {n p lo hi : Nat} (hat : mg_at u = nI p) (hn : n ≤ 100) (hlo : lo ≤ 1000) (hhi : hi ≤ 1000) (hp : p + n ≤ B.length) :
    ∀ (m j : Nat) (v : Int64) (f : Nat), j + m = n → m < f → (chOk lo hi (tk B (p + j) m) ∧ loopF (jm_M_characters_L23 (nI n) (nI lo) (nI hi)) f (ms_value u v, nI j) = some (1, ms_at (ms_value u (chL v (tk B (p + j) m))) (nI (p + n)))) ∨ (¬ chOk lo hi (tk B (p + j) m) ∧ ∃ w, loopF (jm_M_characters_L23 (nI n) (nI lo) (nI hi)) f (ms_value u v, nI j) = some (0, ms_value u w)) := by
  intro m
  induction m with
  | zero =>
    intro j v f hj hf
    obtain ⟨k, rfl⟩ : ∃ k, f = k + 1 := ⟨f - 1, by omega⟩
    have hj2 : j = n := by omega
    subst hj2
    refine Or.inl ⟨(by rw [tk_0]; intro c hc; cases hc), ?_⟩
    rw [tk_0]
    show jm_M_characters_L23 (nI j) _ _ _ _ = _
    have e1 : mg_at (ms_value u v) = nI p := (G_at_ms_value u _).trans hat
    unfold jm_M_characters_L23
    try dsimp only
    rw [if_pos (nI_le (Nat.le_refl _) (by omega)), nmd_e, e1, nI_add]
    rfl
  | succ m ih =>
    intro j v f hj hf
    obtain ⟨k, rfl⟩ : ∃ k, f = k + 1 := ⟨f - 1, by omega⟩
    have hx : p + j < B.length := by omega
    have hb2 := hb _ (List.getElem_mem hx)
    have e1 : mg_at (ms_value u v) = nI p := (G_at_ms_value u _).trans hat
    have e2 : mg_in (ms_value u v) (p + j) = nI B[p + j] := by rw [G_in_ms_value]; exact m_inAt h hx
    have e3 : mg_value (ms_value u v) = v := mv_gv u v
    have eo : chOk lo hi (tk B (p + j) (m + 1)) ↔ ((lo ≤ B[p + j] ∧ B[p + j] ≤ hi) ∧ chOk lo hi (tk B (p + (j + 1)) m)) := by
      rw [tk_s m hx]
      constructor
      · intro q
        exact ⟨q _ List.mem_cons_self, fun x hx => q x (List.mem_cons_of_mem _ hx)⟩
      · intro q x hx
        rcases List.mem_cons.mp hx with rfl | hx
        · exact q.1
        · exact q.2 x hx
    have eL : loopF (jm_M_characters_L23 (nI n) (nI lo) (nI hi)) (k + 1) (ms_value u v, nI j) = if lo ≤ B[p + j] ∧ B[p + j] ≤ hi then loopF (jm_M_characters_L23 (nI n) (nI lo) (nI hi)) k (ms_value u ((v <<< ((8 : Int32).toInt64 &&& 63)) ||| (nI B[p + j]).toInt64), nI (j + 1)) else some (0, ms_value u v) := by
      show jm_M_characters_L23 (nI n) (nI lo) (nI hi) (loopF _ k) (ms_value u v, nI j) = _
      unfold jm_M_characters_L23
      try dsimp only
      rw [if_neg (nI_ge (by omega) (by omega)), e1, nI_add, git (by omega) (by decide), nI_clamp (by omega), e2, e3, nmd_e, nI_1, mv_vv]
      by_cases c1 : B[p + j] < lo
      · rw [if_pos (nI_lt c1 (by omega)), if_neg (by omega)]
      · rw [if_neg (nI_nlt (by omega) (by omega))]
        by_cases c2 : B[p + j] ≤ hi
        · rw [if_pos (nI_le c2 (by omega)), if_pos ⟨by omega, c2⟩]
        · rw [if_neg (nI_ge (by omega) (by omega)), if_neg (fun q => c2 q.2)]
    have ev : chL v (tk B (p + j) (m + 1)) = chL ((v <<< ((8 : Int32).toInt64 &&& 63)) ||| (nI B[p + j]).toInt64) (tk B (p + (j + 1)) m) := by
      rw [tk_s m hx]
      rfl
    rw [eL, ev, eo]
    by_cases c : lo ≤ B[p + j] ∧ B[p + j] ≤ hi
    · rw [if_pos c]
      rcases ih (j + 1) ((v <<< ((8 : Int32).toInt64 &&& 63)) ||| (nI B[p + j]).toInt64) k (by omega) (by omega) with ⟨a1, a2⟩ | ⟨a1, a2⟩
      · exact Or.inl ⟨⟨c, a1⟩, a2⟩
      · exact Or.inr ⟨fun q => a1 q.2, a2⟩
    · rw [if_neg c]
      exact Or.inr ⟨fun q => c q.1, _, rfl⟩
theorem m_chr {u : MS} {B : List Nat} (h : mIn u B) (hl : B.length ≤ 120) (hb : ∀ b ∈ B, b < 256) {n p lo hi : Nat} (hat : mg_at u = nI p) (hn : n ≤ 100) (hlo : lo ≤ 1000) (hhi : hi ≤ 1000) (hp : p ≤ B.length) :
    (sC B lo hi n p ∧ jm_M_characters u (nI n) (nI lo) (nI hi) = some (1, ms_at (ms_value u (chL 0 (tk B p n))) (nI (p + n)))) ∨ (¬ sC B lo hi n p ∧ ∃ w, jm_M_characters u (nI n) (nI lo) (nI hi) = some (0, ms_value u w)) := by
  unfold jm_M_characters
  rw [hat, h.1, nI_add]
  by_cases c : p + n ≤ B.length
  · rw [if_pos (nI_le c (by omega)), nmd_e]
    rcases m_chr_loop h hl hb hat hn hlo hhi c n 0 0 200 (by omega) (by omega) with ⟨a1, a2⟩ | ⟨a1, w, a2⟩
    · rw [Nat.add_zero] at a1 a2
      exact Or.inl ⟨⟨c, a1⟩, a2⟩
    · rw [Nat.add_zero] at a1
      exact Or.inr ⟨fun q => a1 q.2, w, a2⟩
  · rw [if_neg (nI_ge (by omega) (by omega))]
    exact Or.inr ⟨fun q => c q.1, mg_value u, rfl⟩
theorem ch_or (v : Int64) (c : Int32) : ((v <<< ((8 : Int32).toInt64 &&& 63)) ||| c.toInt64).toInt32 = (v.toInt32 <<< ((8 : Int32) &&& 31)) ||| c := by
  have a1 : (((8 : Int32).toInt64 &&& 63).toBitVec.smod 64) = 8#64 := by decide
  have a2 : (((8 : Int32) &&& 31).toBitVec.smod 32) = 8#32 := by decide
  apply Int32.toBitVec_inj.mp
  rw [Int64.toBitVec_toInt32, Int64.toBitVec_or, Int32.toBitVec_or, Int64.toBitVec_shiftLeft, Int32.toBitVec_shiftLeft, Int64.toBitVec_toInt32, a1, a2]
  have e1 : c.toInt64.toBitVec = c.toBitVec.signExtend 64 := rfl
  rw [e1]
  apply BitVec.eq_of_getLsbD_eq
  intro i hi
  have s1 : (8#64).toNat = 8 := rfl
  have s2 : (8#32).toNat = 8 := rfl
  have hi6 : i < 64 := by omega
  have hi8 : i - 8 < 32 := by omega
  have hi86 : i - 8 < 64 := by omega
  simp only [BitVec.getLsbD_signExtend, BitVec.getLsbD_or, BitVec.shiftLeft_eq', s1, s2, BitVec.getLsbD_shiftLeft]
  simp [hi, hi6, hi8, hi86]
theorem chLI : ∀ (l : List Nat) (v : Int64), (chL v l).toInt32 = chI v.toInt32 l
  | [], v => rfl
  | c :: l, v => by
    show (chL _ l).toInt32 = chI _ l
    rw [chLI l, ch_or]
/-! the fields, one by one -/
/-- what reading fields leaves alone -/
def mkh (u : MS) := (mg_cards u, mg_balances u, mg_many u, mg_now u, mg_in u, mg_ins u, mg_out u, mg_outs u, mg_entries u, mg_types u, mg_terminals u, mg_traces u, mg_whose u, mg_sorts u, mg_amounts u, mg_answers u, mg_marks u, mg_made u, mg_settled u, mg_closed u, mg_has u, mg_type u)
theorem mkh_value (u : MS) (v : Int64) : mkh (ms_value u v) = mkh u := rfl
theorem mkh_at (u : MS) (v : Int32) : mkh (ms_at u v) = mkh u := rfl
theorem mkh_card (u : MS) (v : Int64) : mkh (ms_card u v) = mkh u := rfl
theorem mkh_sort (u : MS) (v : Int32) : mkh (ms_sort u v) = mkh u := rfl
theorem mkh_amount (u : MS) (v : Int64) : mkh (ms_amount u v) = mkh u := rfl
theorem mkh_trace (u : MS) (v : Int32) : mkh (ms_trace u v) = mkh u := rfl
theorem mkh_terminal (u : MS) (v : Int32) : mkh (ms_terminal u v) = mkh u := rfl
theorem mkh_original (u : MS) (v : Int32) : mkh (ms_original u v) = mkh u := rfl
theorem mkh_from (u : MS) (v : Nat → Int32) : mkh (ms_from u v) = mkh u := rfl
theorem mkh_to (u : MS) (v : Nat → Int32) : mkh (ms_to u v) = mkh u := rfl
theorem mkh_va (u : MS) (x : Int64) (y : Int32) : mkh (ms_at (ms_value u x) y) = mkh u := (mkh_at _ y).trans (mkh_value u x)
theorem mkh_vva (u : MS) (x z : Int64) (y : Int32) : mkh (ms_value (ms_at (ms_value u x) y) z) = mkh u := (mkh_value _ z).trans (mkh_va u x y)
theorem mIn_k {u w : MS} {B : List Nat} (e : mkh w = mkh u) (h : mIn u B) : mIn w B := by
  unfold mkh at e
  simp only [Prod.mk.injEq] at e
  obtain ⟨-, -, -, -, e1, e2, -⟩ := e
  exact ⟨by rw [e2]; exact h.1, by rw [e1]; exact h.2⟩
theorem mhas_k {u w : MS} (e : mkh w = mkh u) : mg_has w = mg_has u := by
  unfold mkh at e
  simp only [Prod.mk.injEq] at e
  exact e.2.2.2.2.2.2.2.2.2.2.2.2.2.2.2.2.2.2.2.2.1
theorem m_cnt {u : MS} {B : List Nat} (h : mIn u B) (hl : B.length ≤ 120) (hb : ∀ b ∈ B, b < 256) {n p lo hi : Nat} (hat : mg_at u = nI p) (hn : n ≤ 16) (hp : p ≤ B.length) :
    (∃ v q, sD B n p = some (v, q) ∧ q ≤ B.length ∧ jm_M_digits u (nI n) = some (1, ms_at (ms_value u (lN v)) (nI q)) ∧ ((lo ≤ v ∧ v ≤ hi ∧ sNm B n lo hi p = some (v, q)) ∨ (¬ (lo ≤ v ∧ v ≤ hi) ∧ sNm B n lo hi p = none))) ∨ (sNm B n lo hi p = none ∧ ∃ w, jm_M_digits u (nI n) = some (0, ms_value u w)) := by
  unfold sNm
  rcases m_dig h hl hb hat hn hp with ⟨v, q, a1, a2, a3⟩ | ⟨a1, w, a2⟩
  · refine Or.inl ⟨v, q, a1, a2, a3, ?_⟩
    rw [a1, ob_s]
    by_cases c : lo ≤ v ∧ v ≤ hi
    · exact Or.inl ⟨c.1, c.2, if_pos c⟩
    · exact Or.inr ⟨c, if_neg c⟩
  · rw [a1]
    exact Or.inr ⟨rfl, w, a2⟩
theorem sD_lt {B : List Nat} (hb : ∀ b ∈ B, b < 256) {n p v q : Nat} (hn : n ≤ 16) (h : sD B n p = some (v, q)) : v < 10 ^ (2 * ((n + 1) / 2)) := by
  have key : ∀ (l : List Nat) (hi w : Nat), hi ≤ 9 → dOk hi l = true → dVal w l < (w + 1) * 100 ^ l.length := by
    intro l
    induction l with
    | nil =>
      intro hi w _ _
      show w < (w + 1) * 100 ^ 0
      omega
    | cons b l ih =>
      intro hi w hh ho
      have ho : (decide (b / 16 ≤ hi) && decide (b % 16 ≤ 9) && dOk 9 l) = true := ho
      rw [Bool.and_eq_true, Bool.and_eq_true, decide_eq_true_eq, decide_eq_true_eq] at ho
      have h2 := ih 9 (w * 100 + b / 16 * 10 + b % 16) (Nat.le_refl _) ho.2
      show dVal (w * 100 + b / 16 * 10 + b % 16) l < (w + 1) * 100 ^ (l.length + 1)
      have h3 : w * 100 + b / 16 * 10 + b % 16 + 1 ≤ (w + 1) * 100 := by omega
      have h4 := Nat.mul_le_mul_right (100 ^ l.length) h3
      rw [Nat.pow_succ, Nat.mul_comm (100 ^ l.length) 100, ← Nat.mul_assoc]
      exact Nat.lt_of_lt_of_le h2 h4
  unfold sD at h
  by_cases c : p + (n + 1) / 2 ≤ B.length ∧ dOk (hiN n) (tk B p ((n + 1) / 2)) = true
  · rw [if_pos c] at h
    have e := congrArg Prod.fst (Option.some.inj h)
    try dsimp only at e
    have h1 := key (tk B p ((n + 1) / 2)) (hiN n) 0 (by unfold hiN; split <;> omega) c.2
    have hl2 : (tk B p ((n + 1) / 2)).length = (n + 1) / 2 := by
      unfold tk
      rw [List.length_take, List.length_drop]
      omega
    rw [hl2, e] at h1
    rw [Nat.pow_mul]
    have e10 : (10 : Nat) ^ 2 = 100 := by decide
    rw [e10]
    omega
  · rw [if_neg c] at h
    cases h
theorem m_card {u : MS} {B : List Nat} (h : mIn u B) (hl : B.length ≤ 120) (hb : ∀ b ∈ B, b < 256) {p : Nat} (hat : mg_at u = nI p) (hp : p ≤ B.length) :
    (∃ v q, ((sNm B 2 1 16 p).bind fun q => sD B q.1 q.2) = some (v, q) ∧ q ≤ B.length ∧ jm_M_readCard u = some (1, ms_card (ms_at (ms_value u (lN v)) (nI q)) (lN v))) ∨ (((sNm B 2 1 16 p).bind fun q => sD B q.1 q.2) = none ∧ ∃ u2, jm_M_readCard u = some (0, u2) ∧ mkh u2 = mkh u) := by
  unfold jm_M_readCard
  rcases m_cnt (n := 2) (lo := 1) (hi := 16) h hl hb hat (by decide) hp with ⟨v, q, a1, a2, a3, a4⟩ | ⟨a1, w, a2⟩
  · have a3 : jm_M_digits u (2 : Int32) = some (1, ms_at (ms_value u (lN v)) (nI q)) := a3
    have hv := sD_lt hb (by decide) a1
    have hv : v < 10000 := Nat.lt_of_lt_of_le hv (by decide)
    have ev : mg_value (ms_at (ms_value u (lN v)) (nI q)) = lN v := mv_ga u _ _
    rw [a3, ob_s]
    try dsimp only
    rw [if_neg (show ¬ (1 : Int32) = 0 by decide), ev, lN_i]
    rcases a4 with ⟨b1, b2, b3⟩ | ⟨b1, b3⟩
    · rw [b3, ob_s]
      try dsimp only
      have e1 : ¬ lN v < 1 := fun z => by
        have := (lN_lt (b := 1) (by omega) (by decide)).mp z
        omega
      have e2 : ¬ (16 : Int64) < lN v := fun z => by
        have := (lN_lt (a := 16) (by decide) (by omega)).mp z
        omega
      rw [if_neg e1, if_neg e2]
      have hin : mIn (ms_at (ms_value u (lN v)) (nI q)) B := mv_in h
      rcases m_dig (u := ms_at (ms_value u (lN v)) (nI q)) (n := v) (p := q) hin hl hb (mv_gat _ _) b2 a2 with ⟨v2, q2, c1, c2, c3⟩ | ⟨c1, w, c2⟩
      · rw [c3, ob_s]
        try dsimp only
        rw [if_neg (show ¬ (1 : Int32) = 0 by decide), nmd_e, mv_ga, mv_av]
        exact Or.inl ⟨v2, q2, c1, c2, rfl⟩
      · rw [c2, ob_s]
        try dsimp only
        rw [if_pos (show (0 : Int32) = 0 from rfl)]
        exact Or.inr ⟨c1, _, rfl, mkh_vva _ _ _ _⟩
    · rw [b3]
      by_cases d1 : lN v < 1
      · rw [if_pos d1]
        exact Or.inr ⟨rfl, _, rfl, mkh_va _ _ _⟩
      · rw [if_neg d1]
        by_cases d2 : (16 : Int64) < lN v
        · rw [if_pos d2]
          exact Or.inr ⟨rfl, _, rfl, mkh_va _ _ _⟩
        · have f1 : ¬ v < 1 := fun z => d1 ((lN_lt (b := 1) (by omega) (by decide)).mpr z)
          have f2 : ¬ 16 < v := fun z => d2 ((lN_lt (a := 16) (by decide) (by omega)).mpr z)
          exact absurd ⟨by omega, by omega⟩ b1
  · have a2 : jm_M_digits u (2 : Int32) = some (0, ms_value u w) := a2
    rw [a1, a2, ob_s]
    try dsimp only
    rw [if_pos (show (0 : Int32) = 0 from rfl)]
    exact Or.inr ⟨rfl, _, rfl, mkh_value _ _⟩
theorem m_note {u : MS} {B : List Nat} (h : mIn u B) (hl : B.length ≤ 120) (hb : ∀ b ∈ B, b < 256) {p : Nat} (hat : mg_at u = nI p) (hp : p ≤ B.length) :
    (∃ q w, ((sNm B 4 0 40 p).bind fun q => if sC B 32 126 q.1 q.2 then some (q.2 + q.1) else none) = some q ∧ q ≤ B.length ∧ jm_M_readNote u = some (1, ms_at (ms_value u w) (nI q))) ∨ (((sNm B 4 0 40 p).bind fun q => if sC B 32 126 q.1 q.2 then some (q.2 + q.1) else none) = none ∧ ∃ u2, jm_M_readNote u = some (0, u2) ∧ mkh u2 = mkh u) := by
  unfold jm_M_readNote
  rcases m_cnt (n := 4) (lo := 0) (hi := 40) h hl hb hat (by decide) hp with ⟨v, q, a1, a2, a3, a4⟩ | ⟨a1, w, a2⟩
  · have a3 : jm_M_digits u (4 : Int32) = some (1, ms_at (ms_value u (lN v)) (nI q)) := a3
    have hv := sD_lt hb (by decide) a1
    have hv : v < 10000 := Nat.lt_of_lt_of_le hv (by decide)
    have ev : mg_value (ms_at (ms_value u (lN v)) (nI q)) = lN v := mv_ga u _ _
    rw [a3, ob_s]
    try dsimp only
    rw [if_neg (show ¬ (1 : Int32) = 0 by decide), ev, lN_i]
    rcases a4 with ⟨b1, b2, b3⟩ | ⟨b1, b3⟩
    · rw [b3, ob_s]
      try dsimp only
      have e2 : ¬ (40 : Int64) < lN v := fun z => by
        have := (lN_lt (a := 40) (by decide) (by omega)).mp z
        omega
      rw [if_neg e2]
      have hin : mIn (ms_at (ms_value u (lN v)) (nI q)) B := mv_in h
      rcases m_chr (u := ms_at (ms_value u (lN v)) (nI q)) (n := v) (p := q) (lo := 32) (hi := 126) hin hl hb (mv_gat _ _) (by omega) (by decide) (by decide) a2 with ⟨c1, c3⟩ | ⟨c1, w, c2⟩
      · have c3 : jm_M_characters (ms_at (ms_value u (lN v)) (nI q)) (nI v) (32 : Int32) (126 : Int32) = _ := c3
        rw [c3, ob_s]
        try dsimp only
        rw [if_neg (show ¬ (1 : Int32) = 0 by decide), if_pos c1, mv_av]
        exact Or.inl ⟨_, _, rfl, c1.1, rfl⟩
      · have c2 : jm_M_characters (ms_at (ms_value u (lN v)) (nI q)) (nI v) (32 : Int32) (126 : Int32) = _ := c2
        rw [c2, ob_s]
        try dsimp only
        rw [if_pos (show (0 : Int32) = 0 from rfl), if_neg c1]
        exact Or.inr ⟨rfl, _, rfl, mkh_vva _ _ _ _⟩
    · rw [b3]
      have f2 : (40 : Int64) < lN v := (lN_lt (a := 40) (by decide) (by omega)).mpr (by omega)
      rw [if_pos f2]
      exact Or.inr ⟨rfl, _, rfl, mkh_va _ _ _⟩
  · have a2 : jm_M_digits u (4 : Int32) = some (0, ms_value u w) := a2
    rw [a1, a2, ob_s]
    try dsimp only
    rw [if_pos (show (0 : Int32) = 0 from rfl)]
    exact Or.inr ⟨rfl, _, rfl, mkh_value _ _⟩
theorem m_orig {u : MS} {B : List Nat} (h : mIn u B) (hl : B.length ≤ 120) (hb : ∀ b ∈ B, b < 256) {p : Nat} (hat : mg_at u = nI p) (hp : p ≤ B.length) :
    (∃ v q, ((sNm B 2 6 6 p).bind fun q => sD B 6 q.2) = some (v, q) ∧ q ≤ B.length ∧ jm_M_readOriginal u = some (1, ms_original (ms_at (ms_value u (lN v)) (nI q)) (nI v))) ∨ (((sNm B 2 6 6 p).bind fun q => sD B 6 q.2) = none ∧ ∃ u2, jm_M_readOriginal u = some (0, u2) ∧ mkh u2 = mkh u) := by
  unfold jm_M_readOriginal
  rcases m_cnt (n := 2) (lo := 6) (hi := 6) h hl hb hat (by decide) hp with ⟨v, q, a1, a2, a3, a4⟩ | ⟨a1, w, a2⟩
  · have a3 : jm_M_digits u (2 : Int32) = some (1, ms_at (ms_value u (lN v)) (nI q)) := a3
    have hv := sD_lt hb (by decide) a1
    have hv : v < 10000 := Nat.lt_of_lt_of_le hv (by decide)
    have ev : mg_value (ms_at (ms_value u (lN v)) (nI q)) = lN v := mv_ga u _ _
    have e6 : lN v = 6 ↔ v = 6 := lN_eq (b := 6) (by omega) (by decide)
    rw [a3, ob_s]
    try dsimp only
    rw [if_neg (show ¬ (1 : Int32) = 0 by decide), ev]
    rcases a4 with ⟨b1, b2, b3⟩ | ⟨b1, b3⟩
    · rw [b3, ob_s]
      try dsimp only
      rw [if_pos (e6.mpr (by omega))]
      have hin : mIn (ms_at (ms_value u (lN v)) (nI q)) B := mv_in h
      rcases m_dig (u := ms_at (ms_value u (lN v)) (nI q)) (n := 6) (p := q) hin hl hb (mv_gat _ _) (by decide) a2 with ⟨v2, q2, c1, c2, c3⟩ | ⟨c1, w, c2⟩
      · have c3 : jm_M_digits (ms_at (ms_value u (lN v)) (nI q)) (6 : Int32) = _ := c3
        rw [c3, ob_s]
        try dsimp only
        rw [if_neg (show ¬ (1 : Int32) = 0 by decide)]
        refine Or.inl ⟨v2, q2, c1, c2, ?_⟩
        rw [nmd_e, mv_ga, lN_i, mv_av]
      · have c2 : jm_M_digits (ms_at (ms_value u (lN v)) (nI q)) (6 : Int32) = _ := c2
        rw [c2, ob_s]
        try dsimp only
        rw [if_pos (show (0 : Int32) = 0 from rfl)]
        exact Or.inr ⟨c1, _, rfl, mkh_vva _ _ _ _⟩
    · rw [b3, if_neg (fun z => b1 (by have := e6.mp z; omega))]
      exact Or.inr ⟨rfl, _, rfl, mkh_va _ _ _⟩
  · have a2 : jm_M_digits u (2 : Int32) = some (0, ms_value u w) := a2
    rw [a1, a2, ob_s]
    try dsimp only
    rw [if_pos (show (0 : Int32) = 0 from rfl)]
    exact Or.inr ⟨rfl, _, rfl, mkh_value _ _⟩
