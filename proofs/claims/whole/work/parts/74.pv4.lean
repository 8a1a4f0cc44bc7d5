/-! the reply -/
def cW (d0 d : CS) (O : List Nat) : Prop := cOu d O ∧ d = cs_outSize (cs_outB d0 (cg_outB d)) (cg_outSize d)
def mW (u0 u : MS) (O : List Nat) : Prop := mOu u O ∧ u = ms_outs (ms_out u0 (mg_out u)) (mg_outs u)
theorem c_app {LA LE : List Nat} {d0 d : CS} {O : List Nat} {x : Int32} {b : Nat} (h : cW d0 d O) (hl : O.length < 37) (hx : x &&& 255 = nI b) : ∃ d2, jc_ByteRow_append_out LA LE d x = some d2 ∧ cW d0 d2 (O ++ [b]) := by
  obtain ⟨h1, h2⟩ := h
  unfold jc_ByteRow_append_out
  rw [h1.1, if_neg (show ¬ (37 : Int32) ≤ _ from nI_ge (b := 37) hl (by decide)), git hl (by decide), nI_clamp (by omega), nmd_e, nmd_e]
  refine ⟨_, rfl, ⟨?_, ?_⟩, ?_⟩
  · show cg_outSize d + 1 = _
    rw [h1.1, nI_1, List.length_append]
    rfl
  · rw [List.map_append]
    have hL : (O.map nI).length = O.length := List.length_map ..
    refine isL_put h1.2 (fun j hj => ?_) ?_
    · show upd (cg_outB d) O.length (x &&& 255) j = _
      rw [pk_un (by omega)]
    · show upd (cg_outB d) O.length (x &&& 255) (O.map nI).length = _
      rw [hL, pk_us, hx]
  · rw [h2]
    rfl
theorem c_appB {LA LE : List Nat} {d0 : CS} {n : Nat} (hn : n < 2 ^ 64) : ∀ (k : Nat) (d : CS) (O : List Nat) (f : Nat), k ≤ 8 → k < f → cW d0 d O → O.length + k ≤ 37 → ∃ d2, loopF (jc_ByteRow_appendBytes_out_L5 LA LE (lN n)) f (d, nI k - 1) = some d2 ∧ cW d0 d2 (O ++ by8s n k) := by
  intro k
  induction k with
  | zero =>
    intro d O f hk hf h hB
    obtain ⟨g, rfl⟩ : ∃ g, f = g + 1 := ⟨f - 1, by omega⟩
    refine ⟨d, ?_, by rw [show by8s n 0 = [] from rfl, List.append_nil]; exact h⟩
    show jc_ByteRow_appendBytes_out_L5 LA LE (lN n) _ (d, nI 0 - 1) = _
    unfold jc_ByteRow_appendBytes_out_L5
    try dsimp only
    rw [if_pos (by decide)]
  | succ k ih =>
    intro d O f hk hf h hB
    obtain ⟨g, rfl⟩ : ∃ g, f = g + 1 := ⟨f - 1, by omega⟩
    obtain ⟨d1, e1, h1⟩ := c_app (LA := LA) (LE := LE) (b := by8 n k) h (by omega) (by8_c hn (i := k) (by omega))
    obtain ⟨d2, e2, h4⟩ := ih d1 (O ++ [by8 n k]) g (by omega) (by omega) h1 (by rw [List.length_append]; simp; omega)
    refine ⟨d2, ?_, by rw [show by8s n (k + 1) = [by8 n k] ++ by8s n k from rfl, ← List.append_assoc]; exact h4⟩
    have e3 : nI k + (-1) = nI k - 1 := by grind
    have eK : ∀ rc : CS × Int32 → Option CS, jc_ByteRow_appendBytes_out_L5 LA LE (lN n) rc (d, nI (k + 1) - 1) = rc (d1, nI k - 1) := by
      intro rc
      unfold jc_ByteRow_appendBytes_out_L5
      try dsimp only
      rw [nI_dn, if_neg (nI_pos (by omega)), e1, ob_s, e3]
    exact (eK (loopF (jc_ByteRow_appendBytes_out_L5 LA LE (lN n)) g)).trans e2
theorem c_appBytes {LA LE : List Nat} {d0 d : CS} {O : List Nat} {n : Nat} (hn : n < 2 ^ 64) (k : Nat) (hk : k ≤ 8) (h : cW d0 d O) (hl : O.length + k ≤ 37) : ∃ d2, jc_ByteRow_appendBytes_out LA LE d (lN n) (nI k) = some d2 ∧ cW d0 d2 (O ++ by8s n k) := c_appB hn k d O 200 hk (by omega) h hl
/-- the last m digits of v, four bits each -/
def pkd (v : Nat) : Nat → Nat
  | 0 => 0
  | i + 1 => pkd v i + v / 10 ^ i % 10 * 2 ^ (4 * i)
theorem pkd_lt (v : Nat) : ∀ i, pkd v i < 2 ^ (4 * i)
  | 0 => Nat.two_pow_pos (4 * 0)
  | i + 1 => by
    have h := pkd_lt v i
    have hd : v / 10 ^ i % 10 < 10 := Nat.mod_lt _ (by decide)
    have e : 2 ^ (4 * (i + 1)) = 16 * 2 ^ (4 * i) := by
      rw [show 4 * (i + 1) = 4 * i + 4 by omega, Nat.pow_add, Nat.mul_comm]
    have hm := Nat.mul_le_mul_right (2 ^ (4 * i)) (show v / 10 ^ i % 10 ≤ 9 by omega)
    show pkd v i + v / 10 ^ i % 10 * 2 ^ (4 * i) < _
    rw [e]
    omega
theorem c_appD {LA LE : List Nat} {d : CS} {v n : Nat} (hv : v < 2 ^ 63) (hn : n ≤ 12) : ∀ (m i f : Nat), i + m = n → m < f → loopF (jc_ByteRow_appendDigits_out_L9 LA LE (nI n)) f (d, lN (pkd v i), lN (v / 10 ^ i), nI i) = (jc_ByteRow_appendBytes_out LA LE d (lN (pkd v n)) (nI (n / 2))).bind fun e => some e := by
  intro m
  induction m with
  | zero =>
    intro i f hi hf
    obtain ⟨g, rfl⟩ : ∃ g, f = g + 1 := ⟨f - 1, by omega⟩
    have hi2 : i = n := by omega
    subst hi2
    have e2 : nI i / 2 = nI (i / 2) := pk_div (d := 2) (by omega) (by decide) (by decide)
    show jc_ByteRow_appendDigits_out_L9 LA LE (nI i) _ _ = _
    unfold jc_ByteRow_appendDigits_out_L9
    try dsimp only
    rw [if_pos (nI_le (Nat.le_refl _) (by omega)), e2]
  | succ m ih =>
    intro i f hi hf
    obtain ⟨g, rfl⟩ : ∃ g, f = g + 1 := ⟨f - 1, by omega⟩
    have hd : v / 10 ^ i ≤ v := Nat.div_le_self _ _
    have e1 : lN (v / 10 ^ i) - lN (v / 10 ^ i) / 10 * 10 = lN (v / 10 ^ i % 10) := pk_lRem (b := 10) (by omega) (by decide) (by decide)
    have e2 : lN (v / 10 ^ i) / 10 = lN (v / 10 ^ i / 10) := pk_lDiv (b := 10) (by omega) (by decide) (by decide)
    have e3 : v / 10 ^ i / 10 = v / 10 ^ (i + 1) := by rw [Nat.div_div_eq_div_mul, Nat.pow_succ]
    have e4 : (4 : Int32) * nI i = nI (4 * i) := pk_mul 4 i
    have hp := pkd_lt v i
    have hp2 := pkd_lt v (i + 1)
    have h64 : 2 ^ (4 * (i + 1)) ≤ 2 ^ 48 := Nat.pow_le_pow_right (by decide) (by omega)
    have e5 : lN (pkd v i) ||| (lN (v / 10 ^ i % 10) <<< ((nI (4 * i)).toInt64 &&& 63)) = lN (pkd v (i + 1)) := by
      rw [wb_shl _ (by omega), g_or' (k := 4 * i) rfl hp (by
        have : pkd v i + v / 10 ^ i % 10 * 2 ^ (4 * i) < 2 ^ (4 * (i + 1)) := hp2
        omega)]
      rfl
    rw [← ih (i + 1) g (by omega) (by omega)]
    show jc_ByteRow_appendDigits_out_L9 LA LE (nI n) (loopF _ g) _ = _
    unfold jc_ByteRow_appendDigits_out_L9
    try dsimp only
    rw [if_neg (nI_ge (by omega) (by omega)), e1, e4, e5, e2, e3, nI_1]
theorem c_appDig {LA LE : List Nat} {d0 d : CS} {O : List Nat} {v n : Nat} (hv : v < 2 ^ 63) (hn : n ≤ 12) (h : cW d0 d O) (hl : O.length + n / 2 ≤ 37) : ∃ d2, jc_ByteRow_appendDigits_out LA LE d (lN v) (nI n) = some d2 ∧ cW d0 d2 (O ++ by8s (pkd v n) (n / 2)) := by
  have h64 : 2 ^ (4 * n) ≤ 2 ^ 48 := Nat.pow_le_pow_right (by decide) (by omega)
  have hp := pkd_lt v n
  obtain ⟨d2, e1, e2⟩ := c_appBytes (LA := LA) (LE := LE) (n := pkd v n) (by omega) (n / 2) (by omega) h hl
  refine ⟨d2, ?_, e2⟩
  unfold jc_ByteRow_appendDigits_out
  have := c_appD (LA := LA) (LE := LE) (d := d) hv hn n 0 200 (by omega) (by omega)
  have e0 : v / 10 ^ 0 = v := by rw [Nat.pow_zero, Nat.div_one]
  rw [e0, e1] at this
  exact this
theorem tk_app {B : List Nat} {p m n : Nat} : tk B p m ++ tk B (p + m) n = tk B p (m + n) := by
  unfold tk
  rw [← List.drop_drop, List.take_add]
theorem tk_1 {B : List Nat} {p m : Nat} (h : p + m < B.length) : tk B p (m + 1) = tk B p m ++ [B[p + m]] := by
  rw [← tk_app, tk_s 0 h, tk_0]
theorem c_from {LA LE : List Nat} {d0 : CS} {B : List Nat} (hin : cIn d0 B) (hl : B.length ≤ 120) (hb : ∀ b ∈ B, b < 256) {q : Nat} (hq : q ≤ B.length) : ∀ (m p : Nat) (d : CS) (O : List Nat) (f : Nat), p + m = q → m < f → cW d0 d O → O.length + m ≤ 37 → ∃ d2, loopF (jc_ByteRow_appendFrom_out_L3 LA LE (nI q)) f (d, nI p) = some d2 ∧ cW d0 d2 (O ++ tk B p m) := by
  intro m
  induction m with
  | zero =>
    intro p d O f hp hf h hO
    obtain ⟨g, rfl⟩ : ∃ g, f = g + 1 := ⟨f - 1, by omega⟩
    refine ⟨d, ?_, by rw [tk_0, List.append_nil]; exact h⟩
    show jc_ByteRow_appendFrom_out_L3 LA LE (nI q) _ _ = _
    unfold jc_ByteRow_appendFrom_out_L3
    try dsimp only
    rw [if_pos (nI_le (by omega) (by omega))]
  | succ m ih =>
    intro p d O f hp hf h hO
    obtain ⟨g, rfl⟩ : ∃ g, f = g + 1 := ⟨f - 1, by omega⟩
    have hx : p < B.length := by omega
    have hb2 := hb _ (List.getElem_mem hx)
    have hin2 : cIn d B := by rw [h.2]; exact k_cIn_cs_outSize (k_cIn_cs_outB hin)
    obtain ⟨d1, e1, h1⟩ := c_app (LA := LA) (LE := LE) (x := nI B[p]) (b := B[p]) h (by omega) (by rw [nI_255, Nat.mod_eq_of_lt hb2])
    obtain ⟨d2, e2, h4⟩ := ih (p + 1) d1 (O ++ [B[p]]) g (by omega) (by omega) h1 (by rw [List.length_append]; simp; omega)
    refine ⟨d2, ?_, by rw [tk_s m hx, List.append_cons]; exact h4⟩
    have eK : ∀ rc : CS × Int32 → Option CS, jc_ByteRow_appendFrom_out_L3 LA LE (nI q) rc (d, nI p) = rc (d1, nI (p + 1)) := by
      intro rc
      unfold jc_ByteRow_appendFrom_out_L3
      try dsimp only
      rw [if_neg (nI_ge (by omega) (by omega)), c_byteAt hin2 hl p (by omega), ob_s, dif_pos hx, e1, ob_s, nI_1]
    exact (eK (loopF (jc_ByteRow_appendFrom_out_L3 LA LE (nI q)) g)).trans e2
theorem m_wr {u0 u : MS} {O : List Nat} {b : Nat} (h : mW u0 u O) (hl : O.length < 80) : ∃ u2, jm_M_write u (nI b) = some u2 ∧ mW u0 u2 (O ++ [b]) := by
  obtain ⟨h1, h2⟩ := h
  have e0 : ∀ f, mg_outs (ms_out u f) = nI O.length := fun f => h1.1
  unfold jm_M_write
  rw [h1.1, git hl (by decide), nI_clamp (by omega), nmd_e, e0, nmd_e]
  refine ⟨_, rfl, ⟨?_, ?_⟩, ?_⟩
  · show nI O.length + 1 = _
    rw [nI_1, List.length_append]
    rfl
  · rw [List.map_append]
    have hL : (O.map nI).length = O.length := List.length_map ..
    refine isL_put h1.2 (fun j hj => ?_) ?_
    · show upd (mg_out u) O.length _ j = _
      rw [pk_un (by omega)]
    · show upd (mg_out u) O.length _ (O.map nI).length = _
      rw [hL, pk_us]
  · rw [h2]
    rfl
theorem m_copyl {u0 : MS} {B : List Nat} (hin : mIn u0 B) (hl : B.length ≤ 120) {k q : Nat} (hk : k < 65) (hq : q ≤ B.length) (hto : mg_to u0 k = nI q) (hh : ¬ mg_has u0 k = 0) : ∀ (m p : Nat) (u : MS) (O : List Nat) (f : Nat), p + m = q → m < f → mW u0 u O → O.length + m ≤ 80 → ∃ u2, loopF (jm_M_copy_L7 (nI k)) f (u, nI p) = some u2 ∧ mW u0 u2 (O ++ tk B p m) := by
  intro m
  induction m with
  | zero =>
    intro p d O f hp hf h hO
    obtain ⟨g, rfl⟩ : ∃ g, f = g + 1 := ⟨f - 1, by omega⟩
    have e1 : mg_to d k = nI q := by rw [h.2, G_to_ms_outs, G_to_ms_out]; exact hto
    refine ⟨d, ?_, by rw [tk_0, List.append_nil]; exact h⟩
    show jm_M_copy_L7 (nI k) _ _ = _
    unfold jm_M_copy_L7
    try dsimp only
    rw [git hk (by decide), nI_clamp (by omega), e1, if_pos (nI_le (by omega) (by omega))]
  | succ m ih =>
    intro p d O f hp hf h hO
    obtain ⟨g, rfl⟩ : ∃ g, f = g + 1 := ⟨f - 1, by omega⟩
    have hx : p < B.length := by omega
    have e1 : mg_to d k = nI q := by rw [h.2, G_to_ms_outs, G_to_ms_out]; exact hto
    have e2 : ¬ mg_has d k = 0 := by rw [h.2, G_has_ms_outs, G_has_ms_out]; exact hh
    have e3 : mg_in d p = nI B[p] := by rw [h.2, G_in_ms_outs, G_in_ms_out]; exact m_inAt hin hx
    obtain ⟨d1, f1, h1⟩ := m_wr (b := B[p]) h (by omega)
    obtain ⟨d2, f2, h4⟩ := ih (p + 1) d1 (O ++ [B[p]]) g (by omega) (by omega) h1 (by rw [List.length_append]; simp; omega)
    refine ⟨d2, ?_, by rw [tk_s m hx, List.append_cons]; exact h4⟩
    have hp12 : p < 120 := by omega
    have eK : ∀ rc : MS × Int32 → Option MS, jm_M_copy_L7 (nI k) rc (d, nI p) = rc (d1, nI (p + 1)) := by
      intro rc
      unfold jm_M_copy_L7
      simp only [git hk (show (65 : Nat) < 2 ^ 31 by decide), git hp12 (show (120 : Nat) < 2 ^ 31 by decide)]
      rw [nI_clamp (show k < 2 ^ 31 by omega), nI_clamp (show p < 2 ^ 31 by omega), e1, if_neg (nI_ge (by omega) (by omega)), if_neg e2, e3, f1, ob_s, nI_1]
    exact (eK (loopF (jm_M_copy_L7 (nI k)) g)).trans f2
theorem m_copy1 {u0 u : MS} {B : List Nat} (hin : mIn u0 B) (hl : B.length ≤ 120) {k p q : Nat} (hk : k < 65) (hpq : p ≤ q) (hq : q ≤ B.length) (hfr : mg_from u0 k = nI p) (hto : mg_to u0 k = nI q) (hh : ¬ mg_has u0 k = 0) {O : List Nat} (h : mW u0 u O) (hO : O.length + (q - p) ≤ 80) : ∃ u2, jm_M_copy u (nI k) = some u2 ∧ mW u0 u2 (O ++ tk B p (q - p)) := by
  have e1 : mg_from u k = nI p := by rw [h.2, G_from_ms_outs, G_from_ms_out]; exact hfr
  unfold jm_M_copy
  rw [git hk (by decide), nI_clamp (by omega), e1]
  exact m_copyl hin hl hk hq hto hh (q - p) p u O 200 (by omega) (by omega) h hO
theorem m_copy0 {u0 u : MS} {k : Nat} (hk : k < 65) (hh : mg_has u0 k = 0) {O : List Nat} (h : mW u0 u O) : jm_M_copy u (nI k) = some u := by
  have e2 : mg_has u k = 0 := by rw [h.2, G_has_ms_outs, G_has_ms_out]; exact hh
  unfold jm_M_copy
  rw [git hk (by decide)]
  show jm_M_copy_L7 (nI k) _ _ = _
  unfold jm_M_copy_L7
  try dsimp only
  rw [git hk (by decide), git hk (by decide), nI_clamp (by omega), e2, if_pos rfl, ite_self]
/-- twelve digits, two to a byte -/
def amB (w : Nat) : Nat → List Nat
  | 0 => []
  | k + 1 => (16 * (w / 10 ^ (2 * k + 1) % 10) + w / 10 ^ (2 * k) % 10) :: amB w k
theorem pkd_by (v n : Nat) : ∀ k, 2 * k + 2 ≤ n → by8 (pkd v n) k = 16 * (v / 10 ^ (2 * k + 1) % 10) + v / 10 ^ (2 * k) % 10 := by
  intro k
  induction n with
  | zero => intro h; omega
  | succ n ih =>
    intro h
    have hp := pkd_lt v n
    by_cases c : 2 * k + 2 ≤ n
    · rw [← ih c]
      show (pkd v n + v / 10 ^ n % 10 * 2 ^ (4 * n)) / 2 ^ (8 * k) % 256 = pkd v n / 2 ^ (8 * k) % 256
      have e : 4 * n = 8 * k + (8 + (4 * n - 8 * k - 8)) := by omega
      have e2 : 2 ^ (4 * n) = 2 ^ (8 * k) * (256 * 2 ^ (4 * n - 8 * k - 8)) := by
        rw [e, Nat.pow_add, Nat.pow_add]
        congr 2
        congr 1
        omega
      have e3 : v / 10 ^ n % 10 * 2 ^ (4 * n) = 2 ^ (8 * k) * (256 * (v / 10 ^ n % 10 * 2 ^ (4 * n - 8 * k - 8))) := by
        rw [e2]
        generalize 2 ^ (8 * k) = a
        generalize 2 ^ (4 * n - 8 * k - 8) = b
        generalize v / 10 ^ n % 10 = c
        rw [Nat.mul_left_comm, Nat.mul_left_comm c 256 b]
      rw [e3, Nat.add_mul_div_left _ _ (Nat.two_pow_pos _), Nat.add_mul_mod_self_left]
    · have hn : n = 2 * k + 1 := by omega
      subst hn
      show (pkd v (2 * k) + v / 10 ^ (2 * k) % 10 * 2 ^ (4 * (2 * k)) + v / 10 ^ (2 * k + 1) % 10 * 2 ^ (4 * (2 * k + 1))) / 2 ^ (8 * k) % 256 = _
      have hq := pkd_lt v (2 * k)
      have e1 : 4 * (2 * k) = 8 * k := by omega
      have e2 : 2 ^ (4 * (2 * k + 1)) = 2 ^ (8 * k) * 16 := by rw [show 4 * (2 * k + 1) = 8 * k + 4 by omega, Nat.pow_add]
      have d1 : v / 10 ^ (2 * k) % 10 < 10 := Nat.mod_lt _ (by decide)
      have d2 : v / 10 ^ (2 * k + 1) % 10 < 10 := Nat.mod_lt _ (by decide)
      rw [e1] at hq ⊢
      rw [e2]
      generalize v / 10 ^ (2 * k) % 10 = a at *
      generalize v / 10 ^ (2 * k + 1) % 10 = b at *
      generalize pkd v (2 * k) = c at *
      have e3 : c + a * 2 ^ (8 * k) + b * (2 ^ (8 * k) * 16) = c + 2 ^ (8 * k) * (16 * b + a) := by
        generalize 2 ^ (8 * k) = z
        rw [Nat.mul_add, Nat.mul_comm a z, Nat.mul_left_comm b z 16, Nat.mul_comm b 16]
        omega
      rw [e3, Nat.add_mul_div_left _ _ (Nat.two_pow_pos _), Nat.div_eq_of_lt hq]
      omega
theorem pkd_bys (v n : Nat) : ∀ k, 2 * k ≤ n → by8s (pkd v n) k = amB v k
  | 0, _ => rfl
  | k + 1, h => by
    show by8 (pkd v n) k :: by8s (pkd v n) k = (16 * (v / 10 ^ (2 * k + 1) % 10) + v / 10 ^ (2 * k) % 10) :: amB v k
    rw [pkd_by v n k (by omega), pkd_bys v n k (by omega)]
theorem m_wam {u0 : MS} {w : Nat} (hw : w < 2 ^ 63) : ∀ (m k : Nat) (u : MS) (O : List Nat) (f : Nat), k + m = 6 → m < f → mW u0 u O → O.length + m ≤ 80 → ∃ u2, loopF (jm_M_writeAmount_L7 (lN w)) f (u, (if m = 0 then lN 0 else lN (10 ^ (2 * m - 1))), nI k) = some u2 ∧ mW u0 u2 (O ++ amB w m) := by
  intro m
  induction m with
  | zero =>
    intro k u O f hk hf h hO
    obtain ⟨g, rfl⟩ : ∃ g, f = g + 1 := ⟨f - 1, by omega⟩
    have hk6 : k = 6 := by omega
    subst hk6
    refine ⟨u, ?_, by rw [show amB w 0 = [] from rfl, List.append_nil]; exact h⟩
    show jm_M_writeAmount_L7 (lN w) _ _ = _
    unfold jm_M_writeAmount_L7
    try dsimp only
    rw [if_pos (by decide)]
  | succ m ih =>
    intro k u O f hk hf h hO
    obtain ⟨g, rfl⟩ : ∃ g, f = g + 1 := ⟨f - 1, by omega⟩
    have hp : 10 ^ (2 * m + 1) ≤ 10 ^ 11 := Nat.pow_le_pow_right (by decide) (by omega)
    have hp1 : 10 ^ (2 * m + 1) = 10 * 10 ^ (2 * m) := by rw [Nat.pow_succ, Nat.mul_comm]
    have hp0 : 0 < 10 ^ (2 * m) := Nat.pow_pos (by decide)
    have e0 : (if m + 1 = 0 then lN 0 else lN (10 ^ (2 * (m + 1) - 1))) = lN (10 ^ (2 * m + 1)) := by
      rw [if_neg (Nat.succ_ne_zero m)]
      congr 1
    have e1 : lN (10 ^ (2 * m + 1)) / 10 = lN (10 ^ (2 * m)) := by
      have a : lN (10 ^ (2 * m + 1)) / 10 = lN (10 ^ (2 * m + 1) / 10) := pk_lDiv (b := 10) (by omega) (by decide) (by decide)
      rw [a, hp1, Nat.mul_div_cancel_left _ (by decide)]
    have e2 : lN (10 ^ (2 * m + 1)) / 100 = (if m = 0 then lN 0 else lN (10 ^ (2 * m - 1))) := by
      have a : lN (10 ^ (2 * m + 1)) / 100 = lN (10 ^ (2 * m + 1) / 100) := pk_lDiv (b := 100) (by omega) (by decide) (by decide)
      rw [a]
      by_cases c : m = 0
      · subst c
        rfl
      · rw [if_neg c]
        congr 1
        have : 10 ^ (2 * m + 1) = 100 * 10 ^ (2 * m - 1) := by
          rw [show 2 * m + 1 = 2 + (2 * m - 1) by omega, Nat.pow_add]
        rw [this, Nat.mul_div_cancel_left _ (by decide)]
    have n1 : ¬ lN (10 ^ (2 * m + 1)) = 0 := fun z => by
      have := (pk_lEQ (b := 0) (by omega) (by decide)).mp z
      omega
    have n2 : ¬ lN (10 ^ (2 * m)) = 0 := fun z => by
      have := (pk_lEQ (b := 0) (by omega) (by decide)).mp z
      omega
    have d1 : lN w / lN (10 ^ (2 * m + 1)) = lN (w / 10 ^ (2 * m + 1)) := pk_lDiv hw (by omega) (by omega)
    have d2 : lN w / lN (10 ^ (2 * m)) = lN (w / 10 ^ (2 * m)) := pk_lDiv hw hp0 (by omega)
    have b1 : w / 10 ^ (2 * m + 1) ≤ w := Nat.div_le_self _ _
    have b2 : w / 10 ^ (2 * m) ≤ w := Nat.div_le_self _ _
    have r1 : lN (w / 10 ^ (2 * m + 1)) - lN (w / 10 ^ (2 * m + 1)) / 10 * 10 = lN (w / 10 ^ (2 * m + 1) % 10) := pk_lRem (b := 10) (by omega) (by decide) (by decide)
    have r2 : lN (w / 10 ^ (2 * m)) - lN (w / 10 ^ (2 * m)) / 10 * 10 = lN (w / 10 ^ (2 * m) % 10) := pk_lRem (b := 10) (by omega) (by decide) (by decide)
    have s1 : (16 : Int32) * nI (w / 10 ^ (2 * m + 1) % 10) = nI (16 * (w / 10 ^ (2 * m + 1) % 10)) := pk_mul 16 _
    obtain ⟨u1, f1, g1⟩ := m_wr (b := 16 * (w / 10 ^ (2 * m + 1) % 10) + w / 10 ^ (2 * m) % 10) h (by omega)
    obtain ⟨u2, f2, g2⟩ := ih (k + 1) u1 _ g (by omega) (by omega) g1 (by rw [List.length_append]; simp; omega)
    refine ⟨u2, ?_, by rw [show amB w (m + 1) = [16 * (w / 10 ^ (2 * m + 1) % 10) + w / 10 ^ (2 * m) % 10] ++ amB w m from rfl, ← List.append_assoc]; exact g2⟩
    rw [e0]
    have eK : ∀ rc : MS × Int64 × Int32 → Option MS, jm_M_writeAmount_L7 (lN w) rc (u, lN (10 ^ (2 * m + 1)), nI k) = rc (u1, (if m = 0 then lN 0 else lN (10 ^ (2 * m - 1))), nI (k + 1)) := by
      intro rc
      unfold jm_M_writeAmount_L7
      try dsimp only
      rw [if_neg (show ¬ (6 : Int32) ≤ _ from nI_ge (b := 6) (by omega) (by decide)), if_pos n1, e1, if_pos n2, d1, d2, r1, r2, lN_i, lN_i, s1, nI_add, f1, ob_s, e2, nI_1]
    exact (eK (loopF (jm_M_writeAmount_L7 (lN w)) g)).trans f2
theorem m_wAm {u0 u : MS} {w : Nat} (hw : w < 2 ^ 63) {O : List Nat} (h : mW u0 u O) (hO : O.length + 6 ≤ 80) : ∃ u2, jm_M_writeAmount u (lN w) = some u2 ∧ mW u0 u2 (O ++ amB w 6) := m_wam hw 6 0 u O 200 rfl (by decide) h hO
