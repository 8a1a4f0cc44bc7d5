/-! reading: digits, characters, bytes; first what is asked, then what the class's reader does -/
def dOk (hi : Nat) : List Nat → Bool
  | [] => true
  | b :: l => decide (b / 16 ≤ hi) && decide (b % 16 ≤ 9) && dOk 9 l
def dVal : Nat → List Nat → Nat
  | v, [] => v
  | v, b :: l => dVal (v * 100 + b / 16 * 10 + b % 16) l
def hiN (n : Nat) : Nat := if n % 2 = 0 then 9 else 0
def tk (B : List Nat) (p m : Nat) : List Nat := (B.drop p).take m
theorem tk_0 (B : List Nat) (p : Nat) : tk B p 0 = [] := List.take_zero ..
theorem tk_s {B : List Nat} {p : Nat} (m : Nat) (h : p < B.length) : tk B p (m + 1) = B[p] :: tk B (p + 1) m := by
  unfold tk
  rw [List.drop_eq_getElem_cons h, List.take_succ_cons]
def sD (B : List Nat) (n p : Nat) : Option (Nat × Nat) := if p + (n + 1) / 2 ≤ B.length ∧ dOk (hiN n) (tk B p ((n + 1) / 2)) = true then some (dVal 0 (tk B p ((n + 1) / 2)), p + (n + 1) / 2) else none
abbrev chOk (lo hi : Nat) (l : List Nat) : Prop := ∀ c ∈ l, lo ≤ c ∧ c ≤ hi
def rdX (d : CS) (x G : Int32) : CS := cs_rdGood (cs_rdPlace d x) G
def rdS (d : CS) (p : Nat) (g : Bool) : CS := rdX d (nI p) (cond g 1 0)
theorem rdX_place (d : CS) (x y G : Int32) : cs_rdPlace (rdX d x G) y = rdX d y G := rfl
theorem rdX_good (d : CS) (x G F : Int32) : cs_rdGood (rdX d x G) F = rdX d x F := by
  unfold rdX
  generalize cs_rdPlace d x = e
  simp only [cs_rdGood]
theorem rdX_gp (d : CS) (x G : Int32) : cg_rdPlace (rdX d x G) = x := rfl
theorem rdX_gg (d : CS) (x G : Int32) : cg_rdGood (rdX d x G) = G := rfl
theorem rdX_gm (d : CS) (x G : Int32) : cg_rqMap (rdX d x G) = cg_rqMap d := rfl
theorem rdX_gt (d : CS) (x G : Int32) : cg_rqType (rdX d x G) = cg_rqType d := rfl
theorem rdX_gi (d : CS) (x G : Int32) : cg_inSize (rdX d x G) = cg_inSize d := rfl
theorem rdX_in {d : CS} {x G : Int32} {B : List Nat} (h : cIn d B) : cIn (rdX d x G) B := k_cIn_cs_rdGood (k_cIn_cs_rdPlace h)
theorem rdS_gp (d : CS) (p : Nat) (g : Bool) : cg_rdPlace (rdS d p g) = nI p := rdX_gp d _ _
theorem rdS_gg (d : CS) (p : Nat) (g : Bool) : cg_rdGood (rdS d p g) = cond g 1 0 := rdX_gg d _ _
theorem rdS_gm (d : CS) (p : Nat) (g : Bool) : cg_rqMap (rdS d p g) = cg_rqMap d := rdX_gm d _ _
theorem rdS_gt (d : CS) (p : Nat) (g : Bool) : cg_rqType (rdS d p g) = cg_rqType d := rdX_gt d _ _
theorem rdS_gi (d : CS) (p : Nat) (g : Bool) : cg_inSize (rdS d p g) = cg_inSize d := rdX_gi d _ _
theorem rdS_in {d : CS} {p : Nat} {g : Bool} {B : List Nat} (h : cIn d B) : cIn (rdS d p g) B := rdX_in h
theorem rdS_place (d : CS) (p q : Nat) (g : Bool) : cs_rdPlace (rdS d p g) (nI q) = rdS d q g := rdX_place d _ _ _
theorem rdS_good (d : CS) (p : Nat) (g : Bool) : cs_rdGood (rdS d p g) 0 = rdS d p false := rdX_good d _ _ _
theorem rdX_rqType (d : CS) (x G : Int32) (v : Int32) : cs_rqType (rdX d x G) v = rdX (cs_rqType d v) x G := rfl
theorem rdS_rqType (d : CS) (p : Nat) (g : Bool) (v : Int32) : cs_rqType (rdS d p g) v = rdS (cs_rqType d v) p g := rdX_rqType d _ _ v
theorem rdX_rqMap (d : CS) (x G : Int32) (v : Int64) : cs_rqMap (rdX d x G) v = rdX (cs_rqMap d v) x G := rfl
theorem rdS_rqMap (d : CS) (p : Nat) (g : Bool) (v : Int64) : cs_rqMap (rdS d p g) v = rdS (cs_rqMap d v) p g := rdX_rqMap d _ _ v
theorem rdX_rqCard (d : CS) (x G : Int32) (v : Int64) : cs_rqCard (rdX d x G) v = rdX (cs_rqCard d v) x G := rfl
theorem rdS_rqCard (d : CS) (p : Nat) (g : Bool) (v : Int64) : cs_rqCard (rdS d p g) v = rdS (cs_rqCard d v) p g := rdX_rqCard d _ _ v
theorem rdX_rqSort (d : CS) (x G : Int32) (v : Int32) : cs_rqSort (rdX d x G) v = rdX (cs_rqSort d v) x G := rfl
theorem rdS_rqSort (d : CS) (p : Nat) (g : Bool) (v : Int32) : cs_rqSort (rdS d p g) v = rdS (cs_rqSort d v) p g := rdX_rqSort d _ _ v
theorem rdX_rqAmount (d : CS) (x G : Int32) (v : Int64) : cs_rqAmount (rdX d x G) v = rdX (cs_rqAmount d v) x G := rfl
theorem rdS_rqAmount (d : CS) (p : Nat) (g : Bool) (v : Int64) : cs_rqAmount (rdS d p g) v = rdS (cs_rqAmount d v) p g := rdX_rqAmount d _ _ v
theorem rdX_rqTrace (d : CS) (x G : Int32) (v : Int32) : cs_rqTrace (rdX d x G) v = rdX (cs_rqTrace d v) x G := rfl
theorem rdS_rqTrace (d : CS) (p : Nat) (g : Bool) (v : Int32) : cs_rqTrace (rdS d p g) v = rdS (cs_rqTrace d v) p g := rdX_rqTrace d _ _ v
theorem rdX_rqTerm (d : CS) (x G : Int32) (v : Int32) : cs_rqTerm (rdX d x G) v = rdX (cs_rqTerm d v) x G := rfl
theorem rdS_rqTerm (d : CS) (p : Nat) (g : Bool) (v : Int32) : cs_rqTerm (rdS d p g) v = rdS (cs_rqTerm d v) p g := rdX_rqTerm d _ _ v
theorem rdX_rqStart (d : CS) (x G : Int32) (v : Int32) : cs_rqStart (rdX d x G) v = rdX (cs_rqStart d v) x G := rfl
theorem rdS_rqStart (d : CS) (p : Nat) (g : Bool) (v : Int32) : cs_rqStart (rdS d p g) v = rdS (cs_rqStart d v) p g := rdX_rqStart d _ _ v
theorem rdX_rqOrig (d : CS) (x G : Int32) (v : Int32) : cs_rqOrig (rdX d x G) v = rdX (cs_rqOrig d v) x G := rfl
theorem rdS_rqOrig (d : CS) (p : Nat) (g : Bool) (v : Int32) : cs_rqOrig (rdS d p g) v = rdS (cs_rqOrig d v) p g := rdX_rqOrig d _ _ v
theorem nI_m1 {b : Nat} (h : b < 256) : ¬ nI b = -1 := fun q => by
  have h1 := congrArg Int32.toInt q
  rw [nI_toInt (by omega)] at h1
  have h2 : (-1 : Int32).toInt = -1 := rfl
  omega
theorem c_byteAt {LA LE : List Nat} {d : CS} {B : List Nat} (h : cIn d B) (hl : B.length ≤ 120) (p : Nat) (hp : p ≤ B.length) : jc_ByteRow_byteAt_in LA LE d (nI p) = some (if h : p < B.length then nI B[p] else -1) := by
  unfold jc_ByteRow_byteAt_in
  rw [if_neg (nI_pos (by omega)), h.1]
  by_cases c : p < B.length
  · rw [if_neg (nI_ge c (by omega)), git (by omega) (by decide), nI_clamp (by omega), isL_mapG h.2 c, dif_pos c]
  · rw [if_pos (nI_le (by omega) (by omega)), dif_neg c]
theorem c_rb1 {LA LE : List Nat} {d : CS} {B : List Nat} (h : cIn d B) (hl : B.length ≤ 120) (hb : ∀ b ∈ B, b < 256) {p : Nat} (hp : p < B.length) (g : Bool) : jc_Reader_readByte LA LE (rdS d p g) = some (nI B[p], rdS d (p + 1) g) := by
  unfold jc_Reader_readByte
  rw [rdS_gp, c_byteAt (rdS_in h) hl p (by omega), ob_s, dif_pos hp, if_neg (nI_m1 (hb _ (List.getElem_mem hp))), nmd_e, nI_1, rdS_place]
theorem c_rb0 {LA LE : List Nat} {d : CS} {B : List Nat} (h : cIn d B) (hl : B.length ≤ 120) (g : Bool) : jc_Reader_readByte LA LE (rdS d B.length g) = some (0, rdS d B.length false) := by
  unfold jc_Reader_readByte
  rw [rdS_gp, c_byteAt (rdS_in h) hl B.length (Nat.le_refl _), ob_s, dif_neg (Nat.lt_irrefl _), if_pos rfl, nmd_e, rdS_good]
theorem nb_hi {b : Nat} (h : b < 256) : nI b >>> ((4 : Int32) &&& 31) = nI (b / 16) := pk_shrN (by omega) _ 4 rfl
theorem nb_lo {b : Nat} : nI b &&& 15 = nI (b % 16) := by
  rw [pk_and (nI b) (m := 15) 4 rfl]
  congr 1
  show (BitVec.ofNat 32 b).toNat % 2 ^ 4 = _
  rw [BitVec.toNat_ofNat]
  omega
theorem nb_val {v b : Nat} (h : b < 256) : lN v * 100 + (nI (b / 16) * 10).toInt64 + (nI (b % 16)).toInt64 = lN (v * 100 + b / 16 * 10 + b % 16) := by
  have e1 : nI (b / 16) * 10 = nI (b / 16 * 10) := pk_mul _ 10
  have e2 : lN v * 100 = lN (v * 100) := lN_mul v 100
  rw [e1, e2, nI_l (by omega), nI_l (by omega), lN_add, lN_add]
theorem c_dig_loop {LA LE : List Nat} {d : CS} {B : List Nat} (h : cIn d B) (hl : B.length ≤ 120) (hb : ∀ b ∈ B, b < 256) {n : Nat} (hn : n ≤ 16) :
    ∀ (m j p : Nat) (g : Bool) (hi v f : Nat), j + m = (n + 1) / 2 → m < f → p ≤ B.length → hi ≤ 9 → 99 * v + 165 ≤ 165 * 100 ^ j → ∃ (v2 p2 : Nat) (g2 : Bool), loopF (jc_Reader_readDigits_L19 LA LE (nI n)) f (rdS d p g, lN v, nI hi, nI (2 * j)) = some (lN v2, rdS d p2 g2) ∧ 99 * v2 + 165 ≤ 165 * 100 ^ ((n + 1) / 2) ∧ p2 ≤ B.length ∧ (g = false → g2 = false) ∧ (g = true → p + m ≤ B.length → dOk hi (tk B p m) = true → g2 = true ∧ v2 = dVal v (tk B p m) ∧ p2 = p + m) ∧ (¬ (p + m ≤ B.length ∧ dOk hi (tk B p m) = true) → g2 = false) := by
  intro m
  induction m with
  | zero =>
    intro j p g hi v f hj hf hp hh hv
    obtain ⟨k, rfl⟩ : ∃ k, f = k + 1 := ⟨f - 1, by omega⟩
    refine ⟨v, p, g, ?_, by rw [← hj]; exact hv, hp, fun q => q, fun q _ _ => ⟨q, by rw [tk_0]; rfl, rfl⟩, fun q => absurd ⟨hp, by rw [tk_0]; rfl⟩ q⟩
    show jc_Reader_readDigits_L19 LA LE (nI n) _ _ = _
    unfold jc_Reader_readDigits_L19
    dsimp only
    rw [if_pos (nI_le (by omega) (by omega))]
  | succ m ih =>
    intro j p g hi v f hj hf hp hh hv
    obtain ⟨k, rfl⟩ : ∃ k, f = k + 1 := ⟨f - 1, by omega⟩
    have hpj : 100 ^ (j + 1) = 100 * 100 ^ j := by rw [Nat.pow_succ, Nat.mul_comm]
    have en : ¬ nI n ≤ nI (2 * j) := nI_ge (by omega) (by omega)
    have e2 : nI (2 * j) + 2 = nI (2 * (j + 1)) := nI_add (2 * j) 2
    by_cases c : p < B.length
    · have hb2 := hb _ (List.getElem_mem c)
      have e9 : (9 : Int32) = nI 9 := rfl
      by_cases c1 : hi < B[p] / 16
      · obtain ⟨v2, p2, g2, r1, rv, r2, r3, r4, r5⟩ := ih (j + 1) (p + 1) false 9 (v * 100 + B[p] / 16 * 10 + B[p] % 16) k (by omega) (by omega) (by omega) (Nat.le_refl _) (by omega)
        refine ⟨v2, p2, g2, ?_, rv, r2, fun _ => r3 rfl, fun _ _ q => ?_, fun _ => r3 rfl⟩
        · show jc_Reader_readDigits_L19 LA LE (nI n) (loopF _ k) _ = _
          unfold jc_Reader_readDigits_L19
          dsimp only
          rw [if_neg en, c_rb1 h hl hb c g, ob_s]
          dsimp only
          rw [nb_hi hb2, nb_lo, nb_val hb2, e2, if_pos (nI_lt c1 (by omega)), nmd_e, rdS_good]
          exact r1
        · rw [tk_s m c] at q
          have q : (decide (B[p] / 16 ≤ hi) && decide (B[p] % 16 ≤ 9) && dOk 9 (tk B (p + 1) m)) = true := q
          rw [decide_eq_false (show ¬ B[p] / 16 ≤ hi by omega)] at q
          cases q
      · by_cases c2 : B[p] % 16 ≤ 9
        · obtain ⟨v2, p2, g2, r1, rv, r2, r3, r4, r5⟩ := ih (j + 1) (p + 1) g 9 (v * 100 + B[p] / 16 * 10 + B[p] % 16) k (by omega) (by omega) (by omega) (Nat.le_refl _) (by omega)
          have eo : dOk hi (tk B p (m + 1)) = dOk 9 (tk B (p + 1) m) := by
            rw [tk_s m c]
            show (decide (B[p] / 16 ≤ hi) && decide (B[p] % 16 ≤ 9) && dOk 9 (tk B (p + 1) m)) = _
            rw [decide_eq_true (show B[p] / 16 ≤ hi by omega), decide_eq_true c2]
            rfl
          refine ⟨v2, p2, g2, ?_, rv, r2, r3, fun q1 q2 q3 => ?_, fun q => r5 (fun z => q ⟨by omega, by rw [eo]; exact z.2⟩)⟩
          · show jc_Reader_readDigits_L19 LA LE (nI n) (loopF _ k) _ = _
            unfold jc_Reader_readDigits_L19
            dsimp only
            rw [if_neg en, c_rb1 h hl hb c g, ob_s]
            dsimp only
            rw [nb_hi hb2, nb_lo, nb_val hb2, e2, if_neg (nI_nlt (by omega) (by omega)), if_pos (show _ ≤ (9 : Int32) from nI_le (b := 9) c2 (by decide))]
            exact r1
          · obtain ⟨s1, s2, s3⟩ := r4 q1 (by omega) (by rw [← eo]; exact q3)
            refine ⟨s1, ?_, by omega⟩
            rw [tk_s m c]
            exact s2
        · obtain ⟨v2, p2, g2, r1, rv, r2, r3, r4, r5⟩ := ih (j + 1) (p + 1) false 9 (v * 100 + B[p] / 16 * 10 + B[p] % 16) k (by omega) (by omega) (by omega) (Nat.le_refl _) (by omega)
          refine ⟨v2, p2, g2, ?_, rv, r2, fun _ => r3 rfl, fun _ _ q => ?_, fun _ => r3 rfl⟩
          · show jc_Reader_readDigits_L19 LA LE (nI n) (loopF _ k) _ = _
            unfold jc_Reader_readDigits_L19
            dsimp only
            rw [if_neg en, c_rb1 h hl hb c g, ob_s]
            dsimp only
            rw [nb_hi hb2, nb_lo, nb_val hb2, e2, if_neg (nI_nlt (by omega) (by omega)), if_neg (show ¬ _ ≤ (9 : Int32) from nI_ge (a := 9) (by omega) (by omega)), nmd_e, rdS_good]
            exact r1
          · rw [tk_s m c] at q
            have q : (decide (B[p] / 16 ≤ hi) && decide (B[p] % 16 ≤ 9) && dOk 9 (tk B (p + 1) m)) = true := q
            rw [decide_eq_false c2, Bool.and_false] at q
            cases q
    · have ep : p = B.length := by omega
      subst ep
      obtain ⟨v2, p2, g2, r1, rv, r2, r3, r4, r5⟩ := ih (j + 1) B.length false 9 (v * 100 + 0 / 16 * 10 + 0 % 16) k (by omega) (by omega) (by omega) (Nat.le_refl _) (by omega)
      refine ⟨v2, p2, g2, ?_, rv, r2, fun _ => r3 rfl, fun _ q => absurd q (by omega), fun _ => r3 rfl⟩
      show jc_Reader_readDigits_L19 LA LE (nI n) (loopF _ k) _ = _
      unfold jc_Reader_readDigits_L19
      dsimp only
      rw [if_neg en, c_rb0 h hl g, ob_s]
      dsimp only
      rw [show (0 : Int32) = nI 0 from rfl, nb_hi (by decide), nb_lo, nb_val (by decide), e2, if_neg (nI_nlt (by omega) (by omega)), if_pos (show _ ≤ (9 : Int32) from nI_le (b := 9) (by decide) (by decide))]
      exact r1
theorem c_dig {LA LE : List Nat} {d : CS} {B : List Nat} (h : cIn d B) (hl : B.length ≤ 120) (hb : ∀ b ∈ B, b < 256) {n : Nat} (hn : n ≤ 16) {p : Nat} (hp : p ≤ B.length) (g : Bool) :
    ∃ (v2 p2 : Nat) (g2 : Bool), jc_Reader_readDigits LA LE (rdS d p g) (nI n) = some (lN v2, rdS d p2 g2) ∧ 99 * v2 + 165 ≤ 165 * 100 ^ ((n + 1) / 2) ∧ p2 ≤ B.length ∧ (g = false → g2 = false) ∧ (g = true → (sD B n p = some (v2, p2) ∧ g2 = true) ∨ (sD B n p = none ∧ g2 = false)) := by
  have key := fun hi hh => c_dig_loop (LA := LA) (LE := LE) h hl hb hn ((n + 1) / 2) 0 p g hi 0 200 (by omega) (by omega) hp hh (by decide)
  have er : nI n - nI n / 2 * 2 = nI (n % 2) := pk_rem (d := 2) (by omega) (by decide) (by decide)
  have fin : ∀ hi, hi = hiN n → (∃ (v2 p2 : Nat) (g2 : Bool), loopF (jc_Reader_readDigits_L19 LA LE (nI n)) 200 (rdS d p g, lN 0, nI hi, nI (2 * 0)) = some (lN v2, rdS d p2 g2) ∧ 99 * v2 + 165 ≤ 165 * 100 ^ ((n + 1) / 2) ∧ p2 ≤ B.length ∧ (g = false → g2 = false) ∧ (g = true → p + (n + 1) / 2 ≤ B.length → dOk hi (tk B p ((n + 1) / 2)) = true → g2 = true ∧ v2 = dVal 0 (tk B p ((n + 1) / 2)) ∧ p2 = p + (n + 1) / 2) ∧ (¬ (p + (n + 1) / 2 ≤ B.length ∧ dOk hi (tk B p ((n + 1) / 2)) = true) → g2 = false)) → ∃ (v2 p2 : Nat) (g2 : Bool), loopF (jc_Reader_readDigits_L19 LA LE (nI n)) 200 (rdS d p g, (0 : Int64), nI hi, (0 : Int32)) = some (lN v2, rdS d p2 g2) ∧ 99 * v2 + 165 ≤ 165 * 100 ^ ((n + 1) / 2) ∧ p2 ≤ B.length ∧ (g = false → g2 = false) ∧ (g = true → (sD B n p = some (v2, p2) ∧ g2 = true) ∨ (sD B n p = none ∧ g2 = false)) := by
    intro hi eh hh
    subst eh
    obtain ⟨v2, p2, g2, r1, rv, r2, r3, r4, r5⟩ := hh
    refine ⟨v2, p2, g2, r1, rv, r2, r3, fun q => ?_⟩
    by_cases c : p + (n + 1) / 2 ≤ B.length ∧ dOk (hiN n) (tk B p ((n + 1) / 2)) = true
    · obtain ⟨s1, s2, s3⟩ := r4 q c.1 c.2
      refine Or.inl ⟨?_, s1⟩
      unfold sD
      rw [if_pos c, s2, s3]
    · refine Or.inr ⟨?_, r5 c⟩
      unfold sD
      rw [if_neg c]
  unfold jc_Reader_readDigits
  rw [er]
  by_cases c : n % 2 = 0
  · rw [c, if_pos (show nI 0 = 0 from rfl)]
    exact fin 9 (by unfold hiN; rw [if_pos c]) (key 9 (by omega))
  · have c1 : n % 2 = 1 := by omega
    rw [c1, if_neg (show ¬ nI 1 = 0 by decide)]
    exact fin 0 (by unfold hiN; rw [if_neg c]) (key 0 (by omega))
/-! characters -/
def chI : Int32 → List Nat → Int32
  | v, [] => v
  | v, c :: l => chI ((v <<< ((8 : Int32) &&& 31)) ||| nI c) l
abbrev sC (B : List Nat) (lo hi n p : Nat) : Prop := p + n ≤ B.length ∧ chOk lo hi (tk B p n)
theorem c_chr_loop {LA LE : List Nat} {d : CS} {B : List Nat} (h : cIn d B) (hl : B.length ≤ 120) (hb : ∀ b ∈ B, b < 256) {n : Nat} (hn : n ≤ 100) :
    ∀ (m j p : Nat) (g : Bool) (v : Int32) (f : Nat), j + m = n → m < f → p ≤ B.length → ∃ (v2 : Int32) (p2 : Nat) (g2 : Bool), loopF (jc_Reader_readCharacters_L4 LA LE (nI n)) f (rdS d p g, v, nI j) = some (v2, rdS d p2 g2) ∧ p2 ≤ B.length ∧ (g = false → g2 = false) ∧ (g = true → sC B 32 126 m p → g2 = true ∧ v2 = chI v (tk B p m) ∧ p2 = p + m) ∧ (¬ sC B 32 126 m p → g2 = false) := by
  intro m
  induction m with
  | zero =>
    intro j p g v f hj hf hp
    obtain ⟨k, rfl⟩ : ∃ k, f = k + 1 := ⟨f - 1, by omega⟩
    refine ⟨v, p, g, ?_, hp, fun q => q, fun q _ => ⟨q, by rw [tk_0]; rfl, rfl⟩, fun q => absurd ⟨hp, by rw [tk_0]; intro c hc; cases hc⟩ q⟩
    show jc_Reader_readCharacters_L4 LA LE (nI n) _ _ = _
    unfold jc_Reader_readCharacters_L4
    dsimp only
    rw [if_pos (nI_le (by omega) (by omega))]
  | succ m ih =>
    intro j p g v f hj hf hp
    obtain ⟨k, rfl⟩ : ∃ k, f = k + 1 := ⟨f - 1, by omega⟩
    have en : ¬ nI n ≤ nI j := nI_ge (by omega) (by omega)
    by_cases c : p < B.length
    · have hb2 := hb _ (List.getElem_mem c)
      by_cases c1 : 32 ≤ B[p] ∧ B[p] ≤ 126
      · obtain ⟨v2, p2, g2, r1, r2, r3, r4, r5⟩ := ih (j + 1) (p + 1) g ((v <<< ((8 : Int32) &&& 31)) ||| nI B[p]) k (by omega) (by omega) (by omega)
        have eo : sC B 32 126 (m + 1) p ↔ sC B 32 126 m (p + 1) := by
          unfold sC chOk
          rw [tk_s m c]
          constructor
          · intro q
            exact ⟨by omega, fun x hx => q.2 x (List.mem_cons_of_mem _ hx)⟩
          · intro q
            refine ⟨by omega, fun x hx => ?_⟩
            rcases List.mem_cons.mp hx with rfl | hx
            · exact c1
            · exact q.2 x hx
        refine ⟨v2, p2, g2, ?_, r2, r3, fun q1 q2 => ?_, fun q => r5 (fun z => q (eo.mpr z))⟩
        · show jc_Reader_readCharacters_L4 LA LE (nI n) (loopF _ k) _ = _
          unfold jc_Reader_readCharacters_L4
          dsimp only
          rw [if_neg en, c_rb1 h hl hb c g, ob_s]
          dsimp only
          rw [if_neg (show ¬ _ < (32 : Int32) from nI_nlt (b := 32) c1.1 (by omega)), if_pos (show _ ≤ (126 : Int32) from nI_le (b := 126) c1.2 (by decide)), nI_1]
          exact r1
        · obtain ⟨s1, s2, s3⟩ := r4 q1 (eo.mp q2)
          refine ⟨s1, ?_, by omega⟩
          rw [tk_s m c]
          exact s2
      · obtain ⟨v2, p2, g2, r1, r2, r3, r4, r5⟩ := ih (j + 1) (p + 1) false ((v <<< ((8 : Int32) &&& 31)) ||| nI B[p]) k (by omega) (by omega) (by omega)
        refine ⟨v2, p2, g2, ?_, r2, fun _ => r3 rfl, fun _ q => ?_, fun _ => r3 rfl⟩
        · show jc_Reader_readCharacters_L4 LA LE (nI n) (loopF _ k) _ = _
          unfold jc_Reader_readCharacters_L4
          dsimp only
          rw [if_neg en, c_rb1 h hl hb c g, ob_s]
          dsimp only
          by_cases c2 : B[p] < 32
          · rw [if_pos (show _ < (32 : Int32) from nI_lt (b := 32) c2 (by decide)), nmd_e, rdS_good, nI_1]
            exact r1
          · rw [if_neg (show ¬ _ < (32 : Int32) from nI_nlt (b := 32) (by omega) (by omega)), if_neg (show ¬ _ ≤ (126 : Int32) from nI_ge (a := 126) (by omega) (by omega)), nmd_e, rdS_good, nI_1]
            exact r1
        · exact absurd (q.2 B[p] (by rw [tk_s m c]; exact List.mem_cons_self)) c1
    · have ep : p = B.length := by omega
      subst ep
      obtain ⟨v2, p2, g2, r1, r2, r3, r4, r5⟩ := ih (j + 1) B.length false ((v <<< ((8 : Int32) &&& 31)) ||| 0) k (by omega) (by omega) (by omega)
      refine ⟨v2, p2, g2, ?_, r2, fun _ => r3 rfl, fun _ q => absurd q.1 (by omega), fun _ => r3 rfl⟩
      show jc_Reader_readCharacters_L4 LA LE (nI n) (loopF _ k) _ = _
      unfold jc_Reader_readCharacters_L4
      dsimp only
      rw [if_neg en, c_rb0 h hl g, ob_s]
      dsimp only
      rw [if_pos (by decide), nmd_e, rdS_good, nI_1]
      exact r1
theorem c_chr {LA LE : List Nat} {d : CS} {B : List Nat} (h : cIn d B) (hl : B.length ≤ 120) (hb : ∀ b ∈ B, b < 256) {n : Nat} (hn : n ≤ 100) {p : Nat} (hp : p ≤ B.length) (g : Bool) :
    ∃ (v2 : Int32) (p2 : Nat) (g2 : Bool), jc_Reader_readCharacters LA LE (rdS d p g) (nI n) = some (v2, rdS d p2 g2) ∧ p2 ≤ B.length ∧ (g = false → g2 = false) ∧ (g = true → (sC B 32 126 n p ∧ g2 = true ∧ v2 = chI 0 (tk B p n) ∧ p2 = p + n) ∨ (¬ sC B 32 126 n p ∧ g2 = false)) := by
  obtain ⟨v2, p2, g2, r1, r2, r3, r4, r5⟩ := c_chr_loop (LA := LA) (LE := LE) h hl hb hn n 0 p g 0 200 (by omega) (by omega) hp
  refine ⟨v2, p2, g2, r1, r2, r3, fun q => ?_⟩
  by_cases c : sC B 32 126 n p
  · exact Or.inl ⟨c, r4 q c⟩
  · exact Or.inr ⟨c, r5 c⟩
/-! bytes of the map -/
def mVal : Nat → List Nat → Nat
  | v, [] => v
  | v, b :: l => mVal (v * 256 + b) l
theorem c_byt_loop {LA LE : List Nat} {d : CS} {B : List Nat} (h : cIn d B) (hl : B.length ≤ 120) (hb : ∀ b ∈ B, b < 256) :
    ∀ (m j p : Nat) (g : Bool) (v f : Nat), j + m = 8 → m < f → p ≤ B.length → v < 256 ^ j → ∃ (v2 p2 : Nat) (g2 : Bool), loopF (jc_Reader_readBytes_L5 LA LE (nI 8)) f (rdS d p g, lN v, nI j) = some (lN v2, rdS d p2 g2) ∧ p2 ≤ B.length ∧ v2 < 2 ^ 64 ∧ (g = false → g2 = false) ∧ (p + m ≤ B.length → g2 = g ∧ v2 = mVal v (tk B p m) ∧ p2 = p + m) ∧ (¬ p + m ≤ B.length → g2 = false) := by
  intro m
  induction m with
  | zero =>
    intro j p g v f hj hf hp hv
    obtain ⟨k, rfl⟩ : ∃ k, f = k + 1 := ⟨f - 1, by omega⟩
    have hj8 : j = 8 := by omega
    subst hj8
    refine ⟨v, p, g, ?_, hp, hv, fun q => q, fun q => ⟨rfl, by rw [tk_0]; rfl, rfl⟩, fun q => absurd hp q⟩
    show jc_Reader_readBytes_L5 LA LE (nI 8) _ _ = _
    unfold jc_Reader_readBytes_L5
    dsimp only
    rw [if_pos (by decide)]
  | succ m ih =>
    intro j p g v f hj hf hp hv
    obtain ⟨k, rfl⟩ : ∃ k, f = k + 1 := ⟨f - 1, by omega⟩
    have en : ¬ nI 8 ≤ nI j := nI_ge (by omega) (by omega)
    have hp1 : 256 ^ (j + 1) = 256 * 256 ^ j := by rw [Nat.pow_succ, Nat.mul_comm]
    have hp8 : 256 ^ (j + 1) ≤ 2 ^ 64 := by
      have := Nat.pow_le_pow_right (show 0 < 256 by decide) (show j + 1 ≤ 8 by omega)
      exact Nat.le_trans this (by decide)
    have eor : ∀ b : Nat, b < 256 → (lN v <<< ((8 : Int32).toInt64 &&& 63)) ||| (nI b).toInt64 = lN (v * 256 + b) := by
      intro b hb2
      have e1 : lN v <<< ((nI 8).toInt64 &&& 63) = lN (v * 2 ^ 8) := wb_shl v (by decide)
      have e2 : (lN v <<< ((8 : Int32).toInt64 &&& 63)) = lN (v * 256) := e1
      rw [e2, nI_l (by omega), g_or (k := 8) (p := 256) rfl hb2 (by omega)]
    by_cases c : p < B.length
    · have hb2 := hb _ (List.getElem_mem c)
      obtain ⟨v2, p2, g2, r1, r2, rv, r3, r4, r5⟩ := ih (j + 1) (p + 1) g (v * 256 + B[p]) k (by omega) (by omega) (by omega) (by omega)
      refine ⟨v2, p2, g2, ?_, r2, rv, r3, fun q => ?_, fun q => r5 (by omega)⟩
      · show jc_Reader_readBytes_L5 LA LE (nI 8) (loopF _ k) _ = _
        unfold jc_Reader_readBytes_L5
        dsimp only
        rw [if_neg en, c_rb1 h hl hb c g, ob_s]
        dsimp only
        rw [eor _ hb2, nI_1]
        exact r1
      · obtain ⟨s1, s2, s3⟩ := r4 (by omega)
        refine ⟨s1, ?_, by omega⟩
        rw [tk_s m c]
        exact s2
    · have ep : p = B.length := by omega
      subst ep
      obtain ⟨v2, p2, g2, r1, r2, rv, r3, r4, r5⟩ := ih (j + 1) B.length false (v * 256 + 0) k (by omega) (by omega) (by omega) (by omega)
      refine ⟨v2, p2, g2, ?_, r2, rv, fun _ => r3 rfl, fun q => absurd q (by omega), fun _ => r3 rfl⟩
      show jc_Reader_readBytes_L5 LA LE (nI 8) (loopF _ k) _ = _
      unfold jc_Reader_readBytes_L5
      dsimp only
      rw [if_neg en, c_rb0 h hl g, ob_s]
      dsimp only
      rw [show (0 : Int32) = nI 0 from rfl, eor _ (by decide), nI_1]
      exact r1
