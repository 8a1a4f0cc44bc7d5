/-! the message as a whole: what is asked; the class's reading of it -/
def stp {ρ : Type} (n : Nat) (g g2 : Bool) (p2 : Nat) (o : Option ρ) (r : ρ) : Prop := p2 ≤ n ∧ (g = false → g2 = false) ∧ (g = true → (o = some r ∧ g2 = true) ∨ (o = none ∧ g2 = false))
theorem stp_bind {ρ σ : Type} {n : Nat} {g g1 g2 : Bool} {p1 p2 : Nat} {o : Option ρ} {r : ρ} {k : ρ → Option σ} {s : σ} (h1 : stp n g g1 p1 o r) (h2 : stp n g1 g2 p2 (k r) s) : stp n g g2 p2 (o.bind k) s := by
  refine ⟨h2.1, fun q => h2.2.1 (h1.2.1 q), fun q => ?_⟩
  rcases h1.2.2 q with ⟨e, e1⟩ | ⟨e, e1⟩
  · rw [e]
    exact h2.2.2 e1
  · rw [e]
    exact Or.inr ⟨rfl, h2.2.1 e1⟩
theorem stp_id {ρ : Type} {n : Nat} {g : Bool} {p : Nat} {r : ρ} (h : p ≤ n) : stp n g g p (some r) r := ⟨h, fun q => q, fun q => Or.inl ⟨rfl, q⟩⟩
theorem stp_map {ρ σ : Type} {n : Nat} {g g2 : Bool} {p2 : Nat} {o : Option ρ} {r : ρ} (f : ρ → σ) (h : stp n g g2 p2 o r) : stp n g g2 p2 (o.bind fun x => some (f x)) (f r) := stp_bind h ⟨h.1, fun q => q, fun q => Or.inl ⟨rfl, q⟩⟩
def sNm (B : List Nat) (n lo hi p : Nat) : Option (Nat × Nat) := (sD B n p).bind fun q => if lo ≤ q.1 ∧ q.1 ≤ hi then some q else none
theorem c_dig' {LA LE : List Nat} {d : CS} {B : List Nat} (h : cIn d B) (hl : B.length ≤ 120) (hb : ∀ b ∈ B, b < 256) {n : Nat} (hn : n ≤ 16) {p : Nat} (hp : p ≤ B.length) (g : Bool) :
    ∃ (v2 p2 : Nat) (g2 : Bool), jc_Reader_readDigits LA LE (rdS d p g) (nI n) = some (lN v2, rdS d p2 g2) ∧ v2 < 2 ^ 63 ∧ stp B.length g g2 p2 (sD B n p) (v2, p2) := by
  obtain ⟨v, p2, g2, e, hv, hs⟩ := c_dig (LA := LA) (LE := LE) h hl hb hn hp g
  have hp8 : 100 ^ ((n + 1) / 2) ≤ 10000000000000000 := Nat.le_trans (Nat.pow_le_pow_right (show 0 < 100 by decide) (show (n + 1) / 2 ≤ 8 by omega)) (by decide)
  exact ⟨v, p2, g2, e, by omega, hs⟩
theorem c_cnt {LA LE : List Nat} {d : CS} {B : List Nat} (h : cIn d B) (hl : B.length ≤ 120) (hb : ∀ b ∈ B, b < 256) {n lo hi : Nat} (hn : n ≤ 16) (h1 : lo ≤ 100) (h2 : hi ≤ 100) {p : Nat} (hp : p ≤ B.length) (g : Bool) :
    ∃ (c p2 : Nat) (g2 : Bool), jc_Reader_readCount LA LE (rdS d p g) (nI n) (nI lo) (nI hi) = some (nI c, rdS d p2 g2) ∧ c ≤ hi ∧ stp B.length g g2 p2 (sNm B n lo hi p) (c, p2) := by
  obtain ⟨v, p2, g2, e, hv, hs⟩ := c_dig' (LA := LA) (LE := LE) h hl hb hn hp g
  unfold jc_Reader_readCount
  rw [e, ob_s]
  try dsimp only
  rw [nI_l (by omega), nI_l (by omega)]
  by_cases c1 : v < lo
  · rw [if_pos ((pk_lLT hv (by omega)).mpr c1), nmd_e]
    refine ⟨0, p2, false, rfl, Nat.zero_le _, hs.1, fun _ => rfl, fun q => Or.inr ⟨?_, rfl⟩⟩
    unfold sNm
    rcases hs.2.2 q with ⟨e1, -⟩ | ⟨e1, -⟩
    · rw [e1, ob_s, if_neg (by dsimp only; omega)]
    · rw [e1]
      rfl
  · rw [if_neg (fun q => c1 ((pk_lLT hv (by omega)).mp q))]
    by_cases c2 : v ≤ hi
    · rw [if_pos ((pk_lLE hv (by omega)).mpr c2), lN_i]
      refine ⟨v, p2, g2, rfl, c2, hs.1, hs.2.1, fun q => ?_⟩
      unfold sNm
      rcases hs.2.2 q with ⟨e1, e2⟩ | ⟨e1, e2⟩
      · exact Or.inl ⟨by rw [e1, ob_s, if_pos ⟨by dsimp only; omega, c2⟩], e2⟩
      · exact Or.inr ⟨by rw [e1]; rfl, e2⟩
    · rw [if_neg (fun q => c2 ((pk_lLE hv (by omega)).mp q)), nmd_e]
      refine ⟨0, p2, false, rfl, Nat.zero_le _, hs.1, fun _ => rfl, fun q => Or.inr ⟨?_, rfl⟩⟩
      unfold sNm
      rcases hs.2.2 q with ⟨e1, -⟩ | ⟨e1, -⟩
      · rw [e1, ob_s, if_neg (by dsimp only; omega)]
      · rw [e1]
        rfl
/-! the map's bits -/
theorem lN_inj {a b : Nat} (ha : a < 2 ^ 64) (hb : b < 2 ^ 64) : lN a = lN b ↔ a = b := ⟨fun q => by have := congrArg (fun x : Int64 => x.toBitVec.toNat) q; rw [wb_tn ha, wb_tn hb] at this; exact this, fun q => by rw [q]⟩
theorem and_p2 (m i : Nat) : (m &&& 2 ^ i = 0) ↔ m.testBit i = false := by
  constructor
  · intro h
    have h1 := congrArg (fun x => Nat.testBit x i) h
    try dsimp only at h1
    rw [Nat.testBit_and, Nat.testBit_two_pow_self, Nat.zero_testBit, Bool.and_true] at h1
    exact h1
  · intro h
    apply Nat.eq_of_testBit_eq
    intro j
    rw [Nat.testBit_and, Nat.testBit_two_pow, Nat.zero_testBit]
    by_cases e : i = j
    · subst e
      rw [h, Bool.false_and]
    · rw [decide_eq_false e, Bool.and_false]
theorem c_has {LA LE : List Nat} {d : CS} {mp : Nat} (hm : cg_rqMap d = lN mp) (h : mp < 2 ^ 64) (i : Nat) (hi : i < 64) : jc_Request_has LA LE d (lN (2 ^ i)) = some (if mp.testBit i = true then 1 else 0) := by
  have hi2 := wb_lt2 hi
  have ha : mp &&& 2 ^ i < 2 ^ 64 := Nat.and_lt_two_pow _ hi2
  unfold jc_Request_has
  rw [hm, wb_and h hi2]
  cases c : mp.testBit i with
  | true =>
    have e : ¬ lN (mp &&& 2 ^ i) = (0 : Int64) := fun q => by
      have := (and_p2 mp i).mp ((lN_inj (b := 0) ha (by decide)).mp q)
      rw [c] at this
      cases this
    rw [if_neg e, if_pos rfl]
  | false =>
    rw [(and_p2 mp i).mpr c, if_pos (show lN 0 = 0 from rfl), if_neg (by decide)]
def ndf (ty : Nat) : Nat := if ty = 100 ∨ ty = 200 then 8079457731511058432 else if ty = 400 then 4620693217690517760 else 9007199263129600
def nall (ty : Nat) : Nat := if ty = 100 then 18446744073709551615 - 8079457731511123968 else if ty = 400 then 18446744073709551615 - 4620693217690583296 else if ty = 500 then 18446744073709551615 - 9007199263195136 else 18446744073709551615 - 8079457731511124224
abbrev belongs (ty mp : Nat) : Prop := mp &&& ndf ty = ndf ty ∧ mp &&& nall ty = 0
theorem need_lt (ty : Nat) : ndf ty < 2 ^ 64 := by
  unfold ndf
  split
  · decide
  · split <;> decide
theorem nall_lt (ty : Nat) : nall ty < 2 ^ 64 := by
  unfold nall
  split
  · decide
  · split
    · decide
    · split <;> decide
theorem nI_lit {ty n : Nat} (ht : ty < 2 ^ 31) (hn : n < 2 ^ 31) : (nI ty = nI n) ↔ ty = n := nI_eq ht hn
theorem c_need {LA LE : List Nat} {d : CS} {ty : Nat} (ht : ty < 2 ^ 31) : jc_Request_neededFields LA LE d (nI ty) = some (lN (ndf ty)) := by
  unfold jc_Request_neededFields ndf
  have e1 : nI ty = 100 ↔ ty = 100 := nI_lit (n := 100) ht (by decide)
  have e2 : nI ty = 200 ↔ ty = 200 := nI_lit (n := 200) ht (by decide)
  have e4 : nI ty = 400 ↔ ty = 400 := nI_lit (n := 400) ht (by decide)
  by_cases c1 : ty = 100
  · rw [if_pos (e1.mpr c1), if_pos (Or.inl c1)]
    rfl
  · rw [if_neg (fun q => c1 (e1.mp q))]
    by_cases c2 : ty = 200
    · rw [if_pos (e2.mpr c2), if_pos (Or.inr c2)]
      rfl
    · rw [if_neg (fun q => c2 (e2.mp q)), if_neg (show ¬ (ty = 100 ∨ ty = 200) from fun q => q.elim c1 c2)]
      by_cases c4 : ty = 400
      · rw [if_pos (e4.mpr c4), if_pos c4]
        rfl
      · rw [if_neg (fun q => c4 (e4.mp q)), if_neg c4]
        rfl
theorem c_allow {LA LE : List Nat} {d : CS} {ty : Nat} (ht : ty < 2 ^ 31) : ∃ a : Int64, jc_Request_allowedFields LA LE d (nI ty) = some a ∧ a ^^^ (-1) = lN (nall ty) := by
  unfold jc_Request_allowedFields nall
  have e1 : nI ty = 100 ↔ ty = 100 := nI_lit (n := 100) ht (by decide)
  have e4 : nI ty = 400 ↔ ty = 400 := nI_lit (n := 400) ht (by decide)
  have e5 : nI ty = 500 ↔ ty = 500 := nI_lit (n := 500) ht (by decide)
  rw [c_need ht]
  by_cases c1 : ty = 100
  · rw [if_pos (e1.mpr c1), if_pos c1]
    subst c1
    exact ⟨_, rfl, by decide +kernel⟩
  · rw [if_neg (fun q => c1 (e1.mp q)), if_neg c1]
    by_cases c4 : ty = 400
    · rw [if_pos (e4.mpr c4), if_pos c4]
      subst c4
      exact ⟨_, rfl, by decide +kernel⟩
    · rw [if_neg (fun q => c4 (e4.mp q)), if_neg c4]
      by_cases c5 : ty = 500
      · rw [if_pos (e5.mpr c5), if_pos c5]
        subst c5
        exact ⟨_, rfl, by decide +kernel⟩
      · rw [if_neg (fun q => c5 (e5.mp q)), if_neg c5]
        exact ⟨_, rfl, by decide +kernel⟩
theorem c_belong {LA LE : List Nat} {d : CS} {ty mp : Nat} (ht : ty < 2 ^ 31) (hm : mp < 2 ^ 64) (e1 : cg_rqType d = nI ty) (e2 : cg_rqMap d = lN mp) : jc_Request_fieldsBelong LA LE d = some (if belongs ty mp then 1 else 0) := by
  obtain ⟨a, ha, hx⟩ := c_allow (LA := LA) (LE := LE) (d := d) ht
  unfold jc_Request_fieldsBelong
  have hn : mp &&& ndf ty < 2 ^ 64 := Nat.and_lt_two_pow _ (need_lt ty)
  have hq : mp &&& nall ty < 2 ^ 64 := Nat.and_lt_two_pow _ (nall_lt ty)
  rw [e1, c_need ht, ob_s, e2, wb_and hm (need_lt ty), ha, ob_s, hx, wb_and hm (nall_lt ty)]
  by_cases c1 : mp &&& ndf ty = ndf ty
  · rw [if_pos (by rw [c1])]
    by_cases c2 : mp &&& nall ty = 0
    · rw [if_pos (by rw [c2]; rfl), if_pos ⟨c1, c2⟩]
    · rw [if_neg (show ¬ lN (mp &&& nall ty) = (0 : Int64) from fun q => c2 ((lN_inj (b := 0) hq (by decide)).mp q)), if_neg (fun q => c2 q.2)]
  · rw [if_neg (fun q => c1 ((lN_inj hn (need_lt ty)).mp q)), if_neg (fun q => c1 q.1)]
/-! fields, one by one -/
def pCard (B : List Nat) (mp p : Nat) : Option (Nat × Nat) := if mp.testBit 62 = true then (sNm B 2 1 16 p).bind fun q => sD B q.1 q.2 else some (0, p)
def pNum (B : List Nat) (mp i n p : Nat) : Option (Nat × Nat) := if mp.testBit i = true then sD B n p else some (0, p)
def pMon (B : List Nat) (mp p : Nat) : Option (Nat × Nat × Nat × Nat) := (pCard B mp p).bind fun c => (pNum B mp 61 6 c.2).bind fun s => (pNum B mp 60 12 s.2).bind fun a => some (c.1, s.1, a.1, a.2)
def pNote (B : List Nat) (mp p : Nat) : Option Nat := if mp.testBit 16 = true then (sNm B 4 0 40 p).bind fun q => if sC B 32 126 q.1 q.2 then some (q.2 + q.1) else none else some p
def pOrig (B : List Nat) (mp p : Nat) : Option (Nat × Nat) := if mp.testBit 8 = true then (sNm B 2 6 6 p).bind fun q => sD B 6 q.2 else some (0, p)
def pOth (B : List Nat) (mp p : Nat) : Option (Nat × Nat × Int32 × Nat × Nat) := (sD B 6 p).bind fun t => (if sC B 32 126 4 t.2 then some (t.2 + 4) else none).bind fun q => (pNote B mp q).bind fun q => (pOrig B mp q).bind fun o => some (t.1, t.2, chI 0 (tk B t.2 4), o.1, o.2)
abbrev RQ : Type := Nat × Nat × Nat × Nat × Nat × Nat × Nat × Int32 × Nat
/-- type, map, card, sort, amount, trace, terminal's start, terminal, original -/
def prs (B : List Nat) : Option RQ := (sD B 4 0).bind fun t => if 10 ≤ B.length ∧ t.1 / 10 % 10 = 0 ∧ belongs t.1 (mVal 0 (tk B 2 8)) then (pMon B (mVal 0 (tk B 2 8)) 10).bind fun a => (pOth B (mVal 0 (tk B 2 8)) a.2.2.2).bind fun o => if o.2.2.2.2 = B.length then some (t.1, mVal 0 (tk B 2 8), a.1, a.2.1, a.2.2.1, o.1, o.2.1, o.2.2.1, o.2.2.2.1) else none else none
def F3 (LA LE : List Nat) (d : CS) : Option CS := (jc_Request_has LA LE d (1152921504606846976 : Int64)).bind fun v => if v = 0 then nmd (cs_rqAmount d (0 : Int64)) fun e => some e else (jc_Reader_readDigits LA LE d (12 : Int32)).bind fun q => nmd (cs_rqAmount q.2 q.1) fun e => some e
def F2 (LA LE : List Nat) (d : CS) : Option CS := (jc_Request_has LA LE d (2305843009213693952 : Int64)).bind fun v => if v = 0 then nmd (cs_rqSort d (0 : Int32)) fun e => F3 LA LE e else (jc_Reader_readDigits LA LE d (6 : Int32)).bind fun q => nmd (cs_rqSort q.2 (q.1).toInt32) fun e => F3 LA LE e
theorem F1_eq (LA LE : List Nat) (d : CS) : jc_Request_readMoneyFields LA LE d = (jc_Request_has LA LE d (4611686018427387904 : Int64)).bind fun v => if v = 0 then nmd (cs_rqCard d (0 : Int64)) fun e => F2 LA LE e else (jc_Reader_readCount LA LE d (2 : Int32) (1 : Int32) (16 : Int32)).bind fun q => (jc_Reader_readDigits LA LE q.2 q.1).bind fun q => nmd (cs_rqCard q.2 q.1) fun e => F2 LA LE e := rfl
theorem tb_i {b : Bool} {α : Type} {x y : α} : (if ((if b = true then 1 else 0 : Int32)) = 0 then x else y) = if b = true then y else x := by cases b <;> rfl
theorem c_hasS {LA LE : List Nat} {d : CS} {mp : Nat} (hm : cg_rqMap d = lN mp) (h : mp < 2 ^ 64) (p : Nat) (g : Bool) (i : Nat) (hi : i < 64) : jc_Request_has LA LE (rdS d p g) (lN (2 ^ i)) = some (if mp.testBit i = true then 1 else 0) := c_has ((rdS_gm d p g).trans hm) h i hi
theorem c_F3 {LA LE : List Nat} {d : CS} {B : List Nat} {mp : Nat} (h : cIn d B) (hl : B.length ≤ 120) (hb : ∀ b ∈ B, b < 256) (hm : cg_rqMap d = lN mp) (hm2 : mp < 2 ^ 64) {p : Nat} (hp : p ≤ B.length) (g : Bool) :
    ∃ (a p2 : Nat) (g2 : Bool), F3 LA LE (rdS d p g) = some (rdS (cs_rqAmount d (lN a)) p2 g2) ∧ stp B.length g g2 p2 (pNum B mp 60 12 p) (a, p2) := by
  have e0 : jc_Request_has LA LE (rdS d p g) (1152921504606846976 : Int64) = _ := c_hasS hm hm2 p g 60 (by decide)
  unfold F3 pNum
  rw [e0, ob_s, tb_i]
  cases c : mp.testBit 60 with
  | false =>
    refine ⟨0, p, g, ?_, ?_⟩
    · rw [if_neg (show ¬ false = true by decide), nmd_e, rdS_rqAmount]
      rfl
    · rw [if_neg (show ¬ false = true by decide)]
      exact stp_id hp
  | true =>
    obtain ⟨v, p2, g2, e, hv, hs⟩ := c_dig' (LA := LA) (LE := LE) (n := 12) h hl hb (by decide) hp g
    have e : jc_Reader_readDigits LA LE (rdS d p g) (12 : Int32) = some (lN v, rdS d p2 g2) := e
    refine ⟨v, p2, g2, ?_, ?_⟩
    · rw [if_pos rfl, e, ob_s]
      try dsimp only
      rw [nmd_e, rdS_rqAmount]
    · rw [if_pos rfl]
      exact hs
theorem c_F2 {LA LE : List Nat} {d : CS} {B : List Nat} {mp : Nat} (h : cIn d B) (hl : B.length ≤ 120) (hb : ∀ b ∈ B, b < 256) (hm : cg_rqMap d = lN mp) (hm2 : mp < 2 ^ 64) {p : Nat} (hp : p ≤ B.length) (g : Bool) :
    ∃ (s a p2 : Nat) (g2 : Bool), F2 LA LE (rdS d p g) = some (rdS (cs_rqAmount (cs_rqSort d (nI s)) (lN a)) p2 g2) ∧ stp B.length g g2 p2 ((pNum B mp 61 6 p).bind fun s => (pNum B mp 60 12 s.2).bind fun a => some (s.1, a.1, a.2)) (s, a, p2) := by
  have e0 : jc_Request_has LA LE (rdS d p g) (2305843009213693952 : Int64) = _ := c_hasS hm hm2 p g 61 (by decide)
  unfold F2
  rw [e0, ob_s, tb_i]
  cases c : mp.testBit 61 with
  | false =>
    obtain ⟨a, p2, g2, e, hs⟩ := c_F3 (LA := LA) (LE := LE) (d := cs_rqSort d (nI 0)) (k_cIn_cs_rqSort h) hl hb ((G_rqMap_cs_rqSort d _).trans hm) hm2 hp g
    refine ⟨0, a, p2, g2, ?_, ?_⟩
    · rw [if_neg (show ¬ false = true by decide), nmd_e, rdS_rqSort]
      exact e
    · have e1 : pNum B mp 61 6 p = some (0, p) := by unfold pNum; rw [c, if_neg (show ¬ false = true by decide)]
      rw [e1, ob_s]
      exact stp_map (fun a : Nat × Nat => (0, a.1, a.2)) hs
  | true =>
    obtain ⟨v, p1, g1, e, hv, hs⟩ := c_dig' (LA := LA) (LE := LE) (n := 6) h hl hb (by decide) hp g
    have e : jc_Reader_readDigits LA LE (rdS d p g) (6 : Int32) = some (lN v, rdS d p1 g1) := e
    obtain ⟨a, p2, g2, e3, hs3⟩ := c_F3 (LA := LA) (LE := LE) (d := cs_rqSort d (nI v)) (k_cIn_cs_rqSort h) hl hb ((G_rqMap_cs_rqSort d _).trans hm) hm2 hs.1 g1
    refine ⟨v, a, p2, g2, ?_, ?_⟩
    · rw [if_pos rfl, e, ob_s]
      try dsimp only
      rw [lN_i, nmd_e, rdS_rqSort]
      exact e3
    · have e1 : pNum B mp 61 6 p = sD B 6 p := by unfold pNum; rw [c, if_pos rfl]
      rw [e1]
      exact stp_bind hs (stp_map (fun a : Nat × Nat => (v, a.1, a.2)) hs3)
theorem c_F1 {LA LE : List Nat} {d : CS} {B : List Nat} {mp : Nat} (h : cIn d B) (hl : B.length ≤ 120) (hb : ∀ b ∈ B, b < 256) (hm : cg_rqMap d = lN mp) (hm2 : mp < 2 ^ 64) {p : Nat} (hp : p ≤ B.length) (g : Bool) :
    ∃ (c s a p2 : Nat) (g2 : Bool), jc_Request_readMoneyFields LA LE (rdS d p g) = some (rdS (cs_rqAmount (cs_rqSort (cs_rqCard d (lN c)) (nI s)) (lN a)) p2 g2) ∧ stp B.length g g2 p2 (pMon B mp p) (c, s, a, p2) := by
  have e0 : jc_Request_has LA LE (rdS d p g) (4611686018427387904 : Int64) = _ := c_hasS hm hm2 p g 62 (by decide)
  have eM : ∀ (q : Nat × Nat), ((pNum B mp 61 6 q.2).bind fun s => (pNum B mp 60 12 s.2).bind fun a => some (q.1, s.1, a.1, a.2)) = (((pNum B mp 61 6 q.2).bind fun s => (pNum B mp 60 12 s.2).bind fun a => some (s.1, a.1, a.2)).bind fun x => some (q.1, x.1, x.2.1, x.2.2)) := by
    intro q
    cases pNum B mp 61 6 q.2 with
    | none => rfl
    | some s =>
      show ((pNum B mp 60 12 s.2).bind fun a => some (q.1, s.1, a.1, a.2)) = ((pNum B mp 60 12 s.2).bind fun a => some (s.1, a.1, a.2)).bind _
      cases pNum B mp 60 12 s.2 <;> rfl
  rw [F1_eq, e0, ob_s, tb_i]
  unfold pMon
  cases c : mp.testBit 62 with
  | false =>
    obtain ⟨s, a, p2, g2, e, hs⟩ := c_F2 (LA := LA) (LE := LE) (d := cs_rqCard d (lN 0)) (k_cIn_cs_rqCard h) hl hb ((G_rqMap_cs_rqCard d _).trans hm) hm2 hp g
    refine ⟨0, s, a, p2, g2, ?_, ?_⟩
    · rw [if_neg (show ¬ false = true by decide), nmd_e, rdS_rqCard]
      exact e
    · have e1 : pCard B mp p = some (0, p) := by unfold pCard; rw [c, if_neg (show ¬ false = true by decide)]
      rw [e1, ob_s, eM]
      exact stp_map (fun x : Nat × Nat × Nat => (0, x.1, x.2.1, x.2.2)) hs
  | true =>
    obtain ⟨k, p0, g0, e, hk, hs⟩ := c_cnt (LA := LA) (LE := LE) (n := 2) (lo := 1) (hi := 16) h hl hb (by decide) (by decide) (by decide) hp g
    have e : jc_Reader_readCount LA LE (rdS d p g) (2 : Int32) (1 : Int32) (16 : Int32) = some (nI k, rdS d p0 g0) := e
    obtain ⟨v, p1, g1, e2, hv, hs2⟩ := c_dig' (LA := LA) (LE := LE) (n := k) h hl hb hk hs.1 g0
    obtain ⟨s, a, p2, g2, e3, hs3⟩ := c_F2 (LA := LA) (LE := LE) (d := cs_rqCard d (lN v)) (k_cIn_cs_rqCard h) hl hb ((G_rqMap_cs_rqCard d _).trans hm) hm2 hs2.1 g1
    refine ⟨v, s, a, p2, g2, ?_, ?_⟩
    · rw [if_pos rfl, e, ob_s]
      try dsimp only
      rw [e2, ob_s]
      try dsimp only
      rw [nmd_e, rdS_rqCard]
      exact e3
    · have e1 : pCard B mp p = (sNm B 2 1 16 p).bind fun q => sD B q.1 q.2 := by unfold pCard; rw [c, if_pos rfl]
      rw [e1]
      refine stp_bind (stp_bind hs hs2) ?_
      rw [eM]
      exact stp_map (fun x : Nat × Nat × Nat => (v, x.1, x.2.1, x.2.2)) hs3
/-! the other fields -/
def GG2 (LA LE : List Nat) (d : CS) : Option CS := nmd (cs_rqOrig d (0 : Int32)) fun d => (jc_Request_has LA LE d (256 : Int64)).bind fun v => if v = 0 then some d else (jc_Reader_readCount LA LE d (2 : Int32) (6 : Int32) (6 : Int32)).bind fun q => (jc_Reader_readDigits LA LE q.2 (6 : Int32)).bind fun q => nmd (cs_rqOrig q.2 (q.1).toInt32) fun d => some d
theorem G1_eq (LA LE : List Nat) (d : CS) : jc_Request_readOtherFields LA LE d = (jc_Reader_readDigits LA LE d (6 : Int32)).bind fun q => nmd (cs_rqTrace q.2 (q.1).toInt32) fun d => nmd (cs_rqStart d (cg_rdPlace d)) fun d => (jc_Reader_readCharacters LA LE d (4 : Int32)).bind fun q => nmd (cs_rqTerm q.2 q.1) fun d => (jc_Request_has LA LE d (65536 : Int64)).bind fun v => if v = 0 then GG2 LA LE d else (jc_Reader_readCount LA LE d (4 : Int32) (0 : Int32) (40 : Int32)).bind fun q => (jc_Reader_readCharacters LA LE q.2 q.1).bind fun q => GG2 LA LE q.2 := rfl
theorem rqOrig2 (d : CS) (v w : Int32) : cs_rqOrig (cs_rqOrig d v) w = cs_rqOrig d w := rfl
theorem c_G2 {LA LE : List Nat} {d : CS} {B : List Nat} {mp : Nat} (h : cIn d B) (hl : B.length ≤ 120) (hb : ∀ b ∈ B, b < 256) (hm : cg_rqMap d = lN mp) (hm2 : mp < 2 ^ 64) {p : Nat} (hp : p ≤ B.length) (g : Bool) :
    ∃ (o p2 : Nat) (g2 : Bool), GG2 LA LE (rdS d p g) = some (rdS (cs_rqOrig d (nI o)) p2 g2) ∧ stp B.length g g2 p2 (pOrig B mp p) (o, p2) := by
  obtain ⟨w, hw⟩ : ∃ w, w = cs_rqOrig d (0 : Int32) := ⟨_, rfl⟩
  have hIw : cIn w B := by rw [hw]; exact k_cIn_cs_rqOrig h
  have hMw : cg_rqMap w = lN mp := by rw [hw, G_rqMap_cs_rqOrig]; exact hm
  have hOw : ∀ v, cs_rqOrig w v = cs_rqOrig d v := fun v => by rw [hw, rqOrig2]
  have e0 : jc_Request_has LA LE (rdS w p g) (256 : Int64) = _ := c_hasS hMw hm2 p g 8 (by decide)
  unfold GG2
  rw [nmd_e, rdS_rqOrig, ← hw, e0, ob_s, tb_i]
  unfold pOrig
  cases c : mp.testBit 8 with
  | false =>
    refine ⟨0, p, g, ?_, ?_⟩
    · rw [if_neg (show ¬ false = true by decide), hw]
      rfl
    · rw [if_neg (show ¬ false = true by decide)]
      exact stp_id hp
  | true =>
    obtain ⟨k, p0, g0, e, hk, hs⟩ := c_cnt (LA := LA) (LE := LE) (d := w) (n := 2) (lo := 6) (hi := 6) hIw hl hb (by decide) (by decide) (by decide) hp g
    have e : jc_Reader_readCount LA LE (rdS w p g) (2 : Int32) (6 : Int32) (6 : Int32) = some (nI k, rdS w p0 g0) := e
    obtain ⟨v, p1, g1, e2, hv, hs2⟩ := c_dig' (LA := LA) (LE := LE) (d := w) (n := 6) hIw hl hb (by decide) hs.1 g0
    have e2 : jc_Reader_readDigits LA LE (rdS w p0 g0) (6 : Int32) = some (lN v, rdS w p1 g1) := e2
    refine ⟨v, p1, g1, ?_, ?_⟩
    · rw [if_pos rfl, e, ob_s]
      try dsimp only
      rw [e2, ob_s]
      try dsimp only
      rw [lN_i, nmd_e, rdS_rqOrig, hOw]
    · rw [if_pos rfl]
      exact stp_bind hs hs2
theorem stp_if {ρ : Type} {n : Nat} {g g2 : Bool} {p2 : Nat} {c : Prop} [Decidable c] {r : ρ} (hp : p2 ≤ n) (h1 : g = false → g2 = false) (h2 : g = true → (c ∧ g2 = true) ∨ (¬ c ∧ g2 = false)) : stp n g g2 p2 (if c then some r else none) r := by
  refine ⟨hp, h1, fun q => ?_⟩
  rcases h2 q with ⟨a, b⟩ | ⟨a, b⟩
  · exact Or.inl ⟨if_pos a, b⟩
  · exact Or.inr ⟨if_neg a, b⟩
theorem c_G1 {LA LE : List Nat} {d : CS} {B : List Nat} {mp : Nat} (h : cIn d B) (hl : B.length ≤ 120) (hb : ∀ b ∈ B, b < 256) (hm : cg_rqMap d = lN mp) (hm2 : mp < 2 ^ 64) {p : Nat} (hp : p ≤ B.length) (g : Bool) :
    ∃ (t st : Nat) (te : Int32) (o p2 : Nat) (g2 : Bool), jc_Request_readOtherFields LA LE (rdS d p g) = some (rdS (cs_rqOrig (cs_rqTerm (cs_rqStart (cs_rqTrace d (nI t)) (nI st)) te) (nI o)) p2 g2) ∧ (g = false → g2 = false) ∧ p2 ≤ B.length ∧ (g = true → (pOth B mp p = some (t, st, te, o, p2) ∧ g2 = true) ∨ (pOth B mp p = none ∧ g2 = false)) := by
  obtain ⟨t, p1, g1, e1, ht, hs1⟩ := c_dig' (LA := LA) (LE := LE) (n := 6) h hl hb (by decide) hp g
  have e1 : jc_Reader_readDigits LA LE (rdS d p g) (6 : Int32) = some (lN t, rdS d p1 g1) := e1
  obtain ⟨w1, hw1⟩ : ∃ w, w = cs_rqStart (cs_rqTrace d (nI t)) (nI p1) := ⟨_, rfl⟩
  have hI1 : cIn w1 B := by rw [hw1]; exact k_cIn_cs_rqStart (k_cIn_cs_rqTrace h)
  have hM1 : cg_rqMap w1 = lN mp := by rw [hw1, G_rqMap_cs_rqStart, G_rqMap_cs_rqTrace]; exact hm
  obtain ⟨te, p3, g3, e3, r1, r2, r3⟩ := c_chr (LA := LA) (LE := LE) (d := w1) (n := 4) hI1 hl hb (by decide) hs1.1 g1
  have e3 : jc_Reader_readCharacters LA LE (rdS w1 p1 g1) (4 : Int32) = some (te, rdS w1 p3 g3) := e3
  obtain ⟨w2, hw2⟩ : ∃ w, w = cs_rqTerm w1 te := ⟨_, rfl⟩
  have hI2 : cIn w2 B := by rw [hw2]; exact k_cIn_cs_rqTerm hI1
  have hM2 : cg_rqMap w2 = lN mp := by rw [hw2, G_rqMap_cs_rqTerm]; exact hM1
  have e4 : jc_Request_has LA LE (rdS w2 p3 g3) (65536 : Int64) = _ := c_hasS hM2 hm2 p3 g3 16 (by decide)
  have hfin : ∀ o, cs_rqOrig (cs_rqTerm (cs_rqStart (cs_rqTrace d (nI t)) (nI p1)) te) (nI o) = cs_rqOrig w2 (nI o) := fun o => by rw [hw2, hw1]
  have ew : jc_Request_readOtherFields LA LE (rdS d p g) = (jc_Request_has LA LE (rdS w2 p3 g3) (65536 : Int64)).bind fun v => if v = 0 then GG2 LA LE (rdS w2 p3 g3) else (jc_Reader_readCount LA LE (rdS w2 p3 g3) (4 : Int32) (0 : Int32) (40 : Int32)).bind fun q => (jc_Reader_readCharacters LA LE q.2 q.1).bind fun q => GG2 LA LE q.2 := by
    rw [G1_eq, e1, ob_s]
    try dsimp only
    rw [lN_i, nmd_e, nmd_e, rdS_rqTrace, rdS_gp, rdS_rqStart, ← hw1, e3, ob_s]
    try dsimp only
    rw [nmd_e, rdS_rqTerm, ← hw2]
  rw [ew, e4, ob_s, tb_i]
  cases c : mp.testBit 16 with
  | false =>
    obtain ⟨o, p2, g2, e5, hs5⟩ := c_G2 (LA := LA) (LE := LE) (d := w2) hI2 hl hb hM2 hm2 r1 g3
    refine ⟨t, p1, te, o, p2, g2, ?_, fun q => hs5.2.1 (r2 (hs1.2.1 q)), hs5.1, fun q => ?_⟩
    · rw [hfin, if_neg (show ¬ false = true by decide)]
      exact e5
    · unfold pOth
      rcases hs1.2.2 q with ⟨a1, a2⟩ | ⟨a1, a2⟩
      · rw [a1, ob_s]
        rcases r3 a2 with ⟨b1, b2, b3, b4⟩ | ⟨b1, b2⟩
        · have en : pNote B mp (p1 + 4) = some (p1 + 4) := by unfold pNote; rw [c, if_neg (show ¬ false = true by decide)]
          try dsimp only
          rw [if_pos b1, ob_s, en, ob_s]
          subst b4
          rcases hs5.2.2 b2 with ⟨f1, f2⟩ | ⟨f1, f2⟩
          · rw [f1, ob_s, b3]
            exact Or.inl ⟨rfl, f2⟩
          · rw [f1]
            exact Or.inr ⟨rfl, f2⟩
        · dsimp only
          rw [if_neg b1]
          exact Or.inr ⟨rfl, hs5.2.1 b2⟩
      · rw [a1]
        exact Or.inr ⟨rfl, hs5.2.1 (r2 a2)⟩
  | true =>
    obtain ⟨k, p5, g5, e5, hk, hs5⟩ := c_cnt (LA := LA) (LE := LE) (d := w2) (n := 4) (lo := 0) (hi := 40) hI2 hl hb (by decide) (by decide) (by decide) r1 g3
    have e5 : jc_Reader_readCount LA LE (rdS w2 p3 g3) (4 : Int32) (0 : Int32) (40 : Int32) = some (nI k, rdS w2 p5 g5) := e5
    obtain ⟨te2, p6, g6, e6, r61, r62, r63⟩ := c_chr (LA := LA) (LE := LE) (d := w2) (n := k) hI2 hl hb (by omega) hs5.1 g5
    obtain ⟨o, p2, g2, e7, hs7⟩ := c_G2 (LA := LA) (LE := LE) (d := w2) hI2 hl hb hM2 hm2 r61 g6
    refine ⟨t, p1, te, o, p2, g2, ?_, fun q => hs7.2.1 (r62 (hs5.2.1 (r2 (hs1.2.1 q)))), hs7.1, fun q => ?_⟩
    · rw [hfin, if_pos rfl, e5, ob_s]
      try dsimp only
      rw [e6, ob_s]
      exact e7
    · unfold pOth
      rcases hs1.2.2 q with ⟨a1, a2⟩ | ⟨a1, a2⟩
      · rw [a1, ob_s]
        rcases r3 a2 with ⟨b1, b2, b3, b4⟩ | ⟨b1, b2⟩
        · dsimp only
          rw [if_pos b1, ob_s]
          subst b4
          have en : pNote B mp (p1 + 4) = (sNm B 4 0 40 (p1 + 4)).bind fun q => if sC B 32 126 q.1 q.2 then some (q.2 + q.1) else none := by unfold pNote; rw [c, if_pos rfl]
          rw [en]
          rcases hs5.2.2 b2 with ⟨f1, f2⟩ | ⟨f1, f2⟩
          · rw [f1, ob_s]
            try dsimp only
            rcases r63 f2 with ⟨m1, m2, m3, m4⟩ | ⟨m1, m2⟩
            · rw [if_pos m1, ob_s, ← m4]
              rcases hs7.2.2 m2 with ⟨n1, n2⟩ | ⟨n1, n2⟩
              · rw [n1, ob_s, b3]
                exact Or.inl ⟨rfl, n2⟩
              · rw [n1]
                exact Or.inr ⟨rfl, n2⟩
            · rw [if_neg m1]
              exact Or.inr ⟨rfl, hs7.2.1 m2⟩
          · rw [f1]
            exact Or.inr ⟨rfl, hs7.2.1 (r62 f2)⟩
        · dsimp only
          rw [if_neg b1]
          exact Or.inr ⟨rfl, hs7.2.1 (r62 (hs5.2.1 b2))⟩
      · rw [a1]
        exact Or.inr ⟨rfl, hs7.2.1 (r62 (hs5.2.1 (r2 a2)))⟩
/-! the class's reading of the whole message -/
theorem sD_pos {B : List Nat} {n p v q : Nat} (h : sD B n p = some (v, q)) : q = p + (n + 1) / 2 ∧ q ≤ B.length := by
  unfold sD at h
  by_cases c : p + (n + 1) / 2 ≤ B.length ∧ dOk (hiN n) (tk B p ((n + 1) / 2)) = true
  · rw [if_pos c] at h
    have e := congrArg Prod.snd (Option.some.inj h)
    try dsimp only at e
    exact ⟨e.symm, by rw [← e]; exact c.1⟩
  · rw [if_neg c] at h
    cases h
/-- what the reading leaves alone -/
def ck (d : CS) := (cg_inSize d, cg_inB d, cg_outSize d, cg_outB d, cg_cCount d, cg_accs d, cg_jSize d, cg_jTime d, cg_lines d, cg_setSum d, cg_setNow d, cg_acc d, cg_ent d)
def rqIs (d : CS) (q : RQ) : Prop := cg_rqType d = nI q.1 ∧ cg_rqMap d = lN q.2.1 ∧ cg_rqCard d = lN q.2.2.1 ∧ cg_rqSort d = nI q.2.2.2.1 ∧ cg_rqAmount d = lN q.2.2.2.2.1 ∧ cg_rqTrace d = nI q.2.2.2.2.2.1 ∧ cg_rqStart d = nI q.2.2.2.2.2.2.1 ∧ cg_rqTerm d = q.2.2.2.2.2.2.2.1 ∧ cg_rqOrig d = nI q.2.2.2.2.2.2.2.2
theorem c_end {LA LE : List Nat} {d : CS} {B : List Nat} (h : cIn d B) (hl : B.length ≤ 120) {p : Nat} (hp : p ≤ B.length) (g : Bool) : jc_Reader_isAtGoodEnd LA LE (rdS d p g) = some (if g = true ∧ p = B.length then 1 else 0) := by
  have e3 : cg_inSize (rdS d p g) = nI B.length := (rdS_gi d p g).trans h.1
  unfold jc_Reader_isAtGoodEnd
  rw [rdS_gg, rdS_gp, e3]
  cases g with
  | false => rw [if_pos (show (bif false then (1 : Int32) else 0) = 0 from rfl), if_neg (show ¬ (false = true ∧ p = B.length) from fun q => absurd q.1 (by decide))]
  | true =>
    rw [if_neg (show ¬ (bif true then (1 : Int32) else 0) = 0 by decide)]
    by_cases c : p = B.length
    · rw [if_pos (show nI p = nI B.length by rw [c]), if_pos (show true = true ∧ p = B.length from ⟨rfl, c⟩)]
    · rw [if_neg (fun q => c ((nI_eq (by omega) (by omega)).mp q)), if_neg (show ¬ (true = true ∧ p = B.length) from fun q => c q.2)]
theorem ck_rdX (d : CS) (x G : Int32) : ck (rdX d x G) = ck d := rfl
theorem ck_rdS (d : CS) (p : Nat) (g : Bool) : ck (rdS d p g) = ck d := ck_rdX d _ _
theorem ck_rqType (d : CS) (v : Int32) : ck (cs_rqType d v) = ck d := rfl
theorem ck_rqMap (d : CS) (v : Int64) : ck (cs_rqMap d v) = ck d := rfl
theorem ck_rqCard (d : CS) (v : Int64) : ck (cs_rqCard d v) = ck d := rfl
theorem ck_rqSort (d : CS) (v : Int32) : ck (cs_rqSort d v) = ck d := rfl
theorem ck_rqAmount (d : CS) (v : Int64) : ck (cs_rqAmount d v) = ck d := rfl
theorem ck_rqTrace (d : CS) (v : Int32) : ck (cs_rqTrace d v) = ck d := rfl
theorem ck_rqTerm (d : CS) (v : Int32) : ck (cs_rqTerm d v) = ck d := rfl
theorem ck_rqStart (d : CS) (v : Int32) : ck (cs_rqStart d v) = ck d := rfl
theorem ck_rqOrig (d : CS) (v : Int32) : ck (cs_rqOrig d v) = ck d := rfl
theorem rqIs_rdX {d : CS} {x G : Int32} {q : RQ} (h : rqIs d q) : rqIs (rdX d x G) q := h
theorem rqIs_rdS {d : CS} {p : Nat} {g : Bool} {q : RQ} (h : rqIs d q) : rqIs (rdS d p g) q := rqIs_rdX h
theorem rqIs_all (d : CS) (a : Nat) (b c : Nat) (e f t s : Nat) (te : Int32) (o : Nat) : rqIs (cs_rqOrig (cs_rqTerm (cs_rqStart (cs_rqTrace (cs_rqAmount (cs_rqSort (cs_rqCard (cs_rqMap (cs_rqType d (nI a)) (lN b)) (lN c)) (nI e)) (lN f)) (nI t)) (nI s)) te) (nI o)) (a, b, c, e, f, t, s, te, o) := ⟨rfl, rfl, rfl, rfl, rfl, rfl, rfl, rfl, rfl⟩
theorem c_parse {LA LE : List Nat} {d : CS} {B : List Nat} (h : cIn d B) (hl : B.length ≤ 120) (hb : ∀ b ∈ B, b < 256) : ∃ (r : Int32) (d2 : CS), jc_Request_readWhole LA LE d = some (r, d2) ∧ ck d2 = ck d ∧ ((r = 0 ∧ prs B = none) ∨ (r = 1 ∧ ∃ q, prs B = some q ∧ rqIs d2 q)) := by
  obtain ⟨ty, p1, g1, e1, ht, hs1⟩ := c_dig (LA := LA) (LE := LE) (n := 4) h hl hb (by decide) (Nat.zero_le B.length) true
  have hs1 : stp B.length true g1 p1 (sD B 4 0) (ty, p1) := hs1
  have e1 : jc_Reader_readDigits LA LE (rdS d 0 true) (4 : Int32) = some (lN ty, rdS d p1 g1) := e1
  have ht : ty < 2 ^ 31 := by
    have : 100 ^ ((4 + 1) / 2) = 10000 := by decide
    omega
  obtain ⟨w1, hw1⟩ : ∃ w, w = cs_rqType d (nI ty) := ⟨_, rfl⟩
  have hI1 : cIn w1 B := by rw [hw1]; exact k_cIn_cs_rqType h
  obtain ⟨mp, p2, g2, e2, hp2, hm, hd2, hy2, hn2⟩ := c_byt_loop (LA := LA) (LE := LE) (d := w1) hI1 hl hb 8 0 p1 g1 0 200 rfl (by decide) hs1.1 (by decide)
  have e2 : jc_Reader_readBytes LA LE (rdS w1 p1 g1) (8 : Int32) = some (lN mp, rdS w1 p2 g2) := e2
  obtain ⟨w2, hw2⟩ : ∃ w, w = cs_rqMap w1 (lN mp) := ⟨_, rfl⟩
  have hI2 : cIn w2 B := by rw [hw2]; exact k_cIn_cs_rqMap hI1
  have hM2 : cg_rqMap w2 = lN mp := by rw [hw2]; rfl
  have hT2 : cg_rqType w2 = nI ty := by rw [hw2, G_rqType_cs_rqMap, hw1]; rfl
  have e3 : jc_Request_fieldsBelong LA LE (rdS w2 p2 g2) = _ := c_belong (d := rdS w2 p2 g2) ht hm ((rdS_gt w2 p2 g2).trans hT2) ((rdS_gm w2 p2 g2).trans hM2)
  have e4 : nI ty / 10 - nI ty / 10 / 10 * 10 = nI (ty / 10 % 10) := by
    have a1 : nI ty / 10 = nI (ty / 10) := pk_div (d := 10) ht (by decide) (by decide)
    rw [a1]
    exact pk_rem (d := 10) (by omega) (by decide) (by decide)
  obtain ⟨cd, so, am, p3, g3, e5, hs5⟩ := c_F1 (LA := LA) (LE := LE) (d := w2) hI2 hl hb hM2 hm hp2 g2
  obtain ⟨w3, hw3⟩ : ∃ w, w = cs_rqAmount (cs_rqSort (cs_rqCard w2 (lN cd)) (nI so)) (lN am) := ⟨_, rfl⟩
  rw [← hw3] at e5
  have hI3 : cIn w3 B := by rw [hw3]; exact k_cIn_cs_rqAmount (k_cIn_cs_rqSort (k_cIn_cs_rqCard hI2))
  have hM3 : cg_rqMap w3 = lN mp := by rw [hw3, G_rqMap_cs_rqAmount, G_rqMap_cs_rqSort, G_rqMap_cs_rqCard]; exact hM2
  obtain ⟨tr, st, te, og, p4, g4, e6, r1, r2, r3⟩ := c_G1 (LA := LA) (LE := LE) (d := w3) hI3 hl hb hM3 hm hs5.1 g3
  obtain ⟨w4, hw4⟩ : ∃ w, w = cs_rqOrig (cs_rqTerm (cs_rqStart (cs_rqTrace w3 (nI tr)) (nI st)) te) (nI og) := ⟨_, rfl⟩
  rw [← hw4] at e6
  have hI4 : cIn w4 B := by rw [hw4]; exact k_cIn_cs_rqOrig (k_cIn_cs_rqTerm (k_cIn_cs_rqStart (k_cIn_cs_rqTrace hI3)))
  have e7 := c_end (LA := LA) (LE := LE) (d := w4) hI4 hl r2 g4
  have ew : jc_Request_readWhole LA LE d = if ty / 10 % 10 = 0 then (if belongs ty mp then some ((if g4 = true ∧ p4 = B.length then 1 else 0 : Int32), rdS w4 p4 g4) else some (0, rdS w2 p2 g2)) else some (0, rdS w2 p2 g2) := by
    unfold jc_Request_readWhole
    have er : jc_Reader_restart LA LE d = some (rdS d 0 true) := rfl
    rw [er, ob_s, e1, ob_s]
    try dsimp only
    rw [lN_i, nmd_e, rdS_rqType, ← hw1, e2, ob_s]
    try dsimp only
    rw [nmd_e, rdS_rqMap, ← hw2, rdS_gt, hT2, e4, e3, ob_s]
    by_cases c1 : ty / 10 % 10 = 0
    · rw [c1, if_pos (show nI 0 = 0 from rfl), if_pos rfl]
      by_cases c2 : belongs ty mp
      · rw [if_pos c2, if_pos c2, if_neg (by decide), e5, ob_s, e6, ob_s, e7, ob_s]
        by_cases c3 : g4 = true ∧ p4 = B.length
        · rw [if_pos c3, if_pos (Or.inr rfl)]
        · rw [if_neg c3, if_pos (Or.inl rfl)]
      · rw [if_neg c2, if_neg c2, if_pos rfl]
    · rw [if_neg (show ¬ _ = (0 : Int32) from fun q => c1 ((nI_eq (b := 0) (by omega) (by decide)).mp q)), if_neg c1]
  have hk2 : ck w2 = ck d := by rw [hw2, ck_rqMap, hw1, ck_rqType]
  have hk4 : ck w4 = ck d := by rw [hw4, ck_rqOrig, ck_rqTerm, ck_rqStart, ck_rqTrace, hw3, ck_rqAmount, ck_rqSort, ck_rqCard, hk2]
  have ks2 : ck (rdS w2 p2 g2) = ck d := (ck_rdS w2 p2 g2).trans hk2
  have ks4 : ck (rdS w4 p4 g4) = ck d := (ck_rdS w4 p4 g4).trans hk4
  rw [ew]
  by_cases hg : g2 = true
  · have h18 : p1 + 8 ≤ B.length := Classical.byContradiction (fun q => by rw [hn2 q] at hg; cases hg)
    obtain ⟨y1, y2, y3⟩ := hy2 h18
    have hg1 : g1 = true := by rw [← y1]; exact hg
    have hs : sD B 4 0 = some (ty, p1) := by
      rcases hs1.2.2 rfl with ⟨a, b⟩ | ⟨a, b⟩
      · exact a
      · rw [b] at hg1
        cases hg1
    have hp1 := (sD_pos hs).1
    have hp1 : p1 = 2 := hp1
    subst hp1
    have y3 : p2 = 10 := y3
    subst y3
    have ep : prs B = if 10 ≤ B.length ∧ ty / 10 % 10 = 0 ∧ belongs ty mp then (pMon B mp 10).bind fun a => (pOth B mp a.2.2.2).bind fun o => if o.2.2.2.2 = B.length then some (ty, mp, a.1, a.2.1, a.2.2.1, o.1, o.2.1, o.2.2.1, o.2.2.2.1) else none else none := by
      unfold prs
      rw [hs, ob_s, y2]
    rw [ep]
    by_cases c1 : ty / 10 % 10 = 0
    · rw [if_pos c1]
      by_cases c2 : belongs ty mp
      · rw [if_pos c2, if_pos (show 10 ≤ B.length ∧ ty / 10 % 10 = 0 ∧ belongs ty mp from ⟨by omega, c1, c2⟩)]
        refine ⟨_, _, rfl, ks4, ?_⟩
        rcases hs5.2.2 hg with ⟨a1, a2⟩ | ⟨a1, a2⟩
        · rw [a1, ob_s]
          try dsimp only
          rcases r3 a2 with ⟨b1, b2⟩ | ⟨b1, b2⟩
          · rw [b1, ob_s]
            try dsimp only
            by_cases c3 : p4 = B.length
            · rw [if_pos (show g4 = true ∧ p4 = B.length from ⟨b2, c3⟩), if_pos c3]
              exact Or.inr ⟨rfl, _, rfl, rqIs_rdS (by rw [hw4, hw3, hw2, hw1]; exact rqIs_all d ty mp cd so am tr st te og)⟩
            · rw [if_neg (show ¬ (g4 = true ∧ p4 = B.length) from fun q => c3 q.2), if_neg c3]
              exact Or.inl ⟨rfl, rfl⟩
          · rw [b1, if_neg (show ¬ (g4 = true ∧ p4 = B.length) from fun q => by rw [b2] at q; exact absurd q.1 (by decide))]
            exact Or.inl ⟨rfl, rfl⟩
        · rw [a1, if_neg (show ¬ (g4 = true ∧ p4 = B.length) from fun q => by rw [r1 a2] at q; exact absurd q.1 (by decide))]
          exact Or.inl ⟨rfl, rfl⟩
      · rw [if_neg c2, if_neg (fun q => c2 q.2.2)]
        exact ⟨_, _, rfl, ks2, Or.inl ⟨rfl, rfl⟩⟩
    · rw [if_neg c1, if_neg (fun q => c1 q.2.1)]
      exact ⟨_, _, rfl, ks2, Or.inl ⟨rfl, rfl⟩⟩
  · have hg : g2 = false := by
      cases g2 with
      | false => rfl
      | true => exact absurd rfl hg
    have hg4 : g4 = false := r1 (hs5.2.1 hg)
    have ep : prs B = none := by
      unfold prs
      rcases hs1.2.2 rfl with ⟨a, b⟩ | ⟨a, b⟩
      · have hp1 : p1 = 2 := (sD_pos a).1
        have h8 : ¬ 10 ≤ B.length := fun q => by
          have := (hy2 (by omega)).1
          rw [hg, b] at this
          cases this
        rw [a, ob_s]
        exact if_neg (fun q => h8 q.1)
      · rw [a]
        rfl
    rw [ep]
    by_cases c1 : ty / 10 % 10 = 0
    · rw [if_pos c1]
      by_cases c2 : belongs ty mp
      · rw [if_pos c2, if_neg (show ¬ (g4 = true ∧ p4 = B.length) from fun q => by rw [hg4] at q; exact absurd q.1 (by decide))]
        exact ⟨_, _, rfl, ks4, Or.inl ⟨rfl, rfl⟩⟩
      · rw [if_neg c2]
        exact ⟨_, _, rfl, ks2, Or.inl ⟨rfl, rfl⟩⟩
    · rw [if_neg c1]
      exact ⟨_, _, rfl, ks2, Or.inl ⟨rfl, rfl⟩⟩
