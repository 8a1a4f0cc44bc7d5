/-- the tables' words that stay true in every later state -/
def gt : List Cond := lw_tbl.filter goodWord
theorem gt_t {i : Nat} {w : Cond} (h : tables_1[i]? = some w) (hg : goodWord w = true) : w ∈ gt := List.mem_filter.mpr ⟨List.mem_append_right _ (List.mem_of_getElem? h), hg⟩
theorem gt_s {i : Nat} {q : MethodName × Nat} (h : lw_privs[i]? = some q) : Cond.selects q.1.cls q.1 q.1 ∈ gt := List.mem_filter.mpr ⟨List.mem_append_left _ (List.mem_map.mpr ⟨q, List.mem_of_getElem? h, rfl⟩), rfl⟩
theorem gt_g {w : Cond} (h : w ∈ gt) : w ∈ gt ∧ ((w.onTables && w.keeps) = true ∨ ∃ ty, w = .arrayClass ty) := ⟨h, good_of_word (List.mem_filter.mp h).2⟩
theorem gt_c {c : Cond} (hc : c ∈ gt) : GoodIn gt (c :: gt) := fun w h => (List.mem_cons.mp h).elim (fun e => e ▸ gt_g hc) gt_g
theorem gtV {own C : String} {idx : Nat} {y : MethodName} {c : Cond} (h1 : Cond.methodLink own idx y ∈ gt) (h2 : Cond.instanceMethod y ∈ gt) (h3 : Cond.selects C y y ∈ gt) (h4 : Cond.initialized C ∈ gt) (hc : c ∈ gt) : GoodIn gt (wsV own idx C y (c :: gt)) := by
  intro w h
  rcases List.mem_append.mp h with h | h
  · simp only [List.mem_cons, List.not_mem_nil, or_false] at h
    rcases h with rfl | rfl | rfl | rfl
    · exact gt_g h1
    · exact gt_g h2
    · exact gt_g h3
    · exact gt_g h4
  · exact gt_c hc w h
theorem gtS {own : String} {idx : Nat} {y : MethodName} {c : Cond} (h1 : Cond.methodLink own idx y ∈ gt) (h2 : Cond.static y ∈ gt) (h4 : Cond.initialized own ∈ gt) (hc : c ∈ gt) : GoodIn gt (wsS own idx y (c :: gt)) := by
  intro w h
  rcases List.mem_append.mp h with h | h
  · simp only [List.mem_cons, List.not_mem_nil, or_false] at h
    rcases h with rfl | rfl | rfl
    · exact gt_g h1
    · exact gt_g h2
    · exact gt_g h4
  · exact gt_c hc w h
theorem gt_of {args : Array Value} {s : State} (h : ∀ w ∈ lw_tbl, w.before args s = true) : ∀ w ∈ gt, w.before args s = true := fun w hw => h w (List.mem_filter.mp hw).1
/-- the links among nest mates -/
def nF : List (String × Nat × String × String × String × String) := [("CardMessageDesk", 59, "CardMessageDesk$ByteRow", "size", "I", "CardMessageDesk"), ("CardMessageDesk$Reader", 23, "CardMessageDesk$ByteRow", "size", "I", "CardMessageDesk"), ("CardMessageDesk$Request", 95, "CardMessageDesk$Reader", "place", "I", "CardMessageDesk"), ("CardMessageDesk$Entry", 9, "CardMessageDesk$Request", "type", "I", "CardMessageDesk"), ("CardMessageDesk$Journal", 29, "CardMessageDesk$Request", "type", "I", "CardMessageDesk"), ("CardMessageDesk", 136, "CardMessageDesk$Request", "type", "I", "CardMessageDesk"), ("CardMessageDesk", 204, "CardMessageDesk$Request", "map", "J", "CardMessageDesk"), ("CardMessageDesk$Entry", 26, "CardMessageDesk$Request", "card", "J", "CardMessageDesk"), ("CardMessageDesk", 153, "CardMessageDesk$Request", "card", "J", "CardMessageDesk"), ("CardMessageDesk$Entry", 37, "CardMessageDesk$Request", "amount", "J", "CardMessageDesk"), ("CardMessageDesk", 169, "CardMessageDesk$Request", "amount", "J", "CardMessageDesk"), ("CardMessageDesk$Entry", 22, "CardMessageDesk$Request", "trace", "I", "CardMessageDesk"), ("CardMessageDesk$Journal", 39, "CardMessageDesk$Request", "trace", "I", "CardMessageDesk"), ("CardMessageDesk$Entry", 18, "CardMessageDesk$Request", "terminal", "I", "CardMessageDesk"), ("CardMessageDesk$Journal", 35, "CardMessageDesk$Request", "terminal", "I", "CardMessageDesk"), ("CardMessageDesk", 198, "CardMessageDesk$Request", "terminal", "I", "CardMessageDesk"), ("CardMessageDesk", 222, "CardMessageDesk$Request", "terminalStart", "I", "CardMessageDesk"), ("CardMessageDesk$Entry", 60, "CardMessageDesk$Request", "originalTrace", "I", "CardMessageDesk"), ("CardMessageDesk$Cards", 22, "CardMessageDesk$Account", "card", "J", "CardMessageDesk"), ("CardMessageDesk$Journal", 60, "CardMessageDesk$Account", "card", "J", "CardMessageDesk"), ("CardMessageDesk$Cards", 30, "CardMessageDesk$Account", "balance", "J", "CardMessageDesk"), ("CardMessageDesk$Journal", 52, "CardMessageDesk$Account", "balance", "J", "CardMessageDesk"), ("CardMessageDesk", 94, "CardMessageDesk$Account", "balance", "J", "CardMessageDesk"), ("CardMessageDesk$Journal", 26, "CardMessageDesk$Entry", "type", "I", "CardMessageDesk"), ("CardMessageDesk", 108, "CardMessageDesk$Entry", "type", "I", "CardMessageDesk"), ("CardMessageDesk$Journal", 32, "CardMessageDesk$Entry", "terminal", "I", "CardMessageDesk"), ("CardMessageDesk$Journal", 36, "CardMessageDesk$Entry", "trace", "I", "CardMessageDesk"), ("CardMessageDesk", 113, "CardMessageDesk$Entry", "trace", "I", "CardMessageDesk"), ("CardMessageDesk$Journal", 57, "CardMessageDesk$Entry", "card", "J", "CardMessageDesk"), ("CardMessageDesk$Journal", 61, "CardMessageDesk$Entry", "amount", "J", "CardMessageDesk"), ("CardMessageDesk", 125, "CardMessageDesk$Entry", "amount", "J", "CardMessageDesk"), ("CardMessageDesk", 116, "CardMessageDesk$Entry", "answer", "I", "CardMessageDesk"), ("CardMessageDesk", 188, "CardMessageDesk$Entry", "state", "I", "CardMessageDesk"), ("CardMessageDesk", 103, "CardMessageDesk$Journal", "size", "I", "CardMessageDesk"), ("CardMessageDesk", 85, "CardMessageDesk$Journal", "time", "J", "CardMessageDesk")]
def nM : List (String × Nat × MethodName × String) := [("CardMessageDesk$Cards", 17, ⟨"CardMessageDesk$Account", "<init>", "()V"⟩, "CardMessageDesk"), ("CardMessageDesk$Journal", 17, ⟨"CardMessageDesk$Entry", "<init>", "()V"⟩, "CardMessageDesk")]
def nw (U : State) : Prop := (∀ q ∈ nF, va_Nw (.fieldLinkNest q.1 q.2.1 q.2.2.1 q.2.2.2.1 q.2.2.2.2.1 q.2.2.2.2.2) U) ∧ ∀ q ∈ nM, va_Nw (.methodLinkNest q.1 q.2.1 q.2.2.1 q.2.2.2) U
theorem nw_warm {s U : State} (hW : s.WarmedH U.vm) (h : nw s) : nw U := ⟨fun q hq => va_Nw.warmF hW (h.1 q hq), fun q hq => va_Nw.warmM hW (h.2 q hq)⟩
theorem nw_same {u U : State} (hv : u.vm = U.vm) (h : nw u) : nw U := ⟨fun q hq => va_Nw.same rfl hv (h.1 q hq), fun q hq => va_Nw.same rfl hv (h.2 q hq)⟩
theorem nw_f {s : State} {args : Array Value} (h : nw s) {i : Nat} {q : String × Nat × String × String × String × String} (hq : nF[i]? = some q) : (Cond.fieldLinkNest q.1 q.2.1 q.2.2.1 q.2.2.2.1 q.2.2.2.2.1 q.2.2.2.2.2).before args s = true := va_Nw.use rfl (h.1 q (List.mem_of_getElem? hq))
theorem nw_m {s : State} (h : nw s) {i : Nat} {q : String × Nat × MethodName × String} (hq : nM[i]? = some q) : va_Nw (.methodLinkNest q.1 q.2.1 q.2.2.1 q.2.2.2) s := h.2 q (List.mem_of_getElem? hq)
def T_Acc : u_T := fun k => match k with
  | 0 => ("CardMessageDesk$Account", "card", "J", false)
  | _ => ("CardMessageDesk$Account", "balance", "J", false)
def ty_Acc : Nat → FieldType := fun k => match k with
  | 0 => .long
  | _ => .long
theorem nm_Acc : ∀ a, a < 2 → ∀ b, b < 2 → a ≠ b → (T_Acc a).2.1 ≠ (T_Acc b).2.1 := by decide +kernel
theorem ty_Acc_ok : ∀ k, k < 2 → parseFieldDescriptor (T_Acc k).2.2.1 = some (ty_Acc k) := by decide +kernel
set_option maxRecDepth 20000 in
theorem in_Acc : ∀ w ∈ u_ws "CardMessageDesk$Account" T_Acc 2, w ∈ gt := by decide +kernel
def T_Row : u_T := fun k => match k with
  | 0 => ("CardMessageDesk$ByteRow", "bytes", "[I", true)
  | _ => ("CardMessageDesk$ByteRow", "size", "I", false)
def ty_Row : Nat → FieldType := fun k => match k with
  | 0 => .array .int
  | _ => .int
theorem nm_Row : ∀ a, a < 2 → ∀ b, b < 2 → a ≠ b → (T_Row a).2.1 ≠ (T_Row b).2.1 := by decide +kernel
theorem ty_Row_ok : ∀ k, k < 2 → parseFieldDescriptor (T_Row k).2.2.1 = some (ty_Row k) := by decide +kernel
set_option maxRecDepth 20000 in
theorem in_Row : ∀ w ∈ u_ws "CardMessageDesk$ByteRow" T_Row 2, w ∈ gt := by decide +kernel
def T_Crd : u_T := fun k => match k with
  | 0 => ("CardMessageDesk$Cards", "accounts", "[LCardMessageDesk$Account;", true)
  | _ => ("CardMessageDesk$Cards", "count", "I", false)
def ty_Crd : Nat → FieldType := fun k => match k with
  | 0 => .array (.object "CardMessageDesk$Account")
  | _ => .int
theorem nm_Crd : ∀ a, a < 2 → ∀ b, b < 2 → a ≠ b → (T_Crd a).2.1 ≠ (T_Crd b).2.1 := by decide +kernel
theorem ty_Crd_ok : ∀ k, k < 2 → parseFieldDescriptor (T_Crd k).2.2.1 = some (ty_Crd k) := by decide +kernel
set_option maxRecDepth 20000 in
theorem in_Crd : ∀ w ∈ u_ws "CardMessageDesk$Cards" T_Crd 2, w ∈ gt := by decide +kernel
def T_Ent : u_T := fun k => match k with
  | 0 => ("CardMessageDesk$Entry", "type", "I", false)
  | 1 => ("CardMessageDesk$Entry", "terminal", "I", false)
  | 2 => ("CardMessageDesk$Entry", "trace", "I", false)
  | 3 => ("CardMessageDesk$Entry", "card", "J", false)
  | 4 => ("CardMessageDesk$Entry", "sortKind", "I", false)
  | 5 => ("CardMessageDesk$Entry", "amount", "J", false)
  | 6 => ("CardMessageDesk$Entry", "answer", "I", false)
  | 7 => ("CardMessageDesk$Entry", "state", "I", false)
  | _ => ("CardMessageDesk$Entry", "made", "J", false)
def ty_Ent : Nat → FieldType := fun k => match k with
  | 0 => .int
  | 1 => .int
  | 2 => .int
  | 3 => .long
  | 4 => .int
  | 5 => .long
  | 6 => .int
  | 7 => .int
  | _ => .long
theorem nm_Ent : ∀ a, a < 9 → ∀ b, b < 9 → a ≠ b → (T_Ent a).2.1 ≠ (T_Ent b).2.1 := by decide +kernel
theorem ty_Ent_ok : ∀ k, k < 9 → parseFieldDescriptor (T_Ent k).2.2.1 = some (ty_Ent k) := by decide +kernel
set_option maxRecDepth 20000 in
theorem in_Ent : ∀ w ∈ u_ws "CardMessageDesk$Entry" T_Ent 9, w ∈ gt := by decide +kernel
def T_Jou : u_T := fun k => match k with
  | 0 => ("CardMessageDesk$Journal", "lines", "[LCardMessageDesk$Entry;", true)
  | 1 => ("CardMessageDesk$Journal", "size", "I", false)
  | _ => ("CardMessageDesk$Journal", "time", "J", false)
def ty_Jou : Nat → FieldType := fun k => match k with
  | 0 => .array (.object "CardMessageDesk$Entry")
  | 1 => .int
  | _ => .long
theorem nm_Jou : ∀ a, a < 3 → ∀ b, b < 3 → a ≠ b → (T_Jou a).2.1 ≠ (T_Jou b).2.1 := by decide +kernel
theorem ty_Jou_ok : ∀ k, k < 3 → parseFieldDescriptor (T_Jou k).2.2.1 = some (ty_Jou k) := by decide +kernel
set_option maxRecDepth 20000 in
theorem in_Jou : ∀ w ∈ u_ws "CardMessageDesk$Journal" T_Jou 3, w ∈ gt := by decide +kernel
def T_Rdr : u_T := fun k => match k with
  | 0 => ("CardMessageDesk$Reader", "row", "LCardMessageDesk$ByteRow;", true)
  | 1 => ("CardMessageDesk$Reader", "place", "I", false)
  | _ => ("CardMessageDesk$Reader", "good", "Z", false)
def ty_Rdr : Nat → FieldType := fun k => match k with
  | 0 => .object "CardMessageDesk$ByteRow"
  | 1 => .int
  | _ => .boolean
theorem nm_Rdr : ∀ a, a < 3 → ∀ b, b < 3 → a ≠ b → (T_Rdr a).2.1 ≠ (T_Rdr b).2.1 := by decide +kernel
theorem ty_Rdr_ok : ∀ k, k < 3 → parseFieldDescriptor (T_Rdr k).2.2.1 = some (ty_Rdr k) := by decide +kernel
set_option maxRecDepth 20000 in
theorem in_Rdr : ∀ w ∈ u_ws "CardMessageDesk$Reader" T_Rdr 3, w ∈ gt := by decide +kernel
def T_Req : u_T := fun k => match k with
  | 0 => ("CardMessageDesk$Request", "reader", "LCardMessageDesk$Reader;", true)
  | 1 => ("CardMessageDesk$Request", "type", "I", false)
  | 2 => ("CardMessageDesk$Request", "map", "J", false)
  | 3 => ("CardMessageDesk$Request", "card", "J", false)
  | 4 => ("CardMessageDesk$Request", "sort", "I", false)
  | 5 => ("CardMessageDesk$Request", "amount", "J", false)
  | 6 => ("CardMessageDesk$Request", "trace", "I", false)
  | 7 => ("CardMessageDesk$Request", "terminal", "I", false)
  | 8 => ("CardMessageDesk$Request", "terminalStart", "I", false)
  | _ => ("CardMessageDesk$Request", "originalTrace", "I", false)
def ty_Req : Nat → FieldType := fun k => match k with
  | 0 => .object "CardMessageDesk$Reader"
  | 1 => .int
  | 2 => .long
  | 3 => .long
  | 4 => .int
  | 5 => .long
  | 6 => .int
  | 7 => .int
  | 8 => .int
  | _ => .int
theorem nm_Req : ∀ a, a < 10 → ∀ b, b < 10 → a ≠ b → (T_Req a).2.1 ≠ (T_Req b).2.1 := by decide +kernel
theorem ty_Req_ok : ∀ k, k < 10 → parseFieldDescriptor (T_Req k).2.2.1 = some (ty_Req k) := by decide +kernel
set_option maxRecDepth 20000 in
theorem in_Req : ∀ w ∈ u_ws "CardMessageDesk$Request" T_Req 10, w ∈ gt := by decide +kernel
def T_Dsk : u_T := fun k => match k with
  | 0 => ("CardMessageDesk", "in", "LCardMessageDesk$ByteRow;", true)
  | 1 => ("CardMessageDesk", "latestReply", "LCardMessageDesk$ByteRow;", true)
  | 2 => ("CardMessageDesk", "request", "LCardMessageDesk$Request;", true)
  | 3 => ("CardMessageDesk", "cards", "LCardMessageDesk$Cards;", true)
  | 4 => ("CardMessageDesk", "journal", "LCardMessageDesk$Journal;", true)
  | 5 => ("CardMessageDesk", "settledSum", "J", false)
  | _ => ("CardMessageDesk", "settledNow", "J", false)
def ty_Dsk : Nat → FieldType := fun k => match k with
  | 0 => .object "CardMessageDesk$ByteRow"
  | 1 => .object "CardMessageDesk$ByteRow"
  | 2 => .object "CardMessageDesk$Request"
  | 3 => .object "CardMessageDesk$Cards"
  | 4 => .object "CardMessageDesk$Journal"
  | 5 => .long
  | _ => .long
theorem nm_Dsk : ∀ a, a < 7 → ∀ b, b < 7 → a ≠ b → (T_Dsk a).2.1 ≠ (T_Dsk b).2.1 := by decide +kernel
theorem ty_Dsk_ok : ∀ k, k < 7 → parseFieldDescriptor (T_Dsk k).2.2.1 = some (ty_Dsk k) := by decide +kernel
set_option maxRecDepth 20000 in
theorem in_Dsk : ∀ w ∈ u_ws "CardMessageDesk" T_Dsk 7, w ∈ gt := by decide +kernel
def T_Mod : u_T := fun k => match k with
  | 0 => ("CardMessageDeskModel", "cards", "[J", true)
  | 1 => ("CardMessageDeskModel", "balances", "[J", true)
  | 2 => ("CardMessageDeskModel", "many", "I", false)
  | 3 => ("CardMessageDeskModel", "now", "I", false)
  | 4 => ("CardMessageDeskModel", "in", "[I", true)
  | 5 => ("CardMessageDeskModel", "ins", "I", false)
  | 6 => ("CardMessageDeskModel", "out", "[I", true)
  | 7 => ("CardMessageDeskModel", "outs", "I", false)
  | 8 => ("CardMessageDeskModel", "at", "I", false)
  | 9 => ("CardMessageDeskModel", "value", "J", false)
  | 10 => ("CardMessageDeskModel", "has", "[Z", true)
  | 11 => ("CardMessageDeskModel", "from", "[I", true)
  | 12 => ("CardMessageDeskModel", "to", "[I", true)
  | 13 => ("CardMessageDeskModel", "type", "I", false)
  | 14 => ("CardMessageDeskModel", "card", "J", false)
  | 15 => ("CardMessageDeskModel", "sort", "I", false)
  | 16 => ("CardMessageDeskModel", "amount", "J", false)
  | 17 => ("CardMessageDeskModel", "trace", "I", false)
  | 18 => ("CardMessageDeskModel", "terminal", "I", false)
  | 19 => ("CardMessageDeskModel", "original", "I", false)
  | 20 => ("CardMessageDeskModel", "entries", "I", false)
  | 21 => ("CardMessageDeskModel", "types", "[I", true)
  | 22 => ("CardMessageDeskModel", "terminals", "[I", true)
  | 23 => ("CardMessageDeskModel", "traces", "[I", true)
  | 24 => ("CardMessageDeskModel", "whose", "[J", true)
  | 25 => ("CardMessageDeskModel", "sorts", "[I", true)
  | 26 => ("CardMessageDeskModel", "amounts", "[J", true)
  | 27 => ("CardMessageDeskModel", "answers", "[I", true)
  | 28 => ("CardMessageDeskModel", "marks", "[I", true)
  | 29 => ("CardMessageDeskModel", "made", "[I", true)
  | 30 => ("CardMessageDeskModel", "settled", "J", false)
  | _ => ("CardMessageDeskModel", "closed", "J", false)
def ty_Mod : Nat → FieldType := fun k => match k with
  | 0 => .array .long
  | 1 => .array .long
  | 2 => .int
  | 3 => .int
  | 4 => .array .int
  | 5 => .int
  | 6 => .array .int
  | 7 => .int
  | 8 => .int
  | 9 => .long
  | 10 => .array .boolean
  | 11 => .array .int
  | 12 => .array .int
  | 13 => .int
  | 14 => .long
  | 15 => .int
  | 16 => .long
  | 17 => .int
  | 18 => .int
  | 19 => .int
  | 20 => .int
  | 21 => .array .int
  | 22 => .array .int
  | 23 => .array .int
  | 24 => .array .long
  | 25 => .array .int
  | 26 => .array .long
  | 27 => .array .int
  | 28 => .array .int
  | 29 => .array .int
  | 30 => .long
  | _ => .long
theorem nm_Mod : ∀ a, a < 32 → ∀ b, b < 32 → a ≠ b → (T_Mod a).2.1 ≠ (T_Mod b).2.1 := by decide +kernel
theorem ty_Mod_ok : ∀ k, k < 32 → parseFieldDescriptor (T_Mod k).2.2.1 = some (ty_Mod k) := by decide +kernel
set_option maxRecDepth 20000 in
theorem in_Mod : ∀ w ∈ u_ws "CardMessageDeskModel" T_Mod 32, w ∈ gt := by decide +kernel
abbrev vwCl : List vw_C := [("CardMessageDesk$Account", T_Acc, 2), ("CardMessageDesk$ByteRow", T_Row, 2), ("CardMessageDesk$Cards", T_Crd, 2), ("CardMessageDesk$Entry", T_Ent, 9), ("CardMessageDesk$Journal", T_Jou, 3), ("CardMessageDesk$Reader", T_Rdr, 3), ("CardMessageDesk$Request", T_Req, 10), ("CardMessageDesk", T_Dsk, 7), ("CardMessageDeskModel", T_Mod, 32)]
abbrev y_Acc_init : MethodName := ⟨"CardMessageDesk$Account", "<init>", "()V"⟩
abbrev w_Acc_init : List Cond := Cond.code y_Acc_init prog_2_method_1_code 1 none :: gt
abbrev y_Row_init : MethodName := ⟨"CardMessageDesk$ByteRow", "<init>", "(I)V"⟩
abbrev w_Row_init : List Cond := Cond.code y_Row_init prog_3_method_1_code 2 none :: gt
abbrev y_Row_clear : MethodName := ⟨"CardMessageDesk$ByteRow", "clear", "()V"⟩
abbrev w_Row_clear : List Cond := Cond.code y_Row_clear prog_3_method_2_code 1 none :: gt
abbrev y_Row_byteAt : MethodName := ⟨"CardMessageDesk$ByteRow", "byteAt", "(I)I"⟩
abbrev w_Row_byteAt : List Cond := Cond.code y_Row_byteAt prog_3_method_3_code 2 (some .int) :: gt
abbrev y_Row_append : MethodName := ⟨"CardMessageDesk$ByteRow", "append", "(I)V"⟩
abbrev w_Row_append : List Cond := Cond.code y_Row_append prog_3_method_4_code 2 none :: gt
abbrev y_Row_appendBytes : MethodName := ⟨"CardMessageDesk$ByteRow", "appendBytes", "(JI)V"⟩
abbrev w_Row_appendBytes : List Cond := Cond.code y_Row_appendBytes prog_3_method_5_code 5 none :: gt
abbrev y_Row_appendDigits : MethodName := ⟨"CardMessageDesk$ByteRow", "appendDigits", "(JI)V"⟩
abbrev w_Row_appendDigits : List Cond := Cond.code y_Row_appendDigits prog_3_method_6_code 9 none :: gt
abbrev y_Row_appendFrom : MethodName := ⟨"CardMessageDesk$ByteRow", "appendFrom", "(LCardMessageDesk$ByteRow;II)V"⟩
abbrev w_Row_appendFrom : List Cond := Cond.code y_Row_appendFrom prog_3_method_7_code 5 none :: gt
abbrev y_Crd_init : MethodName := ⟨"CardMessageDesk$Cards", "<init>", "()V"⟩
abbrev w_Crd_init : List Cond := Cond.code y_Crd_init prog_4_method_1_code 2 none :: gt
abbrev y_Crd_find : MethodName := ⟨"CardMessageDesk$Cards", "find", "(J)LCardMessageDesk$Account;"⟩
abbrev w_Crd_find : List Cond := Cond.code y_Crd_find prog_4_method_2_code 4 (some (.object "CardMessageDesk$Account")) :: gt
abbrev y_Crd_add : MethodName := ⟨"CardMessageDesk$Cards", "add", "(JJ)Z"⟩
abbrev w_Crd_add : List Cond := Cond.code y_Crd_add prog_4_method_3_code 5 (some .boolean) :: gt
abbrev y_Ent_init : MethodName := ⟨"CardMessageDesk$Entry", "<init>", "()V"⟩
abbrev w_Ent_init : List Cond := Cond.code y_Ent_init prog_5_method_1_code 1 none :: gt
abbrev y_Ent_fill : MethodName := ⟨"CardMessageDesk$Entry", "fill", "(LCardMessageDesk$Request;IJ)V"⟩
abbrev w_Ent_fill : List Cond := Cond.code y_Ent_fill prog_5_method_2_code 5 none :: gt
abbrev y_Ent_isHoldAt : MethodName := ⟨"CardMessageDesk$Entry", "isHoldAt", "(J)Z"⟩
abbrev w_Ent_isHoldAt : List Cond := Cond.code y_Ent_isHoldAt prog_5_method_3_code 3 (some .boolean) :: gt
abbrev y_Ent_stateAt : MethodName := ⟨"CardMessageDesk$Entry", "stateAt", "(J)I"⟩
abbrev w_Ent_stateAt : List Cond := Cond.code y_Ent_stateAt prog_5_method_4_code 3 (some .int) :: gt
abbrev y_Ent_isPosted : MethodName := ⟨"CardMessageDesk$Entry", "isPosted", "()Z"⟩
abbrev w_Ent_isPosted : List Cond := Cond.code y_Ent_isPosted prog_5_method_5_code 1 (some .boolean) :: gt
abbrev y_Ent_moved : MethodName := ⟨"CardMessageDesk$Entry", "moved", "()J"⟩
abbrev w_Ent_moved : List Cond := Cond.code y_Ent_moved prog_5_method_6_code 1 (some .long) :: gt
abbrev y_Ent_isOriginalOf : MethodName := ⟨"CardMessageDesk$Entry", "isOriginalOf", "(LCardMessageDesk$Request;)Z"⟩
abbrev w_Ent_isOriginalOf : List Cond := Cond.code y_Ent_isOriginalOf prog_5_method_7_code 2 (some .boolean) :: gt
abbrev y_Jou_init : MethodName := ⟨"CardMessageDesk$Journal", "<init>", "()V"⟩
abbrev w_Jou_init : List Cond := Cond.code y_Jou_init prog_6_method_1_code 2 none :: gt
abbrev y_Jou_lineAt : MethodName := ⟨"CardMessageDesk$Journal", "lineAt", "(I)LCardMessageDesk$Entry;"⟩
abbrev w_Jou_lineAt : List Cond := Cond.code y_Jou_lineAt prog_6_method_2_code 2 (some (.object "CardMessageDesk$Entry")) :: gt
abbrev y_Jou_findSame : MethodName := ⟨"CardMessageDesk$Journal", "findSame", "(LCardMessageDesk$Request;)LCardMessageDesk$Entry;"⟩
abbrev w_Jou_findSame : List Cond := Cond.code y_Jou_findSame prog_6_method_3_code 4 (some (.object "CardMessageDesk$Entry")) :: gt
abbrev y_Jou_findHold : MethodName := ⟨"CardMessageDesk$Journal", "findHold", "(LCardMessageDesk$Request;)LCardMessageDesk$Entry;"⟩
abbrev w_Jou_findHold : List Cond := Cond.code y_Jou_findHold prog_6_method_4_code 3 (some (.object "CardMessageDesk$Entry")) :: gt
abbrev y_Jou_findReversible : MethodName := ⟨"CardMessageDesk$Journal", "findReversible", "(LCardMessageDesk$Request;)LCardMessageDesk$Entry;"⟩
abbrev w_Jou_findReversible : List Cond := Cond.code y_Jou_findReversible prog_6_method_5_code 4 (some (.object "CardMessageDesk$Entry")) :: gt
abbrev y_Jou_availableOn : MethodName := ⟨"CardMessageDesk$Journal", "availableOn", "(LCardMessageDesk$Account;)J"⟩
abbrev w_Jou_availableOn : List Cond := Cond.code y_Jou_availableOn prog_6_method_6_code 5 (some .long) :: gt
abbrev y_Jou_netOf : MethodName := ⟨"CardMessageDesk$Journal", "netOf", "(I)J"⟩
abbrev w_Jou_netOf : List Cond := Cond.code y_Jou_netOf prog_6_method_7_code 5 (some .long) :: gt
abbrev y_Jou_add : MethodName := ⟨"CardMessageDesk$Journal", "add", "(LCardMessageDesk$Request;I)V"⟩
abbrev w_Jou_add : List Cond := Cond.code y_Jou_add prog_6_method_8_code 3 none :: gt
abbrev y_Jou_takeOut : MethodName := ⟨"CardMessageDesk$Journal", "takeOut", "(I)V"⟩
abbrev w_Jou_takeOut : List Cond := Cond.code y_Jou_takeOut prog_6_method_9_code 5 none :: gt
abbrev y_Rdr_init : MethodName := ⟨"CardMessageDesk$Reader", "<init>", "(LCardMessageDesk$ByteRow;)V"⟩
abbrev w_Rdr_init : List Cond := Cond.code y_Rdr_init prog_7_method_1_code 2 none :: gt
abbrev y_Rdr_restart : MethodName := ⟨"CardMessageDesk$Reader", "restart", "()V"⟩
abbrev w_Rdr_restart : List Cond := Cond.code y_Rdr_restart prog_7_method_2_code 1 none :: gt
abbrev y_Rdr_isAtGoodEnd : MethodName := ⟨"CardMessageDesk$Reader", "isAtGoodEnd", "()Z"⟩
abbrev w_Rdr_isAtGoodEnd : List Cond := Cond.code y_Rdr_isAtGoodEnd prog_7_method_3_code 1 (some .boolean) :: gt
abbrev y_Rdr_readByte : MethodName := ⟨"CardMessageDesk$Reader", "readByte", "()I"⟩
abbrev w_Rdr_readByte : List Cond := Cond.code y_Rdr_readByte prog_7_method_4_code 2 (some .int) :: gt
abbrev y_Rdr_readBytes : MethodName := ⟨"CardMessageDesk$Reader", "readBytes", "(I)J"⟩
abbrev w_Rdr_readBytes : List Cond := Cond.code y_Rdr_readBytes prog_7_method_5_code 5 (some .long) :: gt
abbrev y_Rdr_readDigits : MethodName := ⟨"CardMessageDesk$Reader", "readDigits", "(I)J"⟩
abbrev w_Rdr_readDigits : List Cond := Cond.code y_Rdr_readDigits prog_7_method_6_code 9 (some .long) :: gt
abbrev y_Rdr_readCount : MethodName := ⟨"CardMessageDesk$Reader", "readCount", "(III)I"⟩
abbrev w_Rdr_readCount : List Cond := Cond.code y_Rdr_readCount prog_7_method_7_code 6 (some .int) :: gt
abbrev y_Rdr_readCharacters : MethodName := ⟨"CardMessageDesk$Reader", "readCharacters", "(I)I"⟩
abbrev w_Rdr_readCharacters : List Cond := Cond.code y_Rdr_readCharacters prog_7_method_8_code 5 (some .int) :: gt
abbrev y_Req_init : MethodName := ⟨"CardMessageDesk$Request", "<init>", "(LCardMessageDesk$ByteRow;)V"⟩
abbrev w_Req_init : List Cond := Cond.code y_Req_init prog_8_method_1_code 2 none :: gt
abbrev y_Req_has : MethodName := ⟨"CardMessageDesk$Request", "has", "(J)Z"⟩
abbrev w_Req_has : List Cond := Cond.code y_Req_has prog_8_method_2_code 3 (some .boolean) :: gt
abbrev y_Req_sortKind : MethodName := ⟨"CardMessageDesk$Request", "sortKind", "()I"⟩
abbrev w_Req_sortKind : List Cond := Cond.code y_Req_sortKind prog_8_method_3_code 1 (some .int) :: gt
abbrev y_Req_readWhole : MethodName := ⟨"CardMessageDesk$Request", "readWhole", "()Z"⟩
abbrev w_Req_readWhole : List Cond := Cond.code y_Req_readWhole prog_8_method_4_code 1 (some .boolean) :: gt
abbrev y_Req_fieldsBelong : MethodName := ⟨"CardMessageDesk$Request", "fieldsBelong", "()Z"⟩
abbrev w_Req_fieldsBelong : List Cond := Cond.code y_Req_fieldsBelong prog_8_method_5_code 3 (some .boolean) :: gt
abbrev y_Req_neededFields : MethodName := ⟨"CardMessageDesk$Request", "neededFields", "(I)J"⟩
abbrev w_Req_neededFields : List Cond := Cond.code y_Req_neededFields prog_8_method_6_code 1 (some .long) :: gt
abbrev y_Req_allowedFields : MethodName := ⟨"CardMessageDesk$Request", "allowedFields", "(I)J"⟩
abbrev w_Req_allowedFields : List Cond := Cond.code y_Req_allowedFields prog_8_method_7_code 1 (some .long) :: gt
abbrev y_Req_readMoneyFields : MethodName := ⟨"CardMessageDesk$Request", "readMoneyFields", "()V"⟩
abbrev w_Req_readMoneyFields : List Cond := Cond.code y_Req_readMoneyFields prog_8_method_8_code 1 none :: gt
abbrev y_Req_readOtherFields : MethodName := ⟨"CardMessageDesk$Request", "readOtherFields", "()V"⟩
abbrev w_Req_readOtherFields : List Cond := Cond.code y_Req_readOtherFields prog_8_method_9_code 1 none :: gt
abbrev y_Dsk_init : MethodName := ⟨"CardMessageDesk", "<init>", "()V"⟩
abbrev w_Dsk_init : List Cond := Cond.code y_Dsk_init prog_1_method_1_code 1 none :: gt
abbrev y_Dsk_open : MethodName := ⟨"CardMessageDesk", "open", "(JJ)Z"⟩
abbrev w_Dsk_open : List Cond := Cond.code y_Dsk_open prog_1_method_2_code 5 (some .boolean) :: gt
abbrev y_Dsk_feed : MethodName := ⟨"CardMessageDesk", "feed", "(JI)I"⟩
abbrev w_Dsk_feed : List Cond := Cond.code y_Dsk_feed prog_1_method_3_code 4 (some .int) :: gt
abbrev y_Dsk_handle : MethodName := ⟨"CardMessageDesk", "handle", "()I"⟩
abbrev w_Dsk_handle : List Cond := Cond.code y_Dsk_handle prog_1_method_4_code 2 (some .int) :: gt
abbrev y_Dsk_reply : MethodName := ⟨"CardMessageDesk", "reply", "(I)I"⟩
abbrev w_Dsk_reply : List Cond := Cond.code y_Dsk_reply prog_1_method_5_code 2 (some .int) :: gt
abbrev y_Dsk_tick : MethodName := ⟨"CardMessageDesk", "tick", "(I)Z"⟩
abbrev w_Dsk_tick : List Cond := Cond.code y_Dsk_tick prog_1_method_6_code 2 (some .boolean) :: gt
abbrev y_Dsk_balance : MethodName := ⟨"CardMessageDesk", "balance", "(J)J"⟩
abbrev w_Dsk_balance : List Cond := Cond.code y_Dsk_balance prog_1_method_7_code 4 (some .long) :: gt
abbrev y_Dsk_available : MethodName := ⟨"CardMessageDesk", "available", "(J)J"⟩
abbrev w_Dsk_available : List Cond := Cond.code y_Dsk_available prog_1_method_8_code 4 (some .long) :: gt
abbrev y_Dsk_entries : MethodName := ⟨"CardMessageDesk", "entries", "()I"⟩
abbrev w_Dsk_entries : List Cond := Cond.code y_Dsk_entries prog_1_method_9_code 1 (some .int) :: gt
abbrev y_Dsk_entry : MethodName := ⟨"CardMessageDesk", "entry", "(II)I"⟩
abbrev w_Dsk_entry : List Cond := Cond.code y_Dsk_entry prog_1_method_10_code 4 (some .int) :: gt
abbrev y_Dsk_amount : MethodName := ⟨"CardMessageDesk", "amount", "(I)J"⟩
abbrev w_Dsk_amount : List Cond := Cond.code y_Dsk_amount prog_1_method_11_code 3 (some .long) :: gt
abbrev y_Dsk_net : MethodName := ⟨"CardMessageDesk", "net", "(I)J"⟩
abbrev w_Dsk_net : List Cond := Cond.code y_Dsk_net prog_1_method_12_code 2 (some .long) :: gt
abbrev y_Dsk_settled : MethodName := ⟨"CardMessageDesk", "settled", "()J"⟩
abbrev w_Dsk_settled : List Cond := Cond.code y_Dsk_settled prog_1_method_13_code 1 (some .long) :: gt
abbrev y_Dsk_answerRequest : MethodName := ⟨"CardMessageDesk", "answerRequest", "()I"⟩
abbrev w_Dsk_answerRequest : List Cond := Cond.code y_Dsk_answerRequest prog_1_method_14_code 3 (some .int) :: gt
abbrev y_Dsk_isHandled : MethodName := ⟨"CardMessageDesk", "isHandled", "(I)Z"⟩
abbrev w_Dsk_isHandled : List Cond := Cond.code y_Dsk_isHandled prog_1_method_15_code 1 (some .boolean) :: gt
abbrev y_Dsk_journalLimit : MethodName := ⟨"CardMessageDesk", "journalLimit", "(I)I"⟩
abbrev w_Dsk_journalLimit : List Cond := Cond.code y_Dsk_journalLimit prog_1_method_16_code 1 (some .int) :: gt
abbrev y_Dsk_decide : MethodName := ⟨"CardMessageDesk", "decide", "()I"⟩
abbrev w_Dsk_decide : List Cond := Cond.code y_Dsk_decide prog_1_method_17_code 2 (some .int) :: gt
abbrev y_Dsk_decideHold : MethodName := ⟨"CardMessageDesk", "decideHold", "(LCardMessageDesk$Account;)I"⟩
abbrev w_Dsk_decideHold : List Cond := Cond.code y_Dsk_decideHold prog_1_method_18_code 2 (some .int) :: gt
abbrev y_Dsk_decideMoney : MethodName := ⟨"CardMessageDesk", "decideMoney", "(LCardMessageDesk$Account;)I"⟩
abbrev w_Dsk_decideMoney : List Cond := Cond.code y_Dsk_decideMoney prog_1_method_19_code 3 (some .int) :: gt
abbrev y_Dsk_complete : MethodName := ⟨"CardMessageDesk", "complete", "(LCardMessageDesk$Account;)I"⟩
abbrev w_Dsk_complete : List Cond := Cond.code y_Dsk_complete prog_1_method_20_code 3 (some .int) :: gt
abbrev y_Dsk_debit : MethodName := ⟨"CardMessageDesk", "debit", "(LCardMessageDesk$Account;)I"⟩
abbrev w_Dsk_debit : List Cond := Cond.code y_Dsk_debit prog_1_method_21_code 2 (some .int) :: gt
abbrev y_Dsk_credit : MethodName := ⟨"CardMessageDesk", "credit", "(LCardMessageDesk$Account;)I"⟩
abbrev w_Dsk_credit : List Cond := Cond.code y_Dsk_credit prog_1_method_22_code 2 (some .int) :: gt
abbrev y_Dsk_reverse : MethodName := ⟨"CardMessageDesk", "reverse", "(LCardMessageDesk$Account;)I"⟩
abbrev w_Dsk_reverse : List Cond := Cond.code y_Dsk_reverse prog_1_method_23_code 3 (some .int) :: gt
abbrev y_Dsk_settle : MethodName := ⟨"CardMessageDesk", "settle", "()I"⟩
abbrev w_Dsk_settle : List Cond := Cond.code y_Dsk_settle prog_1_method_24_code 1 (some .int) :: gt
abbrev y_Dsk_writeReply : MethodName := ⟨"CardMessageDesk", "writeReply", "(I)V"⟩
abbrev w_Dsk_writeReply : List Cond := Cond.code y_Dsk_writeReply prog_1_method_25_code 6 none :: gt
abbrev y_Mod_init : MethodName := ⟨"CardMessageDeskModel", "<init>", "()V"⟩
abbrev w_Mod_init : List Cond := Cond.code y_Mod_init prog_10_method_1_code 1 none :: gt
abbrev y_Mod_find : MethodName := ⟨"CardMessageDeskModel", "find", "(J)I"⟩
abbrev w_Mod_find : List Cond := Cond.code y_Mod_find prog_10_method_2_code 4 (some .int) :: gt
abbrev y_Mod_open : MethodName := ⟨"CardMessageDeskModel", "open", "(JJ)Z"⟩
abbrev w_Mod_open : List Cond := Cond.code y_Mod_open prog_10_method_3_code 6 (some .boolean) :: gt
abbrev y_Mod_balance : MethodName := ⟨"CardMessageDeskModel", "balance", "(J)J"⟩
abbrev w_Mod_balance : List Cond := Cond.code y_Mod_balance prog_10_method_4_code 4 (some .long) :: gt
abbrev y_Mod_isHold : MethodName := ⟨"CardMessageDeskModel", "isHold", "(I)Z"⟩
abbrev w_Mod_isHold : List Cond := Cond.code y_Mod_isHold prog_10_method_5_code 2 (some .boolean) :: gt
abbrev y_Mod_available : MethodName := ⟨"CardMessageDeskModel", "available", "(J)J"⟩
abbrev w_Mod_available : List Cond := Cond.code y_Mod_available prog_10_method_6_code 7 (some .long) :: gt
abbrev y_Mod_tick : MethodName := ⟨"CardMessageDeskModel", "tick", "(I)Z"⟩
abbrev w_Mod_tick : List Cond := Cond.code y_Mod_tick prog_10_method_7_code 2 (some .boolean) :: gt
abbrev y_Mod_feed : MethodName := ⟨"CardMessageDeskModel", "feed", "(JI)I"⟩
abbrev w_Mod_feed : List Cond := Cond.code y_Mod_feed prog_10_method_8_code 5 (some .int) :: gt
abbrev y_Mod_digits : MethodName := ⟨"CardMessageDeskModel", "digits", "(I)Z"⟩
abbrev w_Mod_digits : List Cond := Cond.code y_Mod_digits prog_10_method_9_code 5 (some .boolean) :: gt
abbrev y_Mod_characters : MethodName := ⟨"CardMessageDeskModel", "characters", "(III)Z"⟩
abbrev w_Mod_characters : List Cond := Cond.code y_Mod_characters prog_10_method_10_code 6 (some .boolean) :: gt
abbrev y_Mod_readCard : MethodName := ⟨"CardMessageDeskModel", "readCard", "()Z"⟩
abbrev w_Mod_readCard : List Cond := Cond.code y_Mod_readCard prog_10_method_11_code 1 (some .boolean) :: gt
abbrev y_Mod_readNote : MethodName := ⟨"CardMessageDeskModel", "readNote", "()Z"⟩
abbrev w_Mod_readNote : List Cond := Cond.code y_Mod_readNote prog_10_method_12_code 1 (some .boolean) :: gt
abbrev y_Mod_readOriginal : MethodName := ⟨"CardMessageDeskModel", "readOriginal", "()Z"⟩
abbrev w_Mod_readOriginal : List Cond := Cond.code y_Mod_readOriginal prog_10_method_13_code 1 (some .boolean) :: gt
abbrev y_Mod_readField : MethodName := ⟨"CardMessageDeskModel", "readField", "(I)Z"⟩
abbrev w_Mod_readField : List Cond := Cond.code y_Mod_readField prog_10_method_14_code 3 (some .boolean) :: gt
abbrev y_Mod_readMessage : MethodName := ⟨"CardMessageDeskModel", "readMessage", "()Z"⟩
abbrev w_Mod_readMessage : List Cond := Cond.code y_Mod_readMessage prog_10_method_15_code 2 (some .boolean) :: gt
abbrev y_Mod_due : MethodName := ⟨"CardMessageDeskModel", "due", "(I)I"⟩
abbrev w_Mod_due : List Cond := Cond.code y_Mod_due prog_10_method_16_code 4 (some .int) :: gt
abbrev y_Mod_isRequest : MethodName := ⟨"CardMessageDeskModel", "isRequest", "()Z"⟩
abbrev w_Mod_isRequest : List Cond := Cond.code y_Mod_isRequest prog_10_method_17_code 3 (some .boolean) :: gt
abbrev y_Mod_same : MethodName := ⟨"CardMessageDeskModel", "same", "(II)I"⟩
abbrev w_Mod_same : List Cond := Cond.code y_Mod_same prog_10_method_18_code 4 (some .int) :: gt
abbrev y_Mod_enter : MethodName := ⟨"CardMessageDeskModel", "enter", "(II)V"⟩
abbrev w_Mod_enter : List Cond := Cond.code y_Mod_enter prog_10_method_19_code 3 none :: gt
abbrev y_Mod_authorize : MethodName := ⟨"CardMessageDeskModel", "authorize", "()I"⟩
abbrev w_Mod_authorize : List Cond := Cond.code y_Mod_authorize prog_10_method_20_code 4 (some .int) :: gt
abbrev y_Mod_payment : MethodName := ⟨"CardMessageDeskModel", "payment", "(I)I"⟩
abbrev w_Mod_payment : List Cond := Cond.code y_Mod_payment prog_10_method_21_code 4 (some .int) :: gt
abbrev y_Mod_pay : MethodName := ⟨"CardMessageDeskModel", "pay", "()I"⟩
abbrev w_Mod_pay : List Cond := Cond.code y_Mod_pay prog_10_method_22_code 3 (some .int) :: gt
abbrev y_Mod_reversible : MethodName := ⟨"CardMessageDeskModel", "reversible", "(I)Z"⟩
abbrev w_Mod_reversible : List Cond := Cond.code y_Mod_reversible prog_10_method_23_code 3 (some .boolean) :: gt
abbrev y_Mod_reverse : MethodName := ⟨"CardMessageDeskModel", "reverse", "()I"⟩
abbrev w_Mod_reverse : List Cond := Cond.code y_Mod_reverse prog_10_method_24_code 4 (some .int) :: gt
abbrev y_Mod_netOf : MethodName := ⟨"CardMessageDeskModel", "netOf", "(I)J"⟩
abbrev w_Mod_netOf : List Cond := Cond.code y_Mod_netOf prog_10_method_25_code 5 (some .long) :: gt
abbrev y_Mod_move : MethodName := ⟨"CardMessageDeskModel", "move", "(II)V"⟩
abbrev w_Mod_move : List Cond := Cond.code y_Mod_move prog_10_method_26_code 3 none :: gt
abbrev y_Mod_settle : MethodName := ⟨"CardMessageDeskModel", "settle", "()I"⟩
abbrev w_Mod_settle : List Cond := Cond.code y_Mod_settle prog_10_method_27_code 3 (some .int) :: gt
abbrev y_Mod_answer : MethodName := ⟨"CardMessageDeskModel", "answer", "()I"⟩
abbrev w_Mod_answer : List Cond := Cond.code y_Mod_answer prog_10_method_28_code 2 (some .int) :: gt
abbrev y_Mod_write : MethodName := ⟨"CardMessageDeskModel", "write", "(I)V"⟩
abbrev w_Mod_write : List Cond := Cond.code y_Mod_write prog_10_method_29_code 2 none :: gt
abbrev y_Mod_copy : MethodName := ⟨"CardMessageDeskModel", "copy", "(I)V"⟩
abbrev w_Mod_copy : List Cond := Cond.code y_Mod_copy prog_10_method_30_code 3 none :: gt
abbrev y_Mod_writeAmount : MethodName := ⟨"CardMessageDeskModel", "writeAmount", "(J)V"⟩
abbrev w_Mod_writeAmount : List Cond := Cond.code y_Mod_writeAmount prog_10_method_31_code 8 none :: gt
abbrev y_Mod_answerWith : MethodName := ⟨"CardMessageDeskModel", "answerWith", "(I)V"⟩
abbrev w_Mod_answerWith : List Cond := Cond.code y_Mod_answerWith prog_10_method_32_code 4 none :: gt
abbrev y_Mod_handle : MethodName := ⟨"CardMessageDeskModel", "handle", "()I"⟩
abbrev w_Mod_handle : List Cond := Cond.code y_Mod_handle prog_10_method_33_code 3 (some .int) :: gt
abbrev y_Mod_reply : MethodName := ⟨"CardMessageDeskModel", "reply", "(I)I"⟩
abbrev w_Mod_reply : List Cond := Cond.code y_Mod_reply prog_10_method_34_code 2 (some .int) :: gt
abbrev y_Mod_entries : MethodName := ⟨"CardMessageDeskModel", "entries", "()I"⟩
abbrev w_Mod_entries : List Cond := Cond.code y_Mod_entries prog_10_method_35_code 1 (some .int) :: gt
abbrev y_Mod_entry : MethodName := ⟨"CardMessageDeskModel", "entry", "(II)I"⟩
abbrev w_Mod_entry : List Cond := Cond.code y_Mod_entry prog_10_method_36_code 3 (some .int) :: gt
abbrev y_Mod_amount : MethodName := ⟨"CardMessageDeskModel", "amount", "(I)J"⟩
abbrev w_Mod_amount : List Cond := Cond.code y_Mod_amount prog_10_method_37_code 2 (some .long) :: gt
abbrev y_Mod_net : MethodName := ⟨"CardMessageDeskModel", "net", "(I)J"⟩
abbrev w_Mod_net : List Cond := Cond.code y_Mod_net prog_10_method_38_code 2 (some .long) :: gt
abbrev y_Mod_settled : MethodName := ⟨"CardMessageDeskModel", "settled", "()J"⟩
abbrev w_Mod_settled : List Cond := Cond.code y_Mod_settled prog_10_method_39_code 1 (some .long) :: gt
theorem tw1 : Cond.initialized "CardMessageDesk" ∈ gt := gt_t (i := 1) (by decide +kernel) rfl
theorem tw2 : Cond.initialized "CardMessageDesk$ByteRow" ∈ gt := gt_t (i := 2) (by decide +kernel) rfl
theorem tw3 : Cond.initialized "CardMessageDesk$Request" ∈ gt := gt_t (i := 3) (by decide +kernel) rfl
theorem tw4 : Cond.initialized "CardMessageDesk$Reader" ∈ gt := gt_t (i := 4) (by decide +kernel) rfl
theorem tw5 : Cond.initialized "CardMessageDesk$Cards" ∈ gt := gt_t (i := 5) (by decide +kernel) rfl
theorem tw7 : Cond.initialized "CardMessageDesk$Journal" ∈ gt := gt_t (i := 7) (by decide +kernel) rfl
theorem tw8 : Cond.initialized "CardMessageDesk$Entry" ∈ gt := gt_t (i := 8) (by decide +kernel) rfl
theorem tw9 : Cond.initialized "CardMessageDeskModel" ∈ gt := gt_t (i := 9) (by decide +kernel) rfl
theorem tw10 : Cond.initialized "java/lang/Math" ∈ gt := gt_t (i := 10) (by decide +kernel) rfl
theorem tw25 : Cond.fieldLink "CardMessageDesk$ByteRow" 9 "CardMessageDesk$ByteRow" "bytes" "[I" ∈ gt := gt_t (i := 25) (by decide +kernel) rfl
theorem tw26 : Cond.fieldLink "CardMessageDesk$ByteRow" 15 "CardMessageDesk$ByteRow" "size" "I" ∈ gt := gt_t (i := 26) (by decide +kernel) rfl
theorem tw47 : Cond.fieldLink "CardMessageDesk$Reader" 9 "CardMessageDesk$Reader" "row" "LCardMessageDesk$ByteRow;" ∈ gt := gt_t (i := 47) (by decide +kernel) rfl
theorem tw48 : Cond.fieldLink "CardMessageDesk$Reader" 15 "CardMessageDesk$Reader" "place" "I" ∈ gt := gt_t (i := 48) (by decide +kernel) rfl
theorem tw50 : Cond.fieldLink "CardMessageDesk$Reader" 19 "CardMessageDesk$Reader" "good" "Z" ∈ gt := gt_t (i := 50) (by decide +kernel) rfl
theorem tw58 : Cond.fieldLink "CardMessageDesk$Request" 16 "CardMessageDesk$Request" "reader" "LCardMessageDesk$Reader;" ∈ gt := gt_t (i := 58) (by decide +kernel) rfl
theorem tw61 : Cond.fieldLink "CardMessageDesk$Request" 35 "CardMessageDesk$Request" "type" "I" ∈ gt := gt_t (i := 61) (by decide +kernel) rfl
theorem tw63 : Cond.fieldLink "CardMessageDesk$Request" 20 "CardMessageDesk$Request" "map" "J" ∈ gt := gt_t (i := 63) (by decide +kernel) rfl
theorem tw66 : Cond.fieldLink "CardMessageDesk$Request" 82 "CardMessageDesk$Request" "card" "J" ∈ gt := gt_t (i := 66) (by decide +kernel) rfl
theorem tw68 : Cond.fieldLink "CardMessageDesk$Request" 24 "CardMessageDesk$Request" "sort" "I" ∈ gt := gt_t (i := 68) (by decide +kernel) rfl
theorem tw70 : Cond.fieldLink "CardMessageDesk$Request" 89 "CardMessageDesk$Request" "amount" "J" ∈ gt := gt_t (i := 70) (by decide +kernel) rfl
theorem tw74 : Cond.fieldLink "CardMessageDesk$Request" 92 "CardMessageDesk$Request" "trace" "I" ∈ gt := gt_t (i := 74) (by decide +kernel) rfl
theorem tw77 : Cond.fieldLink "CardMessageDesk$Request" 105 "CardMessageDesk$Request" "terminal" "I" ∈ gt := gt_t (i := 77) (by decide +kernel) rfl
theorem tw79 : Cond.fieldLink "CardMessageDesk$Request" 98 "CardMessageDesk$Request" "terminalStart" "I" ∈ gt := gt_t (i := 79) (by decide +kernel) rfl
theorem tw82 : Cond.fieldLink "CardMessageDesk$Request" 108 "CardMessageDesk$Request" "originalTrace" "I" ∈ gt := gt_t (i := 82) (by decide +kernel) rfl
theorem tw127 : Cond.fieldLink "CardMessageDesk$Cards" 11 "CardMessageDesk$Cards" "accounts" "[LCardMessageDesk$Account;" ∈ gt := gt_t (i := 127) (by decide +kernel) rfl
theorem tw128 : Cond.fieldLink "CardMessageDesk$Cards" 18 "CardMessageDesk$Cards" "count" "I" ∈ gt := gt_t (i := 128) (by decide +kernel) rfl
theorem tw147 : Cond.fieldLink "CardMessageDesk$Entry" 15 "CardMessageDesk$Entry" "type" "I" ∈ gt := gt_t (i := 147) (by decide +kernel) rfl
theorem tw150 : Cond.fieldLink "CardMessageDesk$Entry" 21 "CardMessageDesk$Entry" "terminal" "I" ∈ gt := gt_t (i := 150) (by decide +kernel) rfl
theorem tw152 : Cond.fieldLink "CardMessageDesk$Entry" 25 "CardMessageDesk$Entry" "trace" "I" ∈ gt := gt_t (i := 152) (by decide +kernel) rfl
theorem tw155 : Cond.fieldLink "CardMessageDesk$Entry" 30 "CardMessageDesk$Entry" "card" "J" ∈ gt := gt_t (i := 155) (by decide +kernel) rfl
theorem tw157 : Cond.fieldLink "CardMessageDesk$Entry" 35 "CardMessageDesk$Entry" "sortKind" "I" ∈ gt := gt_t (i := 157) (by decide +kernel) rfl
theorem tw158 : Cond.fieldLink "CardMessageDesk$Entry" 40 "CardMessageDesk$Entry" "amount" "J" ∈ gt := gt_t (i := 158) (by decide +kernel) rfl
theorem tw161 : Cond.fieldLink "CardMessageDesk$Entry" 41 "CardMessageDesk$Entry" "answer" "I" ∈ gt := gt_t (i := 161) (by decide +kernel) rfl
theorem tw163 : Cond.fieldLink "CardMessageDesk$Entry" 44 "CardMessageDesk$Entry" "state" "I" ∈ gt := gt_t (i := 163) (by decide +kernel) rfl
theorem tw165 : Cond.fieldLink "CardMessageDesk$Entry" 47 "CardMessageDesk$Entry" "made" "J" ∈ gt := gt_t (i := 165) (by decide +kernel) rfl
theorem tw185 : Cond.fieldLink "CardMessageDesk$Journal" 11 "CardMessageDesk$Journal" "lines" "[LCardMessageDesk$Entry;" ∈ gt := gt_t (i := 185) (by decide +kernel) rfl
theorem tw186 : Cond.fieldLink "CardMessageDesk$Journal" 18 "CardMessageDesk$Journal" "size" "I" ∈ gt := gt_t (i := 186) (by decide +kernel) rfl
theorem tw188 : Cond.fieldLink "CardMessageDesk$Journal" 22 "CardMessageDesk$Journal" "time" "J" ∈ gt := gt_t (i := 188) (by decide +kernel) rfl
theorem tw197 : Cond.fieldLink "CardMessageDesk" 14 "CardMessageDesk" "in" "LCardMessageDesk$ByteRow;" ∈ gt := gt_t (i := 197) (by decide +kernel) rfl
theorem tw198 : Cond.fieldLink "CardMessageDesk" 18 "CardMessageDesk" "latestReply" "LCardMessageDesk$ByteRow;" ∈ gt := gt_t (i := 198) (by decide +kernel) rfl
theorem tw199 : Cond.fieldLink "CardMessageDesk" 26 "CardMessageDesk" "request" "LCardMessageDesk$Request;" ∈ gt := gt_t (i := 199) (by decide +kernel) rfl
theorem tw200 : Cond.fieldLink "CardMessageDesk" 33 "CardMessageDesk" "cards" "LCardMessageDesk$Cards;" ∈ gt := gt_t (i := 200) (by decide +kernel) rfl
theorem tw201 : Cond.fieldLink "CardMessageDesk" 40 "CardMessageDesk" "journal" "LCardMessageDesk$Journal;" ∈ gt := gt_t (i := 201) (by decide +kernel) rfl
theorem tw202 : Cond.fieldLink "CardMessageDesk" 44 "CardMessageDesk" "settledSum" "J" ∈ gt := gt_t (i := 202) (by decide +kernel) rfl
theorem tw203 : Cond.fieldLink "CardMessageDesk" 48 "CardMessageDesk" "settledNow" "J" ∈ gt := gt_t (i := 203) (by decide +kernel) rfl
theorem tw223 : Cond.constantLong "CardMessageDesk" 51 9999999999999999 ∈ gt := gt_t (i := 223) (by decide +kernel) rfl
theorem tw224 : Cond.constantLong "CardMessageDesk" 53 1000000000000 ∈ gt := gt_t (i := 224) (by decide +kernel) rfl
theorem tw225 : Cond.methodLink "CardMessageDesk" 55 ⟨"CardMessageDesk$Cards", "add", "(JJ)Z"⟩ ∈ gt := gt_t (i := 225) (by decide +kernel) rfl
theorem tw226 : Cond.instanceMethod ⟨"CardMessageDesk$Cards", "add", "(JJ)Z"⟩ ∈ gt := gt_t (i := 226) (by decide +kernel) rfl
theorem tw227 : Cond.selects "CardMessageDesk$Cards" ⟨"CardMessageDesk$Cards", "add", "(JJ)Z"⟩ ⟨"CardMessageDesk$Cards", "add", "(JJ)Z"⟩ ∈ gt := gt_t (i := 227) (by decide +kernel) rfl
theorem tw228 : Cond.code ⟨"CardMessageDesk$Cards", "add", "(JJ)Z"⟩ prog_4_method_3_code 5 (some .boolean) ∈ gt := gt_t (i := 228) (by decide +kernel) rfl
theorem tw229 : Cond.methodLink "CardMessageDesk$Cards" 26 ⟨"CardMessageDesk$Cards", "find", "(J)LCardMessageDesk$Account;"⟩ ∈ gt := gt_t (i := 229) (by decide +kernel) rfl
theorem tw230 : Cond.instanceMethod ⟨"CardMessageDesk$Cards", "find", "(J)LCardMessageDesk$Account;"⟩ ∈ gt := gt_t (i := 230) (by decide +kernel) rfl
theorem tw231 : Cond.selects "CardMessageDesk$Cards" ⟨"CardMessageDesk$Cards", "find", "(J)LCardMessageDesk$Account;"⟩ ⟨"CardMessageDesk$Cards", "find", "(J)LCardMessageDesk$Account;"⟩ ∈ gt := gt_t (i := 231) (by decide +kernel) rfl
theorem tw232 : Cond.code ⟨"CardMessageDesk$Cards", "find", "(J)LCardMessageDesk$Account;"⟩ prog_4_method_2_code 4 (some (.object "CardMessageDesk$Account")) ∈ gt := gt_t (i := 232) (by decide +kernel) rfl
theorem tw237 : Cond.methodLink "CardMessageDesk" 63 ⟨"CardMessageDesk$ByteRow", "appendBytes", "(JI)V"⟩ ∈ gt := gt_t (i := 237) (by decide +kernel) rfl
theorem tw238 : Cond.instanceMethod ⟨"CardMessageDesk$ByteRow", "appendBytes", "(JI)V"⟩ ∈ gt := gt_t (i := 238) (by decide +kernel) rfl
theorem tw239 : Cond.selects "CardMessageDesk$ByteRow" ⟨"CardMessageDesk$ByteRow", "appendBytes", "(JI)V"⟩ ⟨"CardMessageDesk$ByteRow", "appendBytes", "(JI)V"⟩ ∈ gt := gt_t (i := 239) (by decide +kernel) rfl
theorem tw240 : Cond.code ⟨"CardMessageDesk$ByteRow", "appendBytes", "(JI)V"⟩ prog_3_method_5_code 5 none ∈ gt := gt_t (i := 240) (by decide +kernel) rfl
theorem tw241 : Cond.methodLink "CardMessageDesk$ByteRow" 19 ⟨"CardMessageDesk$ByteRow", "append", "(I)V"⟩ ∈ gt := gt_t (i := 241) (by decide +kernel) rfl
theorem tw242 : Cond.instanceMethod ⟨"CardMessageDesk$ByteRow", "append", "(I)V"⟩ ∈ gt := gt_t (i := 242) (by decide +kernel) rfl
theorem tw243 : Cond.selects "CardMessageDesk$ByteRow" ⟨"CardMessageDesk$ByteRow", "append", "(I)V"⟩ ⟨"CardMessageDesk$ByteRow", "append", "(I)V"⟩ ∈ gt := gt_t (i := 243) (by decide +kernel) rfl
theorem tw244 : Cond.code ⟨"CardMessageDesk$ByteRow", "append", "(I)V"⟩ prog_3_method_4_code 2 none ∈ gt := gt_t (i := 244) (by decide +kernel) rfl
theorem tw249 : Cond.methodLink "CardMessageDesk" 67 ⟨"CardMessageDesk$ByteRow", "clear", "()V"⟩ ∈ gt := gt_t (i := 249) (by decide +kernel) rfl
theorem tw250 : Cond.instanceMethod ⟨"CardMessageDesk$ByteRow", "clear", "()V"⟩ ∈ gt := gt_t (i := 250) (by decide +kernel) rfl
theorem tw251 : Cond.selects "CardMessageDesk$ByteRow" ⟨"CardMessageDesk$ByteRow", "clear", "()V"⟩ ⟨"CardMessageDesk$ByteRow", "clear", "()V"⟩ ∈ gt := gt_t (i := 251) (by decide +kernel) rfl
theorem tw252 : Cond.code ⟨"CardMessageDesk$ByteRow", "clear", "()V"⟩ prog_3_method_2_code 1 none ∈ gt := gt_t (i := 252) (by decide +kernel) rfl
theorem tw253 : Cond.methodLink "CardMessageDesk" 70 ⟨"CardMessageDesk$Request", "readWhole", "()Z"⟩ ∈ gt := gt_t (i := 253) (by decide +kernel) rfl
theorem tw254 : Cond.instanceMethod ⟨"CardMessageDesk$Request", "readWhole", "()Z"⟩ ∈ gt := gt_t (i := 254) (by decide +kernel) rfl
theorem tw255 : Cond.selects "CardMessageDesk$Request" ⟨"CardMessageDesk$Request", "readWhole", "()Z"⟩ ⟨"CardMessageDesk$Request", "readWhole", "()Z"⟩ ∈ gt := gt_t (i := 255) (by decide +kernel) rfl
theorem tw256 : Cond.code ⟨"CardMessageDesk$Request", "readWhole", "()Z"⟩ prog_8_method_4_code 1 (some .boolean) ∈ gt := gt_t (i := 256) (by decide +kernel) rfl
theorem tw257 : Cond.methodLink "CardMessageDesk$Request" 28 ⟨"CardMessageDesk$Reader", "restart", "()V"⟩ ∈ gt := gt_t (i := 257) (by decide +kernel) rfl
theorem tw258 : Cond.instanceMethod ⟨"CardMessageDesk$Reader", "restart", "()V"⟩ ∈ gt := gt_t (i := 258) (by decide +kernel) rfl
theorem tw259 : Cond.selects "CardMessageDesk$Reader" ⟨"CardMessageDesk$Reader", "restart", "()V"⟩ ⟨"CardMessageDesk$Reader", "restart", "()V"⟩ ∈ gt := gt_t (i := 259) (by decide +kernel) rfl
theorem tw260 : Cond.code ⟨"CardMessageDesk$Reader", "restart", "()V"⟩ prog_7_method_2_code 1 none ∈ gt := gt_t (i := 260) (by decide +kernel) rfl
theorem tw261 : Cond.methodLink "CardMessageDesk$Request" 31 ⟨"CardMessageDesk$Reader", "readDigits", "(I)J"⟩ ∈ gt := gt_t (i := 261) (by decide +kernel) rfl
theorem tw262 : Cond.instanceMethod ⟨"CardMessageDesk$Reader", "readDigits", "(I)J"⟩ ∈ gt := gt_t (i := 262) (by decide +kernel) rfl
theorem tw263 : Cond.selects "CardMessageDesk$Reader" ⟨"CardMessageDesk$Reader", "readDigits", "(I)J"⟩ ⟨"CardMessageDesk$Reader", "readDigits", "(I)J"⟩ ∈ gt := gt_t (i := 263) (by decide +kernel) rfl
theorem tw264 : Cond.code ⟨"CardMessageDesk$Reader", "readDigits", "(I)J"⟩ prog_7_method_6_code 9 (some .long) ∈ gt := gt_t (i := 264) (by decide +kernel) rfl
theorem tw265 : Cond.methodLink "CardMessageDesk$Reader" 32 ⟨"CardMessageDesk$Reader", "readByte", "()I"⟩ ∈ gt := gt_t (i := 265) (by decide +kernel) rfl
theorem tw266 : Cond.instanceMethod ⟨"CardMessageDesk$Reader", "readByte", "()I"⟩ ∈ gt := gt_t (i := 266) (by decide +kernel) rfl
theorem tw267 : Cond.selects "CardMessageDesk$Reader" ⟨"CardMessageDesk$Reader", "readByte", "()I"⟩ ⟨"CardMessageDesk$Reader", "readByte", "()I"⟩ ∈ gt := gt_t (i := 267) (by decide +kernel) rfl
theorem tw268 : Cond.code ⟨"CardMessageDesk$Reader", "readByte", "()I"⟩ prog_7_method_4_code 2 (some .int) ∈ gt := gt_t (i := 268) (by decide +kernel) rfl
theorem tw269 : Cond.methodLink "CardMessageDesk$Reader" 28 ⟨"CardMessageDesk$ByteRow", "byteAt", "(I)I"⟩ ∈ gt := gt_t (i := 269) (by decide +kernel) rfl
theorem tw270 : Cond.instanceMethod ⟨"CardMessageDesk$ByteRow", "byteAt", "(I)I"⟩ ∈ gt := gt_t (i := 270) (by decide +kernel) rfl
theorem tw271 : Cond.selects "CardMessageDesk$ByteRow" ⟨"CardMessageDesk$ByteRow", "byteAt", "(I)I"⟩ ⟨"CardMessageDesk$ByteRow", "byteAt", "(I)I"⟩ ∈ gt := gt_t (i := 271) (by decide +kernel) rfl
theorem tw272 : Cond.code ⟨"CardMessageDesk$ByteRow", "byteAt", "(I)I"⟩ prog_3_method_3_code 2 (some .int) ∈ gt := gt_t (i := 272) (by decide +kernel) rfl
theorem tw273 : Cond.constantLong "CardMessageDesk$Reader" 36 100 ∈ gt := gt_t (i := 273) (by decide +kernel) rfl
theorem tw274 : Cond.methodLink "CardMessageDesk$Request" 38 ⟨"CardMessageDesk$Reader", "readBytes", "(I)J"⟩ ∈ gt := gt_t (i := 274) (by decide +kernel) rfl
theorem tw275 : Cond.instanceMethod ⟨"CardMessageDesk$Reader", "readBytes", "(I)J"⟩ ∈ gt := gt_t (i := 275) (by decide +kernel) rfl
theorem tw276 : Cond.selects "CardMessageDesk$Reader" ⟨"CardMessageDesk$Reader", "readBytes", "(I)J"⟩ ⟨"CardMessageDesk$Reader", "readBytes", "(I)J"⟩ ∈ gt := gt_t (i := 276) (by decide +kernel) rfl
theorem tw277 : Cond.code ⟨"CardMessageDesk$Reader", "readBytes", "(I)J"⟩ prog_7_method_5_code 5 (some .long) ∈ gt := gt_t (i := 277) (by decide +kernel) rfl
theorem tw278 : Cond.methodLink "CardMessageDesk$Request" 41 ⟨"CardMessageDesk$Request", "fieldsBelong", "()Z"⟩ ∈ gt := gt_t (i := 278) (by decide +kernel) rfl
theorem tw280 : Cond.instanceMethod ⟨"CardMessageDesk$Request", "fieldsBelong", "()Z"⟩ ∈ gt := gt_t (i := 280) (by decide +kernel) rfl
theorem tw281 : Cond.code ⟨"CardMessageDesk$Request", "fieldsBelong", "()Z"⟩ prog_8_method_5_code 3 (some .boolean) ∈ gt := gt_t (i := 281) (by decide +kernel) rfl
theorem tw282 : Cond.methodLink "CardMessageDesk$Request" 54 ⟨"CardMessageDesk$Request", "neededFields", "(I)J"⟩ ∈ gt := gt_t (i := 282) (by decide +kernel) rfl
theorem tw283 : Cond.static ⟨"CardMessageDesk$Request", "neededFields", "(I)J"⟩ ∈ gt := gt_t (i := 283) (by decide +kernel) rfl
theorem tw284 : Cond.code ⟨"CardMessageDesk$Request", "neededFields", "(I)J"⟩ prog_8_method_6_code 1 (some .long) ∈ gt := gt_t (i := 284) (by decide +kernel) rfl
theorem tw285 : Cond.constantLong "CardMessageDesk$Request" 62 8079457731511058432 ∈ gt := gt_t (i := 285) (by decide +kernel) rfl
theorem tw286 : Cond.constantLong "CardMessageDesk$Request" 64 4620693217690517760 ∈ gt := gt_t (i := 286) (by decide +kernel) rfl
theorem tw287 : Cond.constantLong "CardMessageDesk$Request" 66 9007199263129600 ∈ gt := gt_t (i := 287) (by decide +kernel) rfl
theorem tw288 : Cond.methodLink "CardMessageDesk$Request" 57 ⟨"CardMessageDesk$Request", "allowedFields", "(I)J"⟩ ∈ gt := gt_t (i := 288) (by decide +kernel) rfl
theorem tw289 : Cond.static ⟨"CardMessageDesk$Request", "allowedFields", "(I)J"⟩ ∈ gt := gt_t (i := 289) (by decide +kernel) rfl
theorem tw290 : Cond.code ⟨"CardMessageDesk$Request", "allowedFields", "(I)J"⟩ prog_8_method_7_code 1 (some .long) ∈ gt := gt_t (i := 290) (by decide +kernel) rfl
theorem tw291 : Cond.constantLong "CardMessageDesk$Request" 68 65536 ∈ gt := gt_t (i := 291) (by decide +kernel) rfl
theorem tw292 : Cond.constantLong "CardMessageDesk$Request" 70 8079457731511124224 ∈ gt := gt_t (i := 292) (by decide +kernel) rfl
theorem tw293 : Cond.constantLong "CardMessageDesk$Request" 60 (-1) ∈ gt := gt_t (i := 293) (by decide +kernel) rfl
theorem tw294 : Cond.methodLink "CardMessageDesk$Request" 45 ⟨"CardMessageDesk$Request", "readMoneyFields", "()V"⟩ ∈ gt := gt_t (i := 294) (by decide +kernel) rfl
theorem tw296 : Cond.instanceMethod ⟨"CardMessageDesk$Request", "readMoneyFields", "()V"⟩ ∈ gt := gt_t (i := 296) (by decide +kernel) rfl
theorem tw297 : Cond.code ⟨"CardMessageDesk$Request", "readMoneyFields", "()V"⟩ prog_8_method_8_code 1 none ∈ gt := gt_t (i := 297) (by decide +kernel) rfl
theorem tw298 : Cond.constantLong "CardMessageDesk$Request" 72 4611686018427387904 ∈ gt := gt_t (i := 298) (by decide +kernel) rfl
theorem tw299 : Cond.methodLink "CardMessageDesk$Request" 74 ⟨"CardMessageDesk$Request", "has", "(J)Z"⟩ ∈ gt := gt_t (i := 299) (by decide +kernel) rfl
theorem tw300 : Cond.instanceMethod ⟨"CardMessageDesk$Request", "has", "(J)Z"⟩ ∈ gt := gt_t (i := 300) (by decide +kernel) rfl
theorem tw301 : Cond.selects "CardMessageDesk$Request" ⟨"CardMessageDesk$Request", "has", "(J)Z"⟩ ⟨"CardMessageDesk$Request", "has", "(J)Z"⟩ ∈ gt := gt_t (i := 301) (by decide +kernel) rfl
theorem tw302 : Cond.code ⟨"CardMessageDesk$Request", "has", "(J)Z"⟩ prog_8_method_2_code 3 (some .boolean) ∈ gt := gt_t (i := 302) (by decide +kernel) rfl
theorem tw303 : Cond.methodLink "CardMessageDesk$Request" 78 ⟨"CardMessageDesk$Reader", "readCount", "(III)I"⟩ ∈ gt := gt_t (i := 303) (by decide +kernel) rfl
theorem tw304 : Cond.instanceMethod ⟨"CardMessageDesk$Reader", "readCount", "(III)I"⟩ ∈ gt := gt_t (i := 304) (by decide +kernel) rfl
theorem tw305 : Cond.selects "CardMessageDesk$Reader" ⟨"CardMessageDesk$Reader", "readCount", "(III)I"⟩ ⟨"CardMessageDesk$Reader", "readCount", "(III)I"⟩ ∈ gt := gt_t (i := 305) (by decide +kernel) rfl
theorem tw306 : Cond.code ⟨"CardMessageDesk$Reader", "readCount", "(III)I"⟩ prog_7_method_7_code 6 (some .int) ∈ gt := gt_t (i := 306) (by decide +kernel) rfl
theorem tw307 : Cond.methodLink "CardMessageDesk$Reader" 38 ⟨"CardMessageDesk$Reader", "readDigits", "(I)J"⟩ ∈ gt := gt_t (i := 307) (by decide +kernel) rfl
theorem tw308 : Cond.constantLong "CardMessageDesk$Request" 85 2305843009213693952 ∈ gt := gt_t (i := 308) (by decide +kernel) rfl
theorem tw309 : Cond.constantLong "CardMessageDesk$Request" 87 1152921504606846976 ∈ gt := gt_t (i := 309) (by decide +kernel) rfl
theorem tw310 : Cond.methodLink "CardMessageDesk$Request" 48 ⟨"CardMessageDesk$Request", "readOtherFields", "()V"⟩ ∈ gt := gt_t (i := 310) (by decide +kernel) rfl
theorem tw312 : Cond.instanceMethod ⟨"CardMessageDesk$Request", "readOtherFields", "()V"⟩ ∈ gt := gt_t (i := 312) (by decide +kernel) rfl
theorem tw313 : Cond.code ⟨"CardMessageDesk$Request", "readOtherFields", "()V"⟩ prog_8_method_9_code 1 none ∈ gt := gt_t (i := 313) (by decide +kernel) rfl
theorem tw314 : Cond.methodLink "CardMessageDesk$Request" 101 ⟨"CardMessageDesk$Reader", "readCharacters", "(I)I"⟩ ∈ gt := gt_t (i := 314) (by decide +kernel) rfl
theorem tw315 : Cond.instanceMethod ⟨"CardMessageDesk$Reader", "readCharacters", "(I)I"⟩ ∈ gt := gt_t (i := 315) (by decide +kernel) rfl
theorem tw316 : Cond.selects "CardMessageDesk$Reader" ⟨"CardMessageDesk$Reader", "readCharacters", "(I)I"⟩ ⟨"CardMessageDesk$Reader", "readCharacters", "(I)I"⟩ ∈ gt := gt_t (i := 316) (by decide +kernel) rfl
theorem tw317 : Cond.code ⟨"CardMessageDesk$Reader", "readCharacters", "(I)I"⟩ prog_7_method_8_code 5 (some .int) ∈ gt := gt_t (i := 317) (by decide +kernel) rfl
theorem tw318 : Cond.constantLong "CardMessageDesk$Request" 111 256 ∈ gt := gt_t (i := 318) (by decide +kernel) rfl
theorem tw319 : Cond.methodLink "CardMessageDesk$Request" 51 ⟨"CardMessageDesk$Reader", "isAtGoodEnd", "()Z"⟩ ∈ gt := gt_t (i := 319) (by decide +kernel) rfl
theorem tw320 : Cond.instanceMethod ⟨"CardMessageDesk$Reader", "isAtGoodEnd", "()Z"⟩ ∈ gt := gt_t (i := 320) (by decide +kernel) rfl
theorem tw321 : Cond.selects "CardMessageDesk$Reader" ⟨"CardMessageDesk$Reader", "isAtGoodEnd", "()Z"⟩ ⟨"CardMessageDesk$Reader", "isAtGoodEnd", "()Z"⟩ ∈ gt := gt_t (i := 321) (by decide +kernel) rfl
theorem tw322 : Cond.code ⟨"CardMessageDesk$Reader", "isAtGoodEnd", "()Z"⟩ prog_7_method_3_code 1 (some .boolean) ∈ gt := gt_t (i := 322) (by decide +kernel) rfl
theorem tw323 : Cond.methodLink "CardMessageDesk" 74 ⟨"CardMessageDesk", "answerRequest", "()I"⟩ ∈ gt := gt_t (i := 323) (by decide +kernel) rfl
theorem tw325 : Cond.instanceMethod ⟨"CardMessageDesk", "answerRequest", "()I"⟩ ∈ gt := gt_t (i := 325) (by decide +kernel) rfl
theorem tw326 : Cond.code ⟨"CardMessageDesk", "answerRequest", "()I"⟩ prog_1_method_14_code 3 (some .int) ∈ gt := gt_t (i := 326) (by decide +kernel) rfl
theorem tw327 : Cond.methodLink "CardMessageDesk" 132 ⟨"CardMessageDesk$Journal", "findSame", "(LCardMessageDesk$Request;)LCardMessageDesk$Entry;"⟩ ∈ gt := gt_t (i := 327) (by decide +kernel) rfl
theorem tw328 : Cond.instanceMethod ⟨"CardMessageDesk$Journal", "findSame", "(LCardMessageDesk$Request;)LCardMessageDesk$Entry;"⟩ ∈ gt := gt_t (i := 328) (by decide +kernel) rfl
theorem tw329 : Cond.selects "CardMessageDesk$Journal" ⟨"CardMessageDesk$Journal", "findSame", "(LCardMessageDesk$Request;)LCardMessageDesk$Entry;"⟩ ⟨"CardMessageDesk$Journal", "findSame", "(LCardMessageDesk$Request;)LCardMessageDesk$Entry;"⟩ ∈ gt := gt_t (i := 329) (by decide +kernel) rfl
theorem tw330 : Cond.code ⟨"CardMessageDesk$Journal", "findSame", "(LCardMessageDesk$Request;)LCardMessageDesk$Entry;"⟩ prog_6_method_3_code 4 (some (.object "CardMessageDesk$Entry")) ∈ gt := gt_t (i := 330) (by decide +kernel) rfl
theorem tw331 : Cond.methodLink "CardMessageDesk" 137 ⟨"CardMessageDesk", "isHandled", "(I)Z"⟩ ∈ gt := gt_t (i := 331) (by decide +kernel) rfl
theorem tw332 : Cond.static ⟨"CardMessageDesk", "isHandled", "(I)Z"⟩ ∈ gt := gt_t (i := 332) (by decide +kernel) rfl
theorem tw333 : Cond.code ⟨"CardMessageDesk", "isHandled", "(I)Z"⟩ prog_1_method_15_code 1 (some .boolean) ∈ gt := gt_t (i := 333) (by decide +kernel) rfl
theorem tw334 : Cond.methodLink "CardMessageDesk" 141 ⟨"CardMessageDesk", "journalLimit", "(I)I"⟩ ∈ gt := gt_t (i := 334) (by decide +kernel) rfl
theorem tw335 : Cond.static ⟨"CardMessageDesk", "journalLimit", "(I)I"⟩ ∈ gt := gt_t (i := 335) (by decide +kernel) rfl
theorem tw336 : Cond.code ⟨"CardMessageDesk", "journalLimit", "(I)I"⟩ prog_1_method_16_code 1 (some .int) ∈ gt := gt_t (i := 336) (by decide +kernel) rfl
theorem tw337 : Cond.methodLink "CardMessageDesk" 144 ⟨"CardMessageDesk", "decide", "()I"⟩ ∈ gt := gt_t (i := 337) (by decide +kernel) rfl
theorem tw339 : Cond.instanceMethod ⟨"CardMessageDesk", "decide", "()I"⟩ ∈ gt := gt_t (i := 339) (by decide +kernel) rfl
theorem tw340 : Cond.code ⟨"CardMessageDesk", "decide", "()I"⟩ prog_1_method_17_code 2 (some .int) ∈ gt := gt_t (i := 340) (by decide +kernel) rfl
theorem tw341 : Cond.methodLink "CardMessageDesk" 150 ⟨"CardMessageDesk", "settle", "()I"⟩ ∈ gt := gt_t (i := 341) (by decide +kernel) rfl
theorem tw343 : Cond.instanceMethod ⟨"CardMessageDesk", "settle", "()I"⟩ ∈ gt := gt_t (i := 343) (by decide +kernel) rfl
theorem tw344 : Cond.code ⟨"CardMessageDesk", "settle", "()I"⟩ prog_1_method_24_code 1 (some .int) ∈ gt := gt_t (i := 344) (by decide +kernel) rfl
theorem tw345 : Cond.methodLink "CardMessageDesk" 128 ⟨"CardMessageDesk$Journal", "netOf", "(I)J"⟩ ∈ gt := gt_t (i := 345) (by decide +kernel) rfl
theorem tw346 : Cond.instanceMethod ⟨"CardMessageDesk$Journal", "netOf", "(I)J"⟩ ∈ gt := gt_t (i := 346) (by decide +kernel) rfl
theorem tw347 : Cond.selects "CardMessageDesk$Journal" ⟨"CardMessageDesk$Journal", "netOf", "(I)J"⟩ ⟨"CardMessageDesk$Journal", "netOf", "(I)J"⟩ ∈ gt := gt_t (i := 347) (by decide +kernel) rfl
theorem tw348 : Cond.code ⟨"CardMessageDesk$Journal", "netOf", "(I)J"⟩ prog_6_method_7_code 5 (some .long) ∈ gt := gt_t (i := 348) (by decide +kernel) rfl
theorem tw349 : Cond.methodLink "CardMessageDesk$Journal" 64 ⟨"CardMessageDesk$Entry", "moved", "()J"⟩ ∈ gt := gt_t (i := 349) (by decide +kernel) rfl
theorem tw350 : Cond.instanceMethod ⟨"CardMessageDesk$Entry", "moved", "()J"⟩ ∈ gt := gt_t (i := 350) (by decide +kernel) rfl
theorem tw351 : Cond.selects "CardMessageDesk$Entry" ⟨"CardMessageDesk$Entry", "moved", "()J"⟩ ⟨"CardMessageDesk$Entry", "moved", "()J"⟩ ∈ gt := gt_t (i := 351) (by decide +kernel) rfl
theorem tw352 : Cond.code ⟨"CardMessageDesk$Entry", "moved", "()J"⟩ prog_5_method_6_code 1 (some .long) ∈ gt := gt_t (i := 352) (by decide +kernel) rfl
theorem tw353 : Cond.methodLink "CardMessageDesk$Entry" 56 ⟨"CardMessageDesk$Entry", "isPosted", "()Z"⟩ ∈ gt := gt_t (i := 353) (by decide +kernel) rfl
theorem tw354 : Cond.instanceMethod ⟨"CardMessageDesk$Entry", "isPosted", "()Z"⟩ ∈ gt := gt_t (i := 354) (by decide +kernel) rfl
theorem tw355 : Cond.selects "CardMessageDesk$Entry" ⟨"CardMessageDesk$Entry", "isPosted", "()Z"⟩ ⟨"CardMessageDesk$Entry", "isPosted", "()Z"⟩ ∈ gt := gt_t (i := 355) (by decide +kernel) rfl
theorem tw356 : Cond.code ⟨"CardMessageDesk$Entry", "isPosted", "()Z"⟩ prog_5_method_5_code 1 (some .boolean) ∈ gt := gt_t (i := 356) (by decide +kernel) rfl
theorem tw357 : Cond.methodLink "CardMessageDesk" 201 ⟨"CardMessageDesk$Journal", "takeOut", "(I)V"⟩ ∈ gt := gt_t (i := 357) (by decide +kernel) rfl
theorem tw358 : Cond.instanceMethod ⟨"CardMessageDesk$Journal", "takeOut", "(I)V"⟩ ∈ gt := gt_t (i := 358) (by decide +kernel) rfl
theorem tw359 : Cond.selects "CardMessageDesk$Journal" ⟨"CardMessageDesk$Journal", "takeOut", "(I)V"⟩ ⟨"CardMessageDesk$Journal", "takeOut", "(I)V"⟩ ∈ gt := gt_t (i := 359) (by decide +kernel) rfl
theorem tw360 : Cond.code ⟨"CardMessageDesk$Journal", "takeOut", "(I)V"⟩ prog_6_method_9_code 5 none ∈ gt := gt_t (i := 360) (by decide +kernel) rfl
theorem tw361 : Cond.methodLink "CardMessageDesk$Journal" 40 ⟨"CardMessageDesk$Entry", "isHoldAt", "(J)Z"⟩ ∈ gt := gt_t (i := 361) (by decide +kernel) rfl
theorem tw362 : Cond.instanceMethod ⟨"CardMessageDesk$Entry", "isHoldAt", "(J)Z"⟩ ∈ gt := gt_t (i := 362) (by decide +kernel) rfl
theorem tw363 : Cond.selects "CardMessageDesk$Entry" ⟨"CardMessageDesk$Entry", "isHoldAt", "(J)Z"⟩ ⟨"CardMessageDesk$Entry", "isHoldAt", "(J)Z"⟩ ∈ gt := gt_t (i := 363) (by decide +kernel) rfl
theorem tw364 : Cond.code ⟨"CardMessageDesk$Entry", "isHoldAt", "(J)Z"⟩ prog_5_method_3_code 3 (some .boolean) ∈ gt := gt_t (i := 364) (by decide +kernel) rfl
theorem tw365 : Cond.constantLong "CardMessageDesk$Entry" 50 50 ∈ gt := gt_t (i := 365) (by decide +kernel) rfl
theorem tw366 : Cond.methodLink "CardMessageDesk" 88 ⟨"CardMessageDesk$Cards", "find", "(J)LCardMessageDesk$Account;"⟩ ∈ gt := gt_t (i := 366) (by decide +kernel) rfl
theorem tw367 : Cond.methodLink "CardMessageDesk" 156 ⟨"CardMessageDesk", "decideHold", "(LCardMessageDesk$Account;)I"⟩ ∈ gt := gt_t (i := 367) (by decide +kernel) rfl
theorem tw369 : Cond.instanceMethod ⟨"CardMessageDesk", "decideHold", "(LCardMessageDesk$Account;)I"⟩ ∈ gt := gt_t (i := 369) (by decide +kernel) rfl
theorem tw370 : Cond.code ⟨"CardMessageDesk", "decideHold", "(LCardMessageDesk$Account;)I"⟩ prog_1_method_18_code 2 (some .int) ∈ gt := gt_t (i := 370) (by decide +kernel) rfl
theorem tw371 : Cond.methodLink "CardMessageDesk" 166 ⟨"CardMessageDesk$Request", "sortKind", "()I"⟩ ∈ gt := gt_t (i := 371) (by decide +kernel) rfl
theorem tw372 : Cond.instanceMethod ⟨"CardMessageDesk$Request", "sortKind", "()I"⟩ ∈ gt := gt_t (i := 372) (by decide +kernel) rfl
theorem tw373 : Cond.selects "CardMessageDesk$Request" ⟨"CardMessageDesk$Request", "sortKind", "()I"⟩ ⟨"CardMessageDesk$Request", "sortKind", "()I"⟩ ∈ gt := gt_t (i := 373) (by decide +kernel) rfl
theorem tw374 : Cond.code ⟨"CardMessageDesk$Request", "sortKind", "()I"⟩ prog_8_method_3_code 1 (some .int) ∈ gt := gt_t (i := 374) (by decide +kernel) rfl
theorem tw375 : Cond.methodLink "CardMessageDesk" 99 ⟨"CardMessageDesk$Journal", "availableOn", "(LCardMessageDesk$Account;)J"⟩ ∈ gt := gt_t (i := 375) (by decide +kernel) rfl
theorem tw376 : Cond.instanceMethod ⟨"CardMessageDesk$Journal", "availableOn", "(LCardMessageDesk$Account;)J"⟩ ∈ gt := gt_t (i := 376) (by decide +kernel) rfl
theorem tw377 : Cond.selects "CardMessageDesk$Journal" ⟨"CardMessageDesk$Journal", "availableOn", "(LCardMessageDesk$Account;)J"⟩ ⟨"CardMessageDesk$Journal", "availableOn", "(LCardMessageDesk$Account;)J"⟩ ∈ gt := gt_t (i := 377) (by decide +kernel) rfl
theorem tw378 : Cond.code ⟨"CardMessageDesk$Journal", "availableOn", "(LCardMessageDesk$Account;)J"⟩ prog_6_method_6_code 5 (some .long) ∈ gt := gt_t (i := 378) (by decide +kernel) rfl
theorem tw379 : Cond.methodLink "CardMessageDesk" 160 ⟨"CardMessageDesk", "decideMoney", "(LCardMessageDesk$Account;)I"⟩ ∈ gt := gt_t (i := 379) (by decide +kernel) rfl
theorem tw381 : Cond.instanceMethod ⟨"CardMessageDesk", "decideMoney", "(LCardMessageDesk$Account;)I"⟩ ∈ gt := gt_t (i := 381) (by decide +kernel) rfl
theorem tw382 : Cond.code ⟨"CardMessageDesk", "decideMoney", "(LCardMessageDesk$Account;)I"⟩ prog_1_method_19_code 3 (some .int) ∈ gt := gt_t (i := 382) (by decide +kernel) rfl
theorem tw383 : Cond.constantLong "CardMessageDesk" 170 256 ∈ gt := gt_t (i := 383) (by decide +kernel) rfl
theorem tw384 : Cond.methodLink "CardMessageDesk" 172 ⟨"CardMessageDesk$Request", "has", "(J)Z"⟩ ∈ gt := gt_t (i := 384) (by decide +kernel) rfl
theorem tw385 : Cond.methodLink "CardMessageDesk" 176 ⟨"CardMessageDesk", "complete", "(LCardMessageDesk$Account;)I"⟩ ∈ gt := gt_t (i := 385) (by decide +kernel) rfl
theorem tw387 : Cond.instanceMethod ⟨"CardMessageDesk", "complete", "(LCardMessageDesk$Account;)I"⟩ ∈ gt := gt_t (i := 387) (by decide +kernel) rfl
theorem tw388 : Cond.code ⟨"CardMessageDesk", "complete", "(LCardMessageDesk$Account;)I"⟩ prog_1_method_20_code 3 (some .int) ∈ gt := gt_t (i := 388) (by decide +kernel) rfl
theorem tw389 : Cond.methodLink "CardMessageDesk" 185 ⟨"CardMessageDesk$Journal", "findHold", "(LCardMessageDesk$Request;)LCardMessageDesk$Entry;"⟩ ∈ gt := gt_t (i := 389) (by decide +kernel) rfl
theorem tw390 : Cond.instanceMethod ⟨"CardMessageDesk$Journal", "findHold", "(LCardMessageDesk$Request;)LCardMessageDesk$Entry;"⟩ ∈ gt := gt_t (i := 390) (by decide +kernel) rfl
theorem tw391 : Cond.selects "CardMessageDesk$Journal" ⟨"CardMessageDesk$Journal", "findHold", "(LCardMessageDesk$Request;)LCardMessageDesk$Entry;"⟩ ⟨"CardMessageDesk$Journal", "findHold", "(LCardMessageDesk$Request;)LCardMessageDesk$Entry;"⟩ ∈ gt := gt_t (i := 391) (by decide +kernel) rfl
theorem tw392 : Cond.code ⟨"CardMessageDesk$Journal", "findHold", "(LCardMessageDesk$Request;)LCardMessageDesk$Entry;"⟩ prog_6_method_4_code 3 (some (.object "CardMessageDesk$Entry")) ∈ gt := gt_t (i := 392) (by decide +kernel) rfl
theorem tw393 : Cond.methodLink "CardMessageDesk$Journal" 44 ⟨"CardMessageDesk$Entry", "isOriginalOf", "(LCardMessageDesk$Request;)Z"⟩ ∈ gt := gt_t (i := 393) (by decide +kernel) rfl
theorem tw394 : Cond.instanceMethod ⟨"CardMessageDesk$Entry", "isOriginalOf", "(LCardMessageDesk$Request;)Z"⟩ ∈ gt := gt_t (i := 394) (by decide +kernel) rfl
theorem tw395 : Cond.selects "CardMessageDesk$Entry" ⟨"CardMessageDesk$Entry", "isOriginalOf", "(LCardMessageDesk$Request;)Z"⟩ ⟨"CardMessageDesk$Entry", "isOriginalOf", "(LCardMessageDesk$Request;)Z"⟩ ∈ gt := gt_t (i := 395) (by decide +kernel) rfl
theorem tw396 : Cond.code ⟨"CardMessageDesk$Entry", "isOriginalOf", "(LCardMessageDesk$Request;)Z"⟩ prog_5_method_7_code 2 (some .boolean) ∈ gt := gt_t (i := 396) (by decide +kernel) rfl
theorem tw397 : Cond.methodLink "CardMessageDesk" 179 ⟨"CardMessageDesk", "debit", "(LCardMessageDesk$Account;)I"⟩ ∈ gt := gt_t (i := 397) (by decide +kernel) rfl
theorem tw399 : Cond.instanceMethod ⟨"CardMessageDesk", "debit", "(LCardMessageDesk$Account;)I"⟩ ∈ gt := gt_t (i := 399) (by decide +kernel) rfl
theorem tw400 : Cond.code ⟨"CardMessageDesk", "debit", "(LCardMessageDesk$Account;)I"⟩ prog_1_method_21_code 2 (some .int) ∈ gt := gt_t (i := 400) (by decide +kernel) rfl
theorem tw401 : Cond.methodLink "CardMessageDesk" 182 ⟨"CardMessageDesk", "credit", "(LCardMessageDesk$Account;)I"⟩ ∈ gt := gt_t (i := 401) (by decide +kernel) rfl
theorem tw403 : Cond.instanceMethod ⟨"CardMessageDesk", "credit", "(LCardMessageDesk$Account;)I"⟩ ∈ gt := gt_t (i := 403) (by decide +kernel) rfl
theorem tw404 : Cond.code ⟨"CardMessageDesk", "credit", "(LCardMessageDesk$Account;)I"⟩ prog_1_method_22_code 2 (some .int) ∈ gt := gt_t (i := 404) (by decide +kernel) rfl
theorem tw405 : Cond.methodLink "CardMessageDesk" 163 ⟨"CardMessageDesk", "reverse", "(LCardMessageDesk$Account;)I"⟩ ∈ gt := gt_t (i := 405) (by decide +kernel) rfl
theorem tw407 : Cond.instanceMethod ⟨"CardMessageDesk", "reverse", "(LCardMessageDesk$Account;)I"⟩ ∈ gt := gt_t (i := 407) (by decide +kernel) rfl
theorem tw408 : Cond.code ⟨"CardMessageDesk", "reverse", "(LCardMessageDesk$Account;)I"⟩ prog_1_method_23_code 3 (some .int) ∈ gt := gt_t (i := 408) (by decide +kernel) rfl
theorem tw409 : Cond.methodLink "CardMessageDesk" 191 ⟨"CardMessageDesk$Journal", "findReversible", "(LCardMessageDesk$Request;)LCardMessageDesk$Entry;"⟩ ∈ gt := gt_t (i := 409) (by decide +kernel) rfl
theorem tw410 : Cond.instanceMethod ⟨"CardMessageDesk$Journal", "findReversible", "(LCardMessageDesk$Request;)LCardMessageDesk$Entry;"⟩ ∈ gt := gt_t (i := 410) (by decide +kernel) rfl
theorem tw411 : Cond.selects "CardMessageDesk$Journal" ⟨"CardMessageDesk$Journal", "findReversible", "(LCardMessageDesk$Request;)LCardMessageDesk$Entry;"⟩ ⟨"CardMessageDesk$Journal", "findReversible", "(LCardMessageDesk$Request;)LCardMessageDesk$Entry;"⟩ ∈ gt := gt_t (i := 411) (by decide +kernel) rfl
theorem tw412 : Cond.code ⟨"CardMessageDesk$Journal", "findReversible", "(LCardMessageDesk$Request;)LCardMessageDesk$Entry;"⟩ prog_6_method_5_code 4 (some (.object "CardMessageDesk$Entry")) ∈ gt := gt_t (i := 412) (by decide +kernel) rfl
theorem tw413 : Cond.methodLink "CardMessageDesk$Journal" 48 ⟨"CardMessageDesk$Entry", "isPosted", "()Z"⟩ ∈ gt := gt_t (i := 413) (by decide +kernel) rfl
theorem tw414 : Cond.methodLink "CardMessageDesk" 194 ⟨"CardMessageDesk$Entry", "moved", "()J"⟩ ∈ gt := gt_t (i := 414) (by decide +kernel) rfl
theorem tw415 : Cond.methodLink "CardMessageDesk" 147 ⟨"CardMessageDesk$Journal", "add", "(LCardMessageDesk$Request;I)V"⟩ ∈ gt := gt_t (i := 415) (by decide +kernel) rfl
theorem tw416 : Cond.instanceMethod ⟨"CardMessageDesk$Journal", "add", "(LCardMessageDesk$Request;I)V"⟩ ∈ gt := gt_t (i := 416) (by decide +kernel) rfl
theorem tw417 : Cond.selects "CardMessageDesk$Journal" ⟨"CardMessageDesk$Journal", "add", "(LCardMessageDesk$Request;I)V"⟩ ⟨"CardMessageDesk$Journal", "add", "(LCardMessageDesk$Request;I)V"⟩ ∈ gt := gt_t (i := 417) (by decide +kernel) rfl
theorem tw418 : Cond.code ⟨"CardMessageDesk$Journal", "add", "(LCardMessageDesk$Request;I)V"⟩ prog_6_method_8_code 3 none ∈ gt := gt_t (i := 418) (by decide +kernel) rfl
theorem tw419 : Cond.methodLink "CardMessageDesk$Journal" 68 ⟨"CardMessageDesk$Entry", "fill", "(LCardMessageDesk$Request;IJ)V"⟩ ∈ gt := gt_t (i := 419) (by decide +kernel) rfl
theorem tw420 : Cond.instanceMethod ⟨"CardMessageDesk$Entry", "fill", "(LCardMessageDesk$Request;IJ)V"⟩ ∈ gt := gt_t (i := 420) (by decide +kernel) rfl
theorem tw421 : Cond.selects "CardMessageDesk$Entry" ⟨"CardMessageDesk$Entry", "fill", "(LCardMessageDesk$Request;IJ)V"⟩ ⟨"CardMessageDesk$Entry", "fill", "(LCardMessageDesk$Request;IJ)V"⟩ ∈ gt := gt_t (i := 421) (by decide +kernel) rfl
theorem tw422 : Cond.code ⟨"CardMessageDesk$Entry", "fill", "(LCardMessageDesk$Request;IJ)V"⟩ prog_5_method_2_code 5 none ∈ gt := gt_t (i := 422) (by decide +kernel) rfl
theorem tw423 : Cond.methodLink "CardMessageDesk$Entry" 31 ⟨"CardMessageDesk$Request", "sortKind", "()I"⟩ ∈ gt := gt_t (i := 423) (by decide +kernel) rfl
theorem tw424 : Cond.methodLink "CardMessageDesk" 78 ⟨"CardMessageDesk", "writeReply", "(I)V"⟩ ∈ gt := gt_t (i := 424) (by decide +kernel) rfl
theorem tw426 : Cond.instanceMethod ⟨"CardMessageDesk", "writeReply", "(I)V"⟩ ∈ gt := gt_t (i := 426) (by decide +kernel) rfl
theorem tw427 : Cond.code ⟨"CardMessageDesk", "writeReply", "(I)V"⟩ prog_1_method_25_code 6 none ∈ gt := gt_t (i := 427) (by decide +kernel) rfl
theorem tw428 : Cond.constantLong "CardMessageDesk" 207 8079457731511058432 ∈ gt := gt_t (i := 428) (by decide +kernel) rfl
theorem tw429 : Cond.methodLink "CardMessageDesk" 209 ⟨"CardMessageDesk$ByteRow", "appendDigits", "(JI)V"⟩ ∈ gt := gt_t (i := 429) (by decide +kernel) rfl
theorem tw430 : Cond.instanceMethod ⟨"CardMessageDesk$ByteRow", "appendDigits", "(JI)V"⟩ ∈ gt := gt_t (i := 430) (by decide +kernel) rfl
theorem tw431 : Cond.selects "CardMessageDesk$ByteRow" ⟨"CardMessageDesk$ByteRow", "appendDigits", "(JI)V"⟩ ⟨"CardMessageDesk$ByteRow", "appendDigits", "(JI)V"⟩ ∈ gt := gt_t (i := 431) (by decide +kernel) rfl
theorem tw432 : Cond.code ⟨"CardMessageDesk$ByteRow", "appendDigits", "(JI)V"⟩ prog_3_method_6_code 9 none ∈ gt := gt_t (i := 432) (by decide +kernel) rfl
theorem tw433 : Cond.constantLong "CardMessageDesk$ByteRow" 23 10 ∈ gt := gt_t (i := 433) (by decide +kernel) rfl
theorem tw434 : Cond.methodLink "CardMessageDesk$ByteRow" 25 ⟨"CardMessageDesk$ByteRow", "appendBytes", "(JI)V"⟩ ∈ gt := gt_t (i := 434) (by decide +kernel) rfl
theorem tw435 : Cond.constantLong "CardMessageDesk" 212 33554432 ∈ gt := gt_t (i := 435) (by decide +kernel) rfl
theorem tw436 : Cond.constantLong "CardMessageDesk" 214 1152921504606846976 ∈ gt := gt_t (i := 436) (by decide +kernel) rfl
theorem tw437 : Cond.methodLink "CardMessageDesk" 216 ⟨"java/lang/Math", "abs", "(J)J"⟩ ∈ gt := gt_t (i := 437) (by decide +kernel) rfl
theorem tw438 : Cond.static ⟨"java/lang/Math", "abs", "(J)J"⟩ ∈ gt := gt_t (i := 438) (by decide +kernel) rfl
theorem tw439 : Cond.code ⟨"java/lang/Math", "abs", "(J)J"⟩ prog_11_method_61_code 2 (some .long) ∈ gt := gt_t (i := 439) (by decide +kernel) rfl
theorem tw440 : Cond.methodLink "CardMessageDesk" 225 ⟨"CardMessageDesk$ByteRow", "appendFrom", "(LCardMessageDesk$ByteRow;II)V"⟩ ∈ gt := gt_t (i := 440) (by decide +kernel) rfl
theorem tw441 : Cond.instanceMethod ⟨"CardMessageDesk$ByteRow", "appendFrom", "(LCardMessageDesk$ByteRow;II)V"⟩ ∈ gt := gt_t (i := 441) (by decide +kernel) rfl
theorem tw442 : Cond.selects "CardMessageDesk$ByteRow" ⟨"CardMessageDesk$ByteRow", "appendFrom", "(LCardMessageDesk$ByteRow;II)V"⟩ ⟨"CardMessageDesk$ByteRow", "appendFrom", "(LCardMessageDesk$ByteRow;II)V"⟩ ∈ gt := gt_t (i := 442) (by decide +kernel) rfl
theorem tw443 : Cond.code ⟨"CardMessageDesk$ByteRow", "appendFrom", "(LCardMessageDesk$ByteRow;II)V"⟩ prog_3_method_7_code 5 none ∈ gt := gt_t (i := 443) (by decide +kernel) rfl
theorem tw444 : Cond.methodLink "CardMessageDesk$ByteRow" 29 ⟨"CardMessageDesk$ByteRow", "byteAt", "(I)I"⟩ ∈ gt := gt_t (i := 444) (by decide +kernel) rfl
theorem tw445 : Cond.methodLink "CardMessageDesk" 229 ⟨"CardMessageDesk$ByteRow", "append", "(I)V"⟩ ∈ gt := gt_t (i := 445) (by decide +kernel) rfl
theorem tw450 : Cond.methodLink "CardMessageDesk" 81 ⟨"CardMessageDesk$ByteRow", "byteAt", "(I)I"⟩ ∈ gt := gt_t (i := 450) (by decide +kernel) rfl
theorem tw459 : Cond.constantLong "CardMessageDesk" 92 (-1099511627776) ∈ gt := gt_t (i := 459) (by decide +kernel) rfl
theorem tw472 : Cond.methodLink "CardMessageDesk" 104 ⟨"CardMessageDesk$Journal", "lineAt", "(I)LCardMessageDesk$Entry;"⟩ ∈ gt := gt_t (i := 472) (by decide +kernel) rfl
theorem tw473 : Cond.instanceMethod ⟨"CardMessageDesk$Journal", "lineAt", "(I)LCardMessageDesk$Entry;"⟩ ∈ gt := gt_t (i := 473) (by decide +kernel) rfl
theorem tw474 : Cond.selects "CardMessageDesk$Journal" ⟨"CardMessageDesk$Journal", "lineAt", "(I)LCardMessageDesk$Entry;"⟩ ⟨"CardMessageDesk$Journal", "lineAt", "(I)LCardMessageDesk$Entry;"⟩ ∈ gt := gt_t (i := 474) (by decide +kernel) rfl
theorem tw475 : Cond.code ⟨"CardMessageDesk$Journal", "lineAt", "(I)LCardMessageDesk$Entry;"⟩ prog_6_method_2_code 2 (some (.object "CardMessageDesk$Entry")) ∈ gt := gt_t (i := 475) (by decide +kernel) rfl
theorem tw476 : Cond.methodLink "CardMessageDesk" 119 ⟨"CardMessageDesk$Entry", "stateAt", "(J)I"⟩ ∈ gt := gt_t (i := 476) (by decide +kernel) rfl
theorem tw477 : Cond.instanceMethod ⟨"CardMessageDesk$Entry", "stateAt", "(J)I"⟩ ∈ gt := gt_t (i := 477) (by decide +kernel) rfl
theorem tw478 : Cond.selects "CardMessageDesk$Entry" ⟨"CardMessageDesk$Entry", "stateAt", "(J)I"⟩ ⟨"CardMessageDesk$Entry", "stateAt", "(J)I"⟩ ∈ gt := gt_t (i := 478) (by decide +kernel) rfl
theorem tw479 : Cond.code ⟨"CardMessageDesk$Entry", "stateAt", "(J)I"⟩ prog_5_method_4_code 3 (some .int) ∈ gt := gt_t (i := 479) (by decide +kernel) rfl
theorem tw480 : Cond.methodLink "CardMessageDesk$Entry" 52 ⟨"CardMessageDesk$Entry", "isHoldAt", "(J)Z"⟩ ∈ gt := gt_t (i := 480) (by decide +kernel) rfl
theorem tw485 : Cond.constantLong "CardMessageDesk" 123 (-1) ∈ gt := gt_t (i := 485) (by decide +kernel) rfl
theorem tw500 : Cond.fieldLink "CardMessageDeskModel" 7 "CardMessageDeskModel" "cards" "[J" ∈ gt := gt_t (i := 500) (by decide +kernel) rfl
theorem tw501 : Cond.fieldLink "CardMessageDeskModel" 13 "CardMessageDeskModel" "balances" "[J" ∈ gt := gt_t (i := 501) (by decide +kernel) rfl
theorem tw502 : Cond.fieldLink "CardMessageDeskModel" 60 "CardMessageDeskModel" "many" "I" ∈ gt := gt_t (i := 502) (by decide +kernel) rfl
theorem tw503 : Cond.fieldLink "CardMessageDeskModel" 74 "CardMessageDeskModel" "now" "I" ∈ gt := gt_t (i := 503) (by decide +kernel) rfl
theorem tw504 : Cond.fieldLink "CardMessageDeskModel" 16 "CardMessageDeskModel" "in" "[I" ∈ gt := gt_t (i := 504) (by decide +kernel) rfl
theorem tw505 : Cond.fieldLink "CardMessageDeskModel" 84 "CardMessageDeskModel" "ins" "I" ∈ gt := gt_t (i := 505) (by decide +kernel) rfl
theorem tw506 : Cond.fieldLink "CardMessageDeskModel" 20 "CardMessageDeskModel" "out" "[I" ∈ gt := gt_t (i := 506) (by decide +kernel) rfl
theorem tw507 : Cond.fieldLink "CardMessageDeskModel" 196 "CardMessageDeskModel" "outs" "I" ∈ gt := gt_t (i := 507) (by decide +kernel) rfl
theorem tw508 : Cond.fieldLink "CardMessageDeskModel" 89 "CardMessageDeskModel" "at" "I" ∈ gt := gt_t (i := 508) (by decide +kernel) rfl
theorem tw509 : Cond.fieldLink "CardMessageDeskModel" 92 "CardMessageDeskModel" "value" "J" ∈ gt := gt_t (i := 509) (by decide +kernel) rfl
theorem tw510 : Cond.fieldLink "CardMessageDeskModel" 23 "CardMessageDeskModel" "has" "[Z" ∈ gt := gt_t (i := 510) (by decide +kernel) rfl
theorem tw511 : Cond.fieldLink "CardMessageDeskModel" 27 "CardMessageDeskModel" "from" "[I" ∈ gt := gt_t (i := 511) (by decide +kernel) rfl
theorem tw512 : Cond.fieldLink "CardMessageDeskModel" 30 "CardMessageDeskModel" "to" "[I" ∈ gt := gt_t (i := 512) (by decide +kernel) rfl
theorem tw513 : Cond.fieldLink "CardMessageDeskModel" 139 "CardMessageDeskModel" "type" "I" ∈ gt := gt_t (i := 513) (by decide +kernel) rfl
theorem tw514 : Cond.fieldLink "CardMessageDeskModel" 103 "CardMessageDeskModel" "card" "J" ∈ gt := gt_t (i := 514) (by decide +kernel) rfl
theorem tw515 : Cond.fieldLink "CardMessageDeskModel" 121 "CardMessageDeskModel" "sort" "I" ∈ gt := gt_t (i := 515) (by decide +kernel) rfl
theorem tw516 : Cond.fieldLink "CardMessageDeskModel" 124 "CardMessageDeskModel" "amount" "J" ∈ gt := gt_t (i := 516) (by decide +kernel) rfl
theorem tw517 : Cond.fieldLink "CardMessageDeskModel" 127 "CardMessageDeskModel" "trace" "I" ∈ gt := gt_t (i := 517) (by decide +kernel) rfl
theorem tw518 : Cond.fieldLink "CardMessageDeskModel" 130 "CardMessageDeskModel" "terminal" "I" ∈ gt := gt_t (i := 518) (by decide +kernel) rfl
theorem tw519 : Cond.fieldLink "CardMessageDeskModel" 114 "CardMessageDeskModel" "original" "I" ∈ gt := gt_t (i := 519) (by decide +kernel) rfl
theorem tw520 : Cond.fieldLink "CardMessageDeskModel" 77 "CardMessageDeskModel" "entries" "I" ∈ gt := gt_t (i := 520) (by decide +kernel) rfl
theorem tw521 : Cond.fieldLink "CardMessageDeskModel" 33 "CardMessageDeskModel" "types" "[I" ∈ gt := gt_t (i := 521) (by decide +kernel) rfl
theorem tw522 : Cond.fieldLink "CardMessageDeskModel" 36 "CardMessageDeskModel" "terminals" "[I" ∈ gt := gt_t (i := 522) (by decide +kernel) rfl
theorem tw523 : Cond.fieldLink "CardMessageDeskModel" 39 "CardMessageDeskModel" "traces" "[I" ∈ gt := gt_t (i := 523) (by decide +kernel) rfl
theorem tw524 : Cond.fieldLink "CardMessageDeskModel" 42 "CardMessageDeskModel" "whose" "[J" ∈ gt := gt_t (i := 524) (by decide +kernel) rfl
theorem tw525 : Cond.fieldLink "CardMessageDeskModel" 45 "CardMessageDeskModel" "sorts" "[I" ∈ gt := gt_t (i := 525) (by decide +kernel) rfl
theorem tw526 : Cond.fieldLink "CardMessageDeskModel" 48 "CardMessageDeskModel" "amounts" "[J" ∈ gt := gt_t (i := 526) (by decide +kernel) rfl
theorem tw527 : Cond.fieldLink "CardMessageDeskModel" 51 "CardMessageDeskModel" "answers" "[I" ∈ gt := gt_t (i := 527) (by decide +kernel) rfl
theorem tw528 : Cond.fieldLink "CardMessageDeskModel" 54 "CardMessageDeskModel" "marks" "[I" ∈ gt := gt_t (i := 528) (by decide +kernel) rfl
theorem tw529 : Cond.fieldLink "CardMessageDeskModel" 57 "CardMessageDeskModel" "made" "[I" ∈ gt := gt_t (i := 529) (by decide +kernel) rfl
theorem tw530 : Cond.fieldLink "CardMessageDeskModel" 177 "CardMessageDeskModel" "settled" "J" ∈ gt := gt_t (i := 530) (by decide +kernel) rfl
theorem tw531 : Cond.fieldLink "CardMessageDeskModel" 174 "CardMessageDeskModel" "closed" "J" ∈ gt := gt_t (i := 531) (by decide +kernel) rfl
theorem tw603 : Cond.methodLink "CardMessageDeskModel" 64 ⟨"CardMessageDeskModel", "find", "(J)I"⟩ ∈ gt := gt_t (i := 603) (by decide +kernel) rfl
theorem tw605 : Cond.instanceMethod ⟨"CardMessageDeskModel", "find", "(J)I"⟩ ∈ gt := gt_t (i := 605) (by decide +kernel) rfl
theorem tw606 : Cond.code ⟨"CardMessageDeskModel", "find", "(J)I"⟩ prog_10_method_2_code 4 (some .int) ∈ gt := gt_t (i := 606) (by decide +kernel) rfl
theorem tw607 : Cond.constantLong "CardMessageDeskModel" 68 9999999999999999 ∈ gt := gt_t (i := 607) (by decide +kernel) rfl
theorem tw608 : Cond.constantLong "CardMessageDeskModel" 70 1000000000000 ∈ gt := gt_t (i := 608) (by decide +kernel) rfl
theorem tw613 : Cond.constantLong "CardMessageDeskModel" 72 (-1099511627776) ∈ gt := gt_t (i := 613) (by decide +kernel) rfl
theorem tw615 : Cond.instanceMethod ⟨"CardMessageDeskModel", "available", "(J)J"⟩ ∈ gt := gt_t (i := 615) (by decide +kernel) rfl
theorem tw616 : Cond.selects "CardMessageDeskModel" ⟨"CardMessageDeskModel", "available", "(J)J"⟩ ⟨"CardMessageDeskModel", "available", "(J)J"⟩ ∈ gt := gt_t (i := 616) (by decide +kernel) rfl
theorem tw617 : Cond.code ⟨"CardMessageDeskModel", "available", "(J)J"⟩ prog_10_method_6_code 7 (some .long) ∈ gt := gt_t (i := 617) (by decide +kernel) rfl
theorem tw618 : Cond.methodLink "CardMessageDeskModel" 80 ⟨"CardMessageDeskModel", "isHold", "(I)Z"⟩ ∈ gt := gt_t (i := 618) (by decide +kernel) rfl
theorem tw620 : Cond.instanceMethod ⟨"CardMessageDeskModel", "isHold", "(I)Z"⟩ ∈ gt := gt_t (i := 620) (by decide +kernel) rfl
theorem tw621 : Cond.code ⟨"CardMessageDeskModel", "isHold", "(I)Z"⟩ prog_10_method_5_code 2 (some .boolean) ∈ gt := gt_t (i := 621) (by decide +kernel) rfl
theorem tw630 : Cond.constantLong "CardMessageDeskModel" 87 255 ∈ gt := gt_t (i := 630) (by decide +kernel) rfl
theorem tw635 : Cond.methodLink "CardMessageDeskModel" 214 ⟨"CardMessageDeskModel", "isRequest", "()Z"⟩ ∈ gt := gt_t (i := 635) (by decide +kernel) rfl
theorem tw637 : Cond.instanceMethod ⟨"CardMessageDeskModel", "isRequest", "()Z"⟩ ∈ gt := gt_t (i := 637) (by decide +kernel) rfl
theorem tw638 : Cond.code ⟨"CardMessageDeskModel", "isRequest", "()Z"⟩ prog_10_method_17_code 3 (some .boolean) ∈ gt := gt_t (i := 638) (by decide +kernel) rfl
theorem tw639 : Cond.methodLink "CardMessageDeskModel" 145 ⟨"CardMessageDeskModel", "readMessage", "()Z"⟩ ∈ gt := gt_t (i := 639) (by decide +kernel) rfl
theorem tw641 : Cond.instanceMethod ⟨"CardMessageDeskModel", "readMessage", "()Z"⟩ ∈ gt := gt_t (i := 641) (by decide +kernel) rfl
theorem tw642 : Cond.code ⟨"CardMessageDeskModel", "readMessage", "()Z"⟩ prog_10_method_15_code 2 (some .boolean) ∈ gt := gt_t (i := 642) (by decide +kernel) rfl
theorem tw643 : Cond.methodLink "CardMessageDeskModel" 98 ⟨"CardMessageDeskModel", "digits", "(I)Z"⟩ ∈ gt := gt_t (i := 643) (by decide +kernel) rfl
theorem tw645 : Cond.instanceMethod ⟨"CardMessageDeskModel", "digits", "(I)Z"⟩ ∈ gt := gt_t (i := 645) (by decide +kernel) rfl
theorem tw646 : Cond.code ⟨"CardMessageDeskModel", "digits", "(I)Z"⟩ prog_10_method_9_code 5 (some .boolean) ∈ gt := gt_t (i := 646) (by decide +kernel) rfl
theorem tw647 : Cond.constantLong "CardMessageDeskModel" 96 10 ∈ gt := gt_t (i := 647) (by decide +kernel) rfl
theorem tw648 : Cond.methodLink "CardMessageDeskModel" 142 ⟨"CardMessageDeskModel", "readField", "(I)Z"⟩ ∈ gt := gt_t (i := 648) (by decide +kernel) rfl
theorem tw650 : Cond.instanceMethod ⟨"CardMessageDeskModel", "readField", "(I)Z"⟩ ∈ gt := gt_t (i := 650) (by decide +kernel) rfl
theorem tw651 : Cond.code ⟨"CardMessageDeskModel", "readField", "(I)Z"⟩ prog_10_method_14_code 3 (some .boolean) ∈ gt := gt_t (i := 651) (by decide +kernel) rfl
theorem tw652 : Cond.methodLink "CardMessageDeskModel" 117 ⟨"CardMessageDeskModel", "readCard", "()Z"⟩ ∈ gt := gt_t (i := 652) (by decide +kernel) rfl
theorem tw654 : Cond.instanceMethod ⟨"CardMessageDeskModel", "readCard", "()Z"⟩ ∈ gt := gt_t (i := 654) (by decide +kernel) rfl
theorem tw655 : Cond.code ⟨"CardMessageDeskModel", "readCard", "()Z"⟩ prog_10_method_11_code 1 (some .boolean) ∈ gt := gt_t (i := 655) (by decide +kernel) rfl
theorem tw656 : Cond.constantLong "CardMessageDeskModel" 101 16 ∈ gt := gt_t (i := 656) (by decide +kernel) rfl
theorem tw657 : Cond.methodLink "CardMessageDeskModel" 108 ⟨"CardMessageDeskModel", "characters", "(III)Z"⟩ ∈ gt := gt_t (i := 657) (by decide +kernel) rfl
theorem tw659 : Cond.instanceMethod ⟨"CardMessageDeskModel", "characters", "(III)Z"⟩ ∈ gt := gt_t (i := 659) (by decide +kernel) rfl
theorem tw660 : Cond.code ⟨"CardMessageDeskModel", "characters", "(III)Z"⟩ prog_10_method_10_code 6 (some .boolean) ∈ gt := gt_t (i := 660) (by decide +kernel) rfl
theorem tw661 : Cond.methodLink "CardMessageDeskModel" 133 ⟨"CardMessageDeskModel", "readNote", "()Z"⟩ ∈ gt := gt_t (i := 661) (by decide +kernel) rfl
theorem tw663 : Cond.instanceMethod ⟨"CardMessageDeskModel", "readNote", "()Z"⟩ ∈ gt := gt_t (i := 663) (by decide +kernel) rfl
theorem tw664 : Cond.code ⟨"CardMessageDeskModel", "readNote", "()Z"⟩ prog_10_method_12_code 1 (some .boolean) ∈ gt := gt_t (i := 664) (by decide +kernel) rfl
theorem tw665 : Cond.constantLong "CardMessageDeskModel" 106 40 ∈ gt := gt_t (i := 665) (by decide +kernel) rfl
theorem tw666 : Cond.methodLink "CardMessageDeskModel" 136 ⟨"CardMessageDeskModel", "readOriginal", "()Z"⟩ ∈ gt := gt_t (i := 666) (by decide +kernel) rfl
theorem tw668 : Cond.instanceMethod ⟨"CardMessageDeskModel", "readOriginal", "()Z"⟩ ∈ gt := gt_t (i := 668) (by decide +kernel) rfl
theorem tw669 : Cond.code ⟨"CardMessageDeskModel", "readOriginal", "()Z"⟩ prog_10_method_13_code 1 (some .boolean) ∈ gt := gt_t (i := 669) (by decide +kernel) rfl
theorem tw670 : Cond.constantLong "CardMessageDeskModel" 112 6 ∈ gt := gt_t (i := 670) (by decide +kernel) rfl
theorem tw671 : Cond.methodLink "CardMessageDeskModel" 148 ⟨"CardMessageDeskModel", "due", "(I)I"⟩ ∈ gt := gt_t (i := 671) (by decide +kernel) rfl
theorem tw673 : Cond.instanceMethod ⟨"CardMessageDeskModel", "due", "(I)I"⟩ ∈ gt := gt_t (i := 673) (by decide +kernel) rfl
theorem tw674 : Cond.code ⟨"CardMessageDeskModel", "due", "(I)I"⟩ prog_10_method_16_code 4 (some .int) ∈ gt := gt_t (i := 674) (by decide +kernel) rfl
theorem tw675 : Cond.methodLink "CardMessageDeskModel" 217 ⟨"CardMessageDeskModel", "answer", "()I"⟩ ∈ gt := gt_t (i := 675) (by decide +kernel) rfl
theorem tw677 : Cond.instanceMethod ⟨"CardMessageDeskModel", "answer", "()I"⟩ ∈ gt := gt_t (i := 677) (by decide +kernel) rfl
theorem tw678 : Cond.code ⟨"CardMessageDeskModel", "answer", "()I"⟩ prog_10_method_28_code 2 (some .int) ∈ gt := gt_t (i := 678) (by decide +kernel) rfl
theorem tw679 : Cond.methodLink "CardMessageDeskModel" 160 ⟨"CardMessageDeskModel", "same", "(II)I"⟩ ∈ gt := gt_t (i := 679) (by decide +kernel) rfl
theorem tw681 : Cond.instanceMethod ⟨"CardMessageDeskModel", "same", "(II)I"⟩ ∈ gt := gt_t (i := 681) (by decide +kernel) rfl
theorem tw682 : Cond.code ⟨"CardMessageDeskModel", "same", "(II)I"⟩ prog_10_method_18_code 4 (some .int) ∈ gt := gt_t (i := 682) (by decide +kernel) rfl
theorem tw683 : Cond.methodLink "CardMessageDeskModel" 183 ⟨"CardMessageDeskModel", "authorize", "()I"⟩ ∈ gt := gt_t (i := 683) (by decide +kernel) rfl
theorem tw685 : Cond.instanceMethod ⟨"CardMessageDeskModel", "authorize", "()I"⟩ ∈ gt := gt_t (i := 685) (by decide +kernel) rfl
theorem tw686 : Cond.code ⟨"CardMessageDeskModel", "authorize", "()I"⟩ prog_10_method_20_code 4 (some .int) ∈ gt := gt_t (i := 686) (by decide +kernel) rfl
theorem tw687 : Cond.methodLink "CardMessageDeskModel" 152 ⟨"CardMessageDeskModel", "available", "(J)J"⟩ ∈ gt := gt_t (i := 687) (by decide +kernel) rfl
theorem tw688 : Cond.methodLink "CardMessageDeskModel" 156 ⟨"CardMessageDeskModel", "enter", "(II)V"⟩ ∈ gt := gt_t (i := 688) (by decide +kernel) rfl
theorem tw690 : Cond.instanceMethod ⟨"CardMessageDeskModel", "enter", "(II)V"⟩ ∈ gt := gt_t (i := 690) (by decide +kernel) rfl
theorem tw691 : Cond.code ⟨"CardMessageDeskModel", "enter", "(II)V"⟩ prog_10_method_19_code 3 none ∈ gt := gt_t (i := 691) (by decide +kernel) rfl
theorem tw692 : Cond.methodLink "CardMessageDeskModel" 187 ⟨"CardMessageDeskModel", "pay", "()I"⟩ ∈ gt := gt_t (i := 692) (by decide +kernel) rfl
theorem tw694 : Cond.instanceMethod ⟨"CardMessageDeskModel", "pay", "()I"⟩ ∈ gt := gt_t (i := 694) (by decide +kernel) rfl
theorem tw695 : Cond.code ⟨"CardMessageDeskModel", "pay", "()I"⟩ prog_10_method_22_code 3 (some .int) ∈ gt := gt_t (i := 695) (by decide +kernel) rfl
theorem tw696 : Cond.methodLink "CardMessageDeskModel" 164 ⟨"CardMessageDeskModel", "payment", "(I)I"⟩ ∈ gt := gt_t (i := 696) (by decide +kernel) rfl
theorem tw698 : Cond.instanceMethod ⟨"CardMessageDeskModel", "payment", "(I)I"⟩ ∈ gt := gt_t (i := 698) (by decide +kernel) rfl
theorem tw699 : Cond.code ⟨"CardMessageDeskModel", "payment", "(I)I"⟩ prog_10_method_21_code 4 (some .int) ∈ gt := gt_t (i := 699) (by decide +kernel) rfl
theorem tw700 : Cond.methodLink "CardMessageDeskModel" 190 ⟨"CardMessageDeskModel", "reverse", "()I"⟩ ∈ gt := gt_t (i := 700) (by decide +kernel) rfl
theorem tw702 : Cond.instanceMethod ⟨"CardMessageDeskModel", "reverse", "()I"⟩ ∈ gt := gt_t (i := 702) (by decide +kernel) rfl
theorem tw703 : Cond.code ⟨"CardMessageDeskModel", "reverse", "()I"⟩ prog_10_method_24_code 4 (some .int) ∈ gt := gt_t (i := 703) (by decide +kernel) rfl
theorem tw704 : Cond.methodLink "CardMessageDeskModel" 167 ⟨"CardMessageDeskModel", "reversible", "(I)Z"⟩ ∈ gt := gt_t (i := 704) (by decide +kernel) rfl
theorem tw706 : Cond.instanceMethod ⟨"CardMessageDeskModel", "reversible", "(I)Z"⟩ ∈ gt := gt_t (i := 706) (by decide +kernel) rfl
theorem tw707 : Cond.code ⟨"CardMessageDeskModel", "reversible", "(I)Z"⟩ prog_10_method_23_code 3 (some .boolean) ∈ gt := gt_t (i := 707) (by decide +kernel) rfl
theorem tw708 : Cond.methodLink "CardMessageDeskModel" 193 ⟨"CardMessageDeskModel", "settle", "()I"⟩ ∈ gt := gt_t (i := 708) (by decide +kernel) rfl
theorem tw710 : Cond.instanceMethod ⟨"CardMessageDeskModel", "settle", "()I"⟩ ∈ gt := gt_t (i := 710) (by decide +kernel) rfl
theorem tw711 : Cond.code ⟨"CardMessageDeskModel", "settle", "()I"⟩ prog_10_method_27_code 3 (some .int) ∈ gt := gt_t (i := 711) (by decide +kernel) rfl
theorem tw712 : Cond.methodLink "CardMessageDeskModel" 170 ⟨"CardMessageDeskModel", "netOf", "(I)J"⟩ ∈ gt := gt_t (i := 712) (by decide +kernel) rfl
theorem tw714 : Cond.instanceMethod ⟨"CardMessageDeskModel", "netOf", "(I)J"⟩ ∈ gt := gt_t (i := 714) (by decide +kernel) rfl
theorem tw715 : Cond.code ⟨"CardMessageDeskModel", "netOf", "(I)J"⟩ prog_10_method_25_code 5 (some .long) ∈ gt := gt_t (i := 715) (by decide +kernel) rfl
theorem tw716 : Cond.methodLink "CardMessageDeskModel" 180 ⟨"CardMessageDeskModel", "move", "(II)V"⟩ ∈ gt := gt_t (i := 716) (by decide +kernel) rfl
theorem tw718 : Cond.instanceMethod ⟨"CardMessageDeskModel", "move", "(II)V"⟩ ∈ gt := gt_t (i := 718) (by decide +kernel) rfl
theorem tw719 : Cond.code ⟨"CardMessageDeskModel", "move", "(II)V"⟩ prog_10_method_26_code 3 none ∈ gt := gt_t (i := 719) (by decide +kernel) rfl
theorem tw720 : Cond.methodLink "CardMessageDeskModel" 220 ⟨"CardMessageDeskModel", "answerWith", "(I)V"⟩ ∈ gt := gt_t (i := 720) (by decide +kernel) rfl
theorem tw722 : Cond.instanceMethod ⟨"CardMessageDeskModel", "answerWith", "(I)V"⟩ ∈ gt := gt_t (i := 722) (by decide +kernel) rfl
theorem tw723 : Cond.code ⟨"CardMessageDeskModel", "answerWith", "(I)V"⟩ prog_10_method_32_code 4 none ∈ gt := gt_t (i := 723) (by decide +kernel) rfl
theorem tw724 : Cond.methodLink "CardMessageDeskModel" 199 ⟨"CardMessageDeskModel", "write", "(I)V"⟩ ∈ gt := gt_t (i := 724) (by decide +kernel) rfl
theorem tw726 : Cond.instanceMethod ⟨"CardMessageDeskModel", "write", "(I)V"⟩ ∈ gt := gt_t (i := 726) (by decide +kernel) rfl
theorem tw727 : Cond.code ⟨"CardMessageDeskModel", "write", "(I)V"⟩ prog_10_method_29_code 2 none ∈ gt := gt_t (i := 727) (by decide +kernel) rfl
theorem tw728 : Cond.methodLink "CardMessageDeskModel" 207 ⟨"CardMessageDeskModel", "copy", "(I)V"⟩ ∈ gt := gt_t (i := 728) (by decide +kernel) rfl
theorem tw730 : Cond.instanceMethod ⟨"CardMessageDeskModel", "copy", "(I)V"⟩ ∈ gt := gt_t (i := 730) (by decide +kernel) rfl
theorem tw731 : Cond.code ⟨"CardMessageDeskModel", "copy", "(I)V"⟩ prog_10_method_30_code 3 none ∈ gt := gt_t (i := 731) (by decide +kernel) rfl
theorem tw732 : Cond.methodLink "CardMessageDeskModel" 210 ⟨"CardMessageDeskModel", "writeAmount", "(J)V"⟩ ∈ gt := gt_t (i := 732) (by decide +kernel) rfl
theorem tw734 : Cond.instanceMethod ⟨"CardMessageDeskModel", "writeAmount", "(J)V"⟩ ∈ gt := gt_t (i := 734) (by decide +kernel) rfl
theorem tw735 : Cond.code ⟨"CardMessageDeskModel", "writeAmount", "(J)V"⟩ prog_10_method_31_code 8 none ∈ gt := gt_t (i := 735) (by decide +kernel) rfl
theorem tw736 : Cond.constantLong "CardMessageDeskModel" 203 100000000000 ∈ gt := gt_t (i := 736) (by decide +kernel) rfl
theorem tw737 : Cond.constantLong "CardMessageDeskModel" 205 100 ∈ gt := gt_t (i := 737) (by decide +kernel) rfl
theorem tw754 : Cond.constantLong "CardMessageDeskModel" 223 (-1) ∈ gt := gt_t (i := 754) (by decide +kernel) rfl
theorem ts0 : Cond.selects "CardMessageDesk$Request" ⟨"CardMessageDesk$Request", "fieldsBelong", "()Z"⟩ ⟨"CardMessageDesk$Request", "fieldsBelong", "()Z"⟩ ∈ gt := gt_s (i := 0) (q := (⟨"CardMessageDesk$Request", "fieldsBelong", "()Z"⟩, 10)) (by decide +kernel)
theorem ts1 : Cond.selects "CardMessageDesk$Request" ⟨"CardMessageDesk$Request", "readMoneyFields", "()V"⟩ ⟨"CardMessageDesk$Request", "readMoneyFields", "()V"⟩ ∈ gt := gt_s (i := 1) (q := (⟨"CardMessageDesk$Request", "readMoneyFields", "()V"⟩, 10)) (by decide +kernel)
theorem ts2 : Cond.selects "CardMessageDesk$Request" ⟨"CardMessageDesk$Request", "readOtherFields", "()V"⟩ ⟨"CardMessageDesk$Request", "readOtherFields", "()V"⟩ ∈ gt := gt_s (i := 2) (q := (⟨"CardMessageDesk$Request", "readOtherFields", "()V"⟩, 10)) (by decide +kernel)
theorem ts3 : Cond.selects "CardMessageDesk" ⟨"CardMessageDesk", "answerRequest", "()I"⟩ ⟨"CardMessageDesk", "answerRequest", "()I"⟩ ∈ gt := gt_s (i := 3) (q := (⟨"CardMessageDesk", "answerRequest", "()I"⟩, 7)) (by decide +kernel)
theorem ts4 : Cond.selects "CardMessageDesk" ⟨"CardMessageDesk", "decide", "()I"⟩ ⟨"CardMessageDesk", "decide", "()I"⟩ ∈ gt := gt_s (i := 4) (q := (⟨"CardMessageDesk", "decide", "()I"⟩, 7)) (by decide +kernel)
theorem ts5 : Cond.selects "CardMessageDesk" ⟨"CardMessageDesk", "settle", "()I"⟩ ⟨"CardMessageDesk", "settle", "()I"⟩ ∈ gt := gt_s (i := 5) (q := (⟨"CardMessageDesk", "settle", "()I"⟩, 7)) (by decide +kernel)
theorem ts6 : Cond.selects "CardMessageDesk" ⟨"CardMessageDesk", "decideHold", "(LCardMessageDesk$Account;)I"⟩ ⟨"CardMessageDesk", "decideHold", "(LCardMessageDesk$Account;)I"⟩ ∈ gt := gt_s (i := 6) (q := (⟨"CardMessageDesk", "decideHold", "(LCardMessageDesk$Account;)I"⟩, 7)) (by decide +kernel)
theorem ts7 : Cond.selects "CardMessageDesk" ⟨"CardMessageDesk", "decideMoney", "(LCardMessageDesk$Account;)I"⟩ ⟨"CardMessageDesk", "decideMoney", "(LCardMessageDesk$Account;)I"⟩ ∈ gt := gt_s (i := 7) (q := (⟨"CardMessageDesk", "decideMoney", "(LCardMessageDesk$Account;)I"⟩, 7)) (by decide +kernel)
theorem ts8 : Cond.selects "CardMessageDesk" ⟨"CardMessageDesk", "complete", "(LCardMessageDesk$Account;)I"⟩ ⟨"CardMessageDesk", "complete", "(LCardMessageDesk$Account;)I"⟩ ∈ gt := gt_s (i := 8) (q := (⟨"CardMessageDesk", "complete", "(LCardMessageDesk$Account;)I"⟩, 7)) (by decide +kernel)
theorem ts9 : Cond.selects "CardMessageDesk" ⟨"CardMessageDesk", "debit", "(LCardMessageDesk$Account;)I"⟩ ⟨"CardMessageDesk", "debit", "(LCardMessageDesk$Account;)I"⟩ ∈ gt := gt_s (i := 9) (q := (⟨"CardMessageDesk", "debit", "(LCardMessageDesk$Account;)I"⟩, 7)) (by decide +kernel)
theorem ts10 : Cond.selects "CardMessageDesk" ⟨"CardMessageDesk", "credit", "(LCardMessageDesk$Account;)I"⟩ ⟨"CardMessageDesk", "credit", "(LCardMessageDesk$Account;)I"⟩ ∈ gt := gt_s (i := 10) (q := (⟨"CardMessageDesk", "credit", "(LCardMessageDesk$Account;)I"⟩, 7)) (by decide +kernel)
theorem ts11 : Cond.selects "CardMessageDesk" ⟨"CardMessageDesk", "reverse", "(LCardMessageDesk$Account;)I"⟩ ⟨"CardMessageDesk", "reverse", "(LCardMessageDesk$Account;)I"⟩ ∈ gt := gt_s (i := 11) (q := (⟨"CardMessageDesk", "reverse", "(LCardMessageDesk$Account;)I"⟩, 7)) (by decide +kernel)
theorem ts12 : Cond.selects "CardMessageDesk" ⟨"CardMessageDesk", "writeReply", "(I)V"⟩ ⟨"CardMessageDesk", "writeReply", "(I)V"⟩ ∈ gt := gt_s (i := 12) (q := (⟨"CardMessageDesk", "writeReply", "(I)V"⟩, 7)) (by decide +kernel)
theorem ts13 : Cond.selects "CardMessageDeskModel" ⟨"CardMessageDeskModel", "find", "(J)I"⟩ ⟨"CardMessageDeskModel", "find", "(J)I"⟩ ∈ gt := gt_s (i := 13) (q := (⟨"CardMessageDeskModel", "find", "(J)I"⟩, 32)) (by decide +kernel)
theorem ts14 : Cond.selects "CardMessageDeskModel" ⟨"CardMessageDeskModel", "isHold", "(I)Z"⟩ ⟨"CardMessageDeskModel", "isHold", "(I)Z"⟩ ∈ gt := gt_s (i := 14) (q := (⟨"CardMessageDeskModel", "isHold", "(I)Z"⟩, 32)) (by decide +kernel)
theorem ts15 : Cond.selects "CardMessageDeskModel" ⟨"CardMessageDeskModel", "isRequest", "()Z"⟩ ⟨"CardMessageDeskModel", "isRequest", "()Z"⟩ ∈ gt := gt_s (i := 15) (q := (⟨"CardMessageDeskModel", "isRequest", "()Z"⟩, 32)) (by decide +kernel)
theorem ts16 : Cond.selects "CardMessageDeskModel" ⟨"CardMessageDeskModel", "readMessage", "()Z"⟩ ⟨"CardMessageDeskModel", "readMessage", "()Z"⟩ ∈ gt := gt_s (i := 16) (q := (⟨"CardMessageDeskModel", "readMessage", "()Z"⟩, 32)) (by decide +kernel)
theorem ts17 : Cond.selects "CardMessageDeskModel" ⟨"CardMessageDeskModel", "digits", "(I)Z"⟩ ⟨"CardMessageDeskModel", "digits", "(I)Z"⟩ ∈ gt := gt_s (i := 17) (q := (⟨"CardMessageDeskModel", "digits", "(I)Z"⟩, 32)) (by decide +kernel)
theorem ts18 : Cond.selects "CardMessageDeskModel" ⟨"CardMessageDeskModel", "readField", "(I)Z"⟩ ⟨"CardMessageDeskModel", "readField", "(I)Z"⟩ ∈ gt := gt_s (i := 18) (q := (⟨"CardMessageDeskModel", "readField", "(I)Z"⟩, 32)) (by decide +kernel)
theorem ts19 : Cond.selects "CardMessageDeskModel" ⟨"CardMessageDeskModel", "readCard", "()Z"⟩ ⟨"CardMessageDeskModel", "readCard", "()Z"⟩ ∈ gt := gt_s (i := 19) (q := (⟨"CardMessageDeskModel", "readCard", "()Z"⟩, 32)) (by decide +kernel)
theorem ts20 : Cond.selects "CardMessageDeskModel" ⟨"CardMessageDeskModel", "characters", "(III)Z"⟩ ⟨"CardMessageDeskModel", "characters", "(III)Z"⟩ ∈ gt := gt_s (i := 20) (q := (⟨"CardMessageDeskModel", "characters", "(III)Z"⟩, 32)) (by decide +kernel)
theorem ts21 : Cond.selects "CardMessageDeskModel" ⟨"CardMessageDeskModel", "readNote", "()Z"⟩ ⟨"CardMessageDeskModel", "readNote", "()Z"⟩ ∈ gt := gt_s (i := 21) (q := (⟨"CardMessageDeskModel", "readNote", "()Z"⟩, 32)) (by decide +kernel)
theorem ts22 : Cond.selects "CardMessageDeskModel" ⟨"CardMessageDeskModel", "readOriginal", "()Z"⟩ ⟨"CardMessageDeskModel", "readOriginal", "()Z"⟩ ∈ gt := gt_s (i := 22) (q := (⟨"CardMessageDeskModel", "readOriginal", "()Z"⟩, 32)) (by decide +kernel)
theorem ts23 : Cond.selects "CardMessageDeskModel" ⟨"CardMessageDeskModel", "due", "(I)I"⟩ ⟨"CardMessageDeskModel", "due", "(I)I"⟩ ∈ gt := gt_s (i := 23) (q := (⟨"CardMessageDeskModel", "due", "(I)I"⟩, 32)) (by decide +kernel)
theorem ts24 : Cond.selects "CardMessageDeskModel" ⟨"CardMessageDeskModel", "answer", "()I"⟩ ⟨"CardMessageDeskModel", "answer", "()I"⟩ ∈ gt := gt_s (i := 24) (q := (⟨"CardMessageDeskModel", "answer", "()I"⟩, 32)) (by decide +kernel)
theorem ts25 : Cond.selects "CardMessageDeskModel" ⟨"CardMessageDeskModel", "same", "(II)I"⟩ ⟨"CardMessageDeskModel", "same", "(II)I"⟩ ∈ gt := gt_s (i := 25) (q := (⟨"CardMessageDeskModel", "same", "(II)I"⟩, 32)) (by decide +kernel)
theorem ts26 : Cond.selects "CardMessageDeskModel" ⟨"CardMessageDeskModel", "authorize", "()I"⟩ ⟨"CardMessageDeskModel", "authorize", "()I"⟩ ∈ gt := gt_s (i := 26) (q := (⟨"CardMessageDeskModel", "authorize", "()I"⟩, 32)) (by decide +kernel)
theorem ts27 : Cond.selects "CardMessageDeskModel" ⟨"CardMessageDeskModel", "enter", "(II)V"⟩ ⟨"CardMessageDeskModel", "enter", "(II)V"⟩ ∈ gt := gt_s (i := 27) (q := (⟨"CardMessageDeskModel", "enter", "(II)V"⟩, 32)) (by decide +kernel)
theorem ts28 : Cond.selects "CardMessageDeskModel" ⟨"CardMessageDeskModel", "pay", "()I"⟩ ⟨"CardMessageDeskModel", "pay", "()I"⟩ ∈ gt := gt_s (i := 28) (q := (⟨"CardMessageDeskModel", "pay", "()I"⟩, 32)) (by decide +kernel)
theorem ts29 : Cond.selects "CardMessageDeskModel" ⟨"CardMessageDeskModel", "payment", "(I)I"⟩ ⟨"CardMessageDeskModel", "payment", "(I)I"⟩ ∈ gt := gt_s (i := 29) (q := (⟨"CardMessageDeskModel", "payment", "(I)I"⟩, 32)) (by decide +kernel)
theorem ts30 : Cond.selects "CardMessageDeskModel" ⟨"CardMessageDeskModel", "reverse", "()I"⟩ ⟨"CardMessageDeskModel", "reverse", "()I"⟩ ∈ gt := gt_s (i := 30) (q := (⟨"CardMessageDeskModel", "reverse", "()I"⟩, 32)) (by decide +kernel)
theorem ts31 : Cond.selects "CardMessageDeskModel" ⟨"CardMessageDeskModel", "reversible", "(I)Z"⟩ ⟨"CardMessageDeskModel", "reversible", "(I)Z"⟩ ∈ gt := gt_s (i := 31) (q := (⟨"CardMessageDeskModel", "reversible", "(I)Z"⟩, 32)) (by decide +kernel)
theorem ts32 : Cond.selects "CardMessageDeskModel" ⟨"CardMessageDeskModel", "settle", "()I"⟩ ⟨"CardMessageDeskModel", "settle", "()I"⟩ ∈ gt := gt_s (i := 32) (q := (⟨"CardMessageDeskModel", "settle", "()I"⟩, 32)) (by decide +kernel)
theorem ts33 : Cond.selects "CardMessageDeskModel" ⟨"CardMessageDeskModel", "netOf", "(I)J"⟩ ⟨"CardMessageDeskModel", "netOf", "(I)J"⟩ ∈ gt := gt_s (i := 33) (q := (⟨"CardMessageDeskModel", "netOf", "(I)J"⟩, 32)) (by decide +kernel)
theorem ts34 : Cond.selects "CardMessageDeskModel" ⟨"CardMessageDeskModel", "move", "(II)V"⟩ ⟨"CardMessageDeskModel", "move", "(II)V"⟩ ∈ gt := gt_s (i := 34) (q := (⟨"CardMessageDeskModel", "move", "(II)V"⟩, 32)) (by decide +kernel)
theorem ts35 : Cond.selects "CardMessageDeskModel" ⟨"CardMessageDeskModel", "answerWith", "(I)V"⟩ ⟨"CardMessageDeskModel", "answerWith", "(I)V"⟩ ∈ gt := gt_s (i := 35) (q := (⟨"CardMessageDeskModel", "answerWith", "(I)V"⟩, 32)) (by decide +kernel)
theorem ts36 : Cond.selects "CardMessageDeskModel" ⟨"CardMessageDeskModel", "write", "(I)V"⟩ ⟨"CardMessageDeskModel", "write", "(I)V"⟩ ∈ gt := gt_s (i := 36) (q := (⟨"CardMessageDeskModel", "write", "(I)V"⟩, 32)) (by decide +kernel)
theorem ts37 : Cond.selects "CardMessageDeskModel" ⟨"CardMessageDeskModel", "copy", "(I)V"⟩ ⟨"CardMessageDeskModel", "copy", "(I)V"⟩ ∈ gt := gt_s (i := 37) (q := (⟨"CardMessageDeskModel", "copy", "(I)V"⟩, 32)) (by decide +kernel)
theorem ts38 : Cond.selects "CardMessageDeskModel" ⟨"CardMessageDeskModel", "writeAmount", "(J)V"⟩ ⟨"CardMessageDeskModel", "writeAmount", "(J)V"⟩ ∈ gt := gt_s (i := 38) (q := (⟨"CardMessageDeskModel", "writeAmount", "(J)V"⟩, 32)) (by decide +kernel)
