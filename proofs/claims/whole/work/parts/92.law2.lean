theorem rel0 {LA LE : List Nat} {fA fE : Nat → Option Nat} (hA : PLs 6 fA LA) (hE : PLs 32 fE LE) : relS LA LE 0 (cs0 fA fE) ms0 := by
  obtain ⟨ac, a1, a2⟩ := hA
  obtain ⟨ln, b1, b2⟩ := hE
  exact ⟨ac, ln, [], [], 0, [], [], ⟨by decide, by decide, by decide, by decide, fun b hb => (by cases hb), by decide, fun r hr => (by cases hr), List.Pairwise.nil⟩, ⟨rfl, a1, a2, isL_nil⟩, ⟨rfl, b1, b2, isL_nil⟩, rfl, ⟨rfl, isL_nil⟩, ⟨rfl, isL_nil⟩, ⟨rfl, isL_nil⟩, ⟨rfl, fun k h => absurd h (Nat.not_lt_zero k)⟩, rfl, ⟨rfl, isL_nil⟩, ⟨rfl, isL_nil⟩, rfl⟩
set_option maxHeartbeats 8000000 in
set_option maxRecDepth 100000 in
theorem whole_start {p : Program} {e : Env} {s : State} {m : MethodId} {below : List Frame} {meth : Method} {c : Code} (l : Launch) {b L : Nat} {xs : Nat → Int32} (hL : L ≤ 2560) (C0 : lw_At p s m meth c b L xs) : W p l e room_1 s m #[Value.ref b] below meth c s.heap [] 0 0 (lw_Z below #[Value.ref b] s) (entryFrame m ([Value.ref b] : List Value).toArray 4) := by
  obtain ⟨hx, hb, hr, hml, hown, hts0, hX, hbl, hlocks, hgv⟩ := id C0
  have hts := gt_of hts0
  have hA : ∀ q : Nat, s.heap.size ≤ q → (fun q : Nat => s.heap.size ≤ q) q := fun _ h => h
  have hN : nx s := by
    refine ⟨⟨fun q hq => ?_, fun q hq => ?_⟩, ?_, ?_⟩
    · have hm : ∀ q ∈ nF, (Cond.fieldLinkNest q.1 q.2.1 q.2.2.1 q.2.2.2.1 q.2.2.2.2.1 q.2.2.2.2.2) ∈ tables_1 := nF_in
      exact va_Nw.of rfl (hts0 _ (List.mem_append_right _ (hm q hq)))
    · have hm : ∀ q ∈ nM, (Cond.methodLinkNest q.1 q.2.1 q.2.2.1 q.2.2.2) ∈ tables_1 := nM_in
      exact va_Nw.of rfl (hts0 _ (List.mem_append_right _ (hm q hq)))
    · exact va_AO.of (hts0 _ (List.mem_append_right _ (List.mem_of_getElem? (i := 111) (a := Cond.arrayOver (.object "CardMessageDesk$Account")) (by decide +kernel))))
    · exact va_AO.of (hts0 _ (List.mem_append_right _ (List.mem_of_getElem? (i := 141) (a := Cond.arrayOver (.object "CardMessageDesk$Entry")) (by decide +kernel))))
  obtain ⟨c0, iS0, hKn0⟩ := u_known (C := "CardMessageDesk$Account") (T := T_Acc) (N := 2) (n := 2) hts in_Acc (hts _ tw112)
  obtain ⟨c1, iS1, hKn1⟩ := u_known (C := "CardMessageDesk$ByteRow") (T := T_Row) (N := 2) (n := 2) hts in_Row (hts _ tw20)
  obtain ⟨c2, iS2, hKn2⟩ := u_known (C := "CardMessageDesk$Cards") (T := T_Crd) (N := 2) (n := 2) hts in_Crd (hts _ tw105)
  obtain ⟨c3, iS3, hKn3⟩ := u_known (C := "CardMessageDesk$Entry") (T := T_Ent) (N := 9) (n := 9) hts in_Ent (hts _ tw142)
  obtain ⟨c4, iS4, hKn4⟩ := u_known (C := "CardMessageDesk$Journal") (T := T_Jou) (N := 3) (n := 3) hts in_Jou (hts _ tw135)
  obtain ⟨c5, iS5, hKn5⟩ := u_known (C := "CardMessageDesk$Reader") (T := T_Rdr) (N := 3) (n := 3) hts in_Rdr (hts _ tw42)
  obtain ⟨c6, iS6, hKn6⟩ := u_known (C := "CardMessageDesk$Request") (T := T_Req) (N := 10) (n := 10) hts in_Req (hts _ tw36)
  obtain ⟨c7, iS7, hKn7⟩ := u_known (C := "CardMessageDesk") (T := T_Dsk) (N := 7) (n := 7) hts in_Dsk (hts _ tw12)
  obtain ⟨c8, iS8, hKn8⟩ := u_known (C := "CardMessageDeskModel") (T := T_Mod) (N := 32) (n := 32) hts in_Mod (hts _ tw495)
  obtain ⟨dC, dI, hKc⟩ : ∃ (dC : Nat → ClassId) (dI : Nat → Nat → Nat), ∀ (k : Nat) (q : vw_C), vwCl[k]? = some q → u_Kn s q.1 q.2.1 q.2.2 (dC k) (dI k) := by
    refine ⟨fun k => match k with | 0 => c0 | 1 => c1 | 2 => c2 | 3 => c3 | 4 => c4 | 5 => c5 | 6 => c6 | 7 => c7 | _ => c8, fun k => match k with | 0 => iS0 | 1 => iS1 | 2 => iS2 | 3 => iS3 | 4 => iS4 | 5 => iS5 | 6 => iS6 | 7 => iS7 | _ => iS8, ?_⟩
    intro k q hq
    match k, hq with
    | 0, hq => cases hq; exact hKn0
    | 1, hq => cases hq; exact hKn1
    | 2, hq => cases hq; exact hKn2
    | 3, hq => cases hq; exact hKn3
    | 4, hq => cases hq; exact hKn4
    | 5, hq => cases hq; exact hKn5
    | 6, hq => cases hq; exact hKn6
    | 7, hq => cases hq; exact hKn7
    | 8, hq => cases hq; exact hKn8
    | k + 9, hq => simp [vwCl] at hq
  have hS : va_S (fun q : Nat => s.heap.size ≤ q) s.heap s.heap [] := va_S.rf
  have hK : va_K (dC, dI) vwCl [] s := ⟨hKc, fun k q h => by simp at h⟩
  have hP : va_P (dC, dI) vwCl [] s.heap := fun k q h => by simp at h
  have hD : va_D (fun q : Nat => s.heap.size ≤ q) [] := ⟨fun i j p q h => by simp at h, fun k q h => by simp at h⟩
  have hl := lv_entry ([.ref b]) (n := 4) (Nat.le_of_ble_eq_true rfl)
  rw [lg_entry_eq]
  generalize (lg_sl ([.ref b]) ++ List.replicate (4 - (lg_sl ([.ref b])).length) Slot.unset).toArray = ls at hl ⊢
  have hl : lv_has ls 4 [(0, .ref b)] := hl
  refine va_new (ci := 7) (fs := [.null, .null, .null, .null, .null, .long 0, .long 0]) (C := "CardMessageDesk") (T := T_Dsk) (N := 7) hx hb hts in_Dsk ty_Dsk ty_Dsk_ok hown (hts _ tw11) (hts _ tw12) (hts _ tw1) hK hP hD hS hA rfl (by decide +kernel) (Nat.le_of_ble_eq_true rfl) (Nat.le_of_ble_eq_true rfl) d_Law_law_0 (fun q0 H hP hD hS => ?_)
  have hP : va_P (dC, dI) vwCl [(q0, .inr (7, [.null, .null, .null, .null, .null, .long 0, .long 0]))] H := hP
  have hD : va_D (fun q : Nat => s.heap.size ≤ q) [(q0, .inr (7, [.null, .null, .null, .null, .null, .long 0, .long 0]))] := hD
  refine W.widen (k := 1) (n := 7) (by decide) (by decide) ?_
  refine lv_dup hx hb d_Law_law_3 rfl ?_
  have hPc := hP
  have hDc := hD
  have hFc := va_fr hDc hS hA
  refine va_callv (va_runI (As := []) (rest := [.ref q0]) ⟨hx, hb, hml, hown, hts⟩ (ci_Dsk l dC dI q0 H.size) (cwI 0 hts (gt_c tw15) rfl rfl rfl (hts _ tw1) (hts _ tw13) (hts _ tw14) rfl (by decide +kernel) ⟨Nat.le_of_ble_eq_true rfl, Nat.le_of_ble_eq_true rfl⟩) ⟨iBl, fun U hU hW => ⟨rfl, iPr hPc hK hDc hN hU hW⟩⟩ rfl rfl hl.1 rfl (lv_room (Nat.le_of_ble_eq_true rfl)) d_Law_law_4 ⟨Nat.le_of_ble_eq_true rfl, Nat.le_of_ble_eq_true rfl⟩) hS (fun q _ h => hFc q h) hFc (fun u t H1 locs ht hvm hw hB hz1 hk1 hS => ?_)
  obtain ⟨ad, ca, LA, LE, fA, fE⟩ := u
  obtain ⟨had, hpA, hpE⟩ := hw
  have had : ad 0 = q0 := had
  have hpA : PLs 6 fA LA := hpA
  have hpE : PLs 32 fE LE := hpE
  obtain ⟨hP1, hK1, hD1⟩ := hB
  rw [ht] at hP1
  have hKc := va_K.moved hvm.symm hK1
  have hP : va_P (dC, dI) vwCl (cw ad ca LA LE (cs0 fA fE)) H1 := hP1
  have hD : va_D (fun q : Nat => s.heap.size ≤ q) (cw ad ca LA LE (cs0 fA fE)) := hD1.weaken (fun _ q _ h => hFc q.1 h)
  have hKc : va_K (dC, dI) vwCl (cT ca) s := hKc
  generalize H1 = H at hP hS ⊢
  refine W.widen (k := 49) (n := 524) (by decide) (by decide) ?_
  refine lv_astore_n (lv' := [(1, .ref q0), (0, .ref b)]) hx hb d_Law_law_7 rfl hl (by decide) rfl (fun ls hl => ?_)
  refine va_new (ci := 8) (fs := [.null, .null, .int 0, .int 0, .null, .int 0, .null, .int 0, .int 0, .long 0, .null, .null, .null, .int 0, .long 0, .int 0, .long 0, .int 0, .int 0, .int 0, .int 0, .null, .null, .null, .null, .null, .null, .null, .null, .null, .long 0, .long 0]) (C := "CardMessageDeskModel") (T := T_Mod) (N := 32) hx hb hts in_Mod ty_Mod ty_Mod_ok hown (hts _ tw494) (hts _ tw495) (hts _ tw9) hK hP hD hS hA rfl (by decide +kernel) (Nat.le_of_ble_eq_true rfl) (Nat.le_of_ble_eq_true rfl) d_Law_law_8 (fun q8 H hP hD hS => ?_)
  have hP : va_P (dC, dI) vwCl (([] ++ cw ad ca LA LE (cs0 fA fE)) ++ [(q8, .inr (8, [.null, .null, .int 0, .int 0, .null, .int 0, .null, .int 0, .int 0, .long 0, .null, .null, .null, .int 0, .long 0, .int 0, .long 0, .int 0, .int 0, .int 0, .int 0, .null, .null, .null, .null, .null, .null, .null, .null, .null, .long 0, .long 0]))]) H := hP
  have hD : va_D (fun q : Nat => s.heap.size ≤ q) (([] ++ cw ad ca LA LE (cs0 fA fE)) ++ [(q8, .inr (8, [.null, .null, .int 0, .int 0, .null, .int 0, .null, .int 0, .int 0, .long 0, .null, .null, .null, .int 0, .long 0, .int 0, .long 0, .int 0, .int 0, .int 0, .int 0, .null, .null, .null, .null, .null, .null, .null, .null, .null, .long 0, .long 0]))]) := hD
  have hP := hP.swap
  have hD := hD.swap
  have hP : va_P (dC, dI) vwCl ([(q8, .inr (8, [.null, .null, .int 0, .int 0, .null, .int 0, .null, .int 0, .int 0, .long 0, .null, .null, .null, .int 0, .long 0, .int 0, .long 0, .int 0, .int 0, .int 0, .int 0, .null, .null, .null, .null, .null, .null, .null, .null, .null, .long 0, .long 0]))] ++ cw ad ca LA LE (cs0 fA fE)) H := hP
  have hD : va_D (fun q : Nat => s.heap.size ≤ q) ([(q8, .inr (8, [.null, .null, .int 0, .int 0, .null, .int 0, .null, .int 0, .int 0, .long 0, .null, .null, .null, .int 0, .long 0, .int 0, .long 0, .int 0, .int 0, .int 0, .int 0, .null, .null, .null, .null, .null, .null, .null, .null, .null, .long 0, .long 0]))] ++ cw ad ca LA LE (cs0 fA fE)) := hD
  refine W.widen (k := 50) (n := 556) (by decide) (by decide) ?_
  refine lv_dup hx hb d_Law_law_11 rfl ?_
  have hPc := hP.sub (ws' := [(q8, .inr (8, [.null, .null, .int 0, .int 0, .null, .int 0, .null, .int 0, .int 0, .long 0, .null, .null, .null, .int 0, .long 0, .int 0, .long 0, .int 0, .int 0, .int 0, .int 0, .null, .null, .null, .null, .null, .null, .null, .null, .null, .long 0, .long 0]))]) [0] rfl
  have hDc := hD.sub (ws' := [(q8, .inr (8, [.null, .null, .int 0, .int 0, .null, .int 0, .null, .int 0, .int 0, .long 0, .null, .null, .null, .int 0, .long 0, .int 0, .long 0, .int 0, .int 0, .int 0, .int 0, .null, .null, .null, .null, .null, .null, .null, .null, .null, .long 0, .long 0]))]) [0] (by decide) rfl
  have hFc := va_fr hDc hS hA
  refine va_callv (va_runI (As := []) (rest := [.ref q8]) ⟨hx, hb, hml, hown, hts⟩ (ci_Mod l dC dI q8 H.size) (cwI 0 hts (gt_c tw498) rfl rfl rfl (hts _ tw9) (hts _ tw496) (hts _ tw497) rfl (by decide +kernel) ⟨Nat.le_of_ble_eq_true rfl, Nat.le_of_ble_eq_true rfl⟩) ⟨iBl, fun U hU hW => ⟨rfl, iPr hPc hK hDc hN hU hW⟩⟩ rfl rfl hl.1 rfl (lv_room (Nat.le_of_ble_eq_true rfl)) d_Law_law_12 ⟨Nat.le_of_ble_eq_true rfl, Nat.le_of_ble_eq_true rfl⟩) hS (fun q _ h => hFc q h) hFc (fun u t H1 locs ht hvm hw hB hz1 hk1 hS => ?_)
  obtain ⟨bd, cb⟩ := u
  obtain ⟨hbd, hP1, hK1, hD1⟩ := hB
  have hbd : bd 0 = q8 := hbd
  rw [ht] at hP1
  have hKm := va_K.moved hvm.symm hK1
  obtain ⟨hP, hD⟩ := va_joinQ (X := [(q8, .inr (8, [.null, .null, .int 0, .int 0, .null, .int 0, .null, .int 0, .int 0, .long 0, .null, .null, .null, .int 0, .long 0, .int 0, .long 0, .int 0, .int 0, .int 0, .int 0, .null, .null, .null, .null, .null, .null, .null, .null, .null, .long 0, .long 0]))]) (cx := [(q8, .inr (8, [.null, .null, .int 0, .int 0, .null, .int 0, .null, .int 0, .int 0, .long 0, .null, .null, .null, .int 0, .long 0, .int 0, .long 0, .int 0, .int 0, .int 0, .int 0, .null, .null, .null, .null, .null, .null, .null, .null, .null, .long 0, .long 0]))]) (wr := []) (w1 := mw bd cb ms0) (pl := cw ad ca LA LE (cs0 fA fE)) hP hD [0] [] rfl rfl (by decide) (by decide) hk1 hFc hP1 hD1
  have hP : va_P (dC, dI) vwCl (mw bd cb ms0 ++ cw ad ca LA LE (cs0 fA fE)) H1 := hP
  have hD : va_D (fun q : Nat => s.heap.size ≤ q) (mw bd cb ms0 ++ cw ad ca LA LE (cs0 fA fE)) := hD
  generalize H1 = H at hP hS ⊢
  refine W.widen (k := 66) (n := 1323) (by decide) (by decide) ?_
  refine lv_astore_n (lv' := [(2, .ref q8), (1, .ref q0), (0, .ref b)]) hx hb d_Law_law_15 rfl hl (by decide) rfl (fun ls hl => ?_)
  refine lv_iconst (v := 0) hx hb d_Law_law_16 (by decide) ?_
  refine lv_istore_n (lv' := [(3, .int 0), (2, .ref q8), (1, .ref q0), (0, .ref b)]) hx hb d_Law_law_17 rfl hl (by decide) rfl (fun ls hl => ?_)
  rw [← had, ← hbd] at hl
  exact law_loop hL C0 hN.1 hKm hKc (L + 1) 0 (cs0 fA fE) ms0 _ _ ls (Nat.zero_le _) (by omega) (rel0 hpA hpE) hP hD hS hl
-- ===== YOUR PART ENDS =====
set_option maxHeartbeats 4000000 in
theorem lw_walk (l : Launch) (b : Addr) (xs : List Int32) : MetFree l x (headSpec (Jvm.Cond.code x code maxLocals ret :: tables_1) room_1) (lw_P b xs) (fun _ _ _ _ _ => True) lw_Q := by
  refine MetFree.of_bodyS (code := code) (maxLocals := maxLocals) (ret := ret) (by decide) ?_ ?_
  · intro args s m h hn
    obtain ⟨meth, c, h1, h2, h3, h4, h5, h6, -, -⟩ := Cond.code_spec hn (atoms_spec (ws := Jvm.Cond.code x code maxLocals ret :: tables_1) h _ List.mem_cons_self)
    exact ⟨meth, c, h1, h2, h3, h4, h5, h6⟩
  · intro p e s m args below meth c s₁ B hml0 hP _
    obtain ⟨rfl, hx, hbd, hgv⟩ := hP
    obtain ⟨scr, harrAt, hlist, hof, hsmall⟩ := hx
    obtain ⟨hcb, hkn, -, -⟩ := State.arrayAt?_spec harrAt
    have hown : s.vm.findClass R_law = some m.cls := findClass_of_methodNamed B.named
    have hts0 : ∀ c ∈ (Jvm.Cond.code x code maxLocals ret :: tables_1), c.before #[Value.ref b] s = true := atoms_spec (ws := Jvm.Cond.code x code maxLocals ret :: tables_1) B.pre
    have hts : ∀ w ∈ lw_tbl, w.before #[Value.ref b] s = true := k2_hts_sels lw_privs (fun w hw => hts0 w (List.mem_cons_of_mem _ hw)) lw_privs_ok
    have hml : c.maxLocals = 4 := B.maxLocals_eq (hts0 _ List.mem_cons_self)
    have X₀ : Stand p l e room_1 s m #[Value.ref b] below meth c s₁ [] 0 0 := Stand.of_body B
    have hh0 : s₁.heap = s.heap := by rw [B.state]; rfl
    have hsz : scr.slots.size = xs.length := by rw [← Array.length_toList, hlist, List.length_map]
    have hval : ∀ j : Nat, j < xs.length → scr.slots[j]? = some (.int (xs.getD j 0)) := fun j hj => by
      rw [← Array.getElem?_toList, hlist]
      simp [hj]
    have hbl : b < s.heap.size := (Array.getElem?_eq_some_iff.mp hcb).1
    have hX : va_X b xs.length (fun j => xs.getD j 0) s s.heap := ⟨scr, hcb, hof, hkn, hsz, hval⟩
    have K : W p l e room_1 s m #[Value.ref b] below meth c s₁.heap [] 0 0 (lw_Z below #[Value.ref b] s) (entryFrame m ([Value.ref b] : List Value).toArray 4) := by
      rw [hh0]
      exact whole_start l hbd ⟨B.exec, B.bytes, B.returns, hml, hown, hts, hX, hbl, B.notSynchronized, hgv⟩
    obtain ⟨t, a1, o, b1, b2, b3⟩ := K s₁ rfl X₀
    exact ⟨t, o, a1, b1, b2, b3⟩
theorem lw_pre_spec {args : Array Value} {s : State} (h : (Jvm.Cond.and given_1 narrow_1).before args s = true) (hr : rest_1_c.before args s = true) : ∃ (b : Addr) (xs : List Int32), lw_P b xs args s := by
  have hs := flat_of_before _ h
  have hq := flat_of_before _ hr
  have hc : (Cond.count 1).before args s = true := hs _ (by decide +kernel)
  have harr : (Cond.arrayOf (.arg 0) .int).before args s = true := hs _ (by decide +kernel)
  have hle : (Cond.le (.length (.arg 0)) (.int 2560)).before args s = true := hs _ (by decide +kernel)
  have hlen : (Cond.isInt (.length (.arg 0))).before args s = true := hq _ (by decide +kernel)
  have hall : (Cond.all (.arg 0) (.isInt (.elem (.arg 0) (.index 0)))).before args s = true := hq _ (by decide +kernel)
  obtain ⟨b, xs, hb, hx⟩ := State.ints_of_pre rfl harr hlen hall
  have hsm : xs.length < 2 ^ 31 := hx.choose_spec.2.2.2
  have hev : (Term.length (.arg 0)).eval args s none [] s = some (.int xs.length.toInt32) := hx.length_eval hb
  have hv := Cond.le_ints hev (show (Term.int 2560).eval args s none [] s = some (.int 2560) from rfl)
  have hd : xs.length.toInt32 ≤ 2560 := by
    simpa [Cond.before, Cond.holds, hv] using hle
  have hN : xs.length ≤ 2560 := (Int32.ofNat_le_ofNat hsm (by decide)).mp (show Int32.ofNat xs.length ≤ Int32.ofNat 2560 from hd)
  exact ⟨b, xs, Cond.one_arg hc (show args[0]? = some (.ref b) from hb), hx, hN, h⟩
theorem lw_comes (l : Launch) : Comes l x (Jvm.Cond.code x code maxLocals ret :: tables_1) room_1 (fun tb e args s => Calls_1 tb e args s ∧ rest_1 tb e args s ∧ Pre_1 tb e args s)
    (fun _ _ args s o t => lw_Q args s o t) := by
  intro p e ha hc hk s m args below hf hfit hheap happ hpre
  obtain ⟨b, xs, hP⟩ := lw_pre_spec hpre.2.2 hpre.2.1
  obtain ⟨k, o, h1, h2, h3, hQ⟩ := lw_walk l b xs p e ha hc hk s m args below hf ((Spec.applies_iff_loose hf).mp happ).1 hP trivial
  exact ⟨k, o, h1, h2, h3, hQ⟩
theorem lw_frame {s t : State} {o : Outcome} {args : Array Value} (h : Framed s o t [] 600000 7302250) :
    Framed s o t (fieldLocs frame_1_writes args s ++ arrayLocs frame_1_arrays args s ++ staticLocs frame_1_statics s) 600000 7302250 := h
theorem lw_limb (L : Cond) (hL : ∀ (args : Array Value) (s t : State), L.after args s (.returned (some (.int 1))) t = true) :
    ArmFor flags0 classFile x code maxLocals ret World_1 tables_1 room_1 Calls_1 rest_1 Pre_1
      (fun tb e a s o t => postC L tb e a s o t ∧ Framed s o t (fieldLocs frame_1_writes a s ++ arrayLocs frame_1_arrays a s ++ staticLocs frame_1_statics s) 600000 7302250) := by
  intro l _ _ _ p e ha hc hk s m args below hf hfit hheap happ hpre
  obtain ⟨k, o, h1, h2, h3, rfl, hF⟩ := lw_comes l p e ha hc hk s m args below hf hfit hheap happ hpre
  exact ⟨k, _, h1, h2, h3, hL args s _, lw_frame hF⟩
theorem i_vc : Claimed_1_1 ∧ Claimed_1_2 := ⟨lw_limb limb_1_1 (fun args s t => by simp [limb_1_1, Cond.after, Cond.holds, Cond.value]), lw_limb limb_1_2 (fun args s t => Cond.after_iff.mpr (by
  first | (rw [show limb_1_2 = Cond.eq .result (.int 1) from rfl, Cond.eq_ints (x := 1) (y := 1) rfl rfl]; simp; done) | (simp [limb_1_2, Cond.value, Term.eval]; done)))⟩
