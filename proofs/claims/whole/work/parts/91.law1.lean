set_option maxHeartbeats 8000000 in
set_option maxRecDepth 100000 in
theorem law_loop {p : Program} {l : Launch} {e : Env} {s : State} {m : MethodId} {below : List Frame} {meth : Method} {c : Code} {dC : Nat → ClassId} {dI : Nat → Nat → Nat} {b L : Nat} {xs : Nat → Int32} {bd ad : Nat → Nat} {cb ca : Nat → ClassId} {LA LE : List Nat} (hL : L ≤ 2560) (C0 : lw_At p s m meth c b L xs) (hN : nw s) (hKm : va_K (dC, dI) vwCl (mT cb) s) (hKc : va_K (dC, dI) vwCl (cT ca) s) :
    ∀ (n t : Nat) (d : CS) (u : MS) (H : Heap) (locs : List Loc) (ls : Array Slot), 5 * t ≤ L → L + 1 ≤ 5 * t + n → relS LA LE t d u → va_P (dC, dI) vwCl (mw bd cb u ++ cw ad ca LA LE d) H → va_D (fun q : Nat => s.heap.size ≤ q) (mw bd cb u ++ cw ad ca LA LE d) → va_S (fun q : Nat => s.heap.size ≤ q) s.heap H locs → lv_has ls 4 [(3, .int (nI (5 * t))), (2, .ref (bd 0)), (1, .ref (ad 0)), (0, .ref b)] → W p l e room_1 s m #[Value.ref b] below meth c H locs 66 1323 (lw_Z below #[Value.ref b] s) (F0 m 18 ls []) := by
  obtain ⟨hx, hb, hr, hml, hown, hts0, hX, hbl, hlocks, hgv⟩ := C0
  have hts := gt_of hts0
  have hA : ∀ q : Nat, s.heap.size ≤ q → (fun q : Nat => s.heap.size ≤ q) q := fun _ h => h
  have hbA : ¬ (fun q : Nat => s.heap.size ≤ q) b := Nat.not_le.mpr hbl
  intro n
  induction n with
  | zero =>
    intro t d u H locs ls h1 h2
    exact absurd h2 (by omega)
  | succ n ih =>
    intro t d u H locs ls h1 h2 hR hP hD hS hl
    refine lv_iload_n hx hb d_Law_law_18 rfl (lv_at hl 0 rfl) ?_
    refine lv_aload_n hx hb d_Law_law_19 rfl (lv_at hl 3 rfl) ?_
    refine va_slen hx hb hX hbl hbA hS d_Law_law_20 ?_
    refine lv_iconst (v := 5) hx hb d_Law_law_21 (by decide) ?_
    refine lv_isub hx hb d_Law_law_22 ?_
    have hsub : (nI L - 5).toInt = (L : Int) - 5 := pk_sub_toInt (b := 5) (by omega) (by decide)
    have h5t : (nI (5 * t)).toInt = ((5 * t : Nat) : Int) := nI_toInt (by omega)
    refine lv_icmp_gt (tgt := 533) hx hb d_Law_law_23 (by decide) (fun c_0 => ?_) (fun c_0 => ?_)
    · refine lv_iconst (v := 1) hx hb d_Law_law_533 (by decide) ?_
      refine va_forget (fun q hq => hS.2.2 q hq) ?_
      refine W.widen (k := 600000) (n := 7302250) (by decide) (by decide) ?_
      exact lw_ret hx hb hr hlocks d_Law_law_534
    · have hlt : 5 * t + 5 ≤ L := by
        rw [Int32.lt_iff_toInt_lt] at c_0
        have c_0 : ¬ (nI L - 5).toInt < (nI (5 * t)).toInt := c_0
        omega
      have h_0 : vp_in (nI (5 * t)) L := vp_in_nI (by omega) (by omega)
      have h_1 : vp_in (nI (5 * t) + 1) L := by
        have e : nI (5 * t) + 1 = nI (5 * t + 1) := nI_add (5 * t) 1
        rw [e]
        exact vp_in_nI (by omega) (by omega)
      have h_2 : vp_in (nI (5 * t) + 2) L := by
        have e : nI (5 * t) + 2 = nI (5 * t + 2) := nI_add (5 * t) 2
        rw [e]
        exact vp_in_nI (by omega) (by omega)
      have h_3 : vp_in (nI (5 * t) + 3) L := by
        have e : nI (5 * t) + 3 = nI (5 * t + 3) := nI_add (5 * t) 3
        rw [e]
        exact vp_in_nI (by omega) (by omega)
      have h_4 : vp_in (nI (5 * t) + 4) L := by
        have e : nI (5 * t) + 4 = nI (5 * t + 4) := nI_add (5 * t) 4
        rw [e]
        exact vp_in_nI (by omega) (by omega)
      have nxt : ∀ (d : CS) (u : MS) (H : Heap) (locs : List Loc) (ls : Array Slot), relS LA LE (t + 1) d u → va_P (dC, dI) vwCl (mw bd cb u ++ cw ad ca LA LE d) H → va_D (fun q : Nat => s.heap.size ≤ q) (mw bd cb u ++ cw ad ca LA LE d) → va_S (fun q : Nat => s.heap.size ≤ q) s.heap H locs → lv_has ls 4 [(3, .int (nI (5 * t))), (2, .ref (bd 0)), (1, .ref (ad 0)), (0, .ref b)] → W p l e room_1 s m #[Value.ref b] below meth c H locs 66 1323 (lw_Z below #[Value.ref b] s) (F0 m 527 ls []) := by
        intro d u H locs ls hR hP hD hS hl
        refine lv_iinc (v := nI (5 * t) + 5) (lv' := [(3, .int (nI (5 * t) + 5)), (2, .ref (bd 0)), (1, .ref (ad 0)), (0, .ref b)]) hx hb d_Law_law_527 hl (k := 0) rfl rfl (by decide) rfl (fun ls hl => ?_)
        refine lv_goto (tgt := 18) hx hb d_Law_law_530 (by decide) ?_
        have e5 : nI (5 * t) + 5 = nI (5 * (t + 1)) := by
          have e : nI (5 * t) + 5 = nI (5 * t + 5) := nI_add (5 * t) 5
          rw [e]
          congr 1
        rw [e5] at hl
        exact ih (t + 1) d u H locs ls (by omega) (by omega) hR hP hD hS hl
      refine lv_aload_n hx hb d_Law_law_26 rfl (lv_at hl 3 rfl) ?_
      refine lv_iload_n hx hb d_Law_law_27 rfl (lv_at hl 0 rfl) ?_
      refine va_sld hx hb hX hbl hbA hS h_0 d_Law_law_28 ?_
      refine lv_bipush (v := 15) hx hb d_Law_law_29 (by decide) ?_
      refine lv_iand hx hb d_Law_law_31 ?_
      refine lv_topi (fun y ey => ?_)
      by_cases k_0 : y = 0
      · refine lv_tableIn (tgt := 96) (off := 64) hx hb d_Law_law_32 (by rw [k_0]; decide) (by rw [k_0]; decide) (by rw [k_0]; first | done | rfl | decide) (by decide) ?_
        refine lv_aload_n hx hb d_Law_law_96 rfl (lv_at hl 2 rfl) ?_
        refine lv_aload_n hx hb d_Law_law_97 rfl (lv_at hl 3 rfl) ?_
        refine lv_iload_n hx hb d_Law_law_98 rfl (lv_at hl 0 rfl) ?_
        refine lv_iconst (v := 1) hx hb d_Law_law_99 (by decide) ?_
        refine lv_iadd hx hb d_Law_law_100 ?_
        refine va_sld hx hb hX hbl hbA hS h_1 d_Law_law_101 ?_
        refine lv_i2l (v := ((xs ((nI (5 * t)) + 1).toNatClampNeg)).toInt64) hx hb d_Law_law_102 rfl ?_
        refine lv_bipush (v := 32) hx hb d_Law_law_103 (by decide) ?_
        refine lv_lshl (v := (((xs ((nI (5 * t)) + 1).toNatClampNeg)).toInt64 <<< ((32 : Int32).toInt64 &&& 63))) hx hb d_Law_law_105 rfl ?_
        refine lv_aload_n hx hb d_Law_law_106 rfl (lv_at hl 3 rfl) ?_
        refine lv_iload_n hx hb d_Law_law_107 rfl (lv_at hl 0 rfl) ?_
        refine lv_iconst (v := 2) hx hb d_Law_law_108 (by decide) ?_
        refine lv_iadd hx hb d_Law_law_109 ?_
        refine va_sld hx hb hX hbl hbA hS h_2 d_Law_law_110 ?_
        refine lv_i2l (v := ((xs ((nI (5 * t)) + 2).toNatClampNeg)).toInt64) hx hb d_Law_law_111 rfl ?_
        refine lv_ldc2 (v := 4294967295) hx hb hown (hts _ tw763) d_Law_law_112 ?_
        refine lv_land hx hb d_Law_law_115 ?_
        refine lv_lor hx hb d_Law_law_116 ?_
        refine lv_aload_n hx hb d_Law_law_117 rfl (lv_at hl 3 rfl) ?_
        refine lv_iload_n hx hb d_Law_law_118 rfl (lv_at hl 0 rfl) ?_
        refine lv_iconst (v := 3) hx hb d_Law_law_119 (by decide) ?_
        refine lv_iadd hx hb d_Law_law_120 ?_
        refine va_sld hx hb hX hbl hbA hS h_3 d_Law_law_121 ?_
        refine lv_i2l (v := ((xs ((nI (5 * t)) + 3).toNatClampNeg)).toInt64) hx hb d_Law_law_122 rfl ?_
        refine lv_bipush (v := 32) hx hb d_Law_law_123 (by decide) ?_
        refine lv_lshl (v := (((xs ((nI (5 * t)) + 3).toNatClampNeg)).toInt64 <<< ((32 : Int32).toInt64 &&& 63))) hx hb d_Law_law_125 rfl ?_
        refine lv_aload_n hx hb d_Law_law_126 rfl (lv_at hl 3 rfl) ?_
        refine lv_iload_n hx hb d_Law_law_127 rfl (lv_at hl 0 rfl) ?_
        refine lv_iconst (v := 4) hx hb d_Law_law_128 (by decide) ?_
        refine lv_iadd hx hb d_Law_law_129 ?_
        refine va_sld hx hb hX hbl hbA hS h_4 d_Law_law_130 ?_
        refine lv_i2l (v := ((xs ((nI (5 * t)) + 4).toNatClampNeg)).toInt64) hx hb d_Law_law_131 rfl ?_
        refine lv_ldc2 (v := 4294967295) hx hb hown (hts _ tw763) d_Law_law_132 ?_
        refine lv_land hx hb d_Law_law_135 ?_
        refine lv_lor hx hb d_Law_law_136 ?_
        obtain ⟨r9, d9, u9, e1, e2, hR9⟩ := s_open hR (((((xs ((nI (5 * t)) + 1).toNatClampNeg)).toInt64 <<< ((32 : Int32).toInt64 &&& 63)) ||| (((xs ((nI (5 * t)) + 2).toNatClampNeg)).toInt64 &&& 4294967295))) (((((xs ((nI (5 * t)) + 3).toNatClampNeg)).toInt64 <<< ((32 : Int32).toInt64 &&& 63)) ||| (((xs ((nI (5 * t)) + 4).toNatClampNeg)).toInt64 &&& 4294967295)))
        have hPc : va_P (dC, dI) vwCl (cw ad ca LA LE d) H := hP.part (X := mw bd cb u) (cx := []) [] rfl
        have hDc : va_D (fun q : Nat => s.heap.size ≤ q) (cw ad ca LA LE d) := hD.part (X := mw bd cb u) (cx := []) [] rfl rfl
        have hFc := va_fr hDc hS hA
        refine va_calli (va_runV (As := [.long ((((xs ((nI (5 * t)) + 1).toNatClampNeg)).toInt64 <<< ((32 : Int32).toInt64 &&& 63)) ||| (((xs ((nI (5 * t)) + 2).toNatClampNeg)).toInt64 &&& 4294967295)), .long ((((xs ((nI (5 * t)) + 3).toNatClampNeg)).toInt64 <<< ((32 : Int32).toInt64 &&& 63)) ||| (((xs ((nI (5 * t)) + 4).toNatClampNeg)).toInt64 &&& 4294967295))]) (rest := []) ⟨hx, hb, hml, hown, hts⟩ (cc_D_open l dC dI ad ca LA LE H.size d (((((xs ((nI (5 * t)) + 1).toNatClampNeg)).toInt64 <<< ((32 : Int32).toInt64 &&& 63)) ||| (((xs ((nI (5 * t)) + 2).toNatClampNeg)).toInt64 &&& 4294967295))) (((((xs ((nI (5 * t)) + 3).toNatClampNeg)).toInt64 <<< ((32 : Int32).toInt64 &&& 63)) ||| (((xs ((nI (5 * t)) + 4).toNatClampNeg)).toInt64 &&& 4294967295))) r9 d9 e1) (cwV 2 hts (gtV tw219 tw220 tw221 tw1 tw222) rfl rfl rfl (by decide +kernel) ⟨Nat.le_of_ble_eq_true rfl, Nat.le_of_ble_eq_true rfl⟩) ⟨cBl, va_recv hKc hPc (ci := 7) (q0 := 0) rfl rfl, fun U hU hW => ⟨rfl, cPr hPc hKc hDc hN hU hW⟩⟩ rfl rfl hl.1 rfl (lv_room (Nat.le_of_ble_eq_true rfl)) d_Law_law_137 ⟨Nat.le_of_ble_eq_true rfl, Nat.le_of_ble_eq_true rfl⟩) hS (fun q _ h => hFc q h) hFc (fun r z t1 H1 locs ht hvm hw hB hz1 hk1 hS => ?_)
        obtain ⟨hw1, hw2⟩ := hw
        have hw1 := hw1.symm
        subst hw1
        have hw2 := hw2.symm
        subst hw2
        obtain ⟨hP1, hK1, hD1⟩ := hB
        rw [ht] at hP1
        obtain ⟨hP, hD⟩ := va_joinP (X := mw bd cb u) (cx := []) (wr := mw bd cb u) (rx := []) (pl := cw ad ca LA LE d) (pl1 := cw ad ca LA LE d9) hP hD [] [0, 1, 2, 3, 4, 5, 6, 7, 8, 9, 10, 11, 12, 13, 14, 15, 16] rfl rfl (by decide) (by decide) hk1 hFc hP1 hD1
        generalize H1 = H at hP hS ⊢
        have hP : va_P (dC, dI) vwCl (mw bd cb u ++ cw ad ca LA LE d9) H := hP
        have hD : va_D (fun q : Nat => s.heap.size ≤ q) (mw bd cb u ++ cw ad ca LA LE d9) := hD
        refine lv_aload_n hx hb d_Law_law_140 rfl (lv_at hl 1 rfl) ?_
        refine lv_aload_n hx hb d_Law_law_141 rfl (lv_at hl 3 rfl) ?_
        refine lv_iload_n hx hb d_Law_law_142 rfl (lv_at hl 0 rfl) ?_
        refine lv_iconst (v := 1) hx hb d_Law_law_143 (by decide) ?_
        refine lv_iadd hx hb d_Law_law_144 ?_
        refine va_sld hx hb hX hbl hbA hS h_1 d_Law_law_145 ?_
        refine lv_i2l (v := ((xs ((nI (5 * t)) + 1).toNatClampNeg)).toInt64) hx hb d_Law_law_146 rfl ?_
        refine lv_bipush (v := 32) hx hb d_Law_law_147 (by decide) ?_
        refine lv_lshl (v := (((xs ((nI (5 * t)) + 1).toNatClampNeg)).toInt64 <<< ((32 : Int32).toInt64 &&& 63))) hx hb d_Law_law_149 rfl ?_
        refine lv_aload_n hx hb d_Law_law_150 rfl (lv_at hl 3 rfl) ?_
        refine lv_iload_n hx hb d_Law_law_151 rfl (lv_at hl 0 rfl) ?_
        refine lv_iconst (v := 2) hx hb d_Law_law_152 (by decide) ?_
        refine lv_iadd hx hb d_Law_law_153 ?_
        refine va_sld hx hb hX hbl hbA hS h_2 d_Law_law_154 ?_
        refine lv_i2l (v := ((xs ((nI (5 * t)) + 2).toNatClampNeg)).toInt64) hx hb d_Law_law_155 rfl ?_
        refine lv_ldc2 (v := 4294967295) hx hb hown (hts _ tw763) d_Law_law_156 ?_
        refine lv_land hx hb d_Law_law_159 ?_
        refine lv_lor hx hb d_Law_law_160 ?_
        refine lv_aload_n hx hb d_Law_law_161 rfl (lv_at hl 3 rfl) ?_
        refine lv_iload_n hx hb d_Law_law_162 rfl (lv_at hl 0 rfl) ?_
        refine lv_iconst (v := 3) hx hb d_Law_law_163 (by decide) ?_
        refine lv_iadd hx hb d_Law_law_164 ?_
        refine va_sld hx hb hX hbl hbA hS h_3 d_Law_law_165 ?_
        refine lv_i2l (v := ((xs ((nI (5 * t)) + 3).toNatClampNeg)).toInt64) hx hb d_Law_law_166 rfl ?_
        refine lv_bipush (v := 32) hx hb d_Law_law_167 (by decide) ?_
        refine lv_lshl (v := (((xs ((nI (5 * t)) + 3).toNatClampNeg)).toInt64 <<< ((32 : Int32).toInt64 &&& 63))) hx hb d_Law_law_169 rfl ?_
        refine lv_aload_n hx hb d_Law_law_170 rfl (lv_at hl 3 rfl) ?_
        refine lv_iload_n hx hb d_Law_law_171 rfl (lv_at hl 0 rfl) ?_
        refine lv_iconst (v := 4) hx hb d_Law_law_172 (by decide) ?_
        refine lv_iadd hx hb d_Law_law_173 ?_
        refine va_sld hx hb hX hbl hbA hS h_4 d_Law_law_174 ?_
        refine lv_i2l (v := ((xs ((nI (5 * t)) + 4).toNatClampNeg)).toInt64) hx hb d_Law_law_175 rfl ?_
        refine lv_ldc2 (v := 4294967295) hx hb hown (hts _ tw763) d_Law_law_176 ?_
        refine lv_land hx hb d_Law_law_179 ?_
        refine lv_lor hx hb d_Law_law_180 ?_
        have hPc : va_P (dC, dI) vwCl (mw bd cb u) H := hP.sub [0, 1, 2, 3, 4, 5, 6, 7, 8, 9, 10, 11, 12, 13, 14, 15, 16] rfl
        have hDc : va_D (fun q : Nat => s.heap.size ≤ q) (mw bd cb u) := hD.sub [0, 1, 2, 3, 4, 5, 6, 7, 8, 9, 10, 11, 12, 13, 14, 15, 16] (by decide) rfl
        have hFc := va_fr hDc hS hA
        refine va_calli (va_runV (As := [.long ((((xs ((nI (5 * t)) + 1).toNatClampNeg)).toInt64 <<< ((32 : Int32).toInt64 &&& 63)) ||| (((xs ((nI (5 * t)) + 2).toNatClampNeg)).toInt64 &&& 4294967295)), .long ((((xs ((nI (5 * t)) + 3).toNatClampNeg)).toInt64 <<< ((32 : Int32).toInt64 &&& 63)) ||| (((xs ((nI (5 * t)) + 4).toNatClampNeg)).toInt64 &&& 4294967295))]) (rest := [.int r9]) ⟨hx, hb, hml, hown, hts⟩ (cm_M_open l dC dI bd cb H.size u (((((xs ((nI (5 * t)) + 1).toNatClampNeg)).toInt64 <<< ((32 : Int32).toInt64 &&& 63)) ||| (((xs ((nI (5 * t)) + 2).toNatClampNeg)).toInt64 &&& 4294967295))) (((((xs ((nI (5 * t)) + 3).toNatClampNeg)).toInt64 <<< ((32 : Int32).toInt64 &&& 63)) ||| (((xs ((nI (5 * t)) + 4).toNatClampNeg)).toInt64 &&& 4294967295))) r9 u9 e2) (cwV 2 hts (gtV tw599 tw600 tw601 tw9 tw602) rfl rfl rfl (by decide +kernel) ⟨Nat.le_of_ble_eq_true rfl, Nat.le_of_ble_eq_true rfl⟩) ⟨mBl, va_recv hKm hPc (ci := 8) (q0 := 0) rfl rfl, fun U hU hW => ⟨rfl, mPr hPc hKm hDc hN hU hW⟩⟩ rfl rfl hl.1 rfl (lv_room (Nat.le_of_ble_eq_true rfl)) d_Law_law_181 ⟨Nat.le_of_ble_eq_true rfl, Nat.le_of_ble_eq_true rfl⟩) hS (fun q _ h => hFc q h) hFc (fun r z t1 H1 locs ht hvm hw hB hz1 hk1 hS => ?_)
        obtain ⟨hw1, hw2⟩ := hw
        have hw1 := hw1.symm
        subst hw1
        have hw2 := hw2.symm
        subst hw2
        obtain ⟨hP1, hK1, hD1⟩ := hB
        rw [ht] at hP1
        obtain ⟨hP, hD⟩ := va_joinQ (X := mw bd cb u) (cx := mw bd cb u) (wr := []) (w1 := mw bd cb u9) (pl := cw ad ca LA LE d9) hP hD [0, 1, 2, 3, 4, 5, 6, 7, 8, 9, 10, 11, 12, 13, 14, 15, 16] [] rfl rfl (by decide) (by decide) hk1 hFc hP1 hD1
        generalize H1 = H at hP hS ⊢
        have hP : va_P (dC, dI) vwCl (mw bd cb u9 ++ cw ad ca LA LE d9) H := hP
        have hD : va_D (fun q : Nat => s.heap.size ≤ q) (mw bd cb u9 ++ cw ad ca LA LE d9) := hD
        refine lv_icmp_eq (tgt := 527) hx hb d_Law_law_184 (by decide) (fun c_1 => ?_) (fun c_1 => ?_)
        · exact nxt d9 u9 H locs ls hR9 hP hD hS hl
        · exact absurd rfl c_1
      by_cases k_1 : y = 1
      · refine lv_tableIn (tgt := 189) (off := 157) hx hb d_Law_law_32 (by rw [k_1]; decide) (by rw [k_1]; decide) (by rw [k_1]; first | done | rfl | decide) (by decide) ?_
        refine lv_aload_n hx hb d_Law_law_189 rfl (lv_at hl 2 rfl) ?_
        refine lv_aload_n hx hb d_Law_law_190 rfl (lv_at hl 3 rfl) ?_
        refine lv_iload_n hx hb d_Law_law_191 rfl (lv_at hl 0 rfl) ?_
        refine lv_iconst (v := 1) hx hb d_Law_law_192 (by decide) ?_
        refine lv_iadd hx hb d_Law_law_193 ?_
        refine va_sld hx hb hX hbl hbA hS h_1 d_Law_law_194 ?_
        refine lv_i2l (v := ((xs ((nI (5 * t)) + 1).toNatClampNeg)).toInt64) hx hb d_Law_law_195 rfl ?_
        refine lv_bipush (v := 32) hx hb d_Law_law_196 (by decide) ?_
        refine lv_lshl (v := (((xs ((nI (5 * t)) + 1).toNatClampNeg)).toInt64 <<< ((32 : Int32).toInt64 &&& 63))) hx hb d_Law_law_198 rfl ?_
        refine lv_aload_n hx hb d_Law_law_199 rfl (lv_at hl 3 rfl) ?_
        refine lv_iload_n hx hb d_Law_law_200 rfl (lv_at hl 0 rfl) ?_
        refine lv_iconst (v := 2) hx hb d_Law_law_201 (by decide) ?_
        refine lv_iadd hx hb d_Law_law_202 ?_
        refine va_sld hx hb hX hbl hbA hS h_2 d_Law_law_203 ?_
        refine lv_i2l (v := ((xs ((nI (5 * t)) + 2).toNatClampNeg)).toInt64) hx hb d_Law_law_204 rfl ?_
        refine lv_ldc2 (v := 4294967295) hx hb hown (hts _ tw763) d_Law_law_205 ?_
        refine lv_land hx hb d_Law_law_208 ?_
        refine lv_lor hx hb d_Law_law_209 ?_
        refine lv_aload_n hx hb d_Law_law_210 rfl (lv_at hl 3 rfl) ?_
        refine lv_iload_n hx hb d_Law_law_211 rfl (lv_at hl 0 rfl) ?_
        refine lv_iconst (v := 3) hx hb d_Law_law_212 (by decide) ?_
        refine lv_iadd hx hb d_Law_law_213 ?_
        refine va_sld hx hb hX hbl hbA hS h_3 d_Law_law_214 ?_
        obtain ⟨r9, d9, u9, e1, e2, hR9⟩ := s_feed hR (((((xs ((nI (5 * t)) + 1).toNatClampNeg)).toInt64 <<< ((32 : Int32).toInt64 &&& 63)) ||| (((xs ((nI (5 * t)) + 2).toNatClampNeg)).toInt64 &&& 4294967295))) ((xs ((nI (5 * t)) + 3).toNatClampNeg))
        have hPc : va_P (dC, dI) vwCl (cw ad ca LA LE d) H := hP.part (X := mw bd cb u) (cx := []) [] rfl
        have hDc : va_D (fun q : Nat => s.heap.size ≤ q) (cw ad ca LA LE d) := hD.part (X := mw bd cb u) (cx := []) [] rfl rfl
        have hFc := va_fr hDc hS hA
        refine va_calli (va_runV (As := [.long ((((xs ((nI (5 * t)) + 1).toNatClampNeg)).toInt64 <<< ((32 : Int32).toInt64 &&& 63)) ||| (((xs ((nI (5 * t)) + 2).toNatClampNeg)).toInt64 &&& 4294967295)), .int (xs ((nI (5 * t)) + 3).toNatClampNeg)]) (rest := []) ⟨hx, hb, hml, hown, hts⟩ (cc_D_feed l dC dI ad ca LA LE H.size d (((((xs ((nI (5 * t)) + 1).toNatClampNeg)).toInt64 <<< ((32 : Int32).toInt64 &&& 63)) ||| (((xs ((nI (5 * t)) + 2).toNatClampNeg)).toInt64 &&& 4294967295))) ((xs ((nI (5 * t)) + 3).toNatClampNeg)) r9 d9 e1) (cwV 2 hts (gtV tw233 tw234 tw235 tw1 tw236) rfl rfl rfl (by decide +kernel) ⟨Nat.le_of_ble_eq_true rfl, Nat.le_of_ble_eq_true rfl⟩) ⟨cBl, va_recv hKc hPc (ci := 7) (q0 := 0) rfl rfl, fun U hU hW => ⟨rfl, cPr hPc hKc hDc hN hU hW⟩⟩ rfl rfl hl.1 rfl (lv_room (Nat.le_of_ble_eq_true rfl)) d_Law_law_215 ⟨Nat.le_of_ble_eq_true rfl, Nat.le_of_ble_eq_true rfl⟩) hS (fun q _ h => hFc q h) hFc (fun r z t1 H1 locs ht hvm hw hB hz1 hk1 hS => ?_)
        obtain ⟨hw1, hw2⟩ := hw
        have hw1 := hw1.symm
        subst hw1
        have hw2 := hw2.symm
        subst hw2
        obtain ⟨hP1, hK1, hD1⟩ := hB
        rw [ht] at hP1
        obtain ⟨hP, hD⟩ := va_joinP (X := mw bd cb u) (cx := []) (wr := mw bd cb u) (rx := []) (pl := cw ad ca LA LE d) (pl1 := cw ad ca LA LE d9) hP hD [] [0, 1, 2, 3, 4, 5, 6, 7, 8, 9, 10, 11, 12, 13, 14, 15, 16] rfl rfl (by decide) (by decide) hk1 hFc hP1 hD1
        generalize H1 = H at hP hS ⊢
        have hP : va_P (dC, dI) vwCl (mw bd cb u ++ cw ad ca LA LE d9) H := hP
        have hD : va_D (fun q : Nat => s.heap.size ≤ q) (mw bd cb u ++ cw ad ca LA LE d9) := hD
        refine lv_aload_n hx hb d_Law_law_218 rfl (lv_at hl 1 rfl) ?_
        refine lv_aload_n hx hb d_Law_law_219 rfl (lv_at hl 3 rfl) ?_
        refine lv_iload_n hx hb d_Law_law_220 rfl (lv_at hl 0 rfl) ?_
        refine lv_iconst (v := 1) hx hb d_Law_law_221 (by decide) ?_
        refine lv_iadd hx hb d_Law_law_222 ?_
        refine va_sld hx hb hX hbl hbA hS h_1 d_Law_law_223 ?_
        refine lv_i2l (v := ((xs ((nI (5 * t)) + 1).toNatClampNeg)).toInt64) hx hb d_Law_law_224 rfl ?_
        refine lv_bipush (v := 32) hx hb d_Law_law_225 (by decide) ?_
        refine lv_lshl (v := (((xs ((nI (5 * t)) + 1).toNatClampNeg)).toInt64 <<< ((32 : Int32).toInt64 &&& 63))) hx hb d_Law_law_227 rfl ?_
        refine lv_aload_n hx hb d_Law_law_228 rfl (lv_at hl 3 rfl) ?_
        refine lv_iload_n hx hb d_Law_law_229 rfl (lv_at hl 0 rfl) ?_
        refine lv_iconst (v := 2) hx hb d_Law_law_230 (by decide) ?_
        refine lv_iadd hx hb d_Law_law_231 ?_
        refine va_sld hx hb hX hbl hbA hS h_2 d_Law_law_232 ?_
        refine lv_i2l (v := ((xs ((nI (5 * t)) + 2).toNatClampNeg)).toInt64) hx hb d_Law_law_233 rfl ?_
        refine lv_ldc2 (v := 4294967295) hx hb hown (hts _ tw763) d_Law_law_234 ?_
        refine lv_land hx hb d_Law_law_237 ?_
        refine lv_lor hx hb d_Law_law_238 ?_
        refine lv_aload_n hx hb d_Law_law_239 rfl (lv_at hl 3 rfl) ?_
        refine lv_iload_n hx hb d_Law_law_240 rfl (lv_at hl 0 rfl) ?_
        refine lv_iconst (v := 3) hx hb d_Law_law_241 (by decide) ?_
        refine lv_iadd hx hb d_Law_law_242 ?_
        refine va_sld hx hb hX hbl hbA hS h_3 d_Law_law_243 ?_
        have hPc : va_P (dC, dI) vwCl (mw bd cb u) H := hP.sub [0, 1, 2, 3, 4, 5, 6, 7, 8, 9, 10, 11, 12, 13, 14, 15, 16] rfl
        have hDc : va_D (fun q : Nat => s.heap.size ≤ q) (mw bd cb u) := hD.sub [0, 1, 2, 3, 4, 5, 6, 7, 8, 9, 10, 11, 12, 13, 14, 15, 16] (by decide) rfl
        have hFc := va_fr hDc hS hA
        refine va_calli (va_runV (As := [.long ((((xs ((nI (5 * t)) + 1).toNatClampNeg)).toInt64 <<< ((32 : Int32).toInt64 &&& 63)) ||| (((xs ((nI (5 * t)) + 2).toNatClampNeg)).toInt64 &&& 4294967295)), .int (xs ((nI (5 * t)) + 3).toNatClampNeg)]) (rest := [.int r9]) ⟨hx, hb, hml, hown, hts⟩ (cm_M_feed l dC dI bd cb H.size u (((((xs ((nI (5 * t)) + 1).toNatClampNeg)).toInt64 <<< ((32 : Int32).toInt64 &&& 63)) ||| (((xs ((nI (5 * t)) + 2).toNatClampNeg)).toInt64 &&& 4294967295))) ((xs ((nI (5 * t)) + 3).toNatClampNeg)) r9 u9 e2) (cwV 2 hts (gtV tw626 tw627 tw628 tw9 tw629) rfl rfl rfl (by decide +kernel) ⟨Nat.le_of_ble_eq_true rfl, Nat.le_of_ble_eq_true rfl⟩) ⟨mBl, va_recv hKm hPc (ci := 8) (q0 := 0) rfl rfl, fun U hU hW => ⟨rfl, mPr hPc hKm hDc hN hU hW⟩⟩ rfl rfl hl.1 rfl (lv_room (Nat.le_of_ble_eq_true rfl)) d_Law_law_244 ⟨Nat.le_of_ble_eq_true rfl, Nat.le_of_ble_eq_true rfl⟩) hS (fun q _ h => hFc q h) hFc (fun r z t1 H1 locs ht hvm hw hB hz1 hk1 hS => ?_)
        obtain ⟨hw1, hw2⟩ := hw
        have hw1 := hw1.symm
        subst hw1
        have hw2 := hw2.symm
        subst hw2
        obtain ⟨hP1, hK1, hD1⟩ := hB
        rw [ht] at hP1
        obtain ⟨hP, hD⟩ := va_joinQ (X := mw bd cb u) (cx := mw bd cb u) (wr := []) (w1 := mw bd cb u9) (pl := cw ad ca LA LE d9) hP hD [0, 1, 2, 3, 4, 5, 6, 7, 8, 9, 10, 11, 12, 13, 14, 15, 16] [] rfl rfl (by decide) (by decide) hk1 hFc hP1 hD1
        generalize H1 = H at hP hS ⊢
        have hP : va_P (dC, dI) vwCl (mw bd cb u9 ++ cw ad ca LA LE d9) H := hP
        have hD : va_D (fun q : Nat => s.heap.size ≤ q) (mw bd cb u9 ++ cw ad ca LA LE d9) := hD
        refine lv_icmp_eq (tgt := 527) hx hb d_Law_law_247 (by decide) (fun c_1 => ?_) (fun c_1 => ?_)
        · exact nxt d9 u9 H locs ls hR9 hP hD hS hl
        · exact absurd rfl c_1
      by_cases k_2 : y = 2
      · refine lv_tableIn (tgt := 252) (off := 220) hx hb d_Law_law_32 (by rw [k_2]; decide) (by rw [k_2]; decide) (by rw [k_2]; first | done | rfl | decide) (by decide) ?_
        refine lv_aload_n hx hb d_Law_law_252 rfl (lv_at hl 2 rfl) ?_
        obtain ⟨r9, d9, u9, e1, e2, hR9⟩ := s_handle (by omega) hR 
        have hPc : va_P (dC, dI) vwCl (cw ad ca LA LE d) H := hP.part (X := mw bd cb u) (cx := []) [] rfl
        have hDc : va_D (fun q : Nat => s.heap.size ≤ q) (cw ad ca LA LE d) := hD.part (X := mw bd cb u) (cx := []) [] rfl rfl
        have hFc := va_fr hDc hS hA
        refine va_calli (va_runV (As := []) (rest := []) ⟨hx, hb, hml, hown, hts⟩ (cc_D_handle l dC dI ad ca LA LE H.size d  r9 d9 e1) (cwV 0 hts (gtV tw245 tw246 tw247 tw1 tw248) rfl rfl rfl (by decide +kernel) ⟨Nat.le_of_ble_eq_true rfl, Nat.le_of_ble_eq_true rfl⟩) ⟨cBl, va_recv hKc hPc (ci := 7) (q0 := 0) rfl rfl, fun U hU hW => ⟨rfl, cPr hPc hKc hDc hN hU hW⟩⟩ rfl rfl hl.1 rfl (lv_room (Nat.le_of_ble_eq_true rfl)) d_Law_law_253 ⟨Nat.le_of_ble_eq_true rfl, Nat.le_of_ble_eq_true rfl⟩) hS (fun q _ h => hFc q h) hFc (fun r z t1 H1 locs ht hvm hw hB hz1 hk1 hS => ?_)
        obtain ⟨hw1, hw2⟩ := hw
        have hw1 := hw1.symm
        subst hw1
        have hw2 := hw2.symm
        subst hw2
        obtain ⟨hP1, hK1, hD1⟩ := hB
        rw [ht] at hP1
        obtain ⟨hP, hD⟩ := va_joinP (X := mw bd cb u) (cx := []) (wr := mw bd cb u) (rx := []) (pl := cw ad ca LA LE d) (pl1 := cw ad ca LA LE d9) hP hD [] [0, 1, 2, 3, 4, 5, 6, 7, 8, 9, 10, 11, 12, 13, 14, 15, 16] rfl rfl (by decide) (by decide) hk1 hFc hP1 hD1
        generalize H1 = H at hP hS ⊢
        have hP : va_P (dC, dI) vwCl (mw bd cb u ++ cw ad ca LA LE d9) H := hP
        have hD : va_D (fun q : Nat => s.heap.size ≤ q) (mw bd cb u ++ cw ad ca LA LE d9) := hD
        refine lv_aload_n hx hb d_Law_law_256 rfl (lv_at hl 1 rfl) ?_
        have hPc : va_P (dC, dI) vwCl (mw bd cb u) H := hP.sub [0, 1, 2, 3, 4, 5, 6, 7, 8, 9, 10, 11, 12, 13, 14, 15, 16] rfl
        have hDc : va_D (fun q : Nat => s.heap.size ≤ q) (mw bd cb u) := hD.sub [0, 1, 2, 3, 4, 5, 6, 7, 8, 9, 10, 11, 12, 13, 14, 15, 16] (by decide) rfl
        have hFc := va_fr hDc hS hA
        refine va_calli (va_runV (As := []) (rest := [.int r9]) ⟨hx, hb, hml, hown, hts⟩ (cm_M_handle l dC dI bd cb H.size u  r9 u9 e2) (cwV 0 hts (gtV tw631 tw632 tw633 tw9 tw634) rfl rfl rfl (by decide +kernel) ⟨Nat.le_of_ble_eq_true rfl, Nat.le_of_ble_eq_true rfl⟩) ⟨mBl, va_recv hKm hPc (ci := 8) (q0 := 0) rfl rfl, fun U hU hW => ⟨rfl, mPr hPc hKm hDc hN hU hW⟩⟩ rfl rfl hl.1 rfl (lv_room (Nat.le_of_ble_eq_true rfl)) d_Law_law_257 ⟨Nat.le_of_ble_eq_true rfl, Nat.le_of_ble_eq_true rfl⟩) hS (fun q _ h => hFc q h) hFc (fun r z t1 H1 locs ht hvm hw hB hz1 hk1 hS => ?_)
        obtain ⟨hw1, hw2⟩ := hw
        have hw1 := hw1.symm
        subst hw1
        have hw2 := hw2.symm
        subst hw2
        obtain ⟨hP1, hK1, hD1⟩ := hB
        rw [ht] at hP1
        obtain ⟨hP, hD⟩ := va_joinQ (X := mw bd cb u) (cx := mw bd cb u) (wr := []) (w1 := mw bd cb u9) (pl := cw ad ca LA LE d9) hP hD [0, 1, 2, 3, 4, 5, 6, 7, 8, 9, 10, 11, 12, 13, 14, 15, 16] [] rfl rfl (by decide) (by decide) hk1 hFc hP1 hD1
        generalize H1 = H at hP hS ⊢
        have hP : va_P (dC, dI) vwCl (mw bd cb u9 ++ cw ad ca LA LE d9) H := hP
        have hD : va_D (fun q : Nat => s.heap.size ≤ q) (mw bd cb u9 ++ cw ad ca LA LE d9) := hD
        refine lv_icmp_eq (tgt := 527) hx hb d_Law_law_260 (by decide) (fun c_1 => ?_) (fun c_1 => ?_)
        · exact nxt d9 u9 H locs ls hR9 hP hD hS hl
        · exact absurd rfl c_1
      by_cases k_3 : y = 3
      · refine lv_tableIn (tgt := 265) (off := 233) hx hb d_Law_law_32 (by rw [k_3]; decide) (by rw [k_3]; decide) (by rw [k_3]; first | done | rfl | decide) (by decide) ?_
        refine lv_aload_n hx hb d_Law_law_265 rfl (lv_at hl 2 rfl) ?_
        refine lv_aload_n hx hb d_Law_law_266 rfl (lv_at hl 3 rfl) ?_
        refine lv_iload_n hx hb d_Law_law_267 rfl (lv_at hl 0 rfl) ?_
        refine lv_iconst (v := 1) hx hb d_Law_law_268 (by decide) ?_
        refine lv_iadd hx hb d_Law_law_269 ?_
        refine va_sld hx hb hX hbl hbA hS h_1 d_Law_law_270 ?_
        obtain ⟨r9, e1, e2⟩ := s_reply hR ((xs ((nI (5 * t)) + 1).toNatClampNeg))
        have hPc : va_P (dC, dI) vwCl (cw ad ca LA LE d) H := hP.part (X := mw bd cb u) (cx := []) [] rfl
        have hDc : va_D (fun q : Nat => s.heap.size ≤ q) (cw ad ca LA LE d) := hD.part (X := mw bd cb u) (cx := []) [] rfl rfl
        have hFc := va_fr hDc hS hA
        refine va_calli (va_runV (As := [.int (xs ((nI (5 * t)) + 1).toNatClampNeg)]) (rest := []) ⟨hx, hb, hml, hown, hts⟩ (cc_D_reply l dC dI ad ca LA LE H.size d ((xs ((nI (5 * t)) + 1).toNatClampNeg)) r9  e1) (cwV 1 hts (gtV tw446 tw447 tw448 tw1 tw449) rfl rfl rfl (by decide +kernel) ⟨Nat.le_of_ble_eq_true rfl, Nat.le_of_ble_eq_true rfl⟩) ⟨cBl, va_recv hKc hPc (ci := 7) (q0 := 0) rfl rfl, fun U hU hW => ⟨rfl, cPr hPc hKc hDc hN hU hW⟩⟩ rfl rfl hl.1 rfl (lv_room (Nat.le_of_ble_eq_true rfl)) d_Law_law_271 ⟨Nat.le_of_ble_eq_true rfl, Nat.le_of_ble_eq_true rfl⟩) hS (fun q _ h => hFc q h) hFc (fun r z t1 H1 locs ht hvm hw hB hz1 hk1 hS => ?_)
        obtain ⟨hw1, hw2⟩ := hw
        have hw1 := hw1.symm
        subst hw1
        have hw2 := hw2.symm
        subst hw2
        obtain ⟨hP1, hK1, hD1⟩ := hB
        rw [ht] at hP1
        obtain ⟨hP, hD⟩ := va_joinP (X := mw bd cb u) (cx := []) (wr := mw bd cb u) (rx := []) (pl := cw ad ca LA LE d) (pl1 := cw ad ca LA LE d) hP hD [] [0, 1, 2, 3, 4, 5, 6, 7, 8, 9, 10, 11, 12, 13, 14, 15, 16] rfl rfl (by decide) (by decide) hk1 hFc hP1 hD1
        generalize H1 = H at hP hS ⊢
        have hP : va_P (dC, dI) vwCl (mw bd cb u ++ cw ad ca LA LE d) H := hP
        have hD : va_D (fun q : Nat => s.heap.size ≤ q) (mw bd cb u ++ cw ad ca LA LE d) := hD
        refine lv_aload_n hx hb d_Law_law_274 rfl (lv_at hl 1 rfl) ?_
        refine lv_aload_n hx hb d_Law_law_275 rfl (lv_at hl 3 rfl) ?_
        refine lv_iload_n hx hb d_Law_law_276 rfl (lv_at hl 0 rfl) ?_
        refine lv_iconst (v := 1) hx hb d_Law_law_277 (by decide) ?_
        refine lv_iadd hx hb d_Law_law_278 ?_
        refine va_sld hx hb hX hbl hbA hS h_1 d_Law_law_279 ?_
        have hPc : va_P (dC, dI) vwCl (mw bd cb u) H := hP.sub [0, 1, 2, 3, 4, 5, 6, 7, 8, 9, 10, 11, 12, 13, 14, 15, 16] rfl
        have hDc : va_D (fun q : Nat => s.heap.size ≤ q) (mw bd cb u) := hD.sub [0, 1, 2, 3, 4, 5, 6, 7, 8, 9, 10, 11, 12, 13, 14, 15, 16] (by decide) rfl
        have hFc := va_fr hDc hS hA
        refine va_calli (va_runV (As := [.int (xs ((nI (5 * t)) + 1).toNatClampNeg)]) (rest := [.int r9]) ⟨hx, hb, hml, hown, hts⟩ (cm_M_reply l dC dI bd cb H.size u ((xs ((nI (5 * t)) + 1).toNatClampNeg)) r9  e2) (cwV 1 hts (gtV tw738 tw739 tw740 tw9 tw741) rfl rfl rfl (by decide +kernel) ⟨Nat.le_of_ble_eq_true rfl, Nat.le_of_ble_eq_true rfl⟩) ⟨mBl, va_recv hKm hPc (ci := 8) (q0 := 0) rfl rfl, fun U hU hW => ⟨rfl, mPr hPc hKm hDc hN hU hW⟩⟩ rfl rfl hl.1 rfl (lv_room (Nat.le_of_ble_eq_true rfl)) d_Law_law_280 ⟨Nat.le_of_ble_eq_true rfl, Nat.le_of_ble_eq_true rfl⟩) hS (fun q _ h => hFc q h) hFc (fun r z t1 H1 locs ht hvm hw hB hz1 hk1 hS => ?_)
        obtain ⟨hw1, hw2⟩ := hw
        have hw1 := hw1.symm
        subst hw1
        have hw2 := hw2.symm
        subst hw2
        obtain ⟨hP1, hK1, hD1⟩ := hB
        rw [ht] at hP1
        obtain ⟨hP, hD⟩ := va_joinQ (X := mw bd cb u) (cx := mw bd cb u) (wr := []) (w1 := mw bd cb u) (pl := cw ad ca LA LE d) hP hD [0, 1, 2, 3, 4, 5, 6, 7, 8, 9, 10, 11, 12, 13, 14, 15, 16] [] rfl rfl (by decide) (by decide) hk1 hFc hP1 hD1
        generalize H1 = H at hP hS ⊢
        have hP : va_P (dC, dI) vwCl (mw bd cb u ++ cw ad ca LA LE d) H := hP
        have hD : va_D (fun q : Nat => s.heap.size ≤ q) (mw bd cb u ++ cw ad ca LA LE d) := hD
        refine lv_icmp_eq (tgt := 527) hx hb d_Law_law_283 (by decide) (fun c_1 => ?_) (fun c_1 => ?_)
        · exact nxt d u H locs ls (relS_up hR) hP hD hS hl
        · exact absurd rfl c_1
      by_cases k_4 : y = 4
      · refine lv_tableIn (tgt := 288) (off := 256) hx hb d_Law_law_32 (by rw [k_4]; decide) (by rw [k_4]; decide) (by rw [k_4]; first | done | rfl | decide) (by decide) ?_
        refine lv_aload_n hx hb d_Law_law_288 rfl (lv_at hl 2 rfl) ?_
        refine lv_aload_n hx hb d_Law_law_289 rfl (lv_at hl 3 rfl) ?_
        refine lv_iload_n hx hb d_Law_law_290 rfl (lv_at hl 0 rfl) ?_
        refine lv_iconst (v := 1) hx hb d_Law_law_291 (by decide) ?_
        refine lv_iadd hx hb d_Law_law_292 ?_
        refine va_sld hx hb hX hbl hbA hS h_1 d_Law_law_293 ?_
        obtain ⟨r9, d9, u9, e1, e2, hR9⟩ := s_tick (by omega) hR ((xs ((nI (5 * t)) + 1).toNatClampNeg))
        have hPc : va_P (dC, dI) vwCl (cw ad ca LA LE d) H := hP.part (X := mw bd cb u) (cx := []) [] rfl
        have hDc : va_D (fun q : Nat => s.heap.size ≤ q) (cw ad ca LA LE d) := hD.part (X := mw bd cb u) (cx := []) [] rfl rfl
        have hFc := va_fr hDc hS hA
        refine va_calli (va_runV (As := [.int (xs ((nI (5 * t)) + 1).toNatClampNeg)]) (rest := []) ⟨hx, hb, hml, hown, hts⟩ (cc_D_tick l dC dI ad ca LA LE H.size d ((xs ((nI (5 * t)) + 1).toNatClampNeg)) r9 d9 e1) (cwV 1 hts (gtV tw451 tw452 tw453 tw1 tw454) rfl rfl rfl (by decide +kernel) ⟨Nat.le_of_ble_eq_true rfl, Nat.le_of_ble_eq_true rfl⟩) ⟨cBl, va_recv hKc hPc (ci := 7) (q0 := 0) rfl rfl, fun U hU hW => ⟨rfl, cPr hPc hKc hDc hN hU hW⟩⟩ rfl rfl hl.1 rfl (lv_room (Nat.le_of_ble_eq_true rfl)) d_Law_law_294 ⟨Nat.le_of_ble_eq_true rfl, Nat.le_of_ble_eq_true rfl⟩) hS (fun q _ h => hFc q h) hFc (fun r z t1 H1 locs ht hvm hw hB hz1 hk1 hS => ?_)
        obtain ⟨hw1, hw2⟩ := hw
        have hw1 := hw1.symm
        subst hw1
        have hw2 := hw2.symm
        subst hw2
        obtain ⟨hP1, hK1, hD1⟩ := hB
        rw [ht] at hP1
        obtain ⟨hP, hD⟩ := va_joinP (X := mw bd cb u) (cx := []) (wr := mw bd cb u) (rx := []) (pl := cw ad ca LA LE d) (pl1 := cw ad ca LA LE d9) hP hD [] [0, 1, 2, 3, 4, 5, 6, 7, 8, 9, 10, 11, 12, 13, 14, 15, 16] rfl rfl (by decide) (by decide) hk1 hFc hP1 hD1
        generalize H1 = H at hP hS ⊢
        have hP : va_P (dC, dI) vwCl (mw bd cb u ++ cw ad ca LA LE d9) H := hP
        have hD : va_D (fun q : Nat => s.heap.size ≤ q) (mw bd cb u ++ cw ad ca LA LE d9) := hD
        refine lv_aload_n hx hb d_Law_law_297 rfl (lv_at hl 1 rfl) ?_
        refine lv_aload_n hx hb d_Law_law_298 rfl (lv_at hl 3 rfl) ?_
        refine lv_iload_n hx hb d_Law_law_299 rfl (lv_at hl 0 rfl) ?_
        refine lv_iconst (v := 1) hx hb d_Law_law_300 (by decide) ?_
        refine lv_iadd hx hb d_Law_law_301 ?_
        refine va_sld hx hb hX hbl hbA hS h_1 d_Law_law_302 ?_
        have hPc : va_P (dC, dI) vwCl (mw bd cb u) H := hP.sub [0, 1, 2, 3, 4, 5, 6, 7, 8, 9, 10, 11, 12, 13, 14, 15, 16] rfl
        have hDc : va_D (fun q : Nat => s.heap.size ≤ q) (mw bd cb u) := hD.sub [0, 1, 2, 3, 4, 5, 6, 7, 8, 9, 10, 11, 12, 13, 14, 15, 16] (by decide) rfl
        have hFc := va_fr hDc hS hA
        refine va_calli (va_runV (As := [.int (xs ((nI (5 * t)) + 1).toNatClampNeg)]) (rest := [.int r9]) ⟨hx, hb, hml, hown, hts⟩ (cm_M_tick l dC dI bd cb H.size u ((xs ((nI (5 * t)) + 1).toNatClampNeg)) r9 u9 e2) (cwV 1 hts (gtV tw622 tw623 tw624 tw9 tw625) rfl rfl rfl (by decide +kernel) ⟨Nat.le_of_ble_eq_true rfl, Nat.le_of_ble_eq_true rfl⟩) ⟨mBl, va_recv hKm hPc (ci := 8) (q0 := 0) rfl rfl, fun U hU hW => ⟨rfl, mPr hPc hKm hDc hN hU hW⟩⟩ rfl rfl hl.1 rfl (lv_room (Nat.le_of_ble_eq_true rfl)) d_Law_law_303 ⟨Nat.le_of_ble_eq_true rfl, Nat.le_of_ble_eq_true rfl⟩) hS (fun q _ h => hFc q h) hFc (fun r z t1 H1 locs ht hvm hw hB hz1 hk1 hS => ?_)
        obtain ⟨hw1, hw2⟩ := hw
        have hw1 := hw1.symm
        subst hw1
        have hw2 := hw2.symm
        subst hw2
        obtain ⟨hP1, hK1, hD1⟩ := hB
        rw [ht] at hP1
        obtain ⟨hP, hD⟩ := va_joinQ (X := mw bd cb u) (cx := mw bd cb u) (wr := []) (w1 := mw bd cb u9) (pl := cw ad ca LA LE d9) hP hD [0, 1, 2, 3, 4, 5, 6, 7, 8, 9, 10, 11, 12, 13, 14, 15, 16] [] rfl rfl (by decide) (by decide) hk1 hFc hP1 hD1
        generalize H1 = H at hP hS ⊢
        have hP : va_P (dC, dI) vwCl (mw bd cb u9 ++ cw ad ca LA LE d9) H := hP
        have hD : va_D (fun q : Nat => s.heap.size ≤ q) (mw bd cb u9 ++ cw ad ca LA LE d9) := hD
        refine lv_icmp_eq (tgt := 527) hx hb d_Law_law_306 (by decide) (fun c_1 => ?_) (fun c_1 => ?_)
        · exact nxt d9 u9 H locs ls hR9 hP hD hS hl
        · exact absurd rfl c_1
      by_cases k_5 : y = 5
      · refine lv_tableIn (tgt := 311) (off := 279) hx hb d_Law_law_32 (by rw [k_5]; decide) (by rw [k_5]; decide) (by rw [k_5]; first | done | rfl | decide) (by decide) ?_
        refine lv_aload_n hx hb d_Law_law_311 rfl (lv_at hl 2 rfl) ?_
        refine lv_aload_n hx hb d_Law_law_312 rfl (lv_at hl 3 rfl) ?_
        refine lv_iload_n hx hb d_Law_law_313 rfl (lv_at hl 0 rfl) ?_
        refine lv_iconst (v := 1) hx hb d_Law_law_314 (by decide) ?_
        refine lv_iadd hx hb d_Law_law_315 ?_
        refine va_sld hx hb hX hbl hbA hS h_1 d_Law_law_316 ?_
        refine lv_i2l (v := ((xs ((nI (5 * t)) + 1).toNatClampNeg)).toInt64) hx hb d_Law_law_317 rfl ?_
        refine lv_bipush (v := 32) hx hb d_Law_law_318 (by decide) ?_
        refine lv_lshl (v := (((xs ((nI (5 * t)) + 1).toNatClampNeg)).toInt64 <<< ((32 : Int32).toInt64 &&& 63))) hx hb d_Law_law_320 rfl ?_
        refine lv_aload_n hx hb d_Law_law_321 rfl (lv_at hl 3 rfl) ?_
        refine lv_iload_n hx hb d_Law_law_322 rfl (lv_at hl 0 rfl) ?_
        refine lv_iconst (v := 2) hx hb d_Law_law_323 (by decide) ?_
        refine lv_iadd hx hb d_Law_law_324 ?_
        refine va_sld hx hb hX hbl hbA hS h_2 d_Law_law_325 ?_
        refine lv_i2l (v := ((xs ((nI (5 * t)) + 2).toNatClampNeg)).toInt64) hx hb d_Law_law_326 rfl ?_
        refine lv_ldc2 (v := 4294967295) hx hb hown (hts _ tw763) d_Law_law_327 ?_
        refine lv_land hx hb d_Law_law_330 ?_
        refine lv_lor hx hb d_Law_law_331 ?_
        obtain ⟨r9, e1, e2⟩ := s_balance hR (((((xs ((nI (5 * t)) + 1).toNatClampNeg)).toInt64 <<< ((32 : Int32).toInt64 &&& 63)) ||| (((xs ((nI (5 * t)) + 2).toNatClampNeg)).toInt64 &&& 4294967295)))
        have hPc : va_P (dC, dI) vwCl (cw ad ca LA LE d) H := hP.part (X := mw bd cb u) (cx := []) [] rfl
        have hDc : va_D (fun q : Nat => s.heap.size ≤ q) (cw ad ca LA LE d) := hD.part (X := mw bd cb u) (cx := []) [] rfl rfl
        have hFc := va_fr hDc hS hA
        refine va_calll (va_runV (As := [.long ((((xs ((nI (5 * t)) + 1).toNatClampNeg)).toInt64 <<< ((32 : Int32).toInt64 &&& 63)) ||| (((xs ((nI (5 * t)) + 2).toNatClampNeg)).toInt64 &&& 4294967295))]) (rest := []) ⟨hx, hb, hml, hown, hts⟩ (cc_D_balance l dC dI ad ca LA LE H.size d (((((xs ((nI (5 * t)) + 1).toNatClampNeg)).toInt64 <<< ((32 : Int32).toInt64 &&& 63)) ||| (((xs ((nI (5 * t)) + 2).toNatClampNeg)).toInt64 &&& 4294967295))) r9  e1) (cwV 1 hts (gtV tw455 tw456 tw457 tw1 tw458) rfl rfl rfl (by decide +kernel) ⟨Nat.le_of_ble_eq_true rfl, Nat.le_of_ble_eq_true rfl⟩) ⟨cBl, va_recv hKc hPc (ci := 7) (q0 := 0) rfl rfl, fun U hU hW => ⟨rfl, cPr hPc hKc hDc hN hU hW⟩⟩ rfl rfl hl.1 rfl (lv_room (Nat.le_of_ble_eq_true rfl)) d_Law_law_332 ⟨Nat.le_of_ble_eq_true rfl, Nat.le_of_ble_eq_true rfl⟩) hS (fun q _ h => hFc q h) hFc (fun r z t1 H1 locs ht hvm hw hB hz1 hk1 hS => ?_)
        obtain ⟨hw1, hw2⟩ := hw
        have hw1 := hw1.symm
        subst hw1
        have hw2 := hw2.symm
        subst hw2
        obtain ⟨hP1, hK1, hD1⟩ := hB
        rw [ht] at hP1
        obtain ⟨hP, hD⟩ := va_joinP (X := mw bd cb u) (cx := []) (wr := mw bd cb u) (rx := []) (pl := cw ad ca LA LE d) (pl1 := cw ad ca LA LE d) hP hD [] [0, 1, 2, 3, 4, 5, 6, 7, 8, 9, 10, 11, 12, 13, 14, 15, 16] rfl rfl (by decide) (by decide) hk1 hFc hP1 hD1
        generalize H1 = H at hP hS ⊢
        have hP : va_P (dC, dI) vwCl (mw bd cb u ++ cw ad ca LA LE d) H := hP
        have hD : va_D (fun q : Nat => s.heap.size ≤ q) (mw bd cb u ++ cw ad ca LA LE d) := hD
        refine lv_aload_n hx hb d_Law_law_335 rfl (lv_at hl 1 rfl) ?_
        refine lv_aload_n hx hb d_Law_law_336 rfl (lv_at hl 3 rfl) ?_
        refine lv_iload_n hx hb d_Law_law_337 rfl (lv_at hl 0 rfl) ?_
        refine lv_iconst (v := 1) hx hb d_Law_law_338 (by decide) ?_
        refine lv_iadd hx hb d_Law_law_339 ?_
        refine va_sld hx hb hX hbl hbA hS h_1 d_Law_law_340 ?_
        refine lv_i2l (v := ((xs ((nI (5 * t)) + 1).toNatClampNeg)).toInt64) hx hb d_Law_law_341 rfl ?_
        refine lv_bipush (v := 32) hx hb d_Law_law_342 (by decide) ?_
        refine lv_lshl (v := (((xs ((nI (5 * t)) + 1).toNatClampNeg)).toInt64 <<< ((32 : Int32).toInt64 &&& 63))) hx hb d_Law_law_344 rfl ?_
        refine lv_aload_n hx hb d_Law_law_345 rfl (lv_at hl 3 rfl) ?_
        refine lv_iload_n hx hb d_Law_law_346 rfl (lv_at hl 0 rfl) ?_
        refine lv_iconst (v := 2) hx hb d_Law_law_347 (by decide) ?_
        refine lv_iadd hx hb d_Law_law_348 ?_
        refine va_sld hx hb hX hbl hbA hS h_2 d_Law_law_349 ?_
        refine lv_i2l (v := ((xs ((nI (5 * t)) + 2).toNatClampNeg)).toInt64) hx hb d_Law_law_350 rfl ?_
        refine lv_ldc2 (v := 4294967295) hx hb hown (hts _ tw763) d_Law_law_351 ?_
        refine lv_land hx hb d_Law_law_354 ?_
        refine lv_lor hx hb d_Law_law_355 ?_
        have hPc : va_P (dC, dI) vwCl (mw bd cb u) H := hP.sub [0, 1, 2, 3, 4, 5, 6, 7, 8, 9, 10, 11, 12, 13, 14, 15, 16] rfl
        have hDc : va_D (fun q : Nat => s.heap.size ≤ q) (mw bd cb u) := hD.sub [0, 1, 2, 3, 4, 5, 6, 7, 8, 9, 10, 11, 12, 13, 14, 15, 16] (by decide) rfl
        have hFc := va_fr hDc hS hA
        refine va_calll (va_runV (As := [.long ((((xs ((nI (5 * t)) + 1).toNatClampNeg)).toInt64 <<< ((32 : Int32).toInt64 &&& 63)) ||| (((xs ((nI (5 * t)) + 2).toNatClampNeg)).toInt64 &&& 4294967295))]) (rest := [.long r9]) ⟨hx, hb, hml, hown, hts⟩ (cm_M_balance l dC dI bd cb H.size u (((((xs ((nI (5 * t)) + 1).toNatClampNeg)).toInt64 <<< ((32 : Int32).toInt64 &&& 63)) ||| (((xs ((nI (5 * t)) + 2).toNatClampNeg)).toInt64 &&& 4294967295))) r9  e2) (cwV 1 hts (gtV tw609 tw610 tw611 tw9 tw612) rfl rfl rfl (by decide +kernel) ⟨Nat.le_of_ble_eq_true rfl, Nat.le_of_ble_eq_true rfl⟩) ⟨mBl, va_recv hKm hPc (ci := 8) (q0 := 0) rfl rfl, fun U hU hW => ⟨rfl, mPr hPc hKm hDc hN hU hW⟩⟩ rfl rfl hl.1 rfl (lv_room (Nat.le_of_ble_eq_true rfl)) d_Law_law_356 ⟨Nat.le_of_ble_eq_true rfl, Nat.le_of_ble_eq_true rfl⟩) hS (fun q _ h => hFc q h) hFc (fun r z t1 H1 locs ht hvm hw hB hz1 hk1 hS => ?_)
        obtain ⟨hw1, hw2⟩ := hw
        have hw1 := hw1.symm
        subst hw1
        have hw2 := hw2.symm
        subst hw2
        obtain ⟨hP1, hK1, hD1⟩ := hB
        rw [ht] at hP1
        obtain ⟨hP, hD⟩ := va_joinQ (X := mw bd cb u) (cx := mw bd cb u) (wr := []) (w1 := mw bd cb u) (pl := cw ad ca LA LE d) hP hD [0, 1, 2, 3, 4, 5, 6, 7, 8, 9, 10, 11, 12, 13, 14, 15, 16] [] rfl rfl (by decide) (by decide) hk1 hFc hP1 hD1
        generalize H1 = H at hP hS ⊢
        have hP : va_P (dC, dI) vwCl (mw bd cb u ++ cw ad ca LA LE d) H := hP
        have hD : va_D (fun q : Nat => s.heap.size ≤ q) (mw bd cb u ++ cw ad ca LA LE d) := hD
        refine W.lcmp hx hb d_Law_law_359 ?_
        refine lv_if_eq (tgt := 527) hx hb d_Law_law_360 (by decide) (fun c_1 => ?_) (fun c_1 => ?_)
        · exact nxt d u H locs ls (relS_up hR) hP hD hS hl
        · exact absurd (lc_eq.mpr rfl) c_1
      by_cases k_6 : y = 6
      · refine lv_tableIn (tgt := 365) (off := 333) hx hb d_Law_law_32 (by rw [k_6]; decide) (by rw [k_6]; decide) (by rw [k_6]; first | done | rfl | decide) (by decide) ?_
        refine lv_aload_n hx hb d_Law_law_365 rfl (lv_at hl 2 rfl) ?_
        refine lv_aload_n hx hb d_Law_law_366 rfl (lv_at hl 3 rfl) ?_
        refine lv_iload_n hx hb d_Law_law_367 rfl (lv_at hl 0 rfl) ?_
        refine lv_iconst (v := 1) hx hb d_Law_law_368 (by decide) ?_
        refine lv_iadd hx hb d_Law_law_369 ?_
        refine va_sld hx hb hX hbl hbA hS h_1 d_Law_law_370 ?_
        refine lv_i2l (v := ((xs ((nI (5 * t)) + 1).toNatClampNeg)).toInt64) hx hb d_Law_law_371 rfl ?_
        refine lv_bipush (v := 32) hx hb d_Law_law_372 (by decide) ?_
        refine lv_lshl (v := (((xs ((nI (5 * t)) + 1).toNatClampNeg)).toInt64 <<< ((32 : Int32).toInt64 &&& 63))) hx hb d_Law_law_374 rfl ?_
        refine lv_aload_n hx hb d_Law_law_375 rfl (lv_at hl 3 rfl) ?_
        refine lv_iload_n hx hb d_Law_law_376 rfl (lv_at hl 0 rfl) ?_
        refine lv_iconst (v := 2) hx hb d_Law_law_377 (by decide) ?_
        refine lv_iadd hx hb d_Law_law_378 ?_
        refine va_sld hx hb hX hbl hbA hS h_2 d_Law_law_379 ?_
        refine lv_i2l (v := ((xs ((nI (5 * t)) + 2).toNatClampNeg)).toInt64) hx hb d_Law_law_380 rfl ?_
        refine lv_ldc2 (v := 4294967295) hx hb hown (hts _ tw763) d_Law_law_381 ?_
        refine lv_land hx hb d_Law_law_384 ?_
        refine lv_lor hx hb d_Law_law_385 ?_
        obtain ⟨r9, e1, e2⟩ := s_available (by omega) hR (((((xs ((nI (5 * t)) + 1).toNatClampNeg)).toInt64 <<< ((32 : Int32).toInt64 &&& 63)) ||| (((xs ((nI (5 * t)) + 2).toNatClampNeg)).toInt64 &&& 4294967295)))
        have hPc : va_P (dC, dI) vwCl (cw ad ca LA LE d) H := hP.part (X := mw bd cb u) (cx := []) [] rfl
        have hDc : va_D (fun q : Nat => s.heap.size ≤ q) (cw ad ca LA LE d) := hD.part (X := mw bd cb u) (cx := []) [] rfl rfl
        have hFc := va_fr hDc hS hA
        refine va_calll (va_runV (As := [.long ((((xs ((nI (5 * t)) + 1).toNatClampNeg)).toInt64 <<< ((32 : Int32).toInt64 &&& 63)) ||| (((xs ((nI (5 * t)) + 2).toNatClampNeg)).toInt64 &&& 4294967295))]) (rest := []) ⟨hx, hb, hml, hown, hts⟩ (cc_D_available l dC dI ad ca LA LE H.size d (((((xs ((nI (5 * t)) + 1).toNatClampNeg)).toInt64 <<< ((32 : Int32).toInt64 &&& 63)) ||| (((xs ((nI (5 * t)) + 2).toNatClampNeg)).toInt64 &&& 4294967295))) r9  e1) (cwV 1 hts (gtV tw460 tw461 tw462 tw1 tw463) rfl rfl rfl (by decide +kernel) ⟨Nat.le_of_ble_eq_true rfl, Nat.le_of_ble_eq_true rfl⟩) ⟨cBl, va_recv hKc hPc (ci := 7) (q0 := 0) rfl rfl, fun U hU hW => ⟨rfl, cPr hPc hKc hDc hN hU hW⟩⟩ rfl rfl hl.1 rfl (lv_room (Nat.le_of_ble_eq_true rfl)) d_Law_law_386 ⟨Nat.le_of_ble_eq_true rfl, Nat.le_of_ble_eq_true rfl⟩) hS (fun q _ h => hFc q h) hFc (fun r z t1 H1 locs ht hvm hw hB hz1 hk1 hS => ?_)
        obtain ⟨hw1, hw2⟩ := hw
        have hw1 := hw1.symm
        subst hw1
        have hw2 := hw2.symm
        subst hw2
        obtain ⟨hP1, hK1, hD1⟩ := hB
        rw [ht] at hP1
        obtain ⟨hP, hD⟩ := va_joinP (X := mw bd cb u) (cx := []) (wr := mw bd cb u) (rx := []) (pl := cw ad ca LA LE d) (pl1 := cw ad ca LA LE d) hP hD [] [0, 1, 2, 3, 4, 5, 6, 7, 8, 9, 10, 11, 12, 13, 14, 15, 16] rfl rfl (by decide) (by decide) hk1 hFc hP1 hD1
        generalize H1 = H at hP hS ⊢
        have hP : va_P (dC, dI) vwCl (mw bd cb u ++ cw ad ca LA LE d) H := hP
        have hD : va_D (fun q : Nat => s.heap.size ≤ q) (mw bd cb u ++ cw ad ca LA LE d) := hD
        refine lv_aload_n hx hb d_Law_law_389 rfl (lv_at hl 1 rfl) ?_
        refine lv_aload_n hx hb d_Law_law_390 rfl (lv_at hl 3 rfl) ?_
        refine lv_iload_n hx hb d_Law_law_391 rfl (lv_at hl 0 rfl) ?_
        refine lv_iconst (v := 1) hx hb d_Law_law_392 (by decide) ?_
        refine lv_iadd hx hb d_Law_law_393 ?_
        refine va_sld hx hb hX hbl hbA hS h_1 d_Law_law_394 ?_
        refine lv_i2l (v := ((xs ((nI (5 * t)) + 1).toNatClampNeg)).toInt64) hx hb d_Law_law_395 rfl ?_
        refine lv_bipush (v := 32) hx hb d_Law_law_396 (by decide) ?_
        refine lv_lshl (v := (((xs ((nI (5 * t)) + 1).toNatClampNeg)).toInt64 <<< ((32 : Int32).toInt64 &&& 63))) hx hb d_Law_law_398 rfl ?_
        refine lv_aload_n hx hb d_Law_law_399 rfl (lv_at hl 3 rfl) ?_
        refine lv_iload_n hx hb d_Law_law_400 rfl (lv_at hl 0 rfl) ?_
        refine lv_iconst (v := 2) hx hb d_Law_law_401 (by decide) ?_
        refine lv_iadd hx hb d_Law_law_402 ?_
        refine va_sld hx hb hX hbl hbA hS h_2 d_Law_law_403 ?_
        refine lv_i2l (v := ((xs ((nI (5 * t)) + 2).toNatClampNeg)).toInt64) hx hb d_Law_law_404 rfl ?_
        refine lv_ldc2 (v := 4294967295) hx hb hown (hts _ tw763) d_Law_law_405 ?_
        refine lv_land hx hb d_Law_law_408 ?_
        refine lv_lor hx hb d_Law_law_409 ?_
        have hPc : va_P (dC, dI) vwCl (mw bd cb u) H := hP.sub [0, 1, 2, 3, 4, 5, 6, 7, 8, 9, 10, 11, 12, 13, 14, 15, 16] rfl
        have hDc : va_D (fun q : Nat => s.heap.size ≤ q) (mw bd cb u) := hD.sub [0, 1, 2, 3, 4, 5, 6, 7, 8, 9, 10, 11, 12, 13, 14, 15, 16] (by decide) rfl
        have hFc := va_fr hDc hS hA
        refine va_calll (va_runV (As := [.long ((((xs ((nI (5 * t)) + 1).toNatClampNeg)).toInt64 <<< ((32 : Int32).toInt64 &&& 63)) ||| (((xs ((nI (5 * t)) + 2).toNatClampNeg)).toInt64 &&& 4294967295))]) (rest := [.long r9]) ⟨hx, hb, hml, hown, hts⟩ (cm_M_available l dC dI bd cb H.size u (((((xs ((nI (5 * t)) + 1).toNatClampNeg)).toInt64 <<< ((32 : Int32).toInt64 &&& 63)) ||| (((xs ((nI (5 * t)) + 2).toNatClampNeg)).toInt64 &&& 4294967295))) r9  e2) (cwV 1 hts (gtV tw614 tw615 tw616 tw9 tw617) rfl rfl rfl (by decide +kernel) ⟨Nat.le_of_ble_eq_true rfl, Nat.le_of_ble_eq_true rfl⟩) ⟨mBl, va_recv hKm hPc (ci := 8) (q0 := 0) rfl rfl, fun U hU hW => ⟨rfl, mPr hPc hKm hDc hN hU hW⟩⟩ rfl rfl hl.1 rfl (lv_room (Nat.le_of_ble_eq_true rfl)) d_Law_law_410 ⟨Nat.le_of_ble_eq_true rfl, Nat.le_of_ble_eq_true rfl⟩) hS (fun q _ h => hFc q h) hFc (fun r z t1 H1 locs ht hvm hw hB hz1 hk1 hS => ?_)
        obtain ⟨hw1, hw2⟩ := hw
        have hw1 := hw1.symm
        subst hw1
        have hw2 := hw2.symm
        subst hw2
        obtain ⟨hP1, hK1, hD1⟩ := hB
        rw [ht] at hP1
        obtain ⟨hP, hD⟩ := va_joinQ (X := mw bd cb u) (cx := mw bd cb u) (wr := []) (w1 := mw bd cb u) (pl := cw ad ca LA LE d) hP hD [0, 1, 2, 3, 4, 5, 6, 7, 8, 9, 10, 11, 12, 13, 14, 15, 16] [] rfl rfl (by decide) (by decide) hk1 hFc hP1 hD1
        generalize H1 = H at hP hS ⊢
        have hP : va_P (dC, dI) vwCl (mw bd cb u ++ cw ad ca LA LE d) H := hP
        have hD : va_D (fun q : Nat => s.heap.size ≤ q) (mw bd cb u ++ cw ad ca LA LE d) := hD
        refine W.lcmp hx hb d_Law_law_413 ?_
        refine lv_if_eq (tgt := 527) hx hb d_Law_law_414 (by decide) (fun c_1 => ?_) (fun c_1 => ?_)
        · exact nxt d u H locs ls (relS_up hR) hP hD hS hl
        · exact absurd (lc_eq.mpr rfl) c_1
      by_cases k_7 : y = 7
      · refine lv_tableIn (tgt := 419) (off := 387) hx hb d_Law_law_32 (by rw [k_7]; decide) (by rw [k_7]; decide) (by rw [k_7]; first | done | rfl | decide) (by decide) ?_
        refine lv_aload_n hx hb d_Law_law_419 rfl (lv_at hl 2 rfl) ?_
        obtain ⟨r9, e1, e2⟩ := s_entries hR 
        have hPc : va_P (dC, dI) vwCl (cw ad ca LA LE d) H := hP.part (X := mw bd cb u) (cx := []) [] rfl
        have hDc : va_D (fun q : Nat => s.heap.size ≤ q) (cw ad ca LA LE d) := hD.part (X := mw bd cb u) (cx := []) [] rfl rfl
        have hFc := va_fr hDc hS hA
        refine va_calli (va_runV (As := []) (rest := []) ⟨hx, hb, hml, hown, hts⟩ (cc_D_entries l dC dI ad ca LA LE H.size d  r9  e1) (cwV 0 hts (gtV tw464 tw465 tw466 tw1 tw467) rfl rfl rfl (by decide +kernel) ⟨Nat.le_of_ble_eq_true rfl, Nat.le_of_ble_eq_true rfl⟩) ⟨cBl, va_recv hKc hPc (ci := 7) (q0 := 0) rfl rfl, fun U hU hW => ⟨rfl, cPr hPc hKc hDc hN hU hW⟩⟩ rfl rfl hl.1 rfl (lv_room (Nat.le_of_ble_eq_true rfl)) d_Law_law_420 ⟨Nat.le_of_ble_eq_true rfl, Nat.le_of_ble_eq_true rfl⟩) hS (fun q _ h => hFc q h) hFc (fun r z t1 H1 locs ht hvm hw hB hz1 hk1 hS => ?_)
        obtain ⟨hw1, hw2⟩ := hw
        have hw1 := hw1.symm
        subst hw1
        have hw2 := hw2.symm
        subst hw2
        obtain ⟨hP1, hK1, hD1⟩ := hB
        rw [ht] at hP1
        obtain ⟨hP, hD⟩ := va_joinP (X := mw bd cb u) (cx := []) (wr := mw bd cb u) (rx := []) (pl := cw ad ca LA LE d) (pl1 := cw ad ca LA LE d) hP hD [] [0, 1, 2, 3, 4, 5, 6, 7, 8, 9, 10, 11, 12, 13, 14, 15, 16] rfl rfl (by decide) (by decide) hk1 hFc hP1 hD1
        generalize H1 = H at hP hS ⊢
        have hP : va_P (dC, dI) vwCl (mw bd cb u ++ cw ad ca LA LE d) H := hP
        have hD : va_D (fun q : Nat => s.heap.size ≤ q) (mw bd cb u ++ cw ad ca LA LE d) := hD
        refine lv_aload_n hx hb d_Law_law_423 rfl (lv_at hl 1 rfl) ?_
        have hPc : va_P (dC, dI) vwCl (mw bd cb u) H := hP.sub [0, 1, 2, 3, 4, 5, 6, 7, 8, 9, 10, 11, 12, 13, 14, 15, 16] rfl
        have hDc : va_D (fun q : Nat => s.heap.size ≤ q) (mw bd cb u) := hD.sub [0, 1, 2, 3, 4, 5, 6, 7, 8, 9, 10, 11, 12, 13, 14, 15, 16] (by decide) rfl
        have hFc := va_fr hDc hS hA
        refine va_calli (va_runV (As := []) (rest := [.int r9]) ⟨hx, hb, hml, hown, hts⟩ (cm_M_entries l dC dI bd cb H.size u  r9  e2) (cwV 0 hts (gtV tw742 tw743 tw744 tw9 tw745) rfl rfl rfl (by decide +kernel) ⟨Nat.le_of_ble_eq_true rfl, Nat.le_of_ble_eq_true rfl⟩) ⟨mBl, va_recv hKm hPc (ci := 8) (q0 := 0) rfl rfl, fun U hU hW => ⟨rfl, mPr hPc hKm hDc hN hU hW⟩⟩ rfl rfl hl.1 rfl (lv_room (Nat.le_of_ble_eq_true rfl)) d_Law_law_424 ⟨Nat.le_of_ble_eq_true rfl, Nat.le_of_ble_eq_true rfl⟩) hS (fun q _ h => hFc q h) hFc (fun r z t1 H1 locs ht hvm hw hB hz1 hk1 hS => ?_)
        obtain ⟨hw1, hw2⟩ := hw
        have hw1 := hw1.symm
        subst hw1
        have hw2 := hw2.symm
        subst hw2
        obtain ⟨hP1, hK1, hD1⟩ := hB
        rw [ht] at hP1
        obtain ⟨hP, hD⟩ := va_joinQ (X := mw bd cb u) (cx := mw bd cb u) (wr := []) (w1 := mw bd cb u) (pl := cw ad ca LA LE d) hP hD [0, 1, 2, 3, 4, 5, 6, 7, 8, 9, 10, 11, 12, 13, 14, 15, 16] [] rfl rfl (by decide) (by decide) hk1 hFc hP1 hD1
        generalize H1 = H at hP hS ⊢
        have hP : va_P (dC, dI) vwCl (mw bd cb u ++ cw ad ca LA LE d) H := hP
        have hD : va_D (fun q : Nat => s.heap.size ≤ q) (mw bd cb u ++ cw ad ca LA LE d) := hD
        refine lv_icmp_eq (tgt := 527) hx hb d_Law_law_427 (by decide) (fun c_1 => ?_) (fun c_1 => ?_)
        · exact nxt d u H locs ls (relS_up hR) hP hD hS hl
        · exact absurd rfl c_1
      by_cases k_8 : y = 8
      · refine lv_tableIn (tgt := 432) (off := 400) hx hb d_Law_law_32 (by rw [k_8]; decide) (by rw [k_8]; decide) (by rw [k_8]; first | done | rfl | decide) (by decide) ?_
        refine lv_aload_n hx hb d_Law_law_432 rfl (lv_at hl 2 rfl) ?_
        refine lv_aload_n hx hb d_Law_law_433 rfl (lv_at hl 3 rfl) ?_
        refine lv_iload_n hx hb d_Law_law_434 rfl (lv_at hl 0 rfl) ?_
        refine lv_iconst (v := 1) hx hb d_Law_law_435 (by decide) ?_
        refine lv_iadd hx hb d_Law_law_436 ?_
        refine va_sld hx hb hX hbl hbA hS h_1 d_Law_law_437 ?_
        refine lv_aload_n hx hb d_Law_law_438 rfl (lv_at hl 3 rfl) ?_
        refine lv_iload_n hx hb d_Law_law_439 rfl (lv_at hl 0 rfl) ?_
        refine lv_iconst (v := 2) hx hb d_Law_law_440 (by decide) ?_
        refine lv_iadd hx hb d_Law_law_441 ?_
        refine va_sld hx hb hX hbl hbA hS h_2 d_Law_law_442 ?_
        obtain ⟨r9, e1, e2⟩ := s_entry (by omega) hR ((xs ((nI (5 * t)) + 1).toNatClampNeg)) ((xs ((nI (5 * t)) + 2).toNatClampNeg))
        have hPc : va_P (dC, dI) vwCl (cw ad ca LA LE d) H := hP.part (X := mw bd cb u) (cx := []) [] rfl
        have hDc : va_D (fun q : Nat => s.heap.size ≤ q) (cw ad ca LA LE d) := hD.part (X := mw bd cb u) (cx := []) [] rfl rfl
        have hFc := va_fr hDc hS hA
        refine va_calli (va_runV (As := [.int (xs ((nI (5 * t)) + 1).toNatClampNeg), .int (xs ((nI (5 * t)) + 2).toNatClampNeg)]) (rest := []) ⟨hx, hb, hml, hown, hts⟩ (cc_D_entry l dC dI ad ca LA LE H.size d ((xs ((nI (5 * t)) + 1).toNatClampNeg)) ((xs ((nI (5 * t)) + 2).toNatClampNeg)) r9  e1) (cwV 2 hts (gtV tw468 tw469 tw470 tw1 tw471) rfl rfl rfl (by decide +kernel) ⟨Nat.le_of_ble_eq_true rfl, Nat.le_of_ble_eq_true rfl⟩) ⟨cBl, va_recv hKc hPc (ci := 7) (q0 := 0) rfl rfl, fun U hU hW => ⟨rfl, cPr hPc hKc hDc hN hU hW⟩⟩ rfl rfl hl.1 rfl (lv_room (Nat.le_of_ble_eq_true rfl)) d_Law_law_443 ⟨Nat.le_of_ble_eq_true rfl, Nat.le_of_ble_eq_true rfl⟩) hS (fun q _ h => hFc q h) hFc (fun r z t1 H1 locs ht hvm hw hB hz1 hk1 hS => ?_)
        obtain ⟨hw1, hw2⟩ := hw
        have hw1 := hw1.symm
        subst hw1
        have hw2 := hw2.symm
        subst hw2
        obtain ⟨hP1, hK1, hD1⟩ := hB
        rw [ht] at hP1
        obtain ⟨hP, hD⟩ := va_joinP (X := mw bd cb u) (cx := []) (wr := mw bd cb u) (rx := []) (pl := cw ad ca LA LE d) (pl1 := cw ad ca LA LE d) hP hD [] [0, 1, 2, 3, 4, 5, 6, 7, 8, 9, 10, 11, 12, 13, 14, 15, 16] rfl rfl (by decide) (by decide) hk1 hFc hP1 hD1
        generalize H1 = H at hP hS ⊢
        have hP : va_P (dC, dI) vwCl (mw bd cb u ++ cw ad ca LA LE d) H := hP
        have hD : va_D (fun q : Nat => s.heap.size ≤ q) (mw bd cb u ++ cw ad ca LA LE d) := hD
        refine lv_aload_n hx hb d_Law_law_446 rfl (lv_at hl 1 rfl) ?_
        refine lv_aload_n hx hb d_Law_law_447 rfl (lv_at hl 3 rfl) ?_
        refine lv_iload_n hx hb d_Law_law_448 rfl (lv_at hl 0 rfl) ?_
        refine lv_iconst (v := 1) hx hb d_Law_law_449 (by decide) ?_
        refine lv_iadd hx hb d_Law_law_450 ?_
        refine va_sld hx hb hX hbl hbA hS h_1 d_Law_law_451 ?_
        refine lv_aload_n hx hb d_Law_law_452 rfl (lv_at hl 3 rfl) ?_
        refine lv_iload_n hx hb d_Law_law_453 rfl (lv_at hl 0 rfl) ?_
        refine lv_iconst (v := 2) hx hb d_Law_law_454 (by decide) ?_
        refine lv_iadd hx hb d_Law_law_455 ?_
        refine va_sld hx hb hX hbl hbA hS h_2 d_Law_law_456 ?_
        have hPc : va_P (dC, dI) vwCl (mw bd cb u) H := hP.sub [0, 1, 2, 3, 4, 5, 6, 7, 8, 9, 10, 11, 12, 13, 14, 15, 16] rfl
        have hDc : va_D (fun q : Nat => s.heap.size ≤ q) (mw bd cb u) := hD.sub [0, 1, 2, 3, 4, 5, 6, 7, 8, 9, 10, 11, 12, 13, 14, 15, 16] (by decide) rfl
        have hFc := va_fr hDc hS hA
        refine va_calli (va_runV (As := [.int (xs ((nI (5 * t)) + 1).toNatClampNeg), .int (xs ((nI (5 * t)) + 2).toNatClampNeg)]) (rest := [.int r9]) ⟨hx, hb, hml, hown, hts⟩ (cm_M_entry l dC dI bd cb H.size u ((xs ((nI (5 * t)) + 1).toNatClampNeg)) ((xs ((nI (5 * t)) + 2).toNatClampNeg)) r9  e2) (cwV 2 hts (gtV tw746 tw747 tw748 tw9 tw749) rfl rfl rfl (by decide +kernel) ⟨Nat.le_of_ble_eq_true rfl, Nat.le_of_ble_eq_true rfl⟩) ⟨mBl, va_recv hKm hPc (ci := 8) (q0 := 0) rfl rfl, fun U hU hW => ⟨rfl, mPr hPc hKm hDc hN hU hW⟩⟩ rfl rfl hl.1 rfl (lv_room (Nat.le_of_ble_eq_true rfl)) d_Law_law_457 ⟨Nat.le_of_ble_eq_true rfl, Nat.le_of_ble_eq_true rfl⟩) hS (fun q _ h => hFc q h) hFc (fun r z t1 H1 locs ht hvm hw hB hz1 hk1 hS => ?_)
        obtain ⟨hw1, hw2⟩ := hw
        have hw1 := hw1.symm
        subst hw1
        have hw2 := hw2.symm
        subst hw2
        obtain ⟨hP1, hK1, hD1⟩ := hB
        rw [ht] at hP1
        obtain ⟨hP, hD⟩ := va_joinQ (X := mw bd cb u) (cx := mw bd cb u) (wr := []) (w1 := mw bd cb u) (pl := cw ad ca LA LE d) hP hD [0, 1, 2, 3, 4, 5, 6, 7, 8, 9, 10, 11, 12, 13, 14, 15, 16] [] rfl rfl (by decide) (by decide) hk1 hFc hP1 hD1
        generalize H1 = H at hP hS ⊢
        have hP : va_P (dC, dI) vwCl (mw bd cb u ++ cw ad ca LA LE d) H := hP
        have hD : va_D (fun q : Nat => s.heap.size ≤ q) (mw bd cb u ++ cw ad ca LA LE d) := hD
        refine lv_icmp_eq (tgt := 527) hx hb d_Law_law_460 (by decide) (fun c_1 => ?_) (fun c_1 => ?_)
        · exact nxt d u H locs ls (relS_up hR) hP hD hS hl
        · exact absurd rfl c_1
      by_cases k_9 : y = 9
      · refine lv_tableIn (tgt := 465) (off := 433) hx hb d_Law_law_32 (by rw [k_9]; decide) (by rw [k_9]; decide) (by rw [k_9]; first | done | rfl | decide) (by decide) ?_
        refine lv_aload_n hx hb d_Law_law_465 rfl (lv_at hl 2 rfl) ?_
        refine lv_aload_n hx hb d_Law_law_466 rfl (lv_at hl 3 rfl) ?_
        refine lv_iload_n hx hb d_Law_law_467 rfl (lv_at hl 0 rfl) ?_
        refine lv_iconst (v := 1) hx hb d_Law_law_468 (by decide) ?_
        refine lv_iadd hx hb d_Law_law_469 ?_
        refine va_sld hx hb hX hbl hbA hS h_1 d_Law_law_470 ?_
        obtain ⟨r9, e1, e2⟩ := s_amount hR ((xs ((nI (5 * t)) + 1).toNatClampNeg))
        have hPc : va_P (dC, dI) vwCl (cw ad ca LA LE d) H := hP.part (X := mw bd cb u) (cx := []) [] rfl
        have hDc : va_D (fun q : Nat => s.heap.size ≤ q) (cw ad ca LA LE d) := hD.part (X := mw bd cb u) (cx := []) [] rfl rfl
        have hFc := va_fr hDc hS hA
        refine va_calll (va_runV (As := [.int (xs ((nI (5 * t)) + 1).toNatClampNeg)]) (rest := []) ⟨hx, hb, hml, hown, hts⟩ (cc_D_amount l dC dI ad ca LA LE H.size d ((xs ((nI (5 * t)) + 1).toNatClampNeg)) r9  e1) (cwV 1 hts (gtV tw481 tw482 tw483 tw1 tw484) rfl rfl rfl (by decide +kernel) ⟨Nat.le_of_ble_eq_true rfl, Nat.le_of_ble_eq_true rfl⟩) ⟨cBl, va_recv hKc hPc (ci := 7) (q0 := 0) rfl rfl, fun U hU hW => ⟨rfl, cPr hPc hKc hDc hN hU hW⟩⟩ rfl rfl hl.1 rfl (lv_room (Nat.le_of_ble_eq_true rfl)) d_Law_law_471 ⟨Nat.le_of_ble_eq_true rfl, Nat.le_of_ble_eq_true rfl⟩) hS (fun q _ h => hFc q h) hFc (fun r z t1 H1 locs ht hvm hw hB hz1 hk1 hS => ?_)
        obtain ⟨hw1, hw2⟩ := hw
        have hw1 := hw1.symm
        subst hw1
        have hw2 := hw2.symm
        subst hw2
        obtain ⟨hP1, hK1, hD1⟩ := hB
        rw [ht] at hP1
        obtain ⟨hP, hD⟩ := va_joinP (X := mw bd cb u) (cx := []) (wr := mw bd cb u) (rx := []) (pl := cw ad ca LA LE d) (pl1 := cw ad ca LA LE d) hP hD [] [0, 1, 2, 3, 4, 5, 6, 7, 8, 9, 10, 11, 12, 13, 14, 15, 16] rfl rfl (by decide) (by decide) hk1 hFc hP1 hD1
        generalize H1 = H at hP hS ⊢
        have hP : va_P (dC, dI) vwCl (mw bd cb u ++ cw ad ca LA LE d) H := hP
        have hD : va_D (fun q : Nat => s.heap.size ≤ q) (mw bd cb u ++ cw ad ca LA LE d) := hD
        refine lv_aload_n hx hb d_Law_law_474 rfl (lv_at hl 1 rfl) ?_
        refine lv_aload_n hx hb d_Law_law_475 rfl (lv_at hl 3 rfl) ?_
        refine lv_iload_n hx hb d_Law_law_476 rfl (lv_at hl 0 rfl) ?_
        refine lv_iconst (v := 1) hx hb d_Law_law_477 (by decide) ?_
        refine lv_iadd hx hb d_Law_law_478 ?_
        refine va_sld hx hb hX hbl hbA hS h_1 d_Law_law_479 ?_
        have hPc : va_P (dC, dI) vwCl (mw bd cb u) H := hP.sub [0, 1, 2, 3, 4, 5, 6, 7, 8, 9, 10, 11, 12, 13, 14, 15, 16] rfl
        have hDc : va_D (fun q : Nat => s.heap.size ≤ q) (mw bd cb u) := hD.sub [0, 1, 2, 3, 4, 5, 6, 7, 8, 9, 10, 11, 12, 13, 14, 15, 16] (by decide) rfl
        have hFc := va_fr hDc hS hA
        refine va_calll (va_runV (As := [.int (xs ((nI (5 * t)) + 1).toNatClampNeg)]) (rest := [.long r9]) ⟨hx, hb, hml, hown, hts⟩ (cm_M_amount l dC dI bd cb H.size u ((xs ((nI (5 * t)) + 1).toNatClampNeg)) r9  e2) (cwV 1 hts (gtV tw750 tw751 tw752 tw9 tw753) rfl rfl rfl (by decide +kernel) ⟨Nat.le_of_ble_eq_true rfl, Nat.le_of_ble_eq_true rfl⟩) ⟨mBl, va_recv hKm hPc (ci := 8) (q0 := 0) rfl rfl, fun U hU hW => ⟨rfl, mPr hPc hKm hDc hN hU hW⟩⟩ rfl rfl hl.1 rfl (lv_room (Nat.le_of_ble_eq_true rfl)) d_Law_law_480 ⟨Nat.le_of_ble_eq_true rfl, Nat.le_of_ble_eq_true rfl⟩) hS (fun q _ h => hFc q h) hFc (fun r z t1 H1 locs ht hvm hw hB hz1 hk1 hS => ?_)
        obtain ⟨hw1, hw2⟩ := hw
        have hw1 := hw1.symm
        subst hw1
        have hw2 := hw2.symm
        subst hw2
        obtain ⟨hP1, hK1, hD1⟩ := hB
        rw [ht] at hP1
        obtain ⟨hP, hD⟩ := va_joinQ (X := mw bd cb u) (cx := mw bd cb u) (wr := []) (w1 := mw bd cb u) (pl := cw ad ca LA LE d) hP hD [0, 1, 2, 3, 4, 5, 6, 7, 8, 9, 10, 11, 12, 13, 14, 15, 16] [] rfl rfl (by decide) (by decide) hk1 hFc hP1 hD1
        generalize H1 = H at hP hS ⊢
        have hP : va_P (dC, dI) vwCl (mw bd cb u ++ cw ad ca LA LE d) H := hP
        have hD : va_D (fun q : Nat => s.heap.size ≤ q) (mw bd cb u ++ cw ad ca LA LE d) := hD
        refine W.lcmp hx hb d_Law_law_483 ?_
        refine lv_if_eq (tgt := 527) hx hb d_Law_law_484 (by decide) (fun c_1 => ?_) (fun c_1 => ?_)
        · exact nxt d u H locs ls (relS_up hR) hP hD hS hl
        · exact absurd (lc_eq.mpr rfl) c_1
      by_cases k_10 : y = 10
      · refine lv_tableIn (tgt := 489) (off := 457) hx hb d_Law_law_32 (by rw [k_10]; decide) (by rw [k_10]; decide) (by rw [k_10]; first | done | rfl | decide) (by decide) ?_
        refine lv_aload_n hx hb d_Law_law_489 rfl (lv_at hl 2 rfl) ?_
        refine lv_aload_n hx hb d_Law_law_490 rfl (lv_at hl 3 rfl) ?_
        refine lv_iload_n hx hb d_Law_law_491 rfl (lv_at hl 0 rfl) ?_
        refine lv_iconst (v := 1) hx hb d_Law_law_492 (by decide) ?_
        refine lv_iadd hx hb d_Law_law_493 ?_
        refine va_sld hx hb hX hbl hbA hS h_1 d_Law_law_494 ?_
        obtain ⟨r9, e1, e2⟩ := s_net hR ((xs ((nI (5 * t)) + 1).toNatClampNeg))
        have hPc : va_P (dC, dI) vwCl (cw ad ca LA LE d) H := hP.part (X := mw bd cb u) (cx := []) [] rfl
        have hDc : va_D (fun q : Nat => s.heap.size ≤ q) (cw ad ca LA LE d) := hD.part (X := mw bd cb u) (cx := []) [] rfl rfl
        have hFc := va_fr hDc hS hA
        refine va_calll (va_runV (As := [.int (xs ((nI (5 * t)) + 1).toNatClampNeg)]) (rest := []) ⟨hx, hb, hml, hown, hts⟩ (cc_D_net l dC dI ad ca LA LE H.size d ((xs ((nI (5 * t)) + 1).toNatClampNeg)) r9  e1) (cwV 1 hts (gtV tw486 tw487 tw488 tw1 tw489) rfl rfl rfl (by decide +kernel) ⟨Nat.le_of_ble_eq_true rfl, Nat.le_of_ble_eq_true rfl⟩) ⟨cBl, va_recv hKc hPc (ci := 7) (q0 := 0) rfl rfl, fun U hU hW => ⟨rfl, cPr hPc hKc hDc hN hU hW⟩⟩ rfl rfl hl.1 rfl (lv_room (Nat.le_of_ble_eq_true rfl)) d_Law_law_495 ⟨Nat.le_of_ble_eq_true rfl, Nat.le_of_ble_eq_true rfl⟩) hS (fun q _ h => hFc q h) hFc (fun r z t1 H1 locs ht hvm hw hB hz1 hk1 hS => ?_)
        obtain ⟨hw1, hw2⟩ := hw
        have hw1 := hw1.symm
        subst hw1
        have hw2 := hw2.symm
        subst hw2
        obtain ⟨hP1, hK1, hD1⟩ := hB
        rw [ht] at hP1
        obtain ⟨hP, hD⟩ := va_joinP (X := mw bd cb u) (cx := []) (wr := mw bd cb u) (rx := []) (pl := cw ad ca LA LE d) (pl1 := cw ad ca LA LE d) hP hD [] [0, 1, 2, 3, 4, 5, 6, 7, 8, 9, 10, 11, 12, 13, 14, 15, 16] rfl rfl (by decide) (by decide) hk1 hFc hP1 hD1
        generalize H1 = H at hP hS ⊢
        have hP : va_P (dC, dI) vwCl (mw bd cb u ++ cw ad ca LA LE d) H := hP
        have hD : va_D (fun q : Nat => s.heap.size ≤ q) (mw bd cb u ++ cw ad ca LA LE d) := hD
        refine lv_aload_n hx hb d_Law_law_498 rfl (lv_at hl 1 rfl) ?_
        refine lv_aload_n hx hb d_Law_law_499 rfl (lv_at hl 3 rfl) ?_
        refine lv_iload_n hx hb d_Law_law_500 rfl (lv_at hl 0 rfl) ?_
        refine lv_iconst (v := 1) hx hb d_Law_law_501 (by decide) ?_
        refine lv_iadd hx hb d_Law_law_502 ?_
        refine va_sld hx hb hX hbl hbA hS h_1 d_Law_law_503 ?_
        have hPc : va_P (dC, dI) vwCl (mw bd cb u) H := hP.sub [0, 1, 2, 3, 4, 5, 6, 7, 8, 9, 10, 11, 12, 13, 14, 15, 16] rfl
        have hDc : va_D (fun q : Nat => s.heap.size ≤ q) (mw bd cb u) := hD.sub [0, 1, 2, 3, 4, 5, 6, 7, 8, 9, 10, 11, 12, 13, 14, 15, 16] (by decide) rfl
        have hFc := va_fr hDc hS hA
        refine va_calll (va_runV (As := [.int (xs ((nI (5 * t)) + 1).toNatClampNeg)]) (rest := [.long r9]) ⟨hx, hb, hml, hown, hts⟩ (cm_M_net l dC dI bd cb H.size u ((xs ((nI (5 * t)) + 1).toNatClampNeg)) r9  e2) (cwV 1 hts (gtV tw755 tw756 tw757 tw9 tw758) rfl rfl rfl (by decide +kernel) ⟨Nat.le_of_ble_eq_true rfl, Nat.le_of_ble_eq_true rfl⟩) ⟨mBl, va_recv hKm hPc (ci := 8) (q0 := 0) rfl rfl, fun U hU hW => ⟨rfl, mPr hPc hKm hDc hN hU hW⟩⟩ rfl rfl hl.1 rfl (lv_room (Nat.le_of_ble_eq_true rfl)) d_Law_law_504 ⟨Nat.le_of_ble_eq_true rfl, Nat.le_of_ble_eq_true rfl⟩) hS (fun q _ h => hFc q h) hFc (fun r z t1 H1 locs ht hvm hw hB hz1 hk1 hS => ?_)
        obtain ⟨hw1, hw2⟩ := hw
        have hw1 := hw1.symm
        subst hw1
        have hw2 := hw2.symm
        subst hw2
        obtain ⟨hP1, hK1, hD1⟩ := hB
        rw [ht] at hP1
        obtain ⟨hP, hD⟩ := va_joinQ (X := mw bd cb u) (cx := mw bd cb u) (wr := []) (w1 := mw bd cb u) (pl := cw ad ca LA LE d) hP hD [0, 1, 2, 3, 4, 5, 6, 7, 8, 9, 10, 11, 12, 13, 14, 15, 16] [] rfl rfl (by decide) (by decide) hk1 hFc hP1 hD1
        generalize H1 = H at hP hS ⊢
        have hP : va_P (dC, dI) vwCl (mw bd cb u ++ cw ad ca LA LE d) H := hP
        have hD : va_D (fun q : Nat => s.heap.size ≤ q) (mw bd cb u ++ cw ad ca LA LE d) := hD
        refine W.lcmp hx hb d_Law_law_507 ?_
        refine lv_if_eq (tgt := 527) hx hb d_Law_law_508 (by decide) (fun c_1 => ?_) (fun c_1 => ?_)
        · exact nxt d u H locs ls (relS_up hR) hP hD hS hl
        · exact absurd (lc_eq.mpr rfl) c_1
      by_cases k_11 : y = 11
      · refine lv_tableIn (tgt := 513) (off := 481) hx hb d_Law_law_32 (by rw [k_11]; decide) (by rw [k_11]; decide) (by rw [k_11]; first | done | rfl | decide) (by decide) ?_
        refine lv_aload_n hx hb d_Law_law_513 rfl (lv_at hl 2 rfl) ?_
        obtain ⟨r9, e1, e2⟩ := s_settled hR 
        have hPc : va_P (dC, dI) vwCl (cw ad ca LA LE d) H := hP.part (X := mw bd cb u) (cx := []) [] rfl
        have hDc : va_D (fun q : Nat => s.heap.size ≤ q) (cw ad ca LA LE d) := hD.part (X := mw bd cb u) (cx := []) [] rfl rfl
        have hFc := va_fr hDc hS hA
        refine va_calll (va_runV (As := []) (rest := []) ⟨hx, hb, hml, hown, hts⟩ (cc_D_settled l dC dI ad ca LA LE H.size d  r9  e1) (cwV 0 hts (gtV tw490 tw491 tw492 tw1 tw493) rfl rfl rfl (by decide +kernel) ⟨Nat.le_of_ble_eq_true rfl, Nat.le_of_ble_eq_true rfl⟩) ⟨cBl, va_recv hKc hPc (ci := 7) (q0 := 0) rfl rfl, fun U hU hW => ⟨rfl, cPr hPc hKc hDc hN hU hW⟩⟩ rfl rfl hl.1 rfl (lv_room (Nat.le_of_ble_eq_true rfl)) d_Law_law_514 ⟨Nat.le_of_ble_eq_true rfl, Nat.le_of_ble_eq_true rfl⟩) hS (fun q _ h => hFc q h) hFc (fun r z t1 H1 locs ht hvm hw hB hz1 hk1 hS => ?_)
        obtain ⟨hw1, hw2⟩ := hw
        have hw1 := hw1.symm
        subst hw1
        have hw2 := hw2.symm
        subst hw2
        obtain ⟨hP1, hK1, hD1⟩ := hB
        rw [ht] at hP1
        obtain ⟨hP, hD⟩ := va_joinP (X := mw bd cb u) (cx := []) (wr := mw bd cb u) (rx := []) (pl := cw ad ca LA LE d) (pl1 := cw ad ca LA LE d) hP hD [] [0, 1, 2, 3, 4, 5, 6, 7, 8, 9, 10, 11, 12, 13, 14, 15, 16] rfl rfl (by decide) (by decide) hk1 hFc hP1 hD1
        generalize H1 = H at hP hS ⊢
        have hP : va_P (dC, dI) vwCl (mw bd cb u ++ cw ad ca LA LE d) H := hP
        have hD : va_D (fun q : Nat => s.heap.size ≤ q) (mw bd cb u ++ cw ad ca LA LE d) := hD
        refine lv_aload_n hx hb d_Law_law_517 rfl (lv_at hl 1 rfl) ?_
        have hPc : va_P (dC, dI) vwCl (mw bd cb u) H := hP.sub [0, 1, 2, 3, 4, 5, 6, 7, 8, 9, 10, 11, 12, 13, 14, 15, 16] rfl
        have hDc : va_D (fun q : Nat => s.heap.size ≤ q) (mw bd cb u) := hD.sub [0, 1, 2, 3, 4, 5, 6, 7, 8, 9, 10, 11, 12, 13, 14, 15, 16] (by decide) rfl
        have hFc := va_fr hDc hS hA
        refine va_calll (va_runV (As := []) (rest := [.long r9]) ⟨hx, hb, hml, hown, hts⟩ (cm_M_settled l dC dI bd cb H.size u  r9  e2) (cwV 0 hts (gtV tw759 tw760 tw761 tw9 tw762) rfl rfl rfl (by decide +kernel) ⟨Nat.le_of_ble_eq_true rfl, Nat.le_of_ble_eq_true rfl⟩) ⟨mBl, va_recv hKm hPc (ci := 8) (q0 := 0) rfl rfl, fun U hU hW => ⟨rfl, mPr hPc hKm hDc hN hU hW⟩⟩ rfl rfl hl.1 rfl (lv_room (Nat.le_of_ble_eq_true rfl)) d_Law_law_518 ⟨Nat.le_of_ble_eq_true rfl, Nat.le_of_ble_eq_true rfl⟩) hS (fun q _ h => hFc q h) hFc (fun r z t1 H1 locs ht hvm hw hB hz1 hk1 hS => ?_)
        obtain ⟨hw1, hw2⟩ := hw
        have hw1 := hw1.symm
        subst hw1
        have hw2 := hw2.symm
        subst hw2
        obtain ⟨hP1, hK1, hD1⟩ := hB
        rw [ht] at hP1
        obtain ⟨hP, hD⟩ := va_joinQ (X := mw bd cb u) (cx := mw bd cb u) (wr := []) (w1 := mw bd cb u) (pl := cw ad ca LA LE d) hP hD [0, 1, 2, 3, 4, 5, 6, 7, 8, 9, 10, 11, 12, 13, 14, 15, 16] [] rfl rfl (by decide) (by decide) hk1 hFc hP1 hD1
        generalize H1 = H at hP hS ⊢
        have hP : va_P (dC, dI) vwCl (mw bd cb u ++ cw ad ca LA LE d) H := hP
        have hD : va_D (fun q : Nat => s.heap.size ≤ q) (mw bd cb u ++ cw ad ca LA LE d) := hD
        refine W.lcmp hx hb d_Law_law_521 ?_
        refine lv_if_eq (tgt := 527) hx hb d_Law_law_522 (by decide) (fun c_1 => ?_) (fun c_1 => ?_)
        · exact nxt d u H locs ls (relS_up hR) hP hD hS hl
        · exact absurd (lc_eq.mpr rfl) c_1
      have n_0 := lv_neT (a := 0) k_0 (by decide)
      have n_1 := lv_neT (a := 1) k_1 (by decide)
      have n_2 := lv_neT (a := 2) k_2 (by decide)
      have n_3 := lv_neT (a := 3) k_3 (by decide)
      have n_4 := lv_neT (a := 4) k_4 (by decide)
      have n_5 := lv_neT (a := 5) k_5 (by decide)
      have n_6 := lv_neT (a := 6) k_6 (by decide)
      have n_7 := lv_neT (a := 7) k_7 (by decide)
      have n_8 := lv_neT (a := 8) k_8 (by decide)
      have n_9 := lv_neT (a := 9) k_9 (by decide)
      have n_10 := lv_neT (a := 10) k_10 (by decide)
      have n_11 := lv_neT (a := 11) k_11 (by decide)
      refine lv_tableOut (tgt := 527) hx hb d_Law_law_32 (by omega) (by decide) ?_
      exact nxt d u H locs ls (relS_up hR) hP hD hS hl
