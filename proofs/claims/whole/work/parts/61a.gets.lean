/-! getters behind setters -/
theorem G_inSize_cs_inB (d : CS) (v : Nat → Int32) : cg_inSize (cs_inB d v) = cg_inSize d := rfl
theorem G_inSize_cs_outSize (d : CS) (v : Int32) : cg_inSize (cs_outSize d v) = cg_inSize d := rfl
theorem G_inSize_cs_outB (d : CS) (v : Nat → Int32) : cg_inSize (cs_outB d v) = cg_inSize d := rfl
theorem G_inSize_cs_rqType (d : CS) (v : Int32) : cg_inSize (cs_rqType d v) = cg_inSize d := rfl
theorem G_inSize_cs_rqMap (d : CS) (v : Int64) : cg_inSize (cs_rqMap d v) = cg_inSize d := rfl
theorem G_inSize_cs_rqCard (d : CS) (v : Int64) : cg_inSize (cs_rqCard d v) = cg_inSize d := rfl
theorem G_inSize_cs_rqSort (d : CS) (v : Int32) : cg_inSize (cs_rqSort d v) = cg_inSize d := rfl
theorem G_inSize_cs_rqAmount (d : CS) (v : Int64) : cg_inSize (cs_rqAmount d v) = cg_inSize d := rfl
theorem G_inSize_cs_rqTrace (d : CS) (v : Int32) : cg_inSize (cs_rqTrace d v) = cg_inSize d := rfl
theorem G_inSize_cs_rqTerm (d : CS) (v : Int32) : cg_inSize (cs_rqTerm d v) = cg_inSize d := rfl
theorem G_inSize_cs_rqStart (d : CS) (v : Int32) : cg_inSize (cs_rqStart d v) = cg_inSize d := rfl
theorem G_inSize_cs_rqOrig (d : CS) (v : Int32) : cg_inSize (cs_rqOrig d v) = cg_inSize d := rfl
theorem G_inSize_cs_rdPlace (d : CS) (v : Int32) : cg_inSize (cs_rdPlace d v) = cg_inSize d := rfl
theorem G_inSize_cs_rdGood (d : CS) (v : Int32) : cg_inSize (cs_rdGood d v) = cg_inSize d := rfl
theorem G_inSize_cs_cCount (d : CS) (v : Int32) : cg_inSize (cs_cCount d v) = cg_inSize d := rfl
theorem G_inSize_cs_accs (d : CS) (v : Nat → Option Nat) : cg_inSize (cs_accs d v) = cg_inSize d := rfl
theorem G_inSize_cs_jSize (d : CS) (v : Int32) : cg_inSize (cs_jSize d v) = cg_inSize d := rfl
theorem G_inSize_cs_jTime (d : CS) (v : Int64) : cg_inSize (cs_jTime d v) = cg_inSize d := rfl
theorem G_inSize_cs_lines (d : CS) (v : Nat → Option Nat) : cg_inSize (cs_lines d v) = cg_inSize d := rfl
theorem G_inSize_cs_setSum (d : CS) (v : Int64) : cg_inSize (cs_setSum d v) = cg_inSize d := rfl
theorem G_inSize_cs_setNow (d : CS) (v : Int64) : cg_inSize (cs_setNow d v) = cg_inSize d := rfl
theorem G_inSize_cs_acc (d : CS) (v : Nat → CA) : cg_inSize (cs_acc d v) = cg_inSize d := rfl
theorem G_inSize_cs_ent (d : CS) (v : Nat → CE) : cg_inSize (cs_ent d v) = cg_inSize d := rfl
theorem G_inSize_acc_set_card (d : CS) (a : Nat) (v : Int64) : cg_inSize (acc_set_card d a v) = cg_inSize d := rfl
theorem G_inSize_acc_set_bal (d : CS) (a : Nat) (v : Int64) : cg_inSize (acc_set_bal d a v) = cg_inSize d := rfl
theorem G_inSize_ent_set_type (d : CS) (a : Nat) (v : Int32) : cg_inSize (ent_set_type d a v) = cg_inSize d := rfl
theorem G_inSize_ent_set_term (d : CS) (a : Nat) (v : Int32) : cg_inSize (ent_set_term d a v) = cg_inSize d := rfl
theorem G_inSize_ent_set_trace (d : CS) (a : Nat) (v : Int32) : cg_inSize (ent_set_trace d a v) = cg_inSize d := rfl
theorem G_inSize_ent_set_card (d : CS) (a : Nat) (v : Int64) : cg_inSize (ent_set_card d a v) = cg_inSize d := rfl
theorem G_inSize_ent_set_kind (d : CS) (a : Nat) (v : Int32) : cg_inSize (ent_set_kind d a v) = cg_inSize d := rfl
theorem G_inSize_ent_set_amount (d : CS) (a : Nat) (v : Int64) : cg_inSize (ent_set_amount d a v) = cg_inSize d := rfl
theorem G_inSize_ent_set_answer (d : CS) (a : Nat) (v : Int32) : cg_inSize (ent_set_answer d a v) = cg_inSize d := rfl
theorem G_inSize_ent_set_state (d : CS) (a : Nat) (v : Int32) : cg_inSize (ent_set_state d a v) = cg_inSize d := rfl
theorem G_inSize_ent_set_made (d : CS) (a : Nat) (v : Int64) : cg_inSize (ent_set_made d a v) = cg_inSize d := rfl
theorem G_inB_cs_inSize (d : CS) (v : Int32) : cg_inB (cs_inSize d v) = cg_inB d := rfl
theorem G_inB_cs_outSize (d : CS) (v : Int32) : cg_inB (cs_outSize d v) = cg_inB d := rfl
theorem G_inB_cs_outB (d : CS) (v : Nat → Int32) : cg_inB (cs_outB d v) = cg_inB d := rfl
theorem G_inB_cs_rqType (d : CS) (v : Int32) : cg_inB (cs_rqType d v) = cg_inB d := rfl
theorem G_inB_cs_rqMap (d : CS) (v : Int64) : cg_inB (cs_rqMap d v) = cg_inB d := rfl
theorem G_inB_cs_rqCard (d : CS) (v : Int64) : cg_inB (cs_rqCard d v) = cg_inB d := rfl
theorem G_inB_cs_rqSort (d : CS) (v : Int32) : cg_inB (cs_rqSort d v) = cg_inB d := rfl
theorem G_inB_cs_rqAmount (d : CS) (v : Int64) : cg_inB (cs_rqAmount d v) = cg_inB d := rfl
theorem G_inB_cs_rqTrace (d : CS) (v : Int32) : cg_inB (cs_rqTrace d v) = cg_inB d := rfl
theorem G_inB_cs_rqTerm (d : CS) (v : Int32) : cg_inB (cs_rqTerm d v) = cg_inB d := rfl
theorem G_inB_cs_rqStart (d : CS) (v : Int32) : cg_inB (cs_rqStart d v) = cg_inB d := rfl
theorem G_inB_cs_rqOrig (d : CS) (v : Int32) : cg_inB (cs_rqOrig d v) = cg_inB d := rfl
theorem G_inB_cs_rdPlace (d : CS) (v : Int32) : cg_inB (cs_rdPlace d v) = cg_inB d := rfl
theorem G_inB_cs_rdGood (d : CS) (v : Int32) : cg_inB (cs_rdGood d v) = cg_inB d := rfl
theorem G_inB_cs_cCount (d : CS) (v : Int32) : cg_inB (cs_cCount d v) = cg_inB d := rfl
theorem G_inB_cs_accs (d : CS) (v : Nat → Option Nat) : cg_inB (cs_accs d v) = cg_inB d := rfl
theorem G_inB_cs_jSize (d : CS) (v : Int32) : cg_inB (cs_jSize d v) = cg_inB d := rfl
theorem G_inB_cs_jTime (d : CS) (v : Int64) : cg_inB (cs_jTime d v) = cg_inB d := rfl
theorem G_inB_cs_lines (d : CS) (v : Nat → Option Nat) : cg_inB (cs_lines d v) = cg_inB d := rfl
theorem G_inB_cs_setSum (d : CS) (v : Int64) : cg_inB (cs_setSum d v) = cg_inB d := rfl
theorem G_inB_cs_setNow (d : CS) (v : Int64) : cg_inB (cs_setNow d v) = cg_inB d := rfl
theorem G_inB_cs_acc (d : CS) (v : Nat → CA) : cg_inB (cs_acc d v) = cg_inB d := rfl
theorem G_inB_cs_ent (d : CS) (v : Nat → CE) : cg_inB (cs_ent d v) = cg_inB d := rfl
theorem G_inB_acc_set_card (d : CS) (a : Nat) (v : Int64) : cg_inB (acc_set_card d a v) = cg_inB d := rfl
theorem G_inB_acc_set_bal (d : CS) (a : Nat) (v : Int64) : cg_inB (acc_set_bal d a v) = cg_inB d := rfl
theorem G_inB_ent_set_type (d : CS) (a : Nat) (v : Int32) : cg_inB (ent_set_type d a v) = cg_inB d := rfl
theorem G_inB_ent_set_term (d : CS) (a : Nat) (v : Int32) : cg_inB (ent_set_term d a v) = cg_inB d := rfl
theorem G_inB_ent_set_trace (d : CS) (a : Nat) (v : Int32) : cg_inB (ent_set_trace d a v) = cg_inB d := rfl
theorem G_inB_ent_set_card (d : CS) (a : Nat) (v : Int64) : cg_inB (ent_set_card d a v) = cg_inB d := rfl
theorem G_inB_ent_set_kind (d : CS) (a : Nat) (v : Int32) : cg_inB (ent_set_kind d a v) = cg_inB d := rfl
theorem G_inB_ent_set_amount (d : CS) (a : Nat) (v : Int64) : cg_inB (ent_set_amount d a v) = cg_inB d := rfl
theorem G_inB_ent_set_answer (d : CS) (a : Nat) (v : Int32) : cg_inB (ent_set_answer d a v) = cg_inB d := rfl
theorem G_inB_ent_set_state (d : CS) (a : Nat) (v : Int32) : cg_inB (ent_set_state d a v) = cg_inB d := rfl
theorem G_inB_ent_set_made (d : CS) (a : Nat) (v : Int64) : cg_inB (ent_set_made d a v) = cg_inB d := rfl
theorem G_outSize_cs_inSize (d : CS) (v : Int32) : cg_outSize (cs_inSize d v) = cg_outSize d := rfl
theorem G_outSize_cs_inB (d : CS) (v : Nat → Int32) : cg_outSize (cs_inB d v) = cg_outSize d := rfl
theorem G_outSize_cs_outB (d : CS) (v : Nat → Int32) : cg_outSize (cs_outB d v) = cg_outSize d := rfl
theorem G_outSize_cs_rqType (d : CS) (v : Int32) : cg_outSize (cs_rqType d v) = cg_outSize d := rfl
theorem G_outSize_cs_rqMap (d : CS) (v : Int64) : cg_outSize (cs_rqMap d v) = cg_outSize d := rfl
theorem G_outSize_cs_rqCard (d : CS) (v : Int64) : cg_outSize (cs_rqCard d v) = cg_outSize d := rfl
theorem G_outSize_cs_rqSort (d : CS) (v : Int32) : cg_outSize (cs_rqSort d v) = cg_outSize d := rfl
theorem G_outSize_cs_rqAmount (d : CS) (v : Int64) : cg_outSize (cs_rqAmount d v) = cg_outSize d := rfl
theorem G_outSize_cs_rqTrace (d : CS) (v : Int32) : cg_outSize (cs_rqTrace d v) = cg_outSize d := rfl
theorem G_outSize_cs_rqTerm (d : CS) (v : Int32) : cg_outSize (cs_rqTerm d v) = cg_outSize d := rfl
theorem G_outSize_cs_rqStart (d : CS) (v : Int32) : cg_outSize (cs_rqStart d v) = cg_outSize d := rfl
theorem G_outSize_cs_rqOrig (d : CS) (v : Int32) : cg_outSize (cs_rqOrig d v) = cg_outSize d := rfl
theorem G_outSize_cs_rdPlace (d : CS) (v : Int32) : cg_outSize (cs_rdPlace d v) = cg_outSize d := rfl
theorem G_outSize_cs_rdGood (d : CS) (v : Int32) : cg_outSize (cs_rdGood d v) = cg_outSize d := rfl
theorem G_outSize_cs_cCount (d : CS) (v : Int32) : cg_outSize (cs_cCount d v) = cg_outSize d := rfl
theorem G_outSize_cs_accs (d : CS) (v : Nat → Option Nat) : cg_outSize (cs_accs d v) = cg_outSize d := rfl
theorem G_outSize_cs_jSize (d : CS) (v : Int32) : cg_outSize (cs_jSize d v) = cg_outSize d := rfl
theorem G_outSize_cs_jTime (d : CS) (v : Int64) : cg_outSize (cs_jTime d v) = cg_outSize d := rfl
theorem G_outSize_cs_lines (d : CS) (v : Nat → Option Nat) : cg_outSize (cs_lines d v) = cg_outSize d := rfl
theorem G_outSize_cs_setSum (d : CS) (v : Int64) : cg_outSize (cs_setSum d v) = cg_outSize d := rfl
theorem G_outSize_cs_setNow (d : CS) (v : Int64) : cg_outSize (cs_setNow d v) = cg_outSize d := rfl
theorem G_outSize_cs_acc (d : CS) (v : Nat → CA) : cg_outSize (cs_acc d v) = cg_outSize d := rfl
theorem G_outSize_cs_ent (d : CS) (v : Nat → CE) : cg_outSize (cs_ent d v) = cg_outSize d := rfl
theorem G_outSize_acc_set_card (d : CS) (a : Nat) (v : Int64) : cg_outSize (acc_set_card d a v) = cg_outSize d := rfl
theorem G_outSize_acc_set_bal (d : CS) (a : Nat) (v : Int64) : cg_outSize (acc_set_bal d a v) = cg_outSize d := rfl
theorem G_outSize_ent_set_type (d : CS) (a : Nat) (v : Int32) : cg_outSize (ent_set_type d a v) = cg_outSize d := rfl
theorem G_outSize_ent_set_term (d : CS) (a : Nat) (v : Int32) : cg_outSize (ent_set_term d a v) = cg_outSize d := rfl
theorem G_outSize_ent_set_trace (d : CS) (a : Nat) (v : Int32) : cg_outSize (ent_set_trace d a v) = cg_outSize d := rfl
theorem G_outSize_ent_set_card (d : CS) (a : Nat) (v : Int64) : cg_outSize (ent_set_card d a v) = cg_outSize d := rfl
theorem G_outSize_ent_set_kind (d : CS) (a : Nat) (v : Int32) : cg_outSize (ent_set_kind d a v) = cg_outSize d := rfl
theorem G_outSize_ent_set_amount (d : CS) (a : Nat) (v : Int64) : cg_outSize (ent_set_amount d a v) = cg_outSize d := rfl
theorem G_outSize_ent_set_answer (d : CS) (a : Nat) (v : Int32) : cg_outSize (ent_set_answer d a v) = cg_outSize d := rfl
theorem G_outSize_ent_set_state (d : CS) (a : Nat) (v : Int32) : cg_outSize (ent_set_state d a v) = cg_outSize d := rfl
theorem G_outSize_ent_set_made (d : CS) (a : Nat) (v : Int64) : cg_outSize (ent_set_made d a v) = cg_outSize d := rfl
theorem G_outB_cs_inSize (d : CS) (v : Int32) : cg_outB (cs_inSize d v) = cg_outB d := rfl
theorem G_outB_cs_inB (d : CS) (v : Nat → Int32) : cg_outB (cs_inB d v) = cg_outB d := rfl
theorem G_outB_cs_outSize (d : CS) (v : Int32) : cg_outB (cs_outSize d v) = cg_outB d := rfl
theorem G_outB_cs_rqType (d : CS) (v : Int32) : cg_outB (cs_rqType d v) = cg_outB d := rfl
theorem G_outB_cs_rqMap (d : CS) (v : Int64) : cg_outB (cs_rqMap d v) = cg_outB d := rfl
theorem G_outB_cs_rqCard (d : CS) (v : Int64) : cg_outB (cs_rqCard d v) = cg_outB d := rfl
theorem G_outB_cs_rqSort (d : CS) (v : Int32) : cg_outB (cs_rqSort d v) = cg_outB d := rfl
theorem G_outB_cs_rqAmount (d : CS) (v : Int64) : cg_outB (cs_rqAmount d v) = cg_outB d := rfl
theorem G_outB_cs_rqTrace (d : CS) (v : Int32) : cg_outB (cs_rqTrace d v) = cg_outB d := rfl
theorem G_outB_cs_rqTerm (d : CS) (v : Int32) : cg_outB (cs_rqTerm d v) = cg_outB d := rfl
theorem G_outB_cs_rqStart (d : CS) (v : Int32) : cg_outB (cs_rqStart d v) = cg_outB d := rfl
theorem G_outB_cs_rqOrig (d : CS) (v : Int32) : cg_outB (cs_rqOrig d v) = cg_outB d := rfl
theorem G_outB_cs_rdPlace (d : CS) (v : Int32) : cg_outB (cs_rdPlace d v) = cg_outB d := rfl
theorem G_outB_cs_rdGood (d : CS) (v : Int32) : cg_outB (cs_rdGood d v) = cg_outB d := rfl
theorem G_outB_cs_cCount (d : CS) (v : Int32) : cg_outB (cs_cCount d v) = cg_outB d := rfl
theorem G_outB_cs_accs (d : CS) (v : Nat → Option Nat) : cg_outB (cs_accs d v) = cg_outB d := rfl
theorem G_outB_cs_jSize (d : CS) (v : Int32) : cg_outB (cs_jSize d v) = cg_outB d := rfl
theorem G_outB_cs_jTime (d : CS) (v : Int64) : cg_outB (cs_jTime d v) = cg_outB d := rfl
theorem G_outB_cs_lines (d : CS) (v : Nat → Option Nat) : cg_outB (cs_lines d v) = cg_outB d := rfl
theorem G_outB_cs_setSum (d : CS) (v : Int64) : cg_outB (cs_setSum d v) = cg_outB d := rfl
theorem G_outB_cs_setNow (d : CS) (v : Int64) : cg_outB (cs_setNow d v) = cg_outB d := rfl
theorem G_outB_cs_acc (d : CS) (v : Nat → CA) : cg_outB (cs_acc d v) = cg_outB d := rfl
theorem G_outB_cs_ent (d : CS) (v : Nat → CE) : cg_outB (cs_ent d v) = cg_outB d := rfl
theorem G_outB_acc_set_card (d : CS) (a : Nat) (v : Int64) : cg_outB (acc_set_card d a v) = cg_outB d := rfl
theorem G_outB_acc_set_bal (d : CS) (a : Nat) (v : Int64) : cg_outB (acc_set_bal d a v) = cg_outB d := rfl
theorem G_outB_ent_set_type (d : CS) (a : Nat) (v : Int32) : cg_outB (ent_set_type d a v) = cg_outB d := rfl
theorem G_outB_ent_set_term (d : CS) (a : Nat) (v : Int32) : cg_outB (ent_set_term d a v) = cg_outB d := rfl
theorem G_outB_ent_set_trace (d : CS) (a : Nat) (v : Int32) : cg_outB (ent_set_trace d a v) = cg_outB d := rfl
theorem G_outB_ent_set_card (d : CS) (a : Nat) (v : Int64) : cg_outB (ent_set_card d a v) = cg_outB d := rfl
theorem G_outB_ent_set_kind (d : CS) (a : Nat) (v : Int32) : cg_outB (ent_set_kind d a v) = cg_outB d := rfl
theorem G_outB_ent_set_amount (d : CS) (a : Nat) (v : Int64) : cg_outB (ent_set_amount d a v) = cg_outB d := rfl
theorem G_outB_ent_set_answer (d : CS) (a : Nat) (v : Int32) : cg_outB (ent_set_answer d a v) = cg_outB d := rfl
theorem G_outB_ent_set_state (d : CS) (a : Nat) (v : Int32) : cg_outB (ent_set_state d a v) = cg_outB d := rfl
theorem G_outB_ent_set_made (d : CS) (a : Nat) (v : Int64) : cg_outB (ent_set_made d a v) = cg_outB d := rfl
theorem G_rqType_cs_inSize (d : CS) (v : Int32) : cg_rqType (cs_inSize d v) = cg_rqType d := rfl
theorem G_rqType_cs_inB (d : CS) (v : Nat → Int32) : cg_rqType (cs_inB d v) = cg_rqType d := rfl
theorem G_rqType_cs_outSize (d : CS) (v : Int32) : cg_rqType (cs_outSize d v) = cg_rqType d := rfl
theorem G_rqType_cs_outB (d : CS) (v : Nat → Int32) : cg_rqType (cs_outB d v) = cg_rqType d := rfl
theorem G_rqType_cs_rqMap (d : CS) (v : Int64) : cg_rqType (cs_rqMap d v) = cg_rqType d := rfl
theorem G_rqType_cs_rqCard (d : CS) (v : Int64) : cg_rqType (cs_rqCard d v) = cg_rqType d := rfl
theorem G_rqType_cs_rqSort (d : CS) (v : Int32) : cg_rqType (cs_rqSort d v) = cg_rqType d := rfl
theorem G_rqType_cs_rqAmount (d : CS) (v : Int64) : cg_rqType (cs_rqAmount d v) = cg_rqType d := rfl
theorem G_rqType_cs_rqTrace (d : CS) (v : Int32) : cg_rqType (cs_rqTrace d v) = cg_rqType d := rfl
theorem G_rqType_cs_rqTerm (d : CS) (v : Int32) : cg_rqType (cs_rqTerm d v) = cg_rqType d := rfl
theorem G_rqType_cs_rqStart (d : CS) (v : Int32) : cg_rqType (cs_rqStart d v) = cg_rqType d := rfl
theorem G_rqType_cs_rqOrig (d : CS) (v : Int32) : cg_rqType (cs_rqOrig d v) = cg_rqType d := rfl
theorem G_rqType_cs_rdPlace (d : CS) (v : Int32) : cg_rqType (cs_rdPlace d v) = cg_rqType d := rfl
theorem G_rqType_cs_rdGood (d : CS) (v : Int32) : cg_rqType (cs_rdGood d v) = cg_rqType d := rfl
theorem G_rqType_cs_cCount (d : CS) (v : Int32) : cg_rqType (cs_cCount d v) = cg_rqType d := rfl
theorem G_rqType_cs_accs (d : CS) (v : Nat → Option Nat) : cg_rqType (cs_accs d v) = cg_rqType d := rfl
theorem G_rqType_cs_jSize (d : CS) (v : Int32) : cg_rqType (cs_jSize d v) = cg_rqType d := rfl
theorem G_rqType_cs_jTime (d : CS) (v : Int64) : cg_rqType (cs_jTime d v) = cg_rqType d := rfl
theorem G_rqType_cs_lines (d : CS) (v : Nat → Option Nat) : cg_rqType (cs_lines d v) = cg_rqType d := rfl
theorem G_rqType_cs_setSum (d : CS) (v : Int64) : cg_rqType (cs_setSum d v) = cg_rqType d := rfl
theorem G_rqType_cs_setNow (d : CS) (v : Int64) : cg_rqType (cs_setNow d v) = cg_rqType d := rfl
theorem G_rqType_cs_acc (d : CS) (v : Nat → CA) : cg_rqType (cs_acc d v) = cg_rqType d := rfl
theorem G_rqType_cs_ent (d : CS) (v : Nat → CE) : cg_rqType (cs_ent d v) = cg_rqType d := rfl
theorem G_rqType_acc_set_card (d : CS) (a : Nat) (v : Int64) : cg_rqType (acc_set_card d a v) = cg_rqType d := rfl
theorem G_rqType_acc_set_bal (d : CS) (a : Nat) (v : Int64) : cg_rqType (acc_set_bal d a v) = cg_rqType d := rfl
theorem G_rqType_ent_set_type (d : CS) (a : Nat) (v : Int32) : cg_rqType (ent_set_type d a v) = cg_rqType d := rfl
theorem G_rqType_ent_set_term (d : CS) (a : Nat) (v : Int32) : cg_rqType (ent_set_term d a v) = cg_rqType d := rfl
theorem G_rqType_ent_set_trace (d : CS) (a : Nat) (v : Int32) : cg_rqType (ent_set_trace d a v) = cg_rqType d := rfl
theorem G_rqType_ent_set_card (d : CS) (a : Nat) (v : Int64) : cg_rqType (ent_set_card d a v) = cg_rqType d := rfl
theorem G_rqType_ent_set_kind (d : CS) (a : Nat) (v : Int32) : cg_rqType (ent_set_kind d a v) = cg_rqType d := rfl
theorem G_rqType_ent_set_amount (d : CS) (a : Nat) (v : Int64) : cg_rqType (ent_set_amount d a v) = cg_rqType d := rfl
theorem G_rqType_ent_set_answer (d : CS) (a : Nat) (v : Int32) : cg_rqType (ent_set_answer d a v) = cg_rqType d := rfl
theorem G_rqType_ent_set_state (d : CS) (a : Nat) (v : Int32) : cg_rqType (ent_set_state d a v) = cg_rqType d := rfl
theorem G_rqType_ent_set_made (d : CS) (a : Nat) (v : Int64) : cg_rqType (ent_set_made d a v) = cg_rqType d := rfl
theorem G_rqMap_cs_inSize (d : CS) (v : Int32) : cg_rqMap (cs_inSize d v) = cg_rqMap d := rfl
theorem G_rqMap_cs_inB (d : CS) (v : Nat → Int32) : cg_rqMap (cs_inB d v) = cg_rqMap d := rfl
theorem G_rqMap_cs_outSize (d : CS) (v : Int32) : cg_rqMap (cs_outSize d v) = cg_rqMap d := rfl
theorem G_rqMap_cs_outB (d : CS) (v : Nat → Int32) : cg_rqMap (cs_outB d v) = cg_rqMap d := rfl
theorem G_rqMap_cs_rqType (d : CS) (v : Int32) : cg_rqMap (cs_rqType d v) = cg_rqMap d := rfl
theorem G_rqMap_cs_rqCard (d : CS) (v : Int64) : cg_rqMap (cs_rqCard d v) = cg_rqMap d := rfl
theorem G_rqMap_cs_rqSort (d : CS) (v : Int32) : cg_rqMap (cs_rqSort d v) = cg_rqMap d := rfl
theorem G_rqMap_cs_rqAmount (d : CS) (v : Int64) : cg_rqMap (cs_rqAmount d v) = cg_rqMap d := rfl
theorem G_rqMap_cs_rqTrace (d : CS) (v : Int32) : cg_rqMap (cs_rqTrace d v) = cg_rqMap d := rfl
theorem G_rqMap_cs_rqTerm (d : CS) (v : Int32) : cg_rqMap (cs_rqTerm d v) = cg_rqMap d := rfl
theorem G_rqMap_cs_rqStart (d : CS) (v : Int32) : cg_rqMap (cs_rqStart d v) = cg_rqMap d := rfl
theorem G_rqMap_cs_rqOrig (d : CS) (v : Int32) : cg_rqMap (cs_rqOrig d v) = cg_rqMap d := rfl
theorem G_rqMap_cs_rdPlace (d : CS) (v : Int32) : cg_rqMap (cs_rdPlace d v) = cg_rqMap d := rfl
theorem G_rqMap_cs_rdGood (d : CS) (v : Int32) : cg_rqMap (cs_rdGood d v) = cg_rqMap d := rfl
theorem G_rqMap_cs_cCount (d : CS) (v : Int32) : cg_rqMap (cs_cCount d v) = cg_rqMap d := rfl
theorem G_rqMap_cs_accs (d : CS) (v : Nat → Option Nat) : cg_rqMap (cs_accs d v) = cg_rqMap d := rfl
theorem G_rqMap_cs_jSize (d : CS) (v : Int32) : cg_rqMap (cs_jSize d v) = cg_rqMap d := rfl
theorem G_rqMap_cs_jTime (d : CS) (v : Int64) : cg_rqMap (cs_jTime d v) = cg_rqMap d := rfl
theorem G_rqMap_cs_lines (d : CS) (v : Nat → Option Nat) : cg_rqMap (cs_lines d v) = cg_rqMap d := rfl
theorem G_rqMap_cs_setSum (d : CS) (v : Int64) : cg_rqMap (cs_setSum d v) = cg_rqMap d := rfl
theorem G_rqMap_cs_setNow (d : CS) (v : Int64) : cg_rqMap (cs_setNow d v) = cg_rqMap d := rfl
theorem G_rqMap_cs_acc (d : CS) (v : Nat → CA) : cg_rqMap (cs_acc d v) = cg_rqMap d := rfl
theorem G_rqMap_cs_ent (d : CS) (v : Nat → CE) : cg_rqMap (cs_ent d v) = cg_rqMap d := rfl
theorem G_rqMap_acc_set_card (d : CS) (a : Nat) (v : Int64) : cg_rqMap (acc_set_card d a v) = cg_rqMap d := rfl
theorem G_rqMap_acc_set_bal (d : CS) (a : Nat) (v : Int64) : cg_rqMap (acc_set_bal d a v) = cg_rqMap d := rfl
theorem G_rqMap_ent_set_type (d : CS) (a : Nat) (v : Int32) : cg_rqMap (ent_set_type d a v) = cg_rqMap d := rfl
theorem G_rqMap_ent_set_term (d : CS) (a : Nat) (v : Int32) : cg_rqMap (ent_set_term d a v) = cg_rqMap d := rfl
theorem G_rqMap_ent_set_trace (d : CS) (a : Nat) (v : Int32) : cg_rqMap (ent_set_trace d a v) = cg_rqMap d := rfl
theorem G_rqMap_ent_set_card (d : CS) (a : Nat) (v : Int64) : cg_rqMap (ent_set_card d a v) = cg_rqMap d := rfl
theorem G_rqMap_ent_set_kind (d : CS) (a : Nat) (v : Int32) : cg_rqMap (ent_set_kind d a v) = cg_rqMap d := rfl
theorem G_rqMap_ent_set_amount (d : CS) (a : Nat) (v : Int64) : cg_rqMap (ent_set_amount d a v) = cg_rqMap d := rfl
theorem G_rqMap_ent_set_answer (d : CS) (a : Nat) (v : Int32) : cg_rqMap (ent_set_answer d a v) = cg_rqMap d := rfl
theorem G_rqMap_ent_set_state (d : CS) (a : Nat) (v : Int32) : cg_rqMap (ent_set_state d a v) = cg_rqMap d := rfl
theorem G_rqMap_ent_set_made (d : CS) (a : Nat) (v : Int64) : cg_rqMap (ent_set_made d a v) = cg_rqMap d := rfl
theorem G_rqCard_cs_inSize (d : CS) (v : Int32) : cg_rqCard (cs_inSize d v) = cg_rqCard d := rfl
theorem G_rqCard_cs_inB (d : CS) (v : Nat → Int32) : cg_rqCard (cs_inB d v) = cg_rqCard d := rfl
theorem G_rqCard_cs_outSize (d : CS) (v : Int32) : cg_rqCard (cs_outSize d v) = cg_rqCard d := rfl
theorem G_rqCard_cs_outB (d : CS) (v : Nat → Int32) : cg_rqCard (cs_outB d v) = cg_rqCard d := rfl
theorem G_rqCard_cs_rqType (d : CS) (v : Int32) : cg_rqCard (cs_rqType d v) = cg_rqCard d := rfl
theorem G_rqCard_cs_rqMap (d : CS) (v : Int64) : cg_rqCard (cs_rqMap d v) = cg_rqCard d := rfl
theorem G_rqCard_cs_rqSort (d : CS) (v : Int32) : cg_rqCard (cs_rqSort d v) = cg_rqCard d := rfl
theorem G_rqCard_cs_rqAmount (d : CS) (v : Int64) : cg_rqCard (cs_rqAmount d v) = cg_rqCard d := rfl
theorem G_rqCard_cs_rqTrace (d : CS) (v : Int32) : cg_rqCard (cs_rqTrace d v) = cg_rqCard d := rfl
theorem G_rqCard_cs_rqTerm (d : CS) (v : Int32) : cg_rqCard (cs_rqTerm d v) = cg_rqCard d := rfl
theorem G_rqCard_cs_rqStart (d : CS) (v : Int32) : cg_rqCard (cs_rqStart d v) = cg_rqCard d := rfl
theorem G_rqCard_cs_rqOrig (d : CS) (v : Int32) : cg_rqCard (cs_rqOrig d v) = cg_rqCard d := rfl
theorem G_rqCard_cs_rdPlace (d : CS) (v : Int32) : cg_rqCard (cs_rdPlace d v) = cg_rqCard d := rfl
theorem G_rqCard_cs_rdGood (d : CS) (v : Int32) : cg_rqCard (cs_rdGood d v) = cg_rqCard d := rfl
theorem G_rqCard_cs_cCount (d : CS) (v : Int32) : cg_rqCard (cs_cCount d v) = cg_rqCard d := rfl
theorem G_rqCard_cs_accs (d : CS) (v : Nat → Option Nat) : cg_rqCard (cs_accs d v) = cg_rqCard d := rfl
theorem G_rqCard_cs_jSize (d : CS) (v : Int32) : cg_rqCard (cs_jSize d v) = cg_rqCard d := rfl
theorem G_rqCard_cs_jTime (d : CS) (v : Int64) : cg_rqCard (cs_jTime d v) = cg_rqCard d := rfl
theorem G_rqCard_cs_lines (d : CS) (v : Nat → Option Nat) : cg_rqCard (cs_lines d v) = cg_rqCard d := rfl
theorem G_rqCard_cs_setSum (d : CS) (v : Int64) : cg_rqCard (cs_setSum d v) = cg_rqCard d := rfl
theorem G_rqCard_cs_setNow (d : CS) (v : Int64) : cg_rqCard (cs_setNow d v) = cg_rqCard d := rfl
theorem G_rqCard_cs_acc (d : CS) (v : Nat → CA) : cg_rqCard (cs_acc d v) = cg_rqCard d := rfl
theorem G_rqCard_cs_ent (d : CS) (v : Nat → CE) : cg_rqCard (cs_ent d v) = cg_rqCard d := rfl
theorem G_rqCard_acc_set_card (d : CS) (a : Nat) (v : Int64) : cg_rqCard (acc_set_card d a v) = cg_rqCard d := rfl
theorem G_rqCard_acc_set_bal (d : CS) (a : Nat) (v : Int64) : cg_rqCard (acc_set_bal d a v) = cg_rqCard d := rfl
theorem G_rqCard_ent_set_type (d : CS) (a : Nat) (v : Int32) : cg_rqCard (ent_set_type d a v) = cg_rqCard d := rfl
theorem G_rqCard_ent_set_term (d : CS) (a : Nat) (v : Int32) : cg_rqCard (ent_set_term d a v) = cg_rqCard d := rfl
theorem G_rqCard_ent_set_trace (d : CS) (a : Nat) (v : Int32) : cg_rqCard (ent_set_trace d a v) = cg_rqCard d := rfl
theorem G_rqCard_ent_set_card (d : CS) (a : Nat) (v : Int64) : cg_rqCard (ent_set_card d a v) = cg_rqCard d := rfl
theorem G_rqCard_ent_set_kind (d : CS) (a : Nat) (v : Int32) : cg_rqCard (ent_set_kind d a v) = cg_rqCard d := rfl
theorem G_rqCard_ent_set_amount (d : CS) (a : Nat) (v : Int64) : cg_rqCard (ent_set_amount d a v) = cg_rqCard d := rfl
theorem G_rqCard_ent_set_answer (d : CS) (a : Nat) (v : Int32) : cg_rqCard (ent_set_answer d a v) = cg_rqCard d := rfl
theorem G_rqCard_ent_set_state (d : CS) (a : Nat) (v : Int32) : cg_rqCard (ent_set_state d a v) = cg_rqCard d := rfl
theorem G_rqCard_ent_set_made (d : CS) (a : Nat) (v : Int64) : cg_rqCard (ent_set_made d a v) = cg_rqCard d := rfl
theorem G_rqSort_cs_inSize (d : CS) (v : Int32) : cg_rqSort (cs_inSize d v) = cg_rqSort d := rfl
theorem G_rqSort_cs_inB (d : CS) (v : Nat → Int32) : cg_rqSort (cs_inB d v) = cg_rqSort d := rfl
theorem G_rqSort_cs_outSize (d : CS) (v : Int32) : cg_rqSort (cs_outSize d v) = cg_rqSort d := rfl
theorem G_rqSort_cs_outB (d : CS) (v : Nat → Int32) : cg_rqSort (cs_outB d v) = cg_rqSort d := rfl
theorem G_rqSort_cs_rqType (d : CS) (v : Int32) : cg_rqSort (cs_rqType d v) = cg_rqSort d := rfl
theorem G_rqSort_cs_rqMap (d : CS) (v : Int64) : cg_rqSort (cs_rqMap d v) = cg_rqSort d := rfl
theorem G_rqSort_cs_rqCard (d : CS) (v : Int64) : cg_rqSort (cs_rqCard d v) = cg_rqSort d := rfl
theorem G_rqSort_cs_rqAmount (d : CS) (v : Int64) : cg_rqSort (cs_rqAmount d v) = cg_rqSort d := rfl
theorem G_rqSort_cs_rqTrace (d : CS) (v : Int32) : cg_rqSort (cs_rqTrace d v) = cg_rqSort d := rfl
theorem G_rqSort_cs_rqTerm (d : CS) (v : Int32) : cg_rqSort (cs_rqTerm d v) = cg_rqSort d := rfl
theorem G_rqSort_cs_rqStart (d : CS) (v : Int32) : cg_rqSort (cs_rqStart d v) = cg_rqSort d := rfl
theorem G_rqSort_cs_rqOrig (d : CS) (v : Int32) : cg_rqSort (cs_rqOrig d v) = cg_rqSort d := rfl
theorem G_rqSort_cs_rdPlace (d : CS) (v : Int32) : cg_rqSort (cs_rdPlace d v) = cg_rqSort d := rfl
theorem G_rqSort_cs_rdGood (d : CS) (v : Int32) : cg_rqSort (cs_rdGood d v) = cg_rqSort d := rfl
theorem G_rqSort_cs_cCount (d : CS) (v : Int32) : cg_rqSort (cs_cCount d v) = cg_rqSort d := rfl
theorem G_rqSort_cs_accs (d : CS) (v : Nat → Option Nat) : cg_rqSort (cs_accs d v) = cg_rqSort d := rfl
theorem G_rqSort_cs_jSize (d : CS) (v : Int32) : cg_rqSort (cs_jSize d v) = cg_rqSort d := rfl
theorem G_rqSort_cs_jTime (d : CS) (v : Int64) : cg_rqSort (cs_jTime d v) = cg_rqSort d := rfl
theorem G_rqSort_cs_lines (d : CS) (v : Nat → Option Nat) : cg_rqSort (cs_lines d v) = cg_rqSort d := rfl
theorem G_rqSort_cs_setSum (d : CS) (v : Int64) : cg_rqSort (cs_setSum d v) = cg_rqSort d := rfl
theorem G_rqSort_cs_setNow (d : CS) (v : Int64) : cg_rqSort (cs_setNow d v) = cg_rqSort d := rfl
theorem G_rqSort_cs_acc (d : CS) (v : Nat → CA) : cg_rqSort (cs_acc d v) = cg_rqSort d := rfl
theorem G_rqSort_cs_ent (d : CS) (v : Nat → CE) : cg_rqSort (cs_ent d v) = cg_rqSort d := rfl
theorem G_rqSort_acc_set_card (d : CS) (a : Nat) (v : Int64) : cg_rqSort (acc_set_card d a v) = cg_rqSort d := rfl
theorem G_rqSort_acc_set_bal (d : CS) (a : Nat) (v : Int64) : cg_rqSort (acc_set_bal d a v) = cg_rqSort d := rfl
theorem G_rqSort_ent_set_type (d : CS) (a : Nat) (v : Int32) : cg_rqSort (ent_set_type d a v) = cg_rqSort d := rfl
theorem G_rqSort_ent_set_term (d : CS) (a : Nat) (v : Int32) : cg_rqSort (ent_set_term d a v) = cg_rqSort d := rfl
theorem G_rqSort_ent_set_trace (d : CS) (a : Nat) (v : Int32) : cg_rqSort (ent_set_trace d a v) = cg_rqSort d := rfl
theorem G_rqSort_ent_set_card (d : CS) (a : Nat) (v : Int64) : cg_rqSort (ent_set_card d a v) = cg_rqSort d := rfl
theorem G_rqSort_ent_set_kind (d : CS) (a : Nat) (v : Int32) : cg_rqSort (ent_set_kind d a v) = cg_rqSort d := rfl
theorem G_rqSort_ent_set_amount (d : CS) (a : Nat) (v : Int64) : cg_rqSort (ent_set_amount d a v) = cg_rqSort d := rfl
theorem G_rqSort_ent_set_answer (d : CS) (a : Nat) (v : Int32) : cg_rqSort (ent_set_answer d a v) = cg_rqSort d := rfl
theorem G_rqSort_ent_set_state (d : CS) (a : Nat) (v : Int32) : cg_rqSort (ent_set_state d a v) = cg_rqSort d := rfl
theorem G_rqSort_ent_set_made (d : CS) (a : Nat) (v : Int64) : cg_rqSort (ent_set_made d a v) = cg_rqSort d := rfl
theorem G_rqAmount_cs_inSize (d : CS) (v : Int32) : cg_rqAmount (cs_inSize d v) = cg_rqAmount d := rfl
theorem G_rqAmount_cs_inB (d : CS) (v : Nat → Int32) : cg_rqAmount (cs_inB d v) = cg_rqAmount d := rfl
theorem G_rqAmount_cs_outSize (d : CS) (v : Int32) : cg_rqAmount (cs_outSize d v) = cg_rqAmount d := rfl
theorem G_rqAmount_cs_outB (d : CS) (v : Nat → Int32) : cg_rqAmount (cs_outB d v) = cg_rqAmount d := rfl
theorem G_rqAmount_cs_rqType (d : CS) (v : Int32) : cg_rqAmount (cs_rqType d v) = cg_rqAmount d := rfl
theorem G_rqAmount_cs_rqMap (d : CS) (v : Int64) : cg_rqAmount (cs_rqMap d v) = cg_rqAmount d := rfl
theorem G_rqAmount_cs_rqCard (d : CS) (v : Int64) : cg_rqAmount (cs_rqCard d v) = cg_rqAmount d := rfl
theorem G_rqAmount_cs_rqSort (d : CS) (v : Int32) : cg_rqAmount (cs_rqSort d v) = cg_rqAmount d := rfl
theorem G_rqAmount_cs_rqTrace (d : CS) (v : Int32) : cg_rqAmount (cs_rqTrace d v) = cg_rqAmount d := rfl
theorem G_rqAmount_cs_rqTerm (d : CS) (v : Int32) : cg_rqAmount (cs_rqTerm d v) = cg_rqAmount d := rfl
theorem G_rqAmount_cs_rqStart (d : CS) (v : Int32) : cg_rqAmount (cs_rqStart d v) = cg_rqAmount d := rfl
theorem G_rqAmount_cs_rqOrig (d : CS) (v : Int32) : cg_rqAmount (cs_rqOrig d v) = cg_rqAmount d := rfl
theorem G_rqAmount_cs_rdPlace (d : CS) (v : Int32) : cg_rqAmount (cs_rdPlace d v) = cg_rqAmount d := rfl
theorem G_rqAmount_cs_rdGood (d : CS) (v : Int32) : cg_rqAmount (cs_rdGood d v) = cg_rqAmount d := rfl
theorem G_rqAmount_cs_cCount (d : CS) (v : Int32) : cg_rqAmount (cs_cCount d v) = cg_rqAmount d := rfl
theorem G_rqAmount_cs_accs (d : CS) (v : Nat → Option Nat) : cg_rqAmount (cs_accs d v) = cg_rqAmount d := rfl
theorem G_rqAmount_cs_jSize (d : CS) (v : Int32) : cg_rqAmount (cs_jSize d v) = cg_rqAmount d := rfl
theorem G_rqAmount_cs_jTime (d : CS) (v : Int64) : cg_rqAmount (cs_jTime d v) = cg_rqAmount d := rfl
theorem G_rqAmount_cs_lines (d : CS) (v : Nat → Option Nat) : cg_rqAmount (cs_lines d v) = cg_rqAmount d := rfl
theorem G_rqAmount_cs_setSum (d : CS) (v : Int64) : cg_rqAmount (cs_setSum d v) = cg_rqAmount d := rfl
theorem G_rqAmount_cs_setNow (d : CS) (v : Int64) : cg_rqAmount (cs_setNow d v) = cg_rqAmount d := rfl
theorem G_rqAmount_cs_acc (d : CS) (v : Nat → CA) : cg_rqAmount (cs_acc d v) = cg_rqAmount d := rfl
theorem G_rqAmount_cs_ent (d : CS) (v : Nat → CE) : cg_rqAmount (cs_ent d v) = cg_rqAmount d := rfl
theorem G_rqAmount_acc_set_card (d : CS) (a : Nat) (v : Int64) : cg_rqAmount (acc_set_card d a v) = cg_rqAmount d := rfl
theorem G_rqAmount_acc_set_bal (d : CS) (a : Nat) (v : Int64) : cg_rqAmount (acc_set_bal d a v) = cg_rqAmount d := rfl
theorem G_rqAmount_ent_set_type (d : CS) (a : Nat) (v : Int32) : cg_rqAmount (ent_set_type d a v) = cg_rqAmount d := rfl
theorem G_rqAmount_ent_set_term (d : CS) (a : Nat) (v : Int32) : cg_rqAmount (ent_set_term d a v) = cg_rqAmount d := rfl
theorem G_rqAmount_ent_set_trace (d : CS) (a : Nat) (v : Int32) : cg_rqAmount (ent_set_trace d a v) = cg_rqAmount d := rfl
theorem G_rqAmount_ent_set_card (d : CS) (a : Nat) (v : Int64) : cg_rqAmount (ent_set_card d a v) = cg_rqAmount d := rfl
theorem G_rqAmount_ent_set_kind (d : CS) (a : Nat) (v : Int32) : cg_rqAmount (ent_set_kind d a v) = cg_rqAmount d := rfl
theorem G_rqAmount_ent_set_amount (d : CS) (a : Nat) (v : Int64) : cg_rqAmount (ent_set_amount d a v) = cg_rqAmount d := rfl
theorem G_rqAmount_ent_set_answer (d : CS) (a : Nat) (v : Int32) : cg_rqAmount (ent_set_answer d a v) = cg_rqAmount d := rfl
theorem G_rqAmount_ent_set_state (d : CS) (a : Nat) (v : Int32) : cg_rqAmount (ent_set_state d a v) = cg_rqAmount d := rfl
theorem G_rqAmount_ent_set_made (d : CS) (a : Nat) (v : Int64) : cg_rqAmount (ent_set_made d a v) = cg_rqAmount d := rfl
theorem G_rqTrace_cs_inSize (d : CS) (v : Int32) : cg_rqTrace (cs_inSize d v) = cg_rqTrace d := rfl
theorem G_rqTrace_cs_inB (d : CS) (v : Nat → Int32) : cg_rqTrace (cs_inB d v) = cg_rqTrace d := rfl
theorem G_rqTrace_cs_outSize (d : CS) (v : Int32) : cg_rqTrace (cs_outSize d v) = cg_rqTrace d := rfl
theorem G_rqTrace_cs_outB (d : CS) (v : Nat → Int32) : cg_rqTrace (cs_outB d v) = cg_rqTrace d := rfl
theorem G_rqTrace_cs_rqType (d : CS) (v : Int32) : cg_rqTrace (cs_rqType d v) = cg_rqTrace d := rfl
theorem G_rqTrace_cs_rqMap (d : CS) (v : Int64) : cg_rqTrace (cs_rqMap d v) = cg_rqTrace d := rfl
theorem G_rqTrace_cs_rqCard (d : CS) (v : Int64) : cg_rqTrace (cs_rqCard d v) = cg_rqTrace d := rfl
theorem G_rqTrace_cs_rqSort (d : CS) (v : Int32) : cg_rqTrace (cs_rqSort d v) = cg_rqTrace d := rfl
theorem G_rqTrace_cs_rqAmount (d : CS) (v : Int64) : cg_rqTrace (cs_rqAmount d v) = cg_rqTrace d := rfl
theorem G_rqTrace_cs_rqTerm (d : CS) (v : Int32) : cg_rqTrace (cs_rqTerm d v) = cg_rqTrace d := rfl
theorem G_rqTrace_cs_rqStart (d : CS) (v : Int32) : cg_rqTrace (cs_rqStart d v) = cg_rqTrace d := rfl
theorem G_rqTrace_cs_rqOrig (d : CS) (v : Int32) : cg_rqTrace (cs_rqOrig d v) = cg_rqTrace d := rfl
theorem G_rqTrace_cs_rdPlace (d : CS) (v : Int32) : cg_rqTrace (cs_rdPlace d v) = cg_rqTrace d := rfl
theorem G_rqTrace_cs_rdGood (d : CS) (v : Int32) : cg_rqTrace (cs_rdGood d v) = cg_rqTrace d := rfl
theorem G_rqTrace_cs_cCount (d : CS) (v : Int32) : cg_rqTrace (cs_cCount d v) = cg_rqTrace d := rfl
theorem G_rqTrace_cs_accs (d : CS) (v : Nat → Option Nat) : cg_rqTrace (cs_accs d v) = cg_rqTrace d := rfl
theorem G_rqTrace_cs_jSize (d : CS) (v : Int32) : cg_rqTrace (cs_jSize d v) = cg_rqTrace d := rfl
theorem G_rqTrace_cs_jTime (d : CS) (v : Int64) : cg_rqTrace (cs_jTime d v) = cg_rqTrace d := rfl
theorem G_rqTrace_cs_lines (d : CS) (v : Nat → Option Nat) : cg_rqTrace (cs_lines d v) = cg_rqTrace d := rfl
theorem G_rqTrace_cs_setSum (d : CS) (v : Int64) : cg_rqTrace (cs_setSum d v) = cg_rqTrace d := rfl
theorem G_rqTrace_cs_setNow (d : CS) (v : Int64) : cg_rqTrace (cs_setNow d v) = cg_rqTrace d := rfl
theorem G_rqTrace_cs_acc (d : CS) (v : Nat → CA) : cg_rqTrace (cs_acc d v) = cg_rqTrace d := rfl
theorem G_rqTrace_cs_ent (d : CS) (v : Nat → CE) : cg_rqTrace (cs_ent d v) = cg_rqTrace d := rfl
theorem G_rqTrace_acc_set_card (d : CS) (a : Nat) (v : Int64) : cg_rqTrace (acc_set_card d a v) = cg_rqTrace d := rfl
theorem G_rqTrace_acc_set_bal (d : CS) (a : Nat) (v : Int64) : cg_rqTrace (acc_set_bal d a v) = cg_rqTrace d := rfl
theorem G_rqTrace_ent_set_type (d : CS) (a : Nat) (v : Int32) : cg_rqTrace (ent_set_type d a v) = cg_rqTrace d := rfl
theorem G_rqTrace_ent_set_term (d : CS) (a : Nat) (v : Int32) : cg_rqTrace (ent_set_term d a v) = cg_rqTrace d := rfl
theorem G_rqTrace_ent_set_trace (d : CS) (a : Nat) (v : Int32) : cg_rqTrace (ent_set_trace d a v) = cg_rqTrace d := rfl
theorem G_rqTrace_ent_set_card (d : CS) (a : Nat) (v : Int64) : cg_rqTrace (ent_set_card d a v) = cg_rqTrace d := rfl
theorem G_rqTrace_ent_set_kind (d : CS) (a : Nat) (v : Int32) : cg_rqTrace (ent_set_kind d a v) = cg_rqTrace d := rfl
theorem G_rqTrace_ent_set_amount (d : CS) (a : Nat) (v : Int64) : cg_rqTrace (ent_set_amount d a v) = cg_rqTrace d := rfl
theorem G_rqTrace_ent_set_answer (d : CS) (a : Nat) (v : Int32) : cg_rqTrace (ent_set_answer d a v) = cg_rqTrace d := rfl
theorem G_rqTrace_ent_set_state (d : CS) (a : Nat) (v : Int32) : cg_rqTrace (ent_set_state d a v) = cg_rqTrace d := rfl
theorem G_rqTrace_ent_set_made (d : CS) (a : Nat) (v : Int64) : cg_rqTrace (ent_set_made d a v) = cg_rqTrace d := rfl
theorem G_rqTerm_cs_inSize (d : CS) (v : Int32) : cg_rqTerm (cs_inSize d v) = cg_rqTerm d := rfl
theorem G_rqTerm_cs_inB (d : CS) (v : Nat → Int32) : cg_rqTerm (cs_inB d v) = cg_rqTerm d := rfl
theorem G_rqTerm_cs_outSize (d : CS) (v : Int32) : cg_rqTerm (cs_outSize d v) = cg_rqTerm d := rfl
theorem G_rqTerm_cs_outB (d : CS) (v : Nat → Int32) : cg_rqTerm (cs_outB d v) = cg_rqTerm d := rfl
theorem G_rqTerm_cs_rqType (d : CS) (v : Int32) : cg_rqTerm (cs_rqType d v) = cg_rqTerm d := rfl
theorem G_rqTerm_cs_rqMap (d : CS) (v : Int64) : cg_rqTerm (cs_rqMap d v) = cg_rqTerm d := rfl
theorem G_rqTerm_cs_rqCard (d : CS) (v : Int64) : cg_rqTerm (cs_rqCard d v) = cg_rqTerm d := rfl
theorem G_rqTerm_cs_rqSort (d : CS) (v : Int32) : cg_rqTerm (cs_rqSort d v) = cg_rqTerm d := rfl
theorem G_rqTerm_cs_rqAmount (d : CS) (v : Int64) : cg_rqTerm (cs_rqAmount d v) = cg_rqTerm d := rfl
theorem G_rqTerm_cs_rqTrace (d : CS) (v : Int32) : cg_rqTerm (cs_rqTrace d v) = cg_rqTerm d := rfl
theorem G_rqTerm_cs_rqStart (d : CS) (v : Int32) : cg_rqTerm (cs_rqStart d v) = cg_rqTerm d := rfl
theorem G_rqTerm_cs_rqOrig (d : CS) (v : Int32) : cg_rqTerm (cs_rqOrig d v) = cg_rqTerm d := rfl
theorem G_rqTerm_cs_rdPlace (d : CS) (v : Int32) : cg_rqTerm (cs_rdPlace d v) = cg_rqTerm d := rfl
theorem G_rqTerm_cs_rdGood (d : CS) (v : Int32) : cg_rqTerm (cs_rdGood d v) = cg_rqTerm d := rfl
theorem G_rqTerm_cs_cCount (d : CS) (v : Int32) : cg_rqTerm (cs_cCount d v) = cg_rqTerm d := rfl
theorem G_rqTerm_cs_accs (d : CS) (v : Nat → Option Nat) : cg_rqTerm (cs_accs d v) = cg_rqTerm d := rfl
theorem G_rqTerm_cs_jSize (d : CS) (v : Int32) : cg_rqTerm (cs_jSize d v) = cg_rqTerm d := rfl
theorem G_rqTerm_cs_jTime (d : CS) (v : Int64) : cg_rqTerm (cs_jTime d v) = cg_rqTerm d := rfl
theorem G_rqTerm_cs_lines (d : CS) (v : Nat → Option Nat) : cg_rqTerm (cs_lines d v) = cg_rqTerm d := rfl
theorem G_rqTerm_cs_setSum (d : CS) (v : Int64) : cg_rqTerm (cs_setSum d v) = cg_rqTerm d := rfl
theorem G_rqTerm_cs_setNow (d : CS) (v : Int64) : cg_rqTerm (cs_setNow d v) = cg_rqTerm d := rfl
theorem G_rqTerm_cs_acc (d : CS) (v : Nat → CA) : cg_rqTerm (cs_acc d v) = cg_rqTerm d := rfl
theorem G_rqTerm_cs_ent (d : CS) (v : Nat → CE) : cg_rqTerm (cs_ent d v) = cg_rqTerm d := rfl
theorem G_rqTerm_acc_set_card (d : CS) (a : Nat) (v : Int64) : cg_rqTerm (acc_set_card d a v) = cg_rqTerm d := rfl
theorem G_rqTerm_acc_set_bal (d : CS) (a : Nat) (v : Int64) : cg_rqTerm (acc_set_bal d a v) = cg_rqTerm d := rfl
theorem G_rqTerm_ent_set_type (d : CS) (a : Nat) (v : Int32) : cg_rqTerm (ent_set_type d a v) = cg_rqTerm d := rfl
theorem G_rqTerm_ent_set_term (d : CS) (a : Nat) (v : Int32) : cg_rqTerm (ent_set_term d a v) = cg_rqTerm d := rfl
theorem G_rqTerm_ent_set_trace (d : CS) (a : Nat) (v : Int32) : cg_rqTerm (ent_set_trace d a v) = cg_rqTerm d := rfl
theorem G_rqTerm_ent_set_card (d : CS) (a : Nat) (v : Int64) : cg_rqTerm (ent_set_card d a v) = cg_rqTerm d := rfl
theorem G_rqTerm_ent_set_kind (d : CS) (a : Nat) (v : Int32) : cg_rqTerm (ent_set_kind d a v) = cg_rqTerm d := rfl
theorem G_rqTerm_ent_set_amount (d : CS) (a : Nat) (v : Int64) : cg_rqTerm (ent_set_amount d a v) = cg_rqTerm d := rfl
theorem G_rqTerm_ent_set_answer (d : CS) (a : Nat) (v : Int32) : cg_rqTerm (ent_set_answer d a v) = cg_rqTerm d := rfl
theorem G_rqTerm_ent_set_state (d : CS) (a : Nat) (v : Int32) : cg_rqTerm (ent_set_state d a v) = cg_rqTerm d := rfl
theorem G_rqTerm_ent_set_made (d : CS) (a : Nat) (v : Int64) : cg_rqTerm (ent_set_made d a v) = cg_rqTerm d := rfl
theorem G_rqStart_cs_inSize (d : CS) (v : Int32) : cg_rqStart (cs_inSize d v) = cg_rqStart d := rfl
theorem G_rqStart_cs_inB (d : CS) (v : Nat → Int32) : cg_rqStart (cs_inB d v) = cg_rqStart d := rfl
theorem G_rqStart_cs_outSize (d : CS) (v : Int32) : cg_rqStart (cs_outSize d v) = cg_rqStart d := rfl
theorem G_rqStart_cs_outB (d : CS) (v : Nat → Int32) : cg_rqStart (cs_outB d v) = cg_rqStart d := rfl
theorem G_rqStart_cs_rqType (d : CS) (v : Int32) : cg_rqStart (cs_rqType d v) = cg_rqStart d := rfl
theorem G_rqStart_cs_rqMap (d : CS) (v : Int64) : cg_rqStart (cs_rqMap d v) = cg_rqStart d := rfl
theorem G_rqStart_cs_rqCard (d : CS) (v : Int64) : cg_rqStart (cs_rqCard d v) = cg_rqStart d := rfl
theorem G_rqStart_cs_rqSort (d : CS) (v : Int32) : cg_rqStart (cs_rqSort d v) = cg_rqStart d := rfl
theorem G_rqStart_cs_rqAmount (d : CS) (v : Int64) : cg_rqStart (cs_rqAmount d v) = cg_rqStart d := rfl
theorem G_rqStart_cs_rqTrace (d : CS) (v : Int32) : cg_rqStart (cs_rqTrace d v) = cg_rqStart d := rfl
theorem G_rqStart_cs_rqTerm (d : CS) (v : Int32) : cg_rqStart (cs_rqTerm d v) = cg_rqStart d := rfl
theorem G_rqStart_cs_rqOrig (d : CS) (v : Int32) : cg_rqStart (cs_rqOrig d v) = cg_rqStart d := rfl
theorem G_rqStart_cs_rdPlace (d : CS) (v : Int32) : cg_rqStart (cs_rdPlace d v) = cg_rqStart d := rfl
theorem G_rqStart_cs_rdGood (d : CS) (v : Int32) : cg_rqStart (cs_rdGood d v) = cg_rqStart d := rfl
theorem G_rqStart_cs_cCount (d : CS) (v : Int32) : cg_rqStart (cs_cCount d v) = cg_rqStart d := rfl
theorem G_rqStart_cs_accs (d : CS) (v : Nat → Option Nat) : cg_rqStart (cs_accs d v) = cg_rqStart d := rfl
theorem G_rqStart_cs_jSize (d : CS) (v : Int32) : cg_rqStart (cs_jSize d v) = cg_rqStart d := rfl
theorem G_rqStart_cs_jTime (d : CS) (v : Int64) : cg_rqStart (cs_jTime d v) = cg_rqStart d := rfl
theorem G_rqStart_cs_lines (d : CS) (v : Nat → Option Nat) : cg_rqStart (cs_lines d v) = cg_rqStart d := rfl
theorem G_rqStart_cs_setSum (d : CS) (v : Int64) : cg_rqStart (cs_setSum d v) = cg_rqStart d := rfl
theorem G_rqStart_cs_setNow (d : CS) (v : Int64) : cg_rqStart (cs_setNow d v) = cg_rqStart d := rfl
theorem G_rqStart_cs_acc (d : CS) (v : Nat → CA) : cg_rqStart (cs_acc d v) = cg_rqStart d := rfl
theorem G_rqStart_cs_ent (d : CS) (v : Nat → CE) : cg_rqStart (cs_ent d v) = cg_rqStart d := rfl
theorem G_rqStart_acc_set_card (d : CS) (a : Nat) (v : Int64) : cg_rqStart (acc_set_card d a v) = cg_rqStart d := rfl
theorem G_rqStart_acc_set_bal (d : CS) (a : Nat) (v : Int64) : cg_rqStart (acc_set_bal d a v) = cg_rqStart d := rfl
theorem G_rqStart_ent_set_type (d : CS) (a : Nat) (v : Int32) : cg_rqStart (ent_set_type d a v) = cg_rqStart d := rfl
theorem G_rqStart_ent_set_term (d : CS) (a : Nat) (v : Int32) : cg_rqStart (ent_set_term d a v) = cg_rqStart d := rfl
theorem G_rqStart_ent_set_trace (d : CS) (a : Nat) (v : Int32) : cg_rqStart (ent_set_trace d a v) = cg_rqStart d := rfl
theorem G_rqStart_ent_set_card (d : CS) (a : Nat) (v : Int64) : cg_rqStart (ent_set_card d a v) = cg_rqStart d := rfl
theorem G_rqStart_ent_set_kind (d : CS) (a : Nat) (v : Int32) : cg_rqStart (ent_set_kind d a v) = cg_rqStart d := rfl
theorem G_rqStart_ent_set_amount (d : CS) (a : Nat) (v : Int64) : cg_rqStart (ent_set_amount d a v) = cg_rqStart d := rfl
theorem G_rqStart_ent_set_answer (d : CS) (a : Nat) (v : Int32) : cg_rqStart (ent_set_answer d a v) = cg_rqStart d := rfl
theorem G_rqStart_ent_set_state (d : CS) (a : Nat) (v : Int32) : cg_rqStart (ent_set_state d a v) = cg_rqStart d := rfl
theorem G_rqStart_ent_set_made (d : CS) (a : Nat) (v : Int64) : cg_rqStart (ent_set_made d a v) = cg_rqStart d := rfl
theorem G_rqOrig_cs_inSize (d : CS) (v : Int32) : cg_rqOrig (cs_inSize d v) = cg_rqOrig d := rfl
theorem G_rqOrig_cs_inB (d : CS) (v : Nat → Int32) : cg_rqOrig (cs_inB d v) = cg_rqOrig d := rfl
theorem G_rqOrig_cs_outSize (d : CS) (v : Int32) : cg_rqOrig (cs_outSize d v) = cg_rqOrig d := rfl
theorem G_rqOrig_cs_outB (d : CS) (v : Nat → Int32) : cg_rqOrig (cs_outB d v) = cg_rqOrig d := rfl
theorem G_rqOrig_cs_rqType (d : CS) (v : Int32) : cg_rqOrig (cs_rqType d v) = cg_rqOrig d := rfl
theorem G_rqOrig_cs_rqMap (d : CS) (v : Int64) : cg_rqOrig (cs_rqMap d v) = cg_rqOrig d := rfl
theorem G_rqOrig_cs_rqCard (d : CS) (v : Int64) : cg_rqOrig (cs_rqCard d v) = cg_rqOrig d := rfl
theorem G_rqOrig_cs_rqSort (d : CS) (v : Int32) : cg_rqOrig (cs_rqSort d v) = cg_rqOrig d := rfl
theorem G_rqOrig_cs_rqAmount (d : CS) (v : Int64) : cg_rqOrig (cs_rqAmount d v) = cg_rqOrig d := rfl
theorem G_rqOrig_cs_rqTrace (d : CS) (v : Int32) : cg_rqOrig (cs_rqTrace d v) = cg_rqOrig d := rfl
theorem G_rqOrig_cs_rqTerm (d : CS) (v : Int32) : cg_rqOrig (cs_rqTerm d v) = cg_rqOrig d := rfl
theorem G_rqOrig_cs_rqStart (d : CS) (v : Int32) : cg_rqOrig (cs_rqStart d v) = cg_rqOrig d := rfl
theorem G_rqOrig_cs_rdPlace (d : CS) (v : Int32) : cg_rqOrig (cs_rdPlace d v) = cg_rqOrig d := rfl
theorem G_rqOrig_cs_rdGood (d : CS) (v : Int32) : cg_rqOrig (cs_rdGood d v) = cg_rqOrig d := rfl
theorem G_rqOrig_cs_cCount (d : CS) (v : Int32) : cg_rqOrig (cs_cCount d v) = cg_rqOrig d := rfl
theorem G_rqOrig_cs_accs (d : CS) (v : Nat → Option Nat) : cg_rqOrig (cs_accs d v) = cg_rqOrig d := rfl
theorem G_rqOrig_cs_jSize (d : CS) (v : Int32) : cg_rqOrig (cs_jSize d v) = cg_rqOrig d := rfl
theorem G_rqOrig_cs_jTime (d : CS) (v : Int64) : cg_rqOrig (cs_jTime d v) = cg_rqOrig d := rfl
theorem G_rqOrig_cs_lines (d : CS) (v : Nat → Option Nat) : cg_rqOrig (cs_lines d v) = cg_rqOrig d := rfl
theorem G_rqOrig_cs_setSum (d : CS) (v : Int64) : cg_rqOrig (cs_setSum d v) = cg_rqOrig d := rfl
theorem G_rqOrig_cs_setNow (d : CS) (v : Int64) : cg_rqOrig (cs_setNow d v) = cg_rqOrig d := rfl
theorem G_rqOrig_cs_acc (d : CS) (v : Nat → CA) : cg_rqOrig (cs_acc d v) = cg_rqOrig d := rfl
theorem G_rqOrig_cs_ent (d : CS) (v : Nat → CE) : cg_rqOrig (cs_ent d v) = cg_rqOrig d := rfl
theorem G_rqOrig_acc_set_card (d : CS) (a : Nat) (v : Int64) : cg_rqOrig (acc_set_card d a v) = cg_rqOrig d := rfl
theorem G_rqOrig_acc_set_bal (d : CS) (a : Nat) (v : Int64) : cg_rqOrig (acc_set_bal d a v) = cg_rqOrig d := rfl
theorem G_rqOrig_ent_set_type (d : CS) (a : Nat) (v : Int32) : cg_rqOrig (ent_set_type d a v) = cg_rqOrig d := rfl
theorem G_rqOrig_ent_set_term (d : CS) (a : Nat) (v : Int32) : cg_rqOrig (ent_set_term d a v) = cg_rqOrig d := rfl
theorem G_rqOrig_ent_set_trace (d : CS) (a : Nat) (v : Int32) : cg_rqOrig (ent_set_trace d a v) = cg_rqOrig d := rfl
theorem G_rqOrig_ent_set_card (d : CS) (a : Nat) (v : Int64) : cg_rqOrig (ent_set_card d a v) = cg_rqOrig d := rfl
theorem G_rqOrig_ent_set_kind (d : CS) (a : Nat) (v : Int32) : cg_rqOrig (ent_set_kind d a v) = cg_rqOrig d := rfl
theorem G_rqOrig_ent_set_amount (d : CS) (a : Nat) (v : Int64) : cg_rqOrig (ent_set_amount d a v) = cg_rqOrig d := rfl
theorem G_rqOrig_ent_set_answer (d : CS) (a : Nat) (v : Int32) : cg_rqOrig (ent_set_answer d a v) = cg_rqOrig d := rfl
theorem G_rqOrig_ent_set_state (d : CS) (a : Nat) (v : Int32) : cg_rqOrig (ent_set_state d a v) = cg_rqOrig d := rfl
theorem G_rqOrig_ent_set_made (d : CS) (a : Nat) (v : Int64) : cg_rqOrig (ent_set_made d a v) = cg_rqOrig d := rfl
theorem G_rdPlace_cs_inSize (d : CS) (v : Int32) : cg_rdPlace (cs_inSize d v) = cg_rdPlace d := rfl
theorem G_rdPlace_cs_inB (d : CS) (v : Nat → Int32) : cg_rdPlace (cs_inB d v) = cg_rdPlace d := rfl
theorem G_rdPlace_cs_outSize (d : CS) (v : Int32) : cg_rdPlace (cs_outSize d v) = cg_rdPlace d := rfl
theorem G_rdPlace_cs_outB (d : CS) (v : Nat → Int32) : cg_rdPlace (cs_outB d v) = cg_rdPlace d := rfl
theorem G_rdPlace_cs_rqType (d : CS) (v : Int32) : cg_rdPlace (cs_rqType d v) = cg_rdPlace d := rfl
theorem G_rdPlace_cs_rqMap (d : CS) (v : Int64) : cg_rdPlace (cs_rqMap d v) = cg_rdPlace d := rfl
theorem G_rdPlace_cs_rqCard (d : CS) (v : Int64) : cg_rdPlace (cs_rqCard d v) = cg_rdPlace d := rfl
theorem G_rdPlace_cs_rqSort (d : CS) (v : Int32) : cg_rdPlace (cs_rqSort d v) = cg_rdPlace d := rfl
theorem G_rdPlace_cs_rqAmount (d : CS) (v : Int64) : cg_rdPlace (cs_rqAmount d v) = cg_rdPlace d := rfl
theorem G_rdPlace_cs_rqTrace (d : CS) (v : Int32) : cg_rdPlace (cs_rqTrace d v) = cg_rdPlace d := rfl
theorem G_rdPlace_cs_rqTerm (d : CS) (v : Int32) : cg_rdPlace (cs_rqTerm d v) = cg_rdPlace d := rfl
theorem G_rdPlace_cs_rqStart (d : CS) (v : Int32) : cg_rdPlace (cs_rqStart d v) = cg_rdPlace d := rfl
theorem G_rdPlace_cs_rqOrig (d : CS) (v : Int32) : cg_rdPlace (cs_rqOrig d v) = cg_rdPlace d := rfl
theorem G_rdPlace_cs_rdGood (d : CS) (v : Int32) : cg_rdPlace (cs_rdGood d v) = cg_rdPlace d := rfl
theorem G_rdPlace_cs_cCount (d : CS) (v : Int32) : cg_rdPlace (cs_cCount d v) = cg_rdPlace d := rfl
theorem G_rdPlace_cs_accs (d : CS) (v : Nat → Option Nat) : cg_rdPlace (cs_accs d v) = cg_rdPlace d := rfl
theorem G_rdPlace_cs_jSize (d : CS) (v : Int32) : cg_rdPlace (cs_jSize d v) = cg_rdPlace d := rfl
theorem G_rdPlace_cs_jTime (d : CS) (v : Int64) : cg_rdPlace (cs_jTime d v) = cg_rdPlace d := rfl
theorem G_rdPlace_cs_lines (d : CS) (v : Nat → Option Nat) : cg_rdPlace (cs_lines d v) = cg_rdPlace d := rfl
theorem G_rdPlace_cs_setSum (d : CS) (v : Int64) : cg_rdPlace (cs_setSum d v) = cg_rdPlace d := rfl
theorem G_rdPlace_cs_setNow (d : CS) (v : Int64) : cg_rdPlace (cs_setNow d v) = cg_rdPlace d := rfl
theorem G_rdPlace_cs_acc (d : CS) (v : Nat → CA) : cg_rdPlace (cs_acc d v) = cg_rdPlace d := rfl
theorem G_rdPlace_cs_ent (d : CS) (v : Nat → CE) : cg_rdPlace (cs_ent d v) = cg_rdPlace d := rfl
theorem G_rdPlace_acc_set_card (d : CS) (a : Nat) (v : Int64) : cg_rdPlace (acc_set_card d a v) = cg_rdPlace d := rfl
theorem G_rdPlace_acc_set_bal (d : CS) (a : Nat) (v : Int64) : cg_rdPlace (acc_set_bal d a v) = cg_rdPlace d := rfl
theorem G_rdPlace_ent_set_type (d : CS) (a : Nat) (v : Int32) : cg_rdPlace (ent_set_type d a v) = cg_rdPlace d := rfl
theorem G_rdPlace_ent_set_term (d : CS) (a : Nat) (v : Int32) : cg_rdPlace (ent_set_term d a v) = cg_rdPlace d := rfl
theorem G_rdPlace_ent_set_trace (d : CS) (a : Nat) (v : Int32) : cg_rdPlace (ent_set_trace d a v) = cg_rdPlace d := rfl
theorem G_rdPlace_ent_set_card (d : CS) (a : Nat) (v : Int64) : cg_rdPlace (ent_set_card d a v) = cg_rdPlace d := rfl
theorem G_rdPlace_ent_set_kind (d : CS) (a : Nat) (v : Int32) : cg_rdPlace (ent_set_kind d a v) = cg_rdPlace d := rfl
theorem G_rdPlace_ent_set_amount (d : CS) (a : Nat) (v : Int64) : cg_rdPlace (ent_set_amount d a v) = cg_rdPlace d := rfl
theorem G_rdPlace_ent_set_answer (d : CS) (a : Nat) (v : Int32) : cg_rdPlace (ent_set_answer d a v) = cg_rdPlace d := rfl
theorem G_rdPlace_ent_set_state (d : CS) (a : Nat) (v : Int32) : cg_rdPlace (ent_set_state d a v) = cg_rdPlace d := rfl
theorem G_rdPlace_ent_set_made (d : CS) (a : Nat) (v : Int64) : cg_rdPlace (ent_set_made d a v) = cg_rdPlace d := rfl
theorem G_rdGood_cs_inSize (d : CS) (v : Int32) : cg_rdGood (cs_inSize d v) = cg_rdGood d := rfl
theorem G_rdGood_cs_inB (d : CS) (v : Nat → Int32) : cg_rdGood (cs_inB d v) = cg_rdGood d := rfl
theorem G_rdGood_cs_outSize (d : CS) (v : Int32) : cg_rdGood (cs_outSize d v) = cg_rdGood d := rfl
theorem G_rdGood_cs_outB (d : CS) (v : Nat → Int32) : cg_rdGood (cs_outB d v) = cg_rdGood d := rfl
theorem G_rdGood_cs_rqType (d : CS) (v : Int32) : cg_rdGood (cs_rqType d v) = cg_rdGood d := rfl
theorem G_rdGood_cs_rqMap (d : CS) (v : Int64) : cg_rdGood (cs_rqMap d v) = cg_rdGood d := rfl
theorem G_rdGood_cs_rqCard (d : CS) (v : Int64) : cg_rdGood (cs_rqCard d v) = cg_rdGood d := rfl
theorem G_rdGood_cs_rqSort (d : CS) (v : Int32) : cg_rdGood (cs_rqSort d v) = cg_rdGood d := rfl
theorem G_rdGood_cs_rqAmount (d : CS) (v : Int64) : cg_rdGood (cs_rqAmount d v) = cg_rdGood d := rfl
theorem G_rdGood_cs_rqTrace (d : CS) (v : Int32) : cg_rdGood (cs_rqTrace d v) = cg_rdGood d := rfl
theorem G_rdGood_cs_rqTerm (d : CS) (v : Int32) : cg_rdGood (cs_rqTerm d v) = cg_rdGood d := rfl
theorem G_rdGood_cs_rqStart (d : CS) (v : Int32) : cg_rdGood (cs_rqStart d v) = cg_rdGood d := rfl
theorem G_rdGood_cs_rqOrig (d : CS) (v : Int32) : cg_rdGood (cs_rqOrig d v) = cg_rdGood d := rfl
theorem G_rdGood_cs_rdPlace (d : CS) (v : Int32) : cg_rdGood (cs_rdPlace d v) = cg_rdGood d := rfl
theorem G_rdGood_cs_cCount (d : CS) (v : Int32) : cg_rdGood (cs_cCount d v) = cg_rdGood d := rfl
theorem G_rdGood_cs_accs (d : CS) (v : Nat → Option Nat) : cg_rdGood (cs_accs d v) = cg_rdGood d := rfl
theorem G_rdGood_cs_jSize (d : CS) (v : Int32) : cg_rdGood (cs_jSize d v) = cg_rdGood d := rfl
theorem G_rdGood_cs_jTime (d : CS) (v : Int64) : cg_rdGood (cs_jTime d v) = cg_rdGood d := rfl
theorem G_rdGood_cs_lines (d : CS) (v : Nat → Option Nat) : cg_rdGood (cs_lines d v) = cg_rdGood d := rfl
theorem G_rdGood_cs_setSum (d : CS) (v : Int64) : cg_rdGood (cs_setSum d v) = cg_rdGood d := rfl
theorem G_rdGood_cs_setNow (d : CS) (v : Int64) : cg_rdGood (cs_setNow d v) = cg_rdGood d := rfl
theorem G_rdGood_cs_acc (d : CS) (v : Nat → CA) : cg_rdGood (cs_acc d v) = cg_rdGood d := rfl
theorem G_rdGood_cs_ent (d : CS) (v : Nat → CE) : cg_rdGood (cs_ent d v) = cg_rdGood d := rfl
theorem G_rdGood_acc_set_card (d : CS) (a : Nat) (v : Int64) : cg_rdGood (acc_set_card d a v) = cg_rdGood d := rfl
theorem G_rdGood_acc_set_bal (d : CS) (a : Nat) (v : Int64) : cg_rdGood (acc_set_bal d a v) = cg_rdGood d := rfl
theorem G_rdGood_ent_set_type (d : CS) (a : Nat) (v : Int32) : cg_rdGood (ent_set_type d a v) = cg_rdGood d := rfl
theorem G_rdGood_ent_set_term (d : CS) (a : Nat) (v : Int32) : cg_rdGood (ent_set_term d a v) = cg_rdGood d := rfl
theorem G_rdGood_ent_set_trace (d : CS) (a : Nat) (v : Int32) : cg_rdGood (ent_set_trace d a v) = cg_rdGood d := rfl
theorem G_rdGood_ent_set_card (d : CS) (a : Nat) (v : Int64) : cg_rdGood (ent_set_card d a v) = cg_rdGood d := rfl
theorem G_rdGood_ent_set_kind (d : CS) (a : Nat) (v : Int32) : cg_rdGood (ent_set_kind d a v) = cg_rdGood d := rfl
theorem G_rdGood_ent_set_amount (d : CS) (a : Nat) (v : Int64) : cg_rdGood (ent_set_amount d a v) = cg_rdGood d := rfl
theorem G_rdGood_ent_set_answer (d : CS) (a : Nat) (v : Int32) : cg_rdGood (ent_set_answer d a v) = cg_rdGood d := rfl
theorem G_rdGood_ent_set_state (d : CS) (a : Nat) (v : Int32) : cg_rdGood (ent_set_state d a v) = cg_rdGood d := rfl
theorem G_rdGood_ent_set_made (d : CS) (a : Nat) (v : Int64) : cg_rdGood (ent_set_made d a v) = cg_rdGood d := rfl
theorem G_cCount_cs_inSize (d : CS) (v : Int32) : cg_cCount (cs_inSize d v) = cg_cCount d := rfl
theorem G_cCount_cs_inB (d : CS) (v : Nat → Int32) : cg_cCount (cs_inB d v) = cg_cCount d := rfl
theorem G_cCount_cs_outSize (d : CS) (v : Int32) : cg_cCount (cs_outSize d v) = cg_cCount d := rfl
theorem G_cCount_cs_outB (d : CS) (v : Nat → Int32) : cg_cCount (cs_outB d v) = cg_cCount d := rfl
theorem G_cCount_cs_rqType (d : CS) (v : Int32) : cg_cCount (cs_rqType d v) = cg_cCount d := rfl
theorem G_cCount_cs_rqMap (d : CS) (v : Int64) : cg_cCount (cs_rqMap d v) = cg_cCount d := rfl
theorem G_cCount_cs_rqCard (d : CS) (v : Int64) : cg_cCount (cs_rqCard d v) = cg_cCount d := rfl
theorem G_cCount_cs_rqSort (d : CS) (v : Int32) : cg_cCount (cs_rqSort d v) = cg_cCount d := rfl
theorem G_cCount_cs_rqAmount (d : CS) (v : Int64) : cg_cCount (cs_rqAmount d v) = cg_cCount d := rfl
theorem G_cCount_cs_rqTrace (d : CS) (v : Int32) : cg_cCount (cs_rqTrace d v) = cg_cCount d := rfl
theorem G_cCount_cs_rqTerm (d : CS) (v : Int32) : cg_cCount (cs_rqTerm d v) = cg_cCount d := rfl
theorem G_cCount_cs_rqStart (d : CS) (v : Int32) : cg_cCount (cs_rqStart d v) = cg_cCount d := rfl
theorem G_cCount_cs_rqOrig (d : CS) (v : Int32) : cg_cCount (cs_rqOrig d v) = cg_cCount d := rfl
theorem G_cCount_cs_rdPlace (d : CS) (v : Int32) : cg_cCount (cs_rdPlace d v) = cg_cCount d := rfl
theorem G_cCount_cs_rdGood (d : CS) (v : Int32) : cg_cCount (cs_rdGood d v) = cg_cCount d := rfl
theorem G_cCount_cs_accs (d : CS) (v : Nat → Option Nat) : cg_cCount (cs_accs d v) = cg_cCount d := rfl
theorem G_cCount_cs_jSize (d : CS) (v : Int32) : cg_cCount (cs_jSize d v) = cg_cCount d := rfl
theorem G_cCount_cs_jTime (d : CS) (v : Int64) : cg_cCount (cs_jTime d v) = cg_cCount d := rfl
theorem G_cCount_cs_lines (d : CS) (v : Nat → Option Nat) : cg_cCount (cs_lines d v) = cg_cCount d := rfl
theorem G_cCount_cs_setSum (d : CS) (v : Int64) : cg_cCount (cs_setSum d v) = cg_cCount d := rfl
theorem G_cCount_cs_setNow (d : CS) (v : Int64) : cg_cCount (cs_setNow d v) = cg_cCount d := rfl
theorem G_cCount_cs_acc (d : CS) (v : Nat → CA) : cg_cCount (cs_acc d v) = cg_cCount d := rfl
theorem G_cCount_cs_ent (d : CS) (v : Nat → CE) : cg_cCount (cs_ent d v) = cg_cCount d := rfl
theorem G_cCount_acc_set_card (d : CS) (a : Nat) (v : Int64) : cg_cCount (acc_set_card d a v) = cg_cCount d := rfl
theorem G_cCount_acc_set_bal (d : CS) (a : Nat) (v : Int64) : cg_cCount (acc_set_bal d a v) = cg_cCount d := rfl
theorem G_cCount_ent_set_type (d : CS) (a : Nat) (v : Int32) : cg_cCount (ent_set_type d a v) = cg_cCount d := rfl
theorem G_cCount_ent_set_term (d : CS) (a : Nat) (v : Int32) : cg_cCount (ent_set_term d a v) = cg_cCount d := rfl
theorem G_cCount_ent_set_trace (d : CS) (a : Nat) (v : Int32) : cg_cCount (ent_set_trace d a v) = cg_cCount d := rfl
theorem G_cCount_ent_set_card (d : CS) (a : Nat) (v : Int64) : cg_cCount (ent_set_card d a v) = cg_cCount d := rfl
theorem G_cCount_ent_set_kind (d : CS) (a : Nat) (v : Int32) : cg_cCount (ent_set_kind d a v) = cg_cCount d := rfl
theorem G_cCount_ent_set_amount (d : CS) (a : Nat) (v : Int64) : cg_cCount (ent_set_amount d a v) = cg_cCount d := rfl
theorem G_cCount_ent_set_answer (d : CS) (a : Nat) (v : Int32) : cg_cCount (ent_set_answer d a v) = cg_cCount d := rfl
theorem G_cCount_ent_set_state (d : CS) (a : Nat) (v : Int32) : cg_cCount (ent_set_state d a v) = cg_cCount d := rfl
theorem G_cCount_ent_set_made (d : CS) (a : Nat) (v : Int64) : cg_cCount (ent_set_made d a v) = cg_cCount d := rfl
theorem G_accs_cs_inSize (d : CS) (v : Int32) : cg_accs (cs_inSize d v) = cg_accs d := rfl
theorem G_accs_cs_inB (d : CS) (v : Nat → Int32) : cg_accs (cs_inB d v) = cg_accs d := rfl
theorem G_accs_cs_outSize (d : CS) (v : Int32) : cg_accs (cs_outSize d v) = cg_accs d := rfl
theorem G_accs_cs_outB (d : CS) (v : Nat → Int32) : cg_accs (cs_outB d v) = cg_accs d := rfl
theorem G_accs_cs_rqType (d : CS) (v : Int32) : cg_accs (cs_rqType d v) = cg_accs d := rfl
theorem G_accs_cs_rqMap (d : CS) (v : Int64) : cg_accs (cs_rqMap d v) = cg_accs d := rfl
theorem G_accs_cs_rqCard (d : CS) (v : Int64) : cg_accs (cs_rqCard d v) = cg_accs d := rfl
theorem G_accs_cs_rqSort (d : CS) (v : Int32) : cg_accs (cs_rqSort d v) = cg_accs d := rfl
theorem G_accs_cs_rqAmount (d : CS) (v : Int64) : cg_accs (cs_rqAmount d v) = cg_accs d := rfl
theorem G_accs_cs_rqTrace (d : CS) (v : Int32) : cg_accs (cs_rqTrace d v) = cg_accs d := rfl
theorem G_accs_cs_rqTerm (d : CS) (v : Int32) : cg_accs (cs_rqTerm d v) = cg_accs d := rfl
theorem G_accs_cs_rqStart (d : CS) (v : Int32) : cg_accs (cs_rqStart d v) = cg_accs d := rfl
theorem G_accs_cs_rqOrig (d : CS) (v : Int32) : cg_accs (cs_rqOrig d v) = cg_accs d := rfl
theorem G_accs_cs_rdPlace (d : CS) (v : Int32) : cg_accs (cs_rdPlace d v) = cg_accs d := rfl
theorem G_accs_cs_rdGood (d : CS) (v : Int32) : cg_accs (cs_rdGood d v) = cg_accs d := rfl
theorem G_accs_cs_cCount (d : CS) (v : Int32) : cg_accs (cs_cCount d v) = cg_accs d := rfl
theorem G_accs_cs_jSize (d : CS) (v : Int32) : cg_accs (cs_jSize d v) = cg_accs d := rfl
theorem G_accs_cs_jTime (d : CS) (v : Int64) : cg_accs (cs_jTime d v) = cg_accs d := rfl
theorem G_accs_cs_lines (d : CS) (v : Nat → Option Nat) : cg_accs (cs_lines d v) = cg_accs d := rfl
theorem G_accs_cs_setSum (d : CS) (v : Int64) : cg_accs (cs_setSum d v) = cg_accs d := rfl
theorem G_accs_cs_setNow (d : CS) (v : Int64) : cg_accs (cs_setNow d v) = cg_accs d := rfl
theorem G_accs_cs_acc (d : CS) (v : Nat → CA) : cg_accs (cs_acc d v) = cg_accs d := rfl
theorem G_accs_cs_ent (d : CS) (v : Nat → CE) : cg_accs (cs_ent d v) = cg_accs d := rfl
theorem G_accs_acc_set_card (d : CS) (a : Nat) (v : Int64) : cg_accs (acc_set_card d a v) = cg_accs d := rfl
theorem G_accs_acc_set_bal (d : CS) (a : Nat) (v : Int64) : cg_accs (acc_set_bal d a v) = cg_accs d := rfl
theorem G_accs_ent_set_type (d : CS) (a : Nat) (v : Int32) : cg_accs (ent_set_type d a v) = cg_accs d := rfl
theorem G_accs_ent_set_term (d : CS) (a : Nat) (v : Int32) : cg_accs (ent_set_term d a v) = cg_accs d := rfl
theorem G_accs_ent_set_trace (d : CS) (a : Nat) (v : Int32) : cg_accs (ent_set_trace d a v) = cg_accs d := rfl
theorem G_accs_ent_set_card (d : CS) (a : Nat) (v : Int64) : cg_accs (ent_set_card d a v) = cg_accs d := rfl
theorem G_accs_ent_set_kind (d : CS) (a : Nat) (v : Int32) : cg_accs (ent_set_kind d a v) = cg_accs d := rfl
theorem G_accs_ent_set_amount (d : CS) (a : Nat) (v : Int64) : cg_accs (ent_set_amount d a v) = cg_accs d := rfl
theorem G_accs_ent_set_answer (d : CS) (a : Nat) (v : Int32) : cg_accs (ent_set_answer d a v) = cg_accs d := rfl
theorem G_accs_ent_set_state (d : CS) (a : Nat) (v : Int32) : cg_accs (ent_set_state d a v) = cg_accs d := rfl
theorem G_accs_ent_set_made (d : CS) (a : Nat) (v : Int64) : cg_accs (ent_set_made d a v) = cg_accs d := rfl
theorem G_jSize_cs_inSize (d : CS) (v : Int32) : cg_jSize (cs_inSize d v) = cg_jSize d := rfl
theorem G_jSize_cs_inB (d : CS) (v : Nat → Int32) : cg_jSize (cs_inB d v) = cg_jSize d := rfl
theorem G_jSize_cs_outSize (d : CS) (v : Int32) : cg_jSize (cs_outSize d v) = cg_jSize d := rfl
theorem G_jSize_cs_outB (d : CS) (v : Nat → Int32) : cg_jSize (cs_outB d v) = cg_jSize d := rfl
theorem G_jSize_cs_rqType (d : CS) (v : Int32) : cg_jSize (cs_rqType d v) = cg_jSize d := rfl
theorem G_jSize_cs_rqMap (d : CS) (v : Int64) : cg_jSize (cs_rqMap d v) = cg_jSize d := rfl
theorem G_jSize_cs_rqCard (d : CS) (v : Int64) : cg_jSize (cs_rqCard d v) = cg_jSize d := rfl
theorem G_jSize_cs_rqSort (d : CS) (v : Int32) : cg_jSize (cs_rqSort d v) = cg_jSize d := rfl
theorem G_jSize_cs_rqAmount (d : CS) (v : Int64) : cg_jSize (cs_rqAmount d v) = cg_jSize d := rfl
theorem G_jSize_cs_rqTrace (d : CS) (v : Int32) : cg_jSize (cs_rqTrace d v) = cg_jSize d := rfl
theorem G_jSize_cs_rqTerm (d : CS) (v : Int32) : cg_jSize (cs_rqTerm d v) = cg_jSize d := rfl
theorem G_jSize_cs_rqStart (d : CS) (v : Int32) : cg_jSize (cs_rqStart d v) = cg_jSize d := rfl
theorem G_jSize_cs_rqOrig (d : CS) (v : Int32) : cg_jSize (cs_rqOrig d v) = cg_jSize d := rfl
theorem G_jSize_cs_rdPlace (d : CS) (v : Int32) : cg_jSize (cs_rdPlace d v) = cg_jSize d := rfl
theorem G_jSize_cs_rdGood (d : CS) (v : Int32) : cg_jSize (cs_rdGood d v) = cg_jSize d := rfl
theorem G_jSize_cs_cCount (d : CS) (v : Int32) : cg_jSize (cs_cCount d v) = cg_jSize d := rfl
theorem G_jSize_cs_accs (d : CS) (v : Nat → Option Nat) : cg_jSize (cs_accs d v) = cg_jSize d := rfl
theorem G_jSize_cs_jTime (d : CS) (v : Int64) : cg_jSize (cs_jTime d v) = cg_jSize d := rfl
theorem G_jSize_cs_lines (d : CS) (v : Nat → Option Nat) : cg_jSize (cs_lines d v) = cg_jSize d := rfl
theorem G_jSize_cs_setSum (d : CS) (v : Int64) : cg_jSize (cs_setSum d v) = cg_jSize d := rfl
theorem G_jSize_cs_setNow (d : CS) (v : Int64) : cg_jSize (cs_setNow d v) = cg_jSize d := rfl
theorem G_jSize_cs_acc (d : CS) (v : Nat → CA) : cg_jSize (cs_acc d v) = cg_jSize d := rfl
theorem G_jSize_cs_ent (d : CS) (v : Nat → CE) : cg_jSize (cs_ent d v) = cg_jSize d := rfl
theorem G_jSize_acc_set_card (d : CS) (a : Nat) (v : Int64) : cg_jSize (acc_set_card d a v) = cg_jSize d := rfl
theorem G_jSize_acc_set_bal (d : CS) (a : Nat) (v : Int64) : cg_jSize (acc_set_bal d a v) = cg_jSize d := rfl
theorem G_jSize_ent_set_type (d : CS) (a : Nat) (v : Int32) : cg_jSize (ent_set_type d a v) = cg_jSize d := rfl
theorem G_jSize_ent_set_term (d : CS) (a : Nat) (v : Int32) : cg_jSize (ent_set_term d a v) = cg_jSize d := rfl
theorem G_jSize_ent_set_trace (d : CS) (a : Nat) (v : Int32) : cg_jSize (ent_set_trace d a v) = cg_jSize d := rfl
theorem G_jSize_ent_set_card (d : CS) (a : Nat) (v : Int64) : cg_jSize (ent_set_card d a v) = cg_jSize d := rfl
theorem G_jSize_ent_set_kind (d : CS) (a : Nat) (v : Int32) : cg_jSize (ent_set_kind d a v) = cg_jSize d := rfl
theorem G_jSize_ent_set_amount (d : CS) (a : Nat) (v : Int64) : cg_jSize (ent_set_amount d a v) = cg_jSize d := rfl
theorem G_jSize_ent_set_answer (d : CS) (a : Nat) (v : Int32) : cg_jSize (ent_set_answer d a v) = cg_jSize d := rfl
theorem G_jSize_ent_set_state (d : CS) (a : Nat) (v : Int32) : cg_jSize (ent_set_state d a v) = cg_jSize d := rfl
theorem G_jSize_ent_set_made (d : CS) (a : Nat) (v : Int64) : cg_jSize (ent_set_made d a v) = cg_jSize d := rfl
theorem G_jTime_cs_inSize (d : CS) (v : Int32) : cg_jTime (cs_inSize d v) = cg_jTime d := rfl
theorem G_jTime_cs_inB (d : CS) (v : Nat → Int32) : cg_jTime (cs_inB d v) = cg_jTime d := rfl
theorem G_jTime_cs_outSize (d : CS) (v : Int32) : cg_jTime (cs_outSize d v) = cg_jTime d := rfl
theorem G_jTime_cs_outB (d : CS) (v : Nat → Int32) : cg_jTime (cs_outB d v) = cg_jTime d := rfl
theorem G_jTime_cs_rqType (d : CS) (v : Int32) : cg_jTime (cs_rqType d v) = cg_jTime d := rfl
theorem G_jTime_cs_rqMap (d : CS) (v : Int64) : cg_jTime (cs_rqMap d v) = cg_jTime d := rfl
theorem G_jTime_cs_rqCard (d : CS) (v : Int64) : cg_jTime (cs_rqCard d v) = cg_jTime d := rfl
theorem G_jTime_cs_rqSort (d : CS) (v : Int32) : cg_jTime (cs_rqSort d v) = cg_jTime d := rfl
theorem G_jTime_cs_rqAmount (d : CS) (v : Int64) : cg_jTime (cs_rqAmount d v) = cg_jTime d := rfl
theorem G_jTime_cs_rqTrace (d : CS) (v : Int32) : cg_jTime (cs_rqTrace d v) = cg_jTime d := rfl
theorem G_jTime_cs_rqTerm (d : CS) (v : Int32) : cg_jTime (cs_rqTerm d v) = cg_jTime d := rfl
theorem G_jTime_cs_rqStart (d : CS) (v : Int32) : cg_jTime (cs_rqStart d v) = cg_jTime d := rfl
theorem G_jTime_cs_rqOrig (d : CS) (v : Int32) : cg_jTime (cs_rqOrig d v) = cg_jTime d := rfl
theorem G_jTime_cs_rdPlace (d : CS) (v : Int32) : cg_jTime (cs_rdPlace d v) = cg_jTime d := rfl
theorem G_jTime_cs_rdGood (d : CS) (v : Int32) : cg_jTime (cs_rdGood d v) = cg_jTime d := rfl
theorem G_jTime_cs_cCount (d : CS) (v : Int32) : cg_jTime (cs_cCount d v) = cg_jTime d := rfl
theorem G_jTime_cs_accs (d : CS) (v : Nat → Option Nat) : cg_jTime (cs_accs d v) = cg_jTime d := rfl
theorem G_jTime_cs_jSize (d : CS) (v : Int32) : cg_jTime (cs_jSize d v) = cg_jTime d := rfl
theorem G_jTime_cs_lines (d : CS) (v : Nat → Option Nat) : cg_jTime (cs_lines d v) = cg_jTime d := rfl
theorem G_jTime_cs_setSum (d : CS) (v : Int64) : cg_jTime (cs_setSum d v) = cg_jTime d := rfl
theorem G_jTime_cs_setNow (d : CS) (v : Int64) : cg_jTime (cs_setNow d v) = cg_jTime d := rfl
theorem G_jTime_cs_acc (d : CS) (v : Nat → CA) : cg_jTime (cs_acc d v) = cg_jTime d := rfl
theorem G_jTime_cs_ent (d : CS) (v : Nat → CE) : cg_jTime (cs_ent d v) = cg_jTime d := rfl
theorem G_jTime_acc_set_card (d : CS) (a : Nat) (v : Int64) : cg_jTime (acc_set_card d a v) = cg_jTime d := rfl
theorem G_jTime_acc_set_bal (d : CS) (a : Nat) (v : Int64) : cg_jTime (acc_set_bal d a v) = cg_jTime d := rfl
theorem G_jTime_ent_set_type (d : CS) (a : Nat) (v : Int32) : cg_jTime (ent_set_type d a v) = cg_jTime d := rfl
theorem G_jTime_ent_set_term (d : CS) (a : Nat) (v : Int32) : cg_jTime (ent_set_term d a v) = cg_jTime d := rfl
theorem G_jTime_ent_set_trace (d : CS) (a : Nat) (v : Int32) : cg_jTime (ent_set_trace d a v) = cg_jTime d := rfl
theorem G_jTime_ent_set_card (d : CS) (a : Nat) (v : Int64) : cg_jTime (ent_set_card d a v) = cg_jTime d := rfl
theorem G_jTime_ent_set_kind (d : CS) (a : Nat) (v : Int32) : cg_jTime (ent_set_kind d a v) = cg_jTime d := rfl
theorem G_jTime_ent_set_amount (d : CS) (a : Nat) (v : Int64) : cg_jTime (ent_set_amount d a v) = cg_jTime d := rfl
theorem G_jTime_ent_set_answer (d : CS) (a : Nat) (v : Int32) : cg_jTime (ent_set_answer d a v) = cg_jTime d := rfl
theorem G_jTime_ent_set_state (d : CS) (a : Nat) (v : Int32) : cg_jTime (ent_set_state d a v) = cg_jTime d := rfl
theorem G_jTime_ent_set_made (d : CS) (a : Nat) (v : Int64) : cg_jTime (ent_set_made d a v) = cg_jTime d := rfl
theorem G_lines_cs_inSize (d : CS) (v : Int32) : cg_lines (cs_inSize d v) = cg_lines d := rfl
theorem G_lines_cs_inB (d : CS) (v : Nat → Int32) : cg_lines (cs_inB d v) = cg_lines d := rfl
theorem G_lines_cs_outSize (d : CS) (v : Int32) : cg_lines (cs_outSize d v) = cg_lines d := rfl
theorem G_lines_cs_outB (d : CS) (v : Nat → Int32) : cg_lines (cs_outB d v) = cg_lines d := rfl
theorem G_lines_cs_rqType (d : CS) (v : Int32) : cg_lines (cs_rqType d v) = cg_lines d := rfl
theorem G_lines_cs_rqMap (d : CS) (v : Int64) : cg_lines (cs_rqMap d v) = cg_lines d := rfl
theorem G_lines_cs_rqCard (d : CS) (v : Int64) : cg_lines (cs_rqCard d v) = cg_lines d := rfl
theorem G_lines_cs_rqSort (d : CS) (v : Int32) : cg_lines (cs_rqSort d v) = cg_lines d := rfl
theorem G_lines_cs_rqAmount (d : CS) (v : Int64) : cg_lines (cs_rqAmount d v) = cg_lines d := rfl
theorem G_lines_cs_rqTrace (d : CS) (v : Int32) : cg_lines (cs_rqTrace d v) = cg_lines d := rfl
theorem G_lines_cs_rqTerm (d : CS) (v : Int32) : cg_lines (cs_rqTerm d v) = cg_lines d := rfl
theorem G_lines_cs_rqStart (d : CS) (v : Int32) : cg_lines (cs_rqStart d v) = cg_lines d := rfl
theorem G_lines_cs_rqOrig (d : CS) (v : Int32) : cg_lines (cs_rqOrig d v) = cg_lines d := rfl
theorem G_lines_cs_rdPlace (d : CS) (v : Int32) : cg_lines (cs_rdPlace d v) = cg_lines d := rfl
theorem G_lines_cs_rdGood (d : CS) (v : Int32) : cg_lines (cs_rdGood d v) = cg_lines d := rfl
theorem G_lines_cs_cCount (d : CS) (v : Int32) : cg_lines (cs_cCount d v) = cg_lines d := rfl
theorem G_lines_cs_accs (d : CS) (v : Nat → Option Nat) : cg_lines (cs_accs d v) = cg_lines d := rfl
theorem G_lines_cs_jSize (d : CS) (v : Int32) : cg_lines (cs_jSize d v) = cg_lines d := rfl
theorem G_lines_cs_jTime (d : CS) (v : Int64) : cg_lines (cs_jTime d v) = cg_lines d := rfl
theorem G_lines_cs_setSum (d : CS) (v : Int64) : cg_lines (cs_setSum d v) = cg_lines d := rfl
theorem G_lines_cs_setNow (d : CS) (v : Int64) : cg_lines (cs_setNow d v) = cg_lines d := rfl
theorem G_lines_cs_acc (d : CS) (v : Nat → CA) : cg_lines (cs_acc d v) = cg_lines d := rfl
theorem G_lines_cs_ent (d : CS) (v : Nat → CE) : cg_lines (cs_ent d v) = cg_lines d := rfl
theorem G_lines_acc_set_card (d : CS) (a : Nat) (v : Int64) : cg_lines (acc_set_card d a v) = cg_lines d := rfl
theorem G_lines_acc_set_bal (d : CS) (a : Nat) (v : Int64) : cg_lines (acc_set_bal d a v) = cg_lines d := rfl
theorem G_lines_ent_set_type (d : CS) (a : Nat) (v : Int32) : cg_lines (ent_set_type d a v) = cg_lines d := rfl
theorem G_lines_ent_set_term (d : CS) (a : Nat) (v : Int32) : cg_lines (ent_set_term d a v) = cg_lines d := rfl
theorem G_lines_ent_set_trace (d : CS) (a : Nat) (v : Int32) : cg_lines (ent_set_trace d a v) = cg_lines d := rfl
theorem G_lines_ent_set_card (d : CS) (a : Nat) (v : Int64) : cg_lines (ent_set_card d a v) = cg_lines d := rfl
theorem G_lines_ent_set_kind (d : CS) (a : Nat) (v : Int32) : cg_lines (ent_set_kind d a v) = cg_lines d := rfl
theorem G_lines_ent_set_amount (d : CS) (a : Nat) (v : Int64) : cg_lines (ent_set_amount d a v) = cg_lines d := rfl
theorem G_lines_ent_set_answer (d : CS) (a : Nat) (v : Int32) : cg_lines (ent_set_answer d a v) = cg_lines d := rfl
theorem G_lines_ent_set_state (d : CS) (a : Nat) (v : Int32) : cg_lines (ent_set_state d a v) = cg_lines d := rfl
theorem G_lines_ent_set_made (d : CS) (a : Nat) (v : Int64) : cg_lines (ent_set_made d a v) = cg_lines d := rfl
theorem G_setSum_cs_inSize (d : CS) (v : Int32) : cg_setSum (cs_inSize d v) = cg_setSum d := rfl
theorem G_setSum_cs_inB (d : CS) (v : Nat → Int32) : cg_setSum (cs_inB d v) = cg_setSum d := rfl
theorem G_setSum_cs_outSize (d : CS) (v : Int32) : cg_setSum (cs_outSize d v) = cg_setSum d := rfl
theorem G_setSum_cs_outB (d : CS) (v : Nat → Int32) : cg_setSum (cs_outB d v) = cg_setSum d := rfl
theorem G_setSum_cs_rqType (d : CS) (v : Int32) : cg_setSum (cs_rqType d v) = cg_setSum d := rfl
theorem G_setSum_cs_rqMap (d : CS) (v : Int64) : cg_setSum (cs_rqMap d v) = cg_setSum d := rfl
theorem G_setSum_cs_rqCard (d : CS) (v : Int64) : cg_setSum (cs_rqCard d v) = cg_setSum d := rfl
theorem G_setSum_cs_rqSort (d : CS) (v : Int32) : cg_setSum (cs_rqSort d v) = cg_setSum d := rfl
theorem G_setSum_cs_rqAmount (d : CS) (v : Int64) : cg_setSum (cs_rqAmount d v) = cg_setSum d := rfl
theorem G_setSum_cs_rqTrace (d : CS) (v : Int32) : cg_setSum (cs_rqTrace d v) = cg_setSum d := rfl
theorem G_setSum_cs_rqTerm (d : CS) (v : Int32) : cg_setSum (cs_rqTerm d v) = cg_setSum d := rfl
theorem G_setSum_cs_rqStart (d : CS) (v : Int32) : cg_setSum (cs_rqStart d v) = cg_setSum d := rfl
theorem G_setSum_cs_rqOrig (d : CS) (v : Int32) : cg_setSum (cs_rqOrig d v) = cg_setSum d := rfl
theorem G_setSum_cs_rdPlace (d : CS) (v : Int32) : cg_setSum (cs_rdPlace d v) = cg_setSum d := rfl
theorem G_setSum_cs_rdGood (d : CS) (v : Int32) : cg_setSum (cs_rdGood d v) = cg_setSum d := rfl
theorem G_setSum_cs_cCount (d : CS) (v : Int32) : cg_setSum (cs_cCount d v) = cg_setSum d := rfl
theorem G_setSum_cs_accs (d : CS) (v : Nat → Option Nat) : cg_setSum (cs_accs d v) = cg_setSum d := rfl
theorem G_setSum_cs_jSize (d : CS) (v : Int32) : cg_setSum (cs_jSize d v) = cg_setSum d := rfl
theorem G_setSum_cs_jTime (d : CS) (v : Int64) : cg_setSum (cs_jTime d v) = cg_setSum d := rfl
theorem G_setSum_cs_lines (d : CS) (v : Nat → Option Nat) : cg_setSum (cs_lines d v) = cg_setSum d := rfl
theorem G_setSum_cs_setNow (d : CS) (v : Int64) : cg_setSum (cs_setNow d v) = cg_setSum d := rfl
theorem G_setSum_cs_acc (d : CS) (v : Nat → CA) : cg_setSum (cs_acc d v) = cg_setSum d := rfl
theorem G_setSum_cs_ent (d : CS) (v : Nat → CE) : cg_setSum (cs_ent d v) = cg_setSum d := rfl
theorem G_setSum_acc_set_card (d : CS) (a : Nat) (v : Int64) : cg_setSum (acc_set_card d a v) = cg_setSum d := rfl
theorem G_setSum_acc_set_bal (d : CS) (a : Nat) (v : Int64) : cg_setSum (acc_set_bal d a v) = cg_setSum d := rfl
theorem G_setSum_ent_set_type (d : CS) (a : Nat) (v : Int32) : cg_setSum (ent_set_type d a v) = cg_setSum d := rfl
theorem G_setSum_ent_set_term (d : CS) (a : Nat) (v : Int32) : cg_setSum (ent_set_term d a v) = cg_setSum d := rfl
theorem G_setSum_ent_set_trace (d : CS) (a : Nat) (v : Int32) : cg_setSum (ent_set_trace d a v) = cg_setSum d := rfl
theorem G_setSum_ent_set_card (d : CS) (a : Nat) (v : Int64) : cg_setSum (ent_set_card d a v) = cg_setSum d := rfl
theorem G_setSum_ent_set_kind (d : CS) (a : Nat) (v : Int32) : cg_setSum (ent_set_kind d a v) = cg_setSum d := rfl
theorem G_setSum_ent_set_amount (d : CS) (a : Nat) (v : Int64) : cg_setSum (ent_set_amount d a v) = cg_setSum d := rfl
theorem G_setSum_ent_set_answer (d : CS) (a : Nat) (v : Int32) : cg_setSum (ent_set_answer d a v) = cg_setSum d := rfl
theorem G_setSum_ent_set_state (d : CS) (a : Nat) (v : Int32) : cg_setSum (ent_set_state d a v) = cg_setSum d := rfl
theorem G_setSum_ent_set_made (d : CS) (a : Nat) (v : Int64) : cg_setSum (ent_set_made d a v) = cg_setSum d := rfl
theorem G_setNow_cs_inSize (d : CS) (v : Int32) : cg_setNow (cs_inSize d v) = cg_setNow d := rfl
theorem G_setNow_cs_inB (d : CS) (v : Nat → Int32) : cg_setNow (cs_inB d v) = cg_setNow d := rfl
theorem G_setNow_cs_outSize (d : CS) (v : Int32) : cg_setNow (cs_outSize d v) = cg_setNow d := rfl
theorem G_setNow_cs_outB (d : CS) (v : Nat → Int32) : cg_setNow (cs_outB d v) = cg_setNow d := rfl
theorem G_setNow_cs_rqType (d : CS) (v : Int32) : cg_setNow (cs_rqType d v) = cg_setNow d := rfl
theorem G_setNow_cs_rqMap (d : CS) (v : Int64) : cg_setNow (cs_rqMap d v) = cg_setNow d := rfl
theorem G_setNow_cs_rqCard (d : CS) (v : Int64) : cg_setNow (cs_rqCard d v) = cg_setNow d := rfl
theorem G_setNow_cs_rqSort (d : CS) (v : Int32) : cg_setNow (cs_rqSort d v) = cg_setNow d := rfl
theorem G_setNow_cs_rqAmount (d : CS) (v : Int64) : cg_setNow (cs_rqAmount d v) = cg_setNow d := rfl
theorem G_setNow_cs_rqTrace (d : CS) (v : Int32) : cg_setNow (cs_rqTrace d v) = cg_setNow d := rfl
theorem G_setNow_cs_rqTerm (d : CS) (v : Int32) : cg_setNow (cs_rqTerm d v) = cg_setNow d := rfl
theorem G_setNow_cs_rqStart (d : CS) (v : Int32) : cg_setNow (cs_rqStart d v) = cg_setNow d := rfl
theorem G_setNow_cs_rqOrig (d : CS) (v : Int32) : cg_setNow (cs_rqOrig d v) = cg_setNow d := rfl
theorem G_setNow_cs_rdPlace (d : CS) (v : Int32) : cg_setNow (cs_rdPlace d v) = cg_setNow d := rfl
theorem G_setNow_cs_rdGood (d : CS) (v : Int32) : cg_setNow (cs_rdGood d v) = cg_setNow d := rfl
theorem G_setNow_cs_cCount (d : CS) (v : Int32) : cg_setNow (cs_cCount d v) = cg_setNow d := rfl
theorem G_setNow_cs_accs (d : CS) (v : Nat → Option Nat) : cg_setNow (cs_accs d v) = cg_setNow d := rfl
theorem G_setNow_cs_jSize (d : CS) (v : Int32) : cg_setNow (cs_jSize d v) = cg_setNow d := rfl
theorem G_setNow_cs_jTime (d : CS) (v : Int64) : cg_setNow (cs_jTime d v) = cg_setNow d := rfl
theorem G_setNow_cs_lines (d : CS) (v : Nat → Option Nat) : cg_setNow (cs_lines d v) = cg_setNow d := rfl
theorem G_setNow_cs_setSum (d : CS) (v : Int64) : cg_setNow (cs_setSum d v) = cg_setNow d := rfl
theorem G_setNow_cs_acc (d : CS) (v : Nat → CA) : cg_setNow (cs_acc d v) = cg_setNow d := rfl
theorem G_setNow_cs_ent (d : CS) (v : Nat → CE) : cg_setNow (cs_ent d v) = cg_setNow d := rfl
theorem G_setNow_acc_set_card (d : CS) (a : Nat) (v : Int64) : cg_setNow (acc_set_card d a v) = cg_setNow d := rfl
theorem G_setNow_acc_set_bal (d : CS) (a : Nat) (v : Int64) : cg_setNow (acc_set_bal d a v) = cg_setNow d := rfl
theorem G_setNow_ent_set_type (d : CS) (a : Nat) (v : Int32) : cg_setNow (ent_set_type d a v) = cg_setNow d := rfl
theorem G_setNow_ent_set_term (d : CS) (a : Nat) (v : Int32) : cg_setNow (ent_set_term d a v) = cg_setNow d := rfl
theorem G_setNow_ent_set_trace (d : CS) (a : Nat) (v : Int32) : cg_setNow (ent_set_trace d a v) = cg_setNow d := rfl
theorem G_setNow_ent_set_card (d : CS) (a : Nat) (v : Int64) : cg_setNow (ent_set_card d a v) = cg_setNow d := rfl
theorem G_setNow_ent_set_kind (d : CS) (a : Nat) (v : Int32) : cg_setNow (ent_set_kind d a v) = cg_setNow d := rfl
theorem G_setNow_ent_set_amount (d : CS) (a : Nat) (v : Int64) : cg_setNow (ent_set_amount d a v) = cg_setNow d := rfl
theorem G_setNow_ent_set_answer (d : CS) (a : Nat) (v : Int32) : cg_setNow (ent_set_answer d a v) = cg_setNow d := rfl
theorem G_setNow_ent_set_state (d : CS) (a : Nat) (v : Int32) : cg_setNow (ent_set_state d a v) = cg_setNow d := rfl
theorem G_setNow_ent_set_made (d : CS) (a : Nat) (v : Int64) : cg_setNow (ent_set_made d a v) = cg_setNow d := rfl
theorem G_acc_cs_inSize (d : CS) (v : Int32) : cg_acc (cs_inSize d v) = cg_acc d := rfl
theorem G_acc_cs_inB (d : CS) (v : Nat → Int32) : cg_acc (cs_inB d v) = cg_acc d := rfl
theorem G_acc_cs_outSize (d : CS) (v : Int32) : cg_acc (cs_outSize d v) = cg_acc d := rfl
theorem G_acc_cs_outB (d : CS) (v : Nat → Int32) : cg_acc (cs_outB d v) = cg_acc d := rfl
theorem G_acc_cs_rqType (d : CS) (v : Int32) : cg_acc (cs_rqType d v) = cg_acc d := rfl
theorem G_acc_cs_rqMap (d : CS) (v : Int64) : cg_acc (cs_rqMap d v) = cg_acc d := rfl
theorem G_acc_cs_rqCard (d : CS) (v : Int64) : cg_acc (cs_rqCard d v) = cg_acc d := rfl
theorem G_acc_cs_rqSort (d : CS) (v : Int32) : cg_acc (cs_rqSort d v) = cg_acc d := rfl
theorem G_acc_cs_rqAmount (d : CS) (v : Int64) : cg_acc (cs_rqAmount d v) = cg_acc d := rfl
theorem G_acc_cs_rqTrace (d : CS) (v : Int32) : cg_acc (cs_rqTrace d v) = cg_acc d := rfl
theorem G_acc_cs_rqTerm (d : CS) (v : Int32) : cg_acc (cs_rqTerm d v) = cg_acc d := rfl
theorem G_acc_cs_rqStart (d : CS) (v : Int32) : cg_acc (cs_rqStart d v) = cg_acc d := rfl
theorem G_acc_cs_rqOrig (d : CS) (v : Int32) : cg_acc (cs_rqOrig d v) = cg_acc d := rfl
theorem G_acc_cs_rdPlace (d : CS) (v : Int32) : cg_acc (cs_rdPlace d v) = cg_acc d := rfl
theorem G_acc_cs_rdGood (d : CS) (v : Int32) : cg_acc (cs_rdGood d v) = cg_acc d := rfl
theorem G_acc_cs_cCount (d : CS) (v : Int32) : cg_acc (cs_cCount d v) = cg_acc d := rfl
theorem G_acc_cs_accs (d : CS) (v : Nat → Option Nat) : cg_acc (cs_accs d v) = cg_acc d := rfl
theorem G_acc_cs_jSize (d : CS) (v : Int32) : cg_acc (cs_jSize d v) = cg_acc d := rfl
theorem G_acc_cs_jTime (d : CS) (v : Int64) : cg_acc (cs_jTime d v) = cg_acc d := rfl
theorem G_acc_cs_lines (d : CS) (v : Nat → Option Nat) : cg_acc (cs_lines d v) = cg_acc d := rfl
theorem G_acc_cs_setSum (d : CS) (v : Int64) : cg_acc (cs_setSum d v) = cg_acc d := rfl
theorem G_acc_cs_setNow (d : CS) (v : Int64) : cg_acc (cs_setNow d v) = cg_acc d := rfl
theorem G_acc_cs_ent (d : CS) (v : Nat → CE) : cg_acc (cs_ent d v) = cg_acc d := rfl
theorem G_acc_ent_set_type (d : CS) (a : Nat) (v : Int32) : cg_acc (ent_set_type d a v) = cg_acc d := rfl
theorem G_acc_ent_set_term (d : CS) (a : Nat) (v : Int32) : cg_acc (ent_set_term d a v) = cg_acc d := rfl
theorem G_acc_ent_set_trace (d : CS) (a : Nat) (v : Int32) : cg_acc (ent_set_trace d a v) = cg_acc d := rfl
theorem G_acc_ent_set_card (d : CS) (a : Nat) (v : Int64) : cg_acc (ent_set_card d a v) = cg_acc d := rfl
theorem G_acc_ent_set_kind (d : CS) (a : Nat) (v : Int32) : cg_acc (ent_set_kind d a v) = cg_acc d := rfl
theorem G_acc_ent_set_amount (d : CS) (a : Nat) (v : Int64) : cg_acc (ent_set_amount d a v) = cg_acc d := rfl
theorem G_acc_ent_set_answer (d : CS) (a : Nat) (v : Int32) : cg_acc (ent_set_answer d a v) = cg_acc d := rfl
theorem G_acc_ent_set_state (d : CS) (a : Nat) (v : Int32) : cg_acc (ent_set_state d a v) = cg_acc d := rfl
theorem G_acc_ent_set_made (d : CS) (a : Nat) (v : Int64) : cg_acc (ent_set_made d a v) = cg_acc d := rfl
theorem G_ent_cs_inSize (d : CS) (v : Int32) : cg_ent (cs_inSize d v) = cg_ent d := rfl
theorem G_ent_cs_inB (d : CS) (v : Nat → Int32) : cg_ent (cs_inB d v) = cg_ent d := rfl
theorem G_ent_cs_outSize (d : CS) (v : Int32) : cg_ent (cs_outSize d v) = cg_ent d := rfl
theorem G_ent_cs_outB (d : CS) (v : Nat → Int32) : cg_ent (cs_outB d v) = cg_ent d := rfl
theorem G_ent_cs_rqType (d : CS) (v : Int32) : cg_ent (cs_rqType d v) = cg_ent d := rfl
theorem G_ent_cs_rqMap (d : CS) (v : Int64) : cg_ent (cs_rqMap d v) = cg_ent d := rfl
theorem G_ent_cs_rqCard (d : CS) (v : Int64) : cg_ent (cs_rqCard d v) = cg_ent d := rfl
theorem G_ent_cs_rqSort (d : CS) (v : Int32) : cg_ent (cs_rqSort d v) = cg_ent d := rfl
theorem G_ent_cs_rqAmount (d : CS) (v : Int64) : cg_ent (cs_rqAmount d v) = cg_ent d := rfl
theorem G_ent_cs_rqTrace (d : CS) (v : Int32) : cg_ent (cs_rqTrace d v) = cg_ent d := rfl
theorem G_ent_cs_rqTerm (d : CS) (v : Int32) : cg_ent (cs_rqTerm d v) = cg_ent d := rfl
theorem G_ent_cs_rqStart (d : CS) (v : Int32) : cg_ent (cs_rqStart d v) = cg_ent d := rfl
theorem G_ent_cs_rqOrig (d : CS) (v : Int32) : cg_ent (cs_rqOrig d v) = cg_ent d := rfl
theorem G_ent_cs_rdPlace (d : CS) (v : Int32) : cg_ent (cs_rdPlace d v) = cg_ent d := rfl
theorem G_ent_cs_rdGood (d : CS) (v : Int32) : cg_ent (cs_rdGood d v) = cg_ent d := rfl
theorem G_ent_cs_cCount (d : CS) (v : Int32) : cg_ent (cs_cCount d v) = cg_ent d := rfl
theorem G_ent_cs_accs (d : CS) (v : Nat → Option Nat) : cg_ent (cs_accs d v) = cg_ent d := rfl
theorem G_ent_cs_jSize (d : CS) (v : Int32) : cg_ent (cs_jSize d v) = cg_ent d := rfl
theorem G_ent_cs_jTime (d : CS) (v : Int64) : cg_ent (cs_jTime d v) = cg_ent d := rfl
theorem G_ent_cs_lines (d : CS) (v : Nat → Option Nat) : cg_ent (cs_lines d v) = cg_ent d := rfl
theorem G_ent_cs_setSum (d : CS) (v : Int64) : cg_ent (cs_setSum d v) = cg_ent d := rfl
theorem G_ent_cs_setNow (d : CS) (v : Int64) : cg_ent (cs_setNow d v) = cg_ent d := rfl
theorem G_ent_cs_acc (d : CS) (v : Nat → CA) : cg_ent (cs_acc d v) = cg_ent d := rfl
theorem G_ent_acc_set_card (d : CS) (a : Nat) (v : Int64) : cg_ent (acc_set_card d a v) = cg_ent d := rfl
theorem G_ent_acc_set_bal (d : CS) (a : Nat) (v : Int64) : cg_ent (acc_set_bal d a v) = cg_ent d := rfl
theorem G_cards_ms_balances (d : MS) (v : Nat → Int64) : mg_cards (ms_balances d v) = mg_cards d := rfl
theorem G_cards_ms_many (d : MS) (v : Int32) : mg_cards (ms_many d v) = mg_cards d := rfl
theorem G_cards_ms_now (d : MS) (v : Int32) : mg_cards (ms_now d v) = mg_cards d := rfl
theorem G_cards_ms_in (d : MS) (v : Nat → Int32) : mg_cards (ms_in d v) = mg_cards d := rfl
theorem G_cards_ms_ins (d : MS) (v : Int32) : mg_cards (ms_ins d v) = mg_cards d := rfl
theorem G_cards_ms_out (d : MS) (v : Nat → Int32) : mg_cards (ms_out d v) = mg_cards d := rfl
theorem G_cards_ms_outs (d : MS) (v : Int32) : mg_cards (ms_outs d v) = mg_cards d := rfl
theorem G_cards_ms_at (d : MS) (v : Int32) : mg_cards (ms_at d v) = mg_cards d := rfl
theorem G_cards_ms_value (d : MS) (v : Int64) : mg_cards (ms_value d v) = mg_cards d := rfl
theorem G_cards_ms_has (d : MS) (v : Nat → Int32) : mg_cards (ms_has d v) = mg_cards d := rfl
theorem G_cards_ms_from (d : MS) (v : Nat → Int32) : mg_cards (ms_from d v) = mg_cards d := rfl
theorem G_cards_ms_to (d : MS) (v : Nat → Int32) : mg_cards (ms_to d v) = mg_cards d := rfl
theorem G_cards_ms_type (d : MS) (v : Int32) : mg_cards (ms_type d v) = mg_cards d := rfl
theorem G_cards_ms_card (d : MS) (v : Int64) : mg_cards (ms_card d v) = mg_cards d := rfl
theorem G_cards_ms_sort (d : MS) (v : Int32) : mg_cards (ms_sort d v) = mg_cards d := rfl
theorem G_cards_ms_amount (d : MS) (v : Int64) : mg_cards (ms_amount d v) = mg_cards d := rfl
theorem G_cards_ms_trace (d : MS) (v : Int32) : mg_cards (ms_trace d v) = mg_cards d := rfl
theorem G_cards_ms_terminal (d : MS) (v : Int32) : mg_cards (ms_terminal d v) = mg_cards d := rfl
theorem G_cards_ms_original (d : MS) (v : Int32) : mg_cards (ms_original d v) = mg_cards d := rfl
theorem G_cards_ms_entries (d : MS) (v : Int32) : mg_cards (ms_entries d v) = mg_cards d := rfl
theorem G_cards_ms_types (d : MS) (v : Nat → Int32) : mg_cards (ms_types d v) = mg_cards d := rfl
theorem G_cards_ms_terminals (d : MS) (v : Nat → Int32) : mg_cards (ms_terminals d v) = mg_cards d := rfl
theorem G_cards_ms_traces (d : MS) (v : Nat → Int32) : mg_cards (ms_traces d v) = mg_cards d := rfl
theorem G_cards_ms_whose (d : MS) (v : Nat → Int64) : mg_cards (ms_whose d v) = mg_cards d := rfl
theorem G_cards_ms_sorts (d : MS) (v : Nat → Int32) : mg_cards (ms_sorts d v) = mg_cards d := rfl
theorem G_cards_ms_amounts (d : MS) (v : Nat → Int64) : mg_cards (ms_amounts d v) = mg_cards d := rfl
theorem G_cards_ms_answers (d : MS) (v : Nat → Int32) : mg_cards (ms_answers d v) = mg_cards d := rfl
theorem G_cards_ms_marks (d : MS) (v : Nat → Int32) : mg_cards (ms_marks d v) = mg_cards d := rfl
theorem G_cards_ms_made (d : MS) (v : Nat → Int32) : mg_cards (ms_made d v) = mg_cards d := rfl
theorem G_cards_ms_settled (d : MS) (v : Int64) : mg_cards (ms_settled d v) = mg_cards d := rfl
theorem G_cards_ms_closed (d : MS) (v : Int64) : mg_cards (ms_closed d v) = mg_cards d := rfl
theorem G_balances_ms_cards (d : MS) (v : Nat → Int64) : mg_balances (ms_cards d v) = mg_balances d := rfl
theorem G_balances_ms_many (d : MS) (v : Int32) : mg_balances (ms_many d v) = mg_balances d := rfl
theorem G_balances_ms_now (d : MS) (v : Int32) : mg_balances (ms_now d v) = mg_balances d := rfl
theorem G_balances_ms_in (d : MS) (v : Nat → Int32) : mg_balances (ms_in d v) = mg_balances d := rfl
theorem G_balances_ms_ins (d : MS) (v : Int32) : mg_balances (ms_ins d v) = mg_balances d := rfl
theorem G_balances_ms_out (d : MS) (v : Nat → Int32) : mg_balances (ms_out d v) = mg_balances d := rfl
theorem G_balances_ms_outs (d : MS) (v : Int32) : mg_balances (ms_outs d v) = mg_balances d := rfl
theorem G_balances_ms_at (d : MS) (v : Int32) : mg_balances (ms_at d v) = mg_balances d := rfl
theorem G_balances_ms_value (d : MS) (v : Int64) : mg_balances (ms_value d v) = mg_balances d := rfl
theorem G_balances_ms_has (d : MS) (v : Nat → Int32) : mg_balances (ms_has d v) = mg_balances d := rfl
theorem G_balances_ms_from (d : MS) (v : Nat → Int32) : mg_balances (ms_from d v) = mg_balances d := rfl
theorem G_balances_ms_to (d : MS) (v : Nat → Int32) : mg_balances (ms_to d v) = mg_balances d := rfl
theorem G_balances_ms_type (d : MS) (v : Int32) : mg_balances (ms_type d v) = mg_balances d := rfl
theorem G_balances_ms_card (d : MS) (v : Int64) : mg_balances (ms_card d v) = mg_balances d := rfl
theorem G_balances_ms_sort (d : MS) (v : Int32) : mg_balances (ms_sort d v) = mg_balances d := rfl
theorem G_balances_ms_amount (d : MS) (v : Int64) : mg_balances (ms_amount d v) = mg_balances d := rfl
theorem G_balances_ms_trace (d : MS) (v : Int32) : mg_balances (ms_trace d v) = mg_balances d := rfl
theorem G_balances_ms_terminal (d : MS) (v : Int32) : mg_balances (ms_terminal d v) = mg_balances d := rfl
theorem G_balances_ms_original (d : MS) (v : Int32) : mg_balances (ms_original d v) = mg_balances d := rfl
theorem G_balances_ms_entries (d : MS) (v : Int32) : mg_balances (ms_entries d v) = mg_balances d := rfl
theorem G_balances_ms_types (d : MS) (v : Nat → Int32) : mg_balances (ms_types d v) = mg_balances d := rfl
theorem G_balances_ms_terminals (d : MS) (v : Nat → Int32) : mg_balances (ms_terminals d v) = mg_balances d := rfl
theorem G_balances_ms_traces (d : MS) (v : Nat → Int32) : mg_balances (ms_traces d v) = mg_balances d := rfl
theorem G_balances_ms_whose (d : MS) (v : Nat → Int64) : mg_balances (ms_whose d v) = mg_balances d := rfl
theorem G_balances_ms_sorts (d : MS) (v : Nat → Int32) : mg_balances (ms_sorts d v) = mg_balances d := rfl
theorem G_balances_ms_amounts (d : MS) (v : Nat → Int64) : mg_balances (ms_amounts d v) = mg_balances d := rfl
theorem G_balances_ms_answers (d : MS) (v : Nat → Int32) : mg_balances (ms_answers d v) = mg_balances d := rfl
theorem G_balances_ms_marks (d : MS) (v : Nat → Int32) : mg_balances (ms_marks d v) = mg_balances d := rfl
theorem G_balances_ms_made (d : MS) (v : Nat → Int32) : mg_balances (ms_made d v) = mg_balances d := rfl
theorem G_balances_ms_settled (d : MS) (v : Int64) : mg_balances (ms_settled d v) = mg_balances d := rfl
theorem G_balances_ms_closed (d : MS) (v : Int64) : mg_balances (ms_closed d v) = mg_balances d := rfl
theorem G_many_ms_cards (d : MS) (v : Nat → Int64) : mg_many (ms_cards d v) = mg_many d := rfl
theorem G_many_ms_balances (d : MS) (v : Nat → Int64) : mg_many (ms_balances d v) = mg_many d := rfl
theorem G_many_ms_now (d : MS) (v : Int32) : mg_many (ms_now d v) = mg_many d := rfl
theorem G_many_ms_in (d : MS) (v : Nat → Int32) : mg_many (ms_in d v) = mg_many d := rfl
theorem G_many_ms_ins (d : MS) (v : Int32) : mg_many (ms_ins d v) = mg_many d := rfl
theorem G_many_ms_out (d : MS) (v : Nat → Int32) : mg_many (ms_out d v) = mg_many d := rfl
theorem G_many_ms_outs (d : MS) (v : Int32) : mg_many (ms_outs d v) = mg_many d := rfl
theorem G_many_ms_at (d : MS) (v : Int32) : mg_many (ms_at d v) = mg_many d := rfl
theorem G_many_ms_value (d : MS) (v : Int64) : mg_many (ms_value d v) = mg_many d := rfl
theorem G_many_ms_has (d : MS) (v : Nat → Int32) : mg_many (ms_has d v) = mg_many d := rfl
theorem G_many_ms_from (d : MS) (v : Nat → Int32) : mg_many (ms_from d v) = mg_many d := rfl
theorem G_many_ms_to (d : MS) (v : Nat → Int32) : mg_many (ms_to d v) = mg_many d := rfl
theorem G_many_ms_type (d : MS) (v : Int32) : mg_many (ms_type d v) = mg_many d := rfl
theorem G_many_ms_card (d : MS) (v : Int64) : mg_many (ms_card d v) = mg_many d := rfl
theorem G_many_ms_sort (d : MS) (v : Int32) : mg_many (ms_sort d v) = mg_many d := rfl
theorem G_many_ms_amount (d : MS) (v : Int64) : mg_many (ms_amount d v) = mg_many d := rfl
theorem G_many_ms_trace (d : MS) (v : Int32) : mg_many (ms_trace d v) = mg_many d := rfl
theorem G_many_ms_terminal (d : MS) (v : Int32) : mg_many (ms_terminal d v) = mg_many d := rfl
theorem G_many_ms_original (d : MS) (v : Int32) : mg_many (ms_original d v) = mg_many d := rfl
theorem G_many_ms_entries (d : MS) (v : Int32) : mg_many (ms_entries d v) = mg_many d := rfl
theorem G_many_ms_types (d : MS) (v : Nat → Int32) : mg_many (ms_types d v) = mg_many d := rfl
theorem G_many_ms_terminals (d : MS) (v : Nat → Int32) : mg_many (ms_terminals d v) = mg_many d := rfl
theorem G_many_ms_traces (d : MS) (v : Nat → Int32) : mg_many (ms_traces d v) = mg_many d := rfl
theorem G_many_ms_whose (d : MS) (v : Nat → Int64) : mg_many (ms_whose d v) = mg_many d := rfl
theorem G_many_ms_sorts (d : MS) (v : Nat → Int32) : mg_many (ms_sorts d v) = mg_many d := rfl
theorem G_many_ms_amounts (d : MS) (v : Nat → Int64) : mg_many (ms_amounts d v) = mg_many d := rfl
theorem G_many_ms_answers (d : MS) (v : Nat → Int32) : mg_many (ms_answers d v) = mg_many d := rfl
theorem G_many_ms_marks (d : MS) (v : Nat → Int32) : mg_many (ms_marks d v) = mg_many d := rfl
theorem G_many_ms_made (d : MS) (v : Nat → Int32) : mg_many (ms_made d v) = mg_many d := rfl
theorem G_many_ms_settled (d : MS) (v : Int64) : mg_many (ms_settled d v) = mg_many d := rfl
theorem G_many_ms_closed (d : MS) (v : Int64) : mg_many (ms_closed d v) = mg_many d := rfl
theorem G_now_ms_cards (d : MS) (v : Nat → Int64) : mg_now (ms_cards d v) = mg_now d := rfl
theorem G_now_ms_balances (d : MS) (v : Nat → Int64) : mg_now (ms_balances d v) = mg_now d := rfl
theorem G_now_ms_many (d : MS) (v : Int32) : mg_now (ms_many d v) = mg_now d := rfl
theorem G_now_ms_in (d : MS) (v : Nat → Int32) : mg_now (ms_in d v) = mg_now d := rfl
theorem G_now_ms_ins (d : MS) (v : Int32) : mg_now (ms_ins d v) = mg_now d := rfl
theorem G_now_ms_out (d : MS) (v : Nat → Int32) : mg_now (ms_out d v) = mg_now d := rfl
theorem G_now_ms_outs (d : MS) (v : Int32) : mg_now (ms_outs d v) = mg_now d := rfl
theorem G_now_ms_at (d : MS) (v : Int32) : mg_now (ms_at d v) = mg_now d := rfl
theorem G_now_ms_value (d : MS) (v : Int64) : mg_now (ms_value d v) = mg_now d := rfl
theorem G_now_ms_has (d : MS) (v : Nat → Int32) : mg_now (ms_has d v) = mg_now d := rfl
theorem G_now_ms_from (d : MS) (v : Nat → Int32) : mg_now (ms_from d v) = mg_now d := rfl
theorem G_now_ms_to (d : MS) (v : Nat → Int32) : mg_now (ms_to d v) = mg_now d := rfl
theorem G_now_ms_type (d : MS) (v : Int32) : mg_now (ms_type d v) = mg_now d := rfl
theorem G_now_ms_card (d : MS) (v : Int64) : mg_now (ms_card d v) = mg_now d := rfl
theorem G_now_ms_sort (d : MS) (v : Int32) : mg_now (ms_sort d v) = mg_now d := rfl
theorem G_now_ms_amount (d : MS) (v : Int64) : mg_now (ms_amount d v) = mg_now d := rfl
theorem G_now_ms_trace (d : MS) (v : Int32) : mg_now (ms_trace d v) = mg_now d := rfl
theorem G_now_ms_terminal (d : MS) (v : Int32) : mg_now (ms_terminal d v) = mg_now d := rfl
theorem G_now_ms_original (d : MS) (v : Int32) : mg_now (ms_original d v) = mg_now d := rfl
theorem G_now_ms_entries (d : MS) (v : Int32) : mg_now (ms_entries d v) = mg_now d := rfl
theorem G_now_ms_types (d : MS) (v : Nat → Int32) : mg_now (ms_types d v) = mg_now d := rfl
theorem G_now_ms_terminals (d : MS) (v : Nat → Int32) : mg_now (ms_terminals d v) = mg_now d := rfl
theorem G_now_ms_traces (d : MS) (v : Nat → Int32) : mg_now (ms_traces d v) = mg_now d := rfl
theorem G_now_ms_whose (d : MS) (v : Nat → Int64) : mg_now (ms_whose d v) = mg_now d := rfl
theorem G_now_ms_sorts (d : MS) (v : Nat → Int32) : mg_now (ms_sorts d v) = mg_now d := rfl
theorem G_now_ms_amounts (d : MS) (v : Nat → Int64) : mg_now (ms_amounts d v) = mg_now d := rfl
theorem G_now_ms_answers (d : MS) (v : Nat → Int32) : mg_now (ms_answers d v) = mg_now d := rfl
theorem G_now_ms_marks (d : MS) (v : Nat → Int32) : mg_now (ms_marks d v) = mg_now d := rfl
theorem G_now_ms_made (d : MS) (v : Nat → Int32) : mg_now (ms_made d v) = mg_now d := rfl
theorem G_now_ms_settled (d : MS) (v : Int64) : mg_now (ms_settled d v) = mg_now d := rfl
theorem G_now_ms_closed (d : MS) (v : Int64) : mg_now (ms_closed d v) = mg_now d := rfl
theorem G_in_ms_cards (d : MS) (v : Nat → Int64) : mg_in (ms_cards d v) = mg_in d := rfl
theorem G_in_ms_balances (d : MS) (v : Nat → Int64) : mg_in (ms_balances d v) = mg_in d := rfl
theorem G_in_ms_many (d : MS) (v : Int32) : mg_in (ms_many d v) = mg_in d := rfl
theorem G_in_ms_now (d : MS) (v : Int32) : mg_in (ms_now d v) = mg_in d := rfl
theorem G_in_ms_ins (d : MS) (v : Int32) : mg_in (ms_ins d v) = mg_in d := rfl
theorem G_in_ms_out (d : MS) (v : Nat → Int32) : mg_in (ms_out d v) = mg_in d := rfl
theorem G_in_ms_outs (d : MS) (v : Int32) : mg_in (ms_outs d v) = mg_in d := rfl
theorem G_in_ms_at (d : MS) (v : Int32) : mg_in (ms_at d v) = mg_in d := rfl
theorem G_in_ms_value (d : MS) (v : Int64) : mg_in (ms_value d v) = mg_in d := rfl
theorem G_in_ms_has (d : MS) (v : Nat → Int32) : mg_in (ms_has d v) = mg_in d := rfl
theorem G_in_ms_from (d : MS) (v : Nat → Int32) : mg_in (ms_from d v) = mg_in d := rfl
theorem G_in_ms_to (d : MS) (v : Nat → Int32) : mg_in (ms_to d v) = mg_in d := rfl
theorem G_in_ms_type (d : MS) (v : Int32) : mg_in (ms_type d v) = mg_in d := rfl
theorem G_in_ms_card (d : MS) (v : Int64) : mg_in (ms_card d v) = mg_in d := rfl
theorem G_in_ms_sort (d : MS) (v : Int32) : mg_in (ms_sort d v) = mg_in d := rfl
theorem G_in_ms_amount (d : MS) (v : Int64) : mg_in (ms_amount d v) = mg_in d := rfl
theorem G_in_ms_trace (d : MS) (v : Int32) : mg_in (ms_trace d v) = mg_in d := rfl
theorem G_in_ms_terminal (d : MS) (v : Int32) : mg_in (ms_terminal d v) = mg_in d := rfl
theorem G_in_ms_original (d : MS) (v : Int32) : mg_in (ms_original d v) = mg_in d := rfl
theorem G_in_ms_entries (d : MS) (v : Int32) : mg_in (ms_entries d v) = mg_in d := rfl
theorem G_in_ms_types (d : MS) (v : Nat → Int32) : mg_in (ms_types d v) = mg_in d := rfl
theorem G_in_ms_terminals (d : MS) (v : Nat → Int32) : mg_in (ms_terminals d v) = mg_in d := rfl
theorem G_in_ms_traces (d : MS) (v : Nat → Int32) : mg_in (ms_traces d v) = mg_in d := rfl
theorem G_in_ms_whose (d : MS) (v : Nat → Int64) : mg_in (ms_whose d v) = mg_in d := rfl
theorem G_in_ms_sorts (d : MS) (v : Nat → Int32) : mg_in (ms_sorts d v) = mg_in d := rfl
theorem G_in_ms_amounts (d : MS) (v : Nat → Int64) : mg_in (ms_amounts d v) = mg_in d := rfl
theorem G_in_ms_answers (d : MS) (v : Nat → Int32) : mg_in (ms_answers d v) = mg_in d := rfl
theorem G_in_ms_marks (d : MS) (v : Nat → Int32) : mg_in (ms_marks d v) = mg_in d := rfl
theorem G_in_ms_made (d : MS) (v : Nat → Int32) : mg_in (ms_made d v) = mg_in d := rfl
theorem G_in_ms_settled (d : MS) (v : Int64) : mg_in (ms_settled d v) = mg_in d := rfl
theorem G_in_ms_closed (d : MS) (v : Int64) : mg_in (ms_closed d v) = mg_in d := rfl
theorem G_ins_ms_cards (d : MS) (v : Nat → Int64) : mg_ins (ms_cards d v) = mg_ins d := rfl
theorem G_ins_ms_balances (d : MS) (v : Nat → Int64) : mg_ins (ms_balances d v) = mg_ins d := rfl
theorem G_ins_ms_many (d : MS) (v : Int32) : mg_ins (ms_many d v) = mg_ins d := rfl
theorem G_ins_ms_now (d : MS) (v : Int32) : mg_ins (ms_now d v) = mg_ins d := rfl
theorem G_ins_ms_in (d : MS) (v : Nat → Int32) : mg_ins (ms_in d v) = mg_ins d := rfl
theorem G_ins_ms_out (d : MS) (v : Nat → Int32) : mg_ins (ms_out d v) = mg_ins d := rfl
theorem G_ins_ms_outs (d : MS) (v : Int32) : mg_ins (ms_outs d v) = mg_ins d := rfl
theorem G_ins_ms_at (d : MS) (v : Int32) : mg_ins (ms_at d v) = mg_ins d := rfl
theorem G_ins_ms_value (d : MS) (v : Int64) : mg_ins (ms_value d v) = mg_ins d := rfl
theorem G_ins_ms_has (d : MS) (v : Nat → Int32) : mg_ins (ms_has d v) = mg_ins d := rfl
theorem G_ins_ms_from (d : MS) (v : Nat → Int32) : mg_ins (ms_from d v) = mg_ins d := rfl
theorem G_ins_ms_to (d : MS) (v : Nat → Int32) : mg_ins (ms_to d v) = mg_ins d := rfl
theorem G_ins_ms_type (d : MS) (v : Int32) : mg_ins (ms_type d v) = mg_ins d := rfl
theorem G_ins_ms_card (d : MS) (v : Int64) : mg_ins (ms_card d v) = mg_ins d := rfl
theorem G_ins_ms_sort (d : MS) (v : Int32) : mg_ins (ms_sort d v) = mg_ins d := rfl
theorem G_ins_ms_amount (d : MS) (v : Int64) : mg_ins (ms_amount d v) = mg_ins d := rfl
theorem G_ins_ms_trace (d : MS) (v : Int32) : mg_ins (ms_trace d v) = mg_ins d := rfl
theorem G_ins_ms_terminal (d : MS) (v : Int32) : mg_ins (ms_terminal d v) = mg_ins d := rfl
theorem G_ins_ms_original (d : MS) (v : Int32) : mg_ins (ms_original d v) = mg_ins d := rfl
theorem G_ins_ms_entries (d : MS) (v : Int32) : mg_ins (ms_entries d v) = mg_ins d := rfl
theorem G_ins_ms_types (d : MS) (v : Nat → Int32) : mg_ins (ms_types d v) = mg_ins d := rfl
theorem G_ins_ms_terminals (d : MS) (v : Nat → Int32) : mg_ins (ms_terminals d v) = mg_ins d := rfl
theorem G_ins_ms_traces (d : MS) (v : Nat → Int32) : mg_ins (ms_traces d v) = mg_ins d := rfl
theorem G_ins_ms_whose (d : MS) (v : Nat → Int64) : mg_ins (ms_whose d v) = mg_ins d := rfl
theorem G_ins_ms_sorts (d : MS) (v : Nat → Int32) : mg_ins (ms_sorts d v) = mg_ins d := rfl
theorem G_ins_ms_amounts (d : MS) (v : Nat → Int64) : mg_ins (ms_amounts d v) = mg_ins d := rfl
theorem G_ins_ms_answers (d : MS) (v : Nat → Int32) : mg_ins (ms_answers d v) = mg_ins d := rfl
theorem G_ins_ms_marks (d : MS) (v : Nat → Int32) : mg_ins (ms_marks d v) = mg_ins d := rfl
theorem G_ins_ms_made (d : MS) (v : Nat → Int32) : mg_ins (ms_made d v) = mg_ins d := rfl
theorem G_ins_ms_settled (d : MS) (v : Int64) : mg_ins (ms_settled d v) = mg_ins d := rfl
theorem G_ins_ms_closed (d : MS) (v : Int64) : mg_ins (ms_closed d v) = mg_ins d := rfl
theorem G_out_ms_cards (d : MS) (v : Nat → Int64) : mg_out (ms_cards d v) = mg_out d := rfl
theorem G_out_ms_balances (d : MS) (v : Nat → Int64) : mg_out (ms_balances d v) = mg_out d := rfl
theorem G_out_ms_many (d : MS) (v : Int32) : mg_out (ms_many d v) = mg_out d := rfl
theorem G_out_ms_now (d : MS) (v : Int32) : mg_out (ms_now d v) = mg_out d := rfl
theorem G_out_ms_in (d : MS) (v : Nat → Int32) : mg_out (ms_in d v) = mg_out d := rfl
theorem G_out_ms_ins (d : MS) (v : Int32) : mg_out (ms_ins d v) = mg_out d := rfl
theorem G_out_ms_outs (d : MS) (v : Int32) : mg_out (ms_outs d v) = mg_out d := rfl
theorem G_out_ms_at (d : MS) (v : Int32) : mg_out (ms_at d v) = mg_out d := rfl
theorem G_out_ms_value (d : MS) (v : Int64) : mg_out (ms_value d v) = mg_out d := rfl
theorem G_out_ms_has (d : MS) (v : Nat → Int32) : mg_out (ms_has d v) = mg_out d := rfl
theorem G_out_ms_from (d : MS) (v : Nat → Int32) : mg_out (ms_from d v) = mg_out d := rfl
theorem G_out_ms_to (d : MS) (v : Nat → Int32) : mg_out (ms_to d v) = mg_out d := rfl
theorem G_out_ms_type (d : MS) (v : Int32) : mg_out (ms_type d v) = mg_out d := rfl
theorem G_out_ms_card (d : MS) (v : Int64) : mg_out (ms_card d v) = mg_out d := rfl
theorem G_out_ms_sort (d : MS) (v : Int32) : mg_out (ms_sort d v) = mg_out d := rfl
theorem G_out_ms_amount (d : MS) (v : Int64) : mg_out (ms_amount d v) = mg_out d := rfl
theorem G_out_ms_trace (d : MS) (v : Int32) : mg_out (ms_trace d v) = mg_out d := rfl
theorem G_out_ms_terminal (d : MS) (v : Int32) : mg_out (ms_terminal d v) = mg_out d := rfl
theorem G_out_ms_original (d : MS) (v : Int32) : mg_out (ms_original d v) = mg_out d := rfl
theorem G_out_ms_entries (d : MS) (v : Int32) : mg_out (ms_entries d v) = mg_out d := rfl
theorem G_out_ms_types (d : MS) (v : Nat → Int32) : mg_out (ms_types d v) = mg_out d := rfl
theorem G_out_ms_terminals (d : MS) (v : Nat → Int32) : mg_out (ms_terminals d v) = mg_out d := rfl
theorem G_out_ms_traces (d : MS) (v : Nat → Int32) : mg_out (ms_traces d v) = mg_out d := rfl
theorem G_out_ms_whose (d : MS) (v : Nat → Int64) : mg_out (ms_whose d v) = mg_out d := rfl
theorem G_out_ms_sorts (d : MS) (v : Nat → Int32) : mg_out (ms_sorts d v) = mg_out d := rfl
theorem G_out_ms_amounts (d : MS) (v : Nat → Int64) : mg_out (ms_amounts d v) = mg_out d := rfl
theorem G_out_ms_answers (d : MS) (v : Nat → Int32) : mg_out (ms_answers d v) = mg_out d := rfl
theorem G_out_ms_marks (d : MS) (v : Nat → Int32) : mg_out (ms_marks d v) = mg_out d := rfl
theorem G_out_ms_made (d : MS) (v : Nat → Int32) : mg_out (ms_made d v) = mg_out d := rfl
theorem G_out_ms_settled (d : MS) (v : Int64) : mg_out (ms_settled d v) = mg_out d := rfl
theorem G_out_ms_closed (d : MS) (v : Int64) : mg_out (ms_closed d v) = mg_out d := rfl
theorem G_outs_ms_cards (d : MS) (v : Nat → Int64) : mg_outs (ms_cards d v) = mg_outs d := rfl
theorem G_outs_ms_balances (d : MS) (v : Nat → Int64) : mg_outs (ms_balances d v) = mg_outs d := rfl
theorem G_outs_ms_many (d : MS) (v : Int32) : mg_outs (ms_many d v) = mg_outs d := rfl
theorem G_outs_ms_now (d : MS) (v : Int32) : mg_outs (ms_now d v) = mg_outs d := rfl
theorem G_outs_ms_in (d : MS) (v : Nat → Int32) : mg_outs (ms_in d v) = mg_outs d := rfl
theorem G_outs_ms_ins (d : MS) (v : Int32) : mg_outs (ms_ins d v) = mg_outs d := rfl
theorem G_outs_ms_out (d : MS) (v : Nat → Int32) : mg_outs (ms_out d v) = mg_outs d := rfl
theorem G_outs_ms_at (d : MS) (v : Int32) : mg_outs (ms_at d v) = mg_outs d := rfl
theorem G_outs_ms_value (d : MS) (v : Int64) : mg_outs (ms_value d v) = mg_outs d := rfl
theorem G_outs_ms_has (d : MS) (v : Nat → Int32) : mg_outs (ms_has d v) = mg_outs d := rfl
theorem G_outs_ms_from (d : MS) (v : Nat → Int32) : mg_outs (ms_from d v) = mg_outs d := rfl
theorem G_outs_ms_to (d : MS) (v : Nat → Int32) : mg_outs (ms_to d v) = mg_outs d := rfl
theorem G_outs_ms_type (d : MS) (v : Int32) : mg_outs (ms_type d v) = mg_outs d := rfl
theorem G_outs_ms_card (d : MS) (v : Int64) : mg_outs (ms_card d v) = mg_outs d := rfl
theorem G_outs_ms_sort (d : MS) (v : Int32) : mg_outs (ms_sort d v) = mg_outs d := rfl
theorem G_outs_ms_amount (d : MS) (v : Int64) : mg_outs (ms_amount d v) = mg_outs d := rfl
theorem G_outs_ms_trace (d : MS) (v : Int32) : mg_outs (ms_trace d v) = mg_outs d := rfl
theorem G_outs_ms_terminal (d : MS) (v : Int32) : mg_outs (ms_terminal d v) = mg_outs d := rfl
theorem G_outs_ms_original (d : MS) (v : Int32) : mg_outs (ms_original d v) = mg_outs d := rfl
theorem G_outs_ms_entries (d : MS) (v : Int32) : mg_outs (ms_entries d v) = mg_outs d := rfl
theorem G_outs_ms_types (d : MS) (v : Nat → Int32) : mg_outs (ms_types d v) = mg_outs d := rfl
theorem G_outs_ms_terminals (d : MS) (v : Nat → Int32) : mg_outs (ms_terminals d v) = mg_outs d := rfl
theorem G_outs_ms_traces (d : MS) (v : Nat → Int32) : mg_outs (ms_traces d v) = mg_outs d := rfl
theorem G_outs_ms_whose (d : MS) (v : Nat → Int64) : mg_outs (ms_whose d v) = mg_outs d := rfl
theorem G_outs_ms_sorts (d : MS) (v : Nat → Int32) : mg_outs (ms_sorts d v) = mg_outs d := rfl
theorem G_outs_ms_amounts (d : MS) (v : Nat → Int64) : mg_outs (ms_amounts d v) = mg_outs d := rfl
theorem G_outs_ms_answers (d : MS) (v : Nat → Int32) : mg_outs (ms_answers d v) = mg_outs d := rfl
theorem G_outs_ms_marks (d : MS) (v : Nat → Int32) : mg_outs (ms_marks d v) = mg_outs d := rfl
theorem G_outs_ms_made (d : MS) (v : Nat → Int32) : mg_outs (ms_made d v) = mg_outs d := rfl
theorem G_outs_ms_settled (d : MS) (v : Int64) : mg_outs (ms_settled d v) = mg_outs d := rfl
theorem G_outs_ms_closed (d : MS) (v : Int64) : mg_outs (ms_closed d v) = mg_outs d := rfl
theorem G_at_ms_cards (d : MS) (v : Nat → Int64) : mg_at (ms_cards d v) = mg_at d := rfl
theorem G_at_ms_balances (d : MS) (v : Nat → Int64) : mg_at (ms_balances d v) = mg_at d := rfl
theorem G_at_ms_many (d : MS) (v : Int32) : mg_at (ms_many d v) = mg_at d := rfl
theorem G_at_ms_now (d : MS) (v : Int32) : mg_at (ms_now d v) = mg_at d := rfl
theorem G_at_ms_in (d : MS) (v : Nat → Int32) : mg_at (ms_in d v) = mg_at d := rfl
theorem G_at_ms_ins (d : MS) (v : Int32) : mg_at (ms_ins d v) = mg_at d := rfl
theorem G_at_ms_out (d : MS) (v : Nat → Int32) : mg_at (ms_out d v) = mg_at d := rfl
theorem G_at_ms_outs (d : MS) (v : Int32) : mg_at (ms_outs d v) = mg_at d := rfl
theorem G_at_ms_value (d : MS) (v : Int64) : mg_at (ms_value d v) = mg_at d := rfl
theorem G_at_ms_has (d : MS) (v : Nat → Int32) : mg_at (ms_has d v) = mg_at d := rfl
theorem G_at_ms_from (d : MS) (v : Nat → Int32) : mg_at (ms_from d v) = mg_at d := rfl
theorem G_at_ms_to (d : MS) (v : Nat → Int32) : mg_at (ms_to d v) = mg_at d := rfl
theorem G_at_ms_type (d : MS) (v : Int32) : mg_at (ms_type d v) = mg_at d := rfl
theorem G_at_ms_card (d : MS) (v : Int64) : mg_at (ms_card d v) = mg_at d := rfl
theorem G_at_ms_sort (d : MS) (v : Int32) : mg_at (ms_sort d v) = mg_at d := rfl
theorem G_at_ms_amount (d : MS) (v : Int64) : mg_at (ms_amount d v) = mg_at d := rfl
theorem G_at_ms_trace (d : MS) (v : Int32) : mg_at (ms_trace d v) = mg_at d := rfl
theorem G_at_ms_terminal (d : MS) (v : Int32) : mg_at (ms_terminal d v) = mg_at d := rfl
theorem G_at_ms_original (d : MS) (v : Int32) : mg_at (ms_original d v) = mg_at d := rfl
theorem G_at_ms_entries (d : MS) (v : Int32) : mg_at (ms_entries d v) = mg_at d := rfl
theorem G_at_ms_types (d : MS) (v : Nat → Int32) : mg_at (ms_types d v) = mg_at d := rfl
theorem G_at_ms_terminals (d : MS) (v : Nat → Int32) : mg_at (ms_terminals d v) = mg_at d := rfl
theorem G_at_ms_traces (d : MS) (v : Nat → Int32) : mg_at (ms_traces d v) = mg_at d := rfl
theorem G_at_ms_whose (d : MS) (v : Nat → Int64) : mg_at (ms_whose d v) = mg_at d := rfl
theorem G_at_ms_sorts (d : MS) (v : Nat → Int32) : mg_at (ms_sorts d v) = mg_at d := rfl
theorem G_at_ms_amounts (d : MS) (v : Nat → Int64) : mg_at (ms_amounts d v) = mg_at d := rfl
theorem G_at_ms_answers (d : MS) (v : Nat → Int32) : mg_at (ms_answers d v) = mg_at d := rfl
theorem G_at_ms_marks (d : MS) (v : Nat → Int32) : mg_at (ms_marks d v) = mg_at d := rfl
theorem G_at_ms_made (d : MS) (v : Nat → Int32) : mg_at (ms_made d v) = mg_at d := rfl
theorem G_at_ms_settled (d : MS) (v : Int64) : mg_at (ms_settled d v) = mg_at d := rfl
theorem G_at_ms_closed (d : MS) (v : Int64) : mg_at (ms_closed d v) = mg_at d := rfl
theorem G_value_ms_cards (d : MS) (v : Nat → Int64) : mg_value (ms_cards d v) = mg_value d := rfl
theorem G_value_ms_balances (d : MS) (v : Nat → Int64) : mg_value (ms_balances d v) = mg_value d := rfl
theorem G_value_ms_many (d : MS) (v : Int32) : mg_value (ms_many d v) = mg_value d := rfl
theorem G_value_ms_now (d : MS) (v : Int32) : mg_value (ms_now d v) = mg_value d := rfl
theorem G_value_ms_in (d : MS) (v : Nat → Int32) : mg_value (ms_in d v) = mg_value d := rfl
theorem G_value_ms_ins (d : MS) (v : Int32) : mg_value (ms_ins d v) = mg_value d := rfl
theorem G_value_ms_out (d : MS) (v : Nat → Int32) : mg_value (ms_out d v) = mg_value d := rfl
theorem G_value_ms_outs (d : MS) (v : Int32) : mg_value (ms_outs d v) = mg_value d := rfl
theorem G_value_ms_at (d : MS) (v : Int32) : mg_value (ms_at d v) = mg_value d := rfl
theorem G_value_ms_has (d : MS) (v : Nat → Int32) : mg_value (ms_has d v) = mg_value d := rfl
theorem G_value_ms_from (d : MS) (v : Nat → Int32) : mg_value (ms_from d v) = mg_value d := rfl
theorem G_value_ms_to (d : MS) (v : Nat → Int32) : mg_value (ms_to d v) = mg_value d := rfl
theorem G_value_ms_type (d : MS) (v : Int32) : mg_value (ms_type d v) = mg_value d := rfl
theorem G_value_ms_card (d : MS) (v : Int64) : mg_value (ms_card d v) = mg_value d := rfl
theorem G_value_ms_sort (d : MS) (v : Int32) : mg_value (ms_sort d v) = mg_value d := rfl
theorem G_value_ms_amount (d : MS) (v : Int64) : mg_value (ms_amount d v) = mg_value d := rfl
theorem G_value_ms_trace (d : MS) (v : Int32) : mg_value (ms_trace d v) = mg_value d := rfl
theorem G_value_ms_terminal (d : MS) (v : Int32) : mg_value (ms_terminal d v) = mg_value d := rfl
theorem G_value_ms_original (d : MS) (v : Int32) : mg_value (ms_original d v) = mg_value d := rfl
theorem G_value_ms_entries (d : MS) (v : Int32) : mg_value (ms_entries d v) = mg_value d := rfl
theorem G_value_ms_types (d : MS) (v : Nat → Int32) : mg_value (ms_types d v) = mg_value d := rfl
theorem G_value_ms_terminals (d : MS) (v : Nat → Int32) : mg_value (ms_terminals d v) = mg_value d := rfl
theorem G_value_ms_traces (d : MS) (v : Nat → Int32) : mg_value (ms_traces d v) = mg_value d := rfl
theorem G_value_ms_whose (d : MS) (v : Nat → Int64) : mg_value (ms_whose d v) = mg_value d := rfl
theorem G_value_ms_sorts (d : MS) (v : Nat → Int32) : mg_value (ms_sorts d v) = mg_value d := rfl
theorem G_value_ms_amounts (d : MS) (v : Nat → Int64) : mg_value (ms_amounts d v) = mg_value d := rfl
theorem G_value_ms_answers (d : MS) (v : Nat → Int32) : mg_value (ms_answers d v) = mg_value d := rfl
theorem G_value_ms_marks (d : MS) (v : Nat → Int32) : mg_value (ms_marks d v) = mg_value d := rfl
theorem G_value_ms_made (d : MS) (v : Nat → Int32) : mg_value (ms_made d v) = mg_value d := rfl
theorem G_value_ms_settled (d : MS) (v : Int64) : mg_value (ms_settled d v) = mg_value d := rfl
theorem G_value_ms_closed (d : MS) (v : Int64) : mg_value (ms_closed d v) = mg_value d := rfl
theorem G_has_ms_cards (d : MS) (v : Nat → Int64) : mg_has (ms_cards d v) = mg_has d := rfl
theorem G_has_ms_balances (d : MS) (v : Nat → Int64) : mg_has (ms_balances d v) = mg_has d := rfl
theorem G_has_ms_many (d : MS) (v : Int32) : mg_has (ms_many d v) = mg_has d := rfl
theorem G_has_ms_now (d : MS) (v : Int32) : mg_has (ms_now d v) = mg_has d := rfl
theorem G_has_ms_in (d : MS) (v : Nat → Int32) : mg_has (ms_in d v) = mg_has d := rfl
theorem G_has_ms_ins (d : MS) (v : Int32) : mg_has (ms_ins d v) = mg_has d := rfl
theorem G_has_ms_out (d : MS) (v : Nat → Int32) : mg_has (ms_out d v) = mg_has d := rfl
theorem G_has_ms_outs (d : MS) (v : Int32) : mg_has (ms_outs d v) = mg_has d := rfl
theorem G_has_ms_at (d : MS) (v : Int32) : mg_has (ms_at d v) = mg_has d := rfl
theorem G_has_ms_value (d : MS) (v : Int64) : mg_has (ms_value d v) = mg_has d := rfl
theorem G_has_ms_from (d : MS) (v : Nat → Int32) : mg_has (ms_from d v) = mg_has d := rfl
theorem G_has_ms_to (d : MS) (v : Nat → Int32) : mg_has (ms_to d v) = mg_has d := rfl
theorem G_has_ms_type (d : MS) (v : Int32) : mg_has (ms_type d v) = mg_has d := rfl
theorem G_has_ms_card (d : MS) (v : Int64) : mg_has (ms_card d v) = mg_has d := rfl
theorem G_has_ms_sort (d : MS) (v : Int32) : mg_has (ms_sort d v) = mg_has d := rfl
theorem G_has_ms_amount (d : MS) (v : Int64) : mg_has (ms_amount d v) = mg_has d := rfl
theorem G_has_ms_trace (d : MS) (v : Int32) : mg_has (ms_trace d v) = mg_has d := rfl
theorem G_has_ms_terminal (d : MS) (v : Int32) : mg_has (ms_terminal d v) = mg_has d := rfl
theorem G_has_ms_original (d : MS) (v : Int32) : mg_has (ms_original d v) = mg_has d := rfl
theorem G_has_ms_entries (d : MS) (v : Int32) : mg_has (ms_entries d v) = mg_has d := rfl
theorem G_has_ms_types (d : MS) (v : Nat → Int32) : mg_has (ms_types d v) = mg_has d := rfl
theorem G_has_ms_terminals (d : MS) (v : Nat → Int32) : mg_has (ms_terminals d v) = mg_has d := rfl
theorem G_has_ms_traces (d : MS) (v : Nat → Int32) : mg_has (ms_traces d v) = mg_has d := rfl
theorem G_has_ms_whose (d : MS) (v : Nat → Int64) : mg_has (ms_whose d v) = mg_has d := rfl
theorem G_has_ms_sorts (d : MS) (v : Nat → Int32) : mg_has (ms_sorts d v) = mg_has d := rfl
theorem G_has_ms_amounts (d : MS) (v : Nat → Int64) : mg_has (ms_amounts d v) = mg_has d := rfl
theorem G_has_ms_answers (d : MS) (v : Nat → Int32) : mg_has (ms_answers d v) = mg_has d := rfl
theorem G_has_ms_marks (d : MS) (v : Nat → Int32) : mg_has (ms_marks d v) = mg_has d := rfl
theorem G_has_ms_made (d : MS) (v : Nat → Int32) : mg_has (ms_made d v) = mg_has d := rfl
theorem G_has_ms_settled (d : MS) (v : Int64) : mg_has (ms_settled d v) = mg_has d := rfl
theorem G_has_ms_closed (d : MS) (v : Int64) : mg_has (ms_closed d v) = mg_has d := rfl
theorem G_from_ms_cards (d : MS) (v : Nat → Int64) : mg_from (ms_cards d v) = mg_from d := rfl
theorem G_from_ms_balances (d : MS) (v : Nat → Int64) : mg_from (ms_balances d v) = mg_from d := rfl
theorem G_from_ms_many (d : MS) (v : Int32) : mg_from (ms_many d v) = mg_from d := rfl
theorem G_from_ms_now (d : MS) (v : Int32) : mg_from (ms_now d v) = mg_from d := rfl
theorem G_from_ms_in (d : MS) (v : Nat → Int32) : mg_from (ms_in d v) = mg_from d := rfl
theorem G_from_ms_ins (d : MS) (v : Int32) : mg_from (ms_ins d v) = mg_from d := rfl
theorem G_from_ms_out (d : MS) (v : Nat → Int32) : mg_from (ms_out d v) = mg_from d := rfl
theorem G_from_ms_outs (d : MS) (v : Int32) : mg_from (ms_outs d v) = mg_from d := rfl
theorem G_from_ms_at (d : MS) (v : Int32) : mg_from (ms_at d v) = mg_from d := rfl
theorem G_from_ms_value (d : MS) (v : Int64) : mg_from (ms_value d v) = mg_from d := rfl
theorem G_from_ms_has (d : MS) (v : Nat → Int32) : mg_from (ms_has d v) = mg_from d := rfl
theorem G_from_ms_to (d : MS) (v : Nat → Int32) : mg_from (ms_to d v) = mg_from d := rfl
theorem G_from_ms_type (d : MS) (v : Int32) : mg_from (ms_type d v) = mg_from d := rfl
theorem G_from_ms_card (d : MS) (v : Int64) : mg_from (ms_card d v) = mg_from d := rfl
theorem G_from_ms_sort (d : MS) (v : Int32) : mg_from (ms_sort d v) = mg_from d := rfl
theorem G_from_ms_amount (d : MS) (v : Int64) : mg_from (ms_amount d v) = mg_from d := rfl
theorem G_from_ms_trace (d : MS) (v : Int32) : mg_from (ms_trace d v) = mg_from d := rfl
theorem G_from_ms_terminal (d : MS) (v : Int32) : mg_from (ms_terminal d v) = mg_from d := rfl
theorem G_from_ms_original (d : MS) (v : Int32) : mg_from (ms_original d v) = mg_from d := rfl
theorem G_from_ms_entries (d : MS) (v : Int32) : mg_from (ms_entries d v) = mg_from d := rfl
theorem G_from_ms_types (d : MS) (v : Nat → Int32) : mg_from (ms_types d v) = mg_from d := rfl
theorem G_from_ms_terminals (d : MS) (v : Nat → Int32) : mg_from (ms_terminals d v) = mg_from d := rfl
theorem G_from_ms_traces (d : MS) (v : Nat → Int32) : mg_from (ms_traces d v) = mg_from d := rfl
theorem G_from_ms_whose (d : MS) (v : Nat → Int64) : mg_from (ms_whose d v) = mg_from d := rfl
theorem G_from_ms_sorts (d : MS) (v : Nat → Int32) : mg_from (ms_sorts d v) = mg_from d := rfl
theorem G_from_ms_amounts (d : MS) (v : Nat → Int64) : mg_from (ms_amounts d v) = mg_from d := rfl
theorem G_from_ms_answers (d : MS) (v : Nat → Int32) : mg_from (ms_answers d v) = mg_from d := rfl
theorem G_from_ms_marks (d : MS) (v : Nat → Int32) : mg_from (ms_marks d v) = mg_from d := rfl
theorem G_from_ms_made (d : MS) (v : Nat → Int32) : mg_from (ms_made d v) = mg_from d := rfl
theorem G_from_ms_settled (d : MS) (v : Int64) : mg_from (ms_settled d v) = mg_from d := rfl
theorem G_from_ms_closed (d : MS) (v : Int64) : mg_from (ms_closed d v) = mg_from d := rfl
theorem G_to_ms_cards (d : MS) (v : Nat → Int64) : mg_to (ms_cards d v) = mg_to d := rfl
theorem G_to_ms_balances (d : MS) (v : Nat → Int64) : mg_to (ms_balances d v) = mg_to d := rfl
theorem G_to_ms_many (d : MS) (v : Int32) : mg_to (ms_many d v) = mg_to d := rfl
theorem G_to_ms_now (d : MS) (v : Int32) : mg_to (ms_now d v) = mg_to d := rfl
theorem G_to_ms_in (d : MS) (v : Nat → Int32) : mg_to (ms_in d v) = mg_to d := rfl
theorem G_to_ms_ins (d : MS) (v : Int32) : mg_to (ms_ins d v) = mg_to d := rfl
theorem G_to_ms_out (d : MS) (v : Nat → Int32) : mg_to (ms_out d v) = mg_to d := rfl
theorem G_to_ms_outs (d : MS) (v : Int32) : mg_to (ms_outs d v) = mg_to d := rfl
theorem G_to_ms_at (d : MS) (v : Int32) : mg_to (ms_at d v) = mg_to d := rfl
theorem G_to_ms_value (d : MS) (v : Int64) : mg_to (ms_value d v) = mg_to d := rfl
theorem G_to_ms_has (d : MS) (v : Nat → Int32) : mg_to (ms_has d v) = mg_to d := rfl
theorem G_to_ms_from (d : MS) (v : Nat → Int32) : mg_to (ms_from d v) = mg_to d := rfl
theorem G_to_ms_type (d : MS) (v : Int32) : mg_to (ms_type d v) = mg_to d := rfl
theorem G_to_ms_card (d : MS) (v : Int64) : mg_to (ms_card d v) = mg_to d := rfl
theorem G_to_ms_sort (d : MS) (v : Int32) : mg_to (ms_sort d v) = mg_to d := rfl
theorem G_to_ms_amount (d : MS) (v : Int64) : mg_to (ms_amount d v) = mg_to d := rfl
theorem G_to_ms_trace (d : MS) (v : Int32) : mg_to (ms_trace d v) = mg_to d := rfl
theorem G_to_ms_terminal (d : MS) (v : Int32) : mg_to (ms_terminal d v) = mg_to d := rfl
theorem G_to_ms_original (d : MS) (v : Int32) : mg_to (ms_original d v) = mg_to d := rfl
theorem G_to_ms_entries (d : MS) (v : Int32) : mg_to (ms_entries d v) = mg_to d := rfl
theorem G_to_ms_types (d : MS) (v : Nat → Int32) : mg_to (ms_types d v) = mg_to d := rfl
theorem G_to_ms_terminals (d : MS) (v : Nat → Int32) : mg_to (ms_terminals d v) = mg_to d := rfl
theorem G_to_ms_traces (d : MS) (v : Nat → Int32) : mg_to (ms_traces d v) = mg_to d := rfl
theorem G_to_ms_whose (d : MS) (v : Nat → Int64) : mg_to (ms_whose d v) = mg_to d := rfl
theorem G_to_ms_sorts (d : MS) (v : Nat → Int32) : mg_to (ms_sorts d v) = mg_to d := rfl
theorem G_to_ms_amounts (d : MS) (v : Nat → Int64) : mg_to (ms_amounts d v) = mg_to d := rfl
theorem G_to_ms_answers (d : MS) (v : Nat → Int32) : mg_to (ms_answers d v) = mg_to d := rfl
theorem G_to_ms_marks (d : MS) (v : Nat → Int32) : mg_to (ms_marks d v) = mg_to d := rfl
theorem G_to_ms_made (d : MS) (v : Nat → Int32) : mg_to (ms_made d v) = mg_to d := rfl
theorem G_to_ms_settled (d : MS) (v : Int64) : mg_to (ms_settled d v) = mg_to d := rfl
theorem G_to_ms_closed (d : MS) (v : Int64) : mg_to (ms_closed d v) = mg_to d := rfl
theorem G_type_ms_cards (d : MS) (v : Nat → Int64) : mg_type (ms_cards d v) = mg_type d := rfl
theorem G_type_ms_balances (d : MS) (v : Nat → Int64) : mg_type (ms_balances d v) = mg_type d := rfl
theorem G_type_ms_many (d : MS) (v : Int32) : mg_type (ms_many d v) = mg_type d := rfl
theorem G_type_ms_now (d : MS) (v : Int32) : mg_type (ms_now d v) = mg_type d := rfl
theorem G_type_ms_in (d : MS) (v : Nat → Int32) : mg_type (ms_in d v) = mg_type d := rfl
theorem G_type_ms_ins (d : MS) (v : Int32) : mg_type (ms_ins d v) = mg_type d := rfl
theorem G_type_ms_out (d : MS) (v : Nat → Int32) : mg_type (ms_out d v) = mg_type d := rfl
theorem G_type_ms_outs (d : MS) (v : Int32) : mg_type (ms_outs d v) = mg_type d := rfl
theorem G_type_ms_at (d : MS) (v : Int32) : mg_type (ms_at d v) = mg_type d := rfl
theorem G_type_ms_value (d : MS) (v : Int64) : mg_type (ms_value d v) = mg_type d := rfl
theorem G_type_ms_has (d : MS) (v : Nat → Int32) : mg_type (ms_has d v) = mg_type d := rfl
theorem G_type_ms_from (d : MS) (v : Nat → Int32) : mg_type (ms_from d v) = mg_type d := rfl
theorem G_type_ms_to (d : MS) (v : Nat → Int32) : mg_type (ms_to d v) = mg_type d := rfl
theorem G_type_ms_card (d : MS) (v : Int64) : mg_type (ms_card d v) = mg_type d := rfl
theorem G_type_ms_sort (d : MS) (v : Int32) : mg_type (ms_sort d v) = mg_type d := rfl
theorem G_type_ms_amount (d : MS) (v : Int64) : mg_type (ms_amount d v) = mg_type d := rfl
theorem G_type_ms_trace (d : MS) (v : Int32) : mg_type (ms_trace d v) = mg_type d := rfl
theorem G_type_ms_terminal (d : MS) (v : Int32) : mg_type (ms_terminal d v) = mg_type d := rfl
theorem G_type_ms_original (d : MS) (v : Int32) : mg_type (ms_original d v) = mg_type d := rfl
theorem G_type_ms_entries (d : MS) (v : Int32) : mg_type (ms_entries d v) = mg_type d := rfl
theorem G_type_ms_types (d : MS) (v : Nat → Int32) : mg_type (ms_types d v) = mg_type d := rfl
theorem G_type_ms_terminals (d : MS) (v : Nat → Int32) : mg_type (ms_terminals d v) = mg_type d := rfl
theorem G_type_ms_traces (d : MS) (v : Nat → Int32) : mg_type (ms_traces d v) = mg_type d := rfl
theorem G_type_ms_whose (d : MS) (v : Nat → Int64) : mg_type (ms_whose d v) = mg_type d := rfl
theorem G_type_ms_sorts (d : MS) (v : Nat → Int32) : mg_type (ms_sorts d v) = mg_type d := rfl
theorem G_type_ms_amounts (d : MS) (v : Nat → Int64) : mg_type (ms_amounts d v) = mg_type d := rfl
theorem G_type_ms_answers (d : MS) (v : Nat → Int32) : mg_type (ms_answers d v) = mg_type d := rfl
theorem G_type_ms_marks (d : MS) (v : Nat → Int32) : mg_type (ms_marks d v) = mg_type d := rfl
theorem G_type_ms_made (d : MS) (v : Nat → Int32) : mg_type (ms_made d v) = mg_type d := rfl
theorem G_type_ms_settled (d : MS) (v : Int64) : mg_type (ms_settled d v) = mg_type d := rfl
theorem G_type_ms_closed (d : MS) (v : Int64) : mg_type (ms_closed d v) = mg_type d := rfl
theorem G_card_ms_cards (d : MS) (v : Nat → Int64) : mg_card (ms_cards d v) = mg_card d := rfl
theorem G_card_ms_balances (d : MS) (v : Nat → Int64) : mg_card (ms_balances d v) = mg_card d := rfl
theorem G_card_ms_many (d : MS) (v : Int32) : mg_card (ms_many d v) = mg_card d := rfl
theorem G_card_ms_now (d : MS) (v : Int32) : mg_card (ms_now d v) = mg_card d := rfl
theorem G_card_ms_in (d : MS) (v : Nat → Int32) : mg_card (ms_in d v) = mg_card d := rfl
theorem G_card_ms_ins (d : MS) (v : Int32) : mg_card (ms_ins d v) = mg_card d := rfl
theorem G_card_ms_out (d : MS) (v : Nat → Int32) : mg_card (ms_out d v) = mg_card d := rfl
theorem G_card_ms_outs (d : MS) (v : Int32) : mg_card (ms_outs d v) = mg_card d := rfl
theorem G_card_ms_at (d : MS) (v : Int32) : mg_card (ms_at d v) = mg_card d := rfl
theorem G_card_ms_value (d : MS) (v : Int64) : mg_card (ms_value d v) = mg_card d := rfl
theorem G_card_ms_has (d : MS) (v : Nat → Int32) : mg_card (ms_has d v) = mg_card d := rfl
theorem G_card_ms_from (d : MS) (v : Nat → Int32) : mg_card (ms_from d v) = mg_card d := rfl
theorem G_card_ms_to (d : MS) (v : Nat → Int32) : mg_card (ms_to d v) = mg_card d := rfl
theorem G_card_ms_type (d : MS) (v : Int32) : mg_card (ms_type d v) = mg_card d := rfl
theorem G_card_ms_sort (d : MS) (v : Int32) : mg_card (ms_sort d v) = mg_card d := rfl
theorem G_card_ms_amount (d : MS) (v : Int64) : mg_card (ms_amount d v) = mg_card d := rfl
theorem G_card_ms_trace (d : MS) (v : Int32) : mg_card (ms_trace d v) = mg_card d := rfl
theorem G_card_ms_terminal (d : MS) (v : Int32) : mg_card (ms_terminal d v) = mg_card d := rfl
theorem G_card_ms_original (d : MS) (v : Int32) : mg_card (ms_original d v) = mg_card d := rfl
theorem G_card_ms_entries (d : MS) (v : Int32) : mg_card (ms_entries d v) = mg_card d := rfl
theorem G_card_ms_types (d : MS) (v : Nat → Int32) : mg_card (ms_types d v) = mg_card d := rfl
theorem G_card_ms_terminals (d : MS) (v : Nat → Int32) : mg_card (ms_terminals d v) = mg_card d := rfl
theorem G_card_ms_traces (d : MS) (v : Nat → Int32) : mg_card (ms_traces d v) = mg_card d := rfl
theorem G_card_ms_whose (d : MS) (v : Nat → Int64) : mg_card (ms_whose d v) = mg_card d := rfl
theorem G_card_ms_sorts (d : MS) (v : Nat → Int32) : mg_card (ms_sorts d v) = mg_card d := rfl
theorem G_card_ms_amounts (d : MS) (v : Nat → Int64) : mg_card (ms_amounts d v) = mg_card d := rfl
theorem G_card_ms_answers (d : MS) (v : Nat → Int32) : mg_card (ms_answers d v) = mg_card d := rfl
theorem G_card_ms_marks (d : MS) (v : Nat → Int32) : mg_card (ms_marks d v) = mg_card d := rfl
theorem G_card_ms_made (d : MS) (v : Nat → Int32) : mg_card (ms_made d v) = mg_card d := rfl
theorem G_card_ms_settled (d : MS) (v : Int64) : mg_card (ms_settled d v) = mg_card d := rfl
theorem G_card_ms_closed (d : MS) (v : Int64) : mg_card (ms_closed d v) = mg_card d := rfl
theorem G_sort_ms_cards (d : MS) (v : Nat → Int64) : mg_sort (ms_cards d v) = mg_sort d := rfl
theorem G_sort_ms_balances (d : MS) (v : Nat → Int64) : mg_sort (ms_balances d v) = mg_sort d := rfl
theorem G_sort_ms_many (d : MS) (v : Int32) : mg_sort (ms_many d v) = mg_sort d := rfl
theorem G_sort_ms_now (d : MS) (v : Int32) : mg_sort (ms_now d v) = mg_sort d := rfl
theorem G_sort_ms_in (d : MS) (v : Nat → Int32) : mg_sort (ms_in d v) = mg_sort d := rfl
theorem G_sort_ms_ins (d : MS) (v : Int32) : mg_sort (ms_ins d v) = mg_sort d := rfl
theorem G_sort_ms_out (d : MS) (v : Nat → Int32) : mg_sort (ms_out d v) = mg_sort d := rfl
theorem G_sort_ms_outs (d : MS) (v : Int32) : mg_sort (ms_outs d v) = mg_sort d := rfl
theorem G_sort_ms_at (d : MS) (v : Int32) : mg_sort (ms_at d v) = mg_sort d := rfl
theorem G_sort_ms_value (d : MS) (v : Int64) : mg_sort (ms_value d v) = mg_sort d := rfl
theorem G_sort_ms_has (d : MS) (v : Nat → Int32) : mg_sort (ms_has d v) = mg_sort d := rfl
theorem G_sort_ms_from (d : MS) (v : Nat → Int32) : mg_sort (ms_from d v) = mg_sort d := rfl
theorem G_sort_ms_to (d : MS) (v : Nat → Int32) : mg_sort (ms_to d v) = mg_sort d := rfl
theorem G_sort_ms_type (d : MS) (v : Int32) : mg_sort (ms_type d v) = mg_sort d := rfl
theorem G_sort_ms_card (d : MS) (v : Int64) : mg_sort (ms_card d v) = mg_sort d := rfl
theorem G_sort_ms_amount (d : MS) (v : Int64) : mg_sort (ms_amount d v) = mg_sort d := rfl
theorem G_sort_ms_trace (d : MS) (v : Int32) : mg_sort (ms_trace d v) = mg_sort d := rfl
theorem G_sort_ms_terminal (d : MS) (v : Int32) : mg_sort (ms_terminal d v) = mg_sort d := rfl
theorem G_sort_ms_original (d : MS) (v : Int32) : mg_sort (ms_original d v) = mg_sort d := rfl
theorem G_sort_ms_entries (d : MS) (v : Int32) : mg_sort (ms_entries d v) = mg_sort d := rfl
theorem G_sort_ms_types (d : MS) (v : Nat → Int32) : mg_sort (ms_types d v) = mg_sort d := rfl
theorem G_sort_ms_terminals (d : MS) (v : Nat → Int32) : mg_sort (ms_terminals d v) = mg_sort d := rfl
theorem G_sort_ms_traces (d : MS) (v : Nat → Int32) : mg_sort (ms_traces d v) = mg_sort d := rfl
theorem G_sort_ms_whose (d : MS) (v : Nat → Int64) : mg_sort (ms_whose d v) = mg_sort d := rfl
theorem G_sort_ms_sorts (d : MS) (v : Nat → Int32) : mg_sort (ms_sorts d v) = mg_sort d := rfl
theorem G_sort_ms_amounts (d : MS) (v : Nat → Int64) : mg_sort (ms_amounts d v) = mg_sort d := rfl
theorem G_sort_ms_answers (d : MS) (v : Nat → Int32) : mg_sort (ms_answers d v) = mg_sort d := rfl
theorem G_sort_ms_marks (d : MS) (v : Nat → Int32) : mg_sort (ms_marks d v) = mg_sort d := rfl
theorem G_sort_ms_made (d : MS) (v : Nat → Int32) : mg_sort (ms_made d v) = mg_sort d := rfl
theorem G_sort_ms_settled (d : MS) (v : Int64) : mg_sort (ms_settled d v) = mg_sort d := rfl
theorem G_sort_ms_closed (d : MS) (v : Int64) : mg_sort (ms_closed d v) = mg_sort d := rfl
theorem G_amount_ms_cards (d : MS) (v : Nat → Int64) : mg_amount (ms_cards d v) = mg_amount d := rfl
theorem G_amount_ms_balances (d : MS) (v : Nat → Int64) : mg_amount (ms_balances d v) = mg_amount d := rfl
theorem G_amount_ms_many (d : MS) (v : Int32) : mg_amount (ms_many d v) = mg_amount d := rfl
theorem G_amount_ms_now (d : MS) (v : Int32) : mg_amount (ms_now d v) = mg_amount d := rfl
theorem G_amount_ms_in (d : MS) (v : Nat → Int32) : mg_amount (ms_in d v) = mg_amount d := rfl
theorem G_amount_ms_ins (d : MS) (v : Int32) : mg_amount (ms_ins d v) = mg_amount d := rfl
theorem G_amount_ms_out (d : MS) (v : Nat → Int32) : mg_amount (ms_out d v) = mg_amount d := rfl
theorem G_amount_ms_outs (d : MS) (v : Int32) : mg_amount (ms_outs d v) = mg_amount d := rfl
theorem G_amount_ms_at (d : MS) (v : Int32) : mg_amount (ms_at d v) = mg_amount d := rfl
theorem G_amount_ms_value (d : MS) (v : Int64) : mg_amount (ms_value d v) = mg_amount d := rfl
theorem G_amount_ms_has (d : MS) (v : Nat → Int32) : mg_amount (ms_has d v) = mg_amount d := rfl
theorem G_amount_ms_from (d : MS) (v : Nat → Int32) : mg_amount (ms_from d v) = mg_amount d := rfl
theorem G_amount_ms_to (d : MS) (v : Nat → Int32) : mg_amount (ms_to d v) = mg_amount d := rfl
theorem G_amount_ms_type (d : MS) (v : Int32) : mg_amount (ms_type d v) = mg_amount d := rfl
theorem G_amount_ms_card (d : MS) (v : Int64) : mg_amount (ms_card d v) = mg_amount d := rfl
theorem G_amount_ms_sort (d : MS) (v : Int32) : mg_amount (ms_sort d v) = mg_amount d := rfl
theorem G_amount_ms_trace (d : MS) (v : Int32) : mg_amount (ms_trace d v) = mg_amount d := rfl
theorem G_amount_ms_terminal (d : MS) (v : Int32) : mg_amount (ms_terminal d v) = mg_amount d := rfl
theorem G_amount_ms_original (d : MS) (v : Int32) : mg_amount (ms_original d v) = mg_amount d := rfl
theorem G_amount_ms_entries (d : MS) (v : Int32) : mg_amount (ms_entries d v) = mg_amount d := rfl
theorem G_amount_ms_types (d : MS) (v : Nat → Int32) : mg_amount (ms_types d v) = mg_amount d := rfl
theorem G_amount_ms_terminals (d : MS) (v : Nat → Int32) : mg_amount (ms_terminals d v) = mg_amount d := rfl
theorem G_amount_ms_traces (d : MS) (v : Nat → Int32) : mg_amount (ms_traces d v) = mg_amount d := rfl
theorem G_amount_ms_whose (d : MS) (v : Nat → Int64) : mg_amount (ms_whose d v) = mg_amount d := rfl
theorem G_amount_ms_sorts (d : MS) (v : Nat → Int32) : mg_amount (ms_sorts d v) = mg_amount d := rfl
theorem G_amount_ms_amounts (d : MS) (v : Nat → Int64) : mg_amount (ms_amounts d v) = mg_amount d := rfl
theorem G_amount_ms_answers (d : MS) (v : Nat → Int32) : mg_amount (ms_answers d v) = mg_amount d := rfl
theorem G_amount_ms_marks (d : MS) (v : Nat → Int32) : mg_amount (ms_marks d v) = mg_amount d := rfl
theorem G_amount_ms_made (d : MS) (v : Nat → Int32) : mg_amount (ms_made d v) = mg_amount d := rfl
theorem G_amount_ms_settled (d : MS) (v : Int64) : mg_amount (ms_settled d v) = mg_amount d := rfl
theorem G_amount_ms_closed (d : MS) (v : Int64) : mg_amount (ms_closed d v) = mg_amount d := rfl
theorem G_trace_ms_cards (d : MS) (v : Nat → Int64) : mg_trace (ms_cards d v) = mg_trace d := rfl
theorem G_trace_ms_balances (d : MS) (v : Nat → Int64) : mg_trace (ms_balances d v) = mg_trace d := rfl
theorem G_trace_ms_many (d : MS) (v : Int32) : mg_trace (ms_many d v) = mg_trace d := rfl
theorem G_trace_ms_now (d : MS) (v : Int32) : mg_trace (ms_now d v) = mg_trace d := rfl
theorem G_trace_ms_in (d : MS) (v : Nat → Int32) : mg_trace (ms_in d v) = mg_trace d := rfl
theorem G_trace_ms_ins (d : MS) (v : Int32) : mg_trace (ms_ins d v) = mg_trace d := rfl
theorem G_trace_ms_out (d : MS) (v : Nat → Int32) : mg_trace (ms_out d v) = mg_trace d := rfl
theorem G_trace_ms_outs (d : MS) (v : Int32) : mg_trace (ms_outs d v) = mg_trace d := rfl
theorem G_trace_ms_at (d : MS) (v : Int32) : mg_trace (ms_at d v) = mg_trace d := rfl
theorem G_trace_ms_value (d : MS) (v : Int64) : mg_trace (ms_value d v) = mg_trace d := rfl
theorem G_trace_ms_has (d : MS) (v : Nat → Int32) : mg_trace (ms_has d v) = mg_trace d := rfl
theorem G_trace_ms_from (d : MS) (v : Nat → Int32) : mg_trace (ms_from d v) = mg_trace d := rfl
theorem G_trace_ms_to (d : MS) (v : Nat → Int32) : mg_trace (ms_to d v) = mg_trace d := rfl
theorem G_trace_ms_type (d : MS) (v : Int32) : mg_trace (ms_type d v) = mg_trace d := rfl
theorem G_trace_ms_card (d : MS) (v : Int64) : mg_trace (ms_card d v) = mg_trace d := rfl
theorem G_trace_ms_sort (d : MS) (v : Int32) : mg_trace (ms_sort d v) = mg_trace d := rfl
theorem G_trace_ms_amount (d : MS) (v : Int64) : mg_trace (ms_amount d v) = mg_trace d := rfl
theorem G_trace_ms_terminal (d : MS) (v : Int32) : mg_trace (ms_terminal d v) = mg_trace d := rfl
theorem G_trace_ms_original (d : MS) (v : Int32) : mg_trace (ms_original d v) = mg_trace d := rfl
theorem G_trace_ms_entries (d : MS) (v : Int32) : mg_trace (ms_entries d v) = mg_trace d := rfl
theorem G_trace_ms_types (d : MS) (v : Nat → Int32) : mg_trace (ms_types d v) = mg_trace d := rfl
theorem G_trace_ms_terminals (d : MS) (v : Nat → Int32) : mg_trace (ms_terminals d v) = mg_trace d := rfl
theorem G_trace_ms_traces (d : MS) (v : Nat → Int32) : mg_trace (ms_traces d v) = mg_trace d := rfl
theorem G_trace_ms_whose (d : MS) (v : Nat → Int64) : mg_trace (ms_whose d v) = mg_trace d := rfl
theorem G_trace_ms_sorts (d : MS) (v : Nat → Int32) : mg_trace (ms_sorts d v) = mg_trace d := rfl
theorem G_trace_ms_amounts (d : MS) (v : Nat → Int64) : mg_trace (ms_amounts d v) = mg_trace d := rfl
theorem G_trace_ms_answers (d : MS) (v : Nat → Int32) : mg_trace (ms_answers d v) = mg_trace d := rfl
theorem G_trace_ms_marks (d : MS) (v : Nat → Int32) : mg_trace (ms_marks d v) = mg_trace d := rfl
theorem G_trace_ms_made (d : MS) (v : Nat → Int32) : mg_trace (ms_made d v) = mg_trace d := rfl
theorem G_trace_ms_settled (d : MS) (v : Int64) : mg_trace (ms_settled d v) = mg_trace d := rfl
theorem G_trace_ms_closed (d : MS) (v : Int64) : mg_trace (ms_closed d v) = mg_trace d := rfl
theorem G_terminal_ms_cards (d : MS) (v : Nat → Int64) : mg_terminal (ms_cards d v) = mg_terminal d := rfl
theorem G_terminal_ms_balances (d : MS) (v : Nat → Int64) : mg_terminal (ms_balances d v) = mg_terminal d := rfl
theorem G_terminal_ms_many (d : MS) (v : Int32) : mg_terminal (ms_many d v) = mg_terminal d := rfl
theorem G_terminal_ms_now (d : MS) (v : Int32) : mg_terminal (ms_now d v) = mg_terminal d := rfl
theorem G_terminal_ms_in (d : MS) (v : Nat → Int32) : mg_terminal (ms_in d v) = mg_terminal d := rfl
theorem G_terminal_ms_ins (d : MS) (v : Int32) : mg_terminal (ms_ins d v) = mg_terminal d := rfl
theorem G_terminal_ms_out (d : MS) (v : Nat → Int32) : mg_terminal (ms_out d v) = mg_terminal d := rfl
theorem G_terminal_ms_outs (d : MS) (v : Int32) : mg_terminal (ms_outs d v) = mg_terminal d := rfl
theorem G_terminal_ms_at (d : MS) (v : Int32) : mg_terminal (ms_at d v) = mg_terminal d := rfl
theorem G_terminal_ms_value (d : MS) (v : Int64) : mg_terminal (ms_value d v) = mg_terminal d := rfl
theorem G_terminal_ms_has (d : MS) (v : Nat → Int32) : mg_terminal (ms_has d v) = mg_terminal d := rfl
theorem G_terminal_ms_from (d : MS) (v : Nat → Int32) : mg_terminal (ms_from d v) = mg_terminal d := rfl
theorem G_terminal_ms_to (d : MS) (v : Nat → Int32) : mg_terminal (ms_to d v) = mg_terminal d := rfl
theorem G_terminal_ms_type (d : MS) (v : Int32) : mg_terminal (ms_type d v) = mg_terminal d := rfl
theorem G_terminal_ms_card (d : MS) (v : Int64) : mg_terminal (ms_card d v) = mg_terminal d := rfl
theorem G_terminal_ms_sort (d : MS) (v : Int32) : mg_terminal (ms_sort d v) = mg_terminal d := rfl
theorem G_terminal_ms_amount (d : MS) (v : Int64) : mg_terminal (ms_amount d v) = mg_terminal d := rfl
theorem G_terminal_ms_trace (d : MS) (v : Int32) : mg_terminal (ms_trace d v) = mg_terminal d := rfl
theorem G_terminal_ms_original (d : MS) (v : Int32) : mg_terminal (ms_original d v) = mg_terminal d := rfl
theorem G_terminal_ms_entries (d : MS) (v : Int32) : mg_terminal (ms_entries d v) = mg_terminal d := rfl
theorem G_terminal_ms_types (d : MS) (v : Nat → Int32) : mg_terminal (ms_types d v) = mg_terminal d := rfl
theorem G_terminal_ms_terminals (d : MS) (v : Nat → Int32) : mg_terminal (ms_terminals d v) = mg_terminal d := rfl
theorem G_terminal_ms_traces (d : MS) (v : Nat → Int32) : mg_terminal (ms_traces d v) = mg_terminal d := rfl
theorem G_terminal_ms_whose (d : MS) (v : Nat → Int64) : mg_terminal (ms_whose d v) = mg_terminal d := rfl
theorem G_terminal_ms_sorts (d : MS) (v : Nat → Int32) : mg_terminal (ms_sorts d v) = mg_terminal d := rfl
theorem G_terminal_ms_amounts (d : MS) (v : Nat → Int64) : mg_terminal (ms_amounts d v) = mg_terminal d := rfl
theorem G_terminal_ms_answers (d : MS) (v : Nat → Int32) : mg_terminal (ms_answers d v) = mg_terminal d := rfl
theorem G_terminal_ms_marks (d : MS) (v : Nat → Int32) : mg_terminal (ms_marks d v) = mg_terminal d := rfl
theorem G_terminal_ms_made (d : MS) (v : Nat → Int32) : mg_terminal (ms_made d v) = mg_terminal d := rfl
theorem G_terminal_ms_settled (d : MS) (v : Int64) : mg_terminal (ms_settled d v) = mg_terminal d := rfl
theorem G_terminal_ms_closed (d : MS) (v : Int64) : mg_terminal (ms_closed d v) = mg_terminal d := rfl
theorem G_original_ms_cards (d : MS) (v : Nat → Int64) : mg_original (ms_cards d v) = mg_original d := rfl
theorem G_original_ms_balances (d : MS) (v : Nat → Int64) : mg_original (ms_balances d v) = mg_original d := rfl
theorem G_original_ms_many (d : MS) (v : Int32) : mg_original (ms_many d v) = mg_original d := rfl
theorem G_original_ms_now (d : MS) (v : Int32) : mg_original (ms_now d v) = mg_original d := rfl
theorem G_original_ms_in (d : MS) (v : Nat → Int32) : mg_original (ms_in d v) = mg_original d := rfl
theorem G_original_ms_ins (d : MS) (v : Int32) : mg_original (ms_ins d v) = mg_original d := rfl
theorem G_original_ms_out (d : MS) (v : Nat → Int32) : mg_original (ms_out d v) = mg_original d := rfl
theorem G_original_ms_outs (d : MS) (v : Int32) : mg_original (ms_outs d v) = mg_original d := rfl
theorem G_original_ms_at (d : MS) (v : Int32) : mg_original (ms_at d v) = mg_original d := rfl
theorem G_original_ms_value (d : MS) (v : Int64) : mg_original (ms_value d v) = mg_original d := rfl
theorem G_original_ms_has (d : MS) (v : Nat → Int32) : mg_original (ms_has d v) = mg_original d := rfl
theorem G_original_ms_from (d : MS) (v : Nat → Int32) : mg_original (ms_from d v) = mg_original d := rfl
theorem G_original_ms_to (d : MS) (v : Nat → Int32) : mg_original (ms_to d v) = mg_original d := rfl
theorem G_original_ms_type (d : MS) (v : Int32) : mg_original (ms_type d v) = mg_original d := rfl
theorem G_original_ms_card (d : MS) (v : Int64) : mg_original (ms_card d v) = mg_original d := rfl
theorem G_original_ms_sort (d : MS) (v : Int32) : mg_original (ms_sort d v) = mg_original d := rfl
theorem G_original_ms_amount (d : MS) (v : Int64) : mg_original (ms_amount d v) = mg_original d := rfl
theorem G_original_ms_trace (d : MS) (v : Int32) : mg_original (ms_trace d v) = mg_original d := rfl
theorem G_original_ms_terminal (d : MS) (v : Int32) : mg_original (ms_terminal d v) = mg_original d := rfl
theorem G_original_ms_entries (d : MS) (v : Int32) : mg_original (ms_entries d v) = mg_original d := rfl
theorem G_original_ms_types (d : MS) (v : Nat → Int32) : mg_original (ms_types d v) = mg_original d := rfl
theorem G_original_ms_terminals (d : MS) (v : Nat → Int32) : mg_original (ms_terminals d v) = mg_original d := rfl
theorem G_original_ms_traces (d : MS) (v : Nat → Int32) : mg_original (ms_traces d v) = mg_original d := rfl
theorem G_original_ms_whose (d : MS) (v : Nat → Int64) : mg_original (ms_whose d v) = mg_original d := rfl
theorem G_original_ms_sorts (d : MS) (v : Nat → Int32) : mg_original (ms_sorts d v) = mg_original d := rfl
theorem G_original_ms_amounts (d : MS) (v : Nat → Int64) : mg_original (ms_amounts d v) = mg_original d := rfl
theorem G_original_ms_answers (d : MS) (v : Nat → Int32) : mg_original (ms_answers d v) = mg_original d := rfl
theorem G_original_ms_marks (d : MS) (v : Nat → Int32) : mg_original (ms_marks d v) = mg_original d := rfl
theorem G_original_ms_made (d : MS) (v : Nat → Int32) : mg_original (ms_made d v) = mg_original d := rfl
theorem G_original_ms_settled (d : MS) (v : Int64) : mg_original (ms_settled d v) = mg_original d := rfl
theorem G_original_ms_closed (d : MS) (v : Int64) : mg_original (ms_closed d v) = mg_original d := rfl
theorem G_entries_ms_cards (d : MS) (v : Nat → Int64) : mg_entries (ms_cards d v) = mg_entries d := rfl
theorem G_entries_ms_balances (d : MS) (v : Nat → Int64) : mg_entries (ms_balances d v) = mg_entries d := rfl
theorem G_entries_ms_many (d : MS) (v : Int32) : mg_entries (ms_many d v) = mg_entries d := rfl
theorem G_entries_ms_now (d : MS) (v : Int32) : mg_entries (ms_now d v) = mg_entries d := rfl
theorem G_entries_ms_in (d : MS) (v : Nat → Int32) : mg_entries (ms_in d v) = mg_entries d := rfl
theorem G_entries_ms_ins (d : MS) (v : Int32) : mg_entries (ms_ins d v) = mg_entries d := rfl
theorem G_entries_ms_out (d : MS) (v : Nat → Int32) : mg_entries (ms_out d v) = mg_entries d := rfl
theorem G_entries_ms_outs (d : MS) (v : Int32) : mg_entries (ms_outs d v) = mg_entries d := rfl
theorem G_entries_ms_at (d : MS) (v : Int32) : mg_entries (ms_at d v) = mg_entries d := rfl
theorem G_entries_ms_value (d : MS) (v : Int64) : mg_entries (ms_value d v) = mg_entries d := rfl
theorem G_entries_ms_has (d : MS) (v : Nat → Int32) : mg_entries (ms_has d v) = mg_entries d := rfl
theorem G_entries_ms_from (d : MS) (v : Nat → Int32) : mg_entries (ms_from d v) = mg_entries d := rfl
theorem G_entries_ms_to (d : MS) (v : Nat → Int32) : mg_entries (ms_to d v) = mg_entries d := rfl
theorem G_entries_ms_type (d : MS) (v : Int32) : mg_entries (ms_type d v) = mg_entries d := rfl
theorem G_entries_ms_card (d : MS) (v : Int64) : mg_entries (ms_card d v) = mg_entries d := rfl
theorem G_entries_ms_sort (d : MS) (v : Int32) : mg_entries (ms_sort d v) = mg_entries d := rfl
theorem G_entries_ms_amount (d : MS) (v : Int64) : mg_entries (ms_amount d v) = mg_entries d := rfl
theorem G_entries_ms_trace (d : MS) (v : Int32) : mg_entries (ms_trace d v) = mg_entries d := rfl
theorem G_entries_ms_terminal (d : MS) (v : Int32) : mg_entries (ms_terminal d v) = mg_entries d := rfl
theorem G_entries_ms_original (d : MS) (v : Int32) : mg_entries (ms_original d v) = mg_entries d := rfl
theorem G_entries_ms_types (d : MS) (v : Nat → Int32) : mg_entries (ms_types d v) = mg_entries d := rfl
theorem G_entries_ms_terminals (d : MS) (v : Nat → Int32) : mg_entries (ms_terminals d v) = mg_entries d := rfl
theorem G_entries_ms_traces (d : MS) (v : Nat → Int32) : mg_entries (ms_traces d v) = mg_entries d := rfl
theorem G_entries_ms_whose (d : MS) (v : Nat → Int64) : mg_entries (ms_whose d v) = mg_entries d := rfl
theorem G_entries_ms_sorts (d : MS) (v : Nat → Int32) : mg_entries (ms_sorts d v) = mg_entries d := rfl
theorem G_entries_ms_amounts (d : MS) (v : Nat → Int64) : mg_entries (ms_amounts d v) = mg_entries d := rfl
theorem G_entries_ms_answers (d : MS) (v : Nat → Int32) : mg_entries (ms_answers d v) = mg_entries d := rfl
theorem G_entries_ms_marks (d : MS) (v : Nat → Int32) : mg_entries (ms_marks d v) = mg_entries d := rfl
theorem G_entries_ms_made (d : MS) (v : Nat → Int32) : mg_entries (ms_made d v) = mg_entries d := rfl
theorem G_entries_ms_settled (d : MS) (v : Int64) : mg_entries (ms_settled d v) = mg_entries d := rfl
theorem G_entries_ms_closed (d : MS) (v : Int64) : mg_entries (ms_closed d v) = mg_entries d := rfl
theorem G_types_ms_cards (d : MS) (v : Nat → Int64) : mg_types (ms_cards d v) = mg_types d := rfl
theorem G_types_ms_balances (d : MS) (v : Nat → Int64) : mg_types (ms_balances d v) = mg_types d := rfl
theorem G_types_ms_many (d : MS) (v : Int32) : mg_types (ms_many d v) = mg_types d := rfl
theorem G_types_ms_now (d : MS) (v : Int32) : mg_types (ms_now d v) = mg_types d := rfl
theorem G_types_ms_in (d : MS) (v : Nat → Int32) : mg_types (ms_in d v) = mg_types d := rfl
theorem G_types_ms_ins (d : MS) (v : Int32) : mg_types (ms_ins d v) = mg_types d := rfl
theorem G_types_ms_out (d : MS) (v : Nat → Int32) : mg_types (ms_out d v) = mg_types d := rfl
theorem G_types_ms_outs (d : MS) (v : Int32) : mg_types (ms_outs d v) = mg_types d := rfl
theorem G_types_ms_at (d : MS) (v : Int32) : mg_types (ms_at d v) = mg_types d := rfl
theorem G_types_ms_value (d : MS) (v : Int64) : mg_types (ms_value d v) = mg_types d := rfl
theorem G_types_ms_has (d : MS) (v : Nat → Int32) : mg_types (ms_has d v) = mg_types d := rfl
theorem G_types_ms_from (d : MS) (v : Nat → Int32) : mg_types (ms_from d v) = mg_types d := rfl
theorem G_types_ms_to (d : MS) (v : Nat → Int32) : mg_types (ms_to d v) = mg_types d := rfl
theorem G_types_ms_type (d : MS) (v : Int32) : mg_types (ms_type d v) = mg_types d := rfl
theorem G_types_ms_card (d : MS) (v : Int64) : mg_types (ms_card d v) = mg_types d := rfl
theorem G_types_ms_sort (d : MS) (v : Int32) : mg_types (ms_sort d v) = mg_types d := rfl
theorem G_types_ms_amount (d : MS) (v : Int64) : mg_types (ms_amount d v) = mg_types d := rfl
theorem G_types_ms_trace (d : MS) (v : Int32) : mg_types (ms_trace d v) = mg_types d := rfl
theorem G_types_ms_terminal (d : MS) (v : Int32) : mg_types (ms_terminal d v) = mg_types d := rfl
theorem G_types_ms_original (d : MS) (v : Int32) : mg_types (ms_original d v) = mg_types d := rfl
theorem G_types_ms_entries (d : MS) (v : Int32) : mg_types (ms_entries d v) = mg_types d := rfl
theorem G_types_ms_terminals (d : MS) (v : Nat → Int32) : mg_types (ms_terminals d v) = mg_types d := rfl
theorem G_types_ms_traces (d : MS) (v : Nat → Int32) : mg_types (ms_traces d v) = mg_types d := rfl
theorem G_types_ms_whose (d : MS) (v : Nat → Int64) : mg_types (ms_whose d v) = mg_types d := rfl
theorem G_types_ms_sorts (d : MS) (v : Nat → Int32) : mg_types (ms_sorts d v) = mg_types d := rfl
theorem G_types_ms_amounts (d : MS) (v : Nat → Int64) : mg_types (ms_amounts d v) = mg_types d := rfl
theorem G_types_ms_answers (d : MS) (v : Nat → Int32) : mg_types (ms_answers d v) = mg_types d := rfl
theorem G_types_ms_marks (d : MS) (v : Nat → Int32) : mg_types (ms_marks d v) = mg_types d := rfl
theorem G_types_ms_made (d : MS) (v : Nat → Int32) : mg_types (ms_made d v) = mg_types d := rfl
theorem G_types_ms_settled (d : MS) (v : Int64) : mg_types (ms_settled d v) = mg_types d := rfl
theorem G_types_ms_closed (d : MS) (v : Int64) : mg_types (ms_closed d v) = mg_types d := rfl
theorem G_terminals_ms_cards (d : MS) (v : Nat → Int64) : mg_terminals (ms_cards d v) = mg_terminals d := rfl
theorem G_terminals_ms_balances (d : MS) (v : Nat → Int64) : mg_terminals (ms_balances d v) = mg_terminals d := rfl
theorem G_terminals_ms_many (d : MS) (v : Int32) : mg_terminals (ms_many d v) = mg_terminals d := rfl
theorem G_terminals_ms_now (d : MS) (v : Int32) : mg_terminals (ms_now d v) = mg_terminals d := rfl
theorem G_terminals_ms_in (d : MS) (v : Nat → Int32) : mg_terminals (ms_in d v) = mg_terminals d := rfl
theorem G_terminals_ms_ins (d : MS) (v : Int32) : mg_terminals (ms_ins d v) = mg_terminals d := rfl
theorem G_terminals_ms_out (d : MS) (v : Nat → Int32) : mg_terminals (ms_out d v) = mg_terminals d := rfl
theorem G_terminals_ms_outs (d : MS) (v : Int32) : mg_terminals (ms_outs d v) = mg_terminals d := rfl
theorem G_terminals_ms_at (d : MS) (v : Int32) : mg_terminals (ms_at d v) = mg_terminals d := rfl
theorem G_terminals_ms_value (d : MS) (v : Int64) : mg_terminals (ms_value d v) = mg_terminals d := rfl
theorem G_terminals_ms_has (d : MS) (v : Nat → Int32) : mg_terminals (ms_has d v) = mg_terminals d := rfl
theorem G_terminals_ms_from (d : MS) (v : Nat → Int32) : mg_terminals (ms_from d v) = mg_terminals d := rfl
theorem G_terminals_ms_to (d : MS) (v : Nat → Int32) : mg_terminals (ms_to d v) = mg_terminals d := rfl
theorem G_terminals_ms_type (d : MS) (v : Int32) : mg_terminals (ms_type d v) = mg_terminals d := rfl
theorem G_terminals_ms_card (d : MS) (v : Int64) : mg_terminals (ms_card d v) = mg_terminals d := rfl
theorem G_terminals_ms_sort (d : MS) (v : Int32) : mg_terminals (ms_sort d v) = mg_terminals d := rfl
theorem G_terminals_ms_amount (d : MS) (v : Int64) : mg_terminals (ms_amount d v) = mg_terminals d := rfl
theorem G_terminals_ms_trace (d : MS) (v : Int32) : mg_terminals (ms_trace d v) = mg_terminals d := rfl
theorem G_terminals_ms_terminal (d : MS) (v : Int32) : mg_terminals (ms_terminal d v) = mg_terminals d := rfl
theorem G_terminals_ms_original (d : MS) (v : Int32) : mg_terminals (ms_original d v) = mg_terminals d := rfl
theorem G_terminals_ms_entries (d : MS) (v : Int32) : mg_terminals (ms_entries d v) = mg_terminals d := rfl
theorem G_terminals_ms_types (d : MS) (v : Nat → Int32) : mg_terminals (ms_types d v) = mg_terminals d := rfl
theorem G_terminals_ms_traces (d : MS) (v : Nat → Int32) : mg_terminals (ms_traces d v) = mg_terminals d := rfl
theorem G_terminals_ms_whose (d : MS) (v : Nat → Int64) : mg_terminals (ms_whose d v) = mg_terminals d := rfl
theorem G_terminals_ms_sorts (d : MS) (v : Nat → Int32) : mg_terminals (ms_sorts d v) = mg_terminals d := rfl
theorem G_terminals_ms_amounts (d : MS) (v : Nat → Int64) : mg_terminals (ms_amounts d v) = mg_terminals d := rfl
theorem G_terminals_ms_answers (d : MS) (v : Nat → Int32) : mg_terminals (ms_answers d v) = mg_terminals d := rfl
theorem G_terminals_ms_marks (d : MS) (v : Nat → Int32) : mg_terminals (ms_marks d v) = mg_terminals d := rfl
theorem G_terminals_ms_made (d : MS) (v : Nat → Int32) : mg_terminals (ms_made d v) = mg_terminals d := rfl
theorem G_terminals_ms_settled (d : MS) (v : Int64) : mg_terminals (ms_settled d v) = mg_terminals d := rfl
theorem G_terminals_ms_closed (d : MS) (v : Int64) : mg_terminals (ms_closed d v) = mg_terminals d := rfl
theorem G_traces_ms_cards (d : MS) (v : Nat → Int64) : mg_traces (ms_cards d v) = mg_traces d := rfl
theorem G_traces_ms_balances (d : MS) (v : Nat → Int64) : mg_traces (ms_balances d v) = mg_traces d := rfl
theorem G_traces_ms_many (d : MS) (v : Int32) : mg_traces (ms_many d v) = mg_traces d := rfl
theorem G_traces_ms_now (d : MS) (v : Int32) : mg_traces (ms_now d v) = mg_traces d := rfl
theorem G_traces_ms_in (d : MS) (v : Nat → Int32) : mg_traces (ms_in d v) = mg_traces d := rfl
theorem G_traces_ms_ins (d : MS) (v : Int32) : mg_traces (ms_ins d v) = mg_traces d := rfl
theorem G_traces_ms_out (d : MS) (v : Nat → Int32) : mg_traces (ms_out d v) = mg_traces d := rfl
theorem G_traces_ms_outs (d : MS) (v : Int32) : mg_traces (ms_outs d v) = mg_traces d := rfl
theorem G_traces_ms_at (d : MS) (v : Int32) : mg_traces (ms_at d v) = mg_traces d := rfl
theorem G_traces_ms_value (d : MS) (v : Int64) : mg_traces (ms_value d v) = mg_traces d := rfl
theorem G_traces_ms_has (d : MS) (v : Nat → Int32) : mg_traces (ms_has d v) = mg_traces d := rfl
theorem G_traces_ms_from (d : MS) (v : Nat → Int32) : mg_traces (ms_from d v) = mg_traces d := rfl
theorem G_traces_ms_to (d : MS) (v : Nat → Int32) : mg_traces (ms_to d v) = mg_traces d := rfl
theorem G_traces_ms_type (d : MS) (v : Int32) : mg_traces (ms_type d v) = mg_traces d := rfl
theorem G_traces_ms_card (d : MS) (v : Int64) : mg_traces (ms_card d v) = mg_traces d := rfl
theorem G_traces_ms_sort (d : MS) (v : Int32) : mg_traces (ms_sort d v) = mg_traces d := rfl
theorem G_traces_ms_amount (d : MS) (v : Int64) : mg_traces (ms_amount d v) = mg_traces d := rfl
theorem G_traces_ms_trace (d : MS) (v : Int32) : mg_traces (ms_trace d v) = mg_traces d := rfl
theorem G_traces_ms_terminal (d : MS) (v : Int32) : mg_traces (ms_terminal d v) = mg_traces d := rfl
theorem G_traces_ms_original (d : MS) (v : Int32) : mg_traces (ms_original d v) = mg_traces d := rfl
theorem G_traces_ms_entries (d : MS) (v : Int32) : mg_traces (ms_entries d v) = mg_traces d := rfl
theorem G_traces_ms_types (d : MS) (v : Nat → Int32) : mg_traces (ms_types d v) = mg_traces d := rfl
theorem G_traces_ms_terminals (d : MS) (v : Nat → Int32) : mg_traces (ms_terminals d v) = mg_traces d := rfl
theorem G_traces_ms_whose (d : MS) (v : Nat → Int64) : mg_traces (ms_whose d v) = mg_traces d := rfl
theorem G_traces_ms_sorts (d : MS) (v : Nat → Int32) : mg_traces (ms_sorts d v) = mg_traces d := rfl
theorem G_traces_ms_amounts (d : MS) (v : Nat → Int64) : mg_traces (ms_amounts d v) = mg_traces d := rfl
theorem G_traces_ms_answers (d : MS) (v : Nat → Int32) : mg_traces (ms_answers d v) = mg_traces d := rfl
theorem G_traces_ms_marks (d : MS) (v : Nat → Int32) : mg_traces (ms_marks d v) = mg_traces d := rfl
theorem G_traces_ms_made (d : MS) (v : Nat → Int32) : mg_traces (ms_made d v) = mg_traces d := rfl
theorem G_traces_ms_settled (d : MS) (v : Int64) : mg_traces (ms_settled d v) = mg_traces d := rfl
theorem G_traces_ms_closed (d : MS) (v : Int64) : mg_traces (ms_closed d v) = mg_traces d := rfl
theorem G_whose_ms_cards (d : MS) (v : Nat → Int64) : mg_whose (ms_cards d v) = mg_whose d := rfl
theorem G_whose_ms_balances (d : MS) (v : Nat → Int64) : mg_whose (ms_balances d v) = mg_whose d := rfl
theorem G_whose_ms_many (d : MS) (v : Int32) : mg_whose (ms_many d v) = mg_whose d := rfl
theorem G_whose_ms_now (d : MS) (v : Int32) : mg_whose (ms_now d v) = mg_whose d := rfl
theorem G_whose_ms_in (d : MS) (v : Nat → Int32) : mg_whose (ms_in d v) = mg_whose d := rfl
theorem G_whose_ms_ins (d : MS) (v : Int32) : mg_whose (ms_ins d v) = mg_whose d := rfl
theorem G_whose_ms_out (d : MS) (v : Nat → Int32) : mg_whose (ms_out d v) = mg_whose d := rfl
theorem G_whose_ms_outs (d : MS) (v : Int32) : mg_whose (ms_outs d v) = mg_whose d := rfl
theorem G_whose_ms_at (d : MS) (v : Int32) : mg_whose (ms_at d v) = mg_whose d := rfl
theorem G_whose_ms_value (d : MS) (v : Int64) : mg_whose (ms_value d v) = mg_whose d := rfl
theorem G_whose_ms_has (d : MS) (v : Nat → Int32) : mg_whose (ms_has d v) = mg_whose d := rfl
theorem G_whose_ms_from (d : MS) (v : Nat → Int32) : mg_whose (ms_from d v) = mg_whose d := rfl
theorem G_whose_ms_to (d : MS) (v : Nat → Int32) : mg_whose (ms_to d v) = mg_whose d := rfl
theorem G_whose_ms_type (d : MS) (v : Int32) : mg_whose (ms_type d v) = mg_whose d := rfl
theorem G_whose_ms_card (d : MS) (v : Int64) : mg_whose (ms_card d v) = mg_whose d := rfl
theorem G_whose_ms_sort (d : MS) (v : Int32) : mg_whose (ms_sort d v) = mg_whose d := rfl
theorem G_whose_ms_amount (d : MS) (v : Int64) : mg_whose (ms_amount d v) = mg_whose d := rfl
theorem G_whose_ms_trace (d : MS) (v : Int32) : mg_whose (ms_trace d v) = mg_whose d := rfl
theorem G_whose_ms_terminal (d : MS) (v : Int32) : mg_whose (ms_terminal d v) = mg_whose d := rfl
theorem G_whose_ms_original (d : MS) (v : Int32) : mg_whose (ms_original d v) = mg_whose d := rfl
theorem G_whose_ms_entries (d : MS) (v : Int32) : mg_whose (ms_entries d v) = mg_whose d := rfl
theorem G_whose_ms_types (d : MS) (v : Nat → Int32) : mg_whose (ms_types d v) = mg_whose d := rfl
theorem G_whose_ms_terminals (d : MS) (v : Nat → Int32) : mg_whose (ms_terminals d v) = mg_whose d := rfl
theorem G_whose_ms_traces (d : MS) (v : Nat → Int32) : mg_whose (ms_traces d v) = mg_whose d := rfl
theorem G_whose_ms_sorts (d : MS) (v : Nat → Int32) : mg_whose (ms_sorts d v) = mg_whose d := rfl
theorem G_whose_ms_amounts (d : MS) (v : Nat → Int64) : mg_whose (ms_amounts d v) = mg_whose d := rfl
theorem G_whose_ms_answers (d : MS) (v : Nat → Int32) : mg_whose (ms_answers d v) = mg_whose d := rfl
theorem G_whose_ms_marks (d : MS) (v : Nat → Int32) : mg_whose (ms_marks d v) = mg_whose d := rfl
theorem G_whose_ms_made (d : MS) (v : Nat → Int32) : mg_whose (ms_made d v) = mg_whose d := rfl
theorem G_whose_ms_settled (d : MS) (v : Int64) : mg_whose (ms_settled d v) = mg_whose d := rfl
theorem G_whose_ms_closed (d : MS) (v : Int64) : mg_whose (ms_closed d v) = mg_whose d := rfl
theorem G_sorts_ms_cards (d : MS) (v : Nat → Int64) : mg_sorts (ms_cards d v) = mg_sorts d := rfl
theorem G_sorts_ms_balances (d : MS) (v : Nat → Int64) : mg_sorts (ms_balances d v) = mg_sorts d := rfl
theorem G_sorts_ms_many (d : MS) (v : Int32) : mg_sorts (ms_many d v) = mg_sorts d := rfl
theorem G_sorts_ms_now (d : MS) (v : Int32) : mg_sorts (ms_now d v) = mg_sorts d := rfl
theorem G_sorts_ms_in (d : MS) (v : Nat → Int32) : mg_sorts (ms_in d v) = mg_sorts d := rfl
theorem G_sorts_ms_ins (d : MS) (v : Int32) : mg_sorts (ms_ins d v) = mg_sorts d := rfl
theorem G_sorts_ms_out (d : MS) (v : Nat → Int32) : mg_sorts (ms_out d v) = mg_sorts d := rfl
theorem G_sorts_ms_outs (d : MS) (v : Int32) : mg_sorts (ms_outs d v) = mg_sorts d := rfl
theorem G_sorts_ms_at (d : MS) (v : Int32) : mg_sorts (ms_at d v) = mg_sorts d := rfl
theorem G_sorts_ms_value (d : MS) (v : Int64) : mg_sorts (ms_value d v) = mg_sorts d := rfl
theorem G_sorts_ms_has (d : MS) (v : Nat → Int32) : mg_sorts (ms_has d v) = mg_sorts d := rfl
theorem G_sorts_ms_from (d : MS) (v : Nat → Int32) : mg_sorts (ms_from d v) = mg_sorts d := rfl
theorem G_sorts_ms_to (d : MS) (v : Nat → Int32) : mg_sorts (ms_to d v) = mg_sorts d := rfl
theorem G_sorts_ms_type (d : MS) (v : Int32) : mg_sorts (ms_type d v) = mg_sorts d := rfl
theorem G_sorts_ms_card (d : MS) (v : Int64) : mg_sorts (ms_card d v) = mg_sorts d := rfl
theorem G_sorts_ms_sort (d : MS) (v : Int32) : mg_sorts (ms_sort d v) = mg_sorts d := rfl
theorem G_sorts_ms_amount (d : MS) (v : Int64) : mg_sorts (ms_amount d v) = mg_sorts d := rfl
theorem G_sorts_ms_trace (d : MS) (v : Int32) : mg_sorts (ms_trace d v) = mg_sorts d := rfl
theorem G_sorts_ms_terminal (d : MS) (v : Int32) : mg_sorts (ms_terminal d v) = mg_sorts d := rfl
theorem G_sorts_ms_original (d : MS) (v : Int32) : mg_sorts (ms_original d v) = mg_sorts d := rfl
theorem G_sorts_ms_entries (d : MS) (v : Int32) : mg_sorts (ms_entries d v) = mg_sorts d := rfl
theorem G_sorts_ms_types (d : MS) (v : Nat → Int32) : mg_sorts (ms_types d v) = mg_sorts d := rfl
theorem G_sorts_ms_terminals (d : MS) (v : Nat → Int32) : mg_sorts (ms_terminals d v) = mg_sorts d := rfl
theorem G_sorts_ms_traces (d : MS) (v : Nat → Int32) : mg_sorts (ms_traces d v) = mg_sorts d := rfl
theorem G_sorts_ms_whose (d : MS) (v : Nat → Int64) : mg_sorts (ms_whose d v) = mg_sorts d := rfl
theorem G_sorts_ms_amounts (d : MS) (v : Nat → Int64) : mg_sorts (ms_amounts d v) = mg_sorts d := rfl
theorem G_sorts_ms_answers (d : MS) (v : Nat → Int32) : mg_sorts (ms_answers d v) = mg_sorts d := rfl
theorem G_sorts_ms_marks (d : MS) (v : Nat → Int32) : mg_sorts (ms_marks d v) = mg_sorts d := rfl
theorem G_sorts_ms_made (d : MS) (v : Nat → Int32) : mg_sorts (ms_made d v) = mg_sorts d := rfl
theorem G_sorts_ms_settled (d : MS) (v : Int64) : mg_sorts (ms_settled d v) = mg_sorts d := rfl
theorem G_sorts_ms_closed (d : MS) (v : Int64) : mg_sorts (ms_closed d v) = mg_sorts d := rfl
theorem G_amounts_ms_cards (d : MS) (v : Nat → Int64) : mg_amounts (ms_cards d v) = mg_amounts d := rfl
theorem G_amounts_ms_balances (d : MS) (v : Nat → Int64) : mg_amounts (ms_balances d v) = mg_amounts d := rfl
theorem G_amounts_ms_many (d : MS) (v : Int32) : mg_amounts (ms_many d v) = mg_amounts d := rfl
theorem G_amounts_ms_now (d : MS) (v : Int32) : mg_amounts (ms_now d v) = mg_amounts d := rfl
theorem G_amounts_ms_in (d : MS) (v : Nat → Int32) : mg_amounts (ms_in d v) = mg_amounts d := rfl
theorem G_amounts_ms_ins (d : MS) (v : Int32) : mg_amounts (ms_ins d v) = mg_amounts d := rfl
theorem G_amounts_ms_out (d : MS) (v : Nat → Int32) : mg_amounts (ms_out d v) = mg_amounts d := rfl
theorem G_amounts_ms_outs (d : MS) (v : Int32) : mg_amounts (ms_outs d v) = mg_amounts d := rfl
theorem G_amounts_ms_at (d : MS) (v : Int32) : mg_amounts (ms_at d v) = mg_amounts d := rfl
theorem G_amounts_ms_value (d : MS) (v : Int64) : mg_amounts (ms_value d v) = mg_amounts d := rfl
theorem G_amounts_ms_has (d : MS) (v : Nat → Int32) : mg_amounts (ms_has d v) = mg_amounts d := rfl
theorem G_amounts_ms_from (d : MS) (v : Nat → Int32) : mg_amounts (ms_from d v) = mg_amounts d := rfl
theorem G_amounts_ms_to (d : MS) (v : Nat → Int32) : mg_amounts (ms_to d v) = mg_amounts d := rfl
theorem G_amounts_ms_type (d : MS) (v : Int32) : mg_amounts (ms_type d v) = mg_amounts d := rfl
theorem G_amounts_ms_card (d : MS) (v : Int64) : mg_amounts (ms_card d v) = mg_amounts d := rfl
theorem G_amounts_ms_sort (d : MS) (v : Int32) : mg_amounts (ms_sort d v) = mg_amounts d := rfl
theorem G_amounts_ms_amount (d : MS) (v : Int64) : mg_amounts (ms_amount d v) = mg_amounts d := rfl
theorem G_amounts_ms_trace (d : MS) (v : Int32) : mg_amounts (ms_trace d v) = mg_amounts d := rfl
theorem G_amounts_ms_terminal (d : MS) (v : Int32) : mg_amounts (ms_terminal d v) = mg_amounts d := rfl
theorem G_amounts_ms_original (d : MS) (v : Int32) : mg_amounts (ms_original d v) = mg_amounts d := rfl
theorem G_amounts_ms_entries (d : MS) (v : Int32) : mg_amounts (ms_entries d v) = mg_amounts d := rfl
theorem G_amounts_ms_types (d : MS) (v : Nat → Int32) : mg_amounts (ms_types d v) = mg_amounts d := rfl
theorem G_amounts_ms_terminals (d : MS) (v : Nat → Int32) : mg_amounts (ms_terminals d v) = mg_amounts d := rfl
theorem G_amounts_ms_traces (d : MS) (v : Nat → Int32) : mg_amounts (ms_traces d v) = mg_amounts d := rfl
theorem G_amounts_ms_whose (d : MS) (v : Nat → Int64) : mg_amounts (ms_whose d v) = mg_amounts d := rfl
theorem G_amounts_ms_sorts (d : MS) (v : Nat → Int32) : mg_amounts (ms_sorts d v) = mg_amounts d := rfl
theorem G_amounts_ms_answers (d : MS) (v : Nat → Int32) : mg_amounts (ms_answers d v) = mg_amounts d := rfl
theorem G_amounts_ms_marks (d : MS) (v : Nat → Int32) : mg_amounts (ms_marks d v) = mg_amounts d := rfl
theorem G_amounts_ms_made (d : MS) (v : Nat → Int32) : mg_amounts (ms_made d v) = mg_amounts d := rfl
theorem G_amounts_ms_settled (d : MS) (v : Int64) : mg_amounts (ms_settled d v) = mg_amounts d := rfl
theorem G_amounts_ms_closed (d : MS) (v : Int64) : mg_amounts (ms_closed d v) = mg_amounts d := rfl
theorem G_answers_ms_cards (d : MS) (v : Nat → Int64) : mg_answers (ms_cards d v) = mg_answers d := rfl
theorem G_answers_ms_balances (d : MS) (v : Nat → Int64) : mg_answers (ms_balances d v) = mg_answers d := rfl
theorem G_answers_ms_many (d : MS) (v : Int32) : mg_answers (ms_many d v) = mg_answers d := rfl
theorem G_answers_ms_now (d : MS) (v : Int32) : mg_answers (ms_now d v) = mg_answers d := rfl
theorem G_answers_ms_in (d : MS) (v : Nat → Int32) : mg_answers (ms_in d v) = mg_answers d := rfl
theorem G_answers_ms_ins (d : MS) (v : Int32) : mg_answers (ms_ins d v) = mg_answers d := rfl
theorem G_answers_ms_out (d : MS) (v : Nat → Int32) : mg_answers (ms_out d v) = mg_answers d := rfl
theorem G_answers_ms_outs (d : MS) (v : Int32) : mg_answers (ms_outs d v) = mg_answers d := rfl
theorem G_answers_ms_at (d : MS) (v : Int32) : mg_answers (ms_at d v) = mg_answers d := rfl
theorem G_answers_ms_value (d : MS) (v : Int64) : mg_answers (ms_value d v) = mg_answers d := rfl
theorem G_answers_ms_has (d : MS) (v : Nat → Int32) : mg_answers (ms_has d v) = mg_answers d := rfl
theorem G_answers_ms_from (d : MS) (v : Nat → Int32) : mg_answers (ms_from d v) = mg_answers d := rfl
theorem G_answers_ms_to (d : MS) (v : Nat → Int32) : mg_answers (ms_to d v) = mg_answers d := rfl
theorem G_answers_ms_type (d : MS) (v : Int32) : mg_answers (ms_type d v) = mg_answers d := rfl
theorem G_answers_ms_card (d : MS) (v : Int64) : mg_answers (ms_card d v) = mg_answers d := rfl
theorem G_answers_ms_sort (d : MS) (v : Int32) : mg_answers (ms_sort d v) = mg_answers d := rfl
theorem G_answers_ms_amount (d : MS) (v : Int64) : mg_answers (ms_amount d v) = mg_answers d := rfl
theorem G_answers_ms_trace (d : MS) (v : Int32) : mg_answers (ms_trace d v) = mg_answers d := rfl
theorem G_answers_ms_terminal (d : MS) (v : Int32) : mg_answers (ms_terminal d v) = mg_answers d := rfl
theorem G_answers_ms_original (d : MS) (v : Int32) : mg_answers (ms_original d v) = mg_answers d := rfl
theorem G_answers_ms_entries (d : MS) (v : Int32) : mg_answers (ms_entries d v) = mg_answers d := rfl
theorem G_answers_ms_types (d : MS) (v : Nat → Int32) : mg_answers (ms_types d v) = mg_answers d := rfl
theorem G_answers_ms_terminals (d : MS) (v : Nat → Int32) : mg_answers (ms_terminals d v) = mg_answers d := rfl
theorem G_answers_ms_traces (d : MS) (v : Nat → Int32) : mg_answers (ms_traces d v) = mg_answers d := rfl
theorem G_answers_ms_whose (d : MS) (v : Nat → Int64) : mg_answers (ms_whose d v) = mg_answers d := rfl
theorem G_answers_ms_sorts (d : MS) (v : Nat → Int32) : mg_answers (ms_sorts d v) = mg_answers d := rfl
theorem G_answers_ms_amounts (d : MS) (v : Nat → Int64) : mg_answers (ms_amounts d v) = mg_answers d := rfl
theorem G_answers_ms_marks (d : MS) (v : Nat → Int32) : mg_answers (ms_marks d v) = mg_answers d := rfl
theorem G_answers_ms_made (d : MS) (v : Nat → Int32) : mg_answers (ms_made d v) = mg_answers d := rfl
theorem G_answers_ms_settled (d : MS) (v : Int64) : mg_answers (ms_settled d v) = mg_answers d := rfl
theorem G_answers_ms_closed (d : MS) (v : Int64) : mg_answers (ms_closed d v) = mg_answers d := rfl
theorem G_marks_ms_cards (d : MS) (v : Nat → Int64) : mg_marks (ms_cards d v) = mg_marks d := rfl
theorem G_marks_ms_balances (d : MS) (v : Nat → Int64) : mg_marks (ms_balances d v) = mg_marks d := rfl
theorem G_marks_ms_many (d : MS) (v : Int32) : mg_marks (ms_many d v) = mg_marks d := rfl
theorem G_marks_ms_now (d : MS) (v : Int32) : mg_marks (ms_now d v) = mg_marks d := rfl
theorem G_marks_ms_in (d : MS) (v : Nat → Int32) : mg_marks (ms_in d v) = mg_marks d := rfl
theorem G_marks_ms_ins (d : MS) (v : Int32) : mg_marks (ms_ins d v) = mg_marks d := rfl
theorem G_marks_ms_out (d : MS) (v : Nat → Int32) : mg_marks (ms_out d v) = mg_marks d := rfl
theorem G_marks_ms_outs (d : MS) (v : Int32) : mg_marks (ms_outs d v) = mg_marks d := rfl
theorem G_marks_ms_at (d : MS) (v : Int32) : mg_marks (ms_at d v) = mg_marks d := rfl
theorem G_marks_ms_value (d : MS) (v : Int64) : mg_marks (ms_value d v) = mg_marks d := rfl
theorem G_marks_ms_has (d : MS) (v : Nat → Int32) : mg_marks (ms_has d v) = mg_marks d := rfl
theorem G_marks_ms_from (d : MS) (v : Nat → Int32) : mg_marks (ms_from d v) = mg_marks d := rfl
theorem G_marks_ms_to (d : MS) (v : Nat → Int32) : mg_marks (ms_to d v) = mg_marks d := rfl
theorem G_marks_ms_type (d : MS) (v : Int32) : mg_marks (ms_type d v) = mg_marks d := rfl
theorem G_marks_ms_card (d : MS) (v : Int64) : mg_marks (ms_card d v) = mg_marks d := rfl
theorem G_marks_ms_sort (d : MS) (v : Int32) : mg_marks (ms_sort d v) = mg_marks d := rfl
theorem G_marks_ms_amount (d : MS) (v : Int64) : mg_marks (ms_amount d v) = mg_marks d := rfl
theorem G_marks_ms_trace (d : MS) (v : Int32) : mg_marks (ms_trace d v) = mg_marks d := rfl
theorem G_marks_ms_terminal (d : MS) (v : Int32) : mg_marks (ms_terminal d v) = mg_marks d := rfl
theorem G_marks_ms_original (d : MS) (v : Int32) : mg_marks (ms_original d v) = mg_marks d := rfl
theorem G_marks_ms_entries (d : MS) (v : Int32) : mg_marks (ms_entries d v) = mg_marks d := rfl
theorem G_marks_ms_types (d : MS) (v : Nat → Int32) : mg_marks (ms_types d v) = mg_marks d := rfl
theorem G_marks_ms_terminals (d : MS) (v : Nat → Int32) : mg_marks (ms_terminals d v) = mg_marks d := rfl
theorem G_marks_ms_traces (d : MS) (v : Nat → Int32) : mg_marks (ms_traces d v) = mg_marks d := rfl
theorem G_marks_ms_whose (d : MS) (v : Nat → Int64) : mg_marks (ms_whose d v) = mg_marks d := rfl
theorem G_marks_ms_sorts (d : MS) (v : Nat → Int32) : mg_marks (ms_sorts d v) = mg_marks d := rfl
theorem G_marks_ms_amounts (d : MS) (v : Nat → Int64) : mg_marks (ms_amounts d v) = mg_marks d := rfl
theorem G_marks_ms_answers (d : MS) (v : Nat → Int32) : mg_marks (ms_answers d v) = mg_marks d := rfl
theorem G_marks_ms_made (d : MS) (v : Nat → Int32) : mg_marks (ms_made d v) = mg_marks d := rfl
theorem G_marks_ms_settled (d : MS) (v : Int64) : mg_marks (ms_settled d v) = mg_marks d := rfl
theorem G_marks_ms_closed (d : MS) (v : Int64) : mg_marks (ms_closed d v) = mg_marks d := rfl
theorem G_made_ms_cards (d : MS) (v : Nat → Int64) : mg_made (ms_cards d v) = mg_made d := rfl
theorem G_made_ms_balances (d : MS) (v : Nat → Int64) : mg_made (ms_balances d v) = mg_made d := rfl
theorem G_made_ms_many (d : MS) (v : Int32) : mg_made (ms_many d v) = mg_made d := rfl
theorem G_made_ms_now (d : MS) (v : Int32) : mg_made (ms_now d v) = mg_made d := rfl
theorem G_made_ms_in (d : MS) (v : Nat → Int32) : mg_made (ms_in d v) = mg_made d := rfl
theorem G_made_ms_ins (d : MS) (v : Int32) : mg_made (ms_ins d v) = mg_made d := rfl
theorem G_made_ms_out (d : MS) (v : Nat → Int32) : mg_made (ms_out d v) = mg_made d := rfl
theorem G_made_ms_outs (d : MS) (v : Int32) : mg_made (ms_outs d v) = mg_made d := rfl
theorem G_made_ms_at (d : MS) (v : Int32) : mg_made (ms_at d v) = mg_made d := rfl
theorem G_made_ms_value (d : MS) (v : Int64) : mg_made (ms_value d v) = mg_made d := rfl
theorem G_made_ms_has (d : MS) (v : Nat → Int32) : mg_made (ms_has d v) = mg_made d := rfl
theorem G_made_ms_from (d : MS) (v : Nat → Int32) : mg_made (ms_from d v) = mg_made d := rfl
theorem G_made_ms_to (d : MS) (v : Nat → Int32) : mg_made (ms_to d v) = mg_made d := rfl
theorem G_made_ms_type (d : MS) (v : Int32) : mg_made (ms_type d v) = mg_made d := rfl
theorem G_made_ms_card (d : MS) (v : Int64) : mg_made (ms_card d v) = mg_made d := rfl
theorem G_made_ms_sort (d : MS) (v : Int32) : mg_made (ms_sort d v) = mg_made d := rfl
theorem G_made_ms_amount (d : MS) (v : Int64) : mg_made (ms_amount d v) = mg_made d := rfl
theorem G_made_ms_trace (d : MS) (v : Int32) : mg_made (ms_trace d v) = mg_made d := rfl
theorem G_made_ms_terminal (d : MS) (v : Int32) : mg_made (ms_terminal d v) = mg_made d := rfl
theorem G_made_ms_original (d : MS) (v : Int32) : mg_made (ms_original d v) = mg_made d := rfl
theorem G_made_ms_entries (d : MS) (v : Int32) : mg_made (ms_entries d v) = mg_made d := rfl
theorem G_made_ms_types (d : MS) (v : Nat → Int32) : mg_made (ms_types d v) = mg_made d := rfl
theorem G_made_ms_terminals (d : MS) (v : Nat → Int32) : mg_made (ms_terminals d v) = mg_made d := rfl
theorem G_made_ms_traces (d : MS) (v : Nat → Int32) : mg_made (ms_traces d v) = mg_made d := rfl
theorem G_made_ms_whose (d : MS) (v : Nat → Int64) : mg_made (ms_whose d v) = mg_made d := rfl
theorem G_made_ms_sorts (d : MS) (v : Nat → Int32) : mg_made (ms_sorts d v) = mg_made d := rfl
theorem G_made_ms_amounts (d : MS) (v : Nat → Int64) : mg_made (ms_amounts d v) = mg_made d := rfl
theorem G_made_ms_answers (d : MS) (v : Nat → Int32) : mg_made (ms_answers d v) = mg_made d := rfl
theorem G_made_ms_marks (d : MS) (v : Nat → Int32) : mg_made (ms_marks d v) = mg_made d := rfl
theorem G_made_ms_settled (d : MS) (v : Int64) : mg_made (ms_settled d v) = mg_made d := rfl
theorem G_made_ms_closed (d : MS) (v : Int64) : mg_made (ms_closed d v) = mg_made d := rfl
theorem G_settled_ms_cards (d : MS) (v : Nat → Int64) : mg_settled (ms_cards d v) = mg_settled d := rfl
theorem G_settled_ms_balances (d : MS) (v : Nat → Int64) : mg_settled (ms_balances d v) = mg_settled d := rfl
theorem G_settled_ms_many (d : MS) (v : Int32) : mg_settled (ms_many d v) = mg_settled d := rfl
theorem G_settled_ms_now (d : MS) (v : Int32) : mg_settled (ms_now d v) = mg_settled d := rfl
theorem G_settled_ms_in (d : MS) (v : Nat → Int32) : mg_settled (ms_in d v) = mg_settled d := rfl
theorem G_settled_ms_ins (d : MS) (v : Int32) : mg_settled (ms_ins d v) = mg_settled d := rfl
theorem G_settled_ms_out (d : MS) (v : Nat → Int32) : mg_settled (ms_out d v) = mg_settled d := rfl
theorem G_settled_ms_outs (d : MS) (v : Int32) : mg_settled (ms_outs d v) = mg_settled d := rfl
theorem G_settled_ms_at (d : MS) (v : Int32) : mg_settled (ms_at d v) = mg_settled d := rfl
theorem G_settled_ms_value (d : MS) (v : Int64) : mg_settled (ms_value d v) = mg_settled d := rfl
theorem G_settled_ms_has (d : MS) (v : Nat → Int32) : mg_settled (ms_has d v) = mg_settled d := rfl
theorem G_settled_ms_from (d : MS) (v : Nat → Int32) : mg_settled (ms_from d v) = mg_settled d := rfl
theorem G_settled_ms_to (d : MS) (v : Nat → Int32) : mg_settled (ms_to d v) = mg_settled d := rfl
theorem G_settled_ms_type (d : MS) (v : Int32) : mg_settled (ms_type d v) = mg_settled d := rfl
theorem G_settled_ms_card (d : MS) (v : Int64) : mg_settled (ms_card d v) = mg_settled d := rfl
theorem G_settled_ms_sort (d : MS) (v : Int32) : mg_settled (ms_sort d v) = mg_settled d := rfl
theorem G_settled_ms_amount (d : MS) (v : Int64) : mg_settled (ms_amount d v) = mg_settled d := rfl
theorem G_settled_ms_trace (d : MS) (v : Int32) : mg_settled (ms_trace d v) = mg_settled d := rfl
theorem G_settled_ms_terminal (d : MS) (v : Int32) : mg_settled (ms_terminal d v) = mg_settled d := rfl
theorem G_settled_ms_original (d : MS) (v : Int32) : mg_settled (ms_original d v) = mg_settled d := rfl
theorem G_settled_ms_entries (d : MS) (v : Int32) : mg_settled (ms_entries d v) = mg_settled d := rfl
theorem G_settled_ms_types (d : MS) (v : Nat → Int32) : mg_settled (ms_types d v) = mg_settled d := rfl
theorem G_settled_ms_terminals (d : MS) (v : Nat → Int32) : mg_settled (ms_terminals d v) = mg_settled d := rfl
theorem G_settled_ms_traces (d : MS) (v : Nat → Int32) : mg_settled (ms_traces d v) = mg_settled d := rfl
theorem G_settled_ms_whose (d : MS) (v : Nat → Int64) : mg_settled (ms_whose d v) = mg_settled d := rfl
theorem G_settled_ms_sorts (d : MS) (v : Nat → Int32) : mg_settled (ms_sorts d v) = mg_settled d := rfl
theorem G_settled_ms_amounts (d : MS) (v : Nat → Int64) : mg_settled (ms_amounts d v) = mg_settled d := rfl
theorem G_settled_ms_answers (d : MS) (v : Nat → Int32) : mg_settled (ms_answers d v) = mg_settled d := rfl
theorem G_settled_ms_marks (d : MS) (v : Nat → Int32) : mg_settled (ms_marks d v) = mg_settled d := rfl
theorem G_settled_ms_made (d : MS) (v : Nat → Int32) : mg_settled (ms_made d v) = mg_settled d := rfl
theorem G_settled_ms_closed (d : MS) (v : Int64) : mg_settled (ms_closed d v) = mg_settled d := rfl
theorem G_closed_ms_cards (d : MS) (v : Nat → Int64) : mg_closed (ms_cards d v) = mg_closed d := rfl
theorem G_closed_ms_balances (d : MS) (v : Nat → Int64) : mg_closed (ms_balances d v) = mg_closed d := rfl
theorem G_closed_ms_many (d : MS) (v : Int32) : mg_closed (ms_many d v) = mg_closed d := rfl
theorem G_closed_ms_now (d : MS) (v : Int32) : mg_closed (ms_now d v) = mg_closed d := rfl
theorem G_closed_ms_in (d : MS) (v : Nat → Int32) : mg_closed (ms_in d v) = mg_closed d := rfl
theorem G_closed_ms_ins (d : MS) (v : Int32) : mg_closed (ms_ins d v) = mg_closed d := rfl
theorem G_closed_ms_out (d : MS) (v : Nat → Int32) : mg_closed (ms_out d v) = mg_closed d := rfl
theorem G_closed_ms_outs (d : MS) (v : Int32) : mg_closed (ms_outs d v) = mg_closed d := rfl
theorem G_closed_ms_at (d : MS) (v : Int32) : mg_closed (ms_at d v) = mg_closed d := rfl
theorem G_closed_ms_value (d : MS) (v : Int64) : mg_closed (ms_value d v) = mg_closed d := rfl
theorem G_closed_ms_has (d : MS) (v : Nat → Int32) : mg_closed (ms_has d v) = mg_closed d := rfl
theorem G_closed_ms_from (d : MS) (v : Nat → Int32) : mg_closed (ms_from d v) = mg_closed d := rfl
theorem G_closed_ms_to (d : MS) (v : Nat → Int32) : mg_closed (ms_to d v) = mg_closed d := rfl
theorem G_closed_ms_type (d : MS) (v : Int32) : mg_closed (ms_type d v) = mg_closed d := rfl
theorem G_closed_ms_card (d : MS) (v : Int64) : mg_closed (ms_card d v) = mg_closed d := rfl
theorem G_closed_ms_sort (d : MS) (v : Int32) : mg_closed (ms_sort d v) = mg_closed d := rfl
theorem G_closed_ms_amount (d : MS) (v : Int64) : mg_closed (ms_amount d v) = mg_closed d := rfl
theorem G_closed_ms_trace (d : MS) (v : Int32) : mg_closed (ms_trace d v) = mg_closed d := rfl
theorem G_closed_ms_terminal (d : MS) (v : Int32) : mg_closed (ms_terminal d v) = mg_closed d := rfl
theorem G_closed_ms_original (d : MS) (v : Int32) : mg_closed (ms_original d v) = mg_closed d := rfl
theorem G_closed_ms_entries (d : MS) (v : Int32) : mg_closed (ms_entries d v) = mg_closed d := rfl
theorem G_closed_ms_types (d : MS) (v : Nat → Int32) : mg_closed (ms_types d v) = mg_closed d := rfl
theorem G_closed_ms_terminals (d : MS) (v : Nat → Int32) : mg_closed (ms_terminals d v) = mg_closed d := rfl
theorem G_closed_ms_traces (d : MS) (v : Nat → Int32) : mg_closed (ms_traces d v) = mg_closed d := rfl
theorem G_closed_ms_whose (d : MS) (v : Nat → Int64) : mg_closed (ms_whose d v) = mg_closed d := rfl
theorem G_closed_ms_sorts (d : MS) (v : Nat → Int32) : mg_closed (ms_sorts d v) = mg_closed d := rfl
theorem G_closed_ms_amounts (d : MS) (v : Nat → Int64) : mg_closed (ms_amounts d v) = mg_closed d := rfl
theorem G_closed_ms_answers (d : MS) (v : Nat → Int32) : mg_closed (ms_answers d v) = mg_closed d := rfl
theorem G_closed_ms_marks (d : MS) (v : Nat → Int32) : mg_closed (ms_marks d v) = mg_closed d := rfl
theorem G_closed_ms_made (d : MS) (v : Nat → Int32) : mg_closed (ms_made d v) = mg_closed d := rfl
theorem G_closed_ms_settled (d : MS) (v : Int64) : mg_closed (ms_settled d v) = mg_closed d := rfl
theorem k_cKd_cs_inSize {LA : List Nat} {ac : Nat → Nat} {K : List CA} {d : CS} {v : Int32} (h : cKd LA ac d K) : cKd LA ac (cs_inSize d v) K := h
theorem k_cKd_cs_inB {LA : List Nat} {ac : Nat → Nat} {K : List CA} {d : CS} {v : Nat → Int32} (h : cKd LA ac d K) : cKd LA ac (cs_inB d v) K := h
theorem k_cKd_cs_outSize {LA : List Nat} {ac : Nat → Nat} {K : List CA} {d : CS} {v : Int32} (h : cKd LA ac d K) : cKd LA ac (cs_outSize d v) K := h
theorem k_cKd_cs_outB {LA : List Nat} {ac : Nat → Nat} {K : List CA} {d : CS} {v : Nat → Int32} (h : cKd LA ac d K) : cKd LA ac (cs_outB d v) K := h
theorem k_cKd_cs_rqType {LA : List Nat} {ac : Nat → Nat} {K : List CA} {d : CS} {v : Int32} (h : cKd LA ac d K) : cKd LA ac (cs_rqType d v) K := h
theorem k_cKd_cs_rqMap {LA : List Nat} {ac : Nat → Nat} {K : List CA} {d : CS} {v : Int64} (h : cKd LA ac d K) : cKd LA ac (cs_rqMap d v) K := h
theorem k_cKd_cs_rqCard {LA : List Nat} {ac : Nat → Nat} {K : List CA} {d : CS} {v : Int64} (h : cKd LA ac d K) : cKd LA ac (cs_rqCard d v) K := h
theorem k_cKd_cs_rqSort {LA : List Nat} {ac : Nat → Nat} {K : List CA} {d : CS} {v : Int32} (h : cKd LA ac d K) : cKd LA ac (cs_rqSort d v) K := h
theorem k_cKd_cs_rqAmount {LA : List Nat} {ac : Nat → Nat} {K : List CA} {d : CS} {v : Int64} (h : cKd LA ac d K) : cKd LA ac (cs_rqAmount d v) K := h
theorem k_cKd_cs_rqTrace {LA : List Nat} {ac : Nat → Nat} {K : List CA} {d : CS} {v : Int32} (h : cKd LA ac d K) : cKd LA ac (cs_rqTrace d v) K := h
theorem k_cKd_cs_rqTerm {LA : List Nat} {ac : Nat → Nat} {K : List CA} {d : CS} {v : Int32} (h : cKd LA ac d K) : cKd LA ac (cs_rqTerm d v) K := h
theorem k_cKd_cs_rqStart {LA : List Nat} {ac : Nat → Nat} {K : List CA} {d : CS} {v : Int32} (h : cKd LA ac d K) : cKd LA ac (cs_rqStart d v) K := h
theorem k_cKd_cs_rqOrig {LA : List Nat} {ac : Nat → Nat} {K : List CA} {d : CS} {v : Int32} (h : cKd LA ac d K) : cKd LA ac (cs_rqOrig d v) K := h
theorem k_cKd_cs_rdPlace {LA : List Nat} {ac : Nat → Nat} {K : List CA} {d : CS} {v : Int32} (h : cKd LA ac d K) : cKd LA ac (cs_rdPlace d v) K := h
theorem k_cKd_cs_rdGood {LA : List Nat} {ac : Nat → Nat} {K : List CA} {d : CS} {v : Int32} (h : cKd LA ac d K) : cKd LA ac (cs_rdGood d v) K := h
theorem k_cKd_cs_jSize {LA : List Nat} {ac : Nat → Nat} {K : List CA} {d : CS} {v : Int32} (h : cKd LA ac d K) : cKd LA ac (cs_jSize d v) K := h
theorem k_cKd_cs_jTime {LA : List Nat} {ac : Nat → Nat} {K : List CA} {d : CS} {v : Int64} (h : cKd LA ac d K) : cKd LA ac (cs_jTime d v) K := h
theorem k_cKd_cs_lines {LA : List Nat} {ac : Nat → Nat} {K : List CA} {d : CS} {v : Nat → Option Nat} (h : cKd LA ac d K) : cKd LA ac (cs_lines d v) K := h
theorem k_cKd_cs_setSum {LA : List Nat} {ac : Nat → Nat} {K : List CA} {d : CS} {v : Int64} (h : cKd LA ac d K) : cKd LA ac (cs_setSum d v) K := h
theorem k_cKd_cs_setNow {LA : List Nat} {ac : Nat → Nat} {K : List CA} {d : CS} {v : Int64} (h : cKd LA ac d K) : cKd LA ac (cs_setNow d v) K := h
theorem k_cKd_cs_ent {LA : List Nat} {ac : Nat → Nat} {K : List CA} {d : CS} {v : Nat → CE} (h : cKd LA ac d K) : cKd LA ac (cs_ent d v) K := h
theorem k_cKd_ent_set_type {LA : List Nat} {ac : Nat → Nat} {K : List CA} {d : CS} {a : Nat} {v : Int32} (h : cKd LA ac d K) : cKd LA ac (ent_set_type d a v) K := h
theorem k_cKd_ent_set_term {LA : List Nat} {ac : Nat → Nat} {K : List CA} {d : CS} {a : Nat} {v : Int32} (h : cKd LA ac d K) : cKd LA ac (ent_set_term d a v) K := h
theorem k_cKd_ent_set_trace {LA : List Nat} {ac : Nat → Nat} {K : List CA} {d : CS} {a : Nat} {v : Int32} (h : cKd LA ac d K) : cKd LA ac (ent_set_trace d a v) K := h
theorem k_cKd_ent_set_card {LA : List Nat} {ac : Nat → Nat} {K : List CA} {d : CS} {a : Nat} {v : Int64} (h : cKd LA ac d K) : cKd LA ac (ent_set_card d a v) K := h
theorem k_cKd_ent_set_kind {LA : List Nat} {ac : Nat → Nat} {K : List CA} {d : CS} {a : Nat} {v : Int32} (h : cKd LA ac d K) : cKd LA ac (ent_set_kind d a v) K := h
theorem k_cKd_ent_set_amount {LA : List Nat} {ac : Nat → Nat} {K : List CA} {d : CS} {a : Nat} {v : Int64} (h : cKd LA ac d K) : cKd LA ac (ent_set_amount d a v) K := h
theorem k_cKd_ent_set_answer {LA : List Nat} {ac : Nat → Nat} {K : List CA} {d : CS} {a : Nat} {v : Int32} (h : cKd LA ac d K) : cKd LA ac (ent_set_answer d a v) K := h
theorem k_cKd_ent_set_state {LA : List Nat} {ac : Nat → Nat} {K : List CA} {d : CS} {a : Nat} {v : Int32} (h : cKd LA ac d K) : cKd LA ac (ent_set_state d a v) K := h
theorem k_cKd_ent_set_made {LA : List Nat} {ac : Nat → Nat} {K : List CA} {d : CS} {a : Nat} {v : Int64} (h : cKd LA ac d K) : cKd LA ac (ent_set_made d a v) K := h
theorem k_cJo_cs_inSize {LE : List Nat} {ln : Nat → Nat} {J : List CE} {d : CS} {v : Int32} (h : cJo LE ln d J) : cJo LE ln (cs_inSize d v) J := h
theorem k_cJo_cs_inB {LE : List Nat} {ln : Nat → Nat} {J : List CE} {d : CS} {v : Nat → Int32} (h : cJo LE ln d J) : cJo LE ln (cs_inB d v) J := h
theorem k_cJo_cs_outSize {LE : List Nat} {ln : Nat → Nat} {J : List CE} {d : CS} {v : Int32} (h : cJo LE ln d J) : cJo LE ln (cs_outSize d v) J := h
theorem k_cJo_cs_outB {LE : List Nat} {ln : Nat → Nat} {J : List CE} {d : CS} {v : Nat → Int32} (h : cJo LE ln d J) : cJo LE ln (cs_outB d v) J := h
theorem k_cJo_cs_rqType {LE : List Nat} {ln : Nat → Nat} {J : List CE} {d : CS} {v : Int32} (h : cJo LE ln d J) : cJo LE ln (cs_rqType d v) J := h
theorem k_cJo_cs_rqMap {LE : List Nat} {ln : Nat → Nat} {J : List CE} {d : CS} {v : Int64} (h : cJo LE ln d J) : cJo LE ln (cs_rqMap d v) J := h
theorem k_cJo_cs_rqCard {LE : List Nat} {ln : Nat → Nat} {J : List CE} {d : CS} {v : Int64} (h : cJo LE ln d J) : cJo LE ln (cs_rqCard d v) J := h
theorem k_cJo_cs_rqSort {LE : List Nat} {ln : Nat → Nat} {J : List CE} {d : CS} {v : Int32} (h : cJo LE ln d J) : cJo LE ln (cs_rqSort d v) J := h
theorem k_cJo_cs_rqAmount {LE : List Nat} {ln : Nat → Nat} {J : List CE} {d : CS} {v : Int64} (h : cJo LE ln d J) : cJo LE ln (cs_rqAmount d v) J := h
theorem k_cJo_cs_rqTrace {LE : List Nat} {ln : Nat → Nat} {J : List CE} {d : CS} {v : Int32} (h : cJo LE ln d J) : cJo LE ln (cs_rqTrace d v) J := h
theorem k_cJo_cs_rqTerm {LE : List Nat} {ln : Nat → Nat} {J : List CE} {d : CS} {v : Int32} (h : cJo LE ln d J) : cJo LE ln (cs_rqTerm d v) J := h
theorem k_cJo_cs_rqStart {LE : List Nat} {ln : Nat → Nat} {J : List CE} {d : CS} {v : Int32} (h : cJo LE ln d J) : cJo LE ln (cs_rqStart d v) J := h
theorem k_cJo_cs_rqOrig {LE : List Nat} {ln : Nat → Nat} {J : List CE} {d : CS} {v : Int32} (h : cJo LE ln d J) : cJo LE ln (cs_rqOrig d v) J := h
theorem k_cJo_cs_rdPlace {LE : List Nat} {ln : Nat → Nat} {J : List CE} {d : CS} {v : Int32} (h : cJo LE ln d J) : cJo LE ln (cs_rdPlace d v) J := h
theorem k_cJo_cs_rdGood {LE : List Nat} {ln : Nat → Nat} {J : List CE} {d : CS} {v : Int32} (h : cJo LE ln d J) : cJo LE ln (cs_rdGood d v) J := h
theorem k_cJo_cs_cCount {LE : List Nat} {ln : Nat → Nat} {J : List CE} {d : CS} {v : Int32} (h : cJo LE ln d J) : cJo LE ln (cs_cCount d v) J := h
theorem k_cJo_cs_accs {LE : List Nat} {ln : Nat → Nat} {J : List CE} {d : CS} {v : Nat → Option Nat} (h : cJo LE ln d J) : cJo LE ln (cs_accs d v) J := h
theorem k_cJo_cs_jTime {LE : List Nat} {ln : Nat → Nat} {J : List CE} {d : CS} {v : Int64} (h : cJo LE ln d J) : cJo LE ln (cs_jTime d v) J := h
theorem k_cJo_cs_setSum {LE : List Nat} {ln : Nat → Nat} {J : List CE} {d : CS} {v : Int64} (h : cJo LE ln d J) : cJo LE ln (cs_setSum d v) J := h
theorem k_cJo_cs_setNow {LE : List Nat} {ln : Nat → Nat} {J : List CE} {d : CS} {v : Int64} (h : cJo LE ln d J) : cJo LE ln (cs_setNow d v) J := h
theorem k_cJo_cs_acc {LE : List Nat} {ln : Nat → Nat} {J : List CE} {d : CS} {v : Nat → CA} (h : cJo LE ln d J) : cJo LE ln (cs_acc d v) J := h
theorem k_cJo_acc_set_card {LE : List Nat} {ln : Nat → Nat} {J : List CE} {d : CS} {a : Nat} {v : Int64} (h : cJo LE ln d J) : cJo LE ln (acc_set_card d a v) J := h
theorem k_cJo_acc_set_bal {LE : List Nat} {ln : Nat → Nat} {J : List CE} {d : CS} {a : Nat} {v : Int64} (h : cJo LE ln d J) : cJo LE ln (acc_set_bal d a v) J := h
theorem k_cIn_cs_outSize {B : List Nat} {d : CS} {v : Int32} (h : cIn  d B) : cIn  (cs_outSize d v) B := h
theorem k_cIn_cs_outB {B : List Nat} {d : CS} {v : Nat → Int32} (h : cIn  d B) : cIn  (cs_outB d v) B := h
theorem k_cIn_cs_rqType {B : List Nat} {d : CS} {v : Int32} (h : cIn  d B) : cIn  (cs_rqType d v) B := h
theorem k_cIn_cs_rqMap {B : List Nat} {d : CS} {v : Int64} (h : cIn  d B) : cIn  (cs_rqMap d v) B := h
theorem k_cIn_cs_rqCard {B : List Nat} {d : CS} {v : Int64} (h : cIn  d B) : cIn  (cs_rqCard d v) B := h
theorem k_cIn_cs_rqSort {B : List Nat} {d : CS} {v : Int32} (h : cIn  d B) : cIn  (cs_rqSort d v) B := h
theorem k_cIn_cs_rqAmount {B : List Nat} {d : CS} {v : Int64} (h : cIn  d B) : cIn  (cs_rqAmount d v) B := h
theorem k_cIn_cs_rqTrace {B : List Nat} {d : CS} {v : Int32} (h : cIn  d B) : cIn  (cs_rqTrace d v) B := h
theorem k_cIn_cs_rqTerm {B : List Nat} {d : CS} {v : Int32} (h : cIn  d B) : cIn  (cs_rqTerm d v) B := h
theorem k_cIn_cs_rqStart {B : List Nat} {d : CS} {v : Int32} (h : cIn  d B) : cIn  (cs_rqStart d v) B := h
theorem k_cIn_cs_rqOrig {B : List Nat} {d : CS} {v : Int32} (h : cIn  d B) : cIn  (cs_rqOrig d v) B := h
theorem k_cIn_cs_rdPlace {B : List Nat} {d : CS} {v : Int32} (h : cIn  d B) : cIn  (cs_rdPlace d v) B := h
theorem k_cIn_cs_rdGood {B : List Nat} {d : CS} {v : Int32} (h : cIn  d B) : cIn  (cs_rdGood d v) B := h
theorem k_cIn_cs_cCount {B : List Nat} {d : CS} {v : Int32} (h : cIn  d B) : cIn  (cs_cCount d v) B := h
theorem k_cIn_cs_accs {B : List Nat} {d : CS} {v : Nat → Option Nat} (h : cIn  d B) : cIn  (cs_accs d v) B := h
theorem k_cIn_cs_jSize {B : List Nat} {d : CS} {v : Int32} (h : cIn  d B) : cIn  (cs_jSize d v) B := h
theorem k_cIn_cs_jTime {B : List Nat} {d : CS} {v : Int64} (h : cIn  d B) : cIn  (cs_jTime d v) B := h
theorem k_cIn_cs_lines {B : List Nat} {d : CS} {v : Nat → Option Nat} (h : cIn  d B) : cIn  (cs_lines d v) B := h
theorem k_cIn_cs_setSum {B : List Nat} {d : CS} {v : Int64} (h : cIn  d B) : cIn  (cs_setSum d v) B := h
theorem k_cIn_cs_setNow {B : List Nat} {d : CS} {v : Int64} (h : cIn  d B) : cIn  (cs_setNow d v) B := h
theorem k_cIn_cs_acc {B : List Nat} {d : CS} {v : Nat → CA} (h : cIn  d B) : cIn  (cs_acc d v) B := h
theorem k_cIn_cs_ent {B : List Nat} {d : CS} {v : Nat → CE} (h : cIn  d B) : cIn  (cs_ent d v) B := h
theorem k_cIn_acc_set_card {B : List Nat} {d : CS} {a : Nat} {v : Int64} (h : cIn  d B) : cIn  (acc_set_card d a v) B := h
theorem k_cIn_acc_set_bal {B : List Nat} {d : CS} {a : Nat} {v : Int64} (h : cIn  d B) : cIn  (acc_set_bal d a v) B := h
theorem k_cIn_ent_set_type {B : List Nat} {d : CS} {a : Nat} {v : Int32} (h : cIn  d B) : cIn  (ent_set_type d a v) B := h
theorem k_cIn_ent_set_term {B : List Nat} {d : CS} {a : Nat} {v : Int32} (h : cIn  d B) : cIn  (ent_set_term d a v) B := h
theorem k_cIn_ent_set_trace {B : List Nat} {d : CS} {a : Nat} {v : Int32} (h : cIn  d B) : cIn  (ent_set_trace d a v) B := h
theorem k_cIn_ent_set_card {B : List Nat} {d : CS} {a : Nat} {v : Int64} (h : cIn  d B) : cIn  (ent_set_card d a v) B := h
theorem k_cIn_ent_set_kind {B : List Nat} {d : CS} {a : Nat} {v : Int32} (h : cIn  d B) : cIn  (ent_set_kind d a v) B := h
theorem k_cIn_ent_set_amount {B : List Nat} {d : CS} {a : Nat} {v : Int64} (h : cIn  d B) : cIn  (ent_set_amount d a v) B := h
theorem k_cIn_ent_set_answer {B : List Nat} {d : CS} {a : Nat} {v : Int32} (h : cIn  d B) : cIn  (ent_set_answer d a v) B := h
theorem k_cIn_ent_set_state {B : List Nat} {d : CS} {a : Nat} {v : Int32} (h : cIn  d B) : cIn  (ent_set_state d a v) B := h
theorem k_cIn_ent_set_made {B : List Nat} {d : CS} {a : Nat} {v : Int64} (h : cIn  d B) : cIn  (ent_set_made d a v) B := h
theorem k_cOu_cs_inSize {O : List Nat} {d : CS} {v : Int32} (h : cOu  d O) : cOu  (cs_inSize d v) O := h
theorem k_cOu_cs_inB {O : List Nat} {d : CS} {v : Nat → Int32} (h : cOu  d O) : cOu  (cs_inB d v) O := h
theorem k_cOu_cs_rqType {O : List Nat} {d : CS} {v : Int32} (h : cOu  d O) : cOu  (cs_rqType d v) O := h
theorem k_cOu_cs_rqMap {O : List Nat} {d : CS} {v : Int64} (h : cOu  d O) : cOu  (cs_rqMap d v) O := h
theorem k_cOu_cs_rqCard {O : List Nat} {d : CS} {v : Int64} (h : cOu  d O) : cOu  (cs_rqCard d v) O := h
theorem k_cOu_cs_rqSort {O : List Nat} {d : CS} {v : Int32} (h : cOu  d O) : cOu  (cs_rqSort d v) O := h
theorem k_cOu_cs_rqAmount {O : List Nat} {d : CS} {v : Int64} (h : cOu  d O) : cOu  (cs_rqAmount d v) O := h
theorem k_cOu_cs_rqTrace {O : List Nat} {d : CS} {v : Int32} (h : cOu  d O) : cOu  (cs_rqTrace d v) O := h
theorem k_cOu_cs_rqTerm {O : List Nat} {d : CS} {v : Int32} (h : cOu  d O) : cOu  (cs_rqTerm d v) O := h
theorem k_cOu_cs_rqStart {O : List Nat} {d : CS} {v : Int32} (h : cOu  d O) : cOu  (cs_rqStart d v) O := h
theorem k_cOu_cs_rqOrig {O : List Nat} {d : CS} {v : Int32} (h : cOu  d O) : cOu  (cs_rqOrig d v) O := h
theorem k_cOu_cs_rdPlace {O : List Nat} {d : CS} {v : Int32} (h : cOu  d O) : cOu  (cs_rdPlace d v) O := h
theorem k_cOu_cs_rdGood {O : List Nat} {d : CS} {v : Int32} (h : cOu  d O) : cOu  (cs_rdGood d v) O := h
theorem k_cOu_cs_cCount {O : List Nat} {d : CS} {v : Int32} (h : cOu  d O) : cOu  (cs_cCount d v) O := h
theorem k_cOu_cs_accs {O : List Nat} {d : CS} {v : Nat → Option Nat} (h : cOu  d O) : cOu  (cs_accs d v) O := h
theorem k_cOu_cs_jSize {O : List Nat} {d : CS} {v : Int32} (h : cOu  d O) : cOu  (cs_jSize d v) O := h
theorem k_cOu_cs_jTime {O : List Nat} {d : CS} {v : Int64} (h : cOu  d O) : cOu  (cs_jTime d v) O := h
theorem k_cOu_cs_lines {O : List Nat} {d : CS} {v : Nat → Option Nat} (h : cOu  d O) : cOu  (cs_lines d v) O := h
theorem k_cOu_cs_setSum {O : List Nat} {d : CS} {v : Int64} (h : cOu  d O) : cOu  (cs_setSum d v) O := h
theorem k_cOu_cs_setNow {O : List Nat} {d : CS} {v : Int64} (h : cOu  d O) : cOu  (cs_setNow d v) O := h
theorem k_cOu_cs_acc {O : List Nat} {d : CS} {v : Nat → CA} (h : cOu  d O) : cOu  (cs_acc d v) O := h
theorem k_cOu_cs_ent {O : List Nat} {d : CS} {v : Nat → CE} (h : cOu  d O) : cOu  (cs_ent d v) O := h
theorem k_cOu_acc_set_card {O : List Nat} {d : CS} {a : Nat} {v : Int64} (h : cOu  d O) : cOu  (acc_set_card d a v) O := h
theorem k_cOu_acc_set_bal {O : List Nat} {d : CS} {a : Nat} {v : Int64} (h : cOu  d O) : cOu  (acc_set_bal d a v) O := h
theorem k_cOu_ent_set_type {O : List Nat} {d : CS} {a : Nat} {v : Int32} (h : cOu  d O) : cOu  (ent_set_type d a v) O := h
theorem k_cOu_ent_set_term {O : List Nat} {d : CS} {a : Nat} {v : Int32} (h : cOu  d O) : cOu  (ent_set_term d a v) O := h
theorem k_cOu_ent_set_trace {O : List Nat} {d : CS} {a : Nat} {v : Int32} (h : cOu  d O) : cOu  (ent_set_trace d a v) O := h
theorem k_cOu_ent_set_card {O : List Nat} {d : CS} {a : Nat} {v : Int64} (h : cOu  d O) : cOu  (ent_set_card d a v) O := h
theorem k_cOu_ent_set_kind {O : List Nat} {d : CS} {a : Nat} {v : Int32} (h : cOu  d O) : cOu  (ent_set_kind d a v) O := h
theorem k_cOu_ent_set_amount {O : List Nat} {d : CS} {a : Nat} {v : Int64} (h : cOu  d O) : cOu  (ent_set_amount d a v) O := h
theorem k_cOu_ent_set_answer {O : List Nat} {d : CS} {a : Nat} {v : Int32} (h : cOu  d O) : cOu  (ent_set_answer d a v) O := h
theorem k_cOu_ent_set_state {O : List Nat} {d : CS} {a : Nat} {v : Int32} (h : cOu  d O) : cOu  (ent_set_state d a v) O := h
theorem k_cOu_ent_set_made {O : List Nat} {d : CS} {a : Nat} {v : Int64} (h : cOu  d O) : cOu  (ent_set_made d a v) O := h
theorem k_mKd_ms_now {K : List CA} {u : MS} {v : Int32} (h : mKd u K) : mKd (ms_now u v) K := h
theorem k_mKd_ms_in {K : List CA} {u : MS} {v : Nat → Int32} (h : mKd u K) : mKd (ms_in u v) K := h
theorem k_mKd_ms_ins {K : List CA} {u : MS} {v : Int32} (h : mKd u K) : mKd (ms_ins u v) K := h
theorem k_mKd_ms_out {K : List CA} {u : MS} {v : Nat → Int32} (h : mKd u K) : mKd (ms_out u v) K := h
theorem k_mKd_ms_outs {K : List CA} {u : MS} {v : Int32} (h : mKd u K) : mKd (ms_outs u v) K := h
theorem k_mKd_ms_at {K : List CA} {u : MS} {v : Int32} (h : mKd u K) : mKd (ms_at u v) K := h
theorem k_mKd_ms_value {K : List CA} {u : MS} {v : Int64} (h : mKd u K) : mKd (ms_value u v) K := h
theorem k_mKd_ms_has {K : List CA} {u : MS} {v : Nat → Int32} (h : mKd u K) : mKd (ms_has u v) K := h
theorem k_mKd_ms_from {K : List CA} {u : MS} {v : Nat → Int32} (h : mKd u K) : mKd (ms_from u v) K := h
theorem k_mKd_ms_to {K : List CA} {u : MS} {v : Nat → Int32} (h : mKd u K) : mKd (ms_to u v) K := h
theorem k_mKd_ms_type {K : List CA} {u : MS} {v : Int32} (h : mKd u K) : mKd (ms_type u v) K := h
theorem k_mKd_ms_card {K : List CA} {u : MS} {v : Int64} (h : mKd u K) : mKd (ms_card u v) K := h
theorem k_mKd_ms_sort {K : List CA} {u : MS} {v : Int32} (h : mKd u K) : mKd (ms_sort u v) K := h
theorem k_mKd_ms_amount {K : List CA} {u : MS} {v : Int64} (h : mKd u K) : mKd (ms_amount u v) K := h
theorem k_mKd_ms_trace {K : List CA} {u : MS} {v : Int32} (h : mKd u K) : mKd (ms_trace u v) K := h
theorem k_mKd_ms_terminal {K : List CA} {u : MS} {v : Int32} (h : mKd u K) : mKd (ms_terminal u v) K := h
theorem k_mKd_ms_original {K : List CA} {u : MS} {v : Int32} (h : mKd u K) : mKd (ms_original u v) K := h
theorem k_mKd_ms_entries {K : List CA} {u : MS} {v : Int32} (h : mKd u K) : mKd (ms_entries u v) K := h
theorem k_mKd_ms_types {K : List CA} {u : MS} {v : Nat → Int32} (h : mKd u K) : mKd (ms_types u v) K := h
theorem k_mKd_ms_terminals {K : List CA} {u : MS} {v : Nat → Int32} (h : mKd u K) : mKd (ms_terminals u v) K := h
theorem k_mKd_ms_traces {K : List CA} {u : MS} {v : Nat → Int32} (h : mKd u K) : mKd (ms_traces u v) K := h
theorem k_mKd_ms_whose {K : List CA} {u : MS} {v : Nat → Int64} (h : mKd u K) : mKd (ms_whose u v) K := h
theorem k_mKd_ms_sorts {K : List CA} {u : MS} {v : Nat → Int32} (h : mKd u K) : mKd (ms_sorts u v) K := h
theorem k_mKd_ms_amounts {K : List CA} {u : MS} {v : Nat → Int64} (h : mKd u K) : mKd (ms_amounts u v) K := h
theorem k_mKd_ms_answers {K : List CA} {u : MS} {v : Nat → Int32} (h : mKd u K) : mKd (ms_answers u v) K := h
theorem k_mKd_ms_marks {K : List CA} {u : MS} {v : Nat → Int32} (h : mKd u K) : mKd (ms_marks u v) K := h
theorem k_mKd_ms_made {K : List CA} {u : MS} {v : Nat → Int32} (h : mKd u K) : mKd (ms_made u v) K := h
theorem k_mKd_ms_settled {K : List CA} {u : MS} {v : Int64} (h : mKd u K) : mKd (ms_settled u v) K := h
theorem k_mKd_ms_closed {K : List CA} {u : MS} {v : Int64} (h : mKd u K) : mKd (ms_closed u v) K := h
theorem k_mJo_ms_cards {J : List CE} {u : MS} {v : Nat → Int64} (h : mJo u J) : mJo (ms_cards u v) J := h
theorem k_mJo_ms_balances {J : List CE} {u : MS} {v : Nat → Int64} (h : mJo u J) : mJo (ms_balances u v) J := h
theorem k_mJo_ms_many {J : List CE} {u : MS} {v : Int32} (h : mJo u J) : mJo (ms_many u v) J := h
theorem k_mJo_ms_now {J : List CE} {u : MS} {v : Int32} (h : mJo u J) : mJo (ms_now u v) J := h
theorem k_mJo_ms_in {J : List CE} {u : MS} {v : Nat → Int32} (h : mJo u J) : mJo (ms_in u v) J := h
theorem k_mJo_ms_ins {J : List CE} {u : MS} {v : Int32} (h : mJo u J) : mJo (ms_ins u v) J := h
theorem k_mJo_ms_out {J : List CE} {u : MS} {v : Nat → Int32} (h : mJo u J) : mJo (ms_out u v) J := h
theorem k_mJo_ms_outs {J : List CE} {u : MS} {v : Int32} (h : mJo u J) : mJo (ms_outs u v) J := h
theorem k_mJo_ms_at {J : List CE} {u : MS} {v : Int32} (h : mJo u J) : mJo (ms_at u v) J := h
theorem k_mJo_ms_value {J : List CE} {u : MS} {v : Int64} (h : mJo u J) : mJo (ms_value u v) J := h
theorem k_mJo_ms_has {J : List CE} {u : MS} {v : Nat → Int32} (h : mJo u J) : mJo (ms_has u v) J := h
theorem k_mJo_ms_from {J : List CE} {u : MS} {v : Nat → Int32} (h : mJo u J) : mJo (ms_from u v) J := h
theorem k_mJo_ms_to {J : List CE} {u : MS} {v : Nat → Int32} (h : mJo u J) : mJo (ms_to u v) J := h
theorem k_mJo_ms_type {J : List CE} {u : MS} {v : Int32} (h : mJo u J) : mJo (ms_type u v) J := h
theorem k_mJo_ms_card {J : List CE} {u : MS} {v : Int64} (h : mJo u J) : mJo (ms_card u v) J := h
theorem k_mJo_ms_sort {J : List CE} {u : MS} {v : Int32} (h : mJo u J) : mJo (ms_sort u v) J := h
theorem k_mJo_ms_amount {J : List CE} {u : MS} {v : Int64} (h : mJo u J) : mJo (ms_amount u v) J := h
theorem k_mJo_ms_trace {J : List CE} {u : MS} {v : Int32} (h : mJo u J) : mJo (ms_trace u v) J := h
theorem k_mJo_ms_terminal {J : List CE} {u : MS} {v : Int32} (h : mJo u J) : mJo (ms_terminal u v) J := h
theorem k_mJo_ms_original {J : List CE} {u : MS} {v : Int32} (h : mJo u J) : mJo (ms_original u v) J := h
theorem k_mJo_ms_settled {J : List CE} {u : MS} {v : Int64} (h : mJo u J) : mJo (ms_settled u v) J := h
theorem k_mJo_ms_closed {J : List CE} {u : MS} {v : Int64} (h : mJo u J) : mJo (ms_closed u v) J := h
theorem k_mIn_ms_cards {B : List Nat} {u : MS} {v : Nat → Int64} (h : mIn u B) : mIn (ms_cards u v) B := h
theorem k_mIn_ms_balances {B : List Nat} {u : MS} {v : Nat → Int64} (h : mIn u B) : mIn (ms_balances u v) B := h
theorem k_mIn_ms_many {B : List Nat} {u : MS} {v : Int32} (h : mIn u B) : mIn (ms_many u v) B := h
theorem k_mIn_ms_now {B : List Nat} {u : MS} {v : Int32} (h : mIn u B) : mIn (ms_now u v) B := h
theorem k_mIn_ms_out {B : List Nat} {u : MS} {v : Nat → Int32} (h : mIn u B) : mIn (ms_out u v) B := h
theorem k_mIn_ms_outs {B : List Nat} {u : MS} {v : Int32} (h : mIn u B) : mIn (ms_outs u v) B := h
theorem k_mIn_ms_at {B : List Nat} {u : MS} {v : Int32} (h : mIn u B) : mIn (ms_at u v) B := h
theorem k_mIn_ms_value {B : List Nat} {u : MS} {v : Int64} (h : mIn u B) : mIn (ms_value u v) B := h
theorem k_mIn_ms_has {B : List Nat} {u : MS} {v : Nat → Int32} (h : mIn u B) : mIn (ms_has u v) B := h
theorem k_mIn_ms_from {B : List Nat} {u : MS} {v : Nat → Int32} (h : mIn u B) : mIn (ms_from u v) B := h
theorem k_mIn_ms_to {B : List Nat} {u : MS} {v : Nat → Int32} (h : mIn u B) : mIn (ms_to u v) B := h
theorem k_mIn_ms_type {B : List Nat} {u : MS} {v : Int32} (h : mIn u B) : mIn (ms_type u v) B := h
theorem k_mIn_ms_card {B : List Nat} {u : MS} {v : Int64} (h : mIn u B) : mIn (ms_card u v) B := h
theorem k_mIn_ms_sort {B : List Nat} {u : MS} {v : Int32} (h : mIn u B) : mIn (ms_sort u v) B := h
theorem k_mIn_ms_amount {B : List Nat} {u : MS} {v : Int64} (h : mIn u B) : mIn (ms_amount u v) B := h
theorem k_mIn_ms_trace {B : List Nat} {u : MS} {v : Int32} (h : mIn u B) : mIn (ms_trace u v) B := h
theorem k_mIn_ms_terminal {B : List Nat} {u : MS} {v : Int32} (h : mIn u B) : mIn (ms_terminal u v) B := h
theorem k_mIn_ms_original {B : List Nat} {u : MS} {v : Int32} (h : mIn u B) : mIn (ms_original u v) B := h
theorem k_mIn_ms_entries {B : List Nat} {u : MS} {v : Int32} (h : mIn u B) : mIn (ms_entries u v) B := h
theorem k_mIn_ms_types {B : List Nat} {u : MS} {v : Nat → Int32} (h : mIn u B) : mIn (ms_types u v) B := h
theorem k_mIn_ms_terminals {B : List Nat} {u : MS} {v : Nat → Int32} (h : mIn u B) : mIn (ms_terminals u v) B := h
theorem k_mIn_ms_traces {B : List Nat} {u : MS} {v : Nat → Int32} (h : mIn u B) : mIn (ms_traces u v) B := h
theorem k_mIn_ms_whose {B : List Nat} {u : MS} {v : Nat → Int64} (h : mIn u B) : mIn (ms_whose u v) B := h
theorem k_mIn_ms_sorts {B : List Nat} {u : MS} {v : Nat → Int32} (h : mIn u B) : mIn (ms_sorts u v) B := h
theorem k_mIn_ms_amounts {B : List Nat} {u : MS} {v : Nat → Int64} (h : mIn u B) : mIn (ms_amounts u v) B := h
theorem k_mIn_ms_answers {B : List Nat} {u : MS} {v : Nat → Int32} (h : mIn u B) : mIn (ms_answers u v) B := h
theorem k_mIn_ms_marks {B : List Nat} {u : MS} {v : Nat → Int32} (h : mIn u B) : mIn (ms_marks u v) B := h
theorem k_mIn_ms_made {B : List Nat} {u : MS} {v : Nat → Int32} (h : mIn u B) : mIn (ms_made u v) B := h
theorem k_mIn_ms_settled {B : List Nat} {u : MS} {v : Int64} (h : mIn u B) : mIn (ms_settled u v) B := h
theorem k_mIn_ms_closed {B : List Nat} {u : MS} {v : Int64} (h : mIn u B) : mIn (ms_closed u v) B := h
theorem k_mOu_ms_cards {O : List Nat} {u : MS} {v : Nat → Int64} (h : mOu u O) : mOu (ms_cards u v) O := h
theorem k_mOu_ms_balances {O : List Nat} {u : MS} {v : Nat → Int64} (h : mOu u O) : mOu (ms_balances u v) O := h
theorem k_mOu_ms_many {O : List Nat} {u : MS} {v : Int32} (h : mOu u O) : mOu (ms_many u v) O := h
theorem k_mOu_ms_now {O : List Nat} {u : MS} {v : Int32} (h : mOu u O) : mOu (ms_now u v) O := h
theorem k_mOu_ms_in {O : List Nat} {u : MS} {v : Nat → Int32} (h : mOu u O) : mOu (ms_in u v) O := h
theorem k_mOu_ms_ins {O : List Nat} {u : MS} {v : Int32} (h : mOu u O) : mOu (ms_ins u v) O := h
theorem k_mOu_ms_at {O : List Nat} {u : MS} {v : Int32} (h : mOu u O) : mOu (ms_at u v) O := h
theorem k_mOu_ms_value {O : List Nat} {u : MS} {v : Int64} (h : mOu u O) : mOu (ms_value u v) O := h
theorem k_mOu_ms_has {O : List Nat} {u : MS} {v : Nat → Int32} (h : mOu u O) : mOu (ms_has u v) O := h
theorem k_mOu_ms_from {O : List Nat} {u : MS} {v : Nat → Int32} (h : mOu u O) : mOu (ms_from u v) O := h
theorem k_mOu_ms_to {O : List Nat} {u : MS} {v : Nat → Int32} (h : mOu u O) : mOu (ms_to u v) O := h
theorem k_mOu_ms_type {O : List Nat} {u : MS} {v : Int32} (h : mOu u O) : mOu (ms_type u v) O := h
theorem k_mOu_ms_card {O : List Nat} {u : MS} {v : Int64} (h : mOu u O) : mOu (ms_card u v) O := h
theorem k_mOu_ms_sort {O : List Nat} {u : MS} {v : Int32} (h : mOu u O) : mOu (ms_sort u v) O := h
theorem k_mOu_ms_amount {O : List Nat} {u : MS} {v : Int64} (h : mOu u O) : mOu (ms_amount u v) O := h
theorem k_mOu_ms_trace {O : List Nat} {u : MS} {v : Int32} (h : mOu u O) : mOu (ms_trace u v) O := h
theorem k_mOu_ms_terminal {O : List Nat} {u : MS} {v : Int32} (h : mOu u O) : mOu (ms_terminal u v) O := h
theorem k_mOu_ms_original {O : List Nat} {u : MS} {v : Int32} (h : mOu u O) : mOu (ms_original u v) O := h
theorem k_mOu_ms_entries {O : List Nat} {u : MS} {v : Int32} (h : mOu u O) : mOu (ms_entries u v) O := h
theorem k_mOu_ms_types {O : List Nat} {u : MS} {v : Nat → Int32} (h : mOu u O) : mOu (ms_types u v) O := h
theorem k_mOu_ms_terminals {O : List Nat} {u : MS} {v : Nat → Int32} (h : mOu u O) : mOu (ms_terminals u v) O := h
theorem k_mOu_ms_traces {O : List Nat} {u : MS} {v : Nat → Int32} (h : mOu u O) : mOu (ms_traces u v) O := h
theorem k_mOu_ms_whose {O : List Nat} {u : MS} {v : Nat → Int64} (h : mOu u O) : mOu (ms_whose u v) O := h
theorem k_mOu_ms_sorts {O : List Nat} {u : MS} {v : Nat → Int32} (h : mOu u O) : mOu (ms_sorts u v) O := h
theorem k_mOu_ms_amounts {O : List Nat} {u : MS} {v : Nat → Int64} (h : mOu u O) : mOu (ms_amounts u v) O := h
theorem k_mOu_ms_answers {O : List Nat} {u : MS} {v : Nat → Int32} (h : mOu u O) : mOu (ms_answers u v) O := h
theorem k_mOu_ms_marks {O : List Nat} {u : MS} {v : Nat → Int32} (h : mOu u O) : mOu (ms_marks u v) O := h
theorem k_mOu_ms_made {O : List Nat} {u : MS} {v : Nat → Int32} (h : mOu u O) : mOu (ms_made u v) O := h
theorem k_mOu_ms_settled {O : List Nat} {u : MS} {v : Int64} (h : mOu u O) : mOu (ms_settled u v) O := h
theorem k_mOu_ms_closed {O : List Nat} {u : MS} {v : Int64} (h : mOu u O) : mOu (ms_closed u v) O := h
