noncomputable def f_N_people (d : Nat) (a1 : Int32) (a2 : Int32) (a3 : Int32) (a4 : Int32) (σ : Sg) : Rs := ev d 12 [.ref 4, .int a1, .int a2, .int a3, .int a4] σ
noncomputable def f_N_isName (d : Nat) (a1 : Int32) (σ : Sg) : Rs := ev d 13 [.ref 4, .int a1] σ
noncomputable def f_N_isNumberOf (d : Nat) (a0 : Int32) (σ : Sg) : Rs := ev d 14 [.int a0] σ
noncomputable def f_N_feed (d : Nat) (a1 : Int32) (a2 : Int32) (a3 : Int32) (a4 : Int32) (a5 : Int32) (σ : Sg) : Rs := ev d 15 [.ref 4, .int a1, .int a2, .int a3, .int a4, .int a5] σ
noncomputable def f_Tape_hasRoomFor (d : Nat) (a1 : Int32) (σ : Sg) : Rs := ev d 16 [.ref 5, .int a1] σ
noncomputable def f_Tape_add (d : Nat) (a1 : Int32) (σ : Sg) : Rs := ev d 17 [.ref 5, .int a1] σ
noncomputable def f_Tape_add_3 (d : Nat) (x1 : Int32) (x2 : Int32) (σ : Sg) : Rs := evAt sc0 (ev d) cd_17 (jmp cd_17 3) [.ref 5, .int x1, .int x2] [] σ
noncomputable def f_N_law (d : Nat) (a1 : Int32) (σ : Sg) : Rs := ev d 18 [.ref 4, .int a1] σ
noncomputable def f_Tape_has (d : Nat) (a1 : Int32) (a2 : Int32) (σ : Sg) : Rs := ev d 19 [.ref 5, .int a1, .int a2] σ
noncomputable def f_Tape_take (d : Nat) (a1 : Int32) (a2 : Int32) (σ : Sg) : Rs := ev d 20 [.ref 5, .int a1, .int a2] σ
noncomputable def f_LawReader_read (d : Nat) (a1 : Nat) (σ : Sg) : Rs := ev d 21 [.ref 5, .ref a1] σ
noncomputable def f_LawReader_read_12 (d : Nat) (x1 : Nat) (x2 : Int32) (x3 : Int32) (σ : Sg) : Rs := evAt sc0 (ev d) cd_21 (jmp cd_21 12) [.ref 5, .ref x1, .int x2, .int x3] [] σ
noncomputable def f_Law_clear (d : Nat) (a0 : Nat) (σ : Sg) : Rs := ev d 22 [.ref a0] σ
noncomputable def f_LawReader_readClause (d : Nat) (a1 : Nat) (σ : Sg) : Rs := ev d 23 [.ref 5, .ref a1] σ
noncomputable def f_Tape_now (d : Nat) (σ : Sg) : Rs := ev d 24 [.ref 5] σ
noncomputable def f_Tape_fault (d : Nat) (a1 : Int32) (σ : Sg) : Rs := ev d 25 [.ref 5, .int a1] σ
noncomputable def f_LawReader_readSum (d : Nat) (a1 : Nat) (a2 : Int32) (σ : Sg) : Rs := ev d 26 [.ref 5, .ref a1, .int a2] σ
noncomputable def f_LawReader_readSum_16 (d : Nat) (x1 : Nat) (x2 : Int32) (x3 : Int32) (x4 : Int32) (x5 : Int32) (σ : Sg) : Rs := evAt sc0 (ev d) cd_26 (jmp cd_26 16) [.ref 5, .ref x1, .int x2, .int x3, .int x4, .int x5] [] σ
noncomputable def f_LawReader_readTerm (d : Nat) (a1 : Nat) (a2 : Int32) (σ : Sg) : Rs := ev d 27 [.ref 5, .ref a1, .int a2] σ
noncomputable def f_LawReader_readTerm_16 (d : Nat) (x1 : Nat) (x2 : Int32) (x3 : Int32) (x4 : Int32) (x5 : Int32) (σ : Sg) : Rs := evAt sc0 (ev d) cd_27 (jmp cd_27 16) [.ref 5, .ref x1, .int x2, .int x3, .int x4, .int x5] [] σ
noncomputable def f_LawReader_readFactor (d : Nat) (a1 : Nat) (a2 : Int32) (σ : Sg) : Rs := ev d 28 [.ref 5, .ref a1, .int a2] σ
noncomputable def f_LawReader_readFactor_76 (d : Nat) (x1 : Nat) (x2 : Value) (x3 : Int32) (x4 : Int32) (σ : Sg) : Rs := evAt sc0 (ev d) cd_28 (jmp cd_28 76) [.ref 5, .ref x1, x2, .int x3, .int x4] [] σ
noncomputable def f_N_isDigit (d : Nat) (a0 : Int32) (σ : Sg) : Rs := ev d 29 [.int a0] σ
noncomputable def f_LawReader_readNumber (d : Nat) (a1 : Nat) (σ : Sg) : Rs := ev d 30 [.ref 5, .ref a1] σ
noncomputable def f_LawReader_readNumber_4 (d : Nat) (x1 : Nat) (x2 : Int32) (x3 : Int32) (σ : Sg) : Rs := evAt sc0 (ev d) cd_30 (jmp cd_30 4) [.ref 5, .ref x1, .int x2, .int x3] [] σ
noncomputable def f_Law_emit (d : Nat) (a0 : Nat) (a1 : Int32) (a2 : Int32) (σ : Sg) : Rs := ev d 31 [.ref a0, .int a1, .int a2] σ
noncomputable def f_Tape_sign (d : Nat) (a1 : Int32) (σ : Sg) : Rs := ev d 32 [.ref 5, .int a1] σ
noncomputable def f_LawReader_readBracket (d : Nat) (a1 : Nat) (a2 : Int32) (σ : Sg) : Rs := ev d 33 [.ref 5, .ref a1, .int a2] σ
noncomputable def f_LawReader_readChoice (d : Nat) (a1 : Nat) (a2 : Int32) (σ : Sg) : Rs := ev d 34 [.ref 5, .ref a1, .int a2] σ
noncomputable def f_LawReader_readChoice_13 (d : Nat) (x1 : Nat) (x2 : Int32) (x3 : Int32) (x4 : Int32) (x5 : Int32) (σ : Sg) : Rs := evAt sc0 (ev d) cd_34 (jmp cd_34 13) [.ref 5, .ref x1, .int x2, .int x3, .int x4, .int x5] [] σ
noncomputable def f_LawReader_readPart (d : Nat) (a1 : Nat) (a2 : Int32) (σ : Sg) : Rs := ev d 35 [.ref 5, .ref a1, .int a2] σ
noncomputable def f_LawReader_readPart_13 (d : Nat) (x1 : Nat) (x2 : Int32) (x3 : Int32) (x4 : Int32) (x5 : Int32) (σ : Sg) : Rs := evAt sc0 (ev d) cd_35 (jmp cd_35 13) [.ref 5, .ref x1, .int x2, .int x3, .int x4, .int x5] [] σ
noncomputable def f_LawReader_readTest (d : Nat) (a1 : Nat) (a2 : Int32) (σ : Sg) : Rs := ev d 36 [.ref 5, .ref a1, .int a2] σ
noncomputable def f_LawReader_emitSkip (d : Nat) (a1 : Nat) (a2 : Int32) (σ : Sg) : Rs := ev d 37 [.ref 5, .ref a1, .int a2] σ
noncomputable def f_LawReader_endSkip (d : Nat) (a0 : Nat) (a1 : Int32) (σ : Sg) : Rs := ev d 38 [.ref a0, .int a1] σ
noncomputable def f_Tape_end (d : Nat) (σ : Sg) : Rs := ev d 39 [.ref 5] σ
noncomputable def f_N_rule (d : Nat) (a1 : Int32) (σ : Sg) : Rs := ev d 40 [.ref 4, .int a1] σ
noncomputable def f_Rule_read (d : Nat) (a0 : Nat) (σ : Sg) : Rs := ev d 41 [.ref a0, .ref 5] σ
noncomputable def f_Rule_readWives (d : Nat) (a0 : Nat) (σ : Sg) : Rs := ev d 42 [.ref a0, .ref 5] σ
noncomputable def f_Rule_readWives_4 (d : Nat) (x0 : Nat) (x2 : Int32) (x3 : Int32) (x4 : Value) (σ : Sg) : Rs := evAt sc0 (ev d) cd_42 (jmp cd_42 4) [.ref x0, .ref 5, .int x2, .int x3, x4] [] σ
noncomputable def f_Rule_readWives_125 (d : Nat) (x0 : Nat) (x2 : Value) (x3 : Value) (x4 : Int32) (σ : Sg) : Rs := evAt sc0 (ev d) cd_42 (jmp cd_42 125) [.ref x0, .ref 5, x2, x3, .int x4] [] σ
noncomputable def f_N_nameOf (d : Nat) (a0 : Int32) (σ : Sg) : Rs := ev d 43 [.int a0] σ
noncomputable def f_N_fault (d : Nat) (a0 : Int32) (a1 : Int32) (σ : Sg) : Rs := ev d 44 [.int a0, .int a1] σ
noncomputable def f_Rule_readChildren (d : Nat) (a0 : Nat) (σ : Sg) : Rs := ev d 45 [.ref a0, .ref 5] σ
noncomputable def f_Rule_readChildren_4 (d : Nat) (x0 : Nat) (x2 : Int32) (x3 : Int32) (x4 : Value) (σ : Sg) : Rs := evAt sc0 (ev d) cd_45 (jmp cd_45 4) [.ref x0, .ref 5, .int x2, .int x3, x4] [] σ
noncomputable def f_Rule_turnRound (d : Nat) (a0 : Nat) (σ : Sg) : Rs := ev d 46 [.ref a0] σ
noncomputable def f_Rule_turnRound_2 (d : Nat) (x0 : Nat) (x1 : Int32) (σ : Sg) : Rs := evAt sc0 (ev d) cd_46 (jmp cd_46 2) [.ref x0, .int x1] [] σ
noncomputable def f_Village_clear (d : Nat) (a0 : Nat) (σ : Sg) : Rs := ev d 47 [.ref a0] σ
noncomputable def f_Arrays_fill_2I (d : Nat) (a0 : Nat) (a1 : Int32) (σ : Sg) : Rs := ev d 48 [.ref a0, .int a1] σ
noncomputable def f_Arrays_fill_2I_5 (d : Nat) (x0 : Nat) (x1 : Int32) (x2 : Int32) (x3 : Int32) (σ : Sg) : Rs := evAt sc0 (ev d) cd_48 (jmp cd_48 5) [.ref x0, .int x1, .int x2, .int x3] [] σ
noncomputable def f_Roll_forgetNamesFrom (d : Nat) (a0 : Nat) (a1 : Int32) (σ : Sg) : Rs := ev d 49 [.ref a0, .int a1] σ
noncomputable def f_Roll_forgetNamesFrom_2 (d : Nat) (x0 : Nat) (x1 : Int32) (x2 : Int32) (σ : Sg) : Rs := evAt sc0 (ev d) cd_49 (jmp cd_49 2) [.ref x0, .int x1, .int x2] [] σ
noncomputable def f_Houses_settle (d : Nat) (a1 : Nat) (a2 : Nat) (σ : Sg) : Rs := ev d 50 [.ref 75, .ref a1, .ref a2] σ
noncomputable def f_Houses_settle_32 (d : Nat) (x1 : Nat) (x2 : Nat) (x3 : Int32) (σ : Sg) : Rs := evAt sc0 (ev d) cd_50 (jmp cd_50 32) [.ref 75, .ref x1, .ref x2, .int x3] [] σ
noncomputable def f_Houses_findHeads (d : Nat) (a1 : Nat) (σ : Sg) : Rs := ev d 51 [.ref 75, .ref a1] σ
noncomputable def f_Houses_findHeads_2 (d : Nat) (x1 : Nat) (x2 : Int32) (σ : Sg) : Rs := evAt sc0 (ev d) cd_51 (jmp cd_51 2) [.ref 75, .ref x1, .int x2] [] σ
noncomputable def f_Houses_findHeads_25 (d : Nat) (x1 : Nat) (x2 : Int32) (σ : Sg) : Rs := evAt sc0 (ev d) cd_51 (jmp cd_51 25) [.ref 75, .ref x1, .int x2] [] σ
noncomputable def f_Houses_joinTo (d : Nat) (a1 : Nat) (a2 : Int32) (a3 : Int32) (σ : Sg) : Rs := ev d 52 [.ref 75, .ref a1, .int a2, .int a3] σ
noncomputable def f_Roll_has (d : Nat) (a0 : Nat) (a1 : Int32) (σ : Sg) : Rs := ev d 53 [.ref a0, .int a1] σ
noncomputable def f_N_join (d : Nat) (a0 : Nat) (a1 : Int32) (a2 : Int32) (a3 : Int32) (σ : Sg) : Rs := ev d 54 [.ref a0, .int a1, .int a2, .int a3] σ
noncomputable def f_N_join_25 (d : Nat) (x0 : Nat) (x1 : Int32) (x2 : Value) (x3 : Value) (x4 : Int32) (x5 : Int32) (x6 : Int32) (σ : Sg) : Rs := evAt sc0 (ev d) cd_54 (jmp cd_54 25) [.ref x0, .int x1, x2, x3, .int x4, .int x5, .int x6] [] σ
noncomputable def f_Math_min (d : Nat) (a0 : Int32) (a1 : Int32) (σ : Sg) : Rs := ev d 55 [.int a0, .int a1] σ
noncomputable def f_Math_max (d : Nat) (a0 : Int32) (a1 : Int32) (σ : Sg) : Rs := ev d 56 [.int a0, .int a1] σ
noncomputable def f_Houses_nameAll (d : Nat) (a1 : Nat) (a2 : Nat) (a3 : Int32) (σ : Sg) : Rs := ev d 57 [.ref 75, .ref a1, .ref a2, .int a3] σ
noncomputable def f_Houses_nameAll_3 (d : Nat) (x1 : Nat) (x2 : Nat) (x3 : Int32) (x4 : Int32) (x5 : Value) (x6 : Value) (σ : Sg) : Rs := evAt sc0 (ev d) cd_57 (jmp cd_57 3) [.ref 75, .ref x1, .ref x2, .int x3, .int x4, x5, x6] [] σ
noncomputable def f_Houses_nameAll_48 (d : Nat) (x1 : Nat) (x2 : Nat) (x3 : Value) (x4 : Int32) (x5 : Int32) (x6 : Value) (σ : Sg) : Rs := evAt sc0 (ev d) cd_57 (jmp cd_57 48) [.ref 75, .ref x1, .ref x2, x3, .int x4, .int x5, x6] [] σ
noncomputable def f_Houses_nameAll_68 (d : Nat) (x1 : Nat) (x2 : Nat) (x3 : Value) (x4 : Int32) (x5 : Int32) (x6 : Int32) (σ : Sg) : Rs := evAt sc0 (ev d) cd_57 (jmp cd_57 68) [.ref 75, .ref x1, .ref x2, x3, .int x4, .int x5, .int x6] [] σ
noncomputable def f_Houses_nameNext (d : Nat) (a1 : Nat) (a2 : Nat) (a3 : Int32) (a4 : Int32) (a5 : Int32) (σ : Sg) : Rs := ev d 58 [.ref 75, .ref a1, .ref a2, .int a3, .int a4, .int a5] σ
noncomputable def f_Rule_go (d : Nat) (a0 : Nat) (a1 : Int32) (a2 : Int32) (a3 : Int32) (σ : Sg) : Rs := ev d 59 [.ref a0, .int a1, .int a2, .int a3] σ
noncomputable def f_Rule_spouse (d : Nat) (a0 : Nat) (a1 : Int32) (a2 : Int32) (σ : Sg) : Rs := ev d 60 [.ref a0, .int a1, .int a2] σ
noncomputable def f_Houses_findBroken (d : Nat) (a1 : Nat) (a2 : Nat) (σ : Sg) : Rs := ev d 61 [.ref 75, .ref a1, .ref a2] σ
noncomputable def f_Houses_findBroken_7 (d : Nat) (x1 : Nat) (x2 : Nat) (x3 : Int32) (x4 : Value) (σ : Sg) : Rs := evAt sc0 (ev d) cd_61 (jmp cd_61 7) [.ref 75, .ref x1, .ref x2, .int x3, x4] [] σ
noncomputable def f_Houses_fits (d : Nat) (a1 : Nat) (a2 : Nat) (a3 : Int32) (a4 : Int32) (a5 : Int32) (σ : Sg) : Rs := ev d 62 [.ref 75, .ref a1, .ref a2, .int a3, .int a4, .int a5] σ
noncomputable def f_Houses_takeIn (d : Nat) (a1 : Nat) (σ : Sg) : Rs := ev d 63 [.ref 75, .ref a1] σ
noncomputable def f_Houses_takeIn_10 (d : Nat) (x1 : Nat) (x2 : Int32) (x3 : Value) (σ : Sg) : Rs := evAt sc0 (ev d) cd_63 (jmp cd_63 10) [.ref 75, .ref x1, .int x2, x3] [] σ
noncomputable def f_Houses_takeIn_67 (d : Nat) (x1 : Nat) (x2 : Int32) (x3 : Value) (σ : Sg) : Rs := evAt sc0 (ev d) cd_63 (jmp cd_63 67) [.ref 75, .ref x1, .int x2, x3] [] σ
noncomputable def f_Integer_bitCount (d : Nat) (a0 : Int32) (σ : Sg) : Rs := ev d 64 [.int a0] σ
noncomputable def f_N_roll (d : Nat) (a1 : Int32) (σ : Sg) : Rs := ev d 65 [.ref 4, .int a1] σ
noncomputable def f_Roll_read (d : Nat) (a0 : Nat) (a2 : Int32) (σ : Sg) : Rs := ev d 66 [.ref a0, .ref 5, .int a2] σ
noncomputable def f_Roll_read_7 (d : Nat) (x0 : Nat) (x2 : Int32) (x3 : Int32) (x4 : Value) (σ : Sg) : Rs := evAt sc0 (ev d) cd_66 (jmp cd_66 7) [.ref x0, .ref 5, .int x2, .int x3, x4] [] σ
noncomputable def f_Roll_readPerson (d : Nat) (a0 : Nat) (a2 : Int32) (σ : Sg) : Rs := ev d 67 [.ref a0, .ref 5, .int a2] σ
noncomputable def f_Roll_readParents (d : Nat) (a0 : Nat) (σ : Sg) : Rs := ev d 68 [.ref a0, .ref 5] σ
noncomputable def f_Roll_readParent (d : Nat) (a0 : Nat) (a2 : Int32) (σ : Sg) : Rs := ev d 69 [.ref a0, .ref 5, .int a2] σ
noncomputable def f_Roll_readNumber (d : Nat) (a0 : Nat) (σ : Sg) : Rs := ev d 70 [.ref a0, .ref 5] σ
noncomputable def f_Roll_readNumber_12 (d : Nat) (x0 : Nat) (x2 : Int32) (x3 : Int32) (σ : Sg) : Rs := evAt sc0 (ev d) cd_70 (jmp cd_70 12) [.ref x0, .ref 5, .int x2, .int x3] [] σ
noncomputable def f_Roll_readSpouse (d : Nat) (a0 : Nat) (σ : Sg) : Rs := ev d 71 [.ref a0, .ref 5] σ
noncomputable def f_Roll_relateAll (d : Nat) (a0 : Nat) (σ : Sg) : Rs := ev d 72 [.ref a0] σ
noncomputable def f_Roll_relateAll_12 (d : Nat) (x0 : Nat) (x1 : Int32) (x2 : Value) (σ : Sg) : Rs := evAt sc0 (ev d) cd_72 (jmp cd_72 12) [.ref x0, .int x1, x2] [] σ
noncomputable def f_Roll_relateAll_89 (d : Nat) (x0 : Nat) (x1 : Int32) (x2 : Int32) (σ : Sg) : Rs := evAt sc0 (ev d) cd_72 (jmp cd_72 89) [.ref x0, .int x1, .int x2] [] σ
noncomputable def f_Roll_bit (d : Nat) (a0 : Int32) (σ : Sg) : Rs := ev d 73 [.int a0] σ
noncomputable def f_Roll_isSame (d : Nat) (a0 : Int32) (a1 : Int32) (σ : Sg) : Rs := ev d 74 [.int a0, .int a1] σ
noncomputable def f_N_kin (d : Nat) (a1 : Int32) (a2 : Int32) (a3 : Int32) (σ : Sg) : Rs := ev d 75 [.ref 4, .int a1, .int a2, .int a3] σ
noncomputable def f_N_isSort (d : Nat) (a0 : Int32) (σ : Sg) : Rs := ev d 76 [.int a0] σ
noncomputable def f_Word_read (d : Nat) (a0 : Nat) (a2 : Int32) (σ : Sg) : Rs := ev d 77 [.ref a0, .ref 5, .int a2] σ
noncomputable def f_Word_read_20 (d : Nat) (x0 : Nat) (x2 : Int32) (x3 : Value) (σ : Sg) : Rs := evAt sc0 (ev d) cd_77 (jmp cd_77 20) [.ref x0, .ref 5, .int x2, x3] [] σ
noncomputable def f_Word_readByte (d : Nat) (a0 : Nat) (σ : Sg) : Rs := ev d 78 [.ref a0, .ref 5] σ
noncomputable def f_Word_openRound (d : Nat) (a0 : Nat) (σ : Sg) : Rs := ev d 79 [.ref a0, .ref 5] σ
noncomputable def f_Word_startHere (d : Nat) (a0 : Nat) (σ : Sg) : Rs := ev d 80 [.ref a0, .ref 5] σ
noncomputable def f_Word_timesHere (d : Nat) (a0 : Nat) (σ : Sg) : Rs := ev d 81 [.ref a0] σ
noncomputable def f_Word_closeRound (d : Nat) (a0 : Nat) (σ : Sg) : Rs := ev d 82 [.ref a0, .ref 5] σ
noncomputable def f_Word_closeRound_91 (d : Nat) (x0 : Nat) (x2 : Value) (x3 : Int32) (x4 : Int32) (σ : Sg) : Rs := evAt sc0 (ev d) cd_82 (jmp cd_82 91) [.ref x0, .ref 5, x2, .int x3, .int x4] [] σ
noncomputable def f_N_stepOf (d : Nat) (a0 : Int32) (σ : Sg) : Rs := ev d 83 [.int a0] σ
noncomputable def f_N_stepOf_2 (d : Nat) (x0 : Int32) (x1 : Int32) (σ : Sg) : Rs := evAt sc0 (ev d) cd_83 (jmp cd_83 2) [.int x0, .int x1] [] σ
noncomputable def f_Word_addStep (d : Nat) (a0 : Nat) (a1 : Int32) (σ : Sg) : Rs := ev d 84 [.ref a0, .int a1, .ref 5] σ
noncomputable def f_Word_addStep_34 (d : Nat) (x0 : Nat) (x1 : Int32) (x3 : Value) (x4 : Int32) (x5 : Int32) (σ : Sg) : Rs := evAt sc0 (ev d) cd_84 (jmp cd_84 34) [.ref x0, .int x1, .ref 5, x3, .int x4, .int x5] [] σ
noncomputable def f_Word_firstNoSpouse (d : Nat) (a0 : Nat) (a1 : Int32) (σ : Sg) : Rs := ev d 85 [.ref a0, .int a1] σ
noncomputable def f_Word_firstNoSpouse_4 (d : Nat) (x0 : Nat) (x1 : Value) (x2 : Int32) (x3 : Int32) (σ : Sg) : Rs := evAt sc0 (ev d) cd_85 (jmp cd_85 4) [.ref x0, x1, .int x2, .int x3] [] σ
noncomputable def f_N_canStep (d : Nat) (a0 : Int32) (a1 : Int32) (σ : Sg) : Rs := ev d 86 [.int a0, .int a1] σ
noncomputable def f_N_sortBehind (d : Nat) (a0 : Int32) (σ : Sg) : Rs := ev d 87 [.int a0] σ
noncomputable def f_Word_sortAtEnd (d : Nat) (a0 : Nat) (σ : Sg) : Rs := ev d 88 [.ref a0] σ
noncomputable def f_Word_unchanged (d : Nat) (a0 : Nat) (a1 : Nat) (a2 : Int32) (σ : Sg) : Rs := ev d 89 [.ref a0, .ref a1, .int a2] σ
noncomputable def f_Word_unchanged_5 (d : Nat) (x0 : Nat) (x1 : Nat) (x2 : Int32) (x3 : Int32) (x4 : Int32) (σ : Sg) : Rs := evAt sc0 (ev d) cd_89 (jmp cd_89 5) [.ref x0, .ref x1, .int x2, .int x3, .int x4] [] σ
noncomputable def f_Word_lead (d : Nat) (a0 : Nat) (a1 : Nat) (a2 : Int32) (a3 : Int32) (σ : Sg) : Rs := ev d 90 [.ref a0, .ref a1, .int a2, .int a3] σ
noncomputable def f_Word_lead_9 (d : Nat) (x0 : Nat) (x1 : Nat) (x2 : Value) (x3 : Value) (x4 : Int32) (x5 : Int32) (x6 : Int32) (σ : Sg) : Rs := evAt sc0 (ev d) cd_90 (jmp cd_90 9) [.ref x0, .ref x1, x2, x3, .int x4, .int x5, .int x6] [] σ
noncomputable def f_Word_rounds (d : Nat) (a0 : Nat) (a1 : Nat) (a2 : Int32) (σ : Sg) : Rs := ev d 91 [.ref a0, .ref a1, .int a2] σ
noncomputable def f_Word_rounds_5 (d : Nat) (x0 : Nat) (x1 : Nat) (x2 : Int32) (x3 : Int32) (x4 : Int32) (x5 : Value) (x6 : Value) (x7 : Value) (σ : Sg) : Rs := evAt sc0 (ev d) cd_91 (jmp cd_91 5) [.ref x0, .ref x1, .int x2, .int x3, .int x4, x5, x6, x7] [] σ
noncomputable def f_Word_rounds_30 (d : Nat) (x0 : Nat) (x1 : Nat) (x2 : Int32) (x3 : Int32) (x4 : Int32) (x5 : Int32) (x6 : Int32) (x7 : Int32) (σ : Sg) : Rs := evAt sc0 (ev d) cd_91 (jmp cd_91 30) [.ref x0, .ref x1, .int x2, .int x3, .int x4, .int x5, .int x6, .int x7] [] σ
noncomputable def f_Word_circle (d : Nat) (a0 : Nat) (a1 : Nat) (a2 : Int32) (a3 : Int32) (σ : Sg) : Rs := ev d 92 [.ref a0, .ref a1, .int a2, .int a3] σ
noncomputable def f_Word_circle_12 (d : Nat) (x0 : Nat) (x1 : Nat) (x2 : Int32) (x3 : Int32) (x4 : Int32) (x5 : Int32) (σ : Sg) : Rs := evAt sc0 (ev d) cd_92 (jmp cd_92 12) [.ref x0, .ref x1, .int x2, .int x3, .int x4, .int x5] [] σ
noncomputable def f_Word_lawfulFrom (d : Nat) (a0 : Nat) (a1 : Nat) (a2 : Int32) (σ : Sg) : Rs := ev d 93 [.ref a0, .ref a1, .int a2] σ
noncomputable def f_Word_lawfulFrom_5 (d : Nat) (x0 : Nat) (x1 : Nat) (x2 : Int32) (x3 : Int32) (x4 : Int32) (σ : Sg) : Rs := evAt sc0 (ev d) cd_93 (jmp cd_93 5) [.ref x0, .ref x1, .int x2, .int x3, .int x4] [] σ
noncomputable def f_Word_isLawful (d : Nat) (a0 : Nat) (a1 : Nat) (a2 : Int32) (a3 : Int32) (σ : Sg) : Rs := ev d 94 [.ref a0, .ref a1, .int a2, .int a3] σ
noncomputable def f_N_alike (d : Nat) (a1 : Int32) (a2 : Int32) (a3 : Int32) (σ : Sg) : Rs := ev d 95 [.ref 4, .int a1, .int a2, .int a3] σ
noncomputable def f_N_alike_159 (d : Nat) (x1 : Value) (x2 : Value) (x3 : Int32) (x4 : Value) (x5 : Value) (x6 : Int32) (x7 : Int32) (σ : Sg) : Rs := evAt sc0 (ev d) cd_95 (jmp cd_95 159) [.ref 4, x1, x2, .int x3, x4, x5, .int x6, .int x7] [] σ
noncomputable def f_N_ways (d : Nat) (a1 : Int32) (σ : Sg) : Rs := ev d 96 [.ref 4, .int a1] σ
noncomputable def f_Changes_sides (d : Nat) (a1 : Nat) (σ : Sg) : Rs := ev d 97 [.ref 69, .ref a1] σ
noncomputable def f_Changes_sides_2 (d : Nat) (x1 : Nat) (x2 : Int32) (x3 : Value) (σ : Sg) : Rs := evAt sc0 (ev d) cd_97 (jmp cd_97 2) [.ref 69, .ref x1, .int x2, x3] [] σ
noncomputable def f_Changes_sides_25 (d : Nat) (x1 : Nat) (x2 : Int32) (x3 : Value) (σ : Sg) : Rs := evAt sc0 (ev d) cd_97 (jmp cd_97 25) [.ref 69, .ref x1, .int x2, x3] [] σ
noncomputable def f_Changes_sides_79 (d : Nat) (x1 : Nat) (x2 : Int32) (x3 : Int32) (σ : Sg) : Rs := evAt sc0 (ev d) cd_97 (jmp cd_97 79) [.ref 69, .ref x1, .int x2, .int x3] [] σ
noncomputable def f_Changes_size (d : Nat) (a1 : Nat) (a2 : Int32) (σ : Sg) : Rs := ev d 98 [.ref 69, .ref a1, .int a2] σ
noncomputable def f_Changes_size_38 (d : Nat) (x1 : Nat) (x2 : Int32) (x3 : Int32) (σ : Sg) : Rs := evAt sc0 (ev d) cd_98 (jmp cd_98 38) [.ref 69, .ref x1, .int x2, .int x3] [] σ
noncomputable def f_Arrays_fill_4I (d : Nat) (a0 : Nat) (a1 : Int32) (a2 : Int32) (a3 : Int32) (σ : Sg) : Rs := ev d 99 [.ref a0, .int a1, .int a2, .int a3] σ
noncomputable def f_Arrays_fill_4I_10 (d : Nat) (x0 : Nat) (x1 : Value) (x2 : Int32) (x3 : Int32) (x4 : Int32) (σ : Sg) : Rs := evAt sc0 (ev d) cd_99 (jmp cd_99 10) [.ref x0, x1, .int x2, .int x3, .int x4] [] σ
noncomputable def f_Arrays_rangeCheck (d : Nat) (a0 : Int32) (a1 : Int32) (a2 : Int32) (σ : Sg) : Rs := ev d 100 [.int a0, .int a1, .int a2] σ
noncomputable def f_Changes_unpack (d : Nat) (a0 : Int32) (a1 : Nat) (a2 : Int32) (σ : Sg) : Rs := ev d 101 [.int a0, .ref a1, .int a2] σ
noncomputable def f_Changes_unpack_8 (d : Nat) (x0 : Value) (x1 : Nat) (x2 : Int32) (x3 : Int32) (x4 : Int32) (x5 : Int32) (x6 : Value) (x7 : Value) (x8 : Value) (σ : Sg) : Rs := evAt sc0 (ev d) cd_101 (jmp cd_101 8) [x0, .ref x1, .int x2, .int x3, .int x4, .int x5, x6, x7, x8] [] σ
noncomputable def f_Changes_unusedAt (d : Nat) (a0 : Int32) (a1 : Int32) (σ : Sg) : Rs := ev d 102 [.int a0, .int a1] σ
noncomputable def f_Changes_unusedAt_4 (d : Nat) (x0 : Int32) (x1 : Value) (x2 : Int32) (x3 : Int32) (σ : Sg) : Rs := evAt sc0 (ev d) cd_102 (jmp cd_102 4) [.int x0, x1, .int x2, .int x3] [] σ
noncomputable def f_Changes_reach (d : Nat) (a1 : Nat) (a2 : Int32) (σ : Sg) : Rs := ev d 103 [.ref 69, .ref a1, .int a2] σ
noncomputable def f_Changes_reach_2 (d : Nat) (x1 : Nat) (x2 : Int32) (x3 : Int32) (σ : Sg) : Rs := evAt sc0 (ev d) cd_103 (jmp cd_103 2) [.ref 69, .ref x1, .int x2, .int x3] [] σ
noncomputable def f_Changes_pack (d : Nat) (a0 : Nat) (a1 : Int32) (σ : Sg) : Rs := ev d 104 [.ref a0, .int a1] σ
noncomputable def f_Changes_pack_4 (d : Nat) (x0 : Nat) (x1 : Int32) (x2 : Int32) (x3 : Int32) (x4 : Value) (x5 : Value) (σ : Sg) : Rs := evAt sc0 (ev d) cd_104 (jmp cd_104 4) [.ref x0, .int x1, .int x2, .int x3, x4, x5] [] σ
noncomputable def f_Changes_pack_17 (d : Nat) (x0 : Nat) (x1 : Int32) (x2 : Int32) (x3 : Int32) (x4 : Int32) (x5 : Int32) (σ : Sg) : Rs := evAt sc0 (ev d) cd_104 (jmp cd_104 17) [.ref x0, .int x1, .int x2, .int x3, .int x4, .int x5] [] σ
noncomputable def f_N_term (d : Nat) (a1 : Int32) (a2 : Int32) (a3 : Int32) (a4 : Int32) (a5 : Int32) (σ : Sg) : Rs := ev d 105 [.ref 4, .int a1, .int a2, .int a3, .int a4, .int a5] σ
noncomputable def f_N_isStep (d : Nat) (a0 : Int32) (a1 : Int32) (σ : Sg) : Rs := ev d 106 [.int a0, .int a1] σ
noncomputable def f_Row_findOnNames (d : Nat) (a1 : Nat) (a2 : Int32) (a3 : Int32) (σ : Sg) : Rs := ev d 107 [.ref 61, .ref a1, .int a2, .int a3] σ
noncomputable def f_Row_findOnNames_30 (d : Nat) (x1 : Nat) (x2 : Int32) (x3 : Int32) (x4 : Int32) (x5 : Value) (σ : Sg) : Rs := evAt sc0 (ev d) cd_107 (jmp cd_107 30) [.ref 61, .ref x1, .int x2, .int x3, .int x4, x5] [] σ
noncomputable def f_Row_findOnNames_49 (d : Nat) (x1 : Nat) (x2 : Int32) (x3 : Int32) (x4 : Int32) (x5 : Int32) (σ : Sg) : Rs := evAt sc0 (ev d) cd_107 (jmp cd_107 49) [.ref 61, .ref x1, .int x2, .int x3, .int x4, .int x5] [] σ
noncomputable def f_Row_next (d : Nat) (a0 : Nat) (a1 : Int32) (a2 : Int32) (σ : Sg) : Rs := ev d 108 [.ref a0, .int a1, .int a2] σ
noncomputable def f_Row_comeTo (d : Nat) (a1 : Int32) (a2 : Int32) (a3 : Int32) (σ : Sg) : Rs := ev d 109 [.ref 61, .int a1, .int a2, .int a3] σ
noncomputable def f_Row_writeBack (d : Nat) (a1 : Int32) (a2 : Int32) (σ : Sg) : Rs := ev d 110 [.ref 61, .int a1, .int a2] σ
noncomputable def f_Row_writeBack_10 (d : Nat) (x1 : Int32) (x2 : Int32) (x3 : Int32) (x4 : Int32) (σ : Sg) : Rs := evAt sc0 (ev d) cd_110 (jmp cd_110 10) [.ref 61, .int x1, .int x2, .int x3, .int x4] [] σ
noncomputable def f_Row_writeBack_55 (d : Nat) (x1 : Value) (x2 : Value) (x3 : Int32) (x4 : Int32) (σ : Sg) : Rs := evAt sc0 (ev d) cd_110 (jmp cd_110 55) [.ref 61, x1, x2, .int x3, .int x4] [] σ
noncomputable def f_Row_tell (d : Nat) (a1 : Int32) (σ : Sg) : Rs := ev d 111 [.ref 61, .int a1] σ
noncomputable def f_N_cousin (d : Nat) (a1 : Int32) (σ : Sg) : Rs := ev d 112 [.ref 4, .int a1] σ
noncomputable def f_Row_findCousin (d : Nat) (a1 : Nat) (σ : Sg) : Rs := ev d 113 [.ref 61, .ref a1] σ
noncomputable def f_Row_findCousin_2 (d : Nat) (x1 : Nat) (x2 : Int32) (σ : Sg) : Rs := evAt sc0 (ev d) cd_113 (jmp cd_113 2) [.ref 61, .ref x1, .int x2] [] σ
noncomputable def f_Row_findCousin_40 (d : Nat) (x1 : Nat) (x2 : Int32) (σ : Sg) : Rs := evAt sc0 (ev d) cd_113 (jmp cd_113 40) [.ref 61, .ref x1, .int x2] [] σ
noncomputable def f_Row_isCousin (d : Nat) (a0 : Nat) (a1 : Int32) (a2 : Int32) (σ : Sg) : Rs := ev d 114 [.ref a0, .int a1, .int a2] σ
noncomputable def f_Row_isCousin_31 (d : Nat) (x0 : Nat) (x1 : Int32) (x2 : Int32) (x3 : Int32) (x4 : Int32) (x5 : Value) (σ : Sg) : Rs := evAt sc0 (ev d) cd_114 (jmp cd_114 31) [.ref x0, .int x1, .int x2, .int x3, .int x4, x5] [] σ
noncomputable def f_Row_isBlood (d : Nat) (a0 : Int32) (σ : Sg) : Rs := ev d 115 [.int a0] σ
noncomputable def f_N_words (d : Nat) (a1 : Int32) (a2 : Int32) (a3 : Int32) (a4 : Int32) (a5 : Int32) (σ : Sg) : Rs := ev d 116 [.ref 4, .int a1, .int a2, .int a3, .int a4, .int a5] σ
noncomputable def f_Row_howMany (d : Nat) (a1 : Nat) (a2 : Int32) (a3 : Int32) (a4 : Int32) (σ : Sg) : Rs := ev d 117 [.ref 61, .ref a1, .int a2, .int a3, .int a4] σ
noncomputable def f_Row_howMany_18 (d : Nat) (x1 : Nat) (x2 : Int32) (x3 : Value) (x4 : Int32) (x5 : Int32) (σ : Sg) : Rs := evAt sc0 (ev d) cd_117 (jmp cd_117 18) [.ref 61, .ref x1, .int x2, x3, .int x4, .int x5] [] σ
noncomputable def f_Arrays_fill_2J (d : Nat) (a0 : Nat) (a1 : Int64) (σ : Sg) : Rs := ev d 118 [.ref a0, .long a1] σ
noncomputable def f_Arrays_fill_2J_6 (d : Nat) (x0 : Nat) (x1 : Int64) (x3 : Int32) (x4 : Int32) (σ : Sg) : Rs := evAt sc0 (ev d) cd_118 (jmp cd_118 6) [.ref x0, .long x1, .null, .int x3, .int x4] [] σ
noncomputable def f_Row_addOneStep (d : Nat) (a1 : Nat) (σ : Sg) : Rs := ev d 119 [.ref 61, .ref a1] σ
noncomputable def f_Row_addOneStep_10 (d : Nat) (x1 : Nat) (x2 : Int32) (x3 : Value) (σ : Sg) : Rs := evAt sc0 (ev d) cd_119 (jmp cd_119 10) [.ref 61, .ref x1, .int x2, x3] [] σ
noncomputable def f_Row_addOneStep_22 (d : Nat) (x1 : Nat) (x2 : Int32) (x3 : Int32) (σ : Sg) : Rs := evAt sc0 (ev d) cd_119 (jmp cd_119 22) [.ref 61, .ref x1, .int x2, .int x3] [] σ
noncomputable def f_N_allRules (d : Nat) (a1 : Int32) (a2 : Int32) (a3 : Int32) (σ : Sg) : Rs := ev d 120 [.ref 4, .int a1, .int a2, .int a3] σ
noncomputable def f_N_rulesForWord (d : Nat) (a1 : Int32) (a2 : Int32) (σ : Sg) : Rs := ev d 121 [.ref 4, .int a1, .int a2] σ
noncomputable def f_N_rulesForWord_23 (d : Nat) (x1 : Int32) (x2 : Int32) (x3 : Nat) (x4 : Int32) (x5 : Int32) (x6 : Int32) (x7 : Value) (σ : Sg) : Rs := evAt sc0 (ev d) cd_121 (jmp cd_121 23) [.ref 4, .int x1, .int x2, .ref x3, .int x4, .int x5, .int x6, x7] [] σ
noncomputable def f_N_rulesForWord_53 (d : Nat) (x1 : Int32) (x2 : Int32) (x3 : Nat) (x4 : Int32) (x5 : Int32) (x6 : Int32) (x7 : Int32) (σ : Sg) : Rs := evAt sc0 (ev d) cd_121 (jmp cd_121 53) [.ref 4, .int x1, .int x2, .ref x3, .int x4, .int x5, .int x6, .int x7] [] σ
noncomputable def f_Rule_someWedsOwnName (d : Nat) (a0 : Nat) (σ : Sg) : Rs := ev d 122 [.ref a0] σ
noncomputable def f_Rule_someWedsOwnName_2 (d : Nat) (x0 : Nat) (x1 : Int32) (σ : Sg) : Rs := evAt sc0 (ev d) cd_122 (jmp cd_122 2) [.ref x0, .int x1] [] σ
noncomputable def f_Word_alwaysLawful (d : Nat) (a0 : Nat) (a1 : Nat) (a2 : Int32) (σ : Sg) : Rs := ev d 123 [.ref a0, .ref a1, .int a2] σ
noncomputable def f_Word_alwaysLawful_2 (d : Nat) (x0 : Nat) (x1 : Nat) (x2 : Int32) (x3 : Int32) (σ : Sg) : Rs := evAt sc0 (ev d) cd_123 (jmp cd_123 2) [.ref x0, .ref x1, .int x2, .int x3] [] σ
noncomputable def f_N_isEvenAndOneSide (d : Nat) (a1 : Nat) (σ : Sg) : Rs := ev d 124 [.ref 4, .ref a1] σ
noncomputable def f_N_personIs (d : Nat) (a1 : Int32) (a2 : Int32) (σ : Sg) : Rs := ev d 125 [.ref 4, .int a1, .int a2] σ
noncomputable def f_N_orNothing (d : Nat) (a0 : Int32) (σ : Sg) : Rs := ev d 126 [.int a0] σ
noncomputable def f_Houses_sureName (d : Nat) (a1 : Int32) (σ : Sg) : Rs := ev d 127 [.ref 75, .int a1] σ
noncomputable def f_N_lowestOf (d : Nat) (a0 : Int32) (σ : Sg) : Rs := ev d 128 [.int a0] σ
noncomputable def f_N_lowestOf_5 (d : Nat) (x0 : Int32) (x1 : Int32) (x2 : Int32) (σ : Sg) : Rs := evAt sc0 (ev d) cd_128 (jmp cd_128 5) [.int x0, .int x1, .int x2] [] σ
noncomputable def f_N_houses (d : Nat) (a1 : Int32) (σ : Sg) : Rs := ev d 129 [.ref 4, .int a1] σ
noncomputable def f_Houses_howMany (d : Nat) (a1 : Int32) (a2 : Int32) (σ : Sg) : Rs := ev d 130 [.ref 75, .int a1, .int a2] σ
noncomputable def f_Houses_howMany_5 (d : Nat) (x1 : Int32) (x2 : Int32) (x3 : Int32) (x4 : Int32) (σ : Sg) : Rs := evAt sc0 (ev d) cd_130 (jmp cd_130 5) [.ref 75, .int x1, .int x2, .int x3, .int x4] [] σ
noncomputable def f_Houses_wrongOnes (d : Nat) (a1 : Int32) (σ : Sg) : Rs := ev d 131 [.ref 75, .int a1] σ
noncomputable def f_Houses_wrongOnes_4 (d : Nat) (x1 : Int32) (x2 : Int32) (x3 : Int32) (σ : Sg) : Rs := evAt sc0 (ev d) cd_131 (jmp cd_131 4) [.ref 75, .int x1, .int x2, .int x3] [] σ
noncomputable def f_N_mended (d : Nat) (a1 : Int32) (σ : Sg) : Rs := ev d 132 [.ref 4, .int a1] σ
noncomputable def f_Houses_canBeMended (d : Nat) (a1 : Int32) (σ : Sg) : Rs := ev d 133 [.ref 75, .int a1] σ
noncomputable def f_Houses_canBeMended_2 (d : Nat) (x1 : Int32) (x2 : Int32) (σ : Sg) : Rs := evAt sc0 (ev d) cd_133 (jmp cd_133 2) [.ref 75, .int x1, .int x2] [] σ
noncomputable def f_Houses_goneNames (d : Nat) (a1 : Int32) (σ : Sg) : Rs := ev d 134 [.ref 75, .int a1] σ
noncomputable def f_Houses_goneNames_4 (d : Nat) (x1 : Int32) (x2 : Int32) (x3 : Int32) (σ : Sg) : Rs := evAt sc0 (ev d) cd_134 (jmp cd_134 4) [.ref 75, .int x1, .int x2, .int x3] [] σ
noncomputable def f_N_byTold (d : Nat) (a1 : Int32) (σ : Sg) : Rs := ev d 135 [.ref 4, .int a1] σ
noncomputable def f_Roll_wrongWeddings (d : Nat) (a0 : Nat) (a1 : Nat) (σ : Sg) : Rs := ev d 136 [.ref a0, .ref a1] σ
noncomputable def f_Roll_wrongWeddings_4 (d : Nat) (x0 : Nat) (x1 : Nat) (x2 : Int32) (x3 : Int32) (x4 : Value) (σ : Sg) : Rs := evAt sc0 (ev d) cd_136 (jmp cd_136 4) [.ref x0, .ref x1, .int x2, .int x3, x4] [] σ
noncomputable def f_Roll_wrongChildren (d : Nat) (a0 : Nat) (a1 : Nat) (σ : Sg) : Rs := ev d 137 [.ref a0, .ref a1] σ
noncomputable def f_Roll_wrongChildren_4 (d : Nat) (x0 : Nat) (x1 : Nat) (x2 : Int32) (x3 : Int32) (x4 : Value) (σ : Sg) : Rs := evAt sc0 (ev d) cd_137 (jmp cd_137 4) [.ref x0, .ref x1, .int x2, .int x3, x4] [] σ
noncomputable def f_N_whatIs (d : Nat) (a1 : Int32) (a2 : Int32) (a3 : Int32) (σ : Sg) : Rs := ev d 138 [.ref 4, .int a1, .int a2, .int a3] σ
noncomputable def f_Row_findOnPeople (d : Nat) (a1 : Nat) (a2 : Int32) (a3 : Int32) (σ : Sg) : Rs := ev d 139 [.ref 61, .ref a1, .int a2, .int a3] σ
noncomputable def f_Row_findOnPeople_28 (d : Nat) (x1 : Nat) (x2 : Value) (x3 : Value) (x4 : Int32) (x5 : Int32) (σ : Sg) : Rs := evAt sc0 (ev d) cd_139 (jmp cd_139 28) [.ref 61, .ref x1, x2, x3, .int x4, .int x5] [] σ
noncomputable def f_Row_layersFrom (d : Nat) (a1 : Nat) (a2 : Int32) (a3 : Int32) (σ : Sg) : Rs := ev d 140 [.ref 61, .ref a1, .int a2, .int a3] σ
noncomputable def f_Row_layersFrom_16 (d : Nat) (x1 : Nat) (x2 : Value) (x3 : Int32) (x4 : Int32) (x5 : Int32) (x6 : Value) (x7 : Value) (σ : Sg) : Rs := evAt sc0 (ev d) cd_140 (jmp cd_140 16) [.ref 61, .ref x1, x2, .int x3, .int x4, .int x5, x6, x7] [] σ
noncomputable def f_Row_layersFrom_46 (d : Nat) (x1 : Nat) (x2 : Value) (x3 : Int32) (x4 : Int32) (x5 : Int32) (x6 : Int32) (x7 : Int32) (σ : Sg) : Rs := evAt sc0 (ev d) cd_140 (jmp cd_140 46) [.ref 61, .ref x1, x2, .int x3, .int x4, .int x5, .int x6, .int x7] [] σ
noncomputable def f_Roll_relatedToAny (d : Nat) (a0 : Nat) (a1 : Int32) (a2 : Int32) (σ : Sg) : Rs := ev d 141 [.ref a0, .int a1, .int a2] σ
noncomputable def f_Roll_relatedToAny_5 (d : Nat) (x0 : Nat) (x1 : Int32) (x2 : Int32) (x3 : Int32) (x4 : Int32) (σ : Sg) : Rs := evAt sc0 (ev d) cd_141 (jmp cd_141 5) [.ref x0, .int x1, .int x2, .int x3, .int x4] [] σ
noncomputable def f_Roll_related (d : Nat) (a0 : Nat) (a1 : Int32) (a2 : Int32) (σ : Sg) : Rs := ev d 142 [.ref a0, .int a1, .int a2] σ
noncomputable def f_Row_leastStep (d : Nat) (a1 : Nat) (a2 : Int32) (a3 : Int32) (σ : Sg) : Rs := ev d 143 [.ref 61, .ref a1, .int a2, .int a3] σ
noncomputable def f_Row_leastStep_18 (d : Nat) (x1 : Nat) (x2 : Int32) (x3 : Int32) (x4 : Int32) (x5 : Int32) (x6 : Value) (σ : Sg) : Rs := evAt sc0 (ev d) cd_143 (jmp cd_143 18) [.ref 61, .ref x1, .int x2, .int x3, .int x4, .int x5, x6] [] σ
noncomputable def f_N_those (d : Nat) (a1 : Int32) (a2 : Int32) (σ : Sg) : Rs := ev d 144 [.ref 4, .int a1, .int a2] σ
noncomputable def f_Word_leadOnRoll (d : Nat) (a0 : Nat) (a1 : Nat) (a2 : Int32) (σ : Sg) : Rs := ev d 145 [.ref a0, .ref a1, .int a2] σ
noncomputable def f_Word_leadOnRoll_7 (d : Nat) (x0 : Nat) (x1 : Nat) (x2 : Value) (x3 : Int32) (x4 : Int32) (σ : Sg) : Rs := evAt sc0 (ev d) cd_145 (jmp cd_145 7) [.ref x0, .ref x1, x2, .int x3, .int x4] [] σ
noncomputable def f_N_mayWed (d : Nat) (a1 : Int32) (σ : Sg) : Rs := ev d 146 [.ref 4, .int a1] σ
noncomputable def f_Houses_suitable (d : Nat) (a1 : Nat) (a2 : Nat) (a3 : Int32) (σ : Sg) : Rs := ev d 147 [.ref 75, .ref a1, .ref a2, .int a3] σ
noncomputable def f_Houses_suitable_42 (d : Nat) (x1 : Value) (x2 : Nat) (x3 : Int32) (x4 : Int32) (x5 : Int32) (x6 : Int32) (x7 : Int32) (x8 : Value) (σ : Sg) : Rs := evAt sc0 (ev d) cd_147 (jmp cd_147 42) [.ref 75, x1, .ref x2, .int x3, .int x4, .int x5, .int x6, .int x7, x8] [] σ
noncomputable def f_Houses_spouseNames (d : Nat) (a0 : Nat) (a1 : Int32) (a2 : Int32) (σ : Sg) : Rs := ev d 148 [.ref a0, .int a1, .int a2] σ
noncomputable def f_Houses_spouseNames_5 (d : Nat) (x0 : Nat) (x1 : Int32) (x2 : Int32) (x3 : Int32) (x4 : Int32) (σ : Sg) : Rs := evAt sc0 (ev d) cd_148 (jmp cd_148 5) [.ref x0, .int x1, .int x2, .int x3, .int x4] [] σ
noncomputable def f_Roll_nearTo (d : Nat) (a0 : Nat) (a1 : Int32) (σ : Sg) : Rs := ev d 149 [.ref a0, .int a1] σ
noncomputable def f_N_weddings (d : Nat) (σ : Sg) : Rs := ev d 150 [.ref 4] σ
noncomputable def f_Matches_most (d : Nat) (a1 : Nat) (a2 : Nat) (σ : Sg) : Rs := ev d 151 [.ref 82, .ref a1, .ref a2, .ref 75] σ
noncomputable def f_Matches_most_3 (d : Nat) (x1 : Nat) (x2 : Nat) (x4 : Int32) (x5 : Value) (σ : Sg) : Rs := evAt sc0 (ev d) cd_151 (jmp cd_151 3) [.ref 82, .ref x1, .ref x2, .ref 75, .int x4, x5] [] σ
noncomputable def f_Matches_most_47 (d : Nat) (x1 : Value) (x2 : Nat) (x4 : Int32) (x5 : Int32) (σ : Sg) : Rs := evAt sc0 (ev d) cd_151 (jmp cd_151 47) [.ref 82, x1, .ref x2, .ref 75, .int x4, .int x5] [] σ
noncomputable def f_Matches_findFor (d : Nat) (a1 : Int32) (a2 : Int32) (σ : Sg) : Rs := ev d 152 [.ref 82, .int a1, .int a2] σ
noncomputable def f_Matches_findFor_15 (d : Nat) (x1 : Value) (x2 : Int32) (x3 : Int32) (x4 : Int32) (x5 : Int32) (x6 : Value) (x7 : Value) (σ : Sg) : Rs := evAt sc0 (ev d) cd_152 (jmp cd_152 15) [.ref 82, x1, .int x2, .int x3, .int x4, .int x5, x6, x7] [] σ
noncomputable def f_Matches_findFor_41 (d : Nat) (x1 : Value) (x2 : Int32) (x3 : Int32) (x4 : Int32) (x5 : Int32) (x6 : Int32) (x7 : Int32) (σ : Sg) : Rs := evAt sc0 (ev d) cd_152 (jmp cd_152 41) [.ref 82, x1, .int x2, .int x3, .int x4, .int x5, .int x6, .int x7] [] σ
noncomputable def f_Matches_giveWay (d : Nat) (a1 : Int32) (σ : Sg) : Rs := ev d 153 [.ref 82, .int a1] σ
noncomputable def f_Matches_giveWay_4 (d : Nat) (x1 : Value) (x2 : Int32) (x3 : Int32) (x4 : Value) (x5 : Value) (σ : Sg) : Rs := evAt sc0 (ev d) cd_153 (jmp cd_153 4) [.ref 82, x1, .int x2, .int x3, x4, x5] [] σ
noncomputable def f_N_line (d : Nat) (a1 : Int32) (a2 : Int32) (σ : Sg) : Rs := ev d 154 [.ref 4, .int a1, .int a2] σ
noncomputable def f_Roll_comeFrom (d : Nat) (a0 : Nat) (a1 : Int32) (σ : Sg) : Rs := ev d 155 [.ref a0, .int a1] σ
noncomputable def f_Roll_comeFrom_11 (d : Nat) (x0 : Nat) (x1 : Value) (x2 : Int32) (x3 : Int32) (σ : Sg) : Rs := evAt sc0 (ev d) cd_155 (jmp cd_155 11) [.ref x0, x1, .int x2, .int x3] [] σ
noncomputable def f_Roll_aheadOf (d : Nat) (a0 : Nat) (a1 : Int32) (σ : Sg) : Rs := ev d 156 [.ref a0, .int a1] σ
noncomputable def f_Roll_aheadOf_24 (d : Nat) (x0 : Nat) (x1 : Value) (x2 : Int32) (x3 : Int32) (σ : Sg) : Rs := evAt sc0 (ev d) cd_156 (jmp cd_156 24) [.ref x0, x1, .int x2, .int x3] [] σ
noncomputable def f_Roll_generation (d : Nat) (a0 : Nat) (a1 : Int32) (σ : Sg) : Rs := ev d 157 [.ref a0, .int a1] σ
noncomputable def f_Roll_generation_6 (d : Nat) (x0 : Nat) (x1 : Value) (x2 : Int32) (x3 : Int32) (σ : Sg) : Rs := evAt sc0 (ev d) cd_157 (jmp cd_157 6) [.ref x0, x1, .int x2, .int x3] [] σ
noncomputable def f_N_years (d : Nat) (a1 : Int32) (σ : Sg) : Rs := ev d 158 [.ref 4, .int a1] σ
noncomputable def f_N_isYears (d : Nat) (a0 : Int32) (σ : Sg) : Rs := ev d 159 [.int a0] σ
noncomputable def f_Village_goBy (d : Nat) (a0 : Nat) (a1 : Nat) (a2 : Nat) (a3 : Int32) (σ : Sg) : Rs := ev d 160 [.ref a0, .ref a1, .ref a2, .int a3] σ
noncomputable def f_Village_goBy_18 (d : Nat) (x0 : Nat) (x1 : Nat) (x2 : Nat) (x3 : Int32) (x4 : Int32) (x5 : Value) (σ : Sg) : Rs := evAt sc0 (ev d) cd_160 (jmp cd_160 18) [.ref x0, .ref x1, .ref x2, .int x3, .int x4, x5] [] σ
noncomputable def f_Village_goBy_37 (d : Nat) (x0 : Nat) (x1 : Nat) (x2 : Nat) (x3 : Int32) (x4 : Int32) (x5 : Int32) (σ : Sg) : Rs := evAt sc0 (ev d) cd_160 (jmp cd_160 37) [.ref x0, .ref x1, .ref x2, .int x3, .int x4, .int x5] [] σ
noncomputable def f_Village_goBy_70 (d : Nat) (x0 : Nat) (x1 : Nat) (x2 : Nat) (x3 : Int32) (x4 : Int32) (x5 : Int32) (σ : Sg) : Rs := evAt sc0 (ev d) cd_160 (jmp cd_160 70) [.ref x0, .ref x1, .ref x2, .int x3, .int x4, .int x5] [] σ
noncomputable def f_Village_goBy_103 (d : Nat) (x0 : Nat) (x1 : Nat) (x2 : Nat) (x3 : Int32) (x4 : Int32) (x5 : Int32) (σ : Sg) : Rs := evAt sc0 (ev d) cd_160 (jmp cd_160 103) [.ref x0, .ref x1, .ref x2, .int x3, .int x4, .int x5] [] σ
noncomputable def f_Village_draw (d : Nat) (a0 : Nat) (a1 : Nat) (a2 : Int32) (σ : Sg) : Rs := ev d 161 [.ref a0, .ref a1, .int a2] σ
noncomputable def f_Village_allOf (d : Nat) (a0 : Nat) (a1 : Nat) (a2 : Int32) (σ : Sg) : Rs := ev d 162 [.ref a0, .ref a1, .int a2] σ
noncomputable def f_Village_all (d : Nat) (a0 : Nat) (σ : Sg) : Rs := ev d 163 [.ref a0] σ
noncomputable def f_Village_all_4 (d : Nat) (x0 : Nat) (x1 : Int32) (x2 : Int32) (σ : Sg) : Rs := evAt sc0 (ev d) cd_163 (jmp cd_163 4) [.ref x0, .int x1, .int x2] [] σ
noncomputable def f_Village_wedSome (d : Nat) (a0 : Nat) (a1 : Nat) (a2 : Nat) (a3 : Int32) (σ : Sg) : Rs := ev d 164 [.ref a0, .ref a1, .ref a2, .int a3] σ
noncomputable def f_Law_anyHolds (d : Nat) (a0 : Nat) (a1 : Int32) (a2 : Nat) (σ : Sg) : Rs := ev d 165 [.ref a0, .int a1, .ref a2] σ
noncomputable def f_Law_anyHolds_2 (d : Nat) (x0 : Nat) (x1 : Int32) (x2 : Nat) (x3 : Int32) (σ : Sg) : Rs := evAt sc0 (ev d) cd_165 (jmp cd_165 2) [.ref x0, .int x1, .ref x2, .int x3] [] σ
noncomputable def f_Law_run (d : Nat) (a0 : Nat) (a1 : Int32) (a2 : Int32) (a3 : Nat) (σ : Sg) : Rs := ev d 166 [.ref a0, .int a1, .int a2, .ref a3] σ
noncomputable def f_Law_run_16 (d : Nat) (x0 : Nat) (x1 : Value) (x2 : Int32) (x3 : Nat) (x4 : Int32) (x5 : Int32) (x6 : Value) (σ : Sg) : Rs := evAt sc0 (ev d) cd_166 (jmp cd_166 16) [.ref x0, x1, .int x2, .ref x3, .int x4, .int x5, x6] [] σ
noncomputable def f_Law_push (d : Nat) (a0 : Nat) (a1 : Int32) (σ : Sg) : Rs := ev d 167 [.ref a0, .int a1] σ
noncomputable def f_Law_pop (d : Nat) (a0 : Nat) (σ : Sg) : Rs := ev d 168 [.ref a0] σ
noncomputable def f_Law_top (d : Nat) (a0 : Nat) (σ : Sg) : Rs := ev d 169 [.ref a0] σ
noncomputable def f_Law_reckon (d : Nat) (a0 : Nat) (a1 : Int32) (a2 : Int32) (a3 : Int32) (σ : Sg) : Rs := ev d 170 [.ref a0, .int a1, .int a2, .int a3] σ
noncomputable def f_Law_worth (d : Nat) (a0 : Nat) (a1 : Int32) (a2 : Nat) (a3 : Int32) (a4 : Int32) (σ : Sg) : Rs := ev d 171 [.ref a0, .int a1, .ref a2, .int a3, .int a4] σ
noncomputable def f_Law_worth_3 (d : Nat) (x0 : Nat) (x1 : Int32) (x2 : Nat) (x3 : Int32) (x4 : Int32) (x5 : Int32) (x6 : Value) (σ : Sg) : Rs := evAt sc0 (ev d) cd_171 (jmp cd_171 3) [.ref x0, .int x1, .ref x2, .int x3, .int x4, .int x5, x6] [] σ
noncomputable def f_Village_bearSome (d : Nat) (a0 : Nat) (a1 : Nat) (a2 : Nat) (a3 : Int32) (σ : Sg) : Rs := ev d 172 [.ref a0, .ref a1, .ref a2, .int a3] σ
noncomputable def f_Village_dieSome (d : Nat) (a0 : Nat) (a1 : Nat) (a2 : Int32) (σ : Sg) : Rs := ev d 173 [.ref a0, .ref a1, .int a2] σ
noncomputable def f_N_tried (d : Nat) (a1 : Int32) (a2 : Int32) (σ : Sg) : Rs := ev d 174 [.ref 4, .int a1, .int a2] σ
noncomputable def f_N_isTriedWhat (d : Nat) (a1 : Int32) (σ : Sg) : Rs := ev d 175 [.ref 4, .int a1] σ
noncomputable def f_Village_copy (d : Nat) (a0 : Nat) (a1 : Nat) (a2 : Int32) (σ : Sg) : Rs := ev d 176 [.ref a0, .ref a1, .int a2] σ
noncomputable def f_Village_some (d : Nat) (a0 : Nat) (a1 : Int32) (a2 : Int32) (σ : Sg) : Rs := ev d 177 [.ref a0, .int a1, .int a2] σ
noncomputable def f_N_nameIs (d : Nat) (a1 : Int32) (a2 : Int32) (σ : Sg) : Rs := ev d 178 [.ref 4, .int a1, .int a2] σ
noncomputable def f_N_diesOut (d : Nat) (a1 : Int32) (a2 : Int32) (σ : Sg) : Rs := ev d 179 [.ref 4, .int a1, .int a2] σ
noncomputable def f_N_diesOut_54 (d : Nat) (x1 : Int32) (x2 : Int32) (x3 : Int32) (x4 : Int32) (σ : Sg) : Rs := evAt sc0 (ev d) cd_179 (jmp cd_179 54) [.ref 4, .int x1, .int x2, .int x3, .int x4] [] σ
noncomputable def f_N_left (d : Nat) (a1 : Int32) (σ : Sg) : Rs := ev d 180 [.ref 4, .int a1] σ
noncomputable def f_N_left_26 (d : Nat) (x1 : Int32) (x2 : Int32) (x3 : Int32) (σ : Sg) : Rs := evAt sc0 (ev d) cd_180 (jmp cd_180 26) [.ref 4, .int x1, .int x2, .int x3] [] σ
noncomputable def f_Village_leftMen (d : Nat) (a0 : Nat) (a1 : Nat) (a2 : Int32) (σ : Sg) : Rs := ev d 181 [.ref a0, .ref a1, .int a2] σ
noncomputable def f_N_seed (d : Nat) (a1 : Int32) (σ : Sg) : Rs := ev d 182 [.ref 4, .int a1] σ
noncomputable def f_N_keep (d : Nat) (σ : Sg) : Rs := ev d 183 [.ref 4] σ
noncomputable def f_N_undo (d : Nat) (σ : Sg) : Rs := ev d 184 [.ref 4] σ
noncomputable def f_N_check (d : Nat) (a1 : Int32) (σ : Sg) : Rs := ev d 185 [.ref 4, .int a1] σ
noncomputable def f_N_check_35 (d : Nat) (x1 : Int32) (x2 : Int32) (x3 : Value) (σ : Sg) : Rs := evAt sc0 (ev d) cd_185 (jmp cd_185 35) [.ref 4, .int x1, .int x2, x3] [] σ
noncomputable def f_N_count (d : Nat) (a1 : Int32) (σ : Sg) : Rs := ev d 186 [.ref 4, .int a1] σ
noncomputable def f_M_people (d : Nat) (a1 : Int32) (a2 : Int32) (a3 : Int32) (a4 : Int32) (σ : Sg) : Rs := ev d 188 [.ref 102, .int a1, .int a2, .int a3, .int a4] σ
noncomputable def f_M_isName (d : Nat) (a1 : Int32) (σ : Sg) : Rs := ev d 189 [.ref 102, .int a1] σ
noncomputable def f_M_in (d : Nat) (a0 : Int32) (a1 : Int32) (a2 : Int32) (σ : Sg) : Rs := ev d 190 [.int a0, .int a1, .int a2] σ
noncomputable def f_M_feed (d : Nat) (a1 : Int32) (a2 : Int32) (a3 : Int32) (a4 : Int32) (a5 : Int32) (σ : Sg) : Rs := ev d 191 [.ref 102, .int a1, .int a2, .int a3, .int a4, .int a5] σ
noncomputable def f_M_types (d : Nat) (a1 : Int32) (σ : Sg) : Rs := ev d 192 [.ref 102, .int a1] σ
noncomputable def f_M_types_2 (d : Nat) (x1 : Int32) (x2 : Int32) (σ : Sg) : Rs := evAt sc0 (ev d) cd_192 (jmp cd_192 2) [.ref 102, .int x1, .int x2] [] σ
noncomputable def f_M_law (d : Nat) (a1 : Int32) (σ : Sg) : Rs := ev d 193 [.ref 102, .int a1] σ
noncomputable def f_M_law_32 (d : Nat) (x1 : Value) (x2 : Int32) (x3 : Value) (σ : Sg) : Rs := evAt sc0 (ev d) cd_193 (jmp cd_193 32) [.ref 102, x1, .int x2, x3] [] σ
noncomputable def f_M_law_96 (d : Nat) (x1 : Value) (x2 : Value) (x3 : Int32) (σ : Sg) : Rs := evAt sc0 (ev d) cd_193 (jmp cd_193 96) [.ref 102, x1, x2, .int x3] [] σ
noncomputable def f_M_law_124 (d : Nat) (x1 : Value) (x2 : Value) (x3 : Int32) (σ : Sg) : Rs := evAt sc0 (ev d) cd_193 (jmp cd_193 124) [.ref 102, x1, x2, .int x3] [] σ
noncomputable def f_M_beginsText (d : Nat) (a1 : Int32) (a2 : Int32) (σ : Sg) : Rs := ev d 194 [.ref 102, .int a1, .int a2] σ
noncomputable def f_M_readsClause (d : Nat) (σ : Sg) : Rs := ev d 195 [.ref 102] σ
noncomputable def f_M_here (d : Nat) (σ : Sg) : Rs := ev d 196 [.ref 102] σ
noncomputable def f_M_wrongAt (d : Nat) (a1 : Int32) (a2 : Int32) (σ : Sg) : Rs := ev d 197 [.ref 102, .int a1, .int a2] σ
noncomputable def f_M_readsSum (d : Nat) (σ : Sg) : Rs := ev d 198 [.ref 102] σ
noncomputable def f_M_readsSum_14 (d : Nat) (x1 : Int32) (x2 : Value) (σ : Sg) : Rs := evAt sc0 (ev d) cd_198 (jmp cd_198 14) [.ref 102, .int x1, x2] [] σ
noncomputable def f_M_readsFactor (d : Nat) (σ : Sg) : Rs := ev d 199 [.ref 102] σ
noncomputable def f_M_readsFactor_0 (d : Nat) (x1 : Value) (σ : Sg) : Rs := evAt sc0 (ev d) cd_199 (jmp cd_199 0) [.ref 102, x1] [] σ
noncomputable def f_M_opens (d : Nat) (a1 : Int32) (σ : Sg) : Rs := ev d 200 [.ref 102, .int a1] σ
noncomputable def f_M_isDigit (d : Nat) (σ : Sg) : Rs := ev d 201 [.ref 102] σ
noncomputable def f_M_readsNumber (d : Nat) (σ : Sg) : Rs := ev d 202 [.ref 102] σ
noncomputable def f_M_readsNumber_10 (d : Nat) (x1 : Int32) (σ : Sg) : Rs := evAt sc0 (ev d) cd_202 (jmp cd_202 10) [.ref 102, .int x1] [] σ
noncomputable def f_M_notes (d : Nat) (a1 : Int32) (a2 : Int32) (σ : Sg) : Rs := ev d 203 [.ref 102, .int a1, .int a2] σ
noncomputable def f_M_factOf (d : Nat) (a0 : Int32) (σ : Sg) : Rs := ev d 204 [.int a0] σ
noncomputable def f_M_sumSign (d : Nat) (a0 : Int32) (σ : Sg) : Rs := ev d 205 [.int a0] σ
noncomputable def f_M_closesSums (d : Nat) (a1 : Int32) (σ : Sg) : Rs := ev d 206 [.ref 102, .int a1] σ
noncomputable def f_M_closesSums_0 (d : Nat) (x1 : Int32) (σ : Sg) : Rs := evAt sc0 (ev d) cd_206 (jmp cd_206 0) [.ref 102, .int x1] [] σ
noncomputable def f_M_waitTop (d : Nat) (σ : Sg) : Rs := ev d 207 [.ref 102] σ
noncomputable def f_M_hasOpenSum (d : Nat) (a1 : Int32) (σ : Sg) : Rs := ev d 208 [.ref 102, .int a1] σ
noncomputable def f_M_hasOpenSum_2 (d : Nat) (x1 : Value) (x2 : Int32) (σ : Sg) : Rs := evAt sc0 (ev d) cd_208 (jmp cd_208 2) [.ref 102, x1, .int x2] [] σ
noncomputable def f_M_readsCondition (d : Nat) (σ : Sg) : Rs := ev d 209 [.ref 102] σ
noncomputable def f_M_readsCondition_40 (d : Nat) (σ : Sg) : Rs := evAt sc0 (ev d) cd_209 (jmp cd_209 40) [.ref 102] [] σ
noncomputable def f_M_readsCondition_92 (d : Nat) (σ : Sg) : Rs := evAt sc0 (ev d) cd_209 (jmp cd_209 92) [.ref 102] [] σ
noncomputable def f_M_readsCompared (d : Nat) (σ : Sg) : Rs := ev d 210 [.ref 102] σ
noncomputable def f_M_endsPiece (d : Nat) (σ : Sg) : Rs := ev d 211 [.ref 102] σ
noncomputable def f_M_endsPiece_0 (d : Nat) (σ : Sg) : Rs := evAt sc0 (ev d) cd_211 (jmp cd_211 0) [.ref 102] [] σ
noncomputable def f_M_lands (d : Nat) (a1 : Int32) (σ : Sg) : Rs := ev d 212 [.ref 102, .int a1] σ
noncomputable def f_M_lands_0 (d : Nat) (x1 : Int32) (x2 : Value) (σ : Sg) : Rs := evAt sc0 (ev d) cd_212 (jmp cd_212 0) [.ref 102, .int x1, x2] [] σ
noncomputable def f_M_jumps (d : Nat) (a1 : Int32) (σ : Sg) : Rs := ev d 213 [.ref 102, .int a1] σ
noncomputable def f_M_takes (d : Nat) (a1 : Int32) (σ : Sg) : Rs := ev d 214 [.ref 102, .int a1] σ
noncomputable def f_M_rule (d : Nat) (a1 : Int32) (σ : Sg) : Rs := ev d 215 [.ref 102, .int a1] σ
noncomputable def f_M_rule_70 (d : Nat) (x1 : Value) (x2 : Value) (x3 : Int32) (σ : Sg) : Rs := evAt sc0 (ev d) cd_215 (jmp cd_215 70) [.ref 102, x1, x2, .int x3] [] σ
noncomputable def f_M_rule_110 (d : Nat) (x1 : Value) (x2 : Value) (x3 : Int32) (σ : Sg) : Rs := evAt sc0 (ev d) cd_215 (jmp cd_215 110) [.ref 102, x1, x2, .int x3] [] σ
noncomputable def f_M_rule_131 (d : Nat) (x1 : Value) (x2 : Value) (x3 : Int32) (σ : Sg) : Rs := evAt sc0 (ev d) cd_215 (jmp cd_215 131) [.ref 102, x1, x2, .int x3] [] σ
noncomputable def f_M_readsWives (d : Nat) (σ : Sg) : Rs := ev d 216 [.ref 102] σ
noncomputable def f_M_readsWives_5 (d : Nat) (x1 : Value) (σ : Sg) : Rs := evAt sc0 (ev d) cd_216 (jmp cd_216 5) [.ref 102, x1] [] σ
noncomputable def f_M_readsWives_84 (d : Nat) (x1 : Int32) (σ : Sg) : Rs := evAt sc0 (ev d) cd_216 (jmp cd_216 84) [.ref 102, .int x1] [] σ
noncomputable def f_M_readsName (d : Nat) (a1 : Nat) (a2 : Int32) (σ : Sg) : Rs := ev d 217 [.ref 102, .ref a1, .int a2] σ
noncomputable def f_M_readsName_36 (d : Nat) (x1 : Nat) (x2 : Int32) (x3 : Int32) (x4 : Int32) (σ : Sg) : Rs := evAt sc0 (ev d) cd_217 (jmp cd_217 36) [.ref 102, .ref x1, .int x2, .int x3, .int x4] [] σ
noncomputable def f_M_readsChildren (d : Nat) (σ : Sg) : Rs := ev d 218 [.ref 102] σ
noncomputable def f_M_readsChildren_2 (d : Nat) (x1 : Int32) (σ : Sg) : Rs := evAt sc0 (ev d) cd_218 (jmp cd_218 2) [.ref 102, .int x1] [] σ
noncomputable def f_M_kin (d : Nat) (a1 : Int32) (a2 : Int32) (a3 : Int32) (σ : Sg) : Rs := ev d 219 [.ref 102, .int a1, .int a2, .int a3] σ
noncomputable def f_M_readsWord (d : Nat) (a1 : Int32) (a2 : Int32) (a3 : Int32) (σ : Sg) : Rs := ev d 220 [.ref 102, .int a1, .int a2, .int a3] σ
noncomputable def f_M_readsWord_27 (d : Nat) (x1 : Value) (x2 : Value) (x3 : Int32) (x4 : Int32) (x5 : Value) (x6 : Value) (σ : Sg) : Rs := evAt sc0 (ev d) cd_220 (jmp cd_220 27) [.ref 102, x1, x2, .int x3, .int x4, x5, x6] [] σ
noncomputable def f_M_readsWord_75 (d : Nat) (x1 : Value) (x2 : Value) (x3 : Value) (x4 : Value) (x5 : Int32) (x6 : Int32) (σ : Sg) : Rs := evAt sc0 (ev d) cd_220 (jmp cd_220 75) [.ref 102, x1, x2, x3, x4, .int x5, .int x6] [] σ
noncomputable def f_M_readsStep (d : Nat) (σ : Sg) : Rs := ev d 221 [.ref 102] σ
noncomputable def f_M_readsStep_4 (d : Nat) (x1 : Value) (x2 : Value) (x3 : Value) (σ : Sg) : Rs := evAt sc0 (ev d) cd_221 (jmp cd_221 4) [.ref 102, x1, x2, x3] [] σ
noncomputable def f_M_readsStep_234 (d : Nat) (x1 : Value) (x2 : Value) (x3 : Value) (σ : Sg) : Rs := evAt sc0 (ev d) cd_221 (jmp cd_221 234) [.ref 102, x1, x2, x3] [] σ
noncomputable def f_M_readsTimes (d : Nat) (σ : Sg) : Rs := ev d 222 [.ref 102] σ
noncomputable def f_M_kindOf (d : Nat) (a0 : Int32) (σ : Sg) : Rs := ev d 223 [.int a0] σ
noncomputable def f_M_kindOf_2 (d : Nat) (x0 : Int32) (x1 : Int32) (σ : Sg) : Rs := evAt sc0 (ev d) cd_223 (jmp cd_223 2) [.int x0, .int x1] [] σ
noncomputable def f_M_letterOf (d : Nat) (a0 : Int32) (σ : Sg) : Rs := ev d 224 [.int a0] σ
noncomputable def f_M_repeats (d : Nat) (a1 : Int32) (a2 : Int32) (a3 : Int32) (σ : Sg) : Rs := ev d 225 [.ref 102, .int a1, .int a2, .int a3] σ
noncomputable def f_M_repeats_33 (d : Nat) (x1 : Int32) (x2 : Int32) (x3 : Value) (x4 : Int32) (x5 : Int32) (σ : Sg) : Rs := evAt sc0 (ev d) cd_225 (jmp cd_225 33) [.ref 102, .int x1, .int x2, x3, .int x4, .int x5] [] σ
noncomputable def f_M_canBe (d : Nat) (a0 : Int32) (a1 : Int32) (σ : Sg) : Rs := ev d 226 [.int a0, .int a1] σ
noncomputable def f_M_sortBy (d : Nat) (a0 : Int32) (σ : Sg) : Rs := ev d 227 [.int a0] σ
noncomputable def f_M_sortBehind (d : Nat) (a1 : Int32) (σ : Sg) : Rs := ev d 228 [.ref 102, .int a1] σ
noncomputable def f_M_fixedBy (d : Nat) (a1 : Int32) (σ : Sg) : Rs := ev d 229 [.ref 102, .int a1] σ
noncomputable def f_M_fixedBy_4 (d : Nat) (x1 : Int32) (x2 : Int32) (x3 : Int32) (σ : Sg) : Rs := evAt sc0 (ev d) cd_229 (jmp cd_229 4) [.ref 102, .int x1, .int x2, .int x3] [] σ
noncomputable def f_M_leadsTo (d : Nat) (a1 : Int32) (a2 : Int32) (σ : Sg) : Rs := ev d 230 [.ref 102, .int a1, .int a2] σ
noncomputable def f_M_leadsTo_8 (d : Nat) (x1 : Value) (x2 : Value) (x3 : Int32) (x4 : Int32) (x5 : Int32) (σ : Sg) : Rs := evAt sc0 (ev d) cd_230 (jmp cd_230 8) [.ref 102, x1, x2, .int x3, .int x4, .int x5] [] σ
noncomputable def f_M_nameBy (d : Nat) (a1 : Int32) (a2 : Int32) (a3 : Int32) (σ : Sg) : Rs := ev d 231 [.ref 102, .int a1, .int a2, .int a3] σ
noncomputable def f_M_before (d : Nat) (a0 : Nat) (a1 : Int32) (σ : Sg) : Rs := ev d 232 [.ref a0, .int a1] σ
noncomputable def f_M_before_2 (d : Nat) (x0 : Nat) (x1 : Int32) (x2 : Int32) (σ : Sg) : Rs := evAt sc0 (ev d) cd_232 (jmp cd_232 2) [.ref x0, .int x1, .int x2] [] σ
noncomputable def f_M_oftenTill (d : Nat) (a1 : Int32) (σ : Sg) : Rs := ev d 233 [.ref 102, .int a1] σ
noncomputable def f_M_oftenTill_2 (d : Nat) (x1 : Int32) (x2 : Int32) (x3 : Value) (σ : Sg) : Rs := evAt sc0 (ev d) cd_233 (jmp cd_233 2) [.ref 102, .int x1, .int x2, x3] [] σ
noncomputable def f_M_oftenTill_42 (d : Nat) (x1 : Value) (x2 : Int32) (x3 : Value) (σ : Sg) : Rs := evAt sc0 (ev d) cd_233 (jmp cd_233 42) [.ref 102, x1, .int x2, x3] [] σ
noncomputable def f_M_oftenTill_55 (d : Nat) (x1 : Value) (x2 : Int32) (x3 : Int32) (σ : Sg) : Rs := evAt sc0 (ev d) cd_233 (jmp cd_233 55) [.ref 102, x1, .int x2, .int x3] [] σ
noncomputable def f_M_isPlain (d : Nat) (a1 : Nat) (σ : Sg) : Rs := ev d 234 [.ref 102, .ref a1] σ
noncomputable def f_M_isPlain_2 (d : Nat) (x1 : Nat) (x2 : Int32) (σ : Sg) : Rs := evAt sc0 (ev d) cd_234 (jmp cd_234 2) [.ref 102, .ref x1, .int x2] [] σ
noncomputable def f_M_lawful (d : Nat) (a1 : Int32) (σ : Sg) : Rs := ev d 235 [.ref 102, .int a1] σ
noncomputable def f_M_lawful_4 (d : Nat) (x1 : Int32) (x2 : Int32) (x3 : Int32) (σ : Sg) : Rs := evAt sc0 (ev d) cd_235 (jmp cd_235 4) [.ref 102, .int x1, .int x2, .int x3] [] σ
noncomputable def f_M_spouseOf (d : Nat) (a1 : Int32) (a2 : Int32) (σ : Sg) : Rs := ev d 236 [.ref 102, .int a1, .int a2] σ
noncomputable def f_M_alike (d : Nat) (a1 : Int32) (a2 : Int32) (a3 : Int32) (σ : Sg) : Rs := ev d 237 [.ref 102, .int a1, .int a2, .int a3] σ
noncomputable def f_M_alike_67 (d : Nat) (x1 : Int32) (x2 : Int32) (x3 : Int32) (x4 : Int32) (x5 : Int32) (x6 : Int32) (x7 : Value) (x8 : Value) (σ : Sg) : Rs := evAt sc0 (ev d) cd_237 (jmp cd_237 67) [.ref 102, .int x1, .int x2, .int x3, .int x4, .int x5, .int x6, x7, x8] [] σ
noncomputable def f_M_alike_163 (d : Nat) (x1 : Value) (x2 : Value) (x3 : Int32) (x4 : Value) (x5 : Value) (x6 : Value) (x7 : Int32) (x8 : Int32) (σ : Sg) : Rs := evAt sc0 (ev d) cd_237 (jmp cd_237 163) [.ref 102, x1, x2, .int x3, x4, x5, x6, .int x7, .int x8] [] σ
noncomputable def f_M_ways (d : Nat) (a1 : Int32) (σ : Sg) : Rs := ev d 238 [.ref 102, .int a1] σ
noncomputable def f_M_laysWays (d : Nat) (σ : Sg) : Rs := ev d 239 [.ref 102] σ
noncomputable def f_M_laysWays_15 (d : Nat) (x1 : Int32) (σ : Sg) : Rs := evAt sc0 (ev d) cd_239 (jmp cd_239 15) [.ref 102, .int x1] [] σ
noncomputable def f_M_plainWay (d : Nat) (σ : Sg) : Rs := ev d 240 [.ref 102] σ
noncomputable def f_M_plainWay_4 (d : Nat) (x1 : Int32) (x2 : Int32) (σ : Sg) : Rs := evAt sc0 (ev d) cd_240 (jmp cd_240 4) [.ref 102, .int x1, .int x2] [] σ
noncomputable def f_M_addsWay (d : Nat) (a1 : Int32) (σ : Sg) : Rs := ev d 241 [.ref 102, .int a1] σ
noncomputable def f_M_addsWay_2 (d : Nat) (x1 : Int32) (x2 : Int32) (σ : Sg) : Rs := evAt sc0 (ev d) cd_241 (jmp cd_241 2) [.ref 102, .int x1, .int x2] [] σ
noncomputable def f_M_changedBy (d : Nat) (a1 : Int32) (a2 : Nat) (σ : Sg) : Rs := ev d 242 [.ref 102, .int a1, .ref a2] σ
noncomputable def f_M_changedBy_5 (d : Nat) (x1 : Int32) (x2 : Nat) (x3 : Int32) (x4 : Int32) (σ : Sg) : Rs := evAt sc0 (ev d) cd_242 (jmp cd_242 5) [.ref 102, .int x1, .ref x2, .int x3, .int x4] [] σ
noncomputable def f_M_nameIn (d : Nat) (a0 : Int32) (a1 : Int32) (σ : Sg) : Rs := ev d 243 [.int a0, .int a1] σ
noncomputable def f_M_sides (d : Nat) (σ : Sg) : Rs := ev d 244 [.ref 102] σ
noncomputable def f_M_sides_4 (d : Nat) (x1 : Int32) (x2 : Int32) (σ : Sg) : Rs := evAt sc0 (ev d) cd_244 (jmp cd_244 4) [.ref 102, .int x1, .int x2] [] σ
noncomputable def f_M_sideOf (d : Nat) (a1 : Int32) (σ : Sg) : Rs := ev d 245 [.ref 102, .int a1] σ
noncomputable def f_M_sideOf_4 (d : Nat) (x1 : Int32) (x2 : Int32) (x3 : Int32) (σ : Sg) : Rs := evAt sc0 (ev d) cd_245 (jmp cd_245 4) [.ref 102, .int x1, .int x2, .int x3] [] σ
noncomputable def f_M_lowest (d : Nat) (a0 : Int32) (σ : Sg) : Rs := ev d 246 [.int a0] σ
noncomputable def f_M_lowest_2 (d : Nat) (x0 : Int32) (x1 : Int32) (σ : Sg) : Rs := evAt sc0 (ev d) cd_246 (jmp cd_246 2) [.int x0, .int x1] [] σ
noncomputable def f_M_has (d : Nat) (a0 : Int32) (a1 : Int32) (σ : Sg) : Rs := ev d 247 [.int a0, .int a1] σ
noncomputable def f_M_isEven (d : Nat) (σ : Sg) : Rs := ev d 248 [.ref 102] σ
noncomputable def f_M_isEven_2 (d : Nat) (x1 : Int32) (σ : Sg) : Rs := evAt sc0 (ev d) cd_248 (jmp cd_248 2) [.ref 102, .int x1] [] σ
noncomputable def f_M_bits (d : Nat) (a0 : Int32) (σ : Sg) : Rs := ev d 249 [.int a0] σ
noncomputable def f_M_bits_4 (d : Nat) (x0 : Int32) (x1 : Int32) (x2 : Int32) (σ : Sg) : Rs := evAt sc0 (ev d) cd_249 (jmp cd_249 4) [.int x0, .int x1, .int x2] [] σ
noncomputable def f_M_term (d : Nat) (a1 : Int32) (a2 : Int32) (a3 : Int32) (a4 : Int32) (a5 : Int32) (σ : Sg) : Rs := ev d 250 [.ref 102, .int a1, .int a2, .int a3, .int a4, .int a5] σ
noncomputable def f_M_term_113 (d : Nat) (x1 : Value) (x2 : Value) (x3 : Value) (x4 : Value) (x5 : Int32) (x6 : Int32) (x7 : Int32) (σ : Sg) : Rs := evAt sc0 (ev d) cd_250 (jmp cd_250 113) [.ref 102, x1, x2, x3, x4, .int x5, .int x6, .int x7] [] σ
noncomputable def f_M_isStepOr (d : Nat) (a0 : Int32) (a1 : Int32) (σ : Sg) : Rs := ev d 251 [.int a0, .int a1] σ
noncomputable def f_M_laysFar (d : Nat) (a1 : Int32) (σ : Sg) : Rs := ev d 252 [.ref 102, .int a1] σ
noncomputable def f_M_laysFar_2 (d : Nat) (x1 : Int32) (x2 : Int32) (x3 : Value) (x4 : Value) (σ : Sg) : Rs := evAt sc0 (ev d) cd_252 (jmp cd_252 2) [.ref 102, .int x1, .int x2, x3, x4] [] σ
noncomputable def f_M_laysFar_34 (d : Nat) (x1 : Value) (x2 : Int32) (x3 : Value) (x4 : Value) (σ : Sg) : Rs := evAt sc0 (ev d) cd_252 (jmp cd_252 34) [.ref 102, x1, .int x2, x3, x4] [] σ
noncomputable def f_M_laysFar_42 (d : Nat) (x1 : Value) (x2 : Int32) (x3 : Int32) (x4 : Value) (σ : Sg) : Rs := evAt sc0 (ev d) cd_252 (jmp cd_252 42) [.ref 102, x1, .int x2, .int x3, x4] [] σ
noncomputable def f_M_laysFar_75 (d : Nat) (x1 : Value) (x2 : Int32) (x3 : Int32) (x4 : Int32) (σ : Sg) : Rs := evAt sc0 (ev d) cd_252 (jmp cd_252 75) [.ref 102, x1, .int x2, .int x3, .int x4] [] σ
noncomputable def f_M_stateBy (d : Nat) (a1 : Int32) (a2 : Int32) (σ : Sg) : Rs := ev d 253 [.ref 102, .int a1, .int a2] σ
noncomputable def f_M_min (d : Nat) (a0 : Int32) (a1 : Int32) (σ : Sg) : Rs := ev d 254 [.int a0, .int a1] σ
noncomputable def f_M_kindFrom (d : Nat) (a1 : Int32) (σ : Sg) : Rs := ev d 255 [.ref 102, .int a1] σ
noncomputable def f_M_kindFrom_2 (d : Nat) (x1 : Int32) (x2 : Int32) (σ : Sg) : Rs := evAt sc0 (ev d) cd_255 (jmp cd_255 2) [.ref 102, .int x1, .int x2] [] σ
noncomputable def f_M_cousin (d : Nat) (a1 : Int32) (σ : Sg) : Rs := ev d 256 [.ref 102, .int a1] σ
noncomputable def f_M_cousin_57 (d : Nat) (x1 : Int32) (x2 : Int32) (σ : Sg) : Rs := evAt sc0 (ev d) cd_256 (jmp cd_256 57) [.ref 102, .int x1, .int x2] [] σ
noncomputable def f_M_laysCousins (d : Nat) (σ : Sg) : Rs := ev d 257 [.ref 102] σ
noncomputable def f_M_laysCousins_31 (d : Nat) (x1 : Int32) (x2 : Int32) (x3 : Value) (σ : Sg) : Rs := evAt sc0 (ev d) cd_257 (jmp cd_257 31) [.ref 102, .int x1, .int x2, x3] [] σ
noncomputable def f_M_laysCousins_63 (d : Nat) (x1 : Int32) (x2 : Int32) (x3 : Int32) (σ : Sg) : Rs := evAt sc0 (ev d) cd_257 (jmp cd_257 63) [.ref 102, .int x1, .int x2, .int x3] [] σ
noncomputable def f_M_addsCousin (d : Nat) (a1 : Int32) (a2 : Int32) (a3 : Int32) (a4 : Int32) (σ : Sg) : Rs := ev d 258 [.ref 102, .int a1, .int a2, .int a3, .int a4] σ
noncomputable def f_M_addsCousin_3 (d : Nat) (x1 : Int32) (x2 : Int32) (x3 : Int32) (x4 : Int32) (x5 : Int32) (σ : Sg) : Rs := evAt sc0 (ev d) cd_258 (jmp cd_258 3) [.ref 102, .int x1, .int x2, .int x3, .int x4, .int x5] [] σ
noncomputable def f_M_wayBy (d : Nat) (a1 : Int32) (a2 : Int32) (a3 : Int32) (σ : Sg) : Rs := ev d 259 [.ref 102, .int a1, .int a2, .int a3] σ
noncomputable def f_M_wayBy_6 (d : Nat) (x1 : Int32) (x2 : Int32) (x3 : Int32) (x4 : Int32) (x5 : Int32) (σ : Sg) : Rs := evAt sc0 (ev d) cd_259 (jmp cd_259 6) [.ref 102, .int x1, .int x2, .int x3, .int x4, .int x5] [] σ
noncomputable def f_M_words (d : Nat) (a1 : Int32) (a2 : Int32) (a3 : Int32) (a4 : Int32) (a5 : Int32) (σ : Sg) : Rs := ev d 260 [.ref 102, .int a1, .int a2, .int a3, .int a4, .int a5] σ
noncomputable def f_M_words_53 (d : Nat) (x1 : Int32) (x2 : Int32) (x3 : Int32) (x4 : Int32) (x5 : Int32) (x6 : Int32) (x7 : Value) (x8 : Value) (σ : Sg) : Rs := evAt sc0 (ev d) cd_260 (jmp cd_260 53) [.ref 102, .int x1, .int x2, .int x3, .int x4, .int x5, .int x6, x7, x8] [] σ
noncomputable def f_M_words_91 (d : Nat) (x1 : Int32) (x2 : Value) (x3 : Value) (x4 : Int32) (x5 : Int32) (x6 : Int32) (x7 : Value) (x8 : Value) (σ : Sg) : Rs := evAt sc0 (ev d) cd_260 (jmp cd_260 91) [.ref 102, .int x1, x2, x3, .int x4, .int x5, .int x6, x7, x8] [] σ
noncomputable def f_M_words_100 (d : Nat) (x1 : Int32) (x2 : Value) (x3 : Value) (x4 : Int32) (x5 : Int32) (x6 : Int32) (x7 : Int32) (x8 : Value) (σ : Sg) : Rs := evAt sc0 (ev d) cd_260 (jmp cd_260 100) [.ref 102, .int x1, x2, x3, .int x4, .int x5, .int x6, .int x7, x8] [] σ
noncomputable def f_M_words_124 (d : Nat) (x1 : Int32) (x2 : Value) (x3 : Value) (x4 : Int32) (x5 : Int32) (x6 : Int32) (x7 : Int32) (x8 : Value) (σ : Sg) : Rs := evAt sc0 (ev d) cd_260 (jmp cd_260 124) [.ref 102, .int x1, x2, x3, .int x4, .int x5, .int x6, .int x7, x8] [] σ
noncomputable def f_M_words_194 (d : Nat) (x1 : Int32) (x2 : Value) (x3 : Value) (x4 : Int32) (x5 : Int32) (x6 : Int32) (x7 : Int32) (x8 : Value) (σ : Sg) : Rs := evAt sc0 (ev d) cd_260 (jmp cd_260 194) [.ref 102, .int x1, x2, x3, .int x4, .int x5, .int x6, .int x7, x8] [] σ
noncomputable def f_M_allRules (d : Nat) (a1 : Int32) (a2 : Int32) (a3 : Int32) (σ : Sg) : Rs := ev d 261 [.ref 102, .int a1, .int a2, .int a3] σ
noncomputable def f_M_keepsRule (d : Nat) (σ : Sg) : Rs := ev d 262 [.ref 102] σ
noncomputable def f_M_keepsRule_10 (d : Nat) (x1 : Int32) (σ : Sg) : Rs := evAt sc0 (ev d) cd_262 (jmp cd_262 10) [.ref 102, .int x1] [] σ
noncomputable def f_M_countsRules (d : Nat) (a1 : Int32) (σ : Sg) : Rs := ev d 263 [.ref 102, .int a1] σ
noncomputable def f_M_countsRules_4 (d : Nat) (x1 : Int32) (x2 : Int32) (x3 : Int32) (σ : Sg) : Rs := evAt sc0 (ev d) cd_263 (jmp cd_263 4) [.ref 102, .int x1, .int x2, .int x3] [] σ
noncomputable def f_M_countsRules_34 (d : Nat) (x1 : Int32) (x2 : Int32) (x3 : Int32) (σ : Sg) : Rs := evAt sc0 (ev d) cd_263 (jmp cd_263 34) [.ref 102, .int x1, .int x2, .int x3] [] σ
noncomputable def f_M_weddsOut (d : Nat) (σ : Sg) : Rs := ev d 264 [.ref 102] σ
noncomputable def f_M_weddsOut_2 (d : Nat) (x1 : Int32) (σ : Sg) : Rs := evAt sc0 (ev d) cd_264 (jmp cd_264 2) [.ref 102, .int x1] [] σ
noncomputable def f_M_isEvenAndOne (d : Nat) (σ : Sg) : Rs := ev d 265 [.ref 102] σ
noncomputable def f_M_nextRow (d : Nat) (a1 : Nat) (σ : Sg) : Rs := ev d 266 [.ref 102, .ref a1] σ
noncomputable def f_M_nextRow_7 (d : Nat) (x1 : Nat) (x2 : Int32) (x3 : Value) (x4 : Value) (x5 : Value) (σ : Sg) : Rs := evAt sc0 (ev d) cd_266 (jmp cd_266 7) [.ref 102, .ref x1, .int x2, x3, x4, x5] [] σ
noncomputable def f_M_nextRow_35 (d : Nat) (x1 : Nat) (x2 : Value) (x3 : Int32) (x4 : Value) (x5 : Value) (σ : Sg) : Rs := evAt sc0 (ev d) cd_266 (jmp cd_266 35) [.ref 102, .ref x1, x2, .int x3, x4, x5] [] σ
noncomputable def f_M_nextRow_62 (d : Nat) (x1 : Nat) (x2 : Int32) (x3 : Int32) (x4 : Value) (x5 : Value) (σ : Sg) : Rs := evAt sc0 (ev d) cd_266 (jmp cd_266 62) [.ref 102, .ref x1, .int x2, .int x3, x4, x5] [] σ
noncomputable def f_M_nextRow_98 (d : Nat) (x1 : Nat) (x2 : Value) (x3 : Value) (x4 : Int32) (x5 : Int32) (σ : Sg) : Rs := evAt sc0 (ev d) cd_266 (jmp cd_266 98) [.ref 102, .ref x1, x2, x3, .int x4, .int x5] [] σ
noncomputable def f_M_changesRow (d : Nat) (a1 : Nat) (a2 : Int32) (a3 : Int32) (σ : Sg) : Rs := ev d 267 [.ref 102, .ref a1, .int a2, .int a3] σ
noncomputable def f_M_putsRuleBack (d : Nat) (σ : Sg) : Rs := ev d 268 [.ref 102] σ
noncomputable def f_M_putsRuleBack_10 (d : Nat) (x1 : Int32) (σ : Sg) : Rs := evAt sc0 (ev d) cd_268 (jmp cd_268 10) [.ref 102, .int x1] [] σ
noncomputable def f_M_roll (d : Nat) (a1 : Int32) (σ : Sg) : Rs := ev d 269 [.ref 102, .int a1] σ
noncomputable def f_M_roll_44 (d : Nat) (x1 : Value) (x2 : Int32) (x3 : Value) (σ : Sg) : Rs := evAt sc0 (ev d) cd_269 (jmp cd_269 44) [.ref 102, x1, .int x2, x3] [] σ
noncomputable def f_M_roll_108 (d : Nat) (x1 : Value) (x2 : Value) (x3 : Int32) (σ : Sg) : Rs := evAt sc0 (ev d) cd_269 (jmp cd_269 108) [.ref 102, x1, x2, .int x3] [] σ
noncomputable def f_M_readsPerson (d : Nat) (σ : Sg) : Rs := ev d 270 [.ref 102] σ
noncomputable def f_M_readsParents (d : Nat) (σ : Sg) : Rs := ev d 271 [.ref 102] σ
noncomputable def f_M_readsParent (d : Nat) (a1 : Int32) (σ : Sg) : Rs := ev d 272 [.ref 102, .int a1] σ
noncomputable def f_M_readsLower (d : Nat) (σ : Sg) : Rs := ev d 273 [.ref 102] σ
noncomputable def f_M_readsLower_27 (d : Nat) (x1 : Int32) (σ : Sg) : Rs := evAt sc0 (ev d) cd_273 (jmp cd_273 27) [.ref 102, .int x1] [] σ
noncomputable def f_M_readsWedding (d : Nat) (σ : Sg) : Rs := ev d 274 [.ref 102] σ
noncomputable def f_M_personIs (d : Nat) (a1 : Int32) (a2 : Int32) (σ : Sg) : Rs := ev d 275 [.ref 102, .int a1, .int a2] σ
noncomputable def f_M_isPerson (d : Nat) (a1 : Int32) (σ : Sg) : Rs := ev d 276 [.ref 102, .int a1] σ
noncomputable def f_M_orNone (d : Nat) (a0 : Int32) (σ : Sg) : Rs := ev d 277 [.int a0] σ
noncomputable def f_M_childrenOf (d : Nat) (a1 : Int32) (σ : Sg) : Rs := ev d 278 [.ref 102, .int a1] σ
noncomputable def f_M_childrenOf_4 (d : Nat) (x1 : Int32) (x2 : Int32) (x3 : Int32) (σ : Sg) : Rs := evAt sc0 (ev d) cd_278 (jmp cd_278 4) [.ref 102, .int x1, .int x2, .int x3] [] σ
noncomputable def f_M_siblingsOf (d : Nat) (a1 : Int32) (σ : Sg) : Rs := ev d 279 [.ref 102, .int a1] σ
noncomputable def f_M_siblingsOf_4 (d : Nat) (x1 : Int32) (x2 : Int32) (x3 : Int32) (x4 : Value) (x5 : Value) (σ : Sg) : Rs := evAt sc0 (ev d) cd_279 (jmp cd_279 4) [.ref 102, .int x1, .int x2, .int x3, x4, x5] [] σ
noncomputable def f_M_mayBe (d : Nat) (a1 : Int32) (σ : Sg) : Rs := ev d 280 [.ref 102, .int a1] σ
noncomputable def f_M_mayBe_11 (d : Nat) (x1 : Int32) (x2 : Int32) (x3 : Int32) (x4 : Int32) (σ : Sg) : Rs := evAt sc0 (ev d) cd_280 (jmp cd_280 11) [.ref 102, .int x1, .int x2, .int x3, .int x4] [] σ
noncomputable def f_M_houseOf (d : Nat) (a1 : Int32) (σ : Sg) : Rs := ev d 281 [.ref 102, .int a1] σ
noncomputable def f_M_houseOf_6 (d : Nat) (x1 : Value) (x2 : Int32) (x3 : Int32) (x4 : Value) (σ : Sg) : Rs := evAt sc0 (ev d) cd_281 (jmp cd_281 6) [.ref 102, x1, .int x2, .int x3, x4] [] σ
noncomputable def f_M_houseOf_16 (d : Nat) (x1 : Value) (x2 : Int32) (x3 : Int32) (x4 : Int32) (σ : Sg) : Rs := evAt sc0 (ev d) cd_281 (jmp cd_281 16) [.ref 102, x1, .int x2, .int x3, .int x4] [] σ
noncomputable def f_M_bit (d : Nat) (a0 : Int32) (σ : Sg) : Rs := ev d 282 [.int a0] σ
noncomputable def f_M_canBeBy (d : Nat) (a1 : Int32) (a2 : Int32) (σ : Sg) : Rs := ev d 283 [.ref 102, .int a1, .int a2] σ
noncomputable def f_M_canBeBy_2 (d : Nat) (x1 : Int32) (x2 : Int32) (x3 : Int32) (σ : Sg) : Rs := evAt sc0 (ev d) cd_283 (jmp cd_283 2) [.ref 102, .int x1, .int x2, .int x3] [] σ
noncomputable def f_M_canBeBy_39 (d : Nat) (x1 : Value) (x2 : Value) (x3 : Value) (σ : Sg) : Rs := evAt sc0 (ev d) cd_283 (jmp cd_283 39) [.ref 102, x1, x2, x3] [] σ
noncomputable def f_M_canBeBy_60 (d : Nat) (x1 : Value) (x2 : Value) (x3 : Int32) (σ : Sg) : Rs := evAt sc0 (ev d) cd_283 (jmp cd_283 60) [.ref 102, x1, x2, .int x3] [] σ
noncomputable def f_M_isNamed (d : Nat) (a1 : Int32) (a2 : Int32) (σ : Sg) : Rs := ev d 284 [.ref 102, .int a1, .int a2] σ
noncomputable def f_M_namesKin (d : Nat) (a1 : Int32) (σ : Sg) : Rs := ev d 285 [.ref 102, .int a1] σ
noncomputable def f_M_namesKin_80 (d : Nat) (x1 : Int32) (x2 : Int32) (x3 : Int32) (x4 : Int32) (σ : Sg) : Rs := evAt sc0 (ev d) cd_285 (jmp cd_285 80) [.ref 102, .int x1, .int x2, .int x3, .int x4] [] σ
noncomputable def f_M_mismatched (d : Nat) (a1 : Int32) (σ : Sg) : Rs := ev d 286 [.ref 102, .int a1] σ
noncomputable def f_M_mismatched_4 (d : Nat) (x1 : Int32) (x2 : Int32) (x3 : Int32) (σ : Sg) : Rs := evAt sc0 (ev d) cd_286 (jmp cd_286 4) [.ref 102, .int x1, .int x2, .int x3] [] σ
noncomputable def f_M_sureOf (d : Nat) (a1 : Int32) (σ : Sg) : Rs := ev d 287 [.ref 102, .int a1] σ
noncomputable def f_M_houses (d : Nat) (a1 : Int32) (σ : Sg) : Rs := ev d 288 [.ref 102, .int a1] σ
noncomputable def f_M_houses_21 (d : Nat) (x1 : Int32) (x2 : Int32) (x3 : Int32) (x4 : Int32) (x5 : Int32) (σ : Sg) : Rs := evAt sc0 (ev d) cd_288 (jmp cd_288 21) [.ref 102, .int x1, .int x2, .int x3, .int x4, .int x5] [] σ
noncomputable def f_M_isFirst (d : Nat) (a1 : Int32) (σ : Sg) : Rs := ev d 289 [.ref 102, .int a1] σ
noncomputable def f_M_mended (d : Nat) (a1 : Int32) (σ : Sg) : Rs := ev d 290 [.ref 102, .int a1] σ
noncomputable def f_M_mended_15 (d : Nat) (x1 : Int32) (x2 : Int32) (x3 : Int32) (x4 : Value) (σ : Sg) : Rs := evAt sc0 (ev d) cd_290 (jmp cd_290 15) [.ref 102, .int x1, .int x2, .int x3, x4] [] σ
noncomputable def f_M_mendedAt (d : Nat) (a1 : Int32) (σ : Sg) : Rs := ev d 291 [.ref 102, .int a1] σ
noncomputable def f_M_mendedAt_11 (d : Nat) (x1 : Int32) (x2 : Int32) (x3 : Int32) (x4 : Int32) (x5 : Value) (σ : Sg) : Rs := evAt sc0 (ev d) cd_291 (jmp cd_291 11) [.ref 102, .int x1, .int x2, .int x3, .int x4, x5] [] σ
noncomputable def f_M_byTold (d : Nat) (a1 : Int32) (σ : Sg) : Rs := ev d 292 [.ref 102, .int a1] σ
noncomputable def f_M_byTold_24 (d : Nat) (x1 : Int32) (x2 : Int32) (x3 : Int32) (x4 : Int32) (σ : Sg) : Rs := evAt sc0 (ev d) cd_292 (jmp cd_292 24) [.ref 102, .int x1, .int x2, .int x3, .int x4] [] σ
noncomputable def f_M_isWrongWedding (d : Nat) (a1 : Int32) (σ : Sg) : Rs := ev d 293 [.ref 102, .int a1] σ
noncomputable def f_M_isWrongChild (d : Nat) (a1 : Int32) (σ : Sg) : Rs := ev d 294 [.ref 102, .int a1] σ
noncomputable def f_M_whatIs (d : Nat) (a1 : Int32) (a2 : Int32) (a3 : Int32) (σ : Sg) : Rs := ev d 295 [.ref 102, .int a1, .int a2, .int a3] σ
noncomputable def f_M_whatIs_80 (d : Nat) (x1 : Value) (x2 : Value) (x3 : Int32) (x4 : Int32) (x5 : Int32) (x6 : Int32) (x7 : Int32) (σ : Sg) : Rs := evAt sc0 (ev d) cd_295 (jmp cd_295 80) [.ref 102, x1, x2, .int x3, .int x4, .int x5, .int x6, .int x7] [] σ
noncomputable def f_M_whatIs_95 (d : Nat) (x1 : Value) (x2 : Value) (x3 : Int32) (x4 : Int32) (x5 : Int32) (x6 : Int32) (x7 : Int32) (σ : Sg) : Rs := evAt sc0 (ev d) cd_295 (jmp cd_295 95) [.ref 102, x1, x2, .int x3, .int x4, .int x5, .int x6, .int x7] [] σ
noncomputable def f_M_laysLevels (d : Nat) (a1 : Int32) (σ : Sg) : Rs := ev d 296 [.ref 102, .int a1] σ
noncomputable def f_M_laysLevels_2 (d : Nat) (x1 : Int32) (x2 : Int32) (x3 : Value) (x4 : Value) (σ : Sg) : Rs := evAt sc0 (ev d) cd_296 (jmp cd_296 2) [.ref 102, .int x1, .int x2, x3, x4] [] σ
noncomputable def f_M_laysLevels_36 (d : Nat) (x1 : Value) (x2 : Int32) (x3 : Value) (x4 : Value) (σ : Sg) : Rs := evAt sc0 (ev d) cd_296 (jmp cd_296 36) [.ref 102, x1, .int x2, x3, x4] [] σ
noncomputable def f_M_laysLevels_44 (d : Nat) (x1 : Value) (x2 : Int32) (x3 : Int32) (x4 : Value) (σ : Sg) : Rs := evAt sc0 (ev d) cd_296 (jmp cd_296 44) [.ref 102, x1, .int x2, .int x3, x4] [] σ
noncomputable def f_M_thoseOf (d : Nat) (a1 : Int32) (a2 : Int32) (σ : Sg) : Rs := ev d 297 [.ref 102, .int a1, .int a2] σ
noncomputable def f_M_ofSort (d : Nat) (a1 : Int32) (σ : Sg) : Rs := ev d 298 [.ref 102, .int a1] σ
noncomputable def f_M_ofSort_4 (d : Nat) (x1 : Int32) (x2 : Int32) (x3 : Int32) (σ : Sg) : Rs := evAt sc0 (ev d) cd_298 (jmp cd_298 4) [.ref 102, .int x1, .int x2, .int x3] [] σ
noncomputable def f_M_atLevel (d : Nat) (a1 : Int32) (σ : Sg) : Rs := ev d 299 [.ref 102, .int a1] σ
noncomputable def f_M_atLevel_4 (d : Nat) (x1 : Int32) (x2 : Int32) (x3 : Int32) (σ : Sg) : Rs := evAt sc0 (ev d) cd_299 (jmp cd_299 4) [.ref 102, .int x1, .int x2, .int x3] [] σ
noncomputable def f_M_allOf (d : Nat) (a1 : Int32) (a2 : Int32) (σ : Sg) : Rs := ev d 300 [.ref 102, .int a1, .int a2] σ
noncomputable def f_M_allOf_5 (d : Nat) (x1 : Int32) (x2 : Int32) (x3 : Int32) (x4 : Int32) (σ : Sg) : Rs := evAt sc0 (ev d) cd_300 (jmp cd_300 5) [.ref 102, .int x1, .int x2, .int x3, .int x4] [] σ
noncomputable def f_M_those (d : Nat) (a1 : Int32) (a2 : Int32) (σ : Sg) : Rs := ev d 301 [.ref 102, .int a1, .int a2] σ
noncomputable def f_M_those_60 (d : Nat) (x1 : Value) (x2 : Value) (x3 : Value) (x4 : Int32) (x5 : Int32) (σ : Sg) : Rs := evAt sc0 (ev d) cd_301 (jmp cd_301 60) [.ref 102, x1, x2, x3, .int x4, .int x5] [] σ
noncomputable def f_M_mayWed (d : Nat) (a1 : Int32) (σ : Sg) : Rs := ev d 302 [.ref 102, .int a1] σ
noncomputable def f_M_laysMayBe (d : Nat) (σ : Sg) : Rs := ev d 303 [.ref 102] σ
noncomputable def f_M_laysMayBe_2 (d : Nat) (x1 : Int32) (σ : Sg) : Rs := evAt sc0 (ev d) cd_303 (jmp cd_303 2) [.ref 102, .int x1] [] σ
noncomputable def f_M_whoMayWed (d : Nat) (a1 : Int32) (σ : Sg) : Rs := ev d 304 [.ref 102, .int a1] σ
noncomputable def f_M_whoMayWed_49 (d : Nat) (x1 : Int32) (x2 : Int32) (x3 : Int32) (x4 : Int32) (σ : Sg) : Rs := evAt sc0 (ev d) cd_304 (jmp cd_304 49) [.ref 102, .int x1, .int x2, .int x3, .int x4] [] σ
noncomputable def f_M_goTogether (d : Nat) (a1 : Int32) (a2 : Int32) (σ : Sg) : Rs := ev d 305 [.ref 102, .int a1, .int a2] σ
noncomputable def f_M_goTogether_2 (d : Nat) (x1 : Int32) (x2 : Int32) (x3 : Int32) (σ : Sg) : Rs := evAt sc0 (ev d) cd_305 (jmp cd_305 2) [.ref 102, .int x1, .int x2, .int x3] [] σ
noncomputable def f_M_weddings (d : Nat) (σ : Sg) : Rs := ev d 306 [.ref 102] σ
noncomputable def f_M_weddings_6 (d : Nat) (x1 : Int32) (x2 : Value) (σ : Sg) : Rs := evAt sc0 (ev d) cd_306 (jmp cd_306 6) [.ref 102, .int x1, x2] [] σ
noncomputable def f_M_weddings_31 (d : Nat) (x1 : Int32) (x2 : Int32) (σ : Sg) : Rs := evAt sc0 (ev d) cd_306 (jmp cd_306 31) [.ref 102, .int x1, .int x2] [] σ
noncomputable def f_M_wedsOneMore (d : Nat) (a1 : Int32) (σ : Sg) : Rs := ev d 307 [.ref 102, .int a1] σ
noncomputable def f_M_wedsOneMore_14 (d : Nat) (x1 : Int32) (x2 : Int32) (x3 : Int32) (x4 : Int32) (x5 : Value) (x6 : Value) (σ : Sg) : Rs := evAt sc0 (ev d) cd_307 (jmp cd_307 14) [.ref 102, .int x1, .int x2, .int x3, .int x4, x5, x6] [] σ
noncomputable def f_M_wedsOneMore_45 (d : Nat) (x1 : Int32) (x2 : Int32) (x3 : Int32) (x4 : Int32) (x5 : Int32) (x6 : Int32) (σ : Sg) : Rs := evAt sc0 (ev d) cd_307 (jmp cd_307 45) [.ref 102, .int x1, .int x2, .int x3, .int x4, .int x5, .int x6] [] σ
noncomputable def f_M_wedsBack (d : Nat) (a1 : Int32) (a2 : Int32) (σ : Sg) : Rs := ev d 308 [.ref 102, .int a1, .int a2] σ
noncomputable def f_M_wedsBack_2 (d : Nat) (x1 : Int32) (x2 : Value) (x3 : Int32) (x4 : Value) (x5 : Value) (σ : Sg) : Rs := evAt sc0 (ev d) cd_308 (jmp cd_308 2) [.ref 102, .int x1, x2, .int x3, x4, x5] [] σ
noncomputable def f_M_line (d : Nat) (a1 : Int32) (a2 : Int32) (σ : Sg) : Rs := ev d 309 [.ref 102, .int a1, .int a2] σ
noncomputable def f_M_comeFrom (d : Nat) (a1 : Int32) (a2 : Int32) (σ : Sg) : Rs := ev d 310 [.ref 102, .int a1, .int a2] σ
noncomputable def f_M_comeFrom_5 (d : Nat) (x1 : Int32) (x2 : Int32) (x3 : Int32) (x4 : Int32) (x5 : Value) (σ : Sg) : Rs := evAt sc0 (ev d) cd_310 (jmp cd_310 5) [.ref 102, .int x1, .int x2, .int x3, .int x4, x5] [] σ
noncomputable def f_M_comeFrom_17 (d : Nat) (x1 : Int32) (x2 : Int32) (x3 : Int32) (x4 : Int32) (x5 : Int32) (σ : Sg) : Rs := evAt sc0 (ev d) cd_310 (jmp cd_310 17) [.ref 102, .int x1, .int x2, .int x3, .int x4, .int x5] [] σ
noncomputable def f_M_generationOf (d : Nat) (a1 : Int32) (σ : Sg) : Rs := ev d 311 [.ref 102, .int a1] σ
noncomputable def f_M_generationOf_2 (d : Nat) (x1 : Int32) (x2 : Int32) (x3 : Value) (σ : Sg) : Rs := evAt sc0 (ev d) cd_311 (jmp cd_311 2) [.ref 102, .int x1, .int x2, x3] [] σ
noncomputable def f_M_max (d : Nat) (a0 : Int32) (a1 : Int32) (σ : Sg) : Rs := ev d 312 [.int a0, .int a1] σ
noncomputable def f_M_years (d : Nat) (a1 : Int32) (σ : Sg) : Rs := ev d 313 [.ref 102, .int a1] σ
noncomputable def f_M_yearsGo (d : Nat) (a1 : Int32) (σ : Sg) : Rs := ev d 314 [.ref 102, .int a1] σ
noncomputable def f_M_yearsGo_17 (d : Nat) (x1 : Int32) (x2 : Int32) (σ : Sg) : Rs := evAt sc0 (ev d) cd_314 (jmp cd_314 17) [.ref 102, .int x1, .int x2] [] σ
noncomputable def f_M_yearGoes (d : Nat) (σ : Sg) : Rs := ev d 315 [.ref 102] σ
noncomputable def f_M_yearGoes_2 (d : Nat) (x1 : Int32) (σ : Sg) : Rs := evAt sc0 (ev d) cd_315 (jmp cd_315 2) [.ref 102, .int x1] [] σ
noncomputable def f_M_yearGoes_23 (d : Nat) (x1 : Int32) (σ : Sg) : Rs := evAt sc0 (ev d) cd_315 (jmp cd_315 23) [.ref 102, .int x1] [] σ
noncomputable def f_M_yearGoes_44 (d : Nat) (x1 : Int32) (σ : Sg) : Rs := evAt sc0 (ev d) cd_315 (jmp cd_315 44) [.ref 102, .int x1] [] σ
noncomputable def f_M_weds (d : Nat) (a1 : Int32) (σ : Sg) : Rs := ev d 316 [.ref 102, .int a1] σ
noncomputable def f_M_feels (d : Nat) (a1 : Int32) (σ : Sg) : Rs := ev d 317 [.ref 102, .int a1] σ
noncomputable def f_M_draws (d : Nat) (σ : Sg) : Rs := ev d 318 [.ref 102] σ
noncomputable def f_M_allOfName (d : Nat) (a1 : Int32) (σ : Sg) : Rs := ev d 319 [.ref 102, .int a1] σ
noncomputable def f_M_allOfVillage (d : Nat) (σ : Sg) : Rs := ev d 320 [.ref 102] σ
noncomputable def f_M_allOfVillage_4 (d : Nat) (x1 : Int32) (x2 : Int32) (σ : Sg) : Rs := evAt sc0 (ev d) cd_320 (jmp cd_320 4) [.ref 102, .int x1, .int x2] [] σ
noncomputable def f_M_holdsAny (d : Nat) (a1 : Int32) (σ : Sg) : Rs := ev d 321 [.ref 102, .int a1] σ
noncomputable def f_M_holdsAny_2 (d : Nat) (x1 : Int32) (x2 : Int32) (σ : Sg) : Rs := evAt sc0 (ev d) cd_321 (jmp cd_321 2) [.ref 102, .int x1, .int x2] [] σ
noncomputable def f_M_reckonsTo (d : Nat) (a1 : Int32) (a2 : Int32) (σ : Sg) : Rs := ev d 322 [.ref 102, .int a1, .int a2] σ
noncomputable def f_M_reckonsTo_16 (d : Nat) (x1 : Value) (x2 : Int32) (x3 : Int32) (x4 : Int32) (x5 : Int32) (x6 : Value) (x7 : Value) (σ : Sg) : Rs := evAt sc0 (ev d) cd_322 (jmp cd_322 16) [.ref 102, x1, .int x2, .int x3, .int x4, .int x5, x6, x7] [] σ
noncomputable def f_M_reckonsTo_52 (d : Nat) (x1 : Value) (x2 : Int32) (x3 : Int32) (x4 : Int32) (x5 : Int32) (x6 : Int32) (x7 : Int32) (σ : Sg) : Rs := evAt sc0 (ev d) cd_322 (jmp cd_322 52) [.ref 102, x1, .int x2, .int x3, .int x4, .int x5, .int x6, .int x7] [] σ
noncomputable def f_M_reckonsTo_203 (d : Nat) (x1 : Value) (x2 : Int32) (x3 : Int32) (x4 : Int32) (x5 : Int32) (x6 : Int32) (x7 : Value) (σ : Sg) : Rs := evAt sc0 (ev d) cd_322 (jmp cd_322 203) [.ref 102, x1, .int x2, .int x3, .int x4, .int x5, .int x6, x7] [] σ
noncomputable def f_M_reckon (d : Nat) (a0 : Int32) (a1 : Int32) (a2 : Int32) (σ : Sg) : Rs := ev d 323 [.int a0, .int a1, .int a2] σ
noncomputable def f_M_byLaw (d : Nat) (a1 : Int32) (a2 : Int32) (a3 : Int32) (σ : Sg) : Rs := ev d 324 [.ref 102, .int a1, .int a2, .int a3] σ
noncomputable def f_M_byLaw_3 (d : Nat) (x1 : Int32) (x2 : Int32) (x3 : Int32) (x4 : Int32) (x5 : Value) (σ : Sg) : Rs := evAt sc0 (ev d) cd_324 (jmp cd_324 3) [.ref 102, .int x1, .int x2, .int x3, .int x4, x5] [] σ
noncomputable def f_M_bears (d : Nat) (a1 : Int32) (σ : Sg) : Rs := ev d 325 [.ref 102, .int a1] σ
noncomputable def f_M_dies (d : Nat) (a1 : Int32) (σ : Sg) : Rs := ev d 326 [.ref 102, .int a1] σ
noncomputable def f_M_tried (d : Nat) (a1 : Int32) (a2 : Int32) (σ : Sg) : Rs := ev d 327 [.ref 102, .int a1, .int a2] σ
noncomputable def f_M_copies (d : Nat) (a0 : Nat) (a1 : Nat) (σ : Sg) : Rs := ev d 328 [.ref a0, .ref a1] σ
noncomputable def f_M_copies_2 (d : Nat) (x0 : Nat) (x1 : Nat) (x2 : Int32) (σ : Sg) : Rs := evAt sc0 (ev d) cd_328 (jmp cd_328 2) [.ref x0, .ref x1, .int x2] [] σ
noncomputable def f_M_nameIs (d : Nat) (a1 : Int32) (a2 : Int32) (σ : Sg) : Rs := ev d 329 [.ref 102, .int a1, .int a2] σ
noncomputable def f_M_diesOut (d : Nat) (a1 : Int32) (a2 : Int32) (σ : Sg) : Rs := ev d 330 [.ref 102, .int a1, .int a2] σ
noncomputable def f_M_diesOut_33 (d : Nat) (x1 : Int32) (x2 : Int32) (x3 : Int32) (x4 : Value) (σ : Sg) : Rs := evAt sc0 (ev d) cd_330 (jmp cd_330 33) [.ref 102, .int x1, .int x2, .int x3, x4] [] σ
noncomputable def f_M_left (d : Nat) (a1 : Int32) (σ : Sg) : Rs := ev d 331 [.ref 102, .int a1] σ
noncomputable def f_M_left_24 (d : Nat) (x1 : Int32) (x2 : Int32) (x3 : Int32) (σ : Sg) : Rs := evAt sc0 (ev d) cd_331 (jmp cd_331 24) [.ref 102, .int x1, .int x2, .int x3] [] σ
noncomputable def f_M_leftOf (d : Nat) (a1 : Int32) (σ : Sg) : Rs := ev d 332 [.ref 102, .int a1] σ
noncomputable def f_M_seed (d : Nat) (a1 : Int32) (σ : Sg) : Rs := ev d 333 [.ref 102, .int a1] σ
noncomputable def f_M_keep (d : Nat) (σ : Sg) : Rs := ev d 334 [.ref 102] σ
noncomputable def f_M_undo (d : Nat) (σ : Sg) : Rs := ev d 335 [.ref 102] σ
noncomputable def f_M_undo_22 (d : Nat) (x1 : Int32) (σ : Sg) : Rs := evAt sc0 (ev d) cd_335 (jmp cd_335 22) [.ref 102, .int x1] [] σ
noncomputable def f_M_check (d : Nat) (a1 : Int32) (σ : Sg) : Rs := ev d 336 [.ref 102, .int a1] σ
noncomputable def f_M_check_28 (d : Nat) (x1 : Int32) (x2 : Int32) (σ : Sg) : Rs := evAt sc0 (ev d) cd_336 (jmp cd_336 28) [.ref 102, .int x1, .int x2] [] σ
noncomputable def f_M_octet (d : Nat) (a1 : Int32) (σ : Sg) : Rs := ev d 337 [.ref 102, .int a1] σ
noncomputable def f_M_count (d : Nat) (a1 : Int32) (σ : Sg) : Rs := ev d 338 [.ref 102, .int a1] σ
noncomputable def f_M_wedSet (d : Nat) (σ : Sg) : Rs := ev d 339 [.ref 102] σ
noncomputable def f_M_wedSet_4 (d : Nat) (x1 : Int32) (x2 : Int32) (σ : Sg) : Rs := evAt sc0 (ev d) cd_339 (jmp cd_339 4) [.ref 102, .int x1, .int x2] [] σ
theorem f_N_people_eq (d : Nat) (a1 : Int32) (a2 : Int32) (a3 : Int32) (a4 : Int32) (σ : Sg) : f_N_people (d + 1) a1 a2 a3 a4 σ =
cI (f_N_isName d a1 σ) fun v2 σ1 =>
if v2 = 0 then (
rZ 0 σ1)
else (
cI (f_N_isNumberOf d a2 σ1) fun v4 σ3 =>
if v4 = 0 then (
rZ 0 σ3)
else (
cI (f_N_isNumberOf d a3 σ3) fun v6 σ5 =>
if v6 = 0 then (
rZ 0 σ5)
else (
cI (f_N_isNumberOf d a4 σ5) fun v8 σ7 =>
if v8 = 0 then (
rZ 0 σ7)
else (
bnd a1 6 (let σ9 := sI σ7 88 (ix a1) a2;
bnd a1 6 (let σ10 := sI σ9 89 (ix a1) a3;
bnd a1 6 (let σ11 := sI σ10 90 (ix a1) a4;
rZ 1 σ11))))))) :=
  evAt_un [] 35 cd_12 [.ref 4, .int a1, .int a2, .int a3, .int a4] [] σ
theorem f_N_isName_eq (d : Nat) (a1 : Int32) (σ : Sg) : f_N_isName (d + 1) a1 σ =
if a1 < 0 then (
rZ 0 σ)
else (
gfI 6 (σ.2.2 4 1) 0 σ fun v1 =>
if a1 < v1 then (
rZ 1 σ)
else (
rZ 0 σ)) :=
  evAt_un [] 12 cd_13 [.ref 4, .int a1] [] σ
theorem f_N_isNumberOf_eq (d : Nat) (a0 : Int32) (σ : Sg) : f_N_isNumberOf (d + 1) a0 σ =
if a0 < 0 then (
rZ 0 σ)
else (
if 9999 < a0 then (
rZ 0 σ)
else (
rZ 1 σ)) :=
  evAt_un [] 10 cd_14 [.int a0] [] σ
theorem f_N_feed_eq (d : Nat) (a1 : Int32) (a2 : Int32) (a3 : Int32) (a4 : Int32) (a5 : Int32) (σ : Sg) : f_N_feed (d + 1) a1 a2 a3 a4 a5 σ =
cI (f_Tape_hasRoomFor d 20 σ) fun v2 σ1 =>
if v2 = 0 then (
rI ((-1)) σ1)
else (
cV (f_Tape_add d a1 σ1) fun σ3 =>
cV (f_Tape_add d a2 σ3) fun σ4 =>
cV (f_Tape_add d a3 σ4) fun σ5 =>
cV (f_Tape_add d a4 σ5) fun σ6 =>
cV (f_Tape_add d a5 σ6) fun σ7 =>
rI (σ7.1 5 1) σ7) :=
  evAt_un [] 31 cd_15 [.ref 4, .int a1, .int a2, .int a3, .int a4, .int a5] [] σ
theorem f_Tape_hasRoomFor_eq (d : Nat) (a1 : Int32) (σ : Sg) : f_Tape_hasRoomFor (d + 1) a1 σ =
if (Int32.ofNat 260) < ((σ.1 5 1) + a1) then (
rZ 0 σ)
else (
rZ 1 σ) :=
  evAt_un [] 13 cd_16 [.ref 5, .int a1] [] σ
theorem f_Tape_add_eq (d : Nat) (a1 : Int32) (σ : Sg) : f_Tape_add (d + 1) a1 σ =
f_Tape_add_3 d a1 24 σ :=
  evAt_un [3] 4 cd_17 [.ref 5, .int a1, .null] [] σ
theorem f_Tape_add_3_eq (d : Nat) (x1 : Int32) (x2 : Int32) (σ : Sg) : f_Tape_add_3 d x1 x2 σ =
if x2 < 0 then (
rV σ)
else (
cI (f_Tape_hasRoomFor d 1 σ) fun v2 σ1 =>
if v2 = 0 then (
rV σ1)
else (
let σ3 := sI σ1 5 1 ((σ1.1 5 1) + 1);
bnd (σ1.1 5 1) 260 (let σ4 := sI σ3 6 (ix (σ1.1 5 1)) ((x1 >>> (x2 &&& 31)) &&& 255);
f_Tape_add_3 d x1 (x2 + (-8)) σ4))) :=
  evAt_un [3] 25 (jmp cd_17 3) [.ref 5, .int x1, .int x2] [] σ
theorem f_N_law_eq (d : Nat) (a1 : Int32) (σ : Sg) : f_N_law (d + 1) a1 σ =
cI (f_Tape_has d a1 240 σ) fun v2 σ1 =>
if v2 = 0 then (
rI ((-1)) σ1)
else (
cV (f_Tape_take d 0 a1 σ1) fun σ3 =>
cI (f_LawReader_read d (σ3.2.2 4 6) σ3) fun v5 σ4 =>
if v5 = 0 then (
let σ6 := sR σ4 4 5 (σ4.2.2 4 6);
let σ7 := sR σ6 4 6 (σ4.2.2 4 5);
gfI 2 (σ7.2.2 4 5) 0 σ7 fun v8 =>
rI v8 σ7)
else (
rI v5 σ4)) :=
  evAt_un [] 35 cd_18 [.ref 4, .int a1, .null, .null] [] σ
theorem f_Tape_has_eq (d : Nat) (a1 : Int32) (a2 : Int32) (σ : Sg) : f_Tape_has (d + 1) a1 a2 σ =
if a1 < 1 then (
rZ 0 σ)
else (
if a2 < a1 then (
rZ 0 σ)
else (
if (σ.1 5 1) < a1 then (
rZ 0 σ)
else (
rZ 1 σ))) :=
  evAt_un [] 15 cd_19 [.ref 5, .int a1, .int a2] [] σ
theorem f_Tape_take_eq (d : Nat) (a1 : Int32) (a2 : Int32) (σ : Sg) : f_Tape_take (d + 1) a1 a2 σ =
let σ1 := sI σ 5 2 a1;
let σ2 := sI σ1 5 3 a2;
let σ3 := sI σ2 5 4 0;
let σ4 := sI σ3 5 1 0;
rV σ4 :=
  evAt_un [] 15 cd_20 [.ref 5, .int a1, .int a2] [] σ
theorem f_LawReader_read_eq (d : Nat) (a1 : Nat) (σ : Sg) : f_LawReader_read (d + 1) a1 σ =
gdK 2 a1 (
cV (f_Law_clear d a1 σ) fun σ1 =>
cI (f_LawReader_readClause d a1 σ1) fun v3 σ2 =>
f_LawReader_read_12 d a1 v3 0 σ2) :=
  evAt_un [12] 10 cd_21 [.ref 5, .ref a1, .null, .null] [] σ
theorem f_LawReader_read_12_eq (d : Nat) (x1 : Nat) (x2 : Int32) (x3 : Int32) (σ : Sg) : f_LawReader_read_12 d x1 x2 x3 σ =
if x3 < (σ.1 5 3) then (
if x2 = 0 then (
cI (f_Tape_now d σ) fun v2 σ1 =>
if v2 = 59 then (
let σ3 := sI σ1 5 4 ((σ1.1 5 4) + 1);
cI (f_LawReader_readClause d x1 σ3) fun v5 σ4 =>
f_LawReader_read_12 d x1 v5 (x3 + 1) σ4)
else (
if x2 = 0 then (
cI (f_Tape_end d σ1) fun v7 σ6 =>
rI v7 σ6)
else (
rI x2 σ1)))
else (
if x2 = 0 then (
cI (f_Tape_end d σ) fun v9 σ8 =>
rI v9 σ8)
else (
rI x2 σ)))
else (
if x2 = 0 then (
cI (f_Tape_end d σ) fun v11 σ10 =>
rI v11 σ10)
else (
rI x2 σ)) :=
  evAt_un [12] 24 (jmp cd_21 12) [.ref 5, .ref x1, .int x2, .int x3] [] σ
theorem f_Law_clear_eq (d : Nat) (a0 : Nat) (σ : Sg) : f_Law_clear (d + 1) a0 σ =
pfI 2 a0 0 0 σ fun σ1 =>
pfI 2 a0 5 0 σ1 fun σ2 =>
rV σ2 :=
  evAt_un [] 9 cd_22 [.ref a0] [] σ
set_option maxRecDepth 20000 in
theorem f_LawReader_readClause_eq (d : Nat) (a1 : Nat) (σ : Sg) : f_LawReader_readClause (d + 1) a1 σ =
cI (f_Tape_now d σ) fun v2 σ1 =>
if v2 = 119 then (
gfI 2 a1 0 σ1 fun v3 =>
if v3 < 16 then (
let σ4 := sI σ1 5 4 ((σ1.1 5 4) + 1);
gfS 2 a1 1 fun v5 =>
stI v5 v3 v2 σ4 fun σ6 =>
gfS 2 a1 2 fun v7 =>
gfI 2 a1 5 σ6 fun v8 =>
stI v7 v3 v8 σ6 fun σ9 =>
if v2 = 120 then (
if (0 : Int32) = 0 then (
gfS 2 a1 3 fun v10 =>
gfI 2 a1 5 σ9 fun v11 =>
stI v10 v3 v11 σ9 fun σ12 =>
cI (f_Tape_now d σ12) fun v14 σ13 =>
if v14 = 40 then (
cI (f_LawReader_readBracket d a1 1 σ13) fun v16 σ15 =>
gfS 2 a1 4 fun v17 =>
gfI 2 a1 5 σ15 fun v18 =>
stI v17 v3 v18 σ15 fun σ19 =>
gfI 2 a1 0 σ19 fun v20 =>
pfI 2 a1 0 (v20 + 1) σ19 fun σ21 =>
rI v16 σ21)
else (
cI (f_Tape_fault d 1 σ13) fun v23 σ22 =>
gfS 2 a1 4 fun v24 =>
gfI 2 a1 5 σ22 fun v25 =>
stI v24 v3 v25 σ22 fun σ26 =>
gfI 2 a1 0 σ26 fun v27 =>
pfI 2 a1 0 (v27 + 1) σ26 fun σ28 =>
rI v23 σ28))
else (
rI 0 σ9))
else (
cI (f_LawReader_readSum d a1 0 σ9) fun v30 σ29 =>
if v30 = 0 then (
gfS 2 a1 3 fun v31 =>
gfI 2 a1 5 σ29 fun v32 =>
stI v31 v3 v32 σ29 fun σ33 =>
cI (f_Tape_now d σ33) fun v35 σ34 =>
if v35 = 40 then (
cI (f_LawReader_readBracket d a1 1 σ34) fun v37 σ36 =>
gfS 2 a1 4 fun v38 =>
gfI 2 a1 5 σ36 fun v39 =>
stI v38 v3 v39 σ36 fun σ40 =>
gfI 2 a1 0 σ40 fun v41 =>
pfI 2 a1 0 (v41 + 1) σ40 fun σ42 =>
rI v37 σ42)
else (
cI (f_Tape_fault d 1 σ34) fun v44 σ43 =>
gfS 2 a1 4 fun v45 =>
gfI 2 a1 5 σ43 fun v46 =>
stI v45 v3 v46 σ43 fun σ47 =>
gfI 2 a1 0 σ47 fun v48 =>
pfI 2 a1 0 (v48 + 1) σ47 fun σ49 =>
rI v44 σ49))
else (
rI v30 σ29)))
else (
cI (f_Tape_fault d 4 σ1) fun v51 σ50 =>
rI v51 σ50))
else (
if v2 = 98 then (
gfI 2 a1 0 σ1 fun v52 =>
if v52 < 16 then (
let σ53 := sI σ1 5 4 ((σ1.1 5 4) + 1);
gfS 2 a1 1 fun v54 =>
stI v54 v52 v2 σ53 fun σ55 =>
gfS 2 a1 2 fun v56 =>
gfI 2 a1 5 σ55 fun v57 =>
stI v56 v52 v57 σ55 fun σ58 =>
if v2 = 120 then (
if (0 : Int32) = 0 then (
gfS 2 a1 3 fun v59 =>
gfI 2 a1 5 σ58 fun v60 =>
stI v59 v52 v60 σ58 fun σ61 =>
cI (f_Tape_now d σ61) fun v63 σ62 =>
if v63 = 40 then (
cI (f_LawReader_readBracket d a1 1 σ62) fun v65 σ64 =>
gfS 2 a1 4 fun v66 =>
gfI 2 a1 5 σ64 fun v67 =>
stI v66 v52 v67 σ64 fun σ68 =>
gfI 2 a1 0 σ68 fun v69 =>
pfI 2 a1 0 (v69 + 1) σ68 fun σ70 =>
rI v65 σ70)
else (
cI (f_Tape_fault d 1 σ62) fun v72 σ71 =>
gfS 2 a1 4 fun v73 =>
gfI 2 a1 5 σ71 fun v74 =>
stI v73 v52 v74 σ71 fun σ75 =>
gfI 2 a1 0 σ75 fun v76 =>
pfI 2 a1 0 (v76 + 1) σ75 fun σ77 =>
rI v72 σ77))
else (
rI 0 σ58))
else (
cI (f_LawReader_readSum d a1 0 σ58) fun v79 σ78 =>
if v79 = 0 then (
gfS 2 a1 3 fun v80 =>
gfI 2 a1 5 σ78 fun v81 =>
stI v80 v52 v81 σ78 fun σ82 =>
cI (f_Tape_now d σ82) fun v84 σ83 =>
if v84 = 40 then (
cI (f_LawReader_readBracket d a1 1 σ83) fun v86 σ85 =>
gfS 2 a1 4 fun v87 =>
gfI 2 a1 5 σ85 fun v88 =>
stI v87 v52 v88 σ85 fun σ89 =>
gfI 2 a1 0 σ89 fun v90 =>
pfI 2 a1 0 (v90 + 1) σ89 fun σ91 =>
rI v86 σ91)
else (
cI (f_Tape_fault d 1 σ83) fun v93 σ92 =>
gfS 2 a1 4 fun v94 =>
gfI 2 a1 5 σ92 fun v95 =>
stI v94 v52 v95 σ92 fun σ96 =>
gfI 2 a1 0 σ96 fun v97 =>
pfI 2 a1 0 (v97 + 1) σ96 fun σ98 =>
rI v93 σ98))
else (
rI v79 σ78)))
else (
cI (f_Tape_fault d 4 σ1) fun v100 σ99 =>
rI v100 σ99))
else (
if v2 = 100 then (
gfI 2 a1 0 σ1 fun v101 =>
if v101 < 16 then (
let σ102 := sI σ1 5 4 ((σ1.1 5 4) + 1);
gfS 2 a1 1 fun v103 =>
stI v103 v101 v2 σ102 fun σ104 =>
gfS 2 a1 2 fun v105 =>
gfI 2 a1 5 σ104 fun v106 =>
stI v105 v101 v106 σ104 fun σ107 =>
if v2 = 120 then (
if (0 : Int32) = 0 then (
gfS 2 a1 3 fun v108 =>
gfI 2 a1 5 σ107 fun v109 =>
stI v108 v101 v109 σ107 fun σ110 =>
cI (f_Tape_now d σ110) fun v112 σ111 =>
if v112 = 40 then (
cI (f_LawReader_readBracket d a1 1 σ111) fun v114 σ113 =>
gfS 2 a1 4 fun v115 =>
gfI 2 a1 5 σ113 fun v116 =>
stI v115 v101 v116 σ113 fun σ117 =>
gfI 2 a1 0 σ117 fun v118 =>
pfI 2 a1 0 (v118 + 1) σ117 fun σ119 =>
rI v114 σ119)
else (
cI (f_Tape_fault d 1 σ111) fun v121 σ120 =>
gfS 2 a1 4 fun v122 =>
gfI 2 a1 5 σ120 fun v123 =>
stI v122 v101 v123 σ120 fun σ124 =>
gfI 2 a1 0 σ124 fun v125 =>
pfI 2 a1 0 (v125 + 1) σ124 fun σ126 =>
rI v121 σ126))
else (
rI 0 σ107))
else (
cI (f_LawReader_readSum d a1 0 σ107) fun v128 σ127 =>
if v128 = 0 then (
gfS 2 a1 3 fun v129 =>
gfI 2 a1 5 σ127 fun v130 =>
stI v129 v101 v130 σ127 fun σ131 =>
cI (f_Tape_now d σ131) fun v133 σ132 =>
if v133 = 40 then (
cI (f_LawReader_readBracket d a1 1 σ132) fun v135 σ134 =>
gfS 2 a1 4 fun v136 =>
gfI 2 a1 5 σ134 fun v137 =>
stI v136 v101 v137 σ134 fun σ138 =>
gfI 2 a1 0 σ138 fun v139 =>
pfI 2 a1 0 (v139 + 1) σ138 fun σ140 =>
rI v135 σ140)
else (
cI (f_Tape_fault d 1 σ132) fun v142 σ141 =>
gfS 2 a1 4 fun v143 =>
gfI 2 a1 5 σ141 fun v144 =>
stI v143 v101 v144 σ141 fun σ145 =>
gfI 2 a1 0 σ145 fun v146 =>
pfI 2 a1 0 (v146 + 1) σ145 fun σ147 =>
rI v142 σ147))
else (
rI v128 σ127)))
else (
cI (f_Tape_fault d 4 σ1) fun v149 σ148 =>
rI v149 σ148))
else (
if v2 = 120 then (
gfI 2 a1 0 σ1 fun v150 =>
if v150 < 16 then (
let σ151 := sI σ1 5 4 ((σ1.1 5 4) + 1);
gfS 2 a1 1 fun v152 =>
stI v152 v150 v2 σ151 fun σ153 =>
gfS 2 a1 2 fun v154 =>
gfI 2 a1 5 σ153 fun v155 =>
stI v154 v150 v155 σ153 fun σ156 =>
if v2 = 120 then (
if (0 : Int32) = 0 then (
gfS 2 a1 3 fun v157 =>
gfI 2 a1 5 σ156 fun v158 =>
stI v157 v150 v158 σ156 fun σ159 =>
cI (f_Tape_now d σ159) fun v161 σ160 =>
if v161 = 40 then (
cI (f_LawReader_readBracket d a1 1 σ160) fun v163 σ162 =>
gfS 2 a1 4 fun v164 =>
gfI 2 a1 5 σ162 fun v165 =>
stI v164 v150 v165 σ162 fun σ166 =>
gfI 2 a1 0 σ166 fun v167 =>
pfI 2 a1 0 (v167 + 1) σ166 fun σ168 =>
rI v163 σ168)
else (
cI (f_Tape_fault d 1 σ160) fun v170 σ169 =>
gfS 2 a1 4 fun v171 =>
gfI 2 a1 5 σ169 fun v172 =>
stI v171 v150 v172 σ169 fun σ173 =>
gfI 2 a1 0 σ173 fun v174 =>
pfI 2 a1 0 (v174 + 1) σ173 fun σ175 =>
rI v170 σ175))
else (
rI 0 σ156))
else (
cI (f_LawReader_readSum d a1 0 σ156) fun v177 σ176 =>
if v177 = 0 then (
gfS 2 a1 3 fun v178 =>
gfI 2 a1 5 σ176 fun v179 =>
stI v178 v150 v179 σ176 fun σ180 =>
cI (f_Tape_now d σ180) fun v182 σ181 =>
if v182 = 40 then (
cI (f_LawReader_readBracket d a1 1 σ181) fun v184 σ183 =>
gfS 2 a1 4 fun v185 =>
gfI 2 a1 5 σ183 fun v186 =>
stI v185 v150 v186 σ183 fun σ187 =>
gfI 2 a1 0 σ187 fun v188 =>
pfI 2 a1 0 (v188 + 1) σ187 fun σ189 =>
rI v184 σ189)
else (
cI (f_Tape_fault d 1 σ181) fun v191 σ190 =>
gfS 2 a1 4 fun v192 =>
gfI 2 a1 5 σ190 fun v193 =>
stI v192 v150 v193 σ190 fun σ194 =>
gfI 2 a1 0 σ194 fun v195 =>
pfI 2 a1 0 (v195 + 1) σ194 fun σ196 =>
rI v191 σ196))
else (
rI v177 σ176)))
else (
cI (f_Tape_fault d 4 σ1) fun v198 σ197 =>
rI v198 σ197))
else (
cI (f_Tape_fault d 1 σ1) fun v200 σ199 =>
rI v200 σ199)))) :=
  evAt_un [] 80 cd_23 [.ref 5, .ref a1, .null, .null, .null] [] σ
theorem f_Tape_now_eq (d : Nat) (σ : Sg) : f_Tape_now (d + 1) σ =
if (σ.1 5 4) < (σ.1 5 3) then (
if ((σ.1 5 2) + (σ.1 5 4)) < 0 then (
rI ((-1)) σ)
else (
if ((σ.1 5 2) + (σ.1 5 4)) < (Int32.ofNat 260) then (
bnd ((σ.1 5 2) + (σ.1 5 4)) 260 (
rI (σ.1 6 (ix ((σ.1 5 2) + (σ.1 5 4)))) σ))
else (
rI ((-1)) σ)))
else (
rI ((-1)) σ) :=
  evAt_un [] 26 cd_24 [.ref 5, .null] [] σ
theorem f_Tape_fault_eq (d : Nat) (a1 : Int32) (σ : Sg) : f_Tape_fault (d + 1) a1 σ =
rI ((((-1000)) * a1) - (σ.1 5 4)) σ :=
  evAt_un [] 9 cd_25 [.ref 5, .int a1] [] σ
theorem f_LawReader_readSum_eq (d : Nat) (a1 : Nat) (a2 : Int32) (σ : Sg) : f_LawReader_readSum (d + 1) a1 a2 σ =
cI (f_LawReader_readTerm d a1 a2 σ) fun v2 σ1 =>
cI (f_Tape_now d σ1) fun v4 σ3 =>
f_LawReader_readSum_16 d a1 a2 v2 v4 0 σ3 :=
  evAt_un [16] 12 cd_26 [.ref 5, .ref a1, .int a2, .null, .null, .null] [] σ
theorem f_LawReader_readSum_16_eq (d : Nat) (x1 : Nat) (x2 : Int32) (x3 : Int32) (x4 : Int32) (x5 : Int32) (σ : Sg) : f_LawReader_readSum_16 d x1 x2 x3 x4 x5 σ =
if x5 < (σ.1 5 3) then (
if x3 = 0 then (
if x4 = 43 then (
let σ1 := sI σ 5 4 ((σ.1 5 4) + 1);
cI (f_LawReader_readTerm d x1 x2 σ1) fun v3 σ2 =>
gdK 2 x1 (
cV (f_Law_emit d x1 ((x4.toUInt32 % 65536).toInt32) 0 σ2) fun σ4 =>
cI (f_Tape_now d σ4) fun v6 σ5 =>
f_LawReader_readSum_16 d x1 x2 v3 v6 (x5 + 1) σ5))
else (
if x4 = 45 then (
let σ7 := sI σ 5 4 ((σ.1 5 4) + 1);
cI (f_LawReader_readTerm d x1 x2 σ7) fun v9 σ8 =>
gdK 2 x1 (
cV (f_Law_emit d x1 ((x4.toUInt32 % 65536).toInt32) 0 σ8) fun σ10 =>
cI (f_Tape_now d σ10) fun v12 σ11 =>
f_LawReader_readSum_16 d x1 x2 v9 v12 (x5 + 1) σ11))
else (
rI x3 σ)))
else (
rI x3 σ))
else (
rI x3 σ) :=
  evAt_un [16] 35 (jmp cd_26 16) [.ref 5, .ref x1, .int x2, .int x3, .int x4, .int x5] [] σ
theorem f_LawReader_readTerm_eq (d : Nat) (a1 : Nat) (a2 : Int32) (σ : Sg) : f_LawReader_readTerm (d + 1) a1 a2 σ =
cI (f_LawReader_readFactor d a1 a2 σ) fun v2 σ1 =>
cI (f_Tape_now d σ1) fun v4 σ3 =>
f_LawReader_readTerm_16 d a1 a2 v2 v4 0 σ3 :=
  evAt_un [16] 12 cd_27 [.ref 5, .ref a1, .int a2, .null, .null, .null] [] σ
set_option maxRecDepth 20000 in
theorem f_LawReader_readTerm_16_eq (d : Nat) (x1 : Nat) (x2 : Int32) (x3 : Int32) (x4 : Int32) (x5 : Int32) (σ : Sg) : f_LawReader_readTerm_16 d x1 x2 x3 x4 x5 σ =
if x5 < (σ.1 5 3) then (
if x3 = 0 then (
if x4 = 42 then (
let σ1 := sI σ 5 4 ((σ.1 5 4) + 1);
cI (f_LawReader_readFactor d x1 x2 σ1) fun v3 σ2 =>
gdK 2 x1 (
cV (f_Law_emit d x1 ((x4.toUInt32 % 65536).toInt32) 0 σ2) fun σ4 =>
cI (f_Tape_now d σ4) fun v6 σ5 =>
f_LawReader_readTerm_16 d x1 x2 v3 v6 (x5 + 1) σ5))
else (
if x4 = 47 then (
let σ7 := sI σ 5 4 ((σ.1 5 4) + 1);
cI (f_LawReader_readFactor d x1 x2 σ7) fun v9 σ8 =>
gdK 2 x1 (
cV (f_Law_emit d x1 ((x4.toUInt32 % 65536).toInt32) 0 σ8) fun σ10 =>
cI (f_Tape_now d σ10) fun v12 σ11 =>
f_LawReader_readTerm_16 d x1 x2 v9 v12 (x5 + 1) σ11))
else (
if x4 = 37 then (
let σ13 := sI σ 5 4 ((σ.1 5 4) + 1);
cI (f_LawReader_readFactor d x1 x2 σ13) fun v15 σ14 =>
gdK 2 x1 (
cV (f_Law_emit d x1 ((x4.toUInt32 % 65536).toInt32) 0 σ14) fun σ16 =>
cI (f_Tape_now d σ16) fun v18 σ17 =>
f_LawReader_readTerm_16 d x1 x2 v15 v18 (x5 + 1) σ17))
else (
rI x3 σ))))
else (
rI x3 σ))
else (
rI x3 σ) :=
  evAt_un [16] 38 (jmp cd_27 16) [.ref 5, .ref x1, .int x2, .int x3, .int x4, .int x5] [] σ
theorem f_LawReader_readFactor_eq (d : Nat) (a1 : Nat) (a2 : Int32) (σ : Sg) : f_LawReader_readFactor (d + 1) a1 a2 σ =
cI (f_Tape_now d σ) fun v2 σ1 =>
cI (f_N_isDigit d v2 σ1) fun v4 σ3 =>
if v4 = 0 then (
if v2 = 91 then (
if a2 = 6 then (
cI (f_Tape_fault d 5 σ3) fun v6 σ5 =>
rI v6 σ5)
else (
let σ7 := sI σ3 5 4 ((σ3.1 5 4) + 1);
cI (f_LawReader_readSum d a1 (a2 + 1) σ7) fun v9 σ8 =>
if v9 = 0 then (
cI (f_Tape_sign d 93 σ8) fun v11 σ10 =>
rI v11 σ10)
else (
rI v9 σ8)))
else (
f_LawReader_readFactor_76 d a1 (.int a2) v2 0 σ3))
else (
cI (f_LawReader_readNumber d a1 σ3) fun v13 σ12 =>
rI v13 σ12) :=
  evAt_un [76] 33 cd_28 [.ref 5, .ref a1, .int a2, .null, .null] [] σ
theorem f_LawReader_readFactor_76_eq (d : Nat) (x1 : Nat) (x2 : Value) (x3 : Int32) (x4 : Int32) (σ : Sg) : f_LawReader_readFactor_76 d x1 x2 x3 x4 σ =
if x4 < (Int32.ofNat 8) then (
bnd x4 8 (
if (FC 3 (ix x4)) = x3 then (
let σ1 := sI σ 5 4 ((σ.1 5 4) + 1);
gdK 2 x1 (
cV (f_Law_emit d x1 97 x4 σ1) fun σ2 =>
rI 0 σ2))
else (
f_LawReader_readFactor_76 d x1 (x2) x3 (x4 + 1) σ)))
else (
cI (f_Tape_fault d 1 σ) fun v4 σ3 =>
rI v4 σ3) :=
  evAt_un [76] 23 (jmp cd_28 76) [.ref 5, .ref x1, x2, .int x3, .int x4] [] σ
theorem f_N_isDigit_eq (d : Nat) (a0 : Int32) (σ : Sg) : f_N_isDigit (d + 1) a0 σ =
if a0 < 48 then (
rZ 0 σ)
else (
if 57 < a0 then (
rZ 0 σ)
else (
rZ 1 σ)) :=
  evAt_un [] 11 cd_29 [.int a0] [] σ
theorem f_LawReader_readNumber_eq (d : Nat) (a1 : Nat) (σ : Sg) : f_LawReader_readNumber (d + 1) a1 σ =
f_LawReader_readNumber_4 d a1 0 0 σ :=
  evAt_un [4] 6 cd_30 [.ref 5, .ref a1, .null, .null] [] σ
theorem f_LawReader_readNumber_4_eq (d : Nat) (x1 : Nat) (x2 : Int32) (x3 : Int32) (σ : Sg) : f_LawReader_readNumber_4 d x1 x2 x3 σ =
if 5 < x3 then (
gdK 2 x1 (
cV (f_Law_emit d x1 35 x2 σ) fun σ1 =>
rI 0 σ1))
else (
cI (f_Tape_now d σ) fun v3 σ2 =>
cI (f_N_isDigit d v3 σ2) fun v5 σ4 =>
if v5 = 0 then (
gdK 2 x1 (
cV (f_Law_emit d x1 35 x2 σ4) fun σ6 =>
rI 0 σ6))
else (
if x3 = 5 then (
cI (f_Tape_fault d 2 σ4) fun v8 σ7 =>
rI v8 σ7)
else (
cI (f_Tape_now d σ4) fun v10 σ9 =>
let σ11 := sI σ9 5 4 ((σ9.1 5 4) + 1);
f_LawReader_readNumber_4 d x1 (((10 * x2) + v10) - 48) (x3 + 1) σ11))) :=
  evAt_un [4] 29 (jmp cd_30 4) [.ref 5, .ref x1, .int x2, .int x3] [] σ
theorem f_Law_emit_eq (d : Nat) (a0 : Nat) (a1 : Int32) (a2 : Int32) (σ : Sg) : f_Law_emit (d + 1) a0 a1 a2 σ =
gfI 2 a0 5 σ fun v1 =>
if v1 < 240 then (
gfS 2 a0 6 fun v2 =>
gfI 2 a0 5 σ fun v3 =>
stC v2 v3 a1 σ fun σ4 =>
gfS 2 a0 7 fun v5 =>
gfI 2 a0 5 σ4 fun v6 =>
pfI 2 a0 5 (v6 + 1) σ4 fun σ7 =>
stI v5 v6 a2 σ7 fun σ8 =>
rV σ8)
else (
rV σ) :=
  evAt_un [] 24 cd_31 [.ref a0, .int a1, .int a2] [] σ
theorem f_Tape_sign_eq (d : Nat) (a1 : Int32) (σ : Sg) : f_Tape_sign (d + 1) a1 σ =
cI (f_Tape_now d σ) fun v2 σ1 =>
if v2 = a1 then (
let σ3 := sI σ1 5 4 ((σ1.1 5 4) + 1);
rI 0 σ3)
else (
cI (f_Tape_fault d 1 σ1) fun v5 σ4 =>
rI v5 σ4) :=
  evAt_un [] 14 cd_32 [.ref 5, .int a1] [] σ
theorem f_LawReader_readBracket_eq (d : Nat) (a1 : Nat) (a2 : Int32) (σ : Sg) : f_LawReader_readBracket (d + 1) a1 a2 σ =
let σ1 := sI σ 5 4 ((σ.1 5 4) + 1);
cI (f_LawReader_readChoice d a1 a2 σ1) fun v3 σ2 =>
if v3 = 0 then (
cI (f_Tape_sign d 41 σ2) fun v5 σ4 =>
rI v5 σ4)
else (
rI v3 σ2) :=
  evAt_un [] 19 cd_33 [.ref 5, .ref a1, .int a2, .null] [] σ
theorem f_LawReader_readChoice_eq (d : Nat) (a1 : Nat) (a2 : Int32) (σ : Sg) : f_LawReader_readChoice (d + 1) a1 a2 σ =
cI (f_LawReader_readPart d a1 a2 σ) fun v2 σ1 =>
f_LawReader_readChoice_13 d a1 a2 ((-1)) v2 0 σ1 :=
  evAt_un [13] 11 cd_34 [.ref 5, .ref a1, .int a2, .null, .null, .null] [] σ
theorem f_LawReader_readChoice_13_eq (d : Nat) (x1 : Nat) (x2 : Int32) (x3 : Int32) (x4 : Int32) (x5 : Int32) (σ : Sg) : f_LawReader_readChoice_13 d x1 x2 x3 x4 x5 σ =
if x5 < (σ.1 5 3) then (
if x4 = 0 then (
cI (f_Tape_now d σ) fun v2 σ1 =>
if v2 = 124 then (
cI (f_LawReader_emitSkip d x1 x3 σ1) fun v4 σ3 =>
cI (f_LawReader_readPart d x1 x2 σ3) fun v6 σ5 =>
f_LawReader_readChoice_13 d x1 x2 v4 v6 (x5 + 1) σ5)
else (
cV (f_LawReader_endSkip d x1 x3 σ1) fun σ7 =>
rI x4 σ7))
else (
cV (f_LawReader_endSkip d x1 x3 σ) fun σ8 =>
rI x4 σ8))
else (
cV (f_LawReader_endSkip d x1 x3 σ) fun σ9 =>
rI x4 σ9) :=
  evAt_un [13] 24 (jmp cd_34 13) [.ref 5, .ref x1, .int x2, .int x3, .int x4, .int x5] [] σ
theorem f_LawReader_readPart_eq (d : Nat) (a1 : Nat) (a2 : Int32) (σ : Sg) : f_LawReader_readPart (d + 1) a1 a2 σ =
cI (f_LawReader_readTest d a1 a2 σ) fun v2 σ1 =>
f_LawReader_readPart_13 d a1 a2 ((-1)) v2 0 σ1 :=
  evAt_un [13] 11 cd_35 [.ref 5, .ref a1, .int a2, .null, .null, .null] [] σ
theorem f_LawReader_readPart_13_eq (d : Nat) (x1 : Nat) (x2 : Int32) (x3 : Int32) (x4 : Int32) (x5 : Int32) (σ : Sg) : f_LawReader_readPart_13 d x1 x2 x3 x4 x5 σ =
if x5 < (σ.1 5 3) then (
if x4 = 0 then (
cI (f_Tape_now d σ) fun v2 σ1 =>
if v2 = 38 then (
cI (f_LawReader_emitSkip d x1 x3 σ1) fun v4 σ3 =>
cI (f_LawReader_readTest d x1 x2 σ3) fun v6 σ5 =>
f_LawReader_readPart_13 d x1 x2 v4 v6 (x5 + 1) σ5)
else (
cV (f_LawReader_endSkip d x1 x3 σ1) fun σ7 =>
rI x4 σ7))
else (
cV (f_LawReader_endSkip d x1 x3 σ) fun σ8 =>
rI x4 σ8))
else (
cV (f_LawReader_endSkip d x1 x3 σ) fun σ9 =>
rI x4 σ9) :=
  evAt_un [13] 24 (jmp cd_35 13) [.ref 5, .ref x1, .int x2, .int x3, .int x4, .int x5] [] σ
set_option maxRecDepth 20000 in
theorem f_LawReader_readTest_eq (d : Nat) (a1 : Nat) (a2 : Int32) (σ : Sg) : f_LawReader_readTest (d + 1) a1 a2 σ =
cI (f_Tape_now d σ) fun v2 σ1 =>
if v2 = 33 then (
if a2 = 6 then (
cI (f_Tape_fault d 5 σ1) fun v4 σ3 =>
rI v4 σ3)
else (
if v2 = 40 then (
cI (f_LawReader_readBracket d a1 (a2 + 1) σ1) fun v6 σ5 =>
rI v6 σ5)
else (
if v2 = 33 then (
let σ7 := sI σ1 5 4 ((σ1.1 5 4) + 1);
cI (f_LawReader_readTest d a1 (a2 + 1) σ7) fun v9 σ8 =>
gdK 2 a1 (
cV (f_Law_emit d a1 33 0 σ8) fun σ10 =>
rI v9 σ10))
else (
cI (f_LawReader_readSum d a1 a2 σ1) fun v12 σ11 =>
if v12 = 0 then (
cI (f_Tape_now d σ11) fun v14 σ13 =>
if v14 = 60 then (
let σ15 := sI σ13 5 4 ((σ13.1 5 4) + 1);
cI (f_LawReader_readSum d a1 a2 σ15) fun v17 σ16 =>
gdK 2 a1 (
cV (f_Law_emit d a1 ((v14.toUInt32 % 65536).toInt32) 0 σ16) fun σ18 =>
rI v17 σ18))
else (
if v14 = 62 then (
let σ19 := sI σ13 5 4 ((σ13.1 5 4) + 1);
cI (f_LawReader_readSum d a1 a2 σ19) fun v21 σ20 =>
gdK 2 a1 (
cV (f_Law_emit d a1 ((v14.toUInt32 % 65536).toInt32) 0 σ20) fun σ22 =>
rI v21 σ22))
else (
if v14 = 61 then (
let σ23 := sI σ13 5 4 ((σ13.1 5 4) + 1);
cI (f_LawReader_readSum d a1 a2 σ23) fun v25 σ24 =>
gdK 2 a1 (
cV (f_Law_emit d a1 ((v14.toUInt32 % 65536).toInt32) 0 σ24) fun σ26 =>
rI v25 σ26))
else (
cI (f_Tape_fault d 1 σ13) fun v28 σ27 =>
rI v28 σ27))))
else (
rI v12 σ11)))))
else (
if v2 = 40 then (
if a2 = 6 then (
cI (f_Tape_fault d 5 σ1) fun v30 σ29 =>
rI v30 σ29)
else (
if v2 = 40 then (
cI (f_LawReader_readBracket d a1 (a2 + 1) σ1) fun v32 σ31 =>
rI v32 σ31)
else (
if v2 = 33 then (
let σ33 := sI σ1 5 4 ((σ1.1 5 4) + 1);
cI (f_LawReader_readTest d a1 (a2 + 1) σ33) fun v35 σ34 =>
gdK 2 a1 (
cV (f_Law_emit d a1 33 0 σ34) fun σ36 =>
rI v35 σ36))
else (
cI (f_LawReader_readSum d a1 a2 σ1) fun v38 σ37 =>
if v38 = 0 then (
cI (f_Tape_now d σ37) fun v40 σ39 =>
if v40 = 60 then (
let σ41 := sI σ39 5 4 ((σ39.1 5 4) + 1);
cI (f_LawReader_readSum d a1 a2 σ41) fun v43 σ42 =>
gdK 2 a1 (
cV (f_Law_emit d a1 ((v40.toUInt32 % 65536).toInt32) 0 σ42) fun σ44 =>
rI v43 σ44))
else (
if v40 = 62 then (
let σ45 := sI σ39 5 4 ((σ39.1 5 4) + 1);
cI (f_LawReader_readSum d a1 a2 σ45) fun v47 σ46 =>
gdK 2 a1 (
cV (f_Law_emit d a1 ((v40.toUInt32 % 65536).toInt32) 0 σ46) fun σ48 =>
rI v47 σ48))
else (
if v40 = 61 then (
let σ49 := sI σ39 5 4 ((σ39.1 5 4) + 1);
cI (f_LawReader_readSum d a1 a2 σ49) fun v51 σ50 =>
gdK 2 a1 (
cV (f_Law_emit d a1 ((v40.toUInt32 % 65536).toInt32) 0 σ50) fun σ52 =>
rI v51 σ52))
else (
cI (f_Tape_fault d 1 σ39) fun v54 σ53 =>
rI v54 σ53))))
else (
rI v38 σ37)))))
else (
if v2 = 40 then (
cI (f_LawReader_readBracket d a1 (a2 + 1) σ1) fun v56 σ55 =>
rI v56 σ55)
else (
if v2 = 33 then (
let σ57 := sI σ1 5 4 ((σ1.1 5 4) + 1);
cI (f_LawReader_readTest d a1 (a2 + 1) σ57) fun v59 σ58 =>
gdK 2 a1 (
cV (f_Law_emit d a1 33 0 σ58) fun σ60 =>
rI v59 σ60))
else (
cI (f_LawReader_readSum d a1 a2 σ1) fun v62 σ61 =>
if v62 = 0 then (
cI (f_Tape_now d σ61) fun v64 σ63 =>
if v64 = 60 then (
let σ65 := sI σ63 5 4 ((σ63.1 5 4) + 1);
cI (f_LawReader_readSum d a1 a2 σ65) fun v67 σ66 =>
gdK 2 a1 (
cV (f_Law_emit d a1 ((v64.toUInt32 % 65536).toInt32) 0 σ66) fun σ68 =>
rI v67 σ68))
else (
if v64 = 62 then (
let σ69 := sI σ63 5 4 ((σ63.1 5 4) + 1);
cI (f_LawReader_readSum d a1 a2 σ69) fun v71 σ70 =>
gdK 2 a1 (
cV (f_Law_emit d a1 ((v64.toUInt32 % 65536).toInt32) 0 σ70) fun σ72 =>
rI v71 σ72))
else (
if v64 = 61 then (
let σ73 := sI σ63 5 4 ((σ63.1 5 4) + 1);
cI (f_LawReader_readSum d a1 a2 σ73) fun v75 σ74 =>
gdK 2 a1 (
cV (f_Law_emit d a1 ((v64.toUInt32 % 65536).toInt32) 0 σ74) fun σ76 =>
rI v75 σ76))
else (
cI (f_Tape_fault d 1 σ63) fun v78 σ77 =>
rI v78 σ77))))
else (
rI v62 σ61))))) :=
  evAt_un [] 57 cd_36 [.ref 5, .ref a1, .int a2, .null, .null, .null] [] σ
theorem f_LawReader_emitSkip_eq (d : Nat) (a1 : Nat) (a2 : Int32) (σ : Sg) : f_LawReader_emitSkip (d + 1) a1 a2 σ =
cV (f_LawReader_endSkip d a1 a2 σ) fun σ1 =>
cI (f_Tape_now d σ1) fun v3 σ2 =>
gdK 2 a1 (
cV (f_Law_emit d a1 ((v3.toUInt32 % 65536).toInt32) 0 σ2) fun σ4 =>
let σ5 := sI σ4 5 4 ((σ4.1 5 4) + 1);
gfI 2 a1 5 σ5 fun v6 =>
rI (v6 - 1) σ5) :=
  evAt_un [] 22 cd_37 [.ref 5, .ref a1, .int a2] [] σ
theorem f_LawReader_endSkip_eq (d : Nat) (a0 : Nat) (a1 : Int32) (σ : Sg) : f_LawReader_endSkip (d + 1) a0 a1 σ =
if a1 < 0 then (
rV σ)
else (
gfS 2 a0 7 fun v1 =>
gfI 2 a0 5 σ fun v2 =>
stI v1 a1 v2 σ fun σ3 =>
rV σ3) :=
  evAt_un [] 11 cd_38 [.ref a0, .int a1] [] σ
theorem f_Tape_end_eq (d : Nat) (σ : Sg) : f_Tape_end (d + 1) σ =
if (σ.1 5 4) < (σ.1 5 3) then (
cI (f_Tape_fault d 1 σ) fun v2 σ1 =>
rI v2 σ1)
else (
rI 0 σ) :=
  evAt_un [] 12 cd_39 [.ref 5] [] σ
set_option maxRecDepth 20000 in
theorem f_N_rule_eq (d : Nat) (a1 : Int32) (σ : Sg) : f_N_rule (d + 1) a1 σ =
cI (f_Tape_has d a1 20 σ) fun v2 σ1 =>
if v2 = 0 then (
rI ((-1)) σ1)
else (
cV (f_Tape_take d 0 a1 σ1) fun σ3 =>
gdK 6 (σ3.2.2 4 2) (
cI (f_Rule_read d (σ3.2.2 4 2) σ3) fun v5 σ4 =>
if v5 = 0 then (
let σ6 := sR σ4 4 1 (σ4.2.2 4 2);
let σ7 := sR σ6 4 2 (σ4.2.2 4 1);
cV (f_Village_clear d 87 σ7) fun σ8 =>
gfI 6 (σ8.2.2 4 1) 0 σ8 fun v9 =>
gdK 4 (σ8.2.2 4 3) (
cV (f_Roll_forgetNamesFrom d (σ8.2.2 4 3) v9 σ8) fun σ10 =>
cV (f_Houses_settle d (σ10.2.2 4 1) (σ10.2.2 4 3) σ10) fun σ11 =>
gfI 6 (σ11.2.2 4 1) 0 σ11 fun v12 =>
rI v12 σ11))
else (
rI v5 σ4))) :=
  evAt_un [] 51 cd_40 [.ref 4, .int a1, .null, .null] [] σ
theorem f_Rule_read_eq (d : Nat) (a0 : Nat) (σ : Sg) : f_Rule_read (d + 1) a0 σ =
gdK 6 a0 (
cI (f_Rule_readWives d a0 σ) fun v2 σ1 =>
if v2 = 0 then (
gdK 6 a0 (
cI (f_Rule_readChildren d a0 σ1) fun v4 σ3 =>
if v4 = 0 then (
gdK 6 a0 (
cV (f_Rule_turnRound d a0 σ3) fun σ5 =>
rI v4 σ5))
else (
rI v4 σ3)))
else (
if v2 = 0 then (
gdK 6 a0 (
cV (f_Rule_turnRound d a0 σ1) fun σ6 =>
rI v2 σ6))
else (
rI v2 σ1))) :=
  evAt_un [] 18 cd_41 [.ref a0, .ref 5, .null] [] σ
theorem f_Rule_readWives_eq (d : Nat) (a0 : Nat) (σ : Sg) : f_Rule_readWives (d + 1) a0 σ =
f_Rule_readWives_4 d a0 0 0 .null σ :=
  evAt_un [4, 125] 6 cd_42 [.ref a0, .ref 5, .null, .null, .null] [] σ
set_option maxRecDepth 20000 in
theorem f_Rule_readWives_4_eq (d : Nat) (x0 : Nat) (x2 : Int32) (x3 : Int32) (x4 : Value) (σ : Sg) : f_Rule_readWives_4 d x0 x2 x3 x4 σ =
if (σ.1 5 4) < (σ.1 5 3) then (
cI (f_Tape_now d σ) fun v2 σ1 =>
if v2 = 47 then (
cI (f_Tape_now d σ1) fun v4 σ3 =>
if v4 = 47 then (
if x3 < 2 then (
cI (f_Tape_fault d 1 σ3) fun v6 σ5 =>
rI v6 σ5)
else (
pfI 6 x0 0 x3 σ3 fun σ7 =>
f_Rule_readWives_125 d x0 (.int x2) (.int x3) 0 σ7))
else (
cI (f_Tape_fault d 1 σ3) fun v9 σ8 =>
rI v9 σ8))
else (
cI (f_Tape_now d σ1) fun v11 σ10 =>
cI (f_N_nameOf d v11 σ10) fun v13 σ12 =>
if v13 < 0 then (
cI (f_Tape_fault d 1 σ12) fun v15 σ14 =>
rI v15 σ14)
else (
if x3 = 6 then (
cI (f_Tape_fault d 1 σ12) fun v17 σ16 =>
rI v17 σ16)
else (
if ((x2 >>> (v13 &&& 31)) &&& 1) = 0 then (
gfS 6 x0 1 fun v18 =>
stI v18 x3 v13 σ12 fun σ19 =>
let σ20 := sI σ19 5 4 ((σ19.1 5 4) + 1);
f_Rule_readWives_4 d x0 (x2 ||| (1 <<< (v13 &&& 31))) (x3 + 1) (.int v13) σ20)
else (
cI (f_Tape_fault d 6 σ12) fun v22 σ21 =>
rI v22 σ21)))))
else (
cI (f_Tape_now d σ) fun v24 σ23 =>
if v24 = 47 then (
if x3 < 2 then (
cI (f_Tape_fault d 1 σ23) fun v26 σ25 =>
rI v26 σ25)
else (
pfI 6 x0 0 x3 σ23 fun σ27 =>
f_Rule_readWives_125 d x0 (.int x2) (.int x3) 0 σ27))
else (
cI (f_Tape_fault d 1 σ23) fun v29 σ28 =>
rI v29 σ28)) :=
  evAt_un [4, 125] 45 (jmp cd_42 4) [.ref x0, .ref 5, .int x2, .int x3, x4] [] σ
theorem f_Rule_readWives_125_eq (d : Nat) (x0 : Nat) (x2 : Value) (x3 : Value) (x4 : Int32) (σ : Sg) : f_Rule_readWives_125 d x0 x2 x3 x4 σ =
gfI 6 x0 0 σ fun v1 =>
if x4 < v1 then (
gfS 6 x0 1 fun v2 =>
ldI v2 x4 σ fun v3 =>
gfI 6 x0 0 σ fun v4 =>
if v3 < v4 then (
f_Rule_readWives_125 d x0 (x2) (nlg x3) (x4 + 1) σ)
else (
cI (f_N_fault d 3 x4 σ) fun v6 σ5 =>
rI v6 σ5))
else (
let σ7 := sI σ 5 4 ((σ.1 5 4) + 1);
rI 0 σ7) :=
  evAt_un [4, 125] 17 (jmp cd_42 125) [.ref x0, .ref 5, x2, x3, .int x4] [] σ
theorem f_N_nameOf_eq (d : Nat) (a0 : Int32) (σ : Sg) : f_N_nameOf (d + 1) a0 σ =
if a0 < 97 then (
rI ((-1)) σ)
else (
if 102 < a0 then (
rI ((-1)) σ)
else (
rI (a0 - 97) σ)) :=
  evAt_un [] 13 cd_43 [.int a0] [] σ
theorem f_N_fault_eq (d : Nat) (a0 : Int32) (a1 : Int32) (σ : Sg) : f_N_fault (d + 1) a0 a1 σ =
rI ((((-1000)) * a0) - a1) σ :=
  evAt_un [] 8 cd_44 [.int a0, .int a1] [] σ
theorem f_Rule_readChildren_eq (d : Nat) (a0 : Nat) (σ : Sg) : f_Rule_readChildren (d + 1) a0 σ =
f_Rule_readChildren_4 d a0 0 0 .null σ :=
  evAt_un [4] 6 cd_45 [.ref a0, .ref 5, .null, .null, .null] [] σ
set_option maxRecDepth 20000 in
theorem f_Rule_readChildren_4_eq (d : Nat) (x0 : Nat) (x2 : Int32) (x3 : Int32) (x4 : Value) (σ : Sg) : f_Rule_readChildren_4 d x0 x2 x3 x4 σ =
gfI 6 x0 0 σ fun v1 =>
if x3 < v1 then (
cI (f_Tape_now d σ) fun v3 σ2 =>
cI (f_N_nameOf d v3 σ2) fun v5 σ4 =>
if v5 < 0 then (
cI (f_Tape_fault d 1 σ4) fun v7 σ6 =>
rI v7 σ6)
else (
if ((x2 >>> (v5 &&& 31)) &&& 1) = 0 then (
gfI 6 x0 0 σ4 fun v8 =>
if v5 < v8 then (
gfS 6 x0 3 fun v9 =>
stI v9 x3 v5 σ4 fun σ10 =>
let σ11 := sI σ10 5 4 ((σ10.1 5 4) + 1);
f_Rule_readChildren_4 d x0 (x2 ||| (1 <<< (v5 &&& 31))) (x3 + 1) (.int v5) σ11)
else (
cI (f_Tape_fault d 3 σ4) fun v13 σ12 =>
rI v13 σ12))
else (
cI (f_Tape_fault d 6 σ4) fun v15 σ14 =>
rI v15 σ14)))
else (
cI (f_Tape_end d σ) fun v17 σ16 =>
rI v17 σ16) :=
  evAt_un [4] 41 (jmp cd_45 4) [.ref x0, .ref 5, .int x2, .int x3, x4] [] σ
theorem f_Rule_turnRound_eq (d : Nat) (a0 : Nat) (σ : Sg) : f_Rule_turnRound (d + 1) a0 σ =
f_Rule_turnRound_2 d a0 0 σ :=
  evAt_un [2] 4 cd_46 [.ref a0, .null] [] σ
theorem f_Rule_turnRound_2_eq (d : Nat) (x0 : Nat) (x1 : Int32) (σ : Sg) : f_Rule_turnRound_2 d x0 x1 σ =
gfI 6 x0 0 σ fun v1 =>
if x1 < v1 then (
gfS 6 x0 2 fun v2 =>
gfS 6 x0 1 fun v3 =>
ldI v3 x1 σ fun v4 =>
stI v2 v4 x1 σ fun σ5 =>
gfS 6 x0 4 fun v6 =>
gfS 6 x0 3 fun v7 =>
ldI v7 x1 σ5 fun v8 =>
stI v6 v8 x1 σ5 fun σ9 =>
f_Rule_turnRound_2 d x0 (x1 + 1) σ9)
else (
rV σ) :=
  evAt_un [2] 24 (jmp cd_46 2) [.ref x0, .int x1] [] σ
theorem f_Village_clear_eq (d : Nat) (a0 : Nat) (σ : Sg) : f_Village_clear (d + 1) a0 σ =
gfS 8 a0 0 fun v1 =>
cV (f_Arrays_fill_2I d v1 0 σ) fun σ2 =>
gfS 8 a0 1 fun v3 =>
cV (f_Arrays_fill_2I d v3 0 σ2) fun σ4 =>
gfS 8 a0 2 fun v5 =>
cV (f_Arrays_fill_2I d v5 0 σ4) fun σ6 =>
rV σ6 :=
  evAt_un [] 15 cd_47 [.ref a0] [] σ
theorem f_Arrays_fill_2I_eq (d : Nat) (a0 : Nat) (a1 : Int32) (σ : Sg) : f_Arrays_fill_2I (d + 1) a0 a1 σ =
aln a0 fun v1 =>
f_Arrays_fill_2I_5 d a0 a1 0 v1 σ :=
  evAt_un [5] 7 cd_48 [.ref a0, .int a1, .null, .null] [] σ
theorem f_Arrays_fill_2I_5_eq (d : Nat) (x0 : Nat) (x1 : Int32) (x2 : Int32) (x3 : Int32) (σ : Sg) : f_Arrays_fill_2I_5 d x0 x1 x2 x3 σ =
if x2 < x3 then (
stI x0 x2 x1 σ fun σ1 =>
f_Arrays_fill_2I_5 d x0 x1 (x2 + 1) x3 σ1)
else (
rV σ) :=
  evAt_un [5] 11 (jmp cd_48 5) [.ref x0, .int x1, .int x2, .int x3] [] σ
theorem f_Roll_forgetNamesFrom_eq (d : Nat) (a0 : Nat) (a1 : Int32) (σ : Sg) : f_Roll_forgetNamesFrom (d + 1) a0 a1 σ =
f_Roll_forgetNamesFrom_2 d a0 a1 0 σ :=
  evAt_un [2] 4 cd_49 [.ref a0, .int a1, .null] [] σ
theorem f_Roll_forgetNamesFrom_2_eq (d : Nat) (x0 : Nat) (x1 : Int32) (x2 : Int32) (σ : Sg) : f_Roll_forgetNamesFrom_2 d x0 x1 x2 σ =
gfI 4 x0 0 σ fun v1 =>
if x2 < v1 then (
gfS 4 x0 2 fun v2 =>
ldI v2 x2 σ fun v3 =>
if v3 < x1 then (
f_Roll_forgetNamesFrom_2 d x0 x1 (x2 + 1) σ)
else (
gfS 4 x0 2 fun v4 =>
stI v4 x2 ((-1)) σ fun σ5 =>
f_Roll_forgetNamesFrom_2 d x0 x1 (x2 + 1) σ5))
else (
rV σ) :=
  evAt_un [2] 19 (jmp cd_49 2) [.ref x0, .int x1, .int x2] [] σ
theorem f_Houses_settle_eq (d : Nat) (a1 : Nat) (a2 : Nat) (σ : Sg) : f_Houses_settle (d + 1) a1 a2 σ =
cV (f_Houses_findHeads d a2 σ) fun σ1 =>
cV (f_Arrays_fill_2I d 76 0 σ1) fun σ2 =>
cV (f_Arrays_fill_2I d 80 25 σ2) fun σ3 =>
cV (f_Arrays_fill_2I d 81 0 σ3) fun σ4 =>
f_Houses_settle_32 d a1 a2 0 σ4 :=
  evAt_un [32] 19 cd_50 [.ref 75, .ref a1, .ref a2, .null] [] σ
theorem f_Houses_settle_32_eq (d : Nat) (x1 : Nat) (x2 : Nat) (x3 : Int32) (σ : Sg) : f_Houses_settle_32 d x1 x2 x3 σ =
gfI 6 x1 0 σ fun v1 =>
if x3 < v1 then (
cV (f_Houses_nameAll d x1 x2 x3 σ) fun σ2 =>
cV (f_Houses_findBroken d x1 x2 σ2) fun σ3 =>
cV (f_Houses_takeIn d x2 σ3) fun σ4 =>
f_Houses_settle_32 d x1 x2 (x3 + 1) σ4)
else (
rV σ) :=
  evAt_un [32] 20 (jmp cd_50 32) [.ref 75, .ref x1, .ref x2, .int x3] [] σ
theorem f_Houses_findHeads_eq (d : Nat) (a1 : Nat) (σ : Sg) : f_Houses_findHeads (d + 1) a1 σ =
f_Houses_findHeads_2 d a1 0 σ :=
  evAt_un [2, 25] 4 cd_51 [.ref 75, .ref a1, .null] [] σ
theorem f_Houses_findHeads_2_eq (d : Nat) (x1 : Nat) (x2 : Int32) (σ : Sg) : f_Houses_findHeads_2 d x1 x2 σ =
gfI 4 x1 0 σ fun v1 =>
if x2 < v1 then (
bnd x2 24 (let σ2 := sI σ 77 (ix x2) x2;
f_Houses_findHeads_2 d x1 (x2 + 1) σ2))
else (
f_Houses_findHeads_25 d x1 0 σ) :=
  evAt_un [2, 25] 13 (jmp cd_51 2) [.ref 75, .ref x1, .int x2] [] σ
theorem f_Houses_findHeads_25_eq (d : Nat) (x1 : Nat) (x2 : Int32) (σ : Sg) : f_Houses_findHeads_25 d x1 x2 σ =
gfI 4 x1 0 σ fun v1 =>
if x2 < v1 then (
gfS 4 x1 3 fun v2 =>
ldI v2 x2 σ fun v3 =>
cV (f_Houses_joinTo d x1 x2 v3 σ) fun σ4 =>
gfS 4 x1 4 fun v5 =>
ldI v5 x2 σ4 fun v6 =>
cV (f_Houses_joinTo d x1 x2 v6 σ4) fun σ7 =>
gfS 4 x1 5 fun v8 =>
ldI v8 x2 σ7 fun v9 =>
cV (f_Houses_joinTo d x1 x2 v9 σ7) fun σ10 =>
f_Houses_findHeads_25 d x1 (x2 + 1) σ10)
else (
rV σ) :=
  evAt_un [2, 25] 32 (jmp cd_51 25) [.ref 75, .ref x1, .int x2] [] σ
theorem f_Houses_joinTo_eq (d : Nat) (a1 : Nat) (a2 : Int32) (a3 : Int32) (σ : Sg) : f_Houses_joinTo (d + 1) a1 a2 a3 σ =
gdK 4 a1 (
cI (f_Roll_has d a1 a3 σ) fun v2 σ1 =>
if v2 = 0 then (
rV σ1)
else (
gfI 4 a1 0 σ1 fun v3 =>
cV (f_N_join d 77 v3 a2 a3 σ1) fun σ4 =>
rV σ4)) :=
  evAt_un [] 14 cd_52 [.ref 75, .ref a1, .int a2, .int a3] [] σ
theorem f_Roll_has_eq (d : Nat) (a0 : Nat) (a1 : Int32) (σ : Sg) : f_Roll_has (d + 1) a0 a1 σ =
if a1 < 0 then (
rZ 0 σ)
else (
gfI 4 a0 0 σ fun v1 =>
if a1 < v1 then (
rZ 1 σ)
else (
rZ 0 σ)) :=
  evAt_un [] 11 cd_53 [.ref a0, .int a1] [] σ
theorem f_N_join_eq (d : Nat) (a0 : Nat) (a1 : Int32) (a2 : Int32) (a3 : Int32) (σ : Sg) : f_N_join (d + 1) a0 a1 a2 a3 σ =
ldI a0 a2 σ fun v1 =>
ldI a0 a3 σ fun v2 =>
ldI a0 a2 σ fun v3 =>
ldI a0 a3 σ fun v4 =>
f_N_join_25 d a0 a1 (.int a2) (.int a3) (mnI v1 v2) (mxI v3 v4) 0 σ :=
  evAt_un [25] 20 cd_54 [.ref a0, .int a1, .int a2, .int a3, .null, .null, .null] [] σ
theorem f_N_join_25_eq (d : Nat) (x0 : Nat) (x1 : Int32) (x2 : Value) (x3 : Value) (x4 : Int32) (x5 : Int32) (x6 : Int32) (σ : Sg) : f_N_join_25 d x0 x1 x2 x3 x4 x5 x6 σ =
if x6 < x1 then (
ldI x0 x6 σ fun v1 =>
if v1 = x5 then (
stI x0 x6 x4 σ fun σ2 =>
f_N_join_25 d x0 x1 (x2) (x3) x4 x5 (x6 + 1) σ2)
else (
f_N_join_25 d x0 x1 (x2) (x3) x4 x5 (x6 + 1) σ))
else (
rV σ) :=
  evAt_un [25] 16 (jmp cd_54 25) [.ref x0, .int x1, x2, x3, .int x4, .int x5, .int x6] [] σ
theorem f_Math_min_eq (d : Nat) (a0 : Int32) (a1 : Int32) (σ : Sg) : f_Math_min (d + 1) a0 a1 σ =
if a1 < a0 then (
rI a1 σ)
else (
rI a0 σ) :=
  evAt_un [] 8 cd_55 [.int a0, .int a1] [] σ
theorem f_Math_max_eq (d : Nat) (a0 : Int32) (a1 : Int32) (σ : Sg) : f_Math_max (d + 1) a0 a1 σ =
if a0 < a1 then (
rI a1 σ)
else (
rI a0 σ) :=
  evAt_un [] 8 cd_56 [.int a0, .int a1] [] σ
theorem f_Houses_nameAll_eq (d : Nat) (a1 : Nat) (a2 : Nat) (a3 : Int32) (σ : Sg) : f_Houses_nameAll (d + 1) a1 a2 a3 σ =
f_Houses_nameAll_3 d a1 a2 a3 0 .null .null σ :=
  evAt_un [3, 48, 68] 4 cd_57 [.ref 75, .ref a1, .ref a2, .int a3, .null, .null, .null] [] σ
theorem f_Houses_nameAll_3_eq (d : Nat) (x1 : Nat) (x2 : Nat) (x3 : Int32) (x4 : Int32) (x5 : Value) (x6 : Value) (σ : Sg) : f_Houses_nameAll_3 d x1 x2 x3 x4 x5 x6 σ =
gfI 4 x2 0 σ fun v1 =>
if x4 < v1 then (
bnd x4 24 (
if (σ.1 77 (ix x4)) = x4 then (
bnd x4 24 (let σ2 := sI σ 78 (ix x4) x3;
f_Houses_nameAll_3 d x1 x2 x3 (x4 + 1) (x5) (x6) σ2))
else (
bnd x4 24 (let σ3 := sI σ 78 (ix x4) ((-1));
f_Houses_nameAll_3 d x1 x2 x3 (x4 + 1) (x5) (x6) σ3))))
else (
f_Houses_nameAll_48 d x1 x2 (.int x3) 1 0 (x6) σ) :=
  evAt_un [3, 48, 68] 20 (jmp cd_57 3) [.ref 75, .ref x1, .ref x2, .int x3, .int x4, x5, x6] [] σ
theorem f_Houses_nameAll_48_eq (d : Nat) (x1 : Nat) (x2 : Nat) (x3 : Value) (x4 : Int32) (x5 : Int32) (x6 : Value) (σ : Sg) : f_Houses_nameAll_48 d x1 x2 x3 x4 x5 x6 σ =
gfI 4 x2 0 σ fun v1 =>
if x5 < v1 then (
if x4 = 0 then (
rV σ)
else (
f_Houses_nameAll_68 d x1 x2 (nlg x3) 0 x5 0 σ))
else (
rV σ) :=
  evAt_un [3, 48, 68] 12 (jmp cd_57 48) [.ref 75, .ref x1, .ref x2, x3, .int x4, .int x5, x6] [] σ
set_option maxRecDepth 20000 in
theorem f_Houses_nameAll_68_eq (d : Nat) (x1 : Nat) (x2 : Nat) (x3 : Value) (x4 : Int32) (x5 : Int32) (x6 : Int32) (σ : Sg) : f_Houses_nameAll_68 d x1 x2 x3 x4 x5 x6 σ =
gfI 4 x2 0 σ fun v1 =>
if x6 < v1 then (
gfS 4 x2 3 fun v2 =>
ldI v2 x6 σ fun v3 =>
cI (f_Houses_nameNext d x1 x2 x6 v3 0 σ) fun v5 σ4 =>
gfS 4 x2 4 fun v6 =>
ldI v6 x6 σ4 fun v7 =>
cI (f_Houses_nameNext d x1 x2 x6 v7 1 σ4) fun v9 σ8 =>
gfS 4 x2 5 fun v10 =>
ldI v10 x6 σ8 fun v11 =>
gfS 4 x2 1 fun v12 =>
ldI v12 x6 σ8 fun v13 =>
if v13 = 0 then (
cI (f_Houses_nameNext d x1 x2 x6 v11 3 σ8) fun v15 σ14 =>
f_Houses_nameAll_68 d x1 x2 (nlg (nlg (nlg x3))) (((x4 ||| v5) ||| v9) ||| v15) x5 (x6 + 1) σ14)
else (
cI (f_Houses_nameNext d x1 x2 x6 v11 2 σ8) fun v17 σ16 =>
f_Houses_nameAll_68 d x1 x2 (nlg (nlg (nlg x3))) (((x4 ||| v5) ||| v9) ||| v17) x5 (x6 + 1) σ16))
else (
f_Houses_nameAll_48 d x1 x2 (x3) x4 (x5 + 1) (.int x6) σ) :=
  evAt_un [3, 48, 68] 53 (jmp cd_57 68) [.ref 75, .ref x1, .ref x2, x3, .int x4, .int x5, .int x6] [] σ
set_option maxRecDepth 20000 in
theorem f_Houses_nameNext_eq (d : Nat) (a1 : Nat) (a2 : Nat) (a3 : Int32) (a4 : Int32) (a5 : Int32) (σ : Sg) : f_Houses_nameNext (d + 1) a1 a2 a3 a4 a5 σ =
gdK 4 a2 (
cI (f_Roll_has d a2 a4 σ) fun v2 σ1 =>
if v2 = 0 then (
rZ 0 σ1)
else (
bnd a3 24 (
if (σ1.1 78 (ix a3)) = ((-1 : Int32)) then (
bnd a4 24 (
if (σ1.1 78 (ix a4)) = ((-1 : Int32)) then (
if (1 : Int32) = 1 then (
rZ 0 σ1)
else (
bnd a3 24 (
if (σ1.1 78 (ix a3)) = ((-1 : Int32)) then (
if a5 = 0 then (
gfS 4 a2 1 fun v3 =>
ldI v3 a4 σ1 fun v4 =>
bnd a4 24 (
gdK 6 a1 (
cI (f_Rule_go d a1 4 v4 (σ1.1 78 (ix a4)) σ1) fun v6 σ5 =>
bnd a3 24 (let σ7 := sI σ5 78 (ix a3) v6;
rZ 1 σ7))))
else (
if a5 = 1 then (
gfS 4 a2 1 fun v8 =>
ldI v8 a4 σ1 fun v9 =>
bnd a4 24 (
gdK 6 a1 (
cI (f_Rule_go d a1 4 v9 (σ1.1 78 (ix a4)) σ1) fun v11 σ10 =>
bnd a3 24 (let σ12 := sI σ10 78 (ix a3) v11;
rZ 1 σ12))))
else (
gfS 4 a2 1 fun v13 =>
ldI v13 a4 σ1 fun v14 =>
bnd a4 24 (
gdK 6 a1 (
cI (f_Rule_spouse d a1 v14 (σ1.1 78 (ix a4)) σ1) fun v16 σ15 =>
bnd a3 24 (let σ17 := sI σ15 78 (ix a3) v16;
rZ 1 σ17))))))
else (
gfS 4 a2 1 fun v18 =>
ldI v18 a3 σ1 fun v19 =>
bnd a3 24 (
gdK 6 a1 (
cI (f_Rule_go d a1 a5 v19 (σ1.1 78 (ix a3)) σ1) fun v21 σ20 =>
bnd a4 24 (let σ22 := sI σ20 78 (ix a4) v21;
rZ 1 σ22)))))))
else (
if (1 : Int32) = 0 then (
rZ 0 σ1)
else (
bnd a3 24 (
if (σ1.1 78 (ix a3)) = ((-1 : Int32)) then (
if a5 = 0 then (
gfS 4 a2 1 fun v23 =>
ldI v23 a4 σ1 fun v24 =>
bnd a4 24 (
gdK 6 a1 (
cI (f_Rule_go d a1 4 v24 (σ1.1 78 (ix a4)) σ1) fun v26 σ25 =>
bnd a3 24 (let σ27 := sI σ25 78 (ix a3) v26;
rZ 1 σ27))))
else (
if a5 = 1 then (
gfS 4 a2 1 fun v28 =>
ldI v28 a4 σ1 fun v29 =>
bnd a4 24 (
gdK 6 a1 (
cI (f_Rule_go d a1 4 v29 (σ1.1 78 (ix a4)) σ1) fun v31 σ30 =>
bnd a3 24 (let σ32 := sI σ30 78 (ix a3) v31;
rZ 1 σ32))))
else (
gfS 4 a2 1 fun v33 =>
ldI v33 a4 σ1 fun v34 =>
bnd a4 24 (
gdK 6 a1 (
cI (f_Rule_spouse d a1 v34 (σ1.1 78 (ix a4)) σ1) fun v36 σ35 =>
bnd a3 24 (let σ37 := sI σ35 78 (ix a3) v36;
rZ 1 σ37))))))
else (
gfS 4 a2 1 fun v38 =>
ldI v38 a3 σ1 fun v39 =>
bnd a3 24 (
gdK 6 a1 (
cI (f_Rule_go d a1 a5 v39 (σ1.1 78 (ix a3)) σ1) fun v41 σ40 =>
bnd a4 24 (let σ42 := sI σ40 78 (ix a4) v41;
rZ 1 σ42)))))))))
else (
bnd a4 24 (
if (σ1.1 78 (ix a4)) = ((-1 : Int32)) then (
if (0 : Int32) = 1 then (
rZ 0 σ1)
else (
bnd a3 24 (
if (σ1.1 78 (ix a3)) = ((-1 : Int32)) then (
if a5 = 0 then (
gfS 4 a2 1 fun v43 =>
ldI v43 a4 σ1 fun v44 =>
bnd a4 24 (
gdK 6 a1 (
cI (f_Rule_go d a1 4 v44 (σ1.1 78 (ix a4)) σ1) fun v46 σ45 =>
bnd a3 24 (let σ47 := sI σ45 78 (ix a3) v46;
rZ 1 σ47))))
else (
if a5 = 1 then (
gfS 4 a2 1 fun v48 =>
ldI v48 a4 σ1 fun v49 =>
bnd a4 24 (
gdK 6 a1 (
cI (f_Rule_go d a1 4 v49 (σ1.1 78 (ix a4)) σ1) fun v51 σ50 =>
bnd a3 24 (let σ52 := sI σ50 78 (ix a3) v51;
rZ 1 σ52))))
else (
gfS 4 a2 1 fun v53 =>
ldI v53 a4 σ1 fun v54 =>
bnd a4 24 (
gdK 6 a1 (
cI (f_Rule_spouse d a1 v54 (σ1.1 78 (ix a4)) σ1) fun v56 σ55 =>
bnd a3 24 (let σ57 := sI σ55 78 (ix a3) v56;
rZ 1 σ57))))))
else (
gfS 4 a2 1 fun v58 =>
ldI v58 a3 σ1 fun v59 =>
bnd a3 24 (
gdK 6 a1 (
cI (f_Rule_go d a1 a5 v59 (σ1.1 78 (ix a3)) σ1) fun v61 σ60 =>
bnd a4 24 (let σ62 := sI σ60 78 (ix a4) v61;
rZ 1 σ62)))))))
else (
if (0 : Int32) = 0 then (
rZ 0 σ1)
else (
bnd a3 24 (
if (σ1.1 78 (ix a3)) = ((-1 : Int32)) then (
if a5 = 0 then (
gfS 4 a2 1 fun v63 =>
ldI v63 a4 σ1 fun v64 =>
bnd a4 24 (
gdK 6 a1 (
cI (f_Rule_go d a1 4 v64 (σ1.1 78 (ix a4)) σ1) fun v66 σ65 =>
bnd a3 24 (let σ67 := sI σ65 78 (ix a3) v66;
rZ 1 σ67))))
else (
if a5 = 1 then (
gfS 4 a2 1 fun v68 =>
ldI v68 a4 σ1 fun v69 =>
bnd a4 24 (
gdK 6 a1 (
cI (f_Rule_go d a1 4 v69 (σ1.1 78 (ix a4)) σ1) fun v71 σ70 =>
bnd a3 24 (let σ72 := sI σ70 78 (ix a3) v71;
rZ 1 σ72))))
else (
gfS 4 a2 1 fun v73 =>
ldI v73 a4 σ1 fun v74 =>
bnd a4 24 (
gdK 6 a1 (
cI (f_Rule_spouse d a1 v74 (σ1.1 78 (ix a4)) σ1) fun v76 σ75 =>
bnd a3 24 (let σ77 := sI σ75 78 (ix a3) v76;
rZ 1 σ77))))))
else (
gfS 4 a2 1 fun v78 =>
ldI v78 a3 σ1 fun v79 =>
bnd a3 24 (
gdK 6 a1 (
cI (f_Rule_go d a1 a5 v79 (σ1.1 78 (ix a3)) σ1) fun v81 σ80 =>
bnd a4 24 (let σ82 := sI σ80 78 (ix a4) v81;
rZ 1 σ82)))))))))))) :=
  evAt_un [] 52 cd_58 [.ref 75, .ref a1, .ref a2, .int a3, .int a4, .int a5] [] σ
theorem f_Rule_go_eq (d : Nat) (a0 : Nat) (a1 : Int32) (a2 : Int32) (a3 : Int32) (σ : Sg) : f_Rule_go (d + 1) a0 a1 a2 a3 σ =
if a1 = 0 then (
gfS 6 a0 2 fun v1 =>
gfS 6 a0 4 fun v2 =>
ldI v2 a3 σ fun v3 =>
ldI v1 v3 σ fun v4 =>
rI v4 σ)
else if a1 = 1 then (
gfS 6 a0 4 fun v5 =>
ldI v5 a3 σ fun v6 =>
rI v6 σ)
else if a1 = 2 then (
gfS 6 a0 2 fun v7 =>
ldI v7 a3 σ fun v8 =>
rI v8 σ)
else if a1 = 3 then (
gfS 6 a0 1 fun v9 =>
ldI v9 a3 σ fun v10 =>
rI v10 σ)
else if a1 = 4 then (
if a2 = 0 then (
gfS 6 a0 3 fun v11 =>
gfS 6 a0 1 fun v12 =>
ldI v12 a3 σ fun v13 =>
ldI v11 v13 σ fun v14 =>
rI v14 σ)
else (
gfS 6 a0 3 fun v15 =>
ldI v15 a3 σ fun v16 =>
rI v16 σ))
else if a1 = 5 then (
if a2 = 0 then (
gfS 6 a0 3 fun v17 =>
gfS 6 a0 1 fun v18 =>
ldI v18 a3 σ fun v19 =>
ldI v17 v19 σ fun v20 =>
rI v20 σ)
else (
gfS 6 a0 3 fun v21 =>
ldI v21 a3 σ fun v22 =>
rI v22 σ))
else (
rI a3 σ) :=
  evAt_un [] 15 cd_59 [.ref a0, .int a1, .int a2, .int a3] [] σ
theorem f_Rule_spouse_eq (d : Nat) (a0 : Nat) (a1 : Int32) (a2 : Int32) (σ : Sg) : f_Rule_spouse (d + 1) a0 a1 a2 σ =
if a1 = 0 then (
gfS 6 a0 1 fun v1 =>
ldI v1 a2 σ fun v2 =>
rI v2 σ)
else (
gfS 6 a0 2 fun v3 =>
ldI v3 a2 σ fun v4 =>
rI v4 σ) :=
  evAt_un [] 10 cd_60 [.ref a0, .int a1, .int a2] [] σ
theorem f_Houses_findBroken_eq (d : Nat) (a1 : Nat) (a2 : Nat) (σ : Sg) : f_Houses_findBroken (d + 1) a1 a2 σ =
let σ1 := sI σ 75 6 0;
f_Houses_findBroken_7 d a1 a2 0 .null σ1 :=
  evAt_un [7] 7 cd_61 [.ref 75, .ref a1, .ref a2, .null, .null] [] σ
set_option maxRecDepth 20000 in
theorem f_Houses_findBroken_7_eq (d : Nat) (x1 : Nat) (x2 : Nat) (x3 : Int32) (x4 : Value) (σ : Sg) : f_Houses_findBroken_7 d x1 x2 x3 x4 σ =
gfI 4 x2 0 σ fun v1 =>
if x3 < v1 then (
gfS 4 x2 3 fun v2 =>
ldI v2 x3 σ fun v3 =>
cI (f_Houses_fits d x1 x2 x3 v3 0 σ) fun v5 σ4 =>
if v5 = 0 then (
if (0 : Int32) = 0 then (
bnd x3 24 (
let σ6 := sI σ4 75 6 ((σ4.1 75 6) ||| (1 <<< ((σ4.1 77 (ix x3)) &&& 31)));
f_Houses_findBroken_7 d x1 x2 (x3 + 1) (.int 0) σ6))
else (
f_Houses_findBroken_7 d x1 x2 (x3 + 1) (.int 0) σ4))
else (
gfS 4 x2 4 fun v7 =>
ldI v7 x3 σ4 fun v8 =>
cI (f_Houses_fits d x1 x2 x3 v8 1 σ4) fun v10 σ9 =>
if v10 = 0 then (
if (0 : Int32) = 0 then (
bnd x3 24 (
let σ11 := sI σ9 75 6 ((σ9.1 75 6) ||| (1 <<< ((σ9.1 77 (ix x3)) &&& 31)));
f_Houses_findBroken_7 d x1 x2 (x3 + 1) (.int 0) σ11))
else (
f_Houses_findBroken_7 d x1 x2 (x3 + 1) (.int 0) σ9))
else (
gfS 4 x2 5 fun v12 =>
ldI v12 x3 σ9 fun v13 =>
gfS 4 x2 1 fun v14 =>
ldI v14 x3 σ9 fun v15 =>
if v15 = 0 then (
cI (f_Houses_fits d x1 x2 x3 v13 3 σ9) fun v17 σ16 =>
if v17 = 0 then (
if (0 : Int32) = 0 then (
bnd x3 24 (
let σ18 := sI σ16 75 6 ((σ16.1 75 6) ||| (1 <<< ((σ16.1 77 (ix x3)) &&& 31)));
f_Houses_findBroken_7 d x1 x2 (x3 + 1) (.int 0) σ18))
else (
f_Houses_findBroken_7 d x1 x2 (x3 + 1) (.int 0) σ16))
else (
if (1 : Int32) = 0 then (
bnd x3 24 (
let σ19 := sI σ16 75 6 ((σ16.1 75 6) ||| (1 <<< ((σ16.1 77 (ix x3)) &&& 31)));
f_Houses_findBroken_7 d x1 x2 (x3 + 1) (.int 1) σ19))
else (
f_Houses_findBroken_7 d x1 x2 (x3 + 1) (.int 1) σ16)))
else (
cI (f_Houses_fits d x1 x2 x3 v13 2 σ9) fun v21 σ20 =>
if v21 = 0 then (
if (0 : Int32) = 0 then (
bnd x3 24 (
let σ22 := sI σ20 75 6 ((σ20.1 75 6) ||| (1 <<< ((σ20.1 77 (ix x3)) &&& 31)));
f_Houses_findBroken_7 d x1 x2 (x3 + 1) (.int 0) σ22))
else (
f_Houses_findBroken_7 d x1 x2 (x3 + 1) (.int 0) σ20))
else (
if (1 : Int32) = 0 then (
bnd x3 24 (
let σ23 := sI σ20 75 6 ((σ20.1 75 6) ||| (1 <<< ((σ20.1 77 (ix x3)) &&& 31)));
f_Houses_findBroken_7 d x1 x2 (x3 + 1) (.int 1) σ23))
else (
f_Houses_findBroken_7 d x1 x2 (x3 + 1) (.int 1) σ20))))))
else (
rV σ) :=
  evAt_un [7] 63 (jmp cd_61 7) [.ref 75, .ref x1, .ref x2, .int x3, x4] [] σ
theorem f_Houses_fits_eq (d : Nat) (a1 : Nat) (a2 : Nat) (a3 : Int32) (a4 : Int32) (a5 : Int32) (σ : Sg) : f_Houses_fits (d + 1) a1 a2 a3 a4 a5 σ =
gdK 4 a2 (
cI (f_Roll_has d a2 a4 σ) fun v2 σ1 =>
if v2 = 0 then (
rZ 1 σ1)
else (
bnd a3 24 (
if (σ1.1 78 (ix a3)) = ((-1 : Int32)) then (
rZ 0 σ1)
else (
bnd a4 24 (
gfS 4 a2 1 fun v3 =>
ldI v3 a3 σ1 fun v4 =>
bnd a3 24 (
gdK 6 a1 (
cI (f_Rule_go d a1 a5 v4 (σ1.1 78 (ix a3)) σ1) fun v6 σ5 =>
if (σ1.1 78 (ix a4)) = v6 then (
rZ 1 σ5)
else (
rZ 0 σ5)))))))) :=
  evAt_un [] 31 cd_62 [.ref 75, .ref a1, .ref a2, .int a3, .int a4, .int a5] [] σ
theorem f_Houses_takeIn_eq (d : Nat) (a1 : Nat) (σ : Sg) : f_Houses_takeIn (d + 1) a1 σ =
cV (f_Arrays_fill_2I d 79 0 σ) fun σ1 =>
f_Houses_takeIn_10 d a1 0 .null σ1 :=
  evAt_un [10, 67] 8 cd_63 [.ref 75, .ref a1, .null, .null] [] σ
theorem f_Houses_takeIn_10_eq (d : Nat) (x1 : Nat) (x2 : Int32) (x3 : Value) (σ : Sg) : f_Houses_takeIn_10 d x1 x2 x3 σ =
gfI 4 x1 0 σ fun v1 =>
if x2 < v1 then (
gfS 4 x1 2 fun v2 =>
ldI v2 x2 σ fun v3 =>
if v3 < 0 then (
f_Houses_takeIn_10 d x1 (x2 + 1) (x3) σ)
else (
gfS 4 x1 2 fun v4 =>
ldI v4 x2 σ fun v5 =>
bnd x2 24 (
if v5 = (σ.1 78 (ix x2)) then (
f_Houses_takeIn_10 d x1 (x2 + 1) (x3) σ)
else (
bnd x2 24 (
bnd (σ.1 77 (ix x2)) 24 (
bnd (σ.1 77 (ix x2)) 24 (let σ6 := sI σ 79 (ix (σ.1 77 (ix x2))) ((σ.1 79 (ix (σ.1 77 (ix x2)))) ||| (1 <<< (x2 &&& 31)));
f_Houses_takeIn_10 d x1 (x2 + 1) (x3) σ6)))))))
else (
f_Houses_takeIn_67 d x1 0 (x3) σ) :=
  evAt_un [10, 67] 35 (jmp cd_63 10) [.ref 75, .ref x1, .int x2, x3] [] σ
set_option maxRecDepth 20000 in
theorem f_Houses_takeIn_67_eq (d : Nat) (x1 : Nat) (x2 : Int32) (x3 : Value) (σ : Sg) : f_Houses_takeIn_67 d x1 x2 x3 σ =
gfI 4 x1 0 σ fun v1 =>
if x2 < v1 then (
bnd x2 24 (
if (((σ.1 75 6) >>> ((σ.1 77 (ix x2)) &&& 31)) &&& 1) = 0 then (
bnd (σ.1 77 (ix x2)) 24 (
if (σ.1 79 (ix (σ.1 77 (ix x2)))) = 0 then (
bnd x2 24 (
bnd x2 24 (
bnd x2 24 (let σ2 := sI σ 76 (ix x2) ((σ.1 76 (ix x2)) ||| (1 <<< ((σ.1 78 (ix x2)) &&& 31)));
if (σ.1 77 (ix x2)) = x2 then (
bnd (σ.1 77 (ix x2)) 24 (
cI (f_Integer_bitCount d (σ2.1 79 (ix (σ.1 77 (ix x2)))) σ2) fun v4 σ3 =>
bnd (σ.1 77 (ix x2)) 24 (
if v4 < (σ3.1 80 (ix (σ.1 77 (ix x2)))) then (
bnd (σ.1 77 (ix x2)) 24 (
cI (f_Integer_bitCount d (σ3.1 79 (ix (σ.1 77 (ix x2)))) σ3) fun v6 σ5 =>
bnd (σ.1 77 (ix x2)) 24 (let σ7 := sI σ5 80 (ix (σ.1 77 (ix x2))) v6;
bnd (σ.1 77 (ix x2)) 24 (
bnd (σ.1 77 (ix x2)) 24 (let σ8 := sI σ7 81 (ix (σ.1 77 (ix x2))) (σ7.1 79 (ix (σ.1 77 (ix x2))));
f_Houses_takeIn_67 d x1 (x2 + 1) (.int (σ.1 77 (ix x2))) σ8)))))
else (
f_Houses_takeIn_67 d x1 (x2 + 1) (.int (σ.1 77 (ix x2))) σ3))))
else (
f_Houses_takeIn_67 d x1 (x2 + 1) (.int (σ.1 77 (ix x2))) σ2)))))
else (
if (σ.1 77 (ix x2)) = x2 then (
bnd (σ.1 77 (ix x2)) 24 (
cI (f_Integer_bitCount d (σ.1 79 (ix (σ.1 77 (ix x2)))) σ) fun v10 σ9 =>
bnd (σ.1 77 (ix x2)) 24 (
if v10 < (σ9.1 80 (ix (σ.1 77 (ix x2)))) then (
bnd (σ.1 77 (ix x2)) 24 (
cI (f_Integer_bitCount d (σ9.1 79 (ix (σ.1 77 (ix x2)))) σ9) fun v12 σ11 =>
bnd (σ.1 77 (ix x2)) 24 (let σ13 := sI σ11 80 (ix (σ.1 77 (ix x2))) v12;
bnd (σ.1 77 (ix x2)) 24 (
bnd (σ.1 77 (ix x2)) 24 (let σ14 := sI σ13 81 (ix (σ.1 77 (ix x2))) (σ13.1 79 (ix (σ.1 77 (ix x2))));
f_Houses_takeIn_67 d x1 (x2 + 1) (.int (σ.1 77 (ix x2))) σ14)))))
else (
f_Houses_takeIn_67 d x1 (x2 + 1) (.int (σ.1 77 (ix x2))) σ9))))
else (
f_Houses_takeIn_67 d x1 (x2 + 1) (.int (σ.1 77 (ix x2))) σ))))
else (
f_Houses_takeIn_67 d x1 (x2 + 1) (.int (σ.1 77 (ix x2))) σ)))
else (
rV σ) :=
  evAt_un [10, 67] 68 (jmp cd_63 67) [.ref 75, .ref x1, .int x2, x3] [] σ
set_option maxRecDepth 20000 in
theorem f_Integer_bitCount_eq (d : Nat) (a0 : Int32) (σ : Sg) : f_Integer_bitCount (d + 1) a0 σ =
rI ((((((((a0 - (((a0.toUInt32 >>> ((1 : Int32).toUInt32 &&& Int32.toUInt32 31)).toInt32) &&& 1431655765)) &&& 858993459) + ((((a0 - (((a0.toUInt32 >>> ((1 : Int32).toUInt32 &&& Int32.toUInt32 31)).toInt32) &&& 1431655765)).toUInt32 >>> ((2 : Int32).toUInt32 &&& Int32.toUInt32 31)).toInt32) &&& 858993459)) + (((((a0 - (((a0.toUInt32 >>> ((1 : Int32).toUInt32 &&& Int32.toUInt32 31)).toInt32) &&& 1431655765)) &&& 858993459) + ((((a0 - (((a0.toUInt32 >>> ((1 : Int32).toUInt32 &&& Int32.toUInt32 31)).toInt32) &&& 1431655765)).toUInt32 >>> ((2 : Int32).toUInt32 &&& Int32.toUInt32 31)).toInt32) &&& 858993459)).toUInt32 >>> ((4 : Int32).toUInt32 &&& Int32.toUInt32 31)).toInt32)) &&& 252645135) + (((((((a0 - (((a0.toUInt32 >>> ((1 : Int32).toUInt32 &&& Int32.toUInt32 31)).toInt32) &&& 1431655765)) &&& 858993459) + ((((a0 - (((a0.toUInt32 >>> ((1 : Int32).toUInt32 &&& Int32.toUInt32 31)).toInt32) &&& 1431655765)).toUInt32 >>> ((2 : Int32).toUInt32 &&& Int32.toUInt32 31)).toInt32) &&& 858993459)) + (((((a0 - (((a0.toUInt32 >>> ((1 : Int32).toUInt32 &&& Int32.toUInt32 31)).toInt32) &&& 1431655765)) &&& 858993459) + ((((a0 - (((a0.toUInt32 >>> ((1 : Int32).toUInt32 &&& Int32.toUInt32 31)).toInt32) &&& 1431655765)).toUInt32 >>> ((2 : Int32).toUInt32 &&& Int32.toUInt32 31)).toInt32) &&& 858993459)).toUInt32 >>> ((4 : Int32).toUInt32 &&& Int32.toUInt32 31)).toInt32)) &&& 252645135).toUInt32 >>> ((8 : Int32).toUInt32 &&& Int32.toUInt32 31)).toInt32)) + ((((((((a0 - (((a0.toUInt32 >>> ((1 : Int32).toUInt32 &&& Int32.toUInt32 31)).toInt32) &&& 1431655765)) &&& 858993459) + ((((a0 - (((a0.toUInt32 >>> ((1 : Int32).toUInt32 &&& Int32.toUInt32 31)).toInt32) &&& 1431655765)).toUInt32 >>> ((2 : Int32).toUInt32 &&& Int32.toUInt32 31)).toInt32) &&& 858993459)) + (((((a0 - (((a0.toUInt32 >>> ((1 : Int32).toUInt32 &&& Int32.toUInt32 31)).toInt32) &&& 1431655765)) &&& 858993459) + ((((a0 - (((a0.toUInt32 >>> ((1 : Int32).toUInt32 &&& Int32.toUInt32 31)).toInt32) &&& 1431655765)).toUInt32 >>> ((2 : Int32).toUInt32 &&& Int32.toUInt32 31)).toInt32) &&& 858993459)).toUInt32 >>> ((4 : Int32).toUInt32 &&& Int32.toUInt32 31)).toInt32)) &&& 252645135) + (((((((a0 - (((a0.toUInt32 >>> ((1 : Int32).toUInt32 &&& Int32.toUInt32 31)).toInt32) &&& 1431655765)) &&& 858993459) + ((((a0 - (((a0.toUInt32 >>> ((1 : Int32).toUInt32 &&& Int32.toUInt32 31)).toInt32) &&& 1431655765)).toUInt32 >>> ((2 : Int32).toUInt32 &&& Int32.toUInt32 31)).toInt32) &&& 858993459)) + (((((a0 - (((a0.toUInt32 >>> ((1 : Int32).toUInt32 &&& Int32.toUInt32 31)).toInt32) &&& 1431655765)) &&& 858993459) + ((((a0 - (((a0.toUInt32 >>> ((1 : Int32).toUInt32 &&& Int32.toUInt32 31)).toInt32) &&& 1431655765)).toUInt32 >>> ((2 : Int32).toUInt32 &&& Int32.toUInt32 31)).toInt32) &&& 858993459)).toUInt32 >>> ((4 : Int32).toUInt32 &&& Int32.toUInt32 31)).toInt32)) &&& 252645135).toUInt32 >>> ((8 : Int32).toUInt32 &&& Int32.toUInt32 31)).toInt32)).toUInt32 >>> ((16 : Int32).toUInt32 &&& Int32.toUInt32 31)).toInt32)) &&& 63) σ :=
  evAt_un [] 44 cd_64 [.int a0] [] σ
set_option maxRecDepth 20000 in
theorem f_N_roll_eq (d : Nat) (a1 : Int32) (σ : Sg) : f_N_roll (d + 1) a1 σ =
gfI 6 (σ.2.2 4 1) 0 σ fun v1 =>
if v1 = 0 then (
rI ((-1)) σ)
else (
cI (f_Tape_has d a1 240 σ) fun v3 σ2 =>
if v3 = 0 then (
rI ((-1)) σ2)
else (
cV (f_Tape_take d 0 a1 σ2) fun σ4 =>
gfI 6 (σ4.2.2 4 1) 0 σ4 fun v5 =>
gdK 4 (σ4.2.2 4 4) (
cI (f_Roll_read d (σ4.2.2 4 4) v5 σ4) fun v7 σ6 =>
if v7 = 0 then (
let σ8 := sR σ6 4 3 (σ6.2.2 4 4);
let σ9 := sR σ8 4 4 (σ6.2.2 4 3);
cV (f_Houses_settle d (σ9.2.2 4 1) (σ9.2.2 4 3) σ9) fun σ10 =>
gfI 4 (σ10.2.2 4 3) 0 σ10 fun v11 =>
rI v11 σ10)
else (
rI v7 σ6)))) :=
  evAt_un [] 49 cd_65 [.ref 4, .int a1, .null, .null] [] σ
theorem f_Roll_read_eq (d : Nat) (a0 : Nat) (a2 : Int32) (σ : Sg) : f_Roll_read (d + 1) a0 a2 σ =
pfI 4 a0 0 0 σ fun σ1 =>
f_Roll_read_7 d a0 a2 0 .null σ1 :=
  evAt_un [7] 7 cd_66 [.ref a0, .ref 5, .int a2, .null, .null] [] σ
theorem f_Roll_read_7_eq (d : Nat) (x0 : Nat) (x2 : Int32) (x3 : Int32) (x4 : Value) (σ : Sg) : f_Roll_read_7 d x0 x2 x3 x4 σ =
if 24 < x3 then (
gdK 4 x0 (
cV (f_Roll_relateAll d x0 σ) fun σ1 =>
cI (f_Tape_end d σ1) fun v3 σ2 =>
rI v3 σ2))
else (
gdK 4 x0 (
cI (f_Roll_readPerson d x0 x2 σ) fun v5 σ4 =>
if v5 = 0 then (
gfI 4 x0 0 σ4 fun v6 =>
pfI 4 x0 0 (v6 + 1) σ4 fun σ7 =>
cI (f_Tape_now d σ7) fun v9 σ8 =>
if v9 = 59 then (
let σ10 := sI σ8 5 4 ((σ8.1 5 4) + 1);
f_Roll_read_7 d x0 x2 (x3 + 1) (.int v5) σ10)
else (
gdK 4 x0 (
cV (f_Roll_relateAll d x0 σ8) fun σ11 =>
cI (f_Tape_end d σ11) fun v13 σ12 =>
rI v13 σ12)))
else (
rI v5 σ4))) :=
  evAt_un [7] 30 (jmp cd_66 7) [.ref x0, .ref 5, .int x2, .int x3, x4] [] σ
set_option maxRecDepth 20000 in
theorem f_Roll_readPerson_eq (d : Nat) (a0 : Nat) (a2 : Int32) (σ : Sg) : f_Roll_readPerson (d + 1) a0 a2 σ =
cI (f_Tape_now d σ) fun v2 σ1 =>
if v2 = 77 then (
gfI 4 a0 0 σ1 fun v3 =>
if v3 = 24 then (
cI (f_Tape_fault d 4 σ1) fun v5 σ4 =>
rI v5 σ4)
else (
gfS 4 a0 1 fun v6 =>
gfI 4 a0 0 σ1 fun v7 =>
if v2 = 77 then (
stI v6 v7 0 σ1 fun σ8 =>
gfS 4 a0 3 fun v9 =>
gfI 4 a0 0 σ8 fun v10 =>
stI v9 v10 ((-1)) σ8 fun σ11 =>
gfS 4 a0 4 fun v12 =>
gfI 4 a0 0 σ11 fun v13 =>
stI v12 v13 ((-1)) σ11 fun σ14 =>
gfS 4 a0 5 fun v15 =>
gfI 4 a0 0 σ14 fun v16 =>
stI v15 v16 ((-1)) σ14 fun σ17 =>
let σ18 := sI σ17 5 4 ((σ17.1 5 4) + 1);
gfS 4 a0 2 fun v19 =>
gfI 4 a0 0 σ18 fun v20 =>
cI (f_Tape_now d σ18) fun v22 σ21 =>
cI (f_N_nameOf d v22 σ21) fun v24 σ23 =>
stI v19 v20 v24 σ23 fun σ25 =>
gfS 4 a0 2 fun v26 =>
gfI 4 a0 0 σ25 fun v27 =>
ldI v26 v27 σ25 fun v28 =>
if v28 < a2 then (
gfS 4 a0 2 fun v29 =>
gfI 4 a0 0 σ25 fun v30 =>
ldI v29 v30 σ25 fun v31 =>
if v31 < 0 then (
gdK 4 a0 (
cI (f_Roll_readParents d a0 σ25) fun v33 σ32 =>
if v33 = 0 then (
gdK 4 a0 (
cI (f_Roll_readSpouse d a0 σ32) fun v35 σ34 =>
rI v35 σ34))
else (
rI v33 σ32)))
else (
let σ36 := sI σ25 5 4 ((σ25.1 5 4) + 1);
gdK 4 a0 (
cI (f_Roll_readParents d a0 σ36) fun v38 σ37 =>
if v38 = 0 then (
gdK 4 a0 (
cI (f_Roll_readSpouse d a0 σ37) fun v40 σ39 =>
rI v40 σ39))
else (
rI v38 σ37))))
else (
cI (f_Tape_fault d 6 σ25) fun v42 σ41 =>
rI v42 σ41))
else (
stI v6 v7 1 σ1 fun σ43 =>
gfS 4 a0 3 fun v44 =>
gfI 4 a0 0 σ43 fun v45 =>
stI v44 v45 ((-1)) σ43 fun σ46 =>
gfS 4 a0 4 fun v47 =>
gfI 4 a0 0 σ46 fun v48 =>
stI v47 v48 ((-1)) σ46 fun σ49 =>
gfS 4 a0 5 fun v50 =>
gfI 4 a0 0 σ49 fun v51 =>
stI v50 v51 ((-1)) σ49 fun σ52 =>
let σ53 := sI σ52 5 4 ((σ52.1 5 4) + 1);
gfS 4 a0 2 fun v54 =>
gfI 4 a0 0 σ53 fun v55 =>
cI (f_Tape_now d σ53) fun v57 σ56 =>
cI (f_N_nameOf d v57 σ56) fun v59 σ58 =>
stI v54 v55 v59 σ58 fun σ60 =>
gfS 4 a0 2 fun v61 =>
gfI 4 a0 0 σ60 fun v62 =>
ldI v61 v62 σ60 fun v63 =>
if v63 < a2 then (
gfS 4 a0 2 fun v64 =>
gfI 4 a0 0 σ60 fun v65 =>
ldI v64 v65 σ60 fun v66 =>
if v66 < 0 then (
gdK 4 a0 (
cI (f_Roll_readParents d a0 σ60) fun v68 σ67 =>
if v68 = 0 then (
gdK 4 a0 (
cI (f_Roll_readSpouse d a0 σ67) fun v70 σ69 =>
rI v70 σ69))
else (
rI v68 σ67)))
else (
let σ71 := sI σ60 5 4 ((σ60.1 5 4) + 1);
gdK 4 a0 (
cI (f_Roll_readParents d a0 σ71) fun v73 σ72 =>
if v73 = 0 then (
gdK 4 a0 (
cI (f_Roll_readSpouse d a0 σ72) fun v75 σ74 =>
rI v75 σ74))
else (
rI v73 σ72))))
else (
cI (f_Tape_fault d 6 σ60) fun v77 σ76 =>
rI v77 σ76))))
else (
if v2 = 70 then (
gfI 4 a0 0 σ1 fun v78 =>
if v78 = 24 then (
cI (f_Tape_fault d 4 σ1) fun v80 σ79 =>
rI v80 σ79)
else (
gfS 4 a0 1 fun v81 =>
gfI 4 a0 0 σ1 fun v82 =>
if v2 = 77 then (
stI v81 v82 0 σ1 fun σ83 =>
gfS 4 a0 3 fun v84 =>
gfI 4 a0 0 σ83 fun v85 =>
stI v84 v85 ((-1)) σ83 fun σ86 =>
gfS 4 a0 4 fun v87 =>
gfI 4 a0 0 σ86 fun v88 =>
stI v87 v88 ((-1)) σ86 fun σ89 =>
gfS 4 a0 5 fun v90 =>
gfI 4 a0 0 σ89 fun v91 =>
stI v90 v91 ((-1)) σ89 fun σ92 =>
let σ93 := sI σ92 5 4 ((σ92.1 5 4) + 1);
gfS 4 a0 2 fun v94 =>
gfI 4 a0 0 σ93 fun v95 =>
cI (f_Tape_now d σ93) fun v97 σ96 =>
cI (f_N_nameOf d v97 σ96) fun v99 σ98 =>
stI v94 v95 v99 σ98 fun σ100 =>
gfS 4 a0 2 fun v101 =>
gfI 4 a0 0 σ100 fun v102 =>
ldI v101 v102 σ100 fun v103 =>
if v103 < a2 then (
gfS 4 a0 2 fun v104 =>
gfI 4 a0 0 σ100 fun v105 =>
ldI v104 v105 σ100 fun v106 =>
if v106 < 0 then (
gdK 4 a0 (
cI (f_Roll_readParents d a0 σ100) fun v108 σ107 =>
if v108 = 0 then (
gdK 4 a0 (
cI (f_Roll_readSpouse d a0 σ107) fun v110 σ109 =>
rI v110 σ109))
else (
rI v108 σ107)))
else (
let σ111 := sI σ100 5 4 ((σ100.1 5 4) + 1);
gdK 4 a0 (
cI (f_Roll_readParents d a0 σ111) fun v113 σ112 =>
if v113 = 0 then (
gdK 4 a0 (
cI (f_Roll_readSpouse d a0 σ112) fun v115 σ114 =>
rI v115 σ114))
else (
rI v113 σ112))))
else (
cI (f_Tape_fault d 6 σ100) fun v117 σ116 =>
rI v117 σ116))
else (
stI v81 v82 1 σ1 fun σ118 =>
gfS 4 a0 3 fun v119 =>
gfI 4 a0 0 σ118 fun v120 =>
stI v119 v120 ((-1)) σ118 fun σ121 =>
gfS 4 a0 4 fun v122 =>
gfI 4 a0 0 σ121 fun v123 =>
stI v122 v123 ((-1)) σ121 fun σ124 =>
gfS 4 a0 5 fun v125 =>
gfI 4 a0 0 σ124 fun v126 =>
stI v125 v126 ((-1)) σ124 fun σ127 =>
let σ128 := sI σ127 5 4 ((σ127.1 5 4) + 1);
gfS 4 a0 2 fun v129 =>
gfI 4 a0 0 σ128 fun v130 =>
cI (f_Tape_now d σ128) fun v132 σ131 =>
cI (f_N_nameOf d v132 σ131) fun v134 σ133 =>
stI v129 v130 v134 σ133 fun σ135 =>
gfS 4 a0 2 fun v136 =>
gfI 4 a0 0 σ135 fun v137 =>
ldI v136 v137 σ135 fun v138 =>
if v138 < a2 then (
gfS 4 a0 2 fun v139 =>
gfI 4 a0 0 σ135 fun v140 =>
ldI v139 v140 σ135 fun v141 =>
if v141 < 0 then (
gdK 4 a0 (
cI (f_Roll_readParents d a0 σ135) fun v143 σ142 =>
if v143 = 0 then (
gdK 4 a0 (
cI (f_Roll_readSpouse d a0 σ142) fun v145 σ144 =>
rI v145 σ144))
else (
rI v143 σ142)))
else (
let σ146 := sI σ135 5 4 ((σ135.1 5 4) + 1);
gdK 4 a0 (
cI (f_Roll_readParents d a0 σ146) fun v148 σ147 =>
if v148 = 0 then (
gdK 4 a0 (
cI (f_Roll_readSpouse d a0 σ147) fun v150 σ149 =>
rI v150 σ149))
else (
rI v148 σ147))))
else (
cI (f_Tape_fault d 6 σ135) fun v152 σ151 =>
rI v152 σ151))))
else (
cI (f_Tape_fault d 1 σ1) fun v154 σ153 =>
rI v154 σ153)) :=
  evAt_un [] 86 cd_67 [.ref a0, .ref 5, .int a2, .null, .null] [] σ
set_option maxRecDepth 20000 in
theorem f_Roll_readParents_eq (d : Nat) (a0 : Nat) (σ : Sg) : f_Roll_readParents (d + 1) a0 σ =
cI (f_Tape_now d σ) fun v2 σ1 =>
if v2 = 60 then (
let σ3 := sI σ1 5 4 ((σ1.1 5 4) + 1);
gdK 4 a0 (
cI (f_Roll_readParent d a0 0 σ3) fun v5 σ4 =>
if v5 = 0 then (
gfS 4 a0 3 fun v6 =>
gfI 4 a0 0 σ4 fun v7 =>
gfI 4 a0 10 σ4 fun v8 =>
stI v6 v7 v8 σ4 fun σ9 =>
cI (f_Tape_sign d 44 σ9) fun v11 σ10 =>
if v11 = 0 then (
gdK 4 a0 (
cI (f_Roll_readParent d a0 1 σ10) fun v13 σ12 =>
gfS 4 a0 4 fun v14 =>
gfI 4 a0 0 σ12 fun v15 =>
gfI 4 a0 10 σ12 fun v16 =>
stI v14 v15 v16 σ12 fun σ17 =>
rI v13 σ17))
else (
rI v11 σ10))
else (
rI v5 σ4)))
else (
rI 0 σ1) :=
  evAt_un [] 46 cd_68 [.ref a0, .ref 5, .null] [] σ
theorem f_Roll_readParent_eq (d : Nat) (a0 : Nat) (a2 : Int32) (σ : Sg) : f_Roll_readParent (d + 1) a0 a2 σ =
pfI 4 a0 10 ((-1)) σ fun σ1 =>
cI (f_Tape_now d σ1) fun v3 σ2 =>
if v3 = 45 then (
let σ4 := sI σ2 5 4 ((σ2.1 5 4) + 1);
rI 0 σ4)
else (
gdK 4 a0 (
cI (f_Roll_readNumber d a0 σ2) fun v6 σ5 =>
if v6 = 0 then (
gfS 4 a0 1 fun v7 =>
gfI 4 a0 10 σ5 fun v8 =>
ldI v7 v8 σ5 fun v9 =>
if v9 = a2 then (
rI 0 σ5)
else (
cI (f_N_fault d 7 (σ2.1 5 4) σ5) fun v11 σ10 =>
rI v11 σ10))
else (
rI v6 σ5))) :=
  evAt_un [] 29 cd_69 [.ref a0, .ref 5, .int a2, .null, .null] [] σ
theorem f_Roll_readNumber_eq (d : Nat) (a0 : Nat) (σ : Sg) : f_Roll_readNumber (d + 1) a0 σ =
pfI 4 a0 10 0 σ fun σ1 =>
f_Roll_readNumber_12 d a0 (σ.1 5 4) 0 σ1 :=
  evAt_un [12] 10 cd_70 [.ref a0, .ref 5, .null, .null] [] σ
theorem f_Roll_readNumber_12_eq (d : Nat) (x0 : Nat) (x2 : Int32) (x3 : Int32) (σ : Sg) : f_Roll_readNumber_12 d x0 x2 x3 σ =
if x3 < 3 then (
cI (f_Tape_now d σ) fun v2 σ1 =>
cI (f_N_isDigit d v2 σ1) fun v4 σ3 =>
if v4 = 0 then (
if (σ3.1 5 4) = x2 then (
cI (f_Tape_fault d 1 σ3) fun v6 σ5 =>
rI v6 σ5)
else (
gfI 4 x0 10 σ3 fun v7 =>
gfI 4 x0 0 σ3 fun v8 =>
if v7 < v8 then (
rI 0 σ3)
else (
cI (f_N_fault d 3 x2 σ3) fun v10 σ9 =>
rI v10 σ9)))
else (
if x3 = 2 then (
cI (f_Tape_fault d 2 σ3) fun v12 σ11 =>
rI v12 σ11)
else (
gfI 4 x0 10 σ3 fun v13 =>
cI (f_Tape_now d σ3) fun v15 σ14 =>
pfI 4 x0 10 (((10 * v13) + v15) - 48) σ14 fun σ16 =>
let σ17 := sI σ16 5 4 ((σ16.1 5 4) + 1);
f_Roll_readNumber_12 d x0 x2 (x3 + 1) σ17)))
else (
if (σ.1 5 4) = x2 then (
cI (f_Tape_fault d 1 σ) fun v19 σ18 =>
rI v19 σ18)
else (
gfI 4 x0 10 σ fun v20 =>
gfI 4 x0 0 σ fun v21 =>
if v20 < v21 then (
rI 0 σ)
else (
cI (f_N_fault d 3 x2 σ) fun v23 σ22 =>
rI v23 σ22))) :=
  evAt_un [12] 31 (jmp cd_70 12) [.ref x0, .ref 5, .int x2, .int x3] [] σ
set_option maxRecDepth 20000 in
theorem f_Roll_readSpouse_eq (d : Nat) (a0 : Nat) (σ : Sg) : f_Roll_readSpouse (d + 1) a0 σ =
cI (f_Tape_now d σ) fun v2 σ1 =>
if v2 = 38 then (
let σ3 := sI σ1 5 4 ((σ1.1 5 4) + 1);
gdK 4 a0 (
cI (f_Roll_readNumber d a0 σ3) fun v5 σ4 =>
if v5 = 0 then (
gfS 4 a0 1 fun v6 =>
gfI 4 a0 10 σ4 fun v7 =>
ldI v6 v7 σ4 fun v8 =>
gfS 4 a0 1 fun v9 =>
gfI 4 a0 0 σ4 fun v10 =>
ldI v9 v10 σ4 fun v11 =>
if v8 = v11 then (
cI (f_N_fault d 8 (σ3.1 5 4) σ4) fun v13 σ12 =>
rI v13 σ12)
else (
gfS 4 a0 5 fun v14 =>
gfI 4 a0 10 σ4 fun v15 =>
ldI v14 v15 σ4 fun v16 =>
if v16 = ((-1 : Int32)) then (
gfS 4 a0 5 fun v17 =>
gfI 4 a0 0 σ4 fun v18 =>
gfI 4 a0 10 σ4 fun v19 =>
stI v17 v18 v19 σ4 fun σ20 =>
gfS 4 a0 5 fun v21 =>
gfI 4 a0 10 σ20 fun v22 =>
gfI 4 a0 0 σ20 fun v23 =>
stI v21 v22 v23 σ20 fun σ24 =>
rI 0 σ24)
else (
cI (f_N_fault d 8 (σ3.1 5 4) σ4) fun v26 σ25 =>
rI v26 σ25)))
else (
rI v5 σ4)))
else (
rI 0 σ1) :=
  evAt_un [] 55 cd_71 [.ref a0, .ref 5, .null, .null] [] σ
theorem f_Roll_relateAll_eq (d : Nat) (a0 : Nat) (σ : Sg) : f_Roll_relateAll (d + 1) a0 σ =
pfI 4 a0 8 0 σ fun σ1 =>
pfI 4 a0 9 0 σ1 fun σ2 =>
f_Roll_relateAll_12 d a0 0 .null σ2 :=
  evAt_un [12, 89] 10 cd_72 [.ref a0, .null, .null] [] σ
set_option maxRecDepth 20000 in
theorem f_Roll_relateAll_12_eq (d : Nat) (x0 : Nat) (x1 : Int32) (x2 : Value) (σ : Sg) : f_Roll_relateAll_12 d x0 x1 x2 σ =
gfI 4 x0 0 σ fun v1 =>
if x1 < v1 then (
gfI 4 x0 8 σ fun v2 =>
gfS 4 x0 1 fun v3 =>
ldI v3 x1 σ fun v4 =>
if v4 = 0 then (
pfI 4 x0 8 (v2 ||| (1 <<< (x1 &&& 31))) σ fun σ5 =>
gfI 4 x0 9 σ5 fun v6 =>
gfS 4 x0 5 fun v7 =>
ldI v7 x1 σ5 fun v8 =>
cI (f_Roll_bit d v8 σ5) fun v10 σ9 =>
if v10 = 0 then (
pfI 4 x0 9 (v6 ||| 0) σ9 fun σ11 =>
gfS 4 x0 6 fun v12 =>
stI v12 x1 0 σ11 fun σ13 =>
gfS 4 x0 7 fun v14 =>
stI v14 x1 0 σ13 fun σ15 =>
f_Roll_relateAll_89 d x0 x1 0 σ15)
else (
pfI 4 x0 9 (v6 ||| (1 <<< (x1 &&& 31))) σ9 fun σ16 =>
gfS 4 x0 6 fun v17 =>
stI v17 x1 0 σ16 fun σ18 =>
gfS 4 x0 7 fun v19 =>
stI v19 x1 0 σ18 fun σ20 =>
f_Roll_relateAll_89 d x0 x1 0 σ20))
else (
pfI 4 x0 8 (v2 ||| 0) σ fun σ21 =>
gfI 4 x0 9 σ21 fun v22 =>
gfS 4 x0 5 fun v23 =>
ldI v23 x1 σ21 fun v24 =>
cI (f_Roll_bit d v24 σ21) fun v26 σ25 =>
if v26 = 0 then (
pfI 4 x0 9 (v22 ||| 0) σ25 fun σ27 =>
gfS 4 x0 6 fun v28 =>
stI v28 x1 0 σ27 fun σ29 =>
gfS 4 x0 7 fun v30 =>
stI v30 x1 0 σ29 fun σ31 =>
f_Roll_relateAll_89 d x0 x1 0 σ31)
else (
pfI 4 x0 9 (v22 ||| (1 <<< (x1 &&& 31))) σ25 fun σ32 =>
gfS 4 x0 6 fun v33 =>
stI v33 x1 0 σ32 fun σ34 =>
gfS 4 x0 7 fun v35 =>
stI v35 x1 0 σ34 fun σ36 =>
f_Roll_relateAll_89 d x0 x1 0 σ36)))
else (
rV σ) :=
  evAt_un [12, 89] 46 (jmp cd_72 12) [.ref x0, .int x1, x2] [] σ
set_option maxRecDepth 20000 in
theorem f_Roll_relateAll_89_eq (d : Nat) (x0 : Nat) (x1 : Int32) (x2 : Int32) (σ : Sg) : f_Roll_relateAll_89 d x0 x1 x2 σ =
gfI 4 x0 0 σ fun v1 =>
if x2 < v1 then (
gfS 4 x0 3 fun v2 =>
ldI v2 x2 σ fun v3 =>
if v3 = x1 then (
gfS 4 x0 6 fun v4 =>
ldI v4 x1 σ fun v5 =>
stI v4 x1 (v5 ||| (1 <<< (x2 &&& 31))) σ fun σ6 =>
if x2 = x1 then (
f_Roll_relateAll_89 d x0 x1 (x2 + 1) σ6)
else (
gfS 4 x0 3 fun v7 =>
ldI v7 x1 σ6 fun v8 =>
gfS 4 x0 3 fun v9 =>
ldI v9 x2 σ6 fun v10 =>
cI (f_Roll_isSame d v8 v10 σ6) fun v12 σ11 =>
if v12 = 0 then (
gfS 4 x0 4 fun v13 =>
ldI v13 x1 σ11 fun v14 =>
gfS 4 x0 4 fun v15 =>
ldI v15 x2 σ11 fun v16 =>
cI (f_Roll_isSame d v14 v16 σ11) fun v18 σ17 =>
if v18 = 0 then (
f_Roll_relateAll_89 d x0 x1 (x2 + 1) σ17)
else (
gfS 4 x0 7 fun v19 =>
ldI v19 x1 σ17 fun v20 =>
stI v19 x1 (v20 ||| (1 <<< (x2 &&& 31))) σ17 fun σ21 =>
f_Roll_relateAll_89 d x0 x1 (x2 + 1) σ21))
else (
gfS 4 x0 7 fun v22 =>
ldI v22 x1 σ11 fun v23 =>
stI v22 x1 (v23 ||| (1 <<< (x2 &&& 31))) σ11 fun σ24 =>
f_Roll_relateAll_89 d x0 x1 (x2 + 1) σ24)))
else (
gfS 4 x0 4 fun v25 =>
ldI v25 x2 σ fun v26 =>
if v26 = x1 then (
gfS 4 x0 6 fun v27 =>
ldI v27 x1 σ fun v28 =>
stI v27 x1 (v28 ||| (1 <<< (x2 &&& 31))) σ fun σ29 =>
if x2 = x1 then (
f_Roll_relateAll_89 d x0 x1 (x2 + 1) σ29)
else (
gfS 4 x0 3 fun v30 =>
ldI v30 x1 σ29 fun v31 =>
gfS 4 x0 3 fun v32 =>
ldI v32 x2 σ29 fun v33 =>
cI (f_Roll_isSame d v31 v33 σ29) fun v35 σ34 =>
if v35 = 0 then (
gfS 4 x0 4 fun v36 =>
ldI v36 x1 σ34 fun v37 =>
gfS 4 x0 4 fun v38 =>
ldI v38 x2 σ34 fun v39 =>
cI (f_Roll_isSame d v37 v39 σ34) fun v41 σ40 =>
if v41 = 0 then (
f_Roll_relateAll_89 d x0 x1 (x2 + 1) σ40)
else (
gfS 4 x0 7 fun v42 =>
ldI v42 x1 σ40 fun v43 =>
stI v42 x1 (v43 ||| (1 <<< (x2 &&& 31))) σ40 fun σ44 =>
f_Roll_relateAll_89 d x0 x1 (x2 + 1) σ44))
else (
gfS 4 x0 7 fun v45 =>
ldI v45 x1 σ34 fun v46 =>
stI v45 x1 (v46 ||| (1 <<< (x2 &&& 31))) σ34 fun σ47 =>
f_Roll_relateAll_89 d x0 x1 (x2 + 1) σ47)))
else (
if x2 = x1 then (
f_Roll_relateAll_89 d x0 x1 (x2 + 1) σ)
else (
gfS 4 x0 3 fun v48 =>
ldI v48 x1 σ fun v49 =>
gfS 4 x0 3 fun v50 =>
ldI v50 x2 σ fun v51 =>
cI (f_Roll_isSame d v49 v51 σ) fun v53 σ52 =>
if v53 = 0 then (
gfS 4 x0 4 fun v54 =>
ldI v54 x1 σ52 fun v55 =>
gfS 4 x0 4 fun v56 =>
ldI v56 x2 σ52 fun v57 =>
cI (f_Roll_isSame d v55 v57 σ52) fun v59 σ58 =>
if v59 = 0 then (
f_Roll_relateAll_89 d x0 x1 (x2 + 1) σ58)
else (
gfS 4 x0 7 fun v60 =>
ldI v60 x1 σ58 fun v61 =>
stI v60 x1 (v61 ||| (1 <<< (x2 &&& 31))) σ58 fun σ62 =>
f_Roll_relateAll_89 d x0 x1 (x2 + 1) σ62))
else (
gfS 4 x0 7 fun v63 =>
ldI v63 x1 σ52 fun v64 =>
stI v63 x1 (v64 ||| (1 <<< (x2 &&& 31))) σ52 fun σ65 =>
f_Roll_relateAll_89 d x0 x1 (x2 + 1) σ65)))))
else (
f_Roll_relateAll_12 d x0 (x1 + 1) (.int x2) σ) :=
  evAt_un [12, 89] 63 (jmp cd_72 89) [.ref x0, .int x1, .int x2] [] σ
theorem f_Roll_bit_eq (d : Nat) (a0 : Int32) (σ : Sg) : f_Roll_bit (d + 1) a0 σ =
if a0 < 0 then (
rI 0 σ)
else (
rI (1 <<< (a0 &&& 31)) σ) :=
  evAt_un [] 8 cd_73 [.int a0] [] σ
theorem f_Roll_isSame_eq (d : Nat) (a0 : Int32) (a1 : Int32) (σ : Sg) : f_Roll_isSame (d + 1) a0 a1 σ =
if a0 = ((-1 : Int32)) then (
rZ 0 σ)
else (
if a0 = a1 then (
rZ 1 σ)
else (
rZ 0 σ)) :=
  evAt_un [] 11 cd_74 [.int a0, .int a1] [] σ
set_option maxRecDepth 20000 in
theorem f_N_kin_eq (d : Nat) (a1 : Int32) (a2 : Int32) (a3 : Int32) (σ : Sg) : f_N_kin (d + 1) a1 a2 a3 σ =
cI (f_N_isName d a3 σ) fun v2 σ1 =>
if v2 = 0 then (
if a3 < 100 then (
gfI 6 (σ1.2.2 4 1) 0 σ1 fun v3 =>
if v3 = 0 then (
rI ((-1)) σ1)
else (
if (0 : Int32) = 0 then (
rI ((-1)) σ1)
else (
cI (f_N_isSort d a2 σ1) fun v5 σ4 =>
if v5 = 0 then (
rI ((-1)) σ4)
else (
cI (f_Tape_has d a1 40 σ4) fun v7 σ6 =>
if v7 = 0 then (
rI ((-1)) σ6)
else (
cV (f_Tape_take d 0 a1 σ6) fun σ8 =>
cI (f_Word_read d 49 a2 σ8) fun v10 σ9 =>
if v10 = 0 then (
if a3 = 100 then (
cI (f_Word_sortAtEnd d 49 σ9) fun v12 σ11 =>
rI v12 σ11)
else if a3 = 101 then (
cI (f_Word_unchanged d 49 (σ9.2.2 4 1) a2 σ9) fun v14 σ13 =>
rI v14 σ13)
else if a3 = 102 then (
cI (f_Word_rounds d 49 (σ9.2.2 4 1) a2 σ9) fun v16 σ15 =>
rI v16 σ15)
else if a3 = 103 then (
cI (f_Word_lawfulFrom d 49 (σ9.2.2 4 1) a2 σ9) fun v18 σ17 =>
rI v18 σ17)
else if a3 = 104 then (
rI (σ9.1 49 0) σ9)
else (
cI (f_Word_lead d 49 (σ9.2.2 4 1) a3 a2 σ9) fun v20 σ19 =>
rI v20 σ19))
else (
rI v10 σ9))))))
else (
if 104 < a3 then (
gfI 6 (σ1.2.2 4 1) 0 σ1 fun v21 =>
if v21 = 0 then (
rI ((-1)) σ1)
else (
if (0 : Int32) = 0 then (
rI ((-1)) σ1)
else (
cI (f_N_isSort d a2 σ1) fun v23 σ22 =>
if v23 = 0 then (
rI ((-1)) σ22)
else (
cI (f_Tape_has d a1 40 σ22) fun v25 σ24 =>
if v25 = 0 then (
rI ((-1)) σ24)
else (
cV (f_Tape_take d 0 a1 σ24) fun σ26 =>
cI (f_Word_read d 49 a2 σ26) fun v28 σ27 =>
if v28 = 0 then (
if a3 = 100 then (
cI (f_Word_sortAtEnd d 49 σ27) fun v30 σ29 =>
rI v30 σ29)
else if a3 = 101 then (
cI (f_Word_unchanged d 49 (σ27.2.2 4 1) a2 σ27) fun v32 σ31 =>
rI v32 σ31)
else if a3 = 102 then (
cI (f_Word_rounds d 49 (σ27.2.2 4 1) a2 σ27) fun v34 σ33 =>
rI v34 σ33)
else if a3 = 103 then (
cI (f_Word_lawfulFrom d 49 (σ27.2.2 4 1) a2 σ27) fun v36 σ35 =>
rI v36 σ35)
else if a3 = 104 then (
rI (σ27.1 49 0) σ27)
else (
cI (f_Word_lead d 49 (σ27.2.2 4 1) a3 a2 σ27) fun v38 σ37 =>
rI v38 σ37))
else (
rI v28 σ27))))))
else (
gfI 6 (σ1.2.2 4 1) 0 σ1 fun v39 =>
if v39 = 0 then (
rI ((-1)) σ1)
else (
if (1 : Int32) = 0 then (
rI ((-1)) σ1)
else (
cI (f_N_isSort d a2 σ1) fun v41 σ40 =>
if v41 = 0 then (
rI ((-1)) σ40)
else (
cI (f_Tape_has d a1 40 σ40) fun v43 σ42 =>
if v43 = 0 then (
rI ((-1)) σ42)
else (
cV (f_Tape_take d 0 a1 σ42) fun σ44 =>
cI (f_Word_read d 49 a2 σ44) fun v46 σ45 =>
if v46 = 0 then (
if a3 = 100 then (
cI (f_Word_sortAtEnd d 49 σ45) fun v48 σ47 =>
rI v48 σ47)
else if a3 = 101 then (
cI (f_Word_unchanged d 49 (σ45.2.2 4 1) a2 σ45) fun v50 σ49 =>
rI v50 σ49)
else if a3 = 102 then (
cI (f_Word_rounds d 49 (σ45.2.2 4 1) a2 σ45) fun v52 σ51 =>
rI v52 σ51)
else if a3 = 103 then (
cI (f_Word_lawfulFrom d 49 (σ45.2.2 4 1) a2 σ45) fun v54 σ53 =>
rI v54 σ53)
else if a3 = 104 then (
rI (σ45.1 49 0) σ45)
else (
cI (f_Word_lead d 49 (σ45.2.2 4 1) a3 a2 σ45) fun v56 σ55 =>
rI v56 σ55))
else (
rI v46 σ45))))))))
else (
gfI 6 (σ1.2.2 4 1) 0 σ1 fun v57 =>
if v57 = 0 then (
rI ((-1)) σ1)
else (
if (1 : Int32) = 0 then (
rI ((-1)) σ1)
else (
cI (f_N_isSort d a2 σ1) fun v59 σ58 =>
if v59 = 0 then (
rI ((-1)) σ58)
else (
cI (f_Tape_has d a1 40 σ58) fun v61 σ60 =>
if v61 = 0 then (
rI ((-1)) σ60)
else (
cV (f_Tape_take d 0 a1 σ60) fun σ62 =>
cI (f_Word_read d 49 a2 σ62) fun v64 σ63 =>
if v64 = 0 then (
if a3 = 100 then (
cI (f_Word_sortAtEnd d 49 σ63) fun v66 σ65 =>
rI v66 σ65)
else if a3 = 101 then (
cI (f_Word_unchanged d 49 (σ63.2.2 4 1) a2 σ63) fun v68 σ67 =>
rI v68 σ67)
else if a3 = 102 then (
cI (f_Word_rounds d 49 (σ63.2.2 4 1) a2 σ63) fun v70 σ69 =>
rI v70 σ69)
else if a3 = 103 then (
cI (f_Word_lawfulFrom d 49 (σ63.2.2 4 1) a2 σ63) fun v72 σ71 =>
rI v72 σ71)
else if a3 = 104 then (
rI (σ63.1 49 0) σ63)
else (
cI (f_Word_lead d 49 (σ63.2.2 4 1) a3 a2 σ63) fun v74 σ73 =>
rI v74 σ73))
else (
rI v64 σ63)))))) :=
  evAt_un [] 54 cd_75 [.ref 4, .int a1, .int a2, .int a3, .null, .null] [] σ
theorem f_N_isSort_eq (d : Nat) (a0 : Int32) (σ : Sg) : f_N_isSort (d + 1) a0 σ =
if a0 = 0 then (
rZ 1 σ)
else (
if a0 = 1 then (
rZ 1 σ)
else (
rZ 0 σ)) :=
  evAt_un [] 10 cd_76 [.int a0] [] σ
theorem f_Word_read_eq (d : Nat) (a0 : Nat) (a2 : Int32) (σ : Sg) : f_Word_read (d + 1) a0 a2 σ =
pfI 9 a0 0 0 σ fun σ1 =>
pfI 9 a0 3 0 σ1 fun σ2 =>
pfI 9 a0 7 0 σ2 fun σ3 =>
pfZ 9 a0 8 1 σ3 fun σ4 =>
f_Word_read_20 d a0 a2 .null σ4 :=
  evAt_un [20] 14 cd_77 [.ref a0, .ref 5, .int a2, .null] [] σ
theorem f_Word_read_20_eq (d : Nat) (x0 : Nat) (x2 : Int32) (x3 : Value) (σ : Sg) : f_Word_read_20 d x0 x2 x3 σ =
if (σ.1 5 4) < (σ.1 5 3) then (
gdK 9 x0 (
cI (f_Word_readByte d x0 σ) fun v2 σ1 =>
if v2 = 0 then (
let σ3 := sI σ1 5 4 ((σ1.1 5 4) + 1);
f_Word_read_20 d x0 x2 (.int v2) σ3)
else (
rI v2 σ1)))
else (
gfI 9 x0 7 σ fun v4 =>
if v4 = 0 then (
gfI 9 x0 8 σ fun v5 =>
if v5 = 0 then (
gfI 9 x0 3 σ fun v6 =>
if 0 < v6 then (
cI (f_Tape_fault d 1 σ) fun v8 σ7 =>
rI v8 σ7)
else (
gdK 9 x0 (
cI (f_Word_firstNoSpouse d x0 x2 σ) fun v10 σ9 =>
rI v10 σ9)))
else (
cI (f_Tape_fault d 1 σ) fun v12 σ11 =>
rI v12 σ11))
else (
cI (f_Tape_fault d 1 σ) fun v14 σ13 =>
rI v14 σ13)) :=
  evAt_un [20] 20 (jmp cd_77 20) [.ref x0, .ref 5, .int x2, x3] [] σ
theorem f_Word_readByte_eq (d : Nat) (a0 : Nat) (σ : Sg) : f_Word_readByte (d + 1) a0 σ =
cI (f_Tape_now d σ) fun v2 σ1 =>
if v2 = 40 then (
gdK 9 a0 (
cI (f_Word_openRound d a0 σ1) fun v4 σ3 =>
rI v4 σ3))
else (
if v2 = 41 then (
gdK 9 a0 (
cI (f_Word_closeRound d a0 σ1) fun v6 σ5 =>
rI v6 σ5))
else (
if v2 < 50 then (
cI (f_N_stepOf d v2 σ1) fun v8 σ7 =>
if v8 < 0 then (
cI (f_Tape_fault d 1 σ7) fun v10 σ9 =>
rI v10 σ9)
else (
gdK 9 a0 (
cI (f_Word_addStep d a0 v8 σ7) fun v12 σ11 =>
rI v12 σ11)))
else (
if 57 < v2 then (
cI (f_N_stepOf d v2 σ1) fun v14 σ13 =>
if v14 < 0 then (
cI (f_Tape_fault d 1 σ13) fun v16 σ15 =>
rI v16 σ15)
else (
gdK 9 a0 (
cI (f_Word_addStep d a0 v14 σ13) fun v18 σ17 =>
rI v18 σ17)))
else (
gfI 9 a0 7 σ1 fun v19 =>
if v19 = 0 then (
pfI 9 a0 7 (v2 - 48) σ1 fun σ20 =>
rI 0 σ20)
else (
cI (f_N_stepOf d v2 σ1) fun v22 σ21 =>
if v22 < 0 then (
cI (f_Tape_fault d 1 σ21) fun v24 σ23 =>
rI v24 σ23)
else (
gdK 9 a0 (
cI (f_Word_addStep d a0 v22 σ21) fun v26 σ25 =>
rI v26 σ25))))))) :=
  evAt_un [] 30 cd_78 [.ref a0, .ref 5, .null, .null] [] σ
set_option maxRecDepth 20000 in
theorem f_Word_openRound_eq (d : Nat) (a0 : Nat) (σ : Sg) : f_Word_openRound (d + 1) a0 σ =
gfI 9 a0 3 σ fun v1 =>
if v1 = 2 then (
cI (f_Tape_fault d 5 σ) fun v3 σ2 =>
rI v3 σ2)
else (
gfS 9 a0 4 fun v4 =>
gfI 9 a0 3 σ fun v5 =>
gdK 9 a0 (
cI (f_Word_startHere d a0 σ) fun v7 σ6 =>
stI v4 v5 v7 σ6 fun σ8 =>
gfS 9 a0 5 fun v9 =>
gfI 9 a0 3 σ8 fun v10 =>
gdK 9 a0 (
cI (f_Word_timesHere d a0 σ8) fun v12 σ11 =>
stI v9 v10 v12 σ11 fun σ13 =>
gfS 9 a0 6 fun v14 =>
gfI 9 a0 3 σ13 fun v15 =>
gfI 9 a0 0 σ13 fun v16 =>
stI v14 v15 v16 σ13 fun σ17 =>
gfI 9 a0 3 σ17 fun v18 =>
pfI 9 a0 3 (v18 + 1) σ17 fun σ19 =>
pfZ 9 a0 8 1 σ19 fun σ20 =>
rI 0 σ20))) :=
  evAt_un [] 39 cd_79 [.ref a0, .ref 5] [] σ
theorem f_Word_startHere_eq (d : Nat) (a0 : Nat) (σ : Sg) : f_Word_startHere (d + 1) a0 σ =
gfI 9 a0 7 σ fun v1 =>
if v1 = 0 then (
rI (σ.1 5 4) σ)
else (
rI ((σ.1 5 4) - 1) σ) :=
  evAt_un [] 10 cd_80 [.ref a0, .ref 5] [] σ
theorem f_Word_timesHere_eq (d : Nat) (a0 : Nat) (σ : Sg) : f_Word_timesHere (d + 1) a0 σ =
gfI 9 a0 7 σ fun v1 =>
pfI 9 a0 7 0 σ fun σ2 =>
rI (mxI v1 1) σ2 :=
  evAt_un [] 12 cd_81 [.ref a0, .null] [] σ
set_option maxRecDepth 20000 in
theorem f_Word_closeRound_eq (d : Nat) (a0 : Nat) (σ : Sg) : f_Word_closeRound (d + 1) a0 σ =
gfI 9 a0 3 σ fun v1 =>
if v1 = 0 then (
cI (f_Tape_fault d 1 σ) fun v3 σ2 =>
rI v3 σ2)
else (
gfI 9 a0 8 σ fun v4 =>
if v4 = 0 then (
gfI 9 a0 7 σ fun v5 =>
if v5 = 0 then (
gfI 9 a0 3 σ fun v6 =>
pfI 9 a0 3 (v6 - 1) σ fun σ7 =>
gfS 9 a0 6 fun v8 =>
gfI 9 a0 3 σ7 fun v9 =>
ldI v8 v9 σ7 fun v10 =>
gfI 9 a0 0 σ7 fun v11 =>
gfS 9 a0 5 fun v12 =>
gfI 9 a0 3 σ7 fun v13 =>
ldI v12 v13 σ7 fun v14 =>
if 24 < (v10 + ((v11 - v10) * v14)) then (
gfS 9 a0 4 fun v15 =>
gfI 9 a0 3 σ7 fun v16 =>
ldI v15 v16 σ7 fun v17 =>
cI (f_N_fault d 6 v17 σ7) fun v19 σ18 =>
rI v19 σ18)
else (
f_Word_closeRound_91 d a0 (.int v10) (v11 - v10) (v10 + ((v11 - v10) * v14)) σ7))
else (
cI (f_Tape_fault d 1 σ) fun v21 σ20 =>
rI v21 σ20))
else (
cI (f_Tape_fault d 1 σ) fun v23 σ22 =>
rI v23 σ22)) :=
  evAt_un [91] 49 cd_82 [.ref a0, .ref 5, .null, .null, .null] [] σ
theorem f_Word_closeRound_91_eq (d : Nat) (x0 : Nat) (x2 : Value) (x3 : Int32) (x4 : Int32) (σ : Sg) : f_Word_closeRound_91 d x0 x2 x3 x4 σ =
gfI 9 x0 0 σ fun v1 =>
if v1 < x4 then (
gfS 9 x0 1 fun v2 =>
gfI 9 x0 0 σ fun v3 =>
gfS 9 x0 1 fun v4 =>
gfI 9 x0 0 σ fun v5 =>
ldI v4 (v5 - x3) σ fun v6 =>
stI v2 v3 v6 σ fun σ7 =>
gfS 9 x0 2 fun v8 =>
gfI 9 x0 0 σ7 fun v9 =>
gfS 9 x0 2 fun v10 =>
gfI 9 x0 0 σ7 fun v11 =>
ldI v10 (v11 - x3) σ7 fun v12 =>
stI v8 v9 v12 σ7 fun σ13 =>
gfI 9 x0 0 σ13 fun v14 =>
pfI 9 x0 0 (v14 + 1) σ13 fun σ15 =>
f_Word_closeRound_91 d x0 (x2) x3 x4 σ15)
else (
rI 0 σ) :=
  evAt_un [91] 37 (jmp cd_82 91) [.ref x0, .ref 5, x2, .int x3, .int x4] [] σ
theorem f_N_stepOf_eq (d : Nat) (a0 : Int32) (σ : Sg) : f_N_stepOf (d + 1) a0 σ =
f_N_stepOf_2 d a0 0 σ :=
  evAt_un [2] 4 cd_83 [.int a0, .null] [] σ
theorem f_N_stepOf_2_eq (d : Nat) (x0 : Int32) (x1 : Int32) (σ : Sg) : f_N_stepOf_2 d x0 x1 σ =
if x1 < 8 then (
bnd x1 8 (
if (FC 1 (ix x1)) = x0 then (
rI x1 σ)
else (
f_N_stepOf_2 d x0 (x1 + 1) σ)))
else (
rI ((-1)) σ) :=
  evAt_un [2] 12 (jmp cd_83 2) [.int x0, .int x1] [] σ
theorem f_Word_addStep_eq (d : Nat) (a0 : Nat) (a1 : Int32) (σ : Sg) : f_Word_addStep (d + 1) a0 a1 σ =
gdK 9 a0 (
cI (f_Word_startHere d a0 σ) fun v2 σ1 =>
gdK 9 a0 (
cI (f_Word_timesHere d a0 σ1) fun v4 σ3 =>
gfI 9 a0 0 σ3 fun v5 =>
if 24 < (v5 + v4) then (
cI (f_N_fault d 6 v2 σ3) fun v7 σ6 =>
rI v7 σ6)
else (
f_Word_addStep_34 d a0 a1 (.int v2) v4 0 σ3))) :=
  evAt_un [34] 19 cd_84 [.ref a0, .int a1, .ref 5, .null, .null, .null] [] σ
theorem f_Word_addStep_34_eq (d : Nat) (x0 : Nat) (x1 : Int32) (x3 : Value) (x4 : Int32) (x5 : Int32) (σ : Sg) : f_Word_addStep_34 d x0 x1 x3 x4 x5 σ =
if x5 < x4 then (
gfS 9 x0 1 fun v1 =>
gfI 9 x0 0 σ fun v2 =>
stI v1 v2 x1 σ fun σ3 =>
gfS 9 x0 2 fun v4 =>
gfI 9 x0 0 σ3 fun v5 =>
pfI 9 x0 0 (v5 + 1) σ3 fun σ6 =>
stI v4 v5 (σ6.1 5 4) σ6 fun σ7 =>
f_Word_addStep_34 d x0 x1 (x3) x4 (x5 + 1) σ7)
else (
pfZ 9 x0 8 0 σ fun σ8 =>
rI 0 σ8) :=
  evAt_un [34] 25 (jmp cd_84 34) [.ref x0, .int x1, .ref 5, x3, .int x4, .int x5] [] σ
theorem f_Word_firstNoSpouse_eq (d : Nat) (a0 : Nat) (a1 : Int32) (σ : Sg) : f_Word_firstNoSpouse (d + 1) a0 a1 σ =
f_Word_firstNoSpouse_4 d a0 (.int a1) a1 0 σ :=
  evAt_un [4] 6 cd_85 [.ref a0, .int a1, .null, .null] [] σ
theorem f_Word_firstNoSpouse_4_eq (d : Nat) (x0 : Nat) (x1 : Value) (x2 : Int32) (x3 : Int32) (σ : Sg) : f_Word_firstNoSpouse_4 d x0 x1 x2 x3 σ =
gfI 9 x0 0 σ fun v1 =>
if x3 < v1 then (
gfS 9 x0 1 fun v2 =>
ldI v2 x3 σ fun v3 =>
cI (f_N_canStep d v3 x2 σ) fun v5 σ4 =>
if v5 = 0 then (
gfS 9 x0 2 fun v6 =>
ldI v6 x3 σ4 fun v7 =>
cI (f_N_fault d 7 v7 σ4) fun v9 σ8 =>
rI v9 σ8)
else (
gfS 9 x0 1 fun v10 =>
ldI v10 x3 σ4 fun v11 =>
cI (f_N_sortBehind d v11 σ4) fun v13 σ12 =>
f_Word_firstNoSpouse_4 d x0 (nlg x1) v13 (x3 + 1) σ12))
else (
rI 0 σ) :=
  evAt_un [4] 21 (jmp cd_85 4) [.ref x0, x1, .int x2, .int x3] [] σ
theorem f_N_canStep_eq (d : Nat) (a0 : Int32) (a1 : Int32) (σ : Sg) : f_N_canStep (d + 1) a0 a1 σ =
if a0 = 2 then (
if a1 = 0 then (
rZ 0 σ)
else (
if a0 = 3 then (
if a1 = 1 then (
rZ 0 σ)
else (
rZ 1 σ))
else (
rZ 1 σ)))
else (
if a0 = 3 then (
if a1 = 1 then (
rZ 0 σ)
else (
rZ 1 σ))
else (
rZ 1 σ)) :=
  evAt_un [] 16 cd_86 [.int a0, .int a1] [] σ
theorem f_N_sortBehind_eq (d : Nat) (a0 : Int32) (σ : Sg) : f_N_sortBehind (d + 1) a0 σ =
rI (a0 &&& 1) σ :=
  evAt_un [] 6 cd_87 [.int a0] [] σ
theorem f_Word_sortAtEnd_eq (d : Nat) (a0 : Nat) (σ : Sg) : f_Word_sortAtEnd (d + 1) a0 σ =
gfI 9 a0 0 σ fun v1 =>
if 0 < v1 then (
gfS 9 a0 1 fun v2 =>
gfI 9 a0 0 σ fun v3 =>
ldI v2 (v3 - 1) σ fun v4 =>
cI (f_N_sortBehind d v4 σ) fun v6 σ5 =>
rI v6 σ5)
else (
rI 0 σ) :=
  evAt_un [] 15 cd_88 [.ref a0] [] σ
theorem f_Word_unchanged_eq (d : Nat) (a0 : Nat) (a1 : Nat) (a2 : Int32) (σ : Sg) : f_Word_unchanged (d + 1) a0 a1 a2 σ =
f_Word_unchanged_5 d a0 a1 a2 0 0 σ :=
  evAt_un [5] 6 cd_89 [.ref a0, .ref a1, .int a2, .null, .null] [] σ
theorem f_Word_unchanged_5_eq (d : Nat) (x0 : Nat) (x1 : Nat) (x2 : Int32) (x3 : Int32) (x4 : Int32) (σ : Sg) : f_Word_unchanged_5 d x0 x1 x2 x3 x4 σ =
gfI 6 x1 0 σ fun v1 =>
if x4 < v1 then (
gdK 9 x0 (
cI (f_Word_lead d x0 x1 x4 x2 σ) fun v3 σ2 =>
if v3 = x4 then (
f_Word_unchanged_5 d x0 x1 x2 (x3 + 1) (x4 + 1) σ2)
else (
f_Word_unchanged_5 d x0 x1 x2 x3 (x4 + 1) σ2)))
else (
rI x3 σ) :=
  evAt_un [5] 16 (jmp cd_89 5) [.ref x0, .ref x1, .int x2, .int x3, .int x4] [] σ
theorem f_Word_lead_eq (d : Nat) (a0 : Nat) (a1 : Nat) (a2 : Int32) (a3 : Int32) (σ : Sg) : f_Word_lead (d + 1) a0 a1 a2 a3 σ =
f_Word_lead_9 d a0 a1 (.int a2) (.int a3) a3 a2 0 σ :=
  evAt_un [9] 8 cd_90 [.ref a0, .ref a1, .int a2, .int a3, .null, .null, .null] [] σ
theorem f_Word_lead_9_eq (d : Nat) (x0 : Nat) (x1 : Nat) (x2 : Value) (x3 : Value) (x4 : Int32) (x5 : Int32) (x6 : Int32) (σ : Sg) : f_Word_lead_9 d x0 x1 x2 x3 x4 x5 x6 σ =
gfI 9 x0 0 σ fun v1 =>
if x6 < v1 then (
gfS 9 x0 1 fun v2 =>
ldI v2 x6 σ fun v3 =>
gdK 6 x1 (
cI (f_Rule_go d x1 v3 x4 x5 σ) fun v5 σ4 =>
gfS 9 x0 1 fun v6 =>
ldI v6 x6 σ4 fun v7 =>
cI (f_N_sortBehind d v7 σ4) fun v9 σ8 =>
f_Word_lead_9 d x0 x1 (x2) (nlg x3) v9 v5 (x6 + 1) σ8))
else (
rI x5 σ) :=
  evAt_un [9] 23 (jmp cd_90 9) [.ref x0, .ref x1, x2, x3, .int x4, .int x5, .int x6] [] σ
theorem f_Word_rounds_eq (d : Nat) (a0 : Nat) (a1 : Nat) (a2 : Int32) (σ : Sg) : f_Word_rounds (d + 1) a0 a1 a2 σ =
f_Word_rounds_5 d a0 a1 a2 1 0 .null .null .null σ :=
  evAt_un [5, 30] 6 cd_91 [.ref a0, .ref a1, .int a2, .null, .null, .null, .null, .null] [] σ
theorem f_Word_rounds_5_eq (d : Nat) (x0 : Nat) (x1 : Nat) (x2 : Int32) (x3 : Int32) (x4 : Int32) (x5 : Value) (x6 : Value) (x7 : Value) (σ : Sg) : f_Word_rounds_5 d x0 x1 x2 x3 x4 x5 x6 x7 σ =
gfI 6 x1 0 σ fun v1 =>
if x4 < v1 then (
gdK 9 x0 (
cI (f_Word_circle d x0 x1 x4 x2 σ) fun v3 σ2 =>
f_Word_rounds_30 d x0 x1 x2 x3 x4 v3 x3 1 σ2))
else (
rI x3 σ) :=
  evAt_un [5, 30] 16 (jmp cd_91 5) [.ref x0, .ref x1, .int x2, .int x3, .int x4, x5, x6, x7] [] σ
theorem f_Word_rounds_30_eq (d : Nat) (x0 : Nat) (x1 : Nat) (x2 : Int32) (x3 : Int32) (x4 : Int32) (x5 : Int32) (x6 : Int32) (x7 : Int32) (σ : Sg) : f_Word_rounds_30 d x0 x1 x2 x3 x4 x5 x6 x7 σ =
if x7 < x5 then (
rmI x3 x5 fun v1 =>
if v1 = 0 then (
f_Word_rounds_5 d x0 x1 x2 x3 (x4 + 1) (.int x5) (.int x6) (.int x7) σ)
else (
f_Word_rounds_30 d x0 x1 x2 (x3 + x6) x4 x5 x6 (x7 + 1) σ))
else (
f_Word_rounds_5 d x0 x1 x2 x3 (x4 + 1) (.int x5) (.int x6) (.int x7) σ) :=
  evAt_un [5, 30] 15 (jmp cd_91 30) [.ref x0, .ref x1, .int x2, .int x3, .int x4, .int x5, .int x6, .int x7] [] σ
theorem f_Word_circle_eq (d : Nat) (a0 : Nat) (a1 : Nat) (a2 : Int32) (a3 : Int32) (σ : Sg) : f_Word_circle (d + 1) a0 a1 a2 a3 σ =
gdK 9 a0 (
cI (f_Word_lead d a0 a1 a2 a3 σ) fun v2 σ1 =>
f_Word_circle_12 d a0 a1 a2 a3 v2 1 σ1) :=
  evAt_un [12] 10 cd_92 [.ref a0, .ref a1, .int a2, .int a3, .null, .null] [] σ
theorem f_Word_circle_12_eq (d : Nat) (x0 : Nat) (x1 : Nat) (x2 : Int32) (x3 : Int32) (x4 : Int32) (x5 : Int32) (σ : Sg) : f_Word_circle_12 d x0 x1 x2 x3 x4 x5 σ =
gfI 6 x1 0 σ fun v1 =>
if x5 < v1 then (
if x4 = x2 then (
rI x5 σ)
else (
gdK 9 x0 (
cI (f_Word_lead d x0 x1 x4 x3 σ) fun v3 σ2 =>
f_Word_circle_12 d x0 x1 x2 x3 v3 (x5 + 1) σ2)))
else (
rI x5 σ) :=
  evAt_un [12] 17 (jmp cd_92 12) [.ref x0, .ref x1, .int x2, .int x3, .int x4, .int x5] [] σ
theorem f_Word_lawfulFrom_eq (d : Nat) (a0 : Nat) (a1 : Nat) (a2 : Int32) (σ : Sg) : f_Word_lawfulFrom (d + 1) a0 a1 a2 σ =
f_Word_lawfulFrom_5 d a0 a1 a2 0 0 σ :=
  evAt_un [5] 6 cd_93 [.ref a0, .ref a1, .int a2, .null, .null] [] σ
theorem f_Word_lawfulFrom_5_eq (d : Nat) (x0 : Nat) (x1 : Nat) (x2 : Int32) (x3 : Int32) (x4 : Int32) (σ : Sg) : f_Word_lawfulFrom_5 d x0 x1 x2 x3 x4 σ =
gfI 6 x1 0 σ fun v1 =>
if x4 < v1 then (
gdK 9 x0 (
cI (f_Word_isLawful d x0 x1 x4 x2 σ) fun v3 σ2 =>
if v3 = 0 then (
f_Word_lawfulFrom_5 d x0 x1 x2 x3 (x4 + 1) σ2)
else (
f_Word_lawfulFrom_5 d x0 x1 x2 (x3 ||| (1 <<< (x4 &&& 31))) (x4 + 1) σ2)))
else (
rI x3 σ) :=
  evAt_un [5] 20 (jmp cd_93 5) [.ref x0, .ref x1, .int x2, .int x3, .int x4] [] σ
theorem f_Word_isLawful_eq (d : Nat) (a0 : Nat) (a1 : Nat) (a2 : Int32) (a3 : Int32) (σ : Sg) : f_Word_isLawful (d + 1) a0 a1 a2 a3 σ =
gdK 9 a0 (
cI (f_Word_sortAtEnd d a0 σ) fun v2 σ1 =>
if v2 = a3 then (
rZ 0 σ1)
else (
gdK 9 a0 (
cI (f_Word_lead d a0 a1 a2 a3 σ1) fun v4 σ3 =>
gdK 6 a1 (
cI (f_Rule_spouse d a1 a3 a2 σ3) fun v6 σ5 =>
if v4 = v6 then (
rZ 1 σ5)
else (
rZ 0 σ5))))) :=
  evAt_un [] 19 cd_94 [.ref a0, .ref a1, .int a2, .int a3] [] σ
set_option maxRecDepth 20000 in
theorem f_N_alike_eq (d : Nat) (a1 : Int32) (a2 : Int32) (a3 : Int32) (σ : Sg) : f_N_alike (d + 1) a1 a2 a3 σ =
cI (f_N_isSort d a3 σ) fun v2 σ1 =>
if v2 = 0 then (
gfI 6 (σ1.2.2 4 1) 0 σ1 fun v3 =>
if v3 = 0 then (
rI ((-1)) σ1)
else (
if (0 : Int32) = 0 then (
rI ((-1)) σ1)
else (
if (σ1.1 5 1) < (a1 + a2) then (
rI ((-1)) σ1)
else (
cV (f_Tape_take d 0 a1 σ1) fun σ4 =>
cI (f_Word_read d 49 a3 σ4) fun v6 σ5 =>
if v6 = 0 then (
cV (f_Tape_take d a1 a2 σ5) fun σ7 =>
cI (f_Word_read d 55 a3 σ7) fun v9 σ8 =>
if v9 = 0 then (
cI (f_Word_sortAtEnd d 49 σ8) fun v11 σ10 =>
cI (f_Word_sortAtEnd d 55 σ10) fun v13 σ12 =>
if v11 = v13 then (
f_N_alike_159 d (.int a1) (.int a2) a3 (.int 0) (.int v9) 0 0 σ12)
else (
rI ((-4)) σ12))
else (
rI (((-100000)) + v9) σ8))
else (
rI v6 σ5)))))
else (
if a2 < 1 then (
gfI 6 (σ1.2.2 4 1) 0 σ1 fun v14 =>
if v14 = 0 then (
rI ((-1)) σ1)
else (
if (0 : Int32) = 0 then (
rI ((-1)) σ1)
else (
if (σ1.1 5 1) < (a1 + a2) then (
rI ((-1)) σ1)
else (
cV (f_Tape_take d 0 a1 σ1) fun σ15 =>
cI (f_Word_read d 49 a3 σ15) fun v17 σ16 =>
if v17 = 0 then (
cV (f_Tape_take d a1 a2 σ16) fun σ18 =>
cI (f_Word_read d 55 a3 σ18) fun v20 σ19 =>
if v20 = 0 then (
cI (f_Word_sortAtEnd d 49 σ19) fun v22 σ21 =>
cI (f_Word_sortAtEnd d 55 σ21) fun v24 σ23 =>
if v22 = v24 then (
f_N_alike_159 d (.int a1) (.int a2) a3 (.int 0) (.int v20) 0 0 σ23)
else (
rI ((-4)) σ23))
else (
rI (((-100000)) + v20) σ19))
else (
rI v17 σ16)))))
else (
if 40 < a2 then (
gfI 6 (σ1.2.2 4 1) 0 σ1 fun v25 =>
if v25 = 0 then (
rI ((-1)) σ1)
else (
if (0 : Int32) = 0 then (
rI ((-1)) σ1)
else (
if (σ1.1 5 1) < (a1 + a2) then (
rI ((-1)) σ1)
else (
cV (f_Tape_take d 0 a1 σ1) fun σ26 =>
cI (f_Word_read d 49 a3 σ26) fun v28 σ27 =>
if v28 = 0 then (
cV (f_Tape_take d a1 a2 σ27) fun σ29 =>
cI (f_Word_read d 55 a3 σ29) fun v31 σ30 =>
if v31 = 0 then (
cI (f_Word_sortAtEnd d 49 σ30) fun v33 σ32 =>
cI (f_Word_sortAtEnd d 55 σ32) fun v35 σ34 =>
if v33 = v35 then (
f_N_alike_159 d (.int a1) (.int a2) a3 (.int 0) (.int v31) 0 0 σ34)
else (
rI ((-4)) σ34))
else (
rI (((-100000)) + v31) σ30))
else (
rI v28 σ27)))))
else (
cI (f_Tape_has d a1 40 σ1) fun v37 σ36 =>
if v37 = 0 then (
gfI 6 (σ36.2.2 4 1) 0 σ36 fun v38 =>
if v38 = 0 then (
rI ((-1)) σ36)
else (
if (0 : Int32) = 0 then (
rI ((-1)) σ36)
else (
if (σ36.1 5 1) < (a1 + a2) then (
rI ((-1)) σ36)
else (
cV (f_Tape_take d 0 a1 σ36) fun σ39 =>
cI (f_Word_read d 49 a3 σ39) fun v41 σ40 =>
if v41 = 0 then (
cV (f_Tape_take d a1 a2 σ40) fun σ42 =>
cI (f_Word_read d 55 a3 σ42) fun v44 σ43 =>
if v44 = 0 then (
cI (f_Word_sortAtEnd d 49 σ43) fun v46 σ45 =>
cI (f_Word_sortAtEnd d 55 σ45) fun v48 σ47 =>
if v46 = v48 then (
f_N_alike_159 d (.int a1) (.int a2) a3 (.int 0) (.int v44) 0 0 σ47)
else (
rI ((-4)) σ47))
else (
rI (((-100000)) + v44) σ43))
else (
rI v41 σ40)))))
else (
gfI 6 (σ36.2.2 4 1) 0 σ36 fun v49 =>
if v49 = 0 then (
rI ((-1)) σ36)
else (
if (1 : Int32) = 0 then (
rI ((-1)) σ36)
else (
if (σ36.1 5 1) < (a1 + a2) then (
rI ((-1)) σ36)
else (
cV (f_Tape_take d 0 a1 σ36) fun σ50 =>
cI (f_Word_read d 49 a3 σ50) fun v52 σ51 =>
if v52 = 0 then (
cV (f_Tape_take d a1 a2 σ51) fun σ53 =>
cI (f_Word_read d 55 a3 σ53) fun v55 σ54 =>
if v55 = 0 then (
cI (f_Word_sortAtEnd d 49 σ54) fun v57 σ56 =>
cI (f_Word_sortAtEnd d 55 σ56) fun v59 σ58 =>
if v57 = v59 then (
f_N_alike_159 d (.int a1) (.int a2) a3 (.int 1) (.int v55) 0 0 σ58)
else (
rI ((-4)) σ58))
else (
rI (((-100000)) + v55) σ54))
else (
rI v52 σ51)))))))) :=
  evAt_un [159] 72 cd_95 [.ref 4, .int a1, .int a2, .int a3, .null, .null, .null, .null] [] σ
theorem f_N_alike_159_eq (d : Nat) (x1 : Value) (x2 : Value) (x3 : Int32) (x4 : Value) (x5 : Value) (x6 : Int32) (x7 : Int32) (σ : Sg) : f_N_alike_159 d x1 x2 x3 x4 x5 x6 x7 σ =
gfI 6 (σ.2.2 4 1) 0 σ fun v1 =>
if x7 < v1 then (
cI (f_Word_lead d 49 (σ.2.2 4 1) x7 x3 σ) fun v3 σ2 =>
cI (f_Word_lead d 55 (σ2.2.2 4 1) x7 x3 σ2) fun v5 σ4 =>
if v3 = v5 then (
f_N_alike_159 d (x1) (x2) x3 (x4) (nlg x5) (x6 ||| (1 <<< (x7 &&& 31))) (x7 + 1) σ4)
else (
f_N_alike_159 d (x1) (x2) x3 (x4) (x5) x6 (x7 + 1) σ4))
else (
rI x6 σ) :=
  evAt_un [159] 30 (jmp cd_95 159) [.ref 4, x1, x2, .int x3, x4, x5, .int x6, .int x7] [] σ
theorem f_N_ways_eq (d : Nat) (a1 : Int32) (σ : Sg) : f_N_ways (d + 1) a1 σ =
gfI 6 (σ.2.2 4 1) 0 σ fun v1 =>
if v1 = 0 then (
rI ((-1)) σ)
else (
if a1 < 0 then (
rI ((-1)) σ)
else (
if 2 < a1 then (
rI ((-1)) σ)
else (
if a1 = 1 then (
cI (f_Changes_sides d (σ.2.2 4 1) σ) fun v3 σ2 =>
rI v3 σ2)
else (
cI (f_Changes_size d (σ.2.2 4 1) 720 σ) fun v5 σ4 =>
if a1 = 0 then (
rI v5 σ4)
else (
cI (f_Changes_sides d (σ4.2.2 4 1) σ4) fun v7 σ6 =>
gfI 6 (σ6.2.2 4 1) 0 σ6 fun v8 =>
if (v7 * v5) = v8 then (
rI 1 σ6)
else (
rI 0 σ6)))))) :=
  evAt_un [] 37 cd_96 [.ref 4, .int a1, .null] [] σ
theorem f_Changes_sides_eq (d : Nat) (a1 : Nat) (σ : Sg) : f_Changes_sides (d + 1) a1 σ =
f_Changes_sides_2 d a1 0 .null σ :=
  evAt_un [2, 25, 79] 4 cd_97 [.ref 69, .ref a1, .null, .null] [] σ
theorem f_Changes_sides_2_eq (d : Nat) (x1 : Nat) (x2 : Int32) (x3 : Value) (σ : Sg) : f_Changes_sides_2 d x1 x2 x3 σ =
gfI 6 x1 0 σ fun v1 =>
if x2 < v1 then (
bnd x2 6 (let σ2 := sI σ 74 (ix x2) x2;
f_Changes_sides_2 d x1 (x2 + 1) (x3) σ2))
else (
f_Changes_sides_25 d x1 0 (x3) σ) :=
  evAt_un [2, 25, 79] 13 (jmp cd_97 2) [.ref 69, .ref x1, .int x2, x3] [] σ
theorem f_Changes_sides_25_eq (d : Nat) (x1 : Nat) (x2 : Int32) (x3 : Value) (σ : Sg) : f_Changes_sides_25 d x1 x2 x3 σ =
gfI 6 x1 0 σ fun v1 =>
if x2 < v1 then (
gfI 6 x1 0 σ fun v2 =>
gfS 6 x1 1 fun v3 =>
ldI v3 x2 σ fun v4 =>
cV (f_N_join d 74 v2 x2 v4 σ) fun σ5 =>
gfI 6 x1 0 σ5 fun v6 =>
gfS 6 x1 3 fun v7 =>
ldI v7 x2 σ5 fun v8 =>
cV (f_N_join d 74 v6 x2 v8 σ5) fun σ9 =>
f_Changes_sides_25 d x1 (x2 + 1) (x3) σ9)
else (
f_Changes_sides_79 d x1 0 0 σ) :=
  evAt_un [2, 25, 79] 28 (jmp cd_97 25) [.ref 69, .ref x1, .int x2, x3] [] σ
theorem f_Changes_sides_79_eq (d : Nat) (x1 : Nat) (x2 : Int32) (x3 : Int32) (σ : Sg) : f_Changes_sides_79 d x1 x2 x3 σ =
gfI 6 x1 0 σ fun v1 =>
if x3 < v1 then (
bnd x3 6 (
if (σ.1 74 (ix x3)) = x3 then (
f_Changes_sides_79 d x1 (x2 + 1) (x3 + 1) σ)
else (
f_Changes_sides_79 d x1 x2 (x3 + 1) σ)))
else (
rI x2 σ) :=
  evAt_un [2, 25, 79] 15 (jmp cd_97 79) [.ref 69, .ref x1, .int x2, .int x3] [] σ
theorem f_Changes_size_eq (d : Nat) (a1 : Nat) (a2 : Int32) (σ : Sg) : f_Changes_size (d + 1) a1 a2 σ =
gfI 6 a1 0 σ fun v1 =>
bnd v1 7 (
cV (f_Arrays_fill_4I d 70 0 (FC 2 (ix v1)) 0 σ) fun σ2 =>
bnd 0 720 (let σ3 := sI σ2 70 (ix 0) 1;
bnd 0 720 (let σ4 := sI σ3 71 (ix 0) 0;
let σ5 := sI σ4 69 5 1;
f_Changes_size_38 d a1 a2 0 σ5))) :=
  evAt_un [38] 26 cd_98 [.ref 69, .ref a1, .int a2, .null] [] σ
theorem f_Changes_size_38_eq (d : Nat) (x1 : Nat) (x2 : Int32) (x3 : Int32) (σ : Sg) : f_Changes_size_38 d x1 x2 x3 σ =
if x3 < 720 then (
if x3 < (σ.1 69 5) then (
if (σ.1 69 5) < x2 then (
bnd x3 720 (
gfI 6 x1 0 σ fun v1 =>
cV (f_Changes_unpack d (σ.1 71 (ix x3)) 72 v1 σ) fun σ2 =>
gfS 6 x1 1 fun v3 =>
gfI 6 x1 0 σ2 fun v4 =>
cV (f_Changes_reach d v3 v4 σ2) fun σ5 =>
gfS 6 x1 3 fun v6 =>
gfI 6 x1 0 σ5 fun v7 =>
cV (f_Changes_reach d v6 v7 σ5) fun σ8 =>
f_Changes_size_38 d x1 x2 (x3 + 1) σ8))
else (
rI (σ.1 69 5) σ))
else (
rI (σ.1 69 5) σ))
else (
rI (σ.1 69 5) σ) :=
  evAt_un [38] 36 (jmp cd_98 38) [.ref 69, .ref x1, .int x2, .int x3] [] σ
theorem f_Arrays_fill_4I_eq (d : Nat) (a0 : Nat) (a1 : Int32) (a2 : Int32) (a3 : Int32) (σ : Sg) : f_Arrays_fill_4I (d + 1) a0 a1 a2 a3 σ =
aln a0 fun v1 =>
cV (f_Arrays_rangeCheck d v1 a1 a2 σ) fun σ2 =>
f_Arrays_fill_4I_10 d a0 (.int a1) a2 a3 a1 σ2 :=
  evAt_un [10] 9 cd_99 [.ref a0, .int a1, .int a2, .int a3, .null] [] σ
theorem f_Arrays_fill_4I_10_eq (d : Nat) (x0 : Nat) (x1 : Value) (x2 : Int32) (x3 : Int32) (x4 : Int32) (σ : Sg) : f_Arrays_fill_4I_10 d x0 x1 x2 x3 x4 σ =
if x4 < x2 then (
stI x0 x4 x3 σ fun σ1 =>
f_Arrays_fill_4I_10 d x0 (x1) x2 x3 (x4 + 1) σ1)
else (
rV σ) :=
  evAt_un [10] 11 (jmp cd_99 10) [.ref x0, x1, .int x2, .int x3, .int x4] [] σ
theorem f_Arrays_rangeCheck_eq (d : Nat) (a0 : Int32) (a1 : Int32) (a2 : Int32) (σ : Sg) : f_Arrays_rangeCheck (d + 1) a0 a1 a2 σ =
if a2 < a1 then (
none)
else (
if a1 < 0 then (
none)
else (
if a0 < a2 then (
none)
else (
rV σ))) :=
  evAt_un [] 11 cd_100 [.int a0, .int a1, .int a2] [] σ
theorem f_Changes_unpack_eq (d : Nat) (a0 : Int32) (a1 : Nat) (a2 : Int32) (σ : Sg) : f_Changes_unpack (d + 1) a0 a1 a2 σ =
f_Changes_unpack_8 d (.int a0) a1 a2 a0 0 0 .null .null .null σ :=
  evAt_un [8] 8 cd_101 [.int a0, .ref a1, .int a2, .null, .null, .null, .null, .null, .null] [] σ
theorem f_Changes_unpack_8_eq (d : Nat) (x0 : Value) (x1 : Nat) (x2 : Int32) (x3 : Int32) (x4 : Int32) (x5 : Int32) (x6 : Value) (x7 : Value) (x8 : Value) (σ : Sg) : f_Changes_unpack_8 d x0 x1 x2 x3 x4 x5 x6 x7 x8 σ =
if x5 < x2 then (
bnd ((x2 - 1) - x5) 7 (
dvI x3 (FC 2 (ix ((x2 - 1) - x5))) fun v1 =>
rmI x3 (FC 2 (ix ((x2 - 1) - x5))) fun v2 =>
cI (f_Changes_unusedAt d x4 v1 σ) fun v4 σ3 =>
stI x1 x5 v4 σ3 fun σ5 =>
f_Changes_unpack_8 d (x0) x1 x2 v2 (x4 ||| (1 <<< (v4 &&& 31))) (x5 + 1) (.int (FC 2 (ix ((x2 - 1) - x5)))) (.int v1) (.int v4) σ5))
else (
rV σ) :=
  evAt_un [8] 37 (jmp cd_101 8) [x0, .ref x1, .int x2, .int x3, .int x4, .int x5, x6, x7, x8] [] σ
theorem f_Changes_unusedAt_eq (d : Nat) (a0 : Int32) (a1 : Int32) (σ : Sg) : f_Changes_unusedAt (d + 1) a0 a1 σ =
f_Changes_unusedAt_4 d a0 (.int a1) a1 0 σ :=
  evAt_un [4] 6 cd_102 [.int a0, .int a1, .null, .null] [] σ
theorem f_Changes_unusedAt_4_eq (d : Nat) (x0 : Int32) (x1 : Value) (x2 : Int32) (x3 : Int32) (σ : Sg) : f_Changes_unusedAt_4 d x0 x1 x2 x3 σ =
if x3 < 6 then (
if ((x0 >>> (x3 &&& 31)) &&& 1) = 0 then (
if x2 = 0 then (
rI x3 σ)
else (
f_Changes_unusedAt_4 d x0 (nlg x1) (x2 + (-1)) (x3 + 1) σ))
else (
f_Changes_unusedAt_4 d x0 (x1) x2 (x3 + 1) σ))
else (
rI 0 σ) :=
  evAt_un [4] 16 (jmp cd_102 4) [.int x0, x1, .int x2, .int x3] [] σ
theorem f_Changes_reach_eq (d : Nat) (a1 : Nat) (a2 : Int32) (σ : Sg) : f_Changes_reach (d + 1) a1 a2 σ =
f_Changes_reach_2 d a1 a2 0 σ :=
  evAt_un [2] 4 cd_103 [.ref 69, .ref a1, .int a2, .null] [] σ
theorem f_Changes_reach_2_eq (d : Nat) (x1 : Nat) (x2 : Int32) (x3 : Int32) (σ : Sg) : f_Changes_reach_2 d x1 x2 x3 σ =
if x3 < x2 then (
bnd x3 6 (
ldI x1 (σ.1 72 (ix x3)) σ fun v1 =>
bnd x3 6 (let σ2 := sI σ 73 (ix x3) v1;
f_Changes_reach_2 d x1 x2 (x3 + 1) σ2)))
else (
cI (f_Changes_pack d 73 x2 σ) fun v4 σ3 =>
bnd v4 720 (
if (σ3.1 70 (ix v4)) = 0 then (
if (σ3.1 69 5) < 720 then (
bnd v4 720 (let σ5 := sI σ3 70 (ix v4) 1;
let σ6 := sI σ5 69 5 ((σ5.1 69 5) + 1);
bnd (σ5.1 69 5) 720 (let σ7 := sI σ6 71 (ix (σ5.1 69 5)) v4;
rV σ7)))
else (
rV σ3))
else (
rV σ3))) :=
  evAt_un [2] 36 (jmp cd_103 2) [.ref 69, .ref x1, .int x2, .int x3] [] σ
theorem f_Changes_pack_eq (d : Nat) (a0 : Nat) (a1 : Int32) (σ : Sg) : f_Changes_pack (d + 1) a0 a1 σ =
f_Changes_pack_4 d a0 a1 0 0 .null .null σ :=
  evAt_un [4, 17] 6 cd_104 [.ref a0, .int a1, .null, .null, .null, .null] [] σ
theorem f_Changes_pack_4_eq (d : Nat) (x0 : Nat) (x1 : Int32) (x2 : Int32) (x3 : Int32) (x4 : Value) (x5 : Value) (σ : Sg) : f_Changes_pack_4 d x0 x1 x2 x3 x4 x5 σ =
if x3 < x1 then (
f_Changes_pack_17 d x0 x1 x2 x3 0 (x3 + 1) σ)
else (
rI x2 σ) :=
  evAt_un [4, 17] 11 (jmp cd_104 4) [.ref x0, .int x1, .int x2, .int x3, x4, x5] [] σ
theorem f_Changes_pack_17_eq (d : Nat) (x0 : Nat) (x1 : Int32) (x2 : Int32) (x3 : Int32) (x4 : Int32) (x5 : Int32) (σ : Sg) : f_Changes_pack_17 d x0 x1 x2 x3 x4 x5 σ =
if x5 < x1 then (
ldI x0 x5 σ fun v1 =>
ldI x0 x3 σ fun v2 =>
if v1 < v2 then (
f_Changes_pack_17 d x0 x1 x2 x3 (x4 + 1) (x5 + 1) σ)
else (
f_Changes_pack_17 d x0 x1 x2 x3 x4 (x5 + 1) σ))
else (
bnd ((x1 - 1) - x3) 7 (
f_Changes_pack_4 d x0 x1 (x2 + (x4 * (FC 2 (ix ((x1 - 1) - x3))))) (x3 + 1) (.int x4) (.int x5) σ)) :=
  evAt_un [4, 17] 19 (jmp cd_104 17) [.ref x0, .int x1, .int x2, .int x3, .int x4, .int x5] [] σ
set_option maxRecDepth 20000 in
theorem f_N_term_eq (d : Nat) (a1 : Int32) (a2 : Int32) (a3 : Int32) (a4 : Int32) (a5 : Int32) (σ : Sg) : f_N_term (d + 1) a1 a2 a3 a4 a5 σ =
cI (f_N_isName d a1 σ) fun v2 σ1 =>
if v2 = 0 then (
if (0 : Int32) = 0 then (
rI ((-1)) σ1)
else (
cI (f_N_isStep d a5 12 σ1) fun v4 σ3 =>
if v4 = 0 then (
rI ((-1)) σ3)
else (
cI (f_Row_findOnNames d (σ3.2.2 4 1) ((2 * a1) + a2) ((2 * a3) + a4) σ3) fun v6 σ5 =>
if v6 = 0 then (
rI ((-2)) σ5)
else (
cI (f_Row_tell d a5 σ5) fun v8 σ7 =>
rI v8 σ7))))
else (
cI (f_N_isSort d a2 σ1) fun v10 σ9 =>
if v10 = 0 then (
if (0 : Int32) = 0 then (
rI ((-1)) σ9)
else (
cI (f_N_isStep d a5 12 σ9) fun v12 σ11 =>
if v12 = 0 then (
rI ((-1)) σ11)
else (
cI (f_Row_findOnNames d (σ11.2.2 4 1) ((2 * a1) + a2) ((2 * a3) + a4) σ11) fun v14 σ13 =>
if v14 = 0 then (
rI ((-2)) σ13)
else (
cI (f_Row_tell d a5 σ13) fun v16 σ15 =>
rI v16 σ15))))
else (
cI (f_N_isName d a3 σ9) fun v18 σ17 =>
if v18 = 0 then (
if (0 : Int32) = 0 then (
rI ((-1)) σ17)
else (
cI (f_N_isStep d a5 12 σ17) fun v20 σ19 =>
if v20 = 0 then (
rI ((-1)) σ19)
else (
cI (f_Row_findOnNames d (σ19.2.2 4 1) ((2 * a1) + a2) ((2 * a3) + a4) σ19) fun v22 σ21 =>
if v22 = 0 then (
rI ((-2)) σ21)
else (
cI (f_Row_tell d a5 σ21) fun v24 σ23 =>
rI v24 σ23))))
else (
cI (f_N_isSort d a4 σ17) fun v26 σ25 =>
if v26 = 0 then (
if (0 : Int32) = 0 then (
rI ((-1)) σ25)
else (
cI (f_N_isStep d a5 12 σ25) fun v28 σ27 =>
if v28 = 0 then (
rI ((-1)) σ27)
else (
cI (f_Row_findOnNames d (σ27.2.2 4 1) ((2 * a1) + a2) ((2 * a3) + a4) σ27) fun v30 σ29 =>
if v30 = 0 then (
rI ((-2)) σ29)
else (
cI (f_Row_tell d a5 σ29) fun v32 σ31 =>
rI v32 σ31))))
else (
if (1 : Int32) = 0 then (
rI ((-1)) σ25)
else (
cI (f_N_isStep d a5 12 σ25) fun v34 σ33 =>
if v34 = 0 then (
rI ((-1)) σ33)
else (
cI (f_Row_findOnNames d (σ33.2.2 4 1) ((2 * a1) + a2) ((2 * a3) + a4) σ33) fun v36 σ35 =>
if v36 = 0 then (
rI ((-2)) σ35)
else (
cI (f_Row_tell d a5 σ35) fun v38 σ37 =>
rI v38 σ37))))))) :=
  evAt_un [] 49 cd_105 [.ref 4, .int a1, .int a2, .int a3, .int a4, .int a5, .null, .null] [] σ
theorem f_N_isStep_eq (d : Nat) (a0 : Int32) (a1 : Int32) (σ : Sg) : f_N_isStep (d + 1) a0 a1 σ =
if a0 = 100 then (
rZ 1 σ)
else (
if a0 < 0 then (
rZ 0 σ)
else (
if a0 < a1 then (
rZ 1 σ)
else (
rZ 0 σ))) :=
  evAt_un [] 13 cd_106 [.int a0, .int a1] [] σ
theorem f_Row_findOnNames_eq (d : Nat) (a1 : Nat) (a2 : Int32) (a3 : Int32) (σ : Sg) : f_Row_findOnNames (d + 1) a1 a2 a3 σ =
cV (f_Arrays_fill_2I d 63 (-1) σ) fun σ1 =>
bnd a2 12 (let σ2 := sI σ1 63 (ix a2) a2;
bnd 0 12 (let σ3 := sI σ2 65 (ix 0) a2;
let σ4 := sI σ3 61 5 1;
f_Row_findOnNames_30 d a1 a2 a3 0 .null σ4)) :=
  evAt_un [30, 49] 21 cd_107 [.ref 61, .ref a1, .int a2, .int a3, .null, .null] [] σ
theorem f_Row_findOnNames_30_eq (d : Nat) (x1 : Nat) (x2 : Int32) (x3 : Int32) (x4 : Int32) (x5 : Value) (σ : Sg) : f_Row_findOnNames_30 d x1 x2 x3 x4 x5 σ =
if x4 < 12 then (
if x4 < (σ.1 61 5) then (
f_Row_findOnNames_49 d x1 x2 x3 x4 0 σ)
else (
bnd x3 12 (
if (σ.1 63 (ix x3)) = ((-1 : Int32)) then (
rZ 0 σ)
else (
cV (f_Row_writeBack d x2 x3 σ) fun σ1 =>
rZ 1 σ1))))
else (
bnd x3 12 (
if (σ.1 63 (ix x3)) = ((-1 : Int32)) then (
rZ 0 σ)
else (
cV (f_Row_writeBack d x2 x3 σ) fun σ2 =>
rZ 1 σ2))) :=
  evAt_un [30, 49] 21 (jmp cd_107 30) [.ref 61, .ref x1, .int x2, .int x3, .int x4, x5] [] σ
theorem f_Row_findOnNames_49_eq (d : Nat) (x1 : Nat) (x2 : Int32) (x3 : Int32) (x4 : Int32) (x5 : Int32) (σ : Sg) : f_Row_findOnNames_49 d x1 x2 x3 x4 x5 σ =
if x5 < 8 then (
bnd x4 12 (
cI (f_N_canStep d x5 ((σ.1 65 (ix x4)) &&& 1) σ) fun v2 σ1 =>
if v2 = 0 then (
f_Row_findOnNames_49 d x1 x2 x3 x4 (x5 + 1) σ1)
else (
bnd x4 12 (
cI (f_Row_next d x1 x5 (σ1.1 65 (ix x4)) σ1) fun v4 σ3 =>
bnd x4 12 (
cV (f_Row_comeTo d v4 (σ3.1 65 (ix x4)) x5 σ3) fun σ5 =>
f_Row_findOnNames_49 d x1 x2 x3 x4 (x5 + 1) σ5)))))
else (
f_Row_findOnNames_30 d x1 x2 x3 (x4 + 1) (.int x5) σ) :=
  evAt_un [30, 49] 30 (jmp cd_107 49) [.ref 61, .ref x1, .int x2, .int x3, .int x4, .int x5] [] σ
theorem f_Row_next_eq (d : Nat) (a0 : Nat) (a1 : Int32) (a2 : Int32) (σ : Sg) : f_Row_next (d + 1) a0 a1 a2 σ =
gdK 6 a0 (
cI (f_Rule_go d a0 a1 (a2 &&& 1) (a2 >>> (1 &&& 31)) σ) fun v2 σ1 =>
cI (f_N_sortBehind d a1 σ1) fun v4 σ3 =>
rI ((2 * v2) + v4) σ3) :=
  evAt_un [] 17 cd_108 [.ref a0, .int a1, .int a2] [] σ
theorem f_Row_comeTo_eq (d : Nat) (a1 : Int32) (a2 : Int32) (a3 : Int32) (σ : Sg) : f_Row_comeTo (d + 1) a1 a2 a3 σ =
bnd a1 12 (
if (σ.1 63 (ix a1)) = ((-1 : Int32)) then (
if (σ.1 61 5) < 12 then (
bnd a1 12 (let σ1 := sI σ 63 (ix a1) a2;
bnd a1 12 (let σ2 := sI σ1 64 (ix a1) a3;
let σ3 := sI σ2 61 5 ((σ2.1 61 5) + 1);
bnd (σ2.1 61 5) 12 (let σ4 := sI σ3 65 (ix (σ2.1 61 5)) a1;
rV σ4))))
else (
rV σ))
else (
rV σ)) :=
  evAt_un [] 34 cd_109 [.ref 61, .int a1, .int a2, .int a3] [] σ
theorem f_Row_writeBack_eq (d : Nat) (a1 : Int32) (a2 : Int32) (σ : Sg) : f_Row_writeBack (d + 1) a1 a2 σ =
let σ1 := sI σ 61 0 0;
f_Row_writeBack_10 d a1 a2 a2 0 σ1 :=
  evAt_un [10, 55] 9 cd_110 [.ref 61, .int a1, .int a2, .null, .null] [] σ
theorem f_Row_writeBack_10_eq (d : Nat) (x1 : Int32) (x2 : Int32) (x3 : Int32) (x4 : Int32) (σ : Sg) : f_Row_writeBack_10 d x1 x2 x3 x4 σ =
if x4 < 12 then (
if x3 = x1 then (
f_Row_writeBack_55 d (.int x1) (.int x2) x2 ((σ.1 61 0) - 1) σ)
else (
bnd x3 12 (
let σ1 := sI σ 61 0 ((σ.1 61 0) + 1);
f_Row_writeBack_10 d x1 x2 (σ.1 63 (ix x3)) (x4 + 1) σ1)))
else (
f_Row_writeBack_55 d (.int x1) (.int x2) x2 ((σ.1 61 0) - 1) σ) :=
  evAt_un [10, 55] 21 (jmp cd_110 10) [.ref 61, .int x1, .int x2, .int x3, .int x4] [] σ
theorem f_Row_writeBack_55_eq (d : Nat) (x1 : Value) (x2 : Value) (x3 : Int32) (x4 : Int32) (σ : Sg) : f_Row_writeBack_55 d x1 x2 x3 x4 σ =
if x4 < 0 then (
rV σ)
else (
bnd x3 12 (
bnd x4 24 (let σ1 := sI σ 62 (ix x4) (σ.1 64 (ix x3));
bnd x3 12 (
f_Row_writeBack_55 d (x1) (nlg x2) (σ1.1 63 (ix x3)) (x4 + (-1)) σ1)))) :=
  evAt_un [10, 55] 19 (jmp cd_110 55) [.ref 61, x1, x2, .int x3, .int x4] [] σ
theorem f_Row_tell_eq (d : Nat) (a1 : Int32) (σ : Sg) : f_Row_tell (d + 1) a1 σ =
if a1 = 100 then (
rI (σ.1 61 0) σ)
else (
if a1 < 0 then (
rI ((-4)) σ)
else (
if a1 < (σ.1 61 0) then (
bnd a1 24 (
bnd (σ.1 62 (ix a1)) 8 (
rI (FC 1 (ix (σ.1 62 (ix a1)))) σ)))
else (
rI ((-4)) σ))) :=
  evAt_un [] 19 cd_111 [.ref 61, .int a1] [] σ
theorem f_N_cousin_eq (d : Nat) (a1 : Int32) (σ : Sg) : f_N_cousin (d + 1) a1 σ =
gfI 6 (σ.2.2 4 1) 0 σ fun v1 =>
if v1 = 0 then (
rI ((-1)) σ)
else (
cI (f_N_isStep d a1 100 σ) fun v3 σ2 =>
if v3 = 0 then (
rI ((-1)) σ2)
else (
cI (f_Row_findCousin d (σ2.2.2 4 1) σ2) fun v5 σ4 =>
if v5 = 0 then (
rI ((-2)) σ4)
else (
cI (f_Row_tell d a1 σ4) fun v7 σ6 =>
rI v7 σ6))) :=
  evAt_un [] 22 cd_112 [.ref 4, .int a1] [] σ
theorem f_Row_findCousin_eq (d : Nat) (a1 : Nat) (σ : Sg) : f_Row_findCousin (d + 1) a1 σ =
f_Row_findCousin_2 d a1 0 σ :=
  evAt_un [2, 40] 4 cd_113 [.ref 61, .ref a1, .null] [] σ
theorem f_Row_findCousin_2_eq (d : Nat) (x1 : Nat) (x2 : Int32) (σ : Sg) : f_Row_findCousin_2 d x1 x2 σ =
if x2 < 8 then (
cI (f_Row_isCousin d x1 6 x2 σ) fun v2 σ1 =>
if v2 = 0 then (
f_Row_findCousin_2 d x1 (x2 + 1) σ1)
else (
let σ3 := sI σ1 61 0 1;
bnd 0 24 (let σ4 := sI σ3 62 (ix 0) x2;
rZ 1 σ4)))
else (
f_Row_findCousin_40 d x1 0 σ) :=
  evAt_un [2, 40] 20 (jmp cd_113 2) [.ref 61, .ref x1, .int x2] [] σ
theorem f_Row_findCousin_40_eq (d : Nat) (x1 : Nat) (x2 : Int32) (σ : Sg) : f_Row_findCousin_40 d x1 x2 σ =
if x2 < 64 then (
dvI x2 8 fun v1 =>
rmI x2 8 fun v2 =>
cI (f_Row_isCousin d x1 v1 v2 σ) fun v4 σ3 =>
if v4 = 0 then (
f_Row_findCousin_40 d x1 (x2 + 1) σ3)
else (
let σ5 := sI σ3 61 0 2;
dvI x2 8 fun v6 =>
bnd 0 24 (let σ7 := sI σ5 62 (ix 0) v6;
rmI x2 8 fun v8 =>
bnd 1 24 (let σ9 := sI σ7 62 (ix 1) v8;
rZ 1 σ9))))
else (
rZ 0 σ) :=
  evAt_un [2, 40] 33 (jmp cd_113 40) [.ref 61, .ref x1, .int x2] [] σ
theorem f_Row_isCousin_eq (d : Nat) (a0 : Nat) (a1 : Int32) (a2 : Int32) (σ : Sg) : f_Row_isCousin (d + 1) a0 a1 a2 σ =
cI (f_Row_isBlood d a1 σ) fun v2 σ1 =>
if v2 = 0 then (
f_Row_isCousin_31 d a0 a1 a2 0 0 .null σ1)
else (
cI (f_Row_isBlood d a2 σ1) fun v4 σ3 =>
if v4 = 0 then (
f_Row_isCousin_31 d a0 a1 a2 0 0 .null σ3)
else (
cI (f_N_sortBehind d a2 σ3) fun v6 σ5 =>
if v6 = 1 then (
f_Row_isCousin_31 d a0 a1 a2 1 0 .null σ5)
else (
f_Row_isCousin_31 d a0 a1 a2 0 0 .null σ5))) :=
  evAt_un [31] 17 cd_114 [.ref a0, .int a1, .int a2, .null, .null, .null] [] σ
theorem f_Row_isCousin_31_eq (d : Nat) (x0 : Nat) (x1 : Int32) (x2 : Int32) (x3 : Int32) (x4 : Int32) (x5 : Value) (σ : Sg) : f_Row_isCousin_31 d x0 x1 x2 x3 x4 x5 σ =
gfI 6 x0 0 σ fun v1 =>
if x4 < v1 then (
if x3 = 0 then (
rZ x3 σ)
else (
gdK 6 x0 (
cI (f_Rule_go d x0 x1 0 x4 σ) fun v3 σ2 =>
cI (f_N_sortBehind d x1 σ2) fun v5 σ4 =>
gdK 6 x0 (
cI (f_Rule_go d x0 x2 v5 v3 σ4) fun v7 σ6 =>
gfS 6 x0 1 fun v8 =>
ldI v8 x4 σ6 fun v9 =>
if v7 = v9 then (
f_Row_isCousin_31 d x0 x1 x2 1 (x4 + 1) (.int v3) σ6)
else (
f_Row_isCousin_31 d x0 x1 x2 0 (x4 + 1) (.int v3) σ6)))))
else (
rZ x3 σ) :=
  evAt_un [31] 30 (jmp cd_114 31) [.ref x0, .int x1, .int x2, .int x3, .int x4, x5] [] σ
theorem f_Row_isBlood_eq (d : Nat) (a0 : Int32) (σ : Sg) : f_Row_isBlood (d + 1) a0 σ =
if a0 = 2 then (
rZ 0 σ)
else (
if a0 = 3 then (
rZ 0 σ)
else (
rZ 1 σ)) :=
  evAt_un [] 11 cd_115 [.int a0] [] σ
set_option maxRecDepth 20000 in
theorem f_N_words_eq (d : Nat) (a1 : Int32) (a2 : Int32) (a3 : Int32) (a4 : Int32) (a5 : Int32) (σ : Sg) : f_N_words (d + 1) a1 a2 a3 a4 a5 σ =
cI (f_N_isName d a2 σ) fun v2 σ1 =>
if v2 = 0 then (
if (0 : Int32) = 0 then (
rJ (((-1) : Int32).toInt64) σ1)
else (
if a1 < 1 then (
rJ (((-1) : Int32).toInt64) σ1)
else (
if 20 < a1 then (
rJ (((-1) : Int32).toInt64) σ1)
else (
cJ (f_Row_howMany d (σ1.2.2 4 1) a1 ((2 * a2) + a3) ((2 * a4) + a5) σ1) fun v4 σ3 =>
rJ v4 σ3))))
else (
cI (f_N_isSort d a3 σ1) fun v6 σ5 =>
if v6 = 0 then (
if (0 : Int32) = 0 then (
rJ (((-1) : Int32).toInt64) σ5)
else (
if a1 < 1 then (
rJ (((-1) : Int32).toInt64) σ5)
else (
if 20 < a1 then (
rJ (((-1) : Int32).toInt64) σ5)
else (
cJ (f_Row_howMany d (σ5.2.2 4 1) a1 ((2 * a2) + a3) ((2 * a4) + a5) σ5) fun v8 σ7 =>
rJ v8 σ7))))
else (
cI (f_N_isName d a4 σ5) fun v10 σ9 =>
if v10 = 0 then (
if (0 : Int32) = 0 then (
rJ (((-1) : Int32).toInt64) σ9)
else (
if a1 < 1 then (
rJ (((-1) : Int32).toInt64) σ9)
else (
if 20 < a1 then (
rJ (((-1) : Int32).toInt64) σ9)
else (
cJ (f_Row_howMany d (σ9.2.2 4 1) a1 ((2 * a2) + a3) ((2 * a4) + a5) σ9) fun v12 σ11 =>
rJ v12 σ11))))
else (
cI (f_N_isSort d a5 σ9) fun v14 σ13 =>
if v14 = 0 then (
if (0 : Int32) = 0 then (
rJ (((-1) : Int32).toInt64) σ13)
else (
if a1 < 1 then (
rJ (((-1) : Int32).toInt64) σ13)
else (
if 20 < a1 then (
rJ (((-1) : Int32).toInt64) σ13)
else (
cJ (f_Row_howMany d (σ13.2.2 4 1) a1 ((2 * a2) + a3) ((2 * a4) + a5) σ13) fun v16 σ15 =>
rJ v16 σ15))))
else (
if (1 : Int32) = 0 then (
rJ (((-1) : Int32).toInt64) σ13)
else (
if a1 < 1 then (
rJ (((-1) : Int32).toInt64) σ13)
else (
if 20 < a1 then (
rJ (((-1) : Int32).toInt64) σ13)
else (
cJ (f_Row_howMany d (σ13.2.2 4 1) a1 ((2 * a2) + a3) ((2 * a4) + a5) σ13) fun v18 σ17 =>
rJ v18 σ17))))))) :=
  evAt_un [] 44 cd_116 [.ref 4, .int a1, .int a2, .int a3, .int a4, .int a5, .null] [] σ
theorem f_Row_howMany_eq (d : Nat) (a1 : Nat) (a2 : Int32) (a3 : Int32) (a4 : Int32) (σ : Sg) : f_Row_howMany (d + 1) a1 a2 a3 a4 σ =
cV (f_Arrays_fill_2J d (σ.2.2 61 7) ((0 : Int32).toInt64) σ) fun σ1 =>
stJ (σ1.2.2 61 7) a3 ((1 : Int32).toInt64) σ1 fun σ2 =>
f_Row_howMany_18 d a1 a2 (.int a3) a4 0 σ2 :=
  evAt_un [18] 13 cd_117 [.ref 61, .ref a1, .int a2, .int a3, .int a4, .null] [] σ
theorem f_Row_howMany_18_eq (d : Nat) (x1 : Nat) (x2 : Int32) (x3 : Value) (x4 : Int32) (x5 : Int32) (σ : Sg) : f_Row_howMany_18 d x1 x2 x3 x4 x5 σ =
if x5 < x2 then (
cV (f_Row_addOneStep d x1 σ) fun σ1 =>
f_Row_howMany_18 d x1 x2 (x3) x4 (x5 + 1) σ1)
else (
ldJ (σ.2.2 61 7) x4 σ fun v2 =>
rJ v2 σ) :=
  evAt_un [18] 10 (jmp cd_117 18) [.ref 61, .ref x1, .int x2, x3, .int x4, .int x5] [] σ
theorem f_Arrays_fill_2J_eq (d : Nat) (a0 : Nat) (a1 : Int64) (σ : Sg) : f_Arrays_fill_2J (d + 1) a0 a1 σ =
aln a0 fun v1 =>
f_Arrays_fill_2J_6 d a0 a1 0 v1 σ :=
  evAt_un [6] 7 cd_118 [.ref a0, .long a1, .null, .null, .null] [] σ
theorem f_Arrays_fill_2J_6_eq (d : Nat) (x0 : Nat) (x1 : Int64) (x3 : Int32) (x4 : Int32) (σ : Sg) : f_Arrays_fill_2J_6 d x0 x1 x3 x4 σ =
if x3 < x4 then (
stJ x0 x3 x1 σ fun σ1 =>
f_Arrays_fill_2J_6 d x0 x1 (x3 + 1) x4 σ1)
else (
rV σ) :=
  evAt_un [6] 11 (jmp cd_118 6) [.ref x0, .long x1, .null, .int x3, .int x4] [] σ
theorem f_Row_addOneStep_eq (d : Nat) (a1 : Nat) (σ : Sg) : f_Row_addOneStep (d + 1) a1 σ =
cV (f_Arrays_fill_2J d (σ.2.2 61 8) ((0 : Int32).toInt64) σ) fun σ1 =>
f_Row_addOneStep_10 d a1 0 .null σ1 :=
  evAt_un [10, 22] 8 cd_119 [.ref 61, .ref a1, .null, .null] [] σ
theorem f_Row_addOneStep_10_eq (d : Nat) (x1 : Nat) (x2 : Int32) (x3 : Value) (σ : Sg) : f_Row_addOneStep_10 d x1 x2 x3 σ =
gfI 6 x1 0 σ fun v1 =>
if x2 < (2 * v1) then (
f_Row_addOneStep_22 d x1 x2 0 σ)
else (
let σ2 := sR σ 61 7 (σ.2.2 61 8);
let σ3 := sR σ2 61 8 (σ.2.2 61 7);
rV σ3) :=
  evAt_un [10, 22] 19 (jmp cd_119 10) [.ref 61, .ref x1, .int x2, x3] [] σ
theorem f_Row_addOneStep_22_eq (d : Nat) (x1 : Nat) (x2 : Int32) (x3 : Int32) (σ : Sg) : f_Row_addOneStep_22 d x1 x2 x3 σ =
if x3 < 8 then (
cI (f_N_canStep d x3 (x2 &&& 1) σ) fun v2 σ1 =>
if v2 = 0 then (
f_Row_addOneStep_22 d x1 x2 (x3 + 1) σ1)
else (
cI (f_Row_next d x1 x3 x2 σ1) fun v4 σ3 =>
ldJ (σ1.2.2 61 8) v4 σ3 fun v5 =>
ldJ (σ3.2.2 61 7) x2 σ3 fun v6 =>
stJ (σ1.2.2 61 8) v4 (v5 + v6) σ3 fun σ7 =>
f_Row_addOneStep_22 d x1 x2 (x3 + 1) σ7))
else (
f_Row_addOneStep_10 d x1 (x2 + 1) (.int x3) σ) :=
  evAt_un [10, 22] 27 (jmp cd_119 22) [.ref 61, .ref x1, .int x2, .int x3] [] σ
set_option maxRecDepth 20000 in
theorem f_N_allRules_eq (d : Nat) (a1 : Int32) (a2 : Int32) (a3 : Int32) (σ : Sg) : f_N_allRules (d + 1) a1 a2 a3 σ =
if a1 < 2 then (
if (0 : Int32) = 0 then (
rI ((-1)) σ)
else (
cI (f_Tape_has d a2 40 σ) fun v2 σ1 =>
if v2 = 0 then (
rI ((-1)) σ1)
else (
cV (f_Tape_take d 0 a2 σ1) fun σ3 =>
cI (f_Word_read d 49 0 σ3) fun v5 σ4 =>
if v5 = 0 then (
cI (f_Word_sortAtEnd d 49 σ4) fun v7 σ6 =>
if v7 = 1 then (
cI (f_N_rulesForWord d a1 a3 σ6) fun v9 σ8 =>
rI v9 σ8)
else (
rI 0 σ6))
else (
rI v5 σ4))))
else (
if 5 < a1 then (
if (0 : Int32) = 0 then (
rI ((-1)) σ)
else (
cI (f_Tape_has d a2 40 σ) fun v11 σ10 =>
if v11 = 0 then (
rI ((-1)) σ10)
else (
cV (f_Tape_take d 0 a2 σ10) fun σ12 =>
cI (f_Word_read d 49 0 σ12) fun v14 σ13 =>
if v14 = 0 then (
cI (f_Word_sortAtEnd d 49 σ13) fun v16 σ15 =>
if v16 = 1 then (
cI (f_N_rulesForWord d a1 a3 σ15) fun v18 σ17 =>
rI v18 σ17)
else (
rI 0 σ15))
else (
rI v14 σ13))))
else (
if a3 = 0 then (
if (1 : Int32) = 0 then (
rI ((-1)) σ)
else (
cI (f_Tape_has d a2 40 σ) fun v20 σ19 =>
if v20 = 0 then (
rI ((-1)) σ19)
else (
cV (f_Tape_take d 0 a2 σ19) fun σ21 =>
cI (f_Word_read d 49 0 σ21) fun v23 σ22 =>
if v23 = 0 then (
cI (f_Word_sortAtEnd d 49 σ22) fun v25 σ24 =>
if v25 = 1 then (
cI (f_N_rulesForWord d a1 a3 σ24) fun v27 σ26 =>
rI v27 σ26)
else (
rI 0 σ24))
else (
rI v23 σ22))))
else (
if a3 = 1 then (
if (1 : Int32) = 0 then (
rI ((-1)) σ)
else (
cI (f_Tape_has d a2 40 σ) fun v29 σ28 =>
if v29 = 0 then (
rI ((-1)) σ28)
else (
cV (f_Tape_take d 0 a2 σ28) fun σ30 =>
cI (f_Word_read d 49 0 σ30) fun v32 σ31 =>
if v32 = 0 then (
cI (f_Word_sortAtEnd d 49 σ31) fun v34 σ33 =>
if v34 = 1 then (
cI (f_N_rulesForWord d a1 a3 σ33) fun v36 σ35 =>
rI v36 σ35)
else (
rI 0 σ33))
else (
rI v32 σ31))))
else (
if (0 : Int32) = 0 then (
rI ((-1)) σ)
else (
cI (f_Tape_has d a2 40 σ) fun v38 σ37 =>
if v38 = 0 then (
rI ((-1)) σ37)
else (
cV (f_Tape_take d 0 a2 σ37) fun σ39 =>
cI (f_Word_read d 49 0 σ39) fun v41 σ40 =>
if v41 = 0 then (
cI (f_Word_sortAtEnd d 49 σ40) fun v43 σ42 =>
if v43 = 1 then (
cI (f_N_rulesForWord d a1 a3 σ42) fun v45 σ44 =>
rI v45 σ44)
else (
rI 0 σ42))
else (
rI v41 σ40))))))) :=
  evAt_un [] 49 cd_120 [.ref 4, .int a1, .int a2, .int a3, .null, .null] [] σ
theorem f_N_rulesForWord_eq (d : Nat) (a1 : Int32) (a2 : Int32) (σ : Sg) : f_N_rulesForWord (d + 1) a1 a2 σ =
pfI 6 (σ.2.2 4 2) 0 a1 σ fun σ1 =>
bnd a1 7 (
f_N_rulesForWord_23 d a1 a2 (σ.2.2 4 2) (FC 2 (ix a1)) 0 0 .null σ1) :=
  evAt_un [23, 53] 16 cd_121 [.ref 4, .int a1, .int a2, .null, .null, .null, .null, .null] [] σ
theorem f_N_rulesForWord_23_eq (d : Nat) (x1 : Int32) (x2 : Int32) (x3 : Nat) (x4 : Int32) (x5 : Int32) (x6 : Int32) (x7 : Value) (σ : Sg) : f_N_rulesForWord_23 d x1 x2 x3 x4 x5 x6 x7 σ =
if x6 < x4 then (
gfS 6 x3 1 fun v1 =>
cV (f_Changes_unpack d x6 v1 x1 σ) fun σ2 =>
gdK 6 x3 (
cI (f_Rule_someWedsOwnName d x3 σ2) fun v4 σ3 =>
if v4 = 0 then (
f_N_rulesForWord_53 d x1 x2 x3 x4 x5 x6 0 σ3)
else (
f_N_rulesForWord_23 d x1 x2 x3 x4 x5 (x6 + 1) (x7) σ3)))
else (
rI x5 σ) :=
  evAt_un [23, 53] 16 (jmp cd_121 23) [.ref 4, .int x1, .int x2, .ref x3, .int x4, .int x5, .int x6, x7] [] σ
theorem f_N_rulesForWord_53_eq (d : Nat) (x1 : Int32) (x2 : Int32) (x3 : Nat) (x4 : Int32) (x5 : Int32) (x6 : Int32) (x7 : Int32) (σ : Sg) : f_N_rulesForWord_53 d x1 x2 x3 x4 x5 x6 x7 σ =
if x7 < x4 then (
gfS 6 x3 3 fun v1 =>
cV (f_Changes_unpack d x7 v1 x1 σ) fun σ2 =>
gdK 6 x3 (
cV (f_Rule_turnRound d x3 σ2) fun σ3 =>
cI (f_Word_alwaysLawful d 49 x3 0 σ3) fun v5 σ4 =>
if v5 = 0 then (
f_N_rulesForWord_53 d x1 x2 x3 x4 x5 x6 (x7 + 1) σ4)
else (
if x2 = 0 then (
f_N_rulesForWord_53 d x1 x2 x3 x4 (x5 + 1) x6 (x7 + 1) σ4)
else (
cI (f_N_isEvenAndOneSide d x3 σ4) fun v7 σ6 =>
if v7 = 0 then (
f_N_rulesForWord_53 d x1 x2 x3 x4 x5 x6 (x7 + 1) σ6)
else (
f_N_rulesForWord_53 d x1 x2 x3 x4 (x5 + 1) x6 (x7 + 1) σ6)))))
else (
f_N_rulesForWord_23 d x1 x2 x3 x4 x5 (x6 + 1) (.int x7) σ) :=
  evAt_un [23, 53] 27 (jmp cd_121 53) [.ref 4, .int x1, .int x2, .ref x3, .int x4, .int x5, .int x6, .int x7] [] σ
theorem f_Rule_someWedsOwnName_eq (d : Nat) (a0 : Nat) (σ : Sg) : f_Rule_someWedsOwnName (d + 1) a0 σ =
f_Rule_someWedsOwnName_2 d a0 0 σ :=
  evAt_un [2] 4 cd_122 [.ref a0, .null] [] σ
theorem f_Rule_someWedsOwnName_2_eq (d : Nat) (x0 : Nat) (x1 : Int32) (σ : Sg) : f_Rule_someWedsOwnName_2 d x0 x1 σ =
gfI 6 x0 0 σ fun v1 =>
if x1 < v1 then (
gfS 6 x0 1 fun v2 =>
ldI v2 x1 σ fun v3 =>
if v3 = x1 then (
rZ 1 σ)
else (
f_Rule_someWedsOwnName_2 d x0 (x1 + 1) σ))
else (
rZ 0 σ) :=
  evAt_un [2] 14 (jmp cd_122 2) [.ref x0, .int x1] [] σ
theorem f_Word_alwaysLawful_eq (d : Nat) (a0 : Nat) (a1 : Nat) (a2 : Int32) (σ : Sg) : f_Word_alwaysLawful (d + 1) a0 a1 a2 σ =
f_Word_alwaysLawful_2 d a0 a1 a2 0 σ :=
  evAt_un [2] 4 cd_123 [.ref a0, .ref a1, .int a2, .null] [] σ
theorem f_Word_alwaysLawful_2_eq (d : Nat) (x0 : Nat) (x1 : Nat) (x2 : Int32) (x3 : Int32) (σ : Sg) : f_Word_alwaysLawful_2 d x0 x1 x2 x3 σ =
gfI 6 x1 0 σ fun v1 =>
if x3 < v1 then (
gdK 9 x0 (
cI (f_Word_isLawful d x0 x1 x3 x2 σ) fun v3 σ2 =>
if v3 = 0 then (
rZ 0 σ2)
else (
f_Word_alwaysLawful_2 d x0 x1 x2 (x3 + 1) σ2)))
else (
rZ 1 σ) :=
  evAt_un [2] 14 (jmp cd_123 2) [.ref x0, .ref x1, .int x2, .int x3] [] σ
theorem f_N_isEvenAndOneSide_eq (d : Nat) (a1 : Nat) (σ : Sg) : f_N_isEvenAndOneSide (d + 1) a1 σ =
cI (f_Changes_sides d a1 σ) fun v2 σ1 =>
if v2 = 1 then (
gfI 6 a1 0 σ1 fun v3 =>
cI (f_Changes_size d a1 (v3 + 1) σ1) fun v5 σ4 =>
gfI 6 a1 0 σ4 fun v6 =>
if v5 = v6 then (
rZ 1 σ4)
else (
rZ 0 σ4))
else (
rZ 0 σ1) :=
  evAt_un [] 22 cd_124 [.ref 4, .ref a1] [] σ
theorem f_N_personIs_eq (d : Nat) (a1 : Int32) (a2 : Int32) (σ : Sg) : f_N_personIs (d + 1) a1 a2 σ =
gdK 4 (σ.2.2 4 3) (
cI (f_Roll_has d (σ.2.2 4 3) a1 σ) fun v2 σ1 =>
if v2 = 0 then (
rI ((-1)) σ1)
else (
if a2 = 0 then (
gfS 4 (σ1.2.2 4 3) 1 fun v3 =>
ldI v3 a1 σ1 fun v4 =>
rI v4 σ1)
else if a2 = 1 then (
gfS 4 (σ1.2.2 4 3) 2 fun v5 =>
ldI v5 a1 σ1 fun v6 =>
cI (f_N_orNothing d v6 σ1) fun v8 σ7 =>
rI v8 σ7)
else if a2 = 2 then (
gfS 4 (σ1.2.2 4 3) 3 fun v9 =>
ldI v9 a1 σ1 fun v10 =>
cI (f_N_orNothing d v10 σ1) fun v12 σ11 =>
rI v12 σ11)
else if a2 = 3 then (
gfS 4 (σ1.2.2 4 3) 4 fun v13 =>
ldI v13 a1 σ1 fun v14 =>
cI (f_N_orNothing d v14 σ1) fun v16 σ15 =>
rI v16 σ15)
else if a2 = 4 then (
gfS 4 (σ1.2.2 4 3) 5 fun v17 =>
ldI v17 a1 σ1 fun v18 =>
cI (f_N_orNothing d v18 σ1) fun v20 σ19 =>
rI v20 σ19)
else if a2 = 5 then (
gfS 4 (σ1.2.2 4 3) 6 fun v21 =>
ldI v21 a1 σ1 fun v22 =>
rI v22 σ1)
else if a2 = 6 then (
gfS 4 (σ1.2.2 4 3) 7 fun v23 =>
ldI v23 a1 σ1 fun v24 =>
rI v24 σ1)
else if a2 = 7 then (
bnd a1 24 (
rI (σ1.1 76 (ix a1)) σ1))
else if a2 = 8 then (
cI (f_Houses_sureName d a1 σ1) fun v26 σ25 =>
rI v26 σ25)
else (
rI ((-1)) σ1))) :=
  evAt_un [] 16 cd_125 [.ref 4, .int a1, .int a2] [] σ
theorem f_N_orNothing_eq (d : Nat) (a0 : Int32) (σ : Sg) : f_N_orNothing (d + 1) a0 σ =
if a0 < 0 then (
rI ((-2)) σ)
else (
rI a0 σ) :=
  evAt_un [] 7 cd_126 [.int a0] [] σ
theorem f_Houses_sureName_eq (d : Nat) (a1 : Int32) (σ : Sg) : f_Houses_sureName (d + 1) a1 σ =
bnd a1 24 (
if (σ.1 76 (ix a1)) = 0 then (
rI ((-3)) σ)
else (
bnd a1 24 (
cI (f_Integer_bitCount d (σ.1 76 (ix a1)) σ) fun v2 σ1 =>
if v2 = 1 then (
bnd a1 24 (
cI (f_N_lowestOf d (σ1.1 76 (ix a1)) σ1) fun v4 σ3 =>
rI v4 σ3))
else (
rI ((-2)) σ1)))) :=
  evAt_un [] 21 cd_127 [.ref 75, .int a1] [] σ
theorem f_N_lowestOf_eq (d : Nat) (a0 : Int32) (σ : Sg) : f_N_lowestOf (d + 1) a0 σ =
f_N_lowestOf_5 d a0 0 31 σ :=
  evAt_un [5] 6 cd_128 [.int a0, .null, .null] [] σ
theorem f_N_lowestOf_5_eq (d : Nat) (x0 : Int32) (x1 : Int32) (x2 : Int32) (σ : Sg) : f_N_lowestOf_5 d x0 x1 x2 σ =
if x2 < 0 then (
rI x1 σ)
else (
if ((x0 >>> (x2 &&& 31)) &&& 1) = 0 then (
f_N_lowestOf_5 d x0 x1 (x2 + (-1)) σ)
else (
f_N_lowestOf_5 d x0 x2 (x2 + (-1)) σ)) :=
  evAt_un [5] 14 (jmp cd_128 5) [.int x0, .int x1, .int x2] [] σ
theorem f_N_houses_eq (d : Nat) (a1 : Int32) (σ : Sg) : f_N_houses (d + 1) a1 σ =
if a1 = 0 then (
gfI 4 (σ.2.2 4 3) 0 σ fun v1 =>
cI (f_Houses_howMany d v1 0 σ) fun v3 σ2 =>
rI v3 σ2)
else if a1 = 1 then (
gfI 4 (σ.2.2 4 3) 0 σ fun v4 =>
cI (f_Houses_howMany d v4 1 σ) fun v6 σ5 =>
rI v6 σ5)
else if a1 = 2 then (
gfI 4 (σ.2.2 4 3) 0 σ fun v7 =>
cI (f_Houses_wrongOnes d v7 σ) fun v9 σ8 =>
rI v9 σ8)
else (
rI ((-1)) σ) :=
  evAt_un [] 12 cd_129 [.ref 4, .int a1] [] σ
theorem f_Houses_howMany_eq (d : Nat) (a1 : Int32) (a2 : Int32) (σ : Sg) : f_Houses_howMany (d + 1) a1 a2 σ =
f_Houses_howMany_5 d a1 a2 0 0 σ :=
  evAt_un [5] 6 cd_130 [.ref 75, .int a1, .int a2, .null, .null] [] σ
theorem f_Houses_howMany_5_eq (d : Nat) (x1 : Int32) (x2 : Int32) (x3 : Int32) (x4 : Int32) (σ : Sg) : f_Houses_howMany_5 d x1 x2 x3 x4 σ =
if x4 < x1 then (
bnd x4 24 (
if (σ.1 77 (ix x4)) = x4 then (
if x2 = 0 then (
f_Houses_howMany_5 d x1 x2 (x3 + 1) (x4 + 1) σ)
else (
bnd x4 24 (
if (σ.1 76 (ix x4)) = 0 then (
f_Houses_howMany_5 d x1 x2 (x3 + 1) (x4 + 1) σ)
else (
f_Houses_howMany_5 d x1 x2 x3 (x4 + 1) σ))))
else (
f_Houses_howMany_5 d x1 x2 x3 (x4 + 1) σ)))
else (
rI x3 σ) :=
  evAt_un [5] 21 (jmp cd_130 5) [.ref 75, .int x1, .int x2, .int x3, .int x4] [] σ
theorem f_Houses_wrongOnes_eq (d : Nat) (a1 : Int32) (σ : Sg) : f_Houses_wrongOnes (d + 1) a1 σ =
f_Houses_wrongOnes_4 d a1 0 0 σ :=
  evAt_un [4] 6 cd_131 [.ref 75, .int a1, .null, .null] [] σ
theorem f_Houses_wrongOnes_4_eq (d : Nat) (x1 : Int32) (x2 : Int32) (x3 : Int32) (σ : Sg) : f_Houses_wrongOnes_4 d x1 x2 x3 σ =
if x3 < x1 then (
bnd x3 24 (
if (σ.1 76 (ix x3)) = 0 then (
f_Houses_wrongOnes_4 d x1 (x2 ||| (1 <<< (x3 &&& 31))) (x3 + 1) σ)
else (
f_Houses_wrongOnes_4 d x1 x2 (x3 + 1) σ)))
else (
rI x2 σ) :=
  evAt_un [4] 18 (jmp cd_131 4) [.ref 75, .int x1, .int x2, .int x3] [] σ
theorem f_N_mended_eq (d : Nat) (a1 : Int32) (σ : Sg) : f_N_mended (d + 1) a1 σ =
if a1 = 0 then (
gfI 4 (σ.2.2 4 3) 0 σ fun v1 =>
cI (f_Houses_canBeMended d v1 σ) fun v3 σ2 =>
if v3 = 0 then (
rI ((-2)) σ2)
else (
gfI 4 (σ2.2.2 4 3) 0 σ2 fun v4 =>
cI (f_Houses_goneNames d v4 σ2) fun v6 σ5 =>
if a1 = 0 then (
cI (f_Integer_bitCount d v6 σ5) fun v8 σ7 =>
rI v8 σ7)
else (
rI v6 σ5)))
else (
if a1 = 1 then (
gfI 4 (σ.2.2 4 3) 0 σ fun v9 =>
cI (f_Houses_canBeMended d v9 σ) fun v11 σ10 =>
if v11 = 0 then (
rI ((-2)) σ10)
else (
gfI 4 (σ10.2.2 4 3) 0 σ10 fun v12 =>
cI (f_Houses_goneNames d v12 σ10) fun v14 σ13 =>
if a1 = 0 then (
cI (f_Integer_bitCount d v14 σ13) fun v16 σ15 =>
rI v16 σ15)
else (
rI v14 σ13)))
else (
rI ((-1)) σ)) :=
  evAt_un [] 27 cd_132 [.ref 4, .int a1, .null] [] σ
theorem f_Houses_canBeMended_eq (d : Nat) (a1 : Int32) (σ : Sg) : f_Houses_canBeMended (d + 1) a1 σ =
f_Houses_canBeMended_2 d a1 0 σ :=
  evAt_un [2] 4 cd_133 [.ref 75, .int a1, .null] [] σ
theorem f_Houses_canBeMended_2_eq (d : Nat) (x1 : Int32) (x2 : Int32) (σ : Sg) : f_Houses_canBeMended_2 d x1 x2 σ =
if x2 < x1 then (
bnd x2 24 (
if (σ.1 77 (ix x2)) = x2 then (
bnd x2 24 (
if (σ.1 80 (ix x2)) = 25 then (
rZ 0 σ)
else (
f_Houses_canBeMended_2 d x1 (x2 + 1) σ)))
else (
f_Houses_canBeMended_2 d x1 (x2 + 1) σ)))
else (
rZ 1 σ) :=
  evAt_un [2] 19 (jmp cd_133 2) [.ref 75, .int x1, .int x2] [] σ
theorem f_Houses_goneNames_eq (d : Nat) (a1 : Int32) (σ : Sg) : f_Houses_goneNames (d + 1) a1 σ =
f_Houses_goneNames_4 d a1 0 0 σ :=
  evAt_un [4] 6 cd_134 [.ref 75, .int a1, .null, .null] [] σ
theorem f_Houses_goneNames_4_eq (d : Nat) (x1 : Int32) (x2 : Int32) (x3 : Int32) (σ : Sg) : f_Houses_goneNames_4 d x1 x2 x3 σ =
if x3 < x1 then (
bnd x3 24 (
if (σ.1 77 (ix x3)) = x3 then (
bnd x3 24 (
f_Houses_goneNames_4 d x1 (x2 ||| (σ.1 81 (ix x3))) (x3 + 1) σ))
else (
f_Houses_goneNames_4 d x1 x2 (x3 + 1) σ)))
else (
rI x2 σ) :=
  evAt_un [4] 20 (jmp cd_134 4) [.ref 75, .int x1, .int x2, .int x3] [] σ
theorem f_N_byTold_eq (d : Nat) (a1 : Int32) (σ : Sg) : f_N_byTold (d + 1) a1 σ =
if a1 < 0 then (
rI ((-1)) σ)
else (
if 3 < a1 then (
rI ((-1)) σ)
else (
if a1 < 2 then (
gdK 4 (σ.2.2 4 3) (
cI (f_Roll_wrongWeddings d (σ.2.2 4 3) (σ.2.2 4 1) σ) fun v2 σ1 =>
if a1 = 0 then (
cI (f_Integer_bitCount d v2 σ1) fun v4 σ3 =>
rI v4 σ3)
else (
if a1 = 2 then (
cI (f_Integer_bitCount d v2 σ1) fun v6 σ5 =>
rI v6 σ5)
else (
if v2 = 0 then (
rI ((-2)) σ1)
else (
cI (f_N_lowestOf d v2 σ1) fun v8 σ7 =>
rI v8 σ7)))))
else (
gdK 4 (σ.2.2 4 3) (
cI (f_Roll_wrongChildren d (σ.2.2 4 3) (σ.2.2 4 1) σ) fun v10 σ9 =>
if a1 = 0 then (
cI (f_Integer_bitCount d v10 σ9) fun v12 σ11 =>
rI v12 σ11)
else (
if a1 = 2 then (
cI (f_Integer_bitCount d v10 σ9) fun v14 σ13 =>
rI v14 σ13)
else (
if v10 = 0 then (
rI ((-2)) σ9)
else (
cI (f_N_lowestOf d v10 σ9) fun v16 σ15 =>
rI v16 σ15))))))) :=
  evAt_un [] 27 cd_135 [.ref 4, .int a1, .null] [] σ
theorem f_Roll_wrongWeddings_eq (d : Nat) (a0 : Nat) (a1 : Nat) (σ : Sg) : f_Roll_wrongWeddings (d + 1) a0 a1 σ =
f_Roll_wrongWeddings_4 d a0 a1 0 0 .null σ :=
  evAt_un [4] 6 cd_136 [.ref a0, .ref a1, .null, .null, .null] [] σ
set_option maxRecDepth 20000 in
theorem f_Roll_wrongWeddings_4_eq (d : Nat) (x0 : Nat) (x1 : Nat) (x2 : Int32) (x3 : Int32) (x4 : Value) (σ : Sg) : f_Roll_wrongWeddings_4 d x0 x1 x2 x3 x4 σ =
gfI 4 x0 0 σ fun v1 =>
if x3 < v1 then (
gfS 4 x0 5 fun v2 =>
ldI v2 x3 σ fun v3 =>
if x3 < v3 then (
gfS 4 x0 2 fun v4 =>
ldI v4 x3 σ fun v5 =>
if v5 < 0 then (
f_Roll_wrongWeddings_4 d x0 x1 x2 (x3 + 1) (.int v3) σ)
else (
gfS 4 x0 2 fun v6 =>
ldI v6 v3 σ fun v7 =>
if v7 < 0 then (
f_Roll_wrongWeddings_4 d x0 x1 x2 (x3 + 1) (.int v3) σ)
else (
gfS 4 x0 1 fun v8 =>
ldI v8 x3 σ fun v9 =>
gfS 4 x0 2 fun v10 =>
ldI v10 x3 σ fun v11 =>
gdK 6 x1 (
cI (f_Rule_spouse d x1 v9 v11 σ) fun v13 σ12 =>
gfS 4 x0 2 fun v14 =>
ldI v14 v3 σ12 fun v15 =>
if v13 = v15 then (
f_Roll_wrongWeddings_4 d x0 x1 x2 (x3 + 1) (.int v3) σ12)
else (
f_Roll_wrongWeddings_4 d x0 x1 (x2 ||| (1 <<< (x3 &&& 31))) (x3 + 1) (.int v3) σ12)))))
else (
f_Roll_wrongWeddings_4 d x0 x1 x2 (x3 + 1) (.int v3) σ))
else (
rI x2 σ) :=
  evAt_un [4] 47 (jmp cd_136 4) [.ref x0, .ref x1, .int x2, .int x3, x4] [] σ
theorem f_Roll_wrongChildren_eq (d : Nat) (a0 : Nat) (a1 : Nat) (σ : Sg) : f_Roll_wrongChildren (d + 1) a0 a1 σ =
f_Roll_wrongChildren_4 d a0 a1 0 0 .null σ :=
  evAt_un [4] 6 cd_137 [.ref a0, .ref a1, .null, .null, .null] [] σ
set_option maxRecDepth 20000 in
theorem f_Roll_wrongChildren_4_eq (d : Nat) (x0 : Nat) (x1 : Nat) (x2 : Int32) (x3 : Int32) (x4 : Value) (σ : Sg) : f_Roll_wrongChildren_4 d x0 x1 x2 x3 x4 σ =
gfI 4 x0 0 σ fun v1 =>
if x3 < v1 then (
gfS 4 x0 4 fun v2 =>
ldI v2 x3 σ fun v3 =>
if v3 < 0 then (
f_Roll_wrongChildren_4 d x0 x1 x2 (x3 + 1) (.int v3) σ)
else (
gfS 4 x0 2 fun v4 =>
ldI v4 x3 σ fun v5 =>
if v5 < 0 then (
f_Roll_wrongChildren_4 d x0 x1 x2 (x3 + 1) (.int v3) σ)
else (
gfS 4 x0 2 fun v6 =>
ldI v6 v3 σ fun v7 =>
if v7 < 0 then (
f_Roll_wrongChildren_4 d x0 x1 x2 (x3 + 1) (.int v3) σ)
else (
gfS 6 x1 3 fun v8 =>
gfS 4 x0 2 fun v9 =>
ldI v9 v3 σ fun v10 =>
ldI v8 v10 σ fun v11 =>
gfS 4 x0 2 fun v12 =>
ldI v12 x3 σ fun v13 =>
if v11 = v13 then (
f_Roll_wrongChildren_4 d x0 x1 x2 (x3 + 1) (.int v3) σ)
else (
f_Roll_wrongChildren_4 d x0 x1 (x2 ||| (1 <<< (x3 &&& 31))) (x3 + 1) (.int v3) σ)))))
else (
rI x2 σ) :=
  evAt_un [4] 43 (jmp cd_137 4) [.ref x0, .ref x1, .int x2, .int x3, x4] [] σ
theorem f_N_whatIs_eq (d : Nat) (a1 : Int32) (a2 : Int32) (a3 : Int32) (σ : Sg) : f_N_whatIs (d + 1) a1 a2 a3 σ =
gdK 4 (σ.2.2 4 3) (
cI (f_Roll_has d (σ.2.2 4 3) a1 σ) fun v2 σ1 =>
if v2 = 0 then (
rI ((-1)) σ1)
else (
gdK 4 (σ1.2.2 4 3) (
cI (f_Roll_has d (σ1.2.2 4 3) a2 σ1) fun v4 σ3 =>
if v4 = 0 then (
rI ((-1)) σ3)
else (
cI (f_N_isStep d a3 24 σ3) fun v6 σ5 =>
if v6 = 0 then (
rI ((-1)) σ5)
else (
cI (f_Row_findOnPeople d (σ5.2.2 4 3) a1 a2 σ5) fun v8 σ7 =>
if v8 = 0 then (
rI ((-2)) σ7)
else (
cI (f_Row_tell d a3 σ7) fun v10 σ9 =>
rI v10 σ9)))))) :=
  evAt_un [] 30 cd_138 [.ref 4, .int a1, .int a2, .int a3] [] σ
theorem f_Row_findOnPeople_eq (d : Nat) (a1 : Nat) (a2 : Int32) (a3 : Int32) (σ : Sg) : f_Row_findOnPeople (d + 1) a1 a2 a3 σ =
cI (f_Row_layersFrom d a1 a3 a2 σ) fun v2 σ1 =>
let σ3 := sI σ1 61 0 v2;
if (σ3.1 61 0) < 0 then (
rZ 0 σ3)
else (
f_Row_findOnPeople_28 d a1 (.int a2) (.int a3) (1 <<< (a2 &&& 31)) 0 σ3) :=
  evAt_un [28] 18 cd_139 [.ref 61, .ref a1, .int a2, .int a3, .null, .null] [] σ
theorem f_Row_findOnPeople_28_eq (d : Nat) (x1 : Nat) (x2 : Value) (x3 : Value) (x4 : Int32) (x5 : Int32) (σ : Sg) : f_Row_findOnPeople_28 d x1 x2 x3 x4 x5 σ =
if x5 < (σ.1 61 0) then (
cI (f_Row_leastStep d x1 x4 x5 σ) fun v2 σ1 =>
f_Row_findOnPeople_28 d x1 (x2) (nlg x3) v2 (x5 + 1) σ1)
else (
rZ 1 σ) :=
  evAt_un [28] 14 (jmp cd_139 28) [.ref 61, .ref x1, x2, x3, .int x4, .int x5] [] σ
theorem f_Row_layersFrom_eq (d : Nat) (a1 : Nat) (a2 : Int32) (a3 : Int32) (σ : Sg) : f_Row_layersFrom (d + 1) a1 a2 a3 σ =
bnd 0 25 (let σ1 := sI σ 66 (ix 0) (1 <<< (a2 &&& 31));
f_Row_layersFrom_16 d a1 (.int a2) a3 (1 <<< (a2 &&& 31)) 0 .null .null σ1) :=
  evAt_un [16, 46] 13 cd_140 [.ref 61, .ref a1, .int a2, .int a3, .null, .null, .null, .null] [] σ
theorem f_Row_layersFrom_16_eq (d : Nat) (x1 : Nat) (x2 : Value) (x3 : Int32) (x4 : Int32) (x5 : Int32) (x6 : Value) (x7 : Value) (σ : Sg) : f_Row_layersFrom_16 d x1 x2 x3 x4 x5 x6 x7 σ =
if x5 < 24 then (
bnd x5 25 (
if (((σ.1 66 (ix x5)) >>> (x3 &&& 31)) &&& 1) = 0 then (
f_Row_layersFrom_46 d x1 (x2) x3 x4 x5 0 0 σ)
else (
rI x5 σ)))
else (
rI ((-1)) σ) :=
  evAt_un [16, 46] 18 (jmp cd_140 16) [.ref 61, .ref x1, x2, .int x3, .int x4, .int x5, x6, x7] [] σ
theorem f_Row_layersFrom_46_eq (d : Nat) (x1 : Nat) (x2 : Value) (x3 : Int32) (x4 : Int32) (x5 : Int32) (x6 : Int32) (x7 : Int32) (σ : Sg) : f_Row_layersFrom_46 d x1 x2 x3 x4 x5 x6 x7 σ =
if x7 < 8 then (
bnd x5 25 (
gdK 4 x1 (
cI (f_Roll_relatedToAny d x1 x7 (σ.1 66 (ix x5)) σ) fun v2 σ1 =>
f_Row_layersFrom_46 d x1 (x2) x3 x4 x5 (x6 ||| v2) (x7 + 1) σ1)))
else (
bnd (x5 + 1) 25 (let σ3 := sI σ 66 (ix (x5 + 1)) (x6 &&& (x4 ^^^ ((-1))));
f_Row_layersFrom_16 d x1 (x2) x3 (x4 ||| x6) (x5 + 1) (.int x6) (.int x7) σ3)) :=
  evAt_un [16, 46] 22 (jmp cd_140 46) [.ref 61, .ref x1, x2, .int x3, .int x4, .int x5, .int x6, .int x7] [] σ
theorem f_Roll_relatedToAny_eq (d : Nat) (a0 : Nat) (a1 : Int32) (a2 : Int32) (σ : Sg) : f_Roll_relatedToAny (d + 1) a0 a1 a2 σ =
f_Roll_relatedToAny_5 d a0 a1 a2 0 0 σ :=
  evAt_un [5] 6 cd_141 [.ref a0, .int a1, .int a2, .null, .null] [] σ
theorem f_Roll_relatedToAny_5_eq (d : Nat) (x0 : Nat) (x1 : Int32) (x2 : Int32) (x3 : Int32) (x4 : Int32) (σ : Sg) : f_Roll_relatedToAny_5 d x0 x1 x2 x3 x4 σ =
gfI 4 x0 0 σ fun v1 =>
if x4 < v1 then (
if ((x2 >>> (x4 &&& 31)) &&& 1) = 0 then (
f_Roll_relatedToAny_5 d x0 x1 x2 x3 (x4 + 1) σ)
else (
gdK 4 x0 (
cI (f_Roll_related d x0 x1 x4 σ) fun v3 σ2 =>
f_Roll_relatedToAny_5 d x0 x1 x2 (x3 ||| v3) (x4 + 1) σ2)))
else (
rI x3 σ) :=
  evAt_un [5] 21 (jmp cd_141 5) [.ref x0, .int x1, .int x2, .int x3, .int x4] [] σ
theorem f_Roll_related_eq (d : Nat) (a0 : Nat) (a1 : Int32) (a2 : Int32) (σ : Sg) : f_Roll_related (d + 1) a0 a1 a2 σ =
if a1 = 0 then (
gfS 4 a0 3 fun v1 =>
ldI v1 a2 σ fun v2 =>
cI (f_Roll_bit d v2 σ) fun v4 σ3 =>
rI v4 σ3)
else if a1 = 1 then (
gfS 4 a0 4 fun v5 =>
ldI v5 a2 σ fun v6 =>
cI (f_Roll_bit d v6 σ) fun v8 σ7 =>
rI v8 σ7)
else if a1 = 2 then (
gfS 4 a0 5 fun v9 =>
ldI v9 a2 σ fun v10 =>
cI (f_Roll_bit d v10 σ) fun v12 σ11 =>
gfI 4 a0 8 σ11 fun v13 =>
rI (v12 &&& v13) σ11)
else if a1 = 3 then (
gfS 4 a0 5 fun v14 =>
ldI v14 a2 σ fun v15 =>
cI (f_Roll_bit d v15 σ) fun v17 σ16 =>
gfI 4 a0 8 σ16 fun v18 =>
rI (v17 &&& (v18 ^^^ ((-1)))) σ16)
else if a1 = 4 then (
gfS 4 a0 6 fun v19 =>
ldI v19 a2 σ fun v20 =>
gfI 4 a0 8 σ fun v21 =>
rI (v20 &&& v21) σ)
else if a1 = 5 then (
gfS 4 a0 6 fun v22 =>
ldI v22 a2 σ fun v23 =>
gfI 4 a0 8 σ fun v24 =>
rI (v23 &&& (v24 ^^^ ((-1)))) σ)
else if a1 = 6 then (
gfS 4 a0 7 fun v25 =>
ldI v25 a2 σ fun v26 =>
gfI 4 a0 8 σ fun v27 =>
rI (v26 &&& v27) σ)
else if a1 = 7 then (
gfS 4 a0 7 fun v28 =>
ldI v28 a2 σ fun v29 =>
gfI 4 a0 8 σ fun v30 =>
rI (v29 &&& (v30 ^^^ ((-1)))) σ)
else (
rI 0 σ) :=
  evAt_un [] 15 cd_142 [.ref a0, .int a1, .int a2] [] σ
theorem f_Row_leastStep_eq (d : Nat) (a1 : Nat) (a2 : Int32) (a3 : Int32) (σ : Sg) : f_Row_leastStep (d + 1) a1 a2 a3 σ =
bnd (((σ.1 61 0) - a3) - 1) 25 (
f_Row_leastStep_18 d a1 a2 a3 (σ.1 66 (ix (((σ.1 61 0) - a3) - 1))) 0 .null σ) :=
  evAt_un [18] 14 cd_143 [.ref 61, .ref a1, .int a2, .int a3, .null, .null, .null] [] σ
theorem f_Row_leastStep_18_eq (d : Nat) (x1 : Nat) (x2 : Int32) (x3 : Int32) (x4 : Int32) (x5 : Int32) (x6 : Value) (σ : Sg) : f_Row_leastStep_18 d x1 x2 x3 x4 x5 x6 σ =
if x5 < 8 then (
gdK 4 x1 (
cI (f_Roll_relatedToAny d x1 x5 x2 σ) fun v2 σ1 =>
if (v2 &&& x4) = 0 then (
f_Row_leastStep_18 d x1 x2 x3 x4 (x5 + 1) (.int (v2 &&& x4)) σ1)
else (
bnd x3 24 (let σ3 := sI σ1 62 (ix x3) x5;
rI (v2 &&& x4) σ3))))
else (
rI 0 σ) :=
  evAt_un [18] 21 (jmp cd_143 18) [.ref 61, .ref x1, .int x2, .int x3, .int x4, .int x5, x6] [] σ
set_option maxRecDepth 20000 in
theorem f_N_those_eq (d : Nat) (a1 : Int32) (a2 : Int32) (σ : Sg) : f_N_those (d + 1) a1 a2 σ =
gdK 4 (σ.2.2 4 3) (
cI (f_Roll_has d (σ.2.2 4 3) a1 σ) fun v2 σ1 =>
if v2 = 0 then (
rI ((-1)) σ1)
else (
cI (f_Tape_has d a2 40 σ1) fun v4 σ3 =>
if v4 = 0 then (
rI ((-1)) σ3)
else (
cV (f_Tape_take d 0 a2 σ3) fun σ5 =>
gfS 4 (σ5.2.2 4 3) 1 fun v6 =>
ldI v6 a1 σ5 fun v7 =>
cI (f_Word_read d 49 v7 σ5) fun v9 σ8 =>
if v9 = 0 then (
cI (f_Word_leadOnRoll d 49 (σ8.2.2 4 3) a1 σ8) fun v11 σ10 =>
rI v11 σ10)
else (
rI v9 σ8)))) :=
  evAt_un [] 38 cd_144 [.ref 4, .int a1, .int a2, .null] [] σ
theorem f_Word_leadOnRoll_eq (d : Nat) (a0 : Nat) (a1 : Nat) (a2 : Int32) (σ : Sg) : f_Word_leadOnRoll (d + 1) a0 a1 a2 σ =
f_Word_leadOnRoll_7 d a0 a1 (.int a2) (1 <<< (a2 &&& 31)) 0 σ :=
  evAt_un [7] 8 cd_145 [.ref a0, .ref a1, .int a2, .null, .null] [] σ
theorem f_Word_leadOnRoll_7_eq (d : Nat) (x0 : Nat) (x1 : Nat) (x2 : Value) (x3 : Int32) (x4 : Int32) (σ : Sg) : f_Word_leadOnRoll_7 d x0 x1 x2 x3 x4 σ =
gfI 9 x0 0 σ fun v1 =>
if x4 < v1 then (
gfS 9 x0 1 fun v2 =>
ldI v2 x4 σ fun v3 =>
gdK 4 x1 (
cI (f_Roll_relatedToAny d x1 v3 x3 σ) fun v5 σ4 =>
f_Word_leadOnRoll_7 d x0 x1 (nlg x2) v5 (x4 + 1) σ4))
else (
rI x3 σ) :=
  evAt_un [7] 16 (jmp cd_145 7) [.ref x0, .ref x1, x2, .int x3, .int x4] [] σ
theorem f_N_mayWed_eq (d : Nat) (a1 : Int32) (σ : Sg) : f_N_mayWed (d + 1) a1 σ =
gdK 4 (σ.2.2 4 3) (
cI (f_Roll_has d (σ.2.2 4 3) a1 σ) fun v2 σ1 =>
if v2 = 0 then (
rI ((-1)) σ1)
else (
cI (f_Houses_suitable d (σ1.2.2 4 1) (σ1.2.2 4 3) a1 σ1) fun v4 σ3 =>
rI v4 σ3)) :=
  evAt_un [] 17 cd_146 [.ref 4, .int a1] [] σ
theorem f_Houses_suitable_eq (d : Nat) (a1 : Nat) (a2 : Nat) (a3 : Int32) (σ : Sg) : f_Houses_suitable (d + 1) a1 a2 a3 σ =
gfS 4 a2 5 fun v1 =>
ldI v1 a3 σ fun v2 =>
if v2 < 0 then (
gfS 4 a2 1 fun v3 =>
ldI v3 a3 σ fun v4 =>
bnd a3 24 (
cI (f_Houses_spouseNames d a1 v4 (σ.1 76 (ix a3)) σ) fun v6 σ5 =>
gdK 4 a2 (
cI (f_Roll_nearTo d a2 a3 σ5) fun v8 σ7 =>
f_Houses_suitable_42 d (.ref a1) a2 a3 v6 v8 0 0 .null σ7)))
else (
rI 0 σ) :=
  evAt_un [42] 26 cd_147 [.ref 75, .ref a1, .ref a2, .int a3, .null, .null, .null, .null, .null] [] σ
set_option maxRecDepth 20000 in
theorem f_Houses_suitable_42_eq (d : Nat) (x1 : Value) (x2 : Nat) (x3 : Int32) (x4 : Int32) (x5 : Int32) (x6 : Int32) (x7 : Int32) (x8 : Value) (σ : Sg) : f_Houses_suitable_42 d x1 x2 x3 x4 x5 x6 x7 x8 σ =
gfI 4 x2 0 σ fun v1 =>
if x7 < v1 then (
gfS 4 x2 1 fun v2 =>
ldI v2 x7 σ fun v3 =>
gfS 4 x2 1 fun v4 =>
ldI v4 x3 σ fun v5 =>
if v3 = v5 then (
if (0 : Int32) = 0 then (
f_Houses_suitable_42 d (x1) x2 x3 x4 x5 x6 (x7 + 1) (.int 0) σ)
else (
bnd x7 24 (
if ((σ.1 76 (ix x7)) &&& x4) = 0 then (
f_Houses_suitable_42 d (x1) x2 x3 x4 x5 x6 (x7 + 1) (.int 0) σ)
else (
f_Houses_suitable_42 d (x1) x2 x3 x4 x5 (x6 ||| (1 <<< (x7 &&& 31))) (x7 + 1) (.int 0) σ))))
else (
gfS 4 x2 5 fun v6 =>
ldI v6 x7 σ fun v7 =>
if v7 < 0 then (
if ((x5 >>> (x7 &&& 31)) &&& 1) = 0 then (
if (1 : Int32) = 0 then (
f_Houses_suitable_42 d (x1) x2 x3 x4 x5 x6 (x7 + 1) (.int 1) σ)
else (
bnd x7 24 (
if ((σ.1 76 (ix x7)) &&& x4) = 0 then (
f_Houses_suitable_42 d (x1) x2 x3 x4 x5 x6 (x7 + 1) (.int 1) σ)
else (
f_Houses_suitable_42 d (x1) x2 x3 x4 x5 (x6 ||| (1 <<< (x7 &&& 31))) (x7 + 1) (.int 1) σ))))
else (
if (0 : Int32) = 0 then (
f_Houses_suitable_42 d (x1) x2 x3 x4 x5 x6 (x7 + 1) (.int 0) σ)
else (
bnd x7 24 (
if ((σ.1 76 (ix x7)) &&& x4) = 0 then (
f_Houses_suitable_42 d (x1) x2 x3 x4 x5 x6 (x7 + 1) (.int 0) σ)
else (
f_Houses_suitable_42 d (x1) x2 x3 x4 x5 (x6 ||| (1 <<< (x7 &&& 31))) (x7 + 1) (.int 0) σ)))))
else (
if (0 : Int32) = 0 then (
f_Houses_suitable_42 d (x1) x2 x3 x4 x5 x6 (x7 + 1) (.int 0) σ)
else (
bnd x7 24 (
if ((σ.1 76 (ix x7)) &&& x4) = 0 then (
f_Houses_suitable_42 d (x1) x2 x3 x4 x5 x6 (x7 + 1) (.int 0) σ)
else (
f_Houses_suitable_42 d (x1) x2 x3 x4 x5 (x6 ||| (1 <<< (x7 &&& 31))) (x7 + 1) (.int 0) σ))))))
else (
rI x6 σ) :=
  evAt_un [42] 46 (jmp cd_147 42) [.ref 75, x1, .ref x2, .int x3, .int x4, .int x5, .int x6, .int x7, x8] [] σ
theorem f_Houses_spouseNames_eq (d : Nat) (a0 : Nat) (a1 : Int32) (a2 : Int32) (σ : Sg) : f_Houses_spouseNames (d + 1) a0 a1 a2 σ =
f_Houses_spouseNames_5 d a0 a1 a2 0 0 σ :=
  evAt_un [5] 6 cd_148 [.ref a0, .int a1, .int a2, .null, .null] [] σ
theorem f_Houses_spouseNames_5_eq (d : Nat) (x0 : Nat) (x1 : Int32) (x2 : Int32) (x3 : Int32) (x4 : Int32) (σ : Sg) : f_Houses_spouseNames_5 d x0 x1 x2 x3 x4 σ =
gfI 6 x0 0 σ fun v1 =>
if x4 < v1 then (
if ((x2 >>> (x4 &&& 31)) &&& 1) = 0 then (
f_Houses_spouseNames_5 d x0 x1 x2 x3 (x4 + 1) σ)
else (
gdK 6 x0 (
cI (f_Rule_spouse d x0 x1 x4 σ) fun v3 σ2 =>
f_Houses_spouseNames_5 d x0 x1 x2 (x3 ||| (1 <<< (v3 &&& 31))) (x4 + 1) σ2)))
else (
rI x3 σ) :=
  evAt_un [5] 23 (jmp cd_148 5) [.ref x0, .int x1, .int x2, .int x3, .int x4] [] σ
theorem f_Roll_nearTo_eq (d : Nat) (a0 : Nat) (a1 : Int32) (σ : Sg) : f_Roll_nearTo (d + 1) a0 a1 σ =
gfS 4 a0 3 fun v1 =>
ldI v1 a1 σ fun v2 =>
cI (f_Roll_bit d v2 σ) fun v4 σ3 =>
gfS 4 a0 4 fun v5 =>
ldI v5 a1 σ3 fun v6 =>
cI (f_Roll_bit d v6 σ3) fun v8 σ7 =>
gfS 4 a0 6 fun v9 =>
ldI v9 a1 σ7 fun v10 =>
gfS 4 a0 7 fun v11 =>
ldI v11 a1 σ7 fun v12 =>
rI (((v4 ||| v8) ||| v10) ||| v12) σ7 :=
  evAt_un [] 24 cd_149 [.ref a0, .int a1] [] σ
theorem f_N_weddings_eq (d : Nat) (σ : Sg) : f_N_weddings (d + 1) σ =
cI (f_Matches_most d (σ.2.2 4 1) (σ.2.2 4 3) σ) fun v2 σ1 =>
rI v2 σ1 :=
  evAt_un [] 12 cd_150 [.ref 4] [] σ
theorem f_Matches_most_eq (d : Nat) (a1 : Nat) (a2 : Nat) (σ : Sg) : f_Matches_most (d + 1) a1 a2 σ =
f_Matches_most_3 d a1 a2 0 .null σ :=
  evAt_un [3, 47] 4 cd_151 [.ref 82, .ref a1, .ref a2, .ref 75, .null, .null] [] σ
theorem f_Matches_most_3_eq (d : Nat) (x1 : Nat) (x2 : Nat) (x4 : Int32) (x5 : Value) (σ : Sg) : f_Matches_most_3 d x1 x2 x4 x5 σ =
gfI 4 x2 0 σ fun v1 =>
if x4 < v1 then (
cI (f_Houses_suitable d x1 x2 x4 σ) fun v3 σ2 =>
bnd x4 24 (let σ4 := sI σ2 83 (ix x4) v3;
bnd x4 24 (let σ5 := sI σ4 84 (ix x4) ((-1));
f_Matches_most_3 d x1 x2 (x4 + 1) (x5) σ5)))
else (
f_Matches_most_47 d (.ref x1) x2 0 0 σ) :=
  evAt_un [3, 47] 22 (jmp cd_151 3) [.ref 82, .ref x1, .ref x2, .ref 75, .int x4, x5] [] σ
theorem f_Matches_most_47_eq (d : Nat) (x1 : Value) (x2 : Nat) (x4 : Int32) (x5 : Int32) (σ : Sg) : f_Matches_most_47 d x1 x2 x4 x5 σ =
gfI 4 x2 0 σ fun v1 =>
if x5 < v1 then (
gfS 4 x2 1 fun v2 =>
ldI v2 x5 σ fun v3 =>
if v3 = 0 then (
gfI 4 x2 0 σ fun v4 =>
cI (f_Matches_findFor d x5 v4 σ) fun v6 σ5 =>
if v6 = 0 then (
f_Matches_most_47 d (x1) x2 x4 (x5 + 1) σ5)
else (
f_Matches_most_47 d (x1) x2 (x4 + 1) (x5 + 1) σ5))
else (
f_Matches_most_47 d (x1) x2 x4 (x5 + 1) σ))
else (
rI x4 σ) :=
  evAt_un [3, 47] 20 (jmp cd_151 47) [.ref 82, x1, .ref x2, .ref 75, .int x4, .int x5] [] σ
theorem f_Matches_findFor_eq (d : Nat) (a1 : Int32) (a2 : Int32) (σ : Sg) : f_Matches_findFor (d + 1) a1 a2 σ =
bnd 0 24 (let σ1 := sI σ 86 (ix 0) a1;
f_Matches_findFor_15 d (.int a1) a2 0 1 0 .null .null σ1) :=
  evAt_un [15, 41] 13 cd_152 [.ref 82, .int a1, .int a2, .null, .null, .null, .null, .null] [] σ
theorem f_Matches_findFor_15_eq (d : Nat) (x1 : Value) (x2 : Int32) (x3 : Int32) (x4 : Int32) (x5 : Int32) (x6 : Value) (x7 : Value) (σ : Sg) : f_Matches_findFor_15 d x1 x2 x3 x4 x5 x6 x7 σ =
if x5 < 24 then (
if x5 < x4 then (
bnd x5 24 (
f_Matches_findFor_41 d (x1) x2 x3 x4 x5 (σ.1 86 (ix x5)) 0 σ))
else (
rZ 0 σ))
else (
rZ 0 σ) :=
  evAt_un [15, 41] 15 (jmp cd_152 15) [.ref 82, x1, .int x2, .int x3, .int x4, .int x5, x6, x7] [] σ
set_option maxRecDepth 20000 in
theorem f_Matches_findFor_41_eq (d : Nat) (x1 : Value) (x2 : Int32) (x3 : Int32) (x4 : Int32) (x5 : Int32) (x6 : Int32) (x7 : Int32) (σ : Sg) : f_Matches_findFor_41 d x1 x2 x3 x4 x5 x6 x7 σ =
if x7 < x2 then (
bnd x6 24 (
if (((σ.1 83 (ix x6)) &&& (x3 ^^^ ((-1 : Int32)))) &&& (1 <<< (x7 &&& 31))) = 0 then (
f_Matches_findFor_41 d (x1) x2 x3 x4 x5 x6 (x7 + 1) σ)
else (
bnd x7 24 (let σ1 := sI σ 85 (ix x7) x6;
bnd x7 24 (
if (σ1.1 84 (ix x7)) = ((-1 : Int32)) then (
cV (f_Matches_giveWay d x7 σ1) fun σ2 =>
rZ 1 σ2)
else (
if x4 < 24 then (
bnd x7 24 (
bnd x4 24 (let σ3 := sI σ1 86 (ix x4) (σ1.1 84 (ix x7));
f_Matches_findFor_41 d (x1) x2 (x3 ||| (1 <<< (x7 &&& 31))) (x4 + 1) x5 x6 (x7 + 1) σ3)))
else (
f_Matches_findFor_41 d (x1) x2 (x3 ||| (1 <<< (x7 &&& 31))) x4 x5 x6 (x7 + 1) σ1)))))))
else (
f_Matches_findFor_15 d (x1) x2 x3 x4 (x5 + 1) (.int x6) (.int x7) σ) :=
  evAt_un [15, 41] 49 (jmp cd_152 41) [.ref 82, x1, .int x2, .int x3, .int x4, .int x5, .int x6, .int x7] [] σ
theorem f_Matches_giveWay_eq (d : Nat) (a1 : Int32) (σ : Sg) : f_Matches_giveWay (d + 1) a1 σ =
f_Matches_giveWay_4 d (.int a1) a1 0 .null .null σ :=
  evAt_un [4] 6 cd_153 [.ref 82, .int a1, .null, .null, .null, .null] [] σ
theorem f_Matches_giveWay_4_eq (d : Nat) (x1 : Value) (x2 : Int32) (x3 : Int32) (x4 : Value) (x5 : Value) (σ : Sg) : f_Matches_giveWay_4 d x1 x2 x3 x4 x5 σ =
if x3 < 24 then (
if x2 = ((-1 : Int32)) then (
rV σ)
else (
bnd x2 24 (
bnd (σ.1 85 (ix x2)) 24 (
bnd (σ.1 85 (ix x2)) 24 (let σ1 := sI σ 84 (ix (σ.1 85 (ix x2))) x2;
bnd x2 24 (let σ2 := sI σ1 84 (ix x2) (σ.1 85 (ix x2));
f_Matches_giveWay_4 d (nlg x1) (σ.1 84 (ix (σ.1 85 (ix x2)))) (x3 + 1) (.int (σ.1 85 (ix x2))) (.int (σ.1 84 (ix (σ.1 85 (ix x2))))) σ2))))))
else (
rV σ) :=
  evAt_un [4] 32 (jmp cd_153 4) [.ref 82, x1, .int x2, .int x3, x4, x5] [] σ
theorem f_N_line_eq (d : Nat) (a1 : Int32) (a2 : Int32) (σ : Sg) : f_N_line (d + 1) a1 a2 σ =
gdK 4 (σ.2.2 4 3) (
cI (f_Roll_has d (σ.2.2 4 3) a1 σ) fun v2 σ1 =>
if v2 = 0 then (
rI ((-1)) σ1)
else (
if a2 = 0 then (
gdK 4 (σ1.2.2 4 3) (
cI (f_Roll_comeFrom d (σ1.2.2 4 3) a1 σ1) fun v4 σ3 =>
cI (f_Integer_bitCount d v4 σ3) fun v6 σ5 =>
rI v6 σ5))
else if a2 = 1 then (
gdK 4 (σ1.2.2 4 3) (
cI (f_Roll_aheadOf d (σ1.2.2 4 3) a1 σ1) fun v8 σ7 =>
cI (f_Integer_bitCount d v8 σ7) fun v10 σ9 =>
rI v10 σ9))
else if a2 = 2 then (
gdK 4 (σ1.2.2 4 3) (
cI (f_Roll_generation d (σ1.2.2 4 3) a1 σ1) fun v12 σ11 =>
rI v12 σ11))
else (
rI ((-1)) σ1))) :=
  evAt_un [] 15 cd_154 [.ref 4, .int a1, .int a2] [] σ
theorem f_Roll_comeFrom_eq (d : Nat) (a0 : Nat) (a1 : Int32) (σ : Sg) : f_Roll_comeFrom (d + 1) a0 a1 σ =
gfS 4 a0 6 fun v1 =>
ldI v1 a1 σ fun v2 =>
f_Roll_comeFrom_11 d a0 (.int a1) v2 (a1 + 1) σ :=
  evAt_un [11] 11 cd_155 [.ref a0, .int a1, .null, .null] [] σ
theorem f_Roll_comeFrom_11_eq (d : Nat) (x0 : Nat) (x1 : Value) (x2 : Int32) (x3 : Int32) (σ : Sg) : f_Roll_comeFrom_11 d x0 x1 x2 x3 σ =
gfI 4 x0 0 σ fun v1 =>
if x3 < v1 then (
if ((x2 >>> (x3 &&& 31)) &&& 1) = 0 then (
f_Roll_comeFrom_11 d x0 (x1) x2 (x3 + 1) σ)
else (
gfS 4 x0 6 fun v2 =>
ldI v2 x3 σ fun v3 =>
f_Roll_comeFrom_11 d x0 (nlg x1) (x2 ||| v3) (x3 + 1) σ))
else (
rI x2 σ) :=
  evAt_un [11] 21 (jmp cd_155 11) [.ref x0, x1, .int x2, .int x3] [] σ
theorem f_Roll_aheadOf_eq (d : Nat) (a0 : Nat) (a1 : Int32) (σ : Sg) : f_Roll_aheadOf (d + 1) a0 a1 σ =
gfS 4 a0 3 fun v1 =>
ldI v1 a1 σ fun v2 =>
cI (f_Roll_bit d v2 σ) fun v4 σ3 =>
gfS 4 a0 4 fun v5 =>
ldI v5 a1 σ3 fun v6 =>
cI (f_Roll_bit d v6 σ3) fun v8 σ7 =>
f_Roll_aheadOf_24 d a0 (.int a1) (v4 ||| v8) (a1 - 1) σ7 :=
  evAt_un [24] 18 cd_156 [.ref a0, .int a1, .null, .null] [] σ
theorem f_Roll_aheadOf_24_eq (d : Nat) (x0 : Nat) (x1 : Value) (x2 : Int32) (x3 : Int32) (σ : Sg) : f_Roll_aheadOf_24 d x0 x1 x2 x3 σ =
if x3 < 0 then (
rI x2 σ)
else (
if ((x2 >>> (x3 &&& 31)) &&& 1) = 0 then (
f_Roll_aheadOf_24 d x0 (x1) x2 (x3 + (-1)) σ)
else (
gfS 4 x0 3 fun v1 =>
ldI v1 x3 σ fun v2 =>
cI (f_Roll_bit d v2 σ) fun v4 σ3 =>
gfS 4 x0 4 fun v5 =>
ldI v5 x3 σ3 fun v6 =>
cI (f_Roll_bit d v6 σ3) fun v8 σ7 =>
f_Roll_aheadOf_24 d x0 (nlg x1) (x2 ||| (v4 ||| v8)) (x3 + (-1)) σ7)) :=
  evAt_un [24] 26 (jmp cd_156 24) [.ref x0, x1, .int x2, .int x3] [] σ
theorem f_Roll_generation_eq (d : Nat) (a0 : Nat) (a1 : Int32) (σ : Sg) : f_Roll_generation (d + 1) a0 a1 σ =
f_Roll_generation_6 d a0 (.int a1) (1 <<< (a1 &&& 31)) 0 σ :=
  evAt_un [6] 8 cd_157 [.ref a0, .int a1, .null, .null] [] σ
theorem f_Roll_generation_6_eq (d : Nat) (x0 : Nat) (x1 : Value) (x2 : Int32) (x3 : Int32) (σ : Sg) : f_Roll_generation_6 d x0 x1 x2 x3 σ =
if x3 < 24 then (
gdK 4 x0 (
cI (f_Roll_relatedToAny d x0 0 x2 σ) fun v2 σ1 =>
gdK 4 x0 (
cI (f_Roll_relatedToAny d x0 1 x2 σ1) fun v4 σ3 =>
if (v2 ||| v4) = 0 then (
rI x3 σ3)
else (
f_Roll_generation_6 d x0 (nlg x1) (v2 ||| v4) (x3 + 1) σ3))))
else (
rI 0 σ) :=
  evAt_un [6] 19 (jmp cd_157 6) [.ref x0, x1, .int x2, .int x3] [] σ
theorem f_N_years_eq (d : Nat) (a1 : Int32) (σ : Sg) : f_N_years (d + 1) a1 σ =
cI (f_N_isYears d a1 σ) fun v2 σ1 =>
if v2 = 0 then (
rI ((-1)) σ1)
else (
cV (f_Village_goBy d 87 (σ1.2.2 4 1) (σ1.2.2 4 5) a1 σ1) fun σ3 =>
rI (σ3.1 87 5) σ3) :=
  evAt_un [] 17 cd_158 [.ref 4, .int a1] [] σ
theorem f_N_isYears_eq (d : Nat) (a0 : Int32) (σ : Sg) : f_N_isYears (d + 1) a0 σ =
if a0 < 1 then (
rZ 0 σ)
else (
if 100 < a0 then (
rZ 0 σ)
else (
rZ 1 σ)) :=
  evAt_un [] 11 cd_159 [.int a0] [] σ
theorem f_Village_goBy_eq (d : Nat) (a0 : Nat) (a1 : Nat) (a2 : Nat) (a3 : Int32) (σ : Sg) : f_Village_goBy (d + 1) a0 a1 a2 a3 σ =
pfI 8 a0 5 0 σ fun σ1 =>
pfI 8 a0 6 0 σ1 fun σ2 =>
pfI 8 a0 7 0 σ2 fun σ3 =>
f_Village_goBy_18 d a0 a1 a2 a3 0 .null σ3 :=
  evAt_un [18, 37, 70, 103] 13 cd_160 [.ref a0, .ref a1, .ref a2, .int a3, .null, .null] [] σ
theorem f_Village_goBy_18_eq (d : Nat) (x0 : Nat) (x1 : Nat) (x2 : Nat) (x3 : Int32) (x4 : Int32) (x5 : Value) (σ : Sg) : f_Village_goBy_18 d x0 x1 x2 x3 x4 x5 σ =
if x4 < x3 then (
gfI 8 x0 3 σ fun v1 =>
if v1 < 9999 then (
f_Village_goBy_37 d x0 x1 x2 x3 x4 0 σ)
else (
rV σ))
else (
rV σ) :=
  evAt_un [18, 37, 70, 103] 11 (jmp cd_160 18) [.ref x0, .ref x1, .ref x2, .int x3, .int x4, x5] [] σ
theorem f_Village_goBy_37_eq (d : Nat) (x0 : Nat) (x1 : Nat) (x2 : Nat) (x3 : Int32) (x4 : Int32) (x5 : Int32) (σ : Sg) : f_Village_goBy_37 d x0 x1 x2 x3 x4 x5 σ =
gfI 6 x1 0 σ fun v1 =>
if x5 < v1 then (
gdK 8 x0 (
cV (f_Village_draw d x0 x1 x5 σ) fun σ2 =>
gdK 8 x0 (
cV (f_Village_wedSome d x0 x1 x2 x5 σ2) fun σ3 =>
f_Village_goBy_37 d x0 x1 x2 x3 x4 (x5 + 1) σ3)))
else (
f_Village_goBy_70 d x0 x1 x2 x3 x4 0 σ) :=
  evAt_un [18, 37, 70, 103] 17 (jmp cd_160 37) [.ref x0, .ref x1, .ref x2, .int x3, .int x4, .int x5] [] σ
theorem f_Village_goBy_70_eq (d : Nat) (x0 : Nat) (x1 : Nat) (x2 : Nat) (x3 : Int32) (x4 : Int32) (x5 : Int32) (σ : Sg) : f_Village_goBy_70 d x0 x1 x2 x3 x4 x5 σ =
gfI 6 x1 0 σ fun v1 =>
if x5 < v1 then (
gdK 8 x0 (
cV (f_Village_draw d x0 x1 x5 σ) fun σ2 =>
gdK 8 x0 (
cV (f_Village_bearSome d x0 x1 x2 x5 σ2) fun σ3 =>
f_Village_goBy_70 d x0 x1 x2 x3 x4 (x5 + 1) σ3)))
else (
f_Village_goBy_103 d x0 x1 x2 x3 x4 0 σ) :=
  evAt_un [18, 37, 70, 103] 17 (jmp cd_160 70) [.ref x0, .ref x1, .ref x2, .int x3, .int x4, .int x5] [] σ
theorem f_Village_goBy_103_eq (d : Nat) (x0 : Nat) (x1 : Nat) (x2 : Nat) (x3 : Int32) (x4 : Int32) (x5 : Int32) (σ : Sg) : f_Village_goBy_103 d x0 x1 x2 x3 x4 x5 σ =
gfI 6 x1 0 σ fun v1 =>
if x5 < v1 then (
gdK 8 x0 (
cV (f_Village_draw d x0 x1 x5 σ) fun σ2 =>
gdK 8 x0 (
cV (f_Village_dieSome d x0 x2 x5 σ2) fun σ3 =>
f_Village_goBy_103 d x0 x1 x2 x3 x4 (x5 + 1) σ3)))
else (
gfI 8 x0 3 σ fun v4 =>
pfI 8 x0 3 (v4 + 1) σ fun σ5 =>
f_Village_goBy_18 d x0 x1 x2 x3 (x4 + 1) (.int x5) σ5) :=
  evAt_un [18, 37, 70, 103] 16 (jmp cd_160 103) [.ref x0, .ref x1, .ref x2, .int x3, .int x4, .int x5] [] σ
set_option maxRecDepth 20000 in
theorem f_Village_draw_eq (d : Nat) (a0 : Nat) (a1 : Nat) (a2 : Int32) (σ : Sg) : f_Village_draw (d + 1) a0 a1 a2 σ =
gfI 8 a0 4 σ fun v1 =>
rmI ((25173 * v1) + 13849) 65536 fun v2 =>
pfI 8 a0 4 v2 σ fun σ3 =>
gfS 8 a0 8 fun v4 =>
stI v4 0 a2 σ3 fun σ5 =>
gfS 8 a0 8 fun v6 =>
gfS 8 a0 0 fun v7 =>
ldI v7 a2 σ5 fun v8 =>
stI v6 1 v8 σ5 fun σ9 =>
gfS 8 a0 8 fun v10 =>
gfS 8 a0 1 fun v11 =>
gfS 6 a1 1 fun v12 =>
ldI v12 a2 σ9 fun v13 =>
ldI v11 v13 σ9 fun v14 =>
stI v10 2 v14 σ9 fun σ15 =>
gfS 8 a0 8 fun v16 =>
gfS 8 a0 2 fun v17 =>
ldI v17 a2 σ15 fun v18 =>
stI v16 3 v18 σ15 fun σ19 =>
gfS 8 a0 8 fun v20 =>
gdK 8 a0 (
cI (f_Village_allOf d a0 a1 a2 σ19) fun v22 σ21 =>
stI v20 4 v22 σ21 fun σ23 =>
gfS 8 a0 8 fun v24 =>
gdK 8 a0 (
cI (f_Village_all d a0 σ23) fun v26 σ25 =>
stI v24 5 v26 σ25 fun σ27 =>
gfS 8 a0 8 fun v28 =>
gfI 8 a0 3 σ27 fun v29 =>
rmI v29 100 fun v30 =>
stI v28 6 v30 σ27 fun σ31 =>
gfS 8 a0 8 fun v32 =>
gfI 8 a0 4 σ31 fun v33 =>
rmI v33 10 fun v34 =>
stI v32 7 v34 σ31 fun σ35 =>
rV σ35)) :=
  evAt_un [] 75 cd_161 [.ref a0, .ref a1, .int a2] [] σ
theorem f_Village_allOf_eq (d : Nat) (a0 : Nat) (a1 : Nat) (a2 : Int32) (σ : Sg) : f_Village_allOf (d + 1) a0 a1 a2 σ =
gfS 8 a0 0 fun v1 =>
ldI v1 a2 σ fun v2 =>
gfS 8 a0 1 fun v3 =>
ldI v3 a2 σ fun v4 =>
gfS 8 a0 2 fun v5 =>
ldI v5 a2 σ fun v6 =>
gfS 8 a0 2 fun v7 =>
gfS 6 a1 2 fun v8 =>
ldI v8 a2 σ fun v9 =>
ldI v7 v9 σ fun v10 =>
rI (((v2 + v4) + v6) + v10) σ :=
  evAt_un [] 25 cd_162 [.ref a0, .ref a1, .int a2] [] σ
theorem f_Village_all_eq (d : Nat) (a0 : Nat) (σ : Sg) : f_Village_all (d + 1) a0 σ =
f_Village_all_4 d a0 0 0 σ :=
  evAt_un [4] 6 cd_163 [.ref a0, .null, .null] [] σ
theorem f_Village_all_4_eq (d : Nat) (x0 : Nat) (x1 : Int32) (x2 : Int32) (σ : Sg) : f_Village_all_4 d x0 x1 x2 σ =
if x2 < 6 then (
gfS 8 x0 0 fun v1 =>
ldI v1 x2 σ fun v2 =>
gfS 8 x0 1 fun v3 =>
ldI v3 x2 σ fun v4 =>
gfS 8 x0 2 fun v5 =>
ldI v5 x2 σ fun v6 =>
f_Village_all_4 d x0 (x1 + ((v2 + v4) + (2 * v6))) (x2 + 1) σ)
else (
rI x1 σ) :=
  evAt_un [4] 26 (jmp cd_163 4) [.ref x0, .int x1, .int x2] [] σ
set_option maxRecDepth 20000 in
theorem f_Village_wedSome_eq (d : Nat) (a0 : Nat) (a1 : Nat) (a2 : Nat) (a3 : Int32) (σ : Sg) : f_Village_wedSome (d + 1) a0 a1 a2 a3 σ =
gfS 8 a0 8 fun v1 =>
gdK 2 a2 (
cI (f_Law_anyHolds d a2 120 v1 σ) fun v3 σ2 =>
if v3 = 0 then (
gfS 6 a1 1 fun v4 =>
ldI v4 a3 σ2 fun v5 =>
gfS 8 a0 0 fun v6 =>
ldI v6 a3 σ2 fun v7 =>
gfS 8 a0 1 fun v8 =>
ldI v8 v5 σ2 fun v9 =>
gfS 8 a0 8 fun v10 =>
gdK 2 a2 (
cI (f_Law_worth d a2 119 v10 50 100 σ2) fun v12 σ11 =>
dvI ((mnI v7 v9) * v12) 100 fun v13 =>
gfS 8 a0 2 fun v14 =>
ldI v14 a3 σ11 fun v15 =>
gfS 8 a0 0 fun v16 =>
ldI v16 a3 σ11 fun v17 =>
stI v16 a3 (v17 - (mnI v13 (9999 - v15))) σ11 fun σ18 =>
gfS 8 a0 1 fun v19 =>
ldI v19 v5 σ18 fun v20 =>
stI v19 v5 (v20 - (mnI v13 (9999 - v15))) σ18 fun σ21 =>
gfS 8 a0 2 fun v22 =>
ldI v22 a3 σ21 fun v23 =>
stI v22 a3 (v23 + (mnI v13 (9999 - v15))) σ21 fun σ24 =>
gfI 8 a0 5 σ24 fun v25 =>
pfI 8 a0 5 (v25 + (mnI v13 (9999 - v15))) σ24 fun σ26 =>
rV σ26))
else (
rV σ2)) :=
  evAt_un [] 75 cd_164 [.ref a0, .ref a1, .ref a2, .int a3, .null, .null, .null] [] σ
theorem f_Law_anyHolds_eq (d : Nat) (a0 : Nat) (a1 : Int32) (a2 : Nat) (σ : Sg) : f_Law_anyHolds (d + 1) a0 a1 a2 σ =
f_Law_anyHolds_2 d a0 a1 a2 0 σ :=
  evAt_un [2] 4 cd_165 [.ref a0, .int a1, .ref a2, .null] [] σ
theorem f_Law_anyHolds_2_eq (d : Nat) (x0 : Nat) (x1 : Int32) (x2 : Nat) (x3 : Int32) (σ : Sg) : f_Law_anyHolds_2 d x0 x1 x2 x3 σ =
gfI 2 x0 0 σ fun v1 =>
if x3 < v1 then (
gfS 2 x0 1 fun v2 =>
ldI v2 x3 σ fun v3 =>
if v3 = x1 then (
gfS 2 x0 3 fun v4 =>
ldI v4 x3 σ fun v5 =>
gfS 2 x0 4 fun v6 =>
ldI v6 x3 σ fun v7 =>
gdK 2 x0 (
cI (f_Law_run d x0 v5 v7 x2 σ) fun v9 σ8 =>
if v9 = 0 then (
f_Law_anyHolds_2 d x0 x1 x2 (x3 + 1) σ8)
else (
rZ 1 σ8)))
else (
f_Law_anyHolds_2 d x0 x1 x2 (x3 + 1) σ))
else (
rZ 0 σ) :=
  evAt_un [2] 26 (jmp cd_165 2) [.ref x0, .int x1, .ref x2, .int x3] [] σ
theorem f_Law_run_eq (d : Nat) (a0 : Nat) (a1 : Int32) (a2 : Int32) (a3 : Nat) (σ : Sg) : f_Law_run (d + 1) a0 a1 a2 a3 σ =
pfI 2 a0 9 0 σ fun σ1 =>
pfZ 2 a0 10 0 σ1 fun σ2 =>
f_Law_run_16 d a0 (.int a1) a2 a3 a1 a1 .null σ2 :=
  evAt_un [16] 12 cd_166 [.ref a0, .int a1, .int a2, .ref a3, .null, .null, .null] [] σ
set_option maxRecDepth 20000 in
theorem f_Law_run_16_eq (d : Nat) (x0 : Nat) (x1 : Value) (x2 : Int32) (x3 : Nat) (x4 : Int32) (x5 : Int32) (x6 : Value) (σ : Sg) : f_Law_run_16 d x0 x1 x2 x3 x4 x5 x6 σ =
if x5 < x2 then (
gfI 2 x0 10 σ fun v1 =>
if v1 = 0 then (
if x5 < x4 then (
f_Law_run_16 d x0 (x1) x2 x3 x4 (x5 + 1) (x6) σ)
else (
gfS 2 x0 6 fun v2 =>
ldC v2 x5 σ fun v3 =>
if v3 = 33 then (
gdK 2 x0 (
cI (f_Law_pop d x0 σ) fun v5 σ4 =>
gdK 2 x0 (
cV (f_Law_push d x0 (1 - v5) σ4) fun σ6 =>
f_Law_run_16 d x0 (x1) x2 x3 x4 (x5 + 1) (x6) σ6)))
else if v3 = 35 then (
gfS 2 x0 7 fun v7 =>
ldI v7 x5 σ fun v8 =>
gdK 2 x0 (
cV (f_Law_push d x0 v8 σ) fun σ9 =>
f_Law_run_16 d x0 (x1) x2 x3 x4 (x5 + 1) (x6) σ9))
else if v3 = 38 then (
gdK 2 x0 (
cI (f_Law_top d x0 σ) fun v11 σ10 =>
if v11 = 0 then (
gfS 2 x0 6 fun v12 =>
ldC v12 x5 σ10 fun v13 =>
if v13 = 124 then (
if (0 : Int32) = 1 then (
gfS 2 x0 7 fun v14 =>
ldI v14 x5 σ10 fun v15 =>
f_Law_run_16 d x0 (x1) x2 x3 v15 (x5 + 1) (x6) σ10)
else (
gdK 2 x0 (
cI (f_Law_pop d x0 σ10) fun v17 σ16 =>
f_Law_run_16 d x0 (x1) x2 x3 x4 (x5 + 1) (x6) σ16)))
else (
if (0 : Int32) = 0 then (
gfS 2 x0 7 fun v18 =>
ldI v18 x5 σ10 fun v19 =>
f_Law_run_16 d x0 (x1) x2 x3 v19 (x5 + 1) (x6) σ10)
else (
gdK 2 x0 (
cI (f_Law_pop d x0 σ10) fun v21 σ20 =>
f_Law_run_16 d x0 (x1) x2 x3 x4 (x5 + 1) (x6) σ20))))
else (
gfS 2 x0 6 fun v22 =>
ldC v22 x5 σ10 fun v23 =>
if v23 = 124 then (
if (1 : Int32) = 1 then (
gfS 2 x0 7 fun v24 =>
ldI v24 x5 σ10 fun v25 =>
f_Law_run_16 d x0 (x1) x2 x3 v25 (x5 + 1) (x6) σ10)
else (
gdK 2 x0 (
cI (f_Law_pop d x0 σ10) fun v27 σ26 =>
f_Law_run_16 d x0 (x1) x2 x3 x4 (x5 + 1) (x6) σ26)))
else (
if (1 : Int32) = 0 then (
gfS 2 x0 7 fun v28 =>
ldI v28 x5 σ10 fun v29 =>
f_Law_run_16 d x0 (x1) x2 x3 v29 (x5 + 1) (x6) σ10)
else (
gdK 2 x0 (
cI (f_Law_pop d x0 σ10) fun v31 σ30 =>
f_Law_run_16 d x0 (x1) x2 x3 x4 (x5 + 1) (x6) σ30))))))
else if v3 = 97 then (
gfS 2 x0 7 fun v32 =>
ldI v32 x5 σ fun v33 =>
ldI x3 v33 σ fun v34 =>
gdK 2 x0 (
cV (f_Law_push d x0 v34 σ) fun σ35 =>
f_Law_run_16 d x0 (x1) x2 x3 x4 (x5 + 1) (x6) σ35))
else if v3 = 124 then (
gdK 2 x0 (
cI (f_Law_top d x0 σ) fun v37 σ36 =>
if v37 = 0 then (
gfS 2 x0 6 fun v38 =>
ldC v38 x5 σ36 fun v39 =>
if v39 = 124 then (
if (0 : Int32) = 1 then (
gfS 2 x0 7 fun v40 =>
ldI v40 x5 σ36 fun v41 =>
f_Law_run_16 d x0 (x1) x2 x3 v41 (x5 + 1) (x6) σ36)
else (
gdK 2 x0 (
cI (f_Law_pop d x0 σ36) fun v43 σ42 =>
f_Law_run_16 d x0 (x1) x2 x3 x4 (x5 + 1) (x6) σ42)))
else (
if (0 : Int32) = 0 then (
gfS 2 x0 7 fun v44 =>
ldI v44 x5 σ36 fun v45 =>
f_Law_run_16 d x0 (x1) x2 x3 v45 (x5 + 1) (x6) σ36)
else (
gdK 2 x0 (
cI (f_Law_pop d x0 σ36) fun v47 σ46 =>
f_Law_run_16 d x0 (x1) x2 x3 x4 (x5 + 1) (x6) σ46))))
else (
gfS 2 x0 6 fun v48 =>
ldC v48 x5 σ36 fun v49 =>
if v49 = 124 then (
if (1 : Int32) = 1 then (
gfS 2 x0 7 fun v50 =>
ldI v50 x5 σ36 fun v51 =>
f_Law_run_16 d x0 (x1) x2 x3 v51 (x5 + 1) (x6) σ36)
else (
gdK 2 x0 (
cI (f_Law_pop d x0 σ36) fun v53 σ52 =>
f_Law_run_16 d x0 (x1) x2 x3 x4 (x5 + 1) (x6) σ52)))
else (
if (1 : Int32) = 0 then (
gfS 2 x0 7 fun v54 =>
ldI v54 x5 σ36 fun v55 =>
f_Law_run_16 d x0 (x1) x2 x3 v55 (x5 + 1) (x6) σ36)
else (
gdK 2 x0 (
cI (f_Law_pop d x0 σ36) fun v57 σ56 =>
f_Law_run_16 d x0 (x1) x2 x3 x4 (x5 + 1) (x6) σ56))))))
else (
gdK 2 x0 (
cI (f_Law_pop d x0 σ) fun v59 σ58 =>
gfS 2 x0 6 fun v60 =>
ldC v60 x5 σ58 fun v61 =>
gdK 2 x0 (
cI (f_Law_pop d x0 σ58) fun v63 σ62 =>
gdK 2 x0 (
cI (f_Law_reckon d x0 v61 v63 v59 σ62) fun v65 σ64 =>
gdK 2 x0 (
cV (f_Law_push d x0 v65 σ64) fun σ66 =>
f_Law_run_16 d x0 (x1) x2 x3 x4 (x5 + 1) (.int v59) σ66)))))))
else (
gfI 2 x0 10 σ fun v67 =>
if v67 = 0 then (
gdK 2 x0 (
cI (f_Law_top d x0 σ) fun v69 σ68 =>
rI v69 σ68))
else (
rI 0 σ)))
else (
gfI 2 x0 10 σ fun v70 =>
if v70 = 0 then (
gdK 2 x0 (
cI (f_Law_top d x0 σ) fun v72 σ71 =>
rI v72 σ71))
else (
rI 0 σ)) :=
  evAt_un [16] 38 (jmp cd_166 16) [.ref x0, x1, .int x2, .ref x3, .int x4, .int x5, x6] [] σ
theorem f_Law_push_eq (d : Nat) (a0 : Nat) (a1 : Int32) (σ : Sg) : f_Law_push (d + 1) a0 a1 σ =
gfI 2 a0 9 σ fun v1 =>
gfS 2 a0 8 fun v2 =>
aln v2 fun v3 =>
if v1 < v3 then (
gfS 2 a0 8 fun v4 =>
gfI 2 a0 9 σ fun v5 =>
pfI 2 a0 9 (v5 + 1) σ fun σ6 =>
stI v4 v5 a1 σ6 fun σ7 =>
rV σ7)
else (
rV σ) :=
  evAt_un [] 20 cd_167 [.ref a0, .int a1] [] σ
theorem f_Law_pop_eq (d : Nat) (a0 : Nat) (σ : Sg) : f_Law_pop (d + 1) a0 σ =
gdK 2 a0 (
cI (f_Law_top d a0 σ) fun v2 σ1 =>
gfI 2 a0 9 σ1 fun v3 =>
pfI 2 a0 9 (mxI 0 (v3 - 1)) σ1 fun σ4 =>
rI v2 σ4) :=
  evAt_un [] 15 cd_168 [.ref a0, .null] [] σ
theorem f_Law_top_eq (d : Nat) (a0 : Nat) (σ : Sg) : f_Law_top (d + 1) a0 σ =
gfI 2 a0 9 σ fun v1 =>
if 0 < v1 then (
gfS 2 a0 8 fun v2 =>
gfI 2 a0 9 σ fun v3 =>
ldI v2 (v3 - 1) σ fun v4 =>
rI v4 σ)
else (
rI 0 σ) :=
  evAt_un [] 14 cd_169 [.ref a0] [] σ
theorem f_Law_reckon_eq (d : Nat) (a0 : Nat) (a1 : Int32) (a2 : Int32) (a3 : Int32) (σ : Sg) : f_Law_reckon (d + 1) a0 a1 a2 a3 σ =
if a1 = 42 then (
rI (a2 * a3) σ)
else if a1 = 43 then (
rI (a2 + a3) σ)
else if a1 = 45 then (
rI (a2 - a3) σ)
else if a1 = 60 then (
if a2 < a3 then (
rI 1 σ)
else (
rI 0 σ))
else if a1 = 61 then (
if a2 = a3 then (
rI 1 σ)
else (
rI 0 σ))
else if a1 = 62 then (
if a3 < a2 then (
rI 1 σ)
else (
rI 0 σ))
else (
if a3 = 0 then (
pfZ 2 a0 10 1 σ fun σ1 =>
rI 0 σ1)
else (
if a1 = 47 then (
dvI a2 a3 fun v2 =>
rI v2 σ)
else (
rmI a2 a3 fun v3 =>
rI v3 σ))) :=
  evAt_un [] 14 cd_170 [.ref a0, .int a1, .int a2, .int a3] [] σ
theorem f_Law_worth_eq (d : Nat) (a0 : Nat) (a1 : Int32) (a2 : Nat) (a3 : Int32) (a4 : Int32) (σ : Sg) : f_Law_worth (d + 1) a0 a1 a2 a3 a4 σ =
f_Law_worth_3 d a0 a1 a2 a3 a4 0 .null σ :=
  evAt_un [3] 4 cd_171 [.ref a0, .int a1, .ref a2, .int a3, .int a4, .null, .null] [] σ
set_option maxRecDepth 20000 in
theorem f_Law_worth_3_eq (d : Nat) (x0 : Nat) (x1 : Int32) (x2 : Nat) (x3 : Int32) (x4 : Int32) (x5 : Int32) (x6 : Value) (σ : Sg) : f_Law_worth_3 d x0 x1 x2 x3 x4 x5 x6 σ =
gfI 2 x0 0 σ fun v1 =>
if x5 < v1 then (
gfS 2 x0 1 fun v2 =>
ldI v2 x5 σ fun v3 =>
if v3 = x1 then (
gfS 2 x0 3 fun v4 =>
ldI v4 x5 σ fun v5 =>
gfS 2 x0 4 fun v6 =>
ldI v6 x5 σ fun v7 =>
gdK 2 x0 (
cI (f_Law_run d x0 v5 v7 x2 σ) fun v9 σ8 =>
if v9 = 0 then (
f_Law_worth_3 d x0 x1 x2 x3 x4 (x5 + 1) (x6) σ8)
else (
gfS 2 x0 2 fun v10 =>
ldI v10 x5 σ8 fun v11 =>
gfS 2 x0 3 fun v12 =>
ldI v12 x5 σ8 fun v13 =>
gdK 2 x0 (
cI (f_Law_run d x0 v11 v13 x2 σ8) fun v15 σ14 =>
rI (mxI 0 (mnI v15 x4)) σ14))))
else (
f_Law_worth_3 d x0 x1 x2 x3 x4 (x5 + 1) (x6) σ))
else (
rI x3 σ) :=
  evAt_un [3] 42 (jmp cd_171 3) [.ref x0, .int x1, .ref x2, .int x3, .int x4, .int x5, x6] [] σ
set_option maxRecDepth 20000 in
theorem f_Village_bearSome_eq (d : Nat) (a0 : Nat) (a1 : Nat) (a2 : Nat) (a3 : Int32) (σ : Sg) : f_Village_bearSome (d + 1) a0 a1 a2 a3 σ =
gfS 8 a0 2 fun v1 =>
ldI v1 a3 σ fun v2 =>
gfS 8 a0 8 fun v3 =>
gdK 2 a2 (
cI (f_Law_worth d a2 98 v3 40 300 σ) fun v5 σ4 =>
dvI (v2 * v5) 100 fun v6 =>
gfS 8 a0 8 fun v7 =>
ldI v7 7 σ4 fun v8 =>
rmI v8 2 fun v9 =>
if v9 = 0 then (
dvI v6 2 fun v10 =>
gfS 6 a1 3 fun v11 =>
gfS 6 a1 1 fun v12 =>
ldI v12 a3 σ4 fun v13 =>
ldI v11 v13 σ4 fun v14 =>
gfS 8 a0 0 fun v15 =>
gfS 8 a0 0 fun v16 =>
ldI v16 v14 σ4 fun v17 =>
stI v15 v14 (mnI 9999 (v17 + (v6 - v10))) σ4 fun σ18 =>
gfS 8 a0 1 fun v19 =>
gfS 8 a0 1 fun v20 =>
ldI v20 v14 σ18 fun v21 =>
stI v19 v14 (mnI 9999 ((v21 + v6) - (v6 - v10))) σ18 fun σ22 =>
gfI 8 a0 6 σ22 fun v23 =>
pfI 8 a0 6 (v23 + v6) σ22 fun σ24 =>
rV σ24)
else (
dvI v6 2 fun v25 =>
gfS 6 a1 3 fun v26 =>
gfS 6 a1 1 fun v27 =>
ldI v27 a3 σ4 fun v28 =>
ldI v26 v28 σ4 fun v29 =>
gfS 8 a0 0 fun v30 =>
gfS 8 a0 0 fun v31 =>
ldI v31 v29 σ4 fun v32 =>
stI v30 v29 (mnI 9999 (v32 + v25)) σ4 fun σ33 =>
gfS 8 a0 1 fun v34 =>
gfS 8 a0 1 fun v35 =>
ldI v35 v29 σ33 fun v36 =>
stI v34 v29 (mnI 9999 ((v36 + v6) - v25)) σ33 fun σ37 =>
gfI 8 a0 6 σ37 fun v38 =>
pfI 8 a0 6 (v38 + v6) σ37 fun σ39 =>
rV σ39)) :=
  evAt_un [] 72 cd_172 [.ref a0, .ref a1, .ref a2, .int a3, .null, .null, .null] [] σ
set_option maxRecDepth 20000 in
theorem f_Village_dieSome_eq (d : Nat) (a0 : Nat) (a1 : Nat) (a2 : Int32) (σ : Sg) : f_Village_dieSome (d + 1) a0 a1 a2 σ =
gfS 8 a0 8 fun v1 =>
gdK 2 a1 (
cI (f_Law_worth d a1 100 v1 2 100 σ) fun v3 σ2 =>
gfS 8 a0 0 fun v4 =>
ldI v4 a2 σ2 fun v5 =>
dvI (v5 * v3) 100 fun v6 =>
gfS 8 a0 1 fun v7 =>
ldI v7 a2 σ2 fun v8 =>
dvI (v8 * v3) 100 fun v9 =>
gfS 8 a0 2 fun v10 =>
ldI v10 a2 σ2 fun v11 =>
dvI (v11 * v3) 100 fun v12 =>
gfS 8 a0 0 fun v13 =>
ldI v13 a2 σ2 fun v14 =>
stI v13 a2 (v14 - v6) σ2 fun σ15 =>
gfS 8 a0 1 fun v16 =>
ldI v16 a2 σ15 fun v17 =>
stI v16 a2 (v17 - v9) σ15 fun σ18 =>
gfS 8 a0 2 fun v19 =>
ldI v19 a2 σ18 fun v20 =>
stI v19 a2 (v20 - v12) σ18 fun σ21 =>
gfI 8 a0 7 σ21 fun v22 =>
pfI 8 a0 7 (v22 + ((v6 + v9) + (2 * v12))) σ21 fun σ23 =>
rV σ23) :=
  evAt_un [] 74 cd_173 [.ref a0, .ref a1, .int a2, .null, .null, .null, .null] [] σ
theorem f_N_tried_eq (d : Nat) (a1 : Int32) (a2 : Int32) (σ : Sg) : f_N_tried (d + 1) a1 a2 σ =
cI (f_N_isYears d a1 σ) fun v2 σ1 =>
if v2 = 0 then (
rI ((-1)) σ1)
else (
cI (f_N_isTriedWhat d a2 σ1) fun v4 σ3 =>
if v4 = 0 then (
rI ((-1)) σ3)
else (
cV (f_Village_copy d 92 87 6 σ3) fun σ5 =>
cV (f_Village_goBy d 92 (σ5.2.2 4 1) (σ5.2.2 4 5) a1 σ5) fun σ6 =>
if a2 = 0 then (
rI (σ6.1 92 5) σ6)
else if a2 = 1 then (
rI (σ6.1 92 6) σ6)
else if a2 = 2 then (
rI (σ6.1 92 7) σ6)
else if a2 = 3 then (
cI (f_Village_all d 92 σ6) fun v8 σ7 =>
rI v8 σ7)
else (
rmI a2 10 fun v9 =>
dvI a2 10 fun v10 =>
cI (f_Village_some d 92 v9 (v10 - 1) σ6) fun v12 σ11 =>
rI v12 σ11))) :=
  evAt_un [] 37 cd_174 [.ref 4, .int a1, .int a2] [] σ
theorem f_N_isTriedWhat_eq (d : Nat) (a1 : Int32) (σ : Sg) : f_N_isTriedWhat (d + 1) a1 σ =
if a1 < 0 then (
if a1 < 10 then (
rZ 0 σ)
else (
if a1 < 40 then (
rmI a1 10 fun v1 =>
cI (f_N_isName d v1 σ) fun v3 σ2 =>
if v3 = 0 then (
rZ 0 σ2)
else (
rZ 1 σ2))
else (
rZ 0 σ)))
else (
if 3 < a1 then (
if a1 < 10 then (
rZ 0 σ)
else (
if a1 < 40 then (
rmI a1 10 fun v4 =>
cI (f_N_isName d v4 σ) fun v6 σ5 =>
if v6 = 0 then (
rZ 0 σ5)
else (
rZ 1 σ5))
else (
rZ 0 σ)))
else (
rZ 1 σ)) :=
  evAt_un [] 22 cd_175 [.ref 4, .int a1] [] σ
theorem f_Village_copy_eq (d : Nat) (a0 : Nat) (a1 : Nat) (a2 : Int32) (σ : Sg) : f_Village_copy (d + 1) a0 a1 a2 σ =
gdK 8 a0 (
cV (f_Village_clear d a0 σ) fun σ1 =>
gfS 8 a1 0 fun v2 =>
gfS 8 a0 0 fun v3 =>
acp v2 v3 0 0 a2 σ1 fun σ4 =>
gfS 8 a1 1 fun v5 =>
gfS 8 a0 1 fun v6 =>
acp v5 v6 0 0 a2 σ4 fun σ7 =>
gfS 8 a1 2 fun v8 =>
gfS 8 a0 2 fun v9 =>
acp v8 v9 0 0 a2 σ7 fun σ10 =>
gfI 8 a1 3 σ10 fun v11 =>
pfI 8 a0 3 v11 σ10 fun σ12 =>
gfI 8 a1 4 σ12 fun v13 =>
pfI 8 a0 4 v13 σ12 fun σ14 =>
rV σ14) :=
  evAt_un [] 37 cd_176 [.ref a0, .ref a1, .int a2] [] σ
theorem f_Village_some_eq (d : Nat) (a0 : Nat) (a1 : Int32) (a2 : Int32) (σ : Sg) : f_Village_some (d + 1) a0 a1 a2 σ =
if a2 = 0 then (
gfS 8 a0 0 fun v1 =>
ldI v1 a1 σ fun v2 =>
rI v2 σ)
else (
if a2 = 1 then (
gfS 8 a0 1 fun v3 =>
ldI v3 a1 σ fun v4 =>
rI v4 σ)
else (
gfS 8 a0 2 fun v5 =>
ldI v5 a1 σ fun v6 =>
rI v6 σ)) :=
  evAt_un [] 13 cd_177 [.ref a0, .int a1, .int a2] [] σ
theorem f_N_nameIs_eq (d : Nat) (a1 : Int32) (a2 : Int32) (σ : Sg) : f_N_nameIs (d + 1) a1 a2 σ =
cI (f_N_isName d a1 σ) fun v2 σ1 =>
if v2 = 0 then (
rI ((-1)) σ1)
else (
if a2 = 0 then (
cI (f_Village_some d 87 a1 a2 σ1) fun v4 σ3 =>
rI v4 σ3)
else if a2 = 1 then (
cI (f_Village_some d 87 a1 a2 σ1) fun v6 σ5 =>
rI v6 σ5)
else if a2 = 2 then (
cI (f_Village_some d 87 a1 a2 σ1) fun v8 σ7 =>
rI v8 σ7)
else if a2 = 3 then (
cI (f_Village_allOf d 87 (σ1.2.2 4 1) a1 σ1) fun v10 σ9 =>
rI v10 σ9)
else if a2 = 4 then (
gfS 6 (σ1.2.2 4 1) 1 fun v11 =>
ldI v11 a1 σ1 fun v12 =>
rI v12 σ1)
else if a2 = 5 then (
gfS 6 (σ1.2.2 4 1) 3 fun v13 =>
ldI v13 a1 σ1 fun v14 =>
rI v14 σ1)
else (
rI ((-1)) σ1)) :=
  evAt_un [] 15 cd_178 [.ref 4, .int a1, .int a2] [] σ
theorem f_N_diesOut_eq (d : Nat) (a1 : Int32) (a2 : Int32) (σ : Sg) : f_N_diesOut (d + 1) a1 a2 σ =
cI (f_N_isName d a1 σ) fun v2 σ1 =>
if v2 = 0 then (
rI ((-1)) σ1)
else (
cI (f_N_isYears d a2 σ1) fun v4 σ3 =>
if v4 = 0 then (
rI ((-1)) σ3)
else (
cV (f_Village_copy d 92 87 6 σ3) fun σ5 =>
cI (f_Village_allOf d 92 (σ5.2.2 4 1) a1 σ5) fun v7 σ6 =>
if v7 = 0 then (
f_N_diesOut_54 d a1 a2 1 0 σ6)
else (
f_N_diesOut_54 d a1 a2 0 0 σ6))) :=
  evAt_un [54] 27 cd_179 [.ref 4, .int a1, .int a2, .null, .null] [] σ
theorem f_N_diesOut_54_eq (d : Nat) (x1 : Int32) (x2 : Int32) (x3 : Int32) (x4 : Int32) (σ : Sg) : f_N_diesOut_54 d x1 x2 x3 x4 σ =
if x4 < x2 then (
if x3 = 0 then (
cV (f_Village_goBy d 92 (σ.2.2 4 1) (σ.2.2 4 5) 1 σ) fun σ1 =>
cI (f_Village_allOf d 92 (σ1.2.2 4 1) x1 σ1) fun v3 σ2 =>
if v3 = 0 then (
f_N_diesOut_54 d x1 x2 1 (x4 + 1) σ2)
else (
f_N_diesOut_54 d x1 x2 0 (x4 + 1) σ2))
else (
if x3 = 0 then (
rI ((-2)) σ)
else (
rI x4 σ)))
else (
if x3 = 0 then (
rI ((-2)) σ)
else (
rI x4 σ)) :=
  evAt_un [54] 27 (jmp cd_179 54) [.ref 4, .int x1, .int x2, .int x3, .int x4] [] σ
theorem f_N_left_eq (d : Nat) (a1 : Int32) (σ : Sg) : f_N_left (d + 1) a1 σ =
gfI 6 (σ.2.2 4 1) 0 σ fun v1 =>
if v1 = 0 then (
rI ((-100000)) σ)
else (
if a1 = 0 then (
f_N_left_26 d a1 0 1 σ)
else (
if a1 = 1 then (
f_N_left_26 d a1 0 1 σ)
else (
rI ((-100000)) σ))) :=
  evAt_un [26] 15 cd_180 [.ref 4, .int a1, .null, .null] [] σ
theorem f_N_left_26_eq (d : Nat) (x1 : Int32) (x2 : Int32) (x3 : Int32) (σ : Sg) : f_N_left_26 d x1 x2 x3 σ =
gfI 6 (σ.2.2 4 1) 0 σ fun v1 =>
if x3 < v1 then (
cI (f_Village_leftMen d 87 (σ.2.2 4 1) x3 σ) fun v3 σ2 =>
cI (f_Village_leftMen d 87 (σ2.2.2 4 1) x2 σ2) fun v5 σ4 =>
if v5 < v3 then (
f_N_left_26 d x1 x3 (x3 + 1) σ4)
else (
f_N_left_26 d x1 x2 (x3 + 1) σ4))
else (
if x1 = 0 then (
rI x2 σ)
else (
cI (f_Village_leftMen d 87 (σ.2.2 4 1) x2 σ) fun v7 σ6 =>
rI v7 σ6)) :=
  evAt_un [26] 24 (jmp cd_180 26) [.ref 4, .int x1, .int x2, .int x3] [] σ
theorem f_Village_leftMen_eq (d : Nat) (a0 : Nat) (a1 : Nat) (a2 : Int32) (σ : Sg) : f_Village_leftMen (d + 1) a0 a1 a2 σ =
gfS 8 a0 0 fun v1 =>
ldI v1 a2 σ fun v2 =>
gfS 8 a0 1 fun v3 =>
gfS 6 a1 1 fun v4 =>
ldI v4 a2 σ fun v5 =>
ldI v3 v5 σ fun v6 =>
rI (v2 - v6) σ :=
  evAt_un [] 15 cd_181 [.ref a0, .ref a1, .int a2] [] σ
theorem f_N_seed_eq (d : Nat) (a1 : Int32) (σ : Sg) : f_N_seed (d + 1) a1 σ =
if a1 < 0 then (
rZ 0 σ)
else (
if 65535 < a1 then (
rZ 0 σ)
else (
let σ1 := sI σ 87 4 a1;
rZ 1 σ1)) :=
  evAt_un [] 13 cd_182 [.ref 4, .int a1] [] σ
theorem f_N_keep_eq (d : Nat) (σ : Sg) : f_N_keep (d + 1) σ =
cV (f_Village_copy d 97 87 6 σ) fun σ1 =>
gfI 6 (σ1.2.2 4 1) 0 σ1 fun v2 =>
let σ3 := sI σ1 4 16 v2;
if (1 : Int32) = 0 ∨ (1 : Int32) = 1 then (let σ4 := sI σ3 4 17 1;
rI (σ4.1 87 3) σ4)
else none :=
  evAt_un [] 20 cd_183 [.ref 4] [] σ
theorem f_N_undo_eq (d : Nat) (σ : Sg) : f_N_undo (d + 1) σ =
if (σ.1 4 17) = 0 then (
rZ 0 σ)
else (
gfI 6 (σ.2.2 4 1) 0 σ fun v1 =>
cV (f_Village_copy d 87 97 (mnI (σ.1 4 16) v1) σ) fun σ2 =>
rZ 1 σ2) :=
  evAt_un [] 18 cd_184 [.ref 4] [] σ
theorem f_N_check_eq (d : Nat) (a1 : Int32) (σ : Sg) : f_N_check (d + 1) a1 σ =
if a1 < 0 then (
rI ((-2)) σ)
else (
if 6 < a1 then (
rI ((-2)) σ)
else (
if (σ.1 5 1) < a1 then (
rI ((-2)) σ)
else (
cV (f_Tape_take d 0 a1 σ) fun σ1 =>
f_N_check_35 d a1 0 .null σ1))) :=
  evAt_un [35] 19 cd_185 [.ref 4, .int a1, .null, .null] [] σ
theorem f_N_check_35_eq (d : Nat) (x1 : Int32) (x2 : Int32) (x3 : Value) (σ : Sg) : f_N_check_35 d x1 x2 x3 σ =
if x2 < x1 then (
cI (f_N_isName d x2 σ) fun v2 σ1 =>
if v2 = 0 then (
bnd x2 260 (
if (σ1.1 6 (ix x2)) = (0 &&& 255) then (
f_N_check_35 d x1 (x2 + 1) (.int 0) σ1)
else (
rI x2 σ1)))
else (
cI (f_Village_allOf d 87 (σ1.2.2 4 1) x2 σ1) fun v4 σ3 =>
bnd x2 260 (
if (σ3.1 6 (ix x2)) = (v4 &&& 255) then (
f_N_check_35 d x1 (x2 + 1) (.int v4) σ3)
else (
rI x2 σ3))))
else (
rI ((-1)) σ) :=
  evAt_un [35] 28 (jmp cd_185 35) [.ref 4, .int x1, .int x2, x3] [] σ
theorem f_N_count_eq (d : Nat) (a1 : Int32) (σ : Sg) : f_N_count (d + 1) a1 σ =
if a1 = 0 then (
rI (σ.1 87 3) σ)
else if a1 = 1 then (
gfI 6 (σ.2.2 4 1) 0 σ fun v1 =>
rI v1 σ)
else if a1 = 2 then (
gfI 4 (σ.2.2 4 3) 0 σ fun v2 =>
rI v2 σ)
else if a1 = 3 then (
gfI 4 (σ.2.2 4 3) 8 σ fun v3 =>
rI v3 σ)
else if a1 = 4 then (
gfI 4 (σ.2.2 4 3) 9 σ fun v4 =>
rI v4 σ)
else if a1 = 5 then (
gfI 2 (σ.2.2 4 5) 0 σ fun v5 =>
rI v5 σ)
else if a1 = 6 then (
rI (σ.1 5 1) σ)
else if a1 = 7 then (
rI (σ.1 87 4) σ)
else if a1 = 8 then (
cI (f_Village_all d 87 σ) fun v7 σ6 =>
rI v7 σ6)
else (
rI ((-1)) σ) :=
  evAt_un [] 8 cd_186 [.ref 4, .int a1] [] σ
set_option maxRecDepth 20000 in
theorem f_M_people_eq (d : Nat) (a1 : Int32) (a2 : Int32) (a3 : Int32) (a4 : Int32) (σ : Sg) : f_M_people (d + 1) a1 a2 a3 a4 σ =
cI (f_M_isName d a1 σ) fun v2 σ1 =>
if v2 = 0 then (
rZ 0 σ1)
else (
cI (f_M_in d a2 0 9999 σ1) fun v4 σ3 =>
if v4 = 0 then (
rZ 0 σ3)
else (
cI (f_M_in d a3 0 9999 σ3) fun v6 σ5 =>
if v6 = 0 then (
rZ 0 σ5)
else (
cI (f_M_in d a4 0 9999 σ5) fun v8 σ7 =>
if v8 = 0 then (
rZ 0 σ7)
else (
bnd (0 + a1) 20 (let σ9 := sI σ7 103 (ix (0 + a1)) a2;
bnd (6 + a1) 20 (let σ10 := sI σ9 103 (ix (6 + a1)) a3;
bnd (12 + a1) 20 (let σ11 := sI σ10 103 (ix (12 + a1)) a4;
rZ 1 σ11))))))) :=
  evAt_un [] 44 cd_188 [.ref 102, .int a1, .int a2, .int a3, .int a4] [] σ
theorem f_M_isName_eq (d : Nat) (a1 : Int32) (σ : Sg) : f_M_isName (d + 1) a1 σ =
cI (f_M_in d a1 0 ((σ.1 102 5) - 1) σ) fun v2 σ1 =>
rZ v2 σ1 :=
  evAt_un [] 10 cd_189 [.ref 102, .int a1] [] σ
theorem f_M_in_eq (d : Nat) (a0 : Int32) (a1 : Int32) (a2 : Int32) (σ : Sg) : f_M_in (d + 1) a0 a1 a2 σ =
if a0 < a1 then (
rZ 0 σ)
else (
if a2 < a0 then (
rZ 0 σ)
else (
rZ 1 σ)) :=
  evAt_un [] 11 cd_190 [.int a0, .int a1, .int a2] [] σ
theorem f_M_feed_eq (d : Nat) (a1 : Int32) (a2 : Int32) (a3 : Int32) (a4 : Int32) (a5 : Int32) (σ : Sg) : f_M_feed (d + 1) a1 a2 a3 a4 a5 σ =
if 260 < ((σ.1 102 7) + 20) then (
rI ((-1)) σ)
else (
cV (f_M_types d a1 σ) fun σ1 =>
cV (f_M_types d a2 σ1) fun σ2 =>
cV (f_M_types d a3 σ2) fun σ3 =>
cV (f_M_types d a4 σ3) fun σ4 =>
cV (f_M_types d a5 σ4) fun σ5 =>
rI (σ5.1 102 7) σ5) :=
  evAt_un [] 26 cd_191 [.ref 102, .int a1, .int a2, .int a3, .int a4, .int a5] [] σ
theorem f_M_types_eq (d : Nat) (a1 : Int32) (σ : Sg) : f_M_types (d + 1) a1 σ =
f_M_types_2 d a1 3 σ :=
  evAt_un [2] 4 cd_192 [.ref 102, .int a1, .null] [] σ
theorem f_M_types_2_eq (d : Nat) (x1 : Int32) (x2 : Int32) (σ : Sg) : f_M_types_2 d x1 x2 σ =
if x2 < 0 then (
rV σ)
else (
bnd (σ.1 102 7) 260 (let σ1 := sI σ 108 (ix (σ.1 102 7)) (vp_nar .byte ((x1 >>> ((8 * x2) &&& 31)).toInt8.toInt32));
let σ2 := sI σ1 102 7 ((σ1.1 102 7) + 1);
f_M_types_2 d x1 (x2 + (-1)) σ2)) :=
  evAt_un [2] 23 (jmp cd_192 2) [.ref 102, .int x1, .int x2] [] σ
theorem f_M_law_eq (d : Nat) (a1 : Int32) (σ : Sg) : f_M_law (d + 1) a1 σ =
cI (f_M_in d a1 1 240 σ) fun v2 σ1 =>
if v2 = 0 then (
rI ((-1)) σ1)
else (
if (σ1.1 102 7) < a1 then (
rI ((-1)) σ1)
else (
cV (f_M_beginsText d 0 a1 σ1) fun σ3 =>
cI (f_M_readsClause d σ3) fun v5 σ4 =>
f_M_law_32 d (.int a1) v5 .null σ4)) :=
  evAt_un [32, 96, 124] 18 cd_193 [.ref 102, .int a1, .null, .null] [] σ
theorem f_M_law_32_eq (d : Nat) (x1 : Value) (x2 : Int32) (x3 : Value) (σ : Sg) : f_M_law_32 d x1 x2 x3 σ =
if x2 = 0 then (
let σ1 := sI σ 102 7 0;
if x2 = 0 then (
rI (σ1.1 102 10) σ1)
else (
let σ2 := sI σ1 102 16 (σ1.1 102 15);
f_M_law_96 d (x1) (.int x2) 0 σ2))
else (
if (σ.1 102 8) < (σ.1 102 9) then (
cI (f_M_takes d 59 σ) fun v4 σ3 =>
if v4 = 0 then (
f_M_law_32 d (nlg x1) 0 (x3) σ3)
else (
cI (f_M_readsClause d σ3) fun v6 σ5 =>
if v6 = 0 then (
f_M_law_32 d (nlg x1) 0 (x3) σ5)
else (
f_M_law_32 d (nlg x1) 1 (x3) σ5)))
else (
let σ7 := sI σ 102 7 0;
if x2 = 0 then (
rI (σ7.1 102 10) σ7)
else (
let σ8 := sI σ7 102 16 (σ7.1 102 15);
f_M_law_96 d (x1) (.int x2) 0 σ8))) :=
  evAt_un [32, 96, 124] 20 (jmp cd_193 32) [.ref 102, x1, .int x2, x3] [] σ
theorem f_M_law_96_eq (d : Nat) (x1 : Value) (x2 : Value) (x3 : Int32) (σ : Sg) : f_M_law_96 d x1 x2 x3 σ =
if x3 < (σ.1 102 13) then (
bnd x3 260 (
bnd x3 260 (let σ1 := sI σ 115 (ix x3) (σ.1 109 (ix x3));
f_M_law_96 d (x1) (nlg x2) (x3 + 1) σ1)))
else (
f_M_law_124 d (x1) (nlg x2) 0 σ) :=
  evAt_un [32, 96, 124] 16 (jmp cd_193 96) [.ref 102, x1, x2, .int x3] [] σ
set_option maxRecDepth 20000 in
theorem f_M_law_124_eq (d : Nat) (x1 : Value) (x2 : Value) (x3 : Int32) (σ : Sg) : f_M_law_124 d x1 x2 x3 σ =
if x3 < (σ.1 102 15) then (
bnd x3 16 (
bnd x3 16 (let σ1 := sI σ 116 (ix x3) (σ.1 111 (ix x3));
bnd x3 16 (
bnd x3 16 (let σ2 := sI σ1 117 (ix x3) (σ1.1 112 (ix x3));
bnd x3 16 (
bnd x3 16 (let σ3 := sI σ2 118 (ix x3) (σ2.1 113 (ix x3));
bnd x3 16 (
bnd x3 16 (let σ4 := sI σ3 119 (ix x3) (σ3.1 114 (ix x3));
f_M_law_124 d (x1) (nlg x2) (x3 + 1) σ4)))))))))
else (
rI (σ.1 102 15) σ) :=
  evAt_un [32, 96, 124] 40 (jmp cd_193 124) [.ref 102, x1, x2, .int x3] [] σ
theorem f_M_beginsText_eq (d : Nat) (a1 : Int32) (a2 : Int32) (σ : Sg) : f_M_beginsText (d + 1) a1 a2 σ =
let σ1 := sI σ 102 8 a1;
let σ2 := sI σ1 102 9 (a1 + a2);
let σ3 := sI σ2 102 13 0;
let σ4 := sI σ3 102 15 0;
rV σ4 :=
  evAt_un [] 17 cd_194 [.ref 102, .int a1, .int a2] [] σ
set_option maxRecDepth 20000 in
theorem f_M_readsClause_eq (d : Nat) (σ : Sg) : f_M_readsClause (d + 1) σ =
cI (f_M_here d σ) fun v2 σ1 =>
if v2 = 119 then (
if (σ1.1 102 15) = 16 then (
cI (f_M_wrongAt d 4 (σ1.1 102 8) σ1) fun v4 σ3 =>
rZ v4 σ3)
else (
bnd (σ1.1 102 15) 16 (let σ5 := sI σ1 111 (ix (σ1.1 102 15)) v2;
let σ6 := sI σ5 102 8 ((σ5.1 102 8) + 1);
bnd (σ6.1 102 15) 16 (let σ7 := sI σ6 112 (ix (σ6.1 102 15)) (σ6.1 102 13);
let σ8 := sI σ7 102 12 0;
let σ9 := sI σ8 102 14 0;
if v2 = 120 then (
bnd (σ9.1 102 15) 16 (let σ10 := sI σ9 113 (ix (σ9.1 102 15)) (σ9.1 102 13);
cI (f_M_readsCondition d σ10) fun v12 σ11 =>
if v12 = 0 then (
rZ 0 σ11)
else (
bnd (σ11.1 102 15) 16 (let σ13 := sI σ11 114 (ix (σ11.1 102 15)) (σ11.1 102 13);
let σ14 := sI σ13 102 15 ((σ13.1 102 15) + 1);
rZ 1 σ14))))
else (
cI (f_M_readsSum d σ9) fun v16 σ15 =>
if v16 = 0 then (
rZ 0 σ15)
else (
bnd (σ15.1 102 15) 16 (let σ17 := sI σ15 113 (ix (σ15.1 102 15)) (σ15.1 102 13);
cI (f_M_readsCondition d σ17) fun v19 σ18 =>
if v19 = 0 then (
rZ 0 σ18)
else (
bnd (σ18.1 102 15) 16 (let σ20 := sI σ18 114 (ix (σ18.1 102 15)) (σ18.1 102 13);
let σ21 := sI σ20 102 15 ((σ20.1 102 15) + 1);
rZ 1 σ21)))))))))
else (
if v2 = 98 then (
if (σ1.1 102 15) = 16 then (
cI (f_M_wrongAt d 4 (σ1.1 102 8) σ1) fun v23 σ22 =>
rZ v23 σ22)
else (
bnd (σ1.1 102 15) 16 (let σ24 := sI σ1 111 (ix (σ1.1 102 15)) v2;
let σ25 := sI σ24 102 8 ((σ24.1 102 8) + 1);
bnd (σ25.1 102 15) 16 (let σ26 := sI σ25 112 (ix (σ25.1 102 15)) (σ25.1 102 13);
let σ27 := sI σ26 102 12 0;
let σ28 := sI σ27 102 14 0;
if v2 = 120 then (
bnd (σ28.1 102 15) 16 (let σ29 := sI σ28 113 (ix (σ28.1 102 15)) (σ28.1 102 13);
cI (f_M_readsCondition d σ29) fun v31 σ30 =>
if v31 = 0 then (
rZ 0 σ30)
else (
bnd (σ30.1 102 15) 16 (let σ32 := sI σ30 114 (ix (σ30.1 102 15)) (σ30.1 102 13);
let σ33 := sI σ32 102 15 ((σ32.1 102 15) + 1);
rZ 1 σ33))))
else (
cI (f_M_readsSum d σ28) fun v35 σ34 =>
if v35 = 0 then (
rZ 0 σ34)
else (
bnd (σ34.1 102 15) 16 (let σ36 := sI σ34 113 (ix (σ34.1 102 15)) (σ34.1 102 13);
cI (f_M_readsCondition d σ36) fun v38 σ37 =>
if v38 = 0 then (
rZ 0 σ37)
else (
bnd (σ37.1 102 15) 16 (let σ39 := sI σ37 114 (ix (σ37.1 102 15)) (σ37.1 102 13);
let σ40 := sI σ39 102 15 ((σ39.1 102 15) + 1);
rZ 1 σ40)))))))))
else (
if v2 = 100 then (
if (σ1.1 102 15) = 16 then (
cI (f_M_wrongAt d 4 (σ1.1 102 8) σ1) fun v42 σ41 =>
rZ v42 σ41)
else (
bnd (σ1.1 102 15) 16 (let σ43 := sI σ1 111 (ix (σ1.1 102 15)) v2;
let σ44 := sI σ43 102 8 ((σ43.1 102 8) + 1);
bnd (σ44.1 102 15) 16 (let σ45 := sI σ44 112 (ix (σ44.1 102 15)) (σ44.1 102 13);
let σ46 := sI σ45 102 12 0;
let σ47 := sI σ46 102 14 0;
if v2 = 120 then (
bnd (σ47.1 102 15) 16 (let σ48 := sI σ47 113 (ix (σ47.1 102 15)) (σ47.1 102 13);
cI (f_M_readsCondition d σ48) fun v50 σ49 =>
if v50 = 0 then (
rZ 0 σ49)
else (
bnd (σ49.1 102 15) 16 (let σ51 := sI σ49 114 (ix (σ49.1 102 15)) (σ49.1 102 13);
let σ52 := sI σ51 102 15 ((σ51.1 102 15) + 1);
rZ 1 σ52))))
else (
cI (f_M_readsSum d σ47) fun v54 σ53 =>
if v54 = 0 then (
rZ 0 σ53)
else (
bnd (σ53.1 102 15) 16 (let σ55 := sI σ53 113 (ix (σ53.1 102 15)) (σ53.1 102 13);
cI (f_M_readsCondition d σ55) fun v57 σ56 =>
if v57 = 0 then (
rZ 0 σ56)
else (
bnd (σ56.1 102 15) 16 (let σ58 := sI σ56 114 (ix (σ56.1 102 15)) (σ56.1 102 13);
let σ59 := sI σ58 102 15 ((σ58.1 102 15) + 1);
rZ 1 σ59)))))))))
else (
if v2 = 120 then (
if (σ1.1 102 15) = 16 then (
cI (f_M_wrongAt d 4 (σ1.1 102 8) σ1) fun v61 σ60 =>
rZ v61 σ60)
else (
bnd (σ1.1 102 15) 16 (let σ62 := sI σ1 111 (ix (σ1.1 102 15)) v2;
let σ63 := sI σ62 102 8 ((σ62.1 102 8) + 1);
bnd (σ63.1 102 15) 16 (let σ64 := sI σ63 112 (ix (σ63.1 102 15)) (σ63.1 102 13);
let σ65 := sI σ64 102 12 0;
let σ66 := sI σ65 102 14 0;
if v2 = 120 then (
bnd (σ66.1 102 15) 16 (let σ67 := sI σ66 113 (ix (σ66.1 102 15)) (σ66.1 102 13);
cI (f_M_readsCondition d σ67) fun v69 σ68 =>
if v69 = 0 then (
rZ 0 σ68)
else (
bnd (σ68.1 102 15) 16 (let σ70 := sI σ68 114 (ix (σ68.1 102 15)) (σ68.1 102 13);
let σ71 := sI σ70 102 15 ((σ70.1 102 15) + 1);
rZ 1 σ71))))
else (
cI (f_M_readsSum d σ66) fun v73 σ72 =>
if v73 = 0 then (
rZ 0 σ72)
else (
bnd (σ72.1 102 15) 16 (let σ74 := sI σ72 113 (ix (σ72.1 102 15)) (σ72.1 102 13);
cI (f_M_readsCondition d σ74) fun v76 σ75 =>
if v76 = 0 then (
rZ 0 σ75)
else (
bnd (σ75.1 102 15) 16 (let σ77 := sI σ75 114 (ix (σ75.1 102 15)) (σ75.1 102 13);
let σ78 := sI σ77 102 15 ((σ77.1 102 15) + 1);
rZ 1 σ78)))))))))
else (
cI (f_M_wrongAt d 1 (σ1.1 102 8) σ1) fun v80 σ79 =>
rZ v80 σ79)))) :=
  evAt_un [] 77 cd_195 [.ref 102, .null] [] σ
theorem f_M_here_eq (d : Nat) (σ : Sg) : f_M_here (d + 1) σ =
if (σ.1 102 8) < (σ.1 102 9) then (
bnd (σ.1 102 8) 260 (
rI ((σ.1 108 (ix (σ.1 102 8))) &&& 255) σ))
else (
rI ((-1)) σ) :=
  evAt_un [] 16 cd_196 [.ref 102] [] σ
theorem f_M_wrongAt_eq (d : Nat) (a1 : Int32) (a2 : Int32) (σ : Sg) : f_M_wrongAt (d + 1) a1 a2 σ =
let σ1 := sI σ 102 10 ((((-1000)) * a1) - a2);
rZ 0 σ1 :=
  evAt_un [] 11 cd_197 [.ref 102, .int a1, .int a2] [] σ
theorem f_M_readsSum_eq (d : Nat) (σ : Sg) : f_M_readsSum (d + 1) σ =
cI (f_M_readsFactor d σ) fun v2 σ1 =>
if v2 = 0 then (
rZ 0 σ1)
else (
f_M_readsSum_14 d (σ.1 102 14) .null σ1) :=
  evAt_un [14] 10 cd_198 [.ref 102, .null, .null] [] σ
set_option maxRecDepth 20000 in
theorem f_M_readsSum_14_eq (d : Nat) (x1 : Int32) (x2 : Value) (σ : Sg) : f_M_readsSum_14 d x1 x2 σ =
cI (f_M_here d σ) fun v2 σ1 =>
cI (f_M_sumSign d v2 σ1) fun v4 σ3 =>
if v4 = ((-1 : Int32)) then (
cI (f_M_here d σ3) fun v6 σ5 =>
if v6 = 93 then (
cI (f_M_hasOpenSum d x1 σ5) fun v8 σ7 =>
if v8 = 0 then (
cI (f_M_hasOpenSum d x1 σ7) fun v10 σ9 =>
if v10 = 0 then (
cV (f_M_closesSums d 1 σ9) fun σ11 =>
rZ 1 σ11)
else (
cI (f_M_wrongAt d 1 (σ9.1 102 8) σ9) fun v13 σ12 =>
rZ v13 σ12))
else (
cV (f_M_closesSums d 1 σ7) fun σ14 =>
let σ15 := sI σ14 102 14 ((σ14.1 102 14) - 1);
let σ16 := sI σ15 102 12 ((σ15.1 102 12) - 1);
let σ17 := sI σ16 102 8 ((σ16.1 102 8) + 1);
f_M_readsSum_14 d x1 (.int v4) σ17))
else (
cI (f_M_hasOpenSum d x1 σ5) fun v19 σ18 =>
if v19 = 0 then (
cV (f_M_closesSums d 1 σ18) fun σ20 =>
rZ 1 σ20)
else (
cI (f_M_wrongAt d 1 (σ18.1 102 8) σ18) fun v22 σ21 =>
rZ v22 σ21)))
else (
if v4 < 4 then (
cV (f_M_closesSums d 1 σ3) fun σ23 =>
bnd (σ23.1 102 14) 260 (let σ24 := sI σ23 110 (ix (σ23.1 102 14)) (1048576 * v4);
let σ25 := sI σ24 102 14 ((σ24.1 102 14) + 1);
let σ26 := sI σ25 102 8 ((σ25.1 102 8) + 1);
cI (f_M_readsFactor d σ26) fun v28 σ27 =>
if v28 = 0 then (
rZ 0 σ27)
else (
f_M_readsSum_14 d x1 (.int v4) σ27)))
else (
cV (f_M_closesSums d 0 σ3) fun σ29 =>
bnd (σ29.1 102 14) 260 (let σ30 := sI σ29 110 (ix (σ29.1 102 14)) (1048576 * v4);
let σ31 := sI σ30 102 14 ((σ30.1 102 14) + 1);
let σ32 := sI σ31 102 8 ((σ31.1 102 8) + 1);
cI (f_M_readsFactor d σ32) fun v34 σ33 =>
if v34 = 0 then (
rZ 0 σ33)
else (
f_M_readsSum_14 d x1 (.int v4) σ33)))) :=
  evAt_un [14] 41 (jmp cd_198 14) [.ref 102, .int x1, x2] [] σ
theorem f_M_readsFactor_eq (d : Nat) (σ : Sg) : f_M_readsFactor (d + 1) σ =
cI (f_M_here d σ) fun v2 σ1 =>
if v2 = 91 then (
cI (f_M_opens d 14 σ1) fun v4 σ3 =>
if v4 = 0 then (
rZ 0 σ3)
else (
f_M_readsFactor_0 d .null σ3))
else (
cI (f_M_isDigit d σ1) fun v6 σ5 =>
if v6 = 0 then (
cI (f_M_here d σ5) fun v8 σ7 =>
cI (f_M_factOf d v8 σ7) fun v10 σ9 =>
if v10 = ((-1 : Int32)) then (
cI (f_M_wrongAt d 1 (σ9.1 102 8) σ9) fun v12 σ11 =>
rZ v12 σ11)
else (
cV (f_M_notes d 1 v10 σ9) fun σ13 =>
let σ14 := sI σ13 102 8 ((σ13.1 102 8) + 1);
rZ 1 σ14))
else (
cI (f_M_readsNumber d σ5) fun v16 σ15 =>
if v16 = 0 then (
rZ 0 σ15)
else (
cV (f_M_notes d 0 (σ15.1 102 11) σ15) fun σ17 =>
rZ 1 σ17))) :=
  evAt_un [0] 28 cd_199 [.ref 102, .null] [] σ
theorem f_M_readsFactor_0_eq (d : Nat) (x1 : Value) (σ : Sg) : f_M_readsFactor_0 d x1 σ =
cI (f_M_here d σ) fun v2 σ1 =>
if v2 = 91 then (
cI (f_M_opens d 14 σ1) fun v4 σ3 =>
if v4 = 0 then (
rZ 0 σ3)
else (
f_M_readsFactor_0 d (x1) σ3))
else (
cI (f_M_isDigit d σ1) fun v6 σ5 =>
if v6 = 0 then (
cI (f_M_here d σ5) fun v8 σ7 =>
cI (f_M_factOf d v8 σ7) fun v10 σ9 =>
if v10 = ((-1 : Int32)) then (
cI (f_M_wrongAt d 1 (σ9.1 102 8) σ9) fun v12 σ11 =>
rZ v12 σ11)
else (
cV (f_M_notes d 1 v10 σ9) fun σ13 =>
let σ14 := sI σ13 102 8 ((σ13.1 102 8) + 1);
rZ 1 σ14))
else (
cI (f_M_readsNumber d σ5) fun v16 σ15 =>
if v16 = 0 then (
rZ 0 σ15)
else (
cV (f_M_notes d 0 (σ15.1 102 11) σ15) fun σ17 =>
rZ 1 σ17))) :=
  evAt_un [0] 28 (jmp cd_199 0) [.ref 102, x1] [] σ
theorem f_M_opens_eq (d : Nat) (a1 : Int32) (σ : Sg) : f_M_opens (d + 1) a1 σ =
if (σ.1 102 12) = 6 then (
cI (f_M_wrongAt d 5 (σ.1 102 8) σ) fun v2 σ1 =>
rZ v2 σ1)
else (
let σ3 := sI σ 102 12 ((σ.1 102 12) + 1);
bnd (σ3.1 102 14) 260 (let σ4 := sI σ3 110 (ix (σ3.1 102 14)) (1048576 * a1);
let σ5 := sI σ4 102 14 ((σ4.1 102 14) + 1);
let σ6 := sI σ5 102 8 ((σ5.1 102 8) + 1);
rZ 1 σ6)) :=
  evAt_un [] 34 cd_200 [.ref 102, .int a1] [] σ
theorem f_M_isDigit_eq (d : Nat) (σ : Sg) : f_M_isDigit (d + 1) σ =
cI (f_M_here d σ) fun v2 σ1 =>
if v2 < 48 then (
rZ 0 σ1)
else (
cI (f_M_here d σ1) fun v4 σ3 =>
if 57 < v4 then (
rZ 0 σ3)
else (
rZ 1 σ3)) :=
  evAt_un [] 13 cd_201 [.ref 102] [] σ
theorem f_M_readsNumber_eq (d : Nat) (σ : Sg) : f_M_readsNumber (d + 1) σ =
let σ1 := sI σ 102 11 0;
f_M_readsNumber_10 d (σ.1 102 8) σ1 :=
  evAt_un [10] 8 cd_202 [.ref 102, .null] [] σ
theorem f_M_readsNumber_10_eq (d : Nat) (x1 : Int32) (σ : Sg) : f_M_readsNumber_10 d x1 σ =
cI (f_M_isDigit d σ) fun v2 σ1 =>
if v2 = 0 then (
rZ 1 σ1)
else (
if (σ1.1 102 8) = (x1 + 5) then (
cI (f_M_wrongAt d 2 (σ1.1 102 8) σ1) fun v4 σ3 =>
rZ v4 σ3)
else (
cI (f_M_here d σ1) fun v6 σ5 =>
let σ7 := sI σ5 102 11 (((10 * (σ1.1 102 11)) + v6) - 48);
let σ8 := sI σ7 102 8 ((σ7.1 102 8) + 1);
f_M_readsNumber_10 d x1 σ8)) :=
  evAt_un [10] 29 (jmp cd_202 10) [.ref 102, .int x1] [] σ
theorem f_M_notes_eq (d : Nat) (a1 : Int32) (a2 : Int32) (σ : Sg) : f_M_notes (d + 1) a1 a2 σ =
bnd (σ.1 102 13) 260 (let σ1 := sI σ 109 (ix (σ.1 102 13)) ((1048576 * a1) + a2);
let σ2 := sI σ1 102 13 ((σ1.1 102 13) + 1);
rV σ2) :=
  evAt_un [] 19 cd_203 [.ref 102, .int a1, .int a2] [] σ
theorem f_M_factOf_eq (d : Nat) (a0 : Int32) (σ : Sg) : f_M_factOf (d + 1) a0 σ =
if a0 = 97 then (
rI 4 σ)
else if a0 = 98 then (
rI ((-1)) σ)
else if a0 = 99 then (
rI ((-1)) σ)
else if a0 = 100 then (
rI ((-1)) σ)
else if a0 = 101 then (
rI ((-1)) σ)
else if a0 = 102 then (
rI ((-1)) σ)
else if a0 = 103 then (
rI ((-1)) σ)
else if a0 = 104 then (
rI ((-1)) σ)
else if a0 = 105 then (
rI ((-1)) σ)
else if a0 = 106 then (
rI ((-1)) σ)
else if a0 = 107 then (
rI 3 σ)
else if a0 = 108 then (
rI ((-1)) σ)
else if a0 = 109 then (
rI 1 σ)
else if a0 = 110 then (
rI 0 σ)
else if a0 = 111 then (
rI ((-1)) σ)
else if a0 = 112 then (
rI 5 σ)
else if a0 = 113 then (
rI 7 σ)
else if a0 = 114 then (
rI ((-1)) σ)
else if a0 = 115 then (
rI ((-1)) σ)
else if a0 = 116 then (
rI 6 σ)
else if a0 = 117 then (
rI ((-1)) σ)
else if a0 = 118 then (
rI 2 σ)
else (
rI ((-1)) σ) :=
  evAt_un [] 6 cd_204 [.int a0] [] σ
theorem f_M_sumSign_eq (d : Nat) (a0 : Int32) (σ : Sg) : f_M_sumSign (d + 1) a0 σ =
if a0 = 43 then (
rI 2 σ)
else (
if a0 = 45 then (
rI 3 σ)
else (
if a0 = 42 then (
rI 4 σ)
else (
if a0 = 47 then (
rI 5 σ)
else (
if a0 = 37 then (
rI 6 σ)
else (
rI ((-1)) σ))))) :=
  evAt_un [] 20 cd_205 [.int a0] [] σ
theorem f_M_closesSums_eq (d : Nat) (a1 : Int32) (σ : Sg) : f_M_closesSums (d + 1) a1 σ =
cI (f_M_waitTop d σ) fun v2 σ1 =>
if v2 < 4 then (
if a1 = 0 then (
rV σ1)
else (
cI (f_M_waitTop d σ1) fun v4 σ3 =>
if v4 = 2 then (
cI (f_M_waitTop d σ3) fun v6 σ5 =>
cV (f_M_notes d v6 0 σ5) fun σ7 =>
let σ8 := sI σ7 102 14 ((σ7.1 102 14) - 1);
f_M_closesSums_0 d a1 σ8)
else (
cI (f_M_waitTop d σ3) fun v10 σ9 =>
if v10 = 3 then (
cI (f_M_waitTop d σ9) fun v12 σ11 =>
cV (f_M_notes d v12 0 σ11) fun σ13 =>
let σ14 := sI σ13 102 14 ((σ13.1 102 14) - 1);
f_M_closesSums_0 d a1 σ14)
else (
rV σ9))))
else (
cI (f_M_waitTop d σ1) fun v16 σ15 =>
if 6 < v16 then (
if a1 = 0 then (
rV σ15)
else (
cI (f_M_waitTop d σ15) fun v18 σ17 =>
if v18 = 2 then (
cI (f_M_waitTop d σ17) fun v20 σ19 =>
cV (f_M_notes d v20 0 σ19) fun σ21 =>
let σ22 := sI σ21 102 14 ((σ21.1 102 14) - 1);
f_M_closesSums_0 d a1 σ22)
else (
cI (f_M_waitTop d σ17) fun v24 σ23 =>
if v24 = 3 then (
cI (f_M_waitTop d σ23) fun v26 σ25 =>
cV (f_M_notes d v26 0 σ25) fun σ27 =>
let σ28 := sI σ27 102 14 ((σ27.1 102 14) - 1);
f_M_closesSums_0 d a1 σ28)
else (
rV σ23))))
else (
cI (f_M_waitTop d σ15) fun v30 σ29 =>
cV (f_M_notes d v30 0 σ29) fun σ31 =>
let σ32 := sI σ31 102 14 ((σ31.1 102 14) - 1);
f_M_closesSums_0 d a1 σ32)) :=
  evAt_un [0] 32 cd_206 [.ref 102, .int a1] [] σ
theorem f_M_closesSums_0_eq (d : Nat) (x1 : Int32) (σ : Sg) : f_M_closesSums_0 d x1 σ =
cI (f_M_waitTop d σ) fun v2 σ1 =>
if v2 < 4 then (
if x1 = 0 then (
rV σ1)
else (
cI (f_M_waitTop d σ1) fun v4 σ3 =>
if v4 = 2 then (
cI (f_M_waitTop d σ3) fun v6 σ5 =>
cV (f_M_notes d v6 0 σ5) fun σ7 =>
let σ8 := sI σ7 102 14 ((σ7.1 102 14) - 1);
f_M_closesSums_0 d x1 σ8)
else (
cI (f_M_waitTop d σ3) fun v10 σ9 =>
if v10 = 3 then (
cI (f_M_waitTop d σ9) fun v12 σ11 =>
cV (f_M_notes d v12 0 σ11) fun σ13 =>
let σ14 := sI σ13 102 14 ((σ13.1 102 14) - 1);
f_M_closesSums_0 d x1 σ14)
else (
rV σ9))))
else (
cI (f_M_waitTop d σ1) fun v16 σ15 =>
if 6 < v16 then (
if x1 = 0 then (
rV σ15)
else (
cI (f_M_waitTop d σ15) fun v18 σ17 =>
if v18 = 2 then (
cI (f_M_waitTop d σ17) fun v20 σ19 =>
cV (f_M_notes d v20 0 σ19) fun σ21 =>
let σ22 := sI σ21 102 14 ((σ21.1 102 14) - 1);
f_M_closesSums_0 d x1 σ22)
else (
cI (f_M_waitTop d σ17) fun v24 σ23 =>
if v24 = 3 then (
cI (f_M_waitTop d σ23) fun v26 σ25 =>
cV (f_M_notes d v26 0 σ25) fun σ27 =>
let σ28 := sI σ27 102 14 ((σ27.1 102 14) - 1);
f_M_closesSums_0 d x1 σ28)
else (
rV σ23))))
else (
cI (f_M_waitTop d σ15) fun v30 σ29 =>
cV (f_M_notes d v30 0 σ29) fun σ31 =>
let σ32 := sI σ31 102 14 ((σ31.1 102 14) - 1);
f_M_closesSums_0 d x1 σ32)) :=
  evAt_un [0] 32 (jmp cd_206 0) [.ref 102, .int x1] [] σ
theorem f_M_waitTop_eq (d : Nat) (σ : Sg) : f_M_waitTop (d + 1) σ =
if (σ.1 102 14) = 0 then (
rI ((-1)) σ)
else (
bnd ((σ.1 102 14) - 1) 260 (
dvI (σ.1 110 (ix ((σ.1 102 14) - 1))) 1048576 fun v1 =>
rI v1 σ)) :=
  evAt_un [] 15 cd_207 [.ref 102] [] σ
theorem f_M_hasOpenSum_eq (d : Nat) (a1 : Int32) (σ : Sg) : f_M_hasOpenSum (d + 1) a1 σ =
f_M_hasOpenSum_2 d (.int a1) a1 σ :=
  evAt_un [2] 4 cd_208 [.ref 102, .int a1, .null] [] σ
theorem f_M_hasOpenSum_2_eq (d : Nat) (x1 : Value) (x2 : Int32) (σ : Sg) : f_M_hasOpenSum_2 d x1 x2 σ =
if x2 < (σ.1 102 14) then (
bnd x2 260 (
dvI (σ.1 110 (ix x2)) 1048576 fun v1 =>
if v1 = 14 then (
rZ 1 σ)
else (
f_M_hasOpenSum_2 d (nlg x1) (x2 + 1) σ)))
else (
rZ 0 σ) :=
  evAt_un [2] 16 (jmp cd_208 2) [.ref 102, x1, .int x2] [] σ
theorem f_M_readsCondition_eq (d : Nat) (σ : Sg) : f_M_readsCondition (d + 1) σ =
cI (f_M_here d σ) fun v2 σ1 =>
if v2 = 40 then (
let σ3 := sI σ1 102 12 0;
let σ4 := sI σ3 102 14 0;
cI (f_M_opens d 13 σ4) fun v6 σ5 =>
if v6 = 0 then (
rZ 0 σ5)
else (
f_M_readsCondition_40 d σ5))
else (
cI (f_M_wrongAt d 1 (σ1.1 102 8) σ1) fun v8 σ7 =>
rZ v8 σ7) :=
  evAt_un [40, 92] 18 cd_209 [.ref 102] [] σ
theorem f_M_readsCondition_40_eq (d : Nat) (σ : Sg) : f_M_readsCondition_40 d σ =
cI (f_M_here d σ) fun v2 σ1 =>
if v2 = 33 then (
cI (f_M_here d σ1) fun v4 σ3 =>
if v4 = 33 then (
cI (f_M_opens d 10 σ3) fun v6 σ5 =>
if v6 = 0 then (
rZ 0 σ5)
else (
f_M_readsCondition_40 d σ5))
else (
cI (f_M_opens d 13 σ3) fun v8 σ7 =>
if v8 = 0 then (
rZ 0 σ7)
else (
f_M_readsCondition_40 d σ7)))
else (
cI (f_M_here d σ1) fun v10 σ9 =>
if v10 = 40 then (
cI (f_M_here d σ9) fun v12 σ11 =>
if v12 = 33 then (
cI (f_M_opens d 10 σ11) fun v14 σ13 =>
if v14 = 0 then (
rZ 0 σ13)
else (
f_M_readsCondition_40 d σ13))
else (
cI (f_M_opens d 13 σ11) fun v16 σ15 =>
if v16 = 0 then (
rZ 0 σ15)
else (
f_M_readsCondition_40 d σ15)))
else (
cI (f_M_readsCompared d σ9) fun v18 σ17 =>
if v18 = 0 then (
rZ 0 σ17)
else (
f_M_readsCondition_92 d σ17))) :=
  evAt_un [40, 92] 21 (jmp cd_209 40) [.ref 102] [] σ
theorem f_M_readsCondition_92_eq (d : Nat) (σ : Sg) : f_M_readsCondition_92 d σ =
cI (f_M_here d σ) fun v2 σ1 =>
if v2 = 41 then (
cV (f_M_lands d 1 σ1) fun σ3 =>
let σ4 := sI σ3 102 14 ((σ3.1 102 14) - 1);
let σ5 := sI σ4 102 12 ((σ4.1 102 12) - 1);
let σ6 := sI σ5 102 8 ((σ5.1 102 8) + 1);
if (σ6.1 102 14) = 0 then (
rZ 1 σ6)
else (
cV (f_M_endsPiece d σ6) fun σ7 =>
f_M_readsCondition_92 d σ7))
else (
cI (f_M_here d σ1) fun v9 σ8 =>
if v9 = 38 then (
cI (f_M_here d σ8) fun v11 σ10 =>
if v11 = 124 then (
cV (f_M_lands d 1 σ10) fun σ12 =>
cI (f_M_here d σ12) fun v14 σ13 =>
if v14 = 38 then (
cV (f_M_jumps d 11 σ13) fun σ15 =>
f_M_readsCondition_40 d σ15)
else (
cV (f_M_jumps d 12 σ13) fun σ16 =>
f_M_readsCondition_40 d σ16))
else (
cV (f_M_lands d 0 σ10) fun σ17 =>
cI (f_M_here d σ17) fun v19 σ18 =>
if v19 = 38 then (
cV (f_M_jumps d 11 σ18) fun σ20 =>
f_M_readsCondition_40 d σ20)
else (
cV (f_M_jumps d 12 σ18) fun σ21 =>
f_M_readsCondition_40 d σ21)))
else (
cI (f_M_here d σ8) fun v23 σ22 =>
if v23 = 124 then (
cI (f_M_here d σ22) fun v25 σ24 =>
if v25 = 124 then (
cV (f_M_lands d 1 σ24) fun σ26 =>
cI (f_M_here d σ26) fun v28 σ27 =>
if v28 = 38 then (
cV (f_M_jumps d 11 σ27) fun σ29 =>
f_M_readsCondition_40 d σ29)
else (
cV (f_M_jumps d 12 σ27) fun σ30 =>
f_M_readsCondition_40 d σ30))
else (
cV (f_M_lands d 0 σ24) fun σ31 =>
cI (f_M_here d σ31) fun v33 σ32 =>
if v33 = 38 then (
cV (f_M_jumps d 11 σ32) fun σ34 =>
f_M_readsCondition_40 d σ34)
else (
cV (f_M_jumps d 12 σ32) fun σ35 =>
f_M_readsCondition_40 d σ35)))
else (
cI (f_M_wrongAt d 1 (σ22.1 102 8) σ22) fun v37 σ36 =>
rZ v37 σ36))) :=
  evAt_un [40, 92] 33 (jmp cd_209 92) [.ref 102] [] σ
set_option maxRecDepth 20000 in
theorem f_M_readsCompared_eq (d : Nat) (σ : Sg) : f_M_readsCompared (d + 1) σ =
cI (f_M_readsSum d σ) fun v2 σ1 =>
if v2 = 0 then (
rZ 0 σ1)
else (
cI (f_M_here d σ1) fun v4 σ3 =>
if v4 = 60 then (
if (7 : Int32) = ((-1)) then (
cI (f_M_wrongAt d 1 (σ3.1 102 8) σ3) fun v6 σ5 =>
rZ v6 σ5)
else (
let σ7 := sI σ3 102 8 ((σ3.1 102 8) + 1);
cI (f_M_readsSum d σ7) fun v9 σ8 =>
if v9 = 0 then (
rZ 0 σ8)
else (
cV (f_M_notes d 7 0 σ8) fun σ10 =>
cV (f_M_endsPiece d σ10) fun σ11 =>
rZ 1 σ11)))
else (
cI (f_M_here d σ3) fun v13 σ12 =>
if v13 = 62 then (
if (8 : Int32) = ((-1)) then (
cI (f_M_wrongAt d 1 (σ12.1 102 8) σ12) fun v15 σ14 =>
rZ v15 σ14)
else (
let σ16 := sI σ12 102 8 ((σ12.1 102 8) + 1);
cI (f_M_readsSum d σ16) fun v18 σ17 =>
if v18 = 0 then (
rZ 0 σ17)
else (
cV (f_M_notes d 8 0 σ17) fun σ19 =>
cV (f_M_endsPiece d σ19) fun σ20 =>
rZ 1 σ20)))
else (
cI (f_M_here d σ12) fun v22 σ21 =>
if v22 = 61 then (
if (9 : Int32) = ((-1)) then (
cI (f_M_wrongAt d 1 (σ21.1 102 8) σ21) fun v24 σ23 =>
rZ v24 σ23)
else (
let σ25 := sI σ21 102 8 ((σ21.1 102 8) + 1);
cI (f_M_readsSum d σ25) fun v27 σ26 =>
if v27 = 0 then (
rZ 0 σ26)
else (
cV (f_M_notes d 9 0 σ26) fun σ28 =>
cV (f_M_endsPiece d σ28) fun σ29 =>
rZ 1 σ29)))
else (
if (((-1)) : Int32) = ((-1)) then (
cI (f_M_wrongAt d 1 (σ21.1 102 8) σ21) fun v31 σ30 =>
rZ v31 σ30)
else (
let σ32 := sI σ21 102 8 ((σ21.1 102 8) + 1);
cI (f_M_readsSum d σ32) fun v34 σ33 =>
if v34 = 0 then (
rZ 0 σ33)
else (
cV (f_M_notes d (-1) 0 σ33) fun σ35 =>
cV (f_M_endsPiece d σ35) fun σ36 =>
rZ 1 σ36)))))) :=
  evAt_un [] 40 cd_210 [.ref 102, .null] [] σ
theorem f_M_endsPiece_eq (d : Nat) (σ : Sg) : f_M_endsPiece (d + 1) σ =
cI (f_M_waitTop d σ) fun v2 σ1 =>
if v2 = 10 then (
cV (f_M_notes d 10 0 σ1) fun σ3 =>
let σ4 := sI σ3 102 14 ((σ3.1 102 14) - 1);
let σ5 := sI σ4 102 12 ((σ4.1 102 12) - 1);
f_M_endsPiece_0 d σ5)
else (
rV σ1) :=
  evAt_un [0] 23 cd_211 [.ref 102] [] σ
theorem f_M_endsPiece_0_eq (d : Nat) (σ : Sg) : f_M_endsPiece_0 d σ =
cI (f_M_waitTop d σ) fun v2 σ1 =>
if v2 = 10 then (
cV (f_M_notes d 10 0 σ1) fun σ3 =>
let σ4 := sI σ3 102 14 ((σ3.1 102 14) - 1);
let σ5 := sI σ4 102 12 ((σ4.1 102 12) - 1);
f_M_endsPiece_0 d σ5)
else (
rV σ1) :=
  evAt_un [0] 23 (jmp cd_211 0) [.ref 102] [] σ
set_option maxRecDepth 20000 in
theorem f_M_lands_eq (d : Nat) (a1 : Int32) (σ : Sg) : f_M_lands (d + 1) a1 σ =
cI (f_M_waitTop d σ) fun v2 σ1 =>
if v2 = 11 then (
bnd ((σ1.1 102 14) - 1) 260 (
rmI (σ1.1 110 (ix ((σ1.1 102 14) - 1))) 1048576 fun v3 =>
bnd v3 260 (
dvI (σ1.1 109 (ix v3)) 1048576 fun v4 =>
bnd v3 260 (let σ5 := sI σ1 109 (ix v3) ((1048576 * v4) + (σ1.1 102 13));
let σ6 := sI σ5 102 14 ((σ5.1 102 14) - 1);
f_M_lands_0 d a1 (.int v3) σ6))))
else (
if a1 = 0 then (
rV σ1)
else (
cI (f_M_waitTop d σ1) fun v8 σ7 =>
if v8 = 12 then (
bnd ((σ7.1 102 14) - 1) 260 (
rmI (σ7.1 110 (ix ((σ7.1 102 14) - 1))) 1048576 fun v9 =>
bnd v9 260 (
dvI (σ7.1 109 (ix v9)) 1048576 fun v10 =>
bnd v9 260 (let σ11 := sI σ7 109 (ix v9) ((1048576 * v10) + (σ7.1 102 13));
let σ12 := sI σ11 102 14 ((σ11.1 102 14) - 1);
f_M_lands_0 d a1 (.int v9) σ12))))
else (
rV σ7))) :=
  evAt_un [0] 44 cd_212 [.ref 102, .int a1, .null] [] σ
set_option maxRecDepth 20000 in
theorem f_M_lands_0_eq (d : Nat) (x1 : Int32) (x2 : Value) (σ : Sg) : f_M_lands_0 d x1 x2 σ =
cI (f_M_waitTop d σ) fun v2 σ1 =>
if v2 = 11 then (
bnd ((σ1.1 102 14) - 1) 260 (
rmI (σ1.1 110 (ix ((σ1.1 102 14) - 1))) 1048576 fun v3 =>
bnd v3 260 (
dvI (σ1.1 109 (ix v3)) 1048576 fun v4 =>
bnd v3 260 (let σ5 := sI σ1 109 (ix v3) ((1048576 * v4) + (σ1.1 102 13));
let σ6 := sI σ5 102 14 ((σ5.1 102 14) - 1);
f_M_lands_0 d x1 (.int v3) σ6))))
else (
if x1 = 0 then (
rV σ1)
else (
cI (f_M_waitTop d σ1) fun v8 σ7 =>
if v8 = 12 then (
bnd ((σ7.1 102 14) - 1) 260 (
rmI (σ7.1 110 (ix ((σ7.1 102 14) - 1))) 1048576 fun v9 =>
bnd v9 260 (
dvI (σ7.1 109 (ix v9)) 1048576 fun v10 =>
bnd v9 260 (let σ11 := sI σ7 109 (ix v9) ((1048576 * v10) + (σ7.1 102 13));
let σ12 := sI σ11 102 14 ((σ11.1 102 14) - 1);
f_M_lands_0 d x1 (.int v9) σ12))))
else (
rV σ7))) :=
  evAt_un [0] 44 (jmp cd_212 0) [.ref 102, .int x1, x2] [] σ
theorem f_M_jumps_eq (d : Nat) (a1 : Int32) (σ : Sg) : f_M_jumps (d + 1) a1 σ =
bnd (σ.1 102 14) 260 (let σ1 := sI σ 110 (ix (σ.1 102 14)) ((1048576 * a1) + (σ.1 102 13));
let σ2 := sI σ1 102 14 ((σ1.1 102 14) + 1);
cV (f_M_notes d a1 0 σ2) fun σ3 =>
let σ4 := sI σ3 102 8 ((σ3.1 102 8) + 1);
rV σ4) :=
  evAt_un [] 30 cd_213 [.ref 102, .int a1] [] σ
theorem f_M_takes_eq (d : Nat) (a1 : Int32) (σ : Sg) : f_M_takes (d + 1) a1 σ =
cI (f_M_here d σ) fun v2 σ1 =>
if v2 = a1 then (
let σ3 := sI σ1 102 8 ((σ1.1 102 8) + 1);
rZ 1 σ3)
else (
cI (f_M_wrongAt d 1 (σ1.1 102 8) σ1) fun v5 σ4 =>
rZ v5 σ4) :=
  evAt_un [] 14 cd_214 [.ref 102, .int a1] [] σ
theorem f_M_rule_eq (d : Nat) (a1 : Int32) (σ : Sg) : f_M_rule (d + 1) a1 σ =
cI (f_M_in d a1 1 20 σ) fun v2 σ1 =>
if v2 = 0 then (
rI ((-1)) σ1)
else (
if (σ1.1 102 7) < a1 then (
rI ((-1)) σ1)
else (
cV (f_M_beginsText d 0 a1 σ1) fun σ3 =>
cI (f_M_readsWives d σ3) fun v5 σ4 =>
if v5 = 0 then (
let σ6 := sI σ4 102 7 0;
if (0 : Int32) = 0 then (
rI (σ6.1 102 10) σ6)
else (
let σ7 := sI σ6 102 5 (σ6.1 102 32);
f_M_rule_70 d (.int a1) (.int 0) 0 σ7))
else (
cI (f_M_readsChildren d σ4) fun v9 σ8 =>
if v9 = 0 then (
let σ10 := sI σ8 102 7 0;
if (0 : Int32) = 0 then (
rI (σ10.1 102 10) σ10)
else (
let σ11 := sI σ10 102 5 (σ10.1 102 32);
f_M_rule_70 d (.int a1) (.int 0) 0 σ11))
else (
let σ12 := sI σ8 102 7 0;
if (1 : Int32) = 0 then (
rI (σ12.1 102 10) σ12)
else (
let σ13 := sI σ12 102 5 (σ12.1 102 32);
f_M_rule_70 d (.int a1) (.int 1) 0 σ13))))) :=
  evAt_un [70, 110, 131] 35 cd_215 [.ref 102, .int a1, .null, .null] [] σ
theorem f_M_rule_70_eq (d : Nat) (x1 : Value) (x2 : Value) (x3 : Int32) (σ : Sg) : f_M_rule_70 d x1 x2 x3 σ =
if x3 < (σ.1 102 5) then (
bnd x3 6 (
bnd x3 6 (let σ1 := sI σ 106 (ix x3) (σ.1 122 (ix x3));
bnd x3 6 (
bnd x3 6 (let σ2 := sI σ1 107 (ix x3) (σ1.1 123 (ix x3));
f_M_rule_70 d (x1) (nlg x2) (x3 + 1) σ2)))))
else (
f_M_rule_110 d (x1) (nlg x2) 0 σ) :=
  evAt_un [70, 110, 131] 24 (jmp cd_215 70) [.ref 102, x1, x2, .int x3] [] σ
theorem f_M_rule_110_eq (d : Nat) (x1 : Value) (x2 : Value) (x3 : Int32) (σ : Sg) : f_M_rule_110 d x1 x2 x3 σ =
if x3 < 18 then (
bnd x3 20 (let σ1 := sI σ 103 (ix x3) 0;
f_M_rule_110 d (x1) (nlg x2) (x3 + 1) σ1))
else (
f_M_rule_131 d (x1) (nlg x2) 0 σ) :=
  evAt_un [70, 110, 131] 12 (jmp cd_215 110) [.ref 102, x1, x2, .int x3] [] σ
theorem f_M_rule_131_eq (d : Nat) (x1 : Value) (x2 : Value) (x3 : Int32) (σ : Sg) : f_M_rule_131 d x1 x2 x3 σ =
if x3 < (σ.1 102 69) then (
bnd x3 24 (
if (σ.1 143 (ix x3)) < (σ.1 102 5) then (
f_M_rule_131 d (x1) (nlg x2) (x3 + 1) σ)
else (
bnd x3 24 (let σ1 := sI σ 143 (ix x3) ((-1));
f_M_rule_131 d (x1) (nlg x2) (x3 + 1) σ1))))
else (
rI (σ.1 102 5) σ) :=
  evAt_un [70, 110, 131] 20 (jmp cd_215 131) [.ref 102, x1, x2, .int x3] [] σ
theorem f_M_readsWives_eq (d : Nat) (σ : Sg) : f_M_readsWives (d + 1) σ =
let σ1 := sI σ 102 32 0;
f_M_readsWives_5 d .null σ1 :=
  evAt_un [5, 84] 5 cd_216 [.ref 102, .null] [] σ
theorem f_M_readsWives_5_eq (d : Nat) (x1 : Value) (σ : Sg) : f_M_readsWives_5 d x1 σ =
cI (f_M_here d σ) fun v2 σ1 =>
if v2 = 47 then (
if (σ1.1 102 32) < 2 then (
cI (f_M_wrongAt d 1 (σ1.1 102 8) σ1) fun v4 σ3 =>
rZ v4 σ3)
else (
let σ5 := sI σ1 102 8 ((σ1.1 102 8) + 1);
f_M_readsWives_84 d 0 σ5))
else (
cI (f_M_readsName d 122 (σ1.1 102 32) σ1) fun v7 σ6 =>
if v7 = 0 then (
rZ 0 σ6)
else (
let σ8 := sI σ6 102 32 ((σ6.1 102 32) + 1);
let σ9 := sI σ8 102 8 ((σ8.1 102 8) + 1);
f_M_readsWives_5 d (x1) σ9)) :=
  evAt_un [5, 84] 26 (jmp cd_216 5) [.ref 102, x1] [] σ
theorem f_M_readsWives_84_eq (d : Nat) (x1 : Int32) (σ : Sg) : f_M_readsWives_84 d x1 σ =
if x1 < (σ.1 102 32) then (
bnd x1 6 (
if (σ.1 122 (ix x1)) < (σ.1 102 32) then (
f_M_readsWives_84 d (x1 + 1) σ)
else (
cI (f_M_wrongAt d 3 x1 σ) fun v2 σ1 =>
rZ v2 σ1)))
else (
rZ 1 σ) :=
  evAt_un [5, 84] 18 (jmp cd_216 84) [.ref 102, .int x1] [] σ
theorem f_M_readsName_eq (d : Nat) (a1 : Nat) (a2 : Int32) (σ : Sg) : f_M_readsName (d + 1) a1 a2 σ =
cI (f_M_here d σ) fun v2 σ1 =>
cI (f_M_in d (v2 - 97) 0 5 σ1) fun v4 σ3 =>
if v4 = 0 then (
cI (f_M_wrongAt d 1 (σ3.1 102 8) σ3) fun v6 σ5 =>
rZ v6 σ5)
else (
if a2 = 6 then (
cI (f_M_wrongAt d 1 (σ3.1 102 8) σ3) fun v8 σ7 =>
rZ v8 σ7)
else (
f_M_readsName_36 d a1 a2 (v2 - 97) 0 σ3)) :=
  evAt_un [36] 21 cd_217 [.ref 102, .ref a1, .int a2, .null, .null] [] σ
theorem f_M_readsName_36_eq (d : Nat) (x1 : Nat) (x2 : Int32) (x3 : Int32) (x4 : Int32) (σ : Sg) : f_M_readsName_36 d x1 x2 x3 x4 σ =
if x4 < x2 then (
ldI x1 x4 σ fun v1 =>
if v1 = x3 then (
cI (f_M_wrongAt d 6 (σ.1 102 8) σ) fun v3 σ2 =>
rZ v3 σ2)
else (
f_M_readsName_36 d x1 x2 x3 (x4 + 1) σ))
else (
stI x1 x2 x3 σ fun σ4 =>
rZ 1 σ4) :=
  evAt_un [36] 16 (jmp cd_217 36) [.ref 102, .ref x1, .int x2, .int x3, .int x4] [] σ
theorem f_M_readsChildren_eq (d : Nat) (σ : Sg) : f_M_readsChildren (d + 1) σ =
f_M_readsChildren_2 d 0 σ :=
  evAt_un [2] 4 cd_218 [.ref 102, .null] [] σ
theorem f_M_readsChildren_2_eq (d : Nat) (x1 : Int32) (σ : Sg) : f_M_readsChildren_2 d x1 σ =
if x1 < (σ.1 102 32) then (
cI (f_M_readsName d 123 x1 σ) fun v2 σ1 =>
if v2 = 0 then (
rZ 0 σ1)
else (
bnd x1 6 (
if (σ1.1 123 (ix x1)) < (σ1.1 102 32) then (
let σ3 := sI σ1 102 8 ((σ1.1 102 8) + 1);
f_M_readsChildren_2 d (x1 + 1) σ3)
else (
cI (f_M_wrongAt d 3 (σ1.1 102 8) σ1) fun v5 σ4 =>
rZ v5 σ4))))
else (
if (σ.1 102 8) = (σ.1 102 9) then (
rZ 1 σ)
else (
cI (f_M_wrongAt d 1 (σ.1 102 8) σ) fun v7 σ6 =>
if v7 = 0 then (
rZ 0 σ6)
else (
rZ 1 σ6))) :=
  evAt_un [2] 27 (jmp cd_218 2) [.ref 102, .int x1] [] σ
set_option maxRecDepth 20000 in
theorem f_M_kin_eq (d : Nat) (a1 : Int32) (a2 : Int32) (a3 : Int32) (σ : Sg) : f_M_kin (d + 1) a1 a2 a3 σ =
cI (f_M_in d a1 1 40 σ) fun v2 σ1 =>
if v2 = 0 then (
rI ((-1)) σ1)
else (
cI (f_M_in d a2 0 1 σ1) fun v4 σ3 =>
if v4 = 0 then (
rI ((-1)) σ3)
else (
cI (f_M_isName d a3 σ3) fun v6 σ5 =>
if v6 = 0 then (
cI (f_M_in d a3 100 104 σ5) fun v8 σ7 =>
if v8 = 0 then (
rI ((-1)) σ7)
else (
if (σ7.1 102 5) = 0 then (
rI ((-1)) σ7)
else (
if (σ7.1 102 7) < a1 then (
rI ((-1)) σ7)
else (
cI (f_M_readsWord d 0 a1 a2 σ7) fun v10 σ9 =>
let σ11 := sI σ9 102 7 0;
if v10 < 0 then (
rI v10 σ11)
else (
if a3 = 100 then (
cI (f_M_sortBehind d a2 σ11) fun v13 σ12 =>
rI v13 σ12)
else if a3 = 101 then (
cI (f_M_fixedBy d a2 σ11) fun v15 σ14 =>
rI v15 σ14)
else if a3 = 102 then (
cI (f_M_oftenTill d a2 σ11) fun v17 σ16 =>
rI v17 σ16)
else if a3 = 103 then (
cI (f_M_lawful d a2 σ11) fun v19 σ18 =>
rI v19 σ18)
else if a3 = 104 then (
rI (σ11.1 102 38) σ11)
else (
cI (f_M_leadsTo d a3 a2 σ11) fun v21 σ20 =>
rI v21 σ20))))))
else (
if (σ5.1 102 5) = 0 then (
rI ((-1)) σ5)
else (
if (σ5.1 102 7) < a1 then (
rI ((-1)) σ5)
else (
cI (f_M_readsWord d 0 a1 a2 σ5) fun v23 σ22 =>
let σ24 := sI σ22 102 7 0;
if v23 < 0 then (
rI v23 σ24)
else (
if a3 = 100 then (
cI (f_M_sortBehind d a2 σ24) fun v26 σ25 =>
rI v26 σ25)
else if a3 = 101 then (
cI (f_M_fixedBy d a2 σ24) fun v28 σ27 =>
rI v28 σ27)
else if a3 = 102 then (
cI (f_M_oftenTill d a2 σ24) fun v30 σ29 =>
rI v30 σ29)
else if a3 = 103 then (
cI (f_M_lawful d a2 σ24) fun v32 σ31 =>
rI v32 σ31)
else if a3 = 104 then (
rI (σ24.1 102 38) σ24)
else (
cI (f_M_leadsTo d a3 a2 σ24) fun v34 σ33 =>
rI v34 σ33))))))) :=
  evAt_un [] 46 cd_219 [.ref 102, .int a1, .int a2, .int a3, .null] [] σ
theorem f_M_readsWord_eq (d : Nat) (a1 : Int32) (a2 : Int32) (a3 : Int32) (σ : Sg) : f_M_readsWord (d + 1) a1 a2 a3 σ =
let σ1 := sI σ 102 42 a1;
cV (f_M_beginsText d a1 a2 σ1) fun σ2 =>
let σ3 := sI σ2 102 38 0;
let σ4 := sI σ3 102 39 0;
cI (f_M_readsStep d σ4) fun v6 σ5 =>
f_M_readsWord_27 d (.int a1) (.int a2) a3 v6 .null .null σ5 :=
  evAt_un [27, 75] 18 cd_220 [.ref 102, .int a1, .int a2, .int a3, .null, .null, .null] [] σ
theorem f_M_readsWord_27_eq (d : Nat) (x1 : Value) (x2 : Value) (x3 : Int32) (x4 : Int32) (x5 : Value) (x6 : Value) (σ : Sg) : f_M_readsWord_27 d x1 x2 x3 x4 x5 x6 σ =
if x4 = 0 then (
if x4 = 0 then (
rI (σ.1 102 10) σ)
else (
f_M_readsWord_75 d (x1) (x2) (.int x3) (.int x4) x3 0 σ))
else (
if (σ.1 102 8) < (σ.1 102 9) then (
cI (f_M_readsStep d σ) fun v2 σ1 =>
f_M_readsWord_27 d (x1) (x2) x3 v2 (x5) (x6) σ1)
else (
if 0 < (σ.1 102 39) then (
cI (f_M_readsStep d σ) fun v4 σ3 =>
f_M_readsWord_27 d (x1) (x2) x3 v4 (x5) (x6) σ3)
else (
if x4 = 0 then (
rI (σ.1 102 10) σ)
else (
f_M_readsWord_75 d (x1) (x2) (.int x3) (.int x4) x3 0 σ)))) :=
  evAt_un [27, 75] 18 (jmp cd_220 27) [.ref 102, x1, x2, .int x3, .int x4, x5, x6] [] σ
theorem f_M_readsWord_75_eq (d : Nat) (x1 : Value) (x2 : Value) (x3 : Value) (x4 : Value) (x5 : Int32) (x6 : Int32) (σ : Sg) : f_M_readsWord_75 d x1 x2 x3 x4 x5 x6 σ =
if x6 < (σ.1 102 38) then (
bnd x6 24 (
cI (f_M_canBe d (σ.1 124 (ix x6)) x5 σ) fun v2 σ1 =>
if v2 = 0 then (
bnd x6 24 (
rI (((-7000)) - (σ1.1 125 (ix x6))) σ1))
else (
bnd x6 24 (
cI (f_M_sortBy d (σ1.1 124 (ix x6)) σ1) fun v4 σ3 =>
f_M_readsWord_75 d (x1) (x2) (x3) (nlg x4) v4 (x6 + 1) σ3))))
else (
rI 0 σ) :=
  evAt_un [27, 75] 21 (jmp cd_220 75) [.ref 102, x1, x2, x3, x4, .int x5, .int x6] [] σ
theorem f_M_readsStep_eq (d : Nat) (σ : Sg) : f_M_readsStep (d + 1) σ =
cV (f_M_readsTimes d σ) fun σ1 =>
f_M_readsStep_4 d .null .null .null σ1 :=
  evAt_un [4, 234] 4 cd_221 [.ref 102, .null, .null, .null] [] σ
set_option maxRecDepth 20000 in
theorem f_M_readsStep_4_eq (d : Nat) (x1 : Value) (x2 : Value) (x3 : Value) (σ : Sg) : f_M_readsStep_4 d x1 x2 x3 σ =
cI (f_M_here d σ) fun v2 σ1 =>
if v2 = 40 then (
if (σ1.1 102 39) = 2 then (
cI (f_M_wrongAt d 5 ((σ1.1 102 8) - (σ1.1 102 42)) σ1) fun v4 σ3 =>
rZ v4 σ3)
else (
bnd (σ1.1 102 39) 2 (let σ5 := sI σ1 126 (ix (σ1.1 102 39)) (σ1.1 102 40);
bnd (σ5.1 102 39) 2 (let σ6 := sI σ5 127 (ix (σ5.1 102 39)) (σ5.1 102 38);
bnd (σ6.1 102 39) 2 (let σ7 := sI σ6 128 (ix (σ6.1 102 39)) (σ6.1 102 41);
let σ8 := sI σ7 102 39 ((σ7.1 102 39) + 1);
let σ9 := sI σ8 102 8 ((σ8.1 102 8) + 1);
cV (f_M_readsTimes d σ9) fun σ10 =>
f_M_readsStep_4 d (x1) (x2) (x3) σ10)))))
else (
cI (f_M_here d σ1) fun v12 σ11 =>
cI (f_M_kindOf d v12 σ11) fun v14 σ13 =>
if v14 = ((-1 : Int32)) then (
cI (f_M_wrongAt d 1 ((σ13.1 102 8) - (σ13.1 102 42)) σ13) fun v16 σ15 =>
rZ v16 σ15)
else (
if 24 < ((σ13.1 102 38) + (σ1.1 102 41)) then (
cI (f_M_wrongAt d 6 ((σ1.1 102 40) - (σ13.1 102 42)) σ13) fun v18 σ17 =>
rZ v18 σ17)
else (
bnd (σ13.1 102 38) 24 (let σ19 := sI σ13 124 (ix (σ13.1 102 38)) v14;
bnd (σ19.1 102 38) 24 (let σ20 := sI σ19 125 (ix (σ19.1 102 38)) ((σ19.1 102 8) - (σ19.1 102 42));
let σ21 := sI σ20 102 8 ((σ20.1 102 8) + 1);
let σ22 := sI σ21 102 38 ((σ21.1 102 38) + 1);
cI (f_M_repeats d ((σ22.1 102 38) - 1) (σ1.1 102 41) ((σ1.1 102 40) - (σ22.1 102 42)) σ22) fun v24 σ23 =>
if v24 = 0 then (
rZ 0 σ23)
else (
f_M_readsStep_234 d (.int (σ1.1 102 40)) (.int (σ1.1 102 41)) (.int v14) σ23)))))) :=
  evAt_un [4, 234] 67 (jmp cd_221 4) [.ref 102, x1, x2, x3] [] σ
set_option maxRecDepth 20000 in
theorem f_M_readsStep_234_eq (d : Nat) (x1 : Value) (x2 : Value) (x3 : Value) (σ : Sg) : f_M_readsStep_234 d x1 x2 x3 σ =
cI (f_M_here d σ) fun v2 σ1 =>
if v2 = 41 then (
if 0 < (σ1.1 102 39) then (
let σ3 := sI σ1 102 8 ((σ1.1 102 8) + 1);
let σ4 := sI σ3 102 39 ((σ3.1 102 39) - 1);
bnd (σ4.1 102 39) 2 (
bnd (σ4.1 102 39) 2 (
bnd (σ4.1 102 39) 2 (
cI (f_M_repeats d (σ4.1 127 (ix (σ4.1 102 39))) (σ4.1 128 (ix (σ4.1 102 39))) ((σ4.1 126 (ix (σ4.1 102 39))) - (σ4.1 102 42)) σ4) fun v6 σ5 =>
if v6 = 0 then (
rZ 0 σ5)
else (
f_M_readsStep_234 d (x1) (x2) (x3) σ5)))))
else (
rZ 1 σ1))
else (
rZ 1 σ1) :=
  evAt_un [4, 234] 44 (jmp cd_221 234) [.ref 102, x1, x2, x3] [] σ
theorem f_M_readsTimes_eq (d : Nat) (σ : Sg) : f_M_readsTimes (d + 1) σ =
let σ1 := sI σ 102 40 (σ.1 102 8);
let σ2 := sI σ1 102 41 1;
cI (f_M_here d σ2) fun v4 σ3 =>
cI (f_M_in d v4 50 57 σ3) fun v6 σ5 =>
if v6 = 0 then (
rV σ5)
else (
cI (f_M_here d σ5) fun v8 σ7 =>
let σ9 := sI σ7 102 41 (v8 - 48);
let σ10 := sI σ9 102 8 ((σ9.1 102 8) + 1);
rV σ10) :=
  evAt_un [] 28 cd_222 [.ref 102] [] σ
theorem f_M_kindOf_eq (d : Nat) (a0 : Int32) (σ : Sg) : f_M_kindOf (d + 1) a0 σ =
f_M_kindOf_2 d a0 0 σ :=
  evAt_un [2] 4 cd_223 [.int a0, .null] [] σ
theorem f_M_kindOf_2_eq (d : Nat) (x0 : Int32) (x1 : Int32) (σ : Sg) : f_M_kindOf_2 d x0 x1 σ =
if x1 < 8 then (
cI (f_M_letterOf d x1 σ) fun v2 σ1 =>
if v2 = x0 then (
rI x1 σ1)
else (
f_M_kindOf_2 d x0 (x1 + 1) σ1))
else (
rI ((-1)) σ) :=
  evAt_un [2] 11 (jmp cd_223 2) [.int x0, .int x1] [] σ
theorem f_M_letterOf_eq (d : Nat) (a0 : Int32) (σ : Sg) : f_M_letterOf (d + 1) a0 σ =
if a0 = 0 then (
rI 102 σ)
else if a0 = 1 then (
rI 109 σ)
else if a0 = 2 then (
rI 104 σ)
else if a0 = 3 then (
rI 119 σ)
else if a0 = 4 then (
rI 115 σ)
else if a0 = 5 then (
rI 100 σ)
else if a0 = 6 then (
rI 98 σ)
else (
rI 122 σ) :=
  evAt_un [] 6 cd_224 [.int a0] [] σ
theorem f_M_repeats_eq (d : Nat) (a1 : Int32) (a2 : Int32) (a3 : Int32) (σ : Sg) : f_M_repeats (d + 1) a1 a2 a3 σ =
if 24 < (a1 + (((σ.1 102 38) - a1) * a2)) then (
cI (f_M_wrongAt d 6 a3 σ) fun v2 σ1 =>
rZ v2 σ1)
else (
f_M_repeats_33 d a1 a2 (.int a3) ((σ.1 102 38) - a1) (a1 + ((σ.1 102 38) - a1)) σ) :=
  evAt_un [33] 19 cd_225 [.ref 102, .int a1, .int a2, .int a3, .null, .null] [] σ
theorem f_M_repeats_33_eq (d : Nat) (x1 : Int32) (x2 : Int32) (x3 : Value) (x4 : Int32) (x5 : Int32) (σ : Sg) : f_M_repeats_33 d x1 x2 x3 x4 x5 σ =
if x5 < (x1 + (x4 * x2)) then (
bnd (x5 - x4) 24 (
bnd x5 24 (let σ1 := sI σ 124 (ix x5) (σ.1 124 (ix (x5 - x4)));
bnd (x5 - x4) 24 (
bnd x5 24 (let σ2 := sI σ1 125 (ix x5) (σ1.1 125 (ix (x5 - x4)));
f_M_repeats_33 d x1 x2 (x3) x4 (x5 + 1) σ2)))))
else (
let σ3 := sI σ 102 38 (x1 + (x4 * x2));
rZ 1 σ3) :=
  evAt_un [33] 31 (jmp cd_225 33) [.ref 102, .int x1, .int x2, x3, .int x4, .int x5] [] σ
theorem f_M_canBe_eq (d : Nat) (a0 : Int32) (a1 : Int32) (σ : Sg) : f_M_canBe (d + 1) a0 a1 σ =
if a0 = 2 then (
if a0 = 2 then (
if a1 = 1 then (
rZ 1 σ)
else (
if a0 = 3 then (
if a1 = 0 then (
rZ 1 σ)
else (
rZ 0 σ))
else (
rZ 0 σ)))
else (
if a0 = 3 then (
if a1 = 0 then (
rZ 1 σ)
else (
rZ 0 σ))
else (
rZ 0 σ)))
else (
if a0 = 3 then (
if a0 = 2 then (
if a1 = 1 then (
rZ 1 σ)
else (
if a0 = 3 then (
if a1 = 0 then (
rZ 1 σ)
else (
rZ 0 σ))
else (
rZ 0 σ)))
else (
if a0 = 3 then (
if a1 = 0 then (
rZ 1 σ)
else (
rZ 0 σ))
else (
rZ 0 σ)))
else (
rZ 1 σ)) :=
  evAt_un [] 22 cd_226 [.int a0, .int a1] [] σ
theorem f_M_sortBy_eq (d : Nat) (a0 : Int32) (σ : Sg) : f_M_sortBy (d + 1) a0 σ =
if a0 = 1 then (
rI 1 σ)
else (
if a0 = 3 then (
rI 1 σ)
else (
if a0 = 5 then (
rI 1 σ)
else (
if a0 = 7 then (
rI 1 σ)
else (
rI 0 σ)))) :=
  evAt_un [] 17 cd_227 [.int a0] [] σ
theorem f_M_sortBehind_eq (d : Nat) (a1 : Int32) (σ : Sg) : f_M_sortBehind (d + 1) a1 σ =
if (σ.1 102 38) = 0 then (
rI a1 σ)
else (
bnd ((σ.1 102 38) - 1) 24 (
cI (f_M_sortBy d (σ.1 124 (ix ((σ.1 102 38) - 1))) σ) fun v2 σ1 =>
rI v2 σ1)) :=
  evAt_un [] 14 cd_228 [.ref 102, .int a1] [] σ
theorem f_M_fixedBy_eq (d : Nat) (a1 : Int32) (σ : Sg) : f_M_fixedBy (d + 1) a1 σ =
f_M_fixedBy_4 d a1 0 0 σ :=
  evAt_un [4] 6 cd_229 [.ref 102, .int a1, .null, .null] [] σ
theorem f_M_fixedBy_4_eq (d : Nat) (x1 : Int32) (x2 : Int32) (x3 : Int32) (σ : Sg) : f_M_fixedBy_4 d x1 x2 x3 σ =
if x3 < (σ.1 102 5) then (
cI (f_M_leadsTo d x3 x1 σ) fun v2 σ1 =>
if v2 = x3 then (
f_M_fixedBy_4 d x1 (x2 + 1) (x3 + 1) σ1)
else (
f_M_fixedBy_4 d x1 x2 (x3 + 1) σ1))
else (
rI x2 σ) :=
  evAt_un [4] 18 (jmp cd_229 4) [.ref 102, .int x1, .int x2, .int x3] [] σ
theorem f_M_leadsTo_eq (d : Nat) (a1 : Int32) (a2 : Int32) (σ : Sg) : f_M_leadsTo (d + 1) a1 a2 σ =
f_M_leadsTo_8 d (.int a1) (.int a2) a1 a2 0 σ :=
  evAt_un [8] 8 cd_230 [.ref 102, .int a1, .int a2, .null, .null, .null] [] σ
theorem f_M_leadsTo_8_eq (d : Nat) (x1 : Value) (x2 : Value) (x3 : Int32) (x4 : Int32) (x5 : Int32) (σ : Sg) : f_M_leadsTo_8 d x1 x2 x3 x4 x5 σ =
if x5 < (σ.1 102 38) then (
bnd x5 24 (
cI (f_M_nameBy d (σ.1 124 (ix x5)) x3 x4 σ) fun v2 σ1 =>
bnd x5 24 (
cI (f_M_sortBy d (σ1.1 124 (ix x5)) σ1) fun v4 σ3 =>
f_M_leadsTo_8 d (x1) (nlg x2) v2 v4 (x5 + 1) σ3)))
else (
rI x3 σ) :=
  evAt_un [8] 23 (jmp cd_230 8) [.ref 102, x1, x2, .int x3, .int x4, .int x5] [] σ
theorem f_M_nameBy_eq (d : Nat) (a1 : Int32) (a2 : Int32) (a3 : Int32) (σ : Sg) : f_M_nameBy (d + 1) a1 a2 a3 σ =
if a1 = 0 then (
cI (f_M_before d 107 a2 σ) fun v2 σ1 =>
cI (f_M_before d 106 v2 σ1) fun v4 σ3 =>
rI v4 σ3)
else if a1 = 1 then (
cI (f_M_before d 107 a2 σ) fun v6 σ5 =>
rI v6 σ5)
else if a1 = 2 then (
cI (f_M_before d 106 a2 σ) fun v8 σ7 =>
rI v8 σ7)
else if a1 = 3 then (
bnd a2 6 (
rI (σ.1 106 (ix a2)) σ))
else if a1 = 4 then (
if a3 = 1 then (
bnd a2 6 (
rI (σ.1 107 (ix a2)) σ))
else (
bnd a2 6 (
bnd (σ.1 106 (ix a2)) 6 (
rI (σ.1 107 (ix (σ.1 106 (ix a2)))) σ))))
else if a1 = 5 then (
if a3 = 1 then (
bnd a2 6 (
rI (σ.1 107 (ix a2)) σ))
else (
bnd a2 6 (
bnd (σ.1 106 (ix a2)) 6 (
rI (σ.1 107 (ix (σ.1 106 (ix a2)))) σ))))
else (
rI a2 σ) :=
  evAt_un [] 15 cd_231 [.ref 102, .int a1, .int a2, .int a3] [] σ
theorem f_M_before_eq (d : Nat) (a0 : Nat) (a1 : Int32) (σ : Sg) : f_M_before (d + 1) a0 a1 σ =
f_M_before_2 d a0 a1 0 σ :=
  evAt_un [2] 4 cd_232 [.ref a0, .int a1, .null] [] σ
theorem f_M_before_2_eq (d : Nat) (x0 : Nat) (x1 : Int32) (x2 : Int32) (σ : Sg) : f_M_before_2 d x0 x1 x2 σ =
ldI x0 x2 σ fun v1 =>
if v1 = x1 then (
rI x2 σ)
else (
f_M_before_2 d x0 x1 (x2 + 1) σ) :=
  evAt_un [2] 12 (jmp cd_232 2) [.ref x0, .int x1, .int x2] [] σ
theorem f_M_oftenTill_eq (d : Nat) (a1 : Int32) (σ : Sg) : f_M_oftenTill (d + 1) a1 σ =
f_M_oftenTill_2 d a1 0 .null σ :=
  evAt_un [2, 42, 55] 4 cd_233 [.ref 102, .int a1, .null, .null] [] σ
theorem f_M_oftenTill_2_eq (d : Nat) (x1 : Int32) (x2 : Int32) (x3 : Value) (σ : Sg) : f_M_oftenTill_2 d x1 x2 x3 σ =
if x2 < (σ.1 102 5) then (
cI (f_M_leadsTo d x2 x1 σ) fun v2 σ1 =>
bnd x2 6 (let σ3 := sI σ1 130 (ix x2) v2;
bnd x2 6 (
bnd x2 6 (let σ4 := sI σ3 129 (ix x2) (σ3.1 130 (ix x2));
f_M_oftenTill_2 d x1 (x2 + 1) (x3) σ4))))
else (
f_M_oftenTill_42 d (.int x1) 1 (x3) σ) :=
  evAt_un [2, 42, 55] 24 (jmp cd_233 2) [.ref 102, .int x1, .int x2, x3] [] σ
theorem f_M_oftenTill_42_eq (d : Nat) (x1 : Value) (x2 : Int32) (x3 : Value) (σ : Sg) : f_M_oftenTill_42 d x1 x2 x3 σ =
cI (f_M_isPlain d 129 σ) fun v2 σ1 =>
if v2 = 0 then (
f_M_oftenTill_55 d (x1) x2 0 σ1)
else (
rI x2 σ1) :=
  evAt_un [2, 42, 55] 9 (jmp cd_233 42) [.ref 102, x1, .int x2, x3] [] σ
theorem f_M_oftenTill_55_eq (d : Nat) (x1 : Value) (x2 : Int32) (x3 : Int32) (σ : Sg) : f_M_oftenTill_55 d x1 x2 x3 σ =
if x3 < (σ.1 102 5) then (
bnd x3 6 (
bnd (σ.1 129 (ix x3)) 6 (
bnd x3 6 (let σ1 := sI σ 129 (ix x3) (σ.1 130 (ix (σ.1 129 (ix x3))));
f_M_oftenTill_55 d (x1) x2 (x3 + 1) σ1))))
else (
f_M_oftenTill_42 d (nlg x1) (x2 + 1) (.int x3) σ) :=
  evAt_un [2, 42, 55] 19 (jmp cd_233 55) [.ref 102, x1, .int x2, .int x3] [] σ
theorem f_M_isPlain_eq (d : Nat) (a1 : Nat) (σ : Sg) : f_M_isPlain (d + 1) a1 σ =
f_M_isPlain_2 d a1 0 σ :=
  evAt_un [2] 4 cd_234 [.ref 102, .ref a1, .null] [] σ
theorem f_M_isPlain_2_eq (d : Nat) (x1 : Nat) (x2 : Int32) (σ : Sg) : f_M_isPlain_2 d x1 x2 σ =
if x2 < (σ.1 102 5) then (
ldI x1 x2 σ fun v1 =>
if v1 = x2 then (
f_M_isPlain_2 d x1 (x2 + 1) σ)
else (
rZ 0 σ))
else (
rZ 1 σ) :=
  evAt_un [2] 13 (jmp cd_234 2) [.ref 102, .ref x1, .int x2] [] σ
theorem f_M_lawful_eq (d : Nat) (a1 : Int32) (σ : Sg) : f_M_lawful (d + 1) a1 σ =
f_M_lawful_4 d a1 0 0 σ :=
  evAt_un [4] 6 cd_235 [.ref 102, .int a1, .null, .null] [] σ
theorem f_M_lawful_4_eq (d : Nat) (x1 : Int32) (x2 : Int32) (x3 : Int32) (σ : Sg) : f_M_lawful_4 d x1 x2 x3 σ =
if x3 < (σ.1 102 5) then (
cI (f_M_sortBehind d x1 σ) fun v2 σ1 =>
if v2 = x1 then (
f_M_lawful_4 d x1 x2 (x3 + 1) σ1)
else (
cI (f_M_leadsTo d x3 x1 σ1) fun v4 σ3 =>
cI (f_M_spouseOf d x3 x1 σ3) fun v6 σ5 =>
if v4 = v6 then (
f_M_lawful_4 d x1 (x2 ||| (1 <<< (x3 &&& 31))) (x3 + 1) σ5)
else (
f_M_lawful_4 d x1 x2 (x3 + 1) σ5)))
else (
rI x2 σ) :=
  evAt_un [4] 28 (jmp cd_235 4) [.ref 102, .int x1, .int x2, .int x3] [] σ
theorem f_M_spouseOf_eq (d : Nat) (a1 : Int32) (a2 : Int32) (σ : Sg) : f_M_spouseOf (d + 1) a1 a2 σ =
if a2 = 0 then (
bnd a1 6 (
rI (σ.1 106 (ix a1)) σ))
else (
cI (f_M_before d 106 a1 σ) fun v2 σ1 =>
rI v2 σ1) :=
  evAt_un [] 10 cd_236 [.ref 102, .int a1, .int a2] [] σ
set_option maxRecDepth 20000 in
theorem f_M_alike_eq (d : Nat) (a1 : Int32) (a2 : Int32) (a3 : Int32) (σ : Sg) : f_M_alike (d + 1) a1 a2 a3 σ =
cI (f_M_in d a1 1 40 σ) fun v2 σ1 =>
if v2 = 0 then (
rI ((-1)) σ1)
else (
cI (f_M_in d a2 1 40 σ1) fun v4 σ3 =>
if v4 = 0 then (
rI ((-1)) σ3)
else (
cI (f_M_in d a3 0 1 σ3) fun v6 σ5 =>
if v6 = 0 then (
rI ((-1)) σ5)
else (
if (σ5.1 102 5) = 0 then (
rI ((-1)) σ5)
else (
if (σ5.1 102 7) < (a1 + a2) then (
rI ((-1)) σ5)
else (
cI (f_M_readsWord d 0 a1 a3 σ5) fun v8 σ7 =>
cI (f_M_sortBehind d a3 σ7) fun v10 σ9 =>
f_M_alike_67 d a1 a2 a3 v8 v10 0 .null .null σ9))))) :=
  evAt_un [67, 163] 38 cd_237 [.ref 102, .int a1, .int a2, .int a3, .null, .null, .null, .null, .null] [] σ
theorem f_M_alike_67_eq (d : Nat) (x1 : Int32) (x2 : Int32) (x3 : Int32) (x4 : Int32) (x5 : Int32) (x6 : Int32) (x7 : Value) (x8 : Value) (σ : Sg) : f_M_alike_67 d x1 x2 x3 x4 x5 x6 x7 x8 σ =
if x6 < (σ.1 102 5) then (
if x4 = 0 then (
cI (f_M_leadsTo d x6 x3 σ) fun v2 σ1 =>
bnd x6 6 (let σ3 := sI σ1 130 (ix x6) v2;
f_M_alike_67 d x1 x2 x3 x4 x5 (x6 + 1) (x7) (x8) σ3))
else (
if x4 = 0 then (
cI (f_M_readsWord d x1 x2 x3 σ) fun v5 σ4 =>
let σ6 := sI σ4 102 7 0;
if x4 < 0 then (
rI x4 σ6)
else (
if v5 < 0 then (
rI (v5 - 100000) σ6)
else (
cI (f_M_sortBehind d x3 σ6) fun v8 σ7 =>
if x5 = v8 then (
f_M_alike_163 d (.int x1) (.int x2) x3 (.int x4) (.int x5) (.int v5) 0 0 σ7)
else (
rI ((-4)) σ7))))
else (
let σ9 := sI σ 102 7 0;
if x4 < 0 then (
rI x4 σ9)
else (
if (0 : Int32) < 0 then (
rI (0 - 100000) σ9)
else (
cI (f_M_sortBehind d x3 σ9) fun v11 σ10 =>
if x5 = v11 then (
f_M_alike_163 d (.int x1) (.int x2) x3 (.int x4) (.int x5) (.int 0) 0 0 σ10)
else (
rI ((-4)) σ10))))))
else (
if x4 = 0 then (
cI (f_M_readsWord d x1 x2 x3 σ) fun v13 σ12 =>
let σ14 := sI σ12 102 7 0;
if x4 < 0 then (
rI x4 σ14)
else (
if v13 < 0 then (
rI (v13 - 100000) σ14)
else (
cI (f_M_sortBehind d x3 σ14) fun v16 σ15 =>
if x5 = v16 then (
f_M_alike_163 d (.int x1) (.int x2) x3 (.int x4) (.int x5) (.int v13) 0 0 σ15)
else (
rI ((-4)) σ15))))
else (
let σ17 := sI σ 102 7 0;
if x4 < 0 then (
rI x4 σ17)
else (
if (0 : Int32) < 0 then (
rI (0 - 100000) σ17)
else (
cI (f_M_sortBehind d x3 σ17) fun v19 σ18 =>
if x5 = v19 then (
f_M_alike_163 d (.int x1) (.int x2) x3 (.int x4) (.int x5) (.int 0) 0 0 σ18)
else (
rI ((-4)) σ18))))) :=
  evAt_un [67, 163] 33 (jmp cd_237 67) [.ref 102, .int x1, .int x2, .int x3, .int x4, .int x5, .int x6, x7, x8] [] σ
theorem f_M_alike_163_eq (d : Nat) (x1 : Value) (x2 : Value) (x3 : Int32) (x4 : Value) (x5 : Value) (x6 : Value) (x7 : Int32) (x8 : Int32) (σ : Sg) : f_M_alike_163 d x1 x2 x3 x4 x5 x6 x7 x8 σ =
if x8 < (σ.1 102 5) then (
bnd x8 6 (
cI (f_M_leadsTo d x8 x3 σ) fun v2 σ1 =>
if (σ.1 130 (ix x8)) = v2 then (
f_M_alike_163 d (x1) (x2) x3 (x4) (x5) (nlg x6) (x7 ||| (1 <<< (x8 &&& 31))) (x8 + 1) σ1)
else (
f_M_alike_163 d (x1) (x2) x3 (x4) (x5) (x6) x7 (x8 + 1) σ1)))
else (
rI x7 σ) :=
  evAt_un [67, 163] 23 (jmp cd_237 163) [.ref 102, x1, x2, .int x3, x4, x5, x6, .int x7, .int x8] [] σ
theorem f_M_ways_eq (d : Nat) (a1 : Int32) (σ : Sg) : f_M_ways (d + 1) a1 σ =
cI (f_M_in d a1 0 2 σ) fun v2 σ1 =>
if v2 = 0 then (
rI ((-1)) σ1)
else (
if (σ1.1 102 5) = 0 then (
rI ((-1)) σ1)
else (
cV (f_M_laysWays d σ1) fun σ3 =>
if a1 = 0 then (
rI (σ3.1 102 46) σ3)
else (
if a1 = 1 then (
cI (f_M_sides d σ3) fun v5 σ4 =>
rI v5 σ4)
else (
cI (f_M_isEven d σ3) fun v7 σ6 =>
if v7 = 0 then (
rI 0 σ6)
else (
rI 1 σ6))))) :=
  evAt_un [] 23 cd_238 [.ref 102, .int a1] [] σ
theorem f_M_laysWays_eq (d : Nat) (σ : Sg) : f_M_laysWays (d + 1) σ =
let σ1 := sI σ 102 46 0;
cI (f_M_plainWay d σ1) fun v3 σ2 =>
cV (f_M_addsWay d v3 σ2) fun σ4 =>
f_M_laysWays_15 d 0 σ4 :=
  evAt_un [15] 11 cd_239 [.ref 102, .null] [] σ
theorem f_M_laysWays_15_eq (d : Nat) (x1 : Int32) (σ : Sg) : f_M_laysWays_15 d x1 σ =
if x1 < (σ.1 102 46) then (
bnd x1 720 (
cI (f_M_changedBy d (σ.1 131 (ix x1)) 106 σ) fun v2 σ1 =>
cV (f_M_addsWay d v2 σ1) fun σ3 =>
bnd x1 720 (
cI (f_M_changedBy d (σ3.1 131 (ix x1)) 107 σ3) fun v5 σ4 =>
cV (f_M_addsWay d v5 σ4) fun σ6 =>
f_M_laysWays_15 d (x1 + 1) σ6)))
else (
rV σ) :=
  evAt_un [15] 28 (jmp cd_239 15) [.ref 102, .int x1] [] σ
theorem f_M_plainWay_eq (d : Nat) (σ : Sg) : f_M_plainWay (d + 1) σ =
f_M_plainWay_4 d 0 0 σ :=
  evAt_un [4] 6 cd_240 [.ref 102, .null, .null] [] σ
theorem f_M_plainWay_4_eq (d : Nat) (x1 : Int32) (x2 : Int32) (σ : Sg) : f_M_plainWay_4 d x1 x2 σ =
if x2 < (σ.1 102 5) then (
f_M_plainWay_4 d (x1 ||| (x2 <<< ((3 * x2) &&& 31))) (x2 + 1) σ)
else (
rI x1 σ) :=
  evAt_un [4] 16 (jmp cd_240 4) [.ref 102, .int x1, .int x2] [] σ
theorem f_M_addsWay_eq (d : Nat) (a1 : Int32) (σ : Sg) : f_M_addsWay (d + 1) a1 σ =
f_M_addsWay_2 d a1 0 σ :=
  evAt_un [2] 4 cd_241 [.ref 102, .int a1, .null] [] σ
theorem f_M_addsWay_2_eq (d : Nat) (x1 : Int32) (x2 : Int32) (σ : Sg) : f_M_addsWay_2 d x1 x2 σ =
if x2 < (σ.1 102 46) then (
bnd x2 720 (
if (σ.1 131 (ix x2)) = x1 then (
rV σ)
else (
f_M_addsWay_2 d x1 (x2 + 1) σ)))
else (
bnd (σ.1 102 46) 720 (let σ1 := sI σ 131 (ix (σ.1 102 46)) x1;
let σ2 := sI σ1 102 46 ((σ1.1 102 46) + 1);
rV σ2)) :=
  evAt_un [2] 19 (jmp cd_241 2) [.ref 102, .int x1, .int x2] [] σ
theorem f_M_changedBy_eq (d : Nat) (a1 : Int32) (a2 : Nat) (σ : Sg) : f_M_changedBy (d + 1) a1 a2 σ =
f_M_changedBy_5 d a1 a2 0 0 σ :=
  evAt_un [5] 6 cd_242 [.ref 102, .int a1, .ref a2, .null, .null] [] σ
theorem f_M_changedBy_5_eq (d : Nat) (x1 : Int32) (x2 : Nat) (x3 : Int32) (x4 : Int32) (σ : Sg) : f_M_changedBy_5 d x1 x2 x3 x4 σ =
if x4 < (σ.1 102 5) then (
cI (f_M_nameIn d x1 x4 σ) fun v2 σ1 =>
ldI x2 v2 σ1 fun v3 =>
f_M_changedBy_5 d x1 x2 (x3 ||| (v3 <<< ((3 * x4) &&& 31))) (x4 + 1) σ1)
else (
rI x3 σ) :=
  evAt_un [5] 20 (jmp cd_242 5) [.ref 102, .int x1, .ref x2, .int x3, .int x4] [] σ
theorem f_M_nameIn_eq (d : Nat) (a0 : Int32) (a1 : Int32) (σ : Sg) : f_M_nameIn (d + 1) a0 a1 σ =
rI ((a0 >>> ((3 * a1) &&& 31)) &&& 7) σ :=
  evAt_un [] 10 cd_243 [.int a0, .int a1] [] σ
theorem f_M_sides_eq (d : Nat) (σ : Sg) : f_M_sides (d + 1) σ =
f_M_sides_4 d 0 0 σ :=
  evAt_un [4] 6 cd_244 [.ref 102, .null, .null] [] σ
theorem f_M_sides_4_eq (d : Nat) (x1 : Int32) (x2 : Int32) (σ : Sg) : f_M_sides_4 d x1 x2 σ =
if x2 < (σ.1 102 5) then (
cI (f_M_sideOf d x2 σ) fun v2 σ1 =>
cI (f_M_lowest d v2 σ1) fun v4 σ3 =>
if v4 = x2 then (
f_M_sides_4 d (x1 + 1) (x2 + 1) σ3)
else (
f_M_sides_4 d x1 (x2 + 1) σ3))
else (
rI x1 σ) :=
  evAt_un [4] 18 (jmp cd_244 4) [.ref 102, .int x1, .int x2] [] σ
theorem f_M_sideOf_eq (d : Nat) (a1 : Int32) (σ : Sg) : f_M_sideOf (d + 1) a1 σ =
f_M_sideOf_4 d a1 0 0 σ :=
  evAt_un [4] 6 cd_245 [.ref 102, .int a1, .null, .null] [] σ
theorem f_M_sideOf_4_eq (d : Nat) (x1 : Int32) (x2 : Int32) (x3 : Int32) (σ : Sg) : f_M_sideOf_4 d x1 x2 x3 σ =
if x3 < (σ.1 102 46) then (
bnd x3 720 (
cI (f_M_nameIn d (σ.1 131 (ix x3)) x1 σ) fun v2 σ1 =>
f_M_sideOf_4 d x1 (x2 ||| (1 <<< (v2 &&& 31))) (x3 + 1) σ1))
else (
rI x2 σ) :=
  evAt_un [4] 19 (jmp cd_245 4) [.ref 102, .int x1, .int x2, .int x3] [] σ
theorem f_M_lowest_eq (d : Nat) (a0 : Int32) (σ : Sg) : f_M_lowest (d + 1) a0 σ =
f_M_lowest_2 d a0 0 σ :=
  evAt_un [2] 4 cd_246 [.int a0, .null] [] σ
theorem f_M_lowest_2_eq (d : Nat) (x0 : Int32) (x1 : Int32) (σ : Sg) : f_M_lowest_2 d x0 x1 σ =
cI (f_M_has d x0 x1 σ) fun v2 σ1 =>
if v2 = 0 then (
f_M_lowest_2 d x0 (x1 + 1) σ1)
else (
rI x1 σ1) :=
  evAt_un [2] 11 (jmp cd_246 2) [.int x0, .int x1] [] σ
theorem f_M_has_eq (d : Nat) (a0 : Int32) (a1 : Int32) (σ : Sg) : f_M_has (d + 1) a0 a1 σ =
if ((a0 >>> (a1 &&& 31)) &&& 1) = 1 then (
rZ 1 σ)
else (
rZ 0 σ) :=
  evAt_un [] 12 cd_247 [.int a0, .int a1] [] σ
theorem f_M_isEven_eq (d : Nat) (σ : Sg) : f_M_isEven (d + 1) σ =
f_M_isEven_2 d 0 σ :=
  evAt_un [2] 4 cd_248 [.ref 102, .null] [] σ
theorem f_M_isEven_2_eq (d : Nat) (x1 : Int32) (σ : Sg) : f_M_isEven_2 d x1 σ =
if x1 < (σ.1 102 5) then (
cI (f_M_sideOf d x1 σ) fun v2 σ1 =>
cI (f_M_bits d v2 σ1) fun v4 σ3 =>
if v4 = (σ3.1 102 46) then (
f_M_isEven_2 d (x1 + 1) σ3)
else (
rZ 0 σ3))
else (
rZ 1 σ) :=
  evAt_un [2] 15 (jmp cd_248 2) [.ref 102, .int x1] [] σ
theorem f_M_bits_eq (d : Nat) (a0 : Int32) (σ : Sg) : f_M_bits (d + 1) a0 σ =
f_M_bits_4 d a0 0 0 σ :=
  evAt_un [4] 6 cd_249 [.int a0, .null, .null] [] σ
theorem f_M_bits_4_eq (d : Nat) (x0 : Int32) (x1 : Int32) (x2 : Int32) (σ : Sg) : f_M_bits_4 d x0 x1 x2 σ =
if x2 < 24 then (
f_M_bits_4 d x0 (x1 + ((x0 >>> (x2 &&& 31)) &&& 1)) (x2 + 1) σ)
else (
rI x1 σ) :=
  evAt_un [4] 15 (jmp cd_249 4) [.int x0, .int x1, .int x2] [] σ
set_option maxRecDepth 20000 in
theorem f_M_term_eq (d : Nat) (a1 : Int32) (a2 : Int32) (a3 : Int32) (a4 : Int32) (a5 : Int32) (σ : Sg) : f_M_term (d + 1) a1 a2 a3 a4 a5 σ =
cI (f_M_isName d a1 σ) fun v2 σ1 =>
if v2 = 0 then (
rI ((-1)) σ1)
else (
cI (f_M_isName d a3 σ1) fun v4 σ3 =>
if v4 = 0 then (
rI ((-1)) σ3)
else (
cI (f_M_in d a2 0 1 σ3) fun v6 σ5 =>
if v6 = 0 then (
rI ((-1)) σ5)
else (
cI (f_M_in d a4 0 1 σ5) fun v8 σ7 =>
if v8 = 0 then (
rI ((-1)) σ7)
else (
cI (f_M_isStepOr d a5 11 σ7) fun v10 σ9 =>
if v10 = 0 then (
rI ((-1)) σ9)
else (
cV (f_M_laysFar d ((2 * a3) + a4) σ9) fun σ11 =>
bnd ((2 * a1) + a2) 12 (
if (σ11.1 132 (ix ((2 * a1) + a2))) < 1000000 then (
if a5 = 100 then (
bnd ((2 * a1) + a2) 12 (
rI (σ11.1 132 (ix ((2 * a1) + a2))) σ11))
else (
bnd ((2 * a1) + a2) 12 (
if a5 < (σ11.1 132 (ix ((2 * a1) + a2))) then (
f_M_term_113 d (.int a1) (.int a2) (.int a3) (.int a4) a5 ((2 * a1) + a2) 0 σ11)
else (
rI ((-4)) σ11))))
else (
rI ((-2)) σ11))))))) :=
  evAt_un [113] 54 cd_250 [.ref 102, .int a1, .int a2, .int a3, .int a4, .int a5, .null, .null] [] σ
theorem f_M_term_113_eq (d : Nat) (x1 : Value) (x2 : Value) (x3 : Value) (x4 : Value) (x5 : Int32) (x6 : Int32) (x7 : Int32) (σ : Sg) : f_M_term_113 d x1 x2 x3 x4 x5 x6 x7 σ =
if x7 < x5 then (
cI (f_M_kindFrom d x6 σ) fun v2 σ1 =>
cI (f_M_stateBy d x6 v2 σ1) fun v4 σ3 =>
f_M_term_113 d (x1) (x2) (x3) (x4) x5 v4 (x7 + 1) σ3)
else (
cI (f_M_kindFrom d x6 σ) fun v6 σ5 =>
cI (f_M_letterOf d v6 σ5) fun v8 σ7 =>
rI v8 σ7) :=
  evAt_un [113] 14 (jmp cd_250 113) [.ref 102, x1, x2, x3, x4, .int x5, .int x6, .int x7] [] σ
theorem f_M_isStepOr_eq (d : Nat) (a0 : Int32) (a1 : Int32) (σ : Sg) : f_M_isStepOr (d + 1) a0 a1 σ =
cI (f_M_in d a0 0 a1 σ) fun v2 σ1 =>
if v2 = 0 then (
if a0 = 100 then (
rZ 1 σ1)
else (
rZ 0 σ1))
else (
rZ 1 σ1) :=
  evAt_un [] 13 cd_251 [.int a0, .int a1] [] σ
theorem f_M_laysFar_eq (d : Nat) (a1 : Int32) (σ : Sg) : f_M_laysFar (d + 1) a1 σ =
f_M_laysFar_2 d a1 0 .null .null σ :=
  evAt_un [2, 34, 42, 75] 4 cd_252 [.ref 102, .int a1, .null, .null, .null] [] σ
theorem f_M_laysFar_2_eq (d : Nat) (x1 : Int32) (x2 : Int32) (x3 : Value) (x4 : Value) (σ : Sg) : f_M_laysFar_2 d x1 x2 x3 x4 σ =
if x2 < 12 then (
if x2 = x1 then (
bnd x2 12 (let σ1 := sI σ 132 (ix x2) 0;
f_M_laysFar_2 d x1 (x2 + 1) (x3) (x4) σ1))
else (
bnd x2 12 (let σ2 := sI σ 132 (ix x2) 1000000;
f_M_laysFar_2 d x1 (x2 + 1) (x3) (x4) σ2)))
else (
f_M_laysFar_34 d (.int x1) 0 (x3) (x4) σ) :=
  evAt_un [2, 34, 42, 75] 16 (jmp cd_252 2) [.ref 102, .int x1, .int x2, x3, x4] [] σ
theorem f_M_laysFar_34_eq (d : Nat) (x1 : Value) (x2 : Int32) (x3 : Value) (x4 : Value) (σ : Sg) : f_M_laysFar_34 d x1 x2 x3 x4 σ =
if x2 < 12 then (
f_M_laysFar_42 d (x1) x2 0 (x4) σ)
else (
rV σ) :=
  evAt_un [2, 34, 42, 75] 7 (jmp cd_252 34) [.ref 102, x1, .int x2, x3, x4] [] σ
theorem f_M_laysFar_42_eq (d : Nat) (x1 : Value) (x2 : Int32) (x3 : Int32) (x4 : Value) (σ : Sg) : f_M_laysFar_42 d x1 x2 x3 x4 σ =
if x3 < ((2 * (σ.1 102 5)) * 8) then (
dvI x3 8 fun v1 =>
rmI x3 8 fun v2 =>
cI (f_M_stateBy d v1 v2 σ) fun v4 σ3 =>
if v4 = ((-1 : Int32)) then (
f_M_laysFar_42 d (x1) x2 (x3 + 1) (.int v4) σ3)
else (
f_M_laysFar_75 d (x1) x2 x3 v4 σ3))
else (
f_M_laysFar_34 d (nlg x1) (x2 + 1) (.int x3) (x4) σ) :=
  evAt_un [2, 34, 42, 75] 24 (jmp cd_252 42) [.ref 102, x1, .int x2, .int x3, x4] [] σ
theorem f_M_laysFar_75_eq (d : Nat) (x1 : Value) (x2 : Int32) (x3 : Int32) (x4 : Int32) (σ : Sg) : f_M_laysFar_75 d x1 x2 x3 x4 σ =
dvI x3 8 fun v1 =>
dvI x3 8 fun v2 =>
bnd v2 12 (
bnd x4 12 (
cI (f_M_min d (σ.1 132 (ix v2)) ((σ.1 132 (ix x4)) + 1) σ) fun v4 σ3 =>
bnd v1 12 (let σ5 := sI σ3 132 (ix v1) v4;
f_M_laysFar_42 d (x1) x2 (x3 + 1) (.int x4) σ5))) := by
  refine (evAt_un [2, 34, 42, 75] 27 (jmp cd_252 75) [.ref 102, x1, .int x2, .int x3, .int x4] [] σ).trans ?_
  show (dvI x3 8 fun v5 => unr sc0 (ev d) cd_252 [2, 34, 42, 75] 23 (jmp cd_252 83) [.ref 102, x1, .int x2, .int x3, .int x4] [.int v5, .ref 132] σ) = _
  refine congrArg (dvI x3 8) (funext fun v5 => ?_)
  show (dvI x3 8 fun v6 => bnd v6 12 (unr sc0 (ev d) cd_252 [2, 34, 42, 75] 17 (jmp cd_252 92) [.ref 102, x1, .int x2, .int x3, .int x4] [.int (σ.1 132 (ix v6)), .int v5, .ref 132] σ)) = _
  refine congrArg (dvI x3 8) (funext fun v6 => ?_)
  refine congrArg (bnd v6 12) ?_
  rfl
theorem f_M_stateBy_eq (d : Nat) (a1 : Int32) (a2 : Int32) (σ : Sg) : f_M_stateBy (d + 1) a1 a2 σ =
rmI a1 2 fun v1 =>
cI (f_M_canBe d a2 v1 σ) fun v3 σ2 =>
if v3 = 0 then (
rI ((-1)) σ2)
else (
dvI a1 2 fun v4 =>
rmI a1 2 fun v5 =>
cI (f_M_nameBy d a2 v4 v5 σ2) fun v7 σ6 =>
cI (f_M_sortBy d a2 σ6) fun v9 σ8 =>
rI ((2 * v7) + v9) σ8) :=
  evAt_un [] 24 cd_253 [.ref 102, .int a1, .int a2] [] σ
theorem f_M_min_eq (d : Nat) (a0 : Int32) (a1 : Int32) (σ : Sg) : f_M_min (d + 1) a0 a1 σ =
if a0 < a1 then (
rI a0 σ)
else (
rI a1 σ) :=
  evAt_un [] 8 cd_254 [.int a0, .int a1] [] σ
theorem f_M_kindFrom_eq (d : Nat) (a1 : Int32) (σ : Sg) : f_M_kindFrom (d + 1) a1 σ =
f_M_kindFrom_2 d a1 0 σ :=
  evAt_un [2] 4 cd_255 [.ref 102, .int a1, .null] [] σ
theorem f_M_kindFrom_2_eq (d : Nat) (x1 : Int32) (x2 : Int32) (σ : Sg) : f_M_kindFrom_2 d x1 x2 σ =
cI (f_M_stateBy d x1 x2 σ) fun v2 σ1 =>
if v2 = ((-1 : Int32)) then (
f_M_kindFrom_2 d x1 (x2 + 1) σ1)
else (
cI (f_M_stateBy d x1 x2 σ1) fun v4 σ3 =>
bnd v4 12 (
bnd x1 12 (
if (σ3.1 132 (ix v4)) = ((σ3.1 132 (ix x1)) - 1) then (
rI x2 σ3)
else (
f_M_kindFrom_2 d x1 (x2 + 1) σ3)))) :=
  evAt_un [2] 27 (jmp cd_255 2) [.ref 102, .int x1, .int x2] [] σ
theorem f_M_cousin_eq (d : Nat) (a1 : Int32) (σ : Sg) : f_M_cousin (d + 1) a1 σ =
cI (f_M_isStepOr d a1 99 σ) fun v2 σ1 =>
if v2 = 0 then (
rI ((-1)) σ1)
else (
if (σ1.1 102 5) = 0 then (
rI ((-1)) σ1)
else (
cI (f_M_laysCousins d σ1) fun v4 σ3 =>
if v4 = ((-1 : Int32)) then (
rI ((-2)) σ3)
else (
if a1 = 100 then (
bnd v4 1440 (
rI (σ3.1 137 (ix v4)) σ3))
else (
bnd v4 1440 (
if a1 < (σ3.1 137 (ix v4)) then (
f_M_cousin_57 d a1 v4 σ3)
else (
rI ((-4)) σ3)))))) :=
  evAt_un [57] 26 cd_256 [.ref 102, .int a1, .null] [] σ
theorem f_M_cousin_57_eq (d : Nat) (x1 : Int32) (x2 : Int32) (σ : Sg) : f_M_cousin_57 d x1 x2 σ =
bnd x2 1440 (
if (x1 + 1) < (σ.1 137 (ix x2)) then (
bnd x2 1440 (
f_M_cousin_57 d x1 (σ.1 135 (ix x2)) σ))
else (
bnd x2 1440 (
cI (f_M_letterOf d (σ.1 136 (ix x2)) σ) fun v2 σ1 =>
rI v2 σ1))) :=
  evAt_un [57] 16 (jmp cd_256 57) [.ref 102, .int x1, .int x2] [] σ
theorem f_M_laysCousins_eq (d : Nat) (σ : Sg) : f_M_laysCousins (d + 1) σ =
cI (f_M_plainWay d σ) fun v2 σ1 =>
cI (f_M_changedBy d v2 106 σ1) fun v4 σ3 =>
let σ5 := sI σ3 102 53 0;
cI (f_M_plainWay d σ5) fun v7 σ6 =>
cV (f_M_addsCousin d v7 0 (-1) (-1) σ6) fun σ8 =>
f_M_laysCousins_31 d v4 0 .null σ8 :=
  evAt_un [31, 63] 21 cd_257 [.ref 102, .null, .null, .null] [] σ
theorem f_M_laysCousins_31_eq (d : Nat) (x1 : Int32) (x2 : Int32) (x3 : Value) (σ : Sg) : f_M_laysCousins_31 d x1 x2 x3 σ =
if x2 < (σ.1 102 53) then (
bnd x2 1440 (
if (σ.1 133 (ix x2)) = x1 then (
bnd x2 1440 (
if (σ.1 134 (ix x2)) = 1 then (
rI x2 σ)
else (
f_M_laysCousins_63 d x1 x2 0 σ)))
else (
f_M_laysCousins_63 d x1 x2 0 σ)))
else (
rI ((-1)) σ) :=
  evAt_un [31, 63] 20 (jmp cd_257 31) [.ref 102, .int x1, .int x2, x3] [] σ
theorem f_M_laysCousins_63_eq (d : Nat) (x1 : Int32) (x2 : Int32) (x3 : Int32) (σ : Sg) : f_M_laysCousins_63 d x1 x2 x3 σ =
if x3 < 8 then (
if x3 = 2 then (
f_M_laysCousins_63 d x1 x2 (x3 + 1) σ)
else (
if x3 = 3 then (
f_M_laysCousins_63 d x1 x2 (x3 + 1) σ)
else (
bnd x2 1440 (
bnd x2 1440 (
cI (f_M_wayBy d (σ.1 133 (ix x2)) x3 (σ.1 134 (ix x2)) σ) fun v2 σ1 =>
cI (f_M_sortBy d x3 σ1) fun v4 σ3 =>
cV (f_M_addsCousin d v2 v4 x2 x3 σ3) fun σ5 =>
f_M_laysCousins_63 d x1 x2 (x3 + 1) σ5)))))
else (
f_M_laysCousins_31 d x1 (x2 + 1) (.int x3) σ) :=
  evAt_un [31, 63] 30 (jmp cd_257 63) [.ref 102, .int x1, .int x2, .int x3] [] σ
theorem f_M_addsCousin_eq (d : Nat) (a1 : Int32) (a2 : Int32) (a3 : Int32) (a4 : Int32) (σ : Sg) : f_M_addsCousin (d + 1) a1 a2 a3 a4 σ =
f_M_addsCousin_3 d a1 a2 a3 a4 0 σ :=
  evAt_un [3] 4 cd_258 [.ref 102, .int a1, .int a2, .int a3, .int a4, .null] [] σ
set_option maxRecDepth 20000 in
theorem f_M_addsCousin_3_eq (d : Nat) (x1 : Int32) (x2 : Int32) (x3 : Int32) (x4 : Int32) (x5 : Int32) (σ : Sg) : f_M_addsCousin_3 d x1 x2 x3 x4 x5 σ =
if x5 < (σ.1 102 53) then (
bnd x5 1440 (
if (σ.1 133 (ix x5)) = x1 then (
bnd x5 1440 (
if (σ.1 134 (ix x5)) = x2 then (
rV σ)
else (
f_M_addsCousin_3 d x1 x2 x3 x4 (x5 + 1) σ)))
else (
f_M_addsCousin_3 d x1 x2 x3 x4 (x5 + 1) σ)))
else (
bnd (σ.1 102 53) 1440 (let σ1 := sI σ 133 (ix (σ.1 102 53)) x1;
bnd (σ1.1 102 53) 1440 (let σ2 := sI σ1 134 (ix (σ1.1 102 53)) x2;
bnd (σ2.1 102 53) 1440 (let σ3 := sI σ2 135 (ix (σ2.1 102 53)) x3;
bnd (σ3.1 102 53) 1440 (let σ4 := sI σ3 136 (ix (σ3.1 102 53)) x4;
if x3 = ((-1 : Int32)) then (
bnd (σ4.1 102 53) 1440 (let σ5 := sI σ4 137 (ix (σ4.1 102 53)) 0;
let σ6 := sI σ5 102 53 ((σ5.1 102 53) + 1);
rV σ6))
else (
bnd x3 1440 (
bnd (σ4.1 102 53) 1440 (let σ7 := sI σ4 137 (ix (σ4.1 102 53)) ((σ4.1 137 (ix x3)) + 1);
let σ8 := sI σ7 102 53 ((σ7.1 102 53) + 1);
rV σ8)))))))) :=
  evAt_un [3] 51 (jmp cd_258 3) [.ref 102, .int x1, .int x2, .int x3, .int x4, .int x5] [] σ
theorem f_M_wayBy_eq (d : Nat) (a1 : Int32) (a2 : Int32) (a3 : Int32) (σ : Sg) : f_M_wayBy (d + 1) a1 a2 a3 σ =
f_M_wayBy_6 d a1 a2 a3 0 0 σ :=
  evAt_un [6] 6 cd_259 [.ref 102, .int a1, .int a2, .int a3, .null, .null] [] σ
theorem f_M_wayBy_6_eq (d : Nat) (x1 : Int32) (x2 : Int32) (x3 : Int32) (x4 : Int32) (x5 : Int32) (σ : Sg) : f_M_wayBy_6 d x1 x2 x3 x4 x5 σ =
if x5 < (σ.1 102 5) then (
cI (f_M_nameIn d x1 x5 σ) fun v2 σ1 =>
cI (f_M_nameBy d x2 v2 x3 σ1) fun v4 σ3 =>
f_M_wayBy_6 d x1 x2 x3 (x4 ||| (v4 <<< ((3 * x5) &&& 31))) (x5 + 1) σ3)
else (
rI x4 σ) :=
  evAt_un [6] 22 (jmp cd_259 6) [.ref 102, .int x1, .int x2, .int x3, .int x4, .int x5] [] σ
theorem f_M_words_eq (d : Nat) (a1 : Int32) (a2 : Int32) (a3 : Int32) (a4 : Int32) (a5 : Int32) (σ : Sg) : f_M_words (d + 1) a1 a2 a3 a4 a5 σ =
cI (f_M_in d a1 1 20 σ) fun v2 σ1 =>
if v2 = 0 then (
rJ (((-1) : Int32).toInt64) σ1)
else (
cI (f_M_isName d a2 σ1) fun v4 σ3 =>
if v4 = 0 then (
rJ (((-1) : Int32).toInt64) σ3)
else (
cI (f_M_isName d a4 σ3) fun v6 σ5 =>
if v6 = 0 then (
rJ (((-1) : Int32).toInt64) σ5)
else (
cI (f_M_in d a3 0 1 σ5) fun v8 σ7 =>
if v8 = 0 then (
rJ (((-1) : Int32).toInt64) σ7)
else (
cI (f_M_in d a5 0 1 σ7) fun v10 σ9 =>
if v10 = 0 then (
rJ (((-1) : Int32).toInt64) σ9)
else (
f_M_words_53 d a1 a2 a3 a4 a5 0 .null .null σ9))))) :=
  evAt_un [53, 91, 100, 124, 194] 27 cd_260 [.ref 102, .int a1, .int a2, .int a3, .int a4, .int a5, .null, .null, .null] [] σ
theorem f_M_words_53_eq (d : Nat) (x1 : Int32) (x2 : Int32) (x3 : Int32) (x4 : Int32) (x5 : Int32) (x6 : Int32) (x7 : Value) (x8 : Value) (σ : Sg) : f_M_words_53 d x1 x2 x3 x4 x5 x6 x7 x8 σ =
if x6 < 12 then (
if x6 = ((2 * x2) + x3) then (
bnd x6 12 (let σ1 := sJ σ 138 (ix x6) ((1 : Int32).toInt64);
f_M_words_53 d x1 x2 x3 x4 x5 (x6 + 1) (x7) (x8) σ1))
else (
bnd x6 12 (let σ2 := sJ σ 138 (ix x6) ((0 : Int32).toInt64);
f_M_words_53 d x1 x2 x3 x4 x5 (x6 + 1) (x7) (x8) σ2)))
else (
f_M_words_91 d x1 (.int x2) (.int x3) x4 x5 0 (x7) (x8) σ) :=
  evAt_un [53, 91, 100, 124, 194] 20 (jmp cd_260 53) [.ref 102, .int x1, .int x2, .int x3, .int x4, .int x5, .int x6, x7, x8] [] σ
theorem f_M_words_91_eq (d : Nat) (x1 : Int32) (x2 : Value) (x3 : Value) (x4 : Int32) (x5 : Int32) (x6 : Int32) (x7 : Value) (x8 : Value) (σ : Sg) : f_M_words_91 d x1 x2 x3 x4 x5 x6 x7 x8 σ =
if x6 < x1 then (
f_M_words_100 d x1 (x2) (x3) x4 x5 x6 0 (x8) σ)
else (
bnd ((2 * x4) + x5) 12 (
rJ (σ.2.1 138 (ix ((2 * x4) + x5))) σ)) :=
  evAt_un [53, 91, 100, 124, 194] 14 (jmp cd_260 91) [.ref 102, .int x1, x2, x3, .int x4, .int x5, .int x6, x7, x8] [] σ
theorem f_M_words_100_eq (d : Nat) (x1 : Int32) (x2 : Value) (x3 : Value) (x4 : Int32) (x5 : Int32) (x6 : Int32) (x7 : Int32) (x8 : Value) (σ : Sg) : f_M_words_100 d x1 x2 x3 x4 x5 x6 x7 x8 σ =
if x7 < 12 then (
bnd x7 12 (let σ1 := sJ σ 139 (ix x7) ((0 : Int32).toInt64);
f_M_words_100 d x1 (x2) (x3) x4 x5 x6 (x7 + 1) (x8) σ1))
else (
f_M_words_124 d x1 (x2) (x3) x4 x5 x6 0 (x8) σ) :=
  evAt_un [53, 91, 100, 124, 194] 12 (jmp cd_260 100) [.ref 102, .int x1, x2, x3, .int x4, .int x5, .int x6, .int x7, x8] [] σ
set_option maxRecDepth 20000 in
theorem f_M_words_124_eq (d : Nat) (x1 : Int32) (x2 : Value) (x3 : Value) (x4 : Int32) (x5 : Int32) (x6 : Int32) (x7 : Int32) (x8 : Value) (σ : Sg) : f_M_words_124 d x1 x2 x3 x4 x5 x6 x7 x8 σ =
if x7 < ((2 * (σ.1 102 5)) * 8) then (
dvI x7 8 fun v1 =>
rmI x7 8 fun v2 =>
cI (f_M_stateBy d v1 v2 σ) fun v4 σ3 =>
if v4 = ((-1 : Int32)) then (
f_M_words_124 d x1 (x2) (x3) x4 x5 x6 (x7 + 1) (.int v4) σ3)
else (
bnd v4 12 (
dvI x7 8 fun v5 =>
bnd v5 12 (
bnd v4 12 (let σ6 := sJ σ3 139 (ix v4) ((σ3.2.1 139 (ix v4)) + (σ3.2.1 138 (ix v5)));
f_M_words_124 d x1 (x2) (x3) x4 x5 x6 (x7 + 1) (.int v4) σ6)))))
else (
f_M_words_194 d x1 (x2) (x3) x4 x5 x6 0 (x8) σ) :=
  evAt_un [53, 91, 100, 124, 194] 39 (jmp cd_260 124) [.ref 102, .int x1, x2, x3, .int x4, .int x5, .int x6, .int x7, x8] [] σ
theorem f_M_words_194_eq (d : Nat) (x1 : Int32) (x2 : Value) (x3 : Value) (x4 : Int32) (x5 : Int32) (x6 : Int32) (x7 : Int32) (x8 : Value) (σ : Sg) : f_M_words_194 d x1 x2 x3 x4 x5 x6 x7 x8 σ =
if x7 < 12 then (
bnd x7 12 (
bnd x7 12 (let σ1 := sJ σ 138 (ix x7) (σ.2.1 139 (ix x7));
f_M_words_194 d x1 (x2) (x3) x4 x5 x6 (x7 + 1) (x8) σ1)))
else (
f_M_words_91 d x1 (x2) (x3) x4 x5 (x6 + 1) (.int x7) (x8) σ) :=
  evAt_un [53, 91, 100, 124, 194] 15 (jmp cd_260 194) [.ref 102, .int x1, x2, x3, .int x4, .int x5, .int x6, .int x7, x8] [] σ
set_option maxRecDepth 20000 in
theorem f_M_allRules_eq (d : Nat) (a1 : Int32) (a2 : Int32) (a3 : Int32) (σ : Sg) : f_M_allRules (d + 1) a1 a2 a3 σ =
cI (f_M_in d a1 2 5 σ) fun v2 σ1 =>
if v2 = 0 then (
rI ((-1)) σ1)
else (
cI (f_M_in d a2 1 40 σ1) fun v4 σ3 =>
if v4 = 0 then (
rI ((-1)) σ3)
else (
cI (f_M_in d a3 0 1 σ3) fun v6 σ5 =>
if v6 = 0 then (
rI ((-1)) σ5)
else (
if (σ5.1 102 7) < a2 then (
rI ((-1)) σ5)
else (
cI (f_M_readsWord d 0 a2 0 σ5) fun v8 σ7 =>
let σ9 := sI σ7 102 7 0;
if v8 < 0 then (
rI v8 σ9)
else (
cV (f_M_keepsRule d σ9) fun σ10 =>
let σ11 := sI σ10 102 5 a1;
if a3 = 1 then (
cI (f_M_countsRules d 1 σ11) fun v13 σ12 =>
cV (f_M_putsRuleBack d σ12) fun σ14 =>
rI v13 σ14)
else (
cI (f_M_countsRules d 0 σ11) fun v16 σ15 =>
cV (f_M_putsRuleBack d σ15) fun σ17 =>
rI v16 σ17)))))) :=
  evAt_un [] 49 cd_261 [.ref 102, .int a1, .int a2, .int a3, .null, .null] [] σ
theorem f_M_keepsRule_eq (d : Nat) (σ : Sg) : f_M_keepsRule (d + 1) σ =
let σ1 := sI σ 102 58 (σ.1 102 5);
f_M_keepsRule_10 d 0 σ1 :=
  evAt_un [10] 8 cd_262 [.ref 102, .null] [] σ
theorem f_M_keepsRule_10_eq (d : Nat) (x1 : Int32) (σ : Sg) : f_M_keepsRule_10 d x1 σ =
if x1 < 6 then (
bnd x1 6 (
bnd x1 6 (let σ1 := sI σ 140 (ix x1) (σ.1 106 (ix x1));
bnd x1 6 (
bnd x1 6 (let σ2 := sI σ1 141 (ix x1) (σ1.1 107 (ix x1));
f_M_keepsRule_10 d (x1 + 1) σ2)))))
else (
rV σ) :=
  evAt_un [10] 23 (jmp cd_262 10) [.ref 102, .int x1] [] σ
theorem f_M_countsRules_eq (d : Nat) (a1 : Int32) (σ : Sg) : f_M_countsRules (d + 1) a1 σ =
f_M_countsRules_4 d a1 0 0 σ :=
  evAt_un [4, 34] 6 cd_263 [.ref 102, .int a1, .null, .null] [] σ
theorem f_M_countsRules_4_eq (d : Nat) (x1 : Int32) (x2 : Int32) (x3 : Int32) (σ : Sg) : f_M_countsRules_4 d x1 x2 x3 σ =
if x3 < (σ.1 102 5) then (
bnd x3 6 (let σ1 := sI σ 106 (ix x3) x3;
bnd x3 6 (let σ2 := sI σ1 107 (ix x3) x3;
f_M_countsRules_4 d x1 x2 (x3 + 1) σ2)))
else (
f_M_countsRules_34 d x1 x2 1 σ) :=
  evAt_un [4, 34] 18 (jmp cd_263 4) [.ref 102, .int x1, .int x2, .int x3] [] σ
set_option maxRecDepth 20000 in
theorem f_M_countsRules_34_eq (d : Nat) (x1 : Int32) (x2 : Int32) (x3 : Int32) (σ : Sg) : f_M_countsRules_34 d x1 x2 x3 σ =
if x3 = 0 then (
rI x2 σ)
else (
cI (f_M_weddsOut d σ) fun v2 σ1 =>
if v2 = 0 then (
cI (f_M_nextRow d 107 σ1) fun v4 σ3 =>
if v4 = 0 then (
cI (f_M_nextRow d 106 σ3) fun v6 σ5 =>
if v6 = 0 then (
f_M_countsRules_34 d x1 x2 0 σ5)
else (
f_M_countsRules_34 d x1 x2 1 σ5))
else (
f_M_countsRules_34 d x1 x2 1 σ3))
else (
cI (f_M_lawful d 0 σ1) fun v8 σ7 =>
if v8 = ((1 <<< ((σ7.1 102 5) &&& 31)) - 1) then (
if x1 = 0 then (
cI (f_M_nextRow d 107 σ7) fun v10 σ9 =>
if v10 = 0 then (
cI (f_M_nextRow d 106 σ9) fun v12 σ11 =>
if v12 = 0 then (
f_M_countsRules_34 d x1 (x2 + 1) 0 σ11)
else (
f_M_countsRules_34 d x1 (x2 + 1) 1 σ11))
else (
f_M_countsRules_34 d x1 (x2 + 1) 1 σ9))
else (
cI (f_M_isEvenAndOne d σ7) fun v14 σ13 =>
if v14 = 0 then (
cI (f_M_nextRow d 107 σ13) fun v16 σ15 =>
if v16 = 0 then (
cI (f_M_nextRow d 106 σ15) fun v18 σ17 =>
if v18 = 0 then (
f_M_countsRules_34 d x1 x2 0 σ17)
else (
f_M_countsRules_34 d x1 x2 1 σ17))
else (
f_M_countsRules_34 d x1 x2 1 σ15))
else (
cI (f_M_nextRow d 107 σ13) fun v20 σ19 =>
if v20 = 0 then (
cI (f_M_nextRow d 106 σ19) fun v22 σ21 =>
if v22 = 0 then (
f_M_countsRules_34 d x1 (x2 + 1) 0 σ21)
else (
f_M_countsRules_34 d x1 (x2 + 1) 1 σ21))
else (
f_M_countsRules_34 d x1 (x2 + 1) 1 σ19))))
else (
cI (f_M_nextRow d 107 σ7) fun v24 σ23 =>
if v24 = 0 then (
cI (f_M_nextRow d 106 σ23) fun v26 σ25 =>
if v26 = 0 then (
f_M_countsRules_34 d x1 x2 0 σ25)
else (
f_M_countsRules_34 d x1 x2 1 σ25))
else (
f_M_countsRules_34 d x1 x2 1 σ23)))) :=
  evAt_un [4, 34] 40 (jmp cd_263 34) [.ref 102, .int x1, .int x2, .int x3] [] σ
theorem f_M_weddsOut_eq (d : Nat) (σ : Sg) : f_M_weddsOut (d + 1) σ =
f_M_weddsOut_2 d 0 σ :=
  evAt_un [2] 4 cd_264 [.ref 102, .null] [] σ
theorem f_M_weddsOut_2_eq (d : Nat) (x1 : Int32) (σ : Sg) : f_M_weddsOut_2 d x1 σ =
if x1 < (σ.1 102 5) then (
bnd x1 6 (
if (σ.1 106 (ix x1)) = x1 then (
rZ 0 σ)
else (
f_M_weddsOut_2 d (x1 + 1) σ)))
else (
rZ 1 σ) :=
  evAt_un [2] 14 (jmp cd_264 2) [.ref 102, .int x1] [] σ
theorem f_M_isEvenAndOne_eq (d : Nat) (σ : Sg) : f_M_isEvenAndOne (d + 1) σ =
cV (f_M_laysWays d σ) fun σ1 =>
if (σ1.1 102 46) = (σ1.1 102 5) then (
cI (f_M_sides d σ1) fun v3 σ2 =>
if v3 = 1 then (
cI (f_M_isEven d σ2) fun v5 σ4 =>
if v5 = 0 then (
rZ 0 σ4)
else (
rZ 1 σ4))
else (
rZ 0 σ2))
else (
rZ 0 σ1) :=
  evAt_un [] 19 cd_265 [.ref 102] [] σ
theorem f_M_nextRow_eq (d : Nat) (a1 : Nat) (σ : Sg) : f_M_nextRow (d + 1) a1 σ =
f_M_nextRow_7 d a1 ((σ.1 102 5) - 2) .null .null .null σ :=
  evAt_un [7, 35, 62, 98] 7 cd_266 [.ref 102, .ref a1, .null, .null, .null, .null] [] σ
theorem f_M_nextRow_7_eq (d : Nat) (x1 : Nat) (x2 : Int32) (x3 : Value) (x4 : Value) (x5 : Value) (σ : Sg) : f_M_nextRow_7 d x1 x2 x3 x4 x5 σ =
if x2 < 0 then (
if x2 < 0 then (
f_M_nextRow_35 d x1 (.int x2) 0 (x4) (x5) σ)
else (
f_M_nextRow_62 d x1 x2 ((σ.1 102 5) - 1) (x4) (x5) σ))
else (
ldI x1 x2 σ fun v1 =>
ldI x1 (x2 + 1) σ fun v2 =>
if v2 < v1 then (
f_M_nextRow_7 d x1 (x2 - 1) (x3) (x4) (x5) σ)
else (
if x2 < 0 then (
f_M_nextRow_35 d x1 (.int x2) 0 (x4) (x5) σ)
else (
f_M_nextRow_62 d x1 x2 ((σ.1 102 5) - 1) (x4) (x5) σ))) :=
  evAt_un [7, 35, 62, 98] 20 (jmp cd_266 7) [.ref 102, .ref x1, .int x2, x3, x4, x5] [] σ
theorem f_M_nextRow_35_eq (d : Nat) (x1 : Nat) (x2 : Value) (x3 : Int32) (x4 : Value) (x5 : Value) (σ : Sg) : f_M_nextRow_35 d x1 x2 x3 x4 x5 σ =
if x3 < (σ.1 102 5) then (
stI x1 x3 x3 σ fun σ1 =>
f_M_nextRow_35 d x1 (nlg x2) (x3 + 1) (x4) (x5) σ1)
else (
rZ 0 σ) :=
  evAt_un [7, 35, 62, 98] 12 (jmp cd_266 35) [.ref 102, .ref x1, x2, .int x3, x4, x5] [] σ
theorem f_M_nextRow_62_eq (d : Nat) (x1 : Nat) (x2 : Int32) (x3 : Int32) (x4 : Value) (x5 : Value) (σ : Sg) : f_M_nextRow_62 d x1 x2 x3 x4 x5 σ =
ldI x1 x3 σ fun v1 =>
ldI x1 x2 σ fun v2 =>
if v1 < v2 then (
f_M_nextRow_62 d x1 x2 (x3 - 1) (x4) (x5) σ)
else (
cV (f_M_changesRow d x1 x2 x3 σ) fun σ3 =>
f_M_nextRow_98 d x1 (.int x2) (.int x3) (x2 + 1) ((σ3.1 102 5) - 1) σ3) :=
  evAt_un [7, 35, 62, 98] 23 (jmp cd_266 62) [.ref 102, .ref x1, .int x2, .int x3, x4, x5] [] σ
theorem f_M_nextRow_98_eq (d : Nat) (x1 : Nat) (x2 : Value) (x3 : Value) (x4 : Int32) (x5 : Int32) (σ : Sg) : f_M_nextRow_98 d x1 x2 x3 x4 x5 σ =
if x4 < x5 then (
cV (f_M_changesRow d x1 x4 x5 σ) fun σ1 =>
f_M_nextRow_98 d x1 (x2) (nlg x3) (x4 + 1) (x5 + (-1)) σ1)
else (
rZ 1 σ) :=
  evAt_un [7, 35, 62, 98] 13 (jmp cd_266 98) [.ref 102, .ref x1, x2, x3, .int x4, .int x5] [] σ
theorem f_M_changesRow_eq (d : Nat) (a1 : Nat) (a2 : Int32) (a3 : Int32) (σ : Sg) : f_M_changesRow (d + 1) a1 a2 a3 σ =
ldI a1 a2 σ fun v1 =>
ldI a1 a3 σ fun v2 =>
stI a1 a2 v2 σ fun σ3 =>
stI a1 a3 v1 σ3 fun σ4 =>
rV σ4 :=
  evAt_un [] 17 cd_267 [.ref 102, .ref a1, .int a2, .int a3, .null] [] σ
theorem f_M_putsRuleBack_eq (d : Nat) (σ : Sg) : f_M_putsRuleBack (d + 1) σ =
let σ1 := sI σ 102 5 (σ.1 102 58);
f_M_putsRuleBack_10 d 0 σ1 :=
  evAt_un [10] 8 cd_268 [.ref 102, .null] [] σ
theorem f_M_putsRuleBack_10_eq (d : Nat) (x1 : Int32) (σ : Sg) : f_M_putsRuleBack_10 d x1 σ =
if x1 < 6 then (
bnd x1 6 (
bnd x1 6 (let σ1 := sI σ 106 (ix x1) (σ.1 140 (ix x1));
bnd x1 6 (
bnd x1 6 (let σ2 := sI σ1 107 (ix x1) (σ1.1 141 (ix x1));
f_M_putsRuleBack_10 d (x1 + 1) σ2)))))
else (
rV σ) :=
  evAt_un [10] 23 (jmp cd_268 10) [.ref 102, .int x1] [] σ
theorem f_M_roll_eq (d : Nat) (a1 : Int32) (σ : Sg) : f_M_roll (d + 1) a1 σ =
cI (f_M_in d a1 1 240 σ) fun v2 σ1 =>
if v2 = 0 then (
rI ((-1)) σ1)
else (
if (σ1.1 102 5) = 0 then (
rI ((-1)) σ1)
else (
if (σ1.1 102 7) < a1 then (
rI ((-1)) σ1)
else (
cV (f_M_beginsText d 0 a1 σ1) fun σ3 =>
let σ4 := sI σ3 102 70 0;
cI (f_M_readsPerson d σ4) fun v6 σ5 =>
f_M_roll_44 d (.int a1) v6 .null σ5))) :=
  evAt_un [44, 108] 24 cd_269 [.ref 102, .int a1, .null, .null] [] σ
theorem f_M_roll_44_eq (d : Nat) (x1 : Value) (x2 : Int32) (x3 : Value) (σ : Sg) : f_M_roll_44 d x1 x2 x3 σ =
if x2 = 0 then (
let σ1 := sI σ 102 7 0;
if x2 = 0 then (
rI (σ1.1 102 10) σ1)
else (
let σ2 := sI σ1 102 69 (σ1.1 102 70);
f_M_roll_108 d (x1) (.int x2) 0 σ2))
else (
if (σ.1 102 8) < (σ.1 102 9) then (
cI (f_M_takes d 59 σ) fun v4 σ3 =>
if v4 = 0 then (
f_M_roll_44 d (nlg x1) 0 (x3) σ3)
else (
cI (f_M_readsPerson d σ3) fun v6 σ5 =>
if v6 = 0 then (
f_M_roll_44 d (nlg x1) 0 (x3) σ5)
else (
f_M_roll_44 d (nlg x1) 1 (x3) σ5)))
else (
let σ7 := sI σ 102 7 0;
if x2 = 0 then (
rI (σ7.1 102 10) σ7)
else (
let σ8 := sI σ7 102 69 (σ7.1 102 70);
f_M_roll_108 d (x1) (.int x2) 0 σ8))) :=
  evAt_un [44, 108] 20 (jmp cd_269 44) [.ref 102, x1, .int x2, x3] [] σ
set_option maxRecDepth 20000 in
theorem f_M_roll_108_eq (d : Nat) (x1 : Value) (x2 : Value) (x3 : Int32) (σ : Sg) : f_M_roll_108 d x1 x2 x3 σ =
if x3 < (σ.1 102 69) then (
bnd x3 24 (
bnd x3 24 (let σ1 := sI σ 142 (ix x3) (σ.1 147 (ix x3));
bnd x3 24 (
bnd x3 24 (let σ2 := sI σ1 143 (ix x3) (σ1.1 148 (ix x3));
bnd x3 24 (
bnd x3 24 (let σ3 := sI σ2 144 (ix x3) (σ2.1 149 (ix x3));
bnd x3 24 (
bnd x3 24 (let σ4 := sI σ3 145 (ix x3) (σ3.1 150 (ix x3));
bnd x3 24 (
bnd x3 24 (let σ5 := sI σ4 146 (ix x3) (σ4.1 151 (ix x3));
f_M_roll_108 d (x1) (nlg x2) (x3 + 1) σ5)))))))))))
else (
rI (σ.1 102 69) σ) :=
  evAt_un [44, 108] 48 (jmp cd_269 108) [.ref 102, x1, x2, .int x3] [] σ
set_option maxRecDepth 20000 in
theorem f_M_readsPerson_eq (d : Nat) (σ : Sg) : f_M_readsPerson (d + 1) σ =
cI (f_M_here d σ) fun v2 σ1 =>
if v2 = 77 then (
if (σ1.1 102 70) = 24 then (
cI (f_M_wrongAt d 4 (σ1.1 102 8) σ1) fun v4 σ3 =>
rZ v4 σ3)
else (
if v2 = 77 then (
bnd (σ1.1 102 70) 24 (let σ5 := sI σ1 147 (ix (σ1.1 102 70)) 0;
bnd (σ5.1 102 70) 24 (let σ6 := sI σ5 148 (ix (σ5.1 102 70)) ((-1));
bnd (σ6.1 102 70) 24 (let σ7 := sI σ6 149 (ix (σ6.1 102 70)) ((-1));
bnd (σ7.1 102 70) 24 (let σ8 := sI σ7 150 (ix (σ7.1 102 70)) ((-1));
bnd (σ8.1 102 70) 24 (let σ9 := sI σ8 151 (ix (σ8.1 102 70)) ((-1));
let σ10 := sI σ9 102 8 ((σ9.1 102 8) + 1);
cI (f_M_here d σ10) fun v12 σ11 =>
cI (f_M_in d (v12 - 97) 0 5 σ11) fun v14 σ13 =>
if v14 = 0 then (
cI (f_M_here d σ13) fun v16 σ15 =>
if v16 = 60 then (
cI (f_M_readsParents d σ15) fun v18 σ17 =>
if v18 = 0 then (
rZ 0 σ17)
else (
cI (f_M_here d σ17) fun v20 σ19 =>
if v20 = 38 then (
cI (f_M_readsWedding d σ19) fun v22 σ21 =>
if v22 = 0 then (
rZ 0 σ21)
else (
let σ23 := sI σ21 102 70 ((σ21.1 102 70) + 1);
rZ 1 σ23))
else (
let σ24 := sI σ19 102 70 ((σ19.1 102 70) + 1);
rZ 1 σ24)))
else (
cI (f_M_here d σ15) fun v26 σ25 =>
if v26 = 38 then (
cI (f_M_readsWedding d σ25) fun v28 σ27 =>
if v28 = 0 then (
rZ 0 σ27)
else (
let σ29 := sI σ27 102 70 ((σ27.1 102 70) + 1);
rZ 1 σ29))
else (
let σ30 := sI σ25 102 70 ((σ25.1 102 70) + 1);
rZ 1 σ30)))
else (
if (v12 - 97) < (σ13.1 102 5) then (
bnd (σ13.1 102 70) 24 (let σ31 := sI σ13 148 (ix (σ13.1 102 70)) (v12 - 97);
let σ32 := sI σ31 102 8 ((σ31.1 102 8) + 1);
cI (f_M_here d σ32) fun v34 σ33 =>
if v34 = 60 then (
cI (f_M_readsParents d σ33) fun v36 σ35 =>
if v36 = 0 then (
rZ 0 σ35)
else (
cI (f_M_here d σ35) fun v38 σ37 =>
if v38 = 38 then (
cI (f_M_readsWedding d σ37) fun v40 σ39 =>
if v40 = 0 then (
rZ 0 σ39)
else (
let σ41 := sI σ39 102 70 ((σ39.1 102 70) + 1);
rZ 1 σ41))
else (
let σ42 := sI σ37 102 70 ((σ37.1 102 70) + 1);
rZ 1 σ42)))
else (
cI (f_M_here d σ33) fun v44 σ43 =>
if v44 = 38 then (
cI (f_M_readsWedding d σ43) fun v46 σ45 =>
if v46 = 0 then (
rZ 0 σ45)
else (
let σ47 := sI σ45 102 70 ((σ45.1 102 70) + 1);
rZ 1 σ47))
else (
let σ48 := sI σ43 102 70 ((σ43.1 102 70) + 1);
rZ 1 σ48))))
else (
cI (f_M_wrongAt d 6 (σ13.1 102 8) σ13) fun v50 σ49 =>
rZ v50 σ49))))))))
else (
bnd (σ1.1 102 70) 24 (let σ51 := sI σ1 147 (ix (σ1.1 102 70)) 1;
bnd (σ51.1 102 70) 24 (let σ52 := sI σ51 148 (ix (σ51.1 102 70)) ((-1));
bnd (σ52.1 102 70) 24 (let σ53 := sI σ52 149 (ix (σ52.1 102 70)) ((-1));
bnd (σ53.1 102 70) 24 (let σ54 := sI σ53 150 (ix (σ53.1 102 70)) ((-1));
bnd (σ54.1 102 70) 24 (let σ55 := sI σ54 151 (ix (σ54.1 102 70)) ((-1));
let σ56 := sI σ55 102 8 ((σ55.1 102 8) + 1);
cI (f_M_here d σ56) fun v58 σ57 =>
cI (f_M_in d (v58 - 97) 0 5 σ57) fun v60 σ59 =>
if v60 = 0 then (
cI (f_M_here d σ59) fun v62 σ61 =>
if v62 = 60 then (
cI (f_M_readsParents d σ61) fun v64 σ63 =>
if v64 = 0 then (
rZ 0 σ63)
else (
cI (f_M_here d σ63) fun v66 σ65 =>
if v66 = 38 then (
cI (f_M_readsWedding d σ65) fun v68 σ67 =>
if v68 = 0 then (
rZ 0 σ67)
else (
let σ69 := sI σ67 102 70 ((σ67.1 102 70) + 1);
rZ 1 σ69))
else (
let σ70 := sI σ65 102 70 ((σ65.1 102 70) + 1);
rZ 1 σ70)))
else (
cI (f_M_here d σ61) fun v72 σ71 =>
if v72 = 38 then (
cI (f_M_readsWedding d σ71) fun v74 σ73 =>
if v74 = 0 then (
rZ 0 σ73)
else (
let σ75 := sI σ73 102 70 ((σ73.1 102 70) + 1);
rZ 1 σ75))
else (
let σ76 := sI σ71 102 70 ((σ71.1 102 70) + 1);
rZ 1 σ76)))
else (
if (v58 - 97) < (σ59.1 102 5) then (
bnd (σ59.1 102 70) 24 (let σ77 := sI σ59 148 (ix (σ59.1 102 70)) (v58 - 97);
let σ78 := sI σ77 102 8 ((σ77.1 102 8) + 1);
cI (f_M_here d σ78) fun v80 σ79 =>
if v80 = 60 then (
cI (f_M_readsParents d σ79) fun v82 σ81 =>
if v82 = 0 then (
rZ 0 σ81)
else (
cI (f_M_here d σ81) fun v84 σ83 =>
if v84 = 38 then (
cI (f_M_readsWedding d σ83) fun v86 σ85 =>
if v86 = 0 then (
rZ 0 σ85)
else (
let σ87 := sI σ85 102 70 ((σ85.1 102 70) + 1);
rZ 1 σ87))
else (
let σ88 := sI σ83 102 70 ((σ83.1 102 70) + 1);
rZ 1 σ88)))
else (
cI (f_M_here d σ79) fun v90 σ89 =>
if v90 = 38 then (
cI (f_M_readsWedding d σ89) fun v92 σ91 =>
if v92 = 0 then (
rZ 0 σ91)
else (
let σ93 := sI σ91 102 70 ((σ91.1 102 70) + 1);
rZ 1 σ93))
else (
let σ94 := sI σ89 102 70 ((σ89.1 102 70) + 1);
rZ 1 σ94))))
else (
cI (f_M_wrongAt d 6 (σ59.1 102 8) σ59) fun v96 σ95 =>
rZ v96 σ95))))))))))
else (
if v2 = 70 then (
if (σ1.1 102 70) = 24 then (
cI (f_M_wrongAt d 4 (σ1.1 102 8) σ1) fun v98 σ97 =>
rZ v98 σ97)
else (
if v2 = 77 then (
bnd (σ1.1 102 70) 24 (let σ99 := sI σ1 147 (ix (σ1.1 102 70)) 0;
bnd (σ99.1 102 70) 24 (let σ100 := sI σ99 148 (ix (σ99.1 102 70)) ((-1));
bnd (σ100.1 102 70) 24 (let σ101 := sI σ100 149 (ix (σ100.1 102 70)) ((-1));
bnd (σ101.1 102 70) 24 (let σ102 := sI σ101 150 (ix (σ101.1 102 70)) ((-1));
bnd (σ102.1 102 70) 24 (let σ103 := sI σ102 151 (ix (σ102.1 102 70)) ((-1));
let σ104 := sI σ103 102 8 ((σ103.1 102 8) + 1);
cI (f_M_here d σ104) fun v106 σ105 =>
cI (f_M_in d (v106 - 97) 0 5 σ105) fun v108 σ107 =>
if v108 = 0 then (
cI (f_M_here d σ107) fun v110 σ109 =>
if v110 = 60 then (
cI (f_M_readsParents d σ109) fun v112 σ111 =>
if v112 = 0 then (
rZ 0 σ111)
else (
cI (f_M_here d σ111) fun v114 σ113 =>
if v114 = 38 then (
cI (f_M_readsWedding d σ113) fun v116 σ115 =>
if v116 = 0 then (
rZ 0 σ115)
else (
let σ117 := sI σ115 102 70 ((σ115.1 102 70) + 1);
rZ 1 σ117))
else (
let σ118 := sI σ113 102 70 ((σ113.1 102 70) + 1);
rZ 1 σ118)))
else (
cI (f_M_here d σ109) fun v120 σ119 =>
if v120 = 38 then (
cI (f_M_readsWedding d σ119) fun v122 σ121 =>
if v122 = 0 then (
rZ 0 σ121)
else (
let σ123 := sI σ121 102 70 ((σ121.1 102 70) + 1);
rZ 1 σ123))
else (
let σ124 := sI σ119 102 70 ((σ119.1 102 70) + 1);
rZ 1 σ124)))
else (
if (v106 - 97) < (σ107.1 102 5) then (
bnd (σ107.1 102 70) 24 (let σ125 := sI σ107 148 (ix (σ107.1 102 70)) (v106 - 97);
let σ126 := sI σ125 102 8 ((σ125.1 102 8) + 1);
cI (f_M_here d σ126) fun v128 σ127 =>
if v128 = 60 then (
cI (f_M_readsParents d σ127) fun v130 σ129 =>
if v130 = 0 then (
rZ 0 σ129)
else (
cI (f_M_here d σ129) fun v132 σ131 =>
if v132 = 38 then (
cI (f_M_readsWedding d σ131) fun v134 σ133 =>
if v134 = 0 then (
rZ 0 σ133)
else (
let σ135 := sI σ133 102 70 ((σ133.1 102 70) + 1);
rZ 1 σ135))
else (
let σ136 := sI σ131 102 70 ((σ131.1 102 70) + 1);
rZ 1 σ136)))
else (
cI (f_M_here d σ127) fun v138 σ137 =>
if v138 = 38 then (
cI (f_M_readsWedding d σ137) fun v140 σ139 =>
if v140 = 0 then (
rZ 0 σ139)
else (
let σ141 := sI σ139 102 70 ((σ139.1 102 70) + 1);
rZ 1 σ141))
else (
let σ142 := sI σ137 102 70 ((σ137.1 102 70) + 1);
rZ 1 σ142))))
else (
cI (f_M_wrongAt d 6 (σ107.1 102 8) σ107) fun v144 σ143 =>
rZ v144 σ143))))))))
else (
bnd (σ1.1 102 70) 24 (let σ145 := sI σ1 147 (ix (σ1.1 102 70)) 1;
bnd (σ145.1 102 70) 24 (let σ146 := sI σ145 148 (ix (σ145.1 102 70)) ((-1));
bnd (σ146.1 102 70) 24 (let σ147 := sI σ146 149 (ix (σ146.1 102 70)) ((-1));
bnd (σ147.1 102 70) 24 (let σ148 := sI σ147 150 (ix (σ147.1 102 70)) ((-1));
bnd (σ148.1 102 70) 24 (let σ149 := sI σ148 151 (ix (σ148.1 102 70)) ((-1));
let σ150 := sI σ149 102 8 ((σ149.1 102 8) + 1);
cI (f_M_here d σ150) fun v152 σ151 =>
cI (f_M_in d (v152 - 97) 0 5 σ151) fun v154 σ153 =>
if v154 = 0 then (
cI (f_M_here d σ153) fun v156 σ155 =>
if v156 = 60 then (
cI (f_M_readsParents d σ155) fun v158 σ157 =>
if v158 = 0 then (
rZ 0 σ157)
else (
cI (f_M_here d σ157) fun v160 σ159 =>
if v160 = 38 then (
cI (f_M_readsWedding d σ159) fun v162 σ161 =>
if v162 = 0 then (
rZ 0 σ161)
else (
let σ163 := sI σ161 102 70 ((σ161.1 102 70) + 1);
rZ 1 σ163))
else (
let σ164 := sI σ159 102 70 ((σ159.1 102 70) + 1);
rZ 1 σ164)))
else (
cI (f_M_here d σ155) fun v166 σ165 =>
if v166 = 38 then (
cI (f_M_readsWedding d σ165) fun v168 σ167 =>
if v168 = 0 then (
rZ 0 σ167)
else (
let σ169 := sI σ167 102 70 ((σ167.1 102 70) + 1);
rZ 1 σ169))
else (
let σ170 := sI σ165 102 70 ((σ165.1 102 70) + 1);
rZ 1 σ170)))
else (
if (v152 - 97) < (σ153.1 102 5) then (
bnd (σ153.1 102 70) 24 (let σ171 := sI σ153 148 (ix (σ153.1 102 70)) (v152 - 97);
let σ172 := sI σ171 102 8 ((σ171.1 102 8) + 1);
cI (f_M_here d σ172) fun v174 σ173 =>
if v174 = 60 then (
cI (f_M_readsParents d σ173) fun v176 σ175 =>
if v176 = 0 then (
rZ 0 σ175)
else (
cI (f_M_here d σ175) fun v178 σ177 =>
if v178 = 38 then (
cI (f_M_readsWedding d σ177) fun v180 σ179 =>
if v180 = 0 then (
rZ 0 σ179)
else (
let σ181 := sI σ179 102 70 ((σ179.1 102 70) + 1);
rZ 1 σ181))
else (
let σ182 := sI σ177 102 70 ((σ177.1 102 70) + 1);
rZ 1 σ182)))
else (
cI (f_M_here d σ173) fun v184 σ183 =>
if v184 = 38 then (
cI (f_M_readsWedding d σ183) fun v186 σ185 =>
if v186 = 0 then (
rZ 0 σ185)
else (
let σ187 := sI σ185 102 70 ((σ185.1 102 70) + 1);
rZ 1 σ187))
else (
let σ188 := sI σ183 102 70 ((σ183.1 102 70) + 1);
rZ 1 σ188))))
else (
cI (f_M_wrongAt d 6 (σ153.1 102 8) σ153) fun v190 σ189 =>
rZ v190 σ189))))))))))
else (
cI (f_M_wrongAt d 1 (σ1.1 102 8) σ1) fun v192 σ191 =>
rZ v192 σ191)) :=
  evAt_un [] 103 cd_270 [.ref 102, .null, .null] [] σ
theorem f_M_readsParents_eq (d : Nat) (σ : Sg) : f_M_readsParents (d + 1) σ =
let σ1 := sI σ 102 8 ((σ.1 102 8) + 1);
cI (f_M_readsParent d 0 σ1) fun v3 σ2 =>
if v3 = 0 then (
rZ 0 σ2)
else (
bnd (σ2.1 102 70) 24 (let σ4 := sI σ2 149 (ix (σ2.1 102 70)) (σ2.1 102 11);
cI (f_M_takes d 44 σ4) fun v6 σ5 =>
if v6 = 0 then (
rZ 0 σ5)
else (
cI (f_M_readsParent d 1 σ5) fun v8 σ7 =>
if v8 = 0 then (
rZ 0 σ7)
else (
bnd (σ7.1 102 70) 24 (let σ9 := sI σ7 150 (ix (σ7.1 102 70)) (σ7.1 102 11);
rZ 1 σ9))))) :=
  evAt_un [] 36 cd_271 [.ref 102] [] σ
theorem f_M_readsParent_eq (d : Nat) (a1 : Int32) (σ : Sg) : f_M_readsParent (d + 1) a1 σ =
cI (f_M_here d σ) fun v2 σ1 =>
if v2 = 45 then (
let σ3 := sI σ1 102 8 ((σ1.1 102 8) + 1);
let σ4 := sI σ3 102 11 ((-1));
rZ 1 σ4)
else (
cI (f_M_readsLower d σ1) fun v6 σ5 =>
if v6 = 0 then (
rZ 0 σ5)
else (
bnd (σ5.1 102 11) 24 (
if (σ5.1 147 (ix (σ5.1 102 11))) = a1 then (
rZ 1 σ5)
else (
cI (f_M_wrongAt d 7 (σ.1 102 8) σ5) fun v8 σ7 =>
if v8 = 0 then (
rZ 0 σ7)
else (
rZ 1 σ7))))) :=
  evAt_un [] 27 cd_272 [.ref 102, .int a1, .null] [] σ
theorem f_M_readsLower_eq (d : Nat) (σ : Sg) : f_M_readsLower (d + 1) σ =
cI (f_M_isDigit d σ) fun v2 σ1 =>
if v2 = 0 then (
cI (f_M_wrongAt d 1 (σ1.1 102 8) σ1) fun v4 σ3 =>
rZ v4 σ3)
else (
let σ5 := sI σ1 102 11 0;
f_M_readsLower_27 d (σ.1 102 8) σ5) :=
  evAt_un [27] 14 cd_273 [.ref 102, .null] [] σ
theorem f_M_readsLower_27_eq (d : Nat) (x1 : Int32) (σ : Sg) : f_M_readsLower_27 d x1 σ =
cI (f_M_isDigit d σ) fun v2 σ1 =>
if v2 = 0 then (
if (σ1.1 102 11) < (σ1.1 102 70) then (
rZ 1 σ1)
else (
cI (f_M_wrongAt d 3 x1 σ1) fun v4 σ3 =>
if v4 = 0 then (
rZ 0 σ3)
else (
rZ 1 σ3)))
else (
if (σ1.1 102 8) = (x1 + 2) then (
cI (f_M_wrongAt d 2 (σ1.1 102 8) σ1) fun v6 σ5 =>
rZ v6 σ5)
else (
cI (f_M_here d σ1) fun v8 σ7 =>
let σ9 := sI σ7 102 11 (((10 * (σ1.1 102 11)) + v8) - 48);
let σ10 := sI σ9 102 8 ((σ9.1 102 8) + 1);
f_M_readsLower_27 d x1 σ10)) :=
  evAt_un [27] 29 (jmp cd_273 27) [.ref 102, .int x1] [] σ
set_option maxRecDepth 20000 in
theorem f_M_readsWedding_eq (d : Nat) (σ : Sg) : f_M_readsWedding (d + 1) σ =
let σ1 := sI σ 102 8 ((σ.1 102 8) + 1);
cI (f_M_readsLower d σ1) fun v3 σ2 =>
if v3 = 0 then (
rZ 0 σ2)
else (
bnd (σ2.1 102 11) 24 (
bnd (σ2.1 102 70) 24 (
if (σ2.1 147 (ix (σ2.1 102 11))) = (σ2.1 147 (ix (σ2.1 102 70))) then (
cI (f_M_wrongAt d 8 (σ1.1 102 8) σ2) fun v5 σ4 =>
rZ v5 σ4)
else (
bnd (σ2.1 102 11) 24 (
if (σ2.1 151 (ix (σ2.1 102 11))) = ((-1 : Int32)) then (
bnd (σ2.1 102 70) 24 (let σ6 := sI σ2 151 (ix (σ2.1 102 70)) (σ2.1 102 11);
bnd (σ6.1 102 11) 24 (let σ7 := sI σ6 151 (ix (σ6.1 102 11)) (σ6.1 102 70);
rZ 1 σ7)))
else (
cI (f_M_wrongAt d 8 (σ1.1 102 8) σ2) fun v9 σ8 =>
rZ v9 σ8)))))) :=
  evAt_un [] 48 cd_274 [.ref 102, .null] [] σ
theorem f_M_personIs_eq (d : Nat) (a1 : Int32) (a2 : Int32) (σ : Sg) : f_M_personIs (d + 1) a1 a2 σ =
cI (f_M_isPerson d a1 σ) fun v2 σ1 =>
if v2 = 0 then (
rI ((-1)) σ1)
else (
if a2 = 0 then (
bnd a1 24 (
rI (σ1.1 142 (ix a1)) σ1))
else if a2 = 1 then (
bnd a1 24 (
cI (f_M_orNone d (σ1.1 143 (ix a1)) σ1) fun v4 σ3 =>
rI v4 σ3))
else if a2 = 2 then (
bnd a1 24 (
cI (f_M_orNone d (σ1.1 144 (ix a1)) σ1) fun v6 σ5 =>
rI v6 σ5))
else if a2 = 3 then (
bnd a1 24 (
cI (f_M_orNone d (σ1.1 145 (ix a1)) σ1) fun v8 σ7 =>
rI v8 σ7))
else if a2 = 4 then (
bnd a1 24 (
cI (f_M_orNone d (σ1.1 146 (ix a1)) σ1) fun v10 σ9 =>
rI v10 σ9))
else if a2 = 5 then (
cI (f_M_childrenOf d a1 σ1) fun v12 σ11 =>
rI v12 σ11)
else if a2 = 6 then (
cI (f_M_siblingsOf d a1 σ1) fun v14 σ13 =>
rI v14 σ13)
else if a2 = 7 then (
cI (f_M_mayBe d a1 σ1) fun v16 σ15 =>
rI v16 σ15)
else if a2 = 8 then (
cI (f_M_sureOf d a1 σ1) fun v18 σ17 =>
rI v18 σ17)
else (
rI ((-1)) σ1)) :=
  evAt_un [] 14 cd_275 [.ref 102, .int a1, .int a2] [] σ
theorem f_M_isPerson_eq (d : Nat) (a1 : Int32) (σ : Sg) : f_M_isPerson (d + 1) a1 σ =
cI (f_M_in d a1 0 ((σ.1 102 69) - 1) σ) fun v2 σ1 =>
rZ v2 σ1 :=
  evAt_un [] 10 cd_276 [.ref 102, .int a1] [] σ
theorem f_M_orNone_eq (d : Nat) (a0 : Int32) (σ : Sg) : f_M_orNone (d + 1) a0 σ =
if a0 = ((-1 : Int32)) then (
rI ((-2)) σ)
else (
rI a0 σ) :=
  evAt_un [] 8 cd_277 [.int a0] [] σ
theorem f_M_childrenOf_eq (d : Nat) (a1 : Int32) (σ : Sg) : f_M_childrenOf (d + 1) a1 σ =
f_M_childrenOf_4 d a1 0 0 σ :=
  evAt_un [4] 6 cd_278 [.ref 102, .int a1, .null, .null] [] σ
theorem f_M_childrenOf_4_eq (d : Nat) (x1 : Int32) (x2 : Int32) (x3 : Int32) (σ : Sg) : f_M_childrenOf_4 d x1 x2 x3 σ =
if x3 < (σ.1 102 69) then (
bnd x3 24 (
if (σ.1 144 (ix x3)) = x1 then (
f_M_childrenOf_4 d x1 (x2 ||| (1 <<< (x3 &&& 31))) (x3 + 1) σ)
else (
bnd x3 24 (
if (σ.1 145 (ix x3)) = x1 then (
f_M_childrenOf_4 d x1 (x2 ||| (1 <<< (x3 &&& 31))) (x3 + 1) σ)
else (
f_M_childrenOf_4 d x1 x2 (x3 + 1) σ)))))
else (
rI x2 σ) :=
  evAt_un [4] 26 (jmp cd_278 4) [.ref 102, .int x1, .int x2, .int x3] [] σ
theorem f_M_siblingsOf_eq (d : Nat) (a1 : Int32) (σ : Sg) : f_M_siblingsOf (d + 1) a1 σ =
f_M_siblingsOf_4 d a1 0 0 .null .null σ :=
  evAt_un [4] 6 cd_279 [.ref 102, .int a1, .null, .null, .null, .null] [] σ
set_option maxRecDepth 20000 in
theorem f_M_siblingsOf_4_eq (d : Nat) (x1 : Int32) (x2 : Int32) (x3 : Int32) (x4 : Value) (x5 : Value) (σ : Sg) : f_M_siblingsOf_4 d x1 x2 x3 x4 x5 σ =
if x3 < (σ.1 102 69) then (
bnd x3 24 (
if (σ.1 144 (ix x3)) = ((-1 : Int32)) then (
bnd x3 24 (
if (σ.1 145 (ix x3)) = ((-1 : Int32)) then (
if x3 = x1 then (
f_M_siblingsOf_4 d x1 x2 (x3 + 1) (.int 0) (.int 0) σ)
else (
if (0 : Int32) = 0 then (
if (0 : Int32) = 0 then (
f_M_siblingsOf_4 d x1 x2 (x3 + 1) (.int 0) (.int 0) σ)
else (
f_M_siblingsOf_4 d x1 (x2 ||| (1 <<< (x3 &&& 31))) (x3 + 1) (.int 0) (.int 0) σ))
else (
f_M_siblingsOf_4 d x1 (x2 ||| (1 <<< (x3 &&& 31))) (x3 + 1) (.int 0) (.int 0) σ)))
else (
bnd x3 24 (
bnd x1 24 (
if (σ.1 145 (ix x3)) = (σ.1 145 (ix x1)) then (
if x3 = x1 then (
f_M_siblingsOf_4 d x1 x2 (x3 + 1) (.int 0) (.int 1) σ)
else (
if (0 : Int32) = 0 then (
if (1 : Int32) = 0 then (
f_M_siblingsOf_4 d x1 x2 (x3 + 1) (.int 0) (.int 1) σ)
else (
f_M_siblingsOf_4 d x1 (x2 ||| (1 <<< (x3 &&& 31))) (x3 + 1) (.int 0) (.int 1) σ))
else (
f_M_siblingsOf_4 d x1 (x2 ||| (1 <<< (x3 &&& 31))) (x3 + 1) (.int 0) (.int 1) σ)))
else (
if x3 = x1 then (
f_M_siblingsOf_4 d x1 x2 (x3 + 1) (.int 0) (.int 0) σ)
else (
if (0 : Int32) = 0 then (
if (0 : Int32) = 0 then (
f_M_siblingsOf_4 d x1 x2 (x3 + 1) (.int 0) (.int 0) σ)
else (
f_M_siblingsOf_4 d x1 (x2 ||| (1 <<< (x3 &&& 31))) (x3 + 1) (.int 0) (.int 0) σ))
else (
f_M_siblingsOf_4 d x1 (x2 ||| (1 <<< (x3 &&& 31))) (x3 + 1) (.int 0) (.int 0) σ))))))))
else (
bnd x3 24 (
bnd x1 24 (
if (σ.1 144 (ix x3)) = (σ.1 144 (ix x1)) then (
bnd x3 24 (
if (σ.1 145 (ix x3)) = ((-1 : Int32)) then (
if x3 = x1 then (
f_M_siblingsOf_4 d x1 x2 (x3 + 1) (.int 1) (.int 0) σ)
else (
if (1 : Int32) = 0 then (
if (0 : Int32) = 0 then (
f_M_siblingsOf_4 d x1 x2 (x3 + 1) (.int 1) (.int 0) σ)
else (
f_M_siblingsOf_4 d x1 (x2 ||| (1 <<< (x3 &&& 31))) (x3 + 1) (.int 1) (.int 0) σ))
else (
f_M_siblingsOf_4 d x1 (x2 ||| (1 <<< (x3 &&& 31))) (x3 + 1) (.int 1) (.int 0) σ)))
else (
bnd x3 24 (
bnd x1 24 (
if (σ.1 145 (ix x3)) = (σ.1 145 (ix x1)) then (
if x3 = x1 then (
f_M_siblingsOf_4 d x1 x2 (x3 + 1) (.int 1) (.int 1) σ)
else (
if (1 : Int32) = 0 then (
if (1 : Int32) = 0 then (
f_M_siblingsOf_4 d x1 x2 (x3 + 1) (.int 1) (.int 1) σ)
else (
f_M_siblingsOf_4 d x1 (x2 ||| (1 <<< (x3 &&& 31))) (x3 + 1) (.int 1) (.int 1) σ))
else (
f_M_siblingsOf_4 d x1 (x2 ||| (1 <<< (x3 &&& 31))) (x3 + 1) (.int 1) (.int 1) σ)))
else (
if x3 = x1 then (
f_M_siblingsOf_4 d x1 x2 (x3 + 1) (.int 1) (.int 0) σ)
else (
if (1 : Int32) = 0 then (
if (0 : Int32) = 0 then (
f_M_siblingsOf_4 d x1 x2 (x3 + 1) (.int 1) (.int 0) σ)
else (
f_M_siblingsOf_4 d x1 (x2 ||| (1 <<< (x3 &&& 31))) (x3 + 1) (.int 1) (.int 0) σ))
else (
f_M_siblingsOf_4 d x1 (x2 ||| (1 <<< (x3 &&& 31))) (x3 + 1) (.int 1) (.int 0) σ))))))))
else (
bnd x3 24 (
if (σ.1 145 (ix x3)) = ((-1 : Int32)) then (
if x3 = x1 then (
f_M_siblingsOf_4 d x1 x2 (x3 + 1) (.int 0) (.int 0) σ)
else (
if (0 : Int32) = 0 then (
if (0 : Int32) = 0 then (
f_M_siblingsOf_4 d x1 x2 (x3 + 1) (.int 0) (.int 0) σ)
else (
f_M_siblingsOf_4 d x1 (x2 ||| (1 <<< (x3 &&& 31))) (x3 + 1) (.int 0) (.int 0) σ))
else (
f_M_siblingsOf_4 d x1 (x2 ||| (1 <<< (x3 &&& 31))) (x3 + 1) (.int 0) (.int 0) σ)))
else (
bnd x3 24 (
bnd x1 24 (
if (σ.1 145 (ix x3)) = (σ.1 145 (ix x1)) then (
if x3 = x1 then (
f_M_siblingsOf_4 d x1 x2 (x3 + 1) (.int 0) (.int 1) σ)
else (
if (0 : Int32) = 0 then (
if (1 : Int32) = 0 then (
f_M_siblingsOf_4 d x1 x2 (x3 + 1) (.int 0) (.int 1) σ)
else (
f_M_siblingsOf_4 d x1 (x2 ||| (1 <<< (x3 &&& 31))) (x3 + 1) (.int 0) (.int 1) σ))
else (
f_M_siblingsOf_4 d x1 (x2 ||| (1 <<< (x3 &&& 31))) (x3 + 1) (.int 0) (.int 1) σ)))
else (
if x3 = x1 then (
f_M_siblingsOf_4 d x1 x2 (x3 + 1) (.int 0) (.int 0) σ)
else (
if (0 : Int32) = 0 then (
if (0 : Int32) = 0 then (
f_M_siblingsOf_4 d x1 x2 (x3 + 1) (.int 0) (.int 0) σ)
else (
f_M_siblingsOf_4 d x1 (x2 ||| (1 <<< (x3 &&& 31))) (x3 + 1) (.int 0) (.int 0) σ))
else (
f_M_siblingsOf_4 d x1 (x2 ||| (1 <<< (x3 &&& 31))) (x3 + 1) (.int 0) (.int 0) σ)))))))))))))
else (
rI x2 σ) :=
  evAt_un [4] 57 (jmp cd_279 4) [.ref 102, .int x1, .int x2, .int x3, x4, x5] [] σ
theorem f_M_mayBe_eq (d : Nat) (a1 : Int32) (σ : Sg) : f_M_mayBe (d + 1) a1 σ =
cI (f_M_houseOf d a1 σ) fun v2 σ1 =>
f_M_mayBe_11 d a1 v2 0 0 σ1 :=
  evAt_un [11] 10 cd_280 [.ref 102, .int a1, .null, .null, .null] [] σ
theorem f_M_mayBe_11_eq (d : Nat) (x1 : Int32) (x2 : Int32) (x3 : Int32) (x4 : Int32) (σ : Sg) : f_M_mayBe_11 d x1 x2 x3 x4 σ =
if x4 < (σ.1 102 5) then (
cI (f_M_lowest d x2 σ) fun v2 σ1 =>
cI (f_M_canBeBy d v2 x4 σ1) fun v4 σ3 =>
if v4 = 0 then (
f_M_mayBe_11 d x1 x2 x3 (x4 + 1) σ3)
else (
cI (f_M_mismatched d x2 σ3) fun v6 σ5 =>
if v6 = 0 then (
bnd x1 24 (
f_M_mayBe_11 d x1 x2 (x3 ||| (1 <<< ((σ5.1 152 (ix x1)) &&& 31))) (x4 + 1) σ5))
else (
f_M_mayBe_11 d x1 x2 x3 (x4 + 1) σ5)))
else (
rI x3 σ) :=
  evAt_un [11] 27 (jmp cd_280 11) [.ref 102, .int x1, .int x2, .int x3, .int x4] [] σ
theorem f_M_houseOf_eq (d : Nat) (a1 : Int32) (σ : Sg) : f_M_houseOf (d + 1) a1 σ =
f_M_houseOf_6 d (.int a1) (1 <<< (a1 &&& 31)) 0 .null σ :=
  evAt_un [6, 16] 8 cd_281 [.ref 102, .int a1, .null, .null, .null] [] σ
theorem f_M_houseOf_6_eq (d : Nat) (x1 : Value) (x2 : Int32) (x3 : Int32) (x4 : Value) (σ : Sg) : f_M_houseOf_6 d x1 x2 x3 x4 σ =
if x2 = x3 then (
rI x2 σ)
else (
f_M_houseOf_16 d (x1) x2 x2 0 σ) :=
  evAt_un [6, 16] 9 (jmp cd_281 6) [.ref 102, x1, .int x2, .int x3, x4] [] σ
theorem f_M_houseOf_16_eq (d : Nat) (x1 : Value) (x2 : Int32) (x3 : Int32) (x4 : Int32) (σ : Sg) : f_M_houseOf_16 d x1 x2 x3 x4 σ =
if x4 < (σ.1 102 69) then (
cI (f_M_has d x3 x4 σ) fun v2 σ1 =>
if v2 = 0 then (
f_M_houseOf_16 d (x1) x2 x3 (x4 + 1) σ1)
else (
bnd x4 24 (
cI (f_M_bit d (σ1.1 144 (ix x4)) σ1) fun v4 σ3 =>
bnd x4 24 (
cI (f_M_bit d (σ3.1 145 (ix x4)) σ3) fun v6 σ5 =>
bnd x4 24 (
cI (f_M_bit d (σ5.1 146 (ix x4)) σ5) fun v8 σ7 =>
cI (f_M_childrenOf d x4 σ7) fun v10 σ9 =>
f_M_houseOf_16 d (nlg x1) ((((x2 ||| v4) ||| v6) ||| v8) ||| v10) x3 (x4 + 1) σ9)))))
else (
f_M_houseOf_6 d (x1) x2 x3 (.int x4) σ) :=
  evAt_un [6, 16] 36 (jmp cd_281 16) [.ref 102, x1, .int x2, .int x3, .int x4] [] σ
theorem f_M_bit_eq (d : Nat) (a0 : Int32) (σ : Sg) : f_M_bit (d + 1) a0 σ =
if a0 = ((-1 : Int32)) then (
rI 0 σ)
else (
rI (1 <<< (a0 &&& 31)) σ) :=
  evAt_un [] 9 cd_282 [.int a0] [] σ
theorem f_M_canBeBy_eq (d : Nat) (a1 : Int32) (a2 : Int32) (σ : Sg) : f_M_canBeBy (d + 1) a1 a2 σ =
f_M_canBeBy_2 d a1 a2 0 σ :=
  evAt_un [2, 39, 60] 4 cd_283 [.ref 102, .int a1, .int a2, .null] [] σ
theorem f_M_canBeBy_2_eq (d : Nat) (x1 : Int32) (x2 : Int32) (x3 : Int32) (σ : Sg) : f_M_canBeBy_2 d x1 x2 x3 σ =
if x3 < (σ.1 102 69) then (
bnd x3 24 (let σ1 := sI σ 152 (ix x3) ((-1));
f_M_canBeBy_2 d x1 x2 (x3 + 1) σ1))
else (
if (0 : Int32) = 0 ∨ (0 : Int32) = 1 then (let σ2 := sI σ 102 72 0;
cV (f_M_isNamed d x1 x2 σ2) fun σ3 =>
if (1 : Int32) = 0 ∨ (1 : Int32) = 1 then (let σ4 := sI σ3 102 73 1;
f_M_canBeBy_39 d (.int x1) (.int x2) (.int x3) σ4)
else none)
else none) :=
  evAt_un [2, 39, 60] 16 (jmp cd_283 2) [.ref 102, .int x1, .int x2, .int x3] [] σ
theorem f_M_canBeBy_39_eq (d : Nat) (x1 : Value) (x2 : Value) (x3 : Value) (σ : Sg) : f_M_canBeBy_39 d x1 x2 x3 σ =
if (σ.1 102 73) = 0 then (
if (σ.1 102 72) = 0 then (
rZ 1 σ)
else (
rZ 0 σ))
else (
if (σ.1 102 72) = 0 then (
if (0 : Int32) = 0 ∨ (0 : Int32) = 1 then (let σ1 := sI σ 102 73 0;
f_M_canBeBy_60 d (x1) (nlg x2) 0 σ1)
else none)
else (
if (σ.1 102 72) = 0 then (
rZ 1 σ)
else (
rZ 0 σ))) :=
  evAt_un [2, 39, 60] 14 (jmp cd_283 39) [.ref 102, x1, x2, x3] [] σ
theorem f_M_canBeBy_60_eq (d : Nat) (x1 : Value) (x2 : Value) (x3 : Int32) (σ : Sg) : f_M_canBeBy_60 d x1 x2 x3 σ =
if x3 < (σ.1 102 69) then (
bnd x3 24 (
if (σ.1 152 (ix x3)) = ((-1 : Int32)) then (
f_M_canBeBy_60 d (x1) (nlg x2) (x3 + 1) σ)
else (
cV (f_M_namesKin d x3 σ) fun σ1 =>
f_M_canBeBy_60 d (x1) (nlg x2) (x3 + 1) σ1)))
else (
f_M_canBeBy_39 d (x1) (x2) (.int x3) σ) :=
  evAt_un [2, 39, 60] 17 (jmp cd_283 60) [.ref 102, x1, x2, .int x3] [] σ
theorem f_M_isNamed_eq (d : Nat) (a1 : Int32) (a2 : Int32) (σ : Sg) : f_M_isNamed (d + 1) a1 a2 σ =
if a1 = ((-1 : Int32)) then (
rV σ)
else (
bnd a1 24 (
if (σ.1 152 (ix a1)) = ((-1 : Int32)) then (
bnd a1 24 (let σ1 := sI σ 152 (ix a1) a2;
if (1 : Int32) = 0 ∨ (1 : Int32) = 1 then (let σ2 := sI σ1 102 73 1;
bnd a1 24 (
if (σ2.1 152 (ix a1)) = a2 then (
rV σ2)
else (
if (1 : Int32) = 0 ∨ (1 : Int32) = 1 then (let σ3 := sI σ2 102 72 1;
rV σ3)
else none)))
else none))
else (
bnd a1 24 (
if (σ.1 152 (ix a1)) = a2 then (
rV σ)
else (
if (1 : Int32) = 0 ∨ (1 : Int32) = 1 then (let σ4 := sI σ 102 72 1;
rV σ4)
else none))))) :=
  evAt_un [] 29 cd_284 [.ref 102, .int a1, .int a2] [] σ
set_option maxRecDepth 20000 in
theorem f_M_namesKin_eq (d : Nat) (a1 : Int32) (σ : Sg) : f_M_namesKin (d + 1) a1 σ =
bnd a1 24 (
bnd a1 24 (
cI (f_M_before d 107 (σ.1 152 (ix a1)) σ) fun v2 σ1 =>
cV (f_M_isNamed d (σ.1 145 (ix a1)) v2 σ1) fun σ3 =>
bnd a1 24 (
cI (f_M_before d 107 (σ.1 152 (ix a1)) σ3) fun v5 σ4 =>
cI (f_M_before d 106 v5 σ4) fun v7 σ6 =>
cV (f_M_isNamed d (σ3.1 144 (ix a1)) v7 σ6) fun σ8 =>
bnd a1 24 (
bnd a1 24 (
cI (f_M_spouseOf d (σ.1 152 (ix a1)) (σ8.1 142 (ix a1)) σ8) fun v10 σ9 =>
cV (f_M_isNamed d (σ8.1 146 (ix a1)) v10 σ9) fun σ11 =>
cI (f_M_childrenOf d a1 σ11) fun v13 σ12 =>
f_M_namesKin_80 d a1 (σ.1 152 (ix a1)) v13 0 σ12))))) :=
  evAt_un [80] 49 cd_285 [.ref 102, .int a1, .null, .null, .null] [] σ
theorem f_M_namesKin_80_eq (d : Nat) (x1 : Int32) (x2 : Int32) (x3 : Int32) (x4 : Int32) (σ : Sg) : f_M_namesKin_80 d x1 x2 x3 x4 σ =
if x4 < (σ.1 102 69) then (
cI (f_M_has d x3 x4 σ) fun v2 σ1 =>
if v2 = 0 then (
f_M_namesKin_80 d x1 x2 x3 (x4 + 1) σ1)
else (
bnd x1 24 (
if (σ1.1 142 (ix x1)) = 1 then (
bnd x2 6 (
cV (f_M_isNamed d x4 (σ1.1 107 (ix x2)) σ1) fun σ3 =>
f_M_namesKin_80 d x1 x2 x3 (x4 + 1) σ3))
else (
bnd x2 6 (
bnd (σ1.1 106 (ix x2)) 6 (
cV (f_M_isNamed d x4 (σ1.1 107 (ix (σ1.1 106 (ix x2)))) σ1) fun σ4 =>
f_M_namesKin_80 d x1 x2 x3 (x4 + 1) σ4))))))
else (
rV σ) :=
  evAt_un [80] 28 (jmp cd_285 80) [.ref 102, .int x1, .int x2, .int x3, .int x4] [] σ
theorem f_M_mismatched_eq (d : Nat) (a1 : Int32) (σ : Sg) : f_M_mismatched (d + 1) a1 σ =
f_M_mismatched_4 d a1 0 0 σ :=
  evAt_un [4] 6 cd_286 [.ref 102, .int a1, .null, .null] [] σ
theorem f_M_mismatched_4_eq (d : Nat) (x1 : Int32) (x2 : Int32) (x3 : Int32) (σ : Sg) : f_M_mismatched_4 d x1 x2 x3 σ =
if x3 < (σ.1 102 69) then (
cI (f_M_has d x1 x3 σ) fun v2 σ1 =>
if v2 = 0 then (
f_M_mismatched_4 d x1 x2 (x3 + 1) σ1)
else (
bnd x3 24 (
if (σ1.1 143 (ix x3)) = ((-1 : Int32)) then (
f_M_mismatched_4 d x1 x2 (x3 + 1) σ1)
else (
bnd x3 24 (
bnd x3 24 (
if (σ1.1 143 (ix x3)) = (σ1.1 152 (ix x3)) then (
f_M_mismatched_4 d x1 x2 (x3 + 1) σ1)
else (
f_M_mismatched_4 d x1 (x2 ||| (1 <<< (x3 &&& 31))) (x3 + 1) σ1)))))))
else (
rI x2 σ) :=
  evAt_un [4] 33 (jmp cd_286 4) [.ref 102, .int x1, .int x2, .int x3] [] σ
theorem f_M_sureOf_eq (d : Nat) (a1 : Int32) (σ : Sg) : f_M_sureOf (d + 1) a1 σ =
cI (f_M_mayBe d a1 σ) fun v2 σ1 =>
if v2 = 0 then (
rI ((-3)) σ1)
else (
cI (f_M_bits d v2 σ1) fun v4 σ3 =>
if 1 < v4 then (
rI ((-2)) σ3)
else (
cI (f_M_lowest d v2 σ3) fun v6 σ5 =>
rI v6 σ5)) :=
  evAt_un [] 15 cd_287 [.ref 102, .int a1, .null] [] σ
theorem f_M_houses_eq (d : Nat) (a1 : Int32) (σ : Sg) : f_M_houses (d + 1) a1 σ =
cI (f_M_in d a1 0 2 σ) fun v2 σ1 =>
if v2 = 0 then (
rI ((-1)) σ1)
else (
f_M_houses_21 d a1 0 0 0 0 σ1) :=
  evAt_un [21] 15 cd_288 [.ref 102, .int a1, .null, .null, .null, .null] [] σ
theorem f_M_houses_21_eq (d : Nat) (x1 : Int32) (x2 : Int32) (x3 : Int32) (x4 : Int32) (x5 : Int32) (σ : Sg) : f_M_houses_21 d x1 x2 x3 x4 x5 σ =
if x5 < (σ.1 102 69) then (
cI (f_M_isFirst d x5 σ) fun v2 σ1 =>
if v2 = 0 then (
f_M_houses_21 d x1 x2 x3 x4 (x5 + 1) σ1)
else (
cI (f_M_mayBe d x5 σ1) fun v4 σ3 =>
if v4 = 0 then (
cI (f_M_houseOf d x5 σ3) fun v6 σ5 =>
f_M_houses_21 d x1 (x2 + 1) (x3 + 1) (x4 ||| v6) (x5 + 1) σ5)
else (
f_M_houses_21 d x1 (x2 + 1) x3 x4 (x5 + 1) σ3)))
else (
if x1 = 0 then (
rI x2 σ)
else (
if x1 = 1 then (
rI x3 σ)
else (
rI x4 σ))) :=
  evAt_un [21] 30 (jmp cd_288 21) [.ref 102, .int x1, .int x2, .int x3, .int x4, .int x5] [] σ
theorem f_M_isFirst_eq (d : Nat) (a1 : Int32) (σ : Sg) : f_M_isFirst (d + 1) a1 σ =
cI (f_M_houseOf d a1 σ) fun v2 σ1 =>
cI (f_M_lowest d v2 σ1) fun v4 σ3 =>
if v4 = a1 then (
rZ 1 σ3)
else (
rZ 0 σ3) :=
  evAt_un [] 11 cd_289 [.ref 102, .int a1] [] σ
theorem f_M_mended_eq (d : Nat) (a1 : Int32) (σ : Sg) : f_M_mended (d + 1) a1 σ =
cI (f_M_in d a1 0 1 σ) fun v2 σ1 =>
if v2 = 0 then (
rI ((-1)) σ1)
else (
f_M_mended_15 d a1 0 0 .null σ1) :=
  evAt_un [15] 11 cd_290 [.ref 102, .int a1, .null, .null, .null] [] σ
theorem f_M_mended_15_eq (d : Nat) (x1 : Int32) (x2 : Int32) (x3 : Int32) (x4 : Value) (σ : Sg) : f_M_mended_15 d x1 x2 x3 x4 σ =
if x3 < (σ.1 102 69) then (
cI (f_M_isFirst d x3 σ) fun v2 σ1 =>
if v2 = 0 then (
f_M_mended_15 d x1 x2 (x3 + 1) (x4) σ1)
else (
cI (f_M_mendedAt d x3 σ1) fun v4 σ3 =>
if v4 = ((-1 : Int32)) then (
rI ((-2)) σ3)
else (
f_M_mended_15 d x1 (x2 ||| v4) (x3 + 1) (.int v4) σ3)))
else (
if x1 = 0 then (
cI (f_M_bits d x2 σ) fun v6 σ5 =>
rI v6 σ5)
else (
rI x2 σ)) :=
  evAt_un [15] 23 (jmp cd_290 15) [.ref 102, .int x1, .int x2, .int x3, x4] [] σ
theorem f_M_mendedAt_eq (d : Nat) (a1 : Int32) (σ : Sg) : f_M_mendedAt (d + 1) a1 σ =
cI (f_M_houseOf d a1 σ) fun v2 σ1 =>
f_M_mendedAt_11 d a1 v2 ((-1)) 0 .null σ1 :=
  evAt_un [11] 10 cd_291 [.ref 102, .int a1, .null, .null, .null, .null] [] σ
theorem f_M_mendedAt_11_eq (d : Nat) (x1 : Int32) (x2 : Int32) (x3 : Int32) (x4 : Int32) (x5 : Value) (σ : Sg) : f_M_mendedAt_11 d x1 x2 x3 x4 x5 σ =
if x4 < (σ.1 102 5) then (
cI (f_M_canBeBy d x1 x4 σ) fun v2 σ1 =>
if v2 = 0 then (
f_M_mendedAt_11 d x1 x2 x3 (x4 + 1) (x5) σ1)
else (
cI (f_M_mismatched d x2 σ1) fun v4 σ3 =>
if x3 = ((-1 : Int32)) then (
f_M_mendedAt_11 d x1 x2 v4 (x4 + 1) (.int v4) σ3)
else (
cI (f_M_bits d v4 σ3) fun v6 σ5 =>
cI (f_M_bits d x3 σ5) fun v8 σ7 =>
if v6 < v8 then (
f_M_mendedAt_11 d x1 x2 v4 (x4 + 1) (.int v4) σ7)
else (
f_M_mendedAt_11 d x1 x2 x3 (x4 + 1) (.int v4) σ7))))
else (
rI x3 σ) :=
  evAt_un [11] 27 (jmp cd_291 11) [.ref 102, .int x1, .int x2, .int x3, .int x4, x5] [] σ
theorem f_M_byTold_eq (d : Nat) (a1 : Int32) (σ : Sg) : f_M_byTold (d + 1) a1 σ =
cI (f_M_in d a1 0 3 σ) fun v2 σ1 =>
if v2 = 0 then (
rI ((-1)) σ1)
else (
f_M_byTold_24 d a1 0 ((-2)) ((σ1.1 102 69) - 1) σ1) :=
  evAt_un [24] 16 cd_292 [.ref 102, .int a1, .null, .null, .null] [] σ
theorem f_M_byTold_24_eq (d : Nat) (x1 : Int32) (x2 : Int32) (x3 : Int32) (x4 : Int32) (σ : Sg) : f_M_byTold_24 d x1 x2 x3 x4 σ =
if x4 < 0 then (
rmI x1 2 fun v1 =>
if v1 = 0 then (
rI x2 σ)
else (
rI x3 σ))
else (
if x1 < 2 then (
cI (f_M_isWrongWedding d x4 σ) fun v3 σ2 =>
if v3 = 0 then (
f_M_byTold_24 d x1 x2 x3 (x4 + (-1)) σ2)
else (
f_M_byTold_24 d x1 (x2 + 1) x4 (x4 + (-1)) σ2))
else (
cI (f_M_isWrongChild d x4 σ) fun v5 σ4 =>
if v5 = 0 then (
f_M_byTold_24 d x1 x2 x3 (x4 + (-1)) σ4)
else (
f_M_byTold_24 d x1 (x2 + 1) x4 (x4 + (-1)) σ4))) :=
  evAt_un [24] 19 (jmp cd_292 24) [.ref 102, .int x1, .int x2, .int x3, .int x4] [] σ
set_option maxRecDepth 20000 in
theorem f_M_isWrongWedding_eq (d : Nat) (a1 : Int32) (σ : Sg) : f_M_isWrongWedding (d + 1) a1 σ =
bnd a1 24 (
if a1 < (σ.1 146 (ix a1)) then (
bnd a1 24 (
if (σ.1 143 (ix a1)) = ((-1 : Int32)) then (
rZ 0 σ)
else (
bnd (σ.1 146 (ix a1)) 24 (
if (σ.1 143 (ix (σ.1 146 (ix a1)))) = ((-1 : Int32)) then (
rZ 0 σ)
else (
bnd (σ.1 146 (ix a1)) 24 (
bnd a1 24 (
bnd a1 24 (
cI (f_M_spouseOf d (σ.1 143 (ix a1)) (σ.1 142 (ix a1)) σ) fun v2 σ1 =>
if (σ.1 143 (ix (σ.1 146 (ix a1)))) = v2 then (
rZ 0 σ1)
else (
rZ 1 σ1)))))))))
else (
rZ 0 σ)) :=
  evAt_un [] 40 cd_293 [.ref 102, .int a1, .null] [] σ
theorem f_M_isWrongChild_eq (d : Nat) (a1 : Int32) (σ : Sg) : f_M_isWrongChild (d + 1) a1 σ =
bnd a1 24 (
if (σ.1 145 (ix a1)) = ((-1 : Int32)) then (
rZ 0 σ)
else (
bnd a1 24 (
if (σ.1 143 (ix a1)) = ((-1 : Int32)) then (
rZ 0 σ)
else (
bnd (σ.1 145 (ix a1)) 24 (
if (σ.1 143 (ix (σ.1 145 (ix a1)))) = ((-1 : Int32)) then (
rZ 0 σ)
else (
bnd a1 24 (
bnd (σ.1 145 (ix a1)) 24 (
bnd (σ.1 143 (ix (σ.1 145 (ix a1)))) 6 (
if (σ.1 143 (ix a1)) = (σ.1 107 (ix (σ.1 143 (ix (σ.1 145 (ix a1)))))) then (
rZ 0 σ)
else (
rZ 1 σ)))))))))) :=
  evAt_un [] 37 cd_294 [.ref 102, .int a1, .null] [] σ
set_option maxRecDepth 20000 in
theorem f_M_whatIs_eq (d : Nat) (a1 : Int32) (a2 : Int32) (a3 : Int32) (σ : Sg) : f_M_whatIs (d + 1) a1 a2 a3 σ =
cI (f_M_isPerson d a1 σ) fun v2 σ1 =>
if v2 = 0 then (
rI ((-1)) σ1)
else (
cI (f_M_isPerson d a2 σ1) fun v4 σ3 =>
if v4 = 0 then (
rI ((-1)) σ3)
else (
cI (f_M_isStepOr d a3 23 σ3) fun v6 σ5 =>
if v6 = 0 then (
rI ((-1)) σ5)
else (
cV (f_M_laysLevels d a2 σ5) fun σ7 =>
bnd a1 24 (
if (σ7.1 153 (ix a1)) = 1000000 then (
rI ((-2)) σ7)
else (
if a3 = 100 then (
rI (σ7.1 153 (ix a1)) σ7)
else (
if a3 < (σ7.1 153 (ix a1)) then (
f_M_whatIs_80 d (.int a1) (.int a2) a3 (σ7.1 153 (ix a1)) (1 <<< (a1 &&& 31)) ((-1)) 0 σ7)
else (
rI ((-4)) σ7))))))) :=
  evAt_un [80, 95] 39 cd_295 [.ref 102, .int a1, .int a2, .int a3, .null, .null, .null, .null] [] σ
theorem f_M_whatIs_80_eq (d : Nat) (x1 : Value) (x2 : Value) (x3 : Int32) (x4 : Int32) (x5 : Int32) (x6 : Int32) (x7 : Int32) (σ : Sg) : f_M_whatIs_80 d x1 x2 x3 x4 x5 x6 x7 σ =
if x3 < x7 then (
cI (f_M_letterOf d x6 σ) fun v2 σ1 =>
rI v2 σ1)
else (
f_M_whatIs_95 d (x1) (x2) x3 (x4 - 1) x5 0 x7 σ) :=
  evAt_un [80, 95] 11 (jmp cd_295 80) [.ref 102, x1, x2, .int x3, .int x4, .int x5, .int x6, .int x7] [] σ
theorem f_M_whatIs_95_eq (d : Nat) (x1 : Value) (x2 : Value) (x3 : Int32) (x4 : Int32) (x5 : Int32) (x6 : Int32) (x7 : Int32) (σ : Sg) : f_M_whatIs_95 d x1 x2 x3 x4 x5 x6 x7 σ =
cI (f_M_allOf d x5 x6 σ) fun v2 σ1 =>
cI (f_M_atLevel d x4 σ1) fun v4 σ3 =>
if (v2 &&& v4) = 0 then (
f_M_whatIs_95 d (x1) (x2) x3 x4 x5 (x6 + 1) x7 σ3)
else (
cI (f_M_allOf d x5 x6 σ3) fun v6 σ5 =>
cI (f_M_atLevel d x4 σ5) fun v8 σ7 =>
f_M_whatIs_80 d (x1) (x2) x3 x4 (v6 &&& v8) x6 (x7 + 1) σ7) :=
  evAt_un [80, 95] 22 (jmp cd_295 95) [.ref 102, x1, x2, .int x3, .int x4, .int x5, .int x6, .int x7] [] σ
theorem f_M_laysLevels_eq (d : Nat) (a1 : Int32) (σ : Sg) : f_M_laysLevels (d + 1) a1 σ =
f_M_laysLevels_2 d a1 0 .null .null σ :=
  evAt_un [2, 36, 44] 4 cd_296 [.ref 102, .int a1, .null, .null, .null] [] σ
theorem f_M_laysLevels_2_eq (d : Nat) (x1 : Int32) (x2 : Int32) (x3 : Value) (x4 : Value) (σ : Sg) : f_M_laysLevels_2 d x1 x2 x3 x4 σ =
if x2 < (σ.1 102 69) then (
if x2 = x1 then (
bnd x2 24 (let σ1 := sI σ 153 (ix x2) 0;
f_M_laysLevels_2 d x1 (x2 + 1) (x3) (x4) σ1))
else (
bnd x2 24 (let σ2 := sI σ 153 (ix x2) 1000000;
f_M_laysLevels_2 d x1 (x2 + 1) (x3) (x4) σ2)))
else (
f_M_laysLevels_36 d (.int x1) 1 (x3) (x4) σ) :=
  evAt_un [2, 36, 44] 17 (jmp cd_296 2) [.ref 102, .int x1, .int x2, x3, x4] [] σ
theorem f_M_laysLevels_36_eq (d : Nat) (x1 : Value) (x2 : Int32) (x3 : Value) (x4 : Value) (σ : Sg) : f_M_laysLevels_36 d x1 x2 x3 x4 σ =
if x2 < 24 then (
f_M_laysLevels_44 d (x1) x2 0 (x4) σ)
else (
rV σ) :=
  evAt_un [2, 36, 44] 7 (jmp cd_296 36) [.ref 102, x1, .int x2, x3, x4] [] σ
set_option maxRecDepth 20000 in
theorem f_M_laysLevels_44_eq (d : Nat) (x1 : Value) (x2 : Int32) (x3 : Int32) (x4 : Value) (σ : Sg) : f_M_laysLevels_44 d x1 x2 x3 x4 σ =
if x3 < ((σ.1 102 69) * 8) then (
dvI x3 8 fun v1 =>
bnd v1 24 (
if (σ.1 153 (ix v1)) = 1000000 then (
rmI x3 8 fun v2 =>
cI (f_M_thoseOf d v1 v2 σ) fun v4 σ3 =>
cI (f_M_atLevel d (x2 - 1) σ3) fun v6 σ5 =>
if (v4 &&& v6) = 0 then (
f_M_laysLevels_44 d (x1) x2 (x3 + 1) (.int v1) σ5)
else (
bnd v1 24 (let σ7 := sI σ5 153 (ix v1) x2;
f_M_laysLevels_44 d (x1) x2 (x3 + 1) (.int v1) σ7)))
else (
f_M_laysLevels_44 d (x1) x2 (x3 + 1) (.int v1) σ)))
else (
f_M_laysLevels_36 d (nlg x1) (x2 + 1) (.int x3) (x4) σ) :=
  evAt_un [2, 36, 44] 38 (jmp cd_296 44) [.ref 102, x1, .int x2, .int x3, x4] [] σ
theorem f_M_thoseOf_eq (d : Nat) (a1 : Int32) (a2 : Int32) (σ : Sg) : f_M_thoseOf (d + 1) a1 a2 σ =
if a2 = 0 then (
bnd a1 24 (
cI (f_M_bit d (σ.1 144 (ix a1)) σ) fun v2 σ1 =>
rI v2 σ1))
else if a2 = 1 then (
bnd a1 24 (
cI (f_M_bit d (σ.1 145 (ix a1)) σ) fun v4 σ3 =>
rI v4 σ3))
else if a2 = 2 then (
bnd a1 24 (
if (σ.1 142 (ix a1)) = 1 then (
bnd a1 24 (
cI (f_M_bit d (σ.1 146 (ix a1)) σ) fun v6 σ5 =>
rI v6 σ5))
else (
rI 0 σ)))
else if a2 = 3 then (
bnd a1 24 (
if (σ.1 142 (ix a1)) = 0 then (
bnd a1 24 (
cI (f_M_bit d (σ.1 146 (ix a1)) σ) fun v8 σ7 =>
rI v8 σ7))
else (
rI 0 σ)))
else if a2 = 4 then (
cI (f_M_childrenOf d a1 σ) fun v10 σ9 =>
cI (f_M_ofSort d 0 σ9) fun v12 σ11 =>
rI (v10 &&& v12) σ11)
else if a2 = 5 then (
cI (f_M_childrenOf d a1 σ) fun v14 σ13 =>
cI (f_M_ofSort d 1 σ13) fun v16 σ15 =>
rI (v14 &&& v16) σ15)
else if a2 = 6 then (
cI (f_M_siblingsOf d a1 σ) fun v18 σ17 =>
cI (f_M_ofSort d 0 σ17) fun v20 σ19 =>
rI (v18 &&& v20) σ19)
else (
cI (f_M_siblingsOf d a1 σ) fun v22 σ21 =>
cI (f_M_ofSort d 1 σ21) fun v24 σ23 =>
rI (v22 &&& v24) σ23) :=
  evAt_un [] 17 cd_297 [.ref 102, .int a1, .int a2] [] σ
theorem f_M_ofSort_eq (d : Nat) (a1 : Int32) (σ : Sg) : f_M_ofSort (d + 1) a1 σ =
f_M_ofSort_4 d a1 0 0 σ :=
  evAt_un [4] 6 cd_298 [.ref 102, .int a1, .null, .null] [] σ
theorem f_M_ofSort_4_eq (d : Nat) (x1 : Int32) (x2 : Int32) (x3 : Int32) (σ : Sg) : f_M_ofSort_4 d x1 x2 x3 σ =
if x3 < (σ.1 102 69) then (
bnd x3 24 (
if (σ.1 142 (ix x3)) = x1 then (
f_M_ofSort_4 d x1 (x2 ||| (1 <<< (x3 &&& 31))) (x3 + 1) σ)
else (
f_M_ofSort_4 d x1 x2 (x3 + 1) σ)))
else (
rI x2 σ) :=
  evAt_un [4] 20 (jmp cd_298 4) [.ref 102, .int x1, .int x2, .int x3] [] σ
theorem f_M_atLevel_eq (d : Nat) (a1 : Int32) (σ : Sg) : f_M_atLevel (d + 1) a1 σ =
f_M_atLevel_4 d a1 0 0 σ :=
  evAt_un [4] 6 cd_299 [.ref 102, .int a1, .null, .null] [] σ
theorem f_M_atLevel_4_eq (d : Nat) (x1 : Int32) (x2 : Int32) (x3 : Int32) (σ : Sg) : f_M_atLevel_4 d x1 x2 x3 σ =
if x3 < (σ.1 102 69) then (
bnd x3 24 (
if (σ.1 153 (ix x3)) = x1 then (
f_M_atLevel_4 d x1 (x2 ||| (1 <<< (x3 &&& 31))) (x3 + 1) σ)
else (
f_M_atLevel_4 d x1 x2 (x3 + 1) σ)))
else (
rI x2 σ) :=
  evAt_un [4] 20 (jmp cd_299 4) [.ref 102, .int x1, .int x2, .int x3] [] σ
theorem f_M_allOf_eq (d : Nat) (a1 : Int32) (a2 : Int32) (σ : Sg) : f_M_allOf (d + 1) a1 a2 σ =
f_M_allOf_5 d a1 a2 0 0 σ :=
  evAt_un [5] 6 cd_300 [.ref 102, .int a1, .int a2, .null, .null] [] σ
theorem f_M_allOf_5_eq (d : Nat) (x1 : Int32) (x2 : Int32) (x3 : Int32) (x4 : Int32) (σ : Sg) : f_M_allOf_5 d x1 x2 x3 x4 σ =
if x4 < (σ.1 102 69) then (
cI (f_M_has d x1 x4 σ) fun v2 σ1 =>
if v2 = 0 then (
f_M_allOf_5 d x1 x2 x3 (x4 + 1) σ1)
else (
cI (f_M_thoseOf d x4 x2 σ1) fun v4 σ3 =>
f_M_allOf_5 d x1 x2 (x3 ||| v4) (x4 + 1) σ3))
else (
rI x3 σ) :=
  evAt_un [5] 19 (jmp cd_300 5) [.ref 102, .int x1, .int x2, .int x3, .int x4] [] σ
theorem f_M_those_eq (d : Nat) (a1 : Int32) (a2 : Int32) (σ : Sg) : f_M_those (d + 1) a1 a2 σ =
cI (f_M_isPerson d a1 σ) fun v2 σ1 =>
if v2 = 0 then (
rI ((-1)) σ1)
else (
cI (f_M_in d a2 1 40 σ1) fun v4 σ3 =>
if v4 = 0 then (
rI ((-1)) σ3)
else (
if (σ3.1 102 7) < a2 then (
rI ((-1)) σ3)
else (
bnd a1 24 (
cI (f_M_readsWord d 0 a2 (σ3.1 142 (ix a1)) σ3) fun v6 σ5 =>
let σ7 := sI σ5 102 7 0;
if v6 < 0 then (
rI v6 σ7)
else (
f_M_those_60 d (.int a1) (.int a2) (.int v6) (1 <<< (a1 &&& 31)) 0 σ7))))) :=
  evAt_un [60] 35 cd_301 [.ref 102, .int a1, .int a2, .null, .null, .null] [] σ
theorem f_M_those_60_eq (d : Nat) (x1 : Value) (x2 : Value) (x3 : Value) (x4 : Int32) (x5 : Int32) (σ : Sg) : f_M_those_60 d x1 x2 x3 x4 x5 σ =
if x5 < (σ.1 102 38) then (
bnd x5 24 (
cI (f_M_allOf d x4 (σ.1 124 (ix x5)) σ) fun v2 σ1 =>
f_M_those_60 d (x1) (x2) (nlg x3) v2 (x5 + 1) σ1))
else (
rI x4 σ) :=
  evAt_un [60] 16 (jmp cd_301 60) [.ref 102, x1, x2, x3, .int x4, .int x5] [] σ
theorem f_M_mayWed_eq (d : Nat) (a1 : Int32) (σ : Sg) : f_M_mayWed (d + 1) a1 σ =
cI (f_M_isPerson d a1 σ) fun v2 σ1 =>
if v2 = 0 then (
rI ((-1)) σ1)
else (
cV (f_M_laysMayBe d σ1) fun σ3 =>
cI (f_M_whoMayWed d a1 σ3) fun v5 σ4 =>
rI v5 σ4) :=
  evAt_un [] 12 cd_302 [.ref 102, .int a1] [] σ
theorem f_M_laysMayBe_eq (d : Nat) (σ : Sg) : f_M_laysMayBe (d + 1) σ =
f_M_laysMayBe_2 d 0 σ :=
  evAt_un [2] 4 cd_303 [.ref 102, .null] [] σ
theorem f_M_laysMayBe_2_eq (d : Nat) (x1 : Int32) (σ : Sg) : f_M_laysMayBe_2 d x1 σ =
if x1 < (σ.1 102 69) then (
cI (f_M_mayBe d x1 σ) fun v2 σ1 =>
bnd x1 24 (let σ3 := sI σ1 154 (ix x1) v2;
f_M_laysMayBe_2 d (x1 + 1) σ3))
else (
rV σ) :=
  evAt_un [2] 15 (jmp cd_303 2) [.ref 102, .int x1] [] σ
theorem f_M_whoMayWed_eq (d : Nat) (a1 : Int32) (σ : Sg) : f_M_whoMayWed (d + 1) a1 σ =
bnd a1 24 (
if (σ.1 146 (ix a1)) = ((-1 : Int32)) then (
cI (f_M_childrenOf d a1 σ) fun v2 σ1 =>
cI (f_M_siblingsOf d a1 σ1) fun v4 σ3 =>
bnd a1 24 (
cI (f_M_bit d (σ3.1 144 (ix a1)) σ3) fun v6 σ5 =>
bnd a1 24 (
cI (f_M_bit d (σ5.1 145 (ix a1)) σ5) fun v8 σ7 =>
f_M_whoMayWed_49 d a1 (((v2 ||| v4) ||| v6) ||| v8) 0 0 σ7)))
else (
rI 0 σ)) :=
  evAt_un [49] 32 cd_304 [.ref 102, .int a1, .null, .null, .null] [] σ
set_option maxRecDepth 20000 in
theorem f_M_whoMayWed_49_eq (d : Nat) (x1 : Int32) (x2 : Int32) (x3 : Int32) (x4 : Int32) (σ : Sg) : f_M_whoMayWed_49 d x1 x2 x3 x4 σ =
if x4 < (σ.1 102 69) then (
bnd x4 24 (
bnd x1 24 (
if (σ.1 142 (ix x4)) = (σ.1 142 (ix x1)) then (
f_M_whoMayWed_49 d x1 x2 x3 (x4 + 1) σ)
else (
bnd x4 24 (
if (σ.1 146 (ix x4)) = ((-1 : Int32)) then (
cI (f_M_has d x2 x4 σ) fun v2 σ1 =>
if v2 = 0 then (
cI (f_M_goTogether d x1 x4 σ1) fun v4 σ3 =>
if v4 = 0 then (
f_M_whoMayWed_49 d x1 x2 x3 (x4 + 1) σ3)
else (
f_M_whoMayWed_49 d x1 x2 (x3 ||| (1 <<< (x4 &&& 31))) (x4 + 1) σ3))
else (
f_M_whoMayWed_49 d x1 x2 x3 (x4 + 1) σ1))
else (
f_M_whoMayWed_49 d x1 x2 x3 (x4 + 1) σ))))))
else (
rI x3 σ) :=
  evAt_un [49] 38 (jmp cd_304 49) [.ref 102, .int x1, .int x2, .int x3, .int x4] [] σ
theorem f_M_goTogether_eq (d : Nat) (a1 : Int32) (a2 : Int32) (σ : Sg) : f_M_goTogether (d + 1) a1 a2 σ =
f_M_goTogether_2 d a1 a2 0 σ :=
  evAt_un [2] 4 cd_305 [.ref 102, .int a1, .int a2, .null] [] σ
theorem f_M_goTogether_2_eq (d : Nat) (x1 : Int32) (x2 : Int32) (x3 : Int32) (σ : Sg) : f_M_goTogether_2 d x1 x2 x3 σ =
if x3 < (σ.1 102 5) then (
bnd x1 24 (
cI (f_M_has d (σ.1 154 (ix x1)) x3 σ) fun v2 σ1 =>
if v2 = 0 then (
f_M_goTogether_2 d x1 x2 (x3 + 1) σ1)
else (
bnd x2 24 (
bnd x1 24 (
cI (f_M_spouseOf d x3 (σ1.1 142 (ix x1)) σ1) fun v4 σ3 =>
cI (f_M_has d (σ1.1 154 (ix x2)) v4 σ3) fun v6 σ5 =>
if v6 = 0 then (
f_M_goTogether_2 d x1 x2 (x3 + 1) σ5)
else (
rZ 1 σ5))))))
else (
rZ 0 σ) :=
  evAt_un [2] 28 (jmp cd_305 2) [.ref 102, .int x1, .int x2, .int x3] [] σ
theorem f_M_weddings_eq (d : Nat) (σ : Sg) : f_M_weddings (d + 1) σ =
cV (f_M_laysMayBe d σ) fun σ1 =>
f_M_weddings_6 d 0 .null σ1 :=
  evAt_un [6, 31] 6 cd_306 [.ref 102, .null, .null] [] σ
theorem f_M_weddings_6_eq (d : Nat) (x1 : Int32) (x2 : Value) (σ : Sg) : f_M_weddings_6 d x1 x2 σ =
if x1 < (σ.1 102 69) then (
bnd x1 24 (let σ1 := sI σ 155 (ix x1) ((-1));
f_M_weddings_6 d (x1 + 1) (x2) σ1))
else (
f_M_weddings_31 d 0 0 σ) :=
  evAt_un [6, 31] 13 (jmp cd_306 6) [.ref 102, .int x1, x2] [] σ
theorem f_M_weddings_31_eq (d : Nat) (x1 : Int32) (x2 : Int32) (σ : Sg) : f_M_weddings_31 d x1 x2 σ =
if x2 < (σ.1 102 69) then (
bnd x2 24 (
if (σ.1 142 (ix x2)) = 0 then (
cI (f_M_wedsOneMore d x2 σ) fun v2 σ1 =>
if v2 = 0 then (
f_M_weddings_31 d x1 (x2 + 1) σ1)
else (
f_M_weddings_31 d (x1 + 1) (x2 + 1) σ1))
else (
f_M_weddings_31 d x1 (x2 + 1) σ)))
else (
rI x1 σ) :=
  evAt_un [6, 31] 21 (jmp cd_306 31) [.ref 102, .int x1, .int x2] [] σ
theorem f_M_wedsOneMore_eq (d : Nat) (a1 : Int32) (σ : Sg) : f_M_wedsOneMore (d + 1) a1 σ =
bnd 0 24 (let σ1 := sI σ 157 (ix 0) a1;
f_M_wedsOneMore_14 d a1 0 1 0 .null .null σ1) :=
  evAt_un [14, 45] 13 cd_307 [.ref 102, .int a1, .null, .null, .null, .null, .null] [] σ
theorem f_M_wedsOneMore_14_eq (d : Nat) (x1 : Int32) (x2 : Int32) (x3 : Int32) (x4 : Int32) (x5 : Value) (x6 : Value) (σ : Sg) : f_M_wedsOneMore_14 d x1 x2 x3 x4 x5 x6 σ =
if x4 < x3 then (
bnd x4 24 (
cI (f_M_whoMayWed d (σ.1 157 (ix x4)) σ) fun v2 σ1 =>
f_M_wedsOneMore_45 d x1 (x2 ||| (v2 &&& (x2 ^^^ ((-1))))) x3 x4 (v2 &&& (x2 ^^^ ((-1)))) 0 σ1))
else (
rZ 0 σ) :=
  evAt_un [14, 45] 22 (jmp cd_307 14) [.ref 102, .int x1, .int x2, .int x3, .int x4, x5, x6] [] σ
set_option maxRecDepth 20000 in
theorem f_M_wedsOneMore_45_eq (d : Nat) (x1 : Int32) (x2 : Int32) (x3 : Int32) (x4 : Int32) (x5 : Int32) (x6 : Int32) (σ : Sg) : f_M_wedsOneMore_45 d x1 x2 x3 x4 x5 x6 σ =
if x6 < (σ.1 102 69) then (
cI (f_M_has d x5 x6 σ) fun v2 σ1 =>
if v2 = 0 then (
f_M_wedsOneMore_45 d x1 x2 x3 x4 x5 (x6 + 1) σ1)
else (
bnd x4 24 (
bnd x6 24 (let σ3 := sI σ1 156 (ix x6) (σ1.1 157 (ix x4));
bnd x6 24 (
if (σ3.1 155 (ix x6)) = ((-1 : Int32)) then (
cV (f_M_wedsBack d x1 x6 σ3) fun σ4 =>
rZ 1 σ4)
else (
bnd x6 24 (
bnd x3 24 (let σ5 := sI σ3 157 (ix x3) (σ3.1 155 (ix x6));
f_M_wedsOneMore_45 d x1 x2 (x3 + 1) x4 x5 (x6 + 1) σ5))))))))
else (
f_M_wedsOneMore_14 d x1 x2 x3 (x4 + 1) (.int x5) (.int x6) σ) :=
  evAt_un [14, 45] 38 (jmp cd_307 45) [.ref 102, .int x1, .int x2, .int x3, .int x4, .int x5, .int x6] [] σ
theorem f_M_wedsBack_eq (d : Nat) (a1 : Int32) (a2 : Int32) (σ : Sg) : f_M_wedsBack (d + 1) a1 a2 σ =
f_M_wedsBack_2 d a1 (.int a2) a2 .null .null σ :=
  evAt_un [2] 4 cd_308 [.ref 102, .int a1, .int a2, .null, .null, .null] [] σ
theorem f_M_wedsBack_2_eq (d : Nat) (x1 : Int32) (x2 : Value) (x3 : Int32) (x4 : Value) (x5 : Value) (σ : Sg) : f_M_wedsBack_2 d x1 x2 x3 x4 x5 σ =
if x3 = ((-1 : Int32)) then (
rV σ)
else (
bnd x3 24 (
if (σ.1 156 (ix x3)) = x1 then (
bnd (σ.1 156 (ix x3)) 24 (let σ1 := sI σ 155 (ix (σ.1 156 (ix x3))) x3;
bnd x3 24 (let σ2 := sI σ1 155 (ix x3) (σ.1 156 (ix x3));
f_M_wedsBack_2 d x1 (nlg x2) ((-1)) (.int (σ.1 156 (ix x3))) (.int ((-1))) σ2)))
else (
bnd (σ.1 156 (ix x3)) 24 (
bnd (σ.1 156 (ix x3)) 24 (let σ3 := sI σ 155 (ix (σ.1 156 (ix x3))) x3;
bnd x3 24 (let σ4 := sI σ3 155 (ix x3) (σ.1 156 (ix x3));
f_M_wedsBack_2 d x1 (nlg x2) (σ.1 155 (ix (σ.1 156 (ix x3)))) (.int (σ.1 156 (ix x3))) (.int (σ.1 155 (ix (σ.1 156 (ix x3))))) σ4)))))) :=
  evAt_un [2] 31 (jmp cd_308 2) [.ref 102, .int x1, x2, .int x3, x4, x5] [] σ
theorem f_M_line_eq (d : Nat) (a1 : Int32) (a2 : Int32) (σ : Sg) : f_M_line (d + 1) a1 a2 σ =
cI (f_M_isPerson d a1 σ) fun v2 σ1 =>
if v2 = 0 then (
rI ((-1)) σ1)
else (
if a2 = 0 then (
cI (f_M_comeFrom d a1 1 σ1) fun v4 σ3 =>
cI (f_M_bits d v4 σ3) fun v6 σ5 =>
rI v6 σ5)
else if a2 = 1 then (
cI (f_M_comeFrom d a1 0 σ1) fun v8 σ7 =>
cI (f_M_bits d v8 σ7) fun v10 σ9 =>
rI v10 σ9)
else if a2 = 2 then (
cI (f_M_generationOf d a1 σ1) fun v12 σ11 =>
rI v12 σ11)
else (
rI ((-1)) σ1)) :=
  evAt_un [] 14 cd_309 [.ref 102, .int a1, .int a2] [] σ
theorem f_M_comeFrom_eq (d : Nat) (a1 : Int32) (a2 : Int32) (σ : Sg) : f_M_comeFrom (d + 1) a1 a2 σ =
f_M_comeFrom_5 d a1 a2 0 ((-1)) .null σ :=
  evAt_un [5, 17] 6 cd_310 [.ref 102, .int a1, .int a2, .null, .null, .null] [] σ
theorem f_M_comeFrom_5_eq (d : Nat) (x1 : Int32) (x2 : Int32) (x3 : Int32) (x4 : Int32) (x5 : Value) (σ : Sg) : f_M_comeFrom_5 d x1 x2 x3 x4 x5 σ =
if x3 = x4 then (
rI x3 σ)
else (
f_M_comeFrom_17 d x1 x2 x3 x3 0 σ) :=
  evAt_un [5, 17] 9 (jmp cd_310 5) [.ref 102, .int x1, .int x2, .int x3, .int x4, x5] [] σ
theorem f_M_comeFrom_17_eq (d : Nat) (x1 : Int32) (x2 : Int32) (x3 : Int32) (x4 : Int32) (x5 : Int32) (σ : Sg) : f_M_comeFrom_17 d x1 x2 x3 x4 x5 σ =
if x5 < (σ.1 102 69) then (
if x5 = x1 then (
if x2 = 0 then (
bnd x5 24 (
cI (f_M_bit d (σ.1 144 (ix x5)) σ) fun v2 σ1 =>
bnd x5 24 (
cI (f_M_bit d (σ1.1 145 (ix x5)) σ1) fun v4 σ3 =>
f_M_comeFrom_17 d x1 x2 (x3 ||| (v2 ||| v4)) x4 (x5 + 1) σ3)))
else (
cI (f_M_childrenOf d x5 σ) fun v6 σ5 =>
f_M_comeFrom_17 d x1 x2 (x3 ||| v6) x4 (x5 + 1) σ5))
else (
cI (f_M_has d x4 x5 σ) fun v8 σ7 =>
if v8 = 0 then (
f_M_comeFrom_17 d x1 x2 x3 x4 (x5 + 1) σ7)
else (
if x2 = 0 then (
bnd x5 24 (
cI (f_M_bit d (σ7.1 144 (ix x5)) σ7) fun v10 σ9 =>
bnd x5 24 (
cI (f_M_bit d (σ9.1 145 (ix x5)) σ9) fun v12 σ11 =>
f_M_comeFrom_17 d x1 x2 (x3 ||| (v10 ||| v12)) x4 (x5 + 1) σ11)))
else (
cI (f_M_childrenOf d x5 σ7) fun v14 σ13 =>
f_M_comeFrom_17 d x1 x2 (x3 ||| v14) x4 (x5 + 1) σ13))))
else (
f_M_comeFrom_5 d x1 x2 x3 x4 (.int x5) σ) :=
  evAt_un [5, 17] 31 (jmp cd_310 17) [.ref 102, .int x1, .int x2, .int x3, .int x4, .int x5] [] σ
theorem f_M_generationOf_eq (d : Nat) (a1 : Int32) (σ : Sg) : f_M_generationOf (d + 1) a1 σ =
f_M_generationOf_2 d a1 0 .null σ :=
  evAt_un [2] 4 cd_311 [.ref 102, .int a1, .null, .null] [] σ
set_option maxRecDepth 20000 in
theorem f_M_generationOf_2_eq (d : Nat) (x1 : Int32) (x2 : Int32) (x3 : Value) (σ : Sg) : f_M_generationOf_2 d x1 x2 x3 σ =
if x1 < x2 then (
bnd x1 24 (
rI (σ.1 153 (ix x1)) σ))
else (
bnd x2 24 (
if (σ.1 144 (ix x2)) = ((-1 : Int32)) then (
bnd x2 24 (
if (σ.1 145 (ix x2)) = ((-1 : Int32)) then (
bnd x2 24 (let σ1 := sI σ 153 (ix x2) 0;
f_M_generationOf_2 d x1 (x2 + 1) (.int 0) σ1))
else (
bnd x2 24 (
bnd (σ.1 145 (ix x2)) 24 (
cI (f_M_max d 0 ((σ.1 153 (ix (σ.1 145 (ix x2)))) + 1) σ) fun v3 σ2 =>
bnd x2 24 (let σ4 := sI σ2 153 (ix x2) v3;
f_M_generationOf_2 d x1 (x2 + 1) (.int v3) σ4))))))
else (
bnd x2 24 (
bnd (σ.1 144 (ix x2)) 24 (
cI (f_M_max d 0 ((σ.1 153 (ix (σ.1 144 (ix x2)))) + 1) σ) fun v6 σ5 =>
bnd x2 24 (
if (σ5.1 145 (ix x2)) = ((-1 : Int32)) then (
bnd x2 24 (let σ7 := sI σ5 153 (ix x2) v6;
f_M_generationOf_2 d x1 (x2 + 1) (.int v6) σ7))
else (
bnd x2 24 (
bnd (σ5.1 145 (ix x2)) 24 (
cI (f_M_max d v6 ((σ5.1 153 (ix (σ5.1 145 (ix x2)))) + 1) σ5) fun v9 σ8 =>
bnd x2 24 (let σ10 := sI σ8 153 (ix x2) v9;
f_M_generationOf_2 d x1 (x2 + 1) (.int v9) σ10)))))))))) :=
  evAt_un [2] 50 (jmp cd_311 2) [.ref 102, .int x1, .int x2, x3] [] σ
theorem f_M_max_eq (d : Nat) (a0 : Int32) (a1 : Int32) (σ : Sg) : f_M_max (d + 1) a0 a1 σ =
if a1 < a0 then (
rI a0 σ)
else (
rI a1 σ) :=
  evAt_un [] 8 cd_312 [.int a0, .int a1] [] σ
theorem f_M_years_eq (d : Nat) (a1 : Int32) (σ : Sg) : f_M_years (d + 1) a1 σ =
cI (f_M_in d a1 1 100 σ) fun v2 σ1 =>
if v2 = 0 then (
rI ((-1)) σ1)
else (
cV (f_M_yearsGo d a1 σ1) fun σ3 =>
rI (σ3.1 102 79) σ3) :=
  evAt_un [] 13 cd_313 [.ref 102, .int a1] [] σ
theorem f_M_yearsGo_eq (d : Nat) (a1 : Int32) (σ : Sg) : f_M_yearsGo (d + 1) a1 σ =
let σ1 := sI σ 102 79 0;
let σ2 := sI σ1 102 80 0;
let σ3 := sI σ2 102 81 0;
f_M_yearsGo_17 d a1 0 σ3 :=
  evAt_un [17] 13 cd_314 [.ref 102, .int a1, .null] [] σ
theorem f_M_yearsGo_17_eq (d : Nat) (x1 : Int32) (x2 : Int32) (σ : Sg) : f_M_yearsGo_17 d x1 x2 σ =
if x2 < x1 then (
bnd 18 20 (
if (σ.1 103 (ix 18)) < 9999 then (
cV (f_M_yearGoes d σ) fun σ1 =>
f_M_yearsGo_17 d x1 (x2 + 1) σ1)
else (
rV σ)))
else (
rV σ) :=
  evAt_un [17] 15 (jmp cd_314 17) [.ref 102, .int x1, .int x2] [] σ
theorem f_M_yearGoes_eq (d : Nat) (σ : Sg) : f_M_yearGoes (d + 1) σ =
f_M_yearGoes_2 d 0 σ :=
  evAt_un [2, 23, 44] 4 cd_315 [.ref 102, .null] [] σ
theorem f_M_yearGoes_2_eq (d : Nat) (x1 : Int32) (σ : Sg) : f_M_yearGoes_2 d x1 σ =
if x1 < (σ.1 102 5) then (
cV (f_M_weds d x1 σ) fun σ1 =>
f_M_yearGoes_2 d (x1 + 1) σ1)
else (
f_M_yearGoes_23 d 0 σ) :=
  evAt_un [2, 23, 44] 11 (jmp cd_315 2) [.ref 102, .int x1] [] σ
theorem f_M_yearGoes_23_eq (d : Nat) (x1 : Int32) (σ : Sg) : f_M_yearGoes_23 d x1 σ =
if x1 < (σ.1 102 5) then (
cV (f_M_bears d x1 σ) fun σ1 =>
f_M_yearGoes_23 d (x1 + 1) σ1)
else (
f_M_yearGoes_44 d 0 σ) :=
  evAt_un [2, 23, 44] 11 (jmp cd_315 23) [.ref 102, .int x1] [] σ
theorem f_M_yearGoes_44_eq (d : Nat) (x1 : Int32) (σ : Sg) : f_M_yearGoes_44 d x1 σ =
if x1 < (σ.1 102 5) then (
cV (f_M_dies d x1 σ) fun σ1 =>
f_M_yearGoes_44 d (x1 + 1) σ1)
else (
bnd 18 20 (
bnd 18 20 (let σ2 := sI σ 103 (ix 18) ((σ.1 103 (ix 18)) + 1);
rV σ2))) :=
  evAt_un [2, 23, 44] 17 (jmp cd_315 44) [.ref 102, .int x1] [] σ
set_option maxRecDepth 20000 in
theorem f_M_weds_eq (d : Nat) (a1 : Int32) (σ : Sg) : f_M_weds (d + 1) a1 σ =
cV (f_M_feels d a1 σ) fun σ1 =>
cI (f_M_holdsAny d 120 σ1) fun v3 σ2 =>
if v3 = 0 then (
bnd (0 + a1) 20 (
bnd a1 6 (
bnd (6 + (σ2.1 106 (ix a1))) 20 (
cI (f_M_min d (σ2.1 103 (ix (0 + a1))) (σ2.1 103 (ix (6 + (σ2.1 106 (ix a1))))) σ2) fun v5 σ4 =>
cI (f_M_byLaw d 119 100 50 σ4) fun v7 σ6 =>
dvI (v5 * v7) 100 fun v8 =>
bnd (12 + a1) 20 (
cI (f_M_min d v8 (9999 - (σ6.1 103 (ix (12 + a1)))) σ6) fun v10 σ9 =>
bnd (0 + a1) 20 (
bnd (0 + a1) 20 (let σ11 := sI σ9 103 (ix (0 + a1)) ((σ9.1 103 (ix (0 + a1))) - v10);
bnd a1 6 (
bnd a1 6 (
bnd (6 + (σ11.1 106 (ix a1))) 20 (
bnd (6 + (σ11.1 106 (ix a1))) 20 (let σ12 := sI σ11 103 (ix (6 + (σ11.1 106 (ix a1)))) ((σ11.1 103 (ix (6 + (σ11.1 106 (ix a1))))) - v10);
bnd (12 + a1) 20 (
bnd (12 + a1) 20 (let σ13 := sI σ12 103 (ix (12 + a1)) ((σ12.1 103 (ix (12 + a1))) + v10);
let σ14 := sI σ13 102 79 ((σ13.1 102 79) + v10);
rV σ14)))))))))))))
else (
rV σ2) :=
  evAt_un [] 100 cd_316 [.ref 102, .int a1, .null, .null] [] σ
set_option maxRecDepth 20000 in
theorem f_M_feels_eq (d : Nat) (a1 : Int32) (σ : Sg) : f_M_feels (d + 1) a1 σ =
cI (f_M_draws d σ) fun v2 σ1 =>
let σ3 := sI σ1 102 82 v2;
bnd 0 8 (let σ4 := sI σ3 121 (ix 0) a1;
bnd (0 + a1) 20 (
bnd 1 8 (let σ5 := sI σ4 121 (ix 1) (σ4.1 103 (ix (0 + a1)));
bnd a1 6 (
bnd (6 + (σ5.1 106 (ix a1))) 20 (
bnd 2 8 (let σ6 := sI σ5 121 (ix 2) (σ5.1 103 (ix (6 + (σ5.1 106 (ix a1)))));
bnd (12 + a1) 20 (
bnd 3 8 (let σ7 := sI σ6 121 (ix 3) (σ6.1 103 (ix (12 + a1)));
cI (f_M_allOfName d a1 σ7) fun v9 σ8 =>
bnd 4 8 (let σ10 := sI σ8 121 (ix 4) v9;
cI (f_M_allOfVillage d σ10) fun v12 σ11 =>
bnd 5 8 (let σ13 := sI σ11 121 (ix 5) v12;
bnd 18 20 (
rmI (σ13.1 103 (ix 18)) 100 fun v14 =>
bnd 6 8 (let σ15 := sI σ13 121 (ix 6) v14;
bnd 7 8 (let σ16 := sI σ15 121 (ix 7) (σ15.1 102 82);
rV σ16))))))))))))) :=
  evAt_un [] 74 cd_317 [.ref 102, .int a1] [] σ
theorem f_M_draws_eq (d : Nat) (σ : Sg) : f_M_draws (d + 1) σ =
bnd 19 20 (
rmI ((25173 * (σ.1 103 (ix 19))) + 13849) 65536 fun v1 =>
bnd 19 20 (let σ2 := sI σ 103 (ix 19) v1;
bnd 19 20 (
rmI (σ2.1 103 (ix 19)) 10 fun v3 =>
rI v3 σ2))) :=
  evAt_un [] 23 cd_318 [.ref 102] [] σ
theorem f_M_allOfName_eq (d : Nat) (a1 : Int32) (σ : Sg) : f_M_allOfName (d + 1) a1 σ =
bnd (0 + a1) 20 (
bnd (6 + a1) 20 (
bnd (12 + a1) 20 (
cI (f_M_before d 106 a1 σ) fun v2 σ1 =>
bnd (12 + v2) 20 (
rI ((((σ.1 103 (ix (0 + a1))) + (σ.1 103 (ix (6 + a1)))) + (σ.1 103 (ix (12 + a1)))) + (σ1.1 103 (ix (12 + v2)))) σ1)))) :=
  evAt_un [] 33 cd_319 [.ref 102, .int a1] [] σ
theorem f_M_allOfVillage_eq (d : Nat) (σ : Sg) : f_M_allOfVillage (d + 1) σ =
f_M_allOfVillage_4 d 0 0 σ :=
  evAt_un [4] 6 cd_320 [.ref 102, .null, .null] [] σ
theorem f_M_allOfVillage_4_eq (d : Nat) (x1 : Int32) (x2 : Int32) (σ : Sg) : f_M_allOfVillage_4 d x1 x2 σ =
if x2 < (σ.1 102 5) then (
bnd (0 + x2) 20 (
bnd (6 + x2) 20 (
bnd (12 + x2) 20 (
f_M_allOfVillage_4 d (((x1 + (σ.1 103 (ix (0 + x2)))) + (σ.1 103 (ix (6 + x2)))) + (2 * (σ.1 103 (ix (12 + x2))))) (x2 + 1) σ))))
else (
rI x1 σ) :=
  evAt_un [4] 33 (jmp cd_320 4) [.ref 102, .int x1, .int x2] [] σ
theorem f_M_holdsAny_eq (d : Nat) (a1 : Int32) (σ : Sg) : f_M_holdsAny (d + 1) a1 σ =
f_M_holdsAny_2 d a1 0 σ :=
  evAt_un [2] 4 cd_321 [.ref 102, .int a1, .null] [] σ
theorem f_M_holdsAny_2_eq (d : Nat) (x1 : Int32) (x2 : Int32) (σ : Sg) : f_M_holdsAny_2 d x1 x2 σ =
if x2 < (σ.1 102 16) then (
bnd x2 16 (
if (σ.1 116 (ix x2)) = x1 then (
bnd x2 16 (
bnd x2 16 (
cI (f_M_reckonsTo d (σ.1 118 (ix x2)) (σ.1 119 (ix x2)) σ) fun v2 σ1 =>
if v2 = 1 then (
rZ 1 σ1)
else (
f_M_holdsAny_2 d x1 (x2 + 1) σ1))))
else (
f_M_holdsAny_2 d x1 (x2 + 1) σ)))
else (
rZ 0 σ) :=
  evAt_un [2] 26 (jmp cd_321 2) [.ref 102, .int x1, .int x2] [] σ
theorem f_M_reckonsTo_eq (d : Nat) (a1 : Int32) (a2 : Int32) (σ : Sg) : f_M_reckonsTo (d + 1) a1 a2 σ =
dvI a1 260 fun v1 =>
f_M_reckonsTo_16 d (.int a1) a2 0 (260 * v1) a1 .null .null σ :=
  evAt_un [16, 52, 203] 12 cd_322 [.ref 102, .int a1, .int a2, .null, .null, .null, .null, .null] [] σ
theorem f_M_reckonsTo_16_eq (d : Nat) (x1 : Value) (x2 : Int32) (x3 : Int32) (x4 : Int32) (x5 : Int32) (x6 : Value) (x7 : Value) (σ : Sg) : f_M_reckonsTo_16 d x1 x2 x3 x4 x5 x6 x7 σ =
if x5 < x2 then (
bnd x5 260 (
dvI (σ.1 115 (ix x5)) 1048576 fun v1 =>
bnd x5 260 (
rmI (σ.1 115 (ix x5)) 1048576 fun v2 =>
f_M_reckonsTo_52 d (x1) x2 x3 x4 (x5 + 1) v1 v2 σ)))
else (
bnd 0 260 (
rI (σ.1 120 (ix 0)) σ)) :=
  evAt_un [16, 52, 203] 23 (jmp cd_322 16) [.ref 102, x1, .int x2, .int x3, .int x4, .int x5, x6, x7] [] σ
theorem f_M_reckonsTo_52_eq (d : Nat) (x1 : Value) (x2 : Int32) (x3 : Int32) (x4 : Int32) (x5 : Int32) (x6 : Int32) (x7 : Int32) (σ : Sg) : f_M_reckonsTo_52 d x1 x2 x3 x4 x5 x6 x7 σ =
if x6 = 0 then (
if x6 = 0 then (
bnd x3 260 (let σ1 := sI σ 120 (ix x3) x7;
f_M_reckonsTo_16 d (x1) x2 (x3 + 1) x4 x5 (.int x6) (.int x7) σ1))
else (
bnd x7 8 (
bnd x3 260 (let σ2 := sI σ 120 (ix x3) (σ.1 121 (ix x7));
f_M_reckonsTo_16 d (x1) x2 (x3 + 1) x4 x5 (.int x6) (.int x7) σ2))))
else (
if x6 = 1 then (
if x6 = 0 then (
bnd x3 260 (let σ3 := sI σ 120 (ix x3) x7;
f_M_reckonsTo_16 d (x1) x2 (x3 + 1) x4 x5 (.int x6) (.int x7) σ3))
else (
bnd x7 8 (
bnd x3 260 (let σ4 := sI σ 120 (ix x3) (σ.1 121 (ix x7));
f_M_reckonsTo_16 d (x1) x2 (x3 + 1) x4 x5 (.int x6) (.int x7) σ4))))
else (
if x6 = 10 then (
bnd (x3 - 1) 260 (
bnd (x3 - 1) 260 (let σ5 := sI σ 120 (ix (x3 - 1)) (1 - (σ.1 120 (ix (x3 - 1))));
f_M_reckonsTo_16 d (x1) x2 x3 x4 x5 (.int x6) (.int x7) σ5)))
else (
if x6 = 11 then (
bnd (x3 - 1) 260 (
if x6 = 12 then (
if (σ.1 120 (ix (x3 - 1))) = 1 then (
f_M_reckonsTo_16 d (x1) x2 x3 x4 (x4 + x7) (.int x6) (.int x7) σ)
else (
f_M_reckonsTo_16 d (x1) x2 (x3 - 1) x4 x5 (.int x6) (.int x7) σ))
else (
if (σ.1 120 (ix (x3 - 1))) = 0 then (
f_M_reckonsTo_16 d (x1) x2 x3 x4 (x4 + x7) (.int x6) (.int x7) σ)
else (
f_M_reckonsTo_16 d (x1) x2 (x3 - 1) x4 x5 (.int x6) (.int x7) σ))))
else (
if x6 = 12 then (
bnd (x3 - 1) 260 (
if x6 = 12 then (
if (σ.1 120 (ix (x3 - 1))) = 1 then (
f_M_reckonsTo_16 d (x1) x2 x3 x4 (x4 + x7) (.int x6) (.int x7) σ)
else (
f_M_reckonsTo_16 d (x1) x2 (x3 - 1) x4 x5 (.int x6) (.int x7) σ))
else (
if (σ.1 120 (ix (x3 - 1))) = 0 then (
f_M_reckonsTo_16 d (x1) x2 x3 x4 (x4 + x7) (.int x6) (.int x7) σ)
else (
f_M_reckonsTo_16 d (x1) x2 (x3 - 1) x4 x5 (.int x6) (.int x7) σ))))
else (
if x6 = 5 then (
bnd (x3 - 1) 260 (
if (σ.1 120 (ix (x3 - 1))) = 0 then (
rI 0 σ)
else (
f_M_reckonsTo_203 d (x1) x2 (x3 - 1) x4 x5 x6 (.int x7) σ)))
else (
if x6 = 6 then (
bnd (x3 - 1) 260 (
if (σ.1 120 (ix (x3 - 1))) = 0 then (
rI 0 σ)
else (
f_M_reckonsTo_203 d (x1) x2 (x3 - 1) x4 x5 x6 (.int x7) σ)))
else (
f_M_reckonsTo_203 d (x1) x2 (x3 - 1) x4 x5 x6 (.int x7) σ))))))) :=
  evAt_un [16, 52, 203] 34 (jmp cd_322 52) [.ref 102, x1, .int x2, .int x3, .int x4, .int x5, .int x6, .int x7] [] σ
theorem f_M_reckonsTo_203_eq (d : Nat) (x1 : Value) (x2 : Int32) (x3 : Int32) (x4 : Int32) (x5 : Int32) (x6 : Int32) (x7 : Value) (σ : Sg) : f_M_reckonsTo_203 d x1 x2 x3 x4 x5 x6 x7 σ =
bnd (x3 - 1) 260 (
bnd x3 260 (
cI (f_M_reckon d x6 (σ.1 120 (ix (x3 - 1))) (σ.1 120 (ix x3)) σ) fun v2 σ1 =>
bnd (x3 - 1) 260 (let σ3 := sI σ1 120 (ix (x3 - 1)) v2;
f_M_reckonsTo_16 d (x1) x2 x3 x4 x5 (.int x6) (x7) σ3))) :=
  evAt_un [16, 52, 203] 21 (jmp cd_322 203) [.ref 102, x1, .int x2, .int x3, .int x4, .int x5, .int x6, x7] [] σ
theorem f_M_reckon_eq (d : Nat) (a0 : Int32) (a1 : Int32) (a2 : Int32) (σ : Sg) : f_M_reckon (d + 1) a0 a1 a2 σ =
if a0 = 2 then (
rI (a1 + a2) σ)
else if a0 = 3 then (
rI (a1 - a2) σ)
else if a0 = 4 then (
rI (a1 * a2) σ)
else if a0 = 5 then (
dvI a1 a2 fun v1 =>
rI v1 σ)
else if a0 = 6 then (
rmI a1 a2 fun v2 =>
rI v2 σ)
else if a0 = 7 then (
if a1 < a2 then (
rI 1 σ)
else (
rI 0 σ))
else if a0 = 8 then (
if a2 < a1 then (
rI 1 σ)
else (
rI 0 σ))
else (
if a1 = a2 then (
rI 1 σ)
else (
rI 0 σ)) :=
  evAt_un [] 10 cd_323 [.int a0, .int a1, .int a2] [] σ
theorem f_M_byLaw_eq (d : Nat) (a1 : Int32) (a2 : Int32) (a3 : Int32) (σ : Sg) : f_M_byLaw (d + 1) a1 a2 a3 σ =
f_M_byLaw_3 d a1 a2 a3 0 .null σ :=
  evAt_un [3] 4 cd_324 [.ref 102, .int a1, .int a2, .int a3, .null, .null] [] σ
set_option maxRecDepth 20000 in
theorem f_M_byLaw_3_eq (d : Nat) (x1 : Int32) (x2 : Int32) (x3 : Int32) (x4 : Int32) (x5 : Value) (σ : Sg) : f_M_byLaw_3 d x1 x2 x3 x4 x5 σ =
if x4 < (σ.1 102 16) then (
bnd x4 16 (
if (σ.1 116 (ix x4)) = x1 then (
bnd x4 16 (
bnd x4 16 (
cI (f_M_reckonsTo d (σ.1 118 (ix x4)) (σ.1 119 (ix x4)) σ) fun v2 σ1 =>
if v2 = 1 then (
bnd x4 16 (
bnd x4 16 (
cI (f_M_reckonsTo d (σ1.1 117 (ix x4)) (σ1.1 118 (ix x4)) σ1) fun v4 σ3 =>
if v4 < 0 then (
rI 0 σ3)
else (
if x2 < v4 then (
rI x2 σ3)
else (
rI v4 σ3)))))
else (
f_M_byLaw_3 d x1 x2 x3 (x4 + 1) (x5) σ1))))
else (
f_M_byLaw_3 d x1 x2 x3 (x4 + 1) (x5) σ)))
else (
rI x3 σ) :=
  evAt_un [3] 43 (jmp cd_324 3) [.ref 102, .int x1, .int x2, .int x3, .int x4, x5] [] σ
set_option maxRecDepth 20000 in
theorem f_M_bears_eq (d : Nat) (a1 : Int32) (σ : Sg) : f_M_bears (d + 1) a1 σ =
cV (f_M_feels d a1 σ) fun σ1 =>
bnd (12 + a1) 20 (
cI (f_M_byLaw d 98 300 40 σ1) fun v3 σ2 =>
dvI ((σ1.1 103 (ix (12 + a1))) * v3) 100 fun v4 =>
bnd a1 6 (
bnd (σ2.1 106 (ix a1)) 6 (
dvI v4 2 fun v5 =>
rmI v4 2 fun v6 =>
if v6 = 1 then (
rmI (σ2.1 102 82) 2 fun v7 =>
if v7 = 0 then (
bnd (0 + (σ2.1 107 (ix (σ2.1 106 (ix a1))))) 20 (
cI (f_M_min d 9999 ((σ2.1 103 (ix (0 + (σ2.1 107 (ix (σ2.1 106 (ix a1))))))) + (v5 + 1)) σ2) fun v9 σ8 =>
bnd (0 + (σ2.1 107 (ix (σ2.1 106 (ix a1))))) 20 (let σ10 := sI σ8 103 (ix (0 + (σ2.1 107 (ix (σ2.1 106 (ix a1)))))) v9;
bnd (6 + (σ2.1 107 (ix (σ2.1 106 (ix a1))))) 20 (
cI (f_M_min d 9999 (((σ10.1 103 (ix (6 + (σ2.1 107 (ix (σ2.1 106 (ix a1))))))) + v4) - (v5 + 1)) σ10) fun v12 σ11 =>
bnd (6 + (σ2.1 107 (ix (σ2.1 106 (ix a1))))) 20 (let σ13 := sI σ11 103 (ix (6 + (σ2.1 107 (ix (σ2.1 106 (ix a1)))))) v12;
let σ14 := sI σ13 102 80 ((σ13.1 102 80) + v4);
rV σ14)))))
else (
bnd (0 + (σ2.1 107 (ix (σ2.1 106 (ix a1))))) 20 (
cI (f_M_min d 9999 ((σ2.1 103 (ix (0 + (σ2.1 107 (ix (σ2.1 106 (ix a1))))))) + (v5 + 0)) σ2) fun v16 σ15 =>
bnd (0 + (σ2.1 107 (ix (σ2.1 106 (ix a1))))) 20 (let σ17 := sI σ15 103 (ix (0 + (σ2.1 107 (ix (σ2.1 106 (ix a1)))))) v16;
bnd (6 + (σ2.1 107 (ix (σ2.1 106 (ix a1))))) 20 (
cI (f_M_min d 9999 (((σ17.1 103 (ix (6 + (σ2.1 107 (ix (σ2.1 106 (ix a1))))))) + v4) - (v5 + 0)) σ17) fun v19 σ18 =>
bnd (6 + (σ2.1 107 (ix (σ2.1 106 (ix a1))))) 20 (let σ20 := sI σ18 103 (ix (6 + (σ2.1 107 (ix (σ2.1 106 (ix a1)))))) v19;
let σ21 := sI σ20 102 80 ((σ20.1 102 80) + v4);
rV σ21))))))
else (
bnd (0 + (σ2.1 107 (ix (σ2.1 106 (ix a1))))) 20 (
cI (f_M_min d 9999 ((σ2.1 103 (ix (0 + (σ2.1 107 (ix (σ2.1 106 (ix a1))))))) + (v5 + 0)) σ2) fun v23 σ22 =>
bnd (0 + (σ2.1 107 (ix (σ2.1 106 (ix a1))))) 20 (let σ24 := sI σ22 103 (ix (0 + (σ2.1 107 (ix (σ2.1 106 (ix a1)))))) v23;
bnd (6 + (σ2.1 107 (ix (σ2.1 106 (ix a1))))) 20 (
cI (f_M_min d 9999 (((σ24.1 103 (ix (6 + (σ2.1 107 (ix (σ2.1 106 (ix a1))))))) + v4) - (v5 + 0)) σ24) fun v26 σ25 =>
bnd (6 + (σ2.1 107 (ix (σ2.1 106 (ix a1))))) 20 (let σ27 := sI σ25 103 (ix (6 + (σ2.1 107 (ix (σ2.1 106 (ix a1)))))) v26;
let σ28 := sI σ27 102 80 ((σ27.1 102 80) + v4);
rV σ28)))))))) :=
  evAt_un [] 86 cd_325 [.ref 102, .int a1, .null, .null, .null] [] σ
set_option maxRecDepth 20000 in
theorem f_M_dies_eq (d : Nat) (a1 : Int32) (σ : Sg) : f_M_dies (d + 1) a1 σ =
cV (f_M_feels d a1 σ) fun σ1 =>
cI (f_M_byLaw d 100 100 2 σ1) fun v3 σ2 =>
bnd (0 + a1) 20 (
dvI ((σ2.1 103 (ix (0 + a1))) * v3) 100 fun v4 =>
bnd (6 + a1) 20 (
dvI ((σ2.1 103 (ix (6 + a1))) * v3) 100 fun v5 =>
bnd (12 + a1) 20 (
dvI ((σ2.1 103 (ix (12 + a1))) * v3) 100 fun v6 =>
bnd (0 + a1) 20 (
bnd (0 + a1) 20 (let σ7 := sI σ2 103 (ix (0 + a1)) ((σ2.1 103 (ix (0 + a1))) - v4);
bnd (6 + a1) 20 (
bnd (6 + a1) 20 (let σ8 := sI σ7 103 (ix (6 + a1)) ((σ7.1 103 (ix (6 + a1))) - v5);
bnd (12 + a1) 20 (
bnd (12 + a1) 20 (let σ9 := sI σ8 103 (ix (12 + a1)) ((σ8.1 103 (ix (12 + a1))) - v6);
let σ10 := sI σ9 102 81 ((((σ9.1 102 81) + v4) + v5) + (2 * v6));
rV σ10))))))))) :=
  evAt_un [] 99 cd_326 [.ref 102, .int a1, .null, .null, .null, .null] [] σ
set_option maxRecDepth 20000 in
theorem f_M_tried_eq (d : Nat) (a1 : Int32) (a2 : Int32) (σ : Sg) : f_M_tried (d + 1) a1 a2 σ =
cI (f_M_in d a1 1 100 σ) fun v2 σ1 =>
if v2 = 0 then (
rI ((-1)) σ1)
else (
cI (f_M_in d a2 0 3 σ1) fun v4 σ3 =>
if v4 = 0 then (
cI (f_M_isName d (a2 - 10) σ3) fun v6 σ5 =>
if v6 = 0 then (
cI (f_M_isName d (a2 - 20) σ5) fun v8 σ7 =>
if v8 = 0 then (
cI (f_M_isName d (a2 - 30) σ7) fun v10 σ9 =>
if v10 = 0 then (
rI ((-1)) σ9)
else (
cV (f_M_copies d 103 104 σ9) fun σ11 =>
cV (f_M_yearsGo d a1 σ11) fun σ12 =>
if a2 = 0 then (
cV (f_M_copies d 104 103 σ12) fun σ13 =>
rI (σ12.1 102 79) σ13)
else if a2 = 1 then (
cV (f_M_copies d 104 103 σ12) fun σ14 =>
rI (σ12.1 102 80) σ14)
else if a2 = 2 then (
cV (f_M_copies d 104 103 σ12) fun σ15 =>
rI (σ12.1 102 81) σ15)
else if a2 = 3 then (
cI (f_M_allOfVillage d σ12) fun v17 σ16 =>
cV (f_M_copies d 104 103 σ16) fun σ18 =>
rI v17 σ18)
else (
if a2 < 20 then (
bnd ((0 + a2) - 10) 20 (
cV (f_M_copies d 104 103 σ12) fun σ19 =>
rI (σ12.1 103 (ix ((0 + a2) - 10))) σ19))
else (
if a2 < 30 then (
bnd ((6 + a2) - 20) 20 (
cV (f_M_copies d 104 103 σ12) fun σ20 =>
rI (σ12.1 103 (ix ((6 + a2) - 20))) σ20))
else (
bnd ((12 + a2) - 30) 20 (
cV (f_M_copies d 104 103 σ12) fun σ21 =>
rI (σ12.1 103 (ix ((12 + a2) - 30))) σ21))))))
else (
cV (f_M_copies d 103 104 σ7) fun σ22 =>
cV (f_M_yearsGo d a1 σ22) fun σ23 =>
if a2 = 0 then (
cV (f_M_copies d 104 103 σ23) fun σ24 =>
rI (σ23.1 102 79) σ24)
else if a2 = 1 then (
cV (f_M_copies d 104 103 σ23) fun σ25 =>
rI (σ23.1 102 80) σ25)
else if a2 = 2 then (
cV (f_M_copies d 104 103 σ23) fun σ26 =>
rI (σ23.1 102 81) σ26)
else if a2 = 3 then (
cI (f_M_allOfVillage d σ23) fun v28 σ27 =>
cV (f_M_copies d 104 103 σ27) fun σ29 =>
rI v28 σ29)
else (
if a2 < 20 then (
bnd ((0 + a2) - 10) 20 (
cV (f_M_copies d 104 103 σ23) fun σ30 =>
rI (σ23.1 103 (ix ((0 + a2) - 10))) σ30))
else (
if a2 < 30 then (
bnd ((6 + a2) - 20) 20 (
cV (f_M_copies d 104 103 σ23) fun σ31 =>
rI (σ23.1 103 (ix ((6 + a2) - 20))) σ31))
else (
bnd ((12 + a2) - 30) 20 (
cV (f_M_copies d 104 103 σ23) fun σ32 =>
rI (σ23.1 103 (ix ((12 + a2) - 30))) σ32))))))
else (
cV (f_M_copies d 103 104 σ5) fun σ33 =>
cV (f_M_yearsGo d a1 σ33) fun σ34 =>
if a2 = 0 then (
cV (f_M_copies d 104 103 σ34) fun σ35 =>
rI (σ34.1 102 79) σ35)
else if a2 = 1 then (
cV (f_M_copies d 104 103 σ34) fun σ36 =>
rI (σ34.1 102 80) σ36)
else if a2 = 2 then (
cV (f_M_copies d 104 103 σ34) fun σ37 =>
rI (σ34.1 102 81) σ37)
else if a2 = 3 then (
cI (f_M_allOfVillage d σ34) fun v39 σ38 =>
cV (f_M_copies d 104 103 σ38) fun σ40 =>
rI v39 σ40)
else (
if a2 < 20 then (
bnd ((0 + a2) - 10) 20 (
cV (f_M_copies d 104 103 σ34) fun σ41 =>
rI (σ34.1 103 (ix ((0 + a2) - 10))) σ41))
else (
if a2 < 30 then (
bnd ((6 + a2) - 20) 20 (
cV (f_M_copies d 104 103 σ34) fun σ42 =>
rI (σ34.1 103 (ix ((6 + a2) - 20))) σ42))
else (
bnd ((12 + a2) - 30) 20 (
cV (f_M_copies d 104 103 σ34) fun σ43 =>
rI (σ34.1 103 (ix ((12 + a2) - 30))) σ43))))))
else (
cV (f_M_copies d 103 104 σ3) fun σ44 =>
cV (f_M_yearsGo d a1 σ44) fun σ45 =>
if a2 = 0 then (
cV (f_M_copies d 104 103 σ45) fun σ46 =>
rI (σ45.1 102 79) σ46)
else if a2 = 1 then (
cV (f_M_copies d 104 103 σ45) fun σ47 =>
rI (σ45.1 102 80) σ47)
else if a2 = 2 then (
cV (f_M_copies d 104 103 σ45) fun σ48 =>
rI (σ45.1 102 81) σ48)
else if a2 = 3 then (
cI (f_M_allOfVillage d σ45) fun v50 σ49 =>
cV (f_M_copies d 104 103 σ49) fun σ51 =>
rI v50 σ51)
else (
if a2 < 20 then (
bnd ((0 + a2) - 10) 20 (
cV (f_M_copies d 104 103 σ45) fun σ52 =>
rI (σ45.1 103 (ix ((0 + a2) - 10))) σ52))
else (
if a2 < 30 then (
bnd ((6 + a2) - 20) 20 (
cV (f_M_copies d 104 103 σ45) fun σ53 =>
rI (σ45.1 103 (ix ((6 + a2) - 20))) σ53))
else (
bnd ((12 + a2) - 30) 20 (
cV (f_M_copies d 104 103 σ45) fun σ54 =>
rI (σ45.1 103 (ix ((12 + a2) - 30))) σ54)))))) :=
  evAt_un [] 63 cd_327 [.ref 102, .int a1, .int a2, .null] [] σ
theorem f_M_copies_eq (d : Nat) (a0 : Nat) (a1 : Nat) (σ : Sg) : f_M_copies (d + 1) a0 a1 σ =
f_M_copies_2 d a0 a1 0 σ :=
  evAt_un [2] 4 cd_328 [.ref a0, .ref a1, .null] [] σ
theorem f_M_copies_2_eq (d : Nat) (x0 : Nat) (x1 : Nat) (x2 : Int32) (σ : Sg) : f_M_copies_2 d x0 x1 x2 σ =
if x2 < 20 then (
ldI x0 x2 σ fun v1 =>
stI x1 x2 v1 σ fun σ2 =>
f_M_copies_2 d x0 x1 (x2 + 1) σ2)
else (
rV σ) :=
  evAt_un [2] 13 (jmp cd_328 2) [.ref x0, .ref x1, .int x2] [] σ
theorem f_M_nameIs_eq (d : Nat) (a1 : Int32) (a2 : Int32) (σ : Sg) : f_M_nameIs (d + 1) a1 a2 σ =
cI (f_M_isName d a1 σ) fun v2 σ1 =>
if v2 = 0 then (
rI ((-1)) σ1)
else (
if a2 = 0 then (
bnd (0 + a1) 20 (
rI (σ1.1 103 (ix (0 + a1))) σ1))
else if a2 = 1 then (
bnd (6 + a1) 20 (
rI (σ1.1 103 (ix (6 + a1))) σ1))
else if a2 = 2 then (
bnd (12 + a1) 20 (
rI (σ1.1 103 (ix (12 + a1))) σ1))
else if a2 = 3 then (
cI (f_M_allOfName d a1 σ1) fun v4 σ3 =>
rI v4 σ3)
else if a2 = 4 then (
bnd a1 6 (
rI (σ1.1 106 (ix a1)) σ1))
else if a2 = 5 then (
bnd a1 6 (
rI (σ1.1 107 (ix a1)) σ1))
else (
rI ((-1)) σ1)) :=
  evAt_un [] 15 cd_329 [.ref 102, .int a1, .int a2] [] σ
theorem f_M_diesOut_eq (d : Nat) (a1 : Int32) (a2 : Int32) (σ : Sg) : f_M_diesOut (d + 1) a1 a2 σ =
cI (f_M_isName d a1 σ) fun v2 σ1 =>
if v2 = 0 then (
rI ((-1)) σ1)
else (
cI (f_M_in d a2 1 100 σ1) fun v4 σ3 =>
if v4 = 0 then (
rI ((-1)) σ3)
else (
cV (f_M_copies d 103 104 σ3) fun σ5 =>
f_M_diesOut_33 d a1 a2 0 .null σ5)) :=
  evAt_un [33] 18 cd_330 [.ref 102, .int a1, .int a2, .null, .null] [] σ
theorem f_M_diesOut_33_eq (d : Nat) (x1 : Int32) (x2 : Int32) (x3 : Int32) (x4 : Value) (σ : Sg) : f_M_diesOut_33 d x1 x2 x3 x4 σ =
cI (f_M_allOfName d x1 σ) fun v2 σ1 =>
if 0 < v2 then (
if x3 < x2 then (
bnd 18 20 (
if (σ1.1 103 (ix 18)) < 9999 then (
cV (f_M_yearGoes d σ1) fun σ3 =>
f_M_diesOut_33 d x1 x2 (x3 + 1) (x4) σ3)
else (
cI (f_M_allOfName d x1 σ1) fun v5 σ4 =>
if v5 = 0 then (
cV (f_M_copies d 104 103 σ4) fun σ6 =>
if (1 : Int32) = 0 then (
rI ((-2)) σ6)
else (
rI x3 σ6))
else (
cV (f_M_copies d 104 103 σ4) fun σ7 =>
if (0 : Int32) = 0 then (
rI ((-2)) σ7)
else (
rI x3 σ7)))))
else (
cI (f_M_allOfName d x1 σ1) fun v9 σ8 =>
if v9 = 0 then (
cV (f_M_copies d 104 103 σ8) fun σ10 =>
if (1 : Int32) = 0 then (
rI ((-2)) σ10)
else (
rI x3 σ10))
else (
cV (f_M_copies d 104 103 σ8) fun σ11 =>
if (0 : Int32) = 0 then (
rI ((-2)) σ11)
else (
rI x3 σ11))))
else (
cI (f_M_allOfName d x1 σ1) fun v13 σ12 =>
if v13 = 0 then (
cV (f_M_copies d 104 103 σ12) fun σ14 =>
if (1 : Int32) = 0 then (
rI ((-2)) σ14)
else (
rI x3 σ14))
else (
cV (f_M_copies d 104 103 σ12) fun σ15 =>
if (0 : Int32) = 0 then (
rI ((-2)) σ15)
else (
rI x3 σ15))) :=
  evAt_un [33] 32 (jmp cd_330 33) [.ref 102, .int x1, .int x2, .int x3, x4] [] σ
theorem f_M_left_eq (d : Nat) (a1 : Int32) (σ : Sg) : f_M_left (d + 1) a1 σ =
cI (f_M_in d a1 0 1 σ) fun v2 σ1 =>
if v2 = 0 then (
rI ((-100000)) σ1)
else (
if (σ1.1 102 5) = 0 then (
rI ((-100000)) σ1)
else (
f_M_left_24 d a1 0 1 σ1)) :=
  evAt_un [24] 14 cd_331 [.ref 102, .int a1, .null, .null] [] σ
theorem f_M_left_24_eq (d : Nat) (x1 : Int32) (x2 : Int32) (x3 : Int32) (σ : Sg) : f_M_left_24 d x1 x2 x3 σ =
if x3 < (σ.1 102 5) then (
cI (f_M_leftOf d x3 σ) fun v2 σ1 =>
cI (f_M_leftOf d x2 σ1) fun v4 σ3 =>
if v4 < v2 then (
f_M_left_24 d x1 x3 (x3 + 1) σ3)
else (
f_M_left_24 d x1 x2 (x3 + 1) σ3))
else (
if x1 = 0 then (
rI x2 σ)
else (
cI (f_M_leftOf d x2 σ) fun v6 σ5 =>
rI v6 σ5)) :=
  evAt_un [24] 17 (jmp cd_331 24) [.ref 102, .int x1, .int x2, .int x3] [] σ
theorem f_M_leftOf_eq (d : Nat) (a1 : Int32) (σ : Sg) : f_M_leftOf (d + 1) a1 σ =
bnd (0 + a1) 20 (
bnd a1 6 (
bnd (6 + (σ.1 106 (ix a1))) 20 (
rI ((σ.1 103 (ix (0 + a1))) - (σ.1 103 (ix (6 + (σ.1 106 (ix a1)))))) σ))) :=
  evAt_un [] 19 cd_332 [.ref 102, .int a1] [] σ
theorem f_M_seed_eq (d : Nat) (a1 : Int32) (σ : Sg) : f_M_seed (d + 1) a1 σ =
cI (f_M_in d a1 0 65535 σ) fun v2 σ1 =>
if v2 = 0 then (
rZ 0 σ1)
else (
bnd 19 20 (let σ3 := sI σ1 103 (ix 19) a1;
rZ 1 σ3)) :=
  evAt_un [] 14 cd_333 [.ref 102, .int a1] [] σ
theorem f_M_keep_eq (d : Nat) (σ : Sg) : f_M_keep (d + 1) σ =
if (1 : Int32) = 0 ∨ (1 : Int32) = 1 then (let σ1 := sI σ 102 83 1;
let σ2 := sI σ1 102 84 (σ1.1 102 5);
cV (f_M_copies d 103 105 σ2) fun σ3 =>
bnd 18 20 (
rI (σ3.1 103 (ix 18)) σ3))
else none :=
  evAt_un [] 19 cd_334 [.ref 102] [] σ
theorem f_M_undo_eq (d : Nat) (σ : Sg) : f_M_undo (d + 1) σ =
if (σ.1 102 83) = 0 then (
rZ 0 σ)
else (
cV (f_M_copies d 105 103 σ) fun σ1 =>
f_M_undo_22 d 0 σ1) :=
  evAt_un [22] 12 cd_335 [.ref 102, .null] [] σ
theorem f_M_undo_22_eq (d : Nat) (x1 : Int32) (σ : Sg) : f_M_undo_22 d x1 σ =
if x1 < 18 then (
rmI x1 6 fun v1 =>
cI (f_M_min d (σ.1 102 5) (σ.1 102 84) σ) fun v3 σ2 =>
if v1 < v3 then (
f_M_undo_22 d (x1 + 1) σ2)
else (
bnd x1 20 (let σ4 := sI σ2 103 (ix x1) 0;
f_M_undo_22 d (x1 + 1) σ4)))
else (
rZ 1 σ) :=
  evAt_un [22] 21 (jmp cd_335 22) [.ref 102, .int x1] [] σ
theorem f_M_check_eq (d : Nat) (a1 : Int32) (σ : Sg) : f_M_check (d + 1) a1 σ =
cI (f_M_in d a1 0 6 σ) fun v2 σ1 =>
if v2 = 0 then (
rI ((-2)) σ1)
else (
if (σ1.1 102 7) < a1 then (
rI ((-2)) σ1)
else (
let σ3 := sI σ1 102 7 0;
f_M_check_28 d a1 0 σ3)) :=
  evAt_un [28] 16 cd_336 [.ref 102, .int a1, .null] [] σ
theorem f_M_check_28_eq (d : Nat) (x1 : Int32) (x2 : Int32) (σ : Sg) : f_M_check_28 d x1 x2 σ =
if x2 < x1 then (
cI (f_M_octet d x2 σ) fun v2 σ1 =>
cI (f_M_isName d x2 σ1) fun v4 σ3 =>
if v4 = 0 then (
if v2 = 0 then (
f_M_check_28 d x1 (x2 + 1) σ3)
else (
rI x2 σ3))
else (
cI (f_M_allOfName d x2 σ3) fun v6 σ5 =>
rmI v6 256 fun v7 =>
if v2 = v7 then (
f_M_check_28 d x1 (x2 + 1) σ5)
else (
rI x2 σ5)))
else (
rI ((-1)) σ) :=
  evAt_un [28] 21 (jmp cd_336 28) [.ref 102, .int x1, .int x2] [] σ
theorem f_M_octet_eq (d : Nat) (a1 : Int32) (σ : Sg) : f_M_octet (d + 1) a1 σ =
bnd a1 260 (
rI ((σ.1 108 (ix a1)) &&& 255) σ) :=
  evAt_un [] 9 cd_337 [.ref 102, .int a1] [] σ
theorem f_M_count_eq (d : Nat) (a1 : Int32) (σ : Sg) : f_M_count (d + 1) a1 σ =
if a1 = 0 then (
bnd 18 20 (
rI (σ.1 103 (ix 18)) σ))
else if a1 = 1 then (
rI (σ.1 102 5) σ)
else if a1 = 2 then (
rI (σ.1 102 69) σ)
else if a1 = 3 then (
cI (f_M_ofSort d 0 σ) fun v2 σ1 =>
rI v2 σ1)
else if a1 = 4 then (
cI (f_M_wedSet d σ) fun v4 σ3 =>
rI v4 σ3)
else if a1 = 5 then (
rI (σ.1 102 16) σ)
else if a1 = 6 then (
rI (σ.1 102 7) σ)
else if a1 = 7 then (
bnd 19 20 (
rI (σ.1 103 (ix 19)) σ))
else if a1 = 8 then (
cI (f_M_allOfVillage d σ) fun v6 σ5 =>
rI v6 σ5)
else (
rI ((-1)) σ) :=
  evAt_un [] 9 cd_338 [.ref 102, .int a1] [] σ
theorem f_M_wedSet_eq (d : Nat) (σ : Sg) : f_M_wedSet (d + 1) σ =
f_M_wedSet_4 d 0 0 σ :=
  evAt_un [4] 6 cd_339 [.ref 102, .null, .null] [] σ
theorem f_M_wedSet_4_eq (d : Nat) (x1 : Int32) (x2 : Int32) (σ : Sg) : f_M_wedSet_4 d x1 x2 σ =
if x2 < (σ.1 102 69) then (
bnd x2 24 (
if (σ.1 146 (ix x2)) = ((-1 : Int32)) then (
f_M_wedSet_4 d x1 (x2 + 1) σ)
else (
f_M_wedSet_4 d (x1 ||| (1 <<< (x2 &&& 31))) (x2 + 1) σ)))
else (
rI x1 σ) :=
  evAt_un [4] 20 (jmp cd_339 4) [.ref 102, .int x1, .int x2] [] σ
