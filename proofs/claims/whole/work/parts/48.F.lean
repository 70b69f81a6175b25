theorem Desk_init_F (n : Nat) (x0 : Nat) (h : ax_Hp) : ax_F (n + 1) 0 [ax_A (some x0)] h = Desk_init_b (ax_F n) x0 h := rfl
theorem Row_init_F (n : Nat) (x0 : Nat) (x1 : Option Nat) (x2 : Int32) (h : ax_Hp) : ax_F (n + 1) 1 [ax_A (some x0), ax_A x1, ax_I x2] h = Row_init_b (ax_F n) x0 x1 x2 h := rfl
theorem Schema_init_F (n : Nat) (x0 : Nat) (x1 : Option Nat) (x2 : Option Nat) (x3 : Option Nat) (x4 : Option Nat) (h : ax_Hp) : ax_F (n + 1) 2 [ax_A (some x0), ax_A x1, ax_A x2, ax_A x3, ax_A x4] h = Schema_init_b (ax_F n) x0 x1 x2 x3 x4 h := rfl
theorem Subject_init_F (n : Nat) (x0 : Nat) (h : ax_Hp) : ax_F (n + 1) 3 [ax_A (some x0)] h = Subject_init_b (ax_F n) x0 h := rfl
theorem Desk_write_F (n : Nat) (x0 : Option Nat) (x1 : Int64) (h : ax_Hp) : ax_F (n + 1) 4 [ax_A x0, ax_L x1] h = Desk_write_b (ax_F n) x0 x1 h := rfl
theorem Desk_byteOf_F (n : Nat) (x0 : Int64) (x2 : Int32) (h : ax_Hp) : ax_F (n + 1) 5 [ax_L x0, ax_I x2] h = Desk_byteOf_b (ax_F n) x0 x2 h := rfl
theorem Desk_isCharacter_F (n : Nat) (x0 : Int32) (h : ax_Hp) : ax_F (n + 1) 6 [ax_I x0] h = Desk_isCharacter_b (ax_F n) x0 h := rfl
theorem Row_room_F (n : Nat) (x0 : Option Nat) (h : ax_Hp) : ax_F (n + 1) 7 [ax_A x0] h = Row_room_b (ax_F n) x0 h := rfl
theorem Row_add_F (n : Nat) (x0 : Option Nat) (x1 : Int32) (h : ax_Hp) : ax_F (n + 1) 8 [ax_A x0, ax_I x1] h = Row_add_b (ax_F n) x0 x1 h := rfl
theorem Desk_wipe_F (n : Nat) (x0 : Option Nat) (h : ax_Hp) : ax_F (n + 1) 9 [ax_A x0] h = Desk_wipe_b (ax_F n) x0 h := rfl
theorem Row_clear_F (n : Nat) (x0 : Option Nat) (h : ax_Hp) : ax_F (n + 1) 10 [ax_A x0] h = Row_clear_b (ax_F n) x0 h := rfl
theorem Desk_feed_F (n : Nat) (x0 : Option Nat) (x1 : Int64) (x3 : Int32) (h : ax_Hp) : ax_F (n + 1) 11 [ax_A x0, ax_L x1, ax_I x3] h = Desk_feed_b (ax_F n) x0 x1 x3 h := rfl
theorem Desk_drain_F (n : Nat) (x0 : Option Nat) (h : ax_Hp) : ax_F (n + 1) 12 [ax_A x0] h = Desk_drain_b (ax_F n) x0 h := rfl
theorem Desk_place_F (n : Nat) (x0 : Option Nat) (h : ax_Hp) : ax_F (n + 1) 13 [ax_A x0] h = Desk_place_b (ax_F n) x0 h := rfl
theorem Law_mode_F (n : Nat) (x0 : Option Nat) (x1 : Int32) (x2 : Int32) (h : ax_Hp) : ax_F (n + 1) 14 [ax_A x0, ax_I x1, ax_I x2] h = Law_mode_b (ax_F n) x0 x1 x2 h := rfl
theorem Desk_mode_F (n : Nat) (x0 : Option Nat) (x1 : Int32) (x2 : Int32) (h : ax_Hp) : ax_F (n + 1) 15 [ax_A x0, ax_I x1, ax_I x2] h = Desk_mode_b (ax_F n) x0 x1 x2 h := rfl
theorem Desk_subjectAt_F (n : Nat) (x0 : Option Nat) (x1 : Int32) (h : ax_Hp) : ax_F (n + 1) 16 [ax_A x0, ax_I x1] h = Desk_subjectAt_b (ax_F n) x0 x1 h := rfl
theorem Subject_setMode_F (n : Nat) (x0 : Option Nat) (x1 : Int32) (h : ax_Hp) : ax_F (n + 1) 17 [ax_A x0, ax_I x1] h = Subject_setMode_b (ax_F n) x0 x1 h := rfl
theorem Law_register_F (n : Nat) (x0 : Option Nat) (x1 : Int32) (x2 : Option Nat) (h : ax_Hp) : ax_F (n + 1) 18 [ax_A x0, ax_I x1, ax_A x2] h = Law_register_b (ax_F n) x0 x1 x2 h := rfl
theorem Desk_register_F (n : Nat) (x0 : Option Nat) (x1 : Int32) (h : ax_Hp) : ax_F (n + 1) 19 [ax_A x0, ax_I x1] h = Desk_register_b (ax_F n) x0 x1 h := rfl
theorem Cursor_init_F (n : Nat) (x0 : Nat) (x1 : Option Nat) (h : ax_Hp) : ax_F (n + 1) 20 [ax_A (some x0), ax_A x1] h = Cursor_init_b (ax_F n) x0 x1 h := rfl
theorem SchemaReader_init_F (n : Nat) (x0 : Nat) (x1 : Option Nat) (x2 : Option Nat) (h : ax_Hp) : ax_F (n + 1) 21 [ax_A (some x0), ax_A x1, ax_A x2] h = SchemaReader_init_b (ax_F n) x0 x1 x2 h := rfl
theorem ValueReader_init_F (n : Nat) (x0 : Nat) (x1 : Option Nat) (x2 : Option Nat) (x3 : Option Nat) (x4 : Int32) (h : ax_Hp) : ax_F (n + 1) 22 [ax_A (some x0), ax_A x1, ax_A x2, ax_A x3, ax_I x4] h = ValueReader_init_b (ax_F n) x0 x1 x2 x3 x4 h := rfl
theorem SchemaReader_readWhole_F (n : Nat) (x0 : Option Nat) (h : ax_Hp) : ax_F (n + 1) 23 [ax_A x0] h = SchemaReader_readWhole_b (ax_F n) x0 h := rfl
theorem Schema_clearMarks_F (n : Nat) (x0 : Option Nat) (h : ax_Hp) : ax_F (n + 1) 24 [ax_A x0] h = Schema_clearMarks_b (ax_F n) x0 h := rfl
theorem Arrays_fill_F (n : Nat) (x0 : Option Nat) (x1 : Int32) (h : ax_Hp) : ax_F (n + 1) 25 [ax_A x0, ax_I x1] h = Arrays_fill_b (ax_F n) x0 x1 h := rfl
theorem SchemaReader_readType_F (n : Nat) (x0 : Option Nat) (x1 : Int32) (h : ax_Hp) : ax_F (n + 1) 26 [ax_A x0, ax_I x1] h = SchemaReader_readType_b (ax_F n) x0 x1 h := rfl
theorem Cursor_at_F (n : Nat) (x0 : Option Nat) (h : ax_Hp) : ax_F (n + 1) 27 [ax_A x0] h = Cursor_at_b (ax_F n) x0 h := rfl
theorem SchemaReader_readTypeOfKind_F (n : Nat) (x0 : Option Nat) (x1 : Int32) (h : ax_Hp) : ax_F (n + 1) 28 [ax_A x0, ax_I x1] h = SchemaReader_readTypeOfKind_b (ax_F n) x0 x1 h := rfl
theorem Cursor_peek_F (n : Nat) (x0 : Option Nat) (h : ax_Hp) : ax_F (n + 1) 29 [ax_A x0] h = Cursor_peek_b (ax_F n) x0 h := rfl
theorem Cursor_take_F (n : Nat) (x0 : Option Nat) (x1 : Int32) (h : ax_Hp) : ax_F (n + 1) 30 [ax_A x0, ax_I x1] h = Cursor_take_b (ax_F n) x0 x1 h := rfl
theorem SchemaReader_readSymbols_F (n : Nat) (x0 : Option Nat) (h : ax_Hp) : ax_F (n + 1) 31 [ax_A x0] h = SchemaReader_readSymbols_b (ax_F n) x0 h := rfl
theorem Desk_smallLetterBit_F (n : Nat) (x0 : Int32) (h : ax_Hp) : ax_F (n + 1) 32 [ax_I x0] h = Desk_smallLetterBit_b (ax_F n) x0 h := rfl
theorem Desk_isSmallLetter_F (n : Nat) (x0 : Int32) (h : ax_Hp) : ax_F (n + 1) 33 [ax_I x0] h = Desk_isSmallLetter_b (ax_F n) x0 h := rfl
theorem Cursor_step_F (n : Nat) (x0 : Option Nat) (h : ax_Hp) : ax_F (n + 1) 34 [ax_A x0] h = Cursor_step_b (ax_F n) x0 h := rfl
theorem SchemaReader_readSymbolDefault_F (n : Nat) (x0 : Option Nat) (x1 : Int32) (h : ax_Hp) : ax_F (n + 1) 35 [ax_A x0, ax_I x1] h = SchemaReader_readSymbolDefault_b (ax_F n) x0 x1 h := rfl
theorem Schema_markEnd_F (n : Nat) (x0 : Option Nat) (x1 : Int32) (x2 : Int32) (h : ax_Hp) : ax_F (n + 1) 36 [ax_A x0, ax_I x1, ax_I x2] h = Schema_markEnd_b (ax_F n) x0 x1 x2 h := rfl
theorem SchemaReader_readBranches_F (n : Nat) (x0 : Option Nat) (x1 : Int32) (h : ax_Hp) : ax_F (n + 1) 37 [ax_A x0, ax_I x1] h = SchemaReader_readBranches_b (ax_F n) x0 x1 h := rfl
theorem Desk_capitalBit_F (n : Nat) (x0 : Int32) (h : ax_Hp) : ax_F (n + 1) 38 [ax_I x0] h = Desk_capitalBit_b (ax_F n) x0 h := rfl
theorem Schema_markNext_F (n : Nat) (x0 : Option Nat) (x1 : Int32) (x2 : Int32) (h : ax_Hp) : ax_F (n + 1) 39 [ax_A x0, ax_I x1, ax_I x2] h = Schema_markNext_b (ax_F n) x0 x1 x2 h := rfl
theorem SchemaReader_readFields_F (n : Nat) (x0 : Option Nat) (x1 : Int32) (h : ax_Hp) : ax_F (n + 1) 40 [ax_A x0, ax_I x1] h = SchemaReader_readFields_b (ax_F n) x0 x1 h := rfl
theorem SchemaReader_readFieldBehindName_F (n : Nat) (x0 : Option Nat) (x1 : Int32) (h : ax_Hp) : ax_F (n + 1) 41 [ax_A x0, ax_I x1] h = SchemaReader_readFieldBehindName_b (ax_F n) x0 x1 h := rfl
theorem ValueReader_readLiteral_F (n : Nat) (x0 : Option Nat) (x1 : Int32) (h : ax_Hp) : ax_F (n + 1) 42 [ax_A x0, ax_I x1] h = ValueReader_readLiteral_b (ax_F n) x0 x1 h := rfl
theorem ValueReader_readPart_F (n : Nat) (x0 : Option Nat) (x1 : Int32) (x2 : Int32) (h : ax_Hp) : ax_F (n + 1) 43 [ax_A x0, ax_I x1, ax_I x2] h = ValueReader_readPart_b (ax_F n) x0 x1 x2 h := rfl
theorem Schema_kind_F (n : Nat) (x0 : Option Nat) (x1 : Int32) (h : ax_Hp) : ax_F (n + 1) 44 [ax_A x0, ax_I x1] h = Schema_kind_b (ax_F n) x0 x1 h := rfl
theorem Row_at_F (n : Nat) (x0 : Option Nat) (x1 : Int32) (h : ax_Hp) : ax_F (n + 1) 45 [ax_A x0, ax_I x1] h = Row_at_b (ax_F n) x0 x1 h := rfl
theorem ValueReader_readBoolean_F (n : Nat) (x0 : Option Nat) (h : ax_Hp) : ax_F (n + 1) 46 [ax_A x0] h = ValueReader_readBoolean_b (ax_F n) x0 h := rfl
theorem ValueReader_readNumber_F (n : Nat) (x0 : Option Nat) (x1 : Int64) (h : ax_Hp) : ax_F (n + 1) 47 [ax_A x0, ax_L x1] h = ValueReader_readNumber_b (ax_F n) x0 x1 h := rfl
theorem ValueReader_addNumber_F (n : Nat) (x0 : Option Nat) (x1 : Int64) (h : ax_Hp) : ax_F (n + 1) 48 [ax_A x0, ax_L x1] h = ValueReader_addNumber_b (ax_F n) x0 x1 h := rfl
theorem Desk_isDigit_F (n : Nat) (x0 : Int32) (h : ax_Hp) : ax_F (n + 1) 49 [ax_I x0] h = Desk_isDigit_b (ax_F n) x0 h := rfl
theorem ValueReader_readString_F (n : Nat) (x0 : Option Nat) (h : ax_Hp) : ax_F (n + 1) 50 [ax_A x0] h = ValueReader_readString_b (ax_F n) x0 h := rfl
theorem Row_size_F (n : Nat) (x0 : Option Nat) (h : ax_Hp) : ax_F (n + 1) 51 [ax_A x0] h = Row_size_b (ax_F n) x0 h := rfl
theorem Cursor_isAtEnd_F (n : Nat) (x0 : Option Nat) (h : ax_Hp) : ax_F (n + 1) 52 [ax_A x0] h = Cursor_isAtEnd_b (ax_F n) x0 h := rfl
theorem Row_set_F (n : Nat) (x0 : Option Nat) (x1 : Int32) (x2 : Int32) (h : ax_Hp) : ax_F (n + 1) 53 [ax_A x0, ax_I x1, ax_I x2] h = Row_set_b (ax_F n) x0 x1 x2 h := rfl
theorem ValueReader_readSymbol_F (n : Nat) (x0 : Option Nat) (x1 : Int32) (h : ax_Hp) : ax_F (n + 1) 54 [ax_A x0, ax_I x1] h = ValueReader_readSymbol_b (ax_F n) x0 x1 h := rfl
theorem Schema_symbolNumber_F (n : Nat) (x0 : Option Nat) (x1 : Int32) (x2 : Int32) (h : ax_Hp) : ax_F (n + 1) 55 [ax_A x0, ax_I x1, ax_I x2] h = Schema_symbolNumber_b (ax_F n) x0 x1 x2 h := rfl
theorem ValueReader_readElements_F (n : Nat) (x0 : Option Nat) (x1 : Int32) (x2 : Int32) (h : ax_Hp) : ax_F (n + 1) 56 [ax_A x0, ax_I x1, ax_I x2] h = ValueReader_readElements_b (ax_F n) x0 x1 x2 h := rfl
theorem Schema_element_F (n : Nat) (x0 : Option Nat) (x1 : Int32) (h : ax_Hp) : ax_F (n + 1) 57 [ax_A x0, ax_I x1] h = Schema_element_b (ax_F n) x0 x1 h := rfl
theorem ValueReader_readFirstBranch_F (n : Nat) (x0 : Option Nat) (x1 : Int32) (x2 : Int32) (h : ax_Hp) : ax_F (n + 1) 58 [ax_A x0, ax_I x1, ax_I x2] h = ValueReader_readFirstBranch_b (ax_F n) x0 x1 x2 h := rfl
theorem Schema_markUnion_F (n : Nat) (x0 : Option Nat) (x1 : Int32) (h : ax_Hp) : ax_F (n + 1) 59 [ax_A x0, ax_I x1] h = Schema_markUnion_b (ax_F n) x0 x1 h := rfl
theorem Schema_firstPart_F (n : Nat) (x0 : Option Nat) (x1 : Int32) (h : ax_Hp) : ax_F (n + 1) 60 [ax_A x0, ax_I x1] h = Schema_firstPart_b (ax_F n) x0 x1 h := rfl
theorem ValueReader_readBranch_F (n : Nat) (x0 : Option Nat) (x1 : Int32) (x2 : Int32) (h : ax_Hp) : ax_F (n + 1) 61 [ax_A x0, ax_I x1, ax_I x2] h = ValueReader_readBranch_b (ax_F n) x0 x1 x2 h := rfl
theorem Schema_branch_F (n : Nat) (x0 : Option Nat) (x1 : Int32) (x2 : Int32) (h : ax_Hp) : ax_F (n + 1) 62 [ax_A x0, ax_I x1, ax_I x2] h = Schema_branch_b (ax_F n) x0 x1 x2 h := rfl
theorem Schema_nextPart_F (n : Nat) (x0 : Option Nat) (x1 : Int32) (h : ax_Hp) : ax_F (n + 1) 63 [ax_A x0, ax_I x1] h = Schema_nextPart_b (ax_F n) x0 x1 h := rfl
theorem ValueReader_readFields_F (n : Nat) (x0 : Option Nat) (x1 : Int32) (x2 : Int32) (h : ax_Hp) : ax_F (n + 1) 64 [ax_A x0, ax_I x1, ax_I x2] h = ValueReader_readFields_b (ax_F n) x0 x1 x2 h := rfl
theorem Schema_fieldType_F (n : Nat) (x0 : Option Nat) (x1 : Int32) (h : ax_Hp) : ax_F (n + 1) 65 [ax_A x0, ax_I x1] h = Schema_fieldType_b (ax_F n) x0 x1 h := rfl
theorem Subject_numberOf_F (n : Nat) (x0 : Option Nat) (x1 : Option Nat) (h : ax_Hp) : ax_F (n + 1) 66 [ax_A x0, ax_A x1] h = Subject_numberOf_b (ax_F n) x0 x1 h := rfl
theorem Schema_sameTextAs_F (n : Nat) (x0 : Option Nat) (x1 : Option Nat) (h : ax_Hp) : ax_F (n + 1) 67 [ax_A x0, ax_A x1] h = Schema_sameTextAs_b (ax_F n) x0 x1 h := rfl
theorem Row_sameAs_F (n : Nat) (x0 : Option Nat) (x1 : Option Nat) (h : ax_Hp) : ax_F (n + 1) 68 [ax_A x0, ax_A x1] h = Row_sameAs_b (ax_F n) x0 x1 h := rfl
theorem Subject_admits_F (n : Nat) (x0 : Option Nat) (x1 : Option Nat) (h : ax_Hp) : ax_F (n + 1) 69 [ax_A x0, ax_A x1] h = Subject_admits_b (ax_F n) x0 x1 h := rfl
theorem Subject_getOn_F (n : Nat) (x0 : Option Nat) (x1 : Option Nat) (x2 : Option Nat) (h : ax_Hp) : ax_F (n + 1) 70 [ax_A x0, ax_A x1, ax_A x2] h = Subject_getOn_b (ax_F n) x0 x1 x2 h := rfl
theorem Compatibility_canRead_F (n : Nat) (x0 : Option Nat) (x1 : Option Nat) (h : ax_Hp) : ax_F (n + 1) 71 [ax_A x0, ax_A x1] h = Compatibility_canRead_b (ax_F n) x0 x1 h := rfl
theorem Compatibility_canReadType_F (n : Nat) (x0 : Option Nat) (x1 : Int32) (x2 : Option Nat) (x3 : Int32) (x4 : Int32) (h : ax_Hp) : ax_F (n + 1) 72 [ax_A x0, ax_I x1, ax_A x2, ax_I x3, ax_I x4] h = Compatibility_canReadType_b (ax_F n) x0 x1 x2 x3 x4 h := rfl
theorem Compatibility_canReadBranches_F (n : Nat) (x0 : Option Nat) (x1 : Int32) (x2 : Option Nat) (x3 : Int32) (x4 : Int32) (h : ax_Hp) : ax_F (n + 1) 73 [ax_A x0, ax_I x1, ax_A x2, ax_I x3, ax_I x4] h = Compatibility_canReadBranches_b (ax_F n) x0 x1 x2 x3 x4 h := rfl
theorem Compatibility_readingBranch_F (n : Nat) (x0 : Option Nat) (x1 : Int32) (x2 : Option Nat) (x3 : Int32) (x4 : Int32) (h : ax_Hp) : ax_F (n + 1) 74 [ax_A x0, ax_I x1, ax_A x2, ax_I x3, ax_I x4] h = Compatibility_readingBranch_b (ax_F n) x0 x1 x2 x3 x4 h := rfl
theorem Compatibility_canReadSymbols_F (n : Nat) (x0 : Option Nat) (x1 : Int32) (x2 : Option Nat) (x3 : Int32) (h : ax_Hp) : ax_F (n + 1) 75 [ax_A x0, ax_I x1, ax_A x2, ax_I x3] h = Compatibility_canReadSymbols_b (ax_F n) x0 x1 x2 x3 h := rfl
theorem Schema_symbolDefault_F (n : Nat) (x0 : Option Nat) (x1 : Int32) (h : ax_Hp) : ax_F (n + 1) 76 [ax_A x0, ax_I x1] h = Schema_symbolDefault_b (ax_F n) x0 x1 h := rfl
theorem Schema_end_F (n : Nat) (x0 : Option Nat) (x1 : Int32) (h : ax_Hp) : ax_F (n + 1) 77 [ax_A x0, ax_I x1] h = Schema_end_b (ax_F n) x0 x1 h := rfl
theorem Schema_symbolCount_F (n : Nat) (x0 : Option Nat) (x1 : Int32) (h : ax_Hp) : ax_F (n + 1) 78 [ax_A x0, ax_I x1] h = Schema_symbolCount_b (ax_F n) x0 x1 h := rfl
theorem Schema_symbol_F (n : Nat) (x0 : Option Nat) (x1 : Int32) (x2 : Int32) (h : ax_Hp) : ax_F (n + 1) 79 [ax_A x0, ax_I x1, ax_I x2] h = Schema_symbol_b (ax_F n) x0 x1 x2 h := rfl
theorem Compatibility_canReadFields_F (n : Nat) (x0 : Option Nat) (x1 : Int32) (x2 : Option Nat) (x3 : Int32) (x4 : Int32) (h : ax_Hp) : ax_F (n + 1) 80 [ax_A x0, ax_I x1, ax_A x2, ax_I x3, ax_I x4] h = Compatibility_canReadFields_b (ax_F n) x0 x1 x2 x3 x4 h := rfl
theorem Schema_at_F (n : Nat) (x0 : Option Nat) (x1 : Int32) (h : ax_Hp) : ax_F (n + 1) 81 [ax_A x0, ax_I x1] h = Schema_at_b (ax_F n) x0 x1 h := rfl
theorem Schema_fieldNamed_F (n : Nat) (x0 : Option Nat) (x1 : Int32) (x2 : Int32) (h : ax_Hp) : ax_F (n + 1) 82 [ax_A x0, ax_I x1, ax_I x2] h = Schema_fieldNamed_b (ax_F n) x0 x1 x2 h := rfl
theorem Schema_fieldDefault_F (n : Nat) (x0 : Option Nat) (x1 : Int32) (h : ax_Hp) : ax_F (n + 1) 83 [ax_A x0, ax_I x1] h = Schema_fieldDefault_b (ax_F n) x0 x1 h := rfl
theorem Schema_copy_F (n : Nat) (x0 : Option Nat) (h : ax_Hp) : ax_F (n + 1) 84 [ax_A x0] h = Schema_copy_b (ax_F n) x0 h := rfl
theorem Row_copy_F (n : Nat) (x0 : Option Nat) (h : ax_Hp) : ax_F (n + 1) 85 [ax_A x0] h = Row_copy_b (ax_F n) x0 h := rfl
theorem Subject_add_F (n : Nat) (x0 : Option Nat) (x1 : Option Nat) (h : ax_Hp) : ax_F (n + 1) 88 [ax_A x0, ax_A x1] h = Subject_add_b (ax_F n) x0 x1 h := rfl
theorem Law_versions_F (n : Nat) (x0 : Option Nat) (x1 : Int32) (x2 : Option Nat) (h : ax_Hp) : ax_F (n + 1) 89 [ax_A x0, ax_I x1, ax_A x2] h = Law_versions_b (ax_F n) x0 x1 x2 h := rfl
theorem Desk_versions_F (n : Nat) (x0 : Option Nat) (x1 : Int32) (h : ax_Hp) : ax_F (n + 1) 90 [ax_A x0, ax_I x1] h = Desk_versions_b (ax_F n) x0 x1 h := rfl
theorem Subject_count_F (n : Nat) (x0 : Option Nat) (h : ax_Hp) : ax_F (n + 1) 91 [ax_A x0] h = Subject_count_b (ax_F n) x0 h := rfl
theorem Law_reads_F (n : Nat) (x0 : Option Nat) (x1 : Int32) (x2 : Int32) (x3 : Int32) (x4 : Option Nat) (h : ax_Hp) : ax_F (n + 1) 92 [ax_A x0, ax_I x1, ax_I x2, ax_I x3, ax_A x4] h = Law_reads_b (ax_F n) x0 x1 x2 x3 x4 h := rfl
theorem Desk_reads_F (n : Nat) (x0 : Option Nat) (x1 : Int32) (x2 : Int32) (x3 : Int32) (h : ax_Hp) : ax_F (n + 1) 93 [ax_A x0, ax_I x1, ax_I x2, ax_I x3] h = Desk_reads_b (ax_F n) x0 x1 x2 x3 h := rfl
theorem Desk_versionAt_F (n : Nat) (x0 : Option Nat) (x1 : Int32) (x2 : Int32) (h : ax_Hp) : ax_F (n + 1) 94 [ax_A x0, ax_I x1, ax_I x2] h = Desk_versionAt_b (ax_F n) x0 x1 x2 h := rfl
theorem Subject_version_F (n : Nat) (x0 : Option Nat) (x1 : Int32) (h : ax_Hp) : ax_F (n + 1) 95 [ax_A x0, ax_I x1] h = Subject_version_b (ax_F n) x0 x1 h := rfl
theorem Law_print_F (n : Nat) (x0 : Option Nat) (x1 : Int32) (x2 : Int32) (x3 : Int32) (x4 : Option Nat) (h : ax_Hp) : ax_F (n + 1) 96 [ax_A x0, ax_I x1, ax_I x2, ax_I x3, ax_A x4] h = Law_print_b (ax_F n) x0 x1 x2 x3 x4 h := rfl
theorem Desk_print_F (n : Nat) (x0 : Option Nat) (x1 : Int32) (x2 : Int32) (x3 : Int32) (h : ax_Hp) : ax_F (n + 1) 97 [ax_A x0, ax_I x1, ax_I x2, ax_I x3] h = Desk_print_b (ax_F n) x0 x1 x2 x3 h := rfl
theorem Schema_copyBareTo_F (n : Nat) (x0 : Option Nat) (x1 : Option Nat) (h : ax_Hp) : ax_F (n + 1) 98 [ax_A x0, ax_A x1] h = Schema_copyBareTo_b (ax_F n) x0 x1 h := rfl
theorem Schema_copyTo_F (n : Nat) (x0 : Option Nat) (x1 : Option Nat) (h : ax_Hp) : ax_F (n + 1) 99 [ax_A x0, ax_A x1] h = Schema_copyTo_b (ax_F n) x0 x1 h := rfl
theorem Desk_showDraft_F (n : Nat) (x0 : Option Nat) (h : ax_Hp) : ax_F (n + 1) 100 [ax_A x0] h = Desk_showDraft_b (ax_F n) x0 h := rfl
theorem Law_fingerprint_F (n : Nat) (x0 : Option Nat) (x1 : Int32) (x2 : Int32) (x3 : Option Nat) (h : ax_Hp) : ax_F (n + 1) 101 [ax_A x0, ax_I x1, ax_I x2, ax_A x3] h = Law_fingerprint_b (ax_F n) x0 x1 x2 x3 h := rfl
theorem Desk_fingerprint_F (n : Nat) (x0 : Option Nat) (x1 : Int32) (x2 : Int32) (h : ax_Hp) : ax_F (n + 1) 102 [ax_A x0, ax_I x1, ax_I x2] h = Desk_fingerprint_b (ax_F n) x0 x1 x2 h := rfl
theorem Desk_mixed_F (n : Nat) (x0 : Int64) (h : ax_Hp) : ax_F (n + 1) 103 [ax_L x0] h = Desk_mixed_b (ax_F n) x0 h := rfl
theorem Law_encode_F (n : Nat) (x0 : Option Nat) (x1 : Int32) (x2 : Int32) (x3 : Option Nat) (h : ax_Hp) : ax_F (n + 1) 104 [ax_A x0, ax_I x1, ax_I x2, ax_A x3] h = Law_encode_b (ax_F n) x0 x1 x2 x3 h := rfl
theorem Desk_encode_F (n : Nat) (x0 : Option Nat) (x1 : Int32) (x2 : Int32) (h : ax_Hp) : ax_F (n + 1) 105 [ax_A x0, ax_I x1, ax_I x2] h = Desk_encode_b (ax_F n) x0 x1 x2 h := rfl
theorem ValueReader_readWhole_F (n : Nat) (x0 : Option Nat) (h : ax_Hp) : ax_F (n + 1) 106 [ax_A x0] h = ValueReader_readWhole_b (ax_F n) x0 h := rfl
theorem Law_decode_F (n : Nat) (x0 : Option Nat) (x1 : Int32) (x2 : Int32) (x3 : Int32) (x4 : Option Nat) (h : ax_Hp) : ax_F (n + 1) 107 [ax_A x0, ax_I x1, ax_I x2, ax_I x3, ax_A x4] h = Law_decode_b (ax_F n) x0 x1 x2 x3 x4 h := rfl
theorem Desk_decode_F (n : Nat) (x0 : Option Nat) (x1 : Int32) (x2 : Int32) (x3 : Int32) (h : ax_Hp) : ax_F (n + 1) 108 [ax_A x0, ax_I x1, ax_I x2, ax_I x3] h = Desk_decode_b (ax_F n) x0 x1 x2 x3 h := rfl
theorem StreamReader_init_F (n : Nat) (x0 : Nat) (x1 : Option Nat) (x2 : Option Nat) (h : ax_Hp) : ax_F (n + 1) 109 [ax_A (some x0), ax_A x1, ax_A x2] h = StreamReader_init_b (ax_F n) x0 x1 x2 h := rfl
theorem StreamReader_readWhole_F (n : Nat) (x0 : Option Nat) (h : ax_Hp) : ax_F (n + 1) 110 [ax_A x0] h = StreamReader_readWhole_b (ax_F n) x0 h := rfl
theorem StreamReader_skip_F (n : Nat) (x0 : Option Nat) (x1 : Int32) (x2 : Int32) (h : ax_Hp) : ax_F (n + 1) 111 [ax_A x0, ax_I x1, ax_I x2] h = StreamReader_skip_b (ax_F n) x0 x1 x2 h := rfl
theorem StreamReader_readBoolean_F (n : Nat) (x0 : Option Nat) (h : ax_Hp) : ax_F (n + 1) 112 [ax_A x0] h = StreamReader_readBoolean_b (ax_F n) x0 h := rfl
theorem StreamReader_readNumber_F (n : Nat) (x0 : Option Nat) (x1 : Int32) (h : ax_Hp) : ax_F (n + 1) 113 [ax_A x0, ax_I x1] h = StreamReader_readNumber_b (ax_F n) x0 x1 h := rfl
theorem StreamReader_skipString_F (n : Nat) (x0 : Option Nat) (h : ax_Hp) : ax_F (n + 1) 114 [ax_A x0] h = StreamReader_skipString_b (ax_F n) x0 h := rfl
theorem StreamReader_readCount_F (n : Nat) (x0 : Option Nat) (x1 : Int32) (h : ax_Hp) : ax_F (n + 1) 115 [ax_A x0, ax_I x1] h = StreamReader_readCount_b (ax_F n) x0 x1 h := rfl
theorem StreamReader_readStringCharacter_F (n : Nat) (x0 : Option Nat) (h : ax_Hp) : ax_F (n + 1) 116 [ax_A x0] h = StreamReader_readStringCharacter_b (ax_F n) x0 h := rfl
theorem StreamReader_skipElements_F (n : Nat) (x0 : Option Nat) (x1 : Int32) (x2 : Int32) (h : ax_Hp) : ax_F (n + 1) 117 [ax_A x0, ax_I x1, ax_I x2] h = StreamReader_skipElements_b (ax_F n) x0 x1 x2 h := rfl
theorem StreamReader_skipPart_F (n : Nat) (x0 : Option Nat) (x1 : Int32) (x2 : Int32) (x3 : Int32) (h : ax_Hp) : ax_F (n + 1) 118 [ax_A x0, ax_I x1, ax_I x2, ax_I x3] h = StreamReader_skipPart_b (ax_F n) x0 x1 x2 x3 h := rfl
theorem StreamReader_skipBranch_F (n : Nat) (x0 : Option Nat) (x1 : Int32) (x2 : Int32) (h : ax_Hp) : ax_F (n + 1) 119 [ax_A x0, ax_I x1, ax_I x2] h = StreamReader_skipBranch_b (ax_F n) x0 x1 x2 h := rfl
theorem StreamReader_readBranch_F (n : Nat) (x0 : Option Nat) (x1 : Int32) (h : ax_Hp) : ax_F (n + 1) 120 [ax_A x0, ax_I x1] h = StreamReader_readBranch_b (ax_F n) x0 x1 h := rfl
theorem Schema_branchCount_F (n : Nat) (x0 : Option Nat) (x1 : Int32) (h : ax_Hp) : ax_F (n + 1) 121 [ax_A x0, ax_I x1] h = Schema_branchCount_b (ax_F n) x0 x1 h := rfl
theorem StreamReader_skipFields_F (n : Nat) (x0 : Option Nat) (x1 : Int32) (x2 : Int32) (h : ax_Hp) : ax_F (n + 1) 122 [ax_A x0, ax_I x1, ax_I x2] h = StreamReader_skipFields_b (ax_F n) x0 x1 x2 h := rfl
theorem Resolver_init_F (n : Nat) (x0 : Nat) (x1 : Option Nat) (x2 : Option Nat) (x3 : Option Nat) (x4 : Option Nat) (x5 : Option Nat) (h : ax_Hp) : ax_F (n + 1) 123 [ax_A (some x0), ax_A x1, ax_A x2, ax_A x3, ax_A x4, ax_A x5] h = Resolver_init_b (ax_F n) x0 x1 x2 x3 x4 x5 h := rfl
theorem Resolver_resolveWhole_F (n : Nat) (x0 : Option Nat) (h : ax_Hp) : ax_F (n + 1) 124 [ax_A x0] h = Resolver_resolveWhole_b (ax_F n) x0 h := rfl
theorem Cursor_moveTo_F (n : Nat) (x0 : Option Nat) (x1 : Int32) (h : ax_Hp) : ax_F (n + 1) 125 [ax_A x0, ax_I x1] h = Cursor_moveTo_b (ax_F n) x0 x1 h := rfl
theorem Resolver_resolve_F (n : Nat) (x0 : Option Nat) (x1 : Int32) (x2 : Int32) (x3 : Int32) (h : ax_Hp) : ax_F (n + 1) 126 [ax_A x0, ax_I x1, ax_I x2, ax_I x3] h = Resolver_resolve_b (ax_F n) x0 x1 x2 x3 h := rfl
theorem Resolver_resolveAsBranch_F (n : Nat) (x0 : Option Nat) (x1 : Int32) (x2 : Int32) (x3 : Int32) (h : ax_Hp) : ax_F (n + 1) 127 [ax_A x0, ax_I x1, ax_I x2, ax_I x3] h = Resolver_resolveAsBranch_b (ax_F n) x0 x1 x2 x3 h := rfl
theorem Compatibility_firstReadingBranch_F (n : Nat) (x0 : Option Nat) (x1 : Int32) (x2 : Option Nat) (x3 : Int32) (h : ax_Hp) : ax_F (n + 1) 128 [ax_A x0, ax_I x1, ax_A x2, ax_I x3] h = Compatibility_firstReadingBranch_b (ax_F n) x0 x1 x2 x3 h := rfl
theorem StreamReader_number_F (n : Nat) (x0 : Option Nat) (h : ax_Hp) : ax_F (n + 1) 129 [ax_A x0] h = StreamReader_number_b (ax_F n) x0 h := rfl
theorem Resolver_addNumber_F (n : Nat) (x0 : Option Nat) (x1 : Int64) (h : ax_Hp) : ax_F (n + 1) 130 [ax_A x0, ax_L x1] h = Resolver_addNumber_b (ax_F n) x0 x1 h := rfl
theorem Resolver_countFigures_F (n : Nat) (x0 : Int64) (h : ax_Hp) : ax_F (n + 1) 131 [ax_L x0] h = Resolver_countFigures_b (ax_F n) x0 h := rfl
theorem Resolver_resolveString_F (n : Nat) (x0 : Option Nat) (h : ax_Hp) : ax_F (n + 1) 132 [ax_A x0] h = Resolver_resolveString_b (ax_F n) x0 h := rfl
theorem Resolver_resolveSymbol_F (n : Nat) (x0 : Option Nat) (x1 : Int32) (x2 : Int32) (h : ax_Hp) : ax_F (n + 1) 133 [ax_A x0, ax_I x1, ax_I x2] h = Resolver_resolveSymbol_b (ax_F n) x0 x1 x2 h := rfl
theorem Resolver_resolveElements_F (n : Nat) (x0 : Option Nat) (x1 : Int32) (x2 : Int32) (x3 : Int32) (h : ax_Hp) : ax_F (n + 1) 134 [ax_A x0, ax_I x1, ax_I x2, ax_I x3] h = Resolver_resolveElements_b (ax_F n) x0 x1 x2 x3 h := rfl
theorem Resolver_resolveFields_F (n : Nat) (x0 : Option Nat) (x1 : Int32) (x2 : Int32) (x3 : Int32) (h : ax_Hp) : ax_F (n + 1) 135 [ax_A x0, ax_I x1, ax_I x2, ax_I x3] h = Resolver_resolveFields_b (ax_F n) x0 x1 x2 x3 h := rfl
theorem Resolver_noteFieldStart_F (n : Nat) (x0 : Option Nat) (x1 : Int32) (h : ax_Hp) : ax_F (n + 1) 136 [ax_A x0, ax_I x1] h = Resolver_noteFieldStart_b (ax_F n) x0 x1 h := rfl
theorem StreamReader_skipField_F (n : Nat) (x0 : Option Nat) (x1 : Int32) (h : ax_Hp) : ax_F (n + 1) 137 [ax_A x0, ax_I x1] h = StreamReader_skipField_b (ax_F n) x0 x1 h := rfl
theorem Resolver_resolveField_F (n : Nat) (x0 : Option Nat) (x1 : Int32) (x2 : Int32) (x3 : Int32) (h : ax_Hp) : ax_F (n + 1) 138 [ax_A x0, ax_I x1, ax_I x2, ax_I x3] h = Resolver_resolveField_b (ax_F n) x0 x1 x2 x3 h := rfl
theorem Resolver_addDefault_F (n : Nat) (x0 : Option Nat) (x1 : Int32) (h : ax_Hp) : ax_F (n + 1) 139 [ax_A x0, ax_I x1] h = Resolver_addDefault_b (ax_F n) x0 x1 h := rfl
theorem Schema_isMarkedUnion_F (n : Nat) (x0 : Option Nat) (x1 : Int32) (h : ax_Hp) : ax_F (n + 1) 140 [ax_A x0, ax_I x1] h = Schema_isMarkedUnion_b (ax_F n) x0 x1 h := rfl
theorem Law_out_F (n : Nat) (x0 : Option Nat) (x1 : Int32) (x2 : Option Nat) (h : ax_Hp) : ax_F (n + 1) 141 [ax_A x0, ax_I x1, ax_A x2] h = Law_out_b (ax_F n) x0 x1 x2 h := rfl
theorem Desk_out_F (n : Nat) (x0 : Option Nat) (x1 : Int32) (h : ax_Hp) : ax_F (n + 1) 142 [ax_A x0, ax_I x1] h = Desk_out_b (ax_F n) x0 x1 h := rfl
theorem Model_init_F (n : Nat) (x0 : Nat) (h : ax_Hp) : ax_F (n + 1) 143 [ax_A (some x0)] h = Model_init_b (ax_F n) x0 h := rfl
theorem Model_thrown_F (n : Nat) (x0 : Option Nat) (h : ax_Hp) : ax_F (n + 1) 144 [ax_A x0] h = Model_thrown_b (ax_F n) x0 h := rfl
theorem Model_write_F (n : Nat) (x0 : Option Nat) (x1 : Int64) (h : ax_Hp) : ax_F (n + 1) 145 [ax_A x0, ax_L x1] h = Model_write_b (ax_F n) x0 x1 h := rfl
theorem Model_wipe_F (n : Nat) (x0 : Option Nat) (h : ax_Hp) : ax_F (n + 1) 146 [ax_A x0] h = Model_wipe_b (ax_F n) x0 h := rfl
theorem Model_feed_F (n : Nat) (x0 : Option Nat) (x1 : Int64) (x3 : Int32) (h : ax_Hp) : ax_F (n + 1) 147 [ax_A x0, ax_L x1, ax_I x3] h = Model_feed_b (ax_F n) x0 x1 x3 h := rfl
theorem Model_drain_F (n : Nat) (x0 : Option Nat) (h : ax_Hp) : ax_F (n + 1) 148 [ax_A x0] h = Model_drain_b (ax_F n) x0 h := rfl
theorem Model_mode_F (n : Nat) (x0 : Option Nat) (x1 : Int32) (x2 : Int32) (h : ax_Hp) : ax_F (n + 1) 149 [ax_A x0, ax_I x1, ax_I x2] h = Model_mode_b (ax_F n) x0 x1 x2 h := rfl
theorem Model_isSubject_F (n : Nat) (x0 : Int32) (h : ax_Hp) : ax_F (n + 1) 150 [ax_I x0] h = Model_isSubject_b (ax_F n) x0 h := rfl
theorem Model_register_F (n : Nat) (x0 : Option Nat) (x1 : Int32) (h : ax_Hp) : ax_F (n + 1) 151 [ax_A x0, ax_I x1] h = Model_register_b (ax_F n) x0 x1 h := rfl
theorem Model_loadTyped_F (n : Nat) (x0 : Option Nat) (x1 : Int32) (h : ax_Hp) : ax_F (n + 1) 152 [ax_A x0, ax_I x1] h = Model_loadTyped_b (ax_F n) x0 x1 h := rfl
theorem Model_readSchema_F (n : Nat) (x0 : Option Nat) (x1 : Int32) (h : ax_Hp) : ax_F (n + 1) 153 [ax_A x0, ax_I x1] h = Model_readSchema_b (ax_F n) x0 x1 h := rfl
theorem Model_readBehind_F (n : Nat) (x0 : Option Nat) (x1 : Int32) (x2 : Int32) (h : ax_Hp) : ax_F (n + 1) 154 [ax_A x0, ax_I x1, ax_I x2] h = Model_readBehind_b (ax_F n) x0 x1 x2 h := rfl
theorem Model_look_F (n : Nat) (x0 : Option Nat) (x1 : Int32) (x2 : Int32) (h : ax_Hp) : ax_F (n + 1) 155 [ax_A x0, ax_I x1, ax_I x2] h = Model_look_b (ax_F n) x0 x1 x2 h := rfl
theorem Model_readText_F (n : Nat) (x0 : Option Nat) (x1 : Int32) (x2 : Int32) (x3 : Int32) (x4 : Int32) (h : ax_Hp) : ax_F (n + 1) 156 [ax_A x0, ax_I x1, ax_I x2, ax_I x3, ax_I x4] h = Model_readText_b (ax_F n) x0 x1 x2 x3 x4 h := rfl
theorem Model_enter_F (n : Nat) (x0 : Option Nat) (x1 : Int32) (x2 : Int32) (h : ax_Hp) : ax_F (n + 1) 157 [ax_A x0, ax_I x1, ax_I x2] h = Model_enter_b (ax_F n) x0 x1 x2 h := rfl
theorem Model_see_F (n : Nat) (x0 : Option Nat) (x1 : Int32) (h : ax_Hp) : ax_F (n + 1) 158 [ax_A x0, ax_I x1] h = Model_see_b (ax_F n) x0 x1 h := rfl
theorem Model_sayCharacters_F (n : Nat) (x0 : Option Nat) (x1 : Int32) (x2 : Int32) (h : ax_Hp) : ax_F (n + 1) 159 [ax_A x0, ax_I x1, ax_I x2] h = Model_sayCharacters_b (ax_F n) x0 x1 x2 h := rfl
theorem Model_say_F (n : Nat) (x0 : Option Nat) (x1 : Int32) (h : ax_Hp) : ax_F (n + 1) 160 [ax_A x0, ax_I x1] h = Model_say_b (ax_F n) x0 x1 h := rfl
theorem Model_branch_F (n : Nat) (x0 : Option Nat) (x1 : Int32) (x2 : Int32) (h : ax_Hp) : ax_F (n + 1) 161 [ax_A x0, ax_I x1, ax_I x2] h = Model_branch_b (ax_F n) x0 x1 x2 h := rfl
theorem Model_readPlain_F (n : Nat) (x0 : Option Nat) (x1 : Int32) (x2 : Int32) (h : ax_Hp) : ax_F (n + 1) 162 [ax_A x0, ax_I x1, ax_I x2] h = Model_readPlain_b (ax_F n) x0 x1 x2 h := rfl
theorem Model_symbol_F (n : Nat) (x0 : Option Nat) (x1 : Int32) (x2 : Int32) (x3 : Int32) (h : ax_Hp) : ax_F (n + 1) 163 [ax_A x0, ax_I x1, ax_I x2, ax_I x3] h = Model_symbol_b (ax_F n) x0 x1 x2 x3 h := rfl
theorem Model_readRow_F (n : Nat) (x0 : Option Nat) (x1 : Int32) (h : ax_Hp) : ax_F (n + 1) 164 [ax_A x0, ax_I x1] h = Model_readRow_b (ax_F n) x0 x1 h := rfl
theorem Model_readNumber_F (n : Nat) (x0 : Option Nat) (x1 : Int32) (x2 : Int32) (h : ax_Hp) : ax_F (n + 1) 165 [ax_A x0, ax_I x1, ax_I x2] h = Model_readNumber_b (ax_F n) x0 x1 x2 h := rfl
theorem Model_sayBytes_F (n : Nat) (x0 : Option Nat) (x1 : Int32) (x2 : Int32) (h : ax_Hp) : ax_F (n + 1) 166 [ax_A x0, ax_I x1, ax_I x2] h = Model_sayBytes_b (ax_F n) x0 x1 x2 h := rfl
theorem Model_sayAmount_F (n : Nat) (x0 : Option Nat) (x1 : Int64) (h : ax_Hp) : ax_F (n + 1) 167 [ax_A x0, ax_L x1] h = Model_sayAmount_b (ax_F n) x0 x1 h := rfl
theorem Model_openList_F (n : Nat) (x0 : Option Nat) (x1 : Int32) (h : ax_Hp) : ax_F (n + 1) 168 [ax_A x0, ax_I x1] h = Model_openList_b (ax_F n) x0 x1 h := rfl
theorem Model_closeList_F (n : Nat) (x0 : Option Nat) (x1 : Int32) (h : ax_Hp) : ax_F (n + 1) 169 [ax_A x0, ax_I x1] h = Model_closeList_b (ax_F n) x0 x1 h := rfl
theorem Model_behind_F (n : Nat) (x0 : Option Nat) (x1 : Int32) (h : ax_Hp) : ax_F (n + 1) 170 [ax_A x0, ax_I x1] h = Model_behind_b (ax_F n) x0 x1 h := rfl
theorem Model_readLetter_F (n : Nat) (x0 : Option Nat) (x1 : Int32) (x2 : Int32) (x3 : Int32) (h : ax_Hp) : ax_F (n + 1) 171 [ax_A x0, ax_I x1, ax_I x2, ax_I x3] h = Model_readLetter_b (ax_F n) x0 x1 x2 x3 h := rfl
theorem Model_mayBegin_F (n : Nat) (x0 : Option Nat) (x1 : Int32) (h : ax_Hp) : ax_F (n + 1) 172 [ax_A x0, ax_I x1] h = Model_mayBegin_b (ax_F n) x0 x1 h := rfl
theorem Model_grow_F (n : Nat) (x0 : Option Nat) (x1 : Int32) (x2 : Int32) (x3 : Int32) (h : ax_Hp) : ax_F (n + 1) 173 [ax_A x0, ax_I x1, ax_I x2, ax_I x3] h = Model_grow_b (ax_F n) x0 x1 x2 x3 h := rfl
theorem Model_readSymbols_F (n : Nat) (x0 : Option Nat) (x1 : Int32) (x2 : Int32) (x3 : Int32) (h : ax_Hp) : ax_F (n + 1) 174 [ax_A x0, ax_I x1, ax_I x2, ax_I x3] h = Model_readSymbols_b (ax_F n) x0 x1 x2 x3 h := rfl
theorem Model_isSmall_F (n : Nat) (x0 : Int32) (h : ax_Hp) : ax_F (n + 1) 175 [ax_I x0] h = Model_isSmall_b (ax_F n) x0 h := rfl
theorem Model_begin_F (n : Nat) (x0 : Option Nat) (x1 : Int32) (h : ax_Hp) : ax_F (n + 1) 176 [ax_A x0, ax_I x1] h = Model_begin_b (ax_F n) x0 x1 h := rfl
theorem Model_readName_F (n : Nat) (x0 : Option Nat) (x1 : Int32) (x2 : Int32) (h : ax_Hp) : ax_F (n + 1) 177 [ax_A x0, ax_I x1, ax_I x2] h = Model_readName_b (ax_F n) x0 x1 x2 h := rfl
theorem Model_sameText_F (n : Nat) (x0 : Option Nat) (x1 : Int32) (h : ax_Hp) : ax_F (n + 1) 178 [ax_A x0, ax_I x1] h = Model_sameText_b (ax_F n) x0 x1 h := rfl
theorem Model_getsOn_F (n : Nat) (x0 : Option Nat) (x1 : Int32) (x2 : Int32) (h : ax_Hp) : ax_F (n + 1) 179 [ax_A x0, ax_I x1, ax_I x2] h = Model_getsOn_b (ax_F n) x0 x1 x2 h := rfl
theorem Model_load_F (n : Nat) (x0 : Option Nat) (x1 : Int32) (x2 : Int32) (h : ax_Hp) : ax_F (n + 1) 180 [ax_A x0, ax_I x1, ax_I x2] h = Model_load_b (ax_F n) x0 x1 x2 h := rfl
theorem Model_compare_F (n : Nat) (x0 : Option Nat) (h : ax_Hp) : ax_F (n + 1) 181 [ax_A x0] h = Model_compare_b (ax_F n) x0 h := rfl
theorem Model_readsNode_F (n : Nat) (x0 : Option Nat) (x1 : Int32) (x2 : Int32) (h : ax_Hp) : ax_F (n + 1) 182 [ax_A x0, ax_I x1, ax_I x2] h = Model_readsNode_b (ax_F n) x0 x1 x2 h := rfl
theorem Model_knows_F (n : Nat) (x0 : Option Nat) (x1 : Int32) (x2 : Int32) (h : ax_Hp) : ax_F (n + 1) 183 [ax_A x0, ax_I x1, ax_I x2] h = Model_knows_b (ax_F n) x0 x1 x2 h := rfl
theorem Model_fieldOf_F (n : Nat) (x0 : Option Nat) (x1 : Int32) (x2 : Int32) (h : ax_Hp) : ax_F (n + 1) 184 [ax_A x0, ax_I x1, ax_I x2] h = Model_fieldOf_b (ax_F n) x0 x1 x2 h := rfl
theorem Model_versions_F (n : Nat) (x0 : Option Nat) (x1 : Int32) (h : ax_Hp) : ax_F (n + 1) 185 [ax_A x0, ax_I x1] h = Model_versions_b (ax_F n) x0 x1 h := rfl
theorem Model_reads_F (n : Nat) (x0 : Option Nat) (x1 : Int32) (x2 : Int32) (x3 : Int32) (h : ax_Hp) : ax_F (n + 1) 186 [ax_A x0, ax_I x1, ax_I x2, ax_I x3] h = Model_reads_b (ax_F n) x0 x1 x2 x3 h := rfl
theorem Model_isVersion_F (n : Nat) (x0 : Option Nat) (x1 : Int32) (x2 : Int32) (h : ax_Hp) : ax_F (n + 1) 187 [ax_A x0, ax_I x1, ax_I x2] h = Model_isVersion_b (ax_F n) x0 x1 x2 h := rfl
theorem Model_print_F (n : Nat) (x0 : Option Nat) (x1 : Int32) (x2 : Int32) (x3 : Int32) (h : ax_Hp) : ax_F (n + 1) 188 [ax_A x0, ax_I x1, ax_I x2, ax_I x3] h = Model_print_b (ax_F n) x0 x1 x2 x3 h := rfl
theorem Model_draftText_F (n : Nat) (x0 : Option Nat) (x1 : Int32) (x2 : Int32) (h : ax_Hp) : ax_F (n + 1) 189 [ax_A x0, ax_I x1, ax_I x2] h = Model_draftText_b (ax_F n) x0 x1 x2 h := rfl
theorem Model_keep_F (n : Nat) (x0 : Option Nat) (h : ax_Hp) : ax_F (n + 1) 190 [ax_A x0] h = Model_keep_b (ax_F n) x0 h := rfl
theorem Model_fingerprint_F (n : Nat) (x0 : Option Nat) (x1 : Int32) (x2 : Int32) (h : ax_Hp) : ax_F (n + 1) 191 [ax_A x0, ax_I x1, ax_I x2] h = Model_fingerprint_b (ax_F n) x0 x1 x2 h := rfl
theorem Model_encode_F (n : Nat) (x0 : Option Nat) (x1 : Int32) (x2 : Int32) (h : ax_Hp) : ax_F (n + 1) 192 [ax_A x0, ax_I x1, ax_I x2] h = Model_encode_b (ax_F n) x0 x1 x2 h := rfl
theorem Model_decode_F (n : Nat) (x0 : Option Nat) (x1 : Int32) (x2 : Int32) (x3 : Int32) (h : ax_Hp) : ax_F (n + 1) 193 [ax_A x0, ax_I x1, ax_I x2, ax_I x3] h = Model_decode_b (ax_F n) x0 x1 x2 x3 h := rfl
theorem Model_scan_F (n : Nat) (x0 : Option Nat) (x1 : Int32) (x2 : Int32) (h : ax_Hp) : ax_F (n + 1) 194 [ax_A x0, ax_I x1, ax_I x2] h = Model_scan_b (ax_F n) x0 x1 x2 h := rfl
theorem Model_meet_F (n : Nat) (x0 : Option Nat) (x1 : Int32) (x2 : Int32) (h : ax_Hp) : ax_F (n + 1) 195 [ax_A x0, ax_I x1, ax_I x2] h = Model_meet_b (ax_F n) x0 x1 x2 h := rfl
theorem Model_takeHalf_F (n : Nat) (x0 : Option Nat) (x1 : Int32) (x2 : Int32) (h : ax_Hp) : ax_F (n + 1) 196 [ax_A x0, ax_I x1, ax_I x2] h = Model_takeHalf_b (ax_F n) x0 x1 x2 h := rfl
theorem Model_byteAt_F (n : Nat) (x0 : Option Nat) (x1 : Int32) (h : ax_Hp) : ax_F (n + 1) 197 [ax_A x0, ax_I x1] h = Model_byteAt_b (ax_F n) x0 x1 h := rfl
theorem Model_takePlain_F (n : Nat) (x0 : Option Nat) (x1 : Int32) (x2 : Int32) (h : ax_Hp) : ax_F (n + 1) 198 [ax_A x0, ax_I x1, ax_I x2] h = Model_takePlain_b (ax_F n) x0 x1 x2 h := rfl
theorem Model_takeString_F (n : Nat) (x0 : Option Nat) (x1 : Int32) (h : ax_Hp) : ax_F (n + 1) 199 [ax_A x0, ax_I x1] h = Model_takeString_b (ax_F n) x0 x1 h := rfl
theorem Model_takeNumber_F (n : Nat) (x0 : Option Nat) (x1 : Int32) (x2 : Int32) (h : ax_Hp) : ax_F (n + 1) 200 [ax_A x0, ax_I x1, ax_I x2] h = Model_takeNumber_b (ax_F n) x0 x1 x2 h := rfl
theorem Model_takeCount_F (n : Nat) (x0 : Option Nat) (x1 : Int32) (h : ax_Hp) : ax_F (n + 1) 201 [ax_A x0, ax_I x1] h = Model_takeCount_b (ax_F n) x0 x1 h := rfl
theorem Model_resolve_F (n : Nat) (x0 : Option Nat) (h : ax_Hp) : ax_F (n + 1) 202 [ax_A x0] h = Model_resolve_b (ax_F n) x0 h := rfl
theorem Model_tell_F (n : Nat) (x0 : Option Nat) (x1 : Int32) (x2 : Int32) (x3 : Int32) (h : ax_Hp) : ax_F (n + 1) 203 [ax_A x0, ax_I x1, ax_I x2, ax_I x3] h = Model_tell_b (ax_F n) x0 x1 x2 x3 h := rfl
theorem Model_tellPlain_F (n : Nat) (x0 : Option Nat) (x1 : Int32) (x2 : Int32) (x3 : Int32) (h : ax_Hp) : ax_F (n + 1) 204 [ax_A x0, ax_I x1, ax_I x2, ax_I x3] h = Model_tellPlain_b (ax_F n) x0 x1 x2 x3 h := rfl
theorem Model_sayNumber_F (n : Nat) (x0 : Option Nat) (x1 : Int64) (h : ax_Hp) : ax_F (n + 1) 205 [ax_A x0, ax_L x1] h = Model_sayNumber_b (ax_F n) x0 x1 h := rfl
theorem Model_tellElement_F (n : Nat) (x0 : Option Nat) (h : ax_Hp) : ax_F (n + 1) 206 [ax_A x0] h = Model_tellElement_b (ax_F n) x0 h := rfl
theorem Model_tellField_F (n : Nat) (x0 : Option Nat) (h : ax_Hp) : ax_F (n + 1) 207 [ax_A x0] h = Model_tellField_b (ax_F n) x0 h := rfl
theorem Model_place_F (n : Nat) (x0 : Option Nat) (h : ax_Hp) : ax_F (n + 1) 208 [ax_A x0] h = Model_place_b (ax_F n) x0 h := rfl
theorem Model_out_F (n : Nat) (x0 : Option Nat) (x1 : Int32) (h : ax_Hp) : ax_F (n + 1) 209 [ax_A x0, ax_I x1] h = Model_out_b (ax_F n) x0 x1 h := rfl
theorem Arrays_copyOf_F (n : Nat) (x0 : Option Nat) (x1 : Int32) (h : ax_Hp) : ax_F (n + 1) 86 [ax_A x0, ax_I x1] h = Arrays_copyOf_b (ax_F n) x0 x1 h := rfl
