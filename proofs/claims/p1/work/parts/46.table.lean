def Desk_init_f (call : ax_Cf) (av : List ax_T) (h : ax_Hp) : ax_O := match av with
  | [Sum.inr (Sum.inr (some x0))] => Desk_init_b call x0 h
  | _ => none
theorem Desk_init_ft {l : Launch} {G : ax_G} {d : Nat} {call : ax_Cf} (hcall : ax_Hc l G d call) (hd8 : 8 ≤ d) (hl : l.stackTraces = false) (av : List ax_T) (h : ax_Hp) (r : ax_Rs) (h1 : ax_Hp) (ho : Desk_init_f call av h = some (r, h1)) : ax_C l G (d + 1) (ax_mn 0) (ax_mc 0) av h r h1 := by
  unfold Desk_init_f at ho
  split at ho
  · exact Desk_init_t hcall _ h ho
  · cases ho
def Row_init_f (call : ax_Cf) (av : List ax_T) (h : ax_Hp) : ax_O := match av with
  | [Sum.inr (Sum.inr (some x0)), Sum.inr (Sum.inr x1), Sum.inl x2] => Row_init_b call x0 x1 x2 h
  | _ => none
theorem Row_init_ft {l : Launch} {G : ax_G} {d : Nat} {call : ax_Cf} (hcall : ax_Hc l G d call) (hd8 : 8 ≤ d) (hl : l.stackTraces = false) (av : List ax_T) (h : ax_Hp) (r : ax_Rs) (h1 : ax_Hp) (ho : Row_init_f call av h = some (r, h1)) : ax_C l G (d + 1) (ax_mn 1) (ax_mc 1) av h r h1 := by
  unfold Row_init_f at ho
  split at ho
  · exact Row_init_t hcall _ _ _ h ho
  · cases ho
def Schema_init_f (call : ax_Cf) (av : List ax_T) (h : ax_Hp) : ax_O := match av with
  | [Sum.inr (Sum.inr (some x0)), Sum.inr (Sum.inr x1), Sum.inr (Sum.inr x2), Sum.inr (Sum.inr x3), Sum.inr (Sum.inr x4)] => Schema_init_b call x0 x1 x2 x3 x4 h
  | _ => none
theorem Schema_init_ft {l : Launch} {G : ax_G} {d : Nat} {call : ax_Cf} (hcall : ax_Hc l G d call) (hd8 : 8 ≤ d) (hl : l.stackTraces = false) (av : List ax_T) (h : ax_Hp) (r : ax_Rs) (h1 : ax_Hp) (ho : Schema_init_f call av h = some (r, h1)) : ax_C l G (d + 1) (ax_mn 2) (ax_mc 2) av h r h1 := by
  unfold Schema_init_f at ho
  split at ho
  · exact Schema_init_t hcall _ _ _ _ _ h ho
  · cases ho
def Subject_init_f (call : ax_Cf) (av : List ax_T) (h : ax_Hp) : ax_O := match av with
  | [Sum.inr (Sum.inr (some x0))] => Subject_init_b call x0 h
  | _ => none
theorem Subject_init_ft {l : Launch} {G : ax_G} {d : Nat} {call : ax_Cf} (hcall : ax_Hc l G d call) (hd8 : 8 ≤ d) (hl : l.stackTraces = false) (av : List ax_T) (h : ax_Hp) (r : ax_Rs) (h1 : ax_Hp) (ho : Subject_init_f call av h = some (r, h1)) : ax_C l G (d + 1) (ax_mn 3) (ax_mc 3) av h r h1 := by
  unfold Subject_init_f at ho
  split at ho
  · exact Subject_init_t hcall _ h ho
  · cases ho
def Desk_write_f (call : ax_Cf) (av : List ax_T) (h : ax_Hp) : ax_O := match av with
  | [Sum.inr (Sum.inr x0), Sum.inr (Sum.inl x1)] => Desk_write_b call x0 x1 h
  | _ => none
theorem Desk_write_ft {l : Launch} {G : ax_G} {d : Nat} {call : ax_Cf} (hcall : ax_Hc l G d call) (hd8 : 8 ≤ d) (hl : l.stackTraces = false) (av : List ax_T) (h : ax_Hp) (r : ax_Rs) (h1 : ax_Hp) (ho : Desk_write_f call av h = some (r, h1)) : ax_C l G (d + 1) (ax_mn 4) (ax_mc 4) av h r h1 := by
  unfold Desk_write_f at ho
  split at ho
  · exact Desk_write_t hcall _ _ h ho
  · cases ho
def Desk_byteOf_f (call : ax_Cf) (av : List ax_T) (h : ax_Hp) : ax_O := match av with
  | [Sum.inr (Sum.inl x0), Sum.inl x2] => Desk_byteOf_b call x0 x2 h
  | _ => none
theorem Desk_byteOf_ft {l : Launch} {G : ax_G} {d : Nat} {call : ax_Cf} (hcall : ax_Hc l G d call) (hd8 : 8 ≤ d) (hl : l.stackTraces = false) (av : List ax_T) (h : ax_Hp) (r : ax_Rs) (h1 : ax_Hp) (ho : Desk_byteOf_f call av h = some (r, h1)) : ax_C l G (d + 1) (ax_mn 5) (ax_mc 5) av h r h1 := by
  unfold Desk_byteOf_f at ho
  split at ho
  · exact Desk_byteOf_t hcall _ _ h ho
  · cases ho
def Desk_isCharacter_f (call : ax_Cf) (av : List ax_T) (h : ax_Hp) : ax_O := match av with
  | [Sum.inl x0] => Desk_isCharacter_b call x0 h
  | _ => none
theorem Desk_isCharacter_ft {l : Launch} {G : ax_G} {d : Nat} {call : ax_Cf} (hcall : ax_Hc l G d call) (hd8 : 8 ≤ d) (hl : l.stackTraces = false) (av : List ax_T) (h : ax_Hp) (r : ax_Rs) (h1 : ax_Hp) (ho : Desk_isCharacter_f call av h = some (r, h1)) : ax_C l G (d + 1) (ax_mn 6) (ax_mc 6) av h r h1 := by
  unfold Desk_isCharacter_f at ho
  split at ho
  · exact Desk_isCharacter_t hcall _ h ho
  · cases ho
def Row_room_f (call : ax_Cf) (av : List ax_T) (h : ax_Hp) : ax_O := match av with
  | [Sum.inr (Sum.inr x0)] => Row_room_b call x0 h
  | _ => none
theorem Row_room_ft {l : Launch} {G : ax_G} {d : Nat} {call : ax_Cf} (hcall : ax_Hc l G d call) (hd8 : 8 ≤ d) (hl : l.stackTraces = false) (av : List ax_T) (h : ax_Hp) (r : ax_Rs) (h1 : ax_Hp) (ho : Row_room_f call av h = some (r, h1)) : ax_C l G (d + 1) (ax_mn 7) (ax_mc 7) av h r h1 := by
  unfold Row_room_f at ho
  split at ho
  · exact Row_room_t hcall _ h ho
  · cases ho
def Row_add_f (call : ax_Cf) (av : List ax_T) (h : ax_Hp) : ax_O := match av with
  | [Sum.inr (Sum.inr x0), Sum.inl x1] => Row_add_b call x0 x1 h
  | _ => none
theorem Row_add_ft {l : Launch} {G : ax_G} {d : Nat} {call : ax_Cf} (hcall : ax_Hc l G d call) (hd8 : 8 ≤ d) (hl : l.stackTraces = false) (av : List ax_T) (h : ax_Hp) (r : ax_Rs) (h1 : ax_Hp) (ho : Row_add_f call av h = some (r, h1)) : ax_C l G (d + 1) (ax_mn 8) (ax_mc 8) av h r h1 := by
  unfold Row_add_f at ho
  split at ho
  · exact Row_add_t hcall _ _ h ho
  · cases ho
def Desk_wipe_f (call : ax_Cf) (av : List ax_T) (h : ax_Hp) : ax_O := match av with
  | [Sum.inr (Sum.inr x0)] => Desk_wipe_b call x0 h
  | _ => none
theorem Desk_wipe_ft {l : Launch} {G : ax_G} {d : Nat} {call : ax_Cf} (hcall : ax_Hc l G d call) (hd8 : 8 ≤ d) (hl : l.stackTraces = false) (av : List ax_T) (h : ax_Hp) (r : ax_Rs) (h1 : ax_Hp) (ho : Desk_wipe_f call av h = some (r, h1)) : ax_C l G (d + 1) (ax_mn 9) (ax_mc 9) av h r h1 := by
  unfold Desk_wipe_f at ho
  split at ho
  · exact Desk_wipe_t hcall _ h ho
  · cases ho
def Row_clear_f (call : ax_Cf) (av : List ax_T) (h : ax_Hp) : ax_O := match av with
  | [Sum.inr (Sum.inr x0)] => Row_clear_b call x0 h
  | _ => none
theorem Row_clear_ft {l : Launch} {G : ax_G} {d : Nat} {call : ax_Cf} (hcall : ax_Hc l G d call) (hd8 : 8 ≤ d) (hl : l.stackTraces = false) (av : List ax_T) (h : ax_Hp) (r : ax_Rs) (h1 : ax_Hp) (ho : Row_clear_f call av h = some (r, h1)) : ax_C l G (d + 1) (ax_mn 10) (ax_mc 10) av h r h1 := by
  unfold Row_clear_f at ho
  split at ho
  · exact Row_clear_t hcall _ h ho
  · cases ho
def Desk_feed_f (call : ax_Cf) (av : List ax_T) (h : ax_Hp) : ax_O := match av with
  | [Sum.inr (Sum.inr x0), Sum.inr (Sum.inl x1), Sum.inl x3] => Desk_feed_b call x0 x1 x3 h
  | _ => none
theorem Desk_feed_ft {l : Launch} {G : ax_G} {d : Nat} {call : ax_Cf} (hcall : ax_Hc l G d call) (hd8 : 8 ≤ d) (hl : l.stackTraces = false) (av : List ax_T) (h : ax_Hp) (r : ax_Rs) (h1 : ax_Hp) (ho : Desk_feed_f call av h = some (r, h1)) : ax_C l G (d + 1) (ax_mn 11) (ax_mc 11) av h r h1 := by
  unfold Desk_feed_f at ho
  split at ho
  · exact Desk_feed_t hcall _ _ _ h ho
  · cases ho
def Desk_drain_f (call : ax_Cf) (av : List ax_T) (h : ax_Hp) : ax_O := match av with
  | [Sum.inr (Sum.inr x0)] => Desk_drain_b call x0 h
  | _ => none
theorem Desk_drain_ft {l : Launch} {G : ax_G} {d : Nat} {call : ax_Cf} (hcall : ax_Hc l G d call) (hd8 : 8 ≤ d) (hl : l.stackTraces = false) (av : List ax_T) (h : ax_Hp) (r : ax_Rs) (h1 : ax_Hp) (ho : Desk_drain_f call av h = some (r, h1)) : ax_C l G (d + 1) (ax_mn 12) (ax_mc 12) av h r h1 := by
  unfold Desk_drain_f at ho
  split at ho
  · exact Desk_drain_t hcall _ h ho
  · cases ho
def Desk_place_f (call : ax_Cf) (av : List ax_T) (h : ax_Hp) : ax_O := match av with
  | [Sum.inr (Sum.inr x0)] => Desk_place_b call x0 h
  | _ => none
theorem Desk_place_ft {l : Launch} {G : ax_G} {d : Nat} {call : ax_Cf} (hcall : ax_Hc l G d call) (hd8 : 8 ≤ d) (hl : l.stackTraces = false) (av : List ax_T) (h : ax_Hp) (r : ax_Rs) (h1 : ax_Hp) (ho : Desk_place_f call av h = some (r, h1)) : ax_C l G (d + 1) (ax_mn 13) (ax_mc 13) av h r h1 := by
  unfold Desk_place_f at ho
  split at ho
  · exact Desk_place_t hcall _ h ho
  · cases ho
def Law_mode_f (call : ax_Cf) (av : List ax_T) (h : ax_Hp) : ax_O := match av with
  | [Sum.inr (Sum.inr x0), Sum.inl x1, Sum.inl x2] => Law_mode_b call x0 x1 x2 h
  | _ => none
theorem Law_mode_ft {l : Launch} {G : ax_G} {d : Nat} {call : ax_Cf} (hcall : ax_Hc l G d call) (hd8 : 8 ≤ d) (hl : l.stackTraces = false) (av : List ax_T) (h : ax_Hp) (r : ax_Rs) (h1 : ax_Hp) (ho : Law_mode_f call av h = some (r, h1)) : ax_C l G (d + 1) (ax_mn 14) (ax_mc 14) av h r h1 := by
  unfold Law_mode_f at ho
  split at ho
  · exact Law_mode_t hcall _ _ _ h ho
  · cases ho
def Desk_mode_f (call : ax_Cf) (av : List ax_T) (h : ax_Hp) : ax_O := match av with
  | [Sum.inr (Sum.inr x0), Sum.inl x1, Sum.inl x2] => Desk_mode_b call x0 x1 x2 h
  | _ => none
theorem Desk_mode_ft {l : Launch} {G : ax_G} {d : Nat} {call : ax_Cf} (hcall : ax_Hc l G d call) (hd8 : 8 ≤ d) (hl : l.stackTraces = false) (av : List ax_T) (h : ax_Hp) (r : ax_Rs) (h1 : ax_Hp) (ho : Desk_mode_f call av h = some (r, h1)) : ax_C l G (d + 1) (ax_mn 15) (ax_mc 15) av h r h1 := by
  unfold Desk_mode_f at ho
  split at ho
  · exact Desk_mode_t hcall hd8 hl _ _ _ h ho
  · cases ho
def Desk_subjectAt_f (call : ax_Cf) (av : List ax_T) (h : ax_Hp) : ax_O := match av with
  | [Sum.inr (Sum.inr x0), Sum.inl x1] => Desk_subjectAt_b call x0 x1 h
  | _ => none
theorem Desk_subjectAt_ft {l : Launch} {G : ax_G} {d : Nat} {call : ax_Cf} (hcall : ax_Hc l G d call) (hd8 : 8 ≤ d) (hl : l.stackTraces = false) (av : List ax_T) (h : ax_Hp) (r : ax_Rs) (h1 : ax_Hp) (ho : Desk_subjectAt_f call av h = some (r, h1)) : ax_C l G (d + 1) (ax_mn 16) (ax_mc 16) av h r h1 := by
  unfold Desk_subjectAt_f at ho
  split at ho
  · exact Desk_subjectAt_t hcall hd8 hl _ _ h ho
  · cases ho
def Subject_setMode_f (call : ax_Cf) (av : List ax_T) (h : ax_Hp) : ax_O := match av with
  | [Sum.inr (Sum.inr x0), Sum.inl x1] => Subject_setMode_b call x0 x1 h
  | _ => none
theorem Subject_setMode_ft {l : Launch} {G : ax_G} {d : Nat} {call : ax_Cf} (hcall : ax_Hc l G d call) (hd8 : 8 ≤ d) (hl : l.stackTraces = false) (av : List ax_T) (h : ax_Hp) (r : ax_Rs) (h1 : ax_Hp) (ho : Subject_setMode_f call av h = some (r, h1)) : ax_C l G (d + 1) (ax_mn 17) (ax_mc 17) av h r h1 := by
  unfold Subject_setMode_f at ho
  split at ho
  · exact Subject_setMode_t hcall _ _ h ho
  · cases ho
def Law_register_f (call : ax_Cf) (av : List ax_T) (h : ax_Hp) : ax_O := match av with
  | [Sum.inr (Sum.inr x0), Sum.inl x1, Sum.inr (Sum.inr x2)] => Law_register_b call x0 x1 x2 h
  | _ => none
theorem Law_register_ft {l : Launch} {G : ax_G} {d : Nat} {call : ax_Cf} (hcall : ax_Hc l G d call) (hd8 : 8 ≤ d) (hl : l.stackTraces = false) (av : List ax_T) (h : ax_Hp) (r : ax_Rs) (h1 : ax_Hp) (ho : Law_register_f call av h = some (r, h1)) : ax_C l G (d + 1) (ax_mn 18) (ax_mc 18) av h r h1 := by
  unfold Law_register_f at ho
  split at ho
  · exact Law_register_t hcall _ _ _ h ho
  · cases ho
def Desk_register_f (call : ax_Cf) (av : List ax_T) (h : ax_Hp) : ax_O := match av with
  | [Sum.inr (Sum.inr x0), Sum.inl x1] => Desk_register_b call x0 x1 h
  | _ => none
theorem Desk_register_ft {l : Launch} {G : ax_G} {d : Nat} {call : ax_Cf} (hcall : ax_Hc l G d call) (hd8 : 8 ≤ d) (hl : l.stackTraces = false) (av : List ax_T) (h : ax_Hp) (r : ax_Rs) (h1 : ax_Hp) (ho : Desk_register_f call av h = some (r, h1)) : ax_C l G (d + 1) (ax_mn 19) (ax_mc 19) av h r h1 := by
  unfold Desk_register_f at ho
  split at ho
  · exact Desk_register_t hcall hd8 hl _ _ h ho
  · cases ho
def Cursor_init_f (call : ax_Cf) (av : List ax_T) (h : ax_Hp) : ax_O := match av with
  | [Sum.inr (Sum.inr (some x0)), Sum.inr (Sum.inr x1)] => Cursor_init_b call x0 x1 h
  | _ => none
theorem Cursor_init_ft {l : Launch} {G : ax_G} {d : Nat} {call : ax_Cf} (hcall : ax_Hc l G d call) (hd8 : 8 ≤ d) (hl : l.stackTraces = false) (av : List ax_T) (h : ax_Hp) (r : ax_Rs) (h1 : ax_Hp) (ho : Cursor_init_f call av h = some (r, h1)) : ax_C l G (d + 1) (ax_mn 20) (ax_mc 20) av h r h1 := by
  unfold Cursor_init_f at ho
  split at ho
  · exact Cursor_init_t hcall _ _ h ho
  · cases ho
def SchemaReader_init_f (call : ax_Cf) (av : List ax_T) (h : ax_Hp) : ax_O := match av with
  | [Sum.inr (Sum.inr (some x0)), Sum.inr (Sum.inr x1), Sum.inr (Sum.inr x2)] => SchemaReader_init_b call x0 x1 x2 h
  | _ => none
theorem SchemaReader_init_ft {l : Launch} {G : ax_G} {d : Nat} {call : ax_Cf} (hcall : ax_Hc l G d call) (hd8 : 8 ≤ d) (hl : l.stackTraces = false) (av : List ax_T) (h : ax_Hp) (r : ax_Rs) (h1 : ax_Hp) (ho : SchemaReader_init_f call av h = some (r, h1)) : ax_C l G (d + 1) (ax_mn 21) (ax_mc 21) av h r h1 := by
  unfold SchemaReader_init_f at ho
  split at ho
  · exact SchemaReader_init_t hcall _ _ _ h ho
  · cases ho
def ValueReader_init_f (call : ax_Cf) (av : List ax_T) (h : ax_Hp) : ax_O := match av with
  | [Sum.inr (Sum.inr (some x0)), Sum.inr (Sum.inr x1), Sum.inr (Sum.inr x2), Sum.inr (Sum.inr x3), Sum.inl x4] => ValueReader_init_b call x0 x1 x2 x3 x4 h
  | _ => none
theorem ValueReader_init_ft {l : Launch} {G : ax_G} {d : Nat} {call : ax_Cf} (hcall : ax_Hc l G d call) (hd8 : 8 ≤ d) (hl : l.stackTraces = false) (av : List ax_T) (h : ax_Hp) (r : ax_Rs) (h1 : ax_Hp) (ho : ValueReader_init_f call av h = some (r, h1)) : ax_C l G (d + 1) (ax_mn 22) (ax_mc 22) av h r h1 := by
  unfold ValueReader_init_f at ho
  split at ho
  · exact ValueReader_init_t hcall _ _ _ _ _ h ho
  · cases ho
def SchemaReader_readWhole_f (call : ax_Cf) (av : List ax_T) (h : ax_Hp) : ax_O := match av with
  | [Sum.inr (Sum.inr x0)] => SchemaReader_readWhole_b call x0 h
  | _ => none
theorem SchemaReader_readWhole_ft {l : Launch} {G : ax_G} {d : Nat} {call : ax_Cf} (hcall : ax_Hc l G d call) (hd8 : 8 ≤ d) (hl : l.stackTraces = false) (av : List ax_T) (h : ax_Hp) (r : ax_Rs) (h1 : ax_Hp) (ho : SchemaReader_readWhole_f call av h = some (r, h1)) : ax_C l G (d + 1) (ax_mn 23) (ax_mc 23) av h r h1 := by
  unfold SchemaReader_readWhole_f at ho
  split at ho
  · exact SchemaReader_readWhole_t hcall _ h ho
  · cases ho
def Schema_clearMarks_f (call : ax_Cf) (av : List ax_T) (h : ax_Hp) : ax_O := match av with
  | [Sum.inr (Sum.inr x0)] => Schema_clearMarks_b call x0 h
  | _ => none
theorem Schema_clearMarks_ft {l : Launch} {G : ax_G} {d : Nat} {call : ax_Cf} (hcall : ax_Hc l G d call) (hd8 : 8 ≤ d) (hl : l.stackTraces = false) (av : List ax_T) (h : ax_Hp) (r : ax_Rs) (h1 : ax_Hp) (ho : Schema_clearMarks_f call av h = some (r, h1)) : ax_C l G (d + 1) (ax_mn 24) (ax_mc 24) av h r h1 := by
  unfold Schema_clearMarks_f at ho
  split at ho
  · exact Schema_clearMarks_t hcall _ h ho
  · cases ho
def Arrays_fill_f (call : ax_Cf) (av : List ax_T) (h : ax_Hp) : ax_O := match av with
  | [Sum.inr (Sum.inr x0), Sum.inl x1] => Arrays_fill_b call x0 x1 h
  | _ => none
theorem Arrays_fill_ft {l : Launch} {G : ax_G} {d : Nat} {call : ax_Cf} (hcall : ax_Hc l G d call) (hd8 : 8 ≤ d) (hl : l.stackTraces = false) (av : List ax_T) (h : ax_Hp) (r : ax_Rs) (h1 : ax_Hp) (ho : Arrays_fill_f call av h = some (r, h1)) : ax_C l G (d + 1) (ax_mn 25) (ax_mc 25) av h r h1 := by
  unfold Arrays_fill_f at ho
  split at ho
  · exact Arrays_fill_t hcall _ _ h ho
  · cases ho
def SchemaReader_readType_f (call : ax_Cf) (av : List ax_T) (h : ax_Hp) : ax_O := match av with
  | [Sum.inr (Sum.inr x0), Sum.inl x1] => SchemaReader_readType_b call x0 x1 h
  | _ => none
theorem SchemaReader_readType_ft {l : Launch} {G : ax_G} {d : Nat} {call : ax_Cf} (hcall : ax_Hc l G d call) (hd8 : 8 ≤ d) (hl : l.stackTraces = false) (av : List ax_T) (h : ax_Hp) (r : ax_Rs) (h1 : ax_Hp) (ho : SchemaReader_readType_f call av h = some (r, h1)) : ax_C l G (d + 1) (ax_mn 26) (ax_mc 26) av h r h1 := by
  unfold SchemaReader_readType_f at ho
  split at ho
  · exact SchemaReader_readType_t hcall _ _ h ho
  · cases ho
def Cursor_at_f (call : ax_Cf) (av : List ax_T) (h : ax_Hp) : ax_O := match av with
  | [Sum.inr (Sum.inr x0)] => Cursor_at_b call x0 h
  | _ => none
theorem Cursor_at_ft {l : Launch} {G : ax_G} {d : Nat} {call : ax_Cf} (hcall : ax_Hc l G d call) (hd8 : 8 ≤ d) (hl : l.stackTraces = false) (av : List ax_T) (h : ax_Hp) (r : ax_Rs) (h1 : ax_Hp) (ho : Cursor_at_f call av h = some (r, h1)) : ax_C l G (d + 1) (ax_mn 27) (ax_mc 27) av h r h1 := by
  unfold Cursor_at_f at ho
  split at ho
  · exact Cursor_at_t hcall _ h ho
  · cases ho
def SchemaReader_readTypeOfKind_f (call : ax_Cf) (av : List ax_T) (h : ax_Hp) : ax_O := match av with
  | [Sum.inr (Sum.inr x0), Sum.inl x1] => SchemaReader_readTypeOfKind_b call x0 x1 h
  | _ => none
theorem SchemaReader_readTypeOfKind_ft {l : Launch} {G : ax_G} {d : Nat} {call : ax_Cf} (hcall : ax_Hc l G d call) (hd8 : 8 ≤ d) (hl : l.stackTraces = false) (av : List ax_T) (h : ax_Hp) (r : ax_Rs) (h1 : ax_Hp) (ho : SchemaReader_readTypeOfKind_f call av h = some (r, h1)) : ax_C l G (d + 1) (ax_mn 28) (ax_mc 28) av h r h1 := by
  unfold SchemaReader_readTypeOfKind_f at ho
  split at ho
  · exact SchemaReader_readTypeOfKind_t hcall _ _ h ho
  · cases ho
def Cursor_peek_f (call : ax_Cf) (av : List ax_T) (h : ax_Hp) : ax_O := match av with
  | [Sum.inr (Sum.inr x0)] => Cursor_peek_b call x0 h
  | _ => none
theorem Cursor_peek_ft {l : Launch} {G : ax_G} {d : Nat} {call : ax_Cf} (hcall : ax_Hc l G d call) (hd8 : 8 ≤ d) (hl : l.stackTraces = false) (av : List ax_T) (h : ax_Hp) (r : ax_Rs) (h1 : ax_Hp) (ho : Cursor_peek_f call av h = some (r, h1)) : ax_C l G (d + 1) (ax_mn 29) (ax_mc 29) av h r h1 := by
  unfold Cursor_peek_f at ho
  split at ho
  · exact Cursor_peek_t hcall _ h ho
  · cases ho
def Cursor_take_f (call : ax_Cf) (av : List ax_T) (h : ax_Hp) : ax_O := match av with
  | [Sum.inr (Sum.inr x0), Sum.inl x1] => Cursor_take_b call x0 x1 h
  | _ => none
theorem Cursor_take_ft {l : Launch} {G : ax_G} {d : Nat} {call : ax_Cf} (hcall : ax_Hc l G d call) (hd8 : 8 ≤ d) (hl : l.stackTraces = false) (av : List ax_T) (h : ax_Hp) (r : ax_Rs) (h1 : ax_Hp) (ho : Cursor_take_f call av h = some (r, h1)) : ax_C l G (d + 1) (ax_mn 30) (ax_mc 30) av h r h1 := by
  unfold Cursor_take_f at ho
  split at ho
  · exact Cursor_take_t hcall _ _ h ho
  · cases ho
def SchemaReader_readSymbols_f (call : ax_Cf) (av : List ax_T) (h : ax_Hp) : ax_O := match av with
  | [Sum.inr (Sum.inr x0)] => SchemaReader_readSymbols_b call x0 h
  | _ => none
theorem SchemaReader_readSymbols_ft {l : Launch} {G : ax_G} {d : Nat} {call : ax_Cf} (hcall : ax_Hc l G d call) (hd8 : 8 ≤ d) (hl : l.stackTraces = false) (av : List ax_T) (h : ax_Hp) (r : ax_Rs) (h1 : ax_Hp) (ho : SchemaReader_readSymbols_f call av h = some (r, h1)) : ax_C l G (d + 1) (ax_mn 31) (ax_mc 31) av h r h1 := by
  unfold SchemaReader_readSymbols_f at ho
  split at ho
  · exact SchemaReader_readSymbols_t hcall _ h ho
  · cases ho
def Desk_smallLetterBit_f (call : ax_Cf) (av : List ax_T) (h : ax_Hp) : ax_O := match av with
  | [Sum.inl x0] => Desk_smallLetterBit_b call x0 h
  | _ => none
theorem Desk_smallLetterBit_ft {l : Launch} {G : ax_G} {d : Nat} {call : ax_Cf} (hcall : ax_Hc l G d call) (hd8 : 8 ≤ d) (hl : l.stackTraces = false) (av : List ax_T) (h : ax_Hp) (r : ax_Rs) (h1 : ax_Hp) (ho : Desk_smallLetterBit_f call av h = some (r, h1)) : ax_C l G (d + 1) (ax_mn 32) (ax_mc 32) av h r h1 := by
  unfold Desk_smallLetterBit_f at ho
  split at ho
  · exact Desk_smallLetterBit_t hcall _ h ho
  · cases ho
def Desk_isSmallLetter_f (call : ax_Cf) (av : List ax_T) (h : ax_Hp) : ax_O := match av with
  | [Sum.inl x0] => Desk_isSmallLetter_b call x0 h
  | _ => none
theorem Desk_isSmallLetter_ft {l : Launch} {G : ax_G} {d : Nat} {call : ax_Cf} (hcall : ax_Hc l G d call) (hd8 : 8 ≤ d) (hl : l.stackTraces = false) (av : List ax_T) (h : ax_Hp) (r : ax_Rs) (h1 : ax_Hp) (ho : Desk_isSmallLetter_f call av h = some (r, h1)) : ax_C l G (d + 1) (ax_mn 33) (ax_mc 33) av h r h1 := by
  unfold Desk_isSmallLetter_f at ho
  split at ho
  · exact Desk_isSmallLetter_t hcall _ h ho
  · cases ho
def Cursor_step_f (call : ax_Cf) (av : List ax_T) (h : ax_Hp) : ax_O := match av with
  | [Sum.inr (Sum.inr x0)] => Cursor_step_b call x0 h
  | _ => none
theorem Cursor_step_ft {l : Launch} {G : ax_G} {d : Nat} {call : ax_Cf} (hcall : ax_Hc l G d call) (hd8 : 8 ≤ d) (hl : l.stackTraces = false) (av : List ax_T) (h : ax_Hp) (r : ax_Rs) (h1 : ax_Hp) (ho : Cursor_step_f call av h = some (r, h1)) : ax_C l G (d + 1) (ax_mn 34) (ax_mc 34) av h r h1 := by
  unfold Cursor_step_f at ho
  split at ho
  · exact Cursor_step_t hcall _ h ho
  · cases ho
def SchemaReader_readSymbolDefault_f (call : ax_Cf) (av : List ax_T) (h : ax_Hp) : ax_O := match av with
  | [Sum.inr (Sum.inr x0), Sum.inl x1] => SchemaReader_readSymbolDefault_b call x0 x1 h
  | _ => none
theorem SchemaReader_readSymbolDefault_ft {l : Launch} {G : ax_G} {d : Nat} {call : ax_Cf} (hcall : ax_Hc l G d call) (hd8 : 8 ≤ d) (hl : l.stackTraces = false) (av : List ax_T) (h : ax_Hp) (r : ax_Rs) (h1 : ax_Hp) (ho : SchemaReader_readSymbolDefault_f call av h = some (r, h1)) : ax_C l G (d + 1) (ax_mn 35) (ax_mc 35) av h r h1 := by
  unfold SchemaReader_readSymbolDefault_f at ho
  split at ho
  · exact SchemaReader_readSymbolDefault_t hcall _ _ h ho
  · cases ho
def Schema_markEnd_f (call : ax_Cf) (av : List ax_T) (h : ax_Hp) : ax_O := match av with
  | [Sum.inr (Sum.inr x0), Sum.inl x1, Sum.inl x2] => Schema_markEnd_b call x0 x1 x2 h
  | _ => none
theorem Schema_markEnd_ft {l : Launch} {G : ax_G} {d : Nat} {call : ax_Cf} (hcall : ax_Hc l G d call) (hd8 : 8 ≤ d) (hl : l.stackTraces = false) (av : List ax_T) (h : ax_Hp) (r : ax_Rs) (h1 : ax_Hp) (ho : Schema_markEnd_f call av h = some (r, h1)) : ax_C l G (d + 1) (ax_mn 36) (ax_mc 36) av h r h1 := by
  unfold Schema_markEnd_f at ho
  split at ho
  · exact Schema_markEnd_t hcall _ _ _ h ho
  · cases ho
def SchemaReader_readBranches_f (call : ax_Cf) (av : List ax_T) (h : ax_Hp) : ax_O := match av with
  | [Sum.inr (Sum.inr x0), Sum.inl x1] => SchemaReader_readBranches_b call x0 x1 h
  | _ => none
theorem SchemaReader_readBranches_ft {l : Launch} {G : ax_G} {d : Nat} {call : ax_Cf} (hcall : ax_Hc l G d call) (hd8 : 8 ≤ d) (hl : l.stackTraces = false) (av : List ax_T) (h : ax_Hp) (r : ax_Rs) (h1 : ax_Hp) (ho : SchemaReader_readBranches_f call av h = some (r, h1)) : ax_C l G (d + 1) (ax_mn 37) (ax_mc 37) av h r h1 := by
  unfold SchemaReader_readBranches_f at ho
  split at ho
  · exact SchemaReader_readBranches_t hcall _ _ h ho
  · cases ho
def Desk_capitalBit_f (call : ax_Cf) (av : List ax_T) (h : ax_Hp) : ax_O := match av with
  | [Sum.inl x0] => Desk_capitalBit_b call x0 h
  | _ => none
theorem Desk_capitalBit_ft {l : Launch} {G : ax_G} {d : Nat} {call : ax_Cf} (hcall : ax_Hc l G d call) (hd8 : 8 ≤ d) (hl : l.stackTraces = false) (av : List ax_T) (h : ax_Hp) (r : ax_Rs) (h1 : ax_Hp) (ho : Desk_capitalBit_f call av h = some (r, h1)) : ax_C l G (d + 1) (ax_mn 38) (ax_mc 38) av h r h1 := by
  unfold Desk_capitalBit_f at ho
  split at ho
  · exact Desk_capitalBit_t hcall _ h ho
  · cases ho
def Schema_markNext_f (call : ax_Cf) (av : List ax_T) (h : ax_Hp) : ax_O := match av with
  | [Sum.inr (Sum.inr x0), Sum.inl x1, Sum.inl x2] => Schema_markNext_b call x0 x1 x2 h
  | _ => none
theorem Schema_markNext_ft {l : Launch} {G : ax_G} {d : Nat} {call : ax_Cf} (hcall : ax_Hc l G d call) (hd8 : 8 ≤ d) (hl : l.stackTraces = false) (av : List ax_T) (h : ax_Hp) (r : ax_Rs) (h1 : ax_Hp) (ho : Schema_markNext_f call av h = some (r, h1)) : ax_C l G (d + 1) (ax_mn 39) (ax_mc 39) av h r h1 := by
  unfold Schema_markNext_f at ho
  split at ho
  · exact Schema_markNext_t hcall _ _ _ h ho
  · cases ho
def SchemaReader_readFields_f (call : ax_Cf) (av : List ax_T) (h : ax_Hp) : ax_O := match av with
  | [Sum.inr (Sum.inr x0), Sum.inl x1] => SchemaReader_readFields_b call x0 x1 h
  | _ => none
theorem SchemaReader_readFields_ft {l : Launch} {G : ax_G} {d : Nat} {call : ax_Cf} (hcall : ax_Hc l G d call) (hd8 : 8 ≤ d) (hl : l.stackTraces = false) (av : List ax_T) (h : ax_Hp) (r : ax_Rs) (h1 : ax_Hp) (ho : SchemaReader_readFields_f call av h = some (r, h1)) : ax_C l G (d + 1) (ax_mn 40) (ax_mc 40) av h r h1 := by
  unfold SchemaReader_readFields_f at ho
  split at ho
  · exact SchemaReader_readFields_t hcall _ _ h ho
  · cases ho
def SchemaReader_readFieldBehindName_f (call : ax_Cf) (av : List ax_T) (h : ax_Hp) : ax_O := match av with
  | [Sum.inr (Sum.inr x0), Sum.inl x1] => SchemaReader_readFieldBehindName_b call x0 x1 h
  | _ => none
theorem SchemaReader_readFieldBehindName_ft {l : Launch} {G : ax_G} {d : Nat} {call : ax_Cf} (hcall : ax_Hc l G d call) (hd8 : 8 ≤ d) (hl : l.stackTraces = false) (av : List ax_T) (h : ax_Hp) (r : ax_Rs) (h1 : ax_Hp) (ho : SchemaReader_readFieldBehindName_f call av h = some (r, h1)) : ax_C l G (d + 1) (ax_mn 41) (ax_mc 41) av h r h1 := by
  unfold SchemaReader_readFieldBehindName_f at ho
  split at ho
  · exact SchemaReader_readFieldBehindName_t hcall _ _ h ho
  · cases ho
def ValueReader_readLiteral_f (call : ax_Cf) (av : List ax_T) (h : ax_Hp) : ax_O := match av with
  | [Sum.inr (Sum.inr x0), Sum.inl x1] => ValueReader_readLiteral_b call x0 x1 h
  | _ => none
theorem ValueReader_readLiteral_ft {l : Launch} {G : ax_G} {d : Nat} {call : ax_Cf} (hcall : ax_Hc l G d call) (hd8 : 8 ≤ d) (hl : l.stackTraces = false) (av : List ax_T) (h : ax_Hp) (r : ax_Rs) (h1 : ax_Hp) (ho : ValueReader_readLiteral_f call av h = some (r, h1)) : ax_C l G (d + 1) (ax_mn 42) (ax_mc 42) av h r h1 := by
  unfold ValueReader_readLiteral_f at ho
  split at ho
  · exact ValueReader_readLiteral_t hcall _ _ h ho
  · cases ho
def ValueReader_readPart_f (call : ax_Cf) (av : List ax_T) (h : ax_Hp) : ax_O := match av with
  | [Sum.inr (Sum.inr x0), Sum.inl x1, Sum.inl x2] => ValueReader_readPart_b call x0 x1 x2 h
  | _ => none
theorem ValueReader_readPart_ft {l : Launch} {G : ax_G} {d : Nat} {call : ax_Cf} (hcall : ax_Hc l G d call) (hd8 : 8 ≤ d) (hl : l.stackTraces = false) (av : List ax_T) (h : ax_Hp) (r : ax_Rs) (h1 : ax_Hp) (ho : ValueReader_readPart_f call av h = some (r, h1)) : ax_C l G (d + 1) (ax_mn 43) (ax_mc 43) av h r h1 := by
  unfold ValueReader_readPart_f at ho
  split at ho
  · exact ValueReader_readPart_t hcall _ _ _ h ho
  · cases ho
def Schema_kind_f (call : ax_Cf) (av : List ax_T) (h : ax_Hp) : ax_O := match av with
  | [Sum.inr (Sum.inr x0), Sum.inl x1] => Schema_kind_b call x0 x1 h
  | _ => none
theorem Schema_kind_ft {l : Launch} {G : ax_G} {d : Nat} {call : ax_Cf} (hcall : ax_Hc l G d call) (hd8 : 8 ≤ d) (hl : l.stackTraces = false) (av : List ax_T) (h : ax_Hp) (r : ax_Rs) (h1 : ax_Hp) (ho : Schema_kind_f call av h = some (r, h1)) : ax_C l G (d + 1) (ax_mn 44) (ax_mc 44) av h r h1 := by
  unfold Schema_kind_f at ho
  split at ho
  · exact Schema_kind_t hcall _ _ h ho
  · cases ho
def Row_at_f (call : ax_Cf) (av : List ax_T) (h : ax_Hp) : ax_O := match av with
  | [Sum.inr (Sum.inr x0), Sum.inl x1] => Row_at_b call x0 x1 h
  | _ => none
theorem Row_at_ft {l : Launch} {G : ax_G} {d : Nat} {call : ax_Cf} (hcall : ax_Hc l G d call) (hd8 : 8 ≤ d) (hl : l.stackTraces = false) (av : List ax_T) (h : ax_Hp) (r : ax_Rs) (h1 : ax_Hp) (ho : Row_at_f call av h = some (r, h1)) : ax_C l G (d + 1) (ax_mn 45) (ax_mc 45) av h r h1 := by
  unfold Row_at_f at ho
  split at ho
  · exact Row_at_t hcall _ _ h ho
  · cases ho
def ValueReader_readBoolean_f (call : ax_Cf) (av : List ax_T) (h : ax_Hp) : ax_O := match av with
  | [Sum.inr (Sum.inr x0)] => ValueReader_readBoolean_b call x0 h
  | _ => none
theorem ValueReader_readBoolean_ft {l : Launch} {G : ax_G} {d : Nat} {call : ax_Cf} (hcall : ax_Hc l G d call) (hd8 : 8 ≤ d) (hl : l.stackTraces = false) (av : List ax_T) (h : ax_Hp) (r : ax_Rs) (h1 : ax_Hp) (ho : ValueReader_readBoolean_f call av h = some (r, h1)) : ax_C l G (d + 1) (ax_mn 46) (ax_mc 46) av h r h1 := by
  unfold ValueReader_readBoolean_f at ho
  split at ho
  · exact ValueReader_readBoolean_t hcall _ h ho
  · cases ho
def ValueReader_readNumber_f (call : ax_Cf) (av : List ax_T) (h : ax_Hp) : ax_O := match av with
  | [Sum.inr (Sum.inr x0), Sum.inr (Sum.inl x1)] => ValueReader_readNumber_b call x0 x1 h
  | _ => none
theorem ValueReader_readNumber_ft {l : Launch} {G : ax_G} {d : Nat} {call : ax_Cf} (hcall : ax_Hc l G d call) (hd8 : 8 ≤ d) (hl : l.stackTraces = false) (av : List ax_T) (h : ax_Hp) (r : ax_Rs) (h1 : ax_Hp) (ho : ValueReader_readNumber_f call av h = some (r, h1)) : ax_C l G (d + 1) (ax_mn 47) (ax_mc 47) av h r h1 := by
  unfold ValueReader_readNumber_f at ho
  split at ho
  · exact ValueReader_readNumber_t hcall _ _ h ho
  · cases ho
def ValueReader_addNumber_f (call : ax_Cf) (av : List ax_T) (h : ax_Hp) : ax_O := match av with
  | [Sum.inr (Sum.inr x0), Sum.inr (Sum.inl x1)] => ValueReader_addNumber_b call x0 x1 h
  | _ => none
theorem ValueReader_addNumber_ft {l : Launch} {G : ax_G} {d : Nat} {call : ax_Cf} (hcall : ax_Hc l G d call) (hd8 : 8 ≤ d) (hl : l.stackTraces = false) (av : List ax_T) (h : ax_Hp) (r : ax_Rs) (h1 : ax_Hp) (ho : ValueReader_addNumber_f call av h = some (r, h1)) : ax_C l G (d + 1) (ax_mn 48) (ax_mc 48) av h r h1 := by
  unfold ValueReader_addNumber_f at ho
  split at ho
  · exact ValueReader_addNumber_t hcall _ _ h ho
  · cases ho
def Desk_isDigit_f (call : ax_Cf) (av : List ax_T) (h : ax_Hp) : ax_O := match av with
  | [Sum.inl x0] => Desk_isDigit_b call x0 h
  | _ => none
theorem Desk_isDigit_ft {l : Launch} {G : ax_G} {d : Nat} {call : ax_Cf} (hcall : ax_Hc l G d call) (hd8 : 8 ≤ d) (hl : l.stackTraces = false) (av : List ax_T) (h : ax_Hp) (r : ax_Rs) (h1 : ax_Hp) (ho : Desk_isDigit_f call av h = some (r, h1)) : ax_C l G (d + 1) (ax_mn 49) (ax_mc 49) av h r h1 := by
  unfold Desk_isDigit_f at ho
  split at ho
  · exact Desk_isDigit_t hcall _ h ho
  · cases ho
def ValueReader_readString_f (call : ax_Cf) (av : List ax_T) (h : ax_Hp) : ax_O := match av with
  | [Sum.inr (Sum.inr x0)] => ValueReader_readString_b call x0 h
  | _ => none
theorem ValueReader_readString_ft {l : Launch} {G : ax_G} {d : Nat} {call : ax_Cf} (hcall : ax_Hc l G d call) (hd8 : 8 ≤ d) (hl : l.stackTraces = false) (av : List ax_T) (h : ax_Hp) (r : ax_Rs) (h1 : ax_Hp) (ho : ValueReader_readString_f call av h = some (r, h1)) : ax_C l G (d + 1) (ax_mn 50) (ax_mc 50) av h r h1 := by
  unfold ValueReader_readString_f at ho
  split at ho
  · exact ValueReader_readString_t hcall _ h ho
  · cases ho
def Row_size_f (call : ax_Cf) (av : List ax_T) (h : ax_Hp) : ax_O := match av with
  | [Sum.inr (Sum.inr x0)] => Row_size_b call x0 h
  | _ => none
theorem Row_size_ft {l : Launch} {G : ax_G} {d : Nat} {call : ax_Cf} (hcall : ax_Hc l G d call) (hd8 : 8 ≤ d) (hl : l.stackTraces = false) (av : List ax_T) (h : ax_Hp) (r : ax_Rs) (h1 : ax_Hp) (ho : Row_size_f call av h = some (r, h1)) : ax_C l G (d + 1) (ax_mn 51) (ax_mc 51) av h r h1 := by
  unfold Row_size_f at ho
  split at ho
  · exact Row_size_t hcall _ h ho
  · cases ho
def Cursor_isAtEnd_f (call : ax_Cf) (av : List ax_T) (h : ax_Hp) : ax_O := match av with
  | [Sum.inr (Sum.inr x0)] => Cursor_isAtEnd_b call x0 h
  | _ => none
theorem Cursor_isAtEnd_ft {l : Launch} {G : ax_G} {d : Nat} {call : ax_Cf} (hcall : ax_Hc l G d call) (hd8 : 8 ≤ d) (hl : l.stackTraces = false) (av : List ax_T) (h : ax_Hp) (r : ax_Rs) (h1 : ax_Hp) (ho : Cursor_isAtEnd_f call av h = some (r, h1)) : ax_C l G (d + 1) (ax_mn 52) (ax_mc 52) av h r h1 := by
  unfold Cursor_isAtEnd_f at ho
  split at ho
  · exact Cursor_isAtEnd_t hcall _ h ho
  · cases ho
def Row_set_f (call : ax_Cf) (av : List ax_T) (h : ax_Hp) : ax_O := match av with
  | [Sum.inr (Sum.inr x0), Sum.inl x1, Sum.inl x2] => Row_set_b call x0 x1 x2 h
  | _ => none
theorem Row_set_ft {l : Launch} {G : ax_G} {d : Nat} {call : ax_Cf} (hcall : ax_Hc l G d call) (hd8 : 8 ≤ d) (hl : l.stackTraces = false) (av : List ax_T) (h : ax_Hp) (r : ax_Rs) (h1 : ax_Hp) (ho : Row_set_f call av h = some (r, h1)) : ax_C l G (d + 1) (ax_mn 53) (ax_mc 53) av h r h1 := by
  unfold Row_set_f at ho
  split at ho
  · exact Row_set_t hcall _ _ _ h ho
  · cases ho
def ValueReader_readSymbol_f (call : ax_Cf) (av : List ax_T) (h : ax_Hp) : ax_O := match av with
  | [Sum.inr (Sum.inr x0), Sum.inl x1] => ValueReader_readSymbol_b call x0 x1 h
  | _ => none
theorem ValueReader_readSymbol_ft {l : Launch} {G : ax_G} {d : Nat} {call : ax_Cf} (hcall : ax_Hc l G d call) (hd8 : 8 ≤ d) (hl : l.stackTraces = false) (av : List ax_T) (h : ax_Hp) (r : ax_Rs) (h1 : ax_Hp) (ho : ValueReader_readSymbol_f call av h = some (r, h1)) : ax_C l G (d + 1) (ax_mn 54) (ax_mc 54) av h r h1 := by
  unfold ValueReader_readSymbol_f at ho
  split at ho
  · exact ValueReader_readSymbol_t hcall _ _ h ho
  · cases ho
def Schema_symbolNumber_f (call : ax_Cf) (av : List ax_T) (h : ax_Hp) : ax_O := match av with
  | [Sum.inr (Sum.inr x0), Sum.inl x1, Sum.inl x2] => Schema_symbolNumber_b call x0 x1 x2 h
  | _ => none
theorem Schema_symbolNumber_ft {l : Launch} {G : ax_G} {d : Nat} {call : ax_Cf} (hcall : ax_Hc l G d call) (hd8 : 8 ≤ d) (hl : l.stackTraces = false) (av : List ax_T) (h : ax_Hp) (r : ax_Rs) (h1 : ax_Hp) (ho : Schema_symbolNumber_f call av h = some (r, h1)) : ax_C l G (d + 1) (ax_mn 55) (ax_mc 55) av h r h1 := by
  unfold Schema_symbolNumber_f at ho
  split at ho
  · exact Schema_symbolNumber_t hcall _ _ _ h ho
  · cases ho
def ValueReader_readElements_f (call : ax_Cf) (av : List ax_T) (h : ax_Hp) : ax_O := match av with
  | [Sum.inr (Sum.inr x0), Sum.inl x1, Sum.inl x2] => ValueReader_readElements_b call x0 x1 x2 h
  | _ => none
theorem ValueReader_readElements_ft {l : Launch} {G : ax_G} {d : Nat} {call : ax_Cf} (hcall : ax_Hc l G d call) (hd8 : 8 ≤ d) (hl : l.stackTraces = false) (av : List ax_T) (h : ax_Hp) (r : ax_Rs) (h1 : ax_Hp) (ho : ValueReader_readElements_f call av h = some (r, h1)) : ax_C l G (d + 1) (ax_mn 56) (ax_mc 56) av h r h1 := by
  unfold ValueReader_readElements_f at ho
  split at ho
  · exact ValueReader_readElements_t hcall _ _ _ h ho
  · cases ho
def Schema_element_f (call : ax_Cf) (av : List ax_T) (h : ax_Hp) : ax_O := match av with
  | [Sum.inr (Sum.inr x0), Sum.inl x1] => Schema_element_b call x0 x1 h
  | _ => none
theorem Schema_element_ft {l : Launch} {G : ax_G} {d : Nat} {call : ax_Cf} (hcall : ax_Hc l G d call) (hd8 : 8 ≤ d) (hl : l.stackTraces = false) (av : List ax_T) (h : ax_Hp) (r : ax_Rs) (h1 : ax_Hp) (ho : Schema_element_f call av h = some (r, h1)) : ax_C l G (d + 1) (ax_mn 57) (ax_mc 57) av h r h1 := by
  unfold Schema_element_f at ho
  split at ho
  · exact Schema_element_t hcall _ _ h ho
  · cases ho
def ValueReader_readFirstBranch_f (call : ax_Cf) (av : List ax_T) (h : ax_Hp) : ax_O := match av with
  | [Sum.inr (Sum.inr x0), Sum.inl x1, Sum.inl x2] => ValueReader_readFirstBranch_b call x0 x1 x2 h
  | _ => none
theorem ValueReader_readFirstBranch_ft {l : Launch} {G : ax_G} {d : Nat} {call : ax_Cf} (hcall : ax_Hc l G d call) (hd8 : 8 ≤ d) (hl : l.stackTraces = false) (av : List ax_T) (h : ax_Hp) (r : ax_Rs) (h1 : ax_Hp) (ho : ValueReader_readFirstBranch_f call av h = some (r, h1)) : ax_C l G (d + 1) (ax_mn 58) (ax_mc 58) av h r h1 := by
  unfold ValueReader_readFirstBranch_f at ho
  split at ho
  · exact ValueReader_readFirstBranch_t hcall _ _ _ h ho
  · cases ho
def Schema_markUnion_f (call : ax_Cf) (av : List ax_T) (h : ax_Hp) : ax_O := match av with
  | [Sum.inr (Sum.inr x0), Sum.inl x1] => Schema_markUnion_b call x0 x1 h
  | _ => none
theorem Schema_markUnion_ft {l : Launch} {G : ax_G} {d : Nat} {call : ax_Cf} (hcall : ax_Hc l G d call) (hd8 : 8 ≤ d) (hl : l.stackTraces = false) (av : List ax_T) (h : ax_Hp) (r : ax_Rs) (h1 : ax_Hp) (ho : Schema_markUnion_f call av h = some (r, h1)) : ax_C l G (d + 1) (ax_mn 59) (ax_mc 59) av h r h1 := by
  unfold Schema_markUnion_f at ho
  split at ho
  · exact Schema_markUnion_t hcall _ _ h ho
  · cases ho
def Schema_firstPart_f (call : ax_Cf) (av : List ax_T) (h : ax_Hp) : ax_O := match av with
  | [Sum.inr (Sum.inr x0), Sum.inl x1] => Schema_firstPart_b call x0 x1 h
  | _ => none
theorem Schema_firstPart_ft {l : Launch} {G : ax_G} {d : Nat} {call : ax_Cf} (hcall : ax_Hc l G d call) (hd8 : 8 ≤ d) (hl : l.stackTraces = false) (av : List ax_T) (h : ax_Hp) (r : ax_Rs) (h1 : ax_Hp) (ho : Schema_firstPart_f call av h = some (r, h1)) : ax_C l G (d + 1) (ax_mn 60) (ax_mc 60) av h r h1 := by
  unfold Schema_firstPart_f at ho
  split at ho
  · exact Schema_firstPart_t hcall _ _ h ho
  · cases ho
def ValueReader_readBranch_f (call : ax_Cf) (av : List ax_T) (h : ax_Hp) : ax_O := match av with
  | [Sum.inr (Sum.inr x0), Sum.inl x1, Sum.inl x2] => ValueReader_readBranch_b call x0 x1 x2 h
  | _ => none
theorem ValueReader_readBranch_ft {l : Launch} {G : ax_G} {d : Nat} {call : ax_Cf} (hcall : ax_Hc l G d call) (hd8 : 8 ≤ d) (hl : l.stackTraces = false) (av : List ax_T) (h : ax_Hp) (r : ax_Rs) (h1 : ax_Hp) (ho : ValueReader_readBranch_f call av h = some (r, h1)) : ax_C l G (d + 1) (ax_mn 61) (ax_mc 61) av h r h1 := by
  unfold ValueReader_readBranch_f at ho
  split at ho
  · exact ValueReader_readBranch_t hcall _ _ _ h ho
  · cases ho
def Schema_branch_f (call : ax_Cf) (av : List ax_T) (h : ax_Hp) : ax_O := match av with
  | [Sum.inr (Sum.inr x0), Sum.inl x1, Sum.inl x2] => Schema_branch_b call x0 x1 x2 h
  | _ => none
theorem Schema_branch_ft {l : Launch} {G : ax_G} {d : Nat} {call : ax_Cf} (hcall : ax_Hc l G d call) (hd8 : 8 ≤ d) (hl : l.stackTraces = false) (av : List ax_T) (h : ax_Hp) (r : ax_Rs) (h1 : ax_Hp) (ho : Schema_branch_f call av h = some (r, h1)) : ax_C l G (d + 1) (ax_mn 62) (ax_mc 62) av h r h1 := by
  unfold Schema_branch_f at ho
  split at ho
  · exact Schema_branch_t hcall _ _ _ h ho
  · cases ho
def Schema_nextPart_f (call : ax_Cf) (av : List ax_T) (h : ax_Hp) : ax_O := match av with
  | [Sum.inr (Sum.inr x0), Sum.inl x1] => Schema_nextPart_b call x0 x1 h
  | _ => none
theorem Schema_nextPart_ft {l : Launch} {G : ax_G} {d : Nat} {call : ax_Cf} (hcall : ax_Hc l G d call) (hd8 : 8 ≤ d) (hl : l.stackTraces = false) (av : List ax_T) (h : ax_Hp) (r : ax_Rs) (h1 : ax_Hp) (ho : Schema_nextPart_f call av h = some (r, h1)) : ax_C l G (d + 1) (ax_mn 63) (ax_mc 63) av h r h1 := by
  unfold Schema_nextPart_f at ho
  split at ho
  · exact Schema_nextPart_t hcall _ _ h ho
  · cases ho
def ValueReader_readFields_f (call : ax_Cf) (av : List ax_T) (h : ax_Hp) : ax_O := match av with
  | [Sum.inr (Sum.inr x0), Sum.inl x1, Sum.inl x2] => ValueReader_readFields_b call x0 x1 x2 h
  | _ => none
theorem ValueReader_readFields_ft {l : Launch} {G : ax_G} {d : Nat} {call : ax_Cf} (hcall : ax_Hc l G d call) (hd8 : 8 ≤ d) (hl : l.stackTraces = false) (av : List ax_T) (h : ax_Hp) (r : ax_Rs) (h1 : ax_Hp) (ho : ValueReader_readFields_f call av h = some (r, h1)) : ax_C l G (d + 1) (ax_mn 64) (ax_mc 64) av h r h1 := by
  unfold ValueReader_readFields_f at ho
  split at ho
  · exact ValueReader_readFields_t hcall _ _ _ h ho
  · cases ho
def Schema_fieldType_f (call : ax_Cf) (av : List ax_T) (h : ax_Hp) : ax_O := match av with
  | [Sum.inr (Sum.inr x0), Sum.inl x1] => Schema_fieldType_b call x0 x1 h
  | _ => none
theorem Schema_fieldType_ft {l : Launch} {G : ax_G} {d : Nat} {call : ax_Cf} (hcall : ax_Hc l G d call) (hd8 : 8 ≤ d) (hl : l.stackTraces = false) (av : List ax_T) (h : ax_Hp) (r : ax_Rs) (h1 : ax_Hp) (ho : Schema_fieldType_f call av h = some (r, h1)) : ax_C l G (d + 1) (ax_mn 65) (ax_mc 65) av h r h1 := by
  unfold Schema_fieldType_f at ho
  split at ho
  · exact Schema_fieldType_t hcall _ _ h ho
  · cases ho
def Subject_numberOf_f (call : ax_Cf) (av : List ax_T) (h : ax_Hp) : ax_O := match av with
  | [Sum.inr (Sum.inr x0), Sum.inr (Sum.inr x1)] => Subject_numberOf_b call x0 x1 h
  | _ => none
theorem Subject_numberOf_ft {l : Launch} {G : ax_G} {d : Nat} {call : ax_Cf} (hcall : ax_Hc l G d call) (hd8 : 8 ≤ d) (hl : l.stackTraces = false) (av : List ax_T) (h : ax_Hp) (r : ax_Rs) (h1 : ax_Hp) (ho : Subject_numberOf_f call av h = some (r, h1)) : ax_C l G (d + 1) (ax_mn 66) (ax_mc 66) av h r h1 := by
  unfold Subject_numberOf_f at ho
  split at ho
  · exact Subject_numberOf_t hcall _ _ h ho
  · cases ho
def Schema_sameTextAs_f (call : ax_Cf) (av : List ax_T) (h : ax_Hp) : ax_O := match av with
  | [Sum.inr (Sum.inr x0), Sum.inr (Sum.inr x1)] => Schema_sameTextAs_b call x0 x1 h
  | _ => none
theorem Schema_sameTextAs_ft {l : Launch} {G : ax_G} {d : Nat} {call : ax_Cf} (hcall : ax_Hc l G d call) (hd8 : 8 ≤ d) (hl : l.stackTraces = false) (av : List ax_T) (h : ax_Hp) (r : ax_Rs) (h1 : ax_Hp) (ho : Schema_sameTextAs_f call av h = some (r, h1)) : ax_C l G (d + 1) (ax_mn 67) (ax_mc 67) av h r h1 := by
  unfold Schema_sameTextAs_f at ho
  split at ho
  · exact Schema_sameTextAs_t hcall _ _ h ho
  · cases ho
def Row_sameAs_f (call : ax_Cf) (av : List ax_T) (h : ax_Hp) : ax_O := match av with
  | [Sum.inr (Sum.inr x0), Sum.inr (Sum.inr x1)] => Row_sameAs_b call x0 x1 h
  | _ => none
theorem Row_sameAs_ft {l : Launch} {G : ax_G} {d : Nat} {call : ax_Cf} (hcall : ax_Hc l G d call) (hd8 : 8 ≤ d) (hl : l.stackTraces = false) (av : List ax_T) (h : ax_Hp) (r : ax_Rs) (h1 : ax_Hp) (ho : Row_sameAs_f call av h = some (r, h1)) : ax_C l G (d + 1) (ax_mn 68) (ax_mc 68) av h r h1 := by
  unfold Row_sameAs_f at ho
  split at ho
  · exact Row_sameAs_t hcall _ _ h ho
  · cases ho
def Subject_admits_f (call : ax_Cf) (av : List ax_T) (h : ax_Hp) : ax_O := match av with
  | [Sum.inr (Sum.inr x0), Sum.inr (Sum.inr x1)] => Subject_admits_b call x0 x1 h
  | _ => none
theorem Subject_admits_ft {l : Launch} {G : ax_G} {d : Nat} {call : ax_Cf} (hcall : ax_Hc l G d call) (hd8 : 8 ≤ d) (hl : l.stackTraces = false) (av : List ax_T) (h : ax_Hp) (r : ax_Rs) (h1 : ax_Hp) (ho : Subject_admits_f call av h = some (r, h1)) : ax_C l G (d + 1) (ax_mn 69) (ax_mc 69) av h r h1 := by
  unfold Subject_admits_f at ho
  split at ho
  · exact Subject_admits_t hcall _ _ h ho
  · cases ho
def Subject_getOn_f (call : ax_Cf) (av : List ax_T) (h : ax_Hp) : ax_O := match av with
  | [Sum.inr (Sum.inr x0), Sum.inr (Sum.inr x1), Sum.inr (Sum.inr x2)] => Subject_getOn_b call x0 x1 x2 h
  | _ => none
theorem Subject_getOn_ft {l : Launch} {G : ax_G} {d : Nat} {call : ax_Cf} (hcall : ax_Hc l G d call) (hd8 : 8 ≤ d) (hl : l.stackTraces = false) (av : List ax_T) (h : ax_Hp) (r : ax_Rs) (h1 : ax_Hp) (ho : Subject_getOn_f call av h = some (r, h1)) : ax_C l G (d + 1) (ax_mn 70) (ax_mc 70) av h r h1 := by
  unfold Subject_getOn_f at ho
  split at ho
  · exact Subject_getOn_t hcall _ _ _ h ho
  · cases ho
def Compatibility_canRead_f (call : ax_Cf) (av : List ax_T) (h : ax_Hp) : ax_O := match av with
  | [Sum.inr (Sum.inr x0), Sum.inr (Sum.inr x1)] => Compatibility_canRead_b call x0 x1 h
  | _ => none
theorem Compatibility_canRead_ft {l : Launch} {G : ax_G} {d : Nat} {call : ax_Cf} (hcall : ax_Hc l G d call) (hd8 : 8 ≤ d) (hl : l.stackTraces = false) (av : List ax_T) (h : ax_Hp) (r : ax_Rs) (h1 : ax_Hp) (ho : Compatibility_canRead_f call av h = some (r, h1)) : ax_C l G (d + 1) (ax_mn 71) (ax_mc 71) av h r h1 := by
  unfold Compatibility_canRead_f at ho
  split at ho
  · exact Compatibility_canRead_t hcall _ _ h ho
  · cases ho
def Compatibility_canReadType_f (call : ax_Cf) (av : List ax_T) (h : ax_Hp) : ax_O := match av with
  | [Sum.inr (Sum.inr x0), Sum.inl x1, Sum.inr (Sum.inr x2), Sum.inl x3, Sum.inl x4] => Compatibility_canReadType_b call x0 x1 x2 x3 x4 h
  | _ => none
theorem Compatibility_canReadType_ft {l : Launch} {G : ax_G} {d : Nat} {call : ax_Cf} (hcall : ax_Hc l G d call) (hd8 : 8 ≤ d) (hl : l.stackTraces = false) (av : List ax_T) (h : ax_Hp) (r : ax_Rs) (h1 : ax_Hp) (ho : Compatibility_canReadType_f call av h = some (r, h1)) : ax_C l G (d + 1) (ax_mn 72) (ax_mc 72) av h r h1 := by
  unfold Compatibility_canReadType_f at ho
  split at ho
  · exact Compatibility_canReadType_t hcall _ _ _ _ _ h ho
  · cases ho
def Compatibility_canReadBranches_f (call : ax_Cf) (av : List ax_T) (h : ax_Hp) : ax_O := match av with
  | [Sum.inr (Sum.inr x0), Sum.inl x1, Sum.inr (Sum.inr x2), Sum.inl x3, Sum.inl x4] => Compatibility_canReadBranches_b call x0 x1 x2 x3 x4 h
  | _ => none
theorem Compatibility_canReadBranches_ft {l : Launch} {G : ax_G} {d : Nat} {call : ax_Cf} (hcall : ax_Hc l G d call) (hd8 : 8 ≤ d) (hl : l.stackTraces = false) (av : List ax_T) (h : ax_Hp) (r : ax_Rs) (h1 : ax_Hp) (ho : Compatibility_canReadBranches_f call av h = some (r, h1)) : ax_C l G (d + 1) (ax_mn 73) (ax_mc 73) av h r h1 := by
  unfold Compatibility_canReadBranches_f at ho
  split at ho
  · exact Compatibility_canReadBranches_t hcall _ _ _ _ _ h ho
  · cases ho
def Compatibility_readingBranch_f (call : ax_Cf) (av : List ax_T) (h : ax_Hp) : ax_O := match av with
  | [Sum.inr (Sum.inr x0), Sum.inl x1, Sum.inr (Sum.inr x2), Sum.inl x3, Sum.inl x4] => Compatibility_readingBranch_b call x0 x1 x2 x3 x4 h
  | _ => none
theorem Compatibility_readingBranch_ft {l : Launch} {G : ax_G} {d : Nat} {call : ax_Cf} (hcall : ax_Hc l G d call) (hd8 : 8 ≤ d) (hl : l.stackTraces = false) (av : List ax_T) (h : ax_Hp) (r : ax_Rs) (h1 : ax_Hp) (ho : Compatibility_readingBranch_f call av h = some (r, h1)) : ax_C l G (d + 1) (ax_mn 74) (ax_mc 74) av h r h1 := by
  unfold Compatibility_readingBranch_f at ho
  split at ho
  · exact Compatibility_readingBranch_t hcall _ _ _ _ _ h ho
  · cases ho
def Compatibility_canReadSymbols_f (call : ax_Cf) (av : List ax_T) (h : ax_Hp) : ax_O := match av with
  | [Sum.inr (Sum.inr x0), Sum.inl x1, Sum.inr (Sum.inr x2), Sum.inl x3] => Compatibility_canReadSymbols_b call x0 x1 x2 x3 h
  | _ => none
theorem Compatibility_canReadSymbols_ft {l : Launch} {G : ax_G} {d : Nat} {call : ax_Cf} (hcall : ax_Hc l G d call) (hd8 : 8 ≤ d) (hl : l.stackTraces = false) (av : List ax_T) (h : ax_Hp) (r : ax_Rs) (h1 : ax_Hp) (ho : Compatibility_canReadSymbols_f call av h = some (r, h1)) : ax_C l G (d + 1) (ax_mn 75) (ax_mc 75) av h r h1 := by
  unfold Compatibility_canReadSymbols_f at ho
  split at ho
  · exact Compatibility_canReadSymbols_t hcall _ _ _ _ h ho
  · cases ho
def Schema_symbolDefault_f (call : ax_Cf) (av : List ax_T) (h : ax_Hp) : ax_O := match av with
  | [Sum.inr (Sum.inr x0), Sum.inl x1] => Schema_symbolDefault_b call x0 x1 h
  | _ => none
theorem Schema_symbolDefault_ft {l : Launch} {G : ax_G} {d : Nat} {call : ax_Cf} (hcall : ax_Hc l G d call) (hd8 : 8 ≤ d) (hl : l.stackTraces = false) (av : List ax_T) (h : ax_Hp) (r : ax_Rs) (h1 : ax_Hp) (ho : Schema_symbolDefault_f call av h = some (r, h1)) : ax_C l G (d + 1) (ax_mn 76) (ax_mc 76) av h r h1 := by
  unfold Schema_symbolDefault_f at ho
  split at ho
  · exact Schema_symbolDefault_t hcall _ _ h ho
  · cases ho
def Schema_end_f (call : ax_Cf) (av : List ax_T) (h : ax_Hp) : ax_O := match av with
  | [Sum.inr (Sum.inr x0), Sum.inl x1] => Schema_end_b call x0 x1 h
  | _ => none
theorem Schema_end_ft {l : Launch} {G : ax_G} {d : Nat} {call : ax_Cf} (hcall : ax_Hc l G d call) (hd8 : 8 ≤ d) (hl : l.stackTraces = false) (av : List ax_T) (h : ax_Hp) (r : ax_Rs) (h1 : ax_Hp) (ho : Schema_end_f call av h = some (r, h1)) : ax_C l G (d + 1) (ax_mn 77) (ax_mc 77) av h r h1 := by
  unfold Schema_end_f at ho
  split at ho
  · exact Schema_end_t hcall _ _ h ho
  · cases ho
def Schema_symbolCount_f (call : ax_Cf) (av : List ax_T) (h : ax_Hp) : ax_O := match av with
  | [Sum.inr (Sum.inr x0), Sum.inl x1] => Schema_symbolCount_b call x0 x1 h
  | _ => none
theorem Schema_symbolCount_ft {l : Launch} {G : ax_G} {d : Nat} {call : ax_Cf} (hcall : ax_Hc l G d call) (hd8 : 8 ≤ d) (hl : l.stackTraces = false) (av : List ax_T) (h : ax_Hp) (r : ax_Rs) (h1 : ax_Hp) (ho : Schema_symbolCount_f call av h = some (r, h1)) : ax_C l G (d + 1) (ax_mn 78) (ax_mc 78) av h r h1 := by
  unfold Schema_symbolCount_f at ho
  split at ho
  · exact Schema_symbolCount_t hcall _ _ h ho
  · cases ho
def Schema_symbol_f (call : ax_Cf) (av : List ax_T) (h : ax_Hp) : ax_O := match av with
  | [Sum.inr (Sum.inr x0), Sum.inl x1, Sum.inl x2] => Schema_symbol_b call x0 x1 x2 h
  | _ => none
theorem Schema_symbol_ft {l : Launch} {G : ax_G} {d : Nat} {call : ax_Cf} (hcall : ax_Hc l G d call) (hd8 : 8 ≤ d) (hl : l.stackTraces = false) (av : List ax_T) (h : ax_Hp) (r : ax_Rs) (h1 : ax_Hp) (ho : Schema_symbol_f call av h = some (r, h1)) : ax_C l G (d + 1) (ax_mn 79) (ax_mc 79) av h r h1 := by
  unfold Schema_symbol_f at ho
  split at ho
  · exact Schema_symbol_t hcall _ _ _ h ho
  · cases ho
def Compatibility_canReadFields_f (call : ax_Cf) (av : List ax_T) (h : ax_Hp) : ax_O := match av with
  | [Sum.inr (Sum.inr x0), Sum.inl x1, Sum.inr (Sum.inr x2), Sum.inl x3, Sum.inl x4] => Compatibility_canReadFields_b call x0 x1 x2 x3 x4 h
  | _ => none
theorem Compatibility_canReadFields_ft {l : Launch} {G : ax_G} {d : Nat} {call : ax_Cf} (hcall : ax_Hc l G d call) (hd8 : 8 ≤ d) (hl : l.stackTraces = false) (av : List ax_T) (h : ax_Hp) (r : ax_Rs) (h1 : ax_Hp) (ho : Compatibility_canReadFields_f call av h = some (r, h1)) : ax_C l G (d + 1) (ax_mn 80) (ax_mc 80) av h r h1 := by
  unfold Compatibility_canReadFields_f at ho
  split at ho
  · exact Compatibility_canReadFields_t hcall _ _ _ _ _ h ho
  · cases ho
def Schema_at_f (call : ax_Cf) (av : List ax_T) (h : ax_Hp) : ax_O := match av with
  | [Sum.inr (Sum.inr x0), Sum.inl x1] => Schema_at_b call x0 x1 h
  | _ => none
theorem Schema_at_ft {l : Launch} {G : ax_G} {d : Nat} {call : ax_Cf} (hcall : ax_Hc l G d call) (hd8 : 8 ≤ d) (hl : l.stackTraces = false) (av : List ax_T) (h : ax_Hp) (r : ax_Rs) (h1 : ax_Hp) (ho : Schema_at_f call av h = some (r, h1)) : ax_C l G (d + 1) (ax_mn 81) (ax_mc 81) av h r h1 := by
  unfold Schema_at_f at ho
  split at ho
  · exact Schema_at_t hcall _ _ h ho
  · cases ho
def Schema_fieldNamed_f (call : ax_Cf) (av : List ax_T) (h : ax_Hp) : ax_O := match av with
  | [Sum.inr (Sum.inr x0), Sum.inl x1, Sum.inl x2] => Schema_fieldNamed_b call x0 x1 x2 h
  | _ => none
theorem Schema_fieldNamed_ft {l : Launch} {G : ax_G} {d : Nat} {call : ax_Cf} (hcall : ax_Hc l G d call) (hd8 : 8 ≤ d) (hl : l.stackTraces = false) (av : List ax_T) (h : ax_Hp) (r : ax_Rs) (h1 : ax_Hp) (ho : Schema_fieldNamed_f call av h = some (r, h1)) : ax_C l G (d + 1) (ax_mn 82) (ax_mc 82) av h r h1 := by
  unfold Schema_fieldNamed_f at ho
  split at ho
  · exact Schema_fieldNamed_t hcall _ _ _ h ho
  · cases ho
def Schema_fieldDefault_f (call : ax_Cf) (av : List ax_T) (h : ax_Hp) : ax_O := match av with
  | [Sum.inr (Sum.inr x0), Sum.inl x1] => Schema_fieldDefault_b call x0 x1 h
  | _ => none
theorem Schema_fieldDefault_ft {l : Launch} {G : ax_G} {d : Nat} {call : ax_Cf} (hcall : ax_Hc l G d call) (hd8 : 8 ≤ d) (hl : l.stackTraces = false) (av : List ax_T) (h : ax_Hp) (r : ax_Rs) (h1 : ax_Hp) (ho : Schema_fieldDefault_f call av h = some (r, h1)) : ax_C l G (d + 1) (ax_mn 83) (ax_mc 83) av h r h1 := by
  unfold Schema_fieldDefault_f at ho
  split at ho
  · exact Schema_fieldDefault_t hcall _ _ h ho
  · cases ho
def Schema_copy_f (call : ax_Cf) (av : List ax_T) (h : ax_Hp) : ax_O := match av with
  | [Sum.inr (Sum.inr x0)] => Schema_copy_b call x0 h
  | _ => none
theorem Schema_copy_ft {l : Launch} {G : ax_G} {d : Nat} {call : ax_Cf} (hcall : ax_Hc l G d call) (hd8 : 8 ≤ d) (hl : l.stackTraces = false) (av : List ax_T) (h : ax_Hp) (r : ax_Rs) (h1 : ax_Hp) (ho : Schema_copy_f call av h = some (r, h1)) : ax_C l G (d + 1) (ax_mn 84) (ax_mc 84) av h r h1 := by
  unfold Schema_copy_f at ho
  split at ho
  · exact Schema_copy_t hcall _ h ho
  · cases ho
def Row_copy_f (call : ax_Cf) (av : List ax_T) (h : ax_Hp) : ax_O := match av with
  | [Sum.inr (Sum.inr x0)] => Row_copy_b call x0 h
  | _ => none
theorem Row_copy_ft {l : Launch} {G : ax_G} {d : Nat} {call : ax_Cf} (hcall : ax_Hc l G d call) (hd8 : 8 ≤ d) (hl : l.stackTraces = false) (av : List ax_T) (h : ax_Hp) (r : ax_Rs) (h1 : ax_Hp) (ho : Row_copy_f call av h = some (r, h1)) : ax_C l G (d + 1) (ax_mn 85) (ax_mc 85) av h r h1 := by
  unfold Row_copy_f at ho
  split at ho
  · exact Row_copy_t hcall _ h ho
  · cases ho
def Subject_add_f (call : ax_Cf) (av : List ax_T) (h : ax_Hp) : ax_O := match av with
  | [Sum.inr (Sum.inr x0), Sum.inr (Sum.inr x1)] => Subject_add_b call x0 x1 h
  | _ => none
theorem Subject_add_ft {l : Launch} {G : ax_G} {d : Nat} {call : ax_Cf} (hcall : ax_Hc l G d call) (hd8 : 8 ≤ d) (hl : l.stackTraces = false) (av : List ax_T) (h : ax_Hp) (r : ax_Rs) (h1 : ax_Hp) (ho : Subject_add_f call av h = some (r, h1)) : ax_C l G (d + 1) (ax_mn 88) (ax_mc 88) av h r h1 := by
  unfold Subject_add_f at ho
  split at ho
  · exact Subject_add_t hcall _ _ h ho
  · cases ho
def Law_versions_f (call : ax_Cf) (av : List ax_T) (h : ax_Hp) : ax_O := match av with
  | [Sum.inr (Sum.inr x0), Sum.inl x1, Sum.inr (Sum.inr x2)] => Law_versions_b call x0 x1 x2 h
  | _ => none
theorem Law_versions_ft {l : Launch} {G : ax_G} {d : Nat} {call : ax_Cf} (hcall : ax_Hc l G d call) (hd8 : 8 ≤ d) (hl : l.stackTraces = false) (av : List ax_T) (h : ax_Hp) (r : ax_Rs) (h1 : ax_Hp) (ho : Law_versions_f call av h = some (r, h1)) : ax_C l G (d + 1) (ax_mn 89) (ax_mc 89) av h r h1 := by
  unfold Law_versions_f at ho
  split at ho
  · exact Law_versions_t hcall _ _ _ h ho
  · cases ho
def Desk_versions_f (call : ax_Cf) (av : List ax_T) (h : ax_Hp) : ax_O := match av with
  | [Sum.inr (Sum.inr x0), Sum.inl x1] => Desk_versions_b call x0 x1 h
  | _ => none
theorem Desk_versions_ft {l : Launch} {G : ax_G} {d : Nat} {call : ax_Cf} (hcall : ax_Hc l G d call) (hd8 : 8 ≤ d) (hl : l.stackTraces = false) (av : List ax_T) (h : ax_Hp) (r : ax_Rs) (h1 : ax_Hp) (ho : Desk_versions_f call av h = some (r, h1)) : ax_C l G (d + 1) (ax_mn 90) (ax_mc 90) av h r h1 := by
  unfold Desk_versions_f at ho
  split at ho
  · exact Desk_versions_t hcall _ _ h ho
  · cases ho
def Subject_count_f (call : ax_Cf) (av : List ax_T) (h : ax_Hp) : ax_O := match av with
  | [Sum.inr (Sum.inr x0)] => Subject_count_b call x0 h
  | _ => none
theorem Subject_count_ft {l : Launch} {G : ax_G} {d : Nat} {call : ax_Cf} (hcall : ax_Hc l G d call) (hd8 : 8 ≤ d) (hl : l.stackTraces = false) (av : List ax_T) (h : ax_Hp) (r : ax_Rs) (h1 : ax_Hp) (ho : Subject_count_f call av h = some (r, h1)) : ax_C l G (d + 1) (ax_mn 91) (ax_mc 91) av h r h1 := by
  unfold Subject_count_f at ho
  split at ho
  · exact Subject_count_t hcall _ h ho
  · cases ho
def Law_reads_f (call : ax_Cf) (av : List ax_T) (h : ax_Hp) : ax_O := match av with
  | [Sum.inr (Sum.inr x0), Sum.inl x1, Sum.inl x2, Sum.inl x3, Sum.inr (Sum.inr x4)] => Law_reads_b call x0 x1 x2 x3 x4 h
  | _ => none
theorem Law_reads_ft {l : Launch} {G : ax_G} {d : Nat} {call : ax_Cf} (hcall : ax_Hc l G d call) (hd8 : 8 ≤ d) (hl : l.stackTraces = false) (av : List ax_T) (h : ax_Hp) (r : ax_Rs) (h1 : ax_Hp) (ho : Law_reads_f call av h = some (r, h1)) : ax_C l G (d + 1) (ax_mn 92) (ax_mc 92) av h r h1 := by
  unfold Law_reads_f at ho
  split at ho
  · exact Law_reads_t hcall _ _ _ _ _ h ho
  · cases ho
def Desk_reads_f (call : ax_Cf) (av : List ax_T) (h : ax_Hp) : ax_O := match av with
  | [Sum.inr (Sum.inr x0), Sum.inl x1, Sum.inl x2, Sum.inl x3] => Desk_reads_b call x0 x1 x2 x3 h
  | _ => none
theorem Desk_reads_ft {l : Launch} {G : ax_G} {d : Nat} {call : ax_Cf} (hcall : ax_Hc l G d call) (hd8 : 8 ≤ d) (hl : l.stackTraces = false) (av : List ax_T) (h : ax_Hp) (r : ax_Rs) (h1 : ax_Hp) (ho : Desk_reads_f call av h = some (r, h1)) : ax_C l G (d + 1) (ax_mn 93) (ax_mc 93) av h r h1 := by
  unfold Desk_reads_f at ho
  split at ho
  · exact Desk_reads_t hcall _ _ _ _ h ho
  · cases ho
def Desk_versionAt_f (call : ax_Cf) (av : List ax_T) (h : ax_Hp) : ax_O := match av with
  | [Sum.inr (Sum.inr x0), Sum.inl x1, Sum.inl x2] => Desk_versionAt_b call x0 x1 x2 h
  | _ => none
theorem Desk_versionAt_ft {l : Launch} {G : ax_G} {d : Nat} {call : ax_Cf} (hcall : ax_Hc l G d call) (hd8 : 8 ≤ d) (hl : l.stackTraces = false) (av : List ax_T) (h : ax_Hp) (r : ax_Rs) (h1 : ax_Hp) (ho : Desk_versionAt_f call av h = some (r, h1)) : ax_C l G (d + 1) (ax_mn 94) (ax_mc 94) av h r h1 := by
  unfold Desk_versionAt_f at ho
  split at ho
  · exact Desk_versionAt_t hcall hd8 hl _ _ _ h ho
  · cases ho
def Subject_version_f (call : ax_Cf) (av : List ax_T) (h : ax_Hp) : ax_O := match av with
  | [Sum.inr (Sum.inr x0), Sum.inl x1] => Subject_version_b call x0 x1 h
  | _ => none
theorem Subject_version_ft {l : Launch} {G : ax_G} {d : Nat} {call : ax_Cf} (hcall : ax_Hc l G d call) (hd8 : 8 ≤ d) (hl : l.stackTraces = false) (av : List ax_T) (h : ax_Hp) (r : ax_Rs) (h1 : ax_Hp) (ho : Subject_version_f call av h = some (r, h1)) : ax_C l G (d + 1) (ax_mn 95) (ax_mc 95) av h r h1 := by
  unfold Subject_version_f at ho
  split at ho
  · exact Subject_version_t hcall _ _ h ho
  · cases ho
def Law_print_f (call : ax_Cf) (av : List ax_T) (h : ax_Hp) : ax_O := match av with
  | [Sum.inr (Sum.inr x0), Sum.inl x1, Sum.inl x2, Sum.inl x3, Sum.inr (Sum.inr x4)] => Law_print_b call x0 x1 x2 x3 x4 h
  | _ => none
theorem Law_print_ft {l : Launch} {G : ax_G} {d : Nat} {call : ax_Cf} (hcall : ax_Hc l G d call) (hd8 : 8 ≤ d) (hl : l.stackTraces = false) (av : List ax_T) (h : ax_Hp) (r : ax_Rs) (h1 : ax_Hp) (ho : Law_print_f call av h = some (r, h1)) : ax_C l G (d + 1) (ax_mn 96) (ax_mc 96) av h r h1 := by
  unfold Law_print_f at ho
  split at ho
  · exact Law_print_t hcall _ _ _ _ _ h ho
  · cases ho
def Desk_print_f (call : ax_Cf) (av : List ax_T) (h : ax_Hp) : ax_O := match av with
  | [Sum.inr (Sum.inr x0), Sum.inl x1, Sum.inl x2, Sum.inl x3] => Desk_print_b call x0 x1 x2 x3 h
  | _ => none
theorem Desk_print_ft {l : Launch} {G : ax_G} {d : Nat} {call : ax_Cf} (hcall : ax_Hc l G d call) (hd8 : 8 ≤ d) (hl : l.stackTraces = false) (av : List ax_T) (h : ax_Hp) (r : ax_Rs) (h1 : ax_Hp) (ho : Desk_print_f call av h = some (r, h1)) : ax_C l G (d + 1) (ax_mn 97) (ax_mc 97) av h r h1 := by
  unfold Desk_print_f at ho
  split at ho
  · exact Desk_print_t hcall _ _ _ _ h ho
  · cases ho
def Schema_copyBareTo_f (call : ax_Cf) (av : List ax_T) (h : ax_Hp) : ax_O := match av with
  | [Sum.inr (Sum.inr x0), Sum.inr (Sum.inr x1)] => Schema_copyBareTo_b call x0 x1 h
  | _ => none
theorem Schema_copyBareTo_ft {l : Launch} {G : ax_G} {d : Nat} {call : ax_Cf} (hcall : ax_Hc l G d call) (hd8 : 8 ≤ d) (hl : l.stackTraces = false) (av : List ax_T) (h : ax_Hp) (r : ax_Rs) (h1 : ax_Hp) (ho : Schema_copyBareTo_f call av h = some (r, h1)) : ax_C l G (d + 1) (ax_mn 98) (ax_mc 98) av h r h1 := by
  unfold Schema_copyBareTo_f at ho
  split at ho
  · exact Schema_copyBareTo_t hcall _ _ h ho
  · cases ho
def Schema_copyTo_f (call : ax_Cf) (av : List ax_T) (h : ax_Hp) : ax_O := match av with
  | [Sum.inr (Sum.inr x0), Sum.inr (Sum.inr x1)] => Schema_copyTo_b call x0 x1 h
  | _ => none
theorem Schema_copyTo_ft {l : Launch} {G : ax_G} {d : Nat} {call : ax_Cf} (hcall : ax_Hc l G d call) (hd8 : 8 ≤ d) (hl : l.stackTraces = false) (av : List ax_T) (h : ax_Hp) (r : ax_Rs) (h1 : ax_Hp) (ho : Schema_copyTo_f call av h = some (r, h1)) : ax_C l G (d + 1) (ax_mn 99) (ax_mc 99) av h r h1 := by
  unfold Schema_copyTo_f at ho
  split at ho
  · exact Schema_copyTo_t hcall _ _ h ho
  · cases ho
def Desk_showDraft_f (call : ax_Cf) (av : List ax_T) (h : ax_Hp) : ax_O := match av with
  | [Sum.inr (Sum.inr x0)] => Desk_showDraft_b call x0 h
  | _ => none
theorem Desk_showDraft_ft {l : Launch} {G : ax_G} {d : Nat} {call : ax_Cf} (hcall : ax_Hc l G d call) (hd8 : 8 ≤ d) (hl : l.stackTraces = false) (av : List ax_T) (h : ax_Hp) (r : ax_Rs) (h1 : ax_Hp) (ho : Desk_showDraft_f call av h = some (r, h1)) : ax_C l G (d + 1) (ax_mn 100) (ax_mc 100) av h r h1 := by
  unfold Desk_showDraft_f at ho
  split at ho
  · exact Desk_showDraft_t hcall _ h ho
  · cases ho
def Law_fingerprint_f (call : ax_Cf) (av : List ax_T) (h : ax_Hp) : ax_O := match av with
  | [Sum.inr (Sum.inr x0), Sum.inl x1, Sum.inl x2, Sum.inr (Sum.inr x3)] => Law_fingerprint_b call x0 x1 x2 x3 h
  | _ => none
theorem Law_fingerprint_ft {l : Launch} {G : ax_G} {d : Nat} {call : ax_Cf} (hcall : ax_Hc l G d call) (hd8 : 8 ≤ d) (hl : l.stackTraces = false) (av : List ax_T) (h : ax_Hp) (r : ax_Rs) (h1 : ax_Hp) (ho : Law_fingerprint_f call av h = some (r, h1)) : ax_C l G (d + 1) (ax_mn 101) (ax_mc 101) av h r h1 := by
  unfold Law_fingerprint_f at ho
  split at ho
  · exact Law_fingerprint_t hcall _ _ _ _ h ho
  · cases ho
def Desk_fingerprint_f (call : ax_Cf) (av : List ax_T) (h : ax_Hp) : ax_O := match av with
  | [Sum.inr (Sum.inr x0), Sum.inl x1, Sum.inl x2] => Desk_fingerprint_b call x0 x1 x2 h
  | _ => none
theorem Desk_fingerprint_ft {l : Launch} {G : ax_G} {d : Nat} {call : ax_Cf} (hcall : ax_Hc l G d call) (hd8 : 8 ≤ d) (hl : l.stackTraces = false) (av : List ax_T) (h : ax_Hp) (r : ax_Rs) (h1 : ax_Hp) (ho : Desk_fingerprint_f call av h = some (r, h1)) : ax_C l G (d + 1) (ax_mn 102) (ax_mc 102) av h r h1 := by
  unfold Desk_fingerprint_f at ho
  split at ho
  · exact Desk_fingerprint_t hcall _ _ _ h ho
  · cases ho
def Desk_mixed_f (call : ax_Cf) (av : List ax_T) (h : ax_Hp) : ax_O := match av with
  | [Sum.inr (Sum.inl x0)] => Desk_mixed_b call x0 h
  | _ => none
theorem Desk_mixed_ft {l : Launch} {G : ax_G} {d : Nat} {call : ax_Cf} (hcall : ax_Hc l G d call) (hd8 : 8 ≤ d) (hl : l.stackTraces = false) (av : List ax_T) (h : ax_Hp) (r : ax_Rs) (h1 : ax_Hp) (ho : Desk_mixed_f call av h = some (r, h1)) : ax_C l G (d + 1) (ax_mn 103) (ax_mc 103) av h r h1 := by
  unfold Desk_mixed_f at ho
  split at ho
  · exact Desk_mixed_t hcall _ h ho
  · cases ho
def Law_encode_f (call : ax_Cf) (av : List ax_T) (h : ax_Hp) : ax_O := match av with
  | [Sum.inr (Sum.inr x0), Sum.inl x1, Sum.inl x2, Sum.inr (Sum.inr x3)] => Law_encode_b call x0 x1 x2 x3 h
  | _ => none
theorem Law_encode_ft {l : Launch} {G : ax_G} {d : Nat} {call : ax_Cf} (hcall : ax_Hc l G d call) (hd8 : 8 ≤ d) (hl : l.stackTraces = false) (av : List ax_T) (h : ax_Hp) (r : ax_Rs) (h1 : ax_Hp) (ho : Law_encode_f call av h = some (r, h1)) : ax_C l G (d + 1) (ax_mn 104) (ax_mc 104) av h r h1 := by
  unfold Law_encode_f at ho
  split at ho
  · exact Law_encode_t hcall _ _ _ _ h ho
  · cases ho
def Desk_encode_f (call : ax_Cf) (av : List ax_T) (h : ax_Hp) : ax_O := match av with
  | [Sum.inr (Sum.inr x0), Sum.inl x1, Sum.inl x2] => Desk_encode_b call x0 x1 x2 h
  | _ => none
theorem Desk_encode_ft {l : Launch} {G : ax_G} {d : Nat} {call : ax_Cf} (hcall : ax_Hc l G d call) (hd8 : 8 ≤ d) (hl : l.stackTraces = false) (av : List ax_T) (h : ax_Hp) (r : ax_Rs) (h1 : ax_Hp) (ho : Desk_encode_f call av h = some (r, h1)) : ax_C l G (d + 1) (ax_mn 105) (ax_mc 105) av h r h1 := by
  unfold Desk_encode_f at ho
  split at ho
  · exact Desk_encode_t hcall hd8 hl _ _ _ h ho
  · cases ho
def ValueReader_readWhole_f (call : ax_Cf) (av : List ax_T) (h : ax_Hp) : ax_O := match av with
  | [Sum.inr (Sum.inr x0)] => ValueReader_readWhole_b call x0 h
  | _ => none
theorem ValueReader_readWhole_ft {l : Launch} {G : ax_G} {d : Nat} {call : ax_Cf} (hcall : ax_Hc l G d call) (hd8 : 8 ≤ d) (hl : l.stackTraces = false) (av : List ax_T) (h : ax_Hp) (r : ax_Rs) (h1 : ax_Hp) (ho : ValueReader_readWhole_f call av h = some (r, h1)) : ax_C l G (d + 1) (ax_mn 106) (ax_mc 106) av h r h1 := by
  unfold ValueReader_readWhole_f at ho
  split at ho
  · exact ValueReader_readWhole_t hcall _ h ho
  · cases ho
def Law_decode_f (call : ax_Cf) (av : List ax_T) (h : ax_Hp) : ax_O := match av with
  | [Sum.inr (Sum.inr x0), Sum.inl x1, Sum.inl x2, Sum.inl x3, Sum.inr (Sum.inr x4)] => Law_decode_b call x0 x1 x2 x3 x4 h
  | _ => none
theorem Law_decode_ft {l : Launch} {G : ax_G} {d : Nat} {call : ax_Cf} (hcall : ax_Hc l G d call) (hd8 : 8 ≤ d) (hl : l.stackTraces = false) (av : List ax_T) (h : ax_Hp) (r : ax_Rs) (h1 : ax_Hp) (ho : Law_decode_f call av h = some (r, h1)) : ax_C l G (d + 1) (ax_mn 107) (ax_mc 107) av h r h1 := by
  unfold Law_decode_f at ho
  split at ho
  · exact Law_decode_t hcall _ _ _ _ _ h ho
  · cases ho
def Desk_decode_f (call : ax_Cf) (av : List ax_T) (h : ax_Hp) : ax_O := match av with
  | [Sum.inr (Sum.inr x0), Sum.inl x1, Sum.inl x2, Sum.inl x3] => Desk_decode_b call x0 x1 x2 x3 h
  | _ => none
theorem Desk_decode_ft {l : Launch} {G : ax_G} {d : Nat} {call : ax_Cf} (hcall : ax_Hc l G d call) (hd8 : 8 ≤ d) (hl : l.stackTraces = false) (av : List ax_T) (h : ax_Hp) (r : ax_Rs) (h1 : ax_Hp) (ho : Desk_decode_f call av h = some (r, h1)) : ax_C l G (d + 1) (ax_mn 108) (ax_mc 108) av h r h1 := by
  unfold Desk_decode_f at ho
  split at ho
  · exact Desk_decode_t hcall hd8 hl _ _ _ _ h ho
  · cases ho
def StreamReader_init_f (call : ax_Cf) (av : List ax_T) (h : ax_Hp) : ax_O := match av with
  | [Sum.inr (Sum.inr (some x0)), Sum.inr (Sum.inr x1), Sum.inr (Sum.inr x2)] => StreamReader_init_b call x0 x1 x2 h
  | _ => none
theorem StreamReader_init_ft {l : Launch} {G : ax_G} {d : Nat} {call : ax_Cf} (hcall : ax_Hc l G d call) (hd8 : 8 ≤ d) (hl : l.stackTraces = false) (av : List ax_T) (h : ax_Hp) (r : ax_Rs) (h1 : ax_Hp) (ho : StreamReader_init_f call av h = some (r, h1)) : ax_C l G (d + 1) (ax_mn 109) (ax_mc 109) av h r h1 := by
  unfold StreamReader_init_f at ho
  split at ho
  · exact StreamReader_init_t hcall _ _ _ h ho
  · cases ho
def StreamReader_readWhole_f (call : ax_Cf) (av : List ax_T) (h : ax_Hp) : ax_O := match av with
  | [Sum.inr (Sum.inr x0)] => StreamReader_readWhole_b call x0 h
  | _ => none
theorem StreamReader_readWhole_ft {l : Launch} {G : ax_G} {d : Nat} {call : ax_Cf} (hcall : ax_Hc l G d call) (hd8 : 8 ≤ d) (hl : l.stackTraces = false) (av : List ax_T) (h : ax_Hp) (r : ax_Rs) (h1 : ax_Hp) (ho : StreamReader_readWhole_f call av h = some (r, h1)) : ax_C l G (d + 1) (ax_mn 110) (ax_mc 110) av h r h1 := by
  unfold StreamReader_readWhole_f at ho
  split at ho
  · exact StreamReader_readWhole_t hcall _ h ho
  · cases ho
def StreamReader_skip_f (call : ax_Cf) (av : List ax_T) (h : ax_Hp) : ax_O := match av with
  | [Sum.inr (Sum.inr x0), Sum.inl x1, Sum.inl x2] => StreamReader_skip_b call x0 x1 x2 h
  | _ => none
theorem StreamReader_skip_ft {l : Launch} {G : ax_G} {d : Nat} {call : ax_Cf} (hcall : ax_Hc l G d call) (hd8 : 8 ≤ d) (hl : l.stackTraces = false) (av : List ax_T) (h : ax_Hp) (r : ax_Rs) (h1 : ax_Hp) (ho : StreamReader_skip_f call av h = some (r, h1)) : ax_C l G (d + 1) (ax_mn 111) (ax_mc 111) av h r h1 := by
  unfold StreamReader_skip_f at ho
  split at ho
  · exact StreamReader_skip_t hcall _ _ _ h ho
  · cases ho
def StreamReader_readBoolean_f (call : ax_Cf) (av : List ax_T) (h : ax_Hp) : ax_O := match av with
  | [Sum.inr (Sum.inr x0)] => StreamReader_readBoolean_b call x0 h
  | _ => none
theorem StreamReader_readBoolean_ft {l : Launch} {G : ax_G} {d : Nat} {call : ax_Cf} (hcall : ax_Hc l G d call) (hd8 : 8 ≤ d) (hl : l.stackTraces = false) (av : List ax_T) (h : ax_Hp) (r : ax_Rs) (h1 : ax_Hp) (ho : StreamReader_readBoolean_f call av h = some (r, h1)) : ax_C l G (d + 1) (ax_mn 112) (ax_mc 112) av h r h1 := by
  unfold StreamReader_readBoolean_f at ho
  split at ho
  · exact StreamReader_readBoolean_t hcall _ h ho
  · cases ho
def StreamReader_readNumber_f (call : ax_Cf) (av : List ax_T) (h : ax_Hp) : ax_O := match av with
  | [Sum.inr (Sum.inr x0), Sum.inl x1] => StreamReader_readNumber_b call x0 x1 h
  | _ => none
theorem StreamReader_readNumber_ft {l : Launch} {G : ax_G} {d : Nat} {call : ax_Cf} (hcall : ax_Hc l G d call) (hd8 : 8 ≤ d) (hl : l.stackTraces = false) (av : List ax_T) (h : ax_Hp) (r : ax_Rs) (h1 : ax_Hp) (ho : StreamReader_readNumber_f call av h = some (r, h1)) : ax_C l G (d + 1) (ax_mn 113) (ax_mc 113) av h r h1 := by
  unfold StreamReader_readNumber_f at ho
  split at ho
  · exact StreamReader_readNumber_t hcall _ _ h ho
  · cases ho
def StreamReader_skipString_f (call : ax_Cf) (av : List ax_T) (h : ax_Hp) : ax_O := match av with
  | [Sum.inr (Sum.inr x0)] => StreamReader_skipString_b call x0 h
  | _ => none
theorem StreamReader_skipString_ft {l : Launch} {G : ax_G} {d : Nat} {call : ax_Cf} (hcall : ax_Hc l G d call) (hd8 : 8 ≤ d) (hl : l.stackTraces = false) (av : List ax_T) (h : ax_Hp) (r : ax_Rs) (h1 : ax_Hp) (ho : StreamReader_skipString_f call av h = some (r, h1)) : ax_C l G (d + 1) (ax_mn 114) (ax_mc 114) av h r h1 := by
  unfold StreamReader_skipString_f at ho
  split at ho
  · exact StreamReader_skipString_t hcall _ h ho
  · cases ho
def StreamReader_readCount_f (call : ax_Cf) (av : List ax_T) (h : ax_Hp) : ax_O := match av with
  | [Sum.inr (Sum.inr x0), Sum.inl x1] => StreamReader_readCount_b call x0 x1 h
  | _ => none
theorem StreamReader_readCount_ft {l : Launch} {G : ax_G} {d : Nat} {call : ax_Cf} (hcall : ax_Hc l G d call) (hd8 : 8 ≤ d) (hl : l.stackTraces = false) (av : List ax_T) (h : ax_Hp) (r : ax_Rs) (h1 : ax_Hp) (ho : StreamReader_readCount_f call av h = some (r, h1)) : ax_C l G (d + 1) (ax_mn 115) (ax_mc 115) av h r h1 := by
  unfold StreamReader_readCount_f at ho
  split at ho
  · exact StreamReader_readCount_t hcall _ _ h ho
  · cases ho
def StreamReader_readStringCharacter_f (call : ax_Cf) (av : List ax_T) (h : ax_Hp) : ax_O := match av with
  | [Sum.inr (Sum.inr x0)] => StreamReader_readStringCharacter_b call x0 h
  | _ => none
theorem StreamReader_readStringCharacter_ft {l : Launch} {G : ax_G} {d : Nat} {call : ax_Cf} (hcall : ax_Hc l G d call) (hd8 : 8 ≤ d) (hl : l.stackTraces = false) (av : List ax_T) (h : ax_Hp) (r : ax_Rs) (h1 : ax_Hp) (ho : StreamReader_readStringCharacter_f call av h = some (r, h1)) : ax_C l G (d + 1) (ax_mn 116) (ax_mc 116) av h r h1 := by
  unfold StreamReader_readStringCharacter_f at ho
  split at ho
  · exact StreamReader_readStringCharacter_t hcall _ h ho
  · cases ho
def StreamReader_skipElements_f (call : ax_Cf) (av : List ax_T) (h : ax_Hp) : ax_O := match av with
  | [Sum.inr (Sum.inr x0), Sum.inl x1, Sum.inl x2] => StreamReader_skipElements_b call x0 x1 x2 h
  | _ => none
theorem StreamReader_skipElements_ft {l : Launch} {G : ax_G} {d : Nat} {call : ax_Cf} (hcall : ax_Hc l G d call) (hd8 : 8 ≤ d) (hl : l.stackTraces = false) (av : List ax_T) (h : ax_Hp) (r : ax_Rs) (h1 : ax_Hp) (ho : StreamReader_skipElements_f call av h = some (r, h1)) : ax_C l G (d + 1) (ax_mn 117) (ax_mc 117) av h r h1 := by
  unfold StreamReader_skipElements_f at ho
  split at ho
  · exact StreamReader_skipElements_t hcall _ _ _ h ho
  · cases ho
def StreamReader_skipPart_f (call : ax_Cf) (av : List ax_T) (h : ax_Hp) : ax_O := match av with
  | [Sum.inr (Sum.inr x0), Sum.inl x1, Sum.inl x2, Sum.inl x3] => StreamReader_skipPart_b call x0 x1 x2 x3 h
  | _ => none
theorem StreamReader_skipPart_ft {l : Launch} {G : ax_G} {d : Nat} {call : ax_Cf} (hcall : ax_Hc l G d call) (hd8 : 8 ≤ d) (hl : l.stackTraces = false) (av : List ax_T) (h : ax_Hp) (r : ax_Rs) (h1 : ax_Hp) (ho : StreamReader_skipPart_f call av h = some (r, h1)) : ax_C l G (d + 1) (ax_mn 118) (ax_mc 118) av h r h1 := by
  unfold StreamReader_skipPart_f at ho
  split at ho
  · exact StreamReader_skipPart_t hcall _ _ _ _ h ho
  · cases ho
def StreamReader_skipBranch_f (call : ax_Cf) (av : List ax_T) (h : ax_Hp) : ax_O := match av with
  | [Sum.inr (Sum.inr x0), Sum.inl x1, Sum.inl x2] => StreamReader_skipBranch_b call x0 x1 x2 h
  | _ => none
theorem StreamReader_skipBranch_ft {l : Launch} {G : ax_G} {d : Nat} {call : ax_Cf} (hcall : ax_Hc l G d call) (hd8 : 8 ≤ d) (hl : l.stackTraces = false) (av : List ax_T) (h : ax_Hp) (r : ax_Rs) (h1 : ax_Hp) (ho : StreamReader_skipBranch_f call av h = some (r, h1)) : ax_C l G (d + 1) (ax_mn 119) (ax_mc 119) av h r h1 := by
  unfold StreamReader_skipBranch_f at ho
  split at ho
  · exact StreamReader_skipBranch_t hcall _ _ _ h ho
  · cases ho
def StreamReader_readBranch_f (call : ax_Cf) (av : List ax_T) (h : ax_Hp) : ax_O := match av with
  | [Sum.inr (Sum.inr x0), Sum.inl x1] => StreamReader_readBranch_b call x0 x1 h
  | _ => none
theorem StreamReader_readBranch_ft {l : Launch} {G : ax_G} {d : Nat} {call : ax_Cf} (hcall : ax_Hc l G d call) (hd8 : 8 ≤ d) (hl : l.stackTraces = false) (av : List ax_T) (h : ax_Hp) (r : ax_Rs) (h1 : ax_Hp) (ho : StreamReader_readBranch_f call av h = some (r, h1)) : ax_C l G (d + 1) (ax_mn 120) (ax_mc 120) av h r h1 := by
  unfold StreamReader_readBranch_f at ho
  split at ho
  · exact StreamReader_readBranch_t hcall _ _ h ho
  · cases ho
def Schema_branchCount_f (call : ax_Cf) (av : List ax_T) (h : ax_Hp) : ax_O := match av with
  | [Sum.inr (Sum.inr x0), Sum.inl x1] => Schema_branchCount_b call x0 x1 h
  | _ => none
theorem Schema_branchCount_ft {l : Launch} {G : ax_G} {d : Nat} {call : ax_Cf} (hcall : ax_Hc l G d call) (hd8 : 8 ≤ d) (hl : l.stackTraces = false) (av : List ax_T) (h : ax_Hp) (r : ax_Rs) (h1 : ax_Hp) (ho : Schema_branchCount_f call av h = some (r, h1)) : ax_C l G (d + 1) (ax_mn 121) (ax_mc 121) av h r h1 := by
  unfold Schema_branchCount_f at ho
  split at ho
  · exact Schema_branchCount_t hcall _ _ h ho
  · cases ho
def StreamReader_skipFields_f (call : ax_Cf) (av : List ax_T) (h : ax_Hp) : ax_O := match av with
  | [Sum.inr (Sum.inr x0), Sum.inl x1, Sum.inl x2] => StreamReader_skipFields_b call x0 x1 x2 h
  | _ => none
theorem StreamReader_skipFields_ft {l : Launch} {G : ax_G} {d : Nat} {call : ax_Cf} (hcall : ax_Hc l G d call) (hd8 : 8 ≤ d) (hl : l.stackTraces = false) (av : List ax_T) (h : ax_Hp) (r : ax_Rs) (h1 : ax_Hp) (ho : StreamReader_skipFields_f call av h = some (r, h1)) : ax_C l G (d + 1) (ax_mn 122) (ax_mc 122) av h r h1 := by
  unfold StreamReader_skipFields_f at ho
  split at ho
  · exact StreamReader_skipFields_t hcall _ _ _ h ho
  · cases ho
def Resolver_init_f (call : ax_Cf) (av : List ax_T) (h : ax_Hp) : ax_O := match av with
  | [Sum.inr (Sum.inr (some x0)), Sum.inr (Sum.inr x1), Sum.inr (Sum.inr x2), Sum.inr (Sum.inr x3), Sum.inr (Sum.inr x4), Sum.inr (Sum.inr x5)] => Resolver_init_b call x0 x1 x2 x3 x4 x5 h
  | _ => none
theorem Resolver_init_ft {l : Launch} {G : ax_G} {d : Nat} {call : ax_Cf} (hcall : ax_Hc l G d call) (hd8 : 8 ≤ d) (hl : l.stackTraces = false) (av : List ax_T) (h : ax_Hp) (r : ax_Rs) (h1 : ax_Hp) (ho : Resolver_init_f call av h = some (r, h1)) : ax_C l G (d + 1) (ax_mn 123) (ax_mc 123) av h r h1 := by
  unfold Resolver_init_f at ho
  split at ho
  · exact Resolver_init_t hcall _ _ _ _ _ _ h ho
  · cases ho
def Resolver_resolveWhole_f (call : ax_Cf) (av : List ax_T) (h : ax_Hp) : ax_O := match av with
  | [Sum.inr (Sum.inr x0)] => Resolver_resolveWhole_b call x0 h
  | _ => none
theorem Resolver_resolveWhole_ft {l : Launch} {G : ax_G} {d : Nat} {call : ax_Cf} (hcall : ax_Hc l G d call) (hd8 : 8 ≤ d) (hl : l.stackTraces = false) (av : List ax_T) (h : ax_Hp) (r : ax_Rs) (h1 : ax_Hp) (ho : Resolver_resolveWhole_f call av h = some (r, h1)) : ax_C l G (d + 1) (ax_mn 124) (ax_mc 124) av h r h1 := by
  unfold Resolver_resolveWhole_f at ho
  split at ho
  · exact Resolver_resolveWhole_t hcall _ h ho
  · cases ho
def Cursor_moveTo_f (call : ax_Cf) (av : List ax_T) (h : ax_Hp) : ax_O := match av with
  | [Sum.inr (Sum.inr x0), Sum.inl x1] => Cursor_moveTo_b call x0 x1 h
  | _ => none
theorem Cursor_moveTo_ft {l : Launch} {G : ax_G} {d : Nat} {call : ax_Cf} (hcall : ax_Hc l G d call) (hd8 : 8 ≤ d) (hl : l.stackTraces = false) (av : List ax_T) (h : ax_Hp) (r : ax_Rs) (h1 : ax_Hp) (ho : Cursor_moveTo_f call av h = some (r, h1)) : ax_C l G (d + 1) (ax_mn 125) (ax_mc 125) av h r h1 := by
  unfold Cursor_moveTo_f at ho
  split at ho
  · exact Cursor_moveTo_t hcall _ _ h ho
  · cases ho
def Resolver_resolve_f (call : ax_Cf) (av : List ax_T) (h : ax_Hp) : ax_O := match av with
  | [Sum.inr (Sum.inr x0), Sum.inl x1, Sum.inl x2, Sum.inl x3] => Resolver_resolve_b call x0 x1 x2 x3 h
  | _ => none
theorem Resolver_resolve_ft {l : Launch} {G : ax_G} {d : Nat} {call : ax_Cf} (hcall : ax_Hc l G d call) (hd8 : 8 ≤ d) (hl : l.stackTraces = false) (av : List ax_T) (h : ax_Hp) (r : ax_Rs) (h1 : ax_Hp) (ho : Resolver_resolve_f call av h = some (r, h1)) : ax_C l G (d + 1) (ax_mn 126) (ax_mc 126) av h r h1 := by
  unfold Resolver_resolve_f at ho
  split at ho
  · exact Resolver_resolve_t hcall _ _ _ _ h ho
  · cases ho
def Resolver_resolveAsBranch_f (call : ax_Cf) (av : List ax_T) (h : ax_Hp) : ax_O := match av with
  | [Sum.inr (Sum.inr x0), Sum.inl x1, Sum.inl x2, Sum.inl x3] => Resolver_resolveAsBranch_b call x0 x1 x2 x3 h
  | _ => none
theorem Resolver_resolveAsBranch_ft {l : Launch} {G : ax_G} {d : Nat} {call : ax_Cf} (hcall : ax_Hc l G d call) (hd8 : 8 ≤ d) (hl : l.stackTraces = false) (av : List ax_T) (h : ax_Hp) (r : ax_Rs) (h1 : ax_Hp) (ho : Resolver_resolveAsBranch_f call av h = some (r, h1)) : ax_C l G (d + 1) (ax_mn 127) (ax_mc 127) av h r h1 := by
  unfold Resolver_resolveAsBranch_f at ho
  split at ho
  · exact Resolver_resolveAsBranch_t hcall _ _ _ _ h ho
  · cases ho
def Compatibility_firstReadingBranch_f (call : ax_Cf) (av : List ax_T) (h : ax_Hp) : ax_O := match av with
  | [Sum.inr (Sum.inr x0), Sum.inl x1, Sum.inr (Sum.inr x2), Sum.inl x3] => Compatibility_firstReadingBranch_b call x0 x1 x2 x3 h
  | _ => none
theorem Compatibility_firstReadingBranch_ft {l : Launch} {G : ax_G} {d : Nat} {call : ax_Cf} (hcall : ax_Hc l G d call) (hd8 : 8 ≤ d) (hl : l.stackTraces = false) (av : List ax_T) (h : ax_Hp) (r : ax_Rs) (h1 : ax_Hp) (ho : Compatibility_firstReadingBranch_f call av h = some (r, h1)) : ax_C l G (d + 1) (ax_mn 128) (ax_mc 128) av h r h1 := by
  unfold Compatibility_firstReadingBranch_f at ho
  split at ho
  · exact Compatibility_firstReadingBranch_t hcall _ _ _ _ h ho
  · cases ho
def StreamReader_number_f (call : ax_Cf) (av : List ax_T) (h : ax_Hp) : ax_O := match av with
  | [Sum.inr (Sum.inr x0)] => StreamReader_number_b call x0 h
  | _ => none
theorem StreamReader_number_ft {l : Launch} {G : ax_G} {d : Nat} {call : ax_Cf} (hcall : ax_Hc l G d call) (hd8 : 8 ≤ d) (hl : l.stackTraces = false) (av : List ax_T) (h : ax_Hp) (r : ax_Rs) (h1 : ax_Hp) (ho : StreamReader_number_f call av h = some (r, h1)) : ax_C l G (d + 1) (ax_mn 129) (ax_mc 129) av h r h1 := by
  unfold StreamReader_number_f at ho
  split at ho
  · exact StreamReader_number_t hcall _ h ho
  · cases ho
def Resolver_addNumber_f (call : ax_Cf) (av : List ax_T) (h : ax_Hp) : ax_O := match av with
  | [Sum.inr (Sum.inr x0), Sum.inr (Sum.inl x1)] => Resolver_addNumber_b call x0 x1 h
  | _ => none
theorem Resolver_addNumber_ft {l : Launch} {G : ax_G} {d : Nat} {call : ax_Cf} (hcall : ax_Hc l G d call) (hd8 : 8 ≤ d) (hl : l.stackTraces = false) (av : List ax_T) (h : ax_Hp) (r : ax_Rs) (h1 : ax_Hp) (ho : Resolver_addNumber_f call av h = some (r, h1)) : ax_C l G (d + 1) (ax_mn 130) (ax_mc 130) av h r h1 := by
  unfold Resolver_addNumber_f at ho
  split at ho
  · exact Resolver_addNumber_t hcall _ _ h ho
  · cases ho
def Resolver_countFigures_f (call : ax_Cf) (av : List ax_T) (h : ax_Hp) : ax_O := match av with
  | [Sum.inr (Sum.inl x0)] => Resolver_countFigures_b call x0 h
  | _ => none
theorem Resolver_countFigures_ft {l : Launch} {G : ax_G} {d : Nat} {call : ax_Cf} (hcall : ax_Hc l G d call) (hd8 : 8 ≤ d) (hl : l.stackTraces = false) (av : List ax_T) (h : ax_Hp) (r : ax_Rs) (h1 : ax_Hp) (ho : Resolver_countFigures_f call av h = some (r, h1)) : ax_C l G (d + 1) (ax_mn 131) (ax_mc 131) av h r h1 := by
  unfold Resolver_countFigures_f at ho
  split at ho
  · exact Resolver_countFigures_t hcall _ h ho
  · cases ho
def Resolver_resolveString_f (call : ax_Cf) (av : List ax_T) (h : ax_Hp) : ax_O := match av with
  | [Sum.inr (Sum.inr x0)] => Resolver_resolveString_b call x0 h
  | _ => none
theorem Resolver_resolveString_ft {l : Launch} {G : ax_G} {d : Nat} {call : ax_Cf} (hcall : ax_Hc l G d call) (hd8 : 8 ≤ d) (hl : l.stackTraces = false) (av : List ax_T) (h : ax_Hp) (r : ax_Rs) (h1 : ax_Hp) (ho : Resolver_resolveString_f call av h = some (r, h1)) : ax_C l G (d + 1) (ax_mn 132) (ax_mc 132) av h r h1 := by
  unfold Resolver_resolveString_f at ho
  split at ho
  · exact Resolver_resolveString_t hcall _ h ho
  · cases ho
def Resolver_resolveSymbol_f (call : ax_Cf) (av : List ax_T) (h : ax_Hp) : ax_O := match av with
  | [Sum.inr (Sum.inr x0), Sum.inl x1, Sum.inl x2] => Resolver_resolveSymbol_b call x0 x1 x2 h
  | _ => none
theorem Resolver_resolveSymbol_ft {l : Launch} {G : ax_G} {d : Nat} {call : ax_Cf} (hcall : ax_Hc l G d call) (hd8 : 8 ≤ d) (hl : l.stackTraces = false) (av : List ax_T) (h : ax_Hp) (r : ax_Rs) (h1 : ax_Hp) (ho : Resolver_resolveSymbol_f call av h = some (r, h1)) : ax_C l G (d + 1) (ax_mn 133) (ax_mc 133) av h r h1 := by
  unfold Resolver_resolveSymbol_f at ho
  split at ho
  · exact Resolver_resolveSymbol_t hcall _ _ _ h ho
  · cases ho
def Resolver_resolveElements_f (call : ax_Cf) (av : List ax_T) (h : ax_Hp) : ax_O := match av with
  | [Sum.inr (Sum.inr x0), Sum.inl x1, Sum.inl x2, Sum.inl x3] => Resolver_resolveElements_b call x0 x1 x2 x3 h
  | _ => none
theorem Resolver_resolveElements_ft {l : Launch} {G : ax_G} {d : Nat} {call : ax_Cf} (hcall : ax_Hc l G d call) (hd8 : 8 ≤ d) (hl : l.stackTraces = false) (av : List ax_T) (h : ax_Hp) (r : ax_Rs) (h1 : ax_Hp) (ho : Resolver_resolveElements_f call av h = some (r, h1)) : ax_C l G (d + 1) (ax_mn 134) (ax_mc 134) av h r h1 := by
  unfold Resolver_resolveElements_f at ho
  split at ho
  · exact Resolver_resolveElements_t hcall _ _ _ _ h ho
  · cases ho
def Resolver_resolveFields_f (call : ax_Cf) (av : List ax_T) (h : ax_Hp) : ax_O := match av with
  | [Sum.inr (Sum.inr x0), Sum.inl x1, Sum.inl x2, Sum.inl x3] => Resolver_resolveFields_b call x0 x1 x2 x3 h
  | _ => none
theorem Resolver_resolveFields_ft {l : Launch} {G : ax_G} {d : Nat} {call : ax_Cf} (hcall : ax_Hc l G d call) (hd8 : 8 ≤ d) (hl : l.stackTraces = false) (av : List ax_T) (h : ax_Hp) (r : ax_Rs) (h1 : ax_Hp) (ho : Resolver_resolveFields_f call av h = some (r, h1)) : ax_C l G (d + 1) (ax_mn 135) (ax_mc 135) av h r h1 := by
  unfold Resolver_resolveFields_f at ho
  split at ho
  · exact Resolver_resolveFields_t hcall _ _ _ _ h ho
  · cases ho
def Resolver_noteFieldStart_f (call : ax_Cf) (av : List ax_T) (h : ax_Hp) : ax_O := match av with
  | [Sum.inr (Sum.inr x0), Sum.inl x1] => Resolver_noteFieldStart_b call x0 x1 h
  | _ => none
theorem Resolver_noteFieldStart_ft {l : Launch} {G : ax_G} {d : Nat} {call : ax_Cf} (hcall : ax_Hc l G d call) (hd8 : 8 ≤ d) (hl : l.stackTraces = false) (av : List ax_T) (h : ax_Hp) (r : ax_Rs) (h1 : ax_Hp) (ho : Resolver_noteFieldStart_f call av h = some (r, h1)) : ax_C l G (d + 1) (ax_mn 136) (ax_mc 136) av h r h1 := by
  unfold Resolver_noteFieldStart_f at ho
  split at ho
  · exact Resolver_noteFieldStart_t hcall _ _ h ho
  · cases ho
def StreamReader_skipField_f (call : ax_Cf) (av : List ax_T) (h : ax_Hp) : ax_O := match av with
  | [Sum.inr (Sum.inr x0), Sum.inl x1] => StreamReader_skipField_b call x0 x1 h
  | _ => none
theorem StreamReader_skipField_ft {l : Launch} {G : ax_G} {d : Nat} {call : ax_Cf} (hcall : ax_Hc l G d call) (hd8 : 8 ≤ d) (hl : l.stackTraces = false) (av : List ax_T) (h : ax_Hp) (r : ax_Rs) (h1 : ax_Hp) (ho : StreamReader_skipField_f call av h = some (r, h1)) : ax_C l G (d + 1) (ax_mn 137) (ax_mc 137) av h r h1 := by
  unfold StreamReader_skipField_f at ho
  split at ho
  · exact StreamReader_skipField_t hcall _ _ h ho
  · cases ho
def Resolver_resolveField_f (call : ax_Cf) (av : List ax_T) (h : ax_Hp) : ax_O := match av with
  | [Sum.inr (Sum.inr x0), Sum.inl x1, Sum.inl x2, Sum.inl x3] => Resolver_resolveField_b call x0 x1 x2 x3 h
  | _ => none
theorem Resolver_resolveField_ft {l : Launch} {G : ax_G} {d : Nat} {call : ax_Cf} (hcall : ax_Hc l G d call) (hd8 : 8 ≤ d) (hl : l.stackTraces = false) (av : List ax_T) (h : ax_Hp) (r : ax_Rs) (h1 : ax_Hp) (ho : Resolver_resolveField_f call av h = some (r, h1)) : ax_C l G (d + 1) (ax_mn 138) (ax_mc 138) av h r h1 := by
  unfold Resolver_resolveField_f at ho
  split at ho
  · exact Resolver_resolveField_t hcall _ _ _ _ h ho
  · cases ho
def Resolver_addDefault_f (call : ax_Cf) (av : List ax_T) (h : ax_Hp) : ax_O := match av with
  | [Sum.inr (Sum.inr x0), Sum.inl x1] => Resolver_addDefault_b call x0 x1 h
  | _ => none
theorem Resolver_addDefault_ft {l : Launch} {G : ax_G} {d : Nat} {call : ax_Cf} (hcall : ax_Hc l G d call) (hd8 : 8 ≤ d) (hl : l.stackTraces = false) (av : List ax_T) (h : ax_Hp) (r : ax_Rs) (h1 : ax_Hp) (ho : Resolver_addDefault_f call av h = some (r, h1)) : ax_C l G (d + 1) (ax_mn 139) (ax_mc 139) av h r h1 := by
  unfold Resolver_addDefault_f at ho
  split at ho
  · exact Resolver_addDefault_t hcall _ _ h ho
  · cases ho
def Schema_isMarkedUnion_f (call : ax_Cf) (av : List ax_T) (h : ax_Hp) : ax_O := match av with
  | [Sum.inr (Sum.inr x0), Sum.inl x1] => Schema_isMarkedUnion_b call x0 x1 h
  | _ => none
theorem Schema_isMarkedUnion_ft {l : Launch} {G : ax_G} {d : Nat} {call : ax_Cf} (hcall : ax_Hc l G d call) (hd8 : 8 ≤ d) (hl : l.stackTraces = false) (av : List ax_T) (h : ax_Hp) (r : ax_Rs) (h1 : ax_Hp) (ho : Schema_isMarkedUnion_f call av h = some (r, h1)) : ax_C l G (d + 1) (ax_mn 140) (ax_mc 140) av h r h1 := by
  unfold Schema_isMarkedUnion_f at ho
  split at ho
  · exact Schema_isMarkedUnion_t hcall _ _ h ho
  · cases ho
def Law_out_f (call : ax_Cf) (av : List ax_T) (h : ax_Hp) : ax_O := match av with
  | [Sum.inr (Sum.inr x0), Sum.inl x1, Sum.inr (Sum.inr x2)] => Law_out_b call x0 x1 x2 h
  | _ => none
theorem Law_out_ft {l : Launch} {G : ax_G} {d : Nat} {call : ax_Cf} (hcall : ax_Hc l G d call) (hd8 : 8 ≤ d) (hl : l.stackTraces = false) (av : List ax_T) (h : ax_Hp) (r : ax_Rs) (h1 : ax_Hp) (ho : Law_out_f call av h = some (r, h1)) : ax_C l G (d + 1) (ax_mn 141) (ax_mc 141) av h r h1 := by
  unfold Law_out_f at ho
  split at ho
  · exact Law_out_t hcall _ _ _ h ho
  · cases ho
def Desk_out_f (call : ax_Cf) (av : List ax_T) (h : ax_Hp) : ax_O := match av with
  | [Sum.inr (Sum.inr x0), Sum.inl x1] => Desk_out_b call x0 x1 h
  | _ => none
theorem Desk_out_ft {l : Launch} {G : ax_G} {d : Nat} {call : ax_Cf} (hcall : ax_Hc l G d call) (hd8 : 8 ≤ d) (hl : l.stackTraces = false) (av : List ax_T) (h : ax_Hp) (r : ax_Rs) (h1 : ax_Hp) (ho : Desk_out_f call av h = some (r, h1)) : ax_C l G (d + 1) (ax_mn 142) (ax_mc 142) av h r h1 := by
  unfold Desk_out_f at ho
  split at ho
  · exact Desk_out_t hcall hd8 hl _ _ h ho
  · cases ho
def Model_init_f (call : ax_Cf) (av : List ax_T) (h : ax_Hp) : ax_O := match av with
  | [Sum.inr (Sum.inr (some x0))] => Model_init_b call x0 h
  | _ => none
theorem Model_init_ft {l : Launch} {G : ax_G} {d : Nat} {call : ax_Cf} (hcall : ax_Hc l G d call) (hd8 : 8 ≤ d) (hl : l.stackTraces = false) (av : List ax_T) (h : ax_Hp) (r : ax_Rs) (h1 : ax_Hp) (ho : Model_init_f call av h = some (r, h1)) : ax_C l G (d + 1) (ax_mn 143) (ax_mc 143) av h r h1 := by
  unfold Model_init_f at ho
  split at ho
  · exact Model_init_t hcall _ h ho
  · cases ho
def Model_thrown_f (call : ax_Cf) (av : List ax_T) (h : ax_Hp) : ax_O := match av with
  | [Sum.inr (Sum.inr x0)] => Model_thrown_b call x0 h
  | _ => none
theorem Model_thrown_ft {l : Launch} {G : ax_G} {d : Nat} {call : ax_Cf} (hcall : ax_Hc l G d call) (hd8 : 8 ≤ d) (hl : l.stackTraces = false) (av : List ax_T) (h : ax_Hp) (r : ax_Rs) (h1 : ax_Hp) (ho : Model_thrown_f call av h = some (r, h1)) : ax_C l G (d + 1) (ax_mn 144) (ax_mc 144) av h r h1 := by
  unfold Model_thrown_f at ho
  split at ho
  · exact Model_thrown_t hcall _ h ho
  · cases ho
def Model_write_f (call : ax_Cf) (av : List ax_T) (h : ax_Hp) : ax_O := match av with
  | [Sum.inr (Sum.inr x0), Sum.inr (Sum.inl x1)] => Model_write_b call x0 x1 h
  | _ => none
theorem Model_write_ft {l : Launch} {G : ax_G} {d : Nat} {call : ax_Cf} (hcall : ax_Hc l G d call) (hd8 : 8 ≤ d) (hl : l.stackTraces = false) (av : List ax_T) (h : ax_Hp) (r : ax_Rs) (h1 : ax_Hp) (ho : Model_write_f call av h = some (r, h1)) : ax_C l G (d + 1) (ax_mn 145) (ax_mc 145) av h r h1 := by
  unfold Model_write_f at ho
  split at ho
  · exact Model_write_t hcall _ _ h ho
  · cases ho
def Model_wipe_f (call : ax_Cf) (av : List ax_T) (h : ax_Hp) : ax_O := match av with
  | [Sum.inr (Sum.inr x0)] => Model_wipe_b call x0 h
  | _ => none
theorem Model_wipe_ft {l : Launch} {G : ax_G} {d : Nat} {call : ax_Cf} (hcall : ax_Hc l G d call) (hd8 : 8 ≤ d) (hl : l.stackTraces = false) (av : List ax_T) (h : ax_Hp) (r : ax_Rs) (h1 : ax_Hp) (ho : Model_wipe_f call av h = some (r, h1)) : ax_C l G (d + 1) (ax_mn 146) (ax_mc 146) av h r h1 := by
  unfold Model_wipe_f at ho
  split at ho
  · exact Model_wipe_t hcall _ h ho
  · cases ho
def Model_feed_f (call : ax_Cf) (av : List ax_T) (h : ax_Hp) : ax_O := match av with
  | [Sum.inr (Sum.inr x0), Sum.inr (Sum.inl x1), Sum.inl x3] => Model_feed_b call x0 x1 x3 h
  | _ => none
theorem Model_feed_ft {l : Launch} {G : ax_G} {d : Nat} {call : ax_Cf} (hcall : ax_Hc l G d call) (hd8 : 8 ≤ d) (hl : l.stackTraces = false) (av : List ax_T) (h : ax_Hp) (r : ax_Rs) (h1 : ax_Hp) (ho : Model_feed_f call av h = some (r, h1)) : ax_C l G (d + 1) (ax_mn 147) (ax_mc 147) av h r h1 := by
  unfold Model_feed_f at ho
  split at ho
  · exact Model_feed_t hcall _ _ _ h ho
  · cases ho
def Model_drain_f (call : ax_Cf) (av : List ax_T) (h : ax_Hp) : ax_O := match av with
  | [Sum.inr (Sum.inr x0)] => Model_drain_b call x0 h
  | _ => none
theorem Model_drain_ft {l : Launch} {G : ax_G} {d : Nat} {call : ax_Cf} (hcall : ax_Hc l G d call) (hd8 : 8 ≤ d) (hl : l.stackTraces = false) (av : List ax_T) (h : ax_Hp) (r : ax_Rs) (h1 : ax_Hp) (ho : Model_drain_f call av h = some (r, h1)) : ax_C l G (d + 1) (ax_mn 148) (ax_mc 148) av h r h1 := by
  unfold Model_drain_f at ho
  split at ho
  · exact Model_drain_t hcall _ h ho
  · cases ho
def Model_mode_f (call : ax_Cf) (av : List ax_T) (h : ax_Hp) : ax_O := match av with
  | [Sum.inr (Sum.inr x0), Sum.inl x1, Sum.inl x2] => Model_mode_b call x0 x1 x2 h
  | _ => none
theorem Model_mode_ft {l : Launch} {G : ax_G} {d : Nat} {call : ax_Cf} (hcall : ax_Hc l G d call) (hd8 : 8 ≤ d) (hl : l.stackTraces = false) (av : List ax_T) (h : ax_Hp) (r : ax_Rs) (h1 : ax_Hp) (ho : Model_mode_f call av h = some (r, h1)) : ax_C l G (d + 1) (ax_mn 149) (ax_mc 149) av h r h1 := by
  unfold Model_mode_f at ho
  split at ho
  · exact Model_mode_t hcall _ _ _ h ho
  · cases ho
def Model_isSubject_f (call : ax_Cf) (av : List ax_T) (h : ax_Hp) : ax_O := match av with
  | [Sum.inl x0] => Model_isSubject_b call x0 h
  | _ => none
theorem Model_isSubject_ft {l : Launch} {G : ax_G} {d : Nat} {call : ax_Cf} (hcall : ax_Hc l G d call) (hd8 : 8 ≤ d) (hl : l.stackTraces = false) (av : List ax_T) (h : ax_Hp) (r : ax_Rs) (h1 : ax_Hp) (ho : Model_isSubject_f call av h = some (r, h1)) : ax_C l G (d + 1) (ax_mn 150) (ax_mc 150) av h r h1 := by
  unfold Model_isSubject_f at ho
  split at ho
  · exact Model_isSubject_t hcall _ h ho
  · cases ho
def Model_register_f (call : ax_Cf) (av : List ax_T) (h : ax_Hp) : ax_O := match av with
  | [Sum.inr (Sum.inr x0), Sum.inl x1] => Model_register_b call x0 x1 h
  | _ => none
theorem Model_register_ft {l : Launch} {G : ax_G} {d : Nat} {call : ax_Cf} (hcall : ax_Hc l G d call) (hd8 : 8 ≤ d) (hl : l.stackTraces = false) (av : List ax_T) (h : ax_Hp) (r : ax_Rs) (h1 : ax_Hp) (ho : Model_register_f call av h = some (r, h1)) : ax_C l G (d + 1) (ax_mn 151) (ax_mc 151) av h r h1 := by
  unfold Model_register_f at ho
  split at ho
  · exact Model_register_t hcall _ _ h ho
  · cases ho
def Model_loadTyped_f (call : ax_Cf) (av : List ax_T) (h : ax_Hp) : ax_O := match av with
  | [Sum.inr (Sum.inr x0), Sum.inl x1] => Model_loadTyped_b call x0 x1 h
  | _ => none
theorem Model_loadTyped_ft {l : Launch} {G : ax_G} {d : Nat} {call : ax_Cf} (hcall : ax_Hc l G d call) (hd8 : 8 ≤ d) (hl : l.stackTraces = false) (av : List ax_T) (h : ax_Hp) (r : ax_Rs) (h1 : ax_Hp) (ho : Model_loadTyped_f call av h = some (r, h1)) : ax_C l G (d + 1) (ax_mn 152) (ax_mc 152) av h r h1 := by
  unfold Model_loadTyped_f at ho
  split at ho
  · exact Model_loadTyped_t hcall _ _ h ho
  · cases ho
def Model_readSchema_f (call : ax_Cf) (av : List ax_T) (h : ax_Hp) : ax_O := match av with
  | [Sum.inr (Sum.inr x0), Sum.inl x1] => Model_readSchema_b call x0 x1 h
  | _ => none
theorem Model_readSchema_ft {l : Launch} {G : ax_G} {d : Nat} {call : ax_Cf} (hcall : ax_Hc l G d call) (hd8 : 8 ≤ d) (hl : l.stackTraces = false) (av : List ax_T) (h : ax_Hp) (r : ax_Rs) (h1 : ax_Hp) (ho : Model_readSchema_f call av h = some (r, h1)) : ax_C l G (d + 1) (ax_mn 153) (ax_mc 153) av h r h1 := by
  unfold Model_readSchema_f at ho
  split at ho
  · exact Model_readSchema_t hcall _ _ h ho
  · cases ho
def Model_readBehind_f (call : ax_Cf) (av : List ax_T) (h : ax_Hp) : ax_O := match av with
  | [Sum.inr (Sum.inr x0), Sum.inl x1, Sum.inl x2] => Model_readBehind_b call x0 x1 x2 h
  | _ => none
theorem Model_readBehind_ft {l : Launch} {G : ax_G} {d : Nat} {call : ax_Cf} (hcall : ax_Hc l G d call) (hd8 : 8 ≤ d) (hl : l.stackTraces = false) (av : List ax_T) (h : ax_Hp) (r : ax_Rs) (h1 : ax_Hp) (ho : Model_readBehind_f call av h = some (r, h1)) : ax_C l G (d + 1) (ax_mn 154) (ax_mc 154) av h r h1 := by
  unfold Model_readBehind_f at ho
  split at ho
  · exact Model_readBehind_t hcall _ _ _ h ho
  · cases ho
def Model_look_f (call : ax_Cf) (av : List ax_T) (h : ax_Hp) : ax_O := match av with
  | [Sum.inr (Sum.inr x0), Sum.inl x1, Sum.inl x2] => Model_look_b call x0 x1 x2 h
  | _ => none
theorem Model_look_ft {l : Launch} {G : ax_G} {d : Nat} {call : ax_Cf} (hcall : ax_Hc l G d call) (hd8 : 8 ≤ d) (hl : l.stackTraces = false) (av : List ax_T) (h : ax_Hp) (r : ax_Rs) (h1 : ax_Hp) (ho : Model_look_f call av h = some (r, h1)) : ax_C l G (d + 1) (ax_mn 155) (ax_mc 155) av h r h1 := by
  unfold Model_look_f at ho
  split at ho
  · exact Model_look_t hcall _ _ _ h ho
  · cases ho
def Model_readText_f (call : ax_Cf) (av : List ax_T) (h : ax_Hp) : ax_O := match av with
  | [Sum.inr (Sum.inr x0), Sum.inl x1, Sum.inl x2, Sum.inl x3, Sum.inl x4] => Model_readText_b call x0 x1 x2 x3 x4 h
  | _ => none
theorem Model_readText_ft {l : Launch} {G : ax_G} {d : Nat} {call : ax_Cf} (hcall : ax_Hc l G d call) (hd8 : 8 ≤ d) (hl : l.stackTraces = false) (av : List ax_T) (h : ax_Hp) (r : ax_Rs) (h1 : ax_Hp) (ho : Model_readText_f call av h = some (r, h1)) : ax_C l G (d + 1) (ax_mn 156) (ax_mc 156) av h r h1 := by
  unfold Model_readText_f at ho
  split at ho
  · exact Model_readText_t hcall _ _ _ _ _ h ho
  · cases ho
def Model_enter_f (call : ax_Cf) (av : List ax_T) (h : ax_Hp) : ax_O := match av with
  | [Sum.inr (Sum.inr x0), Sum.inl x1, Sum.inl x2] => Model_enter_b call x0 x1 x2 h
  | _ => none
theorem Model_enter_ft {l : Launch} {G : ax_G} {d : Nat} {call : ax_Cf} (hcall : ax_Hc l G d call) (hd8 : 8 ≤ d) (hl : l.stackTraces = false) (av : List ax_T) (h : ax_Hp) (r : ax_Rs) (h1 : ax_Hp) (ho : Model_enter_f call av h = some (r, h1)) : ax_C l G (d + 1) (ax_mn 157) (ax_mc 157) av h r h1 := by
  unfold Model_enter_f at ho
  split at ho
  · exact Model_enter_t hcall _ _ _ h ho
  · cases ho
def Model_see_f (call : ax_Cf) (av : List ax_T) (h : ax_Hp) : ax_O := match av with
  | [Sum.inr (Sum.inr x0), Sum.inl x1] => Model_see_b call x0 x1 h
  | _ => none
theorem Model_see_ft {l : Launch} {G : ax_G} {d : Nat} {call : ax_Cf} (hcall : ax_Hc l G d call) (hd8 : 8 ≤ d) (hl : l.stackTraces = false) (av : List ax_T) (h : ax_Hp) (r : ax_Rs) (h1 : ax_Hp) (ho : Model_see_f call av h = some (r, h1)) : ax_C l G (d + 1) (ax_mn 158) (ax_mc 158) av h r h1 := by
  unfold Model_see_f at ho
  split at ho
  · exact Model_see_t hcall _ _ h ho
  · cases ho
def Model_sayCharacters_f (call : ax_Cf) (av : List ax_T) (h : ax_Hp) : ax_O := match av with
  | [Sum.inr (Sum.inr x0), Sum.inl x1, Sum.inl x2] => Model_sayCharacters_b call x0 x1 x2 h
  | _ => none
theorem Model_sayCharacters_ft {l : Launch} {G : ax_G} {d : Nat} {call : ax_Cf} (hcall : ax_Hc l G d call) (hd8 : 8 ≤ d) (hl : l.stackTraces = false) (av : List ax_T) (h : ax_Hp) (r : ax_Rs) (h1 : ax_Hp) (ho : Model_sayCharacters_f call av h = some (r, h1)) : ax_C l G (d + 1) (ax_mn 159) (ax_mc 159) av h r h1 := by
  unfold Model_sayCharacters_f at ho
  split at ho
  · exact Model_sayCharacters_t hcall _ _ _ h ho
  · cases ho
def Model_say_f (call : ax_Cf) (av : List ax_T) (h : ax_Hp) : ax_O := match av with
  | [Sum.inr (Sum.inr x0), Sum.inl x1] => Model_say_b call x0 x1 h
  | _ => none
theorem Model_say_ft {l : Launch} {G : ax_G} {d : Nat} {call : ax_Cf} (hcall : ax_Hc l G d call) (hd8 : 8 ≤ d) (hl : l.stackTraces = false) (av : List ax_T) (h : ax_Hp) (r : ax_Rs) (h1 : ax_Hp) (ho : Model_say_f call av h = some (r, h1)) : ax_C l G (d + 1) (ax_mn 160) (ax_mc 160) av h r h1 := by
  unfold Model_say_f at ho
  split at ho
  · exact Model_say_t hcall _ _ h ho
  · cases ho
def Model_branch_f (call : ax_Cf) (av : List ax_T) (h : ax_Hp) : ax_O := match av with
  | [Sum.inr (Sum.inr x0), Sum.inl x1, Sum.inl x2] => Model_branch_b call x0 x1 x2 h
  | _ => none
theorem Model_branch_ft {l : Launch} {G : ax_G} {d : Nat} {call : ax_Cf} (hcall : ax_Hc l G d call) (hd8 : 8 ≤ d) (hl : l.stackTraces = false) (av : List ax_T) (h : ax_Hp) (r : ax_Rs) (h1 : ax_Hp) (ho : Model_branch_f call av h = some (r, h1)) : ax_C l G (d + 1) (ax_mn 161) (ax_mc 161) av h r h1 := by
  unfold Model_branch_f at ho
  split at ho
  · exact Model_branch_t hcall _ _ _ h ho
  · cases ho
def Model_readPlain_f (call : ax_Cf) (av : List ax_T) (h : ax_Hp) : ax_O := match av with
  | [Sum.inr (Sum.inr x0), Sum.inl x1, Sum.inl x2] => Model_readPlain_b call x0 x1 x2 h
  | _ => none
theorem Model_readPlain_ft {l : Launch} {G : ax_G} {d : Nat} {call : ax_Cf} (hcall : ax_Hc l G d call) (hd8 : 8 ≤ d) (hl : l.stackTraces = false) (av : List ax_T) (h : ax_Hp) (r : ax_Rs) (h1 : ax_Hp) (ho : Model_readPlain_f call av h = some (r, h1)) : ax_C l G (d + 1) (ax_mn 162) (ax_mc 162) av h r h1 := by
  unfold Model_readPlain_f at ho
  split at ho
  · exact Model_readPlain_t hcall _ _ _ h ho
  · cases ho
def Model_symbol_f (call : ax_Cf) (av : List ax_T) (h : ax_Hp) : ax_O := match av with
  | [Sum.inr (Sum.inr x0), Sum.inl x1, Sum.inl x2, Sum.inl x3] => Model_symbol_b call x0 x1 x2 x3 h
  | _ => none
theorem Model_symbol_ft {l : Launch} {G : ax_G} {d : Nat} {call : ax_Cf} (hcall : ax_Hc l G d call) (hd8 : 8 ≤ d) (hl : l.stackTraces = false) (av : List ax_T) (h : ax_Hp) (r : ax_Rs) (h1 : ax_Hp) (ho : Model_symbol_f call av h = some (r, h1)) : ax_C l G (d + 1) (ax_mn 163) (ax_mc 163) av h r h1 := by
  unfold Model_symbol_f at ho
  split at ho
  · exact Model_symbol_t hcall _ _ _ _ h ho
  · cases ho
def Model_readRow_f (call : ax_Cf) (av : List ax_T) (h : ax_Hp) : ax_O := match av with
  | [Sum.inr (Sum.inr x0), Sum.inl x1] => Model_readRow_b call x0 x1 h
  | _ => none
theorem Model_readRow_ft {l : Launch} {G : ax_G} {d : Nat} {call : ax_Cf} (hcall : ax_Hc l G d call) (hd8 : 8 ≤ d) (hl : l.stackTraces = false) (av : List ax_T) (h : ax_Hp) (r : ax_Rs) (h1 : ax_Hp) (ho : Model_readRow_f call av h = some (r, h1)) : ax_C l G (d + 1) (ax_mn 164) (ax_mc 164) av h r h1 := by
  unfold Model_readRow_f at ho
  split at ho
  · exact Model_readRow_t hcall _ _ h ho
  · cases ho
def Model_readNumber_f (call : ax_Cf) (av : List ax_T) (h : ax_Hp) : ax_O := match av with
  | [Sum.inr (Sum.inr x0), Sum.inl x1, Sum.inl x2] => Model_readNumber_b call x0 x1 x2 h
  | _ => none
theorem Model_readNumber_ft {l : Launch} {G : ax_G} {d : Nat} {call : ax_Cf} (hcall : ax_Hc l G d call) (hd8 : 8 ≤ d) (hl : l.stackTraces = false) (av : List ax_T) (h : ax_Hp) (r : ax_Rs) (h1 : ax_Hp) (ho : Model_readNumber_f call av h = some (r, h1)) : ax_C l G (d + 1) (ax_mn 165) (ax_mc 165) av h r h1 := by
  unfold Model_readNumber_f at ho
  split at ho
  · exact Model_readNumber_t hcall _ _ _ h ho
  · cases ho
def Model_sayBytes_f (call : ax_Cf) (av : List ax_T) (h : ax_Hp) : ax_O := match av with
  | [Sum.inr (Sum.inr x0), Sum.inl x1, Sum.inl x2] => Model_sayBytes_b call x0 x1 x2 h
  | _ => none
theorem Model_sayBytes_ft {l : Launch} {G : ax_G} {d : Nat} {call : ax_Cf} (hcall : ax_Hc l G d call) (hd8 : 8 ≤ d) (hl : l.stackTraces = false) (av : List ax_T) (h : ax_Hp) (r : ax_Rs) (h1 : ax_Hp) (ho : Model_sayBytes_f call av h = some (r, h1)) : ax_C l G (d + 1) (ax_mn 166) (ax_mc 166) av h r h1 := by
  unfold Model_sayBytes_f at ho
  split at ho
  · exact Model_sayBytes_t hcall _ _ _ h ho
  · cases ho
def Model_sayAmount_f (call : ax_Cf) (av : List ax_T) (h : ax_Hp) : ax_O := match av with
  | [Sum.inr (Sum.inr x0), Sum.inr (Sum.inl x1)] => Model_sayAmount_b call x0 x1 h
  | _ => none
theorem Model_sayAmount_ft {l : Launch} {G : ax_G} {d : Nat} {call : ax_Cf} (hcall : ax_Hc l G d call) (hd8 : 8 ≤ d) (hl : l.stackTraces = false) (av : List ax_T) (h : ax_Hp) (r : ax_Rs) (h1 : ax_Hp) (ho : Model_sayAmount_f call av h = some (r, h1)) : ax_C l G (d + 1) (ax_mn 167) (ax_mc 167) av h r h1 := by
  unfold Model_sayAmount_f at ho
  split at ho
  · exact Model_sayAmount_t hcall _ _ h ho
  · cases ho
def Model_openList_f (call : ax_Cf) (av : List ax_T) (h : ax_Hp) : ax_O := match av with
  | [Sum.inr (Sum.inr x0), Sum.inl x1] => Model_openList_b call x0 x1 h
  | _ => none
theorem Model_openList_ft {l : Launch} {G : ax_G} {d : Nat} {call : ax_Cf} (hcall : ax_Hc l G d call) (hd8 : 8 ≤ d) (hl : l.stackTraces = false) (av : List ax_T) (h : ax_Hp) (r : ax_Rs) (h1 : ax_Hp) (ho : Model_openList_f call av h = some (r, h1)) : ax_C l G (d + 1) (ax_mn 168) (ax_mc 168) av h r h1 := by
  unfold Model_openList_f at ho
  split at ho
  · exact Model_openList_t hcall _ _ h ho
  · cases ho
def Model_closeList_f (call : ax_Cf) (av : List ax_T) (h : ax_Hp) : ax_O := match av with
  | [Sum.inr (Sum.inr x0), Sum.inl x1] => Model_closeList_b call x0 x1 h
  | _ => none
theorem Model_closeList_ft {l : Launch} {G : ax_G} {d : Nat} {call : ax_Cf} (hcall : ax_Hc l G d call) (hd8 : 8 ≤ d) (hl : l.stackTraces = false) (av : List ax_T) (h : ax_Hp) (r : ax_Rs) (h1 : ax_Hp) (ho : Model_closeList_f call av h = some (r, h1)) : ax_C l G (d + 1) (ax_mn 169) (ax_mc 169) av h r h1 := by
  unfold Model_closeList_f at ho
  split at ho
  · exact Model_closeList_t hcall _ _ h ho
  · cases ho
def Model_behind_f (call : ax_Cf) (av : List ax_T) (h : ax_Hp) : ax_O := match av with
  | [Sum.inr (Sum.inr x0), Sum.inl x1] => Model_behind_b call x0 x1 h
  | _ => none
theorem Model_behind_ft {l : Launch} {G : ax_G} {d : Nat} {call : ax_Cf} (hcall : ax_Hc l G d call) (hd8 : 8 ≤ d) (hl : l.stackTraces = false) (av : List ax_T) (h : ax_Hp) (r : ax_Rs) (h1 : ax_Hp) (ho : Model_behind_f call av h = some (r, h1)) : ax_C l G (d + 1) (ax_mn 170) (ax_mc 170) av h r h1 := by
  unfold Model_behind_f at ho
  split at ho
  · exact Model_behind_t hcall _ _ h ho
  · cases ho
def Model_readLetter_f (call : ax_Cf) (av : List ax_T) (h : ax_Hp) : ax_O := match av with
  | [Sum.inr (Sum.inr x0), Sum.inl x1, Sum.inl x2, Sum.inl x3] => Model_readLetter_b call x0 x1 x2 x3 h
  | _ => none
theorem Model_readLetter_ft {l : Launch} {G : ax_G} {d : Nat} {call : ax_Cf} (hcall : ax_Hc l G d call) (hd8 : 8 ≤ d) (hl : l.stackTraces = false) (av : List ax_T) (h : ax_Hp) (r : ax_Rs) (h1 : ax_Hp) (ho : Model_readLetter_f call av h = some (r, h1)) : ax_C l G (d + 1) (ax_mn 171) (ax_mc 171) av h r h1 := by
  unfold Model_readLetter_f at ho
  split at ho
  · exact Model_readLetter_t hcall _ _ _ _ h ho
  · cases ho
def Model_mayBegin_f (call : ax_Cf) (av : List ax_T) (h : ax_Hp) : ax_O := match av with
  | [Sum.inr (Sum.inr x0), Sum.inl x1] => Model_mayBegin_b call x0 x1 h
  | _ => none
theorem Model_mayBegin_ft {l : Launch} {G : ax_G} {d : Nat} {call : ax_Cf} (hcall : ax_Hc l G d call) (hd8 : 8 ≤ d) (hl : l.stackTraces = false) (av : List ax_T) (h : ax_Hp) (r : ax_Rs) (h1 : ax_Hp) (ho : Model_mayBegin_f call av h = some (r, h1)) : ax_C l G (d + 1) (ax_mn 172) (ax_mc 172) av h r h1 := by
  unfold Model_mayBegin_f at ho
  split at ho
  · exact Model_mayBegin_t hcall _ _ h ho
  · cases ho
def Model_grow_f (call : ax_Cf) (av : List ax_T) (h : ax_Hp) : ax_O := match av with
  | [Sum.inr (Sum.inr x0), Sum.inl x1, Sum.inl x2, Sum.inl x3] => Model_grow_b call x0 x1 x2 x3 h
  | _ => none
theorem Model_grow_ft {l : Launch} {G : ax_G} {d : Nat} {call : ax_Cf} (hcall : ax_Hc l G d call) (hd8 : 8 ≤ d) (hl : l.stackTraces = false) (av : List ax_T) (h : ax_Hp) (r : ax_Rs) (h1 : ax_Hp) (ho : Model_grow_f call av h = some (r, h1)) : ax_C l G (d + 1) (ax_mn 173) (ax_mc 173) av h r h1 := by
  unfold Model_grow_f at ho
  split at ho
  · exact Model_grow_t hcall _ _ _ _ h ho
  · cases ho
def Model_readSymbols_f (call : ax_Cf) (av : List ax_T) (h : ax_Hp) : ax_O := match av with
  | [Sum.inr (Sum.inr x0), Sum.inl x1, Sum.inl x2, Sum.inl x3] => Model_readSymbols_b call x0 x1 x2 x3 h
  | _ => none
theorem Model_readSymbols_ft {l : Launch} {G : ax_G} {d : Nat} {call : ax_Cf} (hcall : ax_Hc l G d call) (hd8 : 8 ≤ d) (hl : l.stackTraces = false) (av : List ax_T) (h : ax_Hp) (r : ax_Rs) (h1 : ax_Hp) (ho : Model_readSymbols_f call av h = some (r, h1)) : ax_C l G (d + 1) (ax_mn 174) (ax_mc 174) av h r h1 := by
  unfold Model_readSymbols_f at ho
  split at ho
  · exact Model_readSymbols_t hcall _ _ _ _ h ho
  · cases ho
def Model_isSmall_f (call : ax_Cf) (av : List ax_T) (h : ax_Hp) : ax_O := match av with
  | [Sum.inl x0] => Model_isSmall_b call x0 h
  | _ => none
theorem Model_isSmall_ft {l : Launch} {G : ax_G} {d : Nat} {call : ax_Cf} (hcall : ax_Hc l G d call) (hd8 : 8 ≤ d) (hl : l.stackTraces = false) (av : List ax_T) (h : ax_Hp) (r : ax_Rs) (h1 : ax_Hp) (ho : Model_isSmall_f call av h = some (r, h1)) : ax_C l G (d + 1) (ax_mn 175) (ax_mc 175) av h r h1 := by
  unfold Model_isSmall_f at ho
  split at ho
  · exact Model_isSmall_t hcall _ h ho
  · cases ho
def Model_begin_f (call : ax_Cf) (av : List ax_T) (h : ax_Hp) : ax_O := match av with
  | [Sum.inr (Sum.inr x0), Sum.inl x1] => Model_begin_b call x0 x1 h
  | _ => none
theorem Model_begin_ft {l : Launch} {G : ax_G} {d : Nat} {call : ax_Cf} (hcall : ax_Hc l G d call) (hd8 : 8 ≤ d) (hl : l.stackTraces = false) (av : List ax_T) (h : ax_Hp) (r : ax_Rs) (h1 : ax_Hp) (ho : Model_begin_f call av h = some (r, h1)) : ax_C l G (d + 1) (ax_mn 176) (ax_mc 176) av h r h1 := by
  unfold Model_begin_f at ho
  split at ho
  · exact Model_begin_t hcall _ _ h ho
  · cases ho
def Model_readName_f (call : ax_Cf) (av : List ax_T) (h : ax_Hp) : ax_O := match av with
  | [Sum.inr (Sum.inr x0), Sum.inl x1, Sum.inl x2] => Model_readName_b call x0 x1 x2 h
  | _ => none
theorem Model_readName_ft {l : Launch} {G : ax_G} {d : Nat} {call : ax_Cf} (hcall : ax_Hc l G d call) (hd8 : 8 ≤ d) (hl : l.stackTraces = false) (av : List ax_T) (h : ax_Hp) (r : ax_Rs) (h1 : ax_Hp) (ho : Model_readName_f call av h = some (r, h1)) : ax_C l G (d + 1) (ax_mn 177) (ax_mc 177) av h r h1 := by
  unfold Model_readName_f at ho
  split at ho
  · exact Model_readName_t hcall _ _ _ h ho
  · cases ho
def Model_sameText_f (call : ax_Cf) (av : List ax_T) (h : ax_Hp) : ax_O := match av with
  | [Sum.inr (Sum.inr x0), Sum.inl x1] => Model_sameText_b call x0 x1 h
  | _ => none
theorem Model_sameText_ft {l : Launch} {G : ax_G} {d : Nat} {call : ax_Cf} (hcall : ax_Hc l G d call) (hd8 : 8 ≤ d) (hl : l.stackTraces = false) (av : List ax_T) (h : ax_Hp) (r : ax_Rs) (h1 : ax_Hp) (ho : Model_sameText_f call av h = some (r, h1)) : ax_C l G (d + 1) (ax_mn 178) (ax_mc 178) av h r h1 := by
  unfold Model_sameText_f at ho
  split at ho
  · exact Model_sameText_t hcall _ _ h ho
  · cases ho
def Model_getsOn_f (call : ax_Cf) (av : List ax_T) (h : ax_Hp) : ax_O := match av with
  | [Sum.inr (Sum.inr x0), Sum.inl x1, Sum.inl x2] => Model_getsOn_b call x0 x1 x2 h
  | _ => none
theorem Model_getsOn_ft {l : Launch} {G : ax_G} {d : Nat} {call : ax_Cf} (hcall : ax_Hc l G d call) (hd8 : 8 ≤ d) (hl : l.stackTraces = false) (av : List ax_T) (h : ax_Hp) (r : ax_Rs) (h1 : ax_Hp) (ho : Model_getsOn_f call av h = some (r, h1)) : ax_C l G (d + 1) (ax_mn 179) (ax_mc 179) av h r h1 := by
  unfold Model_getsOn_f at ho
  split at ho
  · exact Model_getsOn_t hcall _ _ _ h ho
  · cases ho
def Model_load_f (call : ax_Cf) (av : List ax_T) (h : ax_Hp) : ax_O := match av with
  | [Sum.inr (Sum.inr x0), Sum.inl x1, Sum.inl x2] => Model_load_b call x0 x1 x2 h
  | _ => none
theorem Model_load_ft {l : Launch} {G : ax_G} {d : Nat} {call : ax_Cf} (hcall : ax_Hc l G d call) (hd8 : 8 ≤ d) (hl : l.stackTraces = false) (av : List ax_T) (h : ax_Hp) (r : ax_Rs) (h1 : ax_Hp) (ho : Model_load_f call av h = some (r, h1)) : ax_C l G (d + 1) (ax_mn 180) (ax_mc 180) av h r h1 := by
  unfold Model_load_f at ho
  split at ho
  · exact Model_load_t hcall _ _ _ h ho
  · cases ho
def Model_compare_f (call : ax_Cf) (av : List ax_T) (h : ax_Hp) : ax_O := match av with
  | [Sum.inr (Sum.inr x0)] => Model_compare_b call x0 h
  | _ => none
theorem Model_compare_ft {l : Launch} {G : ax_G} {d : Nat} {call : ax_Cf} (hcall : ax_Hc l G d call) (hd8 : 8 ≤ d) (hl : l.stackTraces = false) (av : List ax_T) (h : ax_Hp) (r : ax_Rs) (h1 : ax_Hp) (ho : Model_compare_f call av h = some (r, h1)) : ax_C l G (d + 1) (ax_mn 181) (ax_mc 181) av h r h1 := by
  unfold Model_compare_f at ho
  split at ho
  · exact Model_compare_t hcall _ h ho
  · cases ho
def Model_readsNode_f (call : ax_Cf) (av : List ax_T) (h : ax_Hp) : ax_O := match av with
  | [Sum.inr (Sum.inr x0), Sum.inl x1, Sum.inl x2] => Model_readsNode_b call x0 x1 x2 h
  | _ => none
theorem Model_readsNode_ft {l : Launch} {G : ax_G} {d : Nat} {call : ax_Cf} (hcall : ax_Hc l G d call) (hd8 : 8 ≤ d) (hl : l.stackTraces = false) (av : List ax_T) (h : ax_Hp) (r : ax_Rs) (h1 : ax_Hp) (ho : Model_readsNode_f call av h = some (r, h1)) : ax_C l G (d + 1) (ax_mn 182) (ax_mc 182) av h r h1 := by
  unfold Model_readsNode_f at ho
  split at ho
  · exact Model_readsNode_t hcall _ _ _ h ho
  · cases ho
def Model_knows_f (call : ax_Cf) (av : List ax_T) (h : ax_Hp) : ax_O := match av with
  | [Sum.inr (Sum.inr x0), Sum.inl x1, Sum.inl x2] => Model_knows_b call x0 x1 x2 h
  | _ => none
theorem Model_knows_ft {l : Launch} {G : ax_G} {d : Nat} {call : ax_Cf} (hcall : ax_Hc l G d call) (hd8 : 8 ≤ d) (hl : l.stackTraces = false) (av : List ax_T) (h : ax_Hp) (r : ax_Rs) (h1 : ax_Hp) (ho : Model_knows_f call av h = some (r, h1)) : ax_C l G (d + 1) (ax_mn 183) (ax_mc 183) av h r h1 := by
  unfold Model_knows_f at ho
  split at ho
  · exact Model_knows_t hcall _ _ _ h ho
  · cases ho
def Model_fieldOf_f (call : ax_Cf) (av : List ax_T) (h : ax_Hp) : ax_O := match av with
  | [Sum.inr (Sum.inr x0), Sum.inl x1, Sum.inl x2] => Model_fieldOf_b call x0 x1 x2 h
  | _ => none
theorem Model_fieldOf_ft {l : Launch} {G : ax_G} {d : Nat} {call : ax_Cf} (hcall : ax_Hc l G d call) (hd8 : 8 ≤ d) (hl : l.stackTraces = false) (av : List ax_T) (h : ax_Hp) (r : ax_Rs) (h1 : ax_Hp) (ho : Model_fieldOf_f call av h = some (r, h1)) : ax_C l G (d + 1) (ax_mn 184) (ax_mc 184) av h r h1 := by
  unfold Model_fieldOf_f at ho
  split at ho
  · exact Model_fieldOf_t hcall _ _ _ h ho
  · cases ho
def Model_versions_f (call : ax_Cf) (av : List ax_T) (h : ax_Hp) : ax_O := match av with
  | [Sum.inr (Sum.inr x0), Sum.inl x1] => Model_versions_b call x0 x1 h
  | _ => none
theorem Model_versions_ft {l : Launch} {G : ax_G} {d : Nat} {call : ax_Cf} (hcall : ax_Hc l G d call) (hd8 : 8 ≤ d) (hl : l.stackTraces = false) (av : List ax_T) (h : ax_Hp) (r : ax_Rs) (h1 : ax_Hp) (ho : Model_versions_f call av h = some (r, h1)) : ax_C l G (d + 1) (ax_mn 185) (ax_mc 185) av h r h1 := by
  unfold Model_versions_f at ho
  split at ho
  · exact Model_versions_t hcall _ _ h ho
  · cases ho
def Model_reads_f (call : ax_Cf) (av : List ax_T) (h : ax_Hp) : ax_O := match av with
  | [Sum.inr (Sum.inr x0), Sum.inl x1, Sum.inl x2, Sum.inl x3] => Model_reads_b call x0 x1 x2 x3 h
  | _ => none
theorem Model_reads_ft {l : Launch} {G : ax_G} {d : Nat} {call : ax_Cf} (hcall : ax_Hc l G d call) (hd8 : 8 ≤ d) (hl : l.stackTraces = false) (av : List ax_T) (h : ax_Hp) (r : ax_Rs) (h1 : ax_Hp) (ho : Model_reads_f call av h = some (r, h1)) : ax_C l G (d + 1) (ax_mn 186) (ax_mc 186) av h r h1 := by
  unfold Model_reads_f at ho
  split at ho
  · exact Model_reads_t hcall _ _ _ _ h ho
  · cases ho
def Model_isVersion_f (call : ax_Cf) (av : List ax_T) (h : ax_Hp) : ax_O := match av with
  | [Sum.inr (Sum.inr x0), Sum.inl x1, Sum.inl x2] => Model_isVersion_b call x0 x1 x2 h
  | _ => none
theorem Model_isVersion_ft {l : Launch} {G : ax_G} {d : Nat} {call : ax_Cf} (hcall : ax_Hc l G d call) (hd8 : 8 ≤ d) (hl : l.stackTraces = false) (av : List ax_T) (h : ax_Hp) (r : ax_Rs) (h1 : ax_Hp) (ho : Model_isVersion_f call av h = some (r, h1)) : ax_C l G (d + 1) (ax_mn 187) (ax_mc 187) av h r h1 := by
  unfold Model_isVersion_f at ho
  split at ho
  · exact Model_isVersion_t hcall _ _ _ h ho
  · cases ho
def Model_print_f (call : ax_Cf) (av : List ax_T) (h : ax_Hp) : ax_O := match av with
  | [Sum.inr (Sum.inr x0), Sum.inl x1, Sum.inl x2, Sum.inl x3] => Model_print_b call x0 x1 x2 x3 h
  | _ => none
theorem Model_print_ft {l : Launch} {G : ax_G} {d : Nat} {call : ax_Cf} (hcall : ax_Hc l G d call) (hd8 : 8 ≤ d) (hl : l.stackTraces = false) (av : List ax_T) (h : ax_Hp) (r : ax_Rs) (h1 : ax_Hp) (ho : Model_print_f call av h = some (r, h1)) : ax_C l G (d + 1) (ax_mn 188) (ax_mc 188) av h r h1 := by
  unfold Model_print_f at ho
  split at ho
  · exact Model_print_t hcall _ _ _ _ h ho
  · cases ho
def Model_draftText_f (call : ax_Cf) (av : List ax_T) (h : ax_Hp) : ax_O := match av with
  | [Sum.inr (Sum.inr x0), Sum.inl x1, Sum.inl x2] => Model_draftText_b call x0 x1 x2 h
  | _ => none
theorem Model_draftText_ft {l : Launch} {G : ax_G} {d : Nat} {call : ax_Cf} (hcall : ax_Hc l G d call) (hd8 : 8 ≤ d) (hl : l.stackTraces = false) (av : List ax_T) (h : ax_Hp) (r : ax_Rs) (h1 : ax_Hp) (ho : Model_draftText_f call av h = some (r, h1)) : ax_C l G (d + 1) (ax_mn 189) (ax_mc 189) av h r h1 := by
  unfold Model_draftText_f at ho
  split at ho
  · exact Model_draftText_t hcall _ _ _ h ho
  · cases ho
def Model_keep_f (call : ax_Cf) (av : List ax_T) (h : ax_Hp) : ax_O := match av with
  | [Sum.inr (Sum.inr x0)] => Model_keep_b call x0 h
  | _ => none
theorem Model_keep_ft {l : Launch} {G : ax_G} {d : Nat} {call : ax_Cf} (hcall : ax_Hc l G d call) (hd8 : 8 ≤ d) (hl : l.stackTraces = false) (av : List ax_T) (h : ax_Hp) (r : ax_Rs) (h1 : ax_Hp) (ho : Model_keep_f call av h = some (r, h1)) : ax_C l G (d + 1) (ax_mn 190) (ax_mc 190) av h r h1 := by
  unfold Model_keep_f at ho
  split at ho
  · exact Model_keep_t hcall _ h ho
  · cases ho
def Model_fingerprint_f (call : ax_Cf) (av : List ax_T) (h : ax_Hp) : ax_O := match av with
  | [Sum.inr (Sum.inr x0), Sum.inl x1, Sum.inl x2] => Model_fingerprint_b call x0 x1 x2 h
  | _ => none
theorem Model_fingerprint_ft {l : Launch} {G : ax_G} {d : Nat} {call : ax_Cf} (hcall : ax_Hc l G d call) (hd8 : 8 ≤ d) (hl : l.stackTraces = false) (av : List ax_T) (h : ax_Hp) (r : ax_Rs) (h1 : ax_Hp) (ho : Model_fingerprint_f call av h = some (r, h1)) : ax_C l G (d + 1) (ax_mn 191) (ax_mc 191) av h r h1 := by
  unfold Model_fingerprint_f at ho
  split at ho
  · exact Model_fingerprint_t hcall _ _ _ h ho
  · cases ho
def Model_encode_f (call : ax_Cf) (av : List ax_T) (h : ax_Hp) : ax_O := match av with
  | [Sum.inr (Sum.inr x0), Sum.inl x1, Sum.inl x2] => Model_encode_b call x0 x1 x2 h
  | _ => none
theorem Model_encode_ft {l : Launch} {G : ax_G} {d : Nat} {call : ax_Cf} (hcall : ax_Hc l G d call) (hd8 : 8 ≤ d) (hl : l.stackTraces = false) (av : List ax_T) (h : ax_Hp) (r : ax_Rs) (h1 : ax_Hp) (ho : Model_encode_f call av h = some (r, h1)) : ax_C l G (d + 1) (ax_mn 192) (ax_mc 192) av h r h1 := by
  unfold Model_encode_f at ho
  split at ho
  · exact Model_encode_t hcall _ _ _ h ho
  · cases ho
def Model_decode_f (call : ax_Cf) (av : List ax_T) (h : ax_Hp) : ax_O := match av with
  | [Sum.inr (Sum.inr x0), Sum.inl x1, Sum.inl x2, Sum.inl x3] => Model_decode_b call x0 x1 x2 x3 h
  | _ => none
theorem Model_decode_ft {l : Launch} {G : ax_G} {d : Nat} {call : ax_Cf} (hcall : ax_Hc l G d call) (hd8 : 8 ≤ d) (hl : l.stackTraces = false) (av : List ax_T) (h : ax_Hp) (r : ax_Rs) (h1 : ax_Hp) (ho : Model_decode_f call av h = some (r, h1)) : ax_C l G (d + 1) (ax_mn 193) (ax_mc 193) av h r h1 := by
  unfold Model_decode_f at ho
  split at ho
  · exact Model_decode_t hcall _ _ _ _ h ho
  · cases ho
def Model_scan_f (call : ax_Cf) (av : List ax_T) (h : ax_Hp) : ax_O := match av with
  | [Sum.inr (Sum.inr x0), Sum.inl x1, Sum.inl x2] => Model_scan_b call x0 x1 x2 h
  | _ => none
theorem Model_scan_ft {l : Launch} {G : ax_G} {d : Nat} {call : ax_Cf} (hcall : ax_Hc l G d call) (hd8 : 8 ≤ d) (hl : l.stackTraces = false) (av : List ax_T) (h : ax_Hp) (r : ax_Rs) (h1 : ax_Hp) (ho : Model_scan_f call av h = some (r, h1)) : ax_C l G (d + 1) (ax_mn 194) (ax_mc 194) av h r h1 := by
  unfold Model_scan_f at ho
  split at ho
  · exact Model_scan_t hcall _ _ _ h ho
  · cases ho
def Model_meet_f (call : ax_Cf) (av : List ax_T) (h : ax_Hp) : ax_O := match av with
  | [Sum.inr (Sum.inr x0), Sum.inl x1, Sum.inl x2] => Model_meet_b call x0 x1 x2 h
  | _ => none
theorem Model_meet_ft {l : Launch} {G : ax_G} {d : Nat} {call : ax_Cf} (hcall : ax_Hc l G d call) (hd8 : 8 ≤ d) (hl : l.stackTraces = false) (av : List ax_T) (h : ax_Hp) (r : ax_Rs) (h1 : ax_Hp) (ho : Model_meet_f call av h = some (r, h1)) : ax_C l G (d + 1) (ax_mn 195) (ax_mc 195) av h r h1 := by
  unfold Model_meet_f at ho
  split at ho
  · exact Model_meet_t hcall _ _ _ h ho
  · cases ho
def Model_takeHalf_f (call : ax_Cf) (av : List ax_T) (h : ax_Hp) : ax_O := match av with
  | [Sum.inr (Sum.inr x0), Sum.inl x1, Sum.inl x2] => Model_takeHalf_b call x0 x1 x2 h
  | _ => none
theorem Model_takeHalf_ft {l : Launch} {G : ax_G} {d : Nat} {call : ax_Cf} (hcall : ax_Hc l G d call) (hd8 : 8 ≤ d) (hl : l.stackTraces = false) (av : List ax_T) (h : ax_Hp) (r : ax_Rs) (h1 : ax_Hp) (ho : Model_takeHalf_f call av h = some (r, h1)) : ax_C l G (d + 1) (ax_mn 196) (ax_mc 196) av h r h1 := by
  unfold Model_takeHalf_f at ho
  split at ho
  · exact Model_takeHalf_t hcall _ _ _ h ho
  · cases ho
def Model_byteAt_f (call : ax_Cf) (av : List ax_T) (h : ax_Hp) : ax_O := match av with
  | [Sum.inr (Sum.inr x0), Sum.inl x1] => Model_byteAt_b call x0 x1 h
  | _ => none
theorem Model_byteAt_ft {l : Launch} {G : ax_G} {d : Nat} {call : ax_Cf} (hcall : ax_Hc l G d call) (hd8 : 8 ≤ d) (hl : l.stackTraces = false) (av : List ax_T) (h : ax_Hp) (r : ax_Rs) (h1 : ax_Hp) (ho : Model_byteAt_f call av h = some (r, h1)) : ax_C l G (d + 1) (ax_mn 197) (ax_mc 197) av h r h1 := by
  unfold Model_byteAt_f at ho
  split at ho
  · exact Model_byteAt_t hcall _ _ h ho
  · cases ho
def Model_takePlain_f (call : ax_Cf) (av : List ax_T) (h : ax_Hp) : ax_O := match av with
  | [Sum.inr (Sum.inr x0), Sum.inl x1, Sum.inl x2] => Model_takePlain_b call x0 x1 x2 h
  | _ => none
theorem Model_takePlain_ft {l : Launch} {G : ax_G} {d : Nat} {call : ax_Cf} (hcall : ax_Hc l G d call) (hd8 : 8 ≤ d) (hl : l.stackTraces = false) (av : List ax_T) (h : ax_Hp) (r : ax_Rs) (h1 : ax_Hp) (ho : Model_takePlain_f call av h = some (r, h1)) : ax_C l G (d + 1) (ax_mn 198) (ax_mc 198) av h r h1 := by
  unfold Model_takePlain_f at ho
  split at ho
  · exact Model_takePlain_t hcall _ _ _ h ho
  · cases ho
def Model_takeString_f (call : ax_Cf) (av : List ax_T) (h : ax_Hp) : ax_O := match av with
  | [Sum.inr (Sum.inr x0), Sum.inl x1] => Model_takeString_b call x0 x1 h
  | _ => none
theorem Model_takeString_ft {l : Launch} {G : ax_G} {d : Nat} {call : ax_Cf} (hcall : ax_Hc l G d call) (hd8 : 8 ≤ d) (hl : l.stackTraces = false) (av : List ax_T) (h : ax_Hp) (r : ax_Rs) (h1 : ax_Hp) (ho : Model_takeString_f call av h = some (r, h1)) : ax_C l G (d + 1) (ax_mn 199) (ax_mc 199) av h r h1 := by
  unfold Model_takeString_f at ho
  split at ho
  · exact Model_takeString_t hcall _ _ h ho
  · cases ho
def Model_takeNumber_f (call : ax_Cf) (av : List ax_T) (h : ax_Hp) : ax_O := match av with
  | [Sum.inr (Sum.inr x0), Sum.inl x1, Sum.inl x2] => Model_takeNumber_b call x0 x1 x2 h
  | _ => none
theorem Model_takeNumber_ft {l : Launch} {G : ax_G} {d : Nat} {call : ax_Cf} (hcall : ax_Hc l G d call) (hd8 : 8 ≤ d) (hl : l.stackTraces = false) (av : List ax_T) (h : ax_Hp) (r : ax_Rs) (h1 : ax_Hp) (ho : Model_takeNumber_f call av h = some (r, h1)) : ax_C l G (d + 1) (ax_mn 200) (ax_mc 200) av h r h1 := by
  unfold Model_takeNumber_f at ho
  split at ho
  · exact Model_takeNumber_t hcall _ _ _ h ho
  · cases ho
def Model_takeCount_f (call : ax_Cf) (av : List ax_T) (h : ax_Hp) : ax_O := match av with
  | [Sum.inr (Sum.inr x0), Sum.inl x1] => Model_takeCount_b call x0 x1 h
  | _ => none
theorem Model_takeCount_ft {l : Launch} {G : ax_G} {d : Nat} {call : ax_Cf} (hcall : ax_Hc l G d call) (hd8 : 8 ≤ d) (hl : l.stackTraces = false) (av : List ax_T) (h : ax_Hp) (r : ax_Rs) (h1 : ax_Hp) (ho : Model_takeCount_f call av h = some (r, h1)) : ax_C l G (d + 1) (ax_mn 201) (ax_mc 201) av h r h1 := by
  unfold Model_takeCount_f at ho
  split at ho
  · exact Model_takeCount_t hcall _ _ h ho
  · cases ho
def Model_resolve_f (call : ax_Cf) (av : List ax_T) (h : ax_Hp) : ax_O := match av with
  | [Sum.inr (Sum.inr x0)] => Model_resolve_b call x0 h
  | _ => none
theorem Model_resolve_ft {l : Launch} {G : ax_G} {d : Nat} {call : ax_Cf} (hcall : ax_Hc l G d call) (hd8 : 8 ≤ d) (hl : l.stackTraces = false) (av : List ax_T) (h : ax_Hp) (r : ax_Rs) (h1 : ax_Hp) (ho : Model_resolve_f call av h = some (r, h1)) : ax_C l G (d + 1) (ax_mn 202) (ax_mc 202) av h r h1 := by
  unfold Model_resolve_f at ho
  split at ho
  · exact Model_resolve_t hcall _ h ho
  · cases ho
def Model_tell_f (call : ax_Cf) (av : List ax_T) (h : ax_Hp) : ax_O := match av with
  | [Sum.inr (Sum.inr x0), Sum.inl x1, Sum.inl x2, Sum.inl x3] => Model_tell_b call x0 x1 x2 x3 h
  | _ => none
theorem Model_tell_ft {l : Launch} {G : ax_G} {d : Nat} {call : ax_Cf} (hcall : ax_Hc l G d call) (hd8 : 8 ≤ d) (hl : l.stackTraces = false) (av : List ax_T) (h : ax_Hp) (r : ax_Rs) (h1 : ax_Hp) (ho : Model_tell_f call av h = some (r, h1)) : ax_C l G (d + 1) (ax_mn 203) (ax_mc 203) av h r h1 := by
  unfold Model_tell_f at ho
  split at ho
  · exact Model_tell_t hcall _ _ _ _ h ho
  · cases ho
def Model_tellPlain_f (call : ax_Cf) (av : List ax_T) (h : ax_Hp) : ax_O := match av with
  | [Sum.inr (Sum.inr x0), Sum.inl x1, Sum.inl x2, Sum.inl x3] => Model_tellPlain_b call x0 x1 x2 x3 h
  | _ => none
theorem Model_tellPlain_ft {l : Launch} {G : ax_G} {d : Nat} {call : ax_Cf} (hcall : ax_Hc l G d call) (hd8 : 8 ≤ d) (hl : l.stackTraces = false) (av : List ax_T) (h : ax_Hp) (r : ax_Rs) (h1 : ax_Hp) (ho : Model_tellPlain_f call av h = some (r, h1)) : ax_C l G (d + 1) (ax_mn 204) (ax_mc 204) av h r h1 := by
  unfold Model_tellPlain_f at ho
  split at ho
  · exact Model_tellPlain_t hcall _ _ _ _ h ho
  · cases ho
def Model_sayNumber_f (call : ax_Cf) (av : List ax_T) (h : ax_Hp) : ax_O := match av with
  | [Sum.inr (Sum.inr x0), Sum.inr (Sum.inl x1)] => Model_sayNumber_b call x0 x1 h
  | _ => none
theorem Model_sayNumber_ft {l : Launch} {G : ax_G} {d : Nat} {call : ax_Cf} (hcall : ax_Hc l G d call) (hd8 : 8 ≤ d) (hl : l.stackTraces = false) (av : List ax_T) (h : ax_Hp) (r : ax_Rs) (h1 : ax_Hp) (ho : Model_sayNumber_f call av h = some (r, h1)) : ax_C l G (d + 1) (ax_mn 205) (ax_mc 205) av h r h1 := by
  unfold Model_sayNumber_f at ho
  split at ho
  · exact Model_sayNumber_t hcall _ _ h ho
  · cases ho
def Model_tellElement_f (call : ax_Cf) (av : List ax_T) (h : ax_Hp) : ax_O := match av with
  | [Sum.inr (Sum.inr x0)] => Model_tellElement_b call x0 h
  | _ => none
theorem Model_tellElement_ft {l : Launch} {G : ax_G} {d : Nat} {call : ax_Cf} (hcall : ax_Hc l G d call) (hd8 : 8 ≤ d) (hl : l.stackTraces = false) (av : List ax_T) (h : ax_Hp) (r : ax_Rs) (h1 : ax_Hp) (ho : Model_tellElement_f call av h = some (r, h1)) : ax_C l G (d + 1) (ax_mn 206) (ax_mc 206) av h r h1 := by
  unfold Model_tellElement_f at ho
  split at ho
  · exact Model_tellElement_t hcall _ h ho
  · cases ho
def Model_tellField_f (call : ax_Cf) (av : List ax_T) (h : ax_Hp) : ax_O := match av with
  | [Sum.inr (Sum.inr x0)] => Model_tellField_b call x0 h
  | _ => none
theorem Model_tellField_ft {l : Launch} {G : ax_G} {d : Nat} {call : ax_Cf} (hcall : ax_Hc l G d call) (hd8 : 8 ≤ d) (hl : l.stackTraces = false) (av : List ax_T) (h : ax_Hp) (r : ax_Rs) (h1 : ax_Hp) (ho : Model_tellField_f call av h = some (r, h1)) : ax_C l G (d + 1) (ax_mn 207) (ax_mc 207) av h r h1 := by
  unfold Model_tellField_f at ho
  split at ho
  · exact Model_tellField_t hcall _ h ho
  · cases ho
def Model_place_f (call : ax_Cf) (av : List ax_T) (h : ax_Hp) : ax_O := match av with
  | [Sum.inr (Sum.inr x0)] => Model_place_b call x0 h
  | _ => none
theorem Model_place_ft {l : Launch} {G : ax_G} {d : Nat} {call : ax_Cf} (hcall : ax_Hc l G d call) (hd8 : 8 ≤ d) (hl : l.stackTraces = false) (av : List ax_T) (h : ax_Hp) (r : ax_Rs) (h1 : ax_Hp) (ho : Model_place_f call av h = some (r, h1)) : ax_C l G (d + 1) (ax_mn 208) (ax_mc 208) av h r h1 := by
  unfold Model_place_f at ho
  split at ho
  · exact Model_place_t hcall _ h ho
  · cases ho
def Model_out_f (call : ax_Cf) (av : List ax_T) (h : ax_Hp) : ax_O := match av with
  | [Sum.inr (Sum.inr x0), Sum.inl x1] => Model_out_b call x0 x1 h
  | _ => none
theorem Model_out_ft {l : Launch} {G : ax_G} {d : Nat} {call : ax_Cf} (hcall : ax_Hc l G d call) (hd8 : 8 ≤ d) (hl : l.stackTraces = false) (av : List ax_T) (h : ax_Hp) (r : ax_Rs) (h1 : ax_Hp) (ho : Model_out_f call av h = some (r, h1)) : ax_C l G (d + 1) (ax_mn 209) (ax_mc 209) av h r h1 := by
  unfold Model_out_f at ho
  split at ho
  · exact Model_out_t hcall _ _ h ho
  · cases ho
def Arrays_copyOf_f (call : ax_Cf) (av : List ax_T) (h : ax_Hp) : ax_O := match av with
  | [Sum.inr (Sum.inr x0), Sum.inl x1] => Arrays_copyOf_b call x0 x1 h
  | _ => none
theorem Arrays_copyOf_ft {l : Launch} {G : ax_G} {d : Nat} {call : ax_Cf} (hcall : ax_Hc l G d call) (hd8 : 8 ≤ d) (hl : l.stackTraces = false) (av : List ax_T) (h : ax_Hp) (r : ax_Rs) (h1 : ax_Hp) (ho : Arrays_copyOf_f call av h = some (r, h1)) : ax_C l G (d + 1) (ax_mn 86) (ax_mc 86) av h r h1 := by
  unfold Arrays_copyOf_f at ho
  split at ho
  · exact Arrays_copyOf_t hcall _ _ h ho
  · cases ho
def ax_tb (call : ax_Cf) : ax_Cf := fun j => match j with
  | 0 => Desk_init_f call
  | 1 => Row_init_f call
  | 2 => Schema_init_f call
  | 3 => Subject_init_f call
  | 4 => Desk_write_f call
  | 5 => Desk_byteOf_f call
  | 6 => Desk_isCharacter_f call
  | 7 => Row_room_f call
  | 8 => Row_add_f call
  | 9 => Desk_wipe_f call
  | 10 => Row_clear_f call
  | 11 => Desk_feed_f call
  | 12 => Desk_drain_f call
  | 13 => Desk_place_f call
  | 14 => Law_mode_f call
  | 15 => Desk_mode_f call
  | 16 => Desk_subjectAt_f call
  | 17 => Subject_setMode_f call
  | 18 => Law_register_f call
  | 19 => Desk_register_f call
  | 20 => Cursor_init_f call
  | 21 => SchemaReader_init_f call
  | 22 => ValueReader_init_f call
  | 23 => SchemaReader_readWhole_f call
  | 24 => Schema_clearMarks_f call
  | 25 => Arrays_fill_f call
  | 26 => SchemaReader_readType_f call
  | 27 => Cursor_at_f call
  | 28 => SchemaReader_readTypeOfKind_f call
  | 29 => Cursor_peek_f call
  | 30 => Cursor_take_f call
  | 31 => SchemaReader_readSymbols_f call
  | 32 => Desk_smallLetterBit_f call
  | 33 => Desk_isSmallLetter_f call
  | 34 => Cursor_step_f call
  | 35 => SchemaReader_readSymbolDefault_f call
  | 36 => Schema_markEnd_f call
  | 37 => SchemaReader_readBranches_f call
  | 38 => Desk_capitalBit_f call
  | 39 => Schema_markNext_f call
  | 40 => SchemaReader_readFields_f call
  | 41 => SchemaReader_readFieldBehindName_f call
  | 42 => ValueReader_readLiteral_f call
  | 43 => ValueReader_readPart_f call
  | 44 => Schema_kind_f call
  | 45 => Row_at_f call
  | 46 => ValueReader_readBoolean_f call
  | 47 => ValueReader_readNumber_f call
  | 48 => ValueReader_addNumber_f call
  | 49 => Desk_isDigit_f call
  | 50 => ValueReader_readString_f call
  | 51 => Row_size_f call
  | 52 => Cursor_isAtEnd_f call
  | 53 => Row_set_f call
  | 54 => ValueReader_readSymbol_f call
  | 55 => Schema_symbolNumber_f call
  | 56 => ValueReader_readElements_f call
  | 57 => Schema_element_f call
  | 58 => ValueReader_readFirstBranch_f call
  | 59 => Schema_markUnion_f call
  | 60 => Schema_firstPart_f call
  | 61 => ValueReader_readBranch_f call
  | 62 => Schema_branch_f call
  | 63 => Schema_nextPart_f call
  | 64 => ValueReader_readFields_f call
  | 65 => Schema_fieldType_f call
  | 66 => Subject_numberOf_f call
  | 67 => Schema_sameTextAs_f call
  | 68 => Row_sameAs_f call
  | 69 => Subject_admits_f call
  | 70 => Subject_getOn_f call
  | 71 => Compatibility_canRead_f call
  | 72 => Compatibility_canReadType_f call
  | 73 => Compatibility_canReadBranches_f call
  | 74 => Compatibility_readingBranch_f call
  | 75 => Compatibility_canReadSymbols_f call
  | 76 => Schema_symbolDefault_f call
  | 77 => Schema_end_f call
  | 78 => Schema_symbolCount_f call
  | 79 => Schema_symbol_f call
  | 80 => Compatibility_canReadFields_f call
  | 81 => Schema_at_f call
  | 82 => Schema_fieldNamed_f call
  | 83 => Schema_fieldDefault_f call
  | 84 => Schema_copy_f call
  | 85 => Row_copy_f call
  | 86 => Arrays_copyOf_f call
  | 88 => Subject_add_f call
  | 89 => Law_versions_f call
  | 90 => Desk_versions_f call
  | 91 => Subject_count_f call
  | 92 => Law_reads_f call
  | 93 => Desk_reads_f call
  | 94 => Desk_versionAt_f call
  | 95 => Subject_version_f call
  | 96 => Law_print_f call
  | 97 => Desk_print_f call
  | 98 => Schema_copyBareTo_f call
  | 99 => Schema_copyTo_f call
  | 100 => Desk_showDraft_f call
  | 101 => Law_fingerprint_f call
  | 102 => Desk_fingerprint_f call
  | 103 => Desk_mixed_f call
  | 104 => Law_encode_f call
  | 105 => Desk_encode_f call
  | 106 => ValueReader_readWhole_f call
  | 107 => Law_decode_f call
  | 108 => Desk_decode_f call
  | 109 => StreamReader_init_f call
  | 110 => StreamReader_readWhole_f call
  | 111 => StreamReader_skip_f call
  | 112 => StreamReader_readBoolean_f call
  | 113 => StreamReader_readNumber_f call
  | 114 => StreamReader_skipString_f call
  | 115 => StreamReader_readCount_f call
  | 116 => StreamReader_readStringCharacter_f call
  | 117 => StreamReader_skipElements_f call
  | 118 => StreamReader_skipPart_f call
  | 119 => StreamReader_skipBranch_f call
  | 120 => StreamReader_readBranch_f call
  | 121 => Schema_branchCount_f call
  | 122 => StreamReader_skipFields_f call
  | 123 => Resolver_init_f call
  | 124 => Resolver_resolveWhole_f call
  | 125 => Cursor_moveTo_f call
  | 126 => Resolver_resolve_f call
  | 127 => Resolver_resolveAsBranch_f call
  | 128 => Compatibility_firstReadingBranch_f call
  | 129 => StreamReader_number_f call
  | 130 => Resolver_addNumber_f call
  | 131 => Resolver_countFigures_f call
  | 132 => Resolver_resolveString_f call
  | 133 => Resolver_resolveSymbol_f call
  | 134 => Resolver_resolveElements_f call
  | 135 => Resolver_resolveFields_f call
  | 136 => Resolver_noteFieldStart_f call
  | 137 => StreamReader_skipField_f call
  | 138 => Resolver_resolveField_f call
  | 139 => Resolver_addDefault_f call
  | 140 => Schema_isMarkedUnion_f call
  | 141 => Law_out_f call
  | 142 => Desk_out_f call
  | 143 => Model_init_f call
  | 144 => Model_thrown_f call
  | 145 => Model_write_f call
  | 146 => Model_wipe_f call
  | 147 => Model_feed_f call
  | 148 => Model_drain_f call
  | 149 => Model_mode_f call
  | 150 => Model_isSubject_f call
  | 151 => Model_register_f call
  | 152 => Model_loadTyped_f call
  | 153 => Model_readSchema_f call
  | 154 => Model_readBehind_f call
  | 155 => Model_look_f call
  | 156 => Model_readText_f call
  | 157 => Model_enter_f call
  | 158 => Model_see_f call
  | 159 => Model_sayCharacters_f call
  | 160 => Model_say_f call
  | 161 => Model_branch_f call
  | 162 => Model_readPlain_f call
  | 163 => Model_symbol_f call
  | 164 => Model_readRow_f call
  | 165 => Model_readNumber_f call
  | 166 => Model_sayBytes_f call
  | 167 => Model_sayAmount_f call
  | 168 => Model_openList_f call
  | 169 => Model_closeList_f call
  | 170 => Model_behind_f call
  | 171 => Model_readLetter_f call
  | 172 => Model_mayBegin_f call
  | 173 => Model_grow_f call
  | 174 => Model_readSymbols_f call
  | 175 => Model_isSmall_f call
  | 176 => Model_begin_f call
  | 177 => Model_readName_f call
  | 178 => Model_sameText_f call
  | 179 => Model_getsOn_f call
  | 180 => Model_load_f call
  | 181 => Model_compare_f call
  | 182 => Model_readsNode_f call
  | 183 => Model_knows_f call
  | 184 => Model_fieldOf_f call
  | 185 => Model_versions_f call
  | 186 => Model_reads_f call
  | 187 => Model_isVersion_f call
  | 188 => Model_print_f call
  | 189 => Model_draftText_f call
  | 190 => Model_keep_f call
  | 191 => Model_fingerprint_f call
  | 192 => Model_encode_f call
  | 193 => Model_decode_f call
  | 194 => Model_scan_f call
  | 195 => Model_meet_f call
  | 196 => Model_takeHalf_f call
  | 197 => Model_byteAt_f call
  | 198 => Model_takePlain_f call
  | 199 => Model_takeString_f call
  | 200 => Model_takeNumber_f call
  | 201 => Model_takeCount_f call
  | 202 => Model_resolve_f call
  | 203 => Model_tell_f call
  | 204 => Model_tellPlain_f call
  | 205 => Model_sayNumber_f call
  | 206 => Model_tellElement_f call
  | 207 => Model_tellField_f call
  | 208 => Model_place_f call
  | 209 => Model_out_f call
  | _ => fun _ _ => none
set_option maxRecDepth 20000 in
set_option maxHeartbeats 4000000 in
theorem ax_tb_ok {l : Launch} {G : ax_G} {d : Nat} {call : ax_Cf} (hcall : ax_Hc l G d call) (hd8 : 8 ≤ d) (hl : l.stackTraces = false) : ax_Hc l G (d + 1) (ax_tb call) := by
  intro j av h r h1 ho
  unfold ax_tb at ho
  split at ho
  · exact Desk_init_ft hcall hd8 hl av h r h1 ho
  · exact Row_init_ft hcall hd8 hl av h r h1 ho
  · exact Schema_init_ft hcall hd8 hl av h r h1 ho
  · exact Subject_init_ft hcall hd8 hl av h r h1 ho
  · exact Desk_write_ft hcall hd8 hl av h r h1 ho
  · exact Desk_byteOf_ft hcall hd8 hl av h r h1 ho
  · exact Desk_isCharacter_ft hcall hd8 hl av h r h1 ho
  · exact Row_room_ft hcall hd8 hl av h r h1 ho
  · exact Row_add_ft hcall hd8 hl av h r h1 ho
  · exact Desk_wipe_ft hcall hd8 hl av h r h1 ho
  · exact Row_clear_ft hcall hd8 hl av h r h1 ho
  · exact Desk_feed_ft hcall hd8 hl av h r h1 ho
  · exact Desk_drain_ft hcall hd8 hl av h r h1 ho
  · exact Desk_place_ft hcall hd8 hl av h r h1 ho
  · exact Law_mode_ft hcall hd8 hl av h r h1 ho
  · exact Desk_mode_ft hcall hd8 hl av h r h1 ho
  · exact Desk_subjectAt_ft hcall hd8 hl av h r h1 ho
  · exact Subject_setMode_ft hcall hd8 hl av h r h1 ho
  · exact Law_register_ft hcall hd8 hl av h r h1 ho
  · exact Desk_register_ft hcall hd8 hl av h r h1 ho
  · exact Cursor_init_ft hcall hd8 hl av h r h1 ho
  · exact SchemaReader_init_ft hcall hd8 hl av h r h1 ho
  · exact ValueReader_init_ft hcall hd8 hl av h r h1 ho
  · exact SchemaReader_readWhole_ft hcall hd8 hl av h r h1 ho
  · exact Schema_clearMarks_ft hcall hd8 hl av h r h1 ho
  · exact Arrays_fill_ft hcall hd8 hl av h r h1 ho
  · exact SchemaReader_readType_ft hcall hd8 hl av h r h1 ho
  · exact Cursor_at_ft hcall hd8 hl av h r h1 ho
  · exact SchemaReader_readTypeOfKind_ft hcall hd8 hl av h r h1 ho
  · exact Cursor_peek_ft hcall hd8 hl av h r h1 ho
  · exact Cursor_take_ft hcall hd8 hl av h r h1 ho
  · exact SchemaReader_readSymbols_ft hcall hd8 hl av h r h1 ho
  · exact Desk_smallLetterBit_ft hcall hd8 hl av h r h1 ho
  · exact Desk_isSmallLetter_ft hcall hd8 hl av h r h1 ho
  · exact Cursor_step_ft hcall hd8 hl av h r h1 ho
  · exact SchemaReader_readSymbolDefault_ft hcall hd8 hl av h r h1 ho
  · exact Schema_markEnd_ft hcall hd8 hl av h r h1 ho
  · exact SchemaReader_readBranches_ft hcall hd8 hl av h r h1 ho
  · exact Desk_capitalBit_ft hcall hd8 hl av h r h1 ho
  · exact Schema_markNext_ft hcall hd8 hl av h r h1 ho
  · exact SchemaReader_readFields_ft hcall hd8 hl av h r h1 ho
  · exact SchemaReader_readFieldBehindName_ft hcall hd8 hl av h r h1 ho
  · exact ValueReader_readLiteral_ft hcall hd8 hl av h r h1 ho
  · exact ValueReader_readPart_ft hcall hd8 hl av h r h1 ho
  · exact Schema_kind_ft hcall hd8 hl av h r h1 ho
  · exact Row_at_ft hcall hd8 hl av h r h1 ho
  · exact ValueReader_readBoolean_ft hcall hd8 hl av h r h1 ho
  · exact ValueReader_readNumber_ft hcall hd8 hl av h r h1 ho
  · exact ValueReader_addNumber_ft hcall hd8 hl av h r h1 ho
  · exact Desk_isDigit_ft hcall hd8 hl av h r h1 ho
  · exact ValueReader_readString_ft hcall hd8 hl av h r h1 ho
  · exact Row_size_ft hcall hd8 hl av h r h1 ho
  · exact Cursor_isAtEnd_ft hcall hd8 hl av h r h1 ho
  · exact Row_set_ft hcall hd8 hl av h r h1 ho
  · exact ValueReader_readSymbol_ft hcall hd8 hl av h r h1 ho
  · exact Schema_symbolNumber_ft hcall hd8 hl av h r h1 ho
  · exact ValueReader_readElements_ft hcall hd8 hl av h r h1 ho
  · exact Schema_element_ft hcall hd8 hl av h r h1 ho
  · exact ValueReader_readFirstBranch_ft hcall hd8 hl av h r h1 ho
  · exact Schema_markUnion_ft hcall hd8 hl av h r h1 ho
  · exact Schema_firstPart_ft hcall hd8 hl av h r h1 ho
  · exact ValueReader_readBranch_ft hcall hd8 hl av h r h1 ho
  · exact Schema_branch_ft hcall hd8 hl av h r h1 ho
  · exact Schema_nextPart_ft hcall hd8 hl av h r h1 ho
  · exact ValueReader_readFields_ft hcall hd8 hl av h r h1 ho
  · exact Schema_fieldType_ft hcall hd8 hl av h r h1 ho
  · exact Subject_numberOf_ft hcall hd8 hl av h r h1 ho
  · exact Schema_sameTextAs_ft hcall hd8 hl av h r h1 ho
  · exact Row_sameAs_ft hcall hd8 hl av h r h1 ho
  · exact Subject_admits_ft hcall hd8 hl av h r h1 ho
  · exact Subject_getOn_ft hcall hd8 hl av h r h1 ho
  · exact Compatibility_canRead_ft hcall hd8 hl av h r h1 ho
  · exact Compatibility_canReadType_ft hcall hd8 hl av h r h1 ho
  · exact Compatibility_canReadBranches_ft hcall hd8 hl av h r h1 ho
  · exact Compatibility_readingBranch_ft hcall hd8 hl av h r h1 ho
  · exact Compatibility_canReadSymbols_ft hcall hd8 hl av h r h1 ho
  · exact Schema_symbolDefault_ft hcall hd8 hl av h r h1 ho
  · exact Schema_end_ft hcall hd8 hl av h r h1 ho
  · exact Schema_symbolCount_ft hcall hd8 hl av h r h1 ho
  · exact Schema_symbol_ft hcall hd8 hl av h r h1 ho
  · exact Compatibility_canReadFields_ft hcall hd8 hl av h r h1 ho
  · exact Schema_at_ft hcall hd8 hl av h r h1 ho
  · exact Schema_fieldNamed_ft hcall hd8 hl av h r h1 ho
  · exact Schema_fieldDefault_ft hcall hd8 hl av h r h1 ho
  · exact Schema_copy_ft hcall hd8 hl av h r h1 ho
  · exact Row_copy_ft hcall hd8 hl av h r h1 ho
  · exact Arrays_copyOf_ft hcall hd8 hl av h r h1 ho
  · exact Subject_add_ft hcall hd8 hl av h r h1 ho
  · exact Law_versions_ft hcall hd8 hl av h r h1 ho
  · exact Desk_versions_ft hcall hd8 hl av h r h1 ho
  · exact Subject_count_ft hcall hd8 hl av h r h1 ho
  · exact Law_reads_ft hcall hd8 hl av h r h1 ho
  · exact Desk_reads_ft hcall hd8 hl av h r h1 ho
  · exact Desk_versionAt_ft hcall hd8 hl av h r h1 ho
  · exact Subject_version_ft hcall hd8 hl av h r h1 ho
  · exact Law_print_ft hcall hd8 hl av h r h1 ho
  · exact Desk_print_ft hcall hd8 hl av h r h1 ho
  · exact Schema_copyBareTo_ft hcall hd8 hl av h r h1 ho
  · exact Schema_copyTo_ft hcall hd8 hl av h r h1 ho
  · exact Desk_showDraft_ft hcall hd8 hl av h r h1 ho
  · exact Law_fingerprint_ft hcall hd8 hl av h r h1 ho
  · exact Desk_fingerprint_ft hcall hd8 hl av h r h1 ho
  · exact Desk_mixed_ft hcall hd8 hl av h r h1 ho
  · exact Law_encode_ft hcall hd8 hl av h r h1 ho
  · exact Desk_encode_ft hcall hd8 hl av h r h1 ho
  · exact ValueReader_readWhole_ft hcall hd8 hl av h r h1 ho
  · exact Law_decode_ft hcall hd8 hl av h r h1 ho
  · exact Desk_decode_ft hcall hd8 hl av h r h1 ho
  · exact StreamReader_init_ft hcall hd8 hl av h r h1 ho
  · exact StreamReader_readWhole_ft hcall hd8 hl av h r h1 ho
  · exact StreamReader_skip_ft hcall hd8 hl av h r h1 ho
  · exact StreamReader_readBoolean_ft hcall hd8 hl av h r h1 ho
  · exact StreamReader_readNumber_ft hcall hd8 hl av h r h1 ho
  · exact StreamReader_skipString_ft hcall hd8 hl av h r h1 ho
  · exact StreamReader_readCount_ft hcall hd8 hl av h r h1 ho
  · exact StreamReader_readStringCharacter_ft hcall hd8 hl av h r h1 ho
  · exact StreamReader_skipElements_ft hcall hd8 hl av h r h1 ho
  · exact StreamReader_skipPart_ft hcall hd8 hl av h r h1 ho
  · exact StreamReader_skipBranch_ft hcall hd8 hl av h r h1 ho
  · exact StreamReader_readBranch_ft hcall hd8 hl av h r h1 ho
  · exact Schema_branchCount_ft hcall hd8 hl av h r h1 ho
  · exact StreamReader_skipFields_ft hcall hd8 hl av h r h1 ho
  · exact Resolver_init_ft hcall hd8 hl av h r h1 ho
  · exact Resolver_resolveWhole_ft hcall hd8 hl av h r h1 ho
  · exact Cursor_moveTo_ft hcall hd8 hl av h r h1 ho
  · exact Resolver_resolve_ft hcall hd8 hl av h r h1 ho
  · exact Resolver_resolveAsBranch_ft hcall hd8 hl av h r h1 ho
  · exact Compatibility_firstReadingBranch_ft hcall hd8 hl av h r h1 ho
  · exact StreamReader_number_ft hcall hd8 hl av h r h1 ho
  · exact Resolver_addNumber_ft hcall hd8 hl av h r h1 ho
  · exact Resolver_countFigures_ft hcall hd8 hl av h r h1 ho
  · exact Resolver_resolveString_ft hcall hd8 hl av h r h1 ho
  · exact Resolver_resolveSymbol_ft hcall hd8 hl av h r h1 ho
  · exact Resolver_resolveElements_ft hcall hd8 hl av h r h1 ho
  · exact Resolver_resolveFields_ft hcall hd8 hl av h r h1 ho
  · exact Resolver_noteFieldStart_ft hcall hd8 hl av h r h1 ho
  · exact StreamReader_skipField_ft hcall hd8 hl av h r h1 ho
  · exact Resolver_resolveField_ft hcall hd8 hl av h r h1 ho
  · exact Resolver_addDefault_ft hcall hd8 hl av h r h1 ho
  · exact Schema_isMarkedUnion_ft hcall hd8 hl av h r h1 ho
  · exact Law_out_ft hcall hd8 hl av h r h1 ho
  · exact Desk_out_ft hcall hd8 hl av h r h1 ho
  · exact Model_init_ft hcall hd8 hl av h r h1 ho
  · exact Model_thrown_ft hcall hd8 hl av h r h1 ho
  · exact Model_write_ft hcall hd8 hl av h r h1 ho
  · exact Model_wipe_ft hcall hd8 hl av h r h1 ho
  · exact Model_feed_ft hcall hd8 hl av h r h1 ho
  · exact Model_drain_ft hcall hd8 hl av h r h1 ho
  · exact Model_mode_ft hcall hd8 hl av h r h1 ho
  · exact Model_isSubject_ft hcall hd8 hl av h r h1 ho
  · exact Model_register_ft hcall hd8 hl av h r h1 ho
  · exact Model_loadTyped_ft hcall hd8 hl av h r h1 ho
  · exact Model_readSchema_ft hcall hd8 hl av h r h1 ho
  · exact Model_readBehind_ft hcall hd8 hl av h r h1 ho
  · exact Model_look_ft hcall hd8 hl av h r h1 ho
  · exact Model_readText_ft hcall hd8 hl av h r h1 ho
  · exact Model_enter_ft hcall hd8 hl av h r h1 ho
  · exact Model_see_ft hcall hd8 hl av h r h1 ho
  · exact Model_sayCharacters_ft hcall hd8 hl av h r h1 ho
  · exact Model_say_ft hcall hd8 hl av h r h1 ho
  · exact Model_branch_ft hcall hd8 hl av h r h1 ho
  · exact Model_readPlain_ft hcall hd8 hl av h r h1 ho
  · exact Model_symbol_ft hcall hd8 hl av h r h1 ho
  · exact Model_readRow_ft hcall hd8 hl av h r h1 ho
  · exact Model_readNumber_ft hcall hd8 hl av h r h1 ho
  · exact Model_sayBytes_ft hcall hd8 hl av h r h1 ho
  · exact Model_sayAmount_ft hcall hd8 hl av h r h1 ho
  · exact Model_openList_ft hcall hd8 hl av h r h1 ho
  · exact Model_closeList_ft hcall hd8 hl av h r h1 ho
  · exact Model_behind_ft hcall hd8 hl av h r h1 ho
  · exact Model_readLetter_ft hcall hd8 hl av h r h1 ho
  · exact Model_mayBegin_ft hcall hd8 hl av h r h1 ho
  · exact Model_grow_ft hcall hd8 hl av h r h1 ho
  · exact Model_readSymbols_ft hcall hd8 hl av h r h1 ho
  · exact Model_isSmall_ft hcall hd8 hl av h r h1 ho
  · exact Model_begin_ft hcall hd8 hl av h r h1 ho
  · exact Model_readName_ft hcall hd8 hl av h r h1 ho
  · exact Model_sameText_ft hcall hd8 hl av h r h1 ho
  · exact Model_getsOn_ft hcall hd8 hl av h r h1 ho
  · exact Model_load_ft hcall hd8 hl av h r h1 ho
  · exact Model_compare_ft hcall hd8 hl av h r h1 ho
  · exact Model_readsNode_ft hcall hd8 hl av h r h1 ho
  · exact Model_knows_ft hcall hd8 hl av h r h1 ho
  · exact Model_fieldOf_ft hcall hd8 hl av h r h1 ho
  · exact Model_versions_ft hcall hd8 hl av h r h1 ho
  · exact Model_reads_ft hcall hd8 hl av h r h1 ho
  · exact Model_isVersion_ft hcall hd8 hl av h r h1 ho
  · exact Model_print_ft hcall hd8 hl av h r h1 ho
  · exact Model_draftText_ft hcall hd8 hl av h r h1 ho
  · exact Model_keep_ft hcall hd8 hl av h r h1 ho
  · exact Model_fingerprint_ft hcall hd8 hl av h r h1 ho
  · exact Model_encode_ft hcall hd8 hl av h r h1 ho
  · exact Model_decode_ft hcall hd8 hl av h r h1 ho
  · exact Model_scan_ft hcall hd8 hl av h r h1 ho
  · exact Model_meet_ft hcall hd8 hl av h r h1 ho
  · exact Model_takeHalf_ft hcall hd8 hl av h r h1 ho
  · exact Model_byteAt_ft hcall hd8 hl av h r h1 ho
  · exact Model_takePlain_ft hcall hd8 hl av h r h1 ho
  · exact Model_takeString_ft hcall hd8 hl av h r h1 ho
  · exact Model_takeNumber_ft hcall hd8 hl av h r h1 ho
  · exact Model_takeCount_ft hcall hd8 hl av h r h1 ho
  · exact Model_resolve_ft hcall hd8 hl av h r h1 ho
  · exact Model_tell_ft hcall hd8 hl av h r h1 ho
  · exact Model_tellPlain_ft hcall hd8 hl av h r h1 ho
  · exact Model_sayNumber_ft hcall hd8 hl av h r h1 ho
  · exact Model_tellElement_ft hcall hd8 hl av h r h1 ho
  · exact Model_tellField_ft hcall hd8 hl av h r h1 ho
  · exact Model_place_ft hcall hd8 hl av h r h1 ho
  · exact Model_out_ft hcall hd8 hl av h r h1 ho
  · cases ho
def ax_F : Nat → ax_Cf
  | 0 => fun _ _ _ => none
  | n + 1 => ax_tb (ax_F n)
theorem ax_F_ok {l : Launch} {G : ax_G} (hl : l.stackTraces = false) : ∀ n : Nat, ax_Hc l G (n + 8) (ax_F n)
  | 0 => fun _ _ _ _ _ ho => by cases ho
  | n + 1 => by
    have := ax_tb_ok (ax_F_ok (G := G) hl n) (by omega) hl
    have e : n + 1 + 8 = n + 8 + 1 := by omega
    rw [e]; exact this
