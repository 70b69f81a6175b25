def wl_1000 : List Cond := [Cond.classLink "SchemaDeskLaw" 8 "SchemaDesk", Cond.instantiable "SchemaDesk" 8, Cond.methodLink "SchemaDeskLaw" 49 y_Desk_init, Cond.instanceMethod y_Desk_init, Cond.methodLink "SchemaDeskLaw" 55 y_Desk_write, Cond.instanceMethod y_Desk_write, Cond.selects "SchemaDesk" y_Desk_write y_Desk_write, Cond.methodLink "SchemaDeskLaw" 60 y_Desk_wipe, Cond.instanceMethod y_Desk_wipe, Cond.selects "SchemaDesk" y_Desk_wipe y_Desk_wipe, Cond.methodLink "SchemaDeskLaw" 65 y_Desk_feed, Cond.instanceMethod y_Desk_feed, Cond.selects "SchemaDesk" y_Desk_feed y_Desk_feed, Cond.methodLink "SchemaDeskLaw" 70 y_Desk_drain, Cond.instanceMethod y_Desk_drain, Cond.selects "SchemaDesk" y_Desk_drain y_Desk_drain, Cond.methodLink "SchemaDeskLaw" 108 y_Desk_place, Cond.instanceMethod y_Desk_place, Cond.selects "SchemaDesk" y_Desk_place y_Desk_place, Cond.methodLink "SchemaDeskLaw" 74 y_Law_mode, Cond.static y_Law_mode, Cond.methodLink "SchemaDeskLaw" 83 y_Law_register, Cond.static y_Law_register, Cond.methodLink "SchemaDeskLaw" 87 y_Law_versions, Cond.static y_Law_versions, Cond.methodLink "SchemaDeskLaw" 90 y_Law_reads, Cond.static y_Law_reads, Cond.methodLink "SchemaDeskLaw" 94 y_Law_print, Cond.static y_Law_print, Cond.methodLink "SchemaDeskLaw" 98 y_Law_fingerprint]
theorem wm_1000 : wl_1000 = [21, 22, 23, 24, 108, 109, 110, 126, 127, 128, 134, 135, 136, 138, 139, 140, 142, 143, 144, 146, 147, 225, 226, 589, 590, 600, 601, 616, 617, 637].filterMap (fun i => tables_1[i]?) := by decide +kernel
theorem wi_1000 : ∀ w ∈ wl_1000, w ∈ lw_tbl := fun w hw => by
  rw [wm_1000] at hw
  obtain ⟨i, -, hi⟩ := List.mem_filterMap.mp hw
  exact List.mem_append_right _ (List.mem_of_getElem? hi)
theorem wd_21 : Cond.classLink "SchemaDeskLaw" 8 "SchemaDesk" ∈ lw_tbl := wi_1000 _ (List.mem_of_getElem? (i := 0) rfl)
theorem wd_22 : Cond.instantiable "SchemaDesk" 8 ∈ lw_tbl := wi_1000 _ (List.mem_of_getElem? (i := 1) rfl)
theorem wd_23 : Cond.methodLink "SchemaDeskLaw" 49 y_Desk_init ∈ lw_tbl := wi_1000 _ (List.mem_of_getElem? (i := 2) rfl)
theorem wd_24 : Cond.instanceMethod y_Desk_init ∈ lw_tbl := wi_1000 _ (List.mem_of_getElem? (i := 3) rfl)
theorem wd_108 : Cond.methodLink "SchemaDeskLaw" 55 y_Desk_write ∈ lw_tbl := wi_1000 _ (List.mem_of_getElem? (i := 4) rfl)
theorem wd_109 : Cond.instanceMethod y_Desk_write ∈ lw_tbl := wi_1000 _ (List.mem_of_getElem? (i := 5) rfl)
theorem wd_110 : Cond.selects "SchemaDesk" y_Desk_write y_Desk_write ∈ lw_tbl := wi_1000 _ (List.mem_of_getElem? (i := 6) rfl)
theorem wd_126 : Cond.methodLink "SchemaDeskLaw" 60 y_Desk_wipe ∈ lw_tbl := wi_1000 _ (List.mem_of_getElem? (i := 7) rfl)
theorem wd_127 : Cond.instanceMethod y_Desk_wipe ∈ lw_tbl := wi_1000 _ (List.mem_of_getElem? (i := 8) rfl)
theorem wd_128 : Cond.selects "SchemaDesk" y_Desk_wipe y_Desk_wipe ∈ lw_tbl := wi_1000 _ (List.mem_of_getElem? (i := 9) rfl)
theorem wd_134 : Cond.methodLink "SchemaDeskLaw" 65 y_Desk_feed ∈ lw_tbl := wi_1000 _ (List.mem_of_getElem? (i := 10) rfl)
theorem wd_135 : Cond.instanceMethod y_Desk_feed ∈ lw_tbl := wi_1000 _ (List.mem_of_getElem? (i := 11) rfl)
theorem wd_136 : Cond.selects "SchemaDesk" y_Desk_feed y_Desk_feed ∈ lw_tbl := wi_1000 _ (List.mem_of_getElem? (i := 12) rfl)
theorem wd_138 : Cond.methodLink "SchemaDeskLaw" 70 y_Desk_drain ∈ lw_tbl := wi_1000 _ (List.mem_of_getElem? (i := 13) rfl)
theorem wd_139 : Cond.instanceMethod y_Desk_drain ∈ lw_tbl := wi_1000 _ (List.mem_of_getElem? (i := 14) rfl)
theorem wd_140 : Cond.selects "SchemaDesk" y_Desk_drain y_Desk_drain ∈ lw_tbl := wi_1000 _ (List.mem_of_getElem? (i := 15) rfl)
theorem wd_142 : Cond.methodLink "SchemaDeskLaw" 108 y_Desk_place ∈ lw_tbl := wi_1000 _ (List.mem_of_getElem? (i := 16) rfl)
theorem wd_143 : Cond.instanceMethod y_Desk_place ∈ lw_tbl := wi_1000 _ (List.mem_of_getElem? (i := 17) rfl)
theorem wd_144 : Cond.selects "SchemaDesk" y_Desk_place y_Desk_place ∈ lw_tbl := wi_1000 _ (List.mem_of_getElem? (i := 18) rfl)
theorem wd_146 : Cond.methodLink "SchemaDeskLaw" 74 y_Law_mode ∈ lw_tbl := wi_1000 _ (List.mem_of_getElem? (i := 19) rfl)
theorem wd_147 : Cond.static y_Law_mode ∈ lw_tbl := wi_1000 _ (List.mem_of_getElem? (i := 20) rfl)
theorem wd_225 : Cond.methodLink "SchemaDeskLaw" 83 y_Law_register ∈ lw_tbl := wi_1000 _ (List.mem_of_getElem? (i := 21) rfl)
theorem wd_226 : Cond.static y_Law_register ∈ lw_tbl := wi_1000 _ (List.mem_of_getElem? (i := 22) rfl)
theorem wd_589 : Cond.methodLink "SchemaDeskLaw" 87 y_Law_versions ∈ lw_tbl := wi_1000 _ (List.mem_of_getElem? (i := 23) rfl)
theorem wd_590 : Cond.static y_Law_versions ∈ lw_tbl := wi_1000 _ (List.mem_of_getElem? (i := 24) rfl)
theorem wd_600 : Cond.methodLink "SchemaDeskLaw" 90 y_Law_reads ∈ lw_tbl := wi_1000 _ (List.mem_of_getElem? (i := 25) rfl)
theorem wd_601 : Cond.static y_Law_reads ∈ lw_tbl := wi_1000 _ (List.mem_of_getElem? (i := 26) rfl)
theorem wd_616 : Cond.methodLink "SchemaDeskLaw" 94 y_Law_print ∈ lw_tbl := wi_1000 _ (List.mem_of_getElem? (i := 27) rfl)
theorem wd_617 : Cond.static y_Law_print ∈ lw_tbl := wi_1000 _ (List.mem_of_getElem? (i := 28) rfl)
theorem wd_637 : Cond.methodLink "SchemaDeskLaw" 98 y_Law_fingerprint ∈ lw_tbl := wi_1000 _ (List.mem_of_getElem? (i := 29) rfl)
def wl_1001 : List Cond := [Cond.static y_Law_fingerprint, Cond.methodLink "SchemaDeskLaw" 102 y_Law_encode, Cond.static y_Law_encode, Cond.methodLink "SchemaDeskLaw" 105 y_Law_decode, Cond.static y_Law_decode, Cond.methodLink "SchemaDeskLaw" 112 y_Law_out, Cond.static y_Law_out, Cond.classLink "SchemaDeskLaw" 50 "SchemaDeskModel", Cond.instantiable "SchemaDeskModel" 50, Cond.methodLink "SchemaDeskLaw" 52 y_Model_init, Cond.instanceMethod y_Model_init, Cond.methodLink "SchemaDeskLaw" 80 y_Model_thrown, Cond.instanceMethod y_Model_thrown, Cond.selects "SchemaDeskModel" y_Model_thrown y_Model_thrown, Cond.methodLink "SchemaDeskLaw" 59 y_Model_write, Cond.instanceMethod y_Model_write, Cond.selects "SchemaDeskModel" y_Model_write y_Model_write, Cond.methodLink "SchemaDeskLaw" 64 y_Model_wipe, Cond.instanceMethod y_Model_wipe, Cond.selects "SchemaDeskModel" y_Model_wipe y_Model_wipe, Cond.methodLink "SchemaDeskLaw" 69 y_Model_feed, Cond.instanceMethod y_Model_feed, Cond.selects "SchemaDeskModel" y_Model_feed y_Model_feed, Cond.methodLink "SchemaDeskLaw" 73 y_Model_drain, Cond.instanceMethod y_Model_drain, Cond.selects "SchemaDeskModel" y_Model_drain y_Model_drain, Cond.methodLink "SchemaDeskLaw" 79 y_Model_mode, Cond.instanceMethod y_Model_mode, Cond.selects "SchemaDeskModel" y_Model_mode y_Model_mode, Cond.methodLink "SchemaDeskLaw" 86 y_Model_register]
theorem wm_1001 : wl_1001 = [638, 650, 651, 663, 664, 867, 868, 890, 891, 892, 893, 1050, 1051, 1052, 1054, 1055, 1056, 1059, 1060, 1061, 1063, 1064, 1065, 1067, 1068, 1069, 1071, 1072, 1073, 1078].filterMap (fun i => tables_1[i]?) := by decide +kernel
theorem wi_1001 : ∀ w ∈ wl_1001, w ∈ lw_tbl := fun w hw => by
  rw [wm_1001] at hw
  obtain ⟨i, -, hi⟩ := List.mem_filterMap.mp hw
  exact List.mem_append_right _ (List.mem_of_getElem? hi)
theorem wd_638 : Cond.static y_Law_fingerprint ∈ lw_tbl := wi_1001 _ (List.mem_of_getElem? (i := 0) rfl)
theorem wd_650 : Cond.methodLink "SchemaDeskLaw" 102 y_Law_encode ∈ lw_tbl := wi_1001 _ (List.mem_of_getElem? (i := 1) rfl)
theorem wd_651 : Cond.static y_Law_encode ∈ lw_tbl := wi_1001 _ (List.mem_of_getElem? (i := 2) rfl)
theorem wd_663 : Cond.methodLink "SchemaDeskLaw" 105 y_Law_decode ∈ lw_tbl := wi_1001 _ (List.mem_of_getElem? (i := 3) rfl)
theorem wd_664 : Cond.static y_Law_decode ∈ lw_tbl := wi_1001 _ (List.mem_of_getElem? (i := 4) rfl)
theorem wd_867 : Cond.methodLink "SchemaDeskLaw" 112 y_Law_out ∈ lw_tbl := wi_1001 _ (List.mem_of_getElem? (i := 5) rfl)
theorem wd_868 : Cond.static y_Law_out ∈ lw_tbl := wi_1001 _ (List.mem_of_getElem? (i := 6) rfl)
theorem wd_890 : Cond.classLink "SchemaDeskLaw" 50 "SchemaDeskModel" ∈ lw_tbl := wi_1001 _ (List.mem_of_getElem? (i := 7) rfl)
theorem wd_891 : Cond.instantiable "SchemaDeskModel" 50 ∈ lw_tbl := wi_1001 _ (List.mem_of_getElem? (i := 8) rfl)
theorem wd_892 : Cond.methodLink "SchemaDeskLaw" 52 y_Model_init ∈ lw_tbl := wi_1001 _ (List.mem_of_getElem? (i := 9) rfl)
theorem wd_893 : Cond.instanceMethod y_Model_init ∈ lw_tbl := wi_1001 _ (List.mem_of_getElem? (i := 10) rfl)
theorem wd_1050 : Cond.methodLink "SchemaDeskLaw" 80 y_Model_thrown ∈ lw_tbl := wi_1001 _ (List.mem_of_getElem? (i := 11) rfl)
theorem wd_1051 : Cond.instanceMethod y_Model_thrown ∈ lw_tbl := wi_1001 _ (List.mem_of_getElem? (i := 12) rfl)
theorem wd_1052 : Cond.selects "SchemaDeskModel" y_Model_thrown y_Model_thrown ∈ lw_tbl := wi_1001 _ (List.mem_of_getElem? (i := 13) rfl)
theorem wd_1054 : Cond.methodLink "SchemaDeskLaw" 59 y_Model_write ∈ lw_tbl := wi_1001 _ (List.mem_of_getElem? (i := 14) rfl)
theorem wd_1055 : Cond.instanceMethod y_Model_write ∈ lw_tbl := wi_1001 _ (List.mem_of_getElem? (i := 15) rfl)
theorem wd_1056 : Cond.selects "SchemaDeskModel" y_Model_write y_Model_write ∈ lw_tbl := wi_1001 _ (List.mem_of_getElem? (i := 16) rfl)
theorem wd_1059 : Cond.methodLink "SchemaDeskLaw" 64 y_Model_wipe ∈ lw_tbl := wi_1001 _ (List.mem_of_getElem? (i := 17) rfl)
theorem wd_1060 : Cond.instanceMethod y_Model_wipe ∈ lw_tbl := wi_1001 _ (List.mem_of_getElem? (i := 18) rfl)
theorem wd_1061 : Cond.selects "SchemaDeskModel" y_Model_wipe y_Model_wipe ∈ lw_tbl := wi_1001 _ (List.mem_of_getElem? (i := 19) rfl)
theorem wd_1063 : Cond.methodLink "SchemaDeskLaw" 69 y_Model_feed ∈ lw_tbl := wi_1001 _ (List.mem_of_getElem? (i := 20) rfl)
theorem wd_1064 : Cond.instanceMethod y_Model_feed ∈ lw_tbl := wi_1001 _ (List.mem_of_getElem? (i := 21) rfl)
theorem wd_1065 : Cond.selects "SchemaDeskModel" y_Model_feed y_Model_feed ∈ lw_tbl := wi_1001 _ (List.mem_of_getElem? (i := 22) rfl)
theorem wd_1067 : Cond.methodLink "SchemaDeskLaw" 73 y_Model_drain ∈ lw_tbl := wi_1001 _ (List.mem_of_getElem? (i := 23) rfl)
theorem wd_1068 : Cond.instanceMethod y_Model_drain ∈ lw_tbl := wi_1001 _ (List.mem_of_getElem? (i := 24) rfl)
theorem wd_1069 : Cond.selects "SchemaDeskModel" y_Model_drain y_Model_drain ∈ lw_tbl := wi_1001 _ (List.mem_of_getElem? (i := 25) rfl)
theorem wd_1071 : Cond.methodLink "SchemaDeskLaw" 79 y_Model_mode ∈ lw_tbl := wi_1001 _ (List.mem_of_getElem? (i := 26) rfl)
theorem wd_1072 : Cond.instanceMethod y_Model_mode ∈ lw_tbl := wi_1001 _ (List.mem_of_getElem? (i := 27) rfl)
theorem wd_1073 : Cond.selects "SchemaDeskModel" y_Model_mode y_Model_mode ∈ lw_tbl := wi_1001 _ (List.mem_of_getElem? (i := 28) rfl)
theorem wd_1078 : Cond.methodLink "SchemaDeskLaw" 86 y_Model_register ∈ lw_tbl := wi_1001 _ (List.mem_of_getElem? (i := 29) rfl)
def wl_1002 : List Cond := [Cond.instanceMethod y_Model_register, Cond.selects "SchemaDeskModel" y_Model_register y_Model_register, Cond.methodLink "SchemaDeskLaw" 89 y_Model_versions, Cond.instanceMethod y_Model_versions, Cond.selects "SchemaDeskModel" y_Model_versions y_Model_versions, Cond.methodLink "SchemaDeskLaw" 93 y_Model_reads, Cond.instanceMethod y_Model_reads, Cond.selects "SchemaDeskModel" y_Model_reads y_Model_reads, Cond.methodLink "SchemaDeskLaw" 97 y_Model_print, Cond.instanceMethod y_Model_print, Cond.selects "SchemaDeskModel" y_Model_print y_Model_print, Cond.methodLink "SchemaDeskLaw" 101 y_Model_fingerprint, Cond.instanceMethod y_Model_fingerprint, Cond.selects "SchemaDeskModel" y_Model_fingerprint y_Model_fingerprint, Cond.methodLink "SchemaDeskLaw" 104 y_Model_encode, Cond.instanceMethod y_Model_encode, Cond.selects "SchemaDeskModel" y_Model_encode y_Model_encode, Cond.methodLink "SchemaDeskLaw" 107 y_Model_decode, Cond.instanceMethod y_Model_decode, Cond.selects "SchemaDeskModel" y_Model_decode y_Model_decode, Cond.methodLink "SchemaDeskLaw" 111 y_Model_place, Cond.instanceMethod y_Model_place, Cond.selects "SchemaDeskModel" y_Model_place y_Model_place, Cond.methodLink "SchemaDeskLaw" 114 y_Model_out, Cond.instanceMethod y_Model_out, Cond.selects "SchemaDeskModel" y_Model_out y_Model_out, Jvm.Cond.constantLong "SchemaDeskLaw" 53 4294967295]
theorem wm_1002 : wl_1002 = [1079, 1080, 1219, 1220, 1221, 1223, 1224, 1225, 1231, 1232, 1233, 1243, 1244, 1245, 1248, 1249, 1250, 1252, 1253, 1254, 1314, 1315, 1316, 1318, 1319, 1320, 1322].filterMap (fun i => tables_1[i]?) := by decide +kernel
theorem wi_1002 : ∀ w ∈ wl_1002, w ∈ lw_tbl := fun w hw => by
  rw [wm_1002] at hw
  obtain ⟨i, -, hi⟩ := List.mem_filterMap.mp hw
  exact List.mem_append_right _ (List.mem_of_getElem? hi)
theorem wd_1079 : Cond.instanceMethod y_Model_register ∈ lw_tbl := wi_1002 _ (List.mem_of_getElem? (i := 0) rfl)
theorem wd_1080 : Cond.selects "SchemaDeskModel" y_Model_register y_Model_register ∈ lw_tbl := wi_1002 _ (List.mem_of_getElem? (i := 1) rfl)
theorem wd_1219 : Cond.methodLink "SchemaDeskLaw" 89 y_Model_versions ∈ lw_tbl := wi_1002 _ (List.mem_of_getElem? (i := 2) rfl)
theorem wd_1220 : Cond.instanceMethod y_Model_versions ∈ lw_tbl := wi_1002 _ (List.mem_of_getElem? (i := 3) rfl)
theorem wd_1221 : Cond.selects "SchemaDeskModel" y_Model_versions y_Model_versions ∈ lw_tbl := wi_1002 _ (List.mem_of_getElem? (i := 4) rfl)
theorem wd_1223 : Cond.methodLink "SchemaDeskLaw" 93 y_Model_reads ∈ lw_tbl := wi_1002 _ (List.mem_of_getElem? (i := 5) rfl)
theorem wd_1224 : Cond.instanceMethod y_Model_reads ∈ lw_tbl := wi_1002 _ (List.mem_of_getElem? (i := 6) rfl)
theorem wd_1225 : Cond.selects "SchemaDeskModel" y_Model_reads y_Model_reads ∈ lw_tbl := wi_1002 _ (List.mem_of_getElem? (i := 7) rfl)
theorem wd_1231 : Cond.methodLink "SchemaDeskLaw" 97 y_Model_print ∈ lw_tbl := wi_1002 _ (List.mem_of_getElem? (i := 8) rfl)
theorem wd_1232 : Cond.instanceMethod y_Model_print ∈ lw_tbl := wi_1002 _ (List.mem_of_getElem? (i := 9) rfl)
theorem wd_1233 : Cond.selects "SchemaDeskModel" y_Model_print y_Model_print ∈ lw_tbl := wi_1002 _ (List.mem_of_getElem? (i := 10) rfl)
theorem wd_1243 : Cond.methodLink "SchemaDeskLaw" 101 y_Model_fingerprint ∈ lw_tbl := wi_1002 _ (List.mem_of_getElem? (i := 11) rfl)
theorem wd_1244 : Cond.instanceMethod y_Model_fingerprint ∈ lw_tbl := wi_1002 _ (List.mem_of_getElem? (i := 12) rfl)
theorem wd_1245 : Cond.selects "SchemaDeskModel" y_Model_fingerprint y_Model_fingerprint ∈ lw_tbl := wi_1002 _ (List.mem_of_getElem? (i := 13) rfl)
theorem wd_1248 : Cond.methodLink "SchemaDeskLaw" 104 y_Model_encode ∈ lw_tbl := wi_1002 _ (List.mem_of_getElem? (i := 14) rfl)
theorem wd_1249 : Cond.instanceMethod y_Model_encode ∈ lw_tbl := wi_1002 _ (List.mem_of_getElem? (i := 15) rfl)
theorem wd_1250 : Cond.selects "SchemaDeskModel" y_Model_encode y_Model_encode ∈ lw_tbl := wi_1002 _ (List.mem_of_getElem? (i := 16) rfl)
theorem wd_1252 : Cond.methodLink "SchemaDeskLaw" 107 y_Model_decode ∈ lw_tbl := wi_1002 _ (List.mem_of_getElem? (i := 17) rfl)
theorem wd_1253 : Cond.instanceMethod y_Model_decode ∈ lw_tbl := wi_1002 _ (List.mem_of_getElem? (i := 18) rfl)
theorem wd_1254 : Cond.selects "SchemaDeskModel" y_Model_decode y_Model_decode ∈ lw_tbl := wi_1002 _ (List.mem_of_getElem? (i := 19) rfl)
theorem wd_1314 : Cond.methodLink "SchemaDeskLaw" 111 y_Model_place ∈ lw_tbl := wi_1002 _ (List.mem_of_getElem? (i := 20) rfl)
theorem wd_1315 : Cond.instanceMethod y_Model_place ∈ lw_tbl := wi_1002 _ (List.mem_of_getElem? (i := 21) rfl)
theorem wd_1316 : Cond.selects "SchemaDeskModel" y_Model_place y_Model_place ∈ lw_tbl := wi_1002 _ (List.mem_of_getElem? (i := 22) rfl)
theorem wd_1318 : Cond.methodLink "SchemaDeskLaw" 114 y_Model_out ∈ lw_tbl := wi_1002 _ (List.mem_of_getElem? (i := 23) rfl)
theorem wd_1319 : Cond.instanceMethod y_Model_out ∈ lw_tbl := wi_1002 _ (List.mem_of_getElem? (i := 24) rfl)
theorem wd_1320 : Cond.selects "SchemaDeskModel" y_Model_out y_Model_out ∈ lw_tbl := wi_1002 _ (List.mem_of_getElem? (i := 25) rfl)
theorem wd_1322 : Jvm.Cond.constantLong "SchemaDeskLaw" 53 4294967295 ∈ lw_tbl := wi_1002 _ (List.mem_of_getElem? (i := 26) rfl)
theorem lk_Law_49 : ax_Lk "SchemaDeskLaw" 49 y_Desk_init := Or.inl wd_23
theorem lk_Law_52 : ax_Lk "SchemaDeskLaw" 52 y_Model_init := Or.inl wd_892
theorem lk_Law_55 : ax_Lk "SchemaDeskLaw" 55 y_Desk_write := Or.inl wd_108
theorem lk_Law_59 : ax_Lk "SchemaDeskLaw" 59 y_Model_write := Or.inl wd_1054
theorem lk_Law_60 : ax_Lk "SchemaDeskLaw" 60 y_Desk_wipe := Or.inl wd_126
theorem lk_Law_64 : ax_Lk "SchemaDeskLaw" 64 y_Model_wipe := Or.inl wd_1059
theorem lk_Law_65 : ax_Lk "SchemaDeskLaw" 65 y_Desk_feed := Or.inl wd_134
theorem lk_Law_69 : ax_Lk "SchemaDeskLaw" 69 y_Model_feed := Or.inl wd_1063
theorem lk_Law_70 : ax_Lk "SchemaDeskLaw" 70 y_Desk_drain := Or.inl wd_138
theorem lk_Law_73 : ax_Lk "SchemaDeskLaw" 73 y_Model_drain := Or.inl wd_1067
theorem lk_Law_74 : ax_Lk "SchemaDeskLaw" 74 y_Law_mode := Or.inl wd_146
theorem lk_Law_79 : ax_Lk "SchemaDeskLaw" 79 y_Model_mode := Or.inl wd_1071
theorem lk_Law_80 : ax_Lk "SchemaDeskLaw" 80 y_Model_thrown := Or.inl wd_1050
theorem lk_Law_83 : ax_Lk "SchemaDeskLaw" 83 y_Law_register := Or.inl wd_225
theorem lk_Law_86 : ax_Lk "SchemaDeskLaw" 86 y_Model_register := Or.inl wd_1078
theorem lk_Law_87 : ax_Lk "SchemaDeskLaw" 87 y_Law_versions := Or.inl wd_589
theorem lk_Law_89 : ax_Lk "SchemaDeskLaw" 89 y_Model_versions := Or.inl wd_1219
theorem lk_Law_90 : ax_Lk "SchemaDeskLaw" 90 y_Law_reads := Or.inl wd_600
theorem lk_Law_93 : ax_Lk "SchemaDeskLaw" 93 y_Model_reads := Or.inl wd_1223
theorem lk_Law_94 : ax_Lk "SchemaDeskLaw" 94 y_Law_print := Or.inl wd_616
theorem lk_Law_97 : ax_Lk "SchemaDeskLaw" 97 y_Model_print := Or.inl wd_1231
theorem lk_Law_98 : ax_Lk "SchemaDeskLaw" 98 y_Law_fingerprint := Or.inl wd_637
theorem lk_Law_101 : ax_Lk "SchemaDeskLaw" 101 y_Model_fingerprint := Or.inl wd_1243
theorem lk_Law_102 : ax_Lk "SchemaDeskLaw" 102 y_Law_encode := Or.inl wd_650
theorem lk_Law_104 : ax_Lk "SchemaDeskLaw" 104 y_Model_encode := Or.inl wd_1248
theorem lk_Law_105 : ax_Lk "SchemaDeskLaw" 105 y_Law_decode := Or.inl wd_663
theorem lk_Law_107 : ax_Lk "SchemaDeskLaw" 107 y_Model_decode := Or.inl wd_1252
theorem lk_Law_108 : ax_Lk "SchemaDeskLaw" 108 y_Desk_place := Or.inl wd_142
theorem lk_Law_111 : ax_Lk "SchemaDeskLaw" 111 y_Model_place := Or.inl wd_1314
theorem lk_Law_112 : ax_Lk "SchemaDeskLaw" 112 y_Law_out := Or.inl wd_867
theorem lk_Law_114 : ax_Lk "SchemaDeskLaw" 114 y_Model_out := Or.inl wd_1318
theorem d_Law_law_0 : decode code 0 = .ok (.new 8, 3) := by decide +kernel
theorem d_Law_law_3 : decode code 3 = .ok (.dup, 1) := by decide +kernel
theorem d_Law_law_4 : decode code 4 = .ok (.invokespecial 49, 3) := by decide +kernel
theorem d_Law_law_7 : decode code 7 = .ok (.astore_n 1, 1) := by decide +kernel
theorem d_Law_law_8 : decode code 8 = .ok (.new 50, 3) := by decide +kernel
theorem d_Law_law_11 : decode code 11 = .ok (.dup, 1) := by decide +kernel
theorem d_Law_law_12 : decode code 12 = .ok (.invokespecial 52, 3) := by decide +kernel
theorem d_Law_law_15 : decode code 15 = .ok (.astore_n 2, 1) := by decide +kernel
theorem d_Law_law_16 : decode code 16 = .ok (.iconst 1, 1) := by decide +kernel
theorem d_Law_law_17 : decode code 17 = .ok (.newarray .long, 2) := by decide +kernel
theorem d_Law_law_19 : decode code 19 = .ok (.astore_n 3, 1) := by decide +kernel
theorem d_Law_law_20 : decode code 20 = .ok (.iconst 0, 1) := by decide +kernel
theorem d_Law_law_21 : decode code 21 = .ok (.istore 4, 2) := by decide +kernel
theorem d_Law_law_23 : decode code 23 = .ok (.iload 4, 2) := by decide +kernel
theorem d_Law_law_25 : decode code 25 = .ok (.aload_n 0, 1) := by decide +kernel
theorem d_Law_law_26 : decode code 26 = .ok (.arraylength, 1) := by decide +kernel
theorem d_Law_law_27 : decode code 27 = .ok (.iconst 4, 1) := by decide +kernel
theorem d_Law_law_28 : decode code 28 = .ok (.isub, 1) := by decide +kernel
theorem d_Law_law_29 : decode code 29 = .ok (.if_icmp .gt 864, 3) := by decide +kernel
theorem d_Law_law_32 : decode code 32 = .ok (.aload_n 0, 1) := by decide +kernel
theorem d_Law_law_33 : decode code 33 = .ok (.iload 4, 2) := by decide +kernel
theorem d_Law_law_35 : decode code 35 = .ok (.iaload, 1) := by decide +kernel
theorem d_Law_law_36 : decode code 36 = .ok (.bipush 15, 2) := by decide +kernel
theorem d_Law_law_38 : decode code 38 = .ok (.iand, 1) := by decide +kernel
theorem d_Law_law_39 : decode code 39 = .ok (.tableswitch 848 0 13 #[69, 126, 139, 208, 221, 269, 325, 381, 468, 564, 631, 699, 779, 792], 69) := by decide +kernel
theorem d_Law_law_108 : decode code 108 = .ok (.aload_n 1, 1) := by decide +kernel
theorem d_Law_law_109 : decode code 109 = .ok (.aload_n 0, 1) := by decide +kernel
theorem d_Law_law_110 : decode code 110 = .ok (.iload 4, 2) := by decide +kernel
theorem d_Law_law_112 : decode code 112 = .ok (.iconst 1, 1) := by decide +kernel
theorem d_Law_law_113 : decode code 113 = .ok (.iadd, 1) := by decide +kernel
theorem d_Law_law_114 : decode code 114 = .ok (.iaload, 1) := by decide +kernel
theorem d_Law_law_115 : decode code 115 = .ok (.i2l, 1) := by decide +kernel
theorem d_Law_law_116 : decode code 116 = .ok (.bipush 32, 2) := by decide +kernel
theorem d_Law_law_118 : decode code 118 = .ok (.lshl, 1) := by decide +kernel
theorem d_Law_law_119 : decode code 119 = .ok (.aload_n 0, 1) := by decide +kernel
theorem d_Law_law_120 : decode code 120 = .ok (.iload 4, 2) := by decide +kernel
theorem d_Law_law_122 : decode code 122 = .ok (.iconst 2, 1) := by decide +kernel
theorem d_Law_law_123 : decode code 123 = .ok (.iadd, 1) := by decide +kernel
theorem d_Law_law_124 : decode code 124 = .ok (.iaload, 1) := by decide +kernel
theorem d_Law_law_125 : decode code 125 = .ok (.i2l, 1) := by decide +kernel
theorem d_Law_law_126 : decode code 126 = .ok (.ldc2_w 53, 3) := by decide +kernel
theorem d_Law_law_129 : decode code 129 = .ok (.land, 1) := by decide +kernel
theorem d_Law_law_130 : decode code 130 = .ok (.lor, 1) := by decide +kernel
theorem d_Law_law_131 : decode code 131 = .ok (.invokevirtual 55, 3) := by decide +kernel
theorem d_Law_law_134 : decode code 134 = .ok (.aload_n 2, 1) := by decide +kernel
theorem d_Law_law_135 : decode code 135 = .ok (.aload_n 0, 1) := by decide +kernel
theorem d_Law_law_136 : decode code 136 = .ok (.iload 4, 2) := by decide +kernel
theorem d_Law_law_138 : decode code 138 = .ok (.iconst 1, 1) := by decide +kernel
theorem d_Law_law_139 : decode code 139 = .ok (.iadd, 1) := by decide +kernel
theorem d_Law_law_140 : decode code 140 = .ok (.iaload, 1) := by decide +kernel
theorem d_Law_law_141 : decode code 141 = .ok (.i2l, 1) := by decide +kernel
theorem d_Law_law_142 : decode code 142 = .ok (.bipush 32, 2) := by decide +kernel
theorem d_Law_law_144 : decode code 144 = .ok (.lshl, 1) := by decide +kernel
theorem d_Law_law_145 : decode code 145 = .ok (.aload_n 0, 1) := by decide +kernel
theorem d_Law_law_146 : decode code 146 = .ok (.iload 4, 2) := by decide +kernel
theorem d_Law_law_148 : decode code 148 = .ok (.iconst 2, 1) := by decide +kernel
theorem d_Law_law_149 : decode code 149 = .ok (.iadd, 1) := by decide +kernel
theorem d_Law_law_150 : decode code 150 = .ok (.iaload, 1) := by decide +kernel
theorem d_Law_law_151 : decode code 151 = .ok (.i2l, 1) := by decide +kernel
theorem d_Law_law_152 : decode code 152 = .ok (.ldc2_w 53, 3) := by decide +kernel
theorem d_Law_law_155 : decode code 155 = .ok (.land, 1) := by decide +kernel
theorem d_Law_law_156 : decode code 156 = .ok (.lor, 1) := by decide +kernel
theorem d_Law_law_157 : decode code 157 = .ok (.invokevirtual 59, 3) := by decide +kernel
theorem d_Law_law_160 : decode code 160 = .ok (.if_icmp .eq 727, 3) := by decide +kernel
theorem d_Law_law_163 : decode code 163 = .ok (.iconst 0, 1) := by decide +kernel
theorem d_Law_law_164 : decode code 164 = .ok (.ireturn, 1) := by decide +kernel
theorem d_Law_law_165 : decode code 165 = .ok (.aload_n 1, 1) := by decide +kernel
theorem d_Law_law_166 : decode code 166 = .ok (.invokevirtual 60, 3) := by decide +kernel
theorem d_Law_law_169 : decode code 169 = .ok (.aload_n 2, 1) := by decide +kernel
theorem d_Law_law_170 : decode code 170 = .ok (.invokevirtual 64, 3) := by decide +kernel
theorem d_Law_law_173 : decode code 173 = .ok (.if_icmp .eq 714, 3) := by decide +kernel
theorem d_Law_law_176 : decode code 176 = .ok (.iconst 0, 1) := by decide +kernel
theorem d_Law_law_177 : decode code 177 = .ok (.ireturn, 1) := by decide +kernel
theorem d_Law_law_178 : decode code 178 = .ok (.aload_n 1, 1) := by decide +kernel
theorem d_Law_law_179 : decode code 179 = .ok (.aload_n 0, 1) := by decide +kernel
theorem d_Law_law_180 : decode code 180 = .ok (.iload 4, 2) := by decide +kernel
theorem d_Law_law_182 : decode code 182 = .ok (.iconst 1, 1) := by decide +kernel
theorem d_Law_law_183 : decode code 183 = .ok (.iadd, 1) := by decide +kernel
theorem d_Law_law_184 : decode code 184 = .ok (.iaload, 1) := by decide +kernel
theorem d_Law_law_185 : decode code 185 = .ok (.i2l, 1) := by decide +kernel
theorem d_Law_law_186 : decode code 186 = .ok (.bipush 32, 2) := by decide +kernel
theorem d_Law_law_188 : decode code 188 = .ok (.lshl, 1) := by decide +kernel
theorem d_Law_law_189 : decode code 189 = .ok (.aload_n 0, 1) := by decide +kernel
theorem d_Law_law_190 : decode code 190 = .ok (.iload 4, 2) := by decide +kernel
theorem d_Law_law_192 : decode code 192 = .ok (.iconst 2, 1) := by decide +kernel
theorem d_Law_law_193 : decode code 193 = .ok (.iadd, 1) := by decide +kernel
theorem d_Law_law_194 : decode code 194 = .ok (.iaload, 1) := by decide +kernel
theorem d_Law_law_195 : decode code 195 = .ok (.i2l, 1) := by decide +kernel
theorem d_Law_law_196 : decode code 196 = .ok (.ldc2_w 53, 3) := by decide +kernel
theorem d_Law_law_199 : decode code 199 = .ok (.land, 1) := by decide +kernel
theorem d_Law_law_200 : decode code 200 = .ok (.lor, 1) := by decide +kernel
theorem d_Law_law_201 : decode code 201 = .ok (.aload_n 0, 1) := by decide +kernel
theorem d_Law_law_202 : decode code 202 = .ok (.iload 4, 2) := by decide +kernel
theorem d_Law_law_204 : decode code 204 = .ok (.iconst 3, 1) := by decide +kernel
theorem d_Law_law_205 : decode code 205 = .ok (.iadd, 1) := by decide +kernel
theorem d_Law_law_206 : decode code 206 = .ok (.iaload, 1) := by decide +kernel
theorem d_Law_law_207 : decode code 207 = .ok (.invokevirtual 65, 3) := by decide +kernel
theorem d_Law_law_210 : decode code 210 = .ok (.aload_n 2, 1) := by decide +kernel
theorem d_Law_law_211 : decode code 211 = .ok (.aload_n 0, 1) := by decide +kernel
theorem d_Law_law_212 : decode code 212 = .ok (.iload 4, 2) := by decide +kernel
theorem d_Law_law_214 : decode code 214 = .ok (.iconst 1, 1) := by decide +kernel
theorem d_Law_law_215 : decode code 215 = .ok (.iadd, 1) := by decide +kernel
theorem d_Law_law_216 : decode code 216 = .ok (.iaload, 1) := by decide +kernel
theorem d_Law_law_217 : decode code 217 = .ok (.i2l, 1) := by decide +kernel
theorem d_Law_law_218 : decode code 218 = .ok (.bipush 32, 2) := by decide +kernel
theorem d_Law_law_220 : decode code 220 = .ok (.lshl, 1) := by decide +kernel
theorem d_Law_law_221 : decode code 221 = .ok (.aload_n 0, 1) := by decide +kernel
theorem d_Law_law_222 : decode code 222 = .ok (.iload 4, 2) := by decide +kernel
theorem d_Law_law_224 : decode code 224 = .ok (.iconst 2, 1) := by decide +kernel
theorem d_Law_law_225 : decode code 225 = .ok (.iadd, 1) := by decide +kernel
theorem d_Law_law_226 : decode code 226 = .ok (.iaload, 1) := by decide +kernel
theorem d_Law_law_227 : decode code 227 = .ok (.i2l, 1) := by decide +kernel
theorem d_Law_law_228 : decode code 228 = .ok (.ldc2_w 53, 3) := by decide +kernel
theorem d_Law_law_231 : decode code 231 = .ok (.land, 1) := by decide +kernel
theorem d_Law_law_232 : decode code 232 = .ok (.lor, 1) := by decide +kernel
theorem d_Law_law_233 : decode code 233 = .ok (.aload_n 0, 1) := by decide +kernel
theorem d_Law_law_234 : decode code 234 = .ok (.iload 4, 2) := by decide +kernel
theorem d_Law_law_236 : decode code 236 = .ok (.iconst 3, 1) := by decide +kernel
theorem d_Law_law_237 : decode code 237 = .ok (.iadd, 1) := by decide +kernel
theorem d_Law_law_238 : decode code 238 = .ok (.iaload, 1) := by decide +kernel
theorem d_Law_law_239 : decode code 239 = .ok (.invokevirtual 69, 3) := by decide +kernel
theorem d_Law_law_242 : decode code 242 = .ok (.if_icmp .eq 645, 3) := by decide +kernel
theorem d_Law_law_245 : decode code 245 = .ok (.iconst 0, 1) := by decide +kernel
theorem d_Law_law_246 : decode code 246 = .ok (.ireturn, 1) := by decide +kernel
theorem d_Law_law_247 : decode code 247 = .ok (.aload_n 1, 1) := by decide +kernel
theorem d_Law_law_248 : decode code 248 = .ok (.invokevirtual 70, 3) := by decide +kernel
theorem d_Law_law_251 : decode code 251 = .ok (.aload_n 2, 1) := by decide +kernel
theorem d_Law_law_252 : decode code 252 = .ok (.invokevirtual 73, 3) := by decide +kernel
theorem d_Law_law_255 : decode code 255 = .ok (.if_icmp .eq 632, 3) := by decide +kernel
theorem d_Law_law_258 : decode code 258 = .ok (.iconst 0, 1) := by decide +kernel
theorem d_Law_law_259 : decode code 259 = .ok (.ireturn, 1) := by decide +kernel
theorem d_Law_law_260 : decode code 260 = .ok (.aload_n 1, 1) := by decide +kernel
theorem d_Law_law_261 : decode code 261 = .ok (.aload_n 0, 1) := by decide +kernel
theorem d_Law_law_262 : decode code 262 = .ok (.iload 4, 2) := by decide +kernel
theorem d_Law_law_264 : decode code 264 = .ok (.iconst 1, 1) := by decide +kernel
theorem d_Law_law_265 : decode code 265 = .ok (.iadd, 1) := by decide +kernel
theorem d_Law_law_266 : decode code 266 = .ok (.iaload, 1) := by decide +kernel
theorem d_Law_law_267 : decode code 267 = .ok (.aload_n 0, 1) := by decide +kernel
theorem d_Law_law_268 : decode code 268 = .ok (.iload 4, 2) := by decide +kernel
theorem d_Law_law_270 : decode code 270 = .ok (.iconst 2, 1) := by decide +kernel
theorem d_Law_law_271 : decode code 271 = .ok (.iadd, 1) := by decide +kernel
theorem d_Law_law_272 : decode code 272 = .ok (.iaload, 1) := by decide +kernel
theorem d_Law_law_273 : decode code 273 = .ok (.invokestatic 74, 3) := by decide +kernel
theorem d_Law_law_276 : decode code 276 = .ok (.istore 5, 2) := by decide +kernel
theorem d_Law_law_278 : decode code 278 = .ok (.aload_n 2, 1) := by decide +kernel
theorem d_Law_law_279 : decode code 279 = .ok (.aload_n 0, 1) := by decide +kernel
theorem d_Law_law_280 : decode code 280 = .ok (.iload 4, 2) := by decide +kernel
theorem d_Law_law_282 : decode code 282 = .ok (.iconst 1, 1) := by decide +kernel
theorem d_Law_law_283 : decode code 283 = .ok (.iadd, 1) := by decide +kernel
theorem d_Law_law_284 : decode code 284 = .ok (.iaload, 1) := by decide +kernel
theorem d_Law_law_285 : decode code 285 = .ok (.aload_n 0, 1) := by decide +kernel
theorem d_Law_law_286 : decode code 286 = .ok (.iload 4, 2) := by decide +kernel
theorem d_Law_law_288 : decode code 288 = .ok (.iconst 2, 1) := by decide +kernel
theorem d_Law_law_289 : decode code 289 = .ok (.iadd, 1) := by decide +kernel
theorem d_Law_law_290 : decode code 290 = .ok (.iaload, 1) := by decide +kernel
theorem d_Law_law_291 : decode code 291 = .ok (.invokevirtual 79, 3) := by decide +kernel
theorem d_Law_law_294 : decode code 294 = .ok (.aload_n 2, 1) := by decide +kernel
theorem d_Law_law_295 : decode code 295 = .ok (.invokevirtual 80, 3) := by decide +kernel
theorem d_Law_law_298 : decode code 298 = .ok (.iload 5, 2) := by decide +kernel
theorem d_Law_law_300 : decode code 300 = .ok (.if_icmp .eq 5, 3) := by decide +kernel
theorem d_Law_law_303 : decode code 303 = .ok (.iconst 0, 1) := by decide +kernel
theorem d_Law_law_304 : decode code 304 = .ok (.ireturn, 1) := by decide +kernel
theorem d_Law_law_305 : decode code 305 = .ok (.goto 582, 3) := by decide +kernel
theorem d_Law_law_308 : decode code 308 = .ok (.aload_n 1, 1) := by decide +kernel
theorem d_Law_law_309 : decode code 309 = .ok (.aload_n 0, 1) := by decide +kernel
theorem d_Law_law_310 : decode code 310 = .ok (.iload 4, 2) := by decide +kernel
theorem d_Law_law_312 : decode code 312 = .ok (.iconst 1, 1) := by decide +kernel
theorem d_Law_law_313 : decode code 313 = .ok (.iadd, 1) := by decide +kernel
theorem d_Law_law_314 : decode code 314 = .ok (.iaload, 1) := by decide +kernel
theorem d_Law_law_315 : decode code 315 = .ok (.aload_n 3, 1) := by decide +kernel
theorem d_Law_law_316 : decode code 316 = .ok (.invokestatic 83, 3) := by decide +kernel
theorem d_Law_law_319 : decode code 319 = .ok (.istore 5, 2) := by decide +kernel
theorem d_Law_law_321 : decode code 321 = .ok (.aload_n 2, 1) := by decide +kernel
theorem d_Law_law_322 : decode code 322 = .ok (.aload_n 0, 1) := by decide +kernel
theorem d_Law_law_323 : decode code 323 = .ok (.iload 4, 2) := by decide +kernel
theorem d_Law_law_325 : decode code 325 = .ok (.iconst 1, 1) := by decide +kernel
theorem d_Law_law_326 : decode code 326 = .ok (.iadd, 1) := by decide +kernel
theorem d_Law_law_327 : decode code 327 = .ok (.iaload, 1) := by decide +kernel
theorem d_Law_law_328 : decode code 328 = .ok (.invokevirtual 86, 3) := by decide +kernel
theorem d_Law_law_331 : decode code 331 = .ok (.istore 6, 2) := by decide +kernel
theorem d_Law_law_333 : decode code 333 = .ok (.aload_n 2, 1) := by decide +kernel
theorem d_Law_law_334 : decode code 334 = .ok (.invokevirtual 80, 3) := by decide +kernel
theorem d_Law_law_337 : decode code 337 = .ok (.iload 5, 2) := by decide +kernel
theorem d_Law_law_339 : decode code 339 = .ok (.if_icmp .eq 5, 3) := by decide +kernel
theorem d_Law_law_342 : decode code 342 = .ok (.iconst 0, 1) := by decide +kernel
theorem d_Law_law_343 : decode code 343 = .ok (.ireturn, 1) := by decide +kernel
theorem d_Law_law_344 : decode code 344 = .ok (.iload 5, 2) := by decide +kernel
theorem d_Law_law_346 : decode code 346 = .ok (.ifCond .ne 15, 3) := by decide +kernel
theorem d_Law_law_349 : decode code 349 = .ok (.aload_n 3, 1) := by decide +kernel
theorem d_Law_law_350 : decode code 350 = .ok (.iconst 0, 1) := by decide +kernel
theorem d_Law_law_351 : decode code 351 = .ok (.laload, 1) := by decide +kernel
theorem d_Law_law_352 : decode code 352 = .ok (.iload 6, 2) := by decide +kernel
theorem d_Law_law_354 : decode code 354 = .ok (.i2l, 1) := by decide +kernel
theorem d_Law_law_355 : decode code 355 = .ok (.lcmp, 1) := by decide +kernel
theorem d_Law_law_356 : decode code 356 = .ok (.ifCond .eq 5, 3) := by decide +kernel
theorem d_Law_law_359 : decode code 359 = .ok (.iconst 0, 1) := by decide +kernel
theorem d_Law_law_360 : decode code 360 = .ok (.ireturn, 1) := by decide +kernel
theorem d_Law_law_361 : decode code 361 = .ok (.goto 526, 3) := by decide +kernel
theorem d_Law_law_364 : decode code 364 = .ok (.aload_n 1, 1) := by decide +kernel
theorem d_Law_law_365 : decode code 365 = .ok (.aload_n 0, 1) := by decide +kernel
theorem d_Law_law_366 : decode code 366 = .ok (.iload 4, 2) := by decide +kernel
theorem d_Law_law_368 : decode code 368 = .ok (.iconst 1, 1) := by decide +kernel
theorem d_Law_law_369 : decode code 369 = .ok (.iadd, 1) := by decide +kernel
theorem d_Law_law_370 : decode code 370 = .ok (.iaload, 1) := by decide +kernel
theorem d_Law_law_371 : decode code 371 = .ok (.aload_n 3, 1) := by decide +kernel
theorem d_Law_law_372 : decode code 372 = .ok (.invokestatic 87, 3) := by decide +kernel
theorem d_Law_law_375 : decode code 375 = .ok (.istore 5, 2) := by decide +kernel
theorem d_Law_law_377 : decode code 377 = .ok (.aload_n 2, 1) := by decide +kernel
theorem d_Law_law_378 : decode code 378 = .ok (.aload_n 0, 1) := by decide +kernel
theorem d_Law_law_379 : decode code 379 = .ok (.iload 4, 2) := by decide +kernel
theorem d_Law_law_381 : decode code 381 = .ok (.iconst 1, 1) := by decide +kernel
theorem d_Law_law_382 : decode code 382 = .ok (.iadd, 1) := by decide +kernel
theorem d_Law_law_383 : decode code 383 = .ok (.iaload, 1) := by decide +kernel
theorem d_Law_law_384 : decode code 384 = .ok (.invokevirtual 89, 3) := by decide +kernel
theorem d_Law_law_387 : decode code 387 = .ok (.istore 6, 2) := by decide +kernel
theorem d_Law_law_389 : decode code 389 = .ok (.aload_n 2, 1) := by decide +kernel
theorem d_Law_law_390 : decode code 390 = .ok (.invokevirtual 80, 3) := by decide +kernel
theorem d_Law_law_393 : decode code 393 = .ok (.iload 5, 2) := by decide +kernel
theorem d_Law_law_395 : decode code 395 = .ok (.if_icmp .eq 5, 3) := by decide +kernel
theorem d_Law_law_398 : decode code 398 = .ok (.iconst 0, 1) := by decide +kernel
theorem d_Law_law_399 : decode code 399 = .ok (.ireturn, 1) := by decide +kernel
theorem d_Law_law_400 : decode code 400 = .ok (.iload 5, 2) := by decide +kernel
theorem d_Law_law_402 : decode code 402 = .ok (.ifCond .ne 15, 3) := by decide +kernel
theorem d_Law_law_405 : decode code 405 = .ok (.aload_n 3, 1) := by decide +kernel
theorem d_Law_law_406 : decode code 406 = .ok (.iconst 0, 1) := by decide +kernel
theorem d_Law_law_407 : decode code 407 = .ok (.laload, 1) := by decide +kernel
theorem d_Law_law_408 : decode code 408 = .ok (.iload 6, 2) := by decide +kernel
theorem d_Law_law_410 : decode code 410 = .ok (.i2l, 1) := by decide +kernel
theorem d_Law_law_411 : decode code 411 = .ok (.lcmp, 1) := by decide +kernel
theorem d_Law_law_412 : decode code 412 = .ok (.ifCond .eq 5, 3) := by decide +kernel
theorem d_Law_law_415 : decode code 415 = .ok (.iconst 0, 1) := by decide +kernel
theorem d_Law_law_416 : decode code 416 = .ok (.ireturn, 1) := by decide +kernel
theorem d_Law_law_417 : decode code 417 = .ok (.goto 470, 3) := by decide +kernel
theorem d_Law_law_420 : decode code 420 = .ok (.aload_n 1, 1) := by decide +kernel
theorem d_Law_law_421 : decode code 421 = .ok (.aload_n 0, 1) := by decide +kernel
theorem d_Law_law_422 : decode code 422 = .ok (.iload 4, 2) := by decide +kernel
theorem d_Law_law_424 : decode code 424 = .ok (.iconst 1, 1) := by decide +kernel
theorem d_Law_law_425 : decode code 425 = .ok (.iadd, 1) := by decide +kernel
theorem d_Law_law_426 : decode code 426 = .ok (.iaload, 1) := by decide +kernel
theorem d_Law_law_427 : decode code 427 = .ok (.aload_n 0, 1) := by decide +kernel
theorem d_Law_law_428 : decode code 428 = .ok (.iload 4, 2) := by decide +kernel
theorem d_Law_law_430 : decode code 430 = .ok (.iconst 2, 1) := by decide +kernel
theorem d_Law_law_431 : decode code 431 = .ok (.iadd, 1) := by decide +kernel
theorem d_Law_law_432 : decode code 432 = .ok (.iaload, 1) := by decide +kernel
theorem d_Law_law_433 : decode code 433 = .ok (.aload_n 0, 1) := by decide +kernel
theorem d_Law_law_434 : decode code 434 = .ok (.iload 4, 2) := by decide +kernel
theorem d_Law_law_436 : decode code 436 = .ok (.iconst 3, 1) := by decide +kernel
theorem d_Law_law_437 : decode code 437 = .ok (.iadd, 1) := by decide +kernel
theorem d_Law_law_438 : decode code 438 = .ok (.iaload, 1) := by decide +kernel
theorem d_Law_law_439 : decode code 439 = .ok (.aload_n 3, 1) := by decide +kernel
theorem d_Law_law_440 : decode code 440 = .ok (.invokestatic 90, 3) := by decide +kernel
theorem d_Law_law_443 : decode code 443 = .ok (.istore 5, 2) := by decide +kernel
theorem d_Law_law_445 : decode code 445 = .ok (.aload_n 2, 1) := by decide +kernel
theorem d_Law_law_446 : decode code 446 = .ok (.aload_n 0, 1) := by decide +kernel
theorem d_Law_law_447 : decode code 447 = .ok (.iload 4, 2) := by decide +kernel
theorem d_Law_law_449 : decode code 449 = .ok (.iconst 1, 1) := by decide +kernel
theorem d_Law_law_450 : decode code 450 = .ok (.iadd, 1) := by decide +kernel
theorem d_Law_law_451 : decode code 451 = .ok (.iaload, 1) := by decide +kernel
theorem d_Law_law_452 : decode code 452 = .ok (.aload_n 0, 1) := by decide +kernel
theorem d_Law_law_453 : decode code 453 = .ok (.iload 4, 2) := by decide +kernel
theorem d_Law_law_455 : decode code 455 = .ok (.iconst 2, 1) := by decide +kernel
theorem d_Law_law_456 : decode code 456 = .ok (.iadd, 1) := by decide +kernel
theorem d_Law_law_457 : decode code 457 = .ok (.iaload, 1) := by decide +kernel
theorem d_Law_law_458 : decode code 458 = .ok (.aload_n 0, 1) := by decide +kernel
theorem d_Law_law_459 : decode code 459 = .ok (.iload 4, 2) := by decide +kernel
theorem d_Law_law_461 : decode code 461 = .ok (.iconst 3, 1) := by decide +kernel
theorem d_Law_law_462 : decode code 462 = .ok (.iadd, 1) := by decide +kernel
theorem d_Law_law_463 : decode code 463 = .ok (.iaload, 1) := by decide +kernel
theorem d_Law_law_464 : decode code 464 = .ok (.invokevirtual 93, 3) := by decide +kernel
theorem d_Law_law_467 : decode code 467 = .ok (.istore 6, 2) := by decide +kernel
theorem d_Law_law_469 : decode code 469 = .ok (.aload_n 2, 1) := by decide +kernel
theorem d_Law_law_470 : decode code 470 = .ok (.invokevirtual 80, 3) := by decide +kernel
theorem d_Law_law_473 : decode code 473 = .ok (.iload 5, 2) := by decide +kernel
theorem d_Law_law_475 : decode code 475 = .ok (.if_icmp .eq 5, 3) := by decide +kernel
theorem d_Law_law_478 : decode code 478 = .ok (.iconst 0, 1) := by decide +kernel
theorem d_Law_law_479 : decode code 479 = .ok (.ireturn, 1) := by decide +kernel
theorem d_Law_law_480 : decode code 480 = .ok (.iload 5, 2) := by decide +kernel
theorem d_Law_law_482 : decode code 482 = .ok (.ifCond .ne 22, 3) := by decide +kernel
theorem d_Law_law_485 : decode code 485 = .ok (.aload_n 3, 1) := by decide +kernel
theorem d_Law_law_486 : decode code 486 = .ok (.iconst 0, 1) := by decide +kernel
theorem d_Law_law_487 : decode code 487 = .ok (.laload, 1) := by decide +kernel
theorem d_Law_law_488 : decode code 488 = .ok (.iload 6, 2) := by decide +kernel
theorem d_Law_law_490 : decode code 490 = .ok (.ifCond .eq 7, 3) := by decide +kernel
theorem d_Law_law_493 : decode code 493 = .ok (.lconst 1, 1) := by decide +kernel
theorem d_Law_law_494 : decode code 494 = .ok (.goto 4, 3) := by decide +kernel
theorem d_Law_law_497 : decode code 497 = .ok (.lconst 0, 1) := by decide +kernel
theorem d_Law_law_498 : decode code 498 = .ok (.lcmp, 1) := by decide +kernel
theorem d_Law_law_499 : decode code 499 = .ok (.ifCond .eq 5, 3) := by decide +kernel
theorem d_Law_law_502 : decode code 502 = .ok (.iconst 0, 1) := by decide +kernel
theorem d_Law_law_503 : decode code 503 = .ok (.ireturn, 1) := by decide +kernel
theorem d_Law_law_504 : decode code 504 = .ok (.goto 383, 3) := by decide +kernel
theorem d_Law_law_507 : decode code 507 = .ok (.aload_n 1, 1) := by decide +kernel
theorem d_Law_law_508 : decode code 508 = .ok (.aload_n 0, 1) := by decide +kernel
theorem d_Law_law_509 : decode code 509 = .ok (.iload 4, 2) := by decide +kernel
theorem d_Law_law_511 : decode code 511 = .ok (.iconst 1, 1) := by decide +kernel
theorem d_Law_law_512 : decode code 512 = .ok (.iadd, 1) := by decide +kernel
theorem d_Law_law_513 : decode code 513 = .ok (.iaload, 1) := by decide +kernel
theorem d_Law_law_514 : decode code 514 = .ok (.aload_n 0, 1) := by decide +kernel
theorem d_Law_law_515 : decode code 515 = .ok (.iload 4, 2) := by decide +kernel
theorem d_Law_law_517 : decode code 517 = .ok (.iconst 2, 1) := by decide +kernel
theorem d_Law_law_518 : decode code 518 = .ok (.iadd, 1) := by decide +kernel
theorem d_Law_law_519 : decode code 519 = .ok (.iaload, 1) := by decide +kernel
theorem d_Law_law_520 : decode code 520 = .ok (.aload_n 0, 1) := by decide +kernel
theorem d_Law_law_521 : decode code 521 = .ok (.iload 4, 2) := by decide +kernel
theorem d_Law_law_523 : decode code 523 = .ok (.iconst 3, 1) := by decide +kernel
theorem d_Law_law_524 : decode code 524 = .ok (.iadd, 1) := by decide +kernel
theorem d_Law_law_525 : decode code 525 = .ok (.iaload, 1) := by decide +kernel
theorem d_Law_law_526 : decode code 526 = .ok (.ifCond .eq 7, 3) := by decide +kernel
theorem d_Law_law_529 : decode code 529 = .ok (.iconst 1, 1) := by decide +kernel
theorem d_Law_law_530 : decode code 530 = .ok (.goto 4, 3) := by decide +kernel
theorem d_Law_law_533 : decode code 533 = .ok (.iconst 0, 1) := by decide +kernel
theorem d_Law_law_534 : decode code 534 = .ok (.aload_n 3, 1) := by decide +kernel
theorem d_Law_law_535 : decode code 535 = .ok (.invokestatic 94, 3) := by decide +kernel
theorem d_Law_law_538 : decode code 538 = .ok (.istore 5, 2) := by decide +kernel
theorem d_Law_law_540 : decode code 540 = .ok (.aload_n 2, 1) := by decide +kernel
theorem d_Law_law_541 : decode code 541 = .ok (.aload_n 0, 1) := by decide +kernel
theorem d_Law_law_542 : decode code 542 = .ok (.iload 4, 2) := by decide +kernel
theorem d_Law_law_544 : decode code 544 = .ok (.iconst 1, 1) := by decide +kernel
theorem d_Law_law_545 : decode code 545 = .ok (.iadd, 1) := by decide +kernel
theorem d_Law_law_546 : decode code 546 = .ok (.iaload, 1) := by decide +kernel
theorem d_Law_law_547 : decode code 547 = .ok (.aload_n 0, 1) := by decide +kernel
theorem d_Law_law_548 : decode code 548 = .ok (.iload 4, 2) := by decide +kernel
theorem d_Law_law_550 : decode code 550 = .ok (.iconst 2, 1) := by decide +kernel
theorem d_Law_law_551 : decode code 551 = .ok (.iadd, 1) := by decide +kernel
theorem d_Law_law_552 : decode code 552 = .ok (.iaload, 1) := by decide +kernel
theorem d_Law_law_553 : decode code 553 = .ok (.aload_n 0, 1) := by decide +kernel
theorem d_Law_law_554 : decode code 554 = .ok (.iload 4, 2) := by decide +kernel
theorem d_Law_law_556 : decode code 556 = .ok (.iconst 3, 1) := by decide +kernel
theorem d_Law_law_557 : decode code 557 = .ok (.iadd, 1) := by decide +kernel
theorem d_Law_law_558 : decode code 558 = .ok (.iaload, 1) := by decide +kernel
theorem d_Law_law_559 : decode code 559 = .ok (.ifCond .eq 7, 3) := by decide +kernel
theorem d_Law_law_562 : decode code 562 = .ok (.iconst 1, 1) := by decide +kernel
theorem d_Law_law_563 : decode code 563 = .ok (.goto 4, 3) := by decide +kernel
theorem d_Law_law_566 : decode code 566 = .ok (.iconst 0, 1) := by decide +kernel
theorem d_Law_law_567 : decode code 567 = .ok (.invokevirtual 97, 3) := by decide +kernel
theorem d_Law_law_570 : decode code 570 = .ok (.istore 6, 2) := by decide +kernel
theorem d_Law_law_572 : decode code 572 = .ok (.aload_n 2, 1) := by decide +kernel
theorem d_Law_law_573 : decode code 573 = .ok (.invokevirtual 80, 3) := by decide +kernel
theorem d_Law_law_576 : decode code 576 = .ok (.iload 5, 2) := by decide +kernel
theorem d_Law_law_578 : decode code 578 = .ok (.if_icmp .eq 5, 3) := by decide +kernel
theorem d_Law_law_581 : decode code 581 = .ok (.iconst 0, 1) := by decide +kernel
theorem d_Law_law_582 : decode code 582 = .ok (.ireturn, 1) := by decide +kernel
theorem d_Law_law_583 : decode code 583 = .ok (.iload 5, 2) := by decide +kernel
theorem d_Law_law_585 : decode code 585 = .ok (.ifCond .ne 15, 3) := by decide +kernel
theorem d_Law_law_588 : decode code 588 = .ok (.aload_n 3, 1) := by decide +kernel
theorem d_Law_law_589 : decode code 589 = .ok (.iconst 0, 1) := by decide +kernel
theorem d_Law_law_590 : decode code 590 = .ok (.laload, 1) := by decide +kernel
theorem d_Law_law_591 : decode code 591 = .ok (.iload 6, 2) := by decide +kernel
theorem d_Law_law_593 : decode code 593 = .ok (.i2l, 1) := by decide +kernel
theorem d_Law_law_594 : decode code 594 = .ok (.lcmp, 1) := by decide +kernel
theorem d_Law_law_595 : decode code 595 = .ok (.ifCond .eq 5, 3) := by decide +kernel
theorem d_Law_law_598 : decode code 598 = .ok (.iconst 0, 1) := by decide +kernel
theorem d_Law_law_599 : decode code 599 = .ok (.ireturn, 1) := by decide +kernel
theorem d_Law_law_600 : decode code 600 = .ok (.goto 287, 3) := by decide +kernel
theorem d_Law_law_603 : decode code 603 = .ok (.aload_n 1, 1) := by decide +kernel
theorem d_Law_law_604 : decode code 604 = .ok (.aload_n 0, 1) := by decide +kernel
theorem d_Law_law_605 : decode code 605 = .ok (.iload 4, 2) := by decide +kernel
theorem d_Law_law_607 : decode code 607 = .ok (.iconst 1, 1) := by decide +kernel
theorem d_Law_law_608 : decode code 608 = .ok (.iadd, 1) := by decide +kernel
theorem d_Law_law_609 : decode code 609 = .ok (.iaload, 1) := by decide +kernel
theorem d_Law_law_610 : decode code 610 = .ok (.aload_n 0, 1) := by decide +kernel
theorem d_Law_law_611 : decode code 611 = .ok (.iload 4, 2) := by decide +kernel
theorem d_Law_law_613 : decode code 613 = .ok (.iconst 2, 1) := by decide +kernel
theorem d_Law_law_614 : decode code 614 = .ok (.iadd, 1) := by decide +kernel
theorem d_Law_law_615 : decode code 615 = .ok (.iaload, 1) := by decide +kernel
theorem d_Law_law_616 : decode code 616 = .ok (.aload_n 3, 1) := by decide +kernel
theorem d_Law_law_617 : decode code 617 = .ok (.invokestatic 98, 3) := by decide +kernel
theorem d_Law_law_620 : decode code 620 = .ok (.istore 5, 2) := by decide +kernel
theorem d_Law_law_622 : decode code 622 = .ok (.aload_n 2, 1) := by decide +kernel
theorem d_Law_law_623 : decode code 623 = .ok (.aload_n 0, 1) := by decide +kernel
theorem d_Law_law_624 : decode code 624 = .ok (.iload 4, 2) := by decide +kernel
theorem d_Law_law_626 : decode code 626 = .ok (.iconst 1, 1) := by decide +kernel
theorem d_Law_law_627 : decode code 627 = .ok (.iadd, 1) := by decide +kernel
theorem d_Law_law_628 : decode code 628 = .ok (.iaload, 1) := by decide +kernel
theorem d_Law_law_629 : decode code 629 = .ok (.aload_n 0, 1) := by decide +kernel
theorem d_Law_law_630 : decode code 630 = .ok (.iload 4, 2) := by decide +kernel
theorem d_Law_law_632 : decode code 632 = .ok (.iconst 2, 1) := by decide +kernel
theorem d_Law_law_633 : decode code 633 = .ok (.iadd, 1) := by decide +kernel
theorem d_Law_law_634 : decode code 634 = .ok (.iaload, 1) := by decide +kernel
theorem d_Law_law_635 : decode code 635 = .ok (.invokevirtual 101, 3) := by decide +kernel
theorem d_Law_law_638 : decode code 638 = .ok (.lstore 6, 2) := by decide +kernel
theorem d_Law_law_640 : decode code 640 = .ok (.aload_n 2, 1) := by decide +kernel
theorem d_Law_law_641 : decode code 641 = .ok (.invokevirtual 80, 3) := by decide +kernel
theorem d_Law_law_644 : decode code 644 = .ok (.iload 5, 2) := by decide +kernel
theorem d_Law_law_646 : decode code 646 = .ok (.if_icmp .eq 5, 3) := by decide +kernel
theorem d_Law_law_649 : decode code 649 = .ok (.iconst 0, 1) := by decide +kernel
theorem d_Law_law_650 : decode code 650 = .ok (.ireturn, 1) := by decide +kernel
theorem d_Law_law_651 : decode code 651 = .ok (.iload 5, 2) := by decide +kernel
theorem d_Law_law_653 : decode code 653 = .ok (.ifCond .ne 14, 3) := by decide +kernel
theorem d_Law_law_656 : decode code 656 = .ok (.aload_n 3, 1) := by decide +kernel
theorem d_Law_law_657 : decode code 657 = .ok (.iconst 0, 1) := by decide +kernel
theorem d_Law_law_658 : decode code 658 = .ok (.laload, 1) := by decide +kernel
theorem d_Law_law_659 : decode code 659 = .ok (.lload 6, 2) := by decide +kernel
theorem d_Law_law_661 : decode code 661 = .ok (.lcmp, 1) := by decide +kernel
theorem d_Law_law_662 : decode code 662 = .ok (.ifCond .eq 5, 3) := by decide +kernel
theorem d_Law_law_665 : decode code 665 = .ok (.iconst 0, 1) := by decide +kernel
theorem d_Law_law_666 : decode code 666 = .ok (.ireturn, 1) := by decide +kernel
theorem d_Law_law_667 : decode code 667 = .ok (.goto 220, 3) := by decide +kernel
theorem d_Law_law_670 : decode code 670 = .ok (.aload_n 1, 1) := by decide +kernel
theorem d_Law_law_671 : decode code 671 = .ok (.aload_n 0, 1) := by decide +kernel
theorem d_Law_law_672 : decode code 672 = .ok (.iload 4, 2) := by decide +kernel
theorem d_Law_law_674 : decode code 674 = .ok (.iconst 1, 1) := by decide +kernel
theorem d_Law_law_675 : decode code 675 = .ok (.iadd, 1) := by decide +kernel
theorem d_Law_law_676 : decode code 676 = .ok (.iaload, 1) := by decide +kernel
theorem d_Law_law_677 : decode code 677 = .ok (.aload_n 0, 1) := by decide +kernel
theorem d_Law_law_678 : decode code 678 = .ok (.iload 4, 2) := by decide +kernel
theorem d_Law_law_680 : decode code 680 = .ok (.iconst 2, 1) := by decide +kernel
theorem d_Law_law_681 : decode code 681 = .ok (.iadd, 1) := by decide +kernel
theorem d_Law_law_682 : decode code 682 = .ok (.iaload, 1) := by decide +kernel
theorem d_Law_law_683 : decode code 683 = .ok (.aload_n 3, 1) := by decide +kernel
theorem d_Law_law_684 : decode code 684 = .ok (.invokestatic 102, 3) := by decide +kernel
theorem d_Law_law_687 : decode code 687 = .ok (.istore 5, 2) := by decide +kernel
theorem d_Law_law_689 : decode code 689 = .ok (.aload_n 2, 1) := by decide +kernel
theorem d_Law_law_690 : decode code 690 = .ok (.aload_n 0, 1) := by decide +kernel
theorem d_Law_law_691 : decode code 691 = .ok (.iload 4, 2) := by decide +kernel
theorem d_Law_law_693 : decode code 693 = .ok (.iconst 1, 1) := by decide +kernel
theorem d_Law_law_694 : decode code 694 = .ok (.iadd, 1) := by decide +kernel
theorem d_Law_law_695 : decode code 695 = .ok (.iaload, 1) := by decide +kernel
theorem d_Law_law_696 : decode code 696 = .ok (.aload_n 0, 1) := by decide +kernel
theorem d_Law_law_697 : decode code 697 = .ok (.iload 4, 2) := by decide +kernel
theorem d_Law_law_699 : decode code 699 = .ok (.iconst 2, 1) := by decide +kernel
theorem d_Law_law_700 : decode code 700 = .ok (.iadd, 1) := by decide +kernel
theorem d_Law_law_701 : decode code 701 = .ok (.iaload, 1) := by decide +kernel
theorem d_Law_law_702 : decode code 702 = .ok (.invokevirtual 104, 3) := by decide +kernel
theorem d_Law_law_705 : decode code 705 = .ok (.istore 6, 2) := by decide +kernel
theorem d_Law_law_707 : decode code 707 = .ok (.aload_n 2, 1) := by decide +kernel
theorem d_Law_law_708 : decode code 708 = .ok (.invokevirtual 80, 3) := by decide +kernel
theorem d_Law_law_711 : decode code 711 = .ok (.iload 5, 2) := by decide +kernel
theorem d_Law_law_713 : decode code 713 = .ok (.if_icmp .eq 5, 3) := by decide +kernel
theorem d_Law_law_716 : decode code 716 = .ok (.iconst 0, 1) := by decide +kernel
theorem d_Law_law_717 : decode code 717 = .ok (.ireturn, 1) := by decide +kernel
theorem d_Law_law_718 : decode code 718 = .ok (.iload 5, 2) := by decide +kernel
theorem d_Law_law_720 : decode code 720 = .ok (.ifCond .ne 15, 3) := by decide +kernel
theorem d_Law_law_723 : decode code 723 = .ok (.aload_n 3, 1) := by decide +kernel
theorem d_Law_law_724 : decode code 724 = .ok (.iconst 0, 1) := by decide +kernel
theorem d_Law_law_725 : decode code 725 = .ok (.laload, 1) := by decide +kernel
theorem d_Law_law_726 : decode code 726 = .ok (.iload 6, 2) := by decide +kernel
theorem d_Law_law_728 : decode code 728 = .ok (.i2l, 1) := by decide +kernel
theorem d_Law_law_729 : decode code 729 = .ok (.lcmp, 1) := by decide +kernel
theorem d_Law_law_730 : decode code 730 = .ok (.ifCond .eq 5, 3) := by decide +kernel
theorem d_Law_law_733 : decode code 733 = .ok (.iconst 0, 1) := by decide +kernel
theorem d_Law_law_734 : decode code 734 = .ok (.ireturn, 1) := by decide +kernel
theorem d_Law_law_735 : decode code 735 = .ok (.goto 152, 3) := by decide +kernel
theorem d_Law_law_738 : decode code 738 = .ok (.aload_n 1, 1) := by decide +kernel
theorem d_Law_law_739 : decode code 739 = .ok (.aload_n 0, 1) := by decide +kernel
theorem d_Law_law_740 : decode code 740 = .ok (.iload 4, 2) := by decide +kernel
theorem d_Law_law_742 : decode code 742 = .ok (.iconst 1, 1) := by decide +kernel
theorem d_Law_law_743 : decode code 743 = .ok (.iadd, 1) := by decide +kernel
theorem d_Law_law_744 : decode code 744 = .ok (.iaload, 1) := by decide +kernel
theorem d_Law_law_745 : decode code 745 = .ok (.aload_n 0, 1) := by decide +kernel
theorem d_Law_law_746 : decode code 746 = .ok (.iload 4, 2) := by decide +kernel
theorem d_Law_law_748 : decode code 748 = .ok (.iconst 2, 1) := by decide +kernel
theorem d_Law_law_749 : decode code 749 = .ok (.iadd, 1) := by decide +kernel
theorem d_Law_law_750 : decode code 750 = .ok (.iaload, 1) := by decide +kernel
theorem d_Law_law_751 : decode code 751 = .ok (.aload_n 0, 1) := by decide +kernel
theorem d_Law_law_752 : decode code 752 = .ok (.iload 4, 2) := by decide +kernel
theorem d_Law_law_754 : decode code 754 = .ok (.iconst 3, 1) := by decide +kernel
theorem d_Law_law_755 : decode code 755 = .ok (.iadd, 1) := by decide +kernel
theorem d_Law_law_756 : decode code 756 = .ok (.iaload, 1) := by decide +kernel
theorem d_Law_law_757 : decode code 757 = .ok (.aload_n 3, 1) := by decide +kernel
theorem d_Law_law_758 : decode code 758 = .ok (.invokestatic 105, 3) := by decide +kernel
theorem d_Law_law_761 : decode code 761 = .ok (.istore 5, 2) := by decide +kernel
theorem d_Law_law_763 : decode code 763 = .ok (.aload_n 2, 1) := by decide +kernel
theorem d_Law_law_764 : decode code 764 = .ok (.aload_n 0, 1) := by decide +kernel
theorem d_Law_law_765 : decode code 765 = .ok (.iload 4, 2) := by decide +kernel
theorem d_Law_law_767 : decode code 767 = .ok (.iconst 1, 1) := by decide +kernel
theorem d_Law_law_768 : decode code 768 = .ok (.iadd, 1) := by decide +kernel
theorem d_Law_law_769 : decode code 769 = .ok (.iaload, 1) := by decide +kernel
theorem d_Law_law_770 : decode code 770 = .ok (.aload_n 0, 1) := by decide +kernel
theorem d_Law_law_771 : decode code 771 = .ok (.iload 4, 2) := by decide +kernel
theorem d_Law_law_773 : decode code 773 = .ok (.iconst 2, 1) := by decide +kernel
theorem d_Law_law_774 : decode code 774 = .ok (.iadd, 1) := by decide +kernel
theorem d_Law_law_775 : decode code 775 = .ok (.iaload, 1) := by decide +kernel
theorem d_Law_law_776 : decode code 776 = .ok (.aload_n 0, 1) := by decide +kernel
theorem d_Law_law_777 : decode code 777 = .ok (.iload 4, 2) := by decide +kernel
theorem d_Law_law_779 : decode code 779 = .ok (.iconst 3, 1) := by decide +kernel
theorem d_Law_law_780 : decode code 780 = .ok (.iadd, 1) := by decide +kernel
theorem d_Law_law_781 : decode code 781 = .ok (.iaload, 1) := by decide +kernel
theorem d_Law_law_782 : decode code 782 = .ok (.invokevirtual 107, 3) := by decide +kernel
theorem d_Law_law_785 : decode code 785 = .ok (.istore 6, 2) := by decide +kernel
theorem d_Law_law_787 : decode code 787 = .ok (.aload_n 2, 1) := by decide +kernel
theorem d_Law_law_788 : decode code 788 = .ok (.invokevirtual 80, 3) := by decide +kernel
theorem d_Law_law_791 : decode code 791 = .ok (.iload 5, 2) := by decide +kernel
theorem d_Law_law_793 : decode code 793 = .ok (.if_icmp .eq 5, 3) := by decide +kernel
theorem d_Law_law_796 : decode code 796 = .ok (.iconst 0, 1) := by decide +kernel
theorem d_Law_law_797 : decode code 797 = .ok (.ireturn, 1) := by decide +kernel
theorem d_Law_law_798 : decode code 798 = .ok (.iload 5, 2) := by decide +kernel
theorem d_Law_law_800 : decode code 800 = .ok (.ifCond .ne 15, 3) := by decide +kernel
theorem d_Law_law_803 : decode code 803 = .ok (.aload_n 3, 1) := by decide +kernel
theorem d_Law_law_804 : decode code 804 = .ok (.iconst 0, 1) := by decide +kernel
theorem d_Law_law_805 : decode code 805 = .ok (.laload, 1) := by decide +kernel
theorem d_Law_law_806 : decode code 806 = .ok (.iload 6, 2) := by decide +kernel
theorem d_Law_law_808 : decode code 808 = .ok (.i2l, 1) := by decide +kernel
theorem d_Law_law_809 : decode code 809 = .ok (.lcmp, 1) := by decide +kernel
theorem d_Law_law_810 : decode code 810 = .ok (.ifCond .eq 5, 3) := by decide +kernel
theorem d_Law_law_813 : decode code 813 = .ok (.iconst 0, 1) := by decide +kernel
theorem d_Law_law_814 : decode code 814 = .ok (.ireturn, 1) := by decide +kernel
theorem d_Law_law_815 : decode code 815 = .ok (.goto 72, 3) := by decide +kernel
theorem d_Law_law_818 : decode code 818 = .ok (.aload_n 1, 1) := by decide +kernel
theorem d_Law_law_819 : decode code 819 = .ok (.invokevirtual 108, 3) := by decide +kernel
theorem d_Law_law_822 : decode code 822 = .ok (.aload_n 2, 1) := by decide +kernel
theorem d_Law_law_823 : decode code 823 = .ok (.invokevirtual 111, 3) := by decide +kernel
theorem d_Law_law_826 : decode code 826 = .ok (.if_icmp .eq 61, 3) := by decide +kernel
theorem d_Law_law_829 : decode code 829 = .ok (.iconst 0, 1) := by decide +kernel
theorem d_Law_law_830 : decode code 830 = .ok (.ireturn, 1) := by decide +kernel
theorem d_Law_law_831 : decode code 831 = .ok (.aload_n 1, 1) := by decide +kernel
theorem d_Law_law_832 : decode code 832 = .ok (.aload_n 0, 1) := by decide +kernel
theorem d_Law_law_833 : decode code 833 = .ok (.iload 4, 2) := by decide +kernel
theorem d_Law_law_835 : decode code 835 = .ok (.iconst 1, 1) := by decide +kernel
theorem d_Law_law_836 : decode code 836 = .ok (.iadd, 1) := by decide +kernel
theorem d_Law_law_837 : decode code 837 = .ok (.iaload, 1) := by decide +kernel
theorem d_Law_law_838 : decode code 838 = .ok (.aload_n 3, 1) := by decide +kernel
theorem d_Law_law_839 : decode code 839 = .ok (.invokestatic 112, 3) := by decide +kernel
theorem d_Law_law_842 : decode code 842 = .ok (.istore 5, 2) := by decide +kernel
theorem d_Law_law_844 : decode code 844 = .ok (.aload_n 2, 1) := by decide +kernel
theorem d_Law_law_845 : decode code 845 = .ok (.aload_n 0, 1) := by decide +kernel
theorem d_Law_law_846 : decode code 846 = .ok (.iload 4, 2) := by decide +kernel
theorem d_Law_law_848 : decode code 848 = .ok (.iconst 1, 1) := by decide +kernel
theorem d_Law_law_849 : decode code 849 = .ok (.iadd, 1) := by decide +kernel
theorem d_Law_law_850 : decode code 850 = .ok (.iaload, 1) := by decide +kernel
theorem d_Law_law_851 : decode code 851 = .ok (.invokevirtual 114, 3) := by decide +kernel
theorem d_Law_law_854 : decode code 854 = .ok (.istore 6, 2) := by decide +kernel
theorem d_Law_law_856 : decode code 856 = .ok (.aload_n 2, 1) := by decide +kernel
theorem d_Law_law_857 : decode code 857 = .ok (.invokevirtual 80, 3) := by decide +kernel
theorem d_Law_law_860 : decode code 860 = .ok (.iload 5, 2) := by decide +kernel
theorem d_Law_law_862 : decode code 862 = .ok (.if_icmp .eq 5, 3) := by decide +kernel
theorem d_Law_law_865 : decode code 865 = .ok (.iconst 0, 1) := by decide +kernel
theorem d_Law_law_866 : decode code 866 = .ok (.ireturn, 1) := by decide +kernel
theorem d_Law_law_867 : decode code 867 = .ok (.iload 5, 2) := by decide +kernel
theorem d_Law_law_869 : decode code 869 = .ok (.ifCond .ne 15, 3) := by decide +kernel
theorem d_Law_law_872 : decode code 872 = .ok (.aload_n 3, 1) := by decide +kernel
theorem d_Law_law_873 : decode code 873 = .ok (.iconst 0, 1) := by decide +kernel
theorem d_Law_law_874 : decode code 874 = .ok (.laload, 1) := by decide +kernel
theorem d_Law_law_875 : decode code 875 = .ok (.iload 6, 2) := by decide +kernel
theorem d_Law_law_877 : decode code 877 = .ok (.i2l, 1) := by decide +kernel
theorem d_Law_law_878 : decode code 878 = .ok (.lcmp, 1) := by decide +kernel
theorem d_Law_law_879 : decode code 879 = .ok (.ifCond .eq 5, 3) := by decide +kernel
theorem d_Law_law_882 : decode code 882 = .ok (.iconst 0, 1) := by decide +kernel
theorem d_Law_law_883 : decode code 883 = .ok (.ireturn, 1) := by decide +kernel
theorem d_Law_law_884 : decode code 884 = .ok (.goto 3, 3) := by decide +kernel
theorem d_Law_law_887 : decode code 887 = .ok (.iinc 4 4, 3) := by decide +kernel
theorem d_Law_law_890 : decode code 890 = .ok (.goto (-867), 3) := by decide +kernel
theorem d_Law_law_893 : decode code 893 = .ok (.iconst 1, 1) := by decide +kernel
theorem d_Law_law_894 : decode code 894 = .ok (.ireturn, 1) := by decide +kernel
def Law_law_jn887 (call : ax_Cf) (k23 : Option Nat → Option Nat → Option Nat → Option Nat → Int32 → ax_Hp → ax_O) (x0 : Option Nat) (x1 : Option Nat) (x2 : Option Nat) (x3 : Option Nat) (x4 : Int32) (h : ax_Hp) : ax_O :=
  k23 x0 x1 x2 x3 (x4 + 4) h
set_option maxHeartbeats 4000000 in
set_option maxRecDepth 20000 in
theorem Law_law_jq887 {l : Launch} {G : ax_G} {d : Nat} {call : ax_Cf} (hcall : ax_Hc l G d call) {p : Program} {e : Env} {s : State} {mi : MethodId} {args : Array Value} {below : List Frame} {meth : Method} {c : Code} {h0 : ax_Hp} (B : ax_B G p s mi meth c "SchemaDeskLaw" code 8 (some (.boolean))) (E : c.exceptionTable.isEmpty = true) (Nm : meth.name = x.name) (k23 : Option Nat → Option Nat → Option Nat → Option Nat → Int32 → ax_Hp → ax_O) (hk23 : ∀ (x0 : Option Nat) (x1 : Option Nat) (x2 : Option Nat) (x3 : Option Nat) (x4 : Int32) (h : ax_Hp), ax_W G p l e s mi args below meth c 8 (d + 1) h0 23 [(0, ax_A x0), (1, ax_A x1), (2, ax_A x2), (3, ax_A x3), (4, ax_I x4)] [] h (k23 x0 x1 x2 x3 x4 h)) (x0 : Option Nat) (x1 : Option Nat) (x2 : Option Nat) (x3 : Option Nat) (x4 : Int32) (h : ax_Hp) : ax_W G p l e s mi args below meth c 8 (d + 1) h0 887 [(0, ax_A x0), (1, ax_A x1), (2, ax_A x2), (3, ax_A x3), (4, ax_I x4)] [] h (Law_law_jn887 call k23 x0 x1 x2 x3 x4 h) := by
  unfold Law_law_jn887
  refine ax_iinc (v := x4 + 4) (tv2 := [(4, ax_I (x4 + 4)), (0, ax_A x0), (1, ax_A x1), (2, ax_A x2), (3, ax_A x3)]) B 4 d_Law_law_887 rfl (congrArg (_ + ·) (by decide)) (by decide) rfl ?_
  refine ax_goto B 23 d_Law_law_890 (by decide) ?_
  refine ax_sub (tv2 := [(0, ax_A x0), (1, ax_A x1), (2, ax_A x2), (3, ax_A x3), (4, ax_I (x4 + 4))]) [1, 2, 3, 4, 0] rfl ?_
  exact hk23 x0 x1 x2 x3 (x4 + 4) h
def Law_law_jn361 (call : ax_Cf) (k23 : Option Nat → Option Nat → Option Nat → Option Nat → Int32 → ax_Hp → ax_O) (x0 : Option Nat) (x1 : Option Nat) (x2 : Option Nat) (x3 : Option Nat) (x4 : Int32) (h : ax_Hp) : ax_O :=
  Law_law_jn887 call k23 x0 x1 x2 x3 x4 h
set_option maxHeartbeats 4000000 in
set_option maxRecDepth 20000 in
theorem Law_law_jq361 {l : Launch} {G : ax_G} {d : Nat} {call : ax_Cf} (hcall : ax_Hc l G d call) {p : Program} {e : Env} {s : State} {mi : MethodId} {args : Array Value} {below : List Frame} {meth : Method} {c : Code} {h0 : ax_Hp} (B : ax_B G p s mi meth c "SchemaDeskLaw" code 8 (some (.boolean))) (E : c.exceptionTable.isEmpty = true) (Nm : meth.name = x.name) (k23 : Option Nat → Option Nat → Option Nat → Option Nat → Int32 → ax_Hp → ax_O) (hk23 : ∀ (x0 : Option Nat) (x1 : Option Nat) (x2 : Option Nat) (x3 : Option Nat) (x4 : Int32) (h : ax_Hp), ax_W G p l e s mi args below meth c 8 (d + 1) h0 23 [(0, ax_A x0), (1, ax_A x1), (2, ax_A x2), (3, ax_A x3), (4, ax_I x4)] [] h (k23 x0 x1 x2 x3 x4 h)) (x0 : Option Nat) (x1 : Option Nat) (x2 : Option Nat) (x3 : Option Nat) (x4 : Int32) (h : ax_Hp) : ax_W G p l e s mi args below meth c 8 (d + 1) h0 361 [(0, ax_A x0), (1, ax_A x1), (2, ax_A x2), (3, ax_A x3), (4, ax_I x4)] [] h (Law_law_jn361 call k23 x0 x1 x2 x3 x4 h) := by
  unfold Law_law_jn361
  refine ax_goto B 887 d_Law_law_361 (by decide) ?_
  refine ax_sub (tv2 := [(0, ax_A x0), (1, ax_A x1), (2, ax_A x2), (3, ax_A x3), (4, ax_I x4)]) [0, 1, 2, 3, 4] rfl ?_
  exact Law_law_jq887 hcall B E Nm k23 hk23 x0 x1 x2 x3 x4 h
def Law_law_jn417 (call : ax_Cf) (k23 : Option Nat → Option Nat → Option Nat → Option Nat → Int32 → ax_Hp → ax_O) (x0 : Option Nat) (x1 : Option Nat) (x2 : Option Nat) (x3 : Option Nat) (x4 : Int32) (h : ax_Hp) : ax_O :=
  Law_law_jn887 call k23 x0 x1 x2 x3 x4 h
set_option maxHeartbeats 4000000 in
set_option maxRecDepth 20000 in
theorem Law_law_jq417 {l : Launch} {G : ax_G} {d : Nat} {call : ax_Cf} (hcall : ax_Hc l G d call) {p : Program} {e : Env} {s : State} {mi : MethodId} {args : Array Value} {below : List Frame} {meth : Method} {c : Code} {h0 : ax_Hp} (B : ax_B G p s mi meth c "SchemaDeskLaw" code 8 (some (.boolean))) (E : c.exceptionTable.isEmpty = true) (Nm : meth.name = x.name) (k23 : Option Nat → Option Nat → Option Nat → Option Nat → Int32 → ax_Hp → ax_O) (hk23 : ∀ (x0 : Option Nat) (x1 : Option Nat) (x2 : Option Nat) (x3 : Option Nat) (x4 : Int32) (h : ax_Hp), ax_W G p l e s mi args below meth c 8 (d + 1) h0 23 [(0, ax_A x0), (1, ax_A x1), (2, ax_A x2), (3, ax_A x3), (4, ax_I x4)] [] h (k23 x0 x1 x2 x3 x4 h)) (x0 : Option Nat) (x1 : Option Nat) (x2 : Option Nat) (x3 : Option Nat) (x4 : Int32) (h : ax_Hp) : ax_W G p l e s mi args below meth c 8 (d + 1) h0 417 [(0, ax_A x0), (1, ax_A x1), (2, ax_A x2), (3, ax_A x3), (4, ax_I x4)] [] h (Law_law_jn417 call k23 x0 x1 x2 x3 x4 h) := by
  unfold Law_law_jn417
  refine ax_goto B 887 d_Law_law_417 (by decide) ?_
  refine ax_sub (tv2 := [(0, ax_A x0), (1, ax_A x1), (2, ax_A x2), (3, ax_A x3), (4, ax_I x4)]) [0, 1, 2, 3, 4] rfl ?_
  exact Law_law_jq887 hcall B E Nm k23 hk23 x0 x1 x2 x3 x4 h
def Law_law_jn504 (call : ax_Cf) (k23 : Option Nat → Option Nat → Option Nat → Option Nat → Int32 → ax_Hp → ax_O) (x0 : Option Nat) (x1 : Option Nat) (x2 : Option Nat) (x3 : Option Nat) (x4 : Int32) (h : ax_Hp) : ax_O :=
  Law_law_jn887 call k23 x0 x1 x2 x3 x4 h
set_option maxHeartbeats 4000000 in
set_option maxRecDepth 20000 in
theorem Law_law_jq504 {l : Launch} {G : ax_G} {d : Nat} {call : ax_Cf} (hcall : ax_Hc l G d call) {p : Program} {e : Env} {s : State} {mi : MethodId} {args : Array Value} {below : List Frame} {meth : Method} {c : Code} {h0 : ax_Hp} (B : ax_B G p s mi meth c "SchemaDeskLaw" code 8 (some (.boolean))) (E : c.exceptionTable.isEmpty = true) (Nm : meth.name = x.name) (k23 : Option Nat → Option Nat → Option Nat → Option Nat → Int32 → ax_Hp → ax_O) (hk23 : ∀ (x0 : Option Nat) (x1 : Option Nat) (x2 : Option Nat) (x3 : Option Nat) (x4 : Int32) (h : ax_Hp), ax_W G p l e s mi args below meth c 8 (d + 1) h0 23 [(0, ax_A x0), (1, ax_A x1), (2, ax_A x2), (3, ax_A x3), (4, ax_I x4)] [] h (k23 x0 x1 x2 x3 x4 h)) (x0 : Option Nat) (x1 : Option Nat) (x2 : Option Nat) (x3 : Option Nat) (x4 : Int32) (h : ax_Hp) : ax_W G p l e s mi args below meth c 8 (d + 1) h0 504 [(0, ax_A x0), (1, ax_A x1), (2, ax_A x2), (3, ax_A x3), (4, ax_I x4)] [] h (Law_law_jn504 call k23 x0 x1 x2 x3 x4 h) := by
  unfold Law_law_jn504
  refine ax_goto B 887 d_Law_law_504 (by decide) ?_
  refine ax_sub (tv2 := [(0, ax_A x0), (1, ax_A x1), (2, ax_A x2), (3, ax_A x3), (4, ax_I x4)]) [0, 1, 2, 3, 4] rfl ?_
  exact Law_law_jq887 hcall B E Nm k23 hk23 x0 x1 x2 x3 x4 h
def Law_law_jn498 (call : ax_Cf) (k23 : Option Nat → Option Nat → Option Nat → Option Nat → Int32 → ax_Hp → ax_O) (x0 : Option Nat) (x1 : Option Nat) (x2 : Option Nat) (x3 : Option Nat) (x4 : Int32) (s0 : Int64) (s1 : Int64) (h : ax_Hp) : ax_O :=
  if (lg_cmp s1 s0) = 0 then
    Law_law_jn504 call k23 x0 x1 x2 x3 x4 h
  else
    ax_rz 0 h
set_option maxHeartbeats 4000000 in
set_option maxRecDepth 20000 in
theorem Law_law_jq498 {l : Launch} {G : ax_G} {d : Nat} {call : ax_Cf} (hcall : ax_Hc l G d call) {p : Program} {e : Env} {s : State} {mi : MethodId} {args : Array Value} {below : List Frame} {meth : Method} {c : Code} {h0 : ax_Hp} (B : ax_B G p s mi meth c "SchemaDeskLaw" code 8 (some (.boolean))) (E : c.exceptionTable.isEmpty = true) (Nm : meth.name = x.name) (k23 : Option Nat → Option Nat → Option Nat → Option Nat → Int32 → ax_Hp → ax_O) (hk23 : ∀ (x0 : Option Nat) (x1 : Option Nat) (x2 : Option Nat) (x3 : Option Nat) (x4 : Int32) (h : ax_Hp), ax_W G p l e s mi args below meth c 8 (d + 1) h0 23 [(0, ax_A x0), (1, ax_A x1), (2, ax_A x2), (3, ax_A x3), (4, ax_I x4)] [] h (k23 x0 x1 x2 x3 x4 h)) (x0 : Option Nat) (x1 : Option Nat) (x2 : Option Nat) (x3 : Option Nat) (x4 : Int32) (s0 : Int64) (s1 : Int64) (h : ax_Hp) : ax_W G p l e s mi args below meth c 8 (d + 1) h0 498 [(0, ax_A x0), (1, ax_A x1), (2, ax_A x2), (3, ax_A x3), (4, ax_I x4)] [ax_L s0, ax_L s1] h (Law_law_jn498 call k23 x0 x1 x2 x3 x4 s0 s1 h) := by
  unfold Law_law_jn498
  refine ax_lcmp B d_Law_law_498 ?_
  refine ax_if_eq B 504 d_Law_law_499 (by decide) ?_ ?_
  · refine ax_sub (tv2 := [(0, ax_A x0), (1, ax_A x1), (2, ax_A x2), (3, ax_A x3), (4, ax_I x4)]) [0, 1, 2, 3, 4] rfl ?_
    exact Law_law_jq504 hcall B E Nm k23 hk23 x0 x1 x2 x3 x4 h
  · refine ax_iconst (v := 0) B d_Law_law_502 (by decide) ?_
    exact ax_zreturn B d_Law_law_503
def Law_law_jn600 (call : ax_Cf) (k23 : Option Nat → Option Nat → Option Nat → Option Nat → Int32 → ax_Hp → ax_O) (x0 : Option Nat) (x1 : Option Nat) (x2 : Option Nat) (x3 : Option Nat) (x4 : Int32) (h : ax_Hp) : ax_O :=
  Law_law_jn887 call k23 x0 x1 x2 x3 x4 h
set_option maxHeartbeats 4000000 in
set_option maxRecDepth 20000 in
theorem Law_law_jq600 {l : Launch} {G : ax_G} {d : Nat} {call : ax_Cf} (hcall : ax_Hc l G d call) {p : Program} {e : Env} {s : State} {mi : MethodId} {args : Array Value} {below : List Frame} {meth : Method} {c : Code} {h0 : ax_Hp} (B : ax_B G p s mi meth c "SchemaDeskLaw" code 8 (some (.boolean))) (E : c.exceptionTable.isEmpty = true) (Nm : meth.name = x.name) (k23 : Option Nat → Option Nat → Option Nat → Option Nat → Int32 → ax_Hp → ax_O) (hk23 : ∀ (x0 : Option Nat) (x1 : Option Nat) (x2 : Option Nat) (x3 : Option Nat) (x4 : Int32) (h : ax_Hp), ax_W G p l e s mi args below meth c 8 (d + 1) h0 23 [(0, ax_A x0), (1, ax_A x1), (2, ax_A x2), (3, ax_A x3), (4, ax_I x4)] [] h (k23 x0 x1 x2 x3 x4 h)) (x0 : Option Nat) (x1 : Option Nat) (x2 : Option Nat) (x3 : Option Nat) (x4 : Int32) (h : ax_Hp) : ax_W G p l e s mi args below meth c 8 (d + 1) h0 600 [(0, ax_A x0), (1, ax_A x1), (2, ax_A x2), (3, ax_A x3), (4, ax_I x4)] [] h (Law_law_jn600 call k23 x0 x1 x2 x3 x4 h) := by
  unfold Law_law_jn600
  refine ax_goto B 887 d_Law_law_600 (by decide) ?_
  refine ax_sub (tv2 := [(0, ax_A x0), (1, ax_A x1), (2, ax_A x2), (3, ax_A x3), (4, ax_I x4)]) [0, 1, 2, 3, 4] rfl ?_
  exact Law_law_jq887 hcall B E Nm k23 hk23 x0 x1 x2 x3 x4 h
def Law_law_jn567 (call : ax_Cf) (k23 : Option Nat → Option Nat → Option Nat → Option Nat → Int32 → ax_Hp → ax_O) (x0 : Option Nat) (x1 : Option Nat) (x2 : Option Nat) (x3 : Option Nat) (x4 : Int32) (x5 : Int32) (s0 : Int32) (s1 : Int32) (s2 : Int32) (s3 : Option Nat) (h : ax_Hp) : ax_O :=
  ax_on h s3 9 <| ax_ci (call 188 [ax_A s3, ax_I s2, ax_I s1, ax_I s0] h) fun v89 h88 =>
  ax_on h88 x2 9 <| ax_ci (call 144 [ax_A x2] h88) fun v91 h90 =>
  if v91 = x5 then
    if x5 = 0 then
      (ax_ldl h90 x3 2 0).bind fun v92 =>
      if (lg_cmp v92 (v89.toInt64)) = 0 then
        Law_law_jn600 call k23 x0 x1 x2 x3 x4 h90
      else
        ax_rz 0 h90
    else
      Law_law_jn600 call k23 x0 x1 x2 x3 x4 h90
  else
    ax_rz 0 h90
set_option maxHeartbeats 4000000 in
set_option maxRecDepth 20000 in
theorem Law_law_jq567 {l : Launch} {G : ax_G} {d : Nat} {call : ax_Cf} (hcall : ax_Hc l G d call) {p : Program} {e : Env} {s : State} {mi : MethodId} {args : Array Value} {below : List Frame} {meth : Method} {c : Code} {h0 : ax_Hp} (B : ax_B G p s mi meth c "SchemaDeskLaw" code 8 (some (.boolean))) (E : c.exceptionTable.isEmpty = true) (Nm : meth.name = x.name) (k23 : Option Nat → Option Nat → Option Nat → Option Nat → Int32 → ax_Hp → ax_O) (hk23 : ∀ (x0 : Option Nat) (x1 : Option Nat) (x2 : Option Nat) (x3 : Option Nat) (x4 : Int32) (h : ax_Hp), ax_W G p l e s mi args below meth c 8 (d + 1) h0 23 [(0, ax_A x0), (1, ax_A x1), (2, ax_A x2), (3, ax_A x3), (4, ax_I x4)] [] h (k23 x0 x1 x2 x3 x4 h)) (x0 : Option Nat) (x1 : Option Nat) (x2 : Option Nat) (x3 : Option Nat) (x4 : Int32) (x5 : Int32) (s0 : Int32) (s1 : Int32) (s2 : Int32) (s3 : Option Nat) (h : ax_Hp) : ax_W G p l e s mi args below meth c 8 (d + 1) h0 567 [(0, ax_A x0), (1, ax_A x1), (2, ax_A x2), (3, ax_A x3), (4, ax_I x4), (5, ax_I x5)] [ax_I s0, ax_I s1, ax_I s2, ax_A s3] h (Law_law_jn567 call k23 x0 x1 x2 x3 x4 x5 s0 s1 s2 s3 h) := by
  unfold Law_law_jn567
  refine ax_callVi (av := [ax_I s2, ax_I s1, ax_I s0]) (rest := []) B E hm_Model_print cl_Model rfl wd_1232 wd_1233 lk_Law_97 d_Law_law_567 rfl (Nat.le_of_ble_eq_true rfl) (fun _ _ hh => hcall 188 _ _ _ _ hh) (fun v89 h88 => ?_)
  refine ax_istore (tv2 := [(6, ax_I v89), (0, ax_A x0), (1, ax_A x1), (2, ax_A x2), (3, ax_A x3), (4, ax_I x4), (5, ax_I x5)]) B d_Law_law_570 (by decide) rfl ?_
  refine ax_aload_n B 3 d_Law_law_572 rfl rfl ?_
  refine ax_callVi (av := []) (rest := []) B E hm_Model_thrown cl_Model rfl wd_1051 wd_1052 lk_Law_80 d_Law_law_573 rfl (Nat.le_of_ble_eq_true rfl) (fun _ _ hh => hcall 144 _ _ _ _ hh) (fun v91 h90 => ?_)
  refine ax_iload B 6 d_Law_law_576 rfl ?_
  refine ax_icmp_eq B 583 d_Law_law_578 (by decide) ?_ ?_
  · refine ax_iload B 6 d_Law_law_583 rfl ?_
    refine ax_if_ne B 600 d_Law_law_585 (by decide) ?_ ?_
    · refine ax_sub (tv2 := [(0, ax_A x0), (1, ax_A x1), (2, ax_A x2), (3, ax_A x3), (4, ax_I x4)]) [1, 2, 3, 4, 5] rfl ?_
      exact Law_law_jq600 hcall B E Nm k23 hk23 x0 x1 x2 x3 x4 h90
    · refine ax_aload_n B 4 d_Law_law_588 rfl rfl ?_
      refine ax_iconst (v := 0) B d_Law_law_589 (by decide) ?_
      refine ax_lald (kd := 2) B (by decide) rfl d_Law_law_590 (fun v92 => ?_)
      refine ax_iload B 0 d_Law_law_591 rfl ?_
      refine ax_i2l B d_Law_law_593 ?_
      refine ax_lcmp B d_Law_law_594 ?_
      refine ax_if_eq B 600 d_Law_law_595 (by decide) ?_ ?_
      · refine ax_sub (tv2 := [(0, ax_A x0), (1, ax_A x1), (2, ax_A x2), (3, ax_A x3), (4, ax_I x4)]) [1, 2, 3, 4, 5] rfl ?_
        exact Law_law_jq600 hcall B E Nm k23 hk23 x0 x1 x2 x3 x4 h90
      · refine ax_iconst (v := 0) B d_Law_law_598 (by decide) ?_
        exact ax_zreturn B d_Law_law_599
  · refine ax_iconst (v := 0) B d_Law_law_581 (by decide) ?_
    exact ax_zreturn B d_Law_law_582
def Law_law_jn534 (call : ax_Cf) (k23 : Option Nat → Option Nat → Option Nat → Option Nat → Int32 → ax_Hp → ax_O) (x0 : Option Nat) (x1 : Option Nat) (x2 : Option Nat) (x3 : Option Nat) (x4 : Int32) (s0 : Int32) (s1 : Int32) (s2 : Int32) (s3 : Option Nat) (h : ax_Hp) : ax_O :=
  ax_ci (call 96 [ax_A s3, ax_I s2, ax_I s1, ax_I s0, ax_A x3] h) fun v84 h83 =>
  (ax_ldi h83 x0 0 (x4 + 1)).bind fun v85 =>
  (ax_ldi h83 x0 0 (x4 + 2)).bind fun v86 =>
  (ax_ldi h83 x0 0 (x4 + 3)).bind fun v87 =>
  if v87 = 0 then
    Law_law_jn567 call k23 x0 x1 x2 x3 x4 v84 0 v86 v85 x2 h83
  else
    Law_law_jn567 call k23 x0 x1 x2 x3 x4 v84 1 v86 v85 x2 h83
set_option maxHeartbeats 4000000 in
set_option maxRecDepth 20000 in
theorem Law_law_jq534 {l : Launch} {G : ax_G} {d : Nat} {call : ax_Cf} (hcall : ax_Hc l G d call) {p : Program} {e : Env} {s : State} {mi : MethodId} {args : Array Value} {below : List Frame} {meth : Method} {c : Code} {h0 : ax_Hp} (B : ax_B G p s mi meth c "SchemaDeskLaw" code 8 (some (.boolean))) (E : c.exceptionTable.isEmpty = true) (Nm : meth.name = x.name) (k23 : Option Nat → Option Nat → Option Nat → Option Nat → Int32 → ax_Hp → ax_O) (hk23 : ∀ (x0 : Option Nat) (x1 : Option Nat) (x2 : Option Nat) (x3 : Option Nat) (x4 : Int32) (h : ax_Hp), ax_W G p l e s mi args below meth c 8 (d + 1) h0 23 [(0, ax_A x0), (1, ax_A x1), (2, ax_A x2), (3, ax_A x3), (4, ax_I x4)] [] h (k23 x0 x1 x2 x3 x4 h)) (x0 : Option Nat) (x1 : Option Nat) (x2 : Option Nat) (x3 : Option Nat) (x4 : Int32) (s0 : Int32) (s1 : Int32) (s2 : Int32) (s3 : Option Nat) (h : ax_Hp) : ax_W G p l e s mi args below meth c 8 (d + 1) h0 534 [(0, ax_A x0), (1, ax_A x1), (2, ax_A x2), (3, ax_A x3), (4, ax_I x4)] [ax_I s0, ax_I s1, ax_I s2, ax_A s3] h (Law_law_jn534 call k23 x0 x1 x2 x3 x4 s0 s1 s2 s3 h) := by
  unfold Law_law_jn534
  refine ax_aload_n B 3 d_Law_law_534 rfl rfl ?_
  refine ax_callSWi (av := [ax_A s3, ax_I s2, ax_I s1, ax_I s0, ax_A x3]) (rest := []) B E hm_Law_print wd_617 lk_Law_94 d_Law_law_535 rfl (Nat.le_of_ble_eq_true rfl) (fun _ _ hh => hcall 96 _ _ _ _ hh) (fun v84 h83 => ?_)
  refine ax_istore (tv2 := [(5, ax_I v84), (0, ax_A x0), (1, ax_A x1), (2, ax_A x2), (3, ax_A x3), (4, ax_I x4)]) B d_Law_law_538 (by decide) rfl ?_
  refine ax_aload_n B 3 d_Law_law_540 rfl rfl ?_
  refine ax_aload_n B 1 d_Law_law_541 rfl rfl ?_
  refine ax_iload B 5 d_Law_law_542 rfl ?_
  refine ax_iconst (v := 1) B d_Law_law_544 (by decide) ?_
  refine ax_iadd B d_Law_law_545 ?_
  refine ax_iald (kd := 0) B (by decide) rfl d_Law_law_546 (fun v85 => ?_)
  refine ax_aload_n B 1 d_Law_law_547 rfl rfl ?_
  refine ax_iload B 5 d_Law_law_548 rfl ?_
  refine ax_iconst (v := 2) B d_Law_law_550 (by decide) ?_
  refine ax_iadd B d_Law_law_551 ?_
  refine ax_iald (kd := 0) B (by decide) rfl d_Law_law_552 (fun v86 => ?_)
  refine ax_aload_n B 1 d_Law_law_553 rfl rfl ?_
  refine ax_iload B 5 d_Law_law_554 rfl ?_
  refine ax_iconst (v := 3) B d_Law_law_556 (by decide) ?_
  refine ax_iadd B d_Law_law_557 ?_
  refine ax_iald (kd := 0) B (by decide) rfl d_Law_law_558 (fun v87 => ?_)
  refine ax_if_eq B 566 d_Law_law_559 (by decide) ?_ ?_
  · refine ax_iconst (v := 0) B d_Law_law_566 (by decide) ?_
    refine ax_sub (tv2 := [(0, ax_A x0), (1, ax_A x1), (2, ax_A x2), (3, ax_A x3), (4, ax_I x4), (5, ax_I v84)]) [1, 2, 3, 4, 5, 0] rfl ?_
    exact Law_law_jq567 hcall B E Nm k23 hk23 x0 x1 x2 x3 x4 v84 0 v86 v85 x2 h83
  · refine ax_iconst (v := 1) B d_Law_law_562 (by decide) ?_
    refine ax_goto B 567 d_Law_law_563 (by decide) ?_
    refine ax_sub (tv2 := [(0, ax_A x0), (1, ax_A x1), (2, ax_A x2), (3, ax_A x3), (4, ax_I x4), (5, ax_I v84)]) [1, 2, 3, 4, 5, 0] rfl ?_
    exact Law_law_jq567 hcall B E Nm k23 hk23 x0 x1 x2 x3 x4 v84 1 v86 v85 x2 h83
def Law_law_jn667 (call : ax_Cf) (k23 : Option Nat → Option Nat → Option Nat → Option Nat → Int32 → ax_Hp → ax_O) (x0 : Option Nat) (x1 : Option Nat) (x2 : Option Nat) (x3 : Option Nat) (x4 : Int32) (h : ax_Hp) : ax_O :=
  Law_law_jn887 call k23 x0 x1 x2 x3 x4 h
set_option maxHeartbeats 4000000 in
set_option maxRecDepth 20000 in
theorem Law_law_jq667 {l : Launch} {G : ax_G} {d : Nat} {call : ax_Cf} (hcall : ax_Hc l G d call) {p : Program} {e : Env} {s : State} {mi : MethodId} {args : Array Value} {below : List Frame} {meth : Method} {c : Code} {h0 : ax_Hp} (B : ax_B G p s mi meth c "SchemaDeskLaw" code 8 (some (.boolean))) (E : c.exceptionTable.isEmpty = true) (Nm : meth.name = x.name) (k23 : Option Nat → Option Nat → Option Nat → Option Nat → Int32 → ax_Hp → ax_O) (hk23 : ∀ (x0 : Option Nat) (x1 : Option Nat) (x2 : Option Nat) (x3 : Option Nat) (x4 : Int32) (h : ax_Hp), ax_W G p l e s mi args below meth c 8 (d + 1) h0 23 [(0, ax_A x0), (1, ax_A x1), (2, ax_A x2), (3, ax_A x3), (4, ax_I x4)] [] h (k23 x0 x1 x2 x3 x4 h)) (x0 : Option Nat) (x1 : Option Nat) (x2 : Option Nat) (x3 : Option Nat) (x4 : Int32) (h : ax_Hp) : ax_W G p l e s mi args below meth c 8 (d + 1) h0 667 [(0, ax_A x0), (1, ax_A x1), (2, ax_A x2), (3, ax_A x3), (4, ax_I x4)] [] h (Law_law_jn667 call k23 x0 x1 x2 x3 x4 h) := by
  unfold Law_law_jn667
  refine ax_goto B 887 d_Law_law_667 (by decide) ?_
  refine ax_sub (tv2 := [(0, ax_A x0), (1, ax_A x1), (2, ax_A x2), (3, ax_A x3), (4, ax_I x4)]) [0, 1, 2, 3, 4] rfl ?_
  exact Law_law_jq887 hcall B E Nm k23 hk23 x0 x1 x2 x3 x4 h
def Law_law_jn735 (call : ax_Cf) (k23 : Option Nat → Option Nat → Option Nat → Option Nat → Int32 → ax_Hp → ax_O) (x0 : Option Nat) (x1 : Option Nat) (x2 : Option Nat) (x3 : Option Nat) (x4 : Int32) (h : ax_Hp) : ax_O :=
  Law_law_jn887 call k23 x0 x1 x2 x3 x4 h
set_option maxHeartbeats 4000000 in
set_option maxRecDepth 20000 in
theorem Law_law_jq735 {l : Launch} {G : ax_G} {d : Nat} {call : ax_Cf} (hcall : ax_Hc l G d call) {p : Program} {e : Env} {s : State} {mi : MethodId} {args : Array Value} {below : List Frame} {meth : Method} {c : Code} {h0 : ax_Hp} (B : ax_B G p s mi meth c "SchemaDeskLaw" code 8 (some (.boolean))) (E : c.exceptionTable.isEmpty = true) (Nm : meth.name = x.name) (k23 : Option Nat → Option Nat → Option Nat → Option Nat → Int32 → ax_Hp → ax_O) (hk23 : ∀ (x0 : Option Nat) (x1 : Option Nat) (x2 : Option Nat) (x3 : Option Nat) (x4 : Int32) (h : ax_Hp), ax_W G p l e s mi args below meth c 8 (d + 1) h0 23 [(0, ax_A x0), (1, ax_A x1), (2, ax_A x2), (3, ax_A x3), (4, ax_I x4)] [] h (k23 x0 x1 x2 x3 x4 h)) (x0 : Option Nat) (x1 : Option Nat) (x2 : Option Nat) (x3 : Option Nat) (x4 : Int32) (h : ax_Hp) : ax_W G p l e s mi args below meth c 8 (d + 1) h0 735 [(0, ax_A x0), (1, ax_A x1), (2, ax_A x2), (3, ax_A x3), (4, ax_I x4)] [] h (Law_law_jn735 call k23 x0 x1 x2 x3 x4 h) := by
  unfold Law_law_jn735
  refine ax_goto B 887 d_Law_law_735 (by decide) ?_
  refine ax_sub (tv2 := [(0, ax_A x0), (1, ax_A x1), (2, ax_A x2), (3, ax_A x3), (4, ax_I x4)]) [0, 1, 2, 3, 4] rfl ?_
  exact Law_law_jq887 hcall B E Nm k23 hk23 x0 x1 x2 x3 x4 h
def Law_law_jn815 (call : ax_Cf) (k23 : Option Nat → Option Nat → Option Nat → Option Nat → Int32 → ax_Hp → ax_O) (x0 : Option Nat) (x1 : Option Nat) (x2 : Option Nat) (x3 : Option Nat) (x4 : Int32) (h : ax_Hp) : ax_O :=
  Law_law_jn887 call k23 x0 x1 x2 x3 x4 h
set_option maxHeartbeats 4000000 in
set_option maxRecDepth 20000 in
theorem Law_law_jq815 {l : Launch} {G : ax_G} {d : Nat} {call : ax_Cf} (hcall : ax_Hc l G d call) {p : Program} {e : Env} {s : State} {mi : MethodId} {args : Array Value} {below : List Frame} {meth : Method} {c : Code} {h0 : ax_Hp} (B : ax_B G p s mi meth c "SchemaDeskLaw" code 8 (some (.boolean))) (E : c.exceptionTable.isEmpty = true) (Nm : meth.name = x.name) (k23 : Option Nat → Option Nat → Option Nat → Option Nat → Int32 → ax_Hp → ax_O) (hk23 : ∀ (x0 : Option Nat) (x1 : Option Nat) (x2 : Option Nat) (x3 : Option Nat) (x4 : Int32) (h : ax_Hp), ax_W G p l e s mi args below meth c 8 (d + 1) h0 23 [(0, ax_A x0), (1, ax_A x1), (2, ax_A x2), (3, ax_A x3), (4, ax_I x4)] [] h (k23 x0 x1 x2 x3 x4 h)) (x0 : Option Nat) (x1 : Option Nat) (x2 : Option Nat) (x3 : Option Nat) (x4 : Int32) (h : ax_Hp) : ax_W G p l e s mi args below meth c 8 (d + 1) h0 815 [(0, ax_A x0), (1, ax_A x1), (2, ax_A x2), (3, ax_A x3), (4, ax_I x4)] [] h (Law_law_jn815 call k23 x0 x1 x2 x3 x4 h) := by
  unfold Law_law_jn815
  refine ax_goto B 887 d_Law_law_815 (by decide) ?_
  refine ax_sub (tv2 := [(0, ax_A x0), (1, ax_A x1), (2, ax_A x2), (3, ax_A x3), (4, ax_I x4)]) [0, 1, 2, 3, 4] rfl ?_
  exact Law_law_jq887 hcall B E Nm k23 hk23 x0 x1 x2 x3 x4 h
def Law_law_jn884 (call : ax_Cf) (k23 : Option Nat → Option Nat → Option Nat → Option Nat → Int32 → ax_Hp → ax_O) (x0 : Option Nat) (x1 : Option Nat) (x2 : Option Nat) (x3 : Option Nat) (x4 : Int32) (h : ax_Hp) : ax_O :=
  Law_law_jn887 call k23 x0 x1 x2 x3 x4 h
set_option maxHeartbeats 4000000 in
set_option maxRecDepth 20000 in
theorem Law_law_jq884 {l : Launch} {G : ax_G} {d : Nat} {call : ax_Cf} (hcall : ax_Hc l G d call) {p : Program} {e : Env} {s : State} {mi : MethodId} {args : Array Value} {below : List Frame} {meth : Method} {c : Code} {h0 : ax_Hp} (B : ax_B G p s mi meth c "SchemaDeskLaw" code 8 (some (.boolean))) (E : c.exceptionTable.isEmpty = true) (Nm : meth.name = x.name) (k23 : Option Nat → Option Nat → Option Nat → Option Nat → Int32 → ax_Hp → ax_O) (hk23 : ∀ (x0 : Option Nat) (x1 : Option Nat) (x2 : Option Nat) (x3 : Option Nat) (x4 : Int32) (h : ax_Hp), ax_W G p l e s mi args below meth c 8 (d + 1) h0 23 [(0, ax_A x0), (1, ax_A x1), (2, ax_A x2), (3, ax_A x3), (4, ax_I x4)] [] h (k23 x0 x1 x2 x3 x4 h)) (x0 : Option Nat) (x1 : Option Nat) (x2 : Option Nat) (x3 : Option Nat) (x4 : Int32) (h : ax_Hp) : ax_W G p l e s mi args below meth c 8 (d + 1) h0 884 [(0, ax_A x0), (1, ax_A x1), (2, ax_A x2), (3, ax_A x3), (4, ax_I x4)] [] h (Law_law_jn884 call k23 x0 x1 x2 x3 x4 h) := by
  unfold Law_law_jn884
  refine ax_goto B 887 d_Law_law_884 (by decide) ?_
  refine ax_sub (tv2 := [(0, ax_A x0), (1, ax_A x1), (2, ax_A x2), (3, ax_A x3), (4, ax_I x4)]) [0, 1, 2, 3, 4] rfl ?_
  exact Law_law_jq887 hcall B E Nm k23 hk23 x0 x1 x2 x3 x4 h
def Law_law_bd23 (call : ax_Cf)  (k23 : Option Nat → Option Nat → Option Nat → Option Nat → Int32 → ax_Hp → ax_O) (x0 : Option Nat) (x1 : Option Nat) (x2 : Option Nat) (x3 : Option Nat) (x4 : Int32) (h : ax_Hp) : ax_O :=
  (ax_len h x0 0).bind fun v11 =>
  if (v11 - 4) < x4 then
    ax_rz 1 h
  else
    (ax_ldi h x0 0 x4).bind fun v12 =>
    if (v12 &&& 15).toInt = 0 then
      (ax_ldi h x0 0 (x4 + 1)).bind fun v13 =>
      (ax_ldi h x0 0 (x4 + 2)).bind fun v14 =>
      ax_on h x1 8 <| ax_ci (call 4 [ax_A x1, ax_L (((v13.toInt64) <<< ((32 : Int32).toInt64 &&& 63)) ||| ((v14.toInt64) &&& 4294967295))] h) fun v16 h15 =>
      (ax_ldi h15 x0 0 (x4 + 1)).bind fun v17 =>
      (ax_ldi h15 x0 0 (x4 + 2)).bind fun v18 =>
      ax_on h15 x2 9 <| ax_ci (call 145 [ax_A x2, ax_L (((v17.toInt64) <<< ((32 : Int32).toInt64 &&& 63)) ||| ((v18.toInt64) &&& 4294967295))] h15) fun v20 h19 =>
      if v16 = v20 then
        Law_law_jn887 call k23 x0 x1 x2 x3 x4 h19
      else
        ax_rz 0 h19
    else
    if (v12 &&& 15).toInt = 1 then
      ax_on h x1 8 <| ax_ci (call 9 [ax_A x1] h) fun v22 h21 =>
      ax_on h21 x2 9 <| ax_ci (call 146 [ax_A x2] h21) fun v24 h23 =>
      if v22 = v24 then
        Law_law_jn887 call k23 x0 x1 x2 x3 x4 h23
      else
        ax_rz 0 h23
    else
    if (v12 &&& 15).toInt = 2 then
      (ax_ldi h x0 0 (x4 + 1)).bind fun v25 =>
      (ax_ldi h x0 0 (x4 + 2)).bind fun v26 =>
      (ax_ldi h x0 0 (x4 + 3)).bind fun v27 =>
      ax_on h x1 8 <| ax_ci (call 11 [ax_A x1, ax_L (((v25.toInt64) <<< ((32 : Int32).toInt64 &&& 63)) ||| ((v26.toInt64) &&& 4294967295)), ax_I v27] h) fun v29 h28 =>
      (ax_ldi h28 x0 0 (x4 + 1)).bind fun v30 =>
      (ax_ldi h28 x0 0 (x4 + 2)).bind fun v31 =>
      (ax_ldi h28 x0 0 (x4 + 3)).bind fun v32 =>
      ax_on h28 x2 9 <| ax_ci (call 147 [ax_A x2, ax_L (((v30.toInt64) <<< ((32 : Int32).toInt64 &&& 63)) ||| ((v31.toInt64) &&& 4294967295)), ax_I v32] h28) fun v34 h33 =>
      if v29 = v34 then
        Law_law_jn887 call k23 x0 x1 x2 x3 x4 h33
      else
        ax_rz 0 h33
    else
    if (v12 &&& 15).toInt = 3 then
      ax_on h x1 8 <| ax_ci (call 12 [ax_A x1] h) fun v36 h35 =>
      ax_on h35 x2 9 <| ax_ci (call 148 [ax_A x2] h35) fun v38 h37 =>
      if v36 = v38 then
        Law_law_jn887 call k23 x0 x1 x2 x3 x4 h37
      else
        ax_rz 0 h37
    else
    if (v12 &&& 15).toInt = 4 then
      (ax_ldi h x0 0 (x4 + 1)).bind fun v39 =>
      (ax_ldi h x0 0 (x4 + 2)).bind fun v40 =>
      ax_ci (call 14 [ax_A x1, ax_I v39, ax_I v40] h) fun v42 h41 =>
      (ax_ldi h41 x0 0 (x4 + 1)).bind fun v43 =>
      (ax_ldi h41 x0 0 (x4 + 2)).bind fun v44 =>
      ax_on h41 x2 9 <| ax_cv (call 149 [ax_A x2, ax_I v43, ax_I v44] h41) fun h45 =>
      ax_on h45 x2 9 <| ax_ci (call 144 [ax_A x2] h45) fun v48 h47 =>
      if v48 = v42 then
        Law_law_jn887 call k23 x0 x1 x2 x3 x4 h47
      else
        ax_rz 0 h47
    else
    if (v12 &&& 15).toInt = 5 then
      (ax_ldi h x0 0 (x4 + 1)).bind fun v49 =>
      ax_ci (call 18 [ax_A x1, ax_I v49, ax_A x3] h) fun v51 h50 =>
      (ax_ldi h50 x0 0 (x4 + 1)).bind fun v52 =>
      ax_on h50 x2 9 <| ax_ci (call 151 [ax_A x2, ax_I v52] h50) fun v54 h53 =>
      ax_on h53 x2 9 <| ax_ci (call 144 [ax_A x2] h53) fun v56 h55 =>
      if v56 = v51 then
        if v51 = 0 then
          (ax_ldl h55 x3 2 0).bind fun v57 =>
          if (lg_cmp v57 (v54.toInt64)) = 0 then
            Law_law_jn361 call k23 x0 x1 x2 x3 x4 h55
          else
            ax_rz 0 h55
        else
          Law_law_jn361 call k23 x0 x1 x2 x3 x4 h55
      else
        ax_rz 0 h55
    else
    if (v12 &&& 15).toInt = 6 then
      (ax_ldi h x0 0 (x4 + 1)).bind fun v58 =>
      ax_ci (call 89 [ax_A x1, ax_I v58, ax_A x3] h) fun v60 h59 =>
      (ax_ldi h59 x0 0 (x4 + 1)).bind fun v61 =>
      ax_on h59 x2 9 <| ax_ci (call 185 [ax_A x2, ax_I v61] h59) fun v63 h62 =>
      ax_on h62 x2 9 <| ax_ci (call 144 [ax_A x2] h62) fun v65 h64 =>
      if v65 = v60 then
        if v60 = 0 then
          (ax_ldl h64 x3 2 0).bind fun v66 =>
          if (lg_cmp v66 (v63.toInt64)) = 0 then
            Law_law_jn417 call k23 x0 x1 x2 x3 x4 h64
          else
            ax_rz 0 h64
        else
          Law_law_jn417 call k23 x0 x1 x2 x3 x4 h64
      else
        ax_rz 0 h64
    else
    if (v12 &&& 15).toInt = 7 then
      (ax_ldi h x0 0 (x4 + 1)).bind fun v67 =>
      (ax_ldi h x0 0 (x4 + 2)).bind fun v68 =>
      (ax_ldi h x0 0 (x4 + 3)).bind fun v69 =>
      ax_ci (call 92 [ax_A x1, ax_I v67, ax_I v68, ax_I v69, ax_A x3] h) fun v71 h70 =>
      (ax_ldi h70 x0 0 (x4 + 1)).bind fun v72 =>
      (ax_ldi h70 x0 0 (x4 + 2)).bind fun v73 =>
      (ax_ldi h70 x0 0 (x4 + 3)).bind fun v74 =>
      ax_on h70 x2 9 <| ax_ci (call 186 [ax_A x2, ax_I v72, ax_I v73, ax_I v74] h70) fun v76 h75 =>
      ax_on h75 x2 9 <| ax_ci (call 144 [ax_A x2] h75) fun v78 h77 =>
      if v78 = v71 then
        if v71 = 0 then
          (ax_ldl h77 x3 2 0).bind fun v79 =>
          if v76 = 0 then
            Law_law_jn498 call k23 x0 x1 x2 x3 x4 0 v79 h77
          else
            Law_law_jn498 call k23 x0 x1 x2 x3 x4 1 v79 h77
        else
          Law_law_jn504 call k23 x0 x1 x2 x3 x4 h77
      else
        ax_rz 0 h77
    else
    if (v12 &&& 15).toInt = 8 then
      (ax_ldi h x0 0 (x4 + 1)).bind fun v80 =>
      (ax_ldi h x0 0 (x4 + 2)).bind fun v81 =>
      (ax_ldi h x0 0 (x4 + 3)).bind fun v82 =>
      if v82 = 0 then
        Law_law_jn534 call k23 x0 x1 x2 x3 x4 0 v81 v80 x1 h
      else
        Law_law_jn534 call k23 x0 x1 x2 x3 x4 1 v81 v80 x1 h
    else
    if (v12 &&& 15).toInt = 9 then
      (ax_ldi h x0 0 (x4 + 1)).bind fun v93 =>
      (ax_ldi h x0 0 (x4 + 2)).bind fun v94 =>
      ax_ci (call 101 [ax_A x1, ax_I v93, ax_I v94, ax_A x3] h) fun v96 h95 =>
      (ax_ldi h95 x0 0 (x4 + 1)).bind fun v97 =>
      (ax_ldi h95 x0 0 (x4 + 2)).bind fun v98 =>
      ax_on h95 x2 9 <| ax_cl (call 191 [ax_A x2, ax_I v97, ax_I v98] h95) fun v100 h99 =>
      ax_on h99 x2 9 <| ax_ci (call 144 [ax_A x2] h99) fun v102 h101 =>
      if v102 = v96 then
        if v96 = 0 then
          (ax_ldl h101 x3 2 0).bind fun v103 =>
          if (lg_cmp v103 v100) = 0 then
            Law_law_jn667 call k23 x0 x1 x2 x3 x4 h101
          else
            ax_rz 0 h101
        else
          Law_law_jn667 call k23 x0 x1 x2 x3 x4 h101
      else
        ax_rz 0 h101
    else
    if (v12 &&& 15).toInt = 10 then
      (ax_ldi h x0 0 (x4 + 1)).bind fun v104 =>
      (ax_ldi h x0 0 (x4 + 2)).bind fun v105 =>
      ax_ci (call 104 [ax_A x1, ax_I v104, ax_I v105, ax_A x3] h) fun v107 h106 =>
      (ax_ldi h106 x0 0 (x4 + 1)).bind fun v108 =>
      (ax_ldi h106 x0 0 (x4 + 2)).bind fun v109 =>
      ax_on h106 x2 9 <| ax_ci (call 192 [ax_A x2, ax_I v108, ax_I v109] h106) fun v111 h110 =>
      ax_on h110 x2 9 <| ax_ci (call 144 [ax_A x2] h110) fun v113 h112 =>
      if v113 = v107 then
        if v107 = 0 then
          (ax_ldl h112 x3 2 0).bind fun v114 =>
          if (lg_cmp v114 (v111.toInt64)) = 0 then
            Law_law_jn735 call k23 x0 x1 x2 x3 x4 h112
          else
            ax_rz 0 h112
        else
          Law_law_jn735 call k23 x0 x1 x2 x3 x4 h112
      else
        ax_rz 0 h112
    else
    if (v12 &&& 15).toInt = 11 then
      (ax_ldi h x0 0 (x4 + 1)).bind fun v115 =>
      (ax_ldi h x0 0 (x4 + 2)).bind fun v116 =>
      (ax_ldi h x0 0 (x4 + 3)).bind fun v117 =>
      ax_ci (call 107 [ax_A x1, ax_I v115, ax_I v116, ax_I v117, ax_A x3] h) fun v119 h118 =>
      (ax_ldi h118 x0 0 (x4 + 1)).bind fun v120 =>
      (ax_ldi h118 x0 0 (x4 + 2)).bind fun v121 =>
      (ax_ldi h118 x0 0 (x4 + 3)).bind fun v122 =>
      ax_on h118 x2 9 <| ax_ci (call 193 [ax_A x2, ax_I v120, ax_I v121, ax_I v122] h118) fun v124 h123 =>
      ax_on h123 x2 9 <| ax_ci (call 144 [ax_A x2] h123) fun v126 h125 =>
      if v126 = v119 then
        if v119 = 0 then
          (ax_ldl h125 x3 2 0).bind fun v127 =>
          if (lg_cmp v127 (v124.toInt64)) = 0 then
            Law_law_jn815 call k23 x0 x1 x2 x3 x4 h125
          else
            ax_rz 0 h125
        else
          Law_law_jn815 call k23 x0 x1 x2 x3 x4 h125
      else
        ax_rz 0 h125
    else
    if (v12 &&& 15).toInt = 12 then
      ax_on h x1 8 <| ax_ci (call 13 [ax_A x1] h) fun v129 h128 =>
      ax_on h128 x2 9 <| ax_ci (call 208 [ax_A x2] h128) fun v131 h130 =>
      if v129 = v131 then
        Law_law_jn887 call k23 x0 x1 x2 x3 x4 h130
      else
        ax_rz 0 h130
    else
    if (v12 &&& 15).toInt = 13 then
      (ax_ldi h x0 0 (x4 + 1)).bind fun v132 =>
      ax_ci (call 141 [ax_A x1, ax_I v132, ax_A x3] h) fun v134 h133 =>
      (ax_ldi h133 x0 0 (x4 + 1)).bind fun v135 =>
      ax_on h133 x2 9 <| ax_ci (call 209 [ax_A x2, ax_I v135] h133) fun v137 h136 =>
      ax_on h136 x2 9 <| ax_ci (call 144 [ax_A x2] h136) fun v139 h138 =>
      if v139 = v134 then
        if v134 = 0 then
          (ax_ldl h138 x3 2 0).bind fun v140 =>
          if (lg_cmp v140 (v137.toInt64)) = 0 then
            Law_law_jn884 call k23 x0 x1 x2 x3 x4 h138
          else
            ax_rz 0 h138
        else
          Law_law_jn884 call k23 x0 x1 x2 x3 x4 h138
      else
        ax_rz 0 h138
    else
    Law_law_jn887 call k23 x0 x1 x2 x3 x4 h
def Law_law_lp23 (call : ax_Cf)  : Nat → Option Nat → Option Nat → Option Nat → Option Nat → Int32 → ax_Hp → ax_O
  | 0 => fun _ _ _ _ _ _ => none
  | n + 1 => Law_law_bd23 call  (Law_law_lp23 call  n)
set_option maxHeartbeats 4000000 in
set_option maxRecDepth 20000 in
theorem Law_law_lb23 {l : Launch} {G : ax_G} {d : Nat} {call : ax_Cf} (hcall : ax_Hc l G d call) {p : Program} {e : Env} {s : State} {mi : MethodId} {args : Array Value} {below : List Frame} {meth : Method} {c : Code} {h0 : ax_Hp} (B : ax_B G p s mi meth c "SchemaDeskLaw" code 8 (some (.boolean))) (E : c.exceptionTable.isEmpty = true) (Nm : meth.name = x.name)   {k23 : Option Nat → Option Nat → Option Nat → Option Nat → Int32 → ax_Hp → ax_O} (hk23 : ∀ (x0 : Option Nat) (x1 : Option Nat) (x2 : Option Nat) (x3 : Option Nat) (x4 : Int32) (h : ax_Hp), ax_W G p l e s mi args below meth c 8 (d + 1) h0 23 [(0, ax_A x0), (1, ax_A x1), (2, ax_A x2), (3, ax_A x3), (4, ax_I x4)] [] h (k23 x0 x1 x2 x3 x4 h)) (x0 : Option Nat) (x1 : Option Nat) (x2 : Option Nat) (x3 : Option Nat) (x4 : Int32) (h : ax_Hp) : ax_W G p l e s mi args below meth c 8 (d + 1) h0 23 [(0, ax_A x0), (1, ax_A x1), (2, ax_A x2), (3, ax_A x3), (4, ax_I x4)] [] h (Law_law_bd23 call  k23 x0 x1 x2 x3 x4 h) := by
  unfold Law_law_bd23
  refine ax_iload B 4 d_Law_law_23 rfl ?_
  refine ax_aload_n B 0 d_Law_law_25 rfl rfl ?_
  refine ax_alen (kd := 0) B (by decide) d_Law_law_26 (fun v11 => ?_)
  refine ax_iconst (v := 4) B d_Law_law_27 (by decide) ?_
  refine ax_isub B d_Law_law_28 ?_
  refine ax_icmp_gt B 893 d_Law_law_29 (by decide) ?_ ?_
  · refine ax_iconst (v := 1) B d_Law_law_893 (by decide) ?_
    exact ax_zreturn B d_Law_law_894
  · refine ax_aload_n B 0 d_Law_law_32 rfl rfl ?_
    refine ax_iload B 4 d_Law_law_33 rfl ?_
    refine ax_iald (kd := 0) B (by decide) rfl d_Law_law_35 (fun v12 => ?_)
    refine ax_bipush (v := 15) B d_Law_law_36 (by decide) ?_
    refine ax_iand B d_Law_law_38 ?_
    refine ax_table B d_Law_law_39 (by decide) ?_
    refine ⟨_, _, rfl, ⟨108, by decide, ?_⟩, ?_⟩
    · refine ax_aload_n B 1 d_Law_law_108 rfl rfl ?_
      refine ax_aload_n B 0 d_Law_law_109 rfl rfl ?_
      refine ax_iload B 4 d_Law_law_110 rfl ?_
      refine ax_iconst (v := 1) B d_Law_law_112 (by decide) ?_
      refine ax_iadd B d_Law_law_113 ?_
      refine ax_iald (kd := 0) B (by decide) rfl d_Law_law_114 (fun v13 => ?_)
      refine ax_i2l B d_Law_law_115 ?_
      refine ax_bipush (v := 32) B d_Law_law_116 (by decide) ?_
      refine ax_lshl B d_Law_law_118 ?_
      refine ax_aload_n B 0 d_Law_law_119 rfl rfl ?_
      refine ax_iload B 4 d_Law_law_120 rfl ?_
      refine ax_iconst (v := 2) B d_Law_law_122 (by decide) ?_
      refine ax_iadd B d_Law_law_123 ?_
      refine ax_iald (kd := 0) B (by decide) rfl d_Law_law_124 (fun v14 => ?_)
      refine ax_i2l B d_Law_law_125 ?_
      refine ax_ldc2 (v := 4294967295) B wd_1322 d_Law_law_126 ?_
      refine ax_land B d_Law_law_129 ?_
      refine ax_lor B d_Law_law_130 ?_
      refine ax_callVi (av := [ax_L (((v13.toInt64) <<< ((32 : Int32).toInt64 &&& 63)) ||| ((v14.toInt64) &&& 4294967295))]) (rest := []) B E hm_Desk_write cl_Desk rfl wd_109 wd_110 lk_Law_55 d_Law_law_131 rfl (Nat.le_of_ble_eq_true rfl) (fun _ _ hh => hcall 4 _ _ _ _ hh) (fun v16 h15 => ?_)
      refine ax_aload_n B 2 d_Law_law_134 rfl rfl ?_
      refine ax_aload_n B 0 d_Law_law_135 rfl rfl ?_
      refine ax_iload B 4 d_Law_law_136 rfl ?_
      refine ax_iconst (v := 1) B d_Law_law_138 (by decide) ?_
      refine ax_iadd B d_Law_law_139 ?_
      refine ax_iald (kd := 0) B (by decide) rfl d_Law_law_140 (fun v17 => ?_)
      refine ax_i2l B d_Law_law_141 ?_
      refine ax_bipush (v := 32) B d_Law_law_142 (by decide) ?_
      refine ax_lshl B d_Law_law_144 ?_
      refine ax_aload_n B 0 d_Law_law_145 rfl rfl ?_
      refine ax_iload B 4 d_Law_law_146 rfl ?_
      refine ax_iconst (v := 2) B d_Law_law_148 (by decide) ?_
      refine ax_iadd B d_Law_law_149 ?_
      refine ax_iald (kd := 0) B (by decide) rfl d_Law_law_150 (fun v18 => ?_)
      refine ax_i2l B d_Law_law_151 ?_
      refine ax_ldc2 (v := 4294967295) B wd_1322 d_Law_law_152 ?_
      refine ax_land B d_Law_law_155 ?_
      refine ax_lor B d_Law_law_156 ?_
      refine ax_callVi (av := [ax_L (((v17.toInt64) <<< ((32 : Int32).toInt64 &&& 63)) ||| ((v18.toInt64) &&& 4294967295))]) (rest := [ax_I v16]) B E hm_Model_write cl_Model rfl wd_1055 wd_1056 lk_Law_59 d_Law_law_157 rfl (Nat.le_of_ble_eq_true rfl) (fun _ _ hh => hcall 145 _ _ _ _ hh) (fun v20 h19 => ?_)
      refine ax_icmp_eq B 887 d_Law_law_160 (by decide) ?_ ?_
      · refine ax_sub (tv2 := [(0, ax_A x0), (1, ax_A x1), (2, ax_A x2), (3, ax_A x3), (4, ax_I x4)]) [0, 1, 2, 3, 4] rfl ?_
        exact Law_law_jq887 hcall B E Nm k23 hk23 x0 x1 x2 x3 x4 h19
      · refine ax_iconst (v := 0) B d_Law_law_163 (by decide) ?_
        exact ax_zreturn B d_Law_law_164
    refine ⟨_, _, rfl, ⟨165, by decide, ?_⟩, ?_⟩
    · refine ax_aload_n B 1 d_Law_law_165 rfl rfl ?_
      refine ax_callVi (av := []) (rest := []) B E hm_Desk_wipe cl_Desk rfl wd_127 wd_128 lk_Law_60 d_Law_law_166 rfl (Nat.le_of_ble_eq_true rfl) (fun _ _ hh => hcall 9 _ _ _ _ hh) (fun v22 h21 => ?_)
      refine ax_aload_n B 2 d_Law_law_169 rfl rfl ?_
      refine ax_callVi (av := []) (rest := [ax_I v22]) B E hm_Model_wipe cl_Model rfl wd_1060 wd_1061 lk_Law_64 d_Law_law_170 rfl (Nat.le_of_ble_eq_true rfl) (fun _ _ hh => hcall 146 _ _ _ _ hh) (fun v24 h23 => ?_)
      refine ax_icmp_eq B 887 d_Law_law_173 (by decide) ?_ ?_
      · refine ax_sub (tv2 := [(0, ax_A x0), (1, ax_A x1), (2, ax_A x2), (3, ax_A x3), (4, ax_I x4)]) [0, 1, 2, 3, 4] rfl ?_
        exact Law_law_jq887 hcall B E Nm k23 hk23 x0 x1 x2 x3 x4 h23
      · refine ax_iconst (v := 0) B d_Law_law_176 (by decide) ?_
        exact ax_zreturn B d_Law_law_177
    refine ⟨_, _, rfl, ⟨178, by decide, ?_⟩, ?_⟩
    · refine ax_aload_n B 1 d_Law_law_178 rfl rfl ?_
      refine ax_aload_n B 0 d_Law_law_179 rfl rfl ?_
      refine ax_iload B 4 d_Law_law_180 rfl ?_
      refine ax_iconst (v := 1) B d_Law_law_182 (by decide) ?_
      refine ax_iadd B d_Law_law_183 ?_
      refine ax_iald (kd := 0) B (by decide) rfl d_Law_law_184 (fun v25 => ?_)
      refine ax_i2l B d_Law_law_185 ?_
      refine ax_bipush (v := 32) B d_Law_law_186 (by decide) ?_
      refine ax_lshl B d_Law_law_188 ?_
      refine ax_aload_n B 0 d_Law_law_189 rfl rfl ?_
      refine ax_iload B 4 d_Law_law_190 rfl ?_
      refine ax_iconst (v := 2) B d_Law_law_192 (by decide) ?_
      refine ax_iadd B d_Law_law_193 ?_
      refine ax_iald (kd := 0) B (by decide) rfl d_Law_law_194 (fun v26 => ?_)
      refine ax_i2l B d_Law_law_195 ?_
      refine ax_ldc2 (v := 4294967295) B wd_1322 d_Law_law_196 ?_
      refine ax_land B d_Law_law_199 ?_
      refine ax_lor B d_Law_law_200 ?_
      refine ax_aload_n B 0 d_Law_law_201 rfl rfl ?_
      refine ax_iload B 4 d_Law_law_202 rfl ?_
      refine ax_iconst (v := 3) B d_Law_law_204 (by decide) ?_
      refine ax_iadd B d_Law_law_205 ?_
      refine ax_iald (kd := 0) B (by decide) rfl d_Law_law_206 (fun v27 => ?_)
      refine ax_callVi (av := [ax_L (((v25.toInt64) <<< ((32 : Int32).toInt64 &&& 63)) ||| ((v26.toInt64) &&& 4294967295)), ax_I v27]) (rest := []) B E hm_Desk_feed cl_Desk rfl wd_135 wd_136 lk_Law_65 d_Law_law_207 rfl (Nat.le_of_ble_eq_true rfl) (fun _ _ hh => hcall 11 _ _ _ _ hh) (fun v29 h28 => ?_)
      refine ax_aload_n B 2 d_Law_law_210 rfl rfl ?_
      refine ax_aload_n B 0 d_Law_law_211 rfl rfl ?_
      refine ax_iload B 4 d_Law_law_212 rfl ?_
      refine ax_iconst (v := 1) B d_Law_law_214 (by decide) ?_
      refine ax_iadd B d_Law_law_215 ?_
      refine ax_iald (kd := 0) B (by decide) rfl d_Law_law_216 (fun v30 => ?_)
      refine ax_i2l B d_Law_law_217 ?_
      refine ax_bipush (v := 32) B d_Law_law_218 (by decide) ?_
      refine ax_lshl B d_Law_law_220 ?_
      refine ax_aload_n B 0 d_Law_law_221 rfl rfl ?_
      refine ax_iload B 4 d_Law_law_222 rfl ?_
      refine ax_iconst (v := 2) B d_Law_law_224 (by decide) ?_
      refine ax_iadd B d_Law_law_225 ?_
      refine ax_iald (kd := 0) B (by decide) rfl d_Law_law_226 (fun v31 => ?_)
      refine ax_i2l B d_Law_law_227 ?_
      refine ax_ldc2 (v := 4294967295) B wd_1322 d_Law_law_228 ?_
      refine ax_land B d_Law_law_231 ?_
      refine ax_lor B d_Law_law_232 ?_
      refine ax_aload_n B 0 d_Law_law_233 rfl rfl ?_
      refine ax_iload B 4 d_Law_law_234 rfl ?_
      refine ax_iconst (v := 3) B d_Law_law_236 (by decide) ?_
      refine ax_iadd B d_Law_law_237 ?_
      refine ax_iald (kd := 0) B (by decide) rfl d_Law_law_238 (fun v32 => ?_)
      refine ax_callVi (av := [ax_L (((v30.toInt64) <<< ((32 : Int32).toInt64 &&& 63)) ||| ((v31.toInt64) &&& 4294967295)), ax_I v32]) (rest := [ax_I v29]) B E hm_Model_feed cl_Model rfl wd_1064 wd_1065 lk_Law_69 d_Law_law_239 rfl (Nat.le_of_ble_eq_true rfl) (fun _ _ hh => hcall 147 _ _ _ _ hh) (fun v34 h33 => ?_)
      refine ax_icmp_eq B 887 d_Law_law_242 (by decide) ?_ ?_
      · refine ax_sub (tv2 := [(0, ax_A x0), (1, ax_A x1), (2, ax_A x2), (3, ax_A x3), (4, ax_I x4)]) [0, 1, 2, 3, 4] rfl ?_
        exact Law_law_jq887 hcall B E Nm k23 hk23 x0 x1 x2 x3 x4 h33
      · refine ax_iconst (v := 0) B d_Law_law_245 (by decide) ?_
        exact ax_zreturn B d_Law_law_246
    refine ⟨_, _, rfl, ⟨247, by decide, ?_⟩, ?_⟩
    · refine ax_aload_n B 1 d_Law_law_247 rfl rfl ?_
      refine ax_callVi (av := []) (rest := []) B E hm_Desk_drain cl_Desk rfl wd_139 wd_140 lk_Law_70 d_Law_law_248 rfl (Nat.le_of_ble_eq_true rfl) (fun _ _ hh => hcall 12 _ _ _ _ hh) (fun v36 h35 => ?_)
      refine ax_aload_n B 2 d_Law_law_251 rfl rfl ?_
      refine ax_callVi (av := []) (rest := [ax_I v36]) B E hm_Model_drain cl_Model rfl wd_1068 wd_1069 lk_Law_73 d_Law_law_252 rfl (Nat.le_of_ble_eq_true rfl) (fun _ _ hh => hcall 148 _ _ _ _ hh) (fun v38 h37 => ?_)
      refine ax_icmp_eq B 887 d_Law_law_255 (by decide) ?_ ?_
      · refine ax_sub (tv2 := [(0, ax_A x0), (1, ax_A x1), (2, ax_A x2), (3, ax_A x3), (4, ax_I x4)]) [0, 1, 2, 3, 4] rfl ?_
        exact Law_law_jq887 hcall B E Nm k23 hk23 x0 x1 x2 x3 x4 h37
      · refine ax_iconst (v := 0) B d_Law_law_258 (by decide) ?_
        exact ax_zreturn B d_Law_law_259
    refine ⟨_, _, rfl, ⟨260, by decide, ?_⟩, ?_⟩
    · refine ax_aload_n B 1 d_Law_law_260 rfl rfl ?_
      refine ax_aload_n B 0 d_Law_law_261 rfl rfl ?_
      refine ax_iload B 4 d_Law_law_262 rfl ?_
      refine ax_iconst (v := 1) B d_Law_law_264 (by decide) ?_
      refine ax_iadd B d_Law_law_265 ?_
      refine ax_iald (kd := 0) B (by decide) rfl d_Law_law_266 (fun v39 => ?_)
      refine ax_aload_n B 0 d_Law_law_267 rfl rfl ?_
      refine ax_iload B 4 d_Law_law_268 rfl ?_
      refine ax_iconst (v := 2) B d_Law_law_270 (by decide) ?_
      refine ax_iadd B d_Law_law_271 ?_
      refine ax_iald (kd := 0) B (by decide) rfl d_Law_law_272 (fun v40 => ?_)
      refine ax_callSWi (av := [ax_A x1, ax_I v39, ax_I v40]) (rest := []) B E hm_Law_mode wd_147 lk_Law_74 d_Law_law_273 rfl (Nat.le_of_ble_eq_true rfl) (fun _ _ hh => hcall 14 _ _ _ _ hh) (fun v42 h41 => ?_)
      refine ax_istore (tv2 := [(5, ax_I v42), (0, ax_A x0), (1, ax_A x1), (2, ax_A x2), (3, ax_A x3), (4, ax_I x4)]) B d_Law_law_276 (by decide) rfl ?_
      refine ax_aload_n B 3 d_Law_law_278 rfl rfl ?_
      refine ax_aload_n B 1 d_Law_law_279 rfl rfl ?_
      refine ax_iload B 5 d_Law_law_280 rfl ?_
      refine ax_iconst (v := 1) B d_Law_law_282 (by decide) ?_
      refine ax_iadd B d_Law_law_283 ?_
      refine ax_iald (kd := 0) B (by decide) rfl d_Law_law_284 (fun v43 => ?_)
      refine ax_aload_n B 1 d_Law_law_285 rfl rfl ?_
      refine ax_iload B 5 d_Law_law_286 rfl ?_
      refine ax_iconst (v := 2) B d_Law_law_288 (by decide) ?_
      refine ax_iadd B d_Law_law_289 ?_
      refine ax_iald (kd := 0) B (by decide) rfl d_Law_law_290 (fun v44 => ?_)
      refine ax_callVv (av := [ax_I v43, ax_I v44]) (rest := []) B E hm_Model_mode cl_Model rfl wd_1072 wd_1073 lk_Law_79 d_Law_law_291 rfl (Nat.le_of_ble_eq_true rfl) (fun _ _ hh => hcall 149 _ _ _ _ hh) (fun h45 => ?_)
      refine ax_aload_n B 3 d_Law_law_294 rfl rfl ?_
      refine ax_callVi (av := []) (rest := []) B E hm_Model_thrown cl_Model rfl wd_1051 wd_1052 lk_Law_80 d_Law_law_295 rfl (Nat.le_of_ble_eq_true rfl) (fun _ _ hh => hcall 144 _ _ _ _ hh) (fun v48 h47 => ?_)
      refine ax_iload B 0 d_Law_law_298 rfl ?_
      refine ax_icmp_eq B 305 d_Law_law_300 (by decide) ?_ ?_
      · refine ax_goto B 887 d_Law_law_305 (by decide) ?_
        refine ax_sub (tv2 := [(0, ax_A x0), (1, ax_A x1), (2, ax_A x2), (3, ax_A x3), (4, ax_I x4)]) [1, 2, 3, 4, 5] rfl ?_
        exact Law_law_jq887 hcall B E Nm k23 hk23 x0 x1 x2 x3 x4 h47
      · refine ax_iconst (v := 0) B d_Law_law_303 (by decide) ?_
        exact ax_zreturn B d_Law_law_304
    refine ⟨_, _, rfl, ⟨308, by decide, ?_⟩, ?_⟩
    · refine ax_aload_n B 1 d_Law_law_308 rfl rfl ?_
      refine ax_aload_n B 0 d_Law_law_309 rfl rfl ?_
      refine ax_iload B 4 d_Law_law_310 rfl ?_
      refine ax_iconst (v := 1) B d_Law_law_312 (by decide) ?_
      refine ax_iadd B d_Law_law_313 ?_
      refine ax_iald (kd := 0) B (by decide) rfl d_Law_law_314 (fun v49 => ?_)
      refine ax_aload_n B 3 d_Law_law_315 rfl rfl ?_
      refine ax_callSWi (av := [ax_A x1, ax_I v49, ax_A x3]) (rest := []) B E hm_Law_register wd_226 lk_Law_83 d_Law_law_316 rfl (Nat.le_of_ble_eq_true rfl) (fun _ _ hh => hcall 18 _ _ _ _ hh) (fun v51 h50 => ?_)
      refine ax_istore (tv2 := [(5, ax_I v51), (0, ax_A x0), (1, ax_A x1), (2, ax_A x2), (3, ax_A x3), (4, ax_I x4)]) B d_Law_law_319 (by decide) rfl ?_
      refine ax_aload_n B 3 d_Law_law_321 rfl rfl ?_
      refine ax_aload_n B 1 d_Law_law_322 rfl rfl ?_
      refine ax_iload B 5 d_Law_law_323 rfl ?_
      refine ax_iconst (v := 1) B d_Law_law_325 (by decide) ?_
      refine ax_iadd B d_Law_law_326 ?_
      refine ax_iald (kd := 0) B (by decide) rfl d_Law_law_327 (fun v52 => ?_)
      refine ax_callVi (av := [ax_I v52]) (rest := []) B E hm_Model_register cl_Model rfl wd_1079 wd_1080 lk_Law_86 d_Law_law_328 rfl (Nat.le_of_ble_eq_true rfl) (fun _ _ hh => hcall 151 _ _ _ _ hh) (fun v54 h53 => ?_)
      refine ax_istore (tv2 := [(6, ax_I v54), (5, ax_I v51), (0, ax_A x0), (1, ax_A x1), (2, ax_A x2), (3, ax_A x3), (4, ax_I x4)]) B d_Law_law_331 (by decide) rfl ?_
      refine ax_aload_n B 4 d_Law_law_333 rfl rfl ?_
      refine ax_callVi (av := []) (rest := []) B E hm_Model_thrown cl_Model rfl wd_1051 wd_1052 lk_Law_80 d_Law_law_334 rfl (Nat.le_of_ble_eq_true rfl) (fun _ _ hh => hcall 144 _ _ _ _ hh) (fun v56 h55 => ?_)
      refine ax_iload B 1 d_Law_law_337 rfl ?_
      refine ax_icmp_eq B 344 d_Law_law_339 (by decide) ?_ ?_
      · refine ax_iload B 1 d_Law_law_344 rfl ?_
        refine ax_if_ne B 361 d_Law_law_346 (by decide) ?_ ?_
        · refine ax_sub (tv2 := [(0, ax_A x0), (1, ax_A x1), (2, ax_A x2), (3, ax_A x3), (4, ax_I x4)]) [2, 3, 4, 5, 6] rfl ?_
          exact Law_law_jq361 hcall B E Nm k23 hk23 x0 x1 x2 x3 x4 h55
        · refine ax_aload_n B 5 d_Law_law_349 rfl rfl ?_
          refine ax_iconst (v := 0) B d_Law_law_350 (by decide) ?_
          refine ax_lald (kd := 2) B (by decide) rfl d_Law_law_351 (fun v57 => ?_)
          refine ax_iload B 0 d_Law_law_352 rfl ?_
          refine ax_i2l B d_Law_law_354 ?_
          refine ax_lcmp B d_Law_law_355 ?_
          refine ax_if_eq B 361 d_Law_law_356 (by decide) ?_ ?_
          · refine ax_sub (tv2 := [(0, ax_A x0), (1, ax_A x1), (2, ax_A x2), (3, ax_A x3), (4, ax_I x4)]) [2, 3, 4, 5, 6] rfl ?_
            exact Law_law_jq361 hcall B E Nm k23 hk23 x0 x1 x2 x3 x4 h55
          · refine ax_iconst (v := 0) B d_Law_law_359 (by decide) ?_
            exact ax_zreturn B d_Law_law_360
      · refine ax_iconst (v := 0) B d_Law_law_342 (by decide) ?_
        exact ax_zreturn B d_Law_law_343
    refine ⟨_, _, rfl, ⟨364, by decide, ?_⟩, ?_⟩
    · refine ax_aload_n B 1 d_Law_law_364 rfl rfl ?_
      refine ax_aload_n B 0 d_Law_law_365 rfl rfl ?_
      refine ax_iload B 4 d_Law_law_366 rfl ?_
      refine ax_iconst (v := 1) B d_Law_law_368 (by decide) ?_
      refine ax_iadd B d_Law_law_369 ?_
      refine ax_iald (kd := 0) B (by decide) rfl d_Law_law_370 (fun v58 => ?_)
      refine ax_aload_n B 3 d_Law_law_371 rfl rfl ?_
      refine ax_callSWi (av := [ax_A x1, ax_I v58, ax_A x3]) (rest := []) B E hm_Law_versions wd_590 lk_Law_87 d_Law_law_372 rfl (Nat.le_of_ble_eq_true rfl) (fun _ _ hh => hcall 89 _ _ _ _ hh) (fun v60 h59 => ?_)
      refine ax_istore (tv2 := [(5, ax_I v60), (0, ax_A x0), (1, ax_A x1), (2, ax_A x2), (3, ax_A x3), (4, ax_I x4)]) B d_Law_law_375 (by decide) rfl ?_
      refine ax_aload_n B 3 d_Law_law_377 rfl rfl ?_
      refine ax_aload_n B 1 d_Law_law_378 rfl rfl ?_
      refine ax_iload B 5 d_Law_law_379 rfl ?_
      refine ax_iconst (v := 1) B d_Law_law_381 (by decide) ?_
      refine ax_iadd B d_Law_law_382 ?_
      refine ax_iald (kd := 0) B (by decide) rfl d_Law_law_383 (fun v61 => ?_)
      refine ax_callVi (av := [ax_I v61]) (rest := []) B E hm_Model_versions cl_Model rfl wd_1220 wd_1221 lk_Law_89 d_Law_law_384 rfl (Nat.le_of_ble_eq_true rfl) (fun _ _ hh => hcall 185 _ _ _ _ hh) (fun v63 h62 => ?_)
      refine ax_istore (tv2 := [(6, ax_I v63), (5, ax_I v60), (0, ax_A x0), (1, ax_A x1), (2, ax_A x2), (3, ax_A x3), (4, ax_I x4)]) B d_Law_law_387 (by decide) rfl ?_
      refine ax_aload_n B 4 d_Law_law_389 rfl rfl ?_
      refine ax_callVi (av := []) (rest := []) B E hm_Model_thrown cl_Model rfl wd_1051 wd_1052 lk_Law_80 d_Law_law_390 rfl (Nat.le_of_ble_eq_true rfl) (fun _ _ hh => hcall 144 _ _ _ _ hh) (fun v65 h64 => ?_)
      refine ax_iload B 1 d_Law_law_393 rfl ?_
      refine ax_icmp_eq B 400 d_Law_law_395 (by decide) ?_ ?_
      · refine ax_iload B 1 d_Law_law_400 rfl ?_
        refine ax_if_ne B 417 d_Law_law_402 (by decide) ?_ ?_
        · refine ax_sub (tv2 := [(0, ax_A x0), (1, ax_A x1), (2, ax_A x2), (3, ax_A x3), (4, ax_I x4)]) [2, 3, 4, 5, 6] rfl ?_
          exact Law_law_jq417 hcall B E Nm k23 hk23 x0 x1 x2 x3 x4 h64
        · refine ax_aload_n B 5 d_Law_law_405 rfl rfl ?_
          refine ax_iconst (v := 0) B d_Law_law_406 (by decide) ?_
          refine ax_lald (kd := 2) B (by decide) rfl d_Law_law_407 (fun v66 => ?_)
          refine ax_iload B 0 d_Law_law_408 rfl ?_
          refine ax_i2l B d_Law_law_410 ?_
          refine ax_lcmp B d_Law_law_411 ?_
          refine ax_if_eq B 417 d_Law_law_412 (by decide) ?_ ?_
          · refine ax_sub (tv2 := [(0, ax_A x0), (1, ax_A x1), (2, ax_A x2), (3, ax_A x3), (4, ax_I x4)]) [2, 3, 4, 5, 6] rfl ?_
            exact Law_law_jq417 hcall B E Nm k23 hk23 x0 x1 x2 x3 x4 h64
          · refine ax_iconst (v := 0) B d_Law_law_415 (by decide) ?_
            exact ax_zreturn B d_Law_law_416
      · refine ax_iconst (v := 0) B d_Law_law_398 (by decide) ?_
        exact ax_zreturn B d_Law_law_399
    refine ⟨_, _, rfl, ⟨420, by decide, ?_⟩, ?_⟩
    · refine ax_aload_n B 1 d_Law_law_420 rfl rfl ?_
      refine ax_aload_n B 0 d_Law_law_421 rfl rfl ?_
      refine ax_iload B 4 d_Law_law_422 rfl ?_
      refine ax_iconst (v := 1) B d_Law_law_424 (by decide) ?_
      refine ax_iadd B d_Law_law_425 ?_
      refine ax_iald (kd := 0) B (by decide) rfl d_Law_law_426 (fun v67 => ?_)
      refine ax_aload_n B 0 d_Law_law_427 rfl rfl ?_
      refine ax_iload B 4 d_Law_law_428 rfl ?_
      refine ax_iconst (v := 2) B d_Law_law_430 (by decide) ?_
      refine ax_iadd B d_Law_law_431 ?_
      refine ax_iald (kd := 0) B (by decide) rfl d_Law_law_432 (fun v68 => ?_)
      refine ax_aload_n B 0 d_Law_law_433 rfl rfl ?_
      refine ax_iload B 4 d_Law_law_434 rfl ?_
      refine ax_iconst (v := 3) B d_Law_law_436 (by decide) ?_
      refine ax_iadd B d_Law_law_437 ?_
      refine ax_iald (kd := 0) B (by decide) rfl d_Law_law_438 (fun v69 => ?_)
      refine ax_aload_n B 3 d_Law_law_439 rfl rfl ?_
      refine ax_callSWi (av := [ax_A x1, ax_I v67, ax_I v68, ax_I v69, ax_A x3]) (rest := []) B E hm_Law_reads wd_601 lk_Law_90 d_Law_law_440 rfl (Nat.le_of_ble_eq_true rfl) (fun _ _ hh => hcall 92 _ _ _ _ hh) (fun v71 h70 => ?_)
      refine ax_istore (tv2 := [(5, ax_I v71), (0, ax_A x0), (1, ax_A x1), (2, ax_A x2), (3, ax_A x3), (4, ax_I x4)]) B d_Law_law_443 (by decide) rfl ?_
      refine ax_aload_n B 3 d_Law_law_445 rfl rfl ?_
      refine ax_aload_n B 1 d_Law_law_446 rfl rfl ?_
      refine ax_iload B 5 d_Law_law_447 rfl ?_
      refine ax_iconst (v := 1) B d_Law_law_449 (by decide) ?_
      refine ax_iadd B d_Law_law_450 ?_
      refine ax_iald (kd := 0) B (by decide) rfl d_Law_law_451 (fun v72 => ?_)
      refine ax_aload_n B 1 d_Law_law_452 rfl rfl ?_
      refine ax_iload B 5 d_Law_law_453 rfl ?_
      refine ax_iconst (v := 2) B d_Law_law_455 (by decide) ?_
      refine ax_iadd B d_Law_law_456 ?_
      refine ax_iald (kd := 0) B (by decide) rfl d_Law_law_457 (fun v73 => ?_)
      refine ax_aload_n B 1 d_Law_law_458 rfl rfl ?_
      refine ax_iload B 5 d_Law_law_459 rfl ?_
      refine ax_iconst (v := 3) B d_Law_law_461 (by decide) ?_
      refine ax_iadd B d_Law_law_462 ?_
      refine ax_iald (kd := 0) B (by decide) rfl d_Law_law_463 (fun v74 => ?_)
      refine ax_callVi (av := [ax_I v72, ax_I v73, ax_I v74]) (rest := []) B E hm_Model_reads cl_Model rfl wd_1224 wd_1225 lk_Law_93 d_Law_law_464 rfl (Nat.le_of_ble_eq_true rfl) (fun _ _ hh => hcall 186 _ _ _ _ hh) (fun v76 h75 => ?_)
      refine ax_istore (tv2 := [(6, ax_I v76), (5, ax_I v71), (0, ax_A x0), (1, ax_A x1), (2, ax_A x2), (3, ax_A x3), (4, ax_I x4)]) B d_Law_law_467 (by decide) rfl ?_
      refine ax_aload_n B 4 d_Law_law_469 rfl rfl ?_
      refine ax_callVi (av := []) (rest := []) B E hm_Model_thrown cl_Model rfl wd_1051 wd_1052 lk_Law_80 d_Law_law_470 rfl (Nat.le_of_ble_eq_true rfl) (fun _ _ hh => hcall 144 _ _ _ _ hh) (fun v78 h77 => ?_)
      refine ax_iload B 1 d_Law_law_473 rfl ?_
      refine ax_icmp_eq B 480 d_Law_law_475 (by decide) ?_ ?_
      · refine ax_iload B 1 d_Law_law_480 rfl ?_
        refine ax_if_ne B 504 d_Law_law_482 (by decide) ?_ ?_
        · refine ax_sub (tv2 := [(0, ax_A x0), (1, ax_A x1), (2, ax_A x2), (3, ax_A x3), (4, ax_I x4)]) [2, 3, 4, 5, 6] rfl ?_
          exact Law_law_jq504 hcall B E Nm k23 hk23 x0 x1 x2 x3 x4 h77
        · refine ax_aload_n B 5 d_Law_law_485 rfl rfl ?_
          refine ax_iconst (v := 0) B d_Law_law_486 (by decide) ?_
          refine ax_lald (kd := 2) B (by decide) rfl d_Law_law_487 (fun v79 => ?_)
          refine ax_iload B 0 d_Law_law_488 rfl ?_
          refine ax_if_eq B 497 d_Law_law_490 (by decide) ?_ ?_
          · refine ax_lconst (v := 0) B d_Law_law_497 (by decide) ?_
            refine ax_sub (tv2 := [(0, ax_A x0), (1, ax_A x1), (2, ax_A x2), (3, ax_A x3), (4, ax_I x4)]) [2, 3, 4, 5, 6] rfl ?_
            exact Law_law_jq498 hcall B E Nm k23 hk23 x0 x1 x2 x3 x4 0 v79 h77
          · refine ax_lconst (v := 1) B d_Law_law_493 (by decide) ?_
            refine ax_goto B 498 d_Law_law_494 (by decide) ?_
            refine ax_sub (tv2 := [(0, ax_A x0), (1, ax_A x1), (2, ax_A x2), (3, ax_A x3), (4, ax_I x4)]) [2, 3, 4, 5, 6] rfl ?_
            exact Law_law_jq498 hcall B E Nm k23 hk23 x0 x1 x2 x3 x4 1 v79 h77
      · refine ax_iconst (v := 0) B d_Law_law_478 (by decide) ?_
        exact ax_zreturn B d_Law_law_479
    refine ⟨_, _, rfl, ⟨507, by decide, ?_⟩, ?_⟩
    · refine ax_aload_n B 1 d_Law_law_507 rfl rfl ?_
      refine ax_aload_n B 0 d_Law_law_508 rfl rfl ?_
      refine ax_iload B 4 d_Law_law_509 rfl ?_
      refine ax_iconst (v := 1) B d_Law_law_511 (by decide) ?_
      refine ax_iadd B d_Law_law_512 ?_
      refine ax_iald (kd := 0) B (by decide) rfl d_Law_law_513 (fun v80 => ?_)
      refine ax_aload_n B 0 d_Law_law_514 rfl rfl ?_
      refine ax_iload B 4 d_Law_law_515 rfl ?_
      refine ax_iconst (v := 2) B d_Law_law_517 (by decide) ?_
      refine ax_iadd B d_Law_law_518 ?_
      refine ax_iald (kd := 0) B (by decide) rfl d_Law_law_519 (fun v81 => ?_)
      refine ax_aload_n B 0 d_Law_law_520 rfl rfl ?_
      refine ax_iload B 4 d_Law_law_521 rfl ?_
      refine ax_iconst (v := 3) B d_Law_law_523 (by decide) ?_
      refine ax_iadd B d_Law_law_524 ?_
      refine ax_iald (kd := 0) B (by decide) rfl d_Law_law_525 (fun v82 => ?_)
      refine ax_if_eq B 533 d_Law_law_526 (by decide) ?_ ?_
      · refine ax_iconst (v := 0) B d_Law_law_533 (by decide) ?_
        refine ax_sub (tv2 := [(0, ax_A x0), (1, ax_A x1), (2, ax_A x2), (3, ax_A x3), (4, ax_I x4)]) [0, 1, 2, 3, 4] rfl ?_
        exact Law_law_jq534 hcall B E Nm k23 hk23 x0 x1 x2 x3 x4 0 v81 v80 x1 h
      · refine ax_iconst (v := 1) B d_Law_law_529 (by decide) ?_
        refine ax_goto B 534 d_Law_law_530 (by decide) ?_
        refine ax_sub (tv2 := [(0, ax_A x0), (1, ax_A x1), (2, ax_A x2), (3, ax_A x3), (4, ax_I x4)]) [0, 1, 2, 3, 4] rfl ?_
        exact Law_law_jq534 hcall B E Nm k23 hk23 x0 x1 x2 x3 x4 1 v81 v80 x1 h
    refine ⟨_, _, rfl, ⟨603, by decide, ?_⟩, ?_⟩
    · refine ax_aload_n B 1 d_Law_law_603 rfl rfl ?_
      refine ax_aload_n B 0 d_Law_law_604 rfl rfl ?_
      refine ax_iload B 4 d_Law_law_605 rfl ?_
      refine ax_iconst (v := 1) B d_Law_law_607 (by decide) ?_
      refine ax_iadd B d_Law_law_608 ?_
      refine ax_iald (kd := 0) B (by decide) rfl d_Law_law_609 (fun v93 => ?_)
      refine ax_aload_n B 0 d_Law_law_610 rfl rfl ?_
      refine ax_iload B 4 d_Law_law_611 rfl ?_
      refine ax_iconst (v := 2) B d_Law_law_613 (by decide) ?_
      refine ax_iadd B d_Law_law_614 ?_
      refine ax_iald (kd := 0) B (by decide) rfl d_Law_law_615 (fun v94 => ?_)
      refine ax_aload_n B 3 d_Law_law_616 rfl rfl ?_
      refine ax_callSWi (av := [ax_A x1, ax_I v93, ax_I v94, ax_A x3]) (rest := []) B E hm_Law_fingerprint wd_638 lk_Law_98 d_Law_law_617 rfl (Nat.le_of_ble_eq_true rfl) (fun _ _ hh => hcall 101 _ _ _ _ hh) (fun v96 h95 => ?_)
      refine ax_istore (tv2 := [(5, ax_I v96), (0, ax_A x0), (1, ax_A x1), (2, ax_A x2), (3, ax_A x3), (4, ax_I x4)]) B d_Law_law_620 (by decide) rfl ?_
      refine ax_aload_n B 3 d_Law_law_622 rfl rfl ?_
      refine ax_aload_n B 1 d_Law_law_623 rfl rfl ?_
      refine ax_iload B 5 d_Law_law_624 rfl ?_
      refine ax_iconst (v := 1) B d_Law_law_626 (by decide) ?_
      refine ax_iadd B d_Law_law_627 ?_
      refine ax_iald (kd := 0) B (by decide) rfl d_Law_law_628 (fun v97 => ?_)
      refine ax_aload_n B 1 d_Law_law_629 rfl rfl ?_
      refine ax_iload B 5 d_Law_law_630 rfl ?_
      refine ax_iconst (v := 2) B d_Law_law_632 (by decide) ?_
      refine ax_iadd B d_Law_law_633 ?_
      refine ax_iald (kd := 0) B (by decide) rfl d_Law_law_634 (fun v98 => ?_)
      refine ax_callVl (av := [ax_I v97, ax_I v98]) (rest := []) B E hm_Model_fingerprint cl_Model rfl wd_1244 wd_1245 lk_Law_101 d_Law_law_635 rfl (Nat.le_of_ble_eq_true rfl) (fun _ _ hh => hcall 191 _ _ _ _ hh) (fun v100 h99 => ?_)
      refine ax_lstore (tv2 := [(6, ax_L v100), (5, ax_I v96), (0, ax_A x0), (1, ax_A x1), (2, ax_A x2), (3, ax_A x3), (4, ax_I x4)]) B d_Law_law_638 (by decide) rfl ?_
      refine ax_aload_n B 4 d_Law_law_640 rfl rfl ?_
      refine ax_callVi (av := []) (rest := []) B E hm_Model_thrown cl_Model rfl wd_1051 wd_1052 lk_Law_80 d_Law_law_641 rfl (Nat.le_of_ble_eq_true rfl) (fun _ _ hh => hcall 144 _ _ _ _ hh) (fun v102 h101 => ?_)
      refine ax_iload B 1 d_Law_law_644 rfl ?_
      refine ax_icmp_eq B 651 d_Law_law_646 (by decide) ?_ ?_
      · refine ax_iload B 1 d_Law_law_651 rfl ?_
        refine ax_if_ne B 667 d_Law_law_653 (by decide) ?_ ?_
        · refine ax_sub (tv2 := [(0, ax_A x0), (1, ax_A x1), (2, ax_A x2), (3, ax_A x3), (4, ax_I x4)]) [2, 3, 4, 5, 6] rfl ?_
          exact Law_law_jq667 hcall B E Nm k23 hk23 x0 x1 x2 x3 x4 h101
        · refine ax_aload_n B 5 d_Law_law_656 rfl rfl ?_
          refine ax_iconst (v := 0) B d_Law_law_657 (by decide) ?_
          refine ax_lald (kd := 2) B (by decide) rfl d_Law_law_658 (fun v103 => ?_)
          refine ax_lload B 0 d_Law_law_659 rfl ?_
          refine ax_lcmp B d_Law_law_661 ?_
          refine ax_if_eq B 667 d_Law_law_662 (by decide) ?_ ?_
          · refine ax_sub (tv2 := [(0, ax_A x0), (1, ax_A x1), (2, ax_A x2), (3, ax_A x3), (4, ax_I x4)]) [2, 3, 4, 5, 6] rfl ?_
            exact Law_law_jq667 hcall B E Nm k23 hk23 x0 x1 x2 x3 x4 h101
          · refine ax_iconst (v := 0) B d_Law_law_665 (by decide) ?_
            exact ax_zreturn B d_Law_law_666
      · refine ax_iconst (v := 0) B d_Law_law_649 (by decide) ?_
        exact ax_zreturn B d_Law_law_650
    refine ⟨_, _, rfl, ⟨670, by decide, ?_⟩, ?_⟩
    · refine ax_aload_n B 1 d_Law_law_670 rfl rfl ?_
      refine ax_aload_n B 0 d_Law_law_671 rfl rfl ?_
      refine ax_iload B 4 d_Law_law_672 rfl ?_
      refine ax_iconst (v := 1) B d_Law_law_674 (by decide) ?_
      refine ax_iadd B d_Law_law_675 ?_
      refine ax_iald (kd := 0) B (by decide) rfl d_Law_law_676 (fun v104 => ?_)
      refine ax_aload_n B 0 d_Law_law_677 rfl rfl ?_
      refine ax_iload B 4 d_Law_law_678 rfl ?_
      refine ax_iconst (v := 2) B d_Law_law_680 (by decide) ?_
      refine ax_iadd B d_Law_law_681 ?_
      refine ax_iald (kd := 0) B (by decide) rfl d_Law_law_682 (fun v105 => ?_)
      refine ax_aload_n B 3 d_Law_law_683 rfl rfl ?_
      refine ax_callSWi (av := [ax_A x1, ax_I v104, ax_I v105, ax_A x3]) (rest := []) B E hm_Law_encode wd_651 lk_Law_102 d_Law_law_684 rfl (Nat.le_of_ble_eq_true rfl) (fun _ _ hh => hcall 104 _ _ _ _ hh) (fun v107 h106 => ?_)
      refine ax_istore (tv2 := [(5, ax_I v107), (0, ax_A x0), (1, ax_A x1), (2, ax_A x2), (3, ax_A x3), (4, ax_I x4)]) B d_Law_law_687 (by decide) rfl ?_
      refine ax_aload_n B 3 d_Law_law_689 rfl rfl ?_
      refine ax_aload_n B 1 d_Law_law_690 rfl rfl ?_
      refine ax_iload B 5 d_Law_law_691 rfl ?_
      refine ax_iconst (v := 1) B d_Law_law_693 (by decide) ?_
      refine ax_iadd B d_Law_law_694 ?_
      refine ax_iald (kd := 0) B (by decide) rfl d_Law_law_695 (fun v108 => ?_)
      refine ax_aload_n B 1 d_Law_law_696 rfl rfl ?_
      refine ax_iload B 5 d_Law_law_697 rfl ?_
      refine ax_iconst (v := 2) B d_Law_law_699 (by decide) ?_
      refine ax_iadd B d_Law_law_700 ?_
      refine ax_iald (kd := 0) B (by decide) rfl d_Law_law_701 (fun v109 => ?_)
      refine ax_callVi (av := [ax_I v108, ax_I v109]) (rest := []) B E hm_Model_encode cl_Model rfl wd_1249 wd_1250 lk_Law_104 d_Law_law_702 rfl (Nat.le_of_ble_eq_true rfl) (fun _ _ hh => hcall 192 _ _ _ _ hh) (fun v111 h110 => ?_)
      refine ax_istore (tv2 := [(6, ax_I v111), (5, ax_I v107), (0, ax_A x0), (1, ax_A x1), (2, ax_A x2), (3, ax_A x3), (4, ax_I x4)]) B d_Law_law_705 (by decide) rfl ?_
      refine ax_aload_n B 4 d_Law_law_707 rfl rfl ?_
      refine ax_callVi (av := []) (rest := []) B E hm_Model_thrown cl_Model rfl wd_1051 wd_1052 lk_Law_80 d_Law_law_708 rfl (Nat.le_of_ble_eq_true rfl) (fun _ _ hh => hcall 144 _ _ _ _ hh) (fun v113 h112 => ?_)
      refine ax_iload B 1 d_Law_law_711 rfl ?_
      refine ax_icmp_eq B 718 d_Law_law_713 (by decide) ?_ ?_
      · refine ax_iload B 1 d_Law_law_718 rfl ?_
        refine ax_if_ne B 735 d_Law_law_720 (by decide) ?_ ?_
        · refine ax_sub (tv2 := [(0, ax_A x0), (1, ax_A x1), (2, ax_A x2), (3, ax_A x3), (4, ax_I x4)]) [2, 3, 4, 5, 6] rfl ?_
          exact Law_law_jq735 hcall B E Nm k23 hk23 x0 x1 x2 x3 x4 h112
        · refine ax_aload_n B 5 d_Law_law_723 rfl rfl ?_
          refine ax_iconst (v := 0) B d_Law_law_724 (by decide) ?_
          refine ax_lald (kd := 2) B (by decide) rfl d_Law_law_725 (fun v114 => ?_)
          refine ax_iload B 0 d_Law_law_726 rfl ?_
          refine ax_i2l B d_Law_law_728 ?_
          refine ax_lcmp B d_Law_law_729 ?_
          refine ax_if_eq B 735 d_Law_law_730 (by decide) ?_ ?_
          · refine ax_sub (tv2 := [(0, ax_A x0), (1, ax_A x1), (2, ax_A x2), (3, ax_A x3), (4, ax_I x4)]) [2, 3, 4, 5, 6] rfl ?_
            exact Law_law_jq735 hcall B E Nm k23 hk23 x0 x1 x2 x3 x4 h112
          · refine ax_iconst (v := 0) B d_Law_law_733 (by decide) ?_
            exact ax_zreturn B d_Law_law_734
      · refine ax_iconst (v := 0) B d_Law_law_716 (by decide) ?_
        exact ax_zreturn B d_Law_law_717
    refine ⟨_, _, rfl, ⟨738, by decide, ?_⟩, ?_⟩
    · refine ax_aload_n B 1 d_Law_law_738 rfl rfl ?_
      refine ax_aload_n B 0 d_Law_law_739 rfl rfl ?_
      refine ax_iload B 4 d_Law_law_740 rfl ?_
      refine ax_iconst (v := 1) B d_Law_law_742 (by decide) ?_
      refine ax_iadd B d_Law_law_743 ?_
      refine ax_iald (kd := 0) B (by decide) rfl d_Law_law_744 (fun v115 => ?_)
      refine ax_aload_n B 0 d_Law_law_745 rfl rfl ?_
      refine ax_iload B 4 d_Law_law_746 rfl ?_
      refine ax_iconst (v := 2) B d_Law_law_748 (by decide) ?_
      refine ax_iadd B d_Law_law_749 ?_
      refine ax_iald (kd := 0) B (by decide) rfl d_Law_law_750 (fun v116 => ?_)
      refine ax_aload_n B 0 d_Law_law_751 rfl rfl ?_
      refine ax_iload B 4 d_Law_law_752 rfl ?_
      refine ax_iconst (v := 3) B d_Law_law_754 (by decide) ?_
      refine ax_iadd B d_Law_law_755 ?_
      refine ax_iald (kd := 0) B (by decide) rfl d_Law_law_756 (fun v117 => ?_)
      refine ax_aload_n B 3 d_Law_law_757 rfl rfl ?_
      refine ax_callSWi (av := [ax_A x1, ax_I v115, ax_I v116, ax_I v117, ax_A x3]) (rest := []) B E hm_Law_decode wd_664 lk_Law_105 d_Law_law_758 rfl (Nat.le_of_ble_eq_true rfl) (fun _ _ hh => hcall 107 _ _ _ _ hh) (fun v119 h118 => ?_)
      refine ax_istore (tv2 := [(5, ax_I v119), (0, ax_A x0), (1, ax_A x1), (2, ax_A x2), (3, ax_A x3), (4, ax_I x4)]) B d_Law_law_761 (by decide) rfl ?_
      refine ax_aload_n B 3 d_Law_law_763 rfl rfl ?_
      refine ax_aload_n B 1 d_Law_law_764 rfl rfl ?_
      refine ax_iload B 5 d_Law_law_765 rfl ?_
      refine ax_iconst (v := 1) B d_Law_law_767 (by decide) ?_
      refine ax_iadd B d_Law_law_768 ?_
      refine ax_iald (kd := 0) B (by decide) rfl d_Law_law_769 (fun v120 => ?_)
      refine ax_aload_n B 1 d_Law_law_770 rfl rfl ?_
      refine ax_iload B 5 d_Law_law_771 rfl ?_
      refine ax_iconst (v := 2) B d_Law_law_773 (by decide) ?_
      refine ax_iadd B d_Law_law_774 ?_
      refine ax_iald (kd := 0) B (by decide) rfl d_Law_law_775 (fun v121 => ?_)
      refine ax_aload_n B 1 d_Law_law_776 rfl rfl ?_
      refine ax_iload B 5 d_Law_law_777 rfl ?_
      refine ax_iconst (v := 3) B d_Law_law_779 (by decide) ?_
      refine ax_iadd B d_Law_law_780 ?_
      refine ax_iald (kd := 0) B (by decide) rfl d_Law_law_781 (fun v122 => ?_)
      refine ax_callVi (av := [ax_I v120, ax_I v121, ax_I v122]) (rest := []) B E hm_Model_decode cl_Model rfl wd_1253 wd_1254 lk_Law_107 d_Law_law_782 rfl (Nat.le_of_ble_eq_true rfl) (fun _ _ hh => hcall 193 _ _ _ _ hh) (fun v124 h123 => ?_)
      refine ax_istore (tv2 := [(6, ax_I v124), (5, ax_I v119), (0, ax_A x0), (1, ax_A x1), (2, ax_A x2), (3, ax_A x3), (4, ax_I x4)]) B d_Law_law_785 (by decide) rfl ?_
      refine ax_aload_n B 4 d_Law_law_787 rfl rfl ?_
      refine ax_callVi (av := []) (rest := []) B E hm_Model_thrown cl_Model rfl wd_1051 wd_1052 lk_Law_80 d_Law_law_788 rfl (Nat.le_of_ble_eq_true rfl) (fun _ _ hh => hcall 144 _ _ _ _ hh) (fun v126 h125 => ?_)
      refine ax_iload B 1 d_Law_law_791 rfl ?_
      refine ax_icmp_eq B 798 d_Law_law_793 (by decide) ?_ ?_
      · refine ax_iload B 1 d_Law_law_798 rfl ?_
        refine ax_if_ne B 815 d_Law_law_800 (by decide) ?_ ?_
        · refine ax_sub (tv2 := [(0, ax_A x0), (1, ax_A x1), (2, ax_A x2), (3, ax_A x3), (4, ax_I x4)]) [2, 3, 4, 5, 6] rfl ?_
          exact Law_law_jq815 hcall B E Nm k23 hk23 x0 x1 x2 x3 x4 h125
        · refine ax_aload_n B 5 d_Law_law_803 rfl rfl ?_
          refine ax_iconst (v := 0) B d_Law_law_804 (by decide) ?_
          refine ax_lald (kd := 2) B (by decide) rfl d_Law_law_805 (fun v127 => ?_)
          refine ax_iload B 0 d_Law_law_806 rfl ?_
          refine ax_i2l B d_Law_law_808 ?_
          refine ax_lcmp B d_Law_law_809 ?_
          refine ax_if_eq B 815 d_Law_law_810 (by decide) ?_ ?_
          · refine ax_sub (tv2 := [(0, ax_A x0), (1, ax_A x1), (2, ax_A x2), (3, ax_A x3), (4, ax_I x4)]) [2, 3, 4, 5, 6] rfl ?_
            exact Law_law_jq815 hcall B E Nm k23 hk23 x0 x1 x2 x3 x4 h125
          · refine ax_iconst (v := 0) B d_Law_law_813 (by decide) ?_
            exact ax_zreturn B d_Law_law_814
      · refine ax_iconst (v := 0) B d_Law_law_796 (by decide) ?_
        exact ax_zreturn B d_Law_law_797
    refine ⟨_, _, rfl, ⟨818, by decide, ?_⟩, ?_⟩
    · refine ax_aload_n B 1 d_Law_law_818 rfl rfl ?_
      refine ax_callVi (av := []) (rest := []) B E hm_Desk_place cl_Desk rfl wd_143 wd_144 lk_Law_108 d_Law_law_819 rfl (Nat.le_of_ble_eq_true rfl) (fun _ _ hh => hcall 13 _ _ _ _ hh) (fun v129 h128 => ?_)
      refine ax_aload_n B 2 d_Law_law_822 rfl rfl ?_
      refine ax_callVi (av := []) (rest := [ax_I v129]) B E hm_Model_place cl_Model rfl wd_1315 wd_1316 lk_Law_111 d_Law_law_823 rfl (Nat.le_of_ble_eq_true rfl) (fun _ _ hh => hcall 208 _ _ _ _ hh) (fun v131 h130 => ?_)
      refine ax_icmp_eq B 887 d_Law_law_826 (by decide) ?_ ?_
      · refine ax_sub (tv2 := [(0, ax_A x0), (1, ax_A x1), (2, ax_A x2), (3, ax_A x3), (4, ax_I x4)]) [0, 1, 2, 3, 4] rfl ?_
        exact Law_law_jq887 hcall B E Nm k23 hk23 x0 x1 x2 x3 x4 h130
      · refine ax_iconst (v := 0) B d_Law_law_829 (by decide) ?_
        exact ax_zreturn B d_Law_law_830
    refine ⟨_, _, rfl, ⟨831, by decide, ?_⟩, ?_⟩
    · refine ax_aload_n B 1 d_Law_law_831 rfl rfl ?_
      refine ax_aload_n B 0 d_Law_law_832 rfl rfl ?_
      refine ax_iload B 4 d_Law_law_833 rfl ?_
      refine ax_iconst (v := 1) B d_Law_law_835 (by decide) ?_
      refine ax_iadd B d_Law_law_836 ?_
      refine ax_iald (kd := 0) B (by decide) rfl d_Law_law_837 (fun v132 => ?_)
      refine ax_aload_n B 3 d_Law_law_838 rfl rfl ?_
      refine ax_callSWi (av := [ax_A x1, ax_I v132, ax_A x3]) (rest := []) B E hm_Law_out wd_868 lk_Law_112 d_Law_law_839 rfl (Nat.le_of_ble_eq_true rfl) (fun _ _ hh => hcall 141 _ _ _ _ hh) (fun v134 h133 => ?_)
      refine ax_istore (tv2 := [(5, ax_I v134), (0, ax_A x0), (1, ax_A x1), (2, ax_A x2), (3, ax_A x3), (4, ax_I x4)]) B d_Law_law_842 (by decide) rfl ?_
      refine ax_aload_n B 3 d_Law_law_844 rfl rfl ?_
      refine ax_aload_n B 1 d_Law_law_845 rfl rfl ?_
      refine ax_iload B 5 d_Law_law_846 rfl ?_
      refine ax_iconst (v := 1) B d_Law_law_848 (by decide) ?_
      refine ax_iadd B d_Law_law_849 ?_
      refine ax_iald (kd := 0) B (by decide) rfl d_Law_law_850 (fun v135 => ?_)
      refine ax_callVi (av := [ax_I v135]) (rest := []) B E hm_Model_out cl_Model rfl wd_1319 wd_1320 lk_Law_114 d_Law_law_851 rfl (Nat.le_of_ble_eq_true rfl) (fun _ _ hh => hcall 209 _ _ _ _ hh) (fun v137 h136 => ?_)
      refine ax_istore (tv2 := [(6, ax_I v137), (5, ax_I v134), (0, ax_A x0), (1, ax_A x1), (2, ax_A x2), (3, ax_A x3), (4, ax_I x4)]) B d_Law_law_854 (by decide) rfl ?_
      refine ax_aload_n B 4 d_Law_law_856 rfl rfl ?_
      refine ax_callVi (av := []) (rest := []) B E hm_Model_thrown cl_Model rfl wd_1051 wd_1052 lk_Law_80 d_Law_law_857 rfl (Nat.le_of_ble_eq_true rfl) (fun _ _ hh => hcall 144 _ _ _ _ hh) (fun v139 h138 => ?_)
      refine ax_iload B 1 d_Law_law_860 rfl ?_
      refine ax_icmp_eq B 867 d_Law_law_862 (by decide) ?_ ?_
      · refine ax_iload B 1 d_Law_law_867 rfl ?_
        refine ax_if_ne B 884 d_Law_law_869 (by decide) ?_ ?_
        · refine ax_sub (tv2 := [(0, ax_A x0), (1, ax_A x1), (2, ax_A x2), (3, ax_A x3), (4, ax_I x4)]) [2, 3, 4, 5, 6] rfl ?_
          exact Law_law_jq884 hcall B E Nm k23 hk23 x0 x1 x2 x3 x4 h138
        · refine ax_aload_n B 5 d_Law_law_872 rfl rfl ?_
          refine ax_iconst (v := 0) B d_Law_law_873 (by decide) ?_
          refine ax_lald (kd := 2) B (by decide) rfl d_Law_law_874 (fun v140 => ?_)
          refine ax_iload B 0 d_Law_law_875 rfl ?_
          refine ax_i2l B d_Law_law_877 ?_
          refine ax_lcmp B d_Law_law_878 ?_
          refine ax_if_eq B 884 d_Law_law_879 (by decide) ?_ ?_
          · refine ax_sub (tv2 := [(0, ax_A x0), (1, ax_A x1), (2, ax_A x2), (3, ax_A x3), (4, ax_I x4)]) [2, 3, 4, 5, 6] rfl ?_
            exact Law_law_jq884 hcall B E Nm k23 hk23 x0 x1 x2 x3 x4 h138
          · refine ax_iconst (v := 0) B d_Law_law_882 (by decide) ?_
            exact ax_zreturn B d_Law_law_883
      · refine ax_iconst (v := 0) B d_Law_law_865 (by decide) ?_
        exact ax_zreturn B d_Law_law_866
    refine ⟨887, by decide, ?_⟩
    refine ax_sub (tv2 := [(0, ax_A x0), (1, ax_A x1), (2, ax_A x2), (3, ax_A x3), (4, ax_I x4)]) [0, 1, 2, 3, 4] rfl ?_
    exact Law_law_jq887 hcall B E Nm k23 hk23 x0 x1 x2 x3 x4 h
theorem Law_law_lq23 {l : Launch} {G : ax_G} {d : Nat} {call : ax_Cf} (hcall : ax_Hc l G d call) {p : Program} {e : Env} {s : State} {mi : MethodId} {args : Array Value} {below : List Frame} {meth : Method} {c : Code} {h0 : ax_Hp} (B : ax_B G p s mi meth c "SchemaDeskLaw" code 8 (some (.boolean))) (E : c.exceptionTable.isEmpty = true) (Nm : meth.name = x.name)   : ∀ (n : Nat) (x0 : Option Nat) (x1 : Option Nat) (x2 : Option Nat) (x3 : Option Nat) (x4 : Int32) (h : ax_Hp), ax_W G p l e s mi args below meth c 8 (d + 1) h0 23 [(0, ax_A x0), (1, ax_A x1), (2, ax_A x2), (3, ax_A x3), (4, ax_I x4)] [] h (Law_law_lp23 call  n x0 x1 x2 x3 x4 h)
  | 0, _, _, _, _, _, _ => ax_none
  | n + 1, x0, x1, x2, x3, x4, h => Law_law_lb23 hcall B E Nm   (Law_law_lq23 hcall B E Nm   n) x0 x1 x2 x3 x4 h
def Law_law_b (call : ax_Cf) (x0 : Option Nat) (h : ax_Hp) : ax_O :=
  ax_nw (ax_new h 8 [ax_A none, ax_A none, ax_A none, ax_A none, ax_A none, ax_A none, ax_A none, ax_I 0]) fun a1 h2 =>
  ax_cv (call 0 [ax_A (some a1)] h2) fun h3 =>
  ax_nw (ax_new h3 9 [ax_I 0, ax_I 0, ax_A none, ax_I 0, ax_A none, ax_I 0, ax_A none, ax_I 0, ax_A none, ax_I 0, ax_A none, ax_A none, ax_A none, ax_A none, ax_A none, ax_A none, ax_A none, ax_A none, ax_A none, ax_A none, ax_A none, ax_A none, ax_A none, ax_A none, ax_A none, ax_A none, ax_I 0, ax_A none, ax_A none, ax_I 0, ax_I 0, ax_I 0, ax_A none, ax_A none, ax_A none, ax_A none, ax_A none, ax_L 0, ax_I 0, ax_I 0, ax_I 0, ax_A none, ax_A none, ax_A none, ax_A none, ax_A none, ax_A none, ax_A none, ax_I 0, ax_I 0]) fun a5 h6 =>
  ax_cv (call 143 [ax_A (some a5)] h6) fun h7 =>
  ax_nw (ax_na h7 2 1 (ax_L 0)) fun a9 h10 =>
  Law_law_lp23 call ax_fuel x0 (some a1) (some a5) (some a9) 0 h10
set_option maxHeartbeats 4000000 in
set_option maxRecDepth 20000 in
theorem Law_law_w {l : Launch} {G : ax_G} {d : Nat} {call : ax_Cf} (hcall : ax_Hc l G d call) {p : Program} {e : Env} {s : State} {mi : MethodId} {args : Array Value} {below : List Frame} {meth : Method} {c : Code} {h0 : ax_Hp} (B : ax_B G p s mi meth c "SchemaDeskLaw" code 8 (some (.boolean))) (E : c.exceptionTable.isEmpty = true) (Nm : meth.name = x.name) (x0 : Option Nat) (h : ax_Hp) : ax_W G p l e s mi args below meth c 8 (d + 1) h0 0 [(0, ax_A x0)] [] h (Law_law_b call x0 h) := by
  unfold Law_law_b
  refine ax_newo B cl_Desk wd_21 wd_22 wd_1 rfl df_Desk d_Law_law_0 (fun a1 h2 => ?_)
  refine ax_dup B d_Law_law_3 rfl ?_
  refine ax_callIv (av := []) (rest := [ax_A (some a1)]) B E hm_Desk_init rfl wd_24 lk_Law_49 d_Law_law_4 rfl (Nat.le_of_ble_eq_true rfl) (fun _ _ hh => hcall 0 _ _ _ _ hh) (fun h3 => ?_)
  refine ax_astore_n (tv2 := [(1, ax_A (some a1)), (0, ax_A x0)]) B d_Law_law_7 rfl (by decide) rfl ?_
  refine ax_newo B cl_Model wd_890 wd_891 wd_5 rfl df_Model d_Law_law_8 (fun a5 h6 => ?_)
  refine ax_dup B d_Law_law_11 rfl ?_
  refine ax_callIv (av := []) (rest := [ax_A (some a5)]) B E hm_Model_init rfl wd_893 lk_Law_52 d_Law_law_12 rfl (Nat.le_of_ble_eq_true rfl) (fun _ _ hh => hcall 143 _ _ _ _ hh) (fun h7 => ?_)
  refine ax_astore_n (tv2 := [(2, ax_A (some a5)), (1, ax_A (some a1)), (0, ax_A x0)]) B d_Law_law_15 rfl (by decide) rfl ?_
  refine ax_iconst (v := 1) B d_Law_law_16 (by decide) ?_
  refine ax_newa (kd := 2) (atype := .long) (dv := ax_L 0) B (by decide) (by decide) rfl wd_1049 rfl (fun _ => rfl) (by decide) d_Law_law_17 (fun a9 h10 => ?_)
  refine ax_astore_n (tv2 := [(3, ax_A (some a9)), (2, ax_A (some a5)), (1, ax_A (some a1)), (0, ax_A x0)]) B d_Law_law_19 rfl (by decide) rfl ?_
  refine ax_iconst (v := 0) B d_Law_law_20 (by decide) ?_
  refine ax_istore (tv2 := [(4, ax_I 0), (3, ax_A (some a9)), (2, ax_A (some a5)), (1, ax_A (some a1)), (0, ax_A x0)]) B d_Law_law_21 (by decide) rfl ?_
  refine ax_sub (tv2 := [(0, ax_A x0), (1, ax_A (some a1)), (2, ax_A (some a5)), (3, ax_A (some a9)), (4, ax_I 0)]) [4, 3, 2, 1, 0] rfl ?_
  exact Law_law_lq23 hcall B E Nm ax_fuel x0 (some a1) (some a5) (some a9) 0 h10
