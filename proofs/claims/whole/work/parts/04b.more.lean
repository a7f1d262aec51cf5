theorem ax_aw_int : Cond.arrayClass .int ∈ ax_G := ax_tin (i := 46) (by decide +kernel) rfl
theorem ax_aw_byte : Cond.arrayClass .byte ∈ ax_G := ax_tin (i := 1726) (by decide +kernel) rfl
theorem ax_aw_boolean : Cond.arrayClass .boolean ∈ ax_G := ax_tin (i := 1727) (by decide +kernel) rfl
theorem ax_aw_long : Cond.arrayClass .long ∈ ax_G := ax_tin (i := 1728) (by decide +kernel) rfl
theorem ax_cp_nat : Cond.native arraycopyName ∈ ax_G := ax_tin (i := 668) (by decide +kernel) rfl
theorem ax_cp_sta : Cond.static arraycopyName ∈ ax_G := ax_tin (i := 667) (by decide +kernel) rfl
theorem ax_cp_ini : Cond.initialized "java/lang/System" ∈ ax_G := ax_tin (i := 16) (by decide +kernel) rfl
theorem ax_oi_inst : Cond.instanceMethod objectInit ∈ ax_G := ax_tin (i := 23) (by decide +kernel) rfl
theorem ax_oi_code : Cond.code objectInit ⟨#[0xb1]⟩ 1 none ∈ ax_G := ax_tin (i := 24) rfl rfl
theorem ax_ao : Cond.arrayOver (.object "GivenSearch$Flat") ∈ lw_tbl := List.mem_append_right _ (List.mem_of_getElem? (i := 48) (by decide +kernel))
theorem ax_mx_ini : Cond.initialized "java/lang/Math" ∈ ax_G := ax_tin (i := 4) (by decide +kernel) rfl
