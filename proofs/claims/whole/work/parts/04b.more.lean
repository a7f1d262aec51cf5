theorem ax_aw_int : Cond.arrayClass .int ∈ ax_G := ax_tin (i := 47) (by decide +kernel) rfl
theorem ax_aw_byte : Cond.arrayClass .byte ∈ ax_G := ax_tin (i := 1783) (by decide +kernel) rfl
theorem ax_aw_boolean : Cond.arrayClass .boolean ∈ ax_G := ax_tin (i := 1784) (by decide +kernel) rfl
theorem ax_aw_long : Cond.arrayClass .long ∈ ax_G := ax_tin (i := 1785) (by decide +kernel) rfl
theorem ax_cp_nat : Cond.native arraycopyName ∈ ax_G := ax_tin (i := 693) (by decide +kernel) rfl
theorem ax_cp_sta : Cond.static arraycopyName ∈ ax_G := ax_tin (i := 692) (by decide +kernel) rfl
theorem ax_cp_ini : Cond.initialized "java/lang/System" ∈ ax_G := ax_tin (i := 17) (by decide +kernel) rfl
theorem ax_oi_inst : Cond.instanceMethod objectInit ∈ ax_G := ax_tin (i := 24) (by decide +kernel) rfl
theorem ax_oi_code : Cond.code objectInit ⟨#[0xb1]⟩ 1 none ∈ ax_G := ax_tin (i := 25) rfl rfl
theorem ax_ao : Cond.arrayOver (.object "GivenSearch$Flat") ∈ lw_tbl := List.mem_append_right _ (List.mem_of_getElem? (i := 49) (by decide +kernel))
theorem ax_mx_ini : Cond.initialized "java/lang/Math" ∈ ax_G := ax_tin (i := 4) (by decide +kernel) rfl
