/-! Rows that turn code into formulas (written by genwp.py). -/
theorem wp_Model_leave {n : Nat} {σ : jS} {Q : jS → Prop} {zo0 : Int} {zx1 : Int} {zx2 : Int} (W : 0 ≤ zo0 ∧ 0 ≤ rl σ 1093 zo0 ∧ 0 ≤ zx1 ∧ zx1 < rl σ 1093 zo0 ∧ (∀ zs5, zs5 = ws σ 1097 zo0 (ra σ 1093 zo0 zx1) → i32 ((rs zs5 1098 zo0) - 1) ∧ (∀ zs7, zs7 = ws zs5 1098 zo0 ((rs zs5 1098 zo0) - 1) → (∀ zs8, zs8 = ws zs7 1101 zo0 1 → (∀ zs9, zs9 = ws zs8 1102 zo0 zx2 → (if ¬ rs zs9 1100 zo0 = 0 then Q zs9 else 0 ≤ rl zs9 1072 zo0 ∧ zx1 < rl zs9 1072 zo0 ∧ (if ra zs9 1072 zo0 zx1 = 0 then Q zs9 else 0 ≤ rl zs9 1073 zo0 ∧ zx1 < rl zs9 1073 zo0 ∧ (if ¬ rs zs9 1105 zo0 = ra zs9 1073 zo0 zx1 then Q zs9 else (if 40 ≤ rs zs9 1070 zo0 then Q zs9 else 1 ≤ n ∧ TrV (n - 1) i_Model_remember [jo 1 zo0, ji zx1, ji zx2] zs9 (fun zs15 => Q zs15)))))))))) : TrV n i_Model_leave [jo 1 zo0, ji zx1, ji zx2] σ Q := by
  refine Tr_of ax_Z_70 ?_
  show J n c_Model_leave none 0 [some (jo 1 zo0), some (ji zx1), some (ji zx2)] [] σ (qV Q)
  obtain ⟨zg1, W⟩ := W
  refine J_aload_no (pc' := 1) rfl rfl zg1 rfl ?_
  refine J_aload_no (pc' := 2) rfl rfl zg1 rfl ?_
  obtain ⟨zg2, W⟩ := W
  refine J_getA (G := 1093) (pc' := 5) rfl rfl (Nat.le_of_ble_eq_true rfl) rfl zg1 zg2 rfl ?_
  refine J_iload_n (pc' := 6) rfl rfl rfl ?_
  obtain ⟨zg3, W⟩ := W
  obtain ⟨zg4, W⟩ := W
  refine J_iald (pc' := 7) rfl rfl zg3 zg4 rfl ?_
  refine J_putI (G := 1097) (pc' := 10) rfl rfl (Nat.le_of_ble_eq_true rfl) rfl rfl zg1 rfl (fun zs5 ezs5 => ?_)
  replace W := W zs5 ezs5
  refine J_aload_no (pc' := 11) rfl rfl zg1 rfl ?_
  refine J_dup (pc' := 12) rfl rfl rfl ?_
  refine J_getI (G := 1098) (pc' := 15) rfl rfl (Nat.le_of_ble_eq_true rfl) rfl zg1 rfl ?_
  refine J_iconst (pc' := 16) rfl (i32_d rfl) rfl ?_
  obtain ⟨zg6, W⟩ := W
  refine J_isub (pc' := 17) rfl zg6 rfl ?_
  refine J_putI (G := 1098) (pc' := 20) rfl rfl (Nat.le_of_ble_eq_true rfl) rfl rfl zg1 rfl (fun zs7 ezs7 => ?_)
  replace W := W zs7 ezs7
  refine J_aload_no (pc' := 21) rfl rfl zg1 rfl ?_
  refine J_iconst (pc' := 22) rfl (i32_d rfl) rfl ?_
  refine J_putZ (G := 1101) (pc' := 25) rfl rfl (Nat.le_of_ble_eq_true rfl) rfl rfl zg1 (Or.inr rfl) rfl (fun zs8 ezs8 => ?_)
  replace W := W zs8 ezs8
  refine J_aload_no (pc' := 26) rfl rfl zg1 rfl ?_
  refine J_iload_n (pc' := 27) rfl rfl rfl ?_
  refine J_putI (G := 1102) (pc' := 30) rfl rfl (Nat.le_of_ble_eq_true rfl) rfl rfl zg1 rfl (fun zs9 ezs9 => ?_)
  replace W := W zs9 ezs9
  refine J_aload_no (pc' := 31) rfl rfl zg1 rfl ?_
  refine J_getI (G := 1100) (pc' := 34) rfl rfl (Nat.le_of_ble_eq_true rfl) rfl zg1 rfl ?_
  refine J_if (P := ¬ rs zs9 1100 zo0 = 0) (t := 74) (f := 37) rfl rfl rfl jc_ne W (fun W => ?_) (fun W => ?_)
  · exact J_vret rfl rfl ⟨rfl, W⟩
  · refine J_aload_no (pc' := 38) rfl rfl zg1 rfl ?_
    obtain ⟨zg10, W⟩ := W
    refine J_getA (G := 1072) (pc' := 41) rfl rfl (Nat.le_of_ble_eq_true rfl) rfl zg1 zg10 rfl ?_
    refine J_iload_n (pc' := 42) rfl rfl rfl ?_
    obtain ⟨zg11, W⟩ := W
    refine J_bald (pc' := 43) rfl (Or.inr rfl) zg3 zg11 rfl ?_
    refine J_if (P := ra zs9 1072 zo0 zx1 = 0) (t := 74) (f := 46) rfl rfl rfl jc_eq W (fun W => ?_) (fun W => ?_)
    · exact J_vret rfl rfl ⟨rfl, W⟩
    · refine J_aload_no (pc' := 47) rfl rfl zg1 rfl ?_
      refine J_getI (G := 1105) (pc' := 50) rfl rfl (Nat.le_of_ble_eq_true rfl) rfl zg1 rfl ?_
      refine J_aload_no (pc' := 51) rfl rfl zg1 rfl ?_
      obtain ⟨zg12, W⟩ := W
      refine J_getA (G := 1073) (pc' := 54) rfl rfl (Nat.le_of_ble_eq_true rfl) rfl zg1 zg12 rfl ?_
      refine J_iload_n (pc' := 55) rfl rfl rfl ?_
      obtain ⟨zg13, W⟩ := W
      refine J_iald (pc' := 56) rfl rfl zg3 zg13 rfl ?_
      refine J_icmp (P := ¬ rs zs9 1105 zo0 = ra zs9 1073 zo0 zx1) (t := 74) (f := 59) rfl rfl rfl jc_ne W (fun W => ?_) (fun W => ?_)
      · exact J_vret rfl rfl ⟨rfl, W⟩
      · refine J_aload_no (pc' := 60) rfl rfl zg1 rfl ?_
        refine J_getI (G := 1070) (pc' := 63) rfl rfl (Nat.le_of_ble_eq_true rfl) rfl zg1 rfl ?_
        refine J_bipush (pc' := 65) rfl (by decide) (by decide) rfl ?_
        refine J_icmp (P := 40 ≤ rs zs9 1070 zo0) (t := 74) (f := 68) rfl rfl rfl jc_ge W (fun W => ?_) (fun W => ?_)
        · exact J_vret rfl rfl ⟨rfl, W⟩
        · refine J_aload_no (pc' := 69) rfl rfl zg1 rfl ?_
          refine J_iload_n (pc' := 70) rfl rfl rfl ?_
          refine J_iload_n (pc' := 71) rfl rfl rfl ?_
          obtain ⟨zg14, W⟩ := W
          refine J_weak (L' := [none, none, none]) trivial ?_
          refine J_callV (as := [jo 1 zo0, ji zx1, ji zx2]) (rest := []) (pc' := 74) rfl rfl ax_Z_71 rfl rfl (Or.inr (Or.inr ⟨_, _, rfl, zg1⟩)) (Nat.le_of_ble_eq_true rfl) (Nat.le_of_ble_eq_true rfl) (Nat.le_of_ble_eq_true rfl) zg14 trivial trivial rfl W (fun zs15 W => ?_)
          exact J_vret rfl rfl ⟨rfl, W⟩
theorem wp_Model_remember {n : Nat} {σ : jS} {Q : jS → Prop} {zo0 : Int} {zx1 : Int} {zx2 : Int} (W : 0 ≤ zo0 ∧ i32 ((rs σ 1070 zo0) + 1) ∧ (∀ zs3, zs3 = ws σ 1070 zo0 ((rs σ 1070 zo0) + 1) → 0 ≤ rl zs3 1066 zo0 ∧ 0 ≤ rs σ 1070 zo0 ∧ rs σ 1070 zo0 < rl zs3 1066 zo0 ∧ (∀ zs5, zs5 = wa zs3 1066 zo0 (rs σ 1070 zo0) (rs zs3 1108 zo0) → 0 ≤ rl zs5 1067 zo0 ∧ 0 ≤ rl zs5 1071 zo0 ∧ 0 ≤ zx1 ∧ zx1 < rl zs5 1071 zo0 ∧ 1 ≤ n ∧ TrI (n - 1) i_Model_layOut [jo 1 zo0, ji (ra zs5 1071 zo0 zx1)] zs5 (fun zr14 zs13 => 0 ≤ rs σ 1070 zo0 ∧ rs σ 1070 zo0 < rl zs13 1067 zo0 ∧ (∀ zs15, zs15 = wa zs13 1067 zo0 (rs σ 1070 zo0) zr14 → 0 ≤ rl zs15 1041 zo0 ∧ 0 ≤ rl zs15 1068 zo0 ∧ i32 (100 * (rs σ 1070 zo0)) ∧ TrV (n - 1) i_Model_copy [ja 1041 zo0, ji 0, ji (rs zs15 1043 zo0), ja 1068 zo0, ji (100 * (rs σ 1070 zo0))] zs15 (fun zs21 => 0 ≤ rl zs21 1069 zo0 ∧ (if 8200 ≤ zx2 then TrI (n - 1) i_Model_keep [jo 1 zo0, ji zx2] zs21 (fun zr25 zs24 => 0 ≤ rs σ 1070 zo0 ∧ rs σ 1070 zo0 < rl zs24 1069 zo0 ∧ (∀ zs26, zs26 = wa zs24 1069 zo0 (rs σ 1070 zo0) zr25 → 0 ≤ rl zs26 1069 zo0 ∧ 0 ≤ rs σ 1070 zo0 ∧ rs σ 1070 zo0 < rl zs26 1069 zo0 ∧ (∀ zs32, zs32 = ws zs26 1102 zo0 (ra zs26 1069 zo0 (rs σ 1070 zo0)) → Q zs32))) else 0 ≤ rs σ 1070 zo0 ∧ rs σ 1070 zo0 < rl zs21 1069 zo0 ∧ (∀ zs33, zs33 = wa zs21 1069 zo0 (rs σ 1070 zo0) zx2 → 0 ≤ rl zs33 1069 zo0 ∧ 0 ≤ rs σ 1070 zo0 ∧ rs σ 1070 zo0 < rl zs33 1069 zo0 ∧ (∀ zs39, zs39 = ws zs33 1102 zo0 (ra zs33 1069 zo0 (rs σ 1070 zo0)) → Q zs39))))))))) : TrV n i_Model_remember [jo 1 zo0, ji zx1, ji zx2] σ Q := by
  refine Tr_of ax_Z_71 ?_
  show J n c_Model_remember none 0 [some (jo 1 zo0), some (ji zx1), some (ji zx2), none] [] σ (qV Q)
  obtain ⟨zg1, W⟩ := W
  refine J_aload_no (pc' := 1) rfl rfl zg1 rfl ?_
  refine J_getI (G := 1070) (pc' := 4) rfl rfl (Nat.le_of_ble_eq_true rfl) rfl zg1 rfl ?_
  refine J_istore_n (L' := [some (jo 1 zo0), some (ji zx1), some (ji zx2), some (ji (rs σ 1070 zo0))]) (pc' := 5) rfl (Nat.le_of_ble_eq_true rfl) rfl rfl ?_
  refine J_aload_no (pc' := 6) rfl rfl zg1 rfl ?_
  refine J_dup (pc' := 7) rfl rfl rfl ?_
  refine J_getI (G := 1070) (pc' := 10) rfl rfl (Nat.le_of_ble_eq_true rfl) rfl zg1 rfl ?_
  refine J_iconst (pc' := 11) rfl (i32_d rfl) rfl ?_
  obtain ⟨zg2, W⟩ := W
  refine J_iadd (pc' := 12) rfl zg2 rfl ?_
  refine J_putI (G := 1070) (pc' := 15) rfl rfl (Nat.le_of_ble_eq_true rfl) rfl rfl zg1 rfl (fun zs3 ezs3 => ?_)
  replace W := W zs3 ezs3
  refine J_aload_no (pc' := 16) rfl rfl zg1 rfl ?_
  obtain ⟨zg4, W⟩ := W
  refine J_getA (G := 1066) (pc' := 19) rfl rfl (Nat.le_of_ble_eq_true rfl) rfl zg1 zg4 rfl ?_
  refine J_iload_n (pc' := 20) rfl rfl rfl ?_
  refine J_aload_no (pc' := 21) rfl rfl zg1 rfl ?_
  refine J_getI (G := 1108) (pc' := 24) rfl rfl (Nat.le_of_ble_eq_true rfl) rfl zg1 rfl ?_
  obtain ⟨zg6, W⟩ := W
  obtain ⟨zg7, W⟩ := W
  refine J_iast (pc' := 25) rfl rfl (by decide) zg6 zg7 rfl (fun zs5 ezs5 => ?_)
  replace W := W zs5 ezs5
  refine J_aload_no (pc' := 26) rfl rfl zg1 rfl ?_
  obtain ⟨zg8, W⟩ := W
  refine J_getA (G := 1067) (pc' := 29) rfl rfl (Nat.le_of_ble_eq_true rfl) rfl zg1 zg8 rfl ?_
  refine J_iload_n (pc' := 30) rfl rfl rfl ?_
  refine J_aload_no (pc' := 31) rfl rfl zg1 rfl ?_
  refine J_aload_no (pc' := 32) rfl rfl zg1 rfl ?_
  obtain ⟨zg9, W⟩ := W
  refine J_getA (G := 1071) (pc' := 35) rfl rfl (Nat.le_of_ble_eq_true rfl) rfl zg1 zg9 rfl ?_
  refine J_iload_n (pc' := 36) rfl rfl rfl ?_
  obtain ⟨zg10, W⟩ := W
  obtain ⟨zg11, W⟩ := W
  refine J_iald (pc' := 37) rfl rfl zg10 zg11 rfl ?_
  obtain ⟨zg12, W⟩ := W
  refine J_weak (L' := [some (jo 1 zo0), none, some (ji zx2), some (ji (rs σ 1070 zo0))]) (And.intro rfl (And.intro rfl (And.intro rfl trivial))) ?_
  refine J_callI (as := [jo 1 zo0, ji (ra zs5 1071 zo0 zx1)]) (rest := [ji (rs σ 1070 zo0), ja 1067 zo0]) (pc' := 40) rfl rfl ax_Z_50 rfl rfl (Or.inr (Or.inr ⟨_, _, rfl, zg1⟩)) (Nat.le_of_ble_eq_true rfl) (Nat.le_of_ble_eq_true rfl) (Nat.le_of_ble_eq_true rfl) zg12 trivial (And.intro rfl trivial) rfl W (fun zr14 zs13 W => ?_)
  obtain ⟨zg16, W⟩ := W
  obtain ⟨zg17, W⟩ := W
  refine J_iast (pc' := 41) rfl rfl (by decide) zg16 zg17 rfl (fun zs15 ezs15 => ?_)
  replace W := W zs15 ezs15
  refine J_aload_no (pc' := 42) rfl rfl zg1 rfl ?_
  obtain ⟨zg18, W⟩ := W
  refine J_getA (G := 1041) (pc' := 45) rfl rfl (Nat.le_of_ble_eq_true rfl) rfl zg1 zg18 rfl ?_
  refine J_iconst (pc' := 46) rfl (i32_d rfl) rfl ?_
  refine J_aload_no (pc' := 47) rfl rfl zg1 rfl ?_
  refine J_getI (G := 1043) (pc' := 50) rfl rfl (Nat.le_of_ble_eq_true rfl) rfl zg1 rfl ?_
  refine J_aload_no (pc' := 51) rfl rfl zg1 rfl ?_
  obtain ⟨zg19, W⟩ := W
  refine J_getA (G := 1068) (pc' := 54) rfl rfl (Nat.le_of_ble_eq_true rfl) rfl zg1 zg19 rfl ?_
  refine J_bipush (pc' := 56) rfl (by decide) (by decide) rfl ?_
  refine J_iload_n (pc' := 57) rfl rfl rfl ?_
  obtain ⟨zg20, W⟩ := W
  refine J_imul (pc' := 58) rfl zg20 rfl ?_
  refine J_callV (as := [ja 1041 zo0, ji 0, ji (rs zs15 1043 zo0), ja 1068 zo0, ji (100 * (rs σ 1070 zo0))]) (rest := []) (pc' := 61) rfl rfl ax_Z_16 rfl rfl (Or.inl rfl) (Nat.le_of_ble_eq_true rfl) (Nat.le_of_ble_eq_true rfl) (Nat.le_of_ble_eq_true rfl) zg12 trivial trivial rfl W (fun zs21 W => ?_)
  refine J_aload_no (pc' := 62) rfl rfl zg1 rfl ?_
  obtain ⟨zg23, W⟩ := W
  refine J_getA (G := 1069) (pc' := 65) rfl rfl (Nat.le_of_ble_eq_true rfl) rfl zg1 zg23 rfl ?_
  refine J_iload_n (pc' := 66) rfl rfl rfl ?_
  refine J_iload_n (pc' := 67) rfl rfl rfl ?_
  refine J_sipush (pc' := 70) rfl (by decide) (by decide) rfl ?_
  refine J_icmp (P := 8200 ≤ zx2) (t := 77) (f := 73) rfl rfl rfl jc_ge W (fun W => ?_) (fun W => ?_)
  · refine J_aload_no (pc' := 78) rfl rfl zg1 rfl ?_
    refine J_iload_n (pc' := 79) rfl rfl rfl ?_
    refine J_weak (L' := [some (jo 1 zo0), none, none, some (ji (rs σ 1070 zo0))]) (And.intro rfl (And.intro rfl trivial)) ?_
    refine J_callI (as := [jo 1 zo0, ji zx2]) (rest := [ji (rs σ 1070 zo0), ja 1069 zo0]) (pc' := 82) rfl rfl ax_Z_72 rfl rfl (Or.inr (Or.inr ⟨_, _, rfl, zg1⟩)) (Nat.le_of_ble_eq_true rfl) (Nat.le_of_ble_eq_true rfl) (Nat.le_of_ble_eq_true rfl) zg12 trivial (And.intro rfl trivial) rfl W (fun zr25 zs24 W => ?_)
    obtain ⟨zg27, W⟩ := W
    obtain ⟨zg28, W⟩ := W
    refine J_iast (pc' := 83) rfl rfl (by decide) zg27 zg28 rfl (fun zs26 ezs26 => ?_)
    replace W := W zs26 ezs26
    refine J_aload_no (pc' := 84) rfl rfl zg1 rfl ?_
    refine J_aload_no (pc' := 85) rfl rfl zg1 rfl ?_
    obtain ⟨zg29, W⟩ := W
    refine J_getA (G := 1069) (pc' := 88) rfl rfl (Nat.le_of_ble_eq_true rfl) rfl zg1 zg29 rfl ?_
    refine J_iload_n (pc' := 89) rfl rfl rfl ?_
    obtain ⟨zg30, W⟩ := W
    obtain ⟨zg31, W⟩ := W
    refine J_iald (pc' := 90) rfl rfl zg30 zg31 rfl ?_
    refine J_putI (G := 1102) (pc' := 93) rfl rfl (Nat.le_of_ble_eq_true rfl) rfl rfl zg1 rfl (fun zs32 ezs32 => ?_)
    replace W := W zs32 ezs32
    exact J_vret rfl rfl ⟨rfl, W⟩
  · refine J_iload_n (pc' := 74) rfl rfl rfl ?_
    refine J_goto (pc' := 82) rfl rfl ?_
    obtain ⟨zg34, W⟩ := W
    obtain ⟨zg35, W⟩ := W
    refine J_iast (pc' := 83) rfl rfl (by decide) zg34 zg35 rfl (fun zs33 ezs33 => ?_)
    replace W := W zs33 ezs33
    refine J_aload_no (pc' := 84) rfl rfl zg1 rfl ?_
    refine J_aload_no (pc' := 85) rfl rfl zg1 rfl ?_
    obtain ⟨zg36, W⟩ := W
    refine J_getA (G := 1069) (pc' := 88) rfl rfl (Nat.le_of_ble_eq_true rfl) rfl zg1 zg36 rfl ?_
    refine J_iload_n (pc' := 89) rfl rfl rfl ?_
    obtain ⟨zg37, W⟩ := W
    obtain ⟨zg38, W⟩ := W
    refine J_iald (pc' := 90) rfl rfl zg37 zg38 rfl ?_
    refine J_putI (G := 1102) (pc' := 93) rfl rfl (Nat.le_of_ble_eq_true rfl) rfl rfl zg1 rfl (fun zs39 ezs39 => ?_)
    replace W := W zs39 ezs39
    exact J_vret rfl rfl ⟨rfl, W⟩
set_option maxRecDepth 16000 in
theorem wp_Model_keep {n : Nat} {σ : jS} {Q : Int → jS → Prop} {zo0 : Int} {zx1 : Int} (W : J n c_Model_keep (some .int) 2 [some (jo 1 zo0), some (ji zx1), some (ji 0), none, none, none, none] [] σ (qI Q)) : TrI n i_Model_keep [jo 1 zo0, ji zx1] σ Q := by
  refine Tr_of ax_Z_72 ?_
  show J n c_Model_keep (some .int) 0 [some (jo 1 zo0), some (ji zx1), none, none, none, none, none] [] σ (qI Q)
  refine J_iconst (pc' := 1) rfl (i32_d rfl) rfl ?_
  refine J_istore_n (L' := [some (jo 1 zo0), some (ji zx1), some (ji 0), none, none, none, none]) (pc' := 2) rfl (Nat.le_of_ble_eq_true rfl) rfl rfl ?_
  exact W
set_option maxRecDepth 16000 in
theorem wp_Model_keep_2 {n : Nat} {σ : jS} {Q : Int → jS → Prop} {zo0 : Int} {zx1 : Int} {zx2 : Int} (W : 0 ≤ zo0 ∧ i32 ((rs σ 1064 zo0) - 8200) ∧ (if (rs σ 1064 zo0) - 8200 ≤ zx2 then 0 ≤ rl σ 1110 zo0 ∧ 0 < rl σ 1110 zo0 ∧ (∀ zs4, zs4 = wa σ 1110 zo0 0 zx1 → J n c_Model_keep (some .int) 36 [some (jo 1 zo0), some (ji zx1), some (ji 1), none, none, none, none] [] zs4 (qI Q)) else 0 ≤ rl σ 1109 zo0 ∧ 0 ≤ zx2 ∧ zx2 < rl σ 1109 zo0 ∧ (∀ zs7, zs7 = wa σ 1109 zo0 zx2 (-1) → i32 (zx2 + 1) ∧ J n c_Model_keep (some .int) 2 [some (jo 1 zo0), some (ji zx1), some (ji (zx2 + 1)), none, none, none, none] [] zs7 (qI Q)))) : J n c_Model_keep (some .int) 2 [some (jo 1 zo0), some (ji zx1), some (ji zx2), none, none, none, none] [] σ (qI Q) := by
  refine J_iload_n (pc' := 3) rfl rfl rfl ?_
  obtain ⟨zg1, W⟩ := W
  refine J_aload_no (pc' := 4) rfl rfl zg1 rfl ?_
  refine J_getI (G := 1064) (pc' := 7) rfl rfl (Nat.le_of_ble_eq_true rfl) rfl zg1 rfl ?_
  refine J_sipush (pc' := 10) rfl (by decide) (by decide) rfl ?_
  obtain ⟨zg2, W⟩ := W
  refine J_isub (pc' := 11) rfl zg2 rfl ?_
  refine J_icmp (P := (rs σ 1064 zo0) - 8200 ≤ zx2) (t := 27) (f := 14) rfl rfl rfl jc_ge W (fun W => ?_) (fun W => ?_)
  · refine J_iconst (pc' := 28) rfl (i32_d rfl) rfl ?_
    refine J_istore_n (L' := [some (jo 1 zo0), some (ji zx1), some (ji 1), none, none, none, none]) (pc' := 29) rfl (Nat.le_of_ble_eq_true rfl) rfl rfl ?_
    refine J_aload_no (pc' := 30) rfl rfl zg1 rfl ?_
    obtain ⟨zg3, W⟩ := W
    refine J_getA (G := 1110) (pc' := 33) rfl rfl (Nat.le_of_ble_eq_true rfl) rfl zg1 zg3 rfl ?_
    refine J_iconst (pc' := 34) rfl (i32_d rfl) rfl ?_
    refine J_iload_n (pc' := 35) rfl rfl rfl ?_
    obtain ⟨zg5, W⟩ := W
    refine J_iast (pc' := 36) rfl rfl (by decide) (by decide) zg5 rfl (fun zs4 ezs4 => ?_)
    replace W := W zs4 ezs4
    exact W
  · refine J_aload_no (pc' := 15) rfl rfl zg1 rfl ?_
    obtain ⟨zg6, W⟩ := W
    refine J_getA (G := 1109) (pc' := 18) rfl rfl (Nat.le_of_ble_eq_true rfl) rfl zg1 zg6 rfl ?_
    refine J_iload_n (pc' := 19) rfl rfl rfl ?_
    refine J_iconst (pc' := 20) rfl (i32_d rfl) rfl ?_
    obtain ⟨zg8, W⟩ := W
    obtain ⟨zg9, W⟩ := W
    refine J_iast (pc' := 21) rfl rfl (by decide) zg8 zg9 rfl (fun zs7 ezs7 => ?_)
    replace W := W zs7 ezs7
    obtain ⟨zg10, W⟩ := W
    refine J_iinc (L' := [some (jo 1 zo0), some (ji zx1), some (ji (zx2 + 1)), none, none, none, none]) (pc' := 24) rfl rfl zg10 rfl rfl ?_
    refine J_goto (pc' := 2) rfl rfl ?_
    exact W
set_option maxRecDepth 16000 in
theorem wp_Model_keep_36 {n : Nat} {σ : jS} {Q : Int → jS → Prop} {zo0 : Int} {zx1 : Int} {zx2 : Int} (W : (if zx2 ≤ 0 then 0 ≤ zo0 ∧ 0 ≤ rl σ 1109 zo0 ∧ i32 (zx1 - 8200) ∧ 0 ≤ zx1 - 8200 ∧ zx1 - 8200 < rl σ 1109 zo0 ∧ Q (ra σ 1109 zo0 (zx1 - 8200)) σ else 0 ≤ zo0 ∧ 0 ≤ rl σ 1110 zo0 ∧ i32 (zx2 - 1) ∧ 0 ≤ zx2 - 1 ∧ zx2 - 1 < rl σ 1110 zo0 ∧ J n c_Model_keep (some .int) 55 [some (jo 1 zo0), some (ji zx1), some (ji zx2), some (ji (ra σ 1110 zo0 (zx2 - 1))), some (ji zx2), some (ji 0), none] [] σ (qI Q))) : J n c_Model_keep (some .int) 36 [some (jo 1 zo0), some (ji zx1), some (ji zx2), none, none, none, none] [] σ (qI Q) := by
  refine J_iload_n (pc' := 37) rfl rfl rfl ?_
  refine J_if (P := zx2 ≤ 0) (t := 166) (f := 40) rfl rfl rfl jc_le W (fun W => ?_) (fun W => ?_)
  · obtain ⟨zg1, W⟩ := W
    refine J_aload_no (pc' := 167) rfl rfl zg1 rfl ?_
    obtain ⟨zg2, W⟩ := W
    refine J_getA (G := 1109) (pc' := 170) rfl rfl (Nat.le_of_ble_eq_true rfl) rfl zg1 zg2 rfl ?_
    refine J_iload_n (pc' := 171) rfl rfl rfl ?_
    refine J_sipush (pc' := 174) rfl (by decide) (by decide) rfl ?_
    obtain ⟨zg3, W⟩ := W
    refine J_isub (pc' := 175) rfl zg3 rfl ?_
    obtain ⟨zg4, W⟩ := W
    obtain ⟨zg5, W⟩ := W
    refine J_iald (pc' := 176) rfl rfl zg4 zg5 rfl ?_
    exact J_iret rfl rfl ⟨_, rfl, W⟩
  · obtain ⟨zg6, W⟩ := W
    refine J_aload_no (pc' := 41) rfl rfl zg6 rfl ?_
    obtain ⟨zg7, W⟩ := W
    refine J_getA (G := 1110) (pc' := 44) rfl rfl (Nat.le_of_ble_eq_true rfl) rfl zg6 zg7 rfl ?_
    refine J_iload_n (pc' := 45) rfl rfl rfl ?_
    refine J_iconst (pc' := 46) rfl (i32_d rfl) rfl ?_
    obtain ⟨zg8, W⟩ := W
    refine J_isub (pc' := 47) rfl zg8 rfl ?_
    obtain ⟨zg9, W⟩ := W
    obtain ⟨zg10, W⟩ := W
    refine J_iald (pc' := 48) rfl rfl zg9 zg10 rfl ?_
    refine J_istore_n (L' := [some (jo 1 zo0), some (ji zx1), some (ji zx2), some (ji (ra σ 1110 zo0 (zx2 - 1))), none, none, none]) (pc' := 49) rfl (Nat.le_of_ble_eq_true rfl) rfl rfl ?_
    refine J_iload_n (pc' := 50) rfl rfl rfl ?_
    refine J_istore (L' := [some (jo 1 zo0), some (ji zx1), some (ji zx2), some (ji (ra σ 1110 zo0 (zx2 - 1))), some (ji zx2), none, none]) (pc' := 52) rfl (Nat.le_of_ble_eq_true rfl) rfl rfl ?_
    refine J_iconst (pc' := 53) rfl (i32_d rfl) rfl ?_
    refine J_istore (L' := [some (jo 1 zo0), some (ji zx1), some (ji zx2), some (ji (ra σ 1110 zo0 (zx2 - 1))), some (ji zx2), some (ji 0), none]) (pc' := 55) rfl (Nat.le_of_ble_eq_true rfl) rfl rfl ?_
    exact W
set_option maxRecDepth 16000 in
theorem wp_Model_keep_55 {n : Nat} {σ : jS} {Q : Int → jS → Prop} {zo0 : Int} {zx1 : Int} {zx2 : Int} {zx3 : Int} {zx4 : Int} {zx5 : Int} (W : 0 ≤ zo0 ∧ 0 ≤ rl σ 1057 zo0 ∧ 0 ≤ zx3 ∧ zx3 < rl σ 1057 zo0 ∧ (if ra σ 1057 zo0 zx3 ≤ zx5 then (if zx2 ≤ zx4 then i32 (zx2 + (-1)) ∧ 0 ≤ rl σ 1109 zo0 ∧ i32 (zx3 - 8200) ∧ 0 ≤ zx3 - 8200 ∧ zx3 - 8200 < rl σ 1109 zo0 ∧ (if ¬ ra σ 1109 zo0 (zx3 - 8200) = (-1) then J n c_Model_keep (some .int) 36 [some (jo 1 zo0), some (ji zx1), some (ji (zx2 + (-1))), none, none, none, none] [] σ (qI Q) else 1 ≤ n ∧ TrI (n - 1) i_Model_keepOne [jo 1 zo0, ji zx3] σ (fun zr12 zs11 => zx3 - 8200 < rl zs11 1109 zo0 ∧ (∀ zs13, zs13 = wa zs11 1109 zo0 (zx3 - 8200) zr12 → J n c_Model_keep (some .int) 36 [some (jo 1 zo0), some (ji zx1), some (ji (zx2 + (-1))), none, none, none, none] [] zs13 (qI Q)))) else J n c_Model_keep (some .int) 36 [some (jo 1 zo0), some (ji zx1), some (ji zx2), none, none, none, none] [] σ (qI Q)) else 0 ≤ rl σ 1058 zo0 ∧ i32 (4 * zx3) ∧ i32 ((4 * zx3) + zx5) ∧ 0 ≤ (4 * zx3) + zx5 ∧ (4 * zx3) + zx5 < rl σ 1058 zo0 ∧ (if ra σ 1058 zo0 ((4 * zx3) + zx5) < 8200 then i32 (zx5 + 1) ∧ J n c_Model_keep (some .int) 55 [some (jo 1 zo0), some (ji zx1), some (ji zx2), some (ji zx3), some (ji zx4), some (ji (zx5 + 1)), none] [] σ (qI Q) else 0 ≤ rl σ 1109 zo0 ∧ i32 ((ra σ 1058 zo0 ((4 * zx3) + zx5)) - 8200) ∧ 0 ≤ (ra σ 1058 zo0 ((4 * zx3) + zx5)) - 8200 ∧ (ra σ 1058 zo0 ((4 * zx3) + zx5)) - 8200 < rl σ 1109 zo0 ∧ (if ra σ 1109 zo0 ((ra σ 1058 zo0 ((4 * zx3) + zx5)) - 8200) = (-1) then 0 ≤ rl σ 1110 zo0 ∧ 0 ≤ zx2 ∧ zx2 < rl σ 1110 zo0 ∧ (∀ zs26, zs26 = wa σ 1110 zo0 zx2 (ra σ 1058 zo0 ((4 * zx3) + zx5)) → i32 (zx2 + 1) ∧ i32 (zx5 + 1) ∧ J n c_Model_keep (some .int) 55 [some (jo 1 zo0), some (ji zx1), some (ji (zx2 + 1)), some (ji zx3), some (ji zx4), some (ji (zx5 + 1)), none] [] zs26 (qI Q)) else i32 (zx5 + 1) ∧ J n c_Model_keep (some .int) 55 [some (jo 1 zo0), some (ji zx1), some (ji zx2), some (ji zx3), some (ji zx4), some (ji (zx5 + 1)), none] [] σ (qI Q))))) : J n c_Model_keep (some .int) 55 [some (jo 1 zo0), some (ji zx1), some (ji zx2), some (ji zx3), some (ji zx4), some (ji zx5), none] [] σ (qI Q) := by
  refine J_iload (pc' := 57) rfl rfl rfl ?_
  obtain ⟨zg1, W⟩ := W
  refine J_aload_no (pc' := 58) rfl rfl zg1 rfl ?_
  obtain ⟨zg2, W⟩ := W
  refine J_getA (G := 1057) (pc' := 61) rfl rfl (Nat.le_of_ble_eq_true rfl) rfl zg1 zg2 rfl ?_
  refine J_iload_n (pc' := 62) rfl rfl rfl ?_
  obtain ⟨zg3, W⟩ := W
  obtain ⟨zg4, W⟩ := W
  refine J_iald (pc' := 63) rfl rfl zg3 zg4 rfl ?_
  refine J_icmp (P := ra σ 1057 zo0 zx3 ≤ zx5) (t := 122) (f := 66) rfl rfl rfl jc_ge W (fun W => ?_) (fun W => ?_)
  · refine J_iload_n (pc' := 123) rfl rfl rfl ?_
    refine J_iload (pc' := 125) rfl rfl rfl ?_
    refine J_icmp (P := zx2 ≤ zx4) (t := 131) (f := 128) rfl rfl rfl jc_le W (fun W => ?_) (fun W => ?_)
    · obtain ⟨zg5, W⟩ := W
      refine J_iinc (L' := [some (jo 1 zo0), some (ji zx1), some (ji (zx2 + (-1))), some (ji zx3), some (ji zx4), some (ji zx5), none]) (pc' := 134) rfl rfl zg5 rfl rfl ?_
      refine J_aload_no (pc' := 135) rfl rfl zg1 rfl ?_
      obtain ⟨zg6, W⟩ := W
      refine J_getA (G := 1109) (pc' := 138) rfl rfl (Nat.le_of_ble_eq_true rfl) rfl zg1 zg6 rfl ?_
      refine J_iload_n (pc' := 139) rfl rfl rfl ?_
      refine J_sipush (pc' := 142) rfl (by decide) (by decide) rfl ?_
      obtain ⟨zg7, W⟩ := W
      refine J_isub (pc' := 143) rfl zg7 rfl ?_
      obtain ⟨zg8, W⟩ := W
      obtain ⟨zg9, W⟩ := W
      refine J_iald (pc' := 144) rfl rfl zg8 zg9 rfl ?_
      refine J_iconst (pc' := 145) rfl (i32_d rfl) rfl ?_
      refine J_icmp (P := ¬ ra σ 1109 zo0 (zx3 - 8200) = (-1)) (t := 163) (f := 148) rfl rfl rfl jc_ne W (fun W => ?_) (fun W => ?_)
      · refine J_goto (pc' := 36) rfl rfl ?_
        refine J_weak (L' := [some (jo 1 zo0), some (ji zx1), some (ji (zx2 + (-1))), none, none, none, none]) (And.intro rfl (And.intro rfl (And.intro rfl trivial))) ?_
        exact W
      · refine J_aload_no (pc' := 149) rfl rfl zg1 rfl ?_
        refine J_getA (G := 1109) (pc' := 152) rfl rfl (Nat.le_of_ble_eq_true rfl) rfl zg1 zg6 rfl ?_
        refine J_iload_n (pc' := 153) rfl rfl rfl ?_
        refine J_sipush (pc' := 156) rfl (by decide) (by decide) rfl ?_
        refine J_isub (pc' := 157) rfl zg7 rfl ?_
        refine J_aload_no (pc' := 158) rfl rfl zg1 rfl ?_
        refine J_iload_n (pc' := 159) rfl rfl rfl ?_
        obtain ⟨zg10, W⟩ := W
        refine J_weak (L' := [some (jo 1 zo0), some (ji zx1), some (ji (zx2 + (-1))), none, none, none, none]) (And.intro rfl (And.intro rfl (And.intro rfl trivial))) ?_
        refine J_callI (as := [jo 1 zo0, ji zx3]) (rest := [ji (zx3 - 8200), ja 1109 zo0]) (pc' := 162) rfl rfl ax_Z_73 rfl rfl (Or.inr (Or.inr ⟨_, _, rfl, zg1⟩)) (Nat.le_of_ble_eq_true rfl) (Nat.le_of_ble_eq_true rfl) (Nat.le_of_ble_eq_true rfl) zg10 trivial (And.intro rfl trivial) rfl W (fun zr12 zs11 W => ?_)
        obtain ⟨zg14, W⟩ := W
        refine J_iast (pc' := 163) rfl rfl (by decide) zg8 zg14 rfl (fun zs13 ezs13 => ?_)
        replace W := W zs13 ezs13
        refine J_goto (pc' := 36) rfl rfl ?_
        exact W
    · refine J_goto (pc' := 36) rfl rfl ?_
      refine J_weak (L' := [some (jo 1 zo0), some (ji zx1), some (ji zx2), none, none, none, none]) (And.intro rfl (And.intro rfl (And.intro rfl trivial))) ?_
      exact W
  · refine J_aload_no (pc' := 67) rfl rfl zg1 rfl ?_
    obtain ⟨zg15, W⟩ := W
    refine J_getA (G := 1058) (pc' := 70) rfl rfl (Nat.le_of_ble_eq_true rfl) rfl zg1 zg15 rfl ?_
    refine J_iconst (pc' := 71) rfl (i32_d rfl) rfl ?_
    refine J_iload_n (pc' := 72) rfl rfl rfl ?_
    obtain ⟨zg16, W⟩ := W
    refine J_imul (pc' := 73) rfl zg16 rfl ?_
    refine J_iload (pc' := 75) rfl rfl rfl ?_
    obtain ⟨zg17, W⟩ := W
    refine J_iadd (pc' := 76) rfl zg17 rfl ?_
    obtain ⟨zg18, W⟩ := W
    obtain ⟨zg19, W⟩ := W
    refine J_iald (pc' := 77) rfl rfl zg18 zg19 rfl ?_
    refine J_istore (L' := [some (jo 1 zo0), some (ji zx1), some (ji zx2), some (ji zx3), some (ji zx4), some (ji zx5), some (ji (ra σ 1058 zo0 ((4 * zx3) + zx5)))]) (pc' := 79) rfl (Nat.le_of_ble_eq_true rfl) rfl rfl ?_
    refine J_iload (pc' := 81) rfl rfl rfl ?_
    refine J_sipush (pc' := 84) rfl (by decide) (by decide) rfl ?_
    refine J_icmp (P := ra σ 1058 zo0 ((4 * zx3) + zx5) < 8200) (t := 116) (f := 87) rfl rfl rfl jc_lt W (fun W => ?_) (fun W => ?_)
    · obtain ⟨zg20, W⟩ := W
      refine J_iinc (L' := [some (jo 1 zo0), some (ji zx1), some (ji zx2), some (ji zx3), some (ji zx4), some (ji (zx5 + 1)), some (ji (ra σ 1058 zo0 ((4 * zx3) + zx5)))]) (pc' := 119) rfl rfl zg20 rfl rfl ?_
      refine J_goto (pc' := 55) rfl rfl ?_
      refine J_weak (L' := [some (jo 1 zo0), some (ji zx1), some (ji zx2), some (ji zx3), some (ji zx4), some (ji (zx5 + 1)), none]) (And.intro rfl (And.intro rfl (And.intro rfl (And.intro rfl (And.intro rfl (And.intro rfl trivial)))))) ?_
      exact W
    · refine J_aload_no (pc' := 88) rfl rfl zg1 rfl ?_
      obtain ⟨zg21, W⟩ := W
      refine J_getA (G := 1109) (pc' := 91) rfl rfl (Nat.le_of_ble_eq_true rfl) rfl zg1 zg21 rfl ?_
      refine J_iload (pc' := 93) rfl rfl rfl ?_
      refine J_sipush (pc' := 96) rfl (by decide) (by decide) rfl ?_
      obtain ⟨zg22, W⟩ := W
      refine J_isub (pc' := 97) rfl zg22 rfl ?_
      obtain ⟨zg23, W⟩ := W
      obtain ⟨zg24, W⟩ := W
      refine J_iald (pc' := 98) rfl rfl zg23 zg24 rfl ?_
      refine J_iconst (pc' := 99) rfl (i32_d rfl) rfl ?_
      refine J_icmp (P := ra σ 1109 zo0 ((ra σ 1058 zo0 ((4 * zx3) + zx5)) - 8200) = (-1)) (t := 105) (f := 102) rfl rfl rfl jc_eq W (fun W => ?_) (fun W => ?_)
      · refine J_aload_no (pc' := 106) rfl rfl zg1 rfl ?_
        obtain ⟨zg25, W⟩ := W
        refine J_getA (G := 1110) (pc' := 109) rfl rfl (Nat.le_of_ble_eq_true rfl) rfl zg1 zg25 rfl ?_
        refine J_iload_n (pc' := 110) rfl rfl rfl ?_
        refine J_iload (pc' := 112) rfl rfl rfl ?_
        obtain ⟨zg27, W⟩ := W
        obtain ⟨zg28, W⟩ := W
        refine J_iast (pc' := 113) rfl rfl (by decide) zg27 zg28 rfl (fun zs26 ezs26 => ?_)
        replace W := W zs26 ezs26
        obtain ⟨zg29, W⟩ := W
        refine J_iinc (L' := [some (jo 1 zo0), some (ji zx1), some (ji (zx2 + 1)), some (ji zx3), some (ji zx4), some (ji zx5), some (ji (ra σ 1058 zo0 ((4 * zx3) + zx5)))]) (pc' := 116) rfl rfl zg29 rfl rfl ?_
        obtain ⟨zg30, W⟩ := W
        refine J_iinc (L' := [some (jo 1 zo0), some (ji zx1), some (ji (zx2 + 1)), some (ji zx3), some (ji zx4), some (ji (zx5 + 1)), some (ji (ra σ 1058 zo0 ((4 * zx3) + zx5)))]) (pc' := 119) rfl rfl zg30 rfl rfl ?_
        refine J_goto (pc' := 55) rfl rfl ?_
        refine J_weak (L' := [some (jo 1 zo0), some (ji zx1), some (ji (zx2 + 1)), some (ji zx3), some (ji zx4), some (ji (zx5 + 1)), none]) (And.intro rfl (And.intro rfl (And.intro rfl (And.intro rfl (And.intro rfl (And.intro rfl trivial)))))) ?_
        exact W
      · refine J_goto (pc' := 116) rfl rfl ?_
        obtain ⟨zg31, W⟩ := W
        refine J_iinc (L' := [some (jo 1 zo0), some (ji zx1), some (ji zx2), some (ji zx3), some (ji zx4), some (ji (zx5 + 1)), some (ji (ra σ 1058 zo0 ((4 * zx3) + zx5)))]) (pc' := 119) rfl rfl zg31 rfl rfl ?_
        refine J_goto (pc' := 55) rfl rfl ?_
        refine J_weak (L' := [some (jo 1 zo0), some (ji zx1), some (ji zx2), some (ji zx3), some (ji zx4), some (ji (zx5 + 1)), none]) (And.intro rfl (And.intro rfl (And.intro rfl (And.intro rfl (And.intro rfl (And.intro rfl trivial)))))) ?_
        exact W
set_option maxRecDepth 16000 in
theorem wp_Model_keepOne {n : Nat} {σ : jS} {Q : Int → jS → Prop} {zo0 : Int} {zx1 : Int} (W : 0 ≤ zo0 ∧ i32 ((rs σ 1063 zo0) + 1) ∧ (∀ zs3, zs3 = ws σ 1063 zo0 ((rs σ 1063 zo0) + 1) → 0 ≤ rl zs3 1052 zo0 ∧ 0 ≤ zx1 ∧ zx1 < rl zs3 1052 zo0 ∧ 0 ≤ rs σ 1063 zo0 ∧ rs σ 1063 zo0 < rl zs3 1052 zo0 ∧ (∀ zs7, zs7 = wa zs3 1052 zo0 (rs σ 1063 zo0) (ra zs3 1052 zo0 zx1) → 0 ≤ rl zs7 1053 zo0 ∧ zx1 < rl zs7 1053 zo0 ∧ 0 ≤ rs σ 1063 zo0 ∧ rs σ 1063 zo0 < rl zs7 1053 zo0 ∧ (∀ zs12, zs12 = wa zs7 1053 zo0 (rs σ 1063 zo0) (ra zs7 1053 zo0 zx1) → 0 ≤ rl zs12 1054 zo0 ∧ zx1 < rl zs12 1054 zo0 ∧ 0 ≤ rs σ 1063 zo0 ∧ rs σ 1063 zo0 < rl zs12 1054 zo0 ∧ (∀ zs17, zs17 = wa zs12 1054 zo0 (rs σ 1063 zo0) (ra zs12 1054 zo0 zx1) → 0 ≤ rl zs17 1055 zo0 ∧ zx1 < rl zs17 1055 zo0 ∧ 0 ≤ rs σ 1063 zo0 ∧ rs σ 1063 zo0 < rl zs17 1055 zo0 ∧ (∀ zs22, zs22 = wa zs17 1055 zo0 (rs σ 1063 zo0) (ra zs17 1055 zo0 zx1) → 0 ≤ rl zs22 1056 zo0 ∧ zx1 < rl zs22 1056 zo0 ∧ 0 ≤ rs σ 1063 zo0 ∧ rs σ 1063 zo0 < rl zs22 1056 zo0 ∧ (∀ zs27, zs27 = wa zs22 1056 zo0 (rs σ 1063 zo0) (ra zs22 1056 zo0 zx1) → 0 ≤ rl zs27 1057 zo0 ∧ zx1 < rl zs27 1057 zo0 ∧ 0 ≤ rs σ 1063 zo0 ∧ rs σ 1063 zo0 < rl zs27 1057 zo0 ∧ (∀ zs32, zs32 = wa zs27 1057 zo0 (rs σ 1063 zo0) (ra zs27 1057 zo0 zx1) → 0 ≤ rl zs32 1059 zo0 ∧ zx1 < rl zs32 1059 zo0 ∧ 0 ≤ rs σ 1063 zo0 ∧ rs σ 1063 zo0 < rl zs32 1059 zo0 ∧ (∀ zs37, zs37 = wa zs32 1059 zo0 (rs σ 1063 zo0) (ra zs32 1059 zo0 zx1) → J n c_Model_keepOne (some .int) 101 [some (jo 1 zo0), some (ji zx1), some (ji (rs σ 1063 zo0)), some (ji 0), none] [] zs37 (qI Q)))))))))) : TrI n i_Model_keepOne [jo 1 zo0, ji zx1] σ Q := by
  refine Tr_of ax_Z_73 ?_
  show J n c_Model_keepOne (some .int) 0 [some (jo 1 zo0), some (ji zx1), none, none, none] [] σ (qI Q)
  obtain ⟨zg1, W⟩ := W
  refine J_aload_no (pc' := 1) rfl rfl zg1 rfl ?_
  refine J_getI (G := 1063) (pc' := 4) rfl rfl (Nat.le_of_ble_eq_true rfl) rfl zg1 rfl ?_
  refine J_istore_n (L' := [some (jo 1 zo0), some (ji zx1), some (ji (rs σ 1063 zo0)), none, none]) (pc' := 5) rfl (Nat.le_of_ble_eq_true rfl) rfl rfl ?_
  refine J_aload_no (pc' := 6) rfl rfl zg1 rfl ?_
  refine J_dup (pc' := 7) rfl rfl rfl ?_
  refine J_getI (G := 1063) (pc' := 10) rfl rfl (Nat.le_of_ble_eq_true rfl) rfl zg1 rfl ?_
  refine J_iconst (pc' := 11) rfl (i32_d rfl) rfl ?_
  obtain ⟨zg2, W⟩ := W
  refine J_iadd (pc' := 12) rfl zg2 rfl ?_
  refine J_putI (G := 1063) (pc' := 15) rfl rfl (Nat.le_of_ble_eq_true rfl) rfl rfl zg1 rfl (fun zs3 ezs3 => ?_)
  replace W := W zs3 ezs3
  refine J_aload_no (pc' := 16) rfl rfl zg1 rfl ?_
  obtain ⟨zg4, W⟩ := W
  refine J_getA (G := 1052) (pc' := 19) rfl rfl (Nat.le_of_ble_eq_true rfl) rfl zg1 zg4 rfl ?_
  refine J_iload_n (pc' := 20) rfl rfl rfl ?_
  refine J_aload_no (pc' := 21) rfl rfl zg1 rfl ?_
  refine J_getA (G := 1052) (pc' := 24) rfl rfl (Nat.le_of_ble_eq_true rfl) rfl zg1 zg4 rfl ?_
  refine J_iload_n (pc' := 25) rfl rfl rfl ?_
  obtain ⟨zg5, W⟩ := W
  obtain ⟨zg6, W⟩ := W
  refine J_iald (pc' := 26) rfl rfl zg5 zg6 rfl ?_
  obtain ⟨zg8, W⟩ := W
  obtain ⟨zg9, W⟩ := W
  refine J_iast (pc' := 27) rfl rfl (by decide) zg8 zg9 rfl (fun zs7 ezs7 => ?_)
  replace W := W zs7 ezs7
  refine J_aload_no (pc' := 28) rfl rfl zg1 rfl ?_
  obtain ⟨zg10, W⟩ := W
  refine J_getA (G := 1053) (pc' := 31) rfl rfl (Nat.le_of_ble_eq_true rfl) rfl zg1 zg10 rfl ?_
  refine J_iload_n (pc' := 32) rfl rfl rfl ?_
  refine J_aload_no (pc' := 33) rfl rfl zg1 rfl ?_
  refine J_getA (G := 1053) (pc' := 36) rfl rfl (Nat.le_of_ble_eq_true rfl) rfl zg1 zg10 rfl ?_
  refine J_iload_n (pc' := 37) rfl rfl rfl ?_
  obtain ⟨zg11, W⟩ := W
  refine J_iald (pc' := 38) rfl rfl zg5 zg11 rfl ?_
  obtain ⟨zg13, W⟩ := W
  obtain ⟨zg14, W⟩ := W
  refine J_iast (pc' := 39) rfl rfl (by decide) zg13 zg14 rfl (fun zs12 ezs12 => ?_)
  replace W := W zs12 ezs12
  refine J_aload_no (pc' := 40) rfl rfl zg1 rfl ?_
  obtain ⟨zg15, W⟩ := W
  refine J_getA (G := 1054) (pc' := 43) rfl rfl (Nat.le_of_ble_eq_true rfl) rfl zg1 zg15 rfl ?_
  refine J_iload_n (pc' := 44) rfl rfl rfl ?_
  refine J_aload_no (pc' := 45) rfl rfl zg1 rfl ?_
  refine J_getA (G := 1054) (pc' := 48) rfl rfl (Nat.le_of_ble_eq_true rfl) rfl zg1 zg15 rfl ?_
  refine J_iload_n (pc' := 49) rfl rfl rfl ?_
  obtain ⟨zg16, W⟩ := W
  refine J_iald (pc' := 50) rfl rfl zg5 zg16 rfl ?_
  obtain ⟨zg18, W⟩ := W
  obtain ⟨zg19, W⟩ := W
  refine J_iast (pc' := 51) rfl rfl (by decide) zg18 zg19 rfl (fun zs17 ezs17 => ?_)
  replace W := W zs17 ezs17
  refine J_aload_no (pc' := 52) rfl rfl zg1 rfl ?_
  obtain ⟨zg20, W⟩ := W
  refine J_getA (G := 1055) (pc' := 55) rfl rfl (Nat.le_of_ble_eq_true rfl) rfl zg1 zg20 rfl ?_
  refine J_iload_n (pc' := 56) rfl rfl rfl ?_
  refine J_aload_no (pc' := 57) rfl rfl zg1 rfl ?_
  refine J_getA (G := 1055) (pc' := 60) rfl rfl (Nat.le_of_ble_eq_true rfl) rfl zg1 zg20 rfl ?_
  refine J_iload_n (pc' := 61) rfl rfl rfl ?_
  obtain ⟨zg21, W⟩ := W
  refine J_iald (pc' := 62) rfl rfl zg5 zg21 rfl ?_
  obtain ⟨zg23, W⟩ := W
  obtain ⟨zg24, W⟩ := W
  refine J_iast (pc' := 63) rfl rfl (by decide) zg23 zg24 rfl (fun zs22 ezs22 => ?_)
  replace W := W zs22 ezs22
  refine J_aload_no (pc' := 64) rfl rfl zg1 rfl ?_
  obtain ⟨zg25, W⟩ := W
  refine J_getA (G := 1056) (pc' := 67) rfl rfl (Nat.le_of_ble_eq_true rfl) rfl zg1 zg25 rfl ?_
  refine J_iload_n (pc' := 68) rfl rfl rfl ?_
  refine J_aload_no (pc' := 69) rfl rfl zg1 rfl ?_
  refine J_getA (G := 1056) (pc' := 72) rfl rfl (Nat.le_of_ble_eq_true rfl) rfl zg1 zg25 rfl ?_
  refine J_iload_n (pc' := 73) rfl rfl rfl ?_
  obtain ⟨zg26, W⟩ := W
  refine J_iald (pc' := 74) rfl rfl zg5 zg26 rfl ?_
  obtain ⟨zg28, W⟩ := W
  obtain ⟨zg29, W⟩ := W
  refine J_iast (pc' := 75) rfl rfl (by decide) zg28 zg29 rfl (fun zs27 ezs27 => ?_)
  replace W := W zs27 ezs27
  refine J_aload_no (pc' := 76) rfl rfl zg1 rfl ?_
  obtain ⟨zg30, W⟩ := W
  refine J_getA (G := 1057) (pc' := 79) rfl rfl (Nat.le_of_ble_eq_true rfl) rfl zg1 zg30 rfl ?_
  refine J_iload_n (pc' := 80) rfl rfl rfl ?_
  refine J_aload_no (pc' := 81) rfl rfl zg1 rfl ?_
  refine J_getA (G := 1057) (pc' := 84) rfl rfl (Nat.le_of_ble_eq_true rfl) rfl zg1 zg30 rfl ?_
  refine J_iload_n (pc' := 85) rfl rfl rfl ?_
  obtain ⟨zg31, W⟩ := W
  refine J_iald (pc' := 86) rfl rfl zg5 zg31 rfl ?_
  obtain ⟨zg33, W⟩ := W
  obtain ⟨zg34, W⟩ := W
  refine J_iast (pc' := 87) rfl rfl (by decide) zg33 zg34 rfl (fun zs32 ezs32 => ?_)
  replace W := W zs32 ezs32
  refine J_aload_no (pc' := 88) rfl rfl zg1 rfl ?_
  obtain ⟨zg35, W⟩ := W
  refine J_getA (G := 1059) (pc' := 91) rfl rfl (Nat.le_of_ble_eq_true rfl) rfl zg1 zg35 rfl ?_
  refine J_iload_n (pc' := 92) rfl rfl rfl ?_
  refine J_aload_no (pc' := 93) rfl rfl zg1 rfl ?_
  refine J_getA (G := 1059) (pc' := 96) rfl rfl (Nat.le_of_ble_eq_true rfl) rfl zg1 zg35 rfl ?_
  refine J_iload_n (pc' := 97) rfl rfl rfl ?_
  obtain ⟨zg36, W⟩ := W
  refine J_iald (pc' := 98) rfl rfl zg5 zg36 rfl ?_
  obtain ⟨zg38, W⟩ := W
  obtain ⟨zg39, W⟩ := W
  refine J_iast (pc' := 99) rfl rfl (by decide) zg38 zg39 rfl (fun zs37 ezs37 => ?_)
  replace W := W zs37 ezs37
  refine J_iconst (pc' := 100) rfl (i32_d rfl) rfl ?_
  refine J_istore_n (L' := [some (jo 1 zo0), some (ji zx1), some (ji (rs σ 1063 zo0)), some (ji 0), none]) (pc' := 101) rfl (Nat.le_of_ble_eq_true rfl) rfl rfl ?_
  exact W
set_option maxRecDepth 16000 in
theorem wp_Model_keepOne_101 {n : Nat} {σ : jS} {Q : Int → jS → Prop} {zo0 : Int} {zx1 : Int} {zx2 : Int} {zx3 : Int} (W : 0 ≤ zo0 ∧ 0 ≤ rl σ 1057 zo0 ∧ 0 ≤ zx1 ∧ zx1 < rl σ 1057 zo0 ∧ (if ra σ 1057 zo0 zx1 ≤ zx3 then 0 ≤ rl σ 1061 zo0 ∧ 0 ≤ rl σ 1060 zo0 ∧ zx1 < rl σ 1060 zo0 ∧ 1 ≤ n ∧ TrI (n - 1) i_Model_layOut [jo 1 zo0, ji (ra σ 1060 zo0 zx1)] σ (fun zr10 zs9 => 0 ≤ zx2 ∧ zx2 < rl zs9 1061 zo0 ∧ (∀ zs11, zs11 = wa zs9 1061 zo0 zx2 zr10 → 0 ≤ rl zs11 1060 zo0 ∧ zx2 < rl zs11 1060 zo0 ∧ (∀ zs15, zs15 = wa zs11 1060 zo0 zx2 (rs zs11 1065 zo0) → 0 ≤ rl zs15 1061 zo0 ∧ zx2 < rl zs15 1061 zo0 ∧ (if ra zs15 1061 zo0 zx2 ≤ 100 then 0 ≤ rl zs15 1041 zo0 ∧ 0 ≤ rl zs15 1062 zo0 ∧ TrV (n - 1) i_Model_copy [ja 1041 zo0, ji 0, ji (rs zs15 1043 zo0), ja 1062 zo0, ji (rs zs15 1065 zo0)] zs15 (fun zs21 => i32 ((rs zs21 1065 zo0) + (rs zs21 1043 zo0)) ∧ (∀ zs24, zs24 = ws zs21 1065 zo0 ((rs zs21 1065 zo0) + (rs zs21 1043 zo0)) → Q zx2 zs24)) else Q zx2 zs15)))) else 0 ≤ rl σ 1058 zo0 ∧ i32 (4 * zx1) ∧ i32 ((4 * zx1) + zx3) ∧ 0 ≤ (4 * zx1) + zx3 ∧ (4 * zx1) + zx3 < rl σ 1058 zo0 ∧ i32 (4 * zx2) ∧ i32 ((4 * zx2) + zx3) ∧ (if 8200 ≤ ra σ 1058 zo0 ((4 * zx1) + zx3) then 0 ≤ rl σ 1109 zo0 ∧ i32 ((ra σ 1058 zo0 ((4 * zx1) + zx3)) - 8200) ∧ 0 ≤ (ra σ 1058 zo0 ((4 * zx1) + zx3)) - 8200 ∧ (ra σ 1058 zo0 ((4 * zx1) + zx3)) - 8200 < rl σ 1109 zo0 ∧ 0 ≤ (4 * zx2) + zx3 ∧ (4 * zx2) + zx3 < rl σ 1058 zo0 ∧ (∀ zs36, zs36 = wa σ 1058 zo0 ((4 * zx2) + zx3) (ra σ 1109 zo0 ((ra σ 1058 zo0 ((4 * zx1) + zx3)) - 8200)) → i32 (zx3 + 1) ∧ J n c_Model_keepOne (some .int) 101 [some (jo 1 zo0), some (ji zx1), some (ji zx2), some (ji (zx3 + 1)), none] [] zs36 (qI Q)) else 0 ≤ (4 * zx2) + zx3 ∧ (4 * zx2) + zx3 < rl σ 1058 zo0 ∧ (∀ zs40, zs40 = wa σ 1058 zo0 ((4 * zx2) + zx3) (ra σ 1058 zo0 ((4 * zx1) + zx3)) → i32 (zx3 + 1) ∧ J n c_Model_keepOne (some .int) 101 [some (jo 1 zo0), some (ji zx1), some (ji zx2), some (ji (zx3 + 1)), none] [] zs40 (qI Q))))) : J n c_Model_keepOne (some .int) 101 [some (jo 1 zo0), some (ji zx1), some (ji zx2), some (ji zx3), none] [] σ (qI Q) := by
  refine J_iload_n (pc' := 102) rfl rfl rfl ?_
  obtain ⟨zg1, W⟩ := W
  refine J_aload_no (pc' := 103) rfl rfl zg1 rfl ?_
  obtain ⟨zg2, W⟩ := W
  refine J_getA (G := 1057) (pc' := 106) rfl rfl (Nat.le_of_ble_eq_true rfl) rfl zg1 zg2 rfl ?_
  refine J_iload_n (pc' := 107) rfl rfl rfl ?_
  obtain ⟨zg3, W⟩ := W
  obtain ⟨zg4, W⟩ := W
  refine J_iald (pc' := 108) rfl rfl zg3 zg4 rfl ?_
  refine J_icmp (P := ra σ 1057 zo0 zx1 ≤ zx3) (t := 163) (f := 111) rfl rfl rfl jc_ge W (fun W => ?_) (fun W => ?_)
  · refine J_aload_no (pc' := 164) rfl rfl zg1 rfl ?_
    obtain ⟨zg5, W⟩ := W
    refine J_getA (G := 1061) (pc' := 167) rfl rfl (Nat.le_of_ble_eq_true rfl) rfl zg1 zg5 rfl ?_
    refine J_iload_n (pc' := 168) rfl rfl rfl ?_
    refine J_aload_no (pc' := 169) rfl rfl zg1 rfl ?_
    refine J_aload_no (pc' := 170) rfl rfl zg1 rfl ?_
    obtain ⟨zg6, W⟩ := W
    refine J_getA (G := 1060) (pc' := 173) rfl rfl (Nat.le_of_ble_eq_true rfl) rfl zg1 zg6 rfl ?_
    refine J_iload_n (pc' := 174) rfl rfl rfl ?_
    obtain ⟨zg7, W⟩ := W
    refine J_iald (pc' := 175) rfl rfl zg3 zg7 rfl ?_
    obtain ⟨zg8, W⟩ := W
    refine J_weak (L' := [some (jo 1 zo0), none, some (ji zx2), none, none]) (And.intro rfl (And.intro rfl trivial)) ?_
    refine J_callI (as := [jo 1 zo0, ji (ra σ 1060 zo0 zx1)]) (rest := [ji zx2, ja 1061 zo0]) (pc' := 178) rfl rfl ax_Z_50 rfl rfl (Or.inr (Or.inr ⟨_, _, rfl, zg1⟩)) (Nat.le_of_ble_eq_true rfl) (Nat.le_of_ble_eq_true rfl) (Nat.le_of_ble_eq_true rfl) zg8 trivial (And.intro rfl trivial) rfl W (fun zr10 zs9 W => ?_)
    obtain ⟨zg12, W⟩ := W
    obtain ⟨zg13, W⟩ := W
    refine J_iast (pc' := 179) rfl rfl (by decide) zg12 zg13 rfl (fun zs11 ezs11 => ?_)
    replace W := W zs11 ezs11
    refine J_aload_no (pc' := 180) rfl rfl zg1 rfl ?_
    obtain ⟨zg14, W⟩ := W
    refine J_getA (G := 1060) (pc' := 183) rfl rfl (Nat.le_of_ble_eq_true rfl) rfl zg1 zg14 rfl ?_
    refine J_iload_n (pc' := 184) rfl rfl rfl ?_
    refine J_aload_no (pc' := 185) rfl rfl zg1 rfl ?_
    refine J_getI (G := 1065) (pc' := 188) rfl rfl (Nat.le_of_ble_eq_true rfl) rfl zg1 rfl ?_
    obtain ⟨zg16, W⟩ := W
    refine J_iast (pc' := 189) rfl rfl (by decide) zg12 zg16 rfl (fun zs15 ezs15 => ?_)
    replace W := W zs15 ezs15
    refine J_aload_no (pc' := 190) rfl rfl zg1 rfl ?_
    obtain ⟨zg17, W⟩ := W
    refine J_getA (G := 1061) (pc' := 193) rfl rfl (Nat.le_of_ble_eq_true rfl) rfl zg1 zg17 rfl ?_
    refine J_iload_n (pc' := 194) rfl rfl rfl ?_
    obtain ⟨zg18, W⟩ := W
    refine J_iald (pc' := 195) rfl rfl zg12 zg18 rfl ?_
    refine J_bipush (pc' := 197) rfl (by decide) (by decide) rfl ?_
    refine J_icmp (P := ra zs15 1061 zo0 zx2 ≤ 100) (t := 202) (f := 200) rfl rfl rfl jc_le W (fun W => ?_) (fun W => ?_)
    · refine J_aload_no (pc' := 203) rfl rfl zg1 rfl ?_
      obtain ⟨zg19, W⟩ := W
      refine J_getA (G := 1041) (pc' := 206) rfl rfl (Nat.le_of_ble_eq_true rfl) rfl zg1 zg19 rfl ?_
      refine J_iconst (pc' := 207) rfl (i32_d rfl) rfl ?_
      refine J_aload_no (pc' := 208) rfl rfl zg1 rfl ?_
      refine J_getI (G := 1043) (pc' := 211) rfl rfl (Nat.le_of_ble_eq_true rfl) rfl zg1 rfl ?_
      refine J_aload_no (pc' := 212) rfl rfl zg1 rfl ?_
      obtain ⟨zg20, W⟩ := W
      refine J_getA (G := 1062) (pc' := 215) rfl rfl (Nat.le_of_ble_eq_true rfl) rfl zg1 zg20 rfl ?_
      refine J_aload_no (pc' := 216) rfl rfl zg1 rfl ?_
      refine J_getI (G := 1065) (pc' := 219) rfl rfl (Nat.le_of_ble_eq_true rfl) rfl zg1 rfl ?_
      refine J_callV (as := [ja 1041 zo0, ji 0, ji (rs zs15 1043 zo0), ja 1062 zo0, ji (rs zs15 1065 zo0)]) (rest := []) (pc' := 222) rfl rfl ax_Z_16 rfl rfl (Or.inl rfl) (Nat.le_of_ble_eq_true rfl) (Nat.le_of_ble_eq_true rfl) (Nat.le_of_ble_eq_true rfl) zg8 trivial trivial rfl W (fun zs21 W => ?_)
      refine J_aload_no (pc' := 223) rfl rfl zg1 rfl ?_
      refine J_dup (pc' := 224) rfl rfl rfl ?_
      refine J_getI (G := 1065) (pc' := 227) rfl rfl (Nat.le_of_ble_eq_true rfl) rfl zg1 rfl ?_
      refine J_aload_no (pc' := 228) rfl rfl zg1 rfl ?_
      refine J_getI (G := 1043) (pc' := 231) rfl rfl (Nat.le_of_ble_eq_true rfl) rfl zg1 rfl ?_
      obtain ⟨zg23, W⟩ := W
      refine J_iadd (pc' := 232) rfl zg23 rfl ?_
      refine J_putI (G := 1065) (pc' := 235) rfl rfl (Nat.le_of_ble_eq_true rfl) rfl rfl zg1 rfl (fun zs24 ezs24 => ?_)
      replace W := W zs24 ezs24
      refine J_iload_n (pc' := 236) rfl rfl rfl ?_
      exact J_iret rfl rfl ⟨_, rfl, W⟩
    · refine J_iload_n (pc' := 201) rfl rfl rfl ?_
      exact J_iret rfl rfl ⟨_, rfl, W⟩
  · refine J_aload_no (pc' := 112) rfl rfl zg1 rfl ?_
    obtain ⟨zg25, W⟩ := W
    refine J_getA (G := 1058) (pc' := 115) rfl rfl (Nat.le_of_ble_eq_true rfl) rfl zg1 zg25 rfl ?_
    refine J_iconst (pc' := 116) rfl (i32_d rfl) rfl ?_
    refine J_iload_n (pc' := 117) rfl rfl rfl ?_
    obtain ⟨zg26, W⟩ := W
    refine J_imul (pc' := 118) rfl zg26 rfl ?_
    refine J_iload_n (pc' := 119) rfl rfl rfl ?_
    obtain ⟨zg27, W⟩ := W
    refine J_iadd (pc' := 120) rfl zg27 rfl ?_
    obtain ⟨zg28, W⟩ := W
    obtain ⟨zg29, W⟩ := W
    refine J_iald (pc' := 121) rfl rfl zg28 zg29 rfl ?_
    refine J_istore (L' := [some (jo 1 zo0), some (ji zx1), some (ji zx2), some (ji zx3), some (ji (ra σ 1058 zo0 ((4 * zx1) + zx3)))]) (pc' := 123) rfl (Nat.le_of_ble_eq_true rfl) rfl rfl ?_
    refine J_aload_no (pc' := 124) rfl rfl zg1 rfl ?_
    refine J_getA (G := 1058) (pc' := 127) rfl rfl (Nat.le_of_ble_eq_true rfl) rfl zg1 zg25 rfl ?_
    refine J_iconst (pc' := 128) rfl (i32_d rfl) rfl ?_
    refine J_iload_n (pc' := 129) rfl rfl rfl ?_
    obtain ⟨zg30, W⟩ := W
    refine J_imul (pc' := 130) rfl zg30 rfl ?_
    refine J_iload_n (pc' := 131) rfl rfl rfl ?_
    obtain ⟨zg31, W⟩ := W
    refine J_iadd (pc' := 132) rfl zg31 rfl ?_
    refine J_iload (pc' := 134) rfl rfl rfl ?_
    refine J_sipush (pc' := 137) rfl (by decide) (by decide) rfl ?_
    refine J_icmp (P := 8200 ≤ ra σ 1058 zo0 ((4 * zx1) + zx3)) (t := 145) (f := 140) rfl rfl rfl jc_ge W (fun W => ?_) (fun W => ?_)
    · refine J_aload_no (pc' := 146) rfl rfl zg1 rfl ?_
      obtain ⟨zg32, W⟩ := W
      refine J_getA (G := 1109) (pc' := 149) rfl rfl (Nat.le_of_ble_eq_true rfl) rfl zg1 zg32 rfl ?_
      refine J_iload (pc' := 151) rfl rfl rfl ?_
      refine J_sipush (pc' := 154) rfl (by decide) (by decide) rfl ?_
      obtain ⟨zg33, W⟩ := W
      refine J_isub (pc' := 155) rfl zg33 rfl ?_
      obtain ⟨zg34, W⟩ := W
      obtain ⟨zg35, W⟩ := W
      refine J_iald (pc' := 156) rfl rfl zg34 zg35 rfl ?_
      obtain ⟨zg37, W⟩ := W
      obtain ⟨zg38, W⟩ := W
      refine J_iast (pc' := 157) rfl rfl (by decide) zg37 zg38 rfl (fun zs36 ezs36 => ?_)
      replace W := W zs36 ezs36
      obtain ⟨zg39, W⟩ := W
      refine J_iinc (L' := [some (jo 1 zo0), some (ji zx1), some (ji zx2), some (ji (zx3 + 1)), some (ji (ra σ 1058 zo0 ((4 * zx1) + zx3)))]) (pc' := 160) rfl rfl zg39 rfl rfl ?_
      refine J_goto (pc' := 101) rfl rfl ?_
      refine J_weak (L' := [some (jo 1 zo0), some (ji zx1), some (ji zx2), some (ji (zx3 + 1)), none]) (And.intro rfl (And.intro rfl (And.intro rfl (And.intro rfl trivial)))) ?_
      exact W
    · refine J_iload (pc' := 142) rfl rfl rfl ?_
      refine J_goto (pc' := 156) rfl rfl ?_
      obtain ⟨zg41, W⟩ := W
      obtain ⟨zg42, W⟩ := W
      refine J_iast (pc' := 157) rfl rfl (by decide) zg41 zg42 rfl (fun zs40 ezs40 => ?_)
      replace W := W zs40 ezs40
      obtain ⟨zg43, W⟩ := W
      refine J_iinc (L' := [some (jo 1 zo0), some (ji zx1), some (ji zx2), some (ji (zx3 + 1)), some (ji (ra σ 1058 zo0 ((4 * zx1) + zx3)))]) (pc' := 160) rfl rfl zg43 rfl rfl ?_
      refine J_goto (pc' := 101) rfl rfl ?_
      refine J_weak (L' := [some (jo 1 zo0), some (ji zx1), some (ji zx2), some (ji (zx3 + 1)), none]) (And.intro rfl (And.intro rfl (And.intro rfl (And.intro rfl trivial)))) ?_
      exact W
theorem wp_Model_askAll {n : Nat} {σ : jS} {Q : Int → jS → Prop} {zo0 : Int} {zx1 : Int} (W : 0 ≤ zo0 ∧ (zx1 = 0 ∨ zx1 = 1) ∧ (∀ zs2, zs2 = ws σ 1100 zo0 zx1 → 1 ≤ n ∧ TrV (n - 1) i_Model_beginHeap [jo 1 zo0] zs2 (fun zs5 => (∀ zs7, zs7 = ws zs5 1064 zo0 8200 → (∀ zs8, zs8 = ws zs7 1097 zo0 0 → (∀ zs9, zs9 = ws zs8 1098 zo0 0 → (∀ zs10, zs10 = ws zs9 1099 zo0 (-1) → (∀ zs11, zs11 = ws zs10 1101 zo0 0 → (∀ zs12, zs12 = ws zs11 1103 zo0 0 → (∀ zs13, zs13 = ws zs12 1104 zo0 0 → (∀ zs14, zs14 = ws zs13 1105 zo0 0 → (∀ zs15, zs15 = ws zs14 1106 zo0 0 → (∀ zs16, zs16 = ws zs15 1107 zo0 0 → (∀ zs17, zs17 = ws zs16 1108 zo0 (rs zs16 1050 zo0) → TrV (n - 1) i_Model_newUnknowns [jo 1 zo0] zs17 (fun zs18 => 0 ≤ rl zs18 1048 zo0 ∧ TrI (n - 1) i_Model_layRow [jo 1 zo0, ja 1048 zo0, ji 0, ji (rs zs18 1049 zo0)] zs18 (fun zr22 zs21 => (∀ zs23, zs23 = ws zs21 1111 zo0 zr22 → TrV (n - 1) i_Model_askGoal [jo 1 zo0, ji (rs zs23 1111 zo0)] zs23 (fun zs24 => J n c_Model_askAll (some .int) 98 [some (jo 1 zo0), none] [] zs24 (qI Q))))))))))))))))))) : TrI n i_Model_askAll [jo 1 zo0, ji zx1] σ Q := by
  refine Tr_of ax_Z_74 ?_
  show J n c_Model_askAll (some .int) 0 [some (jo 1 zo0), some (ji zx1)] [] σ (qI Q)
  obtain ⟨zg1, W⟩ := W
  refine J_aload_no (pc' := 1) rfl rfl zg1 rfl ?_
  refine J_iload_n (pc' := 2) rfl rfl rfl ?_
  obtain ⟨zg3, W⟩ := W
  refine J_putZ (G := 1100) (pc' := 5) rfl rfl (Nat.le_of_ble_eq_true rfl) rfl rfl zg1 zg3 rfl (fun zs2 ezs2 => ?_)
  replace W := W zs2 ezs2
  refine J_aload_no (pc' := 6) rfl rfl zg1 rfl ?_
  obtain ⟨zg4, W⟩ := W
  refine J_weak (L' := [some (jo 1 zo0), none]) (And.intro rfl trivial) ?_
  refine J_callV (as := [jo 1 zo0]) (rest := []) (pc' := 9) rfl rfl ax_Z_39 rfl rfl (Or.inr (Or.inr ⟨_, _, rfl, zg1⟩)) (Nat.le_of_ble_eq_true rfl) (Nat.le_of_ble_eq_true rfl) (Nat.le_of_ble_eq_true rfl) zg4 trivial trivial rfl W (fun zs5 W => ?_)
  refine J_aload_no (pc' := 10) rfl rfl zg1 rfl ?_
  refine J_sipush (pc' := 13) rfl (by decide) (by decide) rfl ?_
  refine J_putI (G := 1064) (pc' := 16) rfl rfl (Nat.le_of_ble_eq_true rfl) rfl rfl zg1 rfl (fun zs7 ezs7 => ?_)
  replace W := W zs7 ezs7
  refine J_aload_no (pc' := 17) rfl rfl zg1 rfl ?_
  refine J_iconst (pc' := 18) rfl (i32_d rfl) rfl ?_
  refine J_putI (G := 1097) (pc' := 21) rfl rfl (Nat.le_of_ble_eq_true rfl) rfl rfl zg1 rfl (fun zs8 ezs8 => ?_)
  replace W := W zs8 ezs8
  refine J_aload_no (pc' := 22) rfl rfl zg1 rfl ?_
  refine J_iconst (pc' := 23) rfl (i32_d rfl) rfl ?_
  refine J_putI (G := 1098) (pc' := 26) rfl rfl (Nat.le_of_ble_eq_true rfl) rfl rfl zg1 rfl (fun zs9 ezs9 => ?_)
  replace W := W zs9 ezs9
  refine J_aload_no (pc' := 27) rfl rfl zg1 rfl ?_
  refine J_iconst (pc' := 28) rfl (i32_d rfl) rfl ?_
  refine J_putI (G := 1099) (pc' := 31) rfl rfl (Nat.le_of_ble_eq_true rfl) rfl rfl zg1 rfl (fun zs10 ezs10 => ?_)
  replace W := W zs10 ezs10
  refine J_aload_no (pc' := 32) rfl rfl zg1 rfl ?_
  refine J_iconst (pc' := 33) rfl (i32_d rfl) rfl ?_
  refine J_putZ (G := 1101) (pc' := 36) rfl rfl (Nat.le_of_ble_eq_true rfl) rfl rfl zg1 (Or.inl rfl) rfl (fun zs11 ezs11 => ?_)
  replace W := W zs11 ezs11
  refine J_aload_no (pc' := 37) rfl rfl zg1 rfl ?_
  refine J_iconst (pc' := 38) rfl (i32_d rfl) rfl ?_
  refine J_putI (G := 1103) (pc' := 41) rfl rfl (Nat.le_of_ble_eq_true rfl) rfl rfl zg1 rfl (fun zs12 ezs12 => ?_)
  replace W := W zs12 ezs12
  refine J_aload_no (pc' := 42) rfl rfl zg1 rfl ?_
  refine J_iconst (pc' := 43) rfl (i32_d rfl) rfl ?_
  refine J_putI (G := 1104) (pc' := 46) rfl rfl (Nat.le_of_ble_eq_true rfl) rfl rfl zg1 rfl (fun zs13 ezs13 => ?_)
  replace W := W zs13 ezs13
  refine J_aload_no (pc' := 47) rfl rfl zg1 rfl ?_
  refine J_iconst (pc' := 48) rfl (i32_d rfl) rfl ?_
  refine J_putI (G := 1105) (pc' := 51) rfl rfl (Nat.le_of_ble_eq_true rfl) rfl rfl zg1 rfl (fun zs14 ezs14 => ?_)
  replace W := W zs14 ezs14
  refine J_aload_no (pc' := 52) rfl rfl zg1 rfl ?_
  refine J_iconst (pc' := 53) rfl (i32_d rfl) rfl ?_
  refine J_putI (G := 1106) (pc' := 56) rfl rfl (Nat.le_of_ble_eq_true rfl) rfl rfl zg1 rfl (fun zs15 ezs15 => ?_)
  replace W := W zs15 ezs15
  refine J_aload_no (pc' := 57) rfl rfl zg1 rfl ?_
  refine J_iconst (pc' := 58) rfl (i32_d rfl) rfl ?_
  refine J_putI (G := 1107) (pc' := 61) rfl rfl (Nat.le_of_ble_eq_true rfl) rfl rfl zg1 rfl (fun zs16 ezs16 => ?_)
  replace W := W zs16 ezs16
  refine J_aload_no (pc' := 62) rfl rfl zg1 rfl ?_
  refine J_aload_no (pc' := 63) rfl rfl zg1 rfl ?_
  refine J_getI (G := 1050) (pc' := 66) rfl rfl (Nat.le_of_ble_eq_true rfl) rfl zg1 rfl ?_
  refine J_putI (G := 1108) (pc' := 69) rfl rfl (Nat.le_of_ble_eq_true rfl) rfl rfl zg1 rfl (fun zs17 ezs17 => ?_)
  replace W := W zs17 ezs17
  refine J_aload_no (pc' := 70) rfl rfl zg1 rfl ?_
  refine J_callV (as := [jo 1 zo0]) (rest := []) (pc' := 73) rfl rfl ax_Z_41 rfl rfl (Or.inr (Or.inr ⟨_, _, rfl, zg1⟩)) (Nat.le_of_ble_eq_true rfl) (Nat.le_of_ble_eq_true rfl) (Nat.le_of_ble_eq_true rfl) zg4 trivial trivial rfl W (fun zs18 W => ?_)
  refine J_aload_no (pc' := 74) rfl rfl zg1 rfl ?_
  refine J_aload_no (pc' := 75) rfl rfl zg1 rfl ?_
  refine J_aload_no (pc' := 76) rfl rfl zg1 rfl ?_
  obtain ⟨zg20, W⟩ := W
  refine J_getA (G := 1048) (pc' := 79) rfl rfl (Nat.le_of_ble_eq_true rfl) rfl zg1 zg20 rfl ?_
  refine J_iconst (pc' := 80) rfl (i32_d rfl) rfl ?_
  refine J_aload_no (pc' := 81) rfl rfl zg1 rfl ?_
  refine J_getI (G := 1049) (pc' := 84) rfl rfl (Nat.le_of_ble_eq_true rfl) rfl zg1 rfl ?_
  refine J_callI (as := [jo 1 zo0, ja 1048 zo0, ji 0, ji (rs zs18 1049 zo0)]) (rest := [jo 1 zo0]) (pc' := 87) rfl rfl ax_Z_42 rfl rfl (Or.inr (Or.inr ⟨_, _, rfl, zg1⟩)) (Nat.le_of_ble_eq_true rfl) (Nat.le_of_ble_eq_true rfl) (Nat.le_of_ble_eq_true rfl) zg4 trivial trivial rfl W (fun zr22 zs21 W => ?_)
  refine J_putI (G := 1111) (pc' := 90) rfl rfl (Nat.le_of_ble_eq_true rfl) rfl rfl zg1 rfl (fun zs23 ezs23 => ?_)
  replace W := W zs23 ezs23
  refine J_aload_no (pc' := 91) rfl rfl zg1 rfl ?_
  refine J_aload_no (pc' := 92) rfl rfl zg1 rfl ?_
  refine J_getI (G := 1111) (pc' := 95) rfl rfl (Nat.le_of_ble_eq_true rfl) rfl zg1 rfl ?_
  refine J_callV (as := [jo 1 zo0, ji (rs zs23 1111 zo0)]) (rest := []) (pc' := 98) rfl rfl ax_Z_60 rfl rfl (Or.inr (Or.inr ⟨_, _, rfl, zg1⟩)) (Nat.le_of_ble_eq_true rfl) (Nat.le_of_ble_eq_true rfl) (Nat.le_of_ble_eq_true rfl) zg4 trivial trivial rfl W (fun zs24 W => ?_)
  exact W
theorem wp_Model_askAll_98 {n : Nat} {σ : jS} {Q : Int → jS → Prop} {zo0 : Int} (W : 0 ≤ zo0 ∧ (if ¬ rs σ 1099 zo0 = (-1) then J n c_Model_askAll (some .int) 120 [some (jo 1 zo0), none] [] σ (qI Q) else (if rs σ 1098 zo0 ≤ 0 then J n c_Model_askAll (some .int) 120 [some (jo 1 zo0), none] [] σ (qI Q) else 1 ≤ n ∧ TrV (n - 1) i_Model_step [jo 1 zo0] σ (fun zs3 => J n c_Model_askAll (some .int) 98 [some (jo 1 zo0), none] [] zs3 (qI Q))))) : J n c_Model_askAll (some .int) 98 [some (jo 1 zo0), none] [] σ (qI Q) := by
  obtain ⟨zg1, W⟩ := W
  refine J_aload_no (pc' := 99) rfl rfl zg1 rfl ?_
  refine J_getI (G := 1099) (pc' := 102) rfl rfl (Nat.le_of_ble_eq_true rfl) rfl zg1 rfl ?_
  refine J_iconst (pc' := 103) rfl (i32_d rfl) rfl ?_
  refine J_icmp (P := ¬ rs σ 1099 zo0 = (-1)) (t := 120) (f := 106) rfl rfl rfl jc_ne W (fun W => ?_) (fun W => ?_)
  · exact W
  · refine J_aload_no (pc' := 107) rfl rfl zg1 rfl ?_
    refine J_getI (G := 1098) (pc' := 110) rfl rfl (Nat.le_of_ble_eq_true rfl) rfl zg1 rfl ?_
    refine J_if (P := rs σ 1098 zo0 ≤ 0) (t := 120) (f := 113) rfl rfl rfl jc_le W (fun W => ?_) (fun W => ?_)
    · exact W
    · refine J_aload_no (pc' := 114) rfl rfl zg1 rfl ?_
      obtain ⟨zg2, W⟩ := W
      refine J_callV (as := [jo 1 zo0]) (rest := []) (pc' := 117) rfl rfl ax_Z_67 rfl rfl (Or.inr (Or.inr ⟨_, _, rfl, zg1⟩)) (Nat.le_of_ble_eq_true rfl) (Nat.le_of_ble_eq_true rfl) (Nat.le_of_ble_eq_true rfl) zg2 trivial trivial rfl W (fun zs3 W => ?_)
      refine J_goto (pc' := 98) rfl rfl ?_
      exact W
theorem wp_Model_askAll_120 {n : Nat} {σ : jS} {Q : Int → jS → Prop} {zo0 : Int} (W : 0 ≤ zo0 ∧ (if rs σ 1099 zo0 = (-1) then (if ¬ rs σ 1102 zo0 = (-1) then Q 0 σ else Q 1 σ) else Q (rs σ 1099 zo0) σ)) : J n c_Model_askAll (some .int) 120 [some (jo 1 zo0), none] [] σ (qI Q) := by
  obtain ⟨zg1, W⟩ := W
  refine J_aload_no (pc' := 121) rfl rfl zg1 rfl ?_
  refine J_getI (G := 1099) (pc' := 124) rfl rfl (Nat.le_of_ble_eq_true rfl) rfl zg1 rfl ?_
  refine J_iconst (pc' := 125) rfl (i32_d rfl) rfl ?_
  refine J_icmp (P := rs σ 1099 zo0 = (-1)) (t := 135) (f := 128) rfl rfl rfl jc_eq W (fun W => ?_) (fun W => ?_)
  · refine J_aload_no (pc' := 136) rfl rfl zg1 rfl ?_
    refine J_getI (G := 1102) (pc' := 139) rfl rfl (Nat.le_of_ble_eq_true rfl) rfl zg1 rfl ?_
    refine J_iconst (pc' := 140) rfl (i32_d rfl) rfl ?_
    refine J_icmp (P := ¬ rs σ 1102 zo0 = (-1)) (t := 147) (f := 143) rfl rfl rfl jc_ne W (fun W => ?_) (fun W => ?_)
    · refine J_iconst (pc' := 148) rfl (i32_d rfl) rfl ?_
      exact J_iret rfl rfl ⟨_, rfl, W⟩
    · refine J_iconst (pc' := 144) rfl (i32_d rfl) rfl ?_
      refine J_goto (pc' := 148) rfl rfl ?_
      exact J_iret rfl rfl ⟨_, rfl, W⟩
  · refine J_aload_no (pc' := 129) rfl rfl zg1 rfl ?_
    refine J_getI (G := 1099) (pc' := 132) rfl rfl (Nat.le_of_ble_eq_true rfl) rfl zg1 rfl ?_
    refine J_goto (pc' := 148) rfl rfl ?_
    exact J_iret rfl rfl ⟨_, rfl, W⟩
theorem wp_Model_layNodeGoal {n : Nat} {σ : jS} {Q : jS → Prop} {zo0 : Int} {zx1 : Int} {zx2 : Int} (W : (if zx1 < 8200 then 0 ≤ zo0 ∧ 0 ≤ rl σ 1122 zo0 ∧ 0 ≤ rl σ 1061 zo0 ∧ 0 ≤ zx1 ∧ zx1 < rl σ 1061 zo0 ∧ 0 ≤ zx2 ∧ zx2 < rl σ 1122 zo0 ∧ (∀ zs6, zs6 = wa σ 1122 zo0 zx2 (ra σ 1061 zo0 zx1) → 0 ≤ rl zs6 1122 zo0 ∧ zx2 < rl zs6 1122 zo0 ∧ (if 100 < ra zs6 1122 zo0 zx2 then Q zs6 else 0 ≤ rl zs6 1062 zo0 ∧ 0 ≤ rl zs6 1060 zo0 ∧ zx1 < rl zs6 1060 zo0 ∧ 0 ≤ rl zs6 1061 zo0 ∧ zx1 < rl zs6 1061 zo0 ∧ 0 ≤ rl zs6 1123 zo0 ∧ i32 (100 * zx2) ∧ 1 ≤ n ∧ TrV (n - 1) i_Model_copy [ja 1062 zo0, ji (ra zs6 1060 zo0 zx1), ji (ra zs6 1061 zo0 zx1), ja 1123 zo0, ji (100 * zx2)] zs6 (fun zs19 => Q zs19))) else 0 ≤ zo0 ∧ 0 ≤ rl σ 1122 zo0 ∧ 0 ≤ rl σ 1060 zo0 ∧ 0 ≤ zx1 ∧ zx1 < rl σ 1060 zo0 ∧ 1 ≤ n ∧ TrI (n - 1) i_Model_layOut [jo 1 zo0, ji (ra σ 1060 zo0 zx1)] σ (fun zr28 zs27 => 0 ≤ zx2 ∧ zx2 < rl zs27 1122 zo0 ∧ (∀ zs29, zs29 = wa zs27 1122 zo0 zx2 zr28 → 0 ≤ rl zs29 1122 zo0 ∧ zx2 < rl zs29 1122 zo0 ∧ (if 100 < ra zs29 1122 zo0 zx2 then Q zs29 else 0 ≤ rl zs29 1041 zo0 ∧ 0 ≤ rl zs29 1123 zo0 ∧ i32 (100 * zx2) ∧ TrV (n - 1) i_Model_copy [ja 1041 zo0, ji 0, ji (rs zs29 1043 zo0), ja 1123 zo0, ji (100 * zx2)] zs29 (fun zs37 => Q zs37)))))) : TrV n i_Model_layNodeGoal [jo 1 zo0, ji zx1, ji zx2] σ Q := by
  refine Tr_of ax_Z_75 ?_
  show J n c_Model_layNodeGoal none 0 [some (jo 1 zo0), some (ji zx1), some (ji zx2)] [] σ (qV Q)
  refine J_iload_n (pc' := 1) rfl rfl rfl ?_
  refine J_sipush (pc' := 4) rfl (by decide) (by decide) rfl ?_
  refine J_icmp (P := zx1 < 8200) (t := 55) (f := 7) rfl rfl rfl jc_lt W (fun W => ?_) (fun W => ?_)
  · obtain ⟨zg1, W⟩ := W
    refine J_aload_no (pc' := 56) rfl rfl zg1 rfl ?_
    obtain ⟨zg2, W⟩ := W
    refine J_getA (G := 1122) (pc' := 59) rfl rfl (Nat.le_of_ble_eq_true rfl) rfl zg1 zg2 rfl ?_
    refine J_iload_n (pc' := 60) rfl rfl rfl ?_
    refine J_aload_no (pc' := 61) rfl rfl zg1 rfl ?_
    obtain ⟨zg3, W⟩ := W
    refine J_getA (G := 1061) (pc' := 64) rfl rfl (Nat.le_of_ble_eq_true rfl) rfl zg1 zg3 rfl ?_
    refine J_iload_n (pc' := 65) rfl rfl rfl ?_
    obtain ⟨zg4, W⟩ := W
    obtain ⟨zg5, W⟩ := W
    refine J_iald (pc' := 66) rfl rfl zg4 zg5 rfl ?_
    obtain ⟨zg7, W⟩ := W
    obtain ⟨zg8, W⟩ := W
    refine J_iast (pc' := 67) rfl rfl (by decide) zg7 zg8 rfl (fun zs6 ezs6 => ?_)
    replace W := W zs6 ezs6
    refine J_aload_no (pc' := 68) rfl rfl zg1 rfl ?_
    obtain ⟨zg9, W⟩ := W
    refine J_getA (G := 1122) (pc' := 71) rfl rfl (Nat.le_of_ble_eq_true rfl) rfl zg1 zg9 rfl ?_
    refine J_iload_n (pc' := 72) rfl rfl rfl ?_
    obtain ⟨zg10, W⟩ := W
    refine J_iald (pc' := 73) rfl rfl zg7 zg10 rfl ?_
    refine J_bipush (pc' := 75) rfl (by decide) (by decide) rfl ?_
    refine J_icmp (P := 100 < ra zs6 1122 zo0 zx2) (t := 105) (f := 78) rfl rfl rfl jc_gt W (fun W => ?_) (fun W => ?_)
    · exact J_vret rfl rfl ⟨rfl, W⟩
    · refine J_aload_no (pc' := 79) rfl rfl zg1 rfl ?_
      obtain ⟨zg11, W⟩ := W
      refine J_getA (G := 1062) (pc' := 82) rfl rfl (Nat.le_of_ble_eq_true rfl) rfl zg1 zg11 rfl ?_
      refine J_aload_no (pc' := 83) rfl rfl zg1 rfl ?_
      obtain ⟨zg12, W⟩ := W
      refine J_getA (G := 1060) (pc' := 86) rfl rfl (Nat.le_of_ble_eq_true rfl) rfl zg1 zg12 rfl ?_
      refine J_iload_n (pc' := 87) rfl rfl rfl ?_
      obtain ⟨zg13, W⟩ := W
      refine J_iald (pc' := 88) rfl rfl zg4 zg13 rfl ?_
      refine J_aload_no (pc' := 89) rfl rfl zg1 rfl ?_
      obtain ⟨zg14, W⟩ := W
      refine J_getA (G := 1061) (pc' := 92) rfl rfl (Nat.le_of_ble_eq_true rfl) rfl zg1 zg14 rfl ?_
      refine J_iload_n (pc' := 93) rfl rfl rfl ?_
      obtain ⟨zg15, W⟩ := W
      refine J_iald (pc' := 94) rfl rfl zg4 zg15 rfl ?_
      refine J_aload_no (pc' := 95) rfl rfl zg1 rfl ?_
      obtain ⟨zg16, W⟩ := W
      refine J_getA (G := 1123) (pc' := 98) rfl rfl (Nat.le_of_ble_eq_true rfl) rfl zg1 zg16 rfl ?_
      refine J_bipush (pc' := 100) rfl (by decide) (by decide) rfl ?_
      refine J_iload_n (pc' := 101) rfl rfl rfl ?_
      obtain ⟨zg17, W⟩ := W
      refine J_imul (pc' := 102) rfl zg17 rfl ?_
      obtain ⟨zg18, W⟩ := W
      refine J_weak (L' := [none, none, none]) trivial ?_
      refine J_callV (as := [ja 1062 zo0, ji (ra zs6 1060 zo0 zx1), ji (ra zs6 1061 zo0 zx1), ja 1123 zo0, ji (100 * zx2)]) (rest := []) (pc' := 105) rfl rfl ax_Z_16 rfl rfl (Or.inl rfl) (Nat.le_of_ble_eq_true rfl) (Nat.le_of_ble_eq_true rfl) (Nat.le_of_ble_eq_true rfl) zg18 trivial trivial rfl W (fun zs19 W => ?_)
      exact J_vret rfl rfl ⟨rfl, W⟩
  · obtain ⟨zg21, W⟩ := W
    refine J_aload_no (pc' := 8) rfl rfl zg21 rfl ?_
    obtain ⟨zg22, W⟩ := W
    refine J_getA (G := 1122) (pc' := 11) rfl rfl (Nat.le_of_ble_eq_true rfl) rfl zg21 zg22 rfl ?_
    refine J_iload_n (pc' := 12) rfl rfl rfl ?_
    refine J_aload_no (pc' := 13) rfl rfl zg21 rfl ?_
    refine J_aload_no (pc' := 14) rfl rfl zg21 rfl ?_
    obtain ⟨zg23, W⟩ := W
    refine J_getA (G := 1060) (pc' := 17) rfl rfl (Nat.le_of_ble_eq_true rfl) rfl zg21 zg23 rfl ?_
    refine J_iload_n (pc' := 18) rfl rfl rfl ?_
    obtain ⟨zg24, W⟩ := W
    obtain ⟨zg25, W⟩ := W
    refine J_iald (pc' := 19) rfl rfl zg24 zg25 rfl ?_
    obtain ⟨zg26, W⟩ := W
    refine J_weak (L' := [some (jo 1 zo0), none, some (ji zx2)]) (And.intro rfl (And.intro rfl trivial)) ?_
    refine J_callI (as := [jo 1 zo0, ji (ra σ 1060 zo0 zx1)]) (rest := [ji zx2, ja 1122 zo0]) (pc' := 22) rfl rfl ax_Z_50 rfl rfl (Or.inr (Or.inr ⟨_, _, rfl, zg21⟩)) (Nat.le_of_ble_eq_true rfl) (Nat.le_of_ble_eq_true rfl) (Nat.le_of_ble_eq_true rfl) zg26 trivial (And.intro rfl trivial) rfl W (fun zr28 zs27 W => ?_)
    obtain ⟨zg30, W⟩ := W
    obtain ⟨zg31, W⟩ := W
    refine J_iast (pc' := 23) rfl rfl (by decide) zg30 zg31 rfl (fun zs29 ezs29 => ?_)
    replace W := W zs29 ezs29
    refine J_aload_no (pc' := 24) rfl rfl zg21 rfl ?_
    obtain ⟨zg32, W⟩ := W
    refine J_getA (G := 1122) (pc' := 27) rfl rfl (Nat.le_of_ble_eq_true rfl) rfl zg21 zg32 rfl ?_
    refine J_iload_n (pc' := 28) rfl rfl rfl ?_
    obtain ⟨zg33, W⟩ := W
    refine J_iald (pc' := 29) rfl rfl zg30 zg33 rfl ?_
    refine J_bipush (pc' := 31) rfl (by decide) (by decide) rfl ?_
    refine J_icmp (P := 100 < ra zs29 1122 zo0 zx2) (t := 54) (f := 34) rfl rfl rfl jc_gt W (fun W => ?_) (fun W => ?_)
    · exact J_vret rfl rfl ⟨rfl, W⟩
    · refine J_aload_no (pc' := 35) rfl rfl zg21 rfl ?_
      obtain ⟨zg34, W⟩ := W
      refine J_getA (G := 1041) (pc' := 38) rfl rfl (Nat.le_of_ble_eq_true rfl) rfl zg21 zg34 rfl ?_
      refine J_iconst (pc' := 39) rfl (i32_d rfl) rfl ?_
      refine J_aload_no (pc' := 40) rfl rfl zg21 rfl ?_
      refine J_getI (G := 1043) (pc' := 43) rfl rfl (Nat.le_of_ble_eq_true rfl) rfl zg21 rfl ?_
      refine J_aload_no (pc' := 44) rfl rfl zg21 rfl ?_
      obtain ⟨zg35, W⟩ := W
      refine J_getA (G := 1123) (pc' := 47) rfl rfl (Nat.le_of_ble_eq_true rfl) rfl zg21 zg35 rfl ?_
      refine J_bipush (pc' := 49) rfl (by decide) (by decide) rfl ?_
      refine J_iload_n (pc' := 50) rfl rfl rfl ?_
      obtain ⟨zg36, W⟩ := W
      refine J_imul (pc' := 51) rfl zg36 rfl ?_
      refine J_weak (L' := [none, none, none]) trivial ?_
      refine J_callV (as := [ja 1041 zo0, ji 0, ji (rs zs29 1043 zo0), ja 1123 zo0, ji (100 * zx2)]) (rest := []) (pc' := 54) rfl rfl ax_Z_16 rfl rfl (Or.inl rfl) (Nat.le_of_ble_eq_true rfl) (Nat.le_of_ble_eq_true rfl) (Nat.le_of_ble_eq_true rfl) zg26 trivial trivial rfl W (fun zs37 W => ?_)
      exact J_vret rfl rfl ⟨rfl, W⟩
set_option maxRecDepth 16000 in
theorem wp_Model_layTree {n : Nat} {σ : jS} {Q : jS → Prop} {zo0 : Int} {zx1 : Int} (W : 0 ≤ zo0 ∧ (∀ zs2, zs2 = ws σ 1126 zo0 0 → 0 ≤ rl zs2 1110 zo0 ∧ 0 < rl zs2 1110 zo0 ∧ (∀ zs4, zs4 = wa zs2 1110 zo0 0 zx1 → 0 ≤ rl zs4 1130 zo0 ∧ 0 < rl zs4 1130 zo0 ∧ (∀ zs7, zs7 = wa zs4 1130 zo0 0 (-1) → 0 ≤ rl zs7 1131 zo0 ∧ 0 < rl zs7 1131 zo0 ∧ (∀ zs10, zs10 = wa zs7 1131 zo0 0 (-1) → J n c_Model_layTree none 28 [some (jo 1 zo0), none, some (ji 1), none, none, none] [] zs10 (qV Q)))))) : TrV n i_Model_layTree [jo 1 zo0, ji zx1] σ Q := by
  refine Tr_of ax_Z_76 ?_
  show J n c_Model_layTree none 0 [some (jo 1 zo0), some (ji zx1), none, none, none, none] [] σ (qV Q)
  obtain ⟨zg1, W⟩ := W
  refine J_aload_no (pc' := 1) rfl rfl zg1 rfl ?_
  refine J_iconst (pc' := 2) rfl (i32_d rfl) rfl ?_
  refine J_putI (G := 1126) (pc' := 5) rfl rfl (Nat.le_of_ble_eq_true rfl) rfl rfl zg1 rfl (fun zs2 ezs2 => ?_)
  replace W := W zs2 ezs2
  refine J_iconst (pc' := 6) rfl (i32_d rfl) rfl ?_
  refine J_istore_n (L' := [some (jo 1 zo0), some (ji zx1), some (ji 1), none, none, none]) (pc' := 7) rfl (Nat.le_of_ble_eq_true rfl) rfl rfl ?_
  refine J_aload_no (pc' := 8) rfl rfl zg1 rfl ?_
  obtain ⟨zg3, W⟩ := W
  refine J_getA (G := 1110) (pc' := 11) rfl rfl (Nat.le_of_ble_eq_true rfl) rfl zg1 zg3 rfl ?_
  refine J_iconst (pc' := 12) rfl (i32_d rfl) rfl ?_
  refine J_iload_n (pc' := 13) rfl rfl rfl ?_
  obtain ⟨zg5, W⟩ := W
  refine J_iast (pc' := 14) rfl rfl (by decide) (by decide) zg5 rfl (fun zs4 ezs4 => ?_)
  replace W := W zs4 ezs4
  refine J_aload_no (pc' := 15) rfl rfl zg1 rfl ?_
  obtain ⟨zg6, W⟩ := W
  refine J_getA (G := 1130) (pc' := 18) rfl rfl (Nat.le_of_ble_eq_true rfl) rfl zg1 zg6 rfl ?_
  refine J_iconst (pc' := 19) rfl (i32_d rfl) rfl ?_
  refine J_iconst (pc' := 20) rfl (i32_d rfl) rfl ?_
  obtain ⟨zg8, W⟩ := W
  refine J_iast (pc' := 21) rfl rfl (by decide) (by decide) zg8 rfl (fun zs7 ezs7 => ?_)
  replace W := W zs7 ezs7
  refine J_aload_no (pc' := 22) rfl rfl zg1 rfl ?_
  obtain ⟨zg9, W⟩ := W
  refine J_getA (G := 1131) (pc' := 25) rfl rfl (Nat.le_of_ble_eq_true rfl) rfl zg1 zg9 rfl ?_
  refine J_iconst (pc' := 26) rfl (i32_d rfl) rfl ?_
  refine J_iconst (pc' := 27) rfl (i32_d rfl) rfl ?_
  obtain ⟨zg11, W⟩ := W
  refine J_iast (pc' := 28) rfl rfl (by decide) (by decide) zg11 rfl (fun zs10 ezs10 => ?_)
  replace W := W zs10 ezs10
  refine J_weak (L' := [some (jo 1 zo0), none, some (ji 1), none, none, none]) (And.intro rfl (And.intro rfl trivial)) ?_
  exact W
set_option maxRecDepth 16000 in
theorem wp_Model_layTree_28 {n : Nat} {σ : jS} {Q : jS → Prop} {zo0 : Int} {zx2 : Int} (W : (if zx2 ≤ 0 then Q σ else i32 (zx2 + (-1)) ∧ 0 ≤ zo0 ∧ 0 ≤ rl σ 1110 zo0 ∧ 0 ≤ zx2 + (-1) ∧ zx2 + (-1) < rl σ 1110 zo0 ∧ i32 ((rs σ 1126 zo0) + 1) ∧ (∀ zs7, zs7 = ws σ 1126 zo0 ((rs σ 1126 zo0) + 1) → 0 ≤ rl zs7 1113 zo0 ∧ 0 ≤ rs σ 1126 zo0 ∧ rs σ 1126 zo0 < rl zs7 1113 zo0 ∧ (∀ zs9, zs9 = wa zs7 1113 zo0 (rs σ 1126 zo0) (ra σ 1110 zo0 (zx2 + (-1))) → 0 ≤ rl zs9 1114 zo0 ∧ 0 ≤ rl zs9 1130 zo0 ∧ zx2 + (-1) < rl zs9 1130 zo0 ∧ 0 ≤ rs σ 1126 zo0 ∧ rs σ 1126 zo0 < rl zs9 1114 zo0 ∧ (∀ zs15, zs15 = wa zs9 1114 zo0 (rs σ 1126 zo0) (ra zs9 1130 zo0 (zx2 + (-1))) → 0 ≤ rl zs15 1115 zo0 ∧ 0 ≤ rl zs15 1131 zo0 ∧ zx2 + (-1) < rl zs15 1131 zo0 ∧ 0 ≤ rs σ 1126 zo0 ∧ rs σ 1126 zo0 < rl zs15 1115 zo0 ∧ (∀ zs21, zs21 = wa zs15 1115 zo0 (rs σ 1126 zo0) (ra zs15 1131 zo0 (zx2 + (-1))) → 0 ≤ rl zs21 1124 zo0 ∧ 0 ≤ rl zs21 1114 zo0 ∧ 0 ≤ rs σ 1126 zo0 ∧ rs σ 1126 zo0 < rl zs21 1114 zo0 ∧ (if ¬ ra zs21 1114 zo0 (rs σ 1126 zo0) = (-1) then 0 ≤ ra zs21 1114 zo0 (rs σ 1126 zo0) ∧ ra zs21 1114 zo0 (rs σ 1126 zo0) < rl zs21 1124 zo0 ∧ i32 ((ra zs21 1124 zo0 (ra zs21 1114 zo0 (rs σ 1126 zo0))) + 1) ∧ rs σ 1126 zo0 < rl zs21 1124 zo0 ∧ (∀ zs31, zs31 = wa zs21 1124 zo0 (rs σ 1126 zo0) ((ra zs21 1124 zo0 (ra zs21 1114 zo0 (rs σ 1126 zo0))) + 1) → 0 ≤ rl zs31 1116 zo0 ∧ 0 ≤ rl zs31 1052 zo0 ∧ 0 ≤ ra σ 1110 zo0 (zx2 + (-1)) ∧ ra σ 1110 zo0 (zx2 + (-1)) < rl zs31 1052 zo0 ∧ 0 ≤ rs σ 1126 zo0 ∧ rs σ 1126 zo0 < rl zs31 1116 zo0 ∧ (∀ zs37, zs37 = wa zs31 1116 zo0 (rs σ 1126 zo0) (ra zs31 1052 zo0 (ra σ 1110 zo0 (zx2 + (-1)))) → 0 ≤ rl zs37 1117 zo0 ∧ 0 ≤ rl zs37 1053 zo0 ∧ 0 ≤ ra σ 1110 zo0 (zx2 + (-1)) ∧ ra σ 1110 zo0 (zx2 + (-1)) < rl zs37 1053 zo0 ∧ 0 ≤ rs σ 1126 zo0 ∧ rs σ 1126 zo0 < rl zs37 1117 zo0 ∧ (∀ zs44, zs44 = wa zs37 1117 zo0 (rs σ 1126 zo0) (ra zs37 1053 zo0 (ra σ 1110 zo0 (zx2 + (-1)))) → 0 ≤ rl zs44 1118 zo0 ∧ 0 ≤ rl zs44 1054 zo0 ∧ 0 ≤ ra σ 1110 zo0 (zx2 + (-1)) ∧ ra σ 1110 zo0 (zx2 + (-1)) < rl zs44 1054 zo0 ∧ 0 ≤ rs σ 1126 zo0 ∧ rs σ 1126 zo0 < rl zs44 1118 zo0 ∧ (∀ zs51, zs51 = wa zs44 1118 zo0 (rs σ 1126 zo0) (ra zs44 1054 zo0 (ra σ 1110 zo0 (zx2 + (-1)))) → 0 ≤ rl zs51 1119 zo0 ∧ 0 ≤ rl zs51 1055 zo0 ∧ 0 ≤ ra σ 1110 zo0 (zx2 + (-1)) ∧ ra σ 1110 zo0 (zx2 + (-1)) < rl zs51 1055 zo0 ∧ 0 ≤ rs σ 1126 zo0 ∧ rs σ 1126 zo0 < rl zs51 1119 zo0 ∧ (∀ zs58, zs58 = wa zs51 1119 zo0 (rs σ 1126 zo0) (ra zs51 1055 zo0 (ra σ 1110 zo0 (zx2 + (-1)))) → 0 ≤ rl zs58 1120 zo0 ∧ 0 ≤ rl zs58 1056 zo0 ∧ 0 ≤ ra σ 1110 zo0 (zx2 + (-1)) ∧ ra σ 1110 zo0 (zx2 + (-1)) < rl zs58 1056 zo0 ∧ 0 ≤ rs σ 1126 zo0 ∧ rs σ 1126 zo0 < rl zs58 1120 zo0 ∧ (∀ zs65, zs65 = wa zs58 1120 zo0 (rs σ 1126 zo0) (ra zs58 1056 zo0 (ra σ 1110 zo0 (zx2 + (-1)))) → 0 ≤ rl zs65 1121 zo0 ∧ 0 ≤ rl zs65 1057 zo0 ∧ 0 ≤ ra σ 1110 zo0 (zx2 + (-1)) ∧ ra σ 1110 zo0 (zx2 + (-1)) < rl zs65 1057 zo0 ∧ 0 ≤ rs σ 1126 zo0 ∧ rs σ 1126 zo0 < rl zs65 1121 zo0 ∧ (∀ zs72, zs72 = wa zs65 1121 zo0 (rs σ 1126 zo0) (ra zs65 1057 zo0 (ra σ 1110 zo0 (zx2 + (-1)))) → 1 ≤ n ∧ TrV (n - 1) i_Model_layNodeGoal [jo 1 zo0, ji (ra σ 1110 zo0 (zx2 + (-1))), ji (rs σ 1126 zo0)] zs72 (fun zs76 => 0 ≤ rl zs76 1057 zo0 ∧ 0 ≤ ra σ 1110 zo0 (zx2 + (-1)) ∧ ra σ 1110 zo0 (zx2 + (-1)) < rl zs76 1057 zo0 ∧ i32 ((ra zs76 1057 zo0 (ra σ 1110 zo0 (zx2 + (-1)))) - 1) ∧ J n c_Model_layTree none 223 [some (jo 1 zo0), none, some (ji (zx2 + (-1))), some (ji (ra σ 1110 zo0 (zx2 + (-1)))), some (ji (rs σ 1126 zo0)), some (ji ((ra zs76 1057 zo0 (ra σ 1110 zo0 (zx2 + (-1)))) - 1))] [] zs76 (qV Q))))))))) else rs σ 1126 zo0 < rl zs21 1124 zo0 ∧ (∀ zs82, zs82 = wa zs21 1124 zo0 (rs σ 1126 zo0) 0 → 0 ≤ rl zs82 1116 zo0 ∧ 0 ≤ rl zs82 1052 zo0 ∧ 0 ≤ ra σ 1110 zo0 (zx2 + (-1)) ∧ ra σ 1110 zo0 (zx2 + (-1)) < rl zs82 1052 zo0 ∧ 0 ≤ rs σ 1126 zo0 ∧ rs σ 1126 zo0 < rl zs82 1116 zo0 ∧ (∀ zs88, zs88 = wa zs82 1116 zo0 (rs σ 1126 zo0) (ra zs82 1052 zo0 (ra σ 1110 zo0 (zx2 + (-1)))) → 0 ≤ rl zs88 1117 zo0 ∧ 0 ≤ rl zs88 1053 zo0 ∧ 0 ≤ ra σ 1110 zo0 (zx2 + (-1)) ∧ ra σ 1110 zo0 (zx2 + (-1)) < rl zs88 1053 zo0 ∧ 0 ≤ rs σ 1126 zo0 ∧ rs σ 1126 zo0 < rl zs88 1117 zo0 ∧ (∀ zs95, zs95 = wa zs88 1117 zo0 (rs σ 1126 zo0) (ra zs88 1053 zo0 (ra σ 1110 zo0 (zx2 + (-1)))) → 0 ≤ rl zs95 1118 zo0 ∧ 0 ≤ rl zs95 1054 zo0 ∧ 0 ≤ ra σ 1110 zo0 (zx2 + (-1)) ∧ ra σ 1110 zo0 (zx2 + (-1)) < rl zs95 1054 zo0 ∧ 0 ≤ rs σ 1126 zo0 ∧ rs σ 1126 zo0 < rl zs95 1118 zo0 ∧ (∀ zs102, zs102 = wa zs95 1118 zo0 (rs σ 1126 zo0) (ra zs95 1054 zo0 (ra σ 1110 zo0 (zx2 + (-1)))) → 0 ≤ rl zs102 1119 zo0 ∧ 0 ≤ rl zs102 1055 zo0 ∧ 0 ≤ ra σ 1110 zo0 (zx2 + (-1)) ∧ ra σ 1110 zo0 (zx2 + (-1)) < rl zs102 1055 zo0 ∧ 0 ≤ rs σ 1126 zo0 ∧ rs σ 1126 zo0 < rl zs102 1119 zo0 ∧ (∀ zs109, zs109 = wa zs102 1119 zo0 (rs σ 1126 zo0) (ra zs102 1055 zo0 (ra σ 1110 zo0 (zx2 + (-1)))) → 0 ≤ rl zs109 1120 zo0 ∧ 0 ≤ rl zs109 1056 zo0 ∧ 0 ≤ ra σ 1110 zo0 (zx2 + (-1)) ∧ ra σ 1110 zo0 (zx2 + (-1)) < rl zs109 1056 zo0 ∧ 0 ≤ rs σ 1126 zo0 ∧ rs σ 1126 zo0 < rl zs109 1120 zo0 ∧ (∀ zs116, zs116 = wa zs109 1120 zo0 (rs σ 1126 zo0) (ra zs109 1056 zo0 (ra σ 1110 zo0 (zx2 + (-1)))) → 0 ≤ rl zs116 1121 zo0 ∧ 0 ≤ rl zs116 1057 zo0 ∧ 0 ≤ ra σ 1110 zo0 (zx2 + (-1)) ∧ ra σ 1110 zo0 (zx2 + (-1)) < rl zs116 1057 zo0 ∧ 0 ≤ rs σ 1126 zo0 ∧ rs σ 1126 zo0 < rl zs116 1121 zo0 ∧ (∀ zs123, zs123 = wa zs116 1121 zo0 (rs σ 1126 zo0) (ra zs116 1057 zo0 (ra σ 1110 zo0 (zx2 + (-1)))) → 1 ≤ n ∧ TrV (n - 1) i_Model_layNodeGoal [jo 1 zo0, ji (ra σ 1110 zo0 (zx2 + (-1))), ji (rs σ 1126 zo0)] zs123 (fun zs127 => 0 ≤ rl zs127 1057 zo0 ∧ 0 ≤ ra σ 1110 zo0 (zx2 + (-1)) ∧ ra σ 1110 zo0 (zx2 + (-1)) < rl zs127 1057 zo0 ∧ i32 ((ra zs127 1057 zo0 (ra σ 1110 zo0 (zx2 + (-1)))) - 1) ∧ J n c_Model_layTree none 223 [some (jo 1 zo0), none, some (ji (zx2 + (-1))), some (ji (ra σ 1110 zo0 (zx2 + (-1)))), some (ji (rs σ 1126 zo0)), some (ji ((ra zs127 1057 zo0 (ra σ 1110 zo0 (zx2 + (-1)))) - 1))] [] zs127 (qV Q)))))))))))))))) : J n c_Model_layTree none 28 [some (jo 1 zo0), none, some (ji zx2), none, none, none] [] σ (qV Q) := by
  refine J_iload_n (pc' := 29) rfl rfl rfl ?_
  refine J_if (P := zx2 ≤ 0) (t := 273) (f := 32) rfl rfl rfl jc_le W (fun W => ?_) (fun W => ?_)
  · exact J_vret rfl rfl ⟨rfl, W⟩
  · obtain ⟨zg1, W⟩ := W
    refine J_iinc (L' := [some (jo 1 zo0), none, some (ji (zx2 + (-1))), none, none, none]) (pc' := 35) rfl rfl zg1 rfl rfl ?_
    obtain ⟨zg2, W⟩ := W
    refine J_aload_no (pc' := 36) rfl rfl zg2 rfl ?_
    obtain ⟨zg3, W⟩ := W
    refine J_getA (G := 1110) (pc' := 39) rfl rfl (Nat.le_of_ble_eq_true rfl) rfl zg2 zg3 rfl ?_
    refine J_iload_n (pc' := 40) rfl rfl rfl ?_
    obtain ⟨zg4, W⟩ := W
    obtain ⟨zg5, W⟩ := W
    refine J_iald (pc' := 41) rfl rfl zg4 zg5 rfl ?_
    refine J_istore_n (L' := [some (jo 1 zo0), none, some (ji (zx2 + (-1))), some (ji (ra σ 1110 zo0 (zx2 + (-1)))), none, none]) (pc' := 42) rfl (Nat.le_of_ble_eq_true rfl) rfl rfl ?_
    refine J_aload_no (pc' := 43) rfl rfl zg2 rfl ?_
    refine J_getI (G := 1126) (pc' := 46) rfl rfl (Nat.le_of_ble_eq_true rfl) rfl zg2 rfl ?_
    refine J_istore (L' := [some (jo 1 zo0), none, some (ji (zx2 + (-1))), some (ji (ra σ 1110 zo0 (zx2 + (-1)))), some (ji (rs σ 1126 zo0)), none]) (pc' := 48) rfl (Nat.le_of_ble_eq_true rfl) rfl rfl ?_
    refine J_aload_no (pc' := 49) rfl rfl zg2 rfl ?_
    refine J_dup (pc' := 50) rfl rfl rfl ?_
    refine J_getI (G := 1126) (pc' := 53) rfl rfl (Nat.le_of_ble_eq_true rfl) rfl zg2 rfl ?_
    refine J_iconst (pc' := 54) rfl (i32_d rfl) rfl ?_
    obtain ⟨zg6, W⟩ := W
    refine J_iadd (pc' := 55) rfl zg6 rfl ?_
    refine J_putI (G := 1126) (pc' := 58) rfl rfl (Nat.le_of_ble_eq_true rfl) rfl rfl zg2 rfl (fun zs7 ezs7 => ?_)
    replace W := W zs7 ezs7
    refine J_aload_no (pc' := 59) rfl rfl zg2 rfl ?_
    obtain ⟨zg8, W⟩ := W
    refine J_getA (G := 1113) (pc' := 62) rfl rfl (Nat.le_of_ble_eq_true rfl) rfl zg2 zg8 rfl ?_
    refine J_iload (pc' := 64) rfl rfl rfl ?_
    refine J_iload_n (pc' := 65) rfl rfl rfl ?_
    obtain ⟨zg10, W⟩ := W
    obtain ⟨zg11, W⟩ := W
    refine J_iast (pc' := 66) rfl rfl (by decide) zg10 zg11 rfl (fun zs9 ezs9 => ?_)
    replace W := W zs9 ezs9
    refine J_aload_no (pc' := 67) rfl rfl zg2 rfl ?_
    obtain ⟨zg12, W⟩ := W
    refine J_getA (G := 1114) (pc' := 70) rfl rfl (Nat.le_of_ble_eq_true rfl) rfl zg2 zg12 rfl ?_
    refine J_iload (pc' := 72) rfl rfl rfl ?_
    refine J_aload_no (pc' := 73) rfl rfl zg2 rfl ?_
    obtain ⟨zg13, W⟩ := W
    refine J_getA (G := 1130) (pc' := 76) rfl rfl (Nat.le_of_ble_eq_true rfl) rfl zg2 zg13 rfl ?_
    refine J_iload_n (pc' := 77) rfl rfl rfl ?_
    obtain ⟨zg14, W⟩ := W
    refine J_iald (pc' := 78) rfl rfl zg4 zg14 rfl ?_
    obtain ⟨zg16, W⟩ := W
    obtain ⟨zg17, W⟩ := W
    refine J_iast (pc' := 79) rfl rfl (by decide) zg16 zg17 rfl (fun zs15 ezs15 => ?_)
    replace W := W zs15 ezs15
    refine J_aload_no (pc' := 80) rfl rfl zg2 rfl ?_
    obtain ⟨zg18, W⟩ := W
    refine J_getA (G := 1115) (pc' := 83) rfl rfl (Nat.le_of_ble_eq_true rfl) rfl zg2 zg18 rfl ?_
    refine J_iload (pc' := 85) rfl rfl rfl ?_
    refine J_aload_no (pc' := 86) rfl rfl zg2 rfl ?_
    obtain ⟨zg19, W⟩ := W
    refine J_getA (G := 1131) (pc' := 89) rfl rfl (Nat.le_of_ble_eq_true rfl) rfl zg2 zg19 rfl ?_
    refine J_iload_n (pc' := 90) rfl rfl rfl ?_
    obtain ⟨zg20, W⟩ := W
    refine J_iald (pc' := 91) rfl rfl zg4 zg20 rfl ?_
    obtain ⟨zg22, W⟩ := W
    obtain ⟨zg23, W⟩ := W
    refine J_iast (pc' := 92) rfl rfl (by decide) zg22 zg23 rfl (fun zs21 ezs21 => ?_)
    replace W := W zs21 ezs21
    refine J_aload_no (pc' := 93) rfl rfl zg2 rfl ?_
    obtain ⟨zg24, W⟩ := W
    refine J_getA (G := 1124) (pc' := 96) rfl rfl (Nat.le_of_ble_eq_true rfl) rfl zg2 zg24 rfl ?_
    refine J_iload (pc' := 98) rfl rfl rfl ?_
    refine J_aload_no (pc' := 99) rfl rfl zg2 rfl ?_
    obtain ⟨zg25, W⟩ := W
    refine J_getA (G := 1114) (pc' := 102) rfl rfl (Nat.le_of_ble_eq_true rfl) rfl zg2 zg25 rfl ?_
    refine J_iload (pc' := 104) rfl rfl rfl ?_
    obtain ⟨zg26, W⟩ := W
    obtain ⟨zg27, W⟩ := W
    refine J_iald (pc' := 105) rfl rfl zg26 zg27 rfl ?_
    refine J_iconst (pc' := 106) rfl (i32_d rfl) rfl ?_
    refine J_icmp (P := ¬ ra zs21 1114 zo0 (rs σ 1126 zo0) = (-1)) (t := 113) (f := 109) rfl rfl rfl jc_ne W (fun W => ?_) (fun W => ?_)
    · refine J_aload_no (pc' := 114) rfl rfl zg2 rfl ?_
      refine J_getA (G := 1124) (pc' := 117) rfl rfl (Nat.le_of_ble_eq_true rfl) rfl zg2 zg24 rfl ?_
      refine J_aload_no (pc' := 118) rfl rfl zg2 rfl ?_
      refine J_getA (G := 1114) (pc' := 121) rfl rfl (Nat.le_of_ble_eq_true rfl) rfl zg2 zg25 rfl ?_
      refine J_iload (pc' := 123) rfl rfl rfl ?_
      refine J_iald (pc' := 124) rfl rfl zg26 zg27 rfl ?_
      obtain ⟨zg28, W⟩ := W
      obtain ⟨zg29, W⟩ := W
      refine J_iald (pc' := 125) rfl rfl zg28 zg29 rfl ?_
      refine J_iconst (pc' := 126) rfl (i32_d rfl) rfl ?_
      obtain ⟨zg30, W⟩ := W
      refine J_iadd (pc' := 127) rfl zg30 rfl ?_
      obtain ⟨zg32, W⟩ := W
      refine J_iast (pc' := 128) rfl rfl (by decide) zg26 zg32 rfl (fun zs31 ezs31 => ?_)
      replace W := W zs31 ezs31
      refine J_aload_no (pc' := 129) rfl rfl zg2 rfl ?_
      obtain ⟨zg33, W⟩ := W
      refine J_getA (G := 1116) (pc' := 132) rfl rfl (Nat.le_of_ble_eq_true rfl) rfl zg2 zg33 rfl ?_
      refine J_iload (pc' := 134) rfl rfl rfl ?_
      refine J_aload_no (pc' := 135) rfl rfl zg2 rfl ?_
      obtain ⟨zg34, W⟩ := W
      refine J_getA (G := 1052) (pc' := 138) rfl rfl (Nat.le_of_ble_eq_true rfl) rfl zg2 zg34 rfl ?_
      refine J_iload_n (pc' := 139) rfl rfl rfl ?_
      obtain ⟨zg35, W⟩ := W
      obtain ⟨zg36, W⟩ := W
      refine J_iald (pc' := 140) rfl rfl zg35 zg36 rfl ?_
      obtain ⟨zg38, W⟩ := W
      obtain ⟨zg39, W⟩ := W
      refine J_iast (pc' := 141) rfl rfl (by decide) zg38 zg39 rfl (fun zs37 ezs37 => ?_)
      replace W := W zs37 ezs37
      refine J_aload_no (pc' := 142) rfl rfl zg2 rfl ?_
      obtain ⟨zg40, W⟩ := W
      refine J_getA (G := 1117) (pc' := 145) rfl rfl (Nat.le_of_ble_eq_true rfl) rfl zg2 zg40 rfl ?_
      refine J_iload (pc' := 147) rfl rfl rfl ?_
      refine J_aload_no (pc' := 148) rfl rfl zg2 rfl ?_
      obtain ⟨zg41, W⟩ := W
      refine J_getA (G := 1053) (pc' := 151) rfl rfl (Nat.le_of_ble_eq_true rfl) rfl zg2 zg41 rfl ?_
      refine J_iload_n (pc' := 152) rfl rfl rfl ?_
      obtain ⟨zg42, W⟩ := W
      obtain ⟨zg43, W⟩ := W
      refine J_iald (pc' := 153) rfl rfl zg42 zg43 rfl ?_
      obtain ⟨zg45, W⟩ := W
      obtain ⟨zg46, W⟩ := W
      refine J_iast (pc' := 154) rfl rfl (by decide) zg45 zg46 rfl (fun zs44 ezs44 => ?_)
      replace W := W zs44 ezs44
      refine J_aload_no (pc' := 155) rfl rfl zg2 rfl ?_
      obtain ⟨zg47, W⟩ := W
      refine J_getA (G := 1118) (pc' := 158) rfl rfl (Nat.le_of_ble_eq_true rfl) rfl zg2 zg47 rfl ?_
      refine J_iload (pc' := 160) rfl rfl rfl ?_
      refine J_aload_no (pc' := 161) rfl rfl zg2 rfl ?_
      obtain ⟨zg48, W⟩ := W
      refine J_getA (G := 1054) (pc' := 164) rfl rfl (Nat.le_of_ble_eq_true rfl) rfl zg2 zg48 rfl ?_
      refine J_iload_n (pc' := 165) rfl rfl rfl ?_
      obtain ⟨zg49, W⟩ := W
      obtain ⟨zg50, W⟩ := W
      refine J_iald (pc' := 166) rfl rfl zg49 zg50 rfl ?_
      obtain ⟨zg52, W⟩ := W
      obtain ⟨zg53, W⟩ := W
      refine J_iast (pc' := 167) rfl rfl (by decide) zg52 zg53 rfl (fun zs51 ezs51 => ?_)
      replace W := W zs51 ezs51
      refine J_aload_no (pc' := 168) rfl rfl zg2 rfl ?_
      obtain ⟨zg54, W⟩ := W
      refine J_getA (G := 1119) (pc' := 171) rfl rfl (Nat.le_of_ble_eq_true rfl) rfl zg2 zg54 rfl ?_
      refine J_iload (pc' := 173) rfl rfl rfl ?_
      refine J_aload_no (pc' := 174) rfl rfl zg2 rfl ?_
      obtain ⟨zg55, W⟩ := W
      refine J_getA (G := 1055) (pc' := 177) rfl rfl (Nat.le_of_ble_eq_true rfl) rfl zg2 zg55 rfl ?_
      refine J_iload_n (pc' := 178) rfl rfl rfl ?_
      obtain ⟨zg56, W⟩ := W
      obtain ⟨zg57, W⟩ := W
      refine J_iald (pc' := 179) rfl rfl zg56 zg57 rfl ?_
      obtain ⟨zg59, W⟩ := W
      obtain ⟨zg60, W⟩ := W
      refine J_iast (pc' := 180) rfl rfl (by decide) zg59 zg60 rfl (fun zs58 ezs58 => ?_)
      replace W := W zs58 ezs58
      refine J_aload_no (pc' := 181) rfl rfl zg2 rfl ?_
      obtain ⟨zg61, W⟩ := W
      refine J_getA (G := 1120) (pc' := 184) rfl rfl (Nat.le_of_ble_eq_true rfl) rfl zg2 zg61 rfl ?_
      refine J_iload (pc' := 186) rfl rfl rfl ?_
      refine J_aload_no (pc' := 187) rfl rfl zg2 rfl ?_
      obtain ⟨zg62, W⟩ := W
      refine J_getA (G := 1056) (pc' := 190) rfl rfl (Nat.le_of_ble_eq_true rfl) rfl zg2 zg62 rfl ?_
      refine J_iload_n (pc' := 191) rfl rfl rfl ?_
      obtain ⟨zg63, W⟩ := W
      obtain ⟨zg64, W⟩ := W
      refine J_iald (pc' := 192) rfl rfl zg63 zg64 rfl ?_
      obtain ⟨zg66, W⟩ := W
      obtain ⟨zg67, W⟩ := W
      refine J_iast (pc' := 193) rfl rfl (by decide) zg66 zg67 rfl (fun zs65 ezs65 => ?_)
      replace W := W zs65 ezs65
      refine J_aload_no (pc' := 194) rfl rfl zg2 rfl ?_
      obtain ⟨zg68, W⟩ := W
      refine J_getA (G := 1121) (pc' := 197) rfl rfl (Nat.le_of_ble_eq_true rfl) rfl zg2 zg68 rfl ?_
      refine J_iload (pc' := 199) rfl rfl rfl ?_
      refine J_aload_no (pc' := 200) rfl rfl zg2 rfl ?_
      obtain ⟨zg69, W⟩ := W
      refine J_getA (G := 1057) (pc' := 203) rfl rfl (Nat.le_of_ble_eq_true rfl) rfl zg2 zg69 rfl ?_
      refine J_iload_n (pc' := 204) rfl rfl rfl ?_
      obtain ⟨zg70, W⟩ := W
      obtain ⟨zg71, W⟩ := W
      refine J_iald (pc' := 205) rfl rfl zg70 zg71 rfl ?_
      obtain ⟨zg73, W⟩ := W
      obtain ⟨zg74, W⟩ := W
      refine J_iast (pc' := 206) rfl rfl (by decide) zg73 zg74 rfl (fun zs72 ezs72 => ?_)
      replace W := W zs72 ezs72
      refine J_aload_no (pc' := 207) rfl rfl zg2 rfl ?_
      refine J_iload_n (pc' := 208) rfl rfl rfl ?_
      refine J_iload (pc' := 210) rfl rfl rfl ?_
      obtain ⟨zg75, W⟩ := W
      refine J_callV (as := [jo 1 zo0, ji (ra σ 1110 zo0 (zx2 + (-1))), ji (rs σ 1126 zo0)]) (rest := []) (pc' := 213) rfl rfl ax_Z_75 rfl rfl (Or.inr (Or.inr ⟨_, _, rfl, zg2⟩)) (Nat.le_of_ble_eq_true rfl) (Nat.le_of_ble_eq_true rfl) (Nat.le_of_ble_eq_true rfl) zg75 trivial trivial rfl W (fun zs76 W => ?_)
      refine J_aload_no (pc' := 214) rfl rfl zg2 rfl ?_
      obtain ⟨zg78, W⟩ := W
      refine J_getA (G := 1057) (pc' := 217) rfl rfl (Nat.le_of_ble_eq_true rfl) rfl zg2 zg78 rfl ?_
      refine J_iload_n (pc' := 218) rfl rfl rfl ?_
      obtain ⟨zg79, W⟩ := W
      obtain ⟨zg80, W⟩ := W
      refine J_iald (pc' := 219) rfl rfl zg79 zg80 rfl ?_
      refine J_iconst (pc' := 220) rfl (i32_d rfl) rfl ?_
      obtain ⟨zg81, W⟩ := W
      refine J_isub (pc' := 221) rfl zg81 rfl ?_
      refine J_istore (L' := [some (jo 1 zo0), none, some (ji (zx2 + (-1))), some (ji (ra σ 1110 zo0 (zx2 + (-1)))), some (ji (rs σ 1126 zo0)), some (ji ((ra zs76 1057 zo0 (ra σ 1110 zo0 (zx2 + (-1)))) - 1))]) (pc' := 223) rfl (Nat.le_of_ble_eq_true rfl) rfl rfl ?_
      exact W
    · refine J_iconst (pc' := 110) rfl (i32_d rfl) rfl ?_
      refine J_goto (pc' := 127) rfl rfl ?_
      obtain ⟨zg83, W⟩ := W
      refine J_iast (pc' := 128) rfl rfl (by decide) zg26 zg83 rfl (fun zs82 ezs82 => ?_)
      replace W := W zs82 ezs82
      refine J_aload_no (pc' := 129) rfl rfl zg2 rfl ?_
      obtain ⟨zg84, W⟩ := W
      refine J_getA (G := 1116) (pc' := 132) rfl rfl (Nat.le_of_ble_eq_true rfl) rfl zg2 zg84 rfl ?_
      refine J_iload (pc' := 134) rfl rfl rfl ?_
      refine J_aload_no (pc' := 135) rfl rfl zg2 rfl ?_
      obtain ⟨zg85, W⟩ := W
      refine J_getA (G := 1052) (pc' := 138) rfl rfl (Nat.le_of_ble_eq_true rfl) rfl zg2 zg85 rfl ?_
      refine J_iload_n (pc' := 139) rfl rfl rfl ?_
      obtain ⟨zg86, W⟩ := W
      obtain ⟨zg87, W⟩ := W
      refine J_iald (pc' := 140) rfl rfl zg86 zg87 rfl ?_
      obtain ⟨zg89, W⟩ := W
      obtain ⟨zg90, W⟩ := W
      refine J_iast (pc' := 141) rfl rfl (by decide) zg89 zg90 rfl (fun zs88 ezs88 => ?_)
      replace W := W zs88 ezs88
      refine J_aload_no (pc' := 142) rfl rfl zg2 rfl ?_
      obtain ⟨zg91, W⟩ := W
      refine J_getA (G := 1117) (pc' := 145) rfl rfl (Nat.le_of_ble_eq_true rfl) rfl zg2 zg91 rfl ?_
      refine J_iload (pc' := 147) rfl rfl rfl ?_
      refine J_aload_no (pc' := 148) rfl rfl zg2 rfl ?_
      obtain ⟨zg92, W⟩ := W
      refine J_getA (G := 1053) (pc' := 151) rfl rfl (Nat.le_of_ble_eq_true rfl) rfl zg2 zg92 rfl ?_
      refine J_iload_n (pc' := 152) rfl rfl rfl ?_
      obtain ⟨zg93, W⟩ := W
      obtain ⟨zg94, W⟩ := W
      refine J_iald (pc' := 153) rfl rfl zg93 zg94 rfl ?_
      obtain ⟨zg96, W⟩ := W
      obtain ⟨zg97, W⟩ := W
      refine J_iast (pc' := 154) rfl rfl (by decide) zg96 zg97 rfl (fun zs95 ezs95 => ?_)
      replace W := W zs95 ezs95
      refine J_aload_no (pc' := 155) rfl rfl zg2 rfl ?_
      obtain ⟨zg98, W⟩ := W
      refine J_getA (G := 1118) (pc' := 158) rfl rfl (Nat.le_of_ble_eq_true rfl) rfl zg2 zg98 rfl ?_
      refine J_iload (pc' := 160) rfl rfl rfl ?_
      refine J_aload_no (pc' := 161) rfl rfl zg2 rfl ?_
      obtain ⟨zg99, W⟩ := W
      refine J_getA (G := 1054) (pc' := 164) rfl rfl (Nat.le_of_ble_eq_true rfl) rfl zg2 zg99 rfl ?_
      refine J_iload_n (pc' := 165) rfl rfl rfl ?_
      obtain ⟨zg100, W⟩ := W
      obtain ⟨zg101, W⟩ := W
      refine J_iald (pc' := 166) rfl rfl zg100 zg101 rfl ?_
      obtain ⟨zg103, W⟩ := W
      obtain ⟨zg104, W⟩ := W
      refine J_iast (pc' := 167) rfl rfl (by decide) zg103 zg104 rfl (fun zs102 ezs102 => ?_)
      replace W := W zs102 ezs102
      refine J_aload_no (pc' := 168) rfl rfl zg2 rfl ?_
      obtain ⟨zg105, W⟩ := W
      refine J_getA (G := 1119) (pc' := 171) rfl rfl (Nat.le_of_ble_eq_true rfl) rfl zg2 zg105 rfl ?_
      refine J_iload (pc' := 173) rfl rfl rfl ?_
      refine J_aload_no (pc' := 174) rfl rfl zg2 rfl ?_
      obtain ⟨zg106, W⟩ := W
      refine J_getA (G := 1055) (pc' := 177) rfl rfl (Nat.le_of_ble_eq_true rfl) rfl zg2 zg106 rfl ?_
      refine J_iload_n (pc' := 178) rfl rfl rfl ?_
      obtain ⟨zg107, W⟩ := W
      obtain ⟨zg108, W⟩ := W
      refine J_iald (pc' := 179) rfl rfl zg107 zg108 rfl ?_
      obtain ⟨zg110, W⟩ := W
      obtain ⟨zg111, W⟩ := W
      refine J_iast (pc' := 180) rfl rfl (by decide) zg110 zg111 rfl (fun zs109 ezs109 => ?_)
      replace W := W zs109 ezs109
      refine J_aload_no (pc' := 181) rfl rfl zg2 rfl ?_
      obtain ⟨zg112, W⟩ := W
      refine J_getA (G := 1120) (pc' := 184) rfl rfl (Nat.le_of_ble_eq_true rfl) rfl zg2 zg112 rfl ?_
      refine J_iload (pc' := 186) rfl rfl rfl ?_
      refine J_aload_no (pc' := 187) rfl rfl zg2 rfl ?_
      obtain ⟨zg113, W⟩ := W
      refine J_getA (G := 1056) (pc' := 190) rfl rfl (Nat.le_of_ble_eq_true rfl) rfl zg2 zg113 rfl ?_
      refine J_iload_n (pc' := 191) rfl rfl rfl ?_
      obtain ⟨zg114, W⟩ := W
      obtain ⟨zg115, W⟩ := W
      refine J_iald (pc' := 192) rfl rfl zg114 zg115 rfl ?_
      obtain ⟨zg117, W⟩ := W
      obtain ⟨zg118, W⟩ := W
      refine J_iast (pc' := 193) rfl rfl (by decide) zg117 zg118 rfl (fun zs116 ezs116 => ?_)
      replace W := W zs116 ezs116
      refine J_aload_no (pc' := 194) rfl rfl zg2 rfl ?_
      obtain ⟨zg119, W⟩ := W
      refine J_getA (G := 1121) (pc' := 197) rfl rfl (Nat.le_of_ble_eq_true rfl) rfl zg2 zg119 rfl ?_
      refine J_iload (pc' := 199) rfl rfl rfl ?_
      refine J_aload_no (pc' := 200) rfl rfl zg2 rfl ?_
      obtain ⟨zg120, W⟩ := W
      refine J_getA (G := 1057) (pc' := 203) rfl rfl (Nat.le_of_ble_eq_true rfl) rfl zg2 zg120 rfl ?_
      refine J_iload_n (pc' := 204) rfl rfl rfl ?_
      obtain ⟨zg121, W⟩ := W
      obtain ⟨zg122, W⟩ := W
      refine J_iald (pc' := 205) rfl rfl zg121 zg122 rfl ?_
      obtain ⟨zg124, W⟩ := W
      obtain ⟨zg125, W⟩ := W
      refine J_iast (pc' := 206) rfl rfl (by decide) zg124 zg125 rfl (fun zs123 ezs123 => ?_)
      replace W := W zs123 ezs123
      refine J_aload_no (pc' := 207) rfl rfl zg2 rfl ?_
      refine J_iload_n (pc' := 208) rfl rfl rfl ?_
      refine J_iload (pc' := 210) rfl rfl rfl ?_
      obtain ⟨zg126, W⟩ := W
      refine J_callV (as := [jo 1 zo0, ji (ra σ 1110 zo0 (zx2 + (-1))), ji (rs σ 1126 zo0)]) (rest := []) (pc' := 213) rfl rfl ax_Z_75 rfl rfl (Or.inr (Or.inr ⟨_, _, rfl, zg2⟩)) (Nat.le_of_ble_eq_true rfl) (Nat.le_of_ble_eq_true rfl) (Nat.le_of_ble_eq_true rfl) zg126 trivial trivial rfl W (fun zs127 W => ?_)
      refine J_aload_no (pc' := 214) rfl rfl zg2 rfl ?_
      obtain ⟨zg129, W⟩ := W
      refine J_getA (G := 1057) (pc' := 217) rfl rfl (Nat.le_of_ble_eq_true rfl) rfl zg2 zg129 rfl ?_
      refine J_iload_n (pc' := 218) rfl rfl rfl ?_
      obtain ⟨zg130, W⟩ := W
      obtain ⟨zg131, W⟩ := W
      refine J_iald (pc' := 219) rfl rfl zg130 zg131 rfl ?_
      refine J_iconst (pc' := 220) rfl (i32_d rfl) rfl ?_
      obtain ⟨zg132, W⟩ := W
      refine J_isub (pc' := 221) rfl zg132 rfl ?_
      refine J_istore (L' := [some (jo 1 zo0), none, some (ji (zx2 + (-1))), some (ji (ra σ 1110 zo0 (zx2 + (-1)))), some (ji (rs σ 1126 zo0)), some (ji ((ra zs127 1057 zo0 (ra σ 1110 zo0 (zx2 + (-1)))) - 1))]) (pc' := 223) rfl (Nat.le_of_ble_eq_true rfl) rfl rfl ?_
      exact W
set_option maxRecDepth 16000 in
theorem wp_Model_layTree_223 {n : Nat} {σ : jS} {Q : jS → Prop} {zo0 : Int} {zx2 : Int} {zx3 : Int} {zx4 : Int} {zx5 : Int} (W : (if zx5 < 0 then J n c_Model_layTree none 28 [some (jo 1 zo0), none, some (ji zx2), none, none, none] [] σ (qV Q) else 0 ≤ zo0 ∧ 0 ≤ rl σ 1110 zo0 ∧ 0 ≤ rl σ 1058 zo0 ∧ i32 (4 * zx3) ∧ i32 ((4 * zx3) + zx5) ∧ 0 ≤ (4 * zx3) + zx5 ∧ (4 * zx3) + zx5 < rl σ 1058 zo0 ∧ 0 ≤ zx2 ∧ zx2 < rl σ 1110 zo0 ∧ (∀ zs8, zs8 = wa σ 1110 zo0 zx2 (ra σ 1058 zo0 ((4 * zx3) + zx5)) → 0 ≤ rl zs8 1130 zo0 ∧ zx2 < rl zs8 1130 zo0 ∧ (∀ zs12, zs12 = wa zs8 1130 zo0 zx2 zx4 → 0 ≤ rl zs12 1131 zo0 ∧ zx2 < rl zs12 1131 zo0 ∧ (∀ zs15, zs15 = wa zs12 1131 zo0 zx2 zx5 → i32 (zx2 + 1) ∧ i32 (zx5 + (-1)) ∧ J n c_Model_layTree none 223 [some (jo 1 zo0), none, some (ji (zx2 + 1)), some (ji zx3), some (ji zx4), some (ji (zx5 + (-1)))] [] zs15 (qV Q)))))) : J n c_Model_layTree none 223 [some (jo 1 zo0), none, some (ji zx2), some (ji zx3), some (ji zx4), some (ji zx5)] [] σ (qV Q) := by
  refine J_iload (pc' := 225) rfl rfl rfl ?_
  refine J_if (P := zx5 < 0) (t := 270) (f := 228) rfl rfl rfl jc_lt W (fun W => ?_) (fun W => ?_)
  · refine J_goto (pc' := 28) rfl rfl ?_
    refine J_weak (L' := [some (jo 1 zo0), none, some (ji zx2), none, none, none]) (And.intro rfl (And.intro rfl trivial)) ?_
    exact W
  · obtain ⟨zg1, W⟩ := W
    refine J_aload_no (pc' := 229) rfl rfl zg1 rfl ?_
    obtain ⟨zg2, W⟩ := W
    refine J_getA (G := 1110) (pc' := 232) rfl rfl (Nat.le_of_ble_eq_true rfl) rfl zg1 zg2 rfl ?_
    refine J_iload_n (pc' := 233) rfl rfl rfl ?_
    refine J_aload_no (pc' := 234) rfl rfl zg1 rfl ?_
    obtain ⟨zg3, W⟩ := W
    refine J_getA (G := 1058) (pc' := 237) rfl rfl (Nat.le_of_ble_eq_true rfl) rfl zg1 zg3 rfl ?_
    refine J_iconst (pc' := 238) rfl (i32_d rfl) rfl ?_
    refine J_iload_n (pc' := 239) rfl rfl rfl ?_
    obtain ⟨zg4, W⟩ := W
    refine J_imul (pc' := 240) rfl zg4 rfl ?_
    refine J_iload (pc' := 242) rfl rfl rfl ?_
    obtain ⟨zg5, W⟩ := W
    refine J_iadd (pc' := 243) rfl zg5 rfl ?_
    obtain ⟨zg6, W⟩ := W
    obtain ⟨zg7, W⟩ := W
    refine J_iald (pc' := 244) rfl rfl zg6 zg7 rfl ?_
    obtain ⟨zg9, W⟩ := W
    obtain ⟨zg10, W⟩ := W
    refine J_iast (pc' := 245) rfl rfl (by decide) zg9 zg10 rfl (fun zs8 ezs8 => ?_)
    replace W := W zs8 ezs8
    refine J_aload_no (pc' := 246) rfl rfl zg1 rfl ?_
    obtain ⟨zg11, W⟩ := W
    refine J_getA (G := 1130) (pc' := 249) rfl rfl (Nat.le_of_ble_eq_true rfl) rfl zg1 zg11 rfl ?_
    refine J_iload_n (pc' := 250) rfl rfl rfl ?_
    refine J_iload (pc' := 252) rfl rfl rfl ?_
    obtain ⟨zg13, W⟩ := W
    refine J_iast (pc' := 253) rfl rfl (by decide) zg9 zg13 rfl (fun zs12 ezs12 => ?_)
    replace W := W zs12 ezs12
    refine J_aload_no (pc' := 254) rfl rfl zg1 rfl ?_
    obtain ⟨zg14, W⟩ := W
    refine J_getA (G := 1131) (pc' := 257) rfl rfl (Nat.le_of_ble_eq_true rfl) rfl zg1 zg14 rfl ?_
    refine J_iload_n (pc' := 258) rfl rfl rfl ?_
    refine J_iload (pc' := 260) rfl rfl rfl ?_
    obtain ⟨zg16, W⟩ := W
    refine J_iast (pc' := 261) rfl rfl (by decide) zg9 zg16 rfl (fun zs15 ezs15 => ?_)
    replace W := W zs15 ezs15
    obtain ⟨zg17, W⟩ := W
    refine J_iinc (L' := [some (jo 1 zo0), none, some (ji (zx2 + 1)), some (ji zx3), some (ji zx4), some (ji zx5)]) (pc' := 264) rfl rfl zg17 rfl rfl ?_
    obtain ⟨zg18, W⟩ := W
    refine J_iinc (L' := [some (jo 1 zo0), none, some (ji (zx2 + 1)), some (ji zx3), some (ji zx4), some (ji (zx5 + (-1)))]) (pc' := 267) rfl rfl zg18 rfl rfl ?_
    refine J_goto (pc' := 223) rfl rfl ?_
    exact W
theorem wp_Model_layAnswer {n : Nat} {σ : jS} {Q : jS → Prop} {zo0 : Int} {zx1 : Int} (W : 0 ≤ zo0 ∧ 1 ≤ n ∧ TrI (n - 1) i_Model_layOut [jo 1 zo0, ji zx1] σ (fun zr4 zs3 => (∀ zs5, zs5 = ws zs3 1127 zo0 zr4 → 0 ≤ rl zs5 1041 zo0 ∧ 0 ≤ rl zs5 1125 zo0 ∧ TrV (n - 1) i_Model_copy [ja 1041 zo0, ji 0, ji (rs zs5 1043 zo0), ja 1125 zo0, ji 0] zs5 (fun zs8 => Q zs8)))) : TrV n i_Model_layAnswer [jo 1 zo0, ji zx1] σ Q := by
  refine Tr_of ax_Z_77 ?_
  show J n c_Model_layAnswer none 0 [some (jo 1 zo0), some (ji zx1)] [] σ (qV Q)
  obtain ⟨zg1, W⟩ := W
  refine J_aload_no (pc' := 1) rfl rfl zg1 rfl ?_
  refine J_aload_no (pc' := 2) rfl rfl zg1 rfl ?_
  refine J_iload_n (pc' := 3) rfl rfl rfl ?_
  obtain ⟨zg2, W⟩ := W
  refine J_weak (L' := [some (jo 1 zo0), none]) (And.intro rfl trivial) ?_
  refine J_callI (as := [jo 1 zo0, ji zx1]) (rest := [jo 1 zo0]) (pc' := 6) rfl rfl ax_Z_50 rfl rfl (Or.inr (Or.inr ⟨_, _, rfl, zg1⟩)) (Nat.le_of_ble_eq_true rfl) (Nat.le_of_ble_eq_true rfl) (Nat.le_of_ble_eq_true rfl) zg2 trivial trivial rfl W (fun zr4 zs3 W => ?_)
  refine J_putI (G := 1127) (pc' := 9) rfl rfl (Nat.le_of_ble_eq_true rfl) rfl rfl zg1 rfl (fun zs5 ezs5 => ?_)
  replace W := W zs5 ezs5
  refine J_aload_no (pc' := 10) rfl rfl zg1 rfl ?_
  obtain ⟨zg6, W⟩ := W
  refine J_getA (G := 1041) (pc' := 13) rfl rfl (Nat.le_of_ble_eq_true rfl) rfl zg1 zg6 rfl ?_
  refine J_iconst (pc' := 14) rfl (i32_d rfl) rfl ?_
  refine J_aload_no (pc' := 15) rfl rfl zg1 rfl ?_
  refine J_getI (G := 1043) (pc' := 18) rfl rfl (Nat.le_of_ble_eq_true rfl) rfl zg1 rfl ?_
  refine J_aload_no (pc' := 19) rfl rfl zg1 rfl ?_
  obtain ⟨zg7, W⟩ := W
  refine J_getA (G := 1125) (pc' := 22) rfl rfl (Nat.le_of_ble_eq_true rfl) rfl zg1 zg7 rfl ?_
  refine J_iconst (pc' := 23) rfl (i32_d rfl) rfl ?_
  refine J_weak (L' := [none, none]) trivial ?_
  refine J_callV (as := [ja 1041 zo0, ji 0, ji (rs zs5 1043 zo0), ja 1125 zo0, ji 0]) (rest := []) (pc' := 26) rfl rfl ax_Z_16 rfl rfl (Or.inl rfl) (Nat.le_of_ble_eq_true rfl) (Nat.le_of_ble_eq_true rfl) (Nat.le_of_ble_eq_true rfl) zg2 trivial trivial rfl W (fun zs8 W => ?_)
  exact J_vret rfl rfl ⟨rfl, W⟩
set_option maxRecDepth 16000 in
theorem wp_Model_layAsking {n : Nat} {σ : jS} {Q : jS → Prop} {zo0 : Int} {zx1 : Int} (W : 0 ≤ zo0 ∧ (∀ zs2, zs2 = ws σ 1126 zo0 0 → (∀ zs3, zs3 = ws zs2 1127 zo0 0 → (if ¬ zx1 = 0 then J n c_Model_layAsking none 30 [some (jo 1 zo0), some (ji zx1), none, none] [] zs3 (qV Q) else 1 ≤ n ∧ TrV (n - 1) i_Model_layTree [jo 1 zo0, ji (rs zs3 1102 zo0)] zs3 (fun zs5 => TrV (n - 1) i_Model_layAnswer [jo 1 zo0, ji (rs zs5 1111 zo0)] zs5 (fun zs7 => J n c_Model_layAsking none 30 [some (jo 1 zo0), some (ji zx1), none, none] [] zs7 (qV Q))))))) : TrV n i_Model_layAsking [jo 1 zo0, ji zx1] σ Q := by
  refine Tr_of ax_Z_78 ?_
  show J n c_Model_layAsking none 0 [some (jo 1 zo0), some (ji zx1), none, none] [] σ (qV Q)
  obtain ⟨zg1, W⟩ := W
  refine J_aload_no (pc' := 1) rfl rfl zg1 rfl ?_
  refine J_iconst (pc' := 2) rfl (i32_d rfl) rfl ?_
  refine J_putI (G := 1126) (pc' := 5) rfl rfl (Nat.le_of_ble_eq_true rfl) rfl rfl zg1 rfl (fun zs2 ezs2 => ?_)
  replace W := W zs2 ezs2
  refine J_aload_no (pc' := 6) rfl rfl zg1 rfl ?_
  refine J_iconst (pc' := 7) rfl (i32_d rfl) rfl ?_
  refine J_putI (G := 1127) (pc' := 10) rfl rfl (Nat.le_of_ble_eq_true rfl) rfl rfl zg1 rfl (fun zs3 ezs3 => ?_)
  replace W := W zs3 ezs3
  refine J_iload_n (pc' := 11) rfl rfl rfl ?_
  refine J_if (P := ¬ zx1 = 0) (t := 30) (f := 14) rfl rfl rfl jc_ne W (fun W => ?_) (fun W => ?_)
  · exact W
  · refine J_aload_no (pc' := 15) rfl rfl zg1 rfl ?_
    refine J_aload_no (pc' := 16) rfl rfl zg1 rfl ?_
    refine J_getI (G := 1102) (pc' := 19) rfl rfl (Nat.le_of_ble_eq_true rfl) rfl zg1 rfl ?_
    obtain ⟨zg4, W⟩ := W
    refine J_callV (as := [jo 1 zo0, ji (rs zs3 1102 zo0)]) (rest := []) (pc' := 22) rfl rfl ax_Z_76 rfl rfl (Or.inr (Or.inr ⟨_, _, rfl, zg1⟩)) (Nat.le_of_ble_eq_true rfl) (Nat.le_of_ble_eq_true rfl) (Nat.le_of_ble_eq_true rfl) zg4 trivial trivial rfl W (fun zs5 W => ?_)
    refine J_aload_no (pc' := 23) rfl rfl zg1 rfl ?_
    refine J_aload_no (pc' := 24) rfl rfl zg1 rfl ?_
    refine J_getI (G := 1111) (pc' := 27) rfl rfl (Nat.le_of_ble_eq_true rfl) rfl zg1 rfl ?_
    refine J_callV (as := [jo 1 zo0, ji (rs zs5 1111 zo0)]) (rest := []) (pc' := 30) rfl rfl ax_Z_77 rfl rfl (Or.inr (Or.inr ⟨_, _, rfl, zg1⟩)) (Nat.le_of_ble_eq_true rfl) (Nat.le_of_ble_eq_true rfl) (Nat.le_of_ble_eq_true rfl) zg4 trivial trivial rfl W (fun zs7 W => ?_)
    exact W
set_option maxRecDepth 16000 in
theorem wp_Model_layAsking_30 {n : Nat} {σ : jS} {Q : jS → Prop} {zo0 : Int} {zx1 : Int} (W : (if ¬ zx1 = 2 then J n c_Model_layAsking none 80 [some (jo 1 zo0), some (ji zx1), none, none] [] σ (qV Q) else 0 ≤ zo0 ∧ 0 ≤ rl σ 1090 zo0 ∧ i32 ((rs σ 1098 zo0) - 1) ∧ 0 ≤ (rs σ 1098 zo0) - 1 ∧ (rs σ 1098 zo0) - 1 < rl σ 1090 zo0 ∧ (∀ zs6, zs6 = ws σ 1128 zo0 (ra σ 1090 zo0 ((rs σ 1098 zo0) - 1)) → 0 ≤ rl zs6 1091 zo0 ∧ i32 ((rs zs6 1098 zo0) - 1) ∧ 0 ≤ (rs zs6 1098 zo0) - 1 ∧ (rs zs6 1098 zo0) - 1 < rl zs6 1091 zo0 ∧ (∀ zs11, zs11 = ws zs6 1129 zo0 (ra zs6 1091 zo0 ((rs zs6 1098 zo0) - 1)) → 0 ≤ rl zs11 1071 zo0 ∧ i32 ((rs zs11 1098 zo0) - 1) ∧ 0 ≤ (rs zs11 1098 zo0) - 1 ∧ (rs zs11 1098 zo0) - 1 < rl zs11 1071 zo0 ∧ 1 ≤ n ∧ TrV (n - 1) i_Model_layAnswer [jo 1 zo0, ji (ra zs11 1071 zo0 ((rs zs11 1098 zo0) - 1))] zs11 (fun zs17 => J n c_Model_layAsking none 80 [some (jo 1 zo0), some (ji zx1), none, none] [] zs17 (qV Q)))))) : J n c_Model_layAsking none 30 [some (jo 1 zo0), some (ji zx1), none, none] [] σ (qV Q) := by
  refine J_iload_n (pc' := 31) rfl rfl rfl ?_
  refine J_iconst (pc' := 32) rfl (i32_d rfl) rfl ?_
  refine J_icmp (P := ¬ zx1 = 2) (t := 80) (f := 35) rfl rfl rfl jc_ne W (fun W => ?_) (fun W => ?_)
  · exact W
  · obtain ⟨zg1, W⟩ := W
    refine J_aload_no (pc' := 36) rfl rfl zg1 rfl ?_
    refine J_aload_no (pc' := 37) rfl rfl zg1 rfl ?_
    obtain ⟨zg2, W⟩ := W
    refine J_getA (G := 1090) (pc' := 40) rfl rfl (Nat.le_of_ble_eq_true rfl) rfl zg1 zg2 rfl ?_
    refine J_aload_no (pc' := 41) rfl rfl zg1 rfl ?_
    refine J_getI (G := 1098) (pc' := 44) rfl rfl (Nat.le_of_ble_eq_true rfl) rfl zg1 rfl ?_
    refine J_iconst (pc' := 45) rfl (i32_d rfl) rfl ?_
    obtain ⟨zg3, W⟩ := W
    refine J_isub (pc' := 46) rfl zg3 rfl ?_
    obtain ⟨zg4, W⟩ := W
    obtain ⟨zg5, W⟩ := W
    refine J_iald (pc' := 47) rfl rfl zg4 zg5 rfl ?_
    refine J_putI (G := 1128) (pc' := 50) rfl rfl (Nat.le_of_ble_eq_true rfl) rfl rfl zg1 rfl (fun zs6 ezs6 => ?_)
    replace W := W zs6 ezs6
    refine J_aload_no (pc' := 51) rfl rfl zg1 rfl ?_
    refine J_aload_no (pc' := 52) rfl rfl zg1 rfl ?_
    obtain ⟨zg7, W⟩ := W
    refine J_getA (G := 1091) (pc' := 55) rfl rfl (Nat.le_of_ble_eq_true rfl) rfl zg1 zg7 rfl ?_
    refine J_aload_no (pc' := 56) rfl rfl zg1 rfl ?_
    refine J_getI (G := 1098) (pc' := 59) rfl rfl (Nat.le_of_ble_eq_true rfl) rfl zg1 rfl ?_
    refine J_iconst (pc' := 60) rfl (i32_d rfl) rfl ?_
    obtain ⟨zg8, W⟩ := W
    refine J_isub (pc' := 61) rfl zg8 rfl ?_
    obtain ⟨zg9, W⟩ := W
    obtain ⟨zg10, W⟩ := W
    refine J_iald (pc' := 62) rfl rfl zg9 zg10 rfl ?_
    refine J_putI (G := 1129) (pc' := 65) rfl rfl (Nat.le_of_ble_eq_true rfl) rfl rfl zg1 rfl (fun zs11 ezs11 => ?_)
    replace W := W zs11 ezs11
    refine J_aload_no (pc' := 66) rfl rfl zg1 rfl ?_
    refine J_aload_no (pc' := 67) rfl rfl zg1 rfl ?_
    obtain ⟨zg12, W⟩ := W
    refine J_getA (G := 1071) (pc' := 70) rfl rfl (Nat.le_of_ble_eq_true rfl) rfl zg1 zg12 rfl ?_
    refine J_aload_no (pc' := 71) rfl rfl zg1 rfl ?_
    refine J_getI (G := 1098) (pc' := 74) rfl rfl (Nat.le_of_ble_eq_true rfl) rfl zg1 rfl ?_
    refine J_iconst (pc' := 75) rfl (i32_d rfl) rfl ?_
    obtain ⟨zg13, W⟩ := W
    refine J_isub (pc' := 76) rfl zg13 rfl ?_
    obtain ⟨zg14, W⟩ := W
    obtain ⟨zg15, W⟩ := W
    refine J_iald (pc' := 77) rfl rfl zg14 zg15 rfl ?_
    obtain ⟨zg16, W⟩ := W
    refine J_callV (as := [jo 1 zo0, ji (ra zs11 1071 zo0 ((rs zs11 1098 zo0) - 1))]) (rest := []) (pc' := 80) rfl rfl ax_Z_77 rfl rfl (Or.inr (Or.inr ⟨_, _, rfl, zg1⟩)) (Nat.le_of_ble_eq_true rfl) (Nat.le_of_ble_eq_true rfl) (Nat.le_of_ble_eq_true rfl) zg16 trivial trivial rfl W (fun zs17 W => ?_)
    exact W
set_option maxRecDepth 16000 in
theorem wp_Model_layAsking_80 {n : Nat} {σ : jS} {Q : jS → Prop} {zo0 : Int} {zx1 : Int} (W : 0 ≤ zo0 ∧ 0 ≤ rl σ 1112 zo0 ∧ 0 < rl σ 1112 zo0 ∧ (∀ zs3, zs3 = wa σ 1112 zo0 0 zx1 → 0 ≤ rl zs3 1112 zo0 ∧ 1 < rl zs3 1112 zo0 ∧ (∀ zs6, zs6 = wa zs3 1112 zo0 1 (rs zs3 1103 zo0) → 0 ≤ rl zs6 1112 zo0 ∧ 2 < rl zs6 1112 zo0 ∧ (∀ zs9, zs9 = wa zs6 1112 zo0 2 (rs zs6 1104 zo0) → 0 ≤ rl zs9 1112 zo0 ∧ 3 < rl zs9 1112 zo0 ∧ (∀ zs12, zs12 = wa zs9 1112 zo0 3 (rs zs9 1105 zo0) → 0 ≤ rl zs12 1112 zo0 ∧ 4 < rl zs12 1112 zo0 ∧ (∀ zs15, zs15 = wa zs12 1112 zo0 4 (rs zs12 1106 zo0) → 0 ≤ rl zs15 1112 zo0 ∧ 5 < rl zs15 1112 zo0 ∧ (∀ zs18, zs18 = wa zs15 1112 zo0 5 (rs zs15 1126 zo0) → 0 ≤ rl zs18 1112 zo0 ∧ 6 < rl zs18 1112 zo0 ∧ (∀ zs21, zs21 = wa zs18 1112 zo0 6 0 → 0 ≤ rl zs21 1112 zo0 ∧ 7 < rl zs21 1112 zo0 ∧ (∀ zs24, zs24 = wa zs21 1112 zo0 7 (rs zs21 1107 zo0) → J n c_Model_layAsking none 160 [some (jo 1 zo0), none, some (ji 0), some (ji 0)] [] zs24 (qV Q)))))))))) : J n c_Model_layAsking none 80 [some (jo 1 zo0), some (ji zx1), none, none] [] σ (qV Q) := by
  obtain ⟨zg1, W⟩ := W
  refine J_aload_no (pc' := 81) rfl rfl zg1 rfl ?_
  obtain ⟨zg2, W⟩ := W
  refine J_getA (G := 1112) (pc' := 84) rfl rfl (Nat.le_of_ble_eq_true rfl) rfl zg1 zg2 rfl ?_
  refine J_iconst (pc' := 85) rfl (i32_d rfl) rfl ?_
  refine J_iload_n (pc' := 86) rfl rfl rfl ?_
  obtain ⟨zg4, W⟩ := W
  refine J_iast (pc' := 87) rfl rfl (by decide) (by decide) zg4 rfl (fun zs3 ezs3 => ?_)
  replace W := W zs3 ezs3
  refine J_aload_no (pc' := 88) rfl rfl zg1 rfl ?_
  obtain ⟨zg5, W⟩ := W
  refine J_getA (G := 1112) (pc' := 91) rfl rfl (Nat.le_of_ble_eq_true rfl) rfl zg1 zg5 rfl ?_
  refine J_iconst (pc' := 92) rfl (i32_d rfl) rfl ?_
  refine J_aload_no (pc' := 93) rfl rfl zg1 rfl ?_
  refine J_getI (G := 1103) (pc' := 96) rfl rfl (Nat.le_of_ble_eq_true rfl) rfl zg1 rfl ?_
  obtain ⟨zg7, W⟩ := W
  refine J_iast (pc' := 97) rfl rfl (by decide) (by decide) zg7 rfl (fun zs6 ezs6 => ?_)
  replace W := W zs6 ezs6
  refine J_aload_no (pc' := 98) rfl rfl zg1 rfl ?_
  obtain ⟨zg8, W⟩ := W
  refine J_getA (G := 1112) (pc' := 101) rfl rfl (Nat.le_of_ble_eq_true rfl) rfl zg1 zg8 rfl ?_
  refine J_iconst (pc' := 102) rfl (i32_d rfl) rfl ?_
  refine J_aload_no (pc' := 103) rfl rfl zg1 rfl ?_
  refine J_getI (G := 1104) (pc' := 106) rfl rfl (Nat.le_of_ble_eq_true rfl) rfl zg1 rfl ?_
  obtain ⟨zg10, W⟩ := W
  refine J_iast (pc' := 107) rfl rfl (by decide) (by decide) zg10 rfl (fun zs9 ezs9 => ?_)
  replace W := W zs9 ezs9
  refine J_aload_no (pc' := 108) rfl rfl zg1 rfl ?_
  obtain ⟨zg11, W⟩ := W
  refine J_getA (G := 1112) (pc' := 111) rfl rfl (Nat.le_of_ble_eq_true rfl) rfl zg1 zg11 rfl ?_
  refine J_iconst (pc' := 112) rfl (i32_d rfl) rfl ?_
  refine J_aload_no (pc' := 113) rfl rfl zg1 rfl ?_
  refine J_getI (G := 1105) (pc' := 116) rfl rfl (Nat.le_of_ble_eq_true rfl) rfl zg1 rfl ?_
  obtain ⟨zg13, W⟩ := W
  refine J_iast (pc' := 117) rfl rfl (by decide) (by decide) zg13 rfl (fun zs12 ezs12 => ?_)
  replace W := W zs12 ezs12
  refine J_aload_no (pc' := 118) rfl rfl zg1 rfl ?_
  obtain ⟨zg14, W⟩ := W
  refine J_getA (G := 1112) (pc' := 121) rfl rfl (Nat.le_of_ble_eq_true rfl) rfl zg1 zg14 rfl ?_
  refine J_iconst (pc' := 122) rfl (i32_d rfl) rfl ?_
  refine J_aload_no (pc' := 123) rfl rfl zg1 rfl ?_
  refine J_getI (G := 1106) (pc' := 126) rfl rfl (Nat.le_of_ble_eq_true rfl) rfl zg1 rfl ?_
  obtain ⟨zg16, W⟩ := W
  refine J_iast (pc' := 127) rfl rfl (by decide) (by decide) zg16 rfl (fun zs15 ezs15 => ?_)
  replace W := W zs15 ezs15
  refine J_aload_no (pc' := 128) rfl rfl zg1 rfl ?_
  obtain ⟨zg17, W⟩ := W
  refine J_getA (G := 1112) (pc' := 131) rfl rfl (Nat.le_of_ble_eq_true rfl) rfl zg1 zg17 rfl ?_
  refine J_iconst (pc' := 132) rfl (i32_d rfl) rfl ?_
  refine J_aload_no (pc' := 133) rfl rfl zg1 rfl ?_
  refine J_getI (G := 1126) (pc' := 136) rfl rfl (Nat.le_of_ble_eq_true rfl) rfl zg1 rfl ?_
  obtain ⟨zg19, W⟩ := W
  refine J_iast (pc' := 137) rfl rfl (by decide) (by decide) zg19 rfl (fun zs18 ezs18 => ?_)
  replace W := W zs18 ezs18
  refine J_aload_no (pc' := 138) rfl rfl zg1 rfl ?_
  obtain ⟨zg20, W⟩ := W
  refine J_getA (G := 1112) (pc' := 141) rfl rfl (Nat.le_of_ble_eq_true rfl) rfl zg1 zg20 rfl ?_
  refine J_bipush (pc' := 143) rfl (by decide) (by decide) rfl ?_
  refine J_iconst (pc' := 144) rfl (i32_d rfl) rfl ?_
  obtain ⟨zg22, W⟩ := W
  refine J_iast (pc' := 145) rfl rfl (by decide) (by decide) zg22 rfl (fun zs21 ezs21 => ?_)
  replace W := W zs21 ezs21
  refine J_aload_no (pc' := 146) rfl rfl zg1 rfl ?_
  obtain ⟨zg23, W⟩ := W
  refine J_getA (G := 1112) (pc' := 149) rfl rfl (Nat.le_of_ble_eq_true rfl) rfl zg1 zg23 rfl ?_
  refine J_bipush (pc' := 151) rfl (by decide) (by decide) rfl ?_
  refine J_aload_no (pc' := 152) rfl rfl zg1 rfl ?_
  refine J_getI (G := 1107) (pc' := 155) rfl rfl (Nat.le_of_ble_eq_true rfl) rfl zg1 rfl ?_
  obtain ⟨zg25, W⟩ := W
  refine J_iast (pc' := 156) rfl rfl (by decide) (by decide) zg25 rfl (fun zs24 ezs24 => ?_)
  replace W := W zs24 ezs24
  refine J_iconst (pc' := 157) rfl (i32_d rfl) rfl ?_
  refine J_istore_n (L' := [some (jo 1 zo0), some (ji zx1), some (ji 0), none]) (pc' := 158) rfl (Nat.le_of_ble_eq_true rfl) rfl rfl ?_
  refine J_iconst (pc' := 159) rfl (i32_d rfl) rfl ?_
  refine J_istore_n (L' := [some (jo 1 zo0), some (ji zx1), some (ji 0), some (ji 0)]) (pc' := 160) rfl (Nat.le_of_ble_eq_true rfl) rfl rfl ?_
  refine J_weak (L' := [some (jo 1 zo0), none, some (ji 0), some (ji 0)]) (And.intro rfl (And.intro rfl (And.intro rfl trivial))) ?_
  exact W
set_option maxRecDepth 16000 in
theorem wp_Model_layAsking_160 {n : Nat} {σ : jS} {Q : jS → Prop} {zo0 : Int} {zx2 : Int} {zx3 : Int} (W : 0 ≤ zo0 ∧ (if rs σ 1126 zo0 ≤ zx3 then 0 ≤ rl σ 1112 zo0 ∧ 1 ≤ n ∧ TrI (n - 1) i_Model_bits [ji zx2] σ (fun zr5 zs4 => 8 < rl zs4 1112 zo0 ∧ (∀ zs6, zs6 = wa zs4 1112 zo0 8 zr5 → Q zs6)) else 0 ≤ rl σ 1112 zo0 ∧ 0 ≤ rl σ 1124 zo0 ∧ 0 ≤ zx3 ∧ zx3 < rl σ 1124 zo0 ∧ 6 < rl σ 1112 zo0 ∧ (if ra σ 1124 zo0 zx3 ≤ ra σ 1112 zo0 6 then (∀ zs13, zs13 = wa σ 1112 zo0 6 (ra σ 1112 zo0 6) → 0 ≤ rl zs13 1116 zo0 ∧ zx3 < rl zs13 1116 zo0 ∧ i32 (zx3 + 1) ∧ J n c_Model_layAsking none 160 [some (jo 1 zo0), none, some (ji (bOr zx2 (bShl 1 (ra zs13 1116 zo0 zx3)))), some (ji (zx3 + 1))] [] zs13 (qV Q)) else (∀ zs17, zs17 = wa σ 1112 zo0 6 (ra σ 1124 zo0 zx3) → 0 ≤ rl zs17 1116 zo0 ∧ zx3 < rl zs17 1116 zo0 ∧ i32 (zx3 + 1) ∧ J n c_Model_layAsking none 160 [some (jo 1 zo0), none, some (ji (bOr zx2 (bShl 1 (ra zs17 1116 zo0 zx3)))), some (ji (zx3 + 1))] [] zs17 (qV Q))))) : J n c_Model_layAsking none 160 [some (jo 1 zo0), none, some (ji zx2), some (ji zx3)] [] σ (qV Q) := by
  refine J_iload_n (pc' := 161) rfl rfl rfl ?_
  obtain ⟨zg1, W⟩ := W
  refine J_aload_no (pc' := 162) rfl rfl zg1 rfl ?_
  refine J_getI (G := 1126) (pc' := 165) rfl rfl (Nat.le_of_ble_eq_true rfl) rfl zg1 rfl ?_
  refine J_icmp (P := rs σ 1126 zo0 ≤ zx3) (t := 224) (f := 168) rfl rfl rfl jc_ge W (fun W => ?_) (fun W => ?_)
  · refine J_aload_no (pc' := 225) rfl rfl zg1 rfl ?_
    obtain ⟨zg2, W⟩ := W
    refine J_getA (G := 1112) (pc' := 228) rfl rfl (Nat.le_of_ble_eq_true rfl) rfl zg1 zg2 rfl ?_
    refine J_bipush (pc' := 230) rfl (by decide) (by decide) rfl ?_
    refine J_iload_n (pc' := 231) rfl rfl rfl ?_
    obtain ⟨zg3, W⟩ := W
    refine J_weak (L' := [none, none, none, none]) trivial ?_
    refine J_callI (as := [ji zx2]) (rest := [ji 8, ja 1112 zo0]) (pc' := 234) rfl rfl ax_Z_2 rfl rfl (Or.inl rfl) (Nat.le_of_ble_eq_true rfl) (Nat.le_of_ble_eq_true rfl) (Nat.le_of_ble_eq_true rfl) zg3 trivial (And.intro rfl trivial) rfl W (fun zr5 zs4 W => ?_)
    obtain ⟨zg7, W⟩ := W
    refine J_iast (pc' := 235) rfl rfl (by decide) (by decide) zg7 rfl (fun zs6 ezs6 => ?_)
    replace W := W zs6 ezs6
    exact J_vret rfl rfl ⟨rfl, W⟩
  · refine J_aload_no (pc' := 169) rfl rfl zg1 rfl ?_
    obtain ⟨zg8, W⟩ := W
    refine J_getA (G := 1112) (pc' := 172) rfl rfl (Nat.le_of_ble_eq_true rfl) rfl zg1 zg8 rfl ?_
    refine J_bipush (pc' := 174) rfl (by decide) (by decide) rfl ?_
    refine J_aload_no (pc' := 175) rfl rfl zg1 rfl ?_
    obtain ⟨zg9, W⟩ := W
    refine J_getA (G := 1124) (pc' := 178) rfl rfl (Nat.le_of_ble_eq_true rfl) rfl zg1 zg9 rfl ?_
    refine J_iload_n (pc' := 179) rfl rfl rfl ?_
    obtain ⟨zg10, W⟩ := W
    obtain ⟨zg11, W⟩ := W
    refine J_iald (pc' := 180) rfl rfl zg10 zg11 rfl ?_
    refine J_aload_no (pc' := 181) rfl rfl zg1 rfl ?_
    refine J_getA (G := 1112) (pc' := 184) rfl rfl (Nat.le_of_ble_eq_true rfl) rfl zg1 zg8 rfl ?_
    refine J_bipush (pc' := 186) rfl (by decide) (by decide) rfl ?_
    obtain ⟨zg12, W⟩ := W
    refine J_iald (pc' := 187) rfl rfl (by decide) zg12 rfl ?_
    refine J_icmp (P := ra σ 1124 zo0 zx3 ≤ ra σ 1112 zo0 6) (t := 199) (f := 190) rfl rfl rfl jc_le W (fun W => ?_) (fun W => ?_)
    · refine J_aload_no (pc' := 200) rfl rfl zg1 rfl ?_
      refine J_getA (G := 1112) (pc' := 203) rfl rfl (Nat.le_of_ble_eq_true rfl) rfl zg1 zg8 rfl ?_
      refine J_bipush (pc' := 205) rfl (by decide) (by decide) rfl ?_
      refine J_iald (pc' := 206) rfl rfl (by decide) zg12 rfl ?_
      refine J_iast (pc' := 207) rfl rfl (by decide) (by decide) zg12 rfl (fun zs13 ezs13 => ?_)
      replace W := W zs13 ezs13
      refine J_iload_n (pc' := 208) rfl rfl rfl ?_
      refine J_iconst (pc' := 209) rfl (i32_d rfl) rfl ?_
      refine J_aload_no (pc' := 210) rfl rfl zg1 rfl ?_
      obtain ⟨zg14, W⟩ := W
      refine J_getA (G := 1116) (pc' := 213) rfl rfl (Nat.le_of_ble_eq_true rfl) rfl zg1 zg14 rfl ?_
      refine J_iload_n (pc' := 214) rfl rfl rfl ?_
      obtain ⟨zg15, W⟩ := W
      refine J_iald (pc' := 215) rfl rfl zg10 zg15 rfl ?_
      refine J_ishl (pc' := 216) rfl rfl ?_
      refine J_ior (pc' := 217) rfl rfl ?_
      refine J_istore_n (L' := [some (jo 1 zo0), none, some (ji (bOr zx2 (bShl 1 (ra zs13 1116 zo0 zx3)))), some (ji zx3)]) (pc' := 218) rfl (Nat.le_of_ble_eq_true rfl) rfl rfl ?_
      obtain ⟨zg16, W⟩ := W
      refine J_iinc (L' := [some (jo 1 zo0), none, some (ji (bOr zx2 (bShl 1 (ra zs13 1116 zo0 zx3)))), some (ji (zx3 + 1))]) (pc' := 221) rfl rfl zg16 rfl rfl ?_
      refine J_goto (pc' := 160) rfl rfl ?_
      exact W
    · refine J_aload_no (pc' := 191) rfl rfl zg1 rfl ?_
      refine J_getA (G := 1124) (pc' := 194) rfl rfl (Nat.le_of_ble_eq_true rfl) rfl zg1 zg9 rfl ?_
      refine J_iload_n (pc' := 195) rfl rfl rfl ?_
      refine J_iald (pc' := 196) rfl rfl zg10 zg11 rfl ?_
      refine J_goto (pc' := 206) rfl rfl ?_
      refine J_iast (pc' := 207) rfl rfl (by decide) (by decide) zg12 rfl (fun zs17 ezs17 => ?_)
      replace W := W zs17 ezs17
      refine J_iload_n (pc' := 208) rfl rfl rfl ?_
      refine J_iconst (pc' := 209) rfl (i32_d rfl) rfl ?_
      refine J_aload_no (pc' := 210) rfl rfl zg1 rfl ?_
      obtain ⟨zg18, W⟩ := W
      refine J_getA (G := 1116) (pc' := 213) rfl rfl (Nat.le_of_ble_eq_true rfl) rfl zg1 zg18 rfl ?_
      refine J_iload_n (pc' := 214) rfl rfl rfl ?_
      obtain ⟨zg19, W⟩ := W
      refine J_iald (pc' := 215) rfl rfl zg10 zg19 rfl ?_
      refine J_ishl (pc' := 216) rfl rfl ?_
      refine J_ior (pc' := 217) rfl rfl ?_
      refine J_istore_n (L' := [some (jo 1 zo0), none, some (ji (bOr zx2 (bShl 1 (ra zs17 1116 zo0 zx3)))), some (ji zx3)]) (pc' := 218) rfl (Nat.le_of_ble_eq_true rfl) rfl rfl ?_
      obtain ⟨zg20, W⟩ := W
      refine J_iinc (L' := [some (jo 1 zo0), none, some (ji (bOr zx2 (bShl 1 (ra zs17 1116 zo0 zx3)))), some (ji (zx3 + 1))]) (pc' := 221) rfl rfl zg20 rfl rfl ?_
      refine J_goto (pc' := 160) rfl rfl ?_
      exact W
theorem wp_Model_ask {n : Nat} {σ : jS} {Q : Int → jS → Prop} {zo0 : Int} {zx1 : Int} (W : 0 ≤ zo0 ∧ 1 ≤ n ∧ TrI (n - 1) i_Model_isScope [jo 1 zo0, ji zx1] σ (fun zr4 zs3 => (if zr4 = 0 then TrI (n - 1) i_Model_isScope [jo 1 zo0, ji zx1] zs3 (fun zr6 zs5 => (if ¬ zr6 = 0 then J n c_Model_ask (some .int) 34 [some (jo 1 zo0), some (ji zx1), some (ji 0), none] [] zs5 (qI Q) else (∀ zs7, zs7 = ws zs5 1003 zo0 (-1) → J n c_Model_ask (some .int) 34 [some (jo 1 zo0), some (ji zx1), some (ji 0), none] [] zs7 (qI Q)))) else TrI (n - 1) i_Model_readWhole [jo 1 zo0] zs3 (fun zr9 zs8 => (if zr9 = 0 then TrI (n - 1) i_Model_isScope [jo 1 zo0, ji zx1] zs8 (fun zr11 zs10 => (if ¬ zr11 = 0 then J n c_Model_ask (some .int) 34 [some (jo 1 zo0), some (ji zx1), some (ji 0), none] [] zs10 (qI Q) else (∀ zs12, zs12 = ws zs10 1003 zo0 (-1) → J n c_Model_ask (some .int) 34 [some (jo 1 zo0), some (ji zx1), some (ji 0), none] [] zs12 (qI Q)))) else TrI (n - 1) i_Model_isScope [jo 1 zo0, ji zx1] zs8 (fun zr14 zs13 => (if ¬ zr14 = 0 then J n c_Model_ask (some .int) 34 [some (jo 1 zo0), some (ji zx1), some (ji 1), none] [] zs13 (qI Q) else (∀ zs15, zs15 = ws zs13 1003 zo0 (-1) → J n c_Model_ask (some .int) 34 [some (jo 1 zo0), some (ji zx1), some (ji 1), none] [] zs15 (qI Q))))))))) : TrI n i_Model_ask [jo 1 zo0, ji zx1] σ Q := by
  refine Tr_of ax_Z_79 ?_
  show J n c_Model_ask (some .int) 0 [some (jo 1 zo0), some (ji zx1), none, none] [] σ (qI Q)
  obtain ⟨zg1, W⟩ := W
  refine J_aload_no (pc' := 1) rfl rfl zg1 rfl ?_
  refine J_iload_n (pc' := 2) rfl rfl rfl ?_
  obtain ⟨zg2, W⟩ := W
  refine J_callI (as := [jo 1 zo0, ji zx1]) (rest := []) (pc' := 5) rfl rfl ax_Z_24 rfl rfl (Or.inr (Or.inr ⟨_, _, rfl, zg1⟩)) (Nat.le_of_ble_eq_true rfl) (Nat.le_of_ble_eq_true rfl) (Nat.le_of_ble_eq_true rfl) zg2 trivial trivial rfl W (fun zr4 zs3 W => ?_)
  refine J_if (P := zr4 = 0) (t := 19) (f := 8) rfl rfl rfl jc_eq W (fun W => ?_) (fun W => ?_)
  · refine J_iconst (pc' := 20) rfl (i32_d rfl) rfl ?_
    refine J_istore_n (L' := [some (jo 1 zo0), some (ji zx1), some (ji 0), none]) (pc' := 21) rfl (Nat.le_of_ble_eq_true rfl) rfl rfl ?_
    refine J_aload_no (pc' := 22) rfl rfl zg1 rfl ?_
    refine J_iload_n (pc' := 23) rfl rfl rfl ?_
    refine J_callI (as := [jo 1 zo0, ji zx1]) (rest := []) (pc' := 26) rfl rfl ax_Z_24 rfl rfl (Or.inr (Or.inr ⟨_, _, rfl, zg1⟩)) (Nat.le_of_ble_eq_true rfl) (Nat.le_of_ble_eq_true rfl) (Nat.le_of_ble_eq_true rfl) zg2 trivial trivial rfl W (fun zr6 zs5 W => ?_)
    refine J_if (P := ¬ zr6 = 0) (t := 34) (f := 29) rfl rfl rfl jc_ne W (fun W => ?_) (fun W => ?_)
    · exact W
    · refine J_aload_no (pc' := 30) rfl rfl zg1 rfl ?_
      refine J_iconst (pc' := 31) rfl (i32_d rfl) rfl ?_
      refine J_putI (G := 1003) (pc' := 34) rfl rfl (Nat.le_of_ble_eq_true rfl) rfl rfl zg1 rfl (fun zs7 ezs7 => ?_)
      replace W := W zs7 ezs7
      exact W
  · refine J_aload_no (pc' := 9) rfl rfl zg1 rfl ?_
    refine J_callI (as := [jo 1 zo0]) (rest := []) (pc' := 12) rfl rfl ax_Z_52 rfl rfl (Or.inr (Or.inr ⟨_, _, rfl, zg1⟩)) (Nat.le_of_ble_eq_true rfl) (Nat.le_of_ble_eq_true rfl) (Nat.le_of_ble_eq_true rfl) zg2 trivial trivial rfl W (fun zr9 zs8 W => ?_)
    refine J_if (P := zr9 = 0) (t := 19) (f := 15) rfl rfl rfl jc_eq W (fun W => ?_) (fun W => ?_)
    · refine J_iconst (pc' := 20) rfl (i32_d rfl) rfl ?_
      refine J_istore_n (L' := [some (jo 1 zo0), some (ji zx1), some (ji 0), none]) (pc' := 21) rfl (Nat.le_of_ble_eq_true rfl) rfl rfl ?_
      refine J_aload_no (pc' := 22) rfl rfl zg1 rfl ?_
      refine J_iload_n (pc' := 23) rfl rfl rfl ?_
      refine J_callI (as := [jo 1 zo0, ji zx1]) (rest := []) (pc' := 26) rfl rfl ax_Z_24 rfl rfl (Or.inr (Or.inr ⟨_, _, rfl, zg1⟩)) (Nat.le_of_ble_eq_true rfl) (Nat.le_of_ble_eq_true rfl) (Nat.le_of_ble_eq_true rfl) zg2 trivial trivial rfl W (fun zr11 zs10 W => ?_)
      refine J_if (P := ¬ zr11 = 0) (t := 34) (f := 29) rfl rfl rfl jc_ne W (fun W => ?_) (fun W => ?_)
      · exact W
      · refine J_aload_no (pc' := 30) rfl rfl zg1 rfl ?_
        refine J_iconst (pc' := 31) rfl (i32_d rfl) rfl ?_
        refine J_putI (G := 1003) (pc' := 34) rfl rfl (Nat.le_of_ble_eq_true rfl) rfl rfl zg1 rfl (fun zs12 ezs12 => ?_)
        replace W := W zs12 ezs12
        exact W
    · refine J_iconst (pc' := 16) rfl (i32_d rfl) rfl ?_
      refine J_goto (pc' := 20) rfl rfl ?_
      refine J_istore_n (L' := [some (jo 1 zo0), some (ji zx1), some (ji 1), none]) (pc' := 21) rfl (Nat.le_of_ble_eq_true rfl) rfl rfl ?_
      refine J_aload_no (pc' := 22) rfl rfl zg1 rfl ?_
      refine J_iload_n (pc' := 23) rfl rfl rfl ?_
      refine J_callI (as := [jo 1 zo0, ji zx1]) (rest := []) (pc' := 26) rfl rfl ax_Z_24 rfl rfl (Or.inr (Or.inr ⟨_, _, rfl, zg1⟩)) (Nat.le_of_ble_eq_true rfl) (Nat.le_of_ble_eq_true rfl) (Nat.le_of_ble_eq_true rfl) zg2 trivial trivial rfl W (fun zr14 zs13 W => ?_)
      refine J_if (P := ¬ zr14 = 0) (t := 34) (f := 29) rfl rfl rfl jc_ne W (fun W => ?_) (fun W => ?_)
      · exact W
      · refine J_aload_no (pc' := 30) rfl rfl zg1 rfl ?_
        refine J_iconst (pc' := 31) rfl (i32_d rfl) rfl ?_
        refine J_putI (G := 1003) (pc' := 34) rfl rfl (Nat.le_of_ble_eq_true rfl) rfl rfl zg1 rfl (fun zs15 ezs15 => ?_)
        replace W := W zs15 ezs15
        exact W
theorem wp_Model_ask_34 {n : Nat} {σ : jS} {Q : Int → jS → Prop} {zo0 : Int} {zx1 : Int} {zx2 : Int} (W : 0 ≤ zo0 ∧ (∀ zs2, zs2 = ws σ 1001 zo0 0 → (if ¬ zx2 = 0 then (∀ zs3, zs3 = ws zs2 1050 zo0 zx1 → (∀ zs4, zs4 = ws zs3 1049 zo0 (rs zs3 1006 zo0) → 0 ≤ rl zs4 1004 zo0 ∧ 0 ≤ rl zs4 1048 zo0 ∧ 1 ≤ n ∧ TrV (n - 1) i_Model_copy [ja 1004 zo0, ji 0, ji (rs zs4 1006 zo0), ja 1048 zo0, ji 0] zs4 (fun zs8 => (∀ zs10, zs10 = ws zs8 1051 zo0 1 → TrI (n - 1) i_Model_askAll [jo 1 zo0, ji 0] zs10 (fun zr12 zs11 => TrV (n - 1) i_Model_layAsking [jo 1 zo0, ji zr12] zs11 (fun zs13 => Q zr12 zs13)))))) else Q (-2) zs2))) : J n c_Model_ask (some .int) 34 [some (jo 1 zo0), some (ji zx1), some (ji zx2), none] [] σ (qI Q) := by
  obtain ⟨zg1, W⟩ := W
  refine J_aload_no (pc' := 35) rfl rfl zg1 rfl ?_
  refine J_iconst (pc' := 36) rfl (i32_d rfl) rfl ?_
  refine J_putI (G := 1001) (pc' := 39) rfl rfl (Nat.le_of_ble_eq_true rfl) rfl rfl zg1 rfl (fun zs2 ezs2 => ?_)
  replace W := W zs2 ezs2
  refine J_iload_n (pc' := 40) rfl rfl rfl ?_
  refine J_if (P := ¬ zx2 = 0) (t := 46) (f := 43) rfl rfl rfl jc_ne W (fun W => ?_) (fun W => ?_)
  · refine J_aload_no (pc' := 47) rfl rfl zg1 rfl ?_
    refine J_iload_n (pc' := 48) rfl rfl rfl ?_
    refine J_putI (G := 1050) (pc' := 51) rfl rfl (Nat.le_of_ble_eq_true rfl) rfl rfl zg1 rfl (fun zs3 ezs3 => ?_)
    replace W := W zs3 ezs3
    refine J_aload_no (pc' := 52) rfl rfl zg1 rfl ?_
    refine J_aload_no (pc' := 53) rfl rfl zg1 rfl ?_
    refine J_getI (G := 1006) (pc' := 56) rfl rfl (Nat.le_of_ble_eq_true rfl) rfl zg1 rfl ?_
    refine J_putI (G := 1049) (pc' := 59) rfl rfl (Nat.le_of_ble_eq_true rfl) rfl rfl zg1 rfl (fun zs4 ezs4 => ?_)
    replace W := W zs4 ezs4
    refine J_aload_no (pc' := 60) rfl rfl zg1 rfl ?_
    obtain ⟨zg5, W⟩ := W
    refine J_getA (G := 1004) (pc' := 63) rfl rfl (Nat.le_of_ble_eq_true rfl) rfl zg1 zg5 rfl ?_
    refine J_iconst (pc' := 64) rfl (i32_d rfl) rfl ?_
    refine J_aload_no (pc' := 65) rfl rfl zg1 rfl ?_
    refine J_getI (G := 1006) (pc' := 68) rfl rfl (Nat.le_of_ble_eq_true rfl) rfl zg1 rfl ?_
    refine J_aload_no (pc' := 69) rfl rfl zg1 rfl ?_
    obtain ⟨zg6, W⟩ := W
    refine J_getA (G := 1048) (pc' := 72) rfl rfl (Nat.le_of_ble_eq_true rfl) rfl zg1 zg6 rfl ?_
    refine J_iconst (pc' := 73) rfl (i32_d rfl) rfl ?_
    obtain ⟨zg7, W⟩ := W
    refine J_weak (L' := [some (jo 1 zo0), none, none, none]) (And.intro rfl trivial) ?_
    refine J_callV (as := [ja 1004 zo0, ji 0, ji (rs zs4 1006 zo0), ja 1048 zo0, ji 0]) (rest := []) (pc' := 76) rfl rfl ax_Z_16 rfl rfl (Or.inl rfl) (Nat.le_of_ble_eq_true rfl) (Nat.le_of_ble_eq_true rfl) (Nat.le_of_ble_eq_true rfl) zg7 trivial trivial rfl W (fun zs8 W => ?_)
    refine J_aload_no (pc' := 77) rfl rfl zg1 rfl ?_
    refine J_iconst (pc' := 78) rfl (i32_d rfl) rfl ?_
    refine J_putZ (G := 1051) (pc' := 81) rfl rfl (Nat.le_of_ble_eq_true rfl) rfl rfl zg1 (Or.inr rfl) rfl (fun zs10 ezs10 => ?_)
    replace W := W zs10 ezs10
    refine J_aload_no (pc' := 82) rfl rfl zg1 rfl ?_
    refine J_iconst (pc' := 83) rfl (i32_d rfl) rfl ?_
    refine J_callI (as := [jo 1 zo0, ji 0]) (rest := []) (pc' := 86) rfl rfl ax_Z_74 rfl rfl (Or.inr (Or.inr ⟨_, _, rfl, zg1⟩)) (Nat.le_of_ble_eq_true rfl) (Nat.le_of_ble_eq_true rfl) (Nat.le_of_ble_eq_true rfl) zg7 trivial trivial rfl W (fun zr12 zs11 W => ?_)
    refine J_istore_n (L' := [some (jo 1 zo0), none, none, some (ji zr12)]) (pc' := 87) rfl (Nat.le_of_ble_eq_true rfl) rfl rfl ?_
    refine J_aload_no (pc' := 88) rfl rfl zg1 rfl ?_
    refine J_iload_n (pc' := 89) rfl rfl rfl ?_
    refine J_weak (L' := [none, none, none, some (ji zr12)]) (And.intro rfl trivial) ?_
    refine J_callV (as := [jo 1 zo0, ji zr12]) (rest := []) (pc' := 92) rfl rfl ax_Z_78 rfl rfl (Or.inr (Or.inr ⟨_, _, rfl, zg1⟩)) (Nat.le_of_ble_eq_true rfl) (Nat.le_of_ble_eq_true rfl) (Nat.le_of_ble_eq_true rfl) zg7 trivial trivial rfl W (fun zs13 W => ?_)
    refine J_iload_n (pc' := 93) rfl rfl rfl ?_
    exact J_iret rfl rfl ⟨_, rfl, W⟩
  · refine J_bipush (pc' := 45) rfl (by decide) (by decide) rfl ?_
    exact J_iret rfl rfl ⟨_, rfl, W⟩
theorem wp_Model_asked {n : Nat} {σ : jS} {Q : Int → jS → Prop} {zo0 : Int} {zx1 : Int} (W : 0 ≤ zo0 ∧ (if rs σ 1051 zo0 = 0 then Q (-1) σ else 1 ≤ n ∧ TrI (n - 1) i_Model_isIn [ji zx1, ji 0, ji 8] σ (fun zr4 zs3 => (if zr4 = 0 then Q (-1) zs3 else 0 ≤ rl zs3 1112 zo0 ∧ 0 ≤ zx1 ∧ zx1 < rl zs3 1112 zo0 ∧ Q (ra zs3 1112 zo0 zx1) zs3)))) : TrI n i_Model_asked [jo 1 zo0, ji zx1] σ Q := by
  refine Tr_of ax_Z_80 ?_
  show J n c_Model_asked (some .int) 0 [some (jo 1 zo0), some (ji zx1)] [] σ (qI Q)
  obtain ⟨zg1, W⟩ := W
  refine J_aload_no (pc' := 1) rfl rfl zg1 rfl ?_
  refine J_getI (G := 1051) (pc' := 4) rfl rfl (Nat.le_of_ble_eq_true rfl) rfl zg1 rfl ?_
  refine J_if (P := rs σ 1051 zo0 = 0) (t := 26) (f := 7) rfl rfl rfl jc_eq W (fun W => ?_) (fun W => ?_)
  · refine J_iconst (pc' := 27) rfl (i32_d rfl) rfl ?_
    exact J_iret rfl rfl ⟨_, rfl, W⟩
  · refine J_iload_n (pc' := 8) rfl rfl rfl ?_
    refine J_iconst (pc' := 9) rfl (i32_d rfl) rfl ?_
    refine J_bipush (pc' := 11) rfl (by decide) (by decide) rfl ?_
    obtain ⟨zg2, W⟩ := W
    refine J_callI (as := [ji zx1, ji 0, ji 8]) (rest := []) (pc' := 14) rfl rfl ax_Z_0 rfl rfl (Or.inl rfl) (Nat.le_of_ble_eq_true rfl) (Nat.le_of_ble_eq_true rfl) (Nat.le_of_ble_eq_true rfl) zg2 trivial trivial rfl W (fun zr4 zs3 W => ?_)
    refine J_if (P := zr4 = 0) (t := 26) (f := 17) rfl rfl rfl jc_eq W (fun W => ?_) (fun W => ?_)
    · refine J_iconst (pc' := 27) rfl (i32_d rfl) rfl ?_
      exact J_iret rfl rfl ⟨_, rfl, W⟩
    · refine J_aload_no (pc' := 18) rfl rfl zg1 rfl ?_
      obtain ⟨zg5, W⟩ := W
      refine J_getA (G := 1112) (pc' := 21) rfl rfl (Nat.le_of_ble_eq_true rfl) rfl zg1 zg5 rfl ?_
      refine J_iload_n (pc' := 22) rfl rfl rfl ?_
      obtain ⟨zg6, W⟩ := W
      obtain ⟨zg7, W⟩ := W
      refine J_iald (pc' := 23) rfl rfl zg6 zg7 rfl ?_
      refine J_goto (pc' := 27) rfl rfl ?_
      exact J_iret rfl rfl ⟨_, rfl, W⟩
theorem wp_Model_wasFound {n : Nat} {σ : jS} {Q : Int → jS → Prop} {zo0 : Int} (W : 0 ≤ zo0 ∧ (if rs σ 1051 zo0 = 0 then Q 0 σ else 0 ≤ rl σ 1112 zo0 ∧ 0 < rl σ 1112 zo0 ∧ (if ¬ ra σ 1112 zo0 0 = 0 then Q 0 σ else Q 1 σ))) : TrI n i_Model_wasFound [jo 1 zo0] σ Q := by
  refine Tr_of ax_Z_81 ?_
  show J n c_Model_wasFound (some .boolean) 0 [some (jo 1 zo0)] [] σ (qI Q)
  obtain ⟨zg1, W⟩ := W
  refine J_aload_no (pc' := 1) rfl rfl zg1 rfl ?_
  refine J_getI (G := 1051) (pc' := 4) rfl rfl (Nat.le_of_ble_eq_true rfl) rfl zg1 rfl ?_
  refine J_if (P := rs σ 1051 zo0 = 0) (t := 20) (f := 7) rfl rfl rfl jc_eq W (fun W => ?_) (fun W => ?_)
  · refine J_iconst (pc' := 21) rfl (i32_d rfl) rfl ?_
    exact J_zret rfl rfl (Or.inl rfl) ⟨_, rfl, W⟩
  · refine J_aload_no (pc' := 8) rfl rfl zg1 rfl ?_
    obtain ⟨zg2, W⟩ := W
    refine J_getA (G := 1112) (pc' := 11) rfl rfl (Nat.le_of_ble_eq_true rfl) rfl zg1 zg2 rfl ?_
    refine J_iconst (pc' := 12) rfl (i32_d rfl) rfl ?_
    obtain ⟨zg3, W⟩ := W
    refine J_iald (pc' := 13) rfl rfl (by decide) zg3 rfl ?_
    refine J_if (P := ¬ ra σ 1112 zo0 0 = 0) (t := 20) (f := 16) rfl rfl rfl jc_ne W (fun W => ?_) (fun W => ?_)
    · refine J_iconst (pc' := 21) rfl (i32_d rfl) rfl ?_
      exact J_zret rfl rfl (Or.inl rfl) ⟨_, rfl, W⟩
    · refine J_iconst (pc' := 17) rfl (i32_d rfl) rfl ?_
      refine J_goto (pc' := 21) rfl rfl ?_
      exact J_zret rfl rfl (Or.inr rfl) ⟨_, rfl, W⟩
theorem wp_Model_isNode {n : Nat} {σ : jS} {Q : Int → jS → Prop} {zo0 : Int} {zx1 : Int} (W : 0 ≤ zo0 ∧ 1 ≤ n ∧ TrI (n - 1) i_Model_wasFound [jo 1 zo0] σ (fun zr4 zs3 => (if zr4 = 0 then Q 0 zs3 else i32 ((rs zs3 1126 zo0) - 1) ∧ TrI (n - 1) i_Model_isIn [ji zx1, ji 0, ji ((rs zs3 1126 zo0) - 1)] zs3 (fun zr7 zs6 => (if zr7 = 0 then Q 0 zs6 else Q 1 zs6))))) : TrI n i_Model_isNode [jo 1 zo0, ji zx1] σ Q := by
  refine Tr_of ax_Z_82 ?_
  show J n c_Model_isNode (some .boolean) 0 [some (jo 1 zo0), some (ji zx1)] [] σ (qI Q)
  obtain ⟨zg1, W⟩ := W
  refine J_aload_no (pc' := 1) rfl rfl zg1 rfl ?_
  obtain ⟨zg2, W⟩ := W
  refine J_callI (as := [jo 1 zo0]) (rest := []) (pc' := 4) rfl rfl ax_Z_81 rfl rfl (Or.inr (Or.inr ⟨_, _, rfl, zg1⟩)) (Nat.le_of_ble_eq_true rfl) (Nat.le_of_ble_eq_true rfl) (Nat.le_of_ble_eq_true rfl) zg2 trivial trivial rfl W (fun zr4 zs3 W => ?_)
  refine J_if (P := zr4 = 0) (t := 25) (f := 7) rfl rfl rfl jc_eq W (fun W => ?_) (fun W => ?_)
  · refine J_iconst (pc' := 26) rfl (i32_d rfl) rfl ?_
    exact J_zret rfl rfl (Or.inl rfl) ⟨_, rfl, W⟩
  · refine J_iload_n (pc' := 8) rfl rfl rfl ?_
    refine J_iconst (pc' := 9) rfl (i32_d rfl) rfl ?_
    refine J_aload_no (pc' := 10) rfl rfl zg1 rfl ?_
    refine J_getI (G := 1126) (pc' := 13) rfl rfl (Nat.le_of_ble_eq_true rfl) rfl zg1 rfl ?_
    refine J_iconst (pc' := 14) rfl (i32_d rfl) rfl ?_
    obtain ⟨zg5, W⟩ := W
    refine J_isub (pc' := 15) rfl zg5 rfl ?_
    refine J_weak (L' := [none, none]) trivial ?_
    refine J_callI (as := [ji zx1, ji 0, ji ((rs zs3 1126 zo0) - 1)]) (rest := []) (pc' := 18) rfl rfl ax_Z_0 rfl rfl (Or.inl rfl) (Nat.le_of_ble_eq_true rfl) (Nat.le_of_ble_eq_true rfl) (Nat.le_of_ble_eq_true rfl) zg2 trivial trivial rfl W (fun zr7 zs6 W => ?_)
    refine J_if (P := zr7 = 0) (t := 25) (f := 21) rfl rfl rfl jc_eq W (fun W => ?_) (fun W => ?_)
    · refine J_iconst (pc' := 26) rfl (i32_d rfl) rfl ?_
      exact J_zret rfl rfl (Or.inl rfl) ⟨_, rfl, W⟩
    · refine J_iconst (pc' := 22) rfl (i32_d rfl) rfl ?_
      refine J_goto (pc' := 26) rfl rfl ?_
      exact J_zret rfl rfl (Or.inr rfl) ⟨_, rfl, W⟩
theorem wp_Model_node {n : Nat} {σ : jS} {Q : Int → jS → Prop} {zo0 : Int} {zx1 : Int} {zx2 : Int} (W : 0 ≤ zo0 ∧ 1 ≤ n ∧ TrI (n - 1) i_Model_isNode [jo 1 zo0, ji zx1] σ (fun zr4 zs3 => (if ¬ zr4 = 0 then (if zx2 = 0 then 0 ≤ rl zs3 1116 zo0 ∧ 0 ≤ zx1 ∧ zx1 < rl zs3 1116 zo0 ∧ Q (ra zs3 1116 zo0 zx1) zs3 else (if zx2 = 1 then 0 ≤ rl zs3 1114 zo0 ∧ 0 ≤ zx1 ∧ zx1 < rl zs3 1114 zo0 ∧ Q (ra zs3 1114 zo0 zx1) zs3 else (if zx2 = 2 then 0 ≤ rl zs3 1115 zo0 ∧ 0 ≤ zx1 ∧ zx1 < rl zs3 1115 zo0 ∧ Q (ra zs3 1115 zo0 zx1) zs3 else (if zx2 = 3 then 0 ≤ rl zs3 1117 zo0 ∧ 0 ≤ zx1 ∧ zx1 < rl zs3 1117 zo0 ∧ Q (ra zs3 1117 zo0 zx1) zs3 else (if zx2 = 4 then 0 ≤ rl zs3 1118 zo0 ∧ 0 ≤ zx1 ∧ zx1 < rl zs3 1118 zo0 ∧ Q (ra zs3 1118 zo0 zx1) zs3 else (if zx2 = 5 then 0 ≤ rl zs3 1119 zo0 ∧ 0 ≤ zx1 ∧ zx1 < rl zs3 1119 zo0 ∧ Q (ra zs3 1119 zo0 zx1) zs3 else (if zx2 = 6 then 0 ≤ rl zs3 1120 zo0 ∧ 0 ≤ zx1 ∧ zx1 < rl zs3 1120 zo0 ∧ Q (ra zs3 1120 zo0 zx1) zs3 else (if zx2 = 7 then 0 ≤ rl zs3 1122 zo0 ∧ 0 ≤ zx1 ∧ zx1 < rl zs3 1122 zo0 ∧ Q (ra zs3 1122 zo0 zx1) zs3 else Q (-2) zs3)))))))) else Q (-2) zs3))) : TrI n i_Model_node [jo 1 zo0, ji zx1, ji zx2] σ Q := by
  refine Tr_of ax_Z_83 ?_
  show J n c_Model_node (some .int) 0 [some (jo 1 zo0), some (ji zx1), some (ji zx2)] [] σ (qI Q)
  obtain ⟨zg1, W⟩ := W
  refine J_aload_no (pc' := 1) rfl rfl zg1 rfl ?_
  refine J_iload_n (pc' := 2) rfl rfl rfl ?_
  obtain ⟨zg2, W⟩ := W
  refine J_callI (as := [jo 1 zo0, ji zx1]) (rest := []) (pc' := 5) rfl rfl ax_Z_82 rfl rfl (Or.inr (Or.inr ⟨_, _, rfl, zg1⟩)) (Nat.le_of_ble_eq_true rfl) (Nat.le_of_ble_eq_true rfl) (Nat.le_of_ble_eq_true rfl) zg2 trivial trivial rfl W (fun zr4 zs3 W => ?_)
  refine J_if (P := ¬ zr4 = 0) (t := 11) (f := 8) rfl rfl rfl jc_ne W (fun W => ?_) (fun W => ?_)
  · refine J_iload_n (pc' := 12) rfl rfl rfl ?_
    by_cases zc29 : zx2 = 0
    · rw [if_pos zc29] at W
      refine J_swC (pc' := 60) (i := 0) rfl (by omega) (by decide) rfl rfl ?_
      refine J_aload_no (pc' := 61) rfl rfl zg1 rfl ?_
      obtain ⟨zg5, W⟩ := W
      refine J_getA (G := 1116) (pc' := 64) rfl rfl (Nat.le_of_ble_eq_true rfl) rfl zg1 zg5 rfl ?_
      refine J_iload_n (pc' := 65) rfl rfl rfl ?_
      obtain ⟨zg6, W⟩ := W
      obtain ⟨zg7, W⟩ := W
      refine J_iald (pc' := 66) rfl rfl zg6 zg7 rfl ?_
      exact J_iret rfl rfl ⟨_, rfl, W⟩
    rw [if_neg zc29] at W
    by_cases zc30 : zx2 = 1
    · rw [if_pos zc30] at W
      refine J_swC (pc' := 67) (i := 1) rfl (by omega) (by decide) rfl rfl ?_
      refine J_aload_no (pc' := 68) rfl rfl zg1 rfl ?_
      obtain ⟨zg8, W⟩ := W
      refine J_getA (G := 1114) (pc' := 71) rfl rfl (Nat.le_of_ble_eq_true rfl) rfl zg1 zg8 rfl ?_
      refine J_iload_n (pc' := 72) rfl rfl rfl ?_
      obtain ⟨zg9, W⟩ := W
      obtain ⟨zg10, W⟩ := W
      refine J_iald (pc' := 73) rfl rfl zg9 zg10 rfl ?_
      exact J_iret rfl rfl ⟨_, rfl, W⟩
    rw [if_neg zc30] at W
    by_cases zc31 : zx2 = 2
    · rw [if_pos zc31] at W
      refine J_swC (pc' := 74) (i := 2) rfl (by omega) (by decide) rfl rfl ?_
      refine J_aload_no (pc' := 75) rfl rfl zg1 rfl ?_
      obtain ⟨zg11, W⟩ := W
      refine J_getA (G := 1115) (pc' := 78) rfl rfl (Nat.le_of_ble_eq_true rfl) rfl zg1 zg11 rfl ?_
      refine J_iload_n (pc' := 79) rfl rfl rfl ?_
      obtain ⟨zg12, W⟩ := W
      obtain ⟨zg13, W⟩ := W
      refine J_iald (pc' := 80) rfl rfl zg12 zg13 rfl ?_
      exact J_iret rfl rfl ⟨_, rfl, W⟩
    rw [if_neg zc31] at W
    by_cases zc32 : zx2 = 3
    · rw [if_pos zc32] at W
      refine J_swC (pc' := 81) (i := 3) rfl (by omega) (by decide) rfl rfl ?_
      refine J_aload_no (pc' := 82) rfl rfl zg1 rfl ?_
      obtain ⟨zg14, W⟩ := W
      refine J_getA (G := 1117) (pc' := 85) rfl rfl (Nat.le_of_ble_eq_true rfl) rfl zg1 zg14 rfl ?_
      refine J_iload_n (pc' := 86) rfl rfl rfl ?_
      obtain ⟨zg15, W⟩ := W
      obtain ⟨zg16, W⟩ := W
      refine J_iald (pc' := 87) rfl rfl zg15 zg16 rfl ?_
      exact J_iret rfl rfl ⟨_, rfl, W⟩
    rw [if_neg zc32] at W
    by_cases zc33 : zx2 = 4
    · rw [if_pos zc33] at W
      refine J_swC (pc' := 88) (i := 4) rfl (by omega) (by decide) rfl rfl ?_
      refine J_aload_no (pc' := 89) rfl rfl zg1 rfl ?_
      obtain ⟨zg17, W⟩ := W
      refine J_getA (G := 1118) (pc' := 92) rfl rfl (Nat.le_of_ble_eq_true rfl) rfl zg1 zg17 rfl ?_
      refine J_iload_n (pc' := 93) rfl rfl rfl ?_
      obtain ⟨zg18, W⟩ := W
      obtain ⟨zg19, W⟩ := W
      refine J_iald (pc' := 94) rfl rfl zg18 zg19 rfl ?_
      exact J_iret rfl rfl ⟨_, rfl, W⟩
    rw [if_neg zc33] at W
    by_cases zc34 : zx2 = 5
    · rw [if_pos zc34] at W
      refine J_swC (pc' := 95) (i := 5) rfl (by omega) (by decide) rfl rfl ?_
      refine J_aload_no (pc' := 96) rfl rfl zg1 rfl ?_
      obtain ⟨zg20, W⟩ := W
      refine J_getA (G := 1119) (pc' := 99) rfl rfl (Nat.le_of_ble_eq_true rfl) rfl zg1 zg20 rfl ?_
      refine J_iload_n (pc' := 100) rfl rfl rfl ?_
      obtain ⟨zg21, W⟩ := W
      obtain ⟨zg22, W⟩ := W
      refine J_iald (pc' := 101) rfl rfl zg21 zg22 rfl ?_
      exact J_iret rfl rfl ⟨_, rfl, W⟩
    rw [if_neg zc34] at W
    by_cases zc35 : zx2 = 6
    · rw [if_pos zc35] at W
      refine J_swC (pc' := 102) (i := 6) rfl (by omega) (by decide) rfl rfl ?_
      refine J_aload_no (pc' := 103) rfl rfl zg1 rfl ?_
      obtain ⟨zg23, W⟩ := W
      refine J_getA (G := 1120) (pc' := 106) rfl rfl (Nat.le_of_ble_eq_true rfl) rfl zg1 zg23 rfl ?_
      refine J_iload_n (pc' := 107) rfl rfl rfl ?_
      obtain ⟨zg24, W⟩ := W
      obtain ⟨zg25, W⟩ := W
      refine J_iald (pc' := 108) rfl rfl zg24 zg25 rfl ?_
      exact J_iret rfl rfl ⟨_, rfl, W⟩
    rw [if_neg zc35] at W
    by_cases zc36 : zx2 = 7
    · rw [if_pos zc36] at W
      refine J_swC (pc' := 109) (i := 7) rfl (by omega) (by decide) rfl rfl ?_
      refine J_aload_no (pc' := 110) rfl rfl zg1 rfl ?_
      obtain ⟨zg26, W⟩ := W
      refine J_getA (G := 1122) (pc' := 113) rfl rfl (Nat.le_of_ble_eq_true rfl) rfl zg1 zg26 rfl ?_
      refine J_iload_n (pc' := 114) rfl rfl rfl ?_
      obtain ⟨zg27, W⟩ := W
      obtain ⟨zg28, W⟩ := W
      refine J_iald (pc' := 115) rfl rfl zg27 zg28 rfl ?_
      exact J_iret rfl rfl ⟨_, rfl, W⟩
    rw [if_neg zc36] at W
    refine J_swD (pc' := 116) rfl (by omega) rfl ?_
    refine J_bipush (pc' := 118) rfl (by decide) (by decide) rfl ?_
    exact J_iret rfl rfl ⟨_, rfl, W⟩
  · refine J_bipush (pc' := 10) rfl (by decide) (by decide) rfl ?_
    exact J_iret rfl rfl ⟨_, rfl, W⟩
theorem wp_Model_put {n : Nat} {σ : jS} {Q : jS → Prop} {zo0 : Int} {zx1 : Int} (W : 0 ≤ zo0 ∧ 0 ≤ rl σ 1132 zo0 ∧ 0 ≤ rs σ 1133 zo0 ∧ rs σ 1133 zo0 < rl σ 1132 zo0 ∧ (∀ zs3, zs3 = wa σ 1132 zo0 (rs σ 1133 zo0) (bI8 (bI8 zx1)) → i32 ((rs zs3 1133 zo0) + 1) ∧ (∀ zs7, zs7 = ws zs3 1133 zo0 ((rs zs3 1133 zo0) + 1) → Q zs7))) : TrV n i_Model_put [jo 1 zo0, ji zx1] σ Q := by
  refine Tr_of ax_Z_84 ?_
  show J n c_Model_put none 0 [some (jo 1 zo0), some (ji zx1)] [] σ (qV Q)
  obtain ⟨zg1, W⟩ := W
  refine J_aload_no (pc' := 1) rfl rfl zg1 rfl ?_
  obtain ⟨zg2, W⟩ := W
  refine J_getA (G := 1132) (pc' := 4) rfl rfl (Nat.le_of_ble_eq_true rfl) rfl zg1 zg2 rfl ?_
  refine J_aload_no (pc' := 5) rfl rfl zg1 rfl ?_
  refine J_getI (G := 1133) (pc' := 8) rfl rfl (Nat.le_of_ble_eq_true rfl) rfl zg1 rfl ?_
  refine J_iload_n (pc' := 9) rfl rfl rfl ?_
  refine J_i2b (pc' := 10) rfl rfl ?_
  obtain ⟨zg4, W⟩ := W
  obtain ⟨zg5, W⟩ := W
  refine J_bast1 (pc' := 11) rfl rfl zg4 zg5 rfl (fun zs3 ezs3 => ?_)
  replace W := W zs3 ezs3
  refine J_aload_no (pc' := 12) rfl rfl zg1 rfl ?_
  refine J_dup (pc' := 13) rfl rfl rfl ?_
  refine J_getI (G := 1133) (pc' := 16) rfl rfl (Nat.le_of_ble_eq_true rfl) rfl zg1 rfl ?_
  refine J_iconst (pc' := 17) rfl (i32_d rfl) rfl ?_
  obtain ⟨zg6, W⟩ := W
  refine J_iadd (pc' := 18) rfl zg6 rfl ?_
  refine J_putI (G := 1133) (pc' := 21) rfl rfl (Nat.le_of_ble_eq_true rfl) rfl rfl zg1 rfl (fun zs7 ezs7 => ?_)
  replace W := W zs7 ezs7
  exact J_vret rfl rfl ⟨rfl, W⟩
theorem wp_Model_putNumber {n : Nat} {σ : jS} {Q : jS → Prop} {zo0 : Int} {zx1 : Int} (W : (if zx1 ≤ 9 then 0 ≤ zo0 ∧ 0 ≤ zx1 ∧ i32 (48 + (zx1 % 10)) ∧ 1 ≤ n ∧ TrV (n - 1) i_Model_put [jo 1 zo0, ji (48 + (zx1 % 10))] σ (fun zs5 => Q zs5) else 0 ≤ zo0 ∧ 0 ≤ zx1 ∧ i32 (48 + (zx1 / 10)) ∧ 1 ≤ n ∧ TrV (n - 1) i_Model_put [jo 1 zo0, ji (48 + (zx1 / 10))] σ (fun zs11 => i32 (48 + (zx1 % 10)) ∧ TrV (n - 1) i_Model_put [jo 1 zo0, ji (48 + (zx1 % 10))] zs11 (fun zs14 => Q zs14)))) : TrV n i_Model_putNumber [jo 1 zo0, ji zx1] σ Q := by
  refine Tr_of ax_Z_85 ?_
  show J n c_Model_putNumber none 0 [some (jo 1 zo0), some (ji zx1)] [] σ (qV Q)
  refine J_iload_n (pc' := 1) rfl rfl rfl ?_
  refine J_bipush (pc' := 3) rfl (by decide) (by decide) rfl ?_
  refine J_icmp (P := zx1 ≤ 9) (t := 17) (f := 6) rfl rfl rfl jc_le W (fun W => ?_) (fun W => ?_)
  · obtain ⟨zg1, W⟩ := W
    refine J_aload_no (pc' := 18) rfl rfl zg1 rfl ?_
    refine J_bipush (pc' := 20) rfl (by decide) (by decide) rfl ?_
    refine J_iload_n (pc' := 21) rfl rfl rfl ?_
    refine J_bipush (pc' := 23) rfl (by decide) (by decide) rfl ?_
    obtain ⟨zg2, W⟩ := W
    refine J_irem (pc' := 24) rfl zg2 (by decide) rfl ?_
    obtain ⟨zg3, W⟩ := W
    refine J_iadd (pc' := 25) rfl zg3 rfl ?_
    obtain ⟨zg4, W⟩ := W
    refine J_weak (L' := [none, none]) trivial ?_
    refine J_callV (as := [jo 1 zo0, ji (48 + (zx1 % 10))]) (rest := []) (pc' := 28) rfl rfl ax_Z_84 rfl rfl (Or.inr (Or.inr ⟨_, _, rfl, zg1⟩)) (Nat.le_of_ble_eq_true rfl) (Nat.le_of_ble_eq_true rfl) (Nat.le_of_ble_eq_true rfl) zg4 trivial trivial rfl W (fun zs5 W => ?_)
    exact J_vret rfl rfl ⟨rfl, W⟩
  · obtain ⟨zg7, W⟩ := W
    refine J_aload_no (pc' := 7) rfl rfl zg7 rfl ?_
    refine J_bipush (pc' := 9) rfl (by decide) (by decide) rfl ?_
    refine J_iload_n (pc' := 10) rfl rfl rfl ?_
    refine J_bipush (pc' := 12) rfl (by decide) (by decide) rfl ?_
    obtain ⟨zg8, W⟩ := W
    refine J_idiv (pc' := 13) rfl zg8 (by decide) rfl ?_
    obtain ⟨zg9, W⟩ := W
    refine J_iadd (pc' := 14) rfl zg9 rfl ?_
    obtain ⟨zg10, W⟩ := W
    refine J_callV (as := [jo 1 zo0, ji (48 + (zx1 / 10))]) (rest := []) (pc' := 17) rfl rfl ax_Z_84 rfl rfl (Or.inr (Or.inr ⟨_, _, rfl, zg7⟩)) (Nat.le_of_ble_eq_true rfl) (Nat.le_of_ble_eq_true rfl) (Nat.le_of_ble_eq_true rfl) zg10 trivial trivial rfl W (fun zs11 W => ?_)
    refine J_aload_no (pc' := 18) rfl rfl zg7 rfl ?_
    refine J_bipush (pc' := 20) rfl (by decide) (by decide) rfl ?_
    refine J_iload_n (pc' := 21) rfl rfl rfl ?_
    refine J_bipush (pc' := 23) rfl (by decide) (by decide) rfl ?_
    refine J_irem (pc' := 24) rfl zg8 (by decide) rfl ?_
    obtain ⟨zg13, W⟩ := W
    refine J_iadd (pc' := 25) rfl zg13 rfl ?_
    refine J_weak (L' := [none, none]) trivial ?_
    refine J_callV (as := [jo 1 zo0, ji (48 + (zx1 % 10))]) (rest := []) (pc' := 28) rfl rfl ax_Z_84 rfl rfl (Or.inr (Or.inr ⟨_, _, rfl, zg7⟩)) (Nat.le_of_ble_eq_true rfl) (Nat.le_of_ble_eq_true rfl) (Nat.le_of_ble_eq_true rfl) zg10 trivial trivial rfl W (fun zs14 W => ?_)
    exact J_vret rfl rfl ⟨rfl, W⟩
theorem wp_Model_writeRow {n : Nat} {σ : jS} {Q : Int → jS → Prop} {zo0 : Int} {zF1 : Nat} {zp1 : Int} {zx2 : Int} {zx3 : Int} (W : 0 ≤ zo0 ∧ (∀ zs2, zs2 = ws σ 1133 zo0 0 → J n c_Model_writeRow (some .int) 11 [some (jo 1 zo0), some (ja zF1 zp1), some (ji zx2), some (ji zx3), some (ji 0), some (ji zx2), none] [] zs2 (qI Q))) : TrI n i_Model_writeRow [jo 1 zo0, ja zF1 zp1, ji zx2, ji zx3] σ Q := by
  refine Tr_of ax_Z_86 ?_
  show J n c_Model_writeRow (some .int) 0 [some (jo 1 zo0), some (ja zF1 zp1), some (ji zx2), some (ji zx3), none, none, none] [] σ (qI Q)
  obtain ⟨zg1, W⟩ := W
  refine J_aload_no (pc' := 1) rfl rfl zg1 rfl ?_
  refine J_iconst (pc' := 2) rfl (i32_d rfl) rfl ?_
  refine J_putI (G := 1133) (pc' := 5) rfl rfl (Nat.le_of_ble_eq_true rfl) rfl rfl zg1 rfl (fun zs2 ezs2 => ?_)
  replace W := W zs2 ezs2
  refine J_iconst (pc' := 6) rfl (i32_d rfl) rfl ?_
  refine J_istore (L' := [some (jo 1 zo0), some (ja zF1 zp1), some (ji zx2), some (ji zx3), some (ji 0), none, none]) (pc' := 8) rfl (Nat.le_of_ble_eq_true rfl) rfl rfl ?_
  refine J_iload_n (pc' := 9) rfl rfl rfl ?_
  refine J_istore (L' := [some (jo 1 zo0), some (ja zF1 zp1), some (ji zx2), some (ji zx3), some (ji 0), some (ji zx2), none]) (pc' := 11) rfl (Nat.le_of_ble_eq_true rfl) rfl rfl ?_
  exact W
theorem wp_Model_writeRow_11 {n : Nat} {σ : jS} {Q : Int → jS → Prop} {zo0 : Int} {zF1 : Nat} {zp1 : Int} {zx2 : Int} {zx3 : Int} {zx4 : Int} {zx5 : Int} (W : i32 (zx2 + zx3) ∧ (if zx2 + zx3 ≤ zx5 then 0 ≤ zo0 ∧ Q (rs σ 1133 zo0) σ else jt zF1 = 0 ∧ 0 ≤ zx5 ∧ zx5 < rl σ zF1 zp1 ∧ (if ra σ zF1 zp1 zx5 < 0 then 0 ≤ zo0 ∧ i32 ((-1) - (ra σ zF1 zp1 zx5)) ∧ 0 ≤ (-1) - (ra σ zF1 zp1 zx5) ∧ i32 (97 + (((-1) - (ra σ zF1 zp1 zx5)) % 26)) ∧ 1 ≤ n ∧ jmv zF1 = false ∧ TrV (n - 1) i_Model_put [jo 1 zo0, ji (97 + (((-1) - (ra σ zF1 zp1 zx5)) % 26))] σ (fun zs12 => i32 ((-1) - (ra σ zF1 zp1 zx5)) ∧ (if (-1) - (ra σ zF1 zp1 zx5) < 26 then J n c_Model_writeRow (some .int) 78 [some (jo 1 zo0), some (ja zF1 zp1), some (ji zx2), some (ji zx3), some (ji zx4), some (ji zx5), some (ji (ra σ zF1 zp1 zx5))] [] zs12 (qI Q) else 0 ≤ (-1) - (ra σ zF1 zp1 zx5) ∧ TrV (n - 1) i_Model_putNumber [jo 1 zo0, ji (((-1) - (ra σ zF1 zp1 zx5)) / 26)] zs12 (fun zs16 => J n c_Model_writeRow (some .int) 78 [some (jo 1 zo0), some (ja zF1 zp1), some (ji zx2), some (ji zx3), some (ji zx4), some (ji zx5), some (ji (ra σ zF1 zp1 zx5))] [] zs16 (qI Q)))) else 0 ≤ zo0 ∧ 0 ≤ ra σ zF1 zp1 zx5 ∧ i32 (65 + ((ra σ zF1 zp1 zx5) / 4)) ∧ 1 ≤ n ∧ jmv zF1 = false ∧ TrV (n - 1) i_Model_put [jo 1 zo0, ji (65 + ((ra σ zF1 zp1 zx5) / 4))] σ (fun zs23 => J n c_Model_writeRow (some .int) 78 [some (jo 1 zo0), some (ja zF1 zp1), some (ji zx2), some (ji zx3), some (ji zx4), some (ji zx5), some (ji (ra σ zF1 zp1 zx5))] [] zs23 (qI Q))))) : J n c_Model_writeRow (some .int) 11 [some (jo 1 zo0), some (ja zF1 zp1), some (ji zx2), some (ji zx3), some (ji zx4), some (ji zx5), none] [] σ (qI Q) := by
  refine J_iload (pc' := 13) rfl rfl rfl ?_
  refine J_iload_n (pc' := 14) rfl rfl rfl ?_
  refine J_iload_n (pc' := 15) rfl rfl rfl ?_
  obtain ⟨zg1, W⟩ := W
  refine J_iadd (pc' := 16) rfl zg1 rfl ?_
  refine J_icmp (P := zx2 + zx3 ≤ zx5) (t := 124) (f := 19) rfl rfl rfl jc_ge W (fun W => ?_) (fun W => ?_)
  · obtain ⟨zg2, W⟩ := W
    refine J_aload_no (pc' := 125) rfl rfl zg2 rfl ?_
    refine J_getI (G := 1133) (pc' := 128) rfl rfl (Nat.le_of_ble_eq_true rfl) rfl zg2 rfl ?_
    exact J_iret rfl rfl ⟨_, rfl, W⟩
  · refine J_aload_na (pc' := 20) rfl rfl rfl ?_
    refine J_iload (pc' := 22) rfl rfl rfl ?_
    obtain ⟨zg3, W⟩ := W
    obtain ⟨zg4, W⟩ := W
    obtain ⟨zg5, W⟩ := W
    refine J_iald (pc' := 23) rfl zg3 zg4 zg5 rfl ?_
    refine J_istore (L' := [some (jo 1 zo0), some (ja zF1 zp1), some (ji zx2), some (ji zx3), some (ji zx4), some (ji zx5), some (ji (ra σ zF1 zp1 zx5))]) (pc' := 25) rfl (Nat.le_of_ble_eq_true rfl) rfl rfl ?_
    refine J_iload (pc' := 27) rfl rfl rfl ?_
    refine J_if (P := ra σ zF1 zp1 zx5 < 0) (t := 44) (f := 30) rfl rfl rfl jc_lt W (fun W => ?_) (fun W => ?_)
    · obtain ⟨zg6, W⟩ := W
      refine J_aload_no (pc' := 45) rfl rfl zg6 rfl ?_
      refine J_bipush (pc' := 47) rfl (by decide) (by decide) rfl ?_
      refine J_iconst (pc' := 48) rfl (i32_d rfl) rfl ?_
      refine J_iload (pc' := 50) rfl rfl rfl ?_
      obtain ⟨zg7, W⟩ := W
      refine J_isub (pc' := 51) rfl zg7 rfl ?_
      refine J_bipush (pc' := 53) rfl (by decide) (by decide) rfl ?_
      obtain ⟨zg8, W⟩ := W
      refine J_irem (pc' := 54) rfl zg8 (by decide) rfl ?_
      obtain ⟨zg9, W⟩ := W
      refine J_iadd (pc' := 55) rfl zg9 rfl ?_
      obtain ⟨zg10, W⟩ := W
      obtain ⟨zg11, W⟩ := W
      refine J_callV (as := [jo 1 zo0, ji (97 + (((-1) - (ra σ zF1 zp1 zx5)) % 26))]) (rest := []) (pc' := 58) rfl rfl ax_Z_84 rfl rfl (Or.inr (Or.inr ⟨_, _, rfl, zg6⟩)) (Nat.le_of_ble_eq_true rfl) (Nat.le_of_ble_eq_true rfl) (Nat.le_of_ble_eq_true rfl) zg10 (And.intro zg11 trivial) trivial rfl W (fun zs12 W => ?_)
      refine J_iconst (pc' := 59) rfl (i32_d rfl) rfl ?_
      refine J_iload (pc' := 61) rfl rfl rfl ?_
      obtain ⟨zg14, W⟩ := W
      refine J_isub (pc' := 62) rfl zg14 rfl ?_
      refine J_bipush (pc' := 64) rfl (by decide) (by decide) rfl ?_
      refine J_icmp (P := (-1) - (ra σ zF1 zp1 zx5) < 26) (t := 78) (f := 67) rfl rfl rfl jc_lt W (fun W => ?_) (fun W => ?_)
      · exact W
      · refine J_aload_no (pc' := 68) rfl rfl zg6 rfl ?_
        refine J_iconst (pc' := 69) rfl (i32_d rfl) rfl ?_
        refine J_iload (pc' := 71) rfl rfl rfl ?_
        refine J_isub (pc' := 72) rfl zg14 rfl ?_
        refine J_bipush (pc' := 74) rfl (by decide) (by decide) rfl ?_
        obtain ⟨zg15, W⟩ := W
        refine J_idiv (pc' := 75) rfl zg15 (by decide) rfl ?_
        refine J_callV (as := [jo 1 zo0, ji (((-1) - (ra σ zF1 zp1 zx5)) / 26)]) (rest := []) (pc' := 78) rfl rfl ax_Z_85 rfl rfl (Or.inr (Or.inr ⟨_, _, rfl, zg6⟩)) (Nat.le_of_ble_eq_true rfl) (Nat.le_of_ble_eq_true rfl) (Nat.le_of_ble_eq_true rfl) zg10 (And.intro zg11 trivial) trivial rfl W (fun zs16 W => ?_)
        exact W
    · obtain ⟨zg18, W⟩ := W
      refine J_aload_no (pc' := 31) rfl rfl zg18 rfl ?_
      refine J_bipush (pc' := 33) rfl (by decide) (by decide) rfl ?_
      refine J_iload (pc' := 35) rfl rfl rfl ?_
      refine J_iconst (pc' := 36) rfl (i32_d rfl) rfl ?_
      obtain ⟨zg19, W⟩ := W
      refine J_idiv (pc' := 37) rfl zg19 (by decide) rfl ?_
      obtain ⟨zg20, W⟩ := W
      refine J_iadd (pc' := 38) rfl zg20 rfl ?_
      obtain ⟨zg21, W⟩ := W
      obtain ⟨zg22, W⟩ := W
      refine J_callV (as := [jo 1 zo0, ji (65 + ((ra σ zF1 zp1 zx5) / 4))]) (rest := []) (pc' := 41) rfl rfl ax_Z_84 rfl rfl (Or.inr (Or.inr ⟨_, _, rfl, zg18⟩)) (Nat.le_of_ble_eq_true rfl) (Nat.le_of_ble_eq_true rfl) (Nat.le_of_ble_eq_true rfl) zg21 (And.intro zg22 trivial) trivial rfl W (fun zs23 W => ?_)
      refine J_goto (pc' := 78) rfl rfl ?_
      exact W
theorem wp_Model_writeRow_78 {n : Nat} {σ : jS} {Q : Int → jS → Prop} {zo0 : Int} {zF1 : Nat} {zp1 : Int} {zx2 : Int} {zx3 : Int} {zx4 : Int} {zx5 : Int} {zx6 : Int} (W : 1 ≤ n ∧ jmv zF1 = false ∧ TrI (n - 1) i_Model_partsOf [ji zx6] σ (fun zr4 zs3 => (if zr4 ≤ 0 then 0 ≤ zo0 ∧ TrI (n - 1) i_Model_closeAll [jo 1 zo0, ji zx4] zs3 (fun zr7 zs6 => i32 (zx5 + 1) ∧ J n c_Model_writeRow (some .int) 11 [some (jo 1 zo0), some (ja zF1 zp1), some (ji zx2), some (ji zx3), some (ji zr7), some (ji (zx5 + 1)), none] [] zs6 (qI Q)) else 0 ≤ zo0 ∧ TrV (n - 1) i_Model_put [jo 1 zo0, ji 40] zs3 (fun zs10 => 0 ≤ rl zs10 1134 zo0 ∧ TrI (n - 1) i_Model_partsOf [ji zx6] zs10 (fun zr14 zs13 => 0 ≤ zx4 ∧ zx4 < rl zs13 1134 zo0 ∧ (∀ zs15, zs15 = wa zs13 1134 zo0 zx4 zr14 → i32 (zx4 + 1) ∧ i32 (zx5 + 1) ∧ J n c_Model_writeRow (some .int) 11 [some (jo 1 zo0), some (ja zF1 zp1), some (ji zx2), some (ji zx3), some (ji (zx4 + 1)), some (ji (zx5 + 1)), none] [] zs15 (qI Q))))))) : J n c_Model_writeRow (some .int) 78 [some (jo 1 zo0), some (ja zF1 zp1), some (ji zx2), some (ji zx3), some (ji zx4), some (ji zx5), some (ji zx6)] [] σ (qI Q) := by
  refine J_iload (pc' := 80) rfl rfl rfl ?_
  obtain ⟨zg1, W⟩ := W
  obtain ⟨zg2, W⟩ := W
  refine J_callI (as := [ji zx6]) (rest := []) (pc' := 83) rfl rfl ax_Z_5 rfl rfl (Or.inl rfl) (Nat.le_of_ble_eq_true rfl) (Nat.le_of_ble_eq_true rfl) (Nat.le_of_ble_eq_true rfl) zg1 (And.intro zg2 trivial) trivial rfl W (fun zr4 zs3 W => ?_)
  refine J_if (P := zr4 ≤ 0) (t := 110) (f := 86) rfl rfl rfl jc_le W (fun W => ?_) (fun W => ?_)
  · obtain ⟨zg5, W⟩ := W
    refine J_aload_no (pc' := 111) rfl rfl zg5 rfl ?_
    refine J_iload (pc' := 113) rfl rfl rfl ?_
    refine J_weak (L' := [some (jo 1 zo0), some (ja zF1 zp1), some (ji zx2), some (ji zx3), none, some (ji zx5), none]) (And.intro rfl (And.intro rfl (And.intro rfl (And.intro rfl (And.intro rfl trivial))))) ?_
    refine J_callI (as := [jo 1 zo0, ji zx4]) (rest := []) (pc' := 116) rfl rfl ax_Z_87 rfl rfl (Or.inr (Or.inr ⟨_, _, rfl, zg5⟩)) (Nat.le_of_ble_eq_true rfl) (Nat.le_of_ble_eq_true rfl) (Nat.le_of_ble_eq_true rfl) zg1 (And.intro zg2 trivial) trivial rfl W (fun zr7 zs6 W => ?_)
    refine J_istore (L' := [some (jo 1 zo0), some (ja zF1 zp1), some (ji zx2), some (ji zx3), some (ji zr7), some (ji zx5), none]) (pc' := 118) rfl (Nat.le_of_ble_eq_true rfl) rfl rfl ?_
    obtain ⟨zg8, W⟩ := W
    refine J_iinc (L' := [some (jo 1 zo0), some (ja zF1 zp1), some (ji zx2), some (ji zx3), some (ji zr7), some (ji (zx5 + 1)), none]) (pc' := 121) rfl rfl zg8 rfl rfl ?_
    refine J_goto (pc' := 11) rfl rfl ?_
    exact W
  · obtain ⟨zg9, W⟩ := W
    refine J_aload_no (pc' := 87) rfl rfl zg9 rfl ?_
    refine J_bipush (pc' := 89) rfl (by decide) (by decide) rfl ?_
    refine J_callV (as := [jo 1 zo0, ji 40]) (rest := []) (pc' := 92) rfl rfl ax_Z_84 rfl rfl (Or.inr (Or.inr ⟨_, _, rfl, zg9⟩)) (Nat.le_of_ble_eq_true rfl) (Nat.le_of_ble_eq_true rfl) (Nat.le_of_ble_eq_true rfl) zg1 (And.intro zg2 trivial) trivial rfl W (fun zs10 W => ?_)
    refine J_aload_no (pc' := 93) rfl rfl zg9 rfl ?_
    obtain ⟨zg12, W⟩ := W
    refine J_getA (G := 1134) (pc' := 96) rfl rfl (Nat.le_of_ble_eq_true rfl) rfl zg9 zg12 rfl ?_
    refine J_iload (pc' := 98) rfl rfl rfl ?_
    refine J_iload (pc' := 100) rfl rfl rfl ?_
    refine J_weak (L' := [some (jo 1 zo0), some (ja zF1 zp1), some (ji zx2), some (ji zx3), some (ji zx4), some (ji zx5), none]) (And.intro rfl (And.intro rfl (And.intro rfl (And.intro rfl (And.intro rfl (And.intro rfl trivial)))))) ?_
    refine J_callI (as := [ji zx6]) (rest := [ji zx4, ja 1134 zo0]) (pc' := 103) rfl rfl ax_Z_5 rfl rfl (Or.inl rfl) (Nat.le_of_ble_eq_true rfl) (Nat.le_of_ble_eq_true rfl) (Nat.le_of_ble_eq_true rfl) zg1 (And.intro zg2 trivial) (And.intro rfl trivial) rfl W (fun zr14 zs13 W => ?_)
    obtain ⟨zg16, W⟩ := W
    obtain ⟨zg17, W⟩ := W
    refine J_iast (pc' := 104) rfl rfl (by decide) zg16 zg17 rfl (fun zs15 ezs15 => ?_)
    replace W := W zs15 ezs15
    obtain ⟨zg18, W⟩ := W
    refine J_iinc (L' := [some (jo 1 zo0), some (ja zF1 zp1), some (ji zx2), some (ji zx3), some (ji (zx4 + 1)), some (ji zx5), none]) (pc' := 107) rfl rfl zg18 rfl rfl ?_
    refine J_goto (pc' := 118) rfl rfl ?_
    obtain ⟨zg19, W⟩ := W
    refine J_iinc (L' := [some (jo 1 zo0), some (ja zF1 zp1), some (ji zx2), some (ji zx3), some (ji (zx4 + 1)), some (ji (zx5 + 1)), none]) (pc' := 121) rfl rfl zg19 rfl rfl ?_
    refine J_goto (pc' := 11) rfl rfl ?_
    exact W
theorem wp_Model_closeAll {n : Nat} {σ : jS} {Q : Int → jS → Prop} {zo0 : Int} {zx1 : Int} (W : J n c_Model_closeAll (some .int) 2 [some (jo 1 zo0), none, some (ji zx1)] [] σ (qI Q)) : TrI n i_Model_closeAll [jo 1 zo0, ji zx1] σ Q := by
  refine Tr_of ax_Z_87 ?_
  show J n c_Model_closeAll (some .int) 0 [some (jo 1 zo0), some (ji zx1), none] [] σ (qI Q)
  refine J_iload_n (pc' := 1) rfl rfl rfl ?_
  refine J_istore_n (L' := [some (jo 1 zo0), some (ji zx1), some (ji zx1)]) (pc' := 2) rfl (Nat.le_of_ble_eq_true rfl) rfl rfl ?_
  refine J_weak (L' := [some (jo 1 zo0), none, some (ji zx1)]) (And.intro rfl (And.intro rfl trivial)) ?_
  exact W
theorem wp_Model_closeAll_2 {n : Nat} {σ : jS} {Q : Int → jS → Prop} {zo0 : Int} {zx2 : Int} (W : (if zx2 ≤ 0 then Q zx2 σ else 0 ≤ zo0 ∧ 0 ≤ rl σ 1134 zo0 ∧ i32 (zx2 - 1) ∧ 0 ≤ zx2 - 1 ∧ zx2 - 1 < rl σ 1134 zo0 ∧ i32 ((ra σ 1134 zo0 (zx2 - 1)) - 1) ∧ (∀ zs7, zs7 = wa σ 1134 zo0 (zx2 - 1) ((ra σ 1134 zo0 (zx2 - 1)) - 1) → 0 ≤ rl zs7 1134 zo0 ∧ zx2 - 1 < rl zs7 1134 zo0 ∧ (if ra zs7 1134 zo0 (zx2 - 1) ≤ 0 then 1 ≤ n ∧ TrV (n - 1) i_Model_put [jo 1 zo0, ji 41] zs7 (fun zs11 => i32 (zx2 + (-1)) ∧ J n c_Model_closeAll (some .int) 2 [some (jo 1 zo0), none, some (ji (zx2 + (-1)))] [] zs11 (qI Q)) else 1 ≤ n ∧ TrV (n - 1) i_Model_put [jo 1 zo0, ji 44] zs7 (fun zs15 => Q zx2 zs15))))) : J n c_Model_closeAll (some .int) 2 [some (jo 1 zo0), none, some (ji zx2)] [] σ (qI Q) := by
  refine J_iload_n (pc' := 3) rfl rfl rfl ?_
  refine J_if (P := zx2 ≤ 0) (t := 49) (f := 6) rfl rfl rfl jc_le W (fun W => ?_) (fun W => ?_)
  · refine J_iload_n (pc' := 50) rfl rfl rfl ?_
    exact J_iret rfl rfl ⟨_, rfl, W⟩
  · obtain ⟨zg1, W⟩ := W
    refine J_aload_no (pc' := 7) rfl rfl zg1 rfl ?_
    obtain ⟨zg2, W⟩ := W
    refine J_getA (G := 1134) (pc' := 10) rfl rfl (Nat.le_of_ble_eq_true rfl) rfl zg1 zg2 rfl ?_
    refine J_iload_n (pc' := 11) rfl rfl rfl ?_
    refine J_iconst (pc' := 12) rfl (i32_d rfl) rfl ?_
    obtain ⟨zg3, W⟩ := W
    refine J_isub (pc' := 13) rfl zg3 rfl ?_
    refine J_dup2 (pc' := 14) rfl rfl rfl rfl ?_
    obtain ⟨zg4, W⟩ := W
    obtain ⟨zg5, W⟩ := W
    refine J_iald (pc' := 15) rfl rfl zg4 zg5 rfl ?_
    refine J_iconst (pc' := 16) rfl (i32_d rfl) rfl ?_
    obtain ⟨zg6, W⟩ := W
    refine J_isub (pc' := 17) rfl zg6 rfl ?_
    refine J_iast (pc' := 18) rfl rfl (by decide) zg4 zg5 rfl (fun zs7 ezs7 => ?_)
    replace W := W zs7 ezs7
    refine J_aload_no (pc' := 19) rfl rfl zg1 rfl ?_
    obtain ⟨zg8, W⟩ := W
    refine J_getA (G := 1134) (pc' := 22) rfl rfl (Nat.le_of_ble_eq_true rfl) rfl zg1 zg8 rfl ?_
    refine J_iload_n (pc' := 23) rfl rfl rfl ?_
    refine J_iconst (pc' := 24) rfl (i32_d rfl) rfl ?_
    refine J_isub (pc' := 25) rfl zg3 rfl ?_
    obtain ⟨zg9, W⟩ := W
    refine J_iald (pc' := 26) rfl rfl zg4 zg9 rfl ?_
    refine J_if (P := ra zs7 1134 zo0 (zx2 - 1) ≤ 0) (t := 37) (f := 29) rfl rfl rfl jc_le W (fun W => ?_) (fun W => ?_)
    · refine J_aload_no (pc' := 38) rfl rfl zg1 rfl ?_
      refine J_bipush (pc' := 40) rfl (by decide) (by decide) rfl ?_
      obtain ⟨zg10, W⟩ := W
      refine J_callV (as := [jo 1 zo0, ji 41]) (rest := []) (pc' := 43) rfl rfl ax_Z_84 rfl rfl (Or.inr (Or.inr ⟨_, _, rfl, zg1⟩)) (Nat.le_of_ble_eq_true rfl) (Nat.le_of_ble_eq_true rfl) (Nat.le_of_ble_eq_true rfl) zg10 trivial trivial rfl W (fun zs11 W => ?_)
      obtain ⟨zg13, W⟩ := W
      refine J_iinc (L' := [some (jo 1 zo0), none, some (ji (zx2 + (-1)))]) (pc' := 46) rfl rfl zg13 rfl rfl ?_
      refine J_goto (pc' := 2) rfl rfl ?_
      exact W
    · refine J_aload_no (pc' := 30) rfl rfl zg1 rfl ?_
      refine J_bipush (pc' := 32) rfl (by decide) (by decide) rfl ?_
      obtain ⟨zg14, W⟩ := W
      refine J_weak (L' := [none, none, some (ji zx2)]) (And.intro rfl trivial) ?_
      refine J_callV (as := [jo 1 zo0, ji 44]) (rest := []) (pc' := 35) rfl rfl ax_Z_84 rfl rfl (Or.inr (Or.inr ⟨_, _, rfl, zg1⟩)) (Nat.le_of_ble_eq_true rfl) (Nat.le_of_ble_eq_true rfl) (Nat.le_of_ble_eq_true rfl) zg14 trivial trivial rfl W (fun zs15 W => ?_)
      refine J_iload_n (pc' := 36) rfl rfl rfl ?_
      exact J_iret rfl rfl ⟨_, rfl, W⟩
theorem wp_Model_writeGoal {n : Nat} {σ : jS} {Q : Int → jS → Prop} {zo0 : Int} {zx1 : Int} (W : 0 ≤ zo0 ∧ 1 ≤ n ∧ TrI (n - 1) i_Model_isNode [jo 1 zo0, ji zx1] σ (fun zr4 zs3 => (if zr4 = 0 then Q (-1) zs3 else 0 ≤ rl zs3 1122 zo0 ∧ 0 ≤ zx1 ∧ zx1 < rl zs3 1122 zo0 ∧ (if 100 < ra zs3 1122 zo0 zx1 then Q (-1) zs3 else 0 ≤ rl zs3 1123 zo0 ∧ i32 (100 * zx1) ∧ TrI (n - 1) i_Model_writeRow [jo 1 zo0, ja 1123 zo0, ji (100 * zx1), ji (ra zs3 1122 zo0 zx1)] zs3 (fun zr11 zs10 => Q zr11 zs10))))) : TrI n i_Model_writeGoal [jo 1 zo0, ji zx1] σ Q := by
  refine Tr_of ax_Z_88 ?_
  show J n c_Model_writeGoal (some .int) 0 [some (jo 1 zo0), some (ji zx1)] [] σ (qI Q)
  obtain ⟨zg1, W⟩ := W
  refine J_aload_no (pc' := 1) rfl rfl zg1 rfl ?_
  refine J_iload_n (pc' := 2) rfl rfl rfl ?_
  obtain ⟨zg2, W⟩ := W
  refine J_callI (as := [jo 1 zo0, ji zx1]) (rest := []) (pc' := 5) rfl rfl ax_Z_82 rfl rfl (Or.inr (Or.inr ⟨_, _, rfl, zg1⟩)) (Nat.le_of_ble_eq_true rfl) (Nat.le_of_ble_eq_true rfl) (Nat.le_of_ble_eq_true rfl) zg2 trivial trivial rfl W (fun zr4 zs3 W => ?_)
  refine J_if (P := zr4 = 0) (t := 40) (f := 8) rfl rfl rfl jc_eq W (fun W => ?_) (fun W => ?_)
  · refine J_iconst (pc' := 41) rfl (i32_d rfl) rfl ?_
    exact J_iret rfl rfl ⟨_, rfl, W⟩
  · refine J_aload_no (pc' := 9) rfl rfl zg1 rfl ?_
    obtain ⟨zg5, W⟩ := W
    refine J_getA (G := 1122) (pc' := 12) rfl rfl (Nat.le_of_ble_eq_true rfl) rfl zg1 zg5 rfl ?_
    refine J_iload_n (pc' := 13) rfl rfl rfl ?_
    obtain ⟨zg6, W⟩ := W
    obtain ⟨zg7, W⟩ := W
    refine J_iald (pc' := 14) rfl rfl zg6 zg7 rfl ?_
    refine J_bipush (pc' := 16) rfl (by decide) (by decide) rfl ?_
    refine J_icmp (P := 100 < ra zs3 1122 zo0 zx1) (t := 40) (f := 19) rfl rfl rfl jc_gt W (fun W => ?_) (fun W => ?_)
    · refine J_iconst (pc' := 41) rfl (i32_d rfl) rfl ?_
      exact J_iret rfl rfl ⟨_, rfl, W⟩
    · refine J_aload_no (pc' := 20) rfl rfl zg1 rfl ?_
      refine J_aload_no (pc' := 21) rfl rfl zg1 rfl ?_
      obtain ⟨zg8, W⟩ := W
      refine J_getA (G := 1123) (pc' := 24) rfl rfl (Nat.le_of_ble_eq_true rfl) rfl zg1 zg8 rfl ?_
      refine J_bipush (pc' := 26) rfl (by decide) (by decide) rfl ?_
      refine J_iload_n (pc' := 27) rfl rfl rfl ?_
      obtain ⟨zg9, W⟩ := W
      refine J_imul (pc' := 28) rfl zg9 rfl ?_
      refine J_aload_no (pc' := 29) rfl rfl zg1 rfl ?_
      refine J_getA (G := 1122) (pc' := 32) rfl rfl (Nat.le_of_ble_eq_true rfl) rfl zg1 zg5 rfl ?_
      refine J_iload_n (pc' := 33) rfl rfl rfl ?_
      refine J_iald (pc' := 34) rfl rfl zg6 zg7 rfl ?_
      refine J_weak (L' := [none, none]) trivial ?_
      refine J_callI (as := [jo 1 zo0, ja 1123 zo0, ji (100 * zx1), ji (ra zs3 1122 zo0 zx1)]) (rest := []) (pc' := 37) rfl rfl ax_Z_86 rfl rfl (Or.inr (Or.inr ⟨_, _, rfl, zg1⟩)) (Nat.le_of_ble_eq_true rfl) (Nat.le_of_ble_eq_true rfl) (Nat.le_of_ble_eq_true rfl) zg2 trivial trivial rfl W (fun zr11 zs10 W => ?_)
      refine J_goto (pc' := 41) rfl rfl ?_
      exact J_iret rfl rfl ⟨_, rfl, W⟩
theorem wp_Model_writeAnswer {n : Nat} {σ : jS} {Q : Int → jS → Prop} {zo0 : Int} (W : 0 ≤ zo0 ∧ (if rs σ 1051 zo0 = 0 then Q (-1) σ else 1 ≤ n ∧ TrI (n - 1) i_Model_isIn [ji (rs σ 1127 zo0), ji 1, ji 100] σ (fun zr4 zs3 => (if zr4 = 0 then Q (-1) zs3 else 0 ≤ rl zs3 1125 zo0 ∧ TrI (n - 1) i_Model_writeRow [jo 1 zo0, ja 1125 zo0, ji 0, ji (rs zs3 1127 zo0)] zs3 (fun zr7 zs6 => Q zr7 zs6))))) : TrI n i_Model_writeAnswer [jo 1 zo0] σ Q := by
  refine Tr_of ax_Z_89 ?_
  show J n c_Model_writeAnswer (some .int) 0 [some (jo 1 zo0)] [] σ (qI Q)
  obtain ⟨zg1, W⟩ := W
  refine J_aload_no (pc' := 1) rfl rfl zg1 rfl ?_
  refine J_getI (G := 1051) (pc' := 4) rfl rfl (Nat.le_of_ble_eq_true rfl) rfl zg1 rfl ?_
  refine J_if (P := rs σ 1051 zo0 = 0) (t := 36) (f := 7) rfl rfl rfl jc_eq W (fun W => ?_) (fun W => ?_)
  · refine J_iconst (pc' := 37) rfl (i32_d rfl) rfl ?_
    exact J_iret rfl rfl ⟨_, rfl, W⟩
  · refine J_aload_no (pc' := 8) rfl rfl zg1 rfl ?_
    refine J_getI (G := 1127) (pc' := 11) rfl rfl (Nat.le_of_ble_eq_true rfl) rfl zg1 rfl ?_
    refine J_iconst (pc' := 12) rfl (i32_d rfl) rfl ?_
    refine J_bipush (pc' := 14) rfl (by decide) (by decide) rfl ?_
    obtain ⟨zg2, W⟩ := W
    refine J_callI (as := [ji (rs σ 1127 zo0), ji 1, ji 100]) (rest := []) (pc' := 17) rfl rfl ax_Z_0 rfl rfl (Or.inl rfl) (Nat.le_of_ble_eq_true rfl) (Nat.le_of_ble_eq_true rfl) (Nat.le_of_ble_eq_true rfl) zg2 trivial trivial rfl W (fun zr4 zs3 W => ?_)
    refine J_if (P := zr4 = 0) (t := 36) (f := 20) rfl rfl rfl jc_eq W (fun W => ?_) (fun W => ?_)
    · refine J_iconst (pc' := 37) rfl (i32_d rfl) rfl ?_
      exact J_iret rfl rfl ⟨_, rfl, W⟩
    · refine J_aload_no (pc' := 21) rfl rfl zg1 rfl ?_
      refine J_aload_no (pc' := 22) rfl rfl zg1 rfl ?_
      obtain ⟨zg5, W⟩ := W
      refine J_getA (G := 1125) (pc' := 25) rfl rfl (Nat.le_of_ble_eq_true rfl) rfl zg1 zg5 rfl ?_
      refine J_iconst (pc' := 26) rfl (i32_d rfl) rfl ?_
      refine J_aload_no (pc' := 27) rfl rfl zg1 rfl ?_
      refine J_getI (G := 1127) (pc' := 30) rfl rfl (Nat.le_of_ble_eq_true rfl) rfl zg1 rfl ?_
      refine J_weak (L' := [none]) trivial ?_
      refine J_callI (as := [jo 1 zo0, ja 1125 zo0, ji 0, ji (rs zs3 1127 zo0)]) (rest := []) (pc' := 33) rfl rfl ax_Z_86 rfl rfl (Or.inr (Or.inr ⟨_, _, rfl, zg1⟩)) (Nat.le_of_ble_eq_true rfl) (Nat.le_of_ble_eq_true rfl) (Nat.le_of_ble_eq_true rfl) zg2 trivial trivial rfl W (fun zr7 zs6 W => ?_)
      refine J_goto (pc' := 37) rfl rfl ?_
      exact J_iret rfl rfl ⟨_, rfl, W⟩
theorem wp_Model_writeTree {n : Nat} {σ : jS} {Q : Int → jS → Prop} {zo0 : Int} (W : 0 ≤ zo0 ∧ 1 ≤ n ∧ TrI (n - 1) i_Model_wasFound [jo 1 zo0] σ (fun zr4 zs3 => (if ¬ zr4 = 0 then (∀ zs5, zs5 = ws zs3 1133 zo0 0 → J n c_Model_writeTree (some .int) 18 [some (jo 1 zo0), some (ji 0), some (ji 0)] [] zs5 (qI Q)) else Q (-1) zs3))) : TrI n i_Model_writeTree [jo 1 zo0] σ Q := by
  refine Tr_of ax_Z_90 ?_
  show J n c_Model_writeTree (some .int) 0 [some (jo 1 zo0), none, none] [] σ (qI Q)
  obtain ⟨zg1, W⟩ := W
  refine J_aload_no (pc' := 1) rfl rfl zg1 rfl ?_
  obtain ⟨zg2, W⟩ := W
  refine J_callI (as := [jo 1 zo0]) (rest := []) (pc' := 4) rfl rfl ax_Z_81 rfl rfl (Or.inr (Or.inr ⟨_, _, rfl, zg1⟩)) (Nat.le_of_ble_eq_true rfl) (Nat.le_of_ble_eq_true rfl) (Nat.le_of_ble_eq_true rfl) zg2 trivial trivial rfl W (fun zr4 zs3 W => ?_)
  refine J_if (P := ¬ zr4 = 0) (t := 9) (f := 7) rfl rfl rfl jc_ne W (fun W => ?_) (fun W => ?_)
  · refine J_aload_no (pc' := 10) rfl rfl zg1 rfl ?_
    refine J_iconst (pc' := 11) rfl (i32_d rfl) rfl ?_
    refine J_putI (G := 1133) (pc' := 14) rfl rfl (Nat.le_of_ble_eq_true rfl) rfl rfl zg1 rfl (fun zs5 ezs5 => ?_)
    replace W := W zs5 ezs5
    refine J_iconst (pc' := 15) rfl (i32_d rfl) rfl ?_
    refine J_istore_n (L' := [some (jo 1 zo0), some (ji 0), none]) (pc' := 16) rfl (Nat.le_of_ble_eq_true rfl) rfl rfl ?_
    refine J_iconst (pc' := 17) rfl (i32_d rfl) rfl ?_
    refine J_istore_n (L' := [some (jo 1 zo0), some (ji 0), some (ji 0)]) (pc' := 18) rfl (Nat.le_of_ble_eq_true rfl) rfl rfl ?_
    exact W
  · refine J_iconst (pc' := 8) rfl (i32_d rfl) rfl ?_
    exact J_iret rfl rfl ⟨_, rfl, W⟩
theorem wp_Model_writeTree_18 {n : Nat} {σ : jS} {Q : Int → jS → Prop} {zo0 : Int} {zx1 : Int} {zx2 : Int} (W : 0 ≤ zo0 ∧ (if rs σ 1126 zo0 ≤ zx2 then Q (rs σ 1133 zo0) σ else 1 ≤ n ∧ TrV (n - 1) i_Model_put [jo 1 zo0, ji 103] σ (fun zs3 => 0 ≤ rl zs3 1116 zo0 ∧ 0 ≤ zx2 ∧ zx2 < rl zs3 1116 zo0 ∧ TrV (n - 1) i_Model_putNumber [jo 1 zo0, ji (ra zs3 1116 zo0 zx2)] zs3 (fun zs8 => 0 ≤ rl zs8 1121 zo0 ∧ zx2 < rl zs8 1121 zo0 ∧ (if ra zs8 1121 zo0 zx2 ≤ 0 then TrI (n - 1) i_Model_closeAll [jo 1 zo0, ji zx1] zs8 (fun zr13 zs12 => i32 (zx2 + 1) ∧ J n c_Model_writeTree (some .int) 18 [some (jo 1 zo0), some (ji zr13), some (ji (zx2 + 1))] [] zs12 (qI Q)) else TrV (n - 1) i_Model_put [jo 1 zo0, ji 40] zs8 (fun zs15 => 0 ≤ rl zs15 1134 zo0 ∧ 0 ≤ rl zs15 1121 zo0 ∧ zx2 < rl zs15 1121 zo0 ∧ 0 ≤ zx1 ∧ zx1 < rl zs15 1134 zo0 ∧ (∀ zs20, zs20 = wa zs15 1134 zo0 zx1 (ra zs15 1121 zo0 zx2) → i32 (zx1 + 1) ∧ i32 (zx2 + 1) ∧ J n c_Model_writeTree (some .int) 18 [some (jo 1 zo0), some (ji (zx1 + 1)), some (ji (zx2 + 1))] [] zs20 (qI Q)))))))) : J n c_Model_writeTree (some .int) 18 [some (jo 1 zo0), some (ji zx1), some (ji zx2)] [] σ (qI Q) := by
  refine J_iload_n (pc' := 19) rfl rfl rfl ?_
  obtain ⟨zg1, W⟩ := W
  refine J_aload_no (pc' := 20) rfl rfl zg1 rfl ?_
  refine J_getI (G := 1126) (pc' := 23) rfl rfl (Nat.le_of_ble_eq_true rfl) rfl zg1 rfl ?_
  refine J_icmp (P := rs σ 1126 zo0 ≤ zx2) (t := 87) (f := 26) rfl rfl rfl jc_ge W (fun W => ?_) (fun W => ?_)
  · refine J_aload_no (pc' := 88) rfl rfl zg1 rfl ?_
    refine J_getI (G := 1133) (pc' := 91) rfl rfl (Nat.le_of_ble_eq_true rfl) rfl zg1 rfl ?_
    exact J_iret rfl rfl ⟨_, rfl, W⟩
  · refine J_aload_no (pc' := 27) rfl rfl zg1 rfl ?_
    refine J_bipush (pc' := 29) rfl (by decide) (by decide) rfl ?_
    obtain ⟨zg2, W⟩ := W
    refine J_callV (as := [jo 1 zo0, ji 103]) (rest := []) (pc' := 32) rfl rfl ax_Z_84 rfl rfl (Or.inr (Or.inr ⟨_, _, rfl, zg1⟩)) (Nat.le_of_ble_eq_true rfl) (Nat.le_of_ble_eq_true rfl) (Nat.le_of_ble_eq_true rfl) zg2 trivial trivial rfl W (fun zs3 W => ?_)
    refine J_aload_no (pc' := 33) rfl rfl zg1 rfl ?_
    refine J_aload_no (pc' := 34) rfl rfl zg1 rfl ?_
    obtain ⟨zg5, W⟩ := W
    refine J_getA (G := 1116) (pc' := 37) rfl rfl (Nat.le_of_ble_eq_true rfl) rfl zg1 zg5 rfl ?_
    refine J_iload_n (pc' := 38) rfl rfl rfl ?_
    obtain ⟨zg6, W⟩ := W
    obtain ⟨zg7, W⟩ := W
    refine J_iald (pc' := 39) rfl rfl zg6 zg7 rfl ?_
    refine J_callV (as := [jo 1 zo0, ji (ra zs3 1116 zo0 zx2)]) (rest := []) (pc' := 42) rfl rfl ax_Z_85 rfl rfl (Or.inr (Or.inr ⟨_, _, rfl, zg1⟩)) (Nat.le_of_ble_eq_true rfl) (Nat.le_of_ble_eq_true rfl) (Nat.le_of_ble_eq_true rfl) zg2 trivial trivial rfl W (fun zs8 W => ?_)
    refine J_aload_no (pc' := 43) rfl rfl zg1 rfl ?_
    obtain ⟨zg10, W⟩ := W
    refine J_getA (G := 1121) (pc' := 46) rfl rfl (Nat.le_of_ble_eq_true rfl) rfl zg1 zg10 rfl ?_
    refine J_iload_n (pc' := 47) rfl rfl rfl ?_
    obtain ⟨zg11, W⟩ := W
    refine J_iald (pc' := 48) rfl rfl zg6 zg11 rfl ?_
    refine J_if (P := ra zs8 1121 zo0 zx2 ≤ 0) (t := 75) (f := 51) rfl rfl rfl jc_le W (fun W => ?_) (fun W => ?_)
    · refine J_aload_no (pc' := 76) rfl rfl zg1 rfl ?_
      refine J_iload_n (pc' := 77) rfl rfl rfl ?_
      refine J_weak (L' := [some (jo 1 zo0), none, some (ji zx2)]) (And.intro rfl (And.intro rfl trivial)) ?_
      refine J_callI (as := [jo 1 zo0, ji zx1]) (rest := []) (pc' := 80) rfl rfl ax_Z_87 rfl rfl (Or.inr (Or.inr ⟨_, _, rfl, zg1⟩)) (Nat.le_of_ble_eq_true rfl) (Nat.le_of_ble_eq_true rfl) (Nat.le_of_ble_eq_true rfl) zg2 trivial trivial rfl W (fun zr13 zs12 W => ?_)
      refine J_istore_n (L' := [some (jo 1 zo0), some (ji zr13), some (ji zx2)]) (pc' := 81) rfl (Nat.le_of_ble_eq_true rfl) rfl rfl ?_
      obtain ⟨zg14, W⟩ := W
      refine J_iinc (L' := [some (jo 1 zo0), some (ji zr13), some (ji (zx2 + 1))]) (pc' := 84) rfl rfl zg14 rfl rfl ?_
      refine J_goto (pc' := 18) rfl rfl ?_
      exact W
    · refine J_aload_no (pc' := 52) rfl rfl zg1 rfl ?_
      refine J_bipush (pc' := 54) rfl (by decide) (by decide) rfl ?_
      refine J_callV (as := [jo 1 zo0, ji 40]) (rest := []) (pc' := 57) rfl rfl ax_Z_84 rfl rfl (Or.inr (Or.inr ⟨_, _, rfl, zg1⟩)) (Nat.le_of_ble_eq_true rfl) (Nat.le_of_ble_eq_true rfl) (Nat.le_of_ble_eq_true rfl) zg2 trivial trivial rfl W (fun zs15 W => ?_)
      refine J_aload_no (pc' := 58) rfl rfl zg1 rfl ?_
      obtain ⟨zg17, W⟩ := W
      refine J_getA (G := 1134) (pc' := 61) rfl rfl (Nat.le_of_ble_eq_true rfl) rfl zg1 zg17 rfl ?_
      refine J_iload_n (pc' := 62) rfl rfl rfl ?_
      refine J_aload_no (pc' := 63) rfl rfl zg1 rfl ?_
      obtain ⟨zg18, W⟩ := W
      refine J_getA (G := 1121) (pc' := 66) rfl rfl (Nat.le_of_ble_eq_true rfl) rfl zg1 zg18 rfl ?_
      refine J_iload_n (pc' := 67) rfl rfl rfl ?_
      obtain ⟨zg19, W⟩ := W
      refine J_iald (pc' := 68) rfl rfl zg6 zg19 rfl ?_
      obtain ⟨zg21, W⟩ := W
      obtain ⟨zg22, W⟩ := W
      refine J_iast (pc' := 69) rfl rfl (by decide) zg21 zg22 rfl (fun zs20 ezs20 => ?_)
      replace W := W zs20 ezs20
      obtain ⟨zg23, W⟩ := W
      refine J_iinc (L' := [some (jo 1 zo0), some (ji (zx1 + 1)), some (ji zx2)]) (pc' := 72) rfl rfl zg23 rfl rfl ?_
      refine J_goto (pc' := 81) rfl rfl ?_
      obtain ⟨zg24, W⟩ := W
      refine J_iinc (L' := [some (jo 1 zo0), some (ji (zx1 + 1)), some (ji (zx2 + 1))]) (pc' := 84) rfl rfl zg24 rfl rfl ?_
      refine J_goto (pc' := 18) rfl rfl ?_
      exact W
theorem wp_Model_both {n : Nat} {σ : jS} {Q : Int → jS → Prop} {zo0 : Int} {zx1 : Int} (W : 0 ≤ zo0 ∧ (if rs σ 1051 zo0 = 0 then Q (-1) σ else 0 ≤ rl σ 1112 zo0 ∧ 0 < rl σ 1112 zo0 ∧ (if ¬ ra σ 1112 zo0 0 = 2 then Q (-1) σ else 1 ≤ n ∧ TrI (n - 1) i_Model_isIn [ji zx1, ji 0, ji 1] σ (fun zr6 zs5 => (if zr6 = 0 then Q (-1) zs5 else (if ¬ zx1 = 0 then Q (rs zs5 1129 zo0) zs5 else Q (rs zs5 1128 zo0) zs5)))))) : TrI n i_Model_both [jo 1 zo0, ji zx1] σ Q := by
  refine Tr_of ax_Z_91 ?_
  show J n c_Model_both (some .int) 0 [some (jo 1 zo0), some (ji zx1)] [] σ (qI Q)
  obtain ⟨zg1, W⟩ := W
  refine J_aload_no (pc' := 1) rfl rfl zg1 rfl ?_
  refine J_getI (G := 1051) (pc' := 4) rfl rfl (Nat.le_of_ble_eq_true rfl) rfl zg1 rfl ?_
  refine J_if (P := rs σ 1051 zo0 = 0) (t := 44) (f := 7) rfl rfl rfl jc_eq W (fun W => ?_) (fun W => ?_)
  · refine J_iconst (pc' := 45) rfl (i32_d rfl) rfl ?_
    exact J_iret rfl rfl ⟨_, rfl, W⟩
  · refine J_aload_no (pc' := 8) rfl rfl zg1 rfl ?_
    obtain ⟨zg2, W⟩ := W
    refine J_getA (G := 1112) (pc' := 11) rfl rfl (Nat.le_of_ble_eq_true rfl) rfl zg1 zg2 rfl ?_
    refine J_iconst (pc' := 12) rfl (i32_d rfl) rfl ?_
    obtain ⟨zg3, W⟩ := W
    refine J_iald (pc' := 13) rfl rfl (by decide) zg3 rfl ?_
    refine J_iconst (pc' := 14) rfl (i32_d rfl) rfl ?_
    refine J_icmp (P := ¬ ra σ 1112 zo0 0 = 2) (t := 44) (f := 17) rfl rfl rfl jc_ne W (fun W => ?_) (fun W => ?_)
    · refine J_iconst (pc' := 45) rfl (i32_d rfl) rfl ?_
      exact J_iret rfl rfl ⟨_, rfl, W⟩
    · refine J_iload_n (pc' := 18) rfl rfl rfl ?_
      refine J_iconst (pc' := 19) rfl (i32_d rfl) rfl ?_
      refine J_iconst (pc' := 20) rfl (i32_d rfl) rfl ?_
      obtain ⟨zg4, W⟩ := W
      refine J_callI (as := [ji zx1, ji 0, ji 1]) (rest := []) (pc' := 23) rfl rfl ax_Z_0 rfl rfl (Or.inl rfl) (Nat.le_of_ble_eq_true rfl) (Nat.le_of_ble_eq_true rfl) (Nat.le_of_ble_eq_true rfl) zg4 trivial trivial rfl W (fun zr6 zs5 W => ?_)
      refine J_if (P := zr6 = 0) (t := 44) (f := 26) rfl rfl rfl jc_eq W (fun W => ?_) (fun W => ?_)
      · refine J_iconst (pc' := 45) rfl (i32_d rfl) rfl ?_
        exact J_iret rfl rfl ⟨_, rfl, W⟩
      · refine J_iload_n (pc' := 27) rfl rfl rfl ?_
        refine J_if (P := ¬ zx1 = 0) (t := 37) (f := 30) rfl rfl rfl jc_ne W (fun W => ?_) (fun W => ?_)
        · refine J_aload_no (pc' := 38) rfl rfl zg1 rfl ?_
          refine J_getI (G := 1129) (pc' := 41) rfl rfl (Nat.le_of_ble_eq_true rfl) rfl zg1 rfl ?_
          refine J_goto (pc' := 45) rfl rfl ?_
          exact J_iret rfl rfl ⟨_, rfl, W⟩
        · refine J_aload_no (pc' := 31) rfl rfl zg1 rfl ?_
          refine J_getI (G := 1128) (pc' := 34) rfl rfl (Nat.le_of_ble_eq_true rfl) rfl zg1 rfl ?_
          refine J_goto (pc' := 45) rfl rfl ?_
          exact J_iret rfl rfl ⟨_, rfl, W⟩
theorem wp_Model_octet {n : Nat} {σ : jS} {Q : Int → jS → Prop} {zo0 : Int} {zx1 : Int} (W : 0 ≤ zo0 ∧ i32 ((rs σ 1133 zo0) - 1) ∧ 1 ≤ n ∧ TrI (n - 1) i_Model_isIn [ji zx1, ji 0, ji ((rs σ 1133 zo0) - 1)] σ (fun zr5 zs4 => (if zr5 = 0 then Q (-1) zs4 else 0 ≤ rl zs4 1132 zo0 ∧ 0 ≤ zx1 ∧ zx1 < rl zs4 1132 zo0 ∧ Q (ra zs4 1132 zo0 zx1) zs4))) : TrI n i_Model_octet [jo 1 zo0, ji zx1] σ Q := by
  refine Tr_of ax_Z_92 ?_
  show J n c_Model_octet (some .int) 0 [some (jo 1 zo0), some (ji zx1)] [] σ (qI Q)
  refine J_iload_n (pc' := 1) rfl rfl rfl ?_
  refine J_iconst (pc' := 2) rfl (i32_d rfl) rfl ?_
  obtain ⟨zg1, W⟩ := W
  refine J_aload_no (pc' := 3) rfl rfl zg1 rfl ?_
  refine J_getI (G := 1133) (pc' := 6) rfl rfl (Nat.le_of_ble_eq_true rfl) rfl zg1 rfl ?_
  refine J_iconst (pc' := 7) rfl (i32_d rfl) rfl ?_
  obtain ⟨zg2, W⟩ := W
  refine J_isub (pc' := 8) rfl zg2 rfl ?_
  obtain ⟨zg3, W⟩ := W
  refine J_callI (as := [ji zx1, ji 0, ji ((rs σ 1133 zo0) - 1)]) (rest := []) (pc' := 11) rfl rfl ax_Z_0 rfl rfl (Or.inl rfl) (Nat.le_of_ble_eq_true rfl) (Nat.le_of_ble_eq_true rfl) (Nat.le_of_ble_eq_true rfl) zg3 trivial trivial rfl W (fun zr5 zs4 W => ?_)
  refine J_if (P := zr5 = 0) (t := 23) (f := 14) rfl rfl rfl jc_eq W (fun W => ?_) (fun W => ?_)
  · refine J_iconst (pc' := 24) rfl (i32_d rfl) rfl ?_
    exact J_iret rfl rfl ⟨_, rfl, W⟩
  · refine J_aload_no (pc' := 15) rfl rfl zg1 rfl ?_
    obtain ⟨zg6, W⟩ := W
    refine J_getA (G := 1132) (pc' := 18) rfl rfl (Nat.le_of_ble_eq_true rfl) rfl zg1 zg6 rfl ?_
    refine J_iload_n (pc' := 19) rfl rfl rfl ?_
    obtain ⟨zg7, W⟩ := W
    obtain ⟨zg8, W⟩ := W
    refine J_bald (pc' := 20) rfl (Or.inl rfl) zg7 zg8 rfl ?_
    refine J_goto (pc' := 24) rfl rfl ?_
    exact J_iret rfl rfl ⟨_, rfl, W⟩
theorem wp_Model_endWith {n : Nat} {σ : jS} {Q : Int → jS → Prop} {zo0 : Int} {zx1 : Int} (W : 0 ≤ zo0 ∧ (∀ zs2, zs2 = ws σ 1015 zo0 zx1 → 1 ≤ n ∧ TrI (n - 1) i_Model_askAll [jo 1 zo0, ji 1] zs2 (fun zr5 zs4 => (∀ zs6, zs6 = ws zs4 1015 zo0 (rs σ 1015 zo0) → Q zr5 zs6)))) : TrI n i_Model_endWith [jo 1 zo0, ji zx1] σ Q := by
  refine Tr_of ax_Z_93 ?_
  show J n c_Model_endWith (some .int) 0 [some (jo 1 zo0), some (ji zx1), none, none] [] σ (qI Q)
  obtain ⟨zg1, W⟩ := W
  refine J_aload_no (pc' := 1) rfl rfl zg1 rfl ?_
  refine J_getI (G := 1015) (pc' := 4) rfl rfl (Nat.le_of_ble_eq_true rfl) rfl zg1 rfl ?_
  refine J_istore_n (L' := [some (jo 1 zo0), some (ji zx1), some (ji (rs σ 1015 zo0)), none]) (pc' := 5) rfl (Nat.le_of_ble_eq_true rfl) rfl rfl ?_
  refine J_aload_no (pc' := 6) rfl rfl zg1 rfl ?_
  refine J_iload_n (pc' := 7) rfl rfl rfl ?_
  refine J_putI (G := 1015) (pc' := 10) rfl rfl (Nat.le_of_ble_eq_true rfl) rfl rfl zg1 rfl (fun zs2 ezs2 => ?_)
  replace W := W zs2 ezs2
  refine J_aload_no (pc' := 11) rfl rfl zg1 rfl ?_
  refine J_iconst (pc' := 12) rfl (i32_d rfl) rfl ?_
  obtain ⟨zg3, W⟩ := W
  refine J_weak (L' := [some (jo 1 zo0), none, some (ji (rs σ 1015 zo0)), none]) (And.intro rfl (And.intro rfl trivial)) ?_
  refine J_callI (as := [jo 1 zo0, ji 1]) (rest := []) (pc' := 15) rfl rfl ax_Z_74 rfl rfl (Or.inr (Or.inr ⟨_, _, rfl, zg1⟩)) (Nat.le_of_ble_eq_true rfl) (Nat.le_of_ble_eq_true rfl) (Nat.le_of_ble_eq_true rfl) zg3 trivial trivial rfl W (fun zr5 zs4 W => ?_)
  refine J_istore_n (L' := [some (jo 1 zo0), none, some (ji (rs σ 1015 zo0)), some (ji zr5)]) (pc' := 16) rfl (Nat.le_of_ble_eq_true rfl) rfl rfl ?_
  refine J_aload_no (pc' := 17) rfl rfl zg1 rfl ?_
  refine J_iload_n (pc' := 18) rfl rfl rfl ?_
  refine J_putI (G := 1015) (pc' := 21) rfl rfl (Nat.le_of_ble_eq_true rfl) rfl rfl zg1 rfl (fun zs6 ezs6 => ?_)
  replace W := W zs6 ezs6
  refine J_iload_n (pc' := 22) rfl rfl rfl ?_
  exact J_iret rfl rfl ⟨_, rfl, W⟩
theorem wp_Model_without {n : Nat} {σ : jS} {Q : Int → jS → Prop} {zo0 : Int} {zx1 : Int} (W : 0 ≤ zo0 ∧ (if rs σ 1051 zo0 = 0 then Q (-1) σ else 1 ≤ n ∧ TrI (n - 1) i_Model_isGiven [jo 1 zo0, ji zx1] σ (fun zr4 zs3 => (if zr4 = 0 then Q (-1) zs3 else TrI (n - 1) i_Model_endWith [jo 1 zo0, ji (bOr (rs zs3 1015 zo0) (bShl 1 zx1))] zs3 (fun zr6 zs5 => Q zr6 zs5))))) : TrI n i_Model_without [jo 1 zo0, ji zx1] σ Q := by
  refine Tr_of ax_Z_94 ?_
  show J n c_Model_without (some .int) 0 [some (jo 1 zo0), some (ji zx1)] [] σ (qI Q)
  obtain ⟨zg1, W⟩ := W
  refine J_aload_no (pc' := 1) rfl rfl zg1 rfl ?_
  refine J_getI (G := 1051) (pc' := 4) rfl rfl (Nat.le_of_ble_eq_true rfl) rfl zg1 rfl ?_
  refine J_if (P := rs σ 1051 zo0 = 0) (t := 30) (f := 7) rfl rfl rfl jc_eq W (fun W => ?_) (fun W => ?_)
  · refine J_iconst (pc' := 31) rfl (i32_d rfl) rfl ?_
    exact J_iret rfl rfl ⟨_, rfl, W⟩
  · refine J_aload_no (pc' := 8) rfl rfl zg1 rfl ?_
    refine J_iload_n (pc' := 9) rfl rfl rfl ?_
    obtain ⟨zg2, W⟩ := W
    refine J_callI (as := [jo 1 zo0, ji zx1]) (rest := []) (pc' := 12) rfl rfl ax_Z_25 rfl rfl (Or.inr (Or.inr ⟨_, _, rfl, zg1⟩)) (Nat.le_of_ble_eq_true rfl) (Nat.le_of_ble_eq_true rfl) (Nat.le_of_ble_eq_true rfl) zg2 trivial trivial rfl W (fun zr4 zs3 W => ?_)
    refine J_if (P := zr4 = 0) (t := 30) (f := 15) rfl rfl rfl jc_eq W (fun W => ?_) (fun W => ?_)
    · refine J_iconst (pc' := 31) rfl (i32_d rfl) rfl ?_
      exact J_iret rfl rfl ⟨_, rfl, W⟩
    · refine J_aload_no (pc' := 16) rfl rfl zg1 rfl ?_
      refine J_aload_no (pc' := 17) rfl rfl zg1 rfl ?_
      refine J_getI (G := 1015) (pc' := 20) rfl rfl (Nat.le_of_ble_eq_true rfl) rfl zg1 rfl ?_
      refine J_iconst (pc' := 21) rfl (i32_d rfl) rfl ?_
      refine J_iload_n (pc' := 22) rfl rfl rfl ?_
      refine J_ishl (pc' := 23) rfl rfl ?_
      refine J_ior (pc' := 24) rfl rfl ?_
      refine J_weak (L' := [none, none]) trivial ?_
      refine J_callI (as := [jo 1 zo0, ji (bOr (rs zs3 1015 zo0) (bShl 1 zx1))]) (rest := []) (pc' := 27) rfl rfl ax_Z_93 rfl rfl (Or.inr (Or.inr ⟨_, _, rfl, zg1⟩)) (Nat.le_of_ble_eq_true rfl) (Nat.le_of_ble_eq_true rfl) (Nat.le_of_ble_eq_true rfl) zg2 trivial trivial rfl W (fun zr6 zs5 W => ?_)
      refine J_goto (pc' := 31) rfl rfl ?_
      exact J_iret rfl rfl ⟨_, rfl, W⟩
theorem wp_Model_needed {n : Nat} {σ : jS} {Q : Int → jS → Prop} {zo0 : Int} (W : 0 ≤ zo0 ∧ 1 ≤ n ∧ TrI (n - 1) i_Model_wasFound [jo 1 zo0] σ (fun zr4 zs3 => (if ¬ zr4 = 0 then J n c_Model_needed (some .int) 13 [some (jo 1 zo0), some (ji 0), some (ji 0)] [] zs3 (qI Q) else Q (-1) zs3))) : TrI n i_Model_needed [jo 1 zo0] σ Q := by
  refine Tr_of ax_Z_95 ?_
  show J n c_Model_needed (some .int) 0 [some (jo 1 zo0), none, none] [] σ (qI Q)
  obtain ⟨zg1, W⟩ := W
  refine J_aload_no (pc' := 1) rfl rfl zg1 rfl ?_
  obtain ⟨zg2, W⟩ := W
  refine J_callI (as := [jo 1 zo0]) (rest := []) (pc' := 4) rfl rfl ax_Z_81 rfl rfl (Or.inr (Or.inr ⟨_, _, rfl, zg1⟩)) (Nat.le_of_ble_eq_true rfl) (Nat.le_of_ble_eq_true rfl) (Nat.le_of_ble_eq_true rfl) zg2 trivial trivial rfl W (fun zr4 zs3 W => ?_)
  refine J_if (P := ¬ zr4 = 0) (t := 9) (f := 7) rfl rfl rfl jc_ne W (fun W => ?_) (fun W => ?_)
  · refine J_iconst (pc' := 10) rfl (i32_d rfl) rfl ?_
    refine J_istore_n (L' := [some (jo 1 zo0), some (ji 0), none]) (pc' := 11) rfl (Nat.le_of_ble_eq_true rfl) rfl rfl ?_
    refine J_iconst (pc' := 12) rfl (i32_d rfl) rfl ?_
    refine J_istore_n (L' := [some (jo 1 zo0), some (ji 0), some (ji 0)]) (pc' := 13) rfl (Nat.le_of_ble_eq_true rfl) rfl rfl ?_
    exact W
  · refine J_iconst (pc' := 8) rfl (i32_d rfl) rfl ?_
    exact J_iret rfl rfl ⟨_, rfl, W⟩
theorem wp_Model_needed_13 {n : Nat} {σ : jS} {Q : Int → jS → Prop} {zo0 : Int} {zx1 : Int} {zx2 : Int} (W : 0 ≤ zo0 ∧ (if rs σ 1014 zo0 ≤ zx2 then Q zx1 σ else 1 ≤ n ∧ TrI (n - 1) i_Model_endWith [jo 1 zo0, ji (bOr (rs σ 1015 zo0) (bShl 1 zx2))] σ (fun zr4 zs3 => (if zr4 = 0 then i32 (zx2 + 1) ∧ J n c_Model_needed (some .int) 13 [some (jo 1 zo0), some (ji (bOr zx1 0)), some (ji (zx2 + 1))] [] zs3 (qI Q) else i32 (zx2 + 1) ∧ J n c_Model_needed (some .int) 13 [some (jo 1 zo0), some (ji (bOr zx1 (bShl 1 zx2))), some (ji (zx2 + 1))] [] zs3 (qI Q))))) : J n c_Model_needed (some .int) 13 [some (jo 1 zo0), some (ji zx1), some (ji zx2)] [] σ (qI Q) := by
  refine J_iload_n (pc' := 14) rfl rfl rfl ?_
  obtain ⟨zg1, W⟩ := W
  refine J_aload_no (pc' := 15) rfl rfl zg1 rfl ?_
  refine J_getI (G := 1014) (pc' := 18) rfl rfl (Nat.le_of_ble_eq_true rfl) rfl zg1 rfl ?_
  refine J_icmp (P := rs σ 1014 zo0 ≤ zx2) (t := 52) (f := 21) rfl rfl rfl jc_ge W (fun W => ?_) (fun W => ?_)
  · refine J_iload_n (pc' := 53) rfl rfl rfl ?_
    exact J_iret rfl rfl ⟨_, rfl, W⟩
  · refine J_iload_n (pc' := 22) rfl rfl rfl ?_
    refine J_aload_no (pc' := 23) rfl rfl zg1 rfl ?_
    refine J_aload_no (pc' := 24) rfl rfl zg1 rfl ?_
    refine J_getI (G := 1015) (pc' := 27) rfl rfl (Nat.le_of_ble_eq_true rfl) rfl zg1 rfl ?_
    refine J_iconst (pc' := 28) rfl (i32_d rfl) rfl ?_
    refine J_iload_n (pc' := 29) rfl rfl rfl ?_
    refine J_ishl (pc' := 30) rfl rfl ?_
    refine J_ior (pc' := 31) rfl rfl ?_
    obtain ⟨zg2, W⟩ := W
    refine J_weak (L' := [some (jo 1 zo0), none, some (ji zx2)]) (And.intro rfl (And.intro rfl trivial)) ?_
    refine J_callI (as := [jo 1 zo0, ji (bOr (rs σ 1015 zo0) (bShl 1 zx2))]) (rest := [ji zx1]) (pc' := 34) rfl rfl ax_Z_93 rfl rfl (Or.inr (Or.inr ⟨_, _, rfl, zg1⟩)) (Nat.le_of_ble_eq_true rfl) (Nat.le_of_ble_eq_true rfl) (Nat.le_of_ble_eq_true rfl) zg2 trivial trivial rfl W (fun zr4 zs3 W => ?_)
    refine J_if (P := zr4 = 0) (t := 43) (f := 37) rfl rfl rfl jc_eq W (fun W => ?_) (fun W => ?_)
    · refine J_iconst (pc' := 44) rfl (i32_d rfl) rfl ?_
      refine J_ior (pc' := 45) rfl rfl ?_
      refine J_istore_n (L' := [some (jo 1 zo0), some (ji (bOr zx1 0)), some (ji zx2)]) (pc' := 46) rfl (Nat.le_of_ble_eq_true rfl) rfl rfl ?_
      obtain ⟨zg5, W⟩ := W
      refine J_iinc (L' := [some (jo 1 zo0), some (ji (bOr zx1 0)), some (ji (zx2 + 1))]) (pc' := 49) rfl rfl zg5 rfl rfl ?_
      refine J_goto (pc' := 13) rfl rfl ?_
      exact W
    · refine J_iconst (pc' := 38) rfl (i32_d rfl) rfl ?_
      refine J_iload_n (pc' := 39) rfl rfl rfl ?_
      refine J_ishl (pc' := 40) rfl rfl ?_
      refine J_goto (pc' := 44) rfl rfl ?_
      refine J_ior (pc' := 45) rfl rfl ?_
      refine J_istore_n (L' := [some (jo 1 zo0), some (ji (bOr zx1 (bShl 1 zx2))), some (ji zx2)]) (pc' := 46) rfl (Nat.le_of_ble_eq_true rfl) rfl rfl ?_
      obtain ⟨zg6, W⟩ := W
      refine J_iinc (L' := [some (jo 1 zo0), some (ji (bOr zx1 (bShl 1 zx2))), some (ji (zx2 + 1))]) (pc' := 49) rfl rfl zg6 rfl rfl ?_
      refine J_goto (pc' := 13) rfl rfl ?_
      exact W
theorem wp_Model_mends {n : Nat} {σ : jS} {Q : Int → jS → Prop} {zo0 : Int} (W : 0 ≤ zo0 ∧ (if rs σ 1051 zo0 = 0 then Q (-1) σ else 0 ≤ rl σ 1112 zo0 ∧ 0 < rl σ 1112 zo0 ∧ (if ¬ ra σ 1112 zo0 0 = 0 then J n c_Model_mends (some .int) 22 [some (jo 1 zo0), some (ji 0), some (ji 0)] [] σ (qI Q) else Q (-1) σ))) : TrI n i_Model_mends [jo 1 zo0] σ Q := by
  refine Tr_of ax_Z_96 ?_
  show J n c_Model_mends (some .int) 0 [some (jo 1 zo0), none, none] [] σ (qI Q)
  obtain ⟨zg1, W⟩ := W
  refine J_aload_no (pc' := 1) rfl rfl zg1 rfl ?_
  refine J_getI (G := 1051) (pc' := 4) rfl rfl (Nat.le_of_ble_eq_true rfl) rfl zg1 rfl ?_
  refine J_if (P := rs σ 1051 zo0 = 0) (t := 16) (f := 7) rfl rfl rfl jc_eq W (fun W => ?_) (fun W => ?_)
  · refine J_iconst (pc' := 17) rfl (i32_d rfl) rfl ?_
    exact J_iret rfl rfl ⟨_, rfl, W⟩
  · refine J_aload_no (pc' := 8) rfl rfl zg1 rfl ?_
    obtain ⟨zg2, W⟩ := W
    refine J_getA (G := 1112) (pc' := 11) rfl rfl (Nat.le_of_ble_eq_true rfl) rfl zg1 zg2 rfl ?_
    refine J_iconst (pc' := 12) rfl (i32_d rfl) rfl ?_
    obtain ⟨zg3, W⟩ := W
    refine J_iald (pc' := 13) rfl rfl (by decide) zg3 rfl ?_
    refine J_if (P := ¬ ra σ 1112 zo0 0 = 0) (t := 18) (f := 16) rfl rfl rfl jc_ne W (fun W => ?_) (fun W => ?_)
    · refine J_iconst (pc' := 19) rfl (i32_d rfl) rfl ?_
      refine J_istore_n (L' := [some (jo 1 zo0), some (ji 0), none]) (pc' := 20) rfl (Nat.le_of_ble_eq_true rfl) rfl rfl ?_
      refine J_iconst (pc' := 21) rfl (i32_d rfl) rfl ?_
      refine J_istore_n (L' := [some (jo 1 zo0), some (ji 0), some (ji 0)]) (pc' := 22) rfl (Nat.le_of_ble_eq_true rfl) rfl rfl ?_
      exact W
    · refine J_iconst (pc' := 17) rfl (i32_d rfl) rfl ?_
      exact J_iret rfl rfl ⟨_, rfl, W⟩
theorem wp_Model_mends_22 {n : Nat} {σ : jS} {Q : Int → jS → Prop} {zo0 : Int} {zx1 : Int} {zx2 : Int} (W : 0 ≤ zo0 ∧ (if rs σ 1014 zo0 ≤ zx2 then Q zx1 σ else 1 ≤ n ∧ TrI (n - 1) i_Model_has [ji (rs σ 1015 zo0), ji zx2] σ (fun zr4 zs3 => (if zr4 = 0 then i32 (zx2 + 1) ∧ J n c_Model_mends (some .int) 22 [some (jo 1 zo0), some (ji zx1), some (ji (zx2 + 1))] [] zs3 (qI Q) else TrI (n - 1) i_Model_endWith [jo 1 zo0, ji (bAnd (rs zs3 1015 zo0) (bXor (bShl 1 zx2) (-1)))] zs3 (fun zr7 zs6 => (if ¬ zr7 = 0 then i32 (zx2 + 1) ∧ J n c_Model_mends (some .int) 22 [some (jo 1 zo0), some (ji (bOr zx1 0)), some (ji (zx2 + 1))] [] zs6 (qI Q) else i32 (zx2 + 1) ∧ J n c_Model_mends (some .int) 22 [some (jo 1 zo0), some (ji (bOr zx1 (bShl 1 zx2))), some (ji (zx2 + 1))] [] zs6 (qI Q))))))) : J n c_Model_mends (some .int) 22 [some (jo 1 zo0), some (ji zx1), some (ji zx2)] [] σ (qI Q) := by
  refine J_iload_n (pc' := 23) rfl rfl rfl ?_
  obtain ⟨zg1, W⟩ := W
  refine J_aload_no (pc' := 24) rfl rfl zg1 rfl ?_
  refine J_getI (G := 1014) (pc' := 27) rfl rfl (Nat.le_of_ble_eq_true rfl) rfl zg1 rfl ?_
  refine J_icmp (P := rs σ 1014 zo0 ≤ zx2) (t := 74) (f := 30) rfl rfl rfl jc_ge W (fun W => ?_) (fun W => ?_)
  · refine J_iload_n (pc' := 75) rfl rfl rfl ?_
    exact J_iret rfl rfl ⟨_, rfl, W⟩
  · refine J_aload_no (pc' := 31) rfl rfl zg1 rfl ?_
    refine J_getI (G := 1015) (pc' := 34) rfl rfl (Nat.le_of_ble_eq_true rfl) rfl zg1 rfl ?_
    refine J_iload_n (pc' := 35) rfl rfl rfl ?_
    obtain ⟨zg2, W⟩ := W
    refine J_callI (as := [ji (rs σ 1015 zo0), ji zx2]) (rest := []) (pc' := 38) rfl rfl ax_Z_1 rfl rfl (Or.inl rfl) (Nat.le_of_ble_eq_true rfl) (Nat.le_of_ble_eq_true rfl) (Nat.le_of_ble_eq_true rfl) zg2 trivial trivial rfl W (fun zr4 zs3 W => ?_)
    refine J_if (P := zr4 = 0) (t := 68) (f := 41) rfl rfl rfl jc_eq W (fun W => ?_) (fun W => ?_)
    · obtain ⟨zg5, W⟩ := W
      refine J_iinc (L' := [some (jo 1 zo0), some (ji zx1), some (ji (zx2 + 1))]) (pc' := 71) rfl rfl zg5 rfl rfl ?_
      refine J_goto (pc' := 22) rfl rfl ?_
      exact W
    · refine J_iload_n (pc' := 42) rfl rfl rfl ?_
      refine J_aload_no (pc' := 43) rfl rfl zg1 rfl ?_
      refine J_aload_no (pc' := 44) rfl rfl zg1 rfl ?_
      refine J_getI (G := 1015) (pc' := 47) rfl rfl (Nat.le_of_ble_eq_true rfl) rfl zg1 rfl ?_
      refine J_iconst (pc' := 48) rfl (i32_d rfl) rfl ?_
      refine J_iload_n (pc' := 49) rfl rfl rfl ?_
      refine J_ishl (pc' := 50) rfl rfl ?_
      refine J_iconst (pc' := 51) rfl (i32_d rfl) rfl ?_
      refine J_ixor (pc' := 52) rfl rfl ?_
      refine J_iand (pc' := 53) rfl rfl ?_
      refine J_weak (L' := [some (jo 1 zo0), none, some (ji zx2)]) (And.intro rfl (And.intro rfl trivial)) ?_
      refine J_callI (as := [jo 1 zo0, ji (bAnd (rs zs3 1015 zo0) (bXor (bShl 1 zx2) (-1)))]) (rest := [ji zx1]) (pc' := 56) rfl rfl ax_Z_93 rfl rfl (Or.inr (Or.inr ⟨_, _, rfl, zg1⟩)) (Nat.le_of_ble_eq_true rfl) (Nat.le_of_ble_eq_true rfl) (Nat.le_of_ble_eq_true rfl) zg2 trivial trivial rfl W (fun zr7 zs6 W => ?_)
      refine J_if (P := ¬ zr7 = 0) (t := 65) (f := 59) rfl rfl rfl jc_ne W (fun W => ?_) (fun W => ?_)
      · refine J_iconst (pc' := 66) rfl (i32_d rfl) rfl ?_
        refine J_ior (pc' := 67) rfl rfl ?_
        refine J_istore_n (L' := [some (jo 1 zo0), some (ji (bOr zx1 0)), some (ji zx2)]) (pc' := 68) rfl (Nat.le_of_ble_eq_true rfl) rfl rfl ?_
        obtain ⟨zg8, W⟩ := W
        refine J_iinc (L' := [some (jo 1 zo0), some (ji (bOr zx1 0)), some (ji (zx2 + 1))]) (pc' := 71) rfl rfl zg8 rfl rfl ?_
        refine J_goto (pc' := 22) rfl rfl ?_
        exact W
      · refine J_iconst (pc' := 60) rfl (i32_d rfl) rfl ?_
        refine J_iload_n (pc' := 61) rfl rfl rfl ?_
        refine J_ishl (pc' := 62) rfl rfl ?_
        refine J_goto (pc' := 66) rfl rfl ?_
        refine J_ior (pc' := 67) rfl rfl ?_
        refine J_istore_n (L' := [some (jo 1 zo0), some (ji (bOr zx1 (bShl 1 zx2))), some (ji zx2)]) (pc' := 68) rfl (Nat.le_of_ble_eq_true rfl) rfl rfl ?_
        obtain ⟨zg9, W⟩ := W
        refine J_iinc (L' := [some (jo 1 zo0), some (ji (bOr zx1 (bShl 1 zx2))), some (ji (zx2 + 1))]) (pc' := 71) rfl rfl zg9 rfl rfl ?_
        refine J_goto (pc' := 22) rfl rfl ?_
        exact W
theorem wp_Model_isTold {n : Nat} {σ : jS} {Q : Int → jS → Prop} {zx0 : Int} (W : 1 ≤ n ∧ TrI (n - 1) i_Model_isIn [ji zx0, ji 0, ji 3] σ (fun zr3 zs2 => (zr3 = 0 ∨ zr3 = 1) ∧ Q zr3 zs2)) : TrI n i_Model_isTold [ji zx0] σ Q := by
  refine Tr_of ax_Z_97 ?_
  show J n c_Model_isTold (some .boolean) 0 [some (ji zx0)] [] σ (qI Q)
  refine J_iload_n (pc' := 1) rfl rfl rfl ?_
  refine J_iconst (pc' := 2) rfl (i32_d rfl) rfl ?_
  refine J_iconst (pc' := 3) rfl (i32_d rfl) rfl ?_
  obtain ⟨zg1, W⟩ := W
  refine J_weak (L' := [none]) trivial ?_
  refine J_callI (as := [ji zx0, ji 0, ji 3]) (rest := []) (pc' := 6) rfl rfl ax_Z_0 rfl rfl (Or.inl rfl) (Nat.le_of_ble_eq_true rfl) (Nat.le_of_ble_eq_true rfl) (Nat.le_of_ble_eq_true rfl) zg1 trivial trivial rfl W (fun zr3 zs2 W => ?_)
  obtain ⟨zg4, W⟩ := W
  exact J_zret rfl rfl zg4 ⟨_, rfl, W⟩
theorem wp_Model_areUnified {n : Nat} {σ : jS} {Q : Int → jS → Prop} {zo0 : Int} {zx1 : Int} {zx2 : Int} (W : 0 ≤ zo0 ∧ 1 ≤ n ∧ TrV (n - 1) i_Model_beginHeap [jo 1 zo0] σ (fun zs3 => TrV (n - 1) i_Model_newUnknowns [jo 1 zo0] zs3 (fun zs5 => 0 ≤ rl zs5 1046 zo0 ∧ i32 (12 * zx1) ∧ 0 ≤ rl zs5 1047 zo0 ∧ 0 ≤ zx1 ∧ zx1 < rl zs5 1047 zo0 ∧ TrI (n - 1) i_Model_layRow [jo 1 zo0, ja 1046 zo0, ji (12 * zx1), ji (ra zs5 1047 zo0 zx1)] zs5 (fun zr13 zs12 => (∀ zs14, zs14 = ws zs12 1111 zo0 zr13 → 0 ≤ rl zs14 1046 zo0 ∧ i32 (12 * zx2) ∧ 0 ≤ rl zs14 1047 zo0 ∧ 0 ≤ zx2 ∧ zx2 < rl zs14 1047 zo0 ∧ TrI (n - 1) i_Model_layRow [jo 1 zo0, ja 1046 zo0, ji (12 * zx2), ji (ra zs14 1047 zo0 zx2)] zs14 (fun zr21 zs20 => TrI (n - 1) i_Model_isUnified [jo 1 zo0, ji (rs zs14 1111 zo0), ji zr21] zs20 (fun zr23 zs22 => (zr23 = 0 ∨ zr23 = 1) ∧ Q zr23 zs22))))))) : TrI n i_Model_areUnified [jo 1 zo0, ji zx1, ji zx2] σ Q := by
  refine Tr_of ax_Z_98 ?_
  show J n c_Model_areUnified (some .boolean) 0 [some (jo 1 zo0), some (ji zx1), some (ji zx2)] [] σ (qI Q)
  obtain ⟨zg1, W⟩ := W
  refine J_aload_no (pc' := 1) rfl rfl zg1 rfl ?_
  obtain ⟨zg2, W⟩ := W
  refine J_callV (as := [jo 1 zo0]) (rest := []) (pc' := 4) rfl rfl ax_Z_39 rfl rfl (Or.inr (Or.inr ⟨_, _, rfl, zg1⟩)) (Nat.le_of_ble_eq_true rfl) (Nat.le_of_ble_eq_true rfl) (Nat.le_of_ble_eq_true rfl) zg2 trivial trivial rfl W (fun zs3 W => ?_)
  refine J_aload_no (pc' := 5) rfl rfl zg1 rfl ?_
  refine J_callV (as := [jo 1 zo0]) (rest := []) (pc' := 8) rfl rfl ax_Z_41 rfl rfl (Or.inr (Or.inr ⟨_, _, rfl, zg1⟩)) (Nat.le_of_ble_eq_true rfl) (Nat.le_of_ble_eq_true rfl) (Nat.le_of_ble_eq_true rfl) zg2 trivial trivial rfl W (fun zs5 W => ?_)
  refine J_aload_no (pc' := 9) rfl rfl zg1 rfl ?_
  refine J_aload_no (pc' := 10) rfl rfl zg1 rfl ?_
  refine J_aload_no (pc' := 11) rfl rfl zg1 rfl ?_
  obtain ⟨zg7, W⟩ := W
  refine J_getA (G := 1046) (pc' := 14) rfl rfl (Nat.le_of_ble_eq_true rfl) rfl zg1 zg7 rfl ?_
  refine J_bipush (pc' := 16) rfl (by decide) (by decide) rfl ?_
  refine J_iload_n (pc' := 17) rfl rfl rfl ?_
  obtain ⟨zg8, W⟩ := W
  refine J_imul (pc' := 18) rfl zg8 rfl ?_
  refine J_aload_no (pc' := 19) rfl rfl zg1 rfl ?_
  obtain ⟨zg9, W⟩ := W
  refine J_getA (G := 1047) (pc' := 22) rfl rfl (Nat.le_of_ble_eq_true rfl) rfl zg1 zg9 rfl ?_
  refine J_iload_n (pc' := 23) rfl rfl rfl ?_
  obtain ⟨zg10, W⟩ := W
  obtain ⟨zg11, W⟩ := W
  refine J_iald (pc' := 24) rfl rfl zg10 zg11 rfl ?_
  refine J_weak (L' := [some (jo 1 zo0), none, some (ji zx2)]) (And.intro rfl (And.intro rfl trivial)) ?_
  refine J_callI (as := [jo 1 zo0, ja 1046 zo0, ji (12 * zx1), ji (ra zs5 1047 zo0 zx1)]) (rest := [jo 1 zo0]) (pc' := 27) rfl rfl ax_Z_42 rfl rfl (Or.inr (Or.inr ⟨_, _, rfl, zg1⟩)) (Nat.le_of_ble_eq_true rfl) (Nat.le_of_ble_eq_true rfl) (Nat.le_of_ble_eq_true rfl) zg2 trivial trivial rfl W (fun zr13 zs12 W => ?_)
  refine J_putI (G := 1111) (pc' := 30) rfl rfl (Nat.le_of_ble_eq_true rfl) rfl rfl zg1 rfl (fun zs14 ezs14 => ?_)
  replace W := W zs14 ezs14
  refine J_aload_no (pc' := 31) rfl rfl zg1 rfl ?_
  refine J_aload_no (pc' := 32) rfl rfl zg1 rfl ?_
  refine J_getI (G := 1111) (pc' := 35) rfl rfl (Nat.le_of_ble_eq_true rfl) rfl zg1 rfl ?_
  refine J_aload_no (pc' := 36) rfl rfl zg1 rfl ?_
  refine J_aload_no (pc' := 37) rfl rfl zg1 rfl ?_
  obtain ⟨zg15, W⟩ := W
  refine J_getA (G := 1046) (pc' := 40) rfl rfl (Nat.le_of_ble_eq_true rfl) rfl zg1 zg15 rfl ?_
  refine J_bipush (pc' := 42) rfl (by decide) (by decide) rfl ?_
  refine J_iload_n (pc' := 43) rfl rfl rfl ?_
  obtain ⟨zg16, W⟩ := W
  refine J_imul (pc' := 44) rfl zg16 rfl ?_
  refine J_aload_no (pc' := 45) rfl rfl zg1 rfl ?_
  obtain ⟨zg17, W⟩ := W
  refine J_getA (G := 1047) (pc' := 48) rfl rfl (Nat.le_of_ble_eq_true rfl) rfl zg1 zg17 rfl ?_
  refine J_iload_n (pc' := 49) rfl rfl rfl ?_
  obtain ⟨zg18, W⟩ := W
  obtain ⟨zg19, W⟩ := W
  refine J_iald (pc' := 50) rfl rfl zg18 zg19 rfl ?_
  refine J_weak (L' := [none, none, none]) trivial ?_
  refine J_callI (as := [jo 1 zo0, ja 1046 zo0, ji (12 * zx2), ji (ra zs14 1047 zo0 zx2)]) (rest := [ji (rs zs14 1111 zo0), jo 1 zo0]) (pc' := 53) rfl rfl ax_Z_42 rfl rfl (Or.inr (Or.inr ⟨_, _, rfl, zg1⟩)) (Nat.le_of_ble_eq_true rfl) (Nat.le_of_ble_eq_true rfl) (Nat.le_of_ble_eq_true rfl) zg2 trivial trivial rfl W (fun zr21 zs20 W => ?_)
  refine J_callI (as := [jo 1 zo0, ji (rs zs14 1111 zo0), ji zr21]) (rest := []) (pc' := 56) rfl rfl ax_Z_48 rfl rfl (Or.inr (Or.inr ⟨_, _, rfl, zg1⟩)) (Nat.le_of_ble_eq_true rfl) (Nat.le_of_ble_eq_true rfl) (Nat.le_of_ble_eq_true rfl) zg2 trivial trivial rfl W (fun zr23 zs22 W => ?_)
  obtain ⟨zg24, W⟩ := W
  exact J_zret rfl rfl zg24 ⟨_, rfl, W⟩
theorem wp_Model_coverOf {n : Nat} {σ : jS} {Q : Int → jS → Prop} {zo0 : Int} {zx1 : Int} (W : i32 (12 * zx1) ∧ J n c_Model_coverOf (some .int) 7 [some (jo 1 zo0), some (ji zx1), some (ji 0), some (ji (12 * zx1))] [] σ (qI Q)) : TrI n i_Model_coverOf [jo 1 zo0, ji zx1] σ Q := by
  refine Tr_of ax_Z_99 ?_
  show J n c_Model_coverOf (some .int) 0 [some (jo 1 zo0), some (ji zx1), none, none] [] σ (qI Q)
  refine J_iconst (pc' := 1) rfl (i32_d rfl) rfl ?_
  refine J_istore_n (L' := [some (jo 1 zo0), some (ji zx1), some (ji 0), none]) (pc' := 2) rfl (Nat.le_of_ble_eq_true rfl) rfl rfl ?_
  refine J_bipush (pc' := 4) rfl (by decide) (by decide) rfl ?_
  refine J_iload_n (pc' := 5) rfl rfl rfl ?_
  obtain ⟨zg1, W⟩ := W
  refine J_imul (pc' := 6) rfl zg1 rfl ?_
  refine J_istore_n (L' := [some (jo 1 zo0), some (ji zx1), some (ji 0), some (ji (12 * zx1))]) (pc' := 7) rfl (Nat.le_of_ble_eq_true rfl) rfl rfl ?_
  exact W
theorem wp_Model_coverOf_7 {n : Nat} {σ : jS} {Q : Int → jS → Prop} {zo0 : Int} {zx1 : Int} {zx2 : Int} {zx3 : Int} (W : i32 (12 * zx1) ∧ 0 ≤ zo0 ∧ 0 ≤ rl σ 1047 zo0 ∧ 0 ≤ zx1 ∧ zx1 < rl σ 1047 zo0 ∧ i32 ((12 * zx1) + (ra σ 1047 zo0 zx1)) ∧ (if (12 * zx1) + (ra σ 1047 zo0 zx1) ≤ zx3 then Q zx2 σ else 0 ≤ rl σ 1046 zo0 ∧ 0 ≤ zx3 ∧ zx3 < rl σ 1046 zo0 ∧ (if ra σ 1046 zo0 zx3 < 0 then i32 (zx3 + 1) ∧ J n c_Model_coverOf (some .int) 7 [some (jo 1 zo0), some (ji zx1), some (ji zx2), some (ji (zx3 + 1))] [] σ (qI Q) else 0 ≤ ra σ 1046 zo0 zx3 ∧ i32 (zx3 + 1) ∧ J n c_Model_coverOf (some .int) 7 [some (jo 1 zo0), some (ji zx1), some (ji (bOr zx2 (bShl 1 ((ra σ 1046 zo0 zx3) / 4)))), some (ji (zx3 + 1))] [] σ (qI Q)))) : J n c_Model_coverOf (some .int) 7 [some (jo 1 zo0), some (ji zx1), some (ji zx2), some (ji zx3)] [] σ (qI Q) := by
  refine J_iload_n (pc' := 8) rfl rfl rfl ?_
  refine J_bipush (pc' := 10) rfl (by decide) (by decide) rfl ?_
  refine J_iload_n (pc' := 11) rfl rfl rfl ?_
  obtain ⟨zg1, W⟩ := W
  refine J_imul (pc' := 12) rfl zg1 rfl ?_
  obtain ⟨zg2, W⟩ := W
  refine J_aload_no (pc' := 13) rfl rfl zg2 rfl ?_
  obtain ⟨zg3, W⟩ := W
  refine J_getA (G := 1047) (pc' := 16) rfl rfl (Nat.le_of_ble_eq_true rfl) rfl zg2 zg3 rfl ?_
  refine J_iload_n (pc' := 17) rfl rfl rfl ?_
  obtain ⟨zg4, W⟩ := W
  obtain ⟨zg5, W⟩ := W
  refine J_iald (pc' := 18) rfl rfl zg4 zg5 rfl ?_
  obtain ⟨zg6, W⟩ := W
  refine J_iadd (pc' := 19) rfl zg6 rfl ?_
  refine J_icmp (P := (12 * zx1) + (ra σ 1047 zo0 zx1) ≤ zx3) (t := 50) (f := 22) rfl rfl rfl jc_ge W (fun W => ?_) (fun W => ?_)
  · refine J_iload_n (pc' := 51) rfl rfl rfl ?_
    exact J_iret rfl rfl ⟨_, rfl, W⟩
  · refine J_aload_no (pc' := 23) rfl rfl zg2 rfl ?_
    obtain ⟨zg7, W⟩ := W
    refine J_getA (G := 1046) (pc' := 26) rfl rfl (Nat.le_of_ble_eq_true rfl) rfl zg2 zg7 rfl ?_
    refine J_iload_n (pc' := 27) rfl rfl rfl ?_
    obtain ⟨zg8, W⟩ := W
    obtain ⟨zg9, W⟩ := W
    refine J_iald (pc' := 28) rfl rfl zg8 zg9 rfl ?_
    refine J_if (P := ra σ 1046 zo0 zx3 < 0) (t := 44) (f := 31) rfl rfl rfl jc_lt W (fun W => ?_) (fun W => ?_)
    · obtain ⟨zg10, W⟩ := W
      refine J_iinc (L' := [some (jo 1 zo0), some (ji zx1), some (ji zx2), some (ji (zx3 + 1))]) (pc' := 47) rfl rfl zg10 rfl rfl ?_
      refine J_goto (pc' := 7) rfl rfl ?_
      exact W
    · refine J_iload_n (pc' := 32) rfl rfl rfl ?_
      refine J_iconst (pc' := 33) rfl (i32_d rfl) rfl ?_
      refine J_aload_no (pc' := 34) rfl rfl zg2 rfl ?_
      refine J_getA (G := 1046) (pc' := 37) rfl rfl (Nat.le_of_ble_eq_true rfl) rfl zg2 zg7 rfl ?_
      refine J_iload_n (pc' := 38) rfl rfl rfl ?_
      refine J_iald (pc' := 39) rfl rfl zg8 zg9 rfl ?_
      refine J_iconst (pc' := 40) rfl (i32_d rfl) rfl ?_
      obtain ⟨zg11, W⟩ := W
      refine J_idiv (pc' := 41) rfl zg11 (by decide) rfl ?_
      refine J_ishl (pc' := 42) rfl rfl ?_
      refine J_ior (pc' := 43) rfl rfl ?_
      refine J_istore_n (L' := [some (jo 1 zo0), some (ji zx1), some (ji (bOr zx2 (bShl 1 ((ra σ 1046 zo0 zx3) / 4)))), some (ji zx3)]) (pc' := 44) rfl (Nat.le_of_ble_eq_true rfl) rfl rfl ?_
      obtain ⟨zg12, W⟩ := W
      refine J_iinc (L' := [some (jo 1 zo0), some (ji zx1), some (ji (bOr zx2 (bShl 1 ((ra σ 1046 zo0 zx3) / 4)))), some (ji (zx3 + 1))]) (pc' := 47) rfl rfl zg12 rfl rfl ?_
      refine J_goto (pc' := 7) rfl rfl ?_
      exact W
theorem wp_Model_relation {n : Nat} {σ : jS} {Q : Int → jS → Prop} {zo0 : Int} {zx1 : Int} {zx2 : Int} {zx3 : Int} (W : 1 ≤ n ∧ TrI (n - 1) i_Model_isTold [ji zx1] σ (fun zr3 zs2 => (if zr3 = 0 then Q (-1) zs2 else TrI (n - 1) i_Model_isTold [ji zx2] zs2 (fun zr5 zs4 => (if ¬ zr5 = 0 then (if zx3 = 0 then 0 ≤ zo0 ∧ TrI (n - 1) i_Model_areUnified [jo 1 zo0, ji zx1, ji zx2] zs4 (fun zr8 zs7 => (if zr8 = 0 then Q 0 zs7 else Q 1 zs7)) else (if zx3 = 1 then 0 ≤ zo0 ∧ 0 ≤ rl zs4 1046 zo0 ∧ i32 (12 * zx1) ∧ i32 (12 * zx2) ∧ 0 ≤ rl zs4 1047 zo0 ∧ 0 ≤ zx2 ∧ zx2 < rl zs4 1047 zo0 ∧ TrI (n - 1) i_Model_isPutIn [jo 1 zo0, ja 1046 zo0, ji (12 * zx1), ja 1046 zo0, ji (12 * zx2), ji (ra zs4 1047 zo0 zx2)] zs4 (fun zr17 zs16 => (if zr17 = 0 then Q 0 zs16 else Q 1 zs16)) else (if zx3 = 2 then 0 ≤ zo0 ∧ 0 ≤ rl zs4 1047 zo0 ∧ 0 ≤ zx1 ∧ zx1 < rl zs4 1047 zo0 ∧ 0 ≤ zx2 ∧ zx2 < rl zs4 1047 zo0 ∧ (if ra zs4 1047 zo0 zx1 < ra zs4 1047 zo0 zx2 then Q 0 zs4 else TrI (n - 1) i_Model_coverOf [jo 1 zo0, ji zx1] zs4 (fun zr25 zs24 => TrI (n - 1) i_Model_coverOf [jo 1 zo0, ji zx2] zs24 (fun zr27 zs26 => (if ¬ zr25 = zr27 then Q 0 zs26 else Q 1 zs26)))) else (if zx3 = 3 then 0 ≤ zo0 ∧ TrI (n - 1) i_Model_areUnified [jo 1 zo0, ji zx1, ji zx2] zs4 (fun zr30 zs29 => (if zr30 = 0 then Q (-1) zs29 else TrI (n - 1) i_Model_layOut [jo 1 zo0, ji (rs zs29 1111 zo0)] zs29 (fun zr32 zs31 => (if zr32 ≤ 100 then Q zr32 zs31 else Q (-1) zs31)))) else Q (-1) zs4)))) else Q (-1) zs4))))) : TrI n i_Model_relation [jo 1 zo0, ji zx1, ji zx2, ji zx3] σ Q := by
  refine Tr_of ax_Z_100 ?_
  show J n c_Model_relation (some .int) 0 [some (jo 1 zo0), some (ji zx1), some (ji zx2), some (ji zx3), none] [] σ (qI Q)
  refine J_iload_n (pc' := 1) rfl rfl rfl ?_
  obtain ⟨zg1, W⟩ := W
  refine J_callI (as := [ji zx1]) (rest := []) (pc' := 4) rfl rfl ax_Z_97 rfl rfl (Or.inl rfl) (Nat.le_of_ble_eq_true rfl) (Nat.le_of_ble_eq_true rfl) (Nat.le_of_ble_eq_true rfl) zg1 trivial trivial rfl W (fun zr3 zs2 W => ?_)
  refine J_if (P := zr3 = 0) (t := 14) (f := 7) rfl rfl rfl jc_eq W (fun W => ?_) (fun W => ?_)
  · refine J_iconst (pc' := 15) rfl (i32_d rfl) rfl ?_
    exact J_iret rfl rfl ⟨_, rfl, W⟩
  · refine J_iload_n (pc' := 8) rfl rfl rfl ?_
    refine J_callI (as := [ji zx2]) (rest := []) (pc' := 11) rfl rfl ax_Z_97 rfl rfl (Or.inl rfl) (Nat.le_of_ble_eq_true rfl) (Nat.le_of_ble_eq_true rfl) (Nat.le_of_ble_eq_true rfl) zg1 trivial trivial rfl W (fun zr5 zs4 W => ?_)
    refine J_if (P := ¬ zr5 = 0) (t := 16) (f := 14) rfl rfl rfl jc_ne W (fun W => ?_) (fun W => ?_)
    · refine J_iconst (pc' := 17) rfl (i32_d rfl) rfl ?_
      refine J_istore (L' := [some (jo 1 zo0), some (ji zx1), some (ji zx2), some (ji zx3), some (ji 0)]) (pc' := 19) rfl (Nat.le_of_ble_eq_true rfl) rfl rfl ?_
      refine J_iload_n (pc' := 20) rfl rfl rfl ?_
      by_cases zc33 : zx3 = 0
      · rw [if_pos zc33] at W
        refine J_swC (pc' := 52) (i := 0) rfl (by omega) (by decide) rfl rfl ?_
        obtain ⟨zg6, W⟩ := W
        refine J_aload_no (pc' := 53) rfl rfl zg6 rfl ?_
        refine J_iload_n (pc' := 54) rfl rfl rfl ?_
        refine J_iload_n (pc' := 55) rfl rfl rfl ?_
        refine J_weak (L' := [none, none, none, none, none]) trivial ?_
        refine J_callI (as := [jo 1 zo0, ji zx1, ji zx2]) (rest := []) (pc' := 58) rfl rfl ax_Z_98 rfl rfl (Or.inr (Or.inr ⟨_, _, rfl, zg6⟩)) (Nat.le_of_ble_eq_true rfl) (Nat.le_of_ble_eq_true rfl) (Nat.le_of_ble_eq_true rfl) zg1 trivial trivial rfl W (fun zr8 zs7 W => ?_)
        refine J_if (P := zr8 = 0) (t := 65) (f := 61) rfl rfl rfl jc_eq W (fun W => ?_) (fun W => ?_)
        · refine J_iconst (pc' := 66) rfl (i32_d rfl) rfl ?_
          exact J_iret rfl rfl ⟨_, rfl, W⟩
        · refine J_iconst (pc' := 62) rfl (i32_d rfl) rfl ?_
          refine J_goto (pc' := 66) rfl rfl ?_
          exact J_iret rfl rfl ⟨_, rfl, W⟩
      rw [if_neg zc33] at W
      by_cases zc34 : zx3 = 1
      · rw [if_pos zc34] at W
        refine J_swC (pc' := 67) (i := 1) rfl (by omega) (by decide) rfl rfl ?_
        obtain ⟨zg9, W⟩ := W
        refine J_aload_no (pc' := 68) rfl rfl zg9 rfl ?_
        refine J_aload_no (pc' := 69) rfl rfl zg9 rfl ?_
        obtain ⟨zg10, W⟩ := W
        refine J_getA (G := 1046) (pc' := 72) rfl rfl (Nat.le_of_ble_eq_true rfl) rfl zg9 zg10 rfl ?_
        refine J_bipush (pc' := 74) rfl (by decide) (by decide) rfl ?_
        refine J_iload_n (pc' := 75) rfl rfl rfl ?_
        obtain ⟨zg11, W⟩ := W
        refine J_imul (pc' := 76) rfl zg11 rfl ?_
        refine J_aload_no (pc' := 77) rfl rfl zg9 rfl ?_
        refine J_getA (G := 1046) (pc' := 80) rfl rfl (Nat.le_of_ble_eq_true rfl) rfl zg9 zg10 rfl ?_
        refine J_bipush (pc' := 82) rfl (by decide) (by decide) rfl ?_
        refine J_iload_n (pc' := 83) rfl rfl rfl ?_
        obtain ⟨zg12, W⟩ := W
        refine J_imul (pc' := 84) rfl zg12 rfl ?_
        refine J_aload_no (pc' := 85) rfl rfl zg9 rfl ?_
        obtain ⟨zg13, W⟩ := W
        refine J_getA (G := 1047) (pc' := 88) rfl rfl (Nat.le_of_ble_eq_true rfl) rfl zg9 zg13 rfl ?_
        refine J_iload_n (pc' := 89) rfl rfl rfl ?_
        obtain ⟨zg14, W⟩ := W
        obtain ⟨zg15, W⟩ := W
        refine J_iald (pc' := 90) rfl rfl zg14 zg15 rfl ?_
        refine J_weak (L' := [none, none, none, none, none]) trivial ?_
        refine J_callI (as := [jo 1 zo0, ja 1046 zo0, ji (12 * zx1), ja 1046 zo0, ji (12 * zx2), ji (ra zs4 1047 zo0 zx2)]) (rest := []) (pc' := 93) rfl rfl ax_Z_36 rfl rfl (Or.inr (Or.inr ⟨_, _, rfl, zg9⟩)) (Nat.le_of_ble_eq_true rfl) (Nat.le_of_ble_eq_true rfl) (Nat.le_of_ble_eq_true rfl) zg1 trivial trivial rfl W (fun zr17 zs16 W => ?_)
        refine J_if (P := zr17 = 0) (t := 100) (f := 96) rfl rfl rfl jc_eq W (fun W => ?_) (fun W => ?_)
        · refine J_iconst (pc' := 101) rfl (i32_d rfl) rfl ?_
          exact J_iret rfl rfl ⟨_, rfl, W⟩
        · refine J_iconst (pc' := 97) rfl (i32_d rfl) rfl ?_
          refine J_goto (pc' := 101) rfl rfl ?_
          exact J_iret rfl rfl ⟨_, rfl, W⟩
      rw [if_neg zc34] at W
      by_cases zc35 : zx3 = 2
      · rw [if_pos zc35] at W
        refine J_swC (pc' := 102) (i := 2) rfl (by omega) (by decide) rfl rfl ?_
        obtain ⟨zg18, W⟩ := W
        refine J_aload_no (pc' := 103) rfl rfl zg18 rfl ?_
        obtain ⟨zg19, W⟩ := W
        refine J_getA (G := 1047) (pc' := 106) rfl rfl (Nat.le_of_ble_eq_true rfl) rfl zg18 zg19 rfl ?_
        refine J_iload_n (pc' := 107) rfl rfl rfl ?_
        obtain ⟨zg20, W⟩ := W
        obtain ⟨zg21, W⟩ := W
        refine J_iald (pc' := 108) rfl rfl zg20 zg21 rfl ?_
        refine J_aload_no (pc' := 109) rfl rfl zg18 rfl ?_
        refine J_getA (G := 1047) (pc' := 112) rfl rfl (Nat.le_of_ble_eq_true rfl) rfl zg18 zg19 rfl ?_
        refine J_iload_n (pc' := 113) rfl rfl rfl ?_
        obtain ⟨zg22, W⟩ := W
        obtain ⟨zg23, W⟩ := W
        refine J_iald (pc' := 114) rfl rfl zg22 zg23 rfl ?_
        refine J_icmp (P := ra zs4 1047 zo0 zx1 < ra zs4 1047 zo0 zx2) (t := 134) (f := 117) rfl rfl rfl jc_lt W (fun W => ?_) (fun W => ?_)
        · refine J_iconst (pc' := 135) rfl (i32_d rfl) rfl ?_
          exact J_iret rfl rfl ⟨_, rfl, W⟩
        · refine J_aload_no (pc' := 118) rfl rfl zg18 rfl ?_
          refine J_iload_n (pc' := 119) rfl rfl rfl ?_
          refine J_weak (L' := [some (jo 1 zo0), none, some (ji zx2), none, none]) (And.intro rfl (And.intro rfl trivial)) ?_
          refine J_callI (as := [jo 1 zo0, ji zx1]) (rest := []) (pc' := 122) rfl rfl ax_Z_99 rfl rfl (Or.inr (Or.inr ⟨_, _, rfl, zg18⟩)) (Nat.le_of_ble_eq_true rfl) (Nat.le_of_ble_eq_true rfl) (Nat.le_of_ble_eq_true rfl) zg1 trivial trivial rfl W (fun zr25 zs24 W => ?_)
          refine J_aload_no (pc' := 123) rfl rfl zg18 rfl ?_
          refine J_iload_n (pc' := 124) rfl rfl rfl ?_
          refine J_weak (L' := [none, none, none, none, none]) trivial ?_
          refine J_callI (as := [jo 1 zo0, ji zx2]) (rest := [ji zr25]) (pc' := 127) rfl rfl ax_Z_99 rfl rfl (Or.inr (Or.inr ⟨_, _, rfl, zg18⟩)) (Nat.le_of_ble_eq_true rfl) (Nat.le_of_ble_eq_true rfl) (Nat.le_of_ble_eq_true rfl) zg1 trivial trivial rfl W (fun zr27 zs26 W => ?_)
          refine J_icmp (P := ¬ zr25 = zr27) (t := 134) (f := 130) rfl rfl rfl jc_ne W (fun W => ?_) (fun W => ?_)
          · refine J_iconst (pc' := 135) rfl (i32_d rfl) rfl ?_
            exact J_iret rfl rfl ⟨_, rfl, W⟩
          · refine J_iconst (pc' := 131) rfl (i32_d rfl) rfl ?_
            refine J_goto (pc' := 135) rfl rfl ?_
            exact J_iret rfl rfl ⟨_, rfl, W⟩
      rw [if_neg zc35] at W
      by_cases zc36 : zx3 = 3
      · rw [if_pos zc36] at W
        refine J_swC (pc' := 136) (i := 3) rfl (by omega) (by decide) rfl rfl ?_
        obtain ⟨zg28, W⟩ := W
        refine J_aload_no (pc' := 137) rfl rfl zg28 rfl ?_
        refine J_iload_n (pc' := 138) rfl rfl rfl ?_
        refine J_iload_n (pc' := 139) rfl rfl rfl ?_
        refine J_weak (L' := [some (jo 1 zo0), none, none, none, none]) (And.intro rfl trivial) ?_
        refine J_callI (as := [jo 1 zo0, ji zx1, ji zx2]) (rest := []) (pc' := 142) rfl rfl ax_Z_98 rfl rfl (Or.inr (Or.inr ⟨_, _, rfl, zg28⟩)) (Nat.le_of_ble_eq_true rfl) (Nat.le_of_ble_eq_true rfl) (Nat.le_of_ble_eq_true rfl) zg1 trivial trivial rfl W (fun zr30 zs29 W => ?_)
        refine J_if (P := zr30 = 0) (t := 156) (f := 145) rfl rfl rfl jc_eq W (fun W => ?_) (fun W => ?_)
        · refine J_bipush (pc' := 158) rfl (by decide) (by decide) rfl ?_
          refine J_istore (L' := [some (jo 1 zo0), none, none, none, some (ji 101)]) (pc' := 160) rfl (Nat.le_of_ble_eq_true rfl) rfl rfl ?_
          refine J_iload (pc' := 162) rfl rfl rfl ?_
          refine J_bipush (pc' := 164) rfl (by decide) (by decide) rfl ?_
          refine J_icmp_f (pc' := 167) rfl rfl rfl ?_
          refine J_iconst (pc' := 168) rfl (i32_d rfl) rfl ?_
          refine J_goto (pc' := 173) rfl rfl ?_
          exact J_iret rfl rfl ⟨_, rfl, W⟩
        · refine J_aload_no (pc' := 146) rfl rfl zg28 rfl ?_
          refine J_aload_no (pc' := 147) rfl rfl zg28 rfl ?_
          refine J_getI (G := 1111) (pc' := 150) rfl rfl (Nat.le_of_ble_eq_true rfl) rfl zg28 rfl ?_
          refine J_weak (L' := [none, none, none, none, none]) trivial ?_
          refine J_callI (as := [jo 1 zo0, ji (rs zs29 1111 zo0)]) (rest := []) (pc' := 153) rfl rfl ax_Z_50 rfl rfl (Or.inr (Or.inr ⟨_, _, rfl, zg28⟩)) (Nat.le_of_ble_eq_true rfl) (Nat.le_of_ble_eq_true rfl) (Nat.le_of_ble_eq_true rfl) zg1 trivial trivial rfl W (fun zr32 zs31 W => ?_)
          refine J_goto (pc' := 158) rfl rfl ?_
          refine J_istore (L' := [none, none, none, none, some (ji zr32)]) (pc' := 160) rfl (Nat.le_of_ble_eq_true rfl) rfl rfl ?_
          refine J_iload (pc' := 162) rfl rfl rfl ?_
          refine J_bipush (pc' := 164) rfl (by decide) (by decide) rfl ?_
          refine J_icmp (P := zr32 ≤ 100) (t := 171) (f := 167) rfl rfl rfl jc_le W (fun W => ?_) (fun W => ?_)
          · refine J_iload (pc' := 173) rfl rfl rfl ?_
            exact J_iret rfl rfl ⟨_, rfl, W⟩
          · refine J_iconst (pc' := 168) rfl (i32_d rfl) rfl ?_
            refine J_goto (pc' := 173) rfl rfl ?_
            exact J_iret rfl rfl ⟨_, rfl, W⟩
      rw [if_neg zc36] at W
      refine J_swD (pc' := 174) rfl (by omega) rfl ?_
      refine J_iconst (pc' := 175) rfl (i32_d rfl) rfl ?_
      exact J_iret rfl rfl ⟨_, rfl, W⟩
    · refine J_iconst (pc' := 15) rfl (i32_d rfl) rfl ?_
      exact J_iret rfl rfl ⟨_, rfl, W⟩
theorem wp_Model_unified {n : Nat} {σ : jS} {Q : Int → jS → Prop} {zo0 : Int} {zx1 : Int} {zx2 : Int} (W : 1 ≤ n ∧ TrI (n - 1) i_Model_isTold [ji zx1] σ (fun zr3 zs2 => (if zr3 = 0 then Q (-1) zs2 else TrI (n - 1) i_Model_isTold [ji zx2] zs2 (fun zr5 zs4 => (if zr5 = 0 then Q (-1) zs4 else 0 ≤ zo0 ∧ TrI (n - 1) i_Model_areUnified [jo 1 zo0, ji zx1, ji zx2] zs4 (fun zr8 zs7 => (if zr8 = 0 then Q (-1) zs7 else TrI (n - 1) i_Model_layOut [jo 1 zo0, ji (rs zs7 1111 zo0)] zs7 (fun zr10 zs9 => (if zr10 ≤ 100 then 0 ≤ rl zs9 1041 zo0 ∧ TrI (n - 1) i_Model_writeRow [jo 1 zo0, ja 1041 zo0, ji 0, ji (rs zs9 1043 zo0)] zs9 (fun zr13 zs12 => Q zr13 zs12) else Q (-1) zs9))))))))) : TrI n i_Model_unified [jo 1 zo0, ji zx1, ji zx2] σ Q := by
  refine Tr_of ax_Z_101 ?_
  show J n c_Model_unified (some .int) 0 [some (jo 1 zo0), some (ji zx1), some (ji zx2)] [] σ (qI Q)
  refine J_iload_n (pc' := 1) rfl rfl rfl ?_
  obtain ⟨zg1, W⟩ := W
  refine J_callI (as := [ji zx1]) (rest := []) (pc' := 4) rfl rfl ax_Z_97 rfl rfl (Or.inl rfl) (Nat.le_of_ble_eq_true rfl) (Nat.le_of_ble_eq_true rfl) (Nat.le_of_ble_eq_true rfl) zg1 trivial trivial rfl W (fun zr3 zs2 W => ?_)
  refine J_if (P := zr3 = 0) (t := 36) (f := 7) rfl rfl rfl jc_eq W (fun W => ?_) (fun W => ?_)
  · refine J_iconst (pc' := 37) rfl (i32_d rfl) rfl ?_
    exact J_iret rfl rfl ⟨_, rfl, W⟩
  · refine J_iload_n (pc' := 8) rfl rfl rfl ?_
    refine J_callI (as := [ji zx2]) (rest := []) (pc' := 11) rfl rfl ax_Z_97 rfl rfl (Or.inl rfl) (Nat.le_of_ble_eq_true rfl) (Nat.le_of_ble_eq_true rfl) (Nat.le_of_ble_eq_true rfl) zg1 trivial trivial rfl W (fun zr5 zs4 W => ?_)
    refine J_if (P := zr5 = 0) (t := 36) (f := 14) rfl rfl rfl jc_eq W (fun W => ?_) (fun W => ?_)
    · refine J_iconst (pc' := 37) rfl (i32_d rfl) rfl ?_
      exact J_iret rfl rfl ⟨_, rfl, W⟩
    · obtain ⟨zg6, W⟩ := W
      refine J_aload_no (pc' := 15) rfl rfl zg6 rfl ?_
      refine J_iload_n (pc' := 16) rfl rfl rfl ?_
      refine J_iload_n (pc' := 17) rfl rfl rfl ?_
      refine J_weak (L' := [some (jo 1 zo0), none, none]) (And.intro rfl trivial) ?_
      refine J_callI (as := [jo 1 zo0, ji zx1, ji zx2]) (rest := []) (pc' := 20) rfl rfl ax_Z_98 rfl rfl (Or.inr (Or.inr ⟨_, _, rfl, zg6⟩)) (Nat.le_of_ble_eq_true rfl) (Nat.le_of_ble_eq_true rfl) (Nat.le_of_ble_eq_true rfl) zg1 trivial trivial rfl W (fun zr8 zs7 W => ?_)
      refine J_if (P := zr8 = 0) (t := 36) (f := 23) rfl rfl rfl jc_eq W (fun W => ?_) (fun W => ?_)
      · refine J_iconst (pc' := 37) rfl (i32_d rfl) rfl ?_
        exact J_iret rfl rfl ⟨_, rfl, W⟩
      · refine J_aload_no (pc' := 24) rfl rfl zg6 rfl ?_
        refine J_aload_no (pc' := 25) rfl rfl zg6 rfl ?_
        refine J_getI (G := 1111) (pc' := 28) rfl rfl (Nat.le_of_ble_eq_true rfl) rfl zg6 rfl ?_
        refine J_callI (as := [jo 1 zo0, ji (rs zs7 1111 zo0)]) (rest := []) (pc' := 31) rfl rfl ax_Z_50 rfl rfl (Or.inr (Or.inr ⟨_, _, rfl, zg6⟩)) (Nat.le_of_ble_eq_true rfl) (Nat.le_of_ble_eq_true rfl) (Nat.le_of_ble_eq_true rfl) zg1 trivial trivial rfl W (fun zr10 zs9 W => ?_)
        refine J_bipush (pc' := 33) rfl (by decide) (by decide) rfl ?_
        refine J_icmp (P := zr10 ≤ 100) (t := 38) (f := 36) rfl rfl rfl jc_le W (fun W => ?_) (fun W => ?_)
        · refine J_aload_no (pc' := 39) rfl rfl zg6 rfl ?_
          refine J_aload_no (pc' := 40) rfl rfl zg6 rfl ?_
          obtain ⟨zg11, W⟩ := W
          refine J_getA (G := 1041) (pc' := 43) rfl rfl (Nat.le_of_ble_eq_true rfl) rfl zg6 zg11 rfl ?_
          refine J_iconst (pc' := 44) rfl (i32_d rfl) rfl ?_
          refine J_aload_no (pc' := 45) rfl rfl zg6 rfl ?_
          refine J_getI (G := 1043) (pc' := 48) rfl rfl (Nat.le_of_ble_eq_true rfl) rfl zg6 rfl ?_
          refine J_weak (L' := [none, none, none]) trivial ?_
          refine J_callI (as := [jo 1 zo0, ja 1041 zo0, ji 0, ji (rs zs9 1043 zo0)]) (rest := []) (pc' := 51) rfl rfl ax_Z_86 rfl rfl (Or.inr (Or.inr ⟨_, _, rfl, zg6⟩)) (Nat.le_of_ble_eq_true rfl) (Nat.le_of_ble_eq_true rfl) (Nat.le_of_ble_eq_true rfl) zg1 trivial trivial rfl W (fun zr13 zs12 W => ?_)
          exact J_iret rfl rfl ⟨_, rfl, W⟩
        · refine J_iconst (pc' := 37) rfl (i32_d rfl) rfl ?_
          exact J_iret rfl rfl ⟨_, rfl, W⟩
theorem wp_Model_candidates {n : Nat} {σ : jS} {Q : Int → jS → Prop} {zo0 : Int} {zx1 : Int} {zx2 : Int} {zx3 : Int} (W : 1 ≤ n ∧ TrI (n - 1) i_Model_isTold [ji zx1] σ (fun zr3 zs2 => (if zr3 = 0 then Q (-1) zs2 else 0 ≤ zo0 ∧ TrI (n - 1) i_Model_isScope [jo 1 zo0, ji zx2] zs2 (fun zr6 zs5 => (if zr6 = 0 then Q (-1) zs5 else TrI (n - 1) i_Model_isIn [ji zx3, ji 0, ji 3] zs5 (fun zr8 zs7 => (if ¬ zr8 = 0 then TrV (n - 1) i_Model_beginHeap [jo 1 zo0] zs7 (fun zs9 => TrV (n - 1) i_Model_newUnknowns [jo 1 zo0] zs9 (fun zs11 => 0 ≤ rl zs11 1046 zo0 ∧ i32 (12 * zx1) ∧ 0 ≤ rl zs11 1047 zo0 ∧ 0 ≤ zx1 ∧ zx1 < rl zs11 1047 zo0 ∧ TrI (n - 1) i_Model_layRow [jo 1 zo0, ja 1046 zo0, ji (12 * zx1), ji (ra zs11 1047 zo0 zx1)] zs11 (fun zr19 zs18 => J n c_Model_candidates (some .int) 69 [some (jo 1 zo0), none, none, some (ji zx3), some (ji zr19), some (ji 0), some (ji (-1)), some (ji 0), some (ji 0), some (ji zx2), none] [] zs18 (qI Q)))) else Q (-1) zs7))))))) : TrI n i_Model_candidates [jo 1 zo0, ji zx1, ji zx2, ji zx3] σ Q := by
  refine Tr_of ax_Z_102 ?_
  show J n c_Model_candidates (some .int) 0 [some (jo 1 zo0), some (ji zx1), some (ji zx2), some (ji zx3), none, none, none, none, none, none, none] [] σ (qI Q)
  refine J_iload_n (pc' := 1) rfl rfl rfl ?_
  obtain ⟨zg1, W⟩ := W
  refine J_callI (as := [ji zx1]) (rest := []) (pc' := 4) rfl rfl ax_Z_97 rfl rfl (Or.inl rfl) (Nat.le_of_ble_eq_true rfl) (Nat.le_of_ble_eq_true rfl) (Nat.le_of_ble_eq_true rfl) zg1 trivial trivial rfl W (fun zr3 zs2 W => ?_)
  refine J_if (P := zr3 = 0) (t := 24) (f := 7) rfl rfl rfl jc_eq W (fun W => ?_) (fun W => ?_)
  · refine J_iconst (pc' := 25) rfl (i32_d rfl) rfl ?_
    exact J_iret rfl rfl ⟨_, rfl, W⟩
  · obtain ⟨zg4, W⟩ := W
    refine J_aload_no (pc' := 8) rfl rfl zg4 rfl ?_
    refine J_iload_n (pc' := 9) rfl rfl rfl ?_
    refine J_callI (as := [jo 1 zo0, ji zx2]) (rest := []) (pc' := 12) rfl rfl ax_Z_24 rfl rfl (Or.inr (Or.inr ⟨_, _, rfl, zg4⟩)) (Nat.le_of_ble_eq_true rfl) (Nat.le_of_ble_eq_true rfl) (Nat.le_of_ble_eq_true rfl) zg1 trivial trivial rfl W (fun zr6 zs5 W => ?_)
    refine J_if (P := zr6 = 0) (t := 24) (f := 15) rfl rfl rfl jc_eq W (fun W => ?_) (fun W => ?_)
    · refine J_iconst (pc' := 25) rfl (i32_d rfl) rfl ?_
      exact J_iret rfl rfl ⟨_, rfl, W⟩
    · refine J_iload_n (pc' := 16) rfl rfl rfl ?_
      refine J_iconst (pc' := 17) rfl (i32_d rfl) rfl ?_
      refine J_iconst (pc' := 18) rfl (i32_d rfl) rfl ?_
      refine J_callI (as := [ji zx3, ji 0, ji 3]) (rest := []) (pc' := 21) rfl rfl ax_Z_0 rfl rfl (Or.inl rfl) (Nat.le_of_ble_eq_true rfl) (Nat.le_of_ble_eq_true rfl) (Nat.le_of_ble_eq_true rfl) zg1 trivial trivial rfl W (fun zr8 zs7 W => ?_)
      refine J_if (P := ¬ zr8 = 0) (t := 26) (f := 24) rfl rfl rfl jc_ne W (fun W => ?_) (fun W => ?_)
      · refine J_aload_no (pc' := 27) rfl rfl zg4 rfl ?_
        refine J_callV (as := [jo 1 zo0]) (rest := []) (pc' := 30) rfl rfl ax_Z_39 rfl rfl (Or.inr (Or.inr ⟨_, _, rfl, zg4⟩)) (Nat.le_of_ble_eq_true rfl) (Nat.le_of_ble_eq_true rfl) (Nat.le_of_ble_eq_true rfl) zg1 trivial trivial rfl W (fun zs9 W => ?_)
        refine J_aload_no (pc' := 31) rfl rfl zg4 rfl ?_
        refine J_callV (as := [jo 1 zo0]) (rest := []) (pc' := 34) rfl rfl ax_Z_41 rfl rfl (Or.inr (Or.inr ⟨_, _, rfl, zg4⟩)) (Nat.le_of_ble_eq_true rfl) (Nat.le_of_ble_eq_true rfl) (Nat.le_of_ble_eq_true rfl) zg1 trivial trivial rfl W (fun zs11 W => ?_)
        refine J_aload_no (pc' := 35) rfl rfl zg4 rfl ?_
        refine J_aload_no (pc' := 36) rfl rfl zg4 rfl ?_
        obtain ⟨zg13, W⟩ := W
        refine J_getA (G := 1046) (pc' := 39) rfl rfl (Nat.le_of_ble_eq_true rfl) rfl zg4 zg13 rfl ?_
        refine J_bipush (pc' := 41) rfl (by decide) (by decide) rfl ?_
        refine J_iload_n (pc' := 42) rfl rfl rfl ?_
        obtain ⟨zg14, W⟩ := W
        refine J_imul (pc' := 43) rfl zg14 rfl ?_
        refine J_aload_no (pc' := 44) rfl rfl zg4 rfl ?_
        obtain ⟨zg15, W⟩ := W
        refine J_getA (G := 1047) (pc' := 47) rfl rfl (Nat.le_of_ble_eq_true rfl) rfl zg4 zg15 rfl ?_
        refine J_iload_n (pc' := 48) rfl rfl rfl ?_
        obtain ⟨zg16, W⟩ := W
        obtain ⟨zg17, W⟩ := W
        refine J_iald (pc' := 49) rfl rfl zg16 zg17 rfl ?_
        refine J_weak (L' := [some (jo 1 zo0), none, some (ji zx2), some (ji zx3), none, none, none, none, none, none, none]) (And.intro rfl (And.intro rfl (And.intro rfl trivial))) ?_
        refine J_callI (as := [jo 1 zo0, ja 1046 zo0, ji (12 * zx1), ji (ra zs11 1047 zo0 zx1)]) (rest := []) (pc' := 52) rfl rfl ax_Z_42 rfl rfl (Or.inr (Or.inr ⟨_, _, rfl, zg4⟩)) (Nat.le_of_ble_eq_true rfl) (Nat.le_of_ble_eq_true rfl) (Nat.le_of_ble_eq_true rfl) zg1 trivial trivial rfl W (fun zr19 zs18 W => ?_)
        refine J_istore (L' := [some (jo 1 zo0), none, some (ji zx2), some (ji zx3), some (ji zr19), none, none, none, none, none, none]) (pc' := 54) rfl (Nat.le_of_ble_eq_true rfl) rfl rfl ?_
        refine J_iconst (pc' := 55) rfl (i32_d rfl) rfl ?_
        refine J_istore (L' := [some (jo 1 zo0), none, some (ji zx2), some (ji zx3), some (ji zr19), some (ji 0), none, none, none, none, none]) (pc' := 57) rfl (Nat.le_of_ble_eq_true rfl) rfl rfl ?_
        refine J_iconst (pc' := 58) rfl (i32_d rfl) rfl ?_
        refine J_istore (L' := [some (jo 1 zo0), none, some (ji zx2), some (ji zx3), some (ji zr19), some (ji 0), some (ji (-1)), none, none, none, none]) (pc' := 60) rfl (Nat.le_of_ble_eq_true rfl) rfl rfl ?_
        refine J_iconst (pc' := 61) rfl (i32_d rfl) rfl ?_
        refine J_istore (L' := [some (jo 1 zo0), none, some (ji zx2), some (ji zx3), some (ji zr19), some (ji 0), some (ji (-1)), some (ji 0), none, none, none]) (pc' := 63) rfl (Nat.le_of_ble_eq_true rfl) rfl rfl ?_
        refine J_iconst (pc' := 64) rfl (i32_d rfl) rfl ?_
        refine J_istore (L' := [some (jo 1 zo0), none, some (ji zx2), some (ji zx3), some (ji zr19), some (ji 0), some (ji (-1)), some (ji 0), some (ji 0), none, none]) (pc' := 66) rfl (Nat.le_of_ble_eq_true rfl) rfl rfl ?_
        refine J_iload_n (pc' := 67) rfl rfl rfl ?_
        refine J_istore (L' := [some (jo 1 zo0), none, some (ji zx2), some (ji zx3), some (ji zr19), some (ji 0), some (ji (-1)), some (ji 0), some (ji 0), some (ji zx2), none]) (pc' := 69) rfl (Nat.le_of_ble_eq_true rfl) rfl rfl ?_
        refine J_weak (L' := [some (jo 1 zo0), none, none, some (ji zx3), some (ji zr19), some (ji 0), some (ji (-1)), some (ji 0), some (ji 0), some (ji zx2), none]) (And.intro rfl (And.intro rfl (And.intro rfl (And.intro rfl (And.intro rfl (And.intro rfl (And.intro rfl (And.intro rfl trivial)))))))) ?_
        exact W
      · refine J_iconst (pc' := 25) rfl (i32_d rfl) rfl ?_
        exact J_iret rfl rfl ⟨_, rfl, W⟩
theorem wp_Model_candidates_69 {n : Nat} {σ : jS} {Q : Int → jS → Prop} {zo0 : Int} {zx3 : Int} {zx4 : Int} {zx5 : Int} {zx6 : Int} {zx7 : Int} {zx8 : Int} {zx9 : Int} (W : (if zx9 = (-1) then (if ¬ zx3 = 0 then (if ¬ zx3 = 1 then (if ¬ zx3 = 2 then 0 ≤ zo0 ∧ 1 ≤ n ∧ TrI (n - 1) i_Model_bestOf [jo 1 zo0, ji zx8] σ (fun zr4 zs3 => Q zr4 zs3) else Q zx7 σ) else Q zx6 σ) else Q zx5 σ) else 0 ≤ zo0 ∧ 1 ≤ n ∧ TrI (n - 1) i_Model_candidatesOf [jo 1 zo0, ji zx4, ji zx9] σ (fun zr8 zs7 => (if zr8 = 0 then i32 (zx5 + 1) ∧ 0 ≤ rl zs7 1008 zo0 ∧ 0 ≤ zx9 ∧ zx9 < rl zs7 1008 zo0 ∧ J n c_Model_candidates (some .int) 69 [some (jo 1 zo0), none, none, some (ji zx3), some (ji zx4), some (ji (zx5 + 1)), some (ji zx6), some (ji (bOr zx7 zr8)), some (ji zx8), some (ji (ra zs7 1008 zo0 zx9)), none] [] zs7 (qI Q) else (if ¬ zx6 = (-1) then i32 (zx5 + 1) ∧ 0 ≤ rl zs7 1008 zo0 ∧ 0 ≤ zx9 ∧ zx9 < rl zs7 1008 zo0 ∧ J n c_Model_candidates (some .int) 69 [some (jo 1 zo0), none, none, some (ji zx3), some (ji zx4), some (ji (zx5 + 1)), some (ji zx6), some (ji (bOr zx7 zr8)), some (ji zx8), some (ji (ra zs7 1008 zo0 zx9)), none] [] zs7 (qI Q) else i32 (zx5 + 1) ∧ 0 ≤ rl zs7 1008 zo0 ∧ 0 ≤ zx9 ∧ zx9 < rl zs7 1008 zo0 ∧ J n c_Model_candidates (some .int) 69 [some (jo 1 zo0), none, none, some (ji zx3), some (ji zx4), some (ji (zx5 + 1)), some (ji zx5), some (ji (bOr zx7 zr8)), some (ji zr8), some (ji (ra zs7 1008 zo0 zx9)), none] [] zs7 (qI Q)))))) : J n c_Model_candidates (some .int) 69 [some (jo 1 zo0), none, none, some (ji zx3), some (ji zx4), some (ji zx5), some (ji zx6), some (ji zx7), some (ji zx8), some (ji zx9), none] [] σ (qI Q) := by
  refine J_iload (pc' := 71) rfl rfl rfl ?_
  refine J_iconst (pc' := 72) rfl (i32_d rfl) rfl ?_
  refine J_icmp (P := zx9 = (-1)) (t := 126) (f := 75) rfl rfl rfl jc_eq W (fun W => ?_) (fun W => ?_)
  · refine J_iload_n (pc' := 127) rfl rfl rfl ?_
    refine J_if (P := ¬ zx3 = 0) (t := 135) (f := 130) rfl rfl rfl jc_ne W (fun W => ?_) (fun W => ?_)
    · refine J_iload_n (pc' := 136) rfl rfl rfl ?_
      refine J_iconst (pc' := 137) rfl (i32_d rfl) rfl ?_
      refine J_icmp (P := ¬ zx3 = 1) (t := 145) (f := 140) rfl rfl rfl jc_ne W (fun W => ?_) (fun W => ?_)
      · refine J_iload_n (pc' := 146) rfl rfl rfl ?_
        refine J_iconst (pc' := 147) rfl (i32_d rfl) rfl ?_
        refine J_icmp (P := ¬ zx3 = 2) (t := 155) (f := 150) rfl rfl rfl jc_ne W (fun W => ?_) (fun W => ?_)
        · obtain ⟨zg1, W⟩ := W
          refine J_aload_no (pc' := 156) rfl rfl zg1 rfl ?_
          refine J_iload (pc' := 158) rfl rfl rfl ?_
          obtain ⟨zg2, W⟩ := W
          refine J_weak (L' := [none, none, none, none, none, none, none, none, none, none, none]) trivial ?_
          refine J_callI (as := [jo 1 zo0, ji zx8]) (rest := []) (pc' := 161) rfl rfl ax_Z_58 rfl rfl (Or.inr (Or.inr ⟨_, _, rfl, zg1⟩)) (Nat.le_of_ble_eq_true rfl) (Nat.le_of_ble_eq_true rfl) (Nat.le_of_ble_eq_true rfl) zg2 trivial trivial rfl W (fun zr4 zs3 W => ?_)
          exact J_iret rfl rfl ⟨_, rfl, W⟩
        · refine J_iload (pc' := 152) rfl rfl rfl ?_
          refine J_goto (pc' := 161) rfl rfl ?_
          exact J_iret rfl rfl ⟨_, rfl, W⟩
      · refine J_iload (pc' := 142) rfl rfl rfl ?_
        refine J_goto (pc' := 161) rfl rfl ?_
        exact J_iret rfl rfl ⟨_, rfl, W⟩
    · refine J_iload (pc' := 132) rfl rfl rfl ?_
      refine J_goto (pc' := 161) rfl rfl ?_
      exact J_iret rfl rfl ⟨_, rfl, W⟩
  · obtain ⟨zg5, W⟩ := W
    refine J_aload_no (pc' := 76) rfl rfl zg5 rfl ?_
    refine J_iload (pc' := 78) rfl rfl rfl ?_
    refine J_iload (pc' := 80) rfl rfl rfl ?_
    obtain ⟨zg6, W⟩ := W
    refine J_callI (as := [jo 1 zo0, ji zx4, ji zx9]) (rest := []) (pc' := 83) rfl rfl ax_Z_57 rfl rfl (Or.inr (Or.inr ⟨_, _, rfl, zg5⟩)) (Nat.le_of_ble_eq_true rfl) (Nat.le_of_ble_eq_true rfl) (Nat.le_of_ble_eq_true rfl) zg6 trivial trivial rfl W (fun zr8 zs7 W => ?_)
    refine J_istore (L' := [some (jo 1 zo0), none, none, some (ji zx3), some (ji zx4), some (ji zx5), some (ji zx6), some (ji zx7), some (ji zx8), some (ji zx9), some (ji zr8)]) (pc' := 85) rfl (Nat.le_of_ble_eq_true rfl) rfl rfl ?_
    refine J_iload (pc' := 87) rfl rfl rfl ?_
    refine J_if (P := zr8 = 0) (t := 104) (f := 90) rfl rfl rfl jc_eq W (fun W => ?_) (fun W => ?_)
    · refine J_iload (pc' := 106) rfl rfl rfl ?_
      refine J_iload (pc' := 108) rfl rfl rfl ?_
      refine J_ior (pc' := 109) rfl rfl ?_
      refine J_istore (L' := [some (jo 1 zo0), none, none, some (ji zx3), some (ji zx4), some (ji zx5), some (ji zx6), some (ji (bOr zx7 zr8)), some (ji zx8), some (ji zx9), some (ji zr8)]) (pc' := 111) rfl (Nat.le_of_ble_eq_true rfl) rfl rfl ?_
      obtain ⟨zg9, W⟩ := W
      refine J_iinc (L' := [some (jo 1 zo0), none, none, some (ji zx3), some (ji zx4), some (ji (zx5 + 1)), some (ji zx6), some (ji (bOr zx7 zr8)), some (ji zx8), some (ji zx9), some (ji zr8)]) (pc' := 114) rfl rfl zg9 rfl rfl ?_
      refine J_aload_no (pc' := 115) rfl rfl zg5 rfl ?_
      obtain ⟨zg10, W⟩ := W
      refine J_getA (G := 1008) (pc' := 118) rfl rfl (Nat.le_of_ble_eq_true rfl) rfl zg5 zg10 rfl ?_
      refine J_iload (pc' := 120) rfl rfl rfl ?_
      obtain ⟨zg11, W⟩ := W
      obtain ⟨zg12, W⟩ := W
      refine J_iald (pc' := 121) rfl rfl zg11 zg12 rfl ?_
      refine J_istore (L' := [some (jo 1 zo0), none, none, some (ji zx3), some (ji zx4), some (ji (zx5 + 1)), some (ji zx6), some (ji (bOr zx7 zr8)), some (ji zx8), some (ji (ra zs7 1008 zo0 zx9)), some (ji zr8)]) (pc' := 123) rfl (Nat.le_of_ble_eq_true rfl) rfl rfl ?_
      refine J_goto (pc' := 69) rfl rfl ?_
      refine J_weak (L' := [some (jo 1 zo0), none, none, some (ji zx3), some (ji zx4), some (ji (zx5 + 1)), some (ji zx6), some (ji (bOr zx7 zr8)), some (ji zx8), some (ji (ra zs7 1008 zo0 zx9)), none]) (And.intro rfl (And.intro rfl (And.intro rfl (And.intro rfl (And.intro rfl (And.intro rfl (And.intro rfl (And.intro rfl trivial)))))))) ?_
      exact W
    · refine J_iload (pc' := 92) rfl rfl rfl ?_
      refine J_iconst (pc' := 93) rfl (i32_d rfl) rfl ?_
      refine J_icmp (P := ¬ zx6 = (-1)) (t := 104) (f := 96) rfl rfl rfl jc_ne W (fun W => ?_) (fun W => ?_)
      · refine J_iload (pc' := 106) rfl rfl rfl ?_
        refine J_iload (pc' := 108) rfl rfl rfl ?_
        refine J_ior (pc' := 109) rfl rfl ?_
        refine J_istore (L' := [some (jo 1 zo0), none, none, some (ji zx3), some (ji zx4), some (ji zx5), some (ji zx6), some (ji (bOr zx7 zr8)), some (ji zx8), some (ji zx9), some (ji zr8)]) (pc' := 111) rfl (Nat.le_of_ble_eq_true rfl) rfl rfl ?_
        obtain ⟨zg13, W⟩ := W
        refine J_iinc (L' := [some (jo 1 zo0), none, none, some (ji zx3), some (ji zx4), some (ji (zx5 + 1)), some (ji zx6), some (ji (bOr zx7 zr8)), some (ji zx8), some (ji zx9), some (ji zr8)]) (pc' := 114) rfl rfl zg13 rfl rfl ?_
        refine J_aload_no (pc' := 115) rfl rfl zg5 rfl ?_
        obtain ⟨zg14, W⟩ := W
        refine J_getA (G := 1008) (pc' := 118) rfl rfl (Nat.le_of_ble_eq_true rfl) rfl zg5 zg14 rfl ?_
        refine J_iload (pc' := 120) rfl rfl rfl ?_
        obtain ⟨zg15, W⟩ := W
        obtain ⟨zg16, W⟩ := W
        refine J_iald (pc' := 121) rfl rfl zg15 zg16 rfl ?_
        refine J_istore (L' := [some (jo 1 zo0), none, none, some (ji zx3), some (ji zx4), some (ji (zx5 + 1)), some (ji zx6), some (ji (bOr zx7 zr8)), some (ji zx8), some (ji (ra zs7 1008 zo0 zx9)), some (ji zr8)]) (pc' := 123) rfl (Nat.le_of_ble_eq_true rfl) rfl rfl ?_
        refine J_goto (pc' := 69) rfl rfl ?_
        refine J_weak (L' := [some (jo 1 zo0), none, none, some (ji zx3), some (ji zx4), some (ji (zx5 + 1)), some (ji zx6), some (ji (bOr zx7 zr8)), some (ji zx8), some (ji (ra zs7 1008 zo0 zx9)), none]) (And.intro rfl (And.intro rfl (And.intro rfl (And.intro rfl (And.intro rfl (And.intro rfl (And.intro rfl (And.intro rfl trivial)))))))) ?_
        exact W
      · refine J_iload (pc' := 98) rfl rfl rfl ?_
        refine J_istore (L' := [some (jo 1 zo0), none, none, some (ji zx3), some (ji zx4), some (ji zx5), some (ji zx5), some (ji zx7), some (ji zx8), some (ji zx9), some (ji zr8)]) (pc' := 100) rfl (Nat.le_of_ble_eq_true rfl) rfl rfl ?_
        refine J_iload (pc' := 102) rfl rfl rfl ?_
        refine J_istore (L' := [some (jo 1 zo0), none, none, some (ji zx3), some (ji zx4), some (ji zx5), some (ji zx5), some (ji zx7), some (ji zr8), some (ji zx9), some (ji zr8)]) (pc' := 104) rfl (Nat.le_of_ble_eq_true rfl) rfl rfl ?_
        refine J_iload (pc' := 106) rfl rfl rfl ?_
        refine J_iload (pc' := 108) rfl rfl rfl ?_
        refine J_ior (pc' := 109) rfl rfl ?_
        refine J_istore (L' := [some (jo 1 zo0), none, none, some (ji zx3), some (ji zx4), some (ji zx5), some (ji zx5), some (ji (bOr zx7 zr8)), some (ji zr8), some (ji zx9), some (ji zr8)]) (pc' := 111) rfl (Nat.le_of_ble_eq_true rfl) rfl rfl ?_
        obtain ⟨zg17, W⟩ := W
        refine J_iinc (L' := [some (jo 1 zo0), none, none, some (ji zx3), some (ji zx4), some (ji (zx5 + 1)), some (ji zx5), some (ji (bOr zx7 zr8)), some (ji zr8), some (ji zx9), some (ji zr8)]) (pc' := 114) rfl rfl zg17 rfl rfl ?_
        refine J_aload_no (pc' := 115) rfl rfl zg5 rfl ?_
        obtain ⟨zg18, W⟩ := W
        refine J_getA (G := 1008) (pc' := 118) rfl rfl (Nat.le_of_ble_eq_true rfl) rfl zg5 zg18 rfl ?_
        refine J_iload (pc' := 120) rfl rfl rfl ?_
        obtain ⟨zg19, W⟩ := W
        obtain ⟨zg20, W⟩ := W
        refine J_iald (pc' := 121) rfl rfl zg19 zg20 rfl ?_
        refine J_istore (L' := [some (jo 1 zo0), none, none, some (ji zx3), some (ji zx4), some (ji (zx5 + 1)), some (ji zx5), some (ji (bOr zx7 zr8)), some (ji zr8), some (ji (ra zs7 1008 zo0 zx9)), some (ji zr8)]) (pc' := 123) rfl (Nat.le_of_ble_eq_true rfl) rfl rfl ?_
        refine J_goto (pc' := 69) rfl rfl ?_
        refine J_weak (L' := [some (jo 1 zo0), none, none, some (ji zx3), some (ji zx4), some (ji (zx5 + 1)), some (ji zx5), some (ji (bOr zx7 zr8)), some (ji zr8), some (ji (ra zs7 1008 zo0 zx9)), none]) (And.intro rfl (And.intro rfl (And.intro rfl (And.intro rfl (And.intro rfl (And.intro rfl (And.intro rfl (And.intro rfl trivial)))))))) ?_
        exact W
theorem wp_Model_allAround {n : Nat} {σ : jS} {Q : Int → jS → Prop} {zo0 : Int} {zx1 : Int} (W : J n c_Model_allAround (some .int) 4 [some (jo 1 zo0), none, some (ji 0), some (ji zx1), none] [] σ (qI Q)) : TrI n i_Model_allAround [jo 1 zo0, ji zx1] σ Q := by
  refine Tr_of ax_Z_103 ?_
  show J n c_Model_allAround (some .int) 0 [some (jo 1 zo0), some (ji zx1), none, none, none] [] σ (qI Q)
  refine J_iconst (pc' := 1) rfl (i32_d rfl) rfl ?_
  refine J_istore_n (L' := [some (jo 1 zo0), some (ji zx1), some (ji 0), none, none]) (pc' := 2) rfl (Nat.le_of_ble_eq_true rfl) rfl rfl ?_
  refine J_iload_n (pc' := 3) rfl rfl rfl ?_
  refine J_istore_n (L' := [some (jo 1 zo0), some (ji zx1), some (ji 0), some (ji zx1), none]) (pc' := 4) rfl (Nat.le_of_ble_eq_true rfl) rfl rfl ?_
  refine J_weak (L' := [some (jo 1 zo0), none, some (ji 0), some (ji zx1), none]) (And.intro rfl (And.intro rfl (And.intro rfl trivial))) ?_
  exact W
theorem wp_Model_allAround_4 {n : Nat} {σ : jS} {Q : Int → jS → Prop} {zo0 : Int} {zx2 : Int} {zx3 : Int} (W : (if zx3 = (-1) then Q zx2 σ else J n c_Model_allAround (some .int) 12 [some (jo 1 zo0), none, some (ji zx2), some (ji zx3), some (ji 0)] [] σ (qI Q))) : J n c_Model_allAround (some .int) 4 [some (jo 1 zo0), none, some (ji zx2), some (ji zx3), none] [] σ (qI Q) := by
  refine J_iload_n (pc' := 5) rfl rfl rfl ?_
  refine J_iconst (pc' := 6) rfl (i32_d rfl) rfl ?_
  refine J_icmp (P := zx3 = (-1)) (t := 82) (f := 9) rfl rfl rfl jc_eq W (fun W => ?_) (fun W => ?_)
  · refine J_iload_n (pc' := 83) rfl rfl rfl ?_
    exact J_iret rfl rfl ⟨_, rfl, W⟩
  · refine J_iconst (pc' := 10) rfl (i32_d rfl) rfl ?_
    refine J_istore (L' := [some (jo 1 zo0), none, some (ji zx2), some (ji zx3), some (ji 0)]) (pc' := 12) rfl (Nat.le_of_ble_eq_true rfl) rfl rfl ?_
    exact W
theorem wp_Model_allAround_12 {n : Nat} {σ : jS} {Q : Int → jS → Prop} {zo0 : Int} {zx2 : Int} {zx3 : Int} {zx4 : Int} (W : 0 ≤ zo0 ∧ (if rs σ 1014 zo0 ≤ zx4 then 0 ≤ rl σ 1008 zo0 ∧ 0 ≤ zx3 ∧ zx3 < rl σ 1008 zo0 ∧ J n c_Model_allAround (some .int) 4 [some (jo 1 zo0), none, some (ji zx2), some (ji (ra σ 1008 zo0 zx3)), none] [] σ (qI Q) else 0 ≤ rl σ 1009 zo0 ∧ 0 ≤ zx4 ∧ zx4 < rl σ 1009 zo0 ∧ (if ¬ ra σ 1009 zo0 zx4 = zx3 then i32 (zx4 + 1) ∧ J n c_Model_allAround (some .int) 12 [some (jo 1 zo0), none, some (ji (bOr zx2 0)), some (ji zx3), some (ji (zx4 + 1))] [] σ (qI Q) else 1 ≤ n ∧ TrI (n - 1) i_Model_has [ji (rs σ 1015 zo0), ji zx4] σ (fun zr11 zs10 => (if ¬ zr11 = 0 then i32 (zx4 + 1) ∧ J n c_Model_allAround (some .int) 12 [some (jo 1 zo0), none, some (ji (bOr zx2 0)), some (ji zx3), some (ji (zx4 + 1))] [] zs10 (qI Q) else TrI (n - 1) i_Model_has [ji (rs zs10 1016 zo0), ji zx3] zs10 (fun zr14 zs13 => (if ¬ zr14 = 0 then i32 (zx4 + 1) ∧ J n c_Model_allAround (some .int) 12 [some (jo 1 zo0), none, some (ji (bOr zx2 0)), some (ji zx3), some (ji (zx4 + 1))] [] zs13 (qI Q) else i32 (zx4 + 1) ∧ J n c_Model_allAround (some .int) 12 [some (jo 1 zo0), none, some (ji (bOr zx2 (bShl 1 zx4))), some (ji zx3), some (ji (zx4 + 1))] [] zs13 (qI Q)))))))) : J n c_Model_allAround (some .int) 12 [some (jo 1 zo0), none, some (ji zx2), some (ji zx3), some (ji zx4)] [] σ (qI Q) := by
  refine J_iload (pc' := 14) rfl rfl rfl ?_
  obtain ⟨zg1, W⟩ := W
  refine J_aload_no (pc' := 15) rfl rfl zg1 rfl ?_
  refine J_getI (G := 1014) (pc' := 18) rfl rfl (Nat.le_of_ble_eq_true rfl) rfl zg1 rfl ?_
  refine J_icmp (P := rs σ 1014 zo0 ≤ zx4) (t := 72) (f := 21) rfl rfl rfl jc_ge W (fun W => ?_) (fun W => ?_)
  · refine J_aload_no (pc' := 73) rfl rfl zg1 rfl ?_
    obtain ⟨zg2, W⟩ := W
    refine J_getA (G := 1008) (pc' := 76) rfl rfl (Nat.le_of_ble_eq_true rfl) rfl zg1 zg2 rfl ?_
    refine J_iload_n (pc' := 77) rfl rfl rfl ?_
    obtain ⟨zg3, W⟩ := W
    obtain ⟨zg4, W⟩ := W
    refine J_iald (pc' := 78) rfl rfl zg3 zg4 rfl ?_
    refine J_istore_n (L' := [some (jo 1 zo0), none, some (ji zx2), some (ji (ra σ 1008 zo0 zx3)), some (ji zx4)]) (pc' := 79) rfl (Nat.le_of_ble_eq_true rfl) rfl rfl ?_
    refine J_goto (pc' := 4) rfl rfl ?_
    refine J_weak (L' := [some (jo 1 zo0), none, some (ji zx2), some (ji (ra σ 1008 zo0 zx3)), none]) (And.intro rfl (And.intro rfl (And.intro rfl trivial))) ?_
    exact W
  · refine J_iload_n (pc' := 22) rfl rfl rfl ?_
    refine J_aload_no (pc' := 23) rfl rfl zg1 rfl ?_
    obtain ⟨zg5, W⟩ := W
    refine J_getA (G := 1009) (pc' := 26) rfl rfl (Nat.le_of_ble_eq_true rfl) rfl zg1 zg5 rfl ?_
    refine J_iload (pc' := 28) rfl rfl rfl ?_
    obtain ⟨zg6, W⟩ := W
    obtain ⟨zg7, W⟩ := W
    refine J_iald (pc' := 29) rfl rfl zg6 zg7 rfl ?_
    refine J_iload_n (pc' := 30) rfl rfl rfl ?_
    refine J_icmp (P := ¬ ra σ 1009 zo0 zx4 = zx3) (t := 63) (f := 33) rfl rfl rfl jc_ne W (fun W => ?_) (fun W => ?_)
    · refine J_iconst (pc' := 64) rfl (i32_d rfl) rfl ?_
      refine J_ior (pc' := 65) rfl rfl ?_
      refine J_istore_n (L' := [some (jo 1 zo0), none, some (ji (bOr zx2 0)), some (ji zx3), some (ji zx4)]) (pc' := 66) rfl (Nat.le_of_ble_eq_true rfl) rfl rfl ?_
      obtain ⟨zg8, W⟩ := W
      refine J_iinc (L' := [some (jo 1 zo0), none, some (ji (bOr zx2 0)), some (ji zx3), some (ji (zx4 + 1))]) (pc' := 69) rfl rfl zg8 rfl rfl ?_
      refine J_goto (pc' := 12) rfl rfl ?_
      exact W
    · refine J_aload_no (pc' := 34) rfl rfl zg1 rfl ?_
      refine J_getI (G := 1015) (pc' := 37) rfl rfl (Nat.le_of_ble_eq_true rfl) rfl zg1 rfl ?_
      refine J_iload (pc' := 39) rfl rfl rfl ?_
      obtain ⟨zg9, W⟩ := W
      refine J_weak (L' := [some (jo 1 zo0), none, none, some (ji zx3), some (ji zx4)]) (And.intro rfl (And.intro rfl (And.intro rfl trivial))) ?_
      refine J_callI (as := [ji (rs σ 1015 zo0), ji zx4]) (rest := [ji zx2]) (pc' := 42) rfl rfl ax_Z_1 rfl rfl (Or.inl rfl) (Nat.le_of_ble_eq_true rfl) (Nat.le_of_ble_eq_true rfl) (Nat.le_of_ble_eq_true rfl) zg9 trivial trivial rfl W (fun zr11 zs10 W => ?_)
      refine J_if (P := ¬ zr11 = 0) (t := 63) (f := 45) rfl rfl rfl jc_ne W (fun W => ?_) (fun W => ?_)
      · refine J_iconst (pc' := 64) rfl (i32_d rfl) rfl ?_
        refine J_ior (pc' := 65) rfl rfl ?_
        refine J_istore_n (L' := [some (jo 1 zo0), none, some (ji (bOr zx2 0)), some (ji zx3), some (ji zx4)]) (pc' := 66) rfl (Nat.le_of_ble_eq_true rfl) rfl rfl ?_
        obtain ⟨zg12, W⟩ := W
        refine J_iinc (L' := [some (jo 1 zo0), none, some (ji (bOr zx2 0)), some (ji zx3), some (ji (zx4 + 1))]) (pc' := 69) rfl rfl zg12 rfl rfl ?_
        refine J_goto (pc' := 12) rfl rfl ?_
        exact W
      · refine J_aload_no (pc' := 46) rfl rfl zg1 rfl ?_
        refine J_getI (G := 1016) (pc' := 49) rfl rfl (Nat.le_of_ble_eq_true rfl) rfl zg1 rfl ?_
        refine J_iload_n (pc' := 50) rfl rfl rfl ?_
        refine J_callI (as := [ji (rs zs10 1016 zo0), ji zx3]) (rest := [ji zx2]) (pc' := 53) rfl rfl ax_Z_1 rfl rfl (Or.inl rfl) (Nat.le_of_ble_eq_true rfl) (Nat.le_of_ble_eq_true rfl) (Nat.le_of_ble_eq_true rfl) zg9 trivial trivial rfl W (fun zr14 zs13 W => ?_)
        refine J_if (P := ¬ zr14 = 0) (t := 63) (f := 56) rfl rfl rfl jc_ne W (fun W => ?_) (fun W => ?_)
        · refine J_iconst (pc' := 64) rfl (i32_d rfl) rfl ?_
          refine J_ior (pc' := 65) rfl rfl ?_
          refine J_istore_n (L' := [some (jo 1 zo0), none, some (ji (bOr zx2 0)), some (ji zx3), some (ji zx4)]) (pc' := 66) rfl (Nat.le_of_ble_eq_true rfl) rfl rfl ?_
          obtain ⟨zg15, W⟩ := W
          refine J_iinc (L' := [some (jo 1 zo0), none, some (ji (bOr zx2 0)), some (ji zx3), some (ji (zx4 + 1))]) (pc' := 69) rfl rfl zg15 rfl rfl ?_
          refine J_goto (pc' := 12) rfl rfl ?_
          exact W
        · refine J_iconst (pc' := 57) rfl (i32_d rfl) rfl ?_
          refine J_iload (pc' := 59) rfl rfl rfl ?_
          refine J_ishl (pc' := 60) rfl rfl ?_
          refine J_goto (pc' := 64) rfl rfl ?_
          refine J_ior (pc' := 65) rfl rfl ?_
          refine J_istore_n (L' := [some (jo 1 zo0), none, some (ji (bOr zx2 (bShl 1 zx4))), some (ji zx3), some (ji zx4)]) (pc' := 66) rfl (Nat.le_of_ble_eq_true rfl) rfl rfl ?_
          obtain ⟨zg16, W⟩ := W
          refine J_iinc (L' := [some (jo 1 zo0), none, some (ji (bOr zx2 (bShl 1 zx4))), some (ji zx3), some (ji (zx4 + 1))]) (pc' := 69) rfl rfl zg16 rfl rfl ?_
          refine J_goto (pc' := 12) rfl rfl ?_
          exact W
theorem wp_Model_openValue {n : Nat} {σ : jS} {Q : jS → Prop} {zo0 : Int} {zx1 : Int} {zx2 : Int} (W : 0 ≤ zo0 ∧ 0 ≤ rl σ 1135 zo0 ∧ 0 ≤ zx1 ∧ zx1 < rl σ 1135 zo0 ∧ (∀ zs3, zs3 = wa σ 1135 zo0 zx1 zx2 → 0 ≤ rl zs3 1136 zo0 ∧ zx1 < rl zs3 1136 zo0 ∧ (∀ zs7, zs7 = wa zs3 1136 zo0 zx1 (-1) → 0 ≤ rl zs7 1143 zo0 ∧ zx1 < rl zs7 1143 zo0 ∧ (∀ zs10, zs10 = wa zs7 1143 zo0 zx1 0 → Q zs10)))) : TrV n i_Model_openValue [jo 1 zo0, ji zx1, ji zx2] σ Q := by
  refine Tr_of ax_Z_104 ?_
  show J n c_Model_openValue none 0 [some (jo 1 zo0), some (ji zx1), some (ji zx2)] [] σ (qV Q)
  obtain ⟨zg1, W⟩ := W
  refine J_aload_no (pc' := 1) rfl rfl zg1 rfl ?_
  obtain ⟨zg2, W⟩ := W
  refine J_getA (G := 1135) (pc' := 4) rfl rfl (Nat.le_of_ble_eq_true rfl) rfl zg1 zg2 rfl ?_
  refine J_iload_n (pc' := 5) rfl rfl rfl ?_
  refine J_iload_n (pc' := 6) rfl rfl rfl ?_
  obtain ⟨zg4, W⟩ := W
  obtain ⟨zg5, W⟩ := W
  refine J_iast (pc' := 7) rfl rfl (by decide) zg4 zg5 rfl (fun zs3 ezs3 => ?_)
  replace W := W zs3 ezs3
  refine J_aload_no (pc' := 8) rfl rfl zg1 rfl ?_
  obtain ⟨zg6, W⟩ := W
  refine J_getA (G := 1136) (pc' := 11) rfl rfl (Nat.le_of_ble_eq_true rfl) rfl zg1 zg6 rfl ?_
  refine J_iload_n (pc' := 12) rfl rfl rfl ?_
  refine J_iconst (pc' := 13) rfl (i32_d rfl) rfl ?_
  obtain ⟨zg8, W⟩ := W
  refine J_iast (pc' := 14) rfl rfl (by decide) zg4 zg8 rfl (fun zs7 ezs7 => ?_)
  replace W := W zs7 ezs7
  refine J_aload_no (pc' := 15) rfl rfl zg1 rfl ?_
  obtain ⟨zg9, W⟩ := W
  refine J_getA (G := 1143) (pc' := 18) rfl rfl (Nat.le_of_ble_eq_true rfl) rfl zg1 zg9 rfl ?_
  refine J_iload_n (pc' := 19) rfl rfl rfl ?_
  refine J_lconst (m := 0) (pc' := 20) rfl rfl ⟨by decide, by decide⟩ rfl ?_
  obtain ⟨zg11, W⟩ := W
  refine J_last (pc' := 21) rfl rfl (i32_d rfl) zg4 zg11 rfl (fun zs10 ezs10 => ?_)
  replace W := W zs10 ezs10
  exact J_vret rfl rfl ⟨rfl, W⟩
theorem wp_Model_least {n : Nat} {σ : jS} {Q : Int → jS → Prop} {zx0 : Int} (W : (if 0 ≤ lcm3 zx0 1000000 then Q 1000000 σ else Q zx0 σ)) : TrL n i_Model_least [jl zx0] σ Q := by
  refine Tr_of ax_Z_105 ?_
  show J n c_Model_least (some .long) 0 [some (jl zx0), none] [] σ (qL Q)
  refine J_lload_n (pc' := 1) rfl rfl rfl ?_
  refine J_ldc2 (pc' := 4) rfl ⟨by decide, by decide⟩ rfl ?_
  refine J_lcmp (pc' := 5) rfl rfl ?_
  refine J_if (P := 0 ≤ lcm3 zx0 1000000) (t := 12) (f := 8) rfl rfl rfl jc_ge W (fun W => ?_) (fun W => ?_)
  · refine J_ldc2 (pc' := 15) rfl ⟨by decide, by decide⟩ rfl ?_
    exact J_lret rfl rfl ⟨_, rfl, W⟩
  · refine J_lload_n (pc' := 9) rfl rfl rfl ?_
    refine J_goto (pc' := 15) rfl rfl ?_
    exact J_lret rfl rfl ⟨_, rfl, W⟩
set_option maxRecDepth 16000 in
theorem wp_Model_nextGiven {n : Nat} {σ : jS} {Q : Int → jS → Prop} {zo0 : Int} {zx1 : Int} {zx2 : Int} (W : 0 ≤ zo0 ∧ 0 ≤ rl σ 1136 zo0 ∧ 0 ≤ zx1 ∧ zx1 < rl σ 1136 zo0 ∧ (if ra σ 1136 zo0 zx1 = (-1) then i32 ((ra σ 1136 zo0 zx1) + 1) ∧ (∀ zs6, zs6 = wa σ 1136 zo0 zx1 ((ra σ 1136 zo0 zx1) + 1) → J n c_Model_nextGiven (some .boolean) 25 [some (jo 1 zo0), some (ji zx1), some (ji zx2), none, none, none] [] zs6 (qI Q)) else 1 ≤ n ∧ TrV (n - 1) i_Model_backValue [jo 1 zo0, ji zx1] σ (fun zs8 => 0 ≤ rl zs8 1136 zo0 ∧ zx1 < rl zs8 1136 zo0 ∧ i32 ((ra zs8 1136 zo0 zx1) + 1) ∧ (∀ zs13, zs13 = wa zs8 1136 zo0 zx1 ((ra zs8 1136 zo0 zx1) + 1) → J n c_Model_nextGiven (some .boolean) 25 [some (jo 1 zo0), some (ji zx1), some (ji zx2), none, none, none] [] zs13 (qI Q))))) : TrI n i_Model_nextGiven [jo 1 zo0, ji zx1, ji zx2] σ Q := by
  refine Tr_of ax_Z_106 ?_
  show J n c_Model_nextGiven (some .boolean) 0 [some (jo 1 zo0), some (ji zx1), some (ji zx2), none, none, none] [] σ (qI Q)
  obtain ⟨zg1, W⟩ := W
  refine J_aload_no (pc' := 1) rfl rfl zg1 rfl ?_
  obtain ⟨zg2, W⟩ := W
  refine J_getA (G := 1136) (pc' := 4) rfl rfl (Nat.le_of_ble_eq_true rfl) rfl zg1 zg2 rfl ?_
  refine J_iload_n (pc' := 5) rfl rfl rfl ?_
  obtain ⟨zg3, W⟩ := W
  obtain ⟨zg4, W⟩ := W
  refine J_iald (pc' := 6) rfl rfl zg3 zg4 rfl ?_
  refine J_iconst (pc' := 7) rfl (i32_d rfl) rfl ?_
  refine J_icmp (P := ra σ 1136 zo0 zx1 = (-1)) (t := 15) (f := 10) rfl rfl rfl jc_eq W (fun W => ?_) (fun W => ?_)
  · refine J_aload_no (pc' := 16) rfl rfl zg1 rfl ?_
    refine J_getA (G := 1136) (pc' := 19) rfl rfl (Nat.le_of_ble_eq_true rfl) rfl zg1 zg2 rfl ?_
    refine J_iload_n (pc' := 20) rfl rfl rfl ?_
    refine J_dup2 (pc' := 21) rfl rfl rfl rfl ?_
    refine J_iald (pc' := 22) rfl rfl zg3 zg4 rfl ?_
    refine J_iconst (pc' := 23) rfl (i32_d rfl) rfl ?_
    obtain ⟨zg5, W⟩ := W
    refine J_iadd (pc' := 24) rfl zg5 rfl ?_
    refine J_iast (pc' := 25) rfl rfl (by decide) zg3 zg4 rfl (fun zs6 ezs6 => ?_)
    replace W := W zs6 ezs6
    exact W
  · refine J_aload_no (pc' := 11) rfl rfl zg1 rfl ?_
    refine J_iload_n (pc' := 12) rfl rfl rfl ?_
    obtain ⟨zg7, W⟩ := W
    refine J_callV (as := [jo 1 zo0, ji zx1]) (rest := []) (pc' := 15) rfl rfl ax_Z_107 rfl rfl (Or.inr (Or.inr ⟨_, _, rfl, zg1⟩)) (Nat.le_of_ble_eq_true rfl) (Nat.le_of_ble_eq_true rfl) (Nat.le_of_ble_eq_true rfl) zg7 trivial trivial rfl W (fun zs8 W => ?_)
    refine J_aload_no (pc' := 16) rfl rfl zg1 rfl ?_
    obtain ⟨zg10, W⟩ := W
    refine J_getA (G := 1136) (pc' := 19) rfl rfl (Nat.le_of_ble_eq_true rfl) rfl zg1 zg10 rfl ?_
    refine J_iload_n (pc' := 20) rfl rfl rfl ?_
    refine J_dup2 (pc' := 21) rfl rfl rfl rfl ?_
    obtain ⟨zg11, W⟩ := W
    refine J_iald (pc' := 22) rfl rfl zg3 zg11 rfl ?_
    refine J_iconst (pc' := 23) rfl (i32_d rfl) rfl ?_
    obtain ⟨zg12, W⟩ := W
    refine J_iadd (pc' := 24) rfl zg12 rfl ?_
    refine J_iast (pc' := 25) rfl rfl (by decide) zg3 zg11 rfl (fun zs13 ezs13 => ?_)
    replace W := W zs13 ezs13
    exact W
set_option maxRecDepth 16000 in
theorem wp_Model_nextGiven_25 {n : Nat} {σ : jS} {Q : Int → jS → Prop} {zo0 : Int} {zx1 : Int} {zx2 : Int} (W : 0 ≤ zo0 ∧ 0 ≤ rl σ 1136 zo0 ∧ 0 ≤ zx1 ∧ zx1 < rl σ 1136 zo0 ∧ (if rs σ 1014 zo0 ≤ ra σ 1136 zo0 zx1 then Q 0 σ else 0 ≤ rl σ 1139 zo0 ∧ zx1 < rl σ 1139 zo0 ∧ (∀ zs6, zs6 = wa σ 1139 zo0 zx1 (rs σ 1035 zo0) → 0 ≤ rl zs6 1140 zo0 ∧ zx1 < rl zs6 1140 zo0 ∧ (∀ zs9, zs9 = wa zs6 1140 zo0 zx1 (rs zs6 1033 zo0) → 0 ≤ rl zs9 1141 zo0 ∧ zx1 < rl zs9 1141 zo0 ∧ (∀ zs12, zs12 = wa zs9 1141 zo0 zx1 (rs zs9 1034 zo0) → 1 ≤ n ∧ TrI (n - 1) i_Model_has [ji zx2, ji (ra σ 1136 zo0 zx1)] zs12 (fun zr16 zs15 => (if zr16 = 0 then 0 ≤ rl zs15 1136 zo0 ∧ zx1 < rl zs15 1136 zo0 ∧ i32 ((ra zs15 1136 zo0 zx1) + 1) ∧ (∀ zs20, zs20 = wa zs15 1136 zo0 zx1 ((ra zs15 1136 zo0 zx1) + 1) → J n c_Model_nextGiven (some .boolean) 25 [some (jo 1 zo0), some (ji zx1), some (ji zx2), none, none, none] [] zs20 (qI Q)) else TrI (n - 1) i_Model_layGiven [jo 1 zo0, ji (ra σ 1136 zo0 zx1), ji 0] zs15 (fun zr22 zs21 => J n c_Model_nextGiven (some .boolean) 94 [some (jo 1 zo0), some (ji zx1), some (ji zx2), some (ji (ra σ 1136 zo0 zx1)), some (ji zr22), some (ji 1)] [] zs21 (qI Q))))))))) : J n c_Model_nextGiven (some .boolean) 25 [some (jo 1 zo0), some (ji zx1), some (ji zx2), none, none, none] [] σ (qI Q) := by
  obtain ⟨zg1, W⟩ := W
  refine J_aload_no (pc' := 26) rfl rfl zg1 rfl ?_
  obtain ⟨zg2, W⟩ := W
  refine J_getA (G := 1136) (pc' := 29) rfl rfl (Nat.le_of_ble_eq_true rfl) rfl zg1 zg2 rfl ?_
  refine J_iload_n (pc' := 30) rfl rfl rfl ?_
  obtain ⟨zg3, W⟩ := W
  obtain ⟨zg4, W⟩ := W
  refine J_iald (pc' := 31) rfl rfl zg3 zg4 rfl ?_
  refine J_aload_no (pc' := 32) rfl rfl zg1 rfl ?_
  refine J_getI (G := 1014) (pc' := 35) rfl rfl (Nat.le_of_ble_eq_true rfl) rfl zg1 rfl ?_
  refine J_icmp (P := rs σ 1014 zo0 ≤ ra σ 1136 zo0 zx1) (t := 166) (f := 38) rfl rfl rfl jc_ge W (fun W => ?_) (fun W => ?_)
  · refine J_iconst (pc' := 167) rfl (i32_d rfl) rfl ?_
    exact J_zret rfl rfl (Or.inl rfl) ⟨_, rfl, W⟩
  · refine J_aload_no (pc' := 39) rfl rfl zg1 rfl ?_
    refine J_getA (G := 1136) (pc' := 42) rfl rfl (Nat.le_of_ble_eq_true rfl) rfl zg1 zg2 rfl ?_
    refine J_iload_n (pc' := 43) rfl rfl rfl ?_
    refine J_iald (pc' := 44) rfl rfl zg3 zg4 rfl ?_
    refine J_istore_n (L' := [some (jo 1 zo0), some (ji zx1), some (ji zx2), some (ji (ra σ 1136 zo0 zx1)), none, none]) (pc' := 45) rfl (Nat.le_of_ble_eq_true rfl) rfl rfl ?_
    refine J_aload_no (pc' := 46) rfl rfl zg1 rfl ?_
    obtain ⟨zg5, W⟩ := W
    refine J_getA (G := 1139) (pc' := 49) rfl rfl (Nat.le_of_ble_eq_true rfl) rfl zg1 zg5 rfl ?_
    refine J_iload_n (pc' := 50) rfl rfl rfl ?_
    refine J_aload_no (pc' := 51) rfl rfl zg1 rfl ?_
    refine J_getI (G := 1035) (pc' := 54) rfl rfl (Nat.le_of_ble_eq_true rfl) rfl zg1 rfl ?_
    obtain ⟨zg7, W⟩ := W
    refine J_iast (pc' := 55) rfl rfl (by decide) zg3 zg7 rfl (fun zs6 ezs6 => ?_)
    replace W := W zs6 ezs6
    refine J_aload_no (pc' := 56) rfl rfl zg1 rfl ?_
    obtain ⟨zg8, W⟩ := W
    refine J_getA (G := 1140) (pc' := 59) rfl rfl (Nat.le_of_ble_eq_true rfl) rfl zg1 zg8 rfl ?_
    refine J_iload_n (pc' := 60) rfl rfl rfl ?_
    refine J_aload_no (pc' := 61) rfl rfl zg1 rfl ?_
    refine J_getI (G := 1033) (pc' := 64) rfl rfl (Nat.le_of_ble_eq_true rfl) rfl zg1 rfl ?_
    obtain ⟨zg10, W⟩ := W
    refine J_iast (pc' := 65) rfl rfl (by decide) zg3 zg10 rfl (fun zs9 ezs9 => ?_)
    replace W := W zs9 ezs9
    refine J_aload_no (pc' := 66) rfl rfl zg1 rfl ?_
    obtain ⟨zg11, W⟩ := W
    refine J_getA (G := 1141) (pc' := 69) rfl rfl (Nat.le_of_ble_eq_true rfl) rfl zg1 zg11 rfl ?_
    refine J_iload_n (pc' := 70) rfl rfl rfl ?_
    refine J_aload_no (pc' := 71) rfl rfl zg1 rfl ?_
    refine J_getI (G := 1034) (pc' := 74) rfl rfl (Nat.le_of_ble_eq_true rfl) rfl zg1 rfl ?_
    obtain ⟨zg13, W⟩ := W
    refine J_iast (pc' := 75) rfl rfl (by decide) zg3 zg13 rfl (fun zs12 ezs12 => ?_)
    replace W := W zs12 ezs12
    refine J_iload_n (pc' := 76) rfl rfl rfl ?_
    refine J_iload_n (pc' := 77) rfl rfl rfl ?_
    obtain ⟨zg14, W⟩ := W
    refine J_callI (as := [ji zx2, ji (ra σ 1136 zo0 zx1)]) (rest := []) (pc' := 80) rfl rfl ax_Z_1 rfl rfl (Or.inl rfl) (Nat.le_of_ble_eq_true rfl) (Nat.le_of_ble_eq_true rfl) (Nat.le_of_ble_eq_true rfl) zg14 trivial trivial rfl W (fun zr16 zs15 W => ?_)
    refine J_if (P := zr16 = 0) (t := 153) (f := 83) rfl rfl rfl jc_eq W (fun W => ?_) (fun W => ?_)
    · refine J_aload_no (pc' := 154) rfl rfl zg1 rfl ?_
      obtain ⟨zg17, W⟩ := W
      refine J_getA (G := 1136) (pc' := 157) rfl rfl (Nat.le_of_ble_eq_true rfl) rfl zg1 zg17 rfl ?_
      refine J_iload_n (pc' := 158) rfl rfl rfl ?_
      refine J_dup2 (pc' := 159) rfl rfl rfl rfl ?_
      obtain ⟨zg18, W⟩ := W
      refine J_iald (pc' := 160) rfl rfl zg3 zg18 rfl ?_
      refine J_iconst (pc' := 161) rfl (i32_d rfl) rfl ?_
      obtain ⟨zg19, W⟩ := W
      refine J_iadd (pc' := 162) rfl zg19 rfl ?_
      refine J_iast (pc' := 163) rfl rfl (by decide) zg3 zg18 rfl (fun zs20 ezs20 => ?_)
      replace W := W zs20 ezs20
      refine J_goto (pc' := 25) rfl rfl ?_
      refine J_weak (L' := [some (jo 1 zo0), some (ji zx1), some (ji zx2), none, none, none]) (And.intro rfl (And.intro rfl (And.intro rfl trivial))) ?_
      exact W
    · refine J_aload_no (pc' := 84) rfl rfl zg1 rfl ?_
      refine J_iload_n (pc' := 85) rfl rfl rfl ?_
      refine J_iconst (pc' := 86) rfl (i32_d rfl) rfl ?_
      refine J_callI (as := [jo 1 zo0, ji (ra σ 1136 zo0 zx1), ji 0]) (rest := []) (pc' := 89) rfl rfl ax_Z_43 rfl rfl (Or.inr (Or.inr ⟨_, _, rfl, zg1⟩)) (Nat.le_of_ble_eq_true rfl) (Nat.le_of_ble_eq_true rfl) (Nat.le_of_ble_eq_true rfl) zg14 trivial trivial rfl W (fun zr22 zs21 W => ?_)
      refine J_istore (L' := [some (jo 1 zo0), some (ji zx1), some (ji zx2), some (ji (ra σ 1136 zo0 zx1)), some (ji zr22), none]) (pc' := 91) rfl (Nat.le_of_ble_eq_true rfl) rfl rfl ?_
      refine J_iconst (pc' := 92) rfl (i32_d rfl) rfl ?_
      refine J_istore (L' := [some (jo 1 zo0), some (ji zx1), some (ji zx2), some (ji (ra σ 1136 zo0 zx1)), some (ji zr22), some (ji 1)]) (pc' := 94) rfl (Nat.le_of_ble_eq_true rfl) rfl rfl ?_
      exact W
set_option maxRecDepth 16000 in
theorem wp_Model_nextGiven_94 {n : Nat} {σ : jS} {Q : Int → jS → Prop} {zo0 : Int} {zx1 : Int} {zx2 : Int} {zx3 : Int} {zx4 : Int} {zx5 : Int} (W : 0 ≤ zo0 ∧ 0 ≤ rl σ 1010 zo0 ∧ 0 ≤ zx3 ∧ zx3 < rl σ 1010 zo0 ∧ (if ra σ 1010 zo0 zx3 < zx5 then 0 ≤ rl σ 1135 zo0 ∧ 0 ≤ zx1 ∧ zx1 < rl σ 1135 zo0 ∧ 1 ≤ n ∧ TrI (n - 1) i_Model_isUnified [jo 1 zo0, ji zx4, ji (ra σ 1135 zo0 zx1)] σ (fun zr10 zs9 => (if zr10 = 0 then TrV (n - 1) i_Model_backValue [jo 1 zo0, ji zx1] zs9 (fun zs11 => 0 ≤ rl zs11 1136 zo0 ∧ zx1 < rl zs11 1136 zo0 ∧ i32 ((ra zs11 1136 zo0 zx1) + 1) ∧ (∀ zs16, zs16 = wa zs11 1136 zo0 zx1 ((ra zs11 1136 zo0 zx1) + 1) → J n c_Model_nextGiven (some .boolean) 25 [some (jo 1 zo0), some (ji zx1), some (ji zx2), none, none, none] [] zs16 (qI Q))) else Q 1 zs9)) else 0 ≤ rl σ 1138 zo0 ∧ i32 (4 * zx1) ∧ i32 ((4 * zx1) + zx5) ∧ i32 (((4 * zx1) + zx5) - 1) ∧ 1 ≤ n ∧ TrI (n - 1) i_Model_layGiven [jo 1 zo0, ji zx3, ji zx5] σ (fun zr23 zs22 => 0 ≤ ((4 * zx1) + zx5) - 1 ∧ ((4 * zx1) + zx5) - 1 < rl zs22 1138 zo0 ∧ (∀ zs24, zs24 = wa zs22 1138 zo0 (((4 * zx1) + zx5) - 1) zr23 → i32 (zx5 + 1) ∧ J n c_Model_nextGiven (some .boolean) 94 [some (jo 1 zo0), some (ji zx1), some (ji zx2), some (ji zx3), some (ji zx4), some (ji (zx5 + 1))] [] zs24 (qI Q))))) : J n c_Model_nextGiven (some .boolean) 94 [some (jo 1 zo0), some (ji zx1), some (ji zx2), some (ji zx3), some (ji zx4), some (ji zx5)] [] σ (qI Q) := by
  refine J_iload (pc' := 96) rfl rfl rfl ?_
  obtain ⟨zg1, W⟩ := W
  refine J_aload_no (pc' := 97) rfl rfl zg1 rfl ?_
  obtain ⟨zg2, W⟩ := W
  refine J_getA (G := 1010) (pc' := 100) rfl rfl (Nat.le_of_ble_eq_true rfl) rfl zg1 zg2 rfl ?_
  refine J_iload_n (pc' := 101) rfl rfl rfl ?_
  obtain ⟨zg3, W⟩ := W
  obtain ⟨zg4, W⟩ := W
  refine J_iald (pc' := 102) rfl rfl zg3 zg4 rfl ?_
  refine J_icmp (P := ra σ 1010 zo0 zx3 < zx5) (t := 131) (f := 105) rfl rfl rfl jc_gt W (fun W => ?_) (fun W => ?_)
  · refine J_aload_no (pc' := 132) rfl rfl zg1 rfl ?_
    refine J_iload (pc' := 134) rfl rfl rfl ?_
    refine J_aload_no (pc' := 135) rfl rfl zg1 rfl ?_
    obtain ⟨zg5, W⟩ := W
    refine J_getA (G := 1135) (pc' := 138) rfl rfl (Nat.le_of_ble_eq_true rfl) rfl zg1 zg5 rfl ?_
    refine J_iload_n (pc' := 139) rfl rfl rfl ?_
    obtain ⟨zg6, W⟩ := W
    obtain ⟨zg7, W⟩ := W
    refine J_iald (pc' := 140) rfl rfl zg6 zg7 rfl ?_
    obtain ⟨zg8, W⟩ := W
    refine J_weak (L' := [some (jo 1 zo0), some (ji zx1), some (ji zx2), none, none, none]) (And.intro rfl (And.intro rfl (And.intro rfl trivial))) ?_
    refine J_callI (as := [jo 1 zo0, ji zx4, ji (ra σ 1135 zo0 zx1)]) (rest := []) (pc' := 143) rfl rfl ax_Z_48 rfl rfl (Or.inr (Or.inr ⟨_, _, rfl, zg1⟩)) (Nat.le_of_ble_eq_true rfl) (Nat.le_of_ble_eq_true rfl) (Nat.le_of_ble_eq_true rfl) zg8 trivial trivial rfl W (fun zr10 zs9 W => ?_)
    refine J_if (P := zr10 = 0) (t := 148) (f := 146) rfl rfl rfl jc_eq W (fun W => ?_) (fun W => ?_)
    · refine J_aload_no (pc' := 149) rfl rfl zg1 rfl ?_
      refine J_iload_n (pc' := 150) rfl rfl rfl ?_
      refine J_callV (as := [jo 1 zo0, ji zx1]) (rest := []) (pc' := 153) rfl rfl ax_Z_107 rfl rfl (Or.inr (Or.inr ⟨_, _, rfl, zg1⟩)) (Nat.le_of_ble_eq_true rfl) (Nat.le_of_ble_eq_true rfl) (Nat.le_of_ble_eq_true rfl) zg8 trivial trivial rfl W (fun zs11 W => ?_)
      refine J_aload_no (pc' := 154) rfl rfl zg1 rfl ?_
      obtain ⟨zg13, W⟩ := W
      refine J_getA (G := 1136) (pc' := 157) rfl rfl (Nat.le_of_ble_eq_true rfl) rfl zg1 zg13 rfl ?_
      refine J_iload_n (pc' := 158) rfl rfl rfl ?_
      refine J_dup2 (pc' := 159) rfl rfl rfl rfl ?_
      obtain ⟨zg14, W⟩ := W
      refine J_iald (pc' := 160) rfl rfl zg6 zg14 rfl ?_
      refine J_iconst (pc' := 161) rfl (i32_d rfl) rfl ?_
      obtain ⟨zg15, W⟩ := W
      refine J_iadd (pc' := 162) rfl zg15 rfl ?_
      refine J_iast (pc' := 163) rfl rfl (by decide) zg6 zg14 rfl (fun zs16 ezs16 => ?_)
      replace W := W zs16 ezs16
      refine J_goto (pc' := 25) rfl rfl ?_
      exact W
    · refine J_iconst (pc' := 147) rfl (i32_d rfl) rfl ?_
      exact J_zret rfl rfl (Or.inr rfl) ⟨_, rfl, W⟩
  · refine J_aload_no (pc' := 106) rfl rfl zg1 rfl ?_
    obtain ⟨zg17, W⟩ := W
    refine J_getA (G := 1138) (pc' := 109) rfl rfl (Nat.le_of_ble_eq_true rfl) rfl zg1 zg17 rfl ?_
    refine J_iconst (pc' := 110) rfl (i32_d rfl) rfl ?_
    refine J_iload_n (pc' := 111) rfl rfl rfl ?_
    obtain ⟨zg18, W⟩ := W
    refine J_imul (pc' := 112) rfl zg18 rfl ?_
    refine J_iload (pc' := 114) rfl rfl rfl ?_
    obtain ⟨zg19, W⟩ := W
    refine J_iadd (pc' := 115) rfl zg19 rfl ?_
    refine J_iconst (pc' := 116) rfl (i32_d rfl) rfl ?_
    obtain ⟨zg20, W⟩ := W
    refine J_isub (pc' := 117) rfl zg20 rfl ?_
    refine J_aload_no (pc' := 118) rfl rfl zg1 rfl ?_
    refine J_iload_n (pc' := 119) rfl rfl rfl ?_
    refine J_iload (pc' := 121) rfl rfl rfl ?_
    obtain ⟨zg21, W⟩ := W
    refine J_callI (as := [jo 1 zo0, ji zx3, ji zx5]) (rest := [ji (((4 * zx1) + zx5) - 1), ja 1138 zo0]) (pc' := 124) rfl rfl ax_Z_43 rfl rfl (Or.inr (Or.inr ⟨_, _, rfl, zg1⟩)) (Nat.le_of_ble_eq_true rfl) (Nat.le_of_ble_eq_true rfl) (Nat.le_of_ble_eq_true rfl) zg21 trivial (And.intro rfl trivial) rfl W (fun zr23 zs22 W => ?_)
    obtain ⟨zg25, W⟩ := W
    obtain ⟨zg26, W⟩ := W
    refine J_iast (pc' := 125) rfl rfl (by decide) zg25 zg26 rfl (fun zs24 ezs24 => ?_)
    replace W := W zs24 ezs24
    obtain ⟨zg27, W⟩ := W
    refine J_iinc (L' := [some (jo 1 zo0), some (ji zx1), some (ji zx2), some (ji zx3), some (ji zx4), some (ji (zx5 + 1))]) (pc' := 128) rfl rfl zg27 rfl rfl ?_
    refine J_goto (pc' := 94) rfl rfl ?_
    exact W
