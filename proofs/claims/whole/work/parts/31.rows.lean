/-! Rows that turn code into formulas (written by genwp.py). -/
theorem wp_Model_orderOf {n : Nat} {σ : jS} {Q : Int → jS → Prop} {zo0 : Int} {zx1 : Int} (W : J n c_Model_orderOf (some .int) 2 [some (jo 1 zo0), some (ji zx1), some (ji 0)] [] σ (qI Q)) : TrI n i_Model_orderOf [jo 1 zo0, ji zx1] σ Q := by
  refine Tr_of ax_Z_49 ?_
  show J n c_Model_orderOf (some .int) 0 [some (jo 1 zo0), some (ji zx1), none] [] σ (qI Q)
  refine J_iconst (pc' := 1) rfl (i32_d rfl) rfl ?_
  refine J_istore_n (L' := [some (jo 1 zo0), some (ji zx1), some (ji 0)]) (pc' := 2) rfl (Nat.le_of_ble_eq_true rfl) rfl rfl ?_
  exact W
theorem wp_Model_orderOf_2 {n : Nat} {σ : jS} {Q : Int → jS → Prop} {zo0 : Int} {zx1 : Int} {zx2 : Int} (W : 0 ≤ zo0 ∧ (if rs σ 1044 zo0 ≤ zx2 then J n c_Model_orderOf (some .int) 26 [some (jo 1 zo0), some (ji zx1), some (ji zx2)] [] σ (qI Q) else 0 ≤ rl σ 1042 zo0 ∧ 0 ≤ zx2 ∧ zx2 < rl σ 1042 zo0 ∧ (if ra σ 1042 zo0 zx2 = zx1 then J n c_Model_orderOf (some .int) 26 [some (jo 1 zo0), some (ji zx1), some (ji zx2)] [] σ (qI Q) else i32 (zx2 + 1) ∧ J n c_Model_orderOf (some .int) 2 [some (jo 1 zo0), some (ji zx1), some (ji (zx2 + 1))] [] σ (qI Q)))) : J n c_Model_orderOf (some .int) 2 [some (jo 1 zo0), some (ji zx1), some (ji zx2)] [] σ (qI Q) := by
  refine J_iload_n (pc' := 3) rfl rfl rfl ?_
  obtain ⟨zg1, W⟩ := W
  refine J_aload_no (pc' := 4) rfl rfl zg1 rfl ?_
  refine J_getI (G := 1044) (pc' := 7) rfl rfl (Nat.le_of_ble_eq_true rfl) rfl zg1 rfl ?_
  refine J_icmp (P := rs σ 1044 zo0 ≤ zx2) (t := 26) (f := 10) rfl rfl rfl jc_ge W (fun W => ?_) (fun W => ?_)
  · exact W
  · refine J_aload_no (pc' := 11) rfl rfl zg1 rfl ?_
    obtain ⟨zg2, W⟩ := W
    refine J_getA (G := 1042) (pc' := 14) rfl rfl (Nat.le_of_ble_eq_true rfl) rfl zg1 zg2 rfl ?_
    refine J_iload_n (pc' := 15) rfl rfl rfl ?_
    obtain ⟨zg3, W⟩ := W
    obtain ⟨zg4, W⟩ := W
    refine J_iald (pc' := 16) rfl rfl zg3 zg4 rfl ?_
    refine J_iload_n (pc' := 17) rfl rfl rfl ?_
    refine J_icmp (P := ra σ 1042 zo0 zx2 = zx1) (t := 26) (f := 20) rfl rfl rfl jc_eq W (fun W => ?_) (fun W => ?_)
    · exact W
    · obtain ⟨zg5, W⟩ := W
      refine J_iinc (L' := [some (jo 1 zo0), some (ji zx1), some (ji (zx2 + 1))]) (pc' := 23) rfl rfl zg5 rfl rfl ?_
      refine J_goto (pc' := 2) rfl rfl ?_
      exact W
theorem wp_Model_orderOf_26 {n : Nat} {σ : jS} {Q : Int → jS → Prop} {zo0 : Int} {zx1 : Int} {zx2 : Int} (W : 0 ≤ zo0 ∧ (if ¬ zx2 = rs σ 1044 zo0 then Q zx2 σ else 0 ≤ rl σ 1042 zo0 ∧ 0 ≤ zx2 ∧ zx2 < rl σ 1042 zo0 ∧ (∀ zs3, zs3 = wa σ 1042 zo0 zx2 zx1 → i32 ((rs zs3 1044 zo0) + 1) ∧ (∀ zs7, zs7 = ws zs3 1044 zo0 ((rs zs3 1044 zo0) + 1) → Q zx2 zs7)))) : J n c_Model_orderOf (some .int) 26 [some (jo 1 zo0), some (ji zx1), some (ji zx2)] [] σ (qI Q) := by
  refine J_iload_n (pc' := 27) rfl rfl rfl ?_
  obtain ⟨zg1, W⟩ := W
  refine J_aload_no (pc' := 28) rfl rfl zg1 rfl ?_
  refine J_getI (G := 1044) (pc' := 31) rfl rfl (Nat.le_of_ble_eq_true rfl) rfl zg1 rfl ?_
  refine J_icmp (P := ¬ zx2 = rs σ 1044 zo0) (t := 51) (f := 34) rfl rfl rfl jc_ne W (fun W => ?_) (fun W => ?_)
  · refine J_iload_n (pc' := 52) rfl rfl rfl ?_
    exact J_iret rfl rfl ⟨_, rfl, W⟩
  · refine J_aload_no (pc' := 35) rfl rfl zg1 rfl ?_
    obtain ⟨zg2, W⟩ := W
    refine J_getA (G := 1042) (pc' := 38) rfl rfl (Nat.le_of_ble_eq_true rfl) rfl zg1 zg2 rfl ?_
    refine J_iload_n (pc' := 39) rfl rfl rfl ?_
    refine J_iload_n (pc' := 40) rfl rfl rfl ?_
    obtain ⟨zg4, W⟩ := W
    obtain ⟨zg5, W⟩ := W
    refine J_iast (pc' := 41) rfl rfl (by decide) zg4 zg5 rfl (fun zs3 ezs3 => ?_)
    replace W := W zs3 ezs3
    refine J_aload_no (pc' := 42) rfl rfl zg1 rfl ?_
    refine J_dup (pc' := 43) rfl rfl rfl ?_
    refine J_getI (G := 1044) (pc' := 46) rfl rfl (Nat.le_of_ble_eq_true rfl) rfl zg1 rfl ?_
    refine J_iconst (pc' := 47) rfl (i32_d rfl) rfl ?_
    obtain ⟨zg6, W⟩ := W
    refine J_iadd (pc' := 48) rfl zg6 rfl ?_
    refine J_putI (G := 1044) (pc' := 51) rfl rfl (Nat.le_of_ble_eq_true rfl) rfl rfl zg1 rfl (fun zs7 ezs7 => ?_)
    replace W := W zs7 ezs7
    refine J_iload_n (pc' := 52) rfl rfl rfl ?_
    exact J_iret rfl rfl ⟨_, rfl, W⟩
set_option maxRecDepth 16000 in
theorem wp_Model_layOut {n : Nat} {σ : jS} {Q : Int → jS → Prop} {zo0 : Int} {zx1 : Int} (W : 0 ≤ zo0 ∧ (∀ zs2, zs2 = ws σ 1043 zo0 0 → (∀ zs3, zs3 = ws zs2 1044 zo0 0 → (∀ zs4, zs4 = ws zs3 1045 zo0 0 → 0 ≤ rl zs4 1039 zo0 ∧ 0 < rl zs4 1039 zo0 ∧ (∀ zs6, zs6 = wa zs4 1039 zo0 0 zx1 → J n c_Model_layOut (some .int) 24 [some (jo 1 zo0), none, some (ji 1), none, none, none] [] zs6 (qI Q)))))) : TrI n i_Model_layOut [jo 1 zo0, ji zx1] σ Q := by
  refine Tr_of ax_Z_50 ?_
  show J n c_Model_layOut (some .int) 0 [some (jo 1 zo0), some (ji zx1), none, none, none, none] [] σ (qI Q)
  refine J_iconst (pc' := 1) rfl (i32_d rfl) rfl ?_
  refine J_istore_n (L' := [some (jo 1 zo0), some (ji zx1), some (ji 1), none, none, none]) (pc' := 2) rfl (Nat.le_of_ble_eq_true rfl) rfl rfl ?_
  obtain ⟨zg1, W⟩ := W
  refine J_aload_no (pc' := 3) rfl rfl zg1 rfl ?_
  refine J_iconst (pc' := 4) rfl (i32_d rfl) rfl ?_
  refine J_putI (G := 1043) (pc' := 7) rfl rfl (Nat.le_of_ble_eq_true rfl) rfl rfl zg1 rfl (fun zs2 ezs2 => ?_)
  replace W := W zs2 ezs2
  refine J_aload_no (pc' := 8) rfl rfl zg1 rfl ?_
  refine J_iconst (pc' := 9) rfl (i32_d rfl) rfl ?_
  refine J_putI (G := 1044) (pc' := 12) rfl rfl (Nat.le_of_ble_eq_true rfl) rfl rfl zg1 rfl (fun zs3 ezs3 => ?_)
  replace W := W zs3 ezs3
  refine J_aload_no (pc' := 13) rfl rfl zg1 rfl ?_
  refine J_iconst (pc' := 14) rfl (i32_d rfl) rfl ?_
  refine J_putI (G := 1045) (pc' := 17) rfl rfl (Nat.le_of_ble_eq_true rfl) rfl rfl zg1 rfl (fun zs4 ezs4 => ?_)
  replace W := W zs4 ezs4
  refine J_aload_no (pc' := 18) rfl rfl zg1 rfl ?_
  obtain ⟨zg5, W⟩ := W
  refine J_getA (G := 1039) (pc' := 21) rfl rfl (Nat.le_of_ble_eq_true rfl) rfl zg1 zg5 rfl ?_
  refine J_iconst (pc' := 22) rfl (i32_d rfl) rfl ?_
  refine J_iload_n (pc' := 23) rfl rfl rfl ?_
  obtain ⟨zg7, W⟩ := W
  refine J_iast (pc' := 24) rfl rfl (by decide) (by decide) zg7 rfl (fun zs6 ezs6 => ?_)
  replace W := W zs6 ezs6
  refine J_weak (L' := [some (jo 1 zo0), none, some (ji 1), none, none, none]) (And.intro rfl (And.intro rfl trivial)) ?_
  exact W
set_option maxRecDepth 16000 in
theorem wp_Model_layOut_24 {n : Nat} {σ : jS} {Q : Int → jS → Prop} {zo0 : Int} {zx2 : Int} (W : (if zx2 ≤ 0 then 0 ≤ zo0 ∧ Q (rs σ 1043 zo0) σ else i32 (zx2 + (-1)) ∧ 0 ≤ zo0 ∧ 0 ≤ rl σ 1039 zo0 ∧ 0 ≤ zx2 + (-1) ∧ zx2 + (-1) < rl σ 1039 zo0 ∧ 1 ≤ n ∧ TrI (n - 1) i_Model_seen [jo 1 zo0, ji (ra σ 1039 zo0 (zx2 + (-1)))] σ (fun zr9 zs8 => (if ¬ rs zs8 1043 zo0 = 100 then 0 ≤ rl zs8 1041 zo0 ∧ 0 ≤ rl zs8 1028 zo0 ∧ 0 ≤ zr9 ∧ zr9 < rl zs8 1028 zo0 ∧ (if ¬ ra zs8 1028 zo0 zr9 = (-1) then 0 ≤ rs zs8 1043 zo0 ∧ rs zs8 1043 zo0 < rl zs8 1041 zo0 ∧ (∀ zs14, zs14 = wa zs8 1041 zo0 (rs zs8 1043 zo0) (ra zs8 1028 zo0 zr9) → i32 ((rs zs14 1043 zo0) + 1) ∧ (∀ zs18, zs18 = ws zs14 1043 zo0 ((rs zs14 1043 zo0) + 1) → 0 ≤ rl zs18 1028 zo0 ∧ zr9 < rl zs18 1028 zo0 ∧ (if ¬ ra zs18 1028 zo0 zr9 = (-1) then 0 ≤ ra zs18 1028 zo0 zr9 ∧ (∀ zs22, zs22 = ws zs18 1045 zo0 (bOr (rs zs18 1045 zo0) (bShl 1 ((ra zs18 1028 zo0 zr9) / 4))) → 0 ≤ rl zs22 1028 zo0 ∧ zr9 < rl zs22 1028 zo0 ∧ TrI (n - 1) i_Model_partsOf [ji (ra zs22 1028 zo0 zr9)] zs22 (fun zr26 zs25 => i32 (zr26 - 1) ∧ J n c_Model_layOut (some .int) 149 [some (jo 1 zo0), none, some (ji (zx2 + (-1))), some (ji zr9), none, some (ji (zr26 - 1))] [] zs25 (qI Q))) else J n c_Model_layOut (some .int) 24 [some (jo 1 zo0), none, some (ji (zx2 + (-1))), none, none, none] [] zs18 (qI Q)))) else TrI (n - 1) i_Model_orderOf [jo 1 zo0, ji zr9] zs8 (fun zr29 zs28 => TrI (n - 1) i_Model_var [ji zr29] zs28 (fun zr31 zs30 => 0 ≤ rs zs8 1043 zo0 ∧ rs zs8 1043 zo0 < rl zs30 1041 zo0 ∧ (∀ zs32, zs32 = wa zs30 1041 zo0 (rs zs8 1043 zo0) zr31 → i32 ((rs zs32 1043 zo0) + 1) ∧ (∀ zs36, zs36 = ws zs32 1043 zo0 ((rs zs32 1043 zo0) + 1) → 0 ≤ rl zs36 1028 zo0 ∧ zr9 < rl zs36 1028 zo0 ∧ (if ¬ ra zs36 1028 zo0 zr9 = (-1) then 0 ≤ ra zs36 1028 zo0 zr9 ∧ (∀ zs40, zs40 = ws zs36 1045 zo0 (bOr (rs zs36 1045 zo0) (bShl 1 ((ra zs36 1028 zo0 zr9) / 4))) → 0 ≤ rl zs40 1028 zo0 ∧ zr9 < rl zs40 1028 zo0 ∧ TrI (n - 1) i_Model_partsOf [ji (ra zs40 1028 zo0 zr9)] zs40 (fun zr44 zs43 => i32 (zr44 - 1) ∧ J n c_Model_layOut (some .int) 149 [some (jo 1 zo0), none, some (ji (zx2 + (-1))), some (ji zr9), none, some (ji (zr44 - 1))] [] zs43 (qI Q))) else J n c_Model_layOut (some .int) 24 [some (jo 1 zo0), none, some (ji (zx2 + (-1))), none, none, none] [] zs36 (qI Q))))))) else Q 101 zs8)))) : J n c_Model_layOut (some .int) 24 [some (jo 1 zo0), none, some (ji zx2), none, none, none] [] σ (qI Q) := by
  refine J_iload_n (pc' := 25) rfl rfl rfl ?_
  refine J_if (P := zx2 ≤ 0) (t := 186) (f := 28) rfl rfl rfl jc_le W (fun W => ?_) (fun W => ?_)
  · obtain ⟨zg1, W⟩ := W
    refine J_aload_no (pc' := 187) rfl rfl zg1 rfl ?_
    refine J_getI (G := 1043) (pc' := 190) rfl rfl (Nat.le_of_ble_eq_true rfl) rfl zg1 rfl ?_
    exact J_iret rfl rfl ⟨_, rfl, W⟩
  · obtain ⟨zg2, W⟩ := W
    refine J_iinc (L' := [some (jo 1 zo0), none, some (ji (zx2 + (-1))), none, none, none]) (pc' := 31) rfl rfl zg2 rfl rfl ?_
    obtain ⟨zg3, W⟩ := W
    refine J_aload_no (pc' := 32) rfl rfl zg3 rfl ?_
    refine J_aload_no (pc' := 33) rfl rfl zg3 rfl ?_
    obtain ⟨zg4, W⟩ := W
    refine J_getA (G := 1039) (pc' := 36) rfl rfl (Nat.le_of_ble_eq_true rfl) rfl zg3 zg4 rfl ?_
    refine J_iload_n (pc' := 37) rfl rfl rfl ?_
    obtain ⟨zg5, W⟩ := W
    obtain ⟨zg6, W⟩ := W
    refine J_iald (pc' := 38) rfl rfl zg5 zg6 rfl ?_
    obtain ⟨zg7, W⟩ := W
    refine J_callI (as := [jo 1 zo0, ji (ra σ 1039 zo0 (zx2 + (-1)))]) (rest := []) (pc' := 41) rfl rfl ax_Z_44 rfl rfl (Or.inr (Or.inr ⟨_, _, rfl, zg3⟩)) (Nat.le_of_ble_eq_true rfl) (Nat.le_of_ble_eq_true rfl) (Nat.le_of_ble_eq_true rfl) zg7 trivial trivial rfl W (fun zr9 zs8 W => ?_)
    refine J_istore_n (L' := [some (jo 1 zo0), none, some (ji (zx2 + (-1))), some (ji zr9), none, none]) (pc' := 42) rfl (Nat.le_of_ble_eq_true rfl) rfl rfl ?_
    refine J_aload_no (pc' := 43) rfl rfl zg3 rfl ?_
    refine J_getI (G := 1043) (pc' := 46) rfl rfl (Nat.le_of_ble_eq_true rfl) rfl zg3 rfl ?_
    refine J_bipush (pc' := 48) rfl (by decide) (by decide) rfl ?_
    refine J_icmp (P := ¬ rs zs8 1043 zo0 = 100) (t := 54) (f := 51) rfl rfl rfl jc_ne W (fun W => ?_) (fun W => ?_)
    · refine J_aload_no (pc' := 55) rfl rfl zg3 rfl ?_
      obtain ⟨zg10, W⟩ := W
      refine J_getA (G := 1041) (pc' := 58) rfl rfl (Nat.le_of_ble_eq_true rfl) rfl zg3 zg10 rfl ?_
      refine J_aload_no (pc' := 59) rfl rfl zg3 rfl ?_
      refine J_getI (G := 1043) (pc' := 62) rfl rfl (Nat.le_of_ble_eq_true rfl) rfl zg3 rfl ?_
      refine J_aload_no (pc' := 63) rfl rfl zg3 rfl ?_
      obtain ⟨zg11, W⟩ := W
      refine J_getA (G := 1028) (pc' := 66) rfl rfl (Nat.le_of_ble_eq_true rfl) rfl zg3 zg11 rfl ?_
      refine J_iload_n (pc' := 67) rfl rfl rfl ?_
      obtain ⟨zg12, W⟩ := W
      obtain ⟨zg13, W⟩ := W
      refine J_iald (pc' := 68) rfl rfl zg12 zg13 rfl ?_
      refine J_iconst (pc' := 69) rfl (i32_d rfl) rfl ?_
      refine J_icmp (P := ¬ ra zs8 1028 zo0 zr9 = (-1)) (t := 83) (f := 72) rfl rfl rfl jc_ne W (fun W => ?_) (fun W => ?_)
      · refine J_aload_no (pc' := 84) rfl rfl zg3 rfl ?_
        refine J_getA (G := 1028) (pc' := 87) rfl rfl (Nat.le_of_ble_eq_true rfl) rfl zg3 zg11 rfl ?_
        refine J_iload_n (pc' := 88) rfl rfl rfl ?_
        refine J_iald (pc' := 89) rfl rfl zg12 zg13 rfl ?_
        obtain ⟨zg15, W⟩ := W
        obtain ⟨zg16, W⟩ := W
        refine J_iast (pc' := 90) rfl rfl (by decide) zg15 zg16 rfl (fun zs14 ezs14 => ?_)
        replace W := W zs14 ezs14
        refine J_aload_no (pc' := 91) rfl rfl zg3 rfl ?_
        refine J_dup (pc' := 92) rfl rfl rfl ?_
        refine J_getI (G := 1043) (pc' := 95) rfl rfl (Nat.le_of_ble_eq_true rfl) rfl zg3 rfl ?_
        refine J_iconst (pc' := 96) rfl (i32_d rfl) rfl ?_
        obtain ⟨zg17, W⟩ := W
        refine J_iadd (pc' := 97) rfl zg17 rfl ?_
        refine J_putI (G := 1043) (pc' := 100) rfl rfl (Nat.le_of_ble_eq_true rfl) rfl rfl zg3 rfl (fun zs18 ezs18 => ?_)
        replace W := W zs18 ezs18
        refine J_aload_no (pc' := 101) rfl rfl zg3 rfl ?_
        obtain ⟨zg19, W⟩ := W
        refine J_getA (G := 1028) (pc' := 104) rfl rfl (Nat.le_of_ble_eq_true rfl) rfl zg3 zg19 rfl ?_
        refine J_iload_n (pc' := 105) rfl rfl rfl ?_
        obtain ⟨zg20, W⟩ := W
        refine J_iald (pc' := 106) rfl rfl zg12 zg20 rfl ?_
        refine J_iconst (pc' := 107) rfl (i32_d rfl) rfl ?_
        refine J_icmp (P := ¬ ra zs18 1028 zo0 zr9 = (-1)) (t := 113) (f := 110) rfl rfl rfl jc_ne W (fun W => ?_) (fun W => ?_)
        · refine J_aload_no (pc' := 114) rfl rfl zg3 rfl ?_
          refine J_dup (pc' := 115) rfl rfl rfl ?_
          refine J_getI (G := 1045) (pc' := 118) rfl rfl (Nat.le_of_ble_eq_true rfl) rfl zg3 rfl ?_
          refine J_iconst (pc' := 119) rfl (i32_d rfl) rfl ?_
          refine J_aload_no (pc' := 120) rfl rfl zg3 rfl ?_
          refine J_getA (G := 1028) (pc' := 123) rfl rfl (Nat.le_of_ble_eq_true rfl) rfl zg3 zg19 rfl ?_
          refine J_iload_n (pc' := 124) rfl rfl rfl ?_
          refine J_iald (pc' := 125) rfl rfl zg12 zg20 rfl ?_
          refine J_iconst (pc' := 126) rfl (i32_d rfl) rfl ?_
          obtain ⟨zg21, W⟩ := W
          refine J_idiv (pc' := 127) rfl zg21 (by decide) rfl ?_
          refine J_ishl (pc' := 128) rfl rfl ?_
          refine J_ior (pc' := 129) rfl rfl ?_
          refine J_putI (G := 1045) (pc' := 132) rfl rfl (Nat.le_of_ble_eq_true rfl) rfl rfl zg3 rfl (fun zs22 ezs22 => ?_)
          replace W := W zs22 ezs22
          refine J_aload_no (pc' := 133) rfl rfl zg3 rfl ?_
          obtain ⟨zg23, W⟩ := W
          refine J_getA (G := 1028) (pc' := 136) rfl rfl (Nat.le_of_ble_eq_true rfl) rfl zg3 zg23 rfl ?_
          refine J_iload_n (pc' := 137) rfl rfl rfl ?_
          obtain ⟨zg24, W⟩ := W
          refine J_iald (pc' := 138) rfl rfl zg12 zg24 rfl ?_
          refine J_callI (as := [ji (ra zs22 1028 zo0 zr9)]) (rest := []) (pc' := 141) rfl rfl ax_Z_5 rfl rfl (Or.inl rfl) (Nat.le_of_ble_eq_true rfl) (Nat.le_of_ble_eq_true rfl) (Nat.le_of_ble_eq_true rfl) zg7 trivial trivial rfl W (fun zr26 zs25 W => ?_)
          refine J_istore (L' := [some (jo 1 zo0), none, some (ji (zx2 + (-1))), some (ji zr9), some (ji zr26), none]) (pc' := 143) rfl (Nat.le_of_ble_eq_true rfl) rfl rfl ?_
          refine J_iload (pc' := 145) rfl rfl rfl ?_
          refine J_iconst (pc' := 146) rfl (i32_d rfl) rfl ?_
          obtain ⟨zg27, W⟩ := W
          refine J_isub (pc' := 147) rfl zg27 rfl ?_
          refine J_istore (L' := [some (jo 1 zo0), none, some (ji (zx2 + (-1))), some (ji zr9), some (ji zr26), some (ji (zr26 - 1))]) (pc' := 149) rfl (Nat.le_of_ble_eq_true rfl) rfl rfl ?_
          refine J_weak (L' := [some (jo 1 zo0), none, some (ji (zx2 + (-1))), some (ji zr9), none, some (ji (zr26 - 1))]) (And.intro rfl (And.intro rfl (And.intro rfl (And.intro rfl trivial)))) ?_
          exact W
        · refine J_goto (pc' := 24) rfl rfl ?_
          refine J_weak (L' := [some (jo 1 zo0), none, some (ji (zx2 + (-1))), none, none, none]) (And.intro rfl (And.intro rfl trivial)) ?_
          exact W
      · refine J_aload_no (pc' := 73) rfl rfl zg3 rfl ?_
        refine J_iload_n (pc' := 74) rfl rfl rfl ?_
        refine J_callI (as := [jo 1 zo0, ji zr9]) (rest := [ji (rs zs8 1043 zo0), ja 1041 zo0]) (pc' := 77) rfl rfl ax_Z_49 rfl rfl (Or.inr (Or.inr ⟨_, _, rfl, zg3⟩)) (Nat.le_of_ble_eq_true rfl) (Nat.le_of_ble_eq_true rfl) (Nat.le_of_ble_eq_true rfl) zg7 trivial (And.intro rfl trivial) rfl W (fun zr29 zs28 W => ?_)
        refine J_callI (as := [ji zr29]) (rest := [ji (rs zs8 1043 zo0), ja 1041 zo0]) (pc' := 80) rfl rfl ax_Z_4 rfl rfl (Or.inl rfl) (Nat.le_of_ble_eq_true rfl) (Nat.le_of_ble_eq_true rfl) (Nat.le_of_ble_eq_true rfl) zg7 trivial (And.intro rfl trivial) rfl W (fun zr31 zs30 W => ?_)
        refine J_goto (pc' := 89) rfl rfl ?_
        obtain ⟨zg33, W⟩ := W
        obtain ⟨zg34, W⟩ := W
        refine J_iast (pc' := 90) rfl rfl (by decide) zg33 zg34 rfl (fun zs32 ezs32 => ?_)
        replace W := W zs32 ezs32
        refine J_aload_no (pc' := 91) rfl rfl zg3 rfl ?_
        refine J_dup (pc' := 92) rfl rfl rfl ?_
        refine J_getI (G := 1043) (pc' := 95) rfl rfl (Nat.le_of_ble_eq_true rfl) rfl zg3 rfl ?_
        refine J_iconst (pc' := 96) rfl (i32_d rfl) rfl ?_
        obtain ⟨zg35, W⟩ := W
        refine J_iadd (pc' := 97) rfl zg35 rfl ?_
        refine J_putI (G := 1043) (pc' := 100) rfl rfl (Nat.le_of_ble_eq_true rfl) rfl rfl zg3 rfl (fun zs36 ezs36 => ?_)
        replace W := W zs36 ezs36
        refine J_aload_no (pc' := 101) rfl rfl zg3 rfl ?_
        obtain ⟨zg37, W⟩ := W
        refine J_getA (G := 1028) (pc' := 104) rfl rfl (Nat.le_of_ble_eq_true rfl) rfl zg3 zg37 rfl ?_
        refine J_iload_n (pc' := 105) rfl rfl rfl ?_
        obtain ⟨zg38, W⟩ := W
        refine J_iald (pc' := 106) rfl rfl zg12 zg38 rfl ?_
        refine J_iconst (pc' := 107) rfl (i32_d rfl) rfl ?_
        refine J_icmp (P := ¬ ra zs36 1028 zo0 zr9 = (-1)) (t := 113) (f := 110) rfl rfl rfl jc_ne W (fun W => ?_) (fun W => ?_)
        · refine J_aload_no (pc' := 114) rfl rfl zg3 rfl ?_
          refine J_dup (pc' := 115) rfl rfl rfl ?_
          refine J_getI (G := 1045) (pc' := 118) rfl rfl (Nat.le_of_ble_eq_true rfl) rfl zg3 rfl ?_
          refine J_iconst (pc' := 119) rfl (i32_d rfl) rfl ?_
          refine J_aload_no (pc' := 120) rfl rfl zg3 rfl ?_
          refine J_getA (G := 1028) (pc' := 123) rfl rfl (Nat.le_of_ble_eq_true rfl) rfl zg3 zg37 rfl ?_
          refine J_iload_n (pc' := 124) rfl rfl rfl ?_
          refine J_iald (pc' := 125) rfl rfl zg12 zg38 rfl ?_
          refine J_iconst (pc' := 126) rfl (i32_d rfl) rfl ?_
          obtain ⟨zg39, W⟩ := W
          refine J_idiv (pc' := 127) rfl zg39 (by decide) rfl ?_
          refine J_ishl (pc' := 128) rfl rfl ?_
          refine J_ior (pc' := 129) rfl rfl ?_
          refine J_putI (G := 1045) (pc' := 132) rfl rfl (Nat.le_of_ble_eq_true rfl) rfl rfl zg3 rfl (fun zs40 ezs40 => ?_)
          replace W := W zs40 ezs40
          refine J_aload_no (pc' := 133) rfl rfl zg3 rfl ?_
          obtain ⟨zg41, W⟩ := W
          refine J_getA (G := 1028) (pc' := 136) rfl rfl (Nat.le_of_ble_eq_true rfl) rfl zg3 zg41 rfl ?_
          refine J_iload_n (pc' := 137) rfl rfl rfl ?_
          obtain ⟨zg42, W⟩ := W
          refine J_iald (pc' := 138) rfl rfl zg12 zg42 rfl ?_
          refine J_callI (as := [ji (ra zs40 1028 zo0 zr9)]) (rest := []) (pc' := 141) rfl rfl ax_Z_5 rfl rfl (Or.inl rfl) (Nat.le_of_ble_eq_true rfl) (Nat.le_of_ble_eq_true rfl) (Nat.le_of_ble_eq_true rfl) zg7 trivial trivial rfl W (fun zr44 zs43 W => ?_)
          refine J_istore (L' := [some (jo 1 zo0), none, some (ji (zx2 + (-1))), some (ji zr9), some (ji zr44), none]) (pc' := 143) rfl (Nat.le_of_ble_eq_true rfl) rfl rfl ?_
          refine J_iload (pc' := 145) rfl rfl rfl ?_
          refine J_iconst (pc' := 146) rfl (i32_d rfl) rfl ?_
          obtain ⟨zg45, W⟩ := W
          refine J_isub (pc' := 147) rfl zg45 rfl ?_
          refine J_istore (L' := [some (jo 1 zo0), none, some (ji (zx2 + (-1))), some (ji zr9), some (ji zr44), some (ji (zr44 - 1))]) (pc' := 149) rfl (Nat.le_of_ble_eq_true rfl) rfl rfl ?_
          refine J_weak (L' := [some (jo 1 zo0), none, some (ji (zx2 + (-1))), some (ji zr9), none, some (ji (zr44 - 1))]) (And.intro rfl (And.intro rfl (And.intro rfl (And.intro rfl trivial)))) ?_
          exact W
        · refine J_goto (pc' := 24) rfl rfl ?_
          refine J_weak (L' := [some (jo 1 zo0), none, some (ji (zx2 + (-1))), none, none, none]) (And.intro rfl (And.intro rfl trivial)) ?_
          exact W
    · refine J_bipush (pc' := 53) rfl (by decide) (by decide) rfl ?_
      exact J_iret rfl rfl ⟨_, rfl, W⟩
set_option maxRecDepth 16000 in
theorem wp_Model_layOut_149 {n : Nat} {σ : jS} {Q : Int → jS → Prop} {zo0 : Int} {zx2 : Int} {zx3 : Int} {zx5 : Int} (W : (if zx5 < 0 then J n c_Model_layOut (some .int) 24 [some (jo 1 zo0), none, some (ji zx2), none, none, none] [] σ (qI Q) else 0 ≤ zo0 ∧ 0 ≤ rl σ 1039 zo0 ∧ 0 ≤ rl σ 1031 zo0 ∧ 0 ≤ rl σ 1029 zo0 ∧ 0 ≤ zx3 ∧ zx3 < rl σ 1029 zo0 ∧ i32 ((ra σ 1029 zo0 zx3) + zx5) ∧ 0 ≤ (ra σ 1029 zo0 zx3) + zx5 ∧ (ra σ 1029 zo0 zx3) + zx5 < rl σ 1031 zo0 ∧ 0 ≤ zx2 ∧ zx2 < rl σ 1039 zo0 ∧ (∀ zs10, zs10 = wa σ 1039 zo0 zx2 (ra σ 1031 zo0 ((ra σ 1029 zo0 zx3) + zx5)) → i32 (zx2 + 1) ∧ i32 (zx5 + (-1)) ∧ J n c_Model_layOut (some .int) 149 [some (jo 1 zo0), none, some (ji (zx2 + 1)), some (ji zx3), none, some (ji (zx5 + (-1)))] [] zs10 (qI Q)))) : J n c_Model_layOut (some .int) 149 [some (jo 1 zo0), none, some (ji zx2), some (ji zx3), none, some (ji zx5)] [] σ (qI Q) := by
  refine J_iload (pc' := 151) rfl rfl rfl ?_
  refine J_if (P := zx5 < 0) (t := 183) (f := 154) rfl rfl rfl jc_lt W (fun W => ?_) (fun W => ?_)
  · refine J_goto (pc' := 24) rfl rfl ?_
    refine J_weak (L' := [some (jo 1 zo0), none, some (ji zx2), none, none, none]) (And.intro rfl (And.intro rfl trivial)) ?_
    exact W
  · obtain ⟨zg1, W⟩ := W
    refine J_aload_no (pc' := 155) rfl rfl zg1 rfl ?_
    obtain ⟨zg2, W⟩ := W
    refine J_getA (G := 1039) (pc' := 158) rfl rfl (Nat.le_of_ble_eq_true rfl) rfl zg1 zg2 rfl ?_
    refine J_iload_n (pc' := 159) rfl rfl rfl ?_
    refine J_aload_no (pc' := 160) rfl rfl zg1 rfl ?_
    obtain ⟨zg3, W⟩ := W
    refine J_getA (G := 1031) (pc' := 163) rfl rfl (Nat.le_of_ble_eq_true rfl) rfl zg1 zg3 rfl ?_
    refine J_aload_no (pc' := 164) rfl rfl zg1 rfl ?_
    obtain ⟨zg4, W⟩ := W
    refine J_getA (G := 1029) (pc' := 167) rfl rfl (Nat.le_of_ble_eq_true rfl) rfl zg1 zg4 rfl ?_
    refine J_iload_n (pc' := 168) rfl rfl rfl ?_
    obtain ⟨zg5, W⟩ := W
    obtain ⟨zg6, W⟩ := W
    refine J_iald (pc' := 169) rfl rfl zg5 zg6 rfl ?_
    refine J_iload (pc' := 171) rfl rfl rfl ?_
    obtain ⟨zg7, W⟩ := W
    refine J_iadd (pc' := 172) rfl zg7 rfl ?_
    obtain ⟨zg8, W⟩ := W
    obtain ⟨zg9, W⟩ := W
    refine J_iald (pc' := 173) rfl rfl zg8 zg9 rfl ?_
    obtain ⟨zg11, W⟩ := W
    obtain ⟨zg12, W⟩ := W
    refine J_iast (pc' := 174) rfl rfl (by decide) zg11 zg12 rfl (fun zs10 ezs10 => ?_)
    replace W := W zs10 ezs10
    obtain ⟨zg13, W⟩ := W
    refine J_iinc (L' := [some (jo 1 zo0), none, some (ji (zx2 + 1)), some (ji zx3), none, some (ji zx5)]) (pc' := 177) rfl rfl zg13 rfl rfl ?_
    obtain ⟨zg14, W⟩ := W
    refine J_iinc (L' := [some (jo 1 zo0), none, some (ji (zx2 + 1)), some (ji zx3), none, some (ji (zx5 + (-1)))]) (pc' := 180) rfl rfl zg14 rfl rfl ?_
    refine J_goto (pc' := 149) rfl rfl ?_
    exact W
set_option maxRecDepth 16000 in
theorem wp_Model_init {n : Nat} {σ : jS} {Q : jS → Prop} {zo0 : Int} (W : 0 ≤ zo0 ∧ 1 ≤ n ∧ (∀ zs3, zs3 = nA σ 1 800 → rl zs3 1000 zo0 < 0 ∧ (∀ zs4, zs4 = mA zs3 1 1000 zo0 → (∀ zs6, zs6 = ws zs4 1003 zo0 (-1) → (∀ zs7, zs7 = nA zs6 0 12 → rl zs7 1004 zo0 < 0 ∧ (∀ zs8, zs8 = mA zs7 0 1004 zo0 → (∀ zs10, zs10 = nA zs8 0 12 → rl zs10 1005 zo0 < 0 ∧ (∀ zs11, zs11 = mA zs10 0 1005 zo0 → (∀ zs13, zs13 = nA zs11 0 8 → rl zs13 1008 zo0 < 0 ∧ (∀ zs14, zs14 = mA zs13 0 1008 zo0 → (∀ zs16, zs16 = nA zs14 0 24 → rl zs16 1009 zo0 < 0 ∧ (∀ zs17, zs17 = mA zs16 0 1009 zo0 → (∀ zs19, zs19 = nA zs17 0 24 → rl zs19 1010 zo0 < 0 ∧ (∀ zs20, zs20 = mA zs19 0 1010 zo0 → (∀ zs22, zs22 = nA zs20 0 1440 → rl zs22 1011 zo0 < 0 ∧ (∀ zs23, zs23 = mA zs22 0 1011 zo0 → (∀ zs25, zs25 = nA zs23 0 120 → rl zs25 1012 zo0 < 0 ∧ (∀ zs26, zs26 = mA zs25 0 1012 zo0 → (∀ zs28, zs28 = nA zs26 0 8 → rl zs28 1017 zo0 < 0 ∧ (∀ zs29, zs29 = mA zs28 0 1017 zo0 → (∀ zs31, zs31 = nA zs29 0 24 → rl zs31 1018 zo0 < 0 ∧ (∀ zs32, zs32 = mA zs31 0 1018 zo0 → (∀ zs34, zs34 = nA zs32 0 24 → rl zs34 1019 zo0 < 0 ∧ (∀ zs35, zs35 = mA zs34 0 1019 zo0 → (∀ zs37, zs37 = nA zs35 0 1440 → rl zs37 1020 zo0 < 0 ∧ (∀ zs38, zs38 = mA zs37 0 1020 zo0 → (∀ zs40, zs40 = nA zs38 0 120 → rl zs40 1021 zo0 < 0 ∧ (∀ zs41, zs41 = mA zs40 0 1021 zo0 → (∀ zs43, zs43 = nA zs41 0 6 → rl zs43 1022 zo0 < 0 ∧ (∀ zs44, zs44 = mA zs43 0 1022 zo0 → (∀ zs46, zs46 = nA zs44 2 576 → rl zs46 1026 zo0 < 0 ∧ (∀ zs47, zs47 = mA zs46 2 1026 zo0 → (∀ zs49, zs49 = nA zs47 0 26 → rl zs49 1027 zo0 < 0 ∧ (∀ zs50, zs50 = mA zs49 0 1027 zo0 → (∀ zs52, zs52 = nA zs50 0 40000 → rl zs52 1028 zo0 < 0 ∧ (∀ zs53, zs53 = mA zs52 0 1028 zo0 → (∀ zs55, zs55 = nA zs53 0 40000 → rl zs55 1029 zo0 < 0 ∧ (∀ zs56, zs56 = mA zs55 0 1029 zo0 → (∀ zs58, zs58 = nA zs56 0 40000 → rl zs58 1030 zo0 < 0 ∧ (∀ zs59, zs59 = mA zs58 0 1030 zo0 → (∀ zs61, zs61 = nA zs59 0 40000 → rl zs61 1031 zo0 < 0 ∧ (∀ zs62, zs62 = mA zs61 0 1031 zo0 → (∀ zs64, zs64 = nA zs62 0 20000 → rl zs64 1032 zo0 < 0 ∧ (∀ zs65, zs65 = mA zs64 0 1032 zo0 → (∀ zs67, zs67 = nA zs65 0 26 → rl zs67 1036 zo0 < 0 ∧ (∀ zs68, zs68 = mA zs67 0 1036 zo0 → (∀ zs70, zs70 = nA zs68 0 2000 → rl zs70 1037 zo0 < 0 ∧ (∀ zs71, zs71 = mA zs70 0 1037 zo0 → (∀ zs73, zs73 = nA zs71 0 4000 → rl zs73 1039 zo0 < 0 ∧ (∀ zs74, zs74 = mA zs73 0 1039 zo0 → (∀ zs76, zs76 = nA zs74 0 4000 → rl zs76 1040 zo0 < 0 ∧ (∀ zs77, zs77 = mA zs76 0 1040 zo0 → (∀ zs79, zs79 = nA zs77 0 101 → rl zs79 1041 zo0 < 0 ∧ (∀ zs80, zs80 = mA zs79 0 1041 zo0 → (∀ zs82, zs82 = nA zs80 0 101 → rl zs82 1042 zo0 < 0 ∧ (∀ zs83, zs83 = mA zs82 0 1042 zo0 → (∀ zs85, zs85 = nA zs83 0 48 → rl zs85 1046 zo0 < 0 ∧ (∀ zs86, zs86 = mA zs85 0 1046 zo0 → (∀ zs88, zs88 = nA zs86 0 4 → 0 < rl zs88 900000 0 ∧ (∀ zs89, zs89 = wa zs88 900000 0 0 1 → 1 < rl zs89 900000 0 ∧ (∀ zs91, zs91 = wa zs89 900000 0 1 1 → 2 < rl zs91 900000 0 ∧ (∀ zs93, zs93 = wa zs91 900000 0 2 1 → 3 < rl zs93 900000 0 ∧ (∀ zs95, zs95 = wa zs93 900000 0 3 1 → rl zs95 1047 zo0 < 0 ∧ (∀ zs97, zs97 = mA zs95 0 1047 zo0 → (∀ zs99, zs99 = nA zs97 0 12 → rl zs99 1048 zo0 < 0 ∧ (∀ zs100, zs100 = mA zs99 0 1048 zo0 → (∀ zs102, zs102 = nA zs100 0 8420 → rl zs102 1052 zo0 < 0 ∧ (∀ zs103, zs103 = mA zs102 0 1052 zo0 → (∀ zs105, zs105 = nA zs103 0 8420 → rl zs105 1053 zo0 < 0 ∧ (∀ zs106, zs106 = mA zs105 0 1053 zo0 → (∀ zs108, zs108 = nA zs106 0 8420 → rl zs108 1054 zo0 < 0 ∧ (∀ zs109, zs109 = mA zs108 0 1054 zo0 → (∀ zs111, zs111 = nA zs109 0 8420 → rl zs111 1055 zo0 < 0 ∧ (∀ zs112, zs112 = mA zs111 0 1055 zo0 → (∀ zs114, zs114 = nA zs112 0 8420 → rl zs114 1056 zo0 < 0 ∧ (∀ zs115, zs115 = mA zs114 0 1056 zo0 → (∀ zs117, zs117 = nA zs115 0 8420 → rl zs117 1057 zo0 < 0 ∧ (∀ zs118, zs118 = mA zs117 0 1057 zo0 → (∀ zs120, zs120 = nA zs118 0 33680 → rl zs120 1058 zo0 < 0 ∧ (∀ zs121, zs121 = mA zs120 0 1058 zo0 → (∀ zs123, zs123 = nA zs121 0 8420 → rl zs123 1059 zo0 < 0 ∧ (∀ zs124, zs124 = mA zs123 0 1059 zo0 → (∀ zs126, zs126 = nA zs124 0 8420 → rl zs126 1060 zo0 < 0 ∧ (∀ zs127, zs127 = mA zs126 0 1060 zo0 → (∀ zs129, zs129 = nA zs127 0 8420 → rl zs129 1061 zo0 < 0 ∧ (∀ zs130, zs130 = mA zs129 0 1061 zo0 → (∀ zs132, zs132 = nA zs130 0 820000 → rl zs132 1062 zo0 < 0 ∧ (∀ zs133, zs133 = mA zs132 0 1062 zo0 → (∀ zs135, zs135 = nA zs133 0 40 → rl zs135 1066 zo0 < 0 ∧ (∀ zs136, zs136 = mA zs135 0 1066 zo0 → (∀ zs138, zs138 = nA zs136 0 40 → rl zs138 1067 zo0 < 0 ∧ (∀ zs139, zs139 = mA zs138 0 1067 zo0 → (∀ zs141, zs141 = nA zs139 0 4000 → rl zs141 1068 zo0 < 0 ∧ (∀ zs142, zs142 = mA zs141 0 1068 zo0 → (∀ zs144, zs144 = nA zs142 0 40 → rl zs144 1069 zo0 < 0 ∧ (∀ zs145, zs145 = mA zs144 0 1069 zo0 → (∀ zs147, zs147 = nA zs145 0 21 → rl zs147 1071 zo0 < 0 ∧ (∀ zs148, zs148 = mA zs147 0 1071 zo0 → (∀ zs150, zs150 = nA zs148 2 21 → rl zs150 1072 zo0 < 0 ∧ (∀ zs151, zs151 = mA zs150 2 1072 zo0 → (∀ zs153, zs153 = nA zs151 0 21 → rl zs153 1073 zo0 < 0 ∧ (∀ zs154, zs154 = mA zs153 0 1073 zo0 → (∀ zs156, zs156 = nA zs154 0 21 → rl zs156 1074 zo0 < 0 ∧ (∀ zs157, zs157 = mA zs156 0 1074 zo0 → (∀ zs159, zs159 = nA zs157 0 21 → rl zs159 1075 zo0 < 0 ∧ (∀ zs160, zs160 = mA zs159 0 1075 zo0 → (∀ zs162, zs162 = nA zs160 0 21 → rl zs162 1076 zo0 < 0 ∧ (∀ zs163, zs163 = mA zs162 0 1076 zo0 → (∀ zs165, zs165 = nA zs163 0 21 → rl zs165 1077 zo0 < 0 ∧ (∀ zs166, zs166 = mA zs165 0 1077 zo0 → (∀ zs168, zs168 = nA zs166 0 21 → rl zs168 1078 zo0 < 0 ∧ (∀ zs169, zs169 = mA zs168 0 1078 zo0 → (∀ zs171, zs171 = nA zs169 0 21 → rl zs171 1079 zo0 < 0 ∧ (∀ zs172, zs172 = mA zs171 0 1079 zo0 → (∀ zs174, zs174 = nA zs172 0 21 → rl zs174 1080 zo0 < 0 ∧ (∀ zs175, zs175 = mA zs174 0 1080 zo0 → (∀ zs177, zs177 = nA zs175 0 21 → rl zs177 1081 zo0 < 0 ∧ (∀ zs178, zs178 = mA zs177 0 1081 zo0 → (∀ zs180, zs180 = nA zs178 0 21 → rl zs180 1082 zo0 < 0 ∧ (∀ zs181, zs181 = mA zs180 0 1082 zo0 → (∀ zs183, zs183 = nA zs181 0 84 → rl zs183 1083 zo0 < 0 ∧ (∀ zs184, zs184 = mA zs183 0 1083 zo0 → (∀ zs186, zs186 = nA zs184 0 21 → rl zs186 1084 zo0 < 0 ∧ (∀ zs187, zs187 = mA zs186 0 1084 zo0 → (∀ zs189, zs189 = nA zs187 0 21 → rl zs189 1085 zo0 < 0 ∧ (∀ zs190, zs190 = mA zs189 0 1085 zo0 → (∀ zs192, zs192 = nA zs190 0 21 → rl zs192 1086 zo0 < 0 ∧ (∀ zs193, zs193 = mA zs192 0 1086 zo0 → (∀ zs195, zs195 = nA zs193 0 21 → rl zs195 1087 zo0 < 0 ∧ (∀ zs196, zs196 = mA zs195 0 1087 zo0 → (∀ zs198, zs198 = nA zs196 0 84 → rl zs198 1088 zo0 < 0 ∧ (∀ zs199, zs199 = mA zs198 0 1088 zo0 → (∀ zs201, zs201 = nA zs199 0 21 → rl zs201 1089 zo0 < 0 ∧ (∀ zs202, zs202 = mA zs201 0 1089 zo0 → (∀ zs204, zs204 = nA zs202 0 21 → rl zs204 1090 zo0 < 0 ∧ (∀ zs205, zs205 = mA zs204 0 1090 zo0 → (∀ zs207, zs207 = nA zs205 0 21 → rl zs207 1091 zo0 < 0 ∧ (∀ zs208, zs208 = mA zs207 0 1091 zo0 → (∀ zs210, zs210 = nA zs208 0 84 → rl zs210 1092 zo0 < 0 ∧ (∀ zs211, zs211 = mA zs210 0 1092 zo0 → (∀ zs213, zs213 = nA zs211 0 21 → rl zs213 1093 zo0 < 0 ∧ (∀ zs214, zs214 = mA zs213 0 1093 zo0 → (∀ zs216, zs216 = nA zs214 0 21 → rl zs216 1094 zo0 < 0 ∧ (∀ zs217, zs217 = mA zs216 0 1094 zo0 → (∀ zs219, zs219 = nA zs217 0 20000 → rl zs219 1095 zo0 < 0 ∧ (∀ zs220, zs220 = mA zs219 0 1095 zo0 → (∀ zs222, zs222 = nA zs220 0 20000 → rl zs222 1096 zo0 < 0 ∧ (∀ zs223, zs223 = mA zs222 0 1096 zo0 → (∀ zs225, zs225 = nA zs223 0 220 → rl zs225 1109 zo0 < 0 ∧ (∀ zs226, zs226 = mA zs225 0 1109 zo0 → (∀ zs228, zs228 = nA zs226 0 900 → rl zs228 1110 zo0 < 0 ∧ (∀ zs229, zs229 = mA zs228 0 1110 zo0 → (∀ zs231, zs231 = nA zs229 0 9 → rl zs231 1112 zo0 < 0 ∧ (∀ zs232, zs232 = mA zs231 0 1112 zo0 → (∀ zs234, zs234 = nA zs232 0 200 → rl zs234 1113 zo0 < 0 ∧ (∀ zs235, zs235 = mA zs234 0 1113 zo0 → (∀ zs237, zs237 = nA zs235 0 200 → rl zs237 1114 zo0 < 0 ∧ (∀ zs238, zs238 = mA zs237 0 1114 zo0 → (∀ zs240, zs240 = nA zs238 0 200 → rl zs240 1115 zo0 < 0 ∧ (∀ zs241, zs241 = mA zs240 0 1115 zo0 → (∀ zs243, zs243 = nA zs241 0 200 → rl zs243 1116 zo0 < 0 ∧ (∀ zs244, zs244 = mA zs243 0 1116 zo0 → (∀ zs246, zs246 = nA zs244 0 200 → rl zs246 1117 zo0 < 0 ∧ (∀ zs247, zs247 = mA zs246 0 1117 zo0 → (∀ zs249, zs249 = nA zs247 0 200 → rl zs249 1118 zo0 < 0 ∧ (∀ zs250, zs250 = mA zs249 0 1118 zo0 → (∀ zs252, zs252 = nA zs250 0 200 → rl zs252 1119 zo0 < 0 ∧ (∀ zs253, zs253 = mA zs252 0 1119 zo0 → (∀ zs255, zs255 = nA zs253 0 200 → rl zs255 1120 zo0 < 0 ∧ (∀ zs256, zs256 = mA zs255 0 1120 zo0 → (∀ zs258, zs258 = nA zs256 0 200 → rl zs258 1121 zo0 < 0 ∧ (∀ zs259, zs259 = mA zs258 0 1121 zo0 → (∀ zs261, zs261 = nA zs259 0 200 → rl zs261 1122 zo0 < 0 ∧ (∀ zs262, zs262 = mA zs261 0 1122 zo0 → (∀ zs264, zs264 = nA zs262 0 20000 → rl zs264 1123 zo0 < 0 ∧ (∀ zs265, zs265 = mA zs264 0 1123 zo0 → (∀ zs267, zs267 = nA zs265 0 200 → rl zs267 1124 zo0 < 0 ∧ (∀ zs268, zs268 = mA zs267 0 1124 zo0 → (∀ zs270, zs270 = nA zs268 0 100 → rl zs270 1125 zo0 < 0 ∧ (∀ zs271, zs271 = mA zs270 0 1125 zo0 → (∀ zs273, zs273 = nA zs271 0 900 → rl zs273 1130 zo0 < 0 ∧ (∀ zs274, zs274 = mA zs273 0 1130 zo0 → (∀ zs276, zs276 = nA zs274 0 900 → rl zs276 1131 zo0 < 0 ∧ (∀ zs277, zs277 = mA zs276 0 1131 zo0 → (∀ zs279, zs279 = nA zs277 1 2000 → rl zs279 1132 zo0 < 0 ∧ (∀ zs280, zs280 = mA zs279 1 1132 zo0 → (∀ zs282, zs282 = nA zs280 0 220 → rl zs282 1134 zo0 < 0 ∧ (∀ zs283, zs283 = mA zs282 0 1134 zo0 → (∀ zs285, zs285 = nA zs283 0 4 → rl zs285 1135 zo0 < 0 ∧ (∀ zs286, zs286 = mA zs285 0 1135 zo0 → (∀ zs288, zs288 = nA zs286 0 4 → rl zs288 1136 zo0 < 0 ∧ (∀ zs289, zs289 = mA zs288 0 1136 zo0 → (∀ zs291, zs291 = nA zs289 0 4 → rl zs291 1137 zo0 < 0 ∧ (∀ zs292, zs292 = mA zs291 0 1137 zo0 → (∀ zs294, zs294 = nA zs292 0 16 → rl zs294 1138 zo0 < 0 ∧ (∀ zs295, zs295 = mA zs294 0 1138 zo0 → (∀ zs297, zs297 = nA zs295 0 4 → rl zs297 1139 zo0 < 0 ∧ (∀ zs298, zs298 = mA zs297 0 1139 zo0 → (∀ zs300, zs300 = nA zs298 0 4 → rl zs300 1140 zo0 < 0 ∧ (∀ zs301, zs301 = mA zs300 0 1140 zo0 → (∀ zs303, zs303 = nA zs301 0 4 → rl zs303 1141 zo0 < 0 ∧ (∀ zs304, zs304 = mA zs303 0 1141 zo0 → (∀ zs306, zs306 = nA zs304 3 4 → rl zs306 1142 zo0 < 0 ∧ (∀ zs307, zs307 = mA zs306 3 1142 zo0 → (∀ zs309, zs309 = nA zs307 3 4 → rl zs309 1143 zo0 < 0 ∧ (∀ zs310, zs310 = mA zs309 3 1143 zo0 → J n c_Model_init none 862 [some (jo 1 zo0), some (ji 0)] [] zs310 (qV Q))))))))))))))))))))))))))))))))))))))))))))))))))))))))))))))))))))))))))))))))))))))))))))))))))))))))))))))))))))))))))))))))))))))))))))))))))))))))))))))))))))))))))))))))))))))))))))))))))))))))))))))) : TrV n i_Model_init [jo 1 zo0] σ Q := by
  refine Tr_of ax_Z_51 ?_
  show J n c_Model_init none 0 [some (jo 1 zo0), none] [] σ (qV Q)
  obtain ⟨zg1, W⟩ := W
  refine J_aload_no (pc' := 1) rfl rfl zg1 rfl ?_
  obtain ⟨zg2, W⟩ := W
  refine J_oinit (pc' := 4) rfl zg1 zg2 (Nat.le_of_ble_eq_true rfl) rfl ?_
  refine J_aload_no (pc' := 5) rfl rfl zg1 rfl ?_
  refine J_sipush (pc' := 8) rfl (by decide) (by decide) rfl ?_
  refine J_newa (pc' := 10) rfl (by decide) (by decide) (by decide) trivial trivial rfl (fun zs3 ezs3 => ?_)
  replace W := W zs3 ezs3
  obtain ⟨zg5, W⟩ := W
  refine J_putT (G := 1000) (t := 1) (pc' := 13) rfl rfl (Nat.le_of_ble_eq_true rfl) rfl rfl rfl zg1 (Or.inr zg5) trivial trivial trivial trivial rfl (fun zs4 ezs4 => ?_)
  replace W := W zs4 ezs4
  refine J_aload_no (pc' := 14) rfl rfl zg1 rfl ?_
  refine J_iconst (pc' := 15) rfl (i32_d rfl) rfl ?_
  refine J_putI (G := 1003) (pc' := 18) rfl rfl (Nat.le_of_ble_eq_true rfl) rfl rfl zg1 rfl (fun zs6 ezs6 => ?_)
  replace W := W zs6 ezs6
  refine J_aload_no (pc' := 19) rfl rfl zg1 rfl ?_
  refine J_bipush (pc' := 21) rfl (by decide) (by decide) rfl ?_
  refine J_newa (pc' := 23) rfl (by decide) (by decide) (by decide) trivial trivial rfl (fun zs7 ezs7 => ?_)
  replace W := W zs7 ezs7
  obtain ⟨zg9, W⟩ := W
  refine J_putT (G := 1004) (t := 0) (pc' := 26) rfl rfl (Nat.le_of_ble_eq_true rfl) rfl rfl rfl zg1 (Or.inr zg9) trivial trivial trivial trivial rfl (fun zs8 ezs8 => ?_)
  replace W := W zs8 ezs8
  refine J_aload_no (pc' := 27) rfl rfl zg1 rfl ?_
  refine J_bipush (pc' := 29) rfl (by decide) (by decide) rfl ?_
  refine J_newa (pc' := 31) rfl (by decide) (by decide) (by decide) trivial trivial rfl (fun zs10 ezs10 => ?_)
  replace W := W zs10 ezs10
  obtain ⟨zg12, W⟩ := W
  refine J_putT (G := 1005) (t := 0) (pc' := 34) rfl rfl (Nat.le_of_ble_eq_true rfl) rfl rfl rfl zg1 (Or.inr zg12) trivial trivial trivial trivial rfl (fun zs11 ezs11 => ?_)
  replace W := W zs11 ezs11
  refine J_aload_no (pc' := 35) rfl rfl zg1 rfl ?_
  refine J_bipush (pc' := 37) rfl (by decide) (by decide) rfl ?_
  refine J_newa (pc' := 39) rfl (by decide) (by decide) (by decide) trivial trivial rfl (fun zs13 ezs13 => ?_)
  replace W := W zs13 ezs13
  obtain ⟨zg15, W⟩ := W
  refine J_putT (G := 1008) (t := 0) (pc' := 42) rfl rfl (Nat.le_of_ble_eq_true rfl) rfl rfl rfl zg1 (Or.inr zg15) trivial trivial trivial trivial rfl (fun zs14 ezs14 => ?_)
  replace W := W zs14 ezs14
  refine J_aload_no (pc' := 43) rfl rfl zg1 rfl ?_
  refine J_bipush (pc' := 45) rfl (by decide) (by decide) rfl ?_
  refine J_newa (pc' := 47) rfl (by decide) (by decide) (by decide) trivial trivial rfl (fun zs16 ezs16 => ?_)
  replace W := W zs16 ezs16
  obtain ⟨zg18, W⟩ := W
  refine J_putT (G := 1009) (t := 0) (pc' := 50) rfl rfl (Nat.le_of_ble_eq_true rfl) rfl rfl rfl zg1 (Or.inr zg18) trivial trivial trivial trivial rfl (fun zs17 ezs17 => ?_)
  replace W := W zs17 ezs17
  refine J_aload_no (pc' := 51) rfl rfl zg1 rfl ?_
  refine J_bipush (pc' := 53) rfl (by decide) (by decide) rfl ?_
  refine J_newa (pc' := 55) rfl (by decide) (by decide) (by decide) trivial trivial rfl (fun zs19 ezs19 => ?_)
  replace W := W zs19 ezs19
  obtain ⟨zg21, W⟩ := W
  refine J_putT (G := 1010) (t := 0) (pc' := 58) rfl rfl (Nat.le_of_ble_eq_true rfl) rfl rfl rfl zg1 (Or.inr zg21) trivial trivial trivial trivial rfl (fun zs20 ezs20 => ?_)
  replace W := W zs20 ezs20
  refine J_aload_no (pc' := 59) rfl rfl zg1 rfl ?_
  refine J_sipush (pc' := 62) rfl (by decide) (by decide) rfl ?_
  refine J_newa (pc' := 64) rfl (by decide) (by decide) (by decide) trivial trivial rfl (fun zs22 ezs22 => ?_)
  replace W := W zs22 ezs22
  obtain ⟨zg24, W⟩ := W
  refine J_putT (G := 1011) (t := 0) (pc' := 67) rfl rfl (Nat.le_of_ble_eq_true rfl) rfl rfl rfl zg1 (Or.inr zg24) trivial trivial trivial trivial rfl (fun zs23 ezs23 => ?_)
  replace W := W zs23 ezs23
  refine J_aload_no (pc' := 68) rfl rfl zg1 rfl ?_
  refine J_bipush (pc' := 70) rfl (by decide) (by decide) rfl ?_
  refine J_newa (pc' := 72) rfl (by decide) (by decide) (by decide) trivial trivial rfl (fun zs25 ezs25 => ?_)
  replace W := W zs25 ezs25
  obtain ⟨zg27, W⟩ := W
  refine J_putT (G := 1012) (t := 0) (pc' := 75) rfl rfl (Nat.le_of_ble_eq_true rfl) rfl rfl rfl zg1 (Or.inr zg27) trivial trivial trivial trivial rfl (fun zs26 ezs26 => ?_)
  replace W := W zs26 ezs26
  refine J_aload_no (pc' := 76) rfl rfl zg1 rfl ?_
  refine J_bipush (pc' := 78) rfl (by decide) (by decide) rfl ?_
  refine J_newa (pc' := 80) rfl (by decide) (by decide) (by decide) trivial trivial rfl (fun zs28 ezs28 => ?_)
  replace W := W zs28 ezs28
  obtain ⟨zg30, W⟩ := W
  refine J_putT (G := 1017) (t := 0) (pc' := 83) rfl rfl (Nat.le_of_ble_eq_true rfl) rfl rfl rfl zg1 (Or.inr zg30) trivial trivial trivial trivial rfl (fun zs29 ezs29 => ?_)
  replace W := W zs29 ezs29
  refine J_aload_no (pc' := 84) rfl rfl zg1 rfl ?_
  refine J_bipush (pc' := 86) rfl (by decide) (by decide) rfl ?_
  refine J_newa (pc' := 88) rfl (by decide) (by decide) (by decide) trivial trivial rfl (fun zs31 ezs31 => ?_)
  replace W := W zs31 ezs31
  obtain ⟨zg33, W⟩ := W
  refine J_putT (G := 1018) (t := 0) (pc' := 91) rfl rfl (Nat.le_of_ble_eq_true rfl) rfl rfl rfl zg1 (Or.inr zg33) trivial trivial trivial trivial rfl (fun zs32 ezs32 => ?_)
  replace W := W zs32 ezs32
  refine J_aload_no (pc' := 92) rfl rfl zg1 rfl ?_
  refine J_bipush (pc' := 94) rfl (by decide) (by decide) rfl ?_
  refine J_newa (pc' := 96) rfl (by decide) (by decide) (by decide) trivial trivial rfl (fun zs34 ezs34 => ?_)
  replace W := W zs34 ezs34
  obtain ⟨zg36, W⟩ := W
  refine J_putT (G := 1019) (t := 0) (pc' := 99) rfl rfl (Nat.le_of_ble_eq_true rfl) rfl rfl rfl zg1 (Or.inr zg36) trivial trivial trivial trivial rfl (fun zs35 ezs35 => ?_)
  replace W := W zs35 ezs35
  refine J_aload_no (pc' := 100) rfl rfl zg1 rfl ?_
  refine J_sipush (pc' := 103) rfl (by decide) (by decide) rfl ?_
  refine J_newa (pc' := 105) rfl (by decide) (by decide) (by decide) trivial trivial rfl (fun zs37 ezs37 => ?_)
  replace W := W zs37 ezs37
  obtain ⟨zg39, W⟩ := W
  refine J_putT (G := 1020) (t := 0) (pc' := 108) rfl rfl (Nat.le_of_ble_eq_true rfl) rfl rfl rfl zg1 (Or.inr zg39) trivial trivial trivial trivial rfl (fun zs38 ezs38 => ?_)
  replace W := W zs38 ezs38
  refine J_aload_no (pc' := 109) rfl rfl zg1 rfl ?_
  refine J_bipush (pc' := 111) rfl (by decide) (by decide) rfl ?_
  refine J_newa (pc' := 113) rfl (by decide) (by decide) (by decide) trivial trivial rfl (fun zs40 ezs40 => ?_)
  replace W := W zs40 ezs40
  obtain ⟨zg42, W⟩ := W
  refine J_putT (G := 1021) (t := 0) (pc' := 116) rfl rfl (Nat.le_of_ble_eq_true rfl) rfl rfl rfl zg1 (Or.inr zg42) trivial trivial trivial trivial rfl (fun zs41 ezs41 => ?_)
  replace W := W zs41 ezs41
  refine J_aload_no (pc' := 117) rfl rfl zg1 rfl ?_
  refine J_bipush (pc' := 119) rfl (by decide) (by decide) rfl ?_
  refine J_newa (pc' := 121) rfl (by decide) (by decide) (by decide) trivial trivial rfl (fun zs43 ezs43 => ?_)
  replace W := W zs43 ezs43
  obtain ⟨zg45, W⟩ := W
  refine J_putT (G := 1022) (t := 0) (pc' := 124) rfl rfl (Nat.le_of_ble_eq_true rfl) rfl rfl rfl zg1 (Or.inr zg45) trivial trivial trivial trivial rfl (fun zs44 ezs44 => ?_)
  replace W := W zs44 ezs44
  refine J_aload_no (pc' := 125) rfl rfl zg1 rfl ?_
  refine J_sipush (pc' := 128) rfl (by decide) (by decide) rfl ?_
  refine J_newa (pc' := 130) rfl (by decide) (by decide) (by decide) trivial trivial rfl (fun zs46 ezs46 => ?_)
  replace W := W zs46 ezs46
  obtain ⟨zg48, W⟩ := W
  refine J_putT (G := 1026) (t := 2) (pc' := 133) rfl rfl (Nat.le_of_ble_eq_true rfl) rfl rfl rfl zg1 (Or.inr zg48) trivial trivial trivial trivial rfl (fun zs47 ezs47 => ?_)
  replace W := W zs47 ezs47
  refine J_aload_no (pc' := 134) rfl rfl zg1 rfl ?_
  refine J_bipush (pc' := 136) rfl (by decide) (by decide) rfl ?_
  refine J_newa (pc' := 138) rfl (by decide) (by decide) (by decide) trivial trivial rfl (fun zs49 ezs49 => ?_)
  replace W := W zs49 ezs49
  obtain ⟨zg51, W⟩ := W
  refine J_putT (G := 1027) (t := 0) (pc' := 141) rfl rfl (Nat.le_of_ble_eq_true rfl) rfl rfl rfl zg1 (Or.inr zg51) trivial trivial trivial trivial rfl (fun zs50 ezs50 => ?_)
  replace W := W zs50 ezs50
  refine J_aload_no (pc' := 142) rfl rfl zg1 rfl ?_
  refine J_ldc (pc' := 145) (Or.inr rfl) rfl (i32_d rfl) rfl ?_
  refine J_newa (pc' := 147) rfl (by decide) (by decide) (by decide) trivial trivial rfl (fun zs52 ezs52 => ?_)
  replace W := W zs52 ezs52
  obtain ⟨zg54, W⟩ := W
  refine J_putT (G := 1028) (t := 0) (pc' := 150) rfl rfl (Nat.le_of_ble_eq_true rfl) rfl rfl rfl zg1 (Or.inr zg54) trivial trivial trivial trivial rfl (fun zs53 ezs53 => ?_)
  replace W := W zs53 ezs53
  refine J_aload_no (pc' := 151) rfl rfl zg1 rfl ?_
  refine J_ldc (pc' := 154) (Or.inr rfl) rfl (i32_d rfl) rfl ?_
  refine J_newa (pc' := 156) rfl (by decide) (by decide) (by decide) trivial trivial rfl (fun zs55 ezs55 => ?_)
  replace W := W zs55 ezs55
  obtain ⟨zg57, W⟩ := W
  refine J_putT (G := 1029) (t := 0) (pc' := 159) rfl rfl (Nat.le_of_ble_eq_true rfl) rfl rfl rfl zg1 (Or.inr zg57) trivial trivial trivial trivial rfl (fun zs56 ezs56 => ?_)
  replace W := W zs56 ezs56
  refine J_aload_no (pc' := 160) rfl rfl zg1 rfl ?_
  refine J_ldc (pc' := 163) (Or.inr rfl) rfl (i32_d rfl) rfl ?_
  refine J_newa (pc' := 165) rfl (by decide) (by decide) (by decide) trivial trivial rfl (fun zs58 ezs58 => ?_)
  replace W := W zs58 ezs58
  obtain ⟨zg60, W⟩ := W
  refine J_putT (G := 1030) (t := 0) (pc' := 168) rfl rfl (Nat.le_of_ble_eq_true rfl) rfl rfl rfl zg1 (Or.inr zg60) trivial trivial trivial trivial rfl (fun zs59 ezs59 => ?_)
  replace W := W zs59 ezs59
  refine J_aload_no (pc' := 169) rfl rfl zg1 rfl ?_
  refine J_ldc (pc' := 172) (Or.inr rfl) rfl (i32_d rfl) rfl ?_
  refine J_newa (pc' := 174) rfl (by decide) (by decide) (by decide) trivial trivial rfl (fun zs61 ezs61 => ?_)
  replace W := W zs61 ezs61
  obtain ⟨zg63, W⟩ := W
  refine J_putT (G := 1031) (t := 0) (pc' := 177) rfl rfl (Nat.le_of_ble_eq_true rfl) rfl rfl rfl zg1 (Or.inr zg63) trivial trivial trivial trivial rfl (fun zs62 ezs62 => ?_)
  replace W := W zs62 ezs62
  refine J_aload_no (pc' := 178) rfl rfl zg1 rfl ?_
  refine J_sipush (pc' := 181) rfl (by decide) (by decide) rfl ?_
  refine J_newa (pc' := 183) rfl (by decide) (by decide) (by decide) trivial trivial rfl (fun zs64 ezs64 => ?_)
  replace W := W zs64 ezs64
  obtain ⟨zg66, W⟩ := W
  refine J_putT (G := 1032) (t := 0) (pc' := 186) rfl rfl (Nat.le_of_ble_eq_true rfl) rfl rfl rfl zg1 (Or.inr zg66) trivial trivial trivial trivial rfl (fun zs65 ezs65 => ?_)
  replace W := W zs65 ezs65
  refine J_aload_no (pc' := 187) rfl rfl zg1 rfl ?_
  refine J_bipush (pc' := 189) rfl (by decide) (by decide) rfl ?_
  refine J_newa (pc' := 191) rfl (by decide) (by decide) (by decide) trivial trivial rfl (fun zs67 ezs67 => ?_)
  replace W := W zs67 ezs67
  obtain ⟨zg69, W⟩ := W
  refine J_putT (G := 1036) (t := 0) (pc' := 194) rfl rfl (Nat.le_of_ble_eq_true rfl) rfl rfl rfl zg1 (Or.inr zg69) trivial trivial trivial trivial rfl (fun zs68 ezs68 => ?_)
  replace W := W zs68 ezs68
  refine J_aload_no (pc' := 195) rfl rfl zg1 rfl ?_
  refine J_sipush (pc' := 198) rfl (by decide) (by decide) rfl ?_
  refine J_newa (pc' := 200) rfl (by decide) (by decide) (by decide) trivial trivial rfl (fun zs70 ezs70 => ?_)
  replace W := W zs70 ezs70
  obtain ⟨zg72, W⟩ := W
  refine J_putT (G := 1037) (t := 0) (pc' := 203) rfl rfl (Nat.le_of_ble_eq_true rfl) rfl rfl rfl zg1 (Or.inr zg72) trivial trivial trivial trivial rfl (fun zs71 ezs71 => ?_)
  replace W := W zs71 ezs71
  refine J_aload_no (pc' := 204) rfl rfl zg1 rfl ?_
  refine J_sipush (pc' := 207) rfl (by decide) (by decide) rfl ?_
  refine J_newa (pc' := 209) rfl (by decide) (by decide) (by decide) trivial trivial rfl (fun zs73 ezs73 => ?_)
  replace W := W zs73 ezs73
  obtain ⟨zg75, W⟩ := W
  refine J_putT (G := 1039) (t := 0) (pc' := 212) rfl rfl (Nat.le_of_ble_eq_true rfl) rfl rfl rfl zg1 (Or.inr zg75) trivial trivial trivial trivial rfl (fun zs74 ezs74 => ?_)
  replace W := W zs74 ezs74
  refine J_aload_no (pc' := 213) rfl rfl zg1 rfl ?_
  refine J_sipush (pc' := 216) rfl (by decide) (by decide) rfl ?_
  refine J_newa (pc' := 218) rfl (by decide) (by decide) (by decide) trivial trivial rfl (fun zs76 ezs76 => ?_)
  replace W := W zs76 ezs76
  obtain ⟨zg78, W⟩ := W
  refine J_putT (G := 1040) (t := 0) (pc' := 221) rfl rfl (Nat.le_of_ble_eq_true rfl) rfl rfl rfl zg1 (Or.inr zg78) trivial trivial trivial trivial rfl (fun zs77 ezs77 => ?_)
  replace W := W zs77 ezs77
  refine J_aload_no (pc' := 222) rfl rfl zg1 rfl ?_
  refine J_bipush (pc' := 224) rfl (by decide) (by decide) rfl ?_
  refine J_newa (pc' := 226) rfl (by decide) (by decide) (by decide) trivial trivial rfl (fun zs79 ezs79 => ?_)
  replace W := W zs79 ezs79
  obtain ⟨zg81, W⟩ := W
  refine J_putT (G := 1041) (t := 0) (pc' := 229) rfl rfl (Nat.le_of_ble_eq_true rfl) rfl rfl rfl zg1 (Or.inr zg81) trivial trivial trivial trivial rfl (fun zs80 ezs80 => ?_)
  replace W := W zs80 ezs80
  refine J_aload_no (pc' := 230) rfl rfl zg1 rfl ?_
  refine J_bipush (pc' := 232) rfl (by decide) (by decide) rfl ?_
  refine J_newa (pc' := 234) rfl (by decide) (by decide) (by decide) trivial trivial rfl (fun zs82 ezs82 => ?_)
  replace W := W zs82 ezs82
  obtain ⟨zg84, W⟩ := W
  refine J_putT (G := 1042) (t := 0) (pc' := 237) rfl rfl (Nat.le_of_ble_eq_true rfl) rfl rfl rfl zg1 (Or.inr zg84) trivial trivial trivial trivial rfl (fun zs83 ezs83 => ?_)
  replace W := W zs83 ezs83
  refine J_aload_no (pc' := 238) rfl rfl zg1 rfl ?_
  refine J_bipush (pc' := 240) rfl (by decide) (by decide) rfl ?_
  refine J_newa (pc' := 242) rfl (by decide) (by decide) (by decide) trivial trivial rfl (fun zs85 ezs85 => ?_)
  replace W := W zs85 ezs85
  obtain ⟨zg87, W⟩ := W
  refine J_putT (G := 1046) (t := 0) (pc' := 245) rfl rfl (Nat.le_of_ble_eq_true rfl) rfl rfl rfl zg1 (Or.inr zg87) trivial trivial trivial trivial rfl (fun zs86 ezs86 => ?_)
  replace W := W zs86 ezs86
  refine J_aload_no (pc' := 246) rfl rfl zg1 rfl ?_
  refine J_iconst (pc' := 247) rfl (i32_d rfl) rfl ?_
  refine J_newa (pc' := 249) rfl (by decide) (by decide) (by decide) trivial trivial rfl (fun zs88 ezs88 => ?_)
  replace W := W zs88 ezs88
  refine J_dup (pc' := 250) rfl rfl rfl ?_
  refine J_iconst (pc' := 251) rfl (i32_d rfl) rfl ?_
  refine J_iconst (pc' := 252) rfl (i32_d rfl) rfl ?_
  obtain ⟨zg90, W⟩ := W
  refine J_iast (pc' := 253) rfl rfl (by decide) (by decide) zg90 rfl (fun zs89 ezs89 => ?_)
  replace W := W zs89 ezs89
  refine J_dup (pc' := 254) rfl rfl rfl ?_
  refine J_iconst (pc' := 255) rfl (i32_d rfl) rfl ?_
  refine J_iconst (pc' := 256) rfl (i32_d rfl) rfl ?_
  obtain ⟨zg92, W⟩ := W
  refine J_iast (pc' := 257) rfl rfl (by decide) (by decide) zg92 rfl (fun zs91 ezs91 => ?_)
  replace W := W zs91 ezs91
  refine J_dup (pc' := 258) rfl rfl rfl ?_
  refine J_iconst (pc' := 259) rfl (i32_d rfl) rfl ?_
  refine J_iconst (pc' := 260) rfl (i32_d rfl) rfl ?_
  obtain ⟨zg94, W⟩ := W
  refine J_iast (pc' := 261) rfl rfl (by decide) (by decide) zg94 rfl (fun zs93 ezs93 => ?_)
  replace W := W zs93 ezs93
  refine J_dup (pc' := 262) rfl rfl rfl ?_
  refine J_iconst (pc' := 263) rfl (i32_d rfl) rfl ?_
  refine J_iconst (pc' := 264) rfl (i32_d rfl) rfl ?_
  obtain ⟨zg96, W⟩ := W
  refine J_iast (pc' := 265) rfl rfl (by decide) (by decide) zg96 rfl (fun zs95 ezs95 => ?_)
  replace W := W zs95 ezs95
  obtain ⟨zg98, W⟩ := W
  refine J_putT (G := 1047) (t := 0) (pc' := 268) rfl rfl (Nat.le_of_ble_eq_true rfl) rfl rfl rfl zg1 (Or.inr zg98) trivial trivial trivial trivial rfl (fun zs97 ezs97 => ?_)
  replace W := W zs97 ezs97
  refine J_aload_no (pc' := 269) rfl rfl zg1 rfl ?_
  refine J_bipush (pc' := 271) rfl (by decide) (by decide) rfl ?_
  refine J_newa (pc' := 273) rfl (by decide) (by decide) (by decide) trivial trivial rfl (fun zs99 ezs99 => ?_)
  replace W := W zs99 ezs99
  obtain ⟨zg101, W⟩ := W
  refine J_putT (G := 1048) (t := 0) (pc' := 276) rfl rfl (Nat.le_of_ble_eq_true rfl) rfl rfl rfl zg1 (Or.inr zg101) trivial trivial trivial trivial rfl (fun zs100 ezs100 => ?_)
  replace W := W zs100 ezs100
  refine J_aload_no (pc' := 277) rfl rfl zg1 rfl ?_
  refine J_sipush (pc' := 280) rfl (by decide) (by decide) rfl ?_
  refine J_newa (pc' := 282) rfl (by decide) (by decide) (by decide) trivial trivial rfl (fun zs102 ezs102 => ?_)
  replace W := W zs102 ezs102
  obtain ⟨zg104, W⟩ := W
  refine J_putT (G := 1052) (t := 0) (pc' := 285) rfl rfl (Nat.le_of_ble_eq_true rfl) rfl rfl rfl zg1 (Or.inr zg104) trivial trivial trivial trivial rfl (fun zs103 ezs103 => ?_)
  replace W := W zs103 ezs103
  refine J_aload_no (pc' := 286) rfl rfl zg1 rfl ?_
  refine J_sipush (pc' := 289) rfl (by decide) (by decide) rfl ?_
  refine J_newa (pc' := 291) rfl (by decide) (by decide) (by decide) trivial trivial rfl (fun zs105 ezs105 => ?_)
  replace W := W zs105 ezs105
  obtain ⟨zg107, W⟩ := W
  refine J_putT (G := 1053) (t := 0) (pc' := 294) rfl rfl (Nat.le_of_ble_eq_true rfl) rfl rfl rfl zg1 (Or.inr zg107) trivial trivial trivial trivial rfl (fun zs106 ezs106 => ?_)
  replace W := W zs106 ezs106
  refine J_aload_no (pc' := 295) rfl rfl zg1 rfl ?_
  refine J_sipush (pc' := 298) rfl (by decide) (by decide) rfl ?_
  refine J_newa (pc' := 300) rfl (by decide) (by decide) (by decide) trivial trivial rfl (fun zs108 ezs108 => ?_)
  replace W := W zs108 ezs108
  obtain ⟨zg110, W⟩ := W
  refine J_putT (G := 1054) (t := 0) (pc' := 303) rfl rfl (Nat.le_of_ble_eq_true rfl) rfl rfl rfl zg1 (Or.inr zg110) trivial trivial trivial trivial rfl (fun zs109 ezs109 => ?_)
  replace W := W zs109 ezs109
  refine J_aload_no (pc' := 304) rfl rfl zg1 rfl ?_
  refine J_sipush (pc' := 307) rfl (by decide) (by decide) rfl ?_
  refine J_newa (pc' := 309) rfl (by decide) (by decide) (by decide) trivial trivial rfl (fun zs111 ezs111 => ?_)
  replace W := W zs111 ezs111
  obtain ⟨zg113, W⟩ := W
  refine J_putT (G := 1055) (t := 0) (pc' := 312) rfl rfl (Nat.le_of_ble_eq_true rfl) rfl rfl rfl zg1 (Or.inr zg113) trivial trivial trivial trivial rfl (fun zs112 ezs112 => ?_)
  replace W := W zs112 ezs112
  refine J_aload_no (pc' := 313) rfl rfl zg1 rfl ?_
  refine J_sipush (pc' := 316) rfl (by decide) (by decide) rfl ?_
  refine J_newa (pc' := 318) rfl (by decide) (by decide) (by decide) trivial trivial rfl (fun zs114 ezs114 => ?_)
  replace W := W zs114 ezs114
  obtain ⟨zg116, W⟩ := W
  refine J_putT (G := 1056) (t := 0) (pc' := 321) rfl rfl (Nat.le_of_ble_eq_true rfl) rfl rfl rfl zg1 (Or.inr zg116) trivial trivial trivial trivial rfl (fun zs115 ezs115 => ?_)
  replace W := W zs115 ezs115
  refine J_aload_no (pc' := 322) rfl rfl zg1 rfl ?_
  refine J_sipush (pc' := 325) rfl (by decide) (by decide) rfl ?_
  refine J_newa (pc' := 327) rfl (by decide) (by decide) (by decide) trivial trivial rfl (fun zs117 ezs117 => ?_)
  replace W := W zs117 ezs117
  obtain ⟨zg119, W⟩ := W
  refine J_putT (G := 1057) (t := 0) (pc' := 330) rfl rfl (Nat.le_of_ble_eq_true rfl) rfl rfl rfl zg1 (Or.inr zg119) trivial trivial trivial trivial rfl (fun zs118 ezs118 => ?_)
  replace W := W zs118 ezs118
  refine J_aload_no (pc' := 331) rfl rfl zg1 rfl ?_
  refine J_ldc (pc' := 334) (Or.inr rfl) rfl (i32_d rfl) rfl ?_
  refine J_newa (pc' := 336) rfl (by decide) (by decide) (by decide) trivial trivial rfl (fun zs120 ezs120 => ?_)
  replace W := W zs120 ezs120
  obtain ⟨zg122, W⟩ := W
  refine J_putT (G := 1058) (t := 0) (pc' := 339) rfl rfl (Nat.le_of_ble_eq_true rfl) rfl rfl rfl zg1 (Or.inr zg122) trivial trivial trivial trivial rfl (fun zs121 ezs121 => ?_)
  replace W := W zs121 ezs121
  refine J_aload_no (pc' := 340) rfl rfl zg1 rfl ?_
  refine J_sipush (pc' := 343) rfl (by decide) (by decide) rfl ?_
  refine J_newa (pc' := 345) rfl (by decide) (by decide) (by decide) trivial trivial rfl (fun zs123 ezs123 => ?_)
  replace W := W zs123 ezs123
  obtain ⟨zg125, W⟩ := W
  refine J_putT (G := 1059) (t := 0) (pc' := 348) rfl rfl (Nat.le_of_ble_eq_true rfl) rfl rfl rfl zg1 (Or.inr zg125) trivial trivial trivial trivial rfl (fun zs124 ezs124 => ?_)
  replace W := W zs124 ezs124
  refine J_aload_no (pc' := 349) rfl rfl zg1 rfl ?_
  refine J_sipush (pc' := 352) rfl (by decide) (by decide) rfl ?_
  refine J_newa (pc' := 354) rfl (by decide) (by decide) (by decide) trivial trivial rfl (fun zs126 ezs126 => ?_)
  replace W := W zs126 ezs126
  obtain ⟨zg128, W⟩ := W
  refine J_putT (G := 1060) (t := 0) (pc' := 357) rfl rfl (Nat.le_of_ble_eq_true rfl) rfl rfl rfl zg1 (Or.inr zg128) trivial trivial trivial trivial rfl (fun zs127 ezs127 => ?_)
  replace W := W zs127 ezs127
  refine J_aload_no (pc' := 358) rfl rfl zg1 rfl ?_
  refine J_sipush (pc' := 361) rfl (by decide) (by decide) rfl ?_
  refine J_newa (pc' := 363) rfl (by decide) (by decide) (by decide) trivial trivial rfl (fun zs129 ezs129 => ?_)
  replace W := W zs129 ezs129
  obtain ⟨zg131, W⟩ := W
  refine J_putT (G := 1061) (t := 0) (pc' := 366) rfl rfl (Nat.le_of_ble_eq_true rfl) rfl rfl rfl zg1 (Or.inr zg131) trivial trivial trivial trivial rfl (fun zs130 ezs130 => ?_)
  replace W := W zs130 ezs130
  refine J_aload_no (pc' := 367) rfl rfl zg1 rfl ?_
  refine J_ldc (pc' := 370) (Or.inr rfl) rfl (i32_d rfl) rfl ?_
  refine J_newa (pc' := 372) rfl (by decide) (by decide) (by decide) trivial trivial rfl (fun zs132 ezs132 => ?_)
  replace W := W zs132 ezs132
  obtain ⟨zg134, W⟩ := W
  refine J_putT (G := 1062) (t := 0) (pc' := 375) rfl rfl (Nat.le_of_ble_eq_true rfl) rfl rfl rfl zg1 (Or.inr zg134) trivial trivial trivial trivial rfl (fun zs133 ezs133 => ?_)
  replace W := W zs133 ezs133
  refine J_aload_no (pc' := 376) rfl rfl zg1 rfl ?_
  refine J_bipush (pc' := 378) rfl (by decide) (by decide) rfl ?_
  refine J_newa (pc' := 380) rfl (by decide) (by decide) (by decide) trivial trivial rfl (fun zs135 ezs135 => ?_)
  replace W := W zs135 ezs135
  obtain ⟨zg137, W⟩ := W
  refine J_putT (G := 1066) (t := 0) (pc' := 383) rfl rfl (Nat.le_of_ble_eq_true rfl) rfl rfl rfl zg1 (Or.inr zg137) trivial trivial trivial trivial rfl (fun zs136 ezs136 => ?_)
  replace W := W zs136 ezs136
  refine J_aload_no (pc' := 384) rfl rfl zg1 rfl ?_
  refine J_bipush (pc' := 386) rfl (by decide) (by decide) rfl ?_
  refine J_newa (pc' := 388) rfl (by decide) (by decide) (by decide) trivial trivial rfl (fun zs138 ezs138 => ?_)
  replace W := W zs138 ezs138
  obtain ⟨zg140, W⟩ := W
  refine J_putT (G := 1067) (t := 0) (pc' := 391) rfl rfl (Nat.le_of_ble_eq_true rfl) rfl rfl rfl zg1 (Or.inr zg140) trivial trivial trivial trivial rfl (fun zs139 ezs139 => ?_)
  replace W := W zs139 ezs139
  refine J_aload_no (pc' := 392) rfl rfl zg1 rfl ?_
  refine J_sipush (pc' := 395) rfl (by decide) (by decide) rfl ?_
  refine J_newa (pc' := 397) rfl (by decide) (by decide) (by decide) trivial trivial rfl (fun zs141 ezs141 => ?_)
  replace W := W zs141 ezs141
  obtain ⟨zg143, W⟩ := W
  refine J_putT (G := 1068) (t := 0) (pc' := 400) rfl rfl (Nat.le_of_ble_eq_true rfl) rfl rfl rfl zg1 (Or.inr zg143) trivial trivial trivial trivial rfl (fun zs142 ezs142 => ?_)
  replace W := W zs142 ezs142
  refine J_aload_no (pc' := 401) rfl rfl zg1 rfl ?_
  refine J_bipush (pc' := 403) rfl (by decide) (by decide) rfl ?_
  refine J_newa (pc' := 405) rfl (by decide) (by decide) (by decide) trivial trivial rfl (fun zs144 ezs144 => ?_)
  replace W := W zs144 ezs144
  obtain ⟨zg146, W⟩ := W
  refine J_putT (G := 1069) (t := 0) (pc' := 408) rfl rfl (Nat.le_of_ble_eq_true rfl) rfl rfl rfl zg1 (Or.inr zg146) trivial trivial trivial trivial rfl (fun zs145 ezs145 => ?_)
  replace W := W zs145 ezs145
  refine J_aload_no (pc' := 409) rfl rfl zg1 rfl ?_
  refine J_bipush (pc' := 411) rfl (by decide) (by decide) rfl ?_
  refine J_newa (pc' := 413) rfl (by decide) (by decide) (by decide) trivial trivial rfl (fun zs147 ezs147 => ?_)
  replace W := W zs147 ezs147
  obtain ⟨zg149, W⟩ := W
  refine J_putT (G := 1071) (t := 0) (pc' := 416) rfl rfl (Nat.le_of_ble_eq_true rfl) rfl rfl rfl zg1 (Or.inr zg149) trivial trivial trivial trivial rfl (fun zs148 ezs148 => ?_)
  replace W := W zs148 ezs148
  refine J_aload_no (pc' := 417) rfl rfl zg1 rfl ?_
  refine J_bipush (pc' := 419) rfl (by decide) (by decide) rfl ?_
  refine J_newa (pc' := 421) rfl (by decide) (by decide) (by decide) trivial trivial rfl (fun zs150 ezs150 => ?_)
  replace W := W zs150 ezs150
  obtain ⟨zg152, W⟩ := W
  refine J_putT (G := 1072) (t := 2) (pc' := 424) rfl rfl (Nat.le_of_ble_eq_true rfl) rfl rfl rfl zg1 (Or.inr zg152) trivial trivial trivial trivial rfl (fun zs151 ezs151 => ?_)
  replace W := W zs151 ezs151
  refine J_aload_no (pc' := 425) rfl rfl zg1 rfl ?_
  refine J_bipush (pc' := 427) rfl (by decide) (by decide) rfl ?_
  refine J_newa (pc' := 429) rfl (by decide) (by decide) (by decide) trivial trivial rfl (fun zs153 ezs153 => ?_)
  replace W := W zs153 ezs153
  obtain ⟨zg155, W⟩ := W
  refine J_putT (G := 1073) (t := 0) (pc' := 432) rfl rfl (Nat.le_of_ble_eq_true rfl) rfl rfl rfl zg1 (Or.inr zg155) trivial trivial trivial trivial rfl (fun zs154 ezs154 => ?_)
  replace W := W zs154 ezs154
  refine J_aload_no (pc' := 433) rfl rfl zg1 rfl ?_
  refine J_bipush (pc' := 435) rfl (by decide) (by decide) rfl ?_
  refine J_newa (pc' := 437) rfl (by decide) (by decide) (by decide) trivial trivial rfl (fun zs156 ezs156 => ?_)
  replace W := W zs156 ezs156
  obtain ⟨zg158, W⟩ := W
  refine J_putT (G := 1074) (t := 0) (pc' := 440) rfl rfl (Nat.le_of_ble_eq_true rfl) rfl rfl rfl zg1 (Or.inr zg158) trivial trivial trivial trivial rfl (fun zs157 ezs157 => ?_)
  replace W := W zs157 ezs157
  refine J_aload_no (pc' := 441) rfl rfl zg1 rfl ?_
  refine J_bipush (pc' := 443) rfl (by decide) (by decide) rfl ?_
  refine J_newa (pc' := 445) rfl (by decide) (by decide) (by decide) trivial trivial rfl (fun zs159 ezs159 => ?_)
  replace W := W zs159 ezs159
  obtain ⟨zg161, W⟩ := W
  refine J_putT (G := 1075) (t := 0) (pc' := 448) rfl rfl (Nat.le_of_ble_eq_true rfl) rfl rfl rfl zg1 (Or.inr zg161) trivial trivial trivial trivial rfl (fun zs160 ezs160 => ?_)
  replace W := W zs160 ezs160
  refine J_aload_no (pc' := 449) rfl rfl zg1 rfl ?_
  refine J_bipush (pc' := 451) rfl (by decide) (by decide) rfl ?_
  refine J_newa (pc' := 453) rfl (by decide) (by decide) (by decide) trivial trivial rfl (fun zs162 ezs162 => ?_)
  replace W := W zs162 ezs162
  obtain ⟨zg164, W⟩ := W
  refine J_putT (G := 1076) (t := 0) (pc' := 456) rfl rfl (Nat.le_of_ble_eq_true rfl) rfl rfl rfl zg1 (Or.inr zg164) trivial trivial trivial trivial rfl (fun zs163 ezs163 => ?_)
  replace W := W zs163 ezs163
  refine J_aload_no (pc' := 457) rfl rfl zg1 rfl ?_
  refine J_bipush (pc' := 459) rfl (by decide) (by decide) rfl ?_
  refine J_newa (pc' := 461) rfl (by decide) (by decide) (by decide) trivial trivial rfl (fun zs165 ezs165 => ?_)
  replace W := W zs165 ezs165
  obtain ⟨zg167, W⟩ := W
  refine J_putT (G := 1077) (t := 0) (pc' := 464) rfl rfl (Nat.le_of_ble_eq_true rfl) rfl rfl rfl zg1 (Or.inr zg167) trivial trivial trivial trivial rfl (fun zs166 ezs166 => ?_)
  replace W := W zs166 ezs166
  refine J_aload_no (pc' := 465) rfl rfl zg1 rfl ?_
  refine J_bipush (pc' := 467) rfl (by decide) (by decide) rfl ?_
  refine J_newa (pc' := 469) rfl (by decide) (by decide) (by decide) trivial trivial rfl (fun zs168 ezs168 => ?_)
  replace W := W zs168 ezs168
  obtain ⟨zg170, W⟩ := W
  refine J_putT (G := 1078) (t := 0) (pc' := 472) rfl rfl (Nat.le_of_ble_eq_true rfl) rfl rfl rfl zg1 (Or.inr zg170) trivial trivial trivial trivial rfl (fun zs169 ezs169 => ?_)
  replace W := W zs169 ezs169
  refine J_aload_no (pc' := 473) rfl rfl zg1 rfl ?_
  refine J_bipush (pc' := 475) rfl (by decide) (by decide) rfl ?_
  refine J_newa (pc' := 477) rfl (by decide) (by decide) (by decide) trivial trivial rfl (fun zs171 ezs171 => ?_)
  replace W := W zs171 ezs171
  obtain ⟨zg173, W⟩ := W
  refine J_putT (G := 1079) (t := 0) (pc' := 480) rfl rfl (Nat.le_of_ble_eq_true rfl) rfl rfl rfl zg1 (Or.inr zg173) trivial trivial trivial trivial rfl (fun zs172 ezs172 => ?_)
  replace W := W zs172 ezs172
  refine J_aload_no (pc' := 481) rfl rfl zg1 rfl ?_
  refine J_bipush (pc' := 483) rfl (by decide) (by decide) rfl ?_
  refine J_newa (pc' := 485) rfl (by decide) (by decide) (by decide) trivial trivial rfl (fun zs174 ezs174 => ?_)
  replace W := W zs174 ezs174
  obtain ⟨zg176, W⟩ := W
  refine J_putT (G := 1080) (t := 0) (pc' := 488) rfl rfl (Nat.le_of_ble_eq_true rfl) rfl rfl rfl zg1 (Or.inr zg176) trivial trivial trivial trivial rfl (fun zs175 ezs175 => ?_)
  replace W := W zs175 ezs175
  refine J_aload_no (pc' := 489) rfl rfl zg1 rfl ?_
  refine J_bipush (pc' := 491) rfl (by decide) (by decide) rfl ?_
  refine J_newa (pc' := 493) rfl (by decide) (by decide) (by decide) trivial trivial rfl (fun zs177 ezs177 => ?_)
  replace W := W zs177 ezs177
  obtain ⟨zg179, W⟩ := W
  refine J_putT (G := 1081) (t := 0) (pc' := 496) rfl rfl (Nat.le_of_ble_eq_true rfl) rfl rfl rfl zg1 (Or.inr zg179) trivial trivial trivial trivial rfl (fun zs178 ezs178 => ?_)
  replace W := W zs178 ezs178
  refine J_aload_no (pc' := 497) rfl rfl zg1 rfl ?_
  refine J_bipush (pc' := 499) rfl (by decide) (by decide) rfl ?_
  refine J_newa (pc' := 501) rfl (by decide) (by decide) (by decide) trivial trivial rfl (fun zs180 ezs180 => ?_)
  replace W := W zs180 ezs180
  obtain ⟨zg182, W⟩ := W
  refine J_putT (G := 1082) (t := 0) (pc' := 504) rfl rfl (Nat.le_of_ble_eq_true rfl) rfl rfl rfl zg1 (Or.inr zg182) trivial trivial trivial trivial rfl (fun zs181 ezs181 => ?_)
  replace W := W zs181 ezs181
  refine J_aload_no (pc' := 505) rfl rfl zg1 rfl ?_
  refine J_bipush (pc' := 507) rfl (by decide) (by decide) rfl ?_
  refine J_newa (pc' := 509) rfl (by decide) (by decide) (by decide) trivial trivial rfl (fun zs183 ezs183 => ?_)
  replace W := W zs183 ezs183
  obtain ⟨zg185, W⟩ := W
  refine J_putT (G := 1083) (t := 0) (pc' := 512) rfl rfl (Nat.le_of_ble_eq_true rfl) rfl rfl rfl zg1 (Or.inr zg185) trivial trivial trivial trivial rfl (fun zs184 ezs184 => ?_)
  replace W := W zs184 ezs184
  refine J_aload_no (pc' := 513) rfl rfl zg1 rfl ?_
  refine J_bipush (pc' := 515) rfl (by decide) (by decide) rfl ?_
  refine J_newa (pc' := 517) rfl (by decide) (by decide) (by decide) trivial trivial rfl (fun zs186 ezs186 => ?_)
  replace W := W zs186 ezs186
  obtain ⟨zg188, W⟩ := W
  refine J_putT (G := 1084) (t := 0) (pc' := 520) rfl rfl (Nat.le_of_ble_eq_true rfl) rfl rfl rfl zg1 (Or.inr zg188) trivial trivial trivial trivial rfl (fun zs187 ezs187 => ?_)
  replace W := W zs187 ezs187
  refine J_aload_no (pc' := 521) rfl rfl zg1 rfl ?_
  refine J_bipush (pc' := 523) rfl (by decide) (by decide) rfl ?_
  refine J_newa (pc' := 525) rfl (by decide) (by decide) (by decide) trivial trivial rfl (fun zs189 ezs189 => ?_)
  replace W := W zs189 ezs189
  obtain ⟨zg191, W⟩ := W
  refine J_putT (G := 1085) (t := 0) (pc' := 528) rfl rfl (Nat.le_of_ble_eq_true rfl) rfl rfl rfl zg1 (Or.inr zg191) trivial trivial trivial trivial rfl (fun zs190 ezs190 => ?_)
  replace W := W zs190 ezs190
  refine J_aload_no (pc' := 529) rfl rfl zg1 rfl ?_
  refine J_bipush (pc' := 531) rfl (by decide) (by decide) rfl ?_
  refine J_newa (pc' := 533) rfl (by decide) (by decide) (by decide) trivial trivial rfl (fun zs192 ezs192 => ?_)
  replace W := W zs192 ezs192
  obtain ⟨zg194, W⟩ := W
  refine J_putT (G := 1086) (t := 0) (pc' := 536) rfl rfl (Nat.le_of_ble_eq_true rfl) rfl rfl rfl zg1 (Or.inr zg194) trivial trivial trivial trivial rfl (fun zs193 ezs193 => ?_)
  replace W := W zs193 ezs193
  refine J_aload_no (pc' := 537) rfl rfl zg1 rfl ?_
  refine J_bipush (pc' := 539) rfl (by decide) (by decide) rfl ?_
  refine J_newa (pc' := 541) rfl (by decide) (by decide) (by decide) trivial trivial rfl (fun zs195 ezs195 => ?_)
  replace W := W zs195 ezs195
  obtain ⟨zg197, W⟩ := W
  refine J_putT (G := 1087) (t := 0) (pc' := 544) rfl rfl (Nat.le_of_ble_eq_true rfl) rfl rfl rfl zg1 (Or.inr zg197) trivial trivial trivial trivial rfl (fun zs196 ezs196 => ?_)
  replace W := W zs196 ezs196
  refine J_aload_no (pc' := 545) rfl rfl zg1 rfl ?_
  refine J_bipush (pc' := 547) rfl (by decide) (by decide) rfl ?_
  refine J_newa (pc' := 549) rfl (by decide) (by decide) (by decide) trivial trivial rfl (fun zs198 ezs198 => ?_)
  replace W := W zs198 ezs198
  obtain ⟨zg200, W⟩ := W
  refine J_putT (G := 1088) (t := 0) (pc' := 552) rfl rfl (Nat.le_of_ble_eq_true rfl) rfl rfl rfl zg1 (Or.inr zg200) trivial trivial trivial trivial rfl (fun zs199 ezs199 => ?_)
  replace W := W zs199 ezs199
  refine J_aload_no (pc' := 553) rfl rfl zg1 rfl ?_
  refine J_bipush (pc' := 555) rfl (by decide) (by decide) rfl ?_
  refine J_newa (pc' := 557) rfl (by decide) (by decide) (by decide) trivial trivial rfl (fun zs201 ezs201 => ?_)
  replace W := W zs201 ezs201
  obtain ⟨zg203, W⟩ := W
  refine J_putT (G := 1089) (t := 0) (pc' := 560) rfl rfl (Nat.le_of_ble_eq_true rfl) rfl rfl rfl zg1 (Or.inr zg203) trivial trivial trivial trivial rfl (fun zs202 ezs202 => ?_)
  replace W := W zs202 ezs202
  refine J_aload_no (pc' := 561) rfl rfl zg1 rfl ?_
  refine J_bipush (pc' := 563) rfl (by decide) (by decide) rfl ?_
  refine J_newa (pc' := 565) rfl (by decide) (by decide) (by decide) trivial trivial rfl (fun zs204 ezs204 => ?_)
  replace W := W zs204 ezs204
  obtain ⟨zg206, W⟩ := W
  refine J_putT (G := 1090) (t := 0) (pc' := 568) rfl rfl (Nat.le_of_ble_eq_true rfl) rfl rfl rfl zg1 (Or.inr zg206) trivial trivial trivial trivial rfl (fun zs205 ezs205 => ?_)
  replace W := W zs205 ezs205
  refine J_aload_no (pc' := 569) rfl rfl zg1 rfl ?_
  refine J_bipush (pc' := 571) rfl (by decide) (by decide) rfl ?_
  refine J_newa (pc' := 573) rfl (by decide) (by decide) (by decide) trivial trivial rfl (fun zs207 ezs207 => ?_)
  replace W := W zs207 ezs207
  obtain ⟨zg209, W⟩ := W
  refine J_putT (G := 1091) (t := 0) (pc' := 576) rfl rfl (Nat.le_of_ble_eq_true rfl) rfl rfl rfl zg1 (Or.inr zg209) trivial trivial trivial trivial rfl (fun zs208 ezs208 => ?_)
  replace W := W zs208 ezs208
  refine J_aload_no (pc' := 577) rfl rfl zg1 rfl ?_
  refine J_bipush (pc' := 579) rfl (by decide) (by decide) rfl ?_
  refine J_newa (pc' := 581) rfl (by decide) (by decide) (by decide) trivial trivial rfl (fun zs210 ezs210 => ?_)
  replace W := W zs210 ezs210
  obtain ⟨zg212, W⟩ := W
  refine J_putT (G := 1092) (t := 0) (pc' := 584) rfl rfl (Nat.le_of_ble_eq_true rfl) rfl rfl rfl zg1 (Or.inr zg212) trivial trivial trivial trivial rfl (fun zs211 ezs211 => ?_)
  replace W := W zs211 ezs211
  refine J_aload_no (pc' := 585) rfl rfl zg1 rfl ?_
  refine J_bipush (pc' := 587) rfl (by decide) (by decide) rfl ?_
  refine J_newa (pc' := 589) rfl (by decide) (by decide) (by decide) trivial trivial rfl (fun zs213 ezs213 => ?_)
  replace W := W zs213 ezs213
  obtain ⟨zg215, W⟩ := W
  refine J_putT (G := 1093) (t := 0) (pc' := 592) rfl rfl (Nat.le_of_ble_eq_true rfl) rfl rfl rfl zg1 (Or.inr zg215) trivial trivial trivial trivial rfl (fun zs214 ezs214 => ?_)
  replace W := W zs214 ezs214
  refine J_aload_no (pc' := 593) rfl rfl zg1 rfl ?_
  refine J_bipush (pc' := 595) rfl (by decide) (by decide) rfl ?_
  refine J_newa (pc' := 597) rfl (by decide) (by decide) (by decide) trivial trivial rfl (fun zs216 ezs216 => ?_)
  replace W := W zs216 ezs216
  obtain ⟨zg218, W⟩ := W
  refine J_putT (G := 1094) (t := 0) (pc' := 600) rfl rfl (Nat.le_of_ble_eq_true rfl) rfl rfl rfl zg1 (Or.inr zg218) trivial trivial trivial trivial rfl (fun zs217 ezs217 => ?_)
  replace W := W zs217 ezs217
  refine J_aload_no (pc' := 601) rfl rfl zg1 rfl ?_
  refine J_sipush (pc' := 604) rfl (by decide) (by decide) rfl ?_
  refine J_newa (pc' := 606) rfl (by decide) (by decide) (by decide) trivial trivial rfl (fun zs219 ezs219 => ?_)
  replace W := W zs219 ezs219
  obtain ⟨zg221, W⟩ := W
  refine J_putT (G := 1095) (t := 0) (pc' := 609) rfl rfl (Nat.le_of_ble_eq_true rfl) rfl rfl rfl zg1 (Or.inr zg221) trivial trivial trivial trivial rfl (fun zs220 ezs220 => ?_)
  replace W := W zs220 ezs220
  refine J_aload_no (pc' := 610) rfl rfl zg1 rfl ?_
  refine J_sipush (pc' := 613) rfl (by decide) (by decide) rfl ?_
  refine J_newa (pc' := 615) rfl (by decide) (by decide) (by decide) trivial trivial rfl (fun zs222 ezs222 => ?_)
  replace W := W zs222 ezs222
  obtain ⟨zg224, W⟩ := W
  refine J_putT (G := 1096) (t := 0) (pc' := 618) rfl rfl (Nat.le_of_ble_eq_true rfl) rfl rfl rfl zg1 (Or.inr zg224) trivial trivial trivial trivial rfl (fun zs223 ezs223 => ?_)
  replace W := W zs223 ezs223
  refine J_aload_no (pc' := 619) rfl rfl zg1 rfl ?_
  refine J_sipush (pc' := 622) rfl (by decide) (by decide) rfl ?_
  refine J_newa (pc' := 624) rfl (by decide) (by decide) (by decide) trivial trivial rfl (fun zs225 ezs225 => ?_)
  replace W := W zs225 ezs225
  obtain ⟨zg227, W⟩ := W
  refine J_putT (G := 1109) (t := 0) (pc' := 627) rfl rfl (Nat.le_of_ble_eq_true rfl) rfl rfl rfl zg1 (Or.inr zg227) trivial trivial trivial trivial rfl (fun zs226 ezs226 => ?_)
  replace W := W zs226 ezs226
  refine J_aload_no (pc' := 628) rfl rfl zg1 rfl ?_
  refine J_sipush (pc' := 631) rfl (by decide) (by decide) rfl ?_
  refine J_newa (pc' := 633) rfl (by decide) (by decide) (by decide) trivial trivial rfl (fun zs228 ezs228 => ?_)
  replace W := W zs228 ezs228
  obtain ⟨zg230, W⟩ := W
  refine J_putT (G := 1110) (t := 0) (pc' := 636) rfl rfl (Nat.le_of_ble_eq_true rfl) rfl rfl rfl zg1 (Or.inr zg230) trivial trivial trivial trivial rfl (fun zs229 ezs229 => ?_)
  replace W := W zs229 ezs229
  refine J_aload_no (pc' := 637) rfl rfl zg1 rfl ?_
  refine J_bipush (pc' := 639) rfl (by decide) (by decide) rfl ?_
  refine J_newa (pc' := 641) rfl (by decide) (by decide) (by decide) trivial trivial rfl (fun zs231 ezs231 => ?_)
  replace W := W zs231 ezs231
  obtain ⟨zg233, W⟩ := W
  refine J_putT (G := 1112) (t := 0) (pc' := 644) rfl rfl (Nat.le_of_ble_eq_true rfl) rfl rfl rfl zg1 (Or.inr zg233) trivial trivial trivial trivial rfl (fun zs232 ezs232 => ?_)
  replace W := W zs232 ezs232
  refine J_aload_no (pc' := 645) rfl rfl zg1 rfl ?_
  refine J_sipush (pc' := 648) rfl (by decide) (by decide) rfl ?_
  refine J_newa (pc' := 650) rfl (by decide) (by decide) (by decide) trivial trivial rfl (fun zs234 ezs234 => ?_)
  replace W := W zs234 ezs234
  obtain ⟨zg236, W⟩ := W
  refine J_putT (G := 1113) (t := 0) (pc' := 653) rfl rfl (Nat.le_of_ble_eq_true rfl) rfl rfl rfl zg1 (Or.inr zg236) trivial trivial trivial trivial rfl (fun zs235 ezs235 => ?_)
  replace W := W zs235 ezs235
  refine J_aload_no (pc' := 654) rfl rfl zg1 rfl ?_
  refine J_sipush (pc' := 657) rfl (by decide) (by decide) rfl ?_
  refine J_newa (pc' := 659) rfl (by decide) (by decide) (by decide) trivial trivial rfl (fun zs237 ezs237 => ?_)
  replace W := W zs237 ezs237
  obtain ⟨zg239, W⟩ := W
  refine J_putT (G := 1114) (t := 0) (pc' := 662) rfl rfl (Nat.le_of_ble_eq_true rfl) rfl rfl rfl zg1 (Or.inr zg239) trivial trivial trivial trivial rfl (fun zs238 ezs238 => ?_)
  replace W := W zs238 ezs238
  refine J_aload_no (pc' := 663) rfl rfl zg1 rfl ?_
  refine J_sipush (pc' := 666) rfl (by decide) (by decide) rfl ?_
  refine J_newa (pc' := 668) rfl (by decide) (by decide) (by decide) trivial trivial rfl (fun zs240 ezs240 => ?_)
  replace W := W zs240 ezs240
  obtain ⟨zg242, W⟩ := W
  refine J_putT (G := 1115) (t := 0) (pc' := 671) rfl rfl (Nat.le_of_ble_eq_true rfl) rfl rfl rfl zg1 (Or.inr zg242) trivial trivial trivial trivial rfl (fun zs241 ezs241 => ?_)
  replace W := W zs241 ezs241
  refine J_aload_no (pc' := 672) rfl rfl zg1 rfl ?_
  refine J_sipush (pc' := 675) rfl (by decide) (by decide) rfl ?_
  refine J_newa (pc' := 677) rfl (by decide) (by decide) (by decide) trivial trivial rfl (fun zs243 ezs243 => ?_)
  replace W := W zs243 ezs243
  obtain ⟨zg245, W⟩ := W
  refine J_putT (G := 1116) (t := 0) (pc' := 680) rfl rfl (Nat.le_of_ble_eq_true rfl) rfl rfl rfl zg1 (Or.inr zg245) trivial trivial trivial trivial rfl (fun zs244 ezs244 => ?_)
  replace W := W zs244 ezs244
  refine J_aload_no (pc' := 681) rfl rfl zg1 rfl ?_
  refine J_sipush (pc' := 684) rfl (by decide) (by decide) rfl ?_
  refine J_newa (pc' := 686) rfl (by decide) (by decide) (by decide) trivial trivial rfl (fun zs246 ezs246 => ?_)
  replace W := W zs246 ezs246
  obtain ⟨zg248, W⟩ := W
  refine J_putT (G := 1117) (t := 0) (pc' := 689) rfl rfl (Nat.le_of_ble_eq_true rfl) rfl rfl rfl zg1 (Or.inr zg248) trivial trivial trivial trivial rfl (fun zs247 ezs247 => ?_)
  replace W := W zs247 ezs247
  refine J_aload_no (pc' := 690) rfl rfl zg1 rfl ?_
  refine J_sipush (pc' := 693) rfl (by decide) (by decide) rfl ?_
  refine J_newa (pc' := 695) rfl (by decide) (by decide) (by decide) trivial trivial rfl (fun zs249 ezs249 => ?_)
  replace W := W zs249 ezs249
  obtain ⟨zg251, W⟩ := W
  refine J_putT (G := 1118) (t := 0) (pc' := 698) rfl rfl (Nat.le_of_ble_eq_true rfl) rfl rfl rfl zg1 (Or.inr zg251) trivial trivial trivial trivial rfl (fun zs250 ezs250 => ?_)
  replace W := W zs250 ezs250
  refine J_aload_no (pc' := 699) rfl rfl zg1 rfl ?_
  refine J_sipush (pc' := 702) rfl (by decide) (by decide) rfl ?_
  refine J_newa (pc' := 704) rfl (by decide) (by decide) (by decide) trivial trivial rfl (fun zs252 ezs252 => ?_)
  replace W := W zs252 ezs252
  obtain ⟨zg254, W⟩ := W
  refine J_putT (G := 1119) (t := 0) (pc' := 707) rfl rfl (Nat.le_of_ble_eq_true rfl) rfl rfl rfl zg1 (Or.inr zg254) trivial trivial trivial trivial rfl (fun zs253 ezs253 => ?_)
  replace W := W zs253 ezs253
  refine J_aload_no (pc' := 708) rfl rfl zg1 rfl ?_
  refine J_sipush (pc' := 711) rfl (by decide) (by decide) rfl ?_
  refine J_newa (pc' := 713) rfl (by decide) (by decide) (by decide) trivial trivial rfl (fun zs255 ezs255 => ?_)
  replace W := W zs255 ezs255
  obtain ⟨zg257, W⟩ := W
  refine J_putT (G := 1120) (t := 0) (pc' := 716) rfl rfl (Nat.le_of_ble_eq_true rfl) rfl rfl rfl zg1 (Or.inr zg257) trivial trivial trivial trivial rfl (fun zs256 ezs256 => ?_)
  replace W := W zs256 ezs256
  refine J_aload_no (pc' := 717) rfl rfl zg1 rfl ?_
  refine J_sipush (pc' := 720) rfl (by decide) (by decide) rfl ?_
  refine J_newa (pc' := 722) rfl (by decide) (by decide) (by decide) trivial trivial rfl (fun zs258 ezs258 => ?_)
  replace W := W zs258 ezs258
  obtain ⟨zg260, W⟩ := W
  refine J_putT (G := 1121) (t := 0) (pc' := 725) rfl rfl (Nat.le_of_ble_eq_true rfl) rfl rfl rfl zg1 (Or.inr zg260) trivial trivial trivial trivial rfl (fun zs259 ezs259 => ?_)
  replace W := W zs259 ezs259
  refine J_aload_no (pc' := 726) rfl rfl zg1 rfl ?_
  refine J_sipush (pc' := 729) rfl (by decide) (by decide) rfl ?_
  refine J_newa (pc' := 731) rfl (by decide) (by decide) (by decide) trivial trivial rfl (fun zs261 ezs261 => ?_)
  replace W := W zs261 ezs261
  obtain ⟨zg263, W⟩ := W
  refine J_putT (G := 1122) (t := 0) (pc' := 734) rfl rfl (Nat.le_of_ble_eq_true rfl) rfl rfl rfl zg1 (Or.inr zg263) trivial trivial trivial trivial rfl (fun zs262 ezs262 => ?_)
  replace W := W zs262 ezs262
  refine J_aload_no (pc' := 735) rfl rfl zg1 rfl ?_
  refine J_sipush (pc' := 738) rfl (by decide) (by decide) rfl ?_
  refine J_newa (pc' := 740) rfl (by decide) (by decide) (by decide) trivial trivial rfl (fun zs264 ezs264 => ?_)
  replace W := W zs264 ezs264
  obtain ⟨zg266, W⟩ := W
  refine J_putT (G := 1123) (t := 0) (pc' := 743) rfl rfl (Nat.le_of_ble_eq_true rfl) rfl rfl rfl zg1 (Or.inr zg266) trivial trivial trivial trivial rfl (fun zs265 ezs265 => ?_)
  replace W := W zs265 ezs265
  refine J_aload_no (pc' := 744) rfl rfl zg1 rfl ?_
  refine J_sipush (pc' := 747) rfl (by decide) (by decide) rfl ?_
  refine J_newa (pc' := 749) rfl (by decide) (by decide) (by decide) trivial trivial rfl (fun zs267 ezs267 => ?_)
  replace W := W zs267 ezs267
  obtain ⟨zg269, W⟩ := W
  refine J_putT (G := 1124) (t := 0) (pc' := 752) rfl rfl (Nat.le_of_ble_eq_true rfl) rfl rfl rfl zg1 (Or.inr zg269) trivial trivial trivial trivial rfl (fun zs268 ezs268 => ?_)
  replace W := W zs268 ezs268
  refine J_aload_no (pc' := 753) rfl rfl zg1 rfl ?_
  refine J_bipush (pc' := 755) rfl (by decide) (by decide) rfl ?_
  refine J_newa (pc' := 757) rfl (by decide) (by decide) (by decide) trivial trivial rfl (fun zs270 ezs270 => ?_)
  replace W := W zs270 ezs270
  obtain ⟨zg272, W⟩ := W
  refine J_putT (G := 1125) (t := 0) (pc' := 760) rfl rfl (Nat.le_of_ble_eq_true rfl) rfl rfl rfl zg1 (Or.inr zg272) trivial trivial trivial trivial rfl (fun zs271 ezs271 => ?_)
  replace W := W zs271 ezs271
  refine J_aload_no (pc' := 761) rfl rfl zg1 rfl ?_
  refine J_sipush (pc' := 764) rfl (by decide) (by decide) rfl ?_
  refine J_newa (pc' := 766) rfl (by decide) (by decide) (by decide) trivial trivial rfl (fun zs273 ezs273 => ?_)
  replace W := W zs273 ezs273
  obtain ⟨zg275, W⟩ := W
  refine J_putT (G := 1130) (t := 0) (pc' := 769) rfl rfl (Nat.le_of_ble_eq_true rfl) rfl rfl rfl zg1 (Or.inr zg275) trivial trivial trivial trivial rfl (fun zs274 ezs274 => ?_)
  replace W := W zs274 ezs274
  refine J_aload_no (pc' := 770) rfl rfl zg1 rfl ?_
  refine J_sipush (pc' := 773) rfl (by decide) (by decide) rfl ?_
  refine J_newa (pc' := 775) rfl (by decide) (by decide) (by decide) trivial trivial rfl (fun zs276 ezs276 => ?_)
  replace W := W zs276 ezs276
  obtain ⟨zg278, W⟩ := W
  refine J_putT (G := 1131) (t := 0) (pc' := 778) rfl rfl (Nat.le_of_ble_eq_true rfl) rfl rfl rfl zg1 (Or.inr zg278) trivial trivial trivial trivial rfl (fun zs277 ezs277 => ?_)
  replace W := W zs277 ezs277
  refine J_aload_no (pc' := 779) rfl rfl zg1 rfl ?_
  refine J_sipush (pc' := 782) rfl (by decide) (by decide) rfl ?_
  refine J_newa (pc' := 784) rfl (by decide) (by decide) (by decide) trivial trivial rfl (fun zs279 ezs279 => ?_)
  replace W := W zs279 ezs279
  obtain ⟨zg281, W⟩ := W
  refine J_putT (G := 1132) (t := 1) (pc' := 787) rfl rfl (Nat.le_of_ble_eq_true rfl) rfl rfl rfl zg1 (Or.inr zg281) trivial trivial trivial trivial rfl (fun zs280 ezs280 => ?_)
  replace W := W zs280 ezs280
  refine J_aload_no (pc' := 788) rfl rfl zg1 rfl ?_
  refine J_sipush (pc' := 791) rfl (by decide) (by decide) rfl ?_
  refine J_newa (pc' := 793) rfl (by decide) (by decide) (by decide) trivial trivial rfl (fun zs282 ezs282 => ?_)
  replace W := W zs282 ezs282
  obtain ⟨zg284, W⟩ := W
  refine J_putT (G := 1134) (t := 0) (pc' := 796) rfl rfl (Nat.le_of_ble_eq_true rfl) rfl rfl rfl zg1 (Or.inr zg284) trivial trivial trivial trivial rfl (fun zs283 ezs283 => ?_)
  replace W := W zs283 ezs283
  refine J_aload_no (pc' := 797) rfl rfl zg1 rfl ?_
  refine J_iconst (pc' := 798) rfl (i32_d rfl) rfl ?_
  refine J_newa (pc' := 800) rfl (by decide) (by decide) (by decide) trivial trivial rfl (fun zs285 ezs285 => ?_)
  replace W := W zs285 ezs285
  obtain ⟨zg287, W⟩ := W
  refine J_putT (G := 1135) (t := 0) (pc' := 803) rfl rfl (Nat.le_of_ble_eq_true rfl) rfl rfl rfl zg1 (Or.inr zg287) trivial trivial trivial trivial rfl (fun zs286 ezs286 => ?_)
  replace W := W zs286 ezs286
  refine J_aload_no (pc' := 804) rfl rfl zg1 rfl ?_
  refine J_iconst (pc' := 805) rfl (i32_d rfl) rfl ?_
  refine J_newa (pc' := 807) rfl (by decide) (by decide) (by decide) trivial trivial rfl (fun zs288 ezs288 => ?_)
  replace W := W zs288 ezs288
  obtain ⟨zg290, W⟩ := W
  refine J_putT (G := 1136) (t := 0) (pc' := 810) rfl rfl (Nat.le_of_ble_eq_true rfl) rfl rfl rfl zg1 (Or.inr zg290) trivial trivial trivial trivial rfl (fun zs289 ezs289 => ?_)
  replace W := W zs289 ezs289
  refine J_aload_no (pc' := 811) rfl rfl zg1 rfl ?_
  refine J_iconst (pc' := 812) rfl (i32_d rfl) rfl ?_
  refine J_newa (pc' := 814) rfl (by decide) (by decide) (by decide) trivial trivial rfl (fun zs291 ezs291 => ?_)
  replace W := W zs291 ezs291
  obtain ⟨zg293, W⟩ := W
  refine J_putT (G := 1137) (t := 0) (pc' := 817) rfl rfl (Nat.le_of_ble_eq_true rfl) rfl rfl rfl zg1 (Or.inr zg293) trivial trivial trivial trivial rfl (fun zs292 ezs292 => ?_)
  replace W := W zs292 ezs292
  refine J_aload_no (pc' := 818) rfl rfl zg1 rfl ?_
  refine J_bipush (pc' := 820) rfl (by decide) (by decide) rfl ?_
  refine J_newa (pc' := 822) rfl (by decide) (by decide) (by decide) trivial trivial rfl (fun zs294 ezs294 => ?_)
  replace W := W zs294 ezs294
  obtain ⟨zg296, W⟩ := W
  refine J_putT (G := 1138) (t := 0) (pc' := 825) rfl rfl (Nat.le_of_ble_eq_true rfl) rfl rfl rfl zg1 (Or.inr zg296) trivial trivial trivial trivial rfl (fun zs295 ezs295 => ?_)
  replace W := W zs295 ezs295
  refine J_aload_no (pc' := 826) rfl rfl zg1 rfl ?_
  refine J_iconst (pc' := 827) rfl (i32_d rfl) rfl ?_
  refine J_newa (pc' := 829) rfl (by decide) (by decide) (by decide) trivial trivial rfl (fun zs297 ezs297 => ?_)
  replace W := W zs297 ezs297
  obtain ⟨zg299, W⟩ := W
  refine J_putT (G := 1139) (t := 0) (pc' := 832) rfl rfl (Nat.le_of_ble_eq_true rfl) rfl rfl rfl zg1 (Or.inr zg299) trivial trivial trivial trivial rfl (fun zs298 ezs298 => ?_)
  replace W := W zs298 ezs298
  refine J_aload_no (pc' := 833) rfl rfl zg1 rfl ?_
  refine J_iconst (pc' := 834) rfl (i32_d rfl) rfl ?_
  refine J_newa (pc' := 836) rfl (by decide) (by decide) (by decide) trivial trivial rfl (fun zs300 ezs300 => ?_)
  replace W := W zs300 ezs300
  obtain ⟨zg302, W⟩ := W
  refine J_putT (G := 1140) (t := 0) (pc' := 839) rfl rfl (Nat.le_of_ble_eq_true rfl) rfl rfl rfl zg1 (Or.inr zg302) trivial trivial trivial trivial rfl (fun zs301 ezs301 => ?_)
  replace W := W zs301 ezs301
  refine J_aload_no (pc' := 840) rfl rfl zg1 rfl ?_
  refine J_iconst (pc' := 841) rfl (i32_d rfl) rfl ?_
  refine J_newa (pc' := 843) rfl (by decide) (by decide) (by decide) trivial trivial rfl (fun zs303 ezs303 => ?_)
  replace W := W zs303 ezs303
  obtain ⟨zg305, W⟩ := W
  refine J_putT (G := 1141) (t := 0) (pc' := 846) rfl rfl (Nat.le_of_ble_eq_true rfl) rfl rfl rfl zg1 (Or.inr zg305) trivial trivial trivial trivial rfl (fun zs304 ezs304 => ?_)
  replace W := W zs304 ezs304
  refine J_aload_no (pc' := 847) rfl rfl zg1 rfl ?_
  refine J_iconst (pc' := 848) rfl (i32_d rfl) rfl ?_
  refine J_newa (pc' := 850) rfl (by decide) (by decide) (by decide) trivial trivial rfl (fun zs306 ezs306 => ?_)
  replace W := W zs306 ezs306
  obtain ⟨zg308, W⟩ := W
  refine J_putT (G := 1142) (t := 3) (pc' := 853) rfl rfl (Nat.le_of_ble_eq_true rfl) rfl rfl rfl zg1 (Or.inr zg308) trivial trivial trivial trivial rfl (fun zs307 ezs307 => ?_)
  replace W := W zs307 ezs307
  refine J_aload_no (pc' := 854) rfl rfl zg1 rfl ?_
  refine J_iconst (pc' := 855) rfl (i32_d rfl) rfl ?_
  refine J_newa (pc' := 857) rfl (by decide) (by decide) (by decide) trivial trivial rfl (fun zs309 ezs309 => ?_)
  replace W := W zs309 ezs309
  obtain ⟨zg311, W⟩ := W
  refine J_putT (G := 1143) (t := 3) (pc' := 860) rfl rfl (Nat.le_of_ble_eq_true rfl) rfl rfl rfl zg1 (Or.inr zg311) trivial trivial trivial trivial rfl (fun zs310 ezs310 => ?_)
  replace W := W zs310 ezs310
  refine J_iconst (pc' := 861) rfl (i32_d rfl) rfl ?_
  refine J_istore_n (L' := [some (jo 1 zo0), some (ji 0)]) (pc' := 862) rfl (Nat.le_of_ble_eq_true rfl) rfl rfl ?_
  exact W
set_option maxRecDepth 16000 in
theorem wp_Model_init_862 {n : Nat} {σ : jS} {Q : jS → Prop} {zo0 : Int} {zx1 : Int} (W : (if 4 ≤ zx1 then Q σ else 0 ≤ zo0 ∧ 0 ≤ rl σ 1046 zo0 ∧ i32 (12 * zx1) ∧ 1 ≤ n ∧ TrI (n - 1) i_Model_con [ji 0, ji 0] σ (fun zr6 zs5 => 0 ≤ 12 * zx1 ∧ 12 * zx1 < rl zs5 1046 zo0 ∧ (∀ zs7, zs7 = wa zs5 1046 zo0 (12 * zx1) zr6 → i32 (zx1 + 1) ∧ J n c_Model_init none 862 [some (jo 1 zo0), some (ji (zx1 + 1))] [] zs7 (qV Q))))) : J n c_Model_init none 862 [some (jo 1 zo0), some (ji zx1)] [] σ (qV Q) := by
  refine J_iload_n (pc' := 863) rfl rfl rfl ?_
  refine J_iconst (pc' := 864) rfl (i32_d rfl) rfl ?_
  refine J_icmp (P := 4 ≤ zx1) (t := 887) (f := 867) rfl rfl rfl jc_ge W (fun W => ?_) (fun W => ?_)
  · exact J_vret rfl rfl ⟨rfl, W⟩
  · obtain ⟨zg1, W⟩ := W
    refine J_aload_no (pc' := 868) rfl rfl zg1 rfl ?_
    obtain ⟨zg2, W⟩ := W
    refine J_getA (G := 1046) (pc' := 871) rfl rfl (Nat.le_of_ble_eq_true rfl) rfl zg1 zg2 rfl ?_
    refine J_bipush (pc' := 873) rfl (by decide) (by decide) rfl ?_
    refine J_iload_n (pc' := 874) rfl rfl rfl ?_
    obtain ⟨zg3, W⟩ := W
    refine J_imul (pc' := 875) rfl zg3 rfl ?_
    refine J_iconst (pc' := 876) rfl (i32_d rfl) rfl ?_
    refine J_iconst (pc' := 877) rfl (i32_d rfl) rfl ?_
    obtain ⟨zg4, W⟩ := W
    refine J_callI (as := [ji 0, ji 0]) (rest := [ji (12 * zx1), ja 1046 zo0]) (pc' := 880) rfl rfl ax_Z_3 rfl rfl (Or.inl rfl) (Nat.le_of_ble_eq_true rfl) (Nat.le_of_ble_eq_true rfl) (Nat.le_of_ble_eq_true rfl) zg4 trivial (And.intro rfl trivial) rfl W (fun zr6 zs5 W => ?_)
    obtain ⟨zg8, W⟩ := W
    obtain ⟨zg9, W⟩ := W
    refine J_iast (pc' := 881) rfl rfl (by decide) zg8 zg9 rfl (fun zs7 ezs7 => ?_)
    replace W := W zs7 ezs7
    obtain ⟨zg10, W⟩ := W
    refine J_iinc (L' := [some (jo 1 zo0), some (ji (zx1 + 1))]) (pc' := 884) rfl rfl zg10 rfl rfl ?_
    refine J_goto (pc' := 862) rfl rfl ?_
    exact W
theorem wp_Model_readWhole {n : Nat} {σ : jS} {Q : Int → jS → Prop} {zo0 : Int} (W : 0 ≤ zo0 ∧ 1 ≤ n ∧ TrV (n - 1) i_Model_beginText [jo 1 zo0] σ (fun zs3 => TrI (n - 1) i_Model_readType [jo 1 zo0] zs3 (fun zr6 zs5 => (if zr6 = 0 then Q 0 zs5 else (if rs zs5 1002 zo0 = rs zs5 1001 zo0 then Q 1 zs5 else TrI (n - 1) i_Model_fails [jo 1 zo0, ji (rs zs5 1002 zo0)] zs5 (fun zr8 zs7 => (if zr8 = 0 then Q 0 zs7 else Q 1 zs7))))))) : TrI n i_Model_readWhole [jo 1 zo0] σ Q := by
  refine Tr_of ax_Z_52 ?_
  show J n c_Model_readWhole (some .boolean) 0 [some (jo 1 zo0)] [] σ (qI Q)
  obtain ⟨zg1, W⟩ := W
  refine J_aload_no (pc' := 1) rfl rfl zg1 rfl ?_
  obtain ⟨zg2, W⟩ := W
  refine J_callV (as := [jo 1 zo0]) (rest := []) (pc' := 4) rfl rfl ax_Z_21 rfl rfl (Or.inr (Or.inr ⟨_, _, rfl, zg1⟩)) (Nat.le_of_ble_eq_true rfl) (Nat.le_of_ble_eq_true rfl) (Nat.le_of_ble_eq_true rfl) zg2 trivial trivial rfl W (fun zs3 W => ?_)
  refine J_aload_no (pc' := 5) rfl rfl zg1 rfl ?_
  refine J_callI (as := [jo 1 zo0]) (rest := []) (pc' := 8) rfl rfl ax_Z_14 rfl rfl (Or.inr (Or.inr ⟨_, _, rfl, zg1⟩)) (Nat.le_of_ble_eq_true rfl) (Nat.le_of_ble_eq_true rfl) (Nat.le_of_ble_eq_true rfl) zg2 trivial trivial rfl W (fun zr6 zs5 W => ?_)
  refine J_if (P := zr6 = 0) (t := 37) (f := 11) rfl rfl rfl jc_eq W (fun W => ?_) (fun W => ?_)
  · refine J_iconst (pc' := 38) rfl (i32_d rfl) rfl ?_
    exact J_zret rfl rfl (Or.inl rfl) ⟨_, rfl, W⟩
  · refine J_aload_no (pc' := 12) rfl rfl zg1 rfl ?_
    refine J_getI (G := 1002) (pc' := 15) rfl rfl (Nat.le_of_ble_eq_true rfl) rfl zg1 rfl ?_
    refine J_aload_no (pc' := 16) rfl rfl zg1 rfl ?_
    refine J_getI (G := 1001) (pc' := 19) rfl rfl (Nat.le_of_ble_eq_true rfl) rfl zg1 rfl ?_
    refine J_icmp (P := rs zs5 1002 zo0 = rs zs5 1001 zo0) (t := 33) (f := 22) rfl rfl rfl jc_eq W (fun W => ?_) (fun W => ?_)
    · refine J_iconst (pc' := 34) rfl (i32_d rfl) rfl ?_
      refine J_goto (pc' := 38) rfl rfl ?_
      exact J_zret rfl rfl (Or.inr rfl) ⟨_, rfl, W⟩
    · refine J_aload_no (pc' := 23) rfl rfl zg1 rfl ?_
      refine J_aload_no (pc' := 24) rfl rfl zg1 rfl ?_
      refine J_getI (G := 1002) (pc' := 27) rfl rfl (Nat.le_of_ble_eq_true rfl) rfl zg1 rfl ?_
      refine J_weak (L' := [none]) trivial ?_
      refine J_callI (as := [jo 1 zo0, ji (rs zs5 1002 zo0)]) (rest := []) (pc' := 30) rfl rfl ax_Z_10 rfl rfl (Or.inr (Or.inr ⟨_, _, rfl, zg1⟩)) (Nat.le_of_ble_eq_true rfl) (Nat.le_of_ble_eq_true rfl) (Nat.le_of_ble_eq_true rfl) zg2 trivial trivial rfl W (fun zr8 zs7 W => ?_)
      refine J_if (P := zr8 = 0) (t := 37) (f := 33) rfl rfl rfl jc_eq W (fun W => ?_) (fun W => ?_)
      · refine J_iconst (pc' := 38) rfl (i32_d rfl) rfl ?_
        exact J_zret rfl rfl (Or.inl rfl) ⟨_, rfl, W⟩
      · refine J_iconst (pc' := 34) rfl (i32_d rfl) rfl ?_
        refine J_goto (pc' := 38) rfl rfl ?_
        exact J_zret rfl rfl (Or.inr rfl) ⟨_, rfl, W⟩
theorem wp_Model_type {n : Nat} {σ : jS} {Q : Int → jS → Prop} {zo0 : Int} {zx1 : Int} (W : 1 ≤ n ∧ TrI (n - 1) i_Model_isIn [ji zx1, ji 0, ji 3] σ (fun zr3 zs2 => (if zr3 = 0 then TrI (n - 1) i_Model_isIn [ji zx1, ji 0, ji 3] zs2 (fun zr5 zs4 => (if ¬ zr5 = 0 then J n c_Model_type (some .int) 36 [some (jo 1 zo0), some (ji zx1), some (ji 0)] [] zs4 (qI Q) else 0 ≤ zo0 ∧ (∀ zs7, zs7 = ws zs4 1003 zo0 (-1) → J n c_Model_type (some .int) 36 [some (jo 1 zo0), some (ji zx1), some (ji 0)] [] zs7 (qI Q)))) else 0 ≤ zo0 ∧ TrI (n - 1) i_Model_readWhole [jo 1 zo0] zs2 (fun zr10 zs9 => (if zr10 = 0 then TrI (n - 1) i_Model_isIn [ji zx1, ji 0, ji 3] zs9 (fun zr12 zs11 => (if ¬ zr12 = 0 then J n c_Model_type (some .int) 36 [some (jo 1 zo0), some (ji zx1), some (ji 0)] [] zs11 (qI Q) else (∀ zs13, zs13 = ws zs11 1003 zo0 (-1) → J n c_Model_type (some .int) 36 [some (jo 1 zo0), some (ji zx1), some (ji 0)] [] zs13 (qI Q)))) else TrI (n - 1) i_Model_isIn [ji zx1, ji 0, ji 3] zs9 (fun zr15 zs14 => (if ¬ zr15 = 0 then J n c_Model_type (some .int) 36 [some (jo 1 zo0), some (ji zx1), some (ji 1)] [] zs14 (qI Q) else (∀ zs16, zs16 = ws zs14 1003 zo0 (-1) → J n c_Model_type (some .int) 36 [some (jo 1 zo0), some (ji zx1), some (ji 1)] [] zs16 (qI Q))))))))) : TrI n i_Model_type [jo 1 zo0, ji zx1] σ Q := by
  refine Tr_of ax_Z_53 ?_
  show J n c_Model_type (some .int) 0 [some (jo 1 zo0), some (ji zx1), none] [] σ (qI Q)
  refine J_iload_n (pc' := 1) rfl rfl rfl ?_
  refine J_iconst (pc' := 2) rfl (i32_d rfl) rfl ?_
  refine J_iconst (pc' := 3) rfl (i32_d rfl) rfl ?_
  obtain ⟨zg1, W⟩ := W
  refine J_callI (as := [ji zx1, ji 0, ji 3]) (rest := []) (pc' := 6) rfl rfl ax_Z_0 rfl rfl (Or.inl rfl) (Nat.le_of_ble_eq_true rfl) (Nat.le_of_ble_eq_true rfl) (Nat.le_of_ble_eq_true rfl) zg1 trivial trivial rfl W (fun zr3 zs2 W => ?_)
  refine J_if (P := zr3 = 0) (t := 20) (f := 9) rfl rfl rfl jc_eq W (fun W => ?_) (fun W => ?_)
  · refine J_iconst (pc' := 21) rfl (i32_d rfl) rfl ?_
    refine J_istore_n (L' := [some (jo 1 zo0), some (ji zx1), some (ji 0)]) (pc' := 22) rfl (Nat.le_of_ble_eq_true rfl) rfl rfl ?_
    refine J_iload_n (pc' := 23) rfl rfl rfl ?_
    refine J_iconst (pc' := 24) rfl (i32_d rfl) rfl ?_
    refine J_iconst (pc' := 25) rfl (i32_d rfl) rfl ?_
    refine J_callI (as := [ji zx1, ji 0, ji 3]) (rest := []) (pc' := 28) rfl rfl ax_Z_0 rfl rfl (Or.inl rfl) (Nat.le_of_ble_eq_true rfl) (Nat.le_of_ble_eq_true rfl) (Nat.le_of_ble_eq_true rfl) zg1 trivial trivial rfl W (fun zr5 zs4 W => ?_)
    refine J_if (P := ¬ zr5 = 0) (t := 36) (f := 31) rfl rfl rfl jc_ne W (fun W => ?_) (fun W => ?_)
    · exact W
    · obtain ⟨zg6, W⟩ := W
      refine J_aload_no (pc' := 32) rfl rfl zg6 rfl ?_
      refine J_iconst (pc' := 33) rfl (i32_d rfl) rfl ?_
      refine J_putI (G := 1003) (pc' := 36) rfl rfl (Nat.le_of_ble_eq_true rfl) rfl rfl zg6 rfl (fun zs7 ezs7 => ?_)
      replace W := W zs7 ezs7
      exact W
  · obtain ⟨zg8, W⟩ := W
    refine J_aload_no (pc' := 10) rfl rfl zg8 rfl ?_
    refine J_callI (as := [jo 1 zo0]) (rest := []) (pc' := 13) rfl rfl ax_Z_52 rfl rfl (Or.inr (Or.inr ⟨_, _, rfl, zg8⟩)) (Nat.le_of_ble_eq_true rfl) (Nat.le_of_ble_eq_true rfl) (Nat.le_of_ble_eq_true rfl) zg1 trivial trivial rfl W (fun zr10 zs9 W => ?_)
    refine J_if (P := zr10 = 0) (t := 20) (f := 16) rfl rfl rfl jc_eq W (fun W => ?_) (fun W => ?_)
    · refine J_iconst (pc' := 21) rfl (i32_d rfl) rfl ?_
      refine J_istore_n (L' := [some (jo 1 zo0), some (ji zx1), some (ji 0)]) (pc' := 22) rfl (Nat.le_of_ble_eq_true rfl) rfl rfl ?_
      refine J_iload_n (pc' := 23) rfl rfl rfl ?_
      refine J_iconst (pc' := 24) rfl (i32_d rfl) rfl ?_
      refine J_iconst (pc' := 25) rfl (i32_d rfl) rfl ?_
      refine J_callI (as := [ji zx1, ji 0, ji 3]) (rest := []) (pc' := 28) rfl rfl ax_Z_0 rfl rfl (Or.inl rfl) (Nat.le_of_ble_eq_true rfl) (Nat.le_of_ble_eq_true rfl) (Nat.le_of_ble_eq_true rfl) zg1 trivial trivial rfl W (fun zr12 zs11 W => ?_)
      refine J_if (P := ¬ zr12 = 0) (t := 36) (f := 31) rfl rfl rfl jc_ne W (fun W => ?_) (fun W => ?_)
      · exact W
      · refine J_aload_no (pc' := 32) rfl rfl zg8 rfl ?_
        refine J_iconst (pc' := 33) rfl (i32_d rfl) rfl ?_
        refine J_putI (G := 1003) (pc' := 36) rfl rfl (Nat.le_of_ble_eq_true rfl) rfl rfl zg8 rfl (fun zs13 ezs13 => ?_)
        replace W := W zs13 ezs13
        exact W
    · refine J_iconst (pc' := 17) rfl (i32_d rfl) rfl ?_
      refine J_goto (pc' := 21) rfl rfl ?_
      refine J_istore_n (L' := [some (jo 1 zo0), some (ji zx1), some (ji 1)]) (pc' := 22) rfl (Nat.le_of_ble_eq_true rfl) rfl rfl ?_
      refine J_iload_n (pc' := 23) rfl rfl rfl ?_
      refine J_iconst (pc' := 24) rfl (i32_d rfl) rfl ?_
      refine J_iconst (pc' := 25) rfl (i32_d rfl) rfl ?_
      refine J_callI (as := [ji zx1, ji 0, ji 3]) (rest := []) (pc' := 28) rfl rfl ax_Z_0 rfl rfl (Or.inl rfl) (Nat.le_of_ble_eq_true rfl) (Nat.le_of_ble_eq_true rfl) (Nat.le_of_ble_eq_true rfl) zg1 trivial trivial rfl W (fun zr15 zs14 W => ?_)
      refine J_if (P := ¬ zr15 = 0) (t := 36) (f := 31) rfl rfl rfl jc_ne W (fun W => ?_) (fun W => ?_)
      · exact W
      · refine J_aload_no (pc' := 32) rfl rfl zg8 rfl ?_
        refine J_iconst (pc' := 33) rfl (i32_d rfl) rfl ?_
        refine J_putI (G := 1003) (pc' := 36) rfl rfl (Nat.le_of_ble_eq_true rfl) rfl rfl zg8 rfl (fun zs16 ezs16 => ?_)
        replace W := W zs16 ezs16
        exact W
theorem wp_Model_type_36 {n : Nat} {σ : jS} {Q : Int → jS → Prop} {zo0 : Int} {zx1 : Int} {zx2 : Int} (W : 0 ≤ zo0 ∧ (∀ zs2, zs2 = ws σ 1001 zo0 0 → (if ¬ zx2 = 0 then 0 ≤ rl zs2 1047 zo0 ∧ 0 ≤ zx1 ∧ zx1 < rl zs2 1047 zo0 ∧ (∀ zs4, zs4 = wa zs2 1047 zo0 zx1 (rs zs2 1006 zo0) → 0 ≤ rl zs4 1004 zo0 ∧ 0 ≤ rl zs4 1046 zo0 ∧ i32 (12 * zx1) ∧ 1 ≤ n ∧ TrV (n - 1) i_Model_copy [ja 1004 zo0, ji 0, ji (rs zs4 1006 zo0), ja 1046 zo0, ji (12 * zx1)] zs4 (fun zs11 => Q (rs zs11 1006 zo0) zs11)) else Q (-1) zs2))) : J n c_Model_type (some .int) 36 [some (jo 1 zo0), some (ji zx1), some (ji zx2)] [] σ (qI Q) := by
  obtain ⟨zg1, W⟩ := W
  refine J_aload_no (pc' := 37) rfl rfl zg1 rfl ?_
  refine J_iconst (pc' := 38) rfl (i32_d rfl) rfl ?_
  refine J_putI (G := 1001) (pc' := 41) rfl rfl (Nat.le_of_ble_eq_true rfl) rfl rfl zg1 rfl (fun zs2 ezs2 => ?_)
  replace W := W zs2 ezs2
  refine J_iload_n (pc' := 42) rfl rfl rfl ?_
  refine J_if (P := ¬ zx2 = 0) (t := 47) (f := 45) rfl rfl rfl jc_ne W (fun W => ?_) (fun W => ?_)
  · refine J_aload_no (pc' := 48) rfl rfl zg1 rfl ?_
    obtain ⟨zg3, W⟩ := W
    refine J_getA (G := 1047) (pc' := 51) rfl rfl (Nat.le_of_ble_eq_true rfl) rfl zg1 zg3 rfl ?_
    refine J_iload_n (pc' := 52) rfl rfl rfl ?_
    refine J_aload_no (pc' := 53) rfl rfl zg1 rfl ?_
    refine J_getI (G := 1006) (pc' := 56) rfl rfl (Nat.le_of_ble_eq_true rfl) rfl zg1 rfl ?_
    obtain ⟨zg5, W⟩ := W
    obtain ⟨zg6, W⟩ := W
    refine J_iast (pc' := 57) rfl rfl (by decide) zg5 zg6 rfl (fun zs4 ezs4 => ?_)
    replace W := W zs4 ezs4
    refine J_aload_no (pc' := 58) rfl rfl zg1 rfl ?_
    obtain ⟨zg7, W⟩ := W
    refine J_getA (G := 1004) (pc' := 61) rfl rfl (Nat.le_of_ble_eq_true rfl) rfl zg1 zg7 rfl ?_
    refine J_iconst (pc' := 62) rfl (i32_d rfl) rfl ?_
    refine J_aload_no (pc' := 63) rfl rfl zg1 rfl ?_
    refine J_getI (G := 1006) (pc' := 66) rfl rfl (Nat.le_of_ble_eq_true rfl) rfl zg1 rfl ?_
    refine J_aload_no (pc' := 67) rfl rfl zg1 rfl ?_
    obtain ⟨zg8, W⟩ := W
    refine J_getA (G := 1046) (pc' := 70) rfl rfl (Nat.le_of_ble_eq_true rfl) rfl zg1 zg8 rfl ?_
    refine J_bipush (pc' := 72) rfl (by decide) (by decide) rfl ?_
    refine J_iload_n (pc' := 73) rfl rfl rfl ?_
    obtain ⟨zg9, W⟩ := W
    refine J_imul (pc' := 74) rfl zg9 rfl ?_
    obtain ⟨zg10, W⟩ := W
    refine J_weak (L' := [some (jo 1 zo0), none, none]) (And.intro rfl trivial) ?_
    refine J_callV (as := [ja 1004 zo0, ji 0, ji (rs zs4 1006 zo0), ja 1046 zo0, ji (12 * zx1)]) (rest := []) (pc' := 77) rfl rfl ax_Z_16 rfl rfl (Or.inl rfl) (Nat.le_of_ble_eq_true rfl) (Nat.le_of_ble_eq_true rfl) (Nat.le_of_ble_eq_true rfl) zg10 trivial trivial rfl W (fun zs11 W => ?_)
    refine J_aload_no (pc' := 78) rfl rfl zg1 rfl ?_
    refine J_getI (G := 1006) (pc' := 81) rfl rfl (Nat.le_of_ble_eq_true rfl) rfl zg1 rfl ?_
    exact J_iret rfl rfl ⟨_, rfl, W⟩
  · refine J_iconst (pc' := 46) rfl (i32_d rfl) rfl ?_
    exact J_iret rfl rfl ⟨_, rfl, W⟩
theorem wp_Model_forget {n : Nat} {σ : jS} {Q : jS → Prop} {zo0 : Int} (W : 0 ≤ zo0 ∧ (∀ zs2, zs2 = ws σ 1070 zo0 0 → (∀ zs3, zs3 = ws zs2 1063 zo0 0 → (∀ zs4, zs4 = ws zs3 1065 zo0 0 → Q zs4)))) : TrV n i_Model_forget [jo 1 zo0] σ Q := by
  refine Tr_of ax_Z_54 ?_
  show J n c_Model_forget none 0 [some (jo 1 zo0)] [] σ (qV Q)
  obtain ⟨zg1, W⟩ := W
  refine J_aload_no (pc' := 1) rfl rfl zg1 rfl ?_
  refine J_iconst (pc' := 2) rfl (i32_d rfl) rfl ?_
  refine J_putI (G := 1070) (pc' := 5) rfl rfl (Nat.le_of_ble_eq_true rfl) rfl rfl zg1 rfl (fun zs2 ezs2 => ?_)
  replace W := W zs2 ezs2
  refine J_aload_no (pc' := 6) rfl rfl zg1 rfl ?_
  refine J_iconst (pc' := 7) rfl (i32_d rfl) rfl ?_
  refine J_putI (G := 1063) (pc' := 10) rfl rfl (Nat.le_of_ble_eq_true rfl) rfl rfl zg1 rfl (fun zs3 ezs3 => ?_)
  replace W := W zs3 ezs3
  refine J_aload_no (pc' := 11) rfl rfl zg1 rfl ?_
  refine J_iconst (pc' := 12) rfl (i32_d rfl) rfl ?_
  refine J_putI (G := 1065) (pc' := 15) rfl rfl (Nat.le_of_ble_eq_true rfl) rfl rfl zg1 rfl (fun zs4 ezs4 => ?_)
  replace W := W zs4 ezs4
  exact J_vret rfl rfl ⟨rfl, W⟩
theorem wp_Model_memoryOf {n : Nat} {σ : jS} {Q : Int → jS → Prop} {zo0 : Int} {zx1 : Int} (W : J n c_Model_memoryOf (some .int) 2 [some (jo 1 zo0), some (ji zx1), some (ji 0), none, none] [] σ (qI Q)) : TrI n i_Model_memoryOf [jo 1 zo0, ji zx1] σ Q := by
  refine Tr_of ax_Z_55 ?_
  show J n c_Model_memoryOf (some .int) 0 [some (jo 1 zo0), some (ji zx1), none, none, none] [] σ (qI Q)
  refine J_iconst (pc' := 1) rfl (i32_d rfl) rfl ?_
  refine J_istore_n (L' := [some (jo 1 zo0), some (ji zx1), some (ji 0), none, none]) (pc' := 2) rfl (Nat.le_of_ble_eq_true rfl) rfl rfl ?_
  exact W
theorem wp_Model_memoryOf_2 {n : Nat} {σ : jS} {Q : Int → jS → Prop} {zo0 : Int} {zx1 : Int} {zx2 : Int} (W : 0 ≤ zo0 ∧ (if rs σ 1070 zo0 ≤ zx2 then Q (-1) σ else 0 ≤ rl σ 1066 zo0 ∧ 0 ≤ zx2 ∧ zx2 < rl σ 1066 zo0 ∧ (if ¬ ra σ 1066 zo0 zx2 = zx1 then i32 (zx2 + 1) ∧ J n c_Model_memoryOf (some .int) 2 [some (jo 1 zo0), some (ji zx1), some (ji (zx2 + 1)), none, none] [] σ (qI Q) else 0 ≤ rl σ 1067 zo0 ∧ zx2 < rl σ 1067 zo0 ∧ (if ra σ 1067 zo0 zx2 = rs σ 1043 zo0 then J n c_Model_memoryOf (some .int) 41 [some (jo 1 zo0), some (ji zx1), some (ji zx2), some (ji 1), some (ji 0)] [] σ (qI Q) else i32 (zx2 + 1) ∧ J n c_Model_memoryOf (some .int) 2 [some (jo 1 zo0), some (ji zx1), some (ji (zx2 + 1)), none, none] [] σ (qI Q))))) : J n c_Model_memoryOf (some .int) 2 [some (jo 1 zo0), some (ji zx1), some (ji zx2), none, none] [] σ (qI Q) := by
  refine J_iload_n (pc' := 3) rfl rfl rfl ?_
  obtain ⟨zg1, W⟩ := W
  refine J_aload_no (pc' := 4) rfl rfl zg1 rfl ?_
  refine J_getI (G := 1070) (pc' := 7) rfl rfl (Nat.le_of_ble_eq_true rfl) rfl zg1 rfl ?_
  refine J_icmp (P := rs σ 1070 zo0 ≤ zx2) (t := 100) (f := 10) rfl rfl rfl jc_ge W (fun W => ?_) (fun W => ?_)
  · refine J_iconst (pc' := 101) rfl (i32_d rfl) rfl ?_
    exact J_iret rfl rfl ⟨_, rfl, W⟩
  · refine J_aload_no (pc' := 11) rfl rfl zg1 rfl ?_
    obtain ⟨zg2, W⟩ := W
    refine J_getA (G := 1066) (pc' := 14) rfl rfl (Nat.le_of_ble_eq_true rfl) rfl zg1 zg2 rfl ?_
    refine J_iload_n (pc' := 15) rfl rfl rfl ?_
    obtain ⟨zg3, W⟩ := W
    obtain ⟨zg4, W⟩ := W
    refine J_iald (pc' := 16) rfl rfl zg3 zg4 rfl ?_
    refine J_iload_n (pc' := 17) rfl rfl rfl ?_
    refine J_icmp (P := ¬ ra σ 1066 zo0 zx2 = zx1) (t := 94) (f := 20) rfl rfl rfl jc_ne W (fun W => ?_) (fun W => ?_)
    · obtain ⟨zg5, W⟩ := W
      refine J_iinc (L' := [some (jo 1 zo0), some (ji zx1), some (ji (zx2 + 1)), none, none]) (pc' := 97) rfl rfl zg5 rfl rfl ?_
      refine J_goto (pc' := 2) rfl rfl ?_
      exact W
    · refine J_aload_no (pc' := 21) rfl rfl zg1 rfl ?_
      obtain ⟨zg6, W⟩ := W
      refine J_getA (G := 1067) (pc' := 24) rfl rfl (Nat.le_of_ble_eq_true rfl) rfl zg1 zg6 rfl ?_
      refine J_iload_n (pc' := 25) rfl rfl rfl ?_
      obtain ⟨zg7, W⟩ := W
      refine J_iald (pc' := 26) rfl rfl zg3 zg7 rfl ?_
      refine J_aload_no (pc' := 27) rfl rfl zg1 rfl ?_
      refine J_getI (G := 1043) (pc' := 30) rfl rfl (Nat.le_of_ble_eq_true rfl) rfl zg1 rfl ?_
      refine J_icmp (P := ra σ 1067 zo0 zx2 = rs σ 1043 zo0) (t := 36) (f := 33) rfl rfl rfl jc_eq W (fun W => ?_) (fun W => ?_)
      · refine J_iconst (pc' := 37) rfl (i32_d rfl) rfl ?_
        refine J_istore_n (L' := [some (jo 1 zo0), some (ji zx1), some (ji zx2), some (ji 1), none]) (pc' := 38) rfl (Nat.le_of_ble_eq_true rfl) rfl rfl ?_
        refine J_iconst (pc' := 39) rfl (i32_d rfl) rfl ?_
        refine J_istore (L' := [some (jo 1 zo0), some (ji zx1), some (ji zx2), some (ji 1), some (ji 0)]) (pc' := 41) rfl (Nat.le_of_ble_eq_true rfl) rfl rfl ?_
        exact W
      · refine J_goto (pc' := 94) rfl rfl ?_
        obtain ⟨zg8, W⟩ := W
        refine J_iinc (L' := [some (jo 1 zo0), some (ji zx1), some (ji (zx2 + 1)), none, none]) (pc' := 97) rfl rfl zg8 rfl rfl ?_
        refine J_goto (pc' := 2) rfl rfl ?_
        exact W
theorem wp_Model_memoryOf_41 {n : Nat} {σ : jS} {Q : Int → jS → Prop} {zo0 : Int} {zx1 : Int} {zx2 : Int} {zx3 : Int} {zx4 : Int} (W : 0 ≤ zo0 ∧ (if rs σ 1043 zo0 ≤ zx4 then (if zx3 = 0 then i32 (zx2 + 1) ∧ J n c_Model_memoryOf (some .int) 2 [some (jo 1 zo0), some (ji zx1), some (ji (zx2 + 1)), none, none] [] σ (qI Q) else Q zx2 σ) else (if zx3 = 0 then (if zx3 = 0 then i32 (zx2 + 1) ∧ J n c_Model_memoryOf (some .int) 2 [some (jo 1 zo0), some (ji zx1), some (ji (zx2 + 1)), none, none] [] σ (qI Q) else Q zx2 σ) else 0 ≤ rl σ 1068 zo0 ∧ i32 (100 * zx2) ∧ i32 ((100 * zx2) + zx4) ∧ 0 ≤ (100 * zx2) + zx4 ∧ (100 * zx2) + zx4 < rl σ 1068 zo0 ∧ 0 ≤ rl σ 1041 zo0 ∧ 0 ≤ zx4 ∧ zx4 < rl σ 1041 zo0 ∧ (if ¬ ra σ 1068 zo0 ((100 * zx2) + zx4) = ra σ 1041 zo0 zx4 then i32 (zx4 + 1) ∧ J n c_Model_memoryOf (some .int) 41 [some (jo 1 zo0), some (ji zx1), some (ji zx2), some (ji 0), some (ji (zx4 + 1))] [] σ (qI Q) else i32 (zx4 + 1) ∧ J n c_Model_memoryOf (some .int) 41 [some (jo 1 zo0), some (ji zx1), some (ji zx2), some (ji 1), some (ji (zx4 + 1))] [] σ (qI Q))))) : J n c_Model_memoryOf (some .int) 41 [some (jo 1 zo0), some (ji zx1), some (ji zx2), some (ji zx3), some (ji zx4)] [] σ (qI Q) := by
  refine J_iload (pc' := 43) rfl rfl rfl ?_
  obtain ⟨zg1, W⟩ := W
  refine J_aload_no (pc' := 44) rfl rfl zg1 rfl ?_
  refine J_getI (G := 1043) (pc' := 47) rfl rfl (Nat.le_of_ble_eq_true rfl) rfl zg1 rfl ?_
  refine J_icmp (P := rs σ 1043 zo0 ≤ zx4) (t := 88) (f := 50) rfl rfl rfl jc_ge W (fun W => ?_) (fun W => ?_)
  · refine J_iload_n (pc' := 89) rfl rfl rfl ?_
    refine J_if (P := zx3 = 0) (t := 94) (f := 92) rfl rfl rfl jc_eq W (fun W => ?_) (fun W => ?_)
    · obtain ⟨zg2, W⟩ := W
      refine J_iinc (L' := [some (jo 1 zo0), some (ji zx1), some (ji (zx2 + 1)), some (ji zx3), some (ji zx4)]) (pc' := 97) rfl rfl zg2 rfl rfl ?_
      refine J_goto (pc' := 2) rfl rfl ?_
      refine J_weak (L' := [some (jo 1 zo0), some (ji zx1), some (ji (zx2 + 1)), none, none]) (And.intro rfl (And.intro rfl (And.intro rfl trivial))) ?_
      exact W
    · refine J_iload_n (pc' := 93) rfl rfl rfl ?_
      exact J_iret rfl rfl ⟨_, rfl, W⟩
  · refine J_iload_n (pc' := 51) rfl rfl rfl ?_
    refine J_if (P := zx3 = 0) (t := 88) (f := 54) rfl rfl rfl jc_eq W (fun W => ?_) (fun W => ?_)
    · refine J_iload_n (pc' := 89) rfl rfl rfl ?_
      refine J_if (P := zx3 = 0) (t := 94) (f := 92) rfl rfl rfl jc_eq W (fun W => ?_) (fun W => ?_)
      · obtain ⟨zg3, W⟩ := W
        refine J_iinc (L' := [some (jo 1 zo0), some (ji zx1), some (ji (zx2 + 1)), some (ji zx3), some (ji zx4)]) (pc' := 97) rfl rfl zg3 rfl rfl ?_
        refine J_goto (pc' := 2) rfl rfl ?_
        refine J_weak (L' := [some (jo 1 zo0), some (ji zx1), some (ji (zx2 + 1)), none, none]) (And.intro rfl (And.intro rfl (And.intro rfl trivial))) ?_
        exact W
      · refine J_iload_n (pc' := 93) rfl rfl rfl ?_
        exact J_iret rfl rfl ⟨_, rfl, W⟩
    · refine J_aload_no (pc' := 55) rfl rfl zg1 rfl ?_
      obtain ⟨zg4, W⟩ := W
      refine J_getA (G := 1068) (pc' := 58) rfl rfl (Nat.le_of_ble_eq_true rfl) rfl zg1 zg4 rfl ?_
      refine J_bipush (pc' := 60) rfl (by decide) (by decide) rfl ?_
      refine J_iload_n (pc' := 61) rfl rfl rfl ?_
      obtain ⟨zg5, W⟩ := W
      refine J_imul (pc' := 62) rfl zg5 rfl ?_
      refine J_iload (pc' := 64) rfl rfl rfl ?_
      obtain ⟨zg6, W⟩ := W
      refine J_iadd (pc' := 65) rfl zg6 rfl ?_
      obtain ⟨zg7, W⟩ := W
      obtain ⟨zg8, W⟩ := W
      refine J_iald (pc' := 66) rfl rfl zg7 zg8 rfl ?_
      refine J_aload_no (pc' := 67) rfl rfl zg1 rfl ?_
      obtain ⟨zg9, W⟩ := W
      refine J_getA (G := 1041) (pc' := 70) rfl rfl (Nat.le_of_ble_eq_true rfl) rfl zg1 zg9 rfl ?_
      refine J_iload (pc' := 72) rfl rfl rfl ?_
      obtain ⟨zg10, W⟩ := W
      obtain ⟨zg11, W⟩ := W
      refine J_iald (pc' := 73) rfl rfl zg10 zg11 rfl ?_
      refine J_icmp (P := ¬ ra σ 1068 zo0 ((100 * zx2) + zx4) = ra σ 1041 zo0 zx4) (t := 80) (f := 76) rfl rfl rfl jc_ne W (fun W => ?_) (fun W => ?_)
      · refine J_iconst (pc' := 81) rfl (i32_d rfl) rfl ?_
        refine J_istore_n (L' := [some (jo 1 zo0), some (ji zx1), some (ji zx2), some (ji 0), some (ji zx4)]) (pc' := 82) rfl (Nat.le_of_ble_eq_true rfl) rfl rfl ?_
        obtain ⟨zg12, W⟩ := W
        refine J_iinc (L' := [some (jo 1 zo0), some (ji zx1), some (ji zx2), some (ji 0), some (ji (zx4 + 1))]) (pc' := 85) rfl rfl zg12 rfl rfl ?_
        refine J_goto (pc' := 41) rfl rfl ?_
        exact W
      · refine J_iconst (pc' := 77) rfl (i32_d rfl) rfl ?_
        refine J_goto (pc' := 81) rfl rfl ?_
        refine J_istore_n (L' := [some (jo 1 zo0), some (ji zx1), some (ji zx2), some (ji 1), some (ji zx4)]) (pc' := 82) rfl (Nat.le_of_ble_eq_true rfl) rfl rfl ?_
        obtain ⟨zg13, W⟩ := W
        refine J_iinc (L' := [some (jo 1 zo0), some (ji zx1), some (ji zx2), some (ji 1), some (ji (zx4 + 1))]) (pc' := 85) rfl rfl zg13 rfl rfl ?_
        refine J_goto (pc' := 41) rfl rfl ?_
        exact W
theorem wp_Model_openLevel {n : Nat} {σ : jS} {Q : jS → Prop} {zo0 : Int} {zx1 : Int} {zx2 : Int} {zx3 : Int} (W : 0 ≤ zo0 ∧ 0 ≤ rl σ 1074 zo0 ∧ 0 ≤ zx1 ∧ zx1 < rl σ 1074 zo0 ∧ (∀ zs3, zs3 = wa σ 1074 zo0 zx1 zx2 → 0 ≤ rl zs3 1075 zo0 ∧ zx1 < rl zs3 1075 zo0 ∧ (∀ zs7, zs7 = wa zs3 1075 zo0 zx1 zx3 → 0 ≤ rl zs7 1076 zo0 ∧ zx1 < rl zs7 1076 zo0 ∧ (∀ zs10, zs10 = wa zs7 1076 zo0 zx1 0 → 0 ≤ rl zs10 1078 zo0 ∧ zx1 < rl zs10 1078 zo0 ∧ (∀ zs13, zs13 = wa zs10 1078 zo0 zx1 0 → 0 ≤ rl zs13 1079 zo0 ∧ zx1 < rl zs13 1079 zo0 ∧ (∀ zs16, zs16 = wa zs13 1079 zo0 zx1 0 → 0 ≤ rl zs16 1080 zo0 ∧ zx1 < rl zs16 1080 zo0 ∧ (∀ zs19, zs19 = wa zs16 1080 zo0 zx1 24 → (if ¬ zx2 = (-1) then 0 ≤ rl zs19 1076 zo0 ∧ 0 ≤ rl zs19 1071 zo0 ∧ zx1 < rl zs19 1071 zo0 ∧ 1 ≤ n ∧ TrI (n - 1) i_Model_candidatesOf [jo 1 zo0, ji (ra zs19 1071 zo0 zx1), ji zx2] zs19 (fun zr26 zs25 => zx1 < rl zs25 1076 zo0 ∧ (∀ zs27, zs27 = wa zs25 1076 zo0 zx1 zr26 → 0 ≤ rl zs27 1077 zo0 ∧ 0 ≤ rl zs27 1076 zo0 ∧ zx1 < rl zs27 1076 zo0 ∧ TrI (n - 1) i_Model_bits [ji (ra zs27 1076 zo0 zx1)] zs27 (fun zr33 zs32 => zx1 < rl zs32 1077 zo0 ∧ (∀ zs34, zs34 = wa zs32 1077 zo0 zx1 zr33 → TrV (n - 1) i_Model_newRound [jo 1 zo0, ji zx1] zs34 (fun zs36 => Q zs36))))) else Q zs19)))))))) : TrV n i_Model_openLevel [jo 1 zo0, ji zx1, ji zx2, ji zx3] σ Q := by
  refine Tr_of ax_Z_56 ?_
  show J n c_Model_openLevel none 0 [some (jo 1 zo0), some (ji zx1), some (ji zx2), some (ji zx3)] [] σ (qV Q)
  obtain ⟨zg1, W⟩ := W
  refine J_aload_no (pc' := 1) rfl rfl zg1 rfl ?_
  obtain ⟨zg2, W⟩ := W
  refine J_getA (G := 1074) (pc' := 4) rfl rfl (Nat.le_of_ble_eq_true rfl) rfl zg1 zg2 rfl ?_
  refine J_iload_n (pc' := 5) rfl rfl rfl ?_
  refine J_iload_n (pc' := 6) rfl rfl rfl ?_
  obtain ⟨zg4, W⟩ := W
  obtain ⟨zg5, W⟩ := W
  refine J_iast (pc' := 7) rfl rfl (by decide) zg4 zg5 rfl (fun zs3 ezs3 => ?_)
  replace W := W zs3 ezs3
  refine J_aload_no (pc' := 8) rfl rfl zg1 rfl ?_
  obtain ⟨zg6, W⟩ := W
  refine J_getA (G := 1075) (pc' := 11) rfl rfl (Nat.le_of_ble_eq_true rfl) rfl zg1 zg6 rfl ?_
  refine J_iload_n (pc' := 12) rfl rfl rfl ?_
  refine J_iload_n (pc' := 13) rfl rfl rfl ?_
  obtain ⟨zg8, W⟩ := W
  refine J_iast (pc' := 14) rfl rfl (by decide) zg4 zg8 rfl (fun zs7 ezs7 => ?_)
  replace W := W zs7 ezs7
  refine J_aload_no (pc' := 15) rfl rfl zg1 rfl ?_
  obtain ⟨zg9, W⟩ := W
  refine J_getA (G := 1076) (pc' := 18) rfl rfl (Nat.le_of_ble_eq_true rfl) rfl zg1 zg9 rfl ?_
  refine J_iload_n (pc' := 19) rfl rfl rfl ?_
  refine J_iconst (pc' := 20) rfl (i32_d rfl) rfl ?_
  obtain ⟨zg11, W⟩ := W
  refine J_iast (pc' := 21) rfl rfl (by decide) zg4 zg11 rfl (fun zs10 ezs10 => ?_)
  replace W := W zs10 ezs10
  refine J_aload_no (pc' := 22) rfl rfl zg1 rfl ?_
  obtain ⟨zg12, W⟩ := W
  refine J_getA (G := 1078) (pc' := 25) rfl rfl (Nat.le_of_ble_eq_true rfl) rfl zg1 zg12 rfl ?_
  refine J_iload_n (pc' := 26) rfl rfl rfl ?_
  refine J_iconst (pc' := 27) rfl (i32_d rfl) rfl ?_
  obtain ⟨zg14, W⟩ := W
  refine J_iast (pc' := 28) rfl rfl (by decide) zg4 zg14 rfl (fun zs13 ezs13 => ?_)
  replace W := W zs13 ezs13
  refine J_aload_no (pc' := 29) rfl rfl zg1 rfl ?_
  obtain ⟨zg15, W⟩ := W
  refine J_getA (G := 1079) (pc' := 32) rfl rfl (Nat.le_of_ble_eq_true rfl) rfl zg1 zg15 rfl ?_
  refine J_iload_n (pc' := 33) rfl rfl rfl ?_
  refine J_iconst (pc' := 34) rfl (i32_d rfl) rfl ?_
  obtain ⟨zg17, W⟩ := W
  refine J_iast (pc' := 35) rfl rfl (by decide) zg4 zg17 rfl (fun zs16 ezs16 => ?_)
  replace W := W zs16 ezs16
  refine J_aload_no (pc' := 36) rfl rfl zg1 rfl ?_
  obtain ⟨zg18, W⟩ := W
  refine J_getA (G := 1080) (pc' := 39) rfl rfl (Nat.le_of_ble_eq_true rfl) rfl zg1 zg18 rfl ?_
  refine J_iload_n (pc' := 40) rfl rfl rfl ?_
  refine J_bipush (pc' := 42) rfl (by decide) (by decide) rfl ?_
  obtain ⟨zg20, W⟩ := W
  refine J_iast (pc' := 43) rfl rfl (by decide) zg4 zg20 rfl (fun zs19 ezs19 => ?_)
  replace W := W zs19 ezs19
  refine J_iload_n (pc' := 44) rfl rfl rfl ?_
  refine J_iconst (pc' := 45) rfl (i32_d rfl) rfl ?_
  refine J_icmp (P := ¬ zx2 = (-1)) (t := 49) (f := 48) rfl rfl rfl jc_ne W (fun W => ?_) (fun W => ?_)
  · refine J_aload_no (pc' := 50) rfl rfl zg1 rfl ?_
    obtain ⟨zg21, W⟩ := W
    refine J_getA (G := 1076) (pc' := 53) rfl rfl (Nat.le_of_ble_eq_true rfl) rfl zg1 zg21 rfl ?_
    refine J_iload_n (pc' := 54) rfl rfl rfl ?_
    refine J_aload_no (pc' := 55) rfl rfl zg1 rfl ?_
    refine J_aload_no (pc' := 56) rfl rfl zg1 rfl ?_
    obtain ⟨zg22, W⟩ := W
    refine J_getA (G := 1071) (pc' := 59) rfl rfl (Nat.le_of_ble_eq_true rfl) rfl zg1 zg22 rfl ?_
    refine J_iload_n (pc' := 60) rfl rfl rfl ?_
    obtain ⟨zg23, W⟩ := W
    refine J_iald (pc' := 61) rfl rfl zg4 zg23 rfl ?_
    refine J_iload_n (pc' := 62) rfl rfl rfl ?_
    obtain ⟨zg24, W⟩ := W
    refine J_weak (L' := [some (jo 1 zo0), some (ji zx1), none, none]) (And.intro rfl (And.intro rfl trivial)) ?_
    refine J_callI (as := [jo 1 zo0, ji (ra zs19 1071 zo0 zx1), ji zx2]) (rest := [ji zx1, ja 1076 zo0]) (pc' := 65) rfl rfl ax_Z_57 rfl rfl (Or.inr (Or.inr ⟨_, _, rfl, zg1⟩)) (Nat.le_of_ble_eq_true rfl) (Nat.le_of_ble_eq_true rfl) (Nat.le_of_ble_eq_true rfl) zg24 trivial (And.intro rfl trivial) rfl W (fun zr26 zs25 W => ?_)
    obtain ⟨zg28, W⟩ := W
    refine J_iast (pc' := 66) rfl rfl (by decide) zg4 zg28 rfl (fun zs27 ezs27 => ?_)
    replace W := W zs27 ezs27
    refine J_aload_no (pc' := 67) rfl rfl zg1 rfl ?_
    obtain ⟨zg29, W⟩ := W
    refine J_getA (G := 1077) (pc' := 70) rfl rfl (Nat.le_of_ble_eq_true rfl) rfl zg1 zg29 rfl ?_
    refine J_iload_n (pc' := 71) rfl rfl rfl ?_
    refine J_aload_no (pc' := 72) rfl rfl zg1 rfl ?_
    obtain ⟨zg30, W⟩ := W
    refine J_getA (G := 1076) (pc' := 75) rfl rfl (Nat.le_of_ble_eq_true rfl) rfl zg1 zg30 rfl ?_
    refine J_iload_n (pc' := 76) rfl rfl rfl ?_
    obtain ⟨zg31, W⟩ := W
    refine J_iald (pc' := 77) rfl rfl zg4 zg31 rfl ?_
    refine J_callI (as := [ji (ra zs27 1076 zo0 zx1)]) (rest := [ji zx1, ja 1077 zo0]) (pc' := 80) rfl rfl ax_Z_2 rfl rfl (Or.inl rfl) (Nat.le_of_ble_eq_true rfl) (Nat.le_of_ble_eq_true rfl) (Nat.le_of_ble_eq_true rfl) zg24 trivial (And.intro rfl trivial) rfl W (fun zr33 zs32 W => ?_)
    obtain ⟨zg35, W⟩ := W
    refine J_iast (pc' := 81) rfl rfl (by decide) zg4 zg35 rfl (fun zs34 ezs34 => ?_)
    replace W := W zs34 ezs34
    refine J_aload_no (pc' := 82) rfl rfl zg1 rfl ?_
    refine J_iload_n (pc' := 83) rfl rfl rfl ?_
    refine J_weak (L' := [none, none, none, none]) trivial ?_
    refine J_callV (as := [jo 1 zo0, ji zx1]) (rest := []) (pc' := 86) rfl rfl ax_Z_59 rfl rfl (Or.inr (Or.inr ⟨_, _, rfl, zg1⟩)) (Nat.le_of_ble_eq_true rfl) (Nat.le_of_ble_eq_true rfl) (Nat.le_of_ble_eq_true rfl) zg24 trivial trivial rfl W (fun zs36 W => ?_)
    exact J_vret rfl rfl ⟨rfl, W⟩
  · exact J_vret rfl rfl ⟨rfl, W⟩
theorem wp_Model_candidatesOf {n : Nat} {σ : jS} {Q : Int → jS → Prop} {zo0 : Int} {zx1 : Int} {zx2 : Int} (W : 0 ≤ zo0 ∧ J n c_Model_candidatesOf (some .int) 23 [some (jo 1 zo0), some (ji zx1), some (ji zx2), some (ji 0), some (ji (rs σ 1035 zo0)), some (ji (rs σ 1033 zo0)), some (ji (rs σ 1034 zo0)), some (ji 0)] [] σ (qI Q)) : TrI n i_Model_candidatesOf [jo 1 zo0, ji zx1, ji zx2] σ Q := by
  refine Tr_of ax_Z_57 ?_
  show J n c_Model_candidatesOf (some .int) 0 [some (jo 1 zo0), some (ji zx1), some (ji zx2), none, none, none, none, none] [] σ (qI Q)
  refine J_iconst (pc' := 1) rfl (i32_d rfl) rfl ?_
  refine J_istore_n (L' := [some (jo 1 zo0), some (ji zx1), some (ji zx2), some (ji 0), none, none, none, none]) (pc' := 2) rfl (Nat.le_of_ble_eq_true rfl) rfl rfl ?_
  obtain ⟨zg1, W⟩ := W
  refine J_aload_no (pc' := 3) rfl rfl zg1 rfl ?_
  refine J_getI (G := 1035) (pc' := 6) rfl rfl (Nat.le_of_ble_eq_true rfl) rfl zg1 rfl ?_
  refine J_istore (L' := [some (jo 1 zo0), some (ji zx1), some (ji zx2), some (ji 0), some (ji (rs σ 1035 zo0)), none, none, none]) (pc' := 8) rfl (Nat.le_of_ble_eq_true rfl) rfl rfl ?_
  refine J_aload_no (pc' := 9) rfl rfl zg1 rfl ?_
  refine J_getI (G := 1033) (pc' := 12) rfl rfl (Nat.le_of_ble_eq_true rfl) rfl zg1 rfl ?_
  refine J_istore (L' := [some (jo 1 zo0), some (ji zx1), some (ji zx2), some (ji 0), some (ji (rs σ 1035 zo0)), some (ji (rs σ 1033 zo0)), none, none]) (pc' := 14) rfl (Nat.le_of_ble_eq_true rfl) rfl rfl ?_
  refine J_aload_no (pc' := 15) rfl rfl zg1 rfl ?_
  refine J_getI (G := 1034) (pc' := 18) rfl rfl (Nat.le_of_ble_eq_true rfl) rfl zg1 rfl ?_
  refine J_istore (L' := [some (jo 1 zo0), some (ji zx1), some (ji zx2), some (ji 0), some (ji (rs σ 1035 zo0)), some (ji (rs σ 1033 zo0)), some (ji (rs σ 1034 zo0)), none]) (pc' := 20) rfl (Nat.le_of_ble_eq_true rfl) rfl rfl ?_
  refine J_iconst (pc' := 21) rfl (i32_d rfl) rfl ?_
  refine J_istore (L' := [some (jo 1 zo0), some (ji zx1), some (ji zx2), some (ji 0), some (ji (rs σ 1035 zo0)), some (ji (rs σ 1033 zo0)), some (ji (rs σ 1034 zo0)), some (ji 0)]) (pc' := 23) rfl (Nat.le_of_ble_eq_true rfl) rfl rfl ?_
  exact W
theorem wp_Model_candidatesOf_23 {n : Nat} {σ : jS} {Q : Int → jS → Prop} {zo0 : Int} {zx1 : Int} {zx2 : Int} {zx3 : Int} {zx4 : Int} {zx5 : Int} {zx6 : Int} {zx7 : Int} (W : 0 ≤ zo0 ∧ (if rs σ 1014 zo0 ≤ zx7 then Q zx3 σ else 0 ≤ rl σ 1009 zo0 ∧ 0 ≤ zx7 ∧ zx7 < rl σ 1009 zo0 ∧ (if ¬ ra σ 1009 zo0 zx7 = zx2 then i32 (zx7 + 1) ∧ J n c_Model_candidatesOf (some .int) 23 [some (jo 1 zo0), some (ji zx1), some (ji zx2), some (ji zx3), some (ji zx4), some (ji zx5), some (ji zx6), some (ji (zx7 + 1))] [] σ (qI Q) else 1 ≤ n ∧ TrI (n - 1) i_Model_has [ji (rs σ 1015 zo0), ji zx7] σ (fun zr8 zs7 => (if ¬ zr8 = 0 then i32 (zx7 + 1) ∧ J n c_Model_candidatesOf (some .int) 23 [some (jo 1 zo0), some (ji zx1), some (ji zx2), some (ji zx3), some (ji zx4), some (ji zx5), some (ji zx6), some (ji (zx7 + 1))] [] zs7 (qI Q) else TrI (n - 1) i_Model_has [ji (rs zs7 1016 zo0), ji zx2] zs7 (fun zr11 zs10 => (if zr11 = 0 then TrI (n - 1) i_Model_layGiven [jo 1 zo0, ji zx7, ji 0] zs10 (fun zr13 zs12 => TrI (n - 1) i_Model_isUnified [jo 1 zo0, ji zr13, ji zx1] zs12 (fun zr15 zs14 => (if zr15 = 0 then TrV (n - 1) i_Model_untie [jo 1 zo0, ji zx4] zs14 (fun zs16 => (∀ zs18, zs18 = ws zs16 1033 zo0 zx5 → (∀ zs19, zs19 = ws zs18 1034 zo0 zx6 → i32 (zx7 + 1) ∧ J n c_Model_candidatesOf (some .int) 23 [some (jo 1 zo0), some (ji zx1), some (ji zx2), some (ji (bOr zx3 0)), some (ji zx4), some (ji zx5), some (ji zx6), some (ji (zx7 + 1))] [] zs19 (qI Q)))) else TrV (n - 1) i_Model_untie [jo 1 zo0, ji zx4] zs14 (fun zs21 => (∀ zs23, zs23 = ws zs21 1033 zo0 zx5 → (∀ zs24, zs24 = ws zs23 1034 zo0 zx6 → i32 (zx7 + 1) ∧ J n c_Model_candidatesOf (some .int) 23 [some (jo 1 zo0), some (ji zx1), some (ji zx2), some (ji (bOr zx3 (bShl 1 zx7))), some (ji zx4), some (ji zx5), some (ji zx6), some (ji (zx7 + 1))] [] zs24 (qI Q))))))) else i32 (zx7 + 1) ∧ J n c_Model_candidatesOf (some .int) 23 [some (jo 1 zo0), some (ji zx1), some (ji zx2), some (ji zx3), some (ji zx4), some (ji zx5), some (ji zx6), some (ji (zx7 + 1))] [] zs10 (qI Q)))))))) : J n c_Model_candidatesOf (some .int) 23 [some (jo 1 zo0), some (ji zx1), some (ji zx2), some (ji zx3), some (ji zx4), some (ji zx5), some (ji zx6), some (ji zx7)] [] σ (qI Q) := by
  refine J_iload (pc' := 25) rfl rfl rfl ?_
  obtain ⟨zg1, W⟩ := W
  refine J_aload_no (pc' := 26) rfl rfl zg1 rfl ?_
  refine J_getI (G := 1014) (pc' := 29) rfl rfl (Nat.le_of_ble_eq_true rfl) rfl zg1 rfl ?_
  refine J_icmp (P := rs σ 1014 zo0 ≤ zx7) (t := 119) (f := 32) rfl rfl rfl jc_ge W (fun W => ?_) (fun W => ?_)
  · refine J_iload_n (pc' := 120) rfl rfl rfl ?_
    exact J_iret rfl rfl ⟨_, rfl, W⟩
  · refine J_aload_no (pc' := 33) rfl rfl zg1 rfl ?_
    obtain ⟨zg2, W⟩ := W
    refine J_getA (G := 1009) (pc' := 36) rfl rfl (Nat.le_of_ble_eq_true rfl) rfl zg1 zg2 rfl ?_
    refine J_iload (pc' := 38) rfl rfl rfl ?_
    obtain ⟨zg3, W⟩ := W
    obtain ⟨zg4, W⟩ := W
    refine J_iald (pc' := 39) rfl rfl zg3 zg4 rfl ?_
    refine J_iload_n (pc' := 40) rfl rfl rfl ?_
    refine J_icmp (P := ¬ ra σ 1009 zo0 zx7 = zx2) (t := 113) (f := 43) rfl rfl rfl jc_ne W (fun W => ?_) (fun W => ?_)
    · obtain ⟨zg5, W⟩ := W
      refine J_iinc (L' := [some (jo 1 zo0), some (ji zx1), some (ji zx2), some (ji zx3), some (ji zx4), some (ji zx5), some (ji zx6), some (ji (zx7 + 1))]) (pc' := 116) rfl rfl zg5 rfl rfl ?_
      refine J_goto (pc' := 23) rfl rfl ?_
      exact W
    · refine J_aload_no (pc' := 44) rfl rfl zg1 rfl ?_
      refine J_getI (G := 1015) (pc' := 47) rfl rfl (Nat.le_of_ble_eq_true rfl) rfl zg1 rfl ?_
      refine J_iload (pc' := 49) rfl rfl rfl ?_
      obtain ⟨zg6, W⟩ := W
      refine J_callI (as := [ji (rs σ 1015 zo0), ji zx7]) (rest := []) (pc' := 52) rfl rfl ax_Z_1 rfl rfl (Or.inl rfl) (Nat.le_of_ble_eq_true rfl) (Nat.le_of_ble_eq_true rfl) (Nat.le_of_ble_eq_true rfl) zg6 trivial trivial rfl W (fun zr8 zs7 W => ?_)
      refine J_if (P := ¬ zr8 = 0) (t := 113) (f := 55) rfl rfl rfl jc_ne W (fun W => ?_) (fun W => ?_)
      · obtain ⟨zg9, W⟩ := W
        refine J_iinc (L' := [some (jo 1 zo0), some (ji zx1), some (ji zx2), some (ji zx3), some (ji zx4), some (ji zx5), some (ji zx6), some (ji (zx7 + 1))]) (pc' := 116) rfl rfl zg9 rfl rfl ?_
        refine J_goto (pc' := 23) rfl rfl ?_
        exact W
      · refine J_aload_no (pc' := 56) rfl rfl zg1 rfl ?_
        refine J_getI (G := 1016) (pc' := 59) rfl rfl (Nat.le_of_ble_eq_true rfl) rfl zg1 rfl ?_
        refine J_iload_n (pc' := 60) rfl rfl rfl ?_
        refine J_callI (as := [ji (rs zs7 1016 zo0), ji zx2]) (rest := []) (pc' := 63) rfl rfl ax_Z_1 rfl rfl (Or.inl rfl) (Nat.le_of_ble_eq_true rfl) (Nat.le_of_ble_eq_true rfl) (Nat.le_of_ble_eq_true rfl) zg6 trivial trivial rfl W (fun zr11 zs10 W => ?_)
        refine J_if (P := zr11 = 0) (t := 69) (f := 66) rfl rfl rfl jc_eq W (fun W => ?_) (fun W => ?_)
        · refine J_iload_n (pc' := 70) rfl rfl rfl ?_
          refine J_aload_no (pc' := 71) rfl rfl zg1 rfl ?_
          refine J_aload_no (pc' := 72) rfl rfl zg1 rfl ?_
          refine J_iload (pc' := 74) rfl rfl rfl ?_
          refine J_iconst (pc' := 75) rfl (i32_d rfl) rfl ?_
          refine J_weak (L' := [some (jo 1 zo0), some (ji zx1), some (ji zx2), none, some (ji zx4), some (ji zx5), some (ji zx6), some (ji zx7)]) (And.intro rfl (And.intro rfl (And.intro rfl (And.intro rfl (And.intro rfl (And.intro rfl (And.intro rfl trivial))))))) ?_
          refine J_callI (as := [jo 1 zo0, ji zx7, ji 0]) (rest := [jo 1 zo0, ji zx3]) (pc' := 78) rfl rfl ax_Z_43 rfl rfl (Or.inr (Or.inr ⟨_, _, rfl, zg1⟩)) (Nat.le_of_ble_eq_true rfl) (Nat.le_of_ble_eq_true rfl) (Nat.le_of_ble_eq_true rfl) zg6 trivial trivial rfl W (fun zr13 zs12 W => ?_)
          refine J_iload_n (pc' := 79) rfl rfl rfl ?_
          refine J_callI (as := [jo 1 zo0, ji zr13, ji zx1]) (rest := [ji zx3]) (pc' := 82) rfl rfl ax_Z_48 rfl rfl (Or.inr (Or.inr ⟨_, _, rfl, zg1⟩)) (Nat.le_of_ble_eq_true rfl) (Nat.le_of_ble_eq_true rfl) (Nat.le_of_ble_eq_true rfl) zg6 trivial trivial rfl W (fun zr15 zs14 W => ?_)
          refine J_if (P := zr15 = 0) (t := 92) (f := 85) rfl rfl rfl jc_eq W (fun W => ?_) (fun W => ?_)
          · refine J_iconst (pc' := 93) rfl (i32_d rfl) rfl ?_
            refine J_ior (pc' := 94) rfl rfl ?_
            refine J_istore_n (L' := [some (jo 1 zo0), some (ji zx1), some (ji zx2), some (ji (bOr zx3 0)), some (ji zx4), some (ji zx5), some (ji zx6), some (ji zx7)]) (pc' := 95) rfl (Nat.le_of_ble_eq_true rfl) rfl rfl ?_
            refine J_aload_no (pc' := 96) rfl rfl zg1 rfl ?_
            refine J_iload (pc' := 98) rfl rfl rfl ?_
            refine J_callV (as := [jo 1 zo0, ji zx4]) (rest := []) (pc' := 101) rfl rfl ax_Z_46 rfl rfl (Or.inr (Or.inr ⟨_, _, rfl, zg1⟩)) (Nat.le_of_ble_eq_true rfl) (Nat.le_of_ble_eq_true rfl) (Nat.le_of_ble_eq_true rfl) zg6 trivial trivial rfl W (fun zs16 W => ?_)
            refine J_aload_no (pc' := 102) rfl rfl zg1 rfl ?_
            refine J_iload (pc' := 104) rfl rfl rfl ?_
            refine J_putI (G := 1033) (pc' := 107) rfl rfl (Nat.le_of_ble_eq_true rfl) rfl rfl zg1 rfl (fun zs18 ezs18 => ?_)
            replace W := W zs18 ezs18
            refine J_aload_no (pc' := 108) rfl rfl zg1 rfl ?_
            refine J_iload (pc' := 110) rfl rfl rfl ?_
            refine J_putI (G := 1034) (pc' := 113) rfl rfl (Nat.le_of_ble_eq_true rfl) rfl rfl zg1 rfl (fun zs19 ezs19 => ?_)
            replace W := W zs19 ezs19
            obtain ⟨zg20, W⟩ := W
            refine J_iinc (L' := [some (jo 1 zo0), some (ji zx1), some (ji zx2), some (ji (bOr zx3 0)), some (ji zx4), some (ji zx5), some (ji zx6), some (ji (zx7 + 1))]) (pc' := 116) rfl rfl zg20 rfl rfl ?_
            refine J_goto (pc' := 23) rfl rfl ?_
            exact W
          · refine J_iconst (pc' := 86) rfl (i32_d rfl) rfl ?_
            refine J_iload (pc' := 88) rfl rfl rfl ?_
            refine J_ishl (pc' := 89) rfl rfl ?_
            refine J_goto (pc' := 93) rfl rfl ?_
            refine J_ior (pc' := 94) rfl rfl ?_
            refine J_istore_n (L' := [some (jo 1 zo0), some (ji zx1), some (ji zx2), some (ji (bOr zx3 (bShl 1 zx7))), some (ji zx4), some (ji zx5), some (ji zx6), some (ji zx7)]) (pc' := 95) rfl (Nat.le_of_ble_eq_true rfl) rfl rfl ?_
            refine J_aload_no (pc' := 96) rfl rfl zg1 rfl ?_
            refine J_iload (pc' := 98) rfl rfl rfl ?_
            refine J_callV (as := [jo 1 zo0, ji zx4]) (rest := []) (pc' := 101) rfl rfl ax_Z_46 rfl rfl (Or.inr (Or.inr ⟨_, _, rfl, zg1⟩)) (Nat.le_of_ble_eq_true rfl) (Nat.le_of_ble_eq_true rfl) (Nat.le_of_ble_eq_true rfl) zg6 trivial trivial rfl W (fun zs21 W => ?_)
            refine J_aload_no (pc' := 102) rfl rfl zg1 rfl ?_
            refine J_iload (pc' := 104) rfl rfl rfl ?_
            refine J_putI (G := 1033) (pc' := 107) rfl rfl (Nat.le_of_ble_eq_true rfl) rfl rfl zg1 rfl (fun zs23 ezs23 => ?_)
            replace W := W zs23 ezs23
            refine J_aload_no (pc' := 108) rfl rfl zg1 rfl ?_
            refine J_iload (pc' := 110) rfl rfl rfl ?_
            refine J_putI (G := 1034) (pc' := 113) rfl rfl (Nat.le_of_ble_eq_true rfl) rfl rfl zg1 rfl (fun zs24 ezs24 => ?_)
            replace W := W zs24 ezs24
            obtain ⟨zg25, W⟩ := W
            refine J_iinc (L' := [some (jo 1 zo0), some (ji zx1), some (ji zx2), some (ji (bOr zx3 (bShl 1 zx7))), some (ji zx4), some (ji zx5), some (ji zx6), some (ji (zx7 + 1))]) (pc' := 116) rfl rfl zg25 rfl rfl ?_
            refine J_goto (pc' := 23) rfl rfl ?_
            exact W
        · refine J_goto (pc' := 113) rfl rfl ?_
          obtain ⟨zg26, W⟩ := W
          refine J_iinc (L' := [some (jo 1 zo0), some (ji zx1), some (ji zx2), some (ji zx3), some (ji zx4), some (ji zx5), some (ji zx6), some (ji (zx7 + 1))]) (pc' := 116) rfl rfl zg26 rfl rfl ?_
          refine J_goto (pc' := 23) rfl rfl ?_
          exact W
theorem wp_Model_bestOf {n : Nat} {σ : jS} {Q : Int → jS → Prop} {zo0 : Int} {zx1 : Int} (W : J n c_Model_bestOf (some .int) 4 [some (jo 1 zo0), some (ji zx1), some (ji 0), some (ji 0), none, none] [] σ (qI Q)) : TrI n i_Model_bestOf [jo 1 zo0, ji zx1] σ Q := by
  refine Tr_of ax_Z_58 ?_
  show J n c_Model_bestOf (some .int) 0 [some (jo 1 zo0), some (ji zx1), none, none, none, none] [] σ (qI Q)
  refine J_iconst (pc' := 1) rfl (i32_d rfl) rfl ?_
  refine J_istore_n (L' := [some (jo 1 zo0), some (ji zx1), some (ji 0), none, none, none]) (pc' := 2) rfl (Nat.le_of_ble_eq_true rfl) rfl rfl ?_
  refine J_iconst (pc' := 3) rfl (i32_d rfl) rfl ?_
  refine J_istore_n (L' := [some (jo 1 zo0), some (ji zx1), some (ji 0), some (ji 0), none, none]) (pc' := 4) rfl (Nat.le_of_ble_eq_true rfl) rfl rfl ?_
  exact W
theorem wp_Model_bestOf_4 {n : Nat} {σ : jS} {Q : Int → jS → Prop} {zo0 : Int} {zx1 : Int} {zx2 : Int} {zx3 : Int} (W : 0 ≤ zo0 ∧ (if rs σ 1014 zo0 ≤ zx3 then Q zx2 σ else 1 ≤ n ∧ TrI (n - 1) i_Model_has [ji zx1, ji zx3] σ (fun zr4 zs3 => J n c_Model_bestOf (some .int) 22 [some (jo 1 zo0), some (ji zx1), some (ji zx2), some (ji zx3), some (ji zr4), some (ji 0)] [] zs3 (qI Q)))) : J n c_Model_bestOf (some .int) 4 [some (jo 1 zo0), some (ji zx1), some (ji zx2), some (ji zx3), none, none] [] σ (qI Q) := by
  refine J_iload_n (pc' := 5) rfl rfl rfl ?_
  obtain ⟨zg1, W⟩ := W
  refine J_aload_no (pc' := 6) rfl rfl zg1 rfl ?_
  refine J_getI (G := 1014) (pc' := 9) rfl rfl (Nat.le_of_ble_eq_true rfl) rfl zg1 rfl ?_
  refine J_icmp (P := rs σ 1014 zo0 ≤ zx3) (t := 94) (f := 12) rfl rfl rfl jc_ge W (fun W => ?_) (fun W => ?_)
  · refine J_iload_n (pc' := 95) rfl rfl rfl ?_
    exact J_iret rfl rfl ⟨_, rfl, W⟩
  · refine J_iload_n (pc' := 13) rfl rfl rfl ?_
    refine J_iload_n (pc' := 14) rfl rfl rfl ?_
    obtain ⟨zg2, W⟩ := W
    refine J_callI (as := [ji zx1, ji zx3]) (rest := []) (pc' := 17) rfl rfl ax_Z_1 rfl rfl (Or.inl rfl) (Nat.le_of_ble_eq_true rfl) (Nat.le_of_ble_eq_true rfl) (Nat.le_of_ble_eq_true rfl) zg2 trivial trivial rfl W (fun zr4 zs3 W => ?_)
    refine J_istore (L' := [some (jo 1 zo0), some (ji zx1), some (ji zx2), some (ji zx3), some (ji zr4), none]) (pc' := 19) rfl (Nat.le_of_ble_eq_true rfl) rfl rfl ?_
    refine J_iconst (pc' := 20) rfl (i32_d rfl) rfl ?_
    refine J_istore (L' := [some (jo 1 zo0), some (ji zx1), some (ji zx2), some (ji zx3), some (ji zr4), some (ji 0)]) (pc' := 22) rfl (Nat.le_of_ble_eq_true rfl) rfl rfl ?_
    exact W
theorem wp_Model_bestOf_22 {n : Nat} {σ : jS} {Q : Int → jS → Prop} {zo0 : Int} {zx1 : Int} {zx2 : Int} {zx3 : Int} {zx4 : Int} {zx5 : Int} (W : 0 ≤ zo0 ∧ (if rs σ 1014 zo0 ≤ zx5 then J n c_Model_bestOf (some .int) 73 [some (jo 1 zo0), some (ji zx1), some (ji zx2), some (ji zx3), some (ji zx4), none] [] σ (qI Q) else (if zx4 = 0 then J n c_Model_bestOf (some .int) 73 [some (jo 1 zo0), some (ji zx1), some (ji zx2), some (ji zx3), some (ji zx4), none] [] σ (qI Q) else 1 ≤ n ∧ TrI (n - 1) i_Model_has [ji zx1, ji zx5] σ (fun zr4 zs3 => (if zr4 = 0 then i32 (zx5 + 1) ∧ J n c_Model_bestOf (some .int) 22 [some (jo 1 zo0), some (ji zx1), some (ji zx2), some (ji zx3), some (ji 1), some (ji (zx5 + 1))] [] zs3 (qI Q) else 0 ≤ rl zs3 1026 zo0 ∧ i32 (24 * zx5) ∧ i32 ((24 * zx5) + zx3) ∧ 0 ≤ (24 * zx5) + zx3 ∧ (24 * zx5) + zx3 < rl zs3 1026 zo0 ∧ (if ¬ ra zs3 1026 zo0 ((24 * zx5) + zx3) = 0 then i32 (zx5 + 1) ∧ J n c_Model_bestOf (some .int) 22 [some (jo 1 zo0), some (ji zx1), some (ji zx2), some (ji zx3), some (ji 0), some (ji (zx5 + 1))] [] zs3 (qI Q) else i32 (zx5 + 1) ∧ J n c_Model_bestOf (some .int) 22 [some (jo 1 zo0), some (ji zx1), some (ji zx2), some (ji zx3), some (ji 1), some (ji (zx5 + 1))] [] zs3 (qI Q))))))) : J n c_Model_bestOf (some .int) 22 [some (jo 1 zo0), some (ji zx1), some (ji zx2), some (ji zx3), some (ji zx4), some (ji zx5)] [] σ (qI Q) := by
  refine J_iload (pc' := 24) rfl rfl rfl ?_
  obtain ⟨zg1, W⟩ := W
  refine J_aload_no (pc' := 25) rfl rfl zg1 rfl ?_
  refine J_getI (G := 1014) (pc' := 28) rfl rfl (Nat.le_of_ble_eq_true rfl) rfl zg1 rfl ?_
  refine J_icmp (P := rs σ 1014 zo0 ≤ zx5) (t := 73) (f := 31) rfl rfl rfl jc_ge W (fun W => ?_) (fun W => ?_)
  · refine J_weak (L' := [some (jo 1 zo0), some (ji zx1), some (ji zx2), some (ji zx3), some (ji zx4), none]) (And.intro rfl (And.intro rfl (And.intro rfl (And.intro rfl (And.intro rfl trivial))))) ?_
    exact W
  · refine J_iload (pc' := 33) rfl rfl rfl ?_
    refine J_if (P := zx4 = 0) (t := 73) (f := 36) rfl rfl rfl jc_eq W (fun W => ?_) (fun W => ?_)
    · refine J_weak (L' := [some (jo 1 zo0), some (ji zx1), some (ji zx2), some (ji zx3), some (ji zx4), none]) (And.intro rfl (And.intro rfl (And.intro rfl (And.intro rfl (And.intro rfl trivial))))) ?_
      exact W
    · refine J_iload_n (pc' := 37) rfl rfl rfl ?_
      refine J_iload (pc' := 39) rfl rfl rfl ?_
      obtain ⟨zg2, W⟩ := W
      refine J_weak (L' := [some (jo 1 zo0), some (ji zx1), some (ji zx2), some (ji zx3), none, some (ji zx5)]) (And.intro rfl (And.intro rfl (And.intro rfl (And.intro rfl (And.intro rfl trivial))))) ?_
      refine J_callI (as := [ji zx1, ji zx5]) (rest := []) (pc' := 42) rfl rfl ax_Z_1 rfl rfl (Or.inl rfl) (Nat.le_of_ble_eq_true rfl) (Nat.le_of_ble_eq_true rfl) (Nat.le_of_ble_eq_true rfl) zg2 trivial trivial rfl W (fun zr4 zs3 W => ?_)
      refine J_if (P := zr4 = 0) (t := 60) (f := 45) rfl rfl rfl jc_eq W (fun W => ?_) (fun W => ?_)
      · refine J_iconst (pc' := 61) rfl (i32_d rfl) rfl ?_
        refine J_goto (pc' := 65) rfl rfl ?_
        refine J_istore (L' := [some (jo 1 zo0), some (ji zx1), some (ji zx2), some (ji zx3), some (ji 1), some (ji zx5)]) (pc' := 67) rfl (Nat.le_of_ble_eq_true rfl) rfl rfl ?_
        obtain ⟨zg5, W⟩ := W
        refine J_iinc (L' := [some (jo 1 zo0), some (ji zx1), some (ji zx2), some (ji zx3), some (ji 1), some (ji (zx5 + 1))]) (pc' := 70) rfl rfl zg5 rfl rfl ?_
        refine J_goto (pc' := 22) rfl rfl ?_
        exact W
      · refine J_aload_no (pc' := 46) rfl rfl zg1 rfl ?_
        obtain ⟨zg6, W⟩ := W
        refine J_getA (G := 1026) (pc' := 49) rfl rfl (Nat.le_of_ble_eq_true rfl) rfl zg1 zg6 rfl ?_
        refine J_bipush (pc' := 51) rfl (by decide) (by decide) rfl ?_
        refine J_iload (pc' := 53) rfl rfl rfl ?_
        obtain ⟨zg7, W⟩ := W
        refine J_imul (pc' := 54) rfl zg7 rfl ?_
        refine J_iload_n (pc' := 55) rfl rfl rfl ?_
        obtain ⟨zg8, W⟩ := W
        refine J_iadd (pc' := 56) rfl zg8 rfl ?_
        obtain ⟨zg9, W⟩ := W
        obtain ⟨zg10, W⟩ := W
        refine J_bald (pc' := 57) rfl (Or.inr rfl) zg9 zg10 rfl ?_
        refine J_if (P := ¬ ra zs3 1026 zo0 ((24 * zx5) + zx3) = 0) (t := 64) (f := 60) rfl rfl rfl jc_ne W (fun W => ?_) (fun W => ?_)
        · refine J_iconst (pc' := 65) rfl (i32_d rfl) rfl ?_
          refine J_istore (L' := [some (jo 1 zo0), some (ji zx1), some (ji zx2), some (ji zx3), some (ji 0), some (ji zx5)]) (pc' := 67) rfl (Nat.le_of_ble_eq_true rfl) rfl rfl ?_
          obtain ⟨zg11, W⟩ := W
          refine J_iinc (L' := [some (jo 1 zo0), some (ji zx1), some (ji zx2), some (ji zx3), some (ji 0), some (ji (zx5 + 1))]) (pc' := 70) rfl rfl zg11 rfl rfl ?_
          refine J_goto (pc' := 22) rfl rfl ?_
          exact W
        · refine J_iconst (pc' := 61) rfl (i32_d rfl) rfl ?_
          refine J_goto (pc' := 65) rfl rfl ?_
          refine J_istore (L' := [some (jo 1 zo0), some (ji zx1), some (ji zx2), some (ji zx3), some (ji 1), some (ji zx5)]) (pc' := 67) rfl (Nat.le_of_ble_eq_true rfl) rfl rfl ?_
          obtain ⟨zg12, W⟩ := W
          refine J_iinc (L' := [some (jo 1 zo0), some (ji zx1), some (ji zx2), some (ji zx3), some (ji 1), some (ji (zx5 + 1))]) (pc' := 70) rfl rfl zg12 rfl rfl ?_
          refine J_goto (pc' := 22) rfl rfl ?_
          exact W
theorem wp_Model_bestOf_73 {n : Nat} {σ : jS} {Q : Int → jS → Prop} {zo0 : Int} {zx1 : Int} {zx2 : Int} {zx3 : Int} {zx4 : Int} (W : (if zx4 = 0 then i32 (zx3 + 1) ∧ J n c_Model_bestOf (some .int) 4 [some (jo 1 zo0), some (ji zx1), some (ji (bOr zx2 0)), some (ji (zx3 + 1)), none, none] [] σ (qI Q) else i32 (zx3 + 1) ∧ J n c_Model_bestOf (some .int) 4 [some (jo 1 zo0), some (ji zx1), some (ji (bOr zx2 (bShl 1 zx3))), some (ji (zx3 + 1)), none, none] [] σ (qI Q))) : J n c_Model_bestOf (some .int) 73 [some (jo 1 zo0), some (ji zx1), some (ji zx2), some (ji zx3), some (ji zx4), none] [] σ (qI Q) := by
  refine J_iload_n (pc' := 74) rfl rfl rfl ?_
  refine J_iload (pc' := 76) rfl rfl rfl ?_
  refine J_if (P := zx4 = 0) (t := 85) (f := 79) rfl rfl rfl jc_eq W (fun W => ?_) (fun W => ?_)
  · refine J_iconst (pc' := 86) rfl (i32_d rfl) rfl ?_
    refine J_ior (pc' := 87) rfl rfl ?_
    refine J_istore_n (L' := [some (jo 1 zo0), some (ji zx1), some (ji (bOr zx2 0)), some (ji zx3), some (ji zx4), none]) (pc' := 88) rfl (Nat.le_of_ble_eq_true rfl) rfl rfl ?_
    obtain ⟨zg1, W⟩ := W
    refine J_iinc (L' := [some (jo 1 zo0), some (ji zx1), some (ji (bOr zx2 0)), some (ji (zx3 + 1)), some (ji zx4), none]) (pc' := 91) rfl rfl zg1 rfl rfl ?_
    refine J_goto (pc' := 4) rfl rfl ?_
    refine J_weak (L' := [some (jo 1 zo0), some (ji zx1), some (ji (bOr zx2 0)), some (ji (zx3 + 1)), none, none]) (And.intro rfl (And.intro rfl (And.intro rfl (And.intro rfl trivial)))) ?_
    exact W
  · refine J_iconst (pc' := 80) rfl (i32_d rfl) rfl ?_
    refine J_iload_n (pc' := 81) rfl rfl rfl ?_
    refine J_ishl (pc' := 82) rfl rfl ?_
    refine J_goto (pc' := 86) rfl rfl ?_
    refine J_ior (pc' := 87) rfl rfl ?_
    refine J_istore_n (L' := [some (jo 1 zo0), some (ji zx1), some (ji (bOr zx2 (bShl 1 zx3))), some (ji zx3), some (ji zx4), none]) (pc' := 88) rfl (Nat.le_of_ble_eq_true rfl) rfl rfl ?_
    obtain ⟨zg2, W⟩ := W
    refine J_iinc (L' := [some (jo 1 zo0), some (ji zx1), some (ji (bOr zx2 (bShl 1 zx3))), some (ji (zx3 + 1)), some (ji zx4), none]) (pc' := 91) rfl rfl zg2 rfl rfl ?_
    refine J_goto (pc' := 4) rfl rfl ?_
    refine J_weak (L' := [some (jo 1 zo0), some (ji zx1), some (ji (bOr zx2 (bShl 1 zx3))), some (ji (zx3 + 1)), none, none]) (And.intro rfl (And.intro rfl (And.intro rfl (And.intro rfl trivial)))) ?_
    exact W
theorem wp_Model_newRound {n : Nat} {σ : jS} {Q : jS → Prop} {zo0 : Int} {zx1 : Int} (W : 0 ≤ zo0 ∧ 0 ≤ rl σ 1079 zo0 ∧ 0 ≤ rl σ 1076 zo0 ∧ 0 ≤ zx1 ∧ zx1 < rl σ 1076 zo0 ∧ 1 ≤ n ∧ TrI (n - 1) i_Model_bestOf [jo 1 zo0, ji (ra σ 1076 zo0 zx1)] σ (fun zr8 zs7 => zx1 < rl zs7 1079 zo0 ∧ (∀ zs9, zs9 = wa zs7 1079 zo0 zx1 zr8 → 0 ≤ rl zs9 1080 zo0 ∧ zx1 < rl zs9 1080 zo0 ∧ (∀ zs12, zs12 = wa zs9 1080 zo0 zx1 0 → 0 ≤ rl zs12 1089 zo0 ∧ zx1 < rl zs12 1089 zo0 ∧ (∀ zs15, zs15 = wa zs12 1089 zo0 zx1 0 → Q zs15))))) : TrV n i_Model_newRound [jo 1 zo0, ji zx1] σ Q := by
  refine Tr_of ax_Z_59 ?_
  show J n c_Model_newRound none 0 [some (jo 1 zo0), some (ji zx1)] [] σ (qV Q)
  obtain ⟨zg1, W⟩ := W
  refine J_aload_no (pc' := 1) rfl rfl zg1 rfl ?_
  obtain ⟨zg2, W⟩ := W
  refine J_getA (G := 1079) (pc' := 4) rfl rfl (Nat.le_of_ble_eq_true rfl) rfl zg1 zg2 rfl ?_
  refine J_iload_n (pc' := 5) rfl rfl rfl ?_
  refine J_aload_no (pc' := 6) rfl rfl zg1 rfl ?_
  refine J_aload_no (pc' := 7) rfl rfl zg1 rfl ?_
  obtain ⟨zg3, W⟩ := W
  refine J_getA (G := 1076) (pc' := 10) rfl rfl (Nat.le_of_ble_eq_true rfl) rfl zg1 zg3 rfl ?_
  refine J_iload_n (pc' := 11) rfl rfl rfl ?_
  obtain ⟨zg4, W⟩ := W
  obtain ⟨zg5, W⟩ := W
  refine J_iald (pc' := 12) rfl rfl zg4 zg5 rfl ?_
  obtain ⟨zg6, W⟩ := W
  refine J_callI (as := [jo 1 zo0, ji (ra σ 1076 zo0 zx1)]) (rest := [ji zx1, ja 1079 zo0]) (pc' := 15) rfl rfl ax_Z_58 rfl rfl (Or.inr (Or.inr ⟨_, _, rfl, zg1⟩)) (Nat.le_of_ble_eq_true rfl) (Nat.le_of_ble_eq_true rfl) (Nat.le_of_ble_eq_true rfl) zg6 trivial (And.intro rfl trivial) rfl W (fun zr8 zs7 W => ?_)
  obtain ⟨zg10, W⟩ := W
  refine J_iast (pc' := 16) rfl rfl (by decide) zg4 zg10 rfl (fun zs9 ezs9 => ?_)
  replace W := W zs9 ezs9
  refine J_aload_no (pc' := 17) rfl rfl zg1 rfl ?_
  obtain ⟨zg11, W⟩ := W
  refine J_getA (G := 1080) (pc' := 20) rfl rfl (Nat.le_of_ble_eq_true rfl) rfl zg1 zg11 rfl ?_
  refine J_iload_n (pc' := 21) rfl rfl rfl ?_
  refine J_iconst (pc' := 22) rfl (i32_d rfl) rfl ?_
  obtain ⟨zg13, W⟩ := W
  refine J_iast (pc' := 23) rfl rfl (by decide) zg4 zg13 rfl (fun zs12 ezs12 => ?_)
  replace W := W zs12 ezs12
  refine J_aload_no (pc' := 24) rfl rfl zg1 rfl ?_
  obtain ⟨zg14, W⟩ := W
  refine J_getA (G := 1089) (pc' := 27) rfl rfl (Nat.le_of_ble_eq_true rfl) rfl zg1 zg14 rfl ?_
  refine J_iload_n (pc' := 28) rfl rfl rfl ?_
  refine J_iconst (pc' := 29) rfl (i32_d rfl) rfl ?_
  obtain ⟨zg16, W⟩ := W
  refine J_iast (pc' := 30) rfl rfl (by decide) zg4 zg16 rfl (fun zs15 ezs15 => ?_)
  replace W := W zs15 ezs15
  exact J_vret rfl rfl ⟨rfl, W⟩
set_option maxRecDepth 16000 in
theorem wp_Model_askGoal {n : Nat} {σ : jS} {Q : jS → Prop} {zo0 : Int} {zx1 : Int} (W : 0 ≤ zo0 ∧ 1 ≤ n ∧ TrI (n - 1) i_Model_layOut [jo 1 zo0, ji zx1] σ (fun zr4 zs3 => (if rs zs3 1103 zo0 = 200 then J n c_Model_askGoal none 31 [some (jo 1 zo0), none, none, none, none, none] [] zs3 (qV Q) else (if rs zs3 1098 zo0 = 20 then J n c_Model_askGoal none 31 [some (jo 1 zo0), none, none, none, none, none] [] zs3 (qV Q) else (if zr4 ≤ 100 then i32 ((rs zs3 1103 zo0) + 1) ∧ (∀ zs6, zs6 = ws zs3 1103 zo0 ((rs zs3 1103 zo0) + 1) → i32 ((rs zs6 1098 zo0) + 1) ∧ (if (rs zs6 1098 zo0) + 1 ≤ rs zs6 1107 zo0 then (∀ zs8, zs8 = ws zs6 1107 zo0 (rs zs6 1107 zo0) → (if ¬ rs zs8 1044 zo0 = 0 then J n c_Model_askGoal none 139 [some (jo 1 zo0), some (ji zx1), none, some (ji 0), none, none] [] zs8 (qV Q) else (if ¬ rs zs8 1100 zo0 = 0 then J n c_Model_askGoal none 139 [some (jo 1 zo0), some (ji zx1), none, some (ji 1), none, none] [] zs8 (qV Q) else TrI (n - 1) i_Model_memoryOf [jo 1 zo0, ji (rs zs8 1108 zo0)] zs8 (fun zr10 zs9 => (if zr10 = (-1) then i32 ((rs zs9 1098 zo0) + 1) ∧ (∀ zs12, zs12 = ws zs9 1098 zo0 ((rs zs9 1098 zo0) + 1) → 0 ≤ rl zs12 1071 zo0 ∧ 0 ≤ rs zs9 1098 zo0 ∧ rs zs9 1098 zo0 < rl zs12 1071 zo0 ∧ (∀ zs14, zs14 = wa zs12 1071 zo0 (rs zs9 1098 zo0) zx1 → 0 ≤ rl zs14 1072 zo0 ∧ 0 ≤ rs zs9 1098 zo0 ∧ rs zs9 1098 zo0 < rl zs14 1072 zo0 ∧ (∀ zs18, zs18 = wa zs14 1072 zo0 (rs zs9 1098 zo0) 1 → 0 ≤ rl zs18 1073 zo0 ∧ 0 ≤ rs zs9 1098 zo0 ∧ rs zs9 1098 zo0 < rl zs18 1073 zo0 ∧ (∀ zs22, zs22 = wa zs18 1073 zo0 (rs zs9 1098 zo0) (rs zs18 1105 zo0) → 0 ≤ rl zs22 1093 zo0 ∧ 0 ≤ rs zs9 1098 zo0 ∧ rs zs9 1098 zo0 < rl zs22 1093 zo0 ∧ (∀ zs26, zs26 = wa zs22 1093 zo0 (rs zs9 1098 zo0) (rs zs22 1097 zo0) → TrV (n - 1) i_Model_openLevel [jo 1 zo0, ji (rs zs9 1098 zo0), ji (rs zs26 1108 zo0), ji 0] zs26 (fun zs29 => Q zs29)))))) else i32 ((rs zs9 1104 zo0) + 1) ∧ (∀ zs32, zs32 = ws zs9 1104 zo0 ((rs zs9 1104 zo0) + 1) → (∀ zs33, zs33 = ws zs32 1101 zo0 1 → 0 ≤ rl zs33 1069 zo0 ∧ 0 ≤ zr10 ∧ zr10 < rl zs33 1069 zo0 ∧ (∀ zs37, zs37 = ws zs33 1102 zo0 (ra zs33 1069 zo0 zr10) → Q zs37)))))))) else (∀ zs38, zs38 = ws zs6 1107 zo0 ((rs zs6 1098 zo0) + 1) → (if ¬ rs zs38 1044 zo0 = 0 then J n c_Model_askGoal none 139 [some (jo 1 zo0), some (ji zx1), none, some (ji 0), none, none] [] zs38 (qV Q) else (if ¬ rs zs38 1100 zo0 = 0 then J n c_Model_askGoal none 139 [some (jo 1 zo0), some (ji zx1), none, some (ji 1), none, none] [] zs38 (qV Q) else TrI (n - 1) i_Model_memoryOf [jo 1 zo0, ji (rs zs38 1108 zo0)] zs38 (fun zr40 zs39 => (if zr40 = (-1) then i32 ((rs zs39 1098 zo0) + 1) ∧ (∀ zs42, zs42 = ws zs39 1098 zo0 ((rs zs39 1098 zo0) + 1) → 0 ≤ rl zs42 1071 zo0 ∧ 0 ≤ rs zs39 1098 zo0 ∧ rs zs39 1098 zo0 < rl zs42 1071 zo0 ∧ (∀ zs44, zs44 = wa zs42 1071 zo0 (rs zs39 1098 zo0) zx1 → 0 ≤ rl zs44 1072 zo0 ∧ 0 ≤ rs zs39 1098 zo0 ∧ rs zs39 1098 zo0 < rl zs44 1072 zo0 ∧ (∀ zs48, zs48 = wa zs44 1072 zo0 (rs zs39 1098 zo0) 1 → 0 ≤ rl zs48 1073 zo0 ∧ 0 ≤ rs zs39 1098 zo0 ∧ rs zs39 1098 zo0 < rl zs48 1073 zo0 ∧ (∀ zs52, zs52 = wa zs48 1073 zo0 (rs zs39 1098 zo0) (rs zs48 1105 zo0) → 0 ≤ rl zs52 1093 zo0 ∧ 0 ≤ rs zs39 1098 zo0 ∧ rs zs39 1098 zo0 < rl zs52 1093 zo0 ∧ (∀ zs56, zs56 = wa zs52 1093 zo0 (rs zs39 1098 zo0) (rs zs52 1097 zo0) → TrV (n - 1) i_Model_openLevel [jo 1 zo0, ji (rs zs39 1098 zo0), ji (rs zs56 1108 zo0), ji 0] zs56 (fun zs59 => Q zs59)))))) else i32 ((rs zs39 1104 zo0) + 1) ∧ (∀ zs62, zs62 = ws zs39 1104 zo0 ((rs zs39 1104 zo0) + 1) → (∀ zs63, zs63 = ws zs62 1101 zo0 1 → 0 ≤ rl zs63 1069 zo0 ∧ 0 ≤ zr40 ∧ zr40 < rl zs63 1069 zo0 ∧ (∀ zs67, zs67 = ws zs63 1102 zo0 (ra zs63 1069 zo0 zr40) → Q zs67)))))))))) else J n c_Model_askGoal none 31 [some (jo 1 zo0), none, none, none, none, none] [] zs3 (qV Q)))))) : TrV n i_Model_askGoal [jo 1 zo0, ji zx1] σ Q := by
  refine Tr_of ax_Z_60 ?_
  show J n c_Model_askGoal none 0 [some (jo 1 zo0), some (ji zx1), none, none, none, none] [] σ (qV Q)
  obtain ⟨zg1, W⟩ := W
  refine J_aload_no (pc' := 1) rfl rfl zg1 rfl ?_
  refine J_iload_n (pc' := 2) rfl rfl rfl ?_
  obtain ⟨zg2, W⟩ := W
  refine J_callI (as := [jo 1 zo0, ji zx1]) (rest := []) (pc' := 5) rfl rfl ax_Z_50 rfl rfl (Or.inr (Or.inr ⟨_, _, rfl, zg1⟩)) (Nat.le_of_ble_eq_true rfl) (Nat.le_of_ble_eq_true rfl) (Nat.le_of_ble_eq_true rfl) zg2 trivial trivial rfl W (fun zr4 zs3 W => ?_)
  refine J_istore_n (L' := [some (jo 1 zo0), some (ji zx1), some (ji zr4), none, none, none]) (pc' := 6) rfl (Nat.le_of_ble_eq_true rfl) rfl rfl ?_
  refine J_aload_no (pc' := 7) rfl rfl zg1 rfl ?_
  refine J_getI (G := 1103) (pc' := 10) rfl rfl (Nat.le_of_ble_eq_true rfl) rfl zg1 rfl ?_
  refine J_sipush (pc' := 13) rfl (by decide) (by decide) rfl ?_
  refine J_icmp (P := rs zs3 1103 zo0 = 200) (t := 31) (f := 16) rfl rfl rfl jc_eq W (fun W => ?_) (fun W => ?_)
  · refine J_weak (L' := [some (jo 1 zo0), none, none, none, none, none]) (And.intro rfl trivial) ?_
    exact W
  · refine J_aload_no (pc' := 17) rfl rfl zg1 rfl ?_
    refine J_getI (G := 1098) (pc' := 20) rfl rfl (Nat.le_of_ble_eq_true rfl) rfl zg1 rfl ?_
    refine J_bipush (pc' := 22) rfl (by decide) (by decide) rfl ?_
    refine J_icmp (P := rs zs3 1098 zo0 = 20) (t := 31) (f := 25) rfl rfl rfl jc_eq W (fun W => ?_) (fun W => ?_)
    · refine J_weak (L' := [some (jo 1 zo0), none, none, none, none, none]) (And.intro rfl trivial) ?_
      exact W
    · refine J_iload_n (pc' := 26) rfl rfl rfl ?_
      refine J_bipush (pc' := 28) rfl (by decide) (by decide) rfl ?_
      refine J_icmp (P := zr4 ≤ 100) (t := 64) (f := 31) rfl rfl rfl jc_le W (fun W => ?_) (fun W => ?_)
      · refine J_aload_no (pc' := 65) rfl rfl zg1 rfl ?_
        refine J_dup (pc' := 66) rfl rfl rfl ?_
        refine J_getI (G := 1103) (pc' := 69) rfl rfl (Nat.le_of_ble_eq_true rfl) rfl zg1 rfl ?_
        refine J_iconst (pc' := 70) rfl (i32_d rfl) rfl ?_
        obtain ⟨zg5, W⟩ := W
        refine J_iadd (pc' := 71) rfl zg5 rfl ?_
        refine J_putI (G := 1103) (pc' := 74) rfl rfl (Nat.le_of_ble_eq_true rfl) rfl rfl zg1 rfl (fun zs6 ezs6 => ?_)
        replace W := W zs6 ezs6
        refine J_aload_no (pc' := 75) rfl rfl zg1 rfl ?_
        refine J_aload_no (pc' := 76) rfl rfl zg1 rfl ?_
        refine J_getI (G := 1098) (pc' := 79) rfl rfl (Nat.le_of_ble_eq_true rfl) rfl zg1 rfl ?_
        refine J_iconst (pc' := 80) rfl (i32_d rfl) rfl ?_
        obtain ⟨zg7, W⟩ := W
        refine J_iadd (pc' := 81) rfl zg7 rfl ?_
        refine J_aload_no (pc' := 82) rfl rfl zg1 rfl ?_
        refine J_getI (G := 1107) (pc' := 85) rfl rfl (Nat.le_of_ble_eq_true rfl) rfl zg1 rfl ?_
        refine J_icmp (P := (rs zs6 1098 zo0) + 1 ≤ rs zs6 1107 zo0) (t := 97) (f := 88) rfl rfl rfl jc_le W (fun W => ?_) (fun W => ?_)
        · refine J_aload_no (pc' := 98) rfl rfl zg1 rfl ?_
          refine J_getI (G := 1107) (pc' := 101) rfl rfl (Nat.le_of_ble_eq_true rfl) rfl zg1 rfl ?_
          refine J_putI (G := 1107) (pc' := 104) rfl rfl (Nat.le_of_ble_eq_true rfl) rfl rfl zg1 rfl (fun zs8 ezs8 => ?_)
          replace W := W zs8 ezs8
          refine J_aload_no (pc' := 105) rfl rfl zg1 rfl ?_
          refine J_getI (G := 1044) (pc' := 108) rfl rfl (Nat.le_of_ble_eq_true rfl) rfl zg1 rfl ?_
          refine J_if (P := ¬ rs zs8 1044 zo0 = 0) (t := 115) (f := 111) rfl rfl rfl jc_ne W (fun W => ?_) (fun W => ?_)
          · refine J_iconst (pc' := 116) rfl (i32_d rfl) rfl ?_
            refine J_istore_n (L' := [some (jo 1 zo0), some (ji zx1), some (ji zr4), some (ji 0), none, none]) (pc' := 117) rfl (Nat.le_of_ble_eq_true rfl) rfl rfl ?_
            refine J_iload_n (pc' := 118) rfl rfl rfl ?_
            refine J_if_t (pc' := 139) rfl rfl rfl ?_
            refine J_weak (L' := [some (jo 1 zo0), some (ji zx1), none, some (ji 0), none, none]) (And.intro rfl (And.intro rfl (And.intro rfl trivial))) ?_
            exact W
          · refine J_iconst (pc' := 112) rfl (i32_d rfl) rfl ?_
            refine J_goto (pc' := 116) rfl rfl ?_
            refine J_istore_n (L' := [some (jo 1 zo0), some (ji zx1), some (ji zr4), some (ji 1), none, none]) (pc' := 117) rfl (Nat.le_of_ble_eq_true rfl) rfl rfl ?_
            refine J_iload_n (pc' := 118) rfl rfl rfl ?_
            refine J_if_f (pc' := 121) rfl rfl rfl ?_
            refine J_aload_no (pc' := 122) rfl rfl zg1 rfl ?_
            refine J_getI (G := 1100) (pc' := 125) rfl rfl (Nat.le_of_ble_eq_true rfl) rfl zg1 rfl ?_
            refine J_if (P := ¬ rs zs8 1100 zo0 = 0) (t := 139) (f := 128) rfl rfl rfl jc_ne W (fun W => ?_) (fun W => ?_)
            · refine J_weak (L' := [some (jo 1 zo0), some (ji zx1), none, some (ji 1), none, none]) (And.intro rfl (And.intro rfl (And.intro rfl trivial))) ?_
              exact W
            · refine J_aload_no (pc' := 129) rfl rfl zg1 rfl ?_
              refine J_aload_no (pc' := 130) rfl rfl zg1 rfl ?_
              refine J_getI (G := 1108) (pc' := 133) rfl rfl (Nat.le_of_ble_eq_true rfl) rfl zg1 rfl ?_
              refine J_weak (L' := [some (jo 1 zo0), some (ji zx1), none, some (ji 1), none, none]) (And.intro rfl (And.intro rfl (And.intro rfl trivial))) ?_
              refine J_callI (as := [jo 1 zo0, ji (rs zs8 1108 zo0)]) (rest := []) (pc' := 136) rfl rfl ax_Z_55 rfl rfl (Or.inr (Or.inr ⟨_, _, rfl, zg1⟩)) (Nat.le_of_ble_eq_true rfl) (Nat.le_of_ble_eq_true rfl) (Nat.le_of_ble_eq_true rfl) zg2 trivial trivial rfl W (fun zr10 zs9 W => ?_)
              refine J_goto (pc' := 140) rfl rfl ?_
              refine J_istore (L' := [some (jo 1 zo0), some (ji zx1), none, some (ji 1), some (ji zr10), none]) (pc' := 142) rfl (Nat.le_of_ble_eq_true rfl) rfl rfl ?_
              refine J_iload (pc' := 144) rfl rfl rfl ?_
              refine J_iconst (pc' := 145) rfl (i32_d rfl) rfl ?_
              refine J_icmp (P := zr10 = (-1)) (t := 175) (f := 148) rfl rfl rfl jc_eq W (fun W => ?_) (fun W => ?_)
              · refine J_aload_no (pc' := 176) rfl rfl zg1 rfl ?_
                refine J_getI (G := 1098) (pc' := 179) rfl rfl (Nat.le_of_ble_eq_true rfl) rfl zg1 rfl ?_
                refine J_istore (L' := [some (jo 1 zo0), some (ji zx1), none, some (ji 1), some (ji zr10), some (ji (rs zs9 1098 zo0))]) (pc' := 181) rfl (Nat.le_of_ble_eq_true rfl) rfl rfl ?_
                refine J_aload_no (pc' := 182) rfl rfl zg1 rfl ?_
                refine J_dup (pc' := 183) rfl rfl rfl ?_
                refine J_getI (G := 1098) (pc' := 186) rfl rfl (Nat.le_of_ble_eq_true rfl) rfl zg1 rfl ?_
                refine J_iconst (pc' := 187) rfl (i32_d rfl) rfl ?_
                obtain ⟨zg11, W⟩ := W
                refine J_iadd (pc' := 188) rfl zg11 rfl ?_
                refine J_putI (G := 1098) (pc' := 191) rfl rfl (Nat.le_of_ble_eq_true rfl) rfl rfl zg1 rfl (fun zs12 ezs12 => ?_)
                replace W := W zs12 ezs12
                refine J_aload_no (pc' := 192) rfl rfl zg1 rfl ?_
                obtain ⟨zg13, W⟩ := W
                refine J_getA (G := 1071) (pc' := 195) rfl rfl (Nat.le_of_ble_eq_true rfl) rfl zg1 zg13 rfl ?_
                refine J_iload (pc' := 197) rfl rfl rfl ?_
                refine J_iload_n (pc' := 198) rfl rfl rfl ?_
                obtain ⟨zg15, W⟩ := W
                obtain ⟨zg16, W⟩ := W
                refine J_iast (pc' := 199) rfl rfl (by decide) zg15 zg16 rfl (fun zs14 ezs14 => ?_)
                replace W := W zs14 ezs14
                refine J_aload_no (pc' := 200) rfl rfl zg1 rfl ?_
                obtain ⟨zg17, W⟩ := W
                refine J_getA (G := 1072) (pc' := 203) rfl rfl (Nat.le_of_ble_eq_true rfl) rfl zg1 zg17 rfl ?_
                refine J_iload (pc' := 205) rfl rfl rfl ?_
                refine J_iload_n (pc' := 206) rfl rfl rfl ?_
                obtain ⟨zg19, W⟩ := W
                obtain ⟨zg20, W⟩ := W
                refine J_bast2 (pc' := 207) rfl rfl (Or.inr rfl) zg19 zg20 rfl (fun zs18 ezs18 => ?_)
                replace W := W zs18 ezs18
                refine J_aload_no (pc' := 208) rfl rfl zg1 rfl ?_
                obtain ⟨zg21, W⟩ := W
                refine J_getA (G := 1073) (pc' := 211) rfl rfl (Nat.le_of_ble_eq_true rfl) rfl zg1 zg21 rfl ?_
                refine J_iload (pc' := 213) rfl rfl rfl ?_
                refine J_aload_no (pc' := 214) rfl rfl zg1 rfl ?_
                refine J_getI (G := 1105) (pc' := 217) rfl rfl (Nat.le_of_ble_eq_true rfl) rfl zg1 rfl ?_
                obtain ⟨zg23, W⟩ := W
                obtain ⟨zg24, W⟩ := W
                refine J_iast (pc' := 218) rfl rfl (by decide) zg23 zg24 rfl (fun zs22 ezs22 => ?_)
                replace W := W zs22 ezs22
                refine J_aload_no (pc' := 219) rfl rfl zg1 rfl ?_
                obtain ⟨zg25, W⟩ := W
                refine J_getA (G := 1093) (pc' := 222) rfl rfl (Nat.le_of_ble_eq_true rfl) rfl zg1 zg25 rfl ?_
                refine J_iload (pc' := 224) rfl rfl rfl ?_
                refine J_aload_no (pc' := 225) rfl rfl zg1 rfl ?_
                refine J_getI (G := 1097) (pc' := 228) rfl rfl (Nat.le_of_ble_eq_true rfl) rfl zg1 rfl ?_
                obtain ⟨zg27, W⟩ := W
                obtain ⟨zg28, W⟩ := W
                refine J_iast (pc' := 229) rfl rfl (by decide) zg27 zg28 rfl (fun zs26 ezs26 => ?_)
                replace W := W zs26 ezs26
                refine J_aload_no (pc' := 230) rfl rfl zg1 rfl ?_
                refine J_iload (pc' := 232) rfl rfl rfl ?_
                refine J_aload_no (pc' := 233) rfl rfl zg1 rfl ?_
                refine J_getI (G := 1108) (pc' := 236) rfl rfl (Nat.le_of_ble_eq_true rfl) rfl zg1 rfl ?_
                refine J_iconst (pc' := 237) rfl (i32_d rfl) rfl ?_
                refine J_weak (L' := [none, none, none, none, none, none]) trivial ?_
                refine J_callV (as := [jo 1 zo0, ji (rs zs9 1098 zo0), ji (rs zs26 1108 zo0), ji 0]) (rest := []) (pc' := 240) rfl rfl ax_Z_56 rfl rfl (Or.inr (Or.inr ⟨_, _, rfl, zg1⟩)) (Nat.le_of_ble_eq_true rfl) (Nat.le_of_ble_eq_true rfl) (Nat.le_of_ble_eq_true rfl) zg2 trivial trivial rfl W (fun zs29 W => ?_)
                exact J_vret rfl rfl ⟨rfl, W⟩
              · refine J_aload_no (pc' := 149) rfl rfl zg1 rfl ?_
                refine J_dup (pc' := 150) rfl rfl rfl ?_
                refine J_getI (G := 1104) (pc' := 153) rfl rfl (Nat.le_of_ble_eq_true rfl) rfl zg1 rfl ?_
                refine J_iconst (pc' := 154) rfl (i32_d rfl) rfl ?_
                obtain ⟨zg31, W⟩ := W
                refine J_iadd (pc' := 155) rfl zg31 rfl ?_
                refine J_putI (G := 1104) (pc' := 158) rfl rfl (Nat.le_of_ble_eq_true rfl) rfl rfl zg1 rfl (fun zs32 ezs32 => ?_)
                replace W := W zs32 ezs32
                refine J_aload_no (pc' := 159) rfl rfl zg1 rfl ?_
                refine J_iconst (pc' := 160) rfl (i32_d rfl) rfl ?_
                refine J_putZ (G := 1101) (pc' := 163) rfl rfl (Nat.le_of_ble_eq_true rfl) rfl rfl zg1 (Or.inr rfl) rfl (fun zs33 ezs33 => ?_)
                replace W := W zs33 ezs33
                refine J_aload_no (pc' := 164) rfl rfl zg1 rfl ?_
                refine J_aload_no (pc' := 165) rfl rfl zg1 rfl ?_
                obtain ⟨zg34, W⟩ := W
                refine J_getA (G := 1069) (pc' := 168) rfl rfl (Nat.le_of_ble_eq_true rfl) rfl zg1 zg34 rfl ?_
                refine J_iload (pc' := 170) rfl rfl rfl ?_
                obtain ⟨zg35, W⟩ := W
                obtain ⟨zg36, W⟩ := W
                refine J_iald (pc' := 171) rfl rfl zg35 zg36 rfl ?_
                refine J_putI (G := 1102) (pc' := 174) rfl rfl (Nat.le_of_ble_eq_true rfl) rfl rfl zg1 rfl (fun zs37 ezs37 => ?_)
                replace W := W zs37 ezs37
                exact J_vret rfl rfl ⟨rfl, W⟩
        · refine J_aload_no (pc' := 89) rfl rfl zg1 rfl ?_
          refine J_getI (G := 1098) (pc' := 92) rfl rfl (Nat.le_of_ble_eq_true rfl) rfl zg1 rfl ?_
          refine J_iconst (pc' := 93) rfl (i32_d rfl) rfl ?_
          refine J_iadd (pc' := 94) rfl zg7 rfl ?_
          refine J_goto (pc' := 101) rfl rfl ?_
          refine J_putI (G := 1107) (pc' := 104) rfl rfl (Nat.le_of_ble_eq_true rfl) rfl rfl zg1 rfl (fun zs38 ezs38 => ?_)
          replace W := W zs38 ezs38
          refine J_aload_no (pc' := 105) rfl rfl zg1 rfl ?_
          refine J_getI (G := 1044) (pc' := 108) rfl rfl (Nat.le_of_ble_eq_true rfl) rfl zg1 rfl ?_
          refine J_if (P := ¬ rs zs38 1044 zo0 = 0) (t := 115) (f := 111) rfl rfl rfl jc_ne W (fun W => ?_) (fun W => ?_)
          · refine J_iconst (pc' := 116) rfl (i32_d rfl) rfl ?_
            refine J_istore_n (L' := [some (jo 1 zo0), some (ji zx1), some (ji zr4), some (ji 0), none, none]) (pc' := 117) rfl (Nat.le_of_ble_eq_true rfl) rfl rfl ?_
            refine J_iload_n (pc' := 118) rfl rfl rfl ?_
            refine J_if_t (pc' := 139) rfl rfl rfl ?_
            refine J_weak (L' := [some (jo 1 zo0), some (ji zx1), none, some (ji 0), none, none]) (And.intro rfl (And.intro rfl (And.intro rfl trivial))) ?_
            exact W
          · refine J_iconst (pc' := 112) rfl (i32_d rfl) rfl ?_
            refine J_goto (pc' := 116) rfl rfl ?_
            refine J_istore_n (L' := [some (jo 1 zo0), some (ji zx1), some (ji zr4), some (ji 1), none, none]) (pc' := 117) rfl (Nat.le_of_ble_eq_true rfl) rfl rfl ?_
            refine J_iload_n (pc' := 118) rfl rfl rfl ?_
            refine J_if_f (pc' := 121) rfl rfl rfl ?_
            refine J_aload_no (pc' := 122) rfl rfl zg1 rfl ?_
            refine J_getI (G := 1100) (pc' := 125) rfl rfl (Nat.le_of_ble_eq_true rfl) rfl zg1 rfl ?_
            refine J_if (P := ¬ rs zs38 1100 zo0 = 0) (t := 139) (f := 128) rfl rfl rfl jc_ne W (fun W => ?_) (fun W => ?_)
            · refine J_weak (L' := [some (jo 1 zo0), some (ji zx1), none, some (ji 1), none, none]) (And.intro rfl (And.intro rfl (And.intro rfl trivial))) ?_
              exact W
            · refine J_aload_no (pc' := 129) rfl rfl zg1 rfl ?_
              refine J_aload_no (pc' := 130) rfl rfl zg1 rfl ?_
              refine J_getI (G := 1108) (pc' := 133) rfl rfl (Nat.le_of_ble_eq_true rfl) rfl zg1 rfl ?_
              refine J_weak (L' := [some (jo 1 zo0), some (ji zx1), none, some (ji 1), none, none]) (And.intro rfl (And.intro rfl (And.intro rfl trivial))) ?_
              refine J_callI (as := [jo 1 zo0, ji (rs zs38 1108 zo0)]) (rest := []) (pc' := 136) rfl rfl ax_Z_55 rfl rfl (Or.inr (Or.inr ⟨_, _, rfl, zg1⟩)) (Nat.le_of_ble_eq_true rfl) (Nat.le_of_ble_eq_true rfl) (Nat.le_of_ble_eq_true rfl) zg2 trivial trivial rfl W (fun zr40 zs39 W => ?_)
              refine J_goto (pc' := 140) rfl rfl ?_
              refine J_istore (L' := [some (jo 1 zo0), some (ji zx1), none, some (ji 1), some (ji zr40), none]) (pc' := 142) rfl (Nat.le_of_ble_eq_true rfl) rfl rfl ?_
              refine J_iload (pc' := 144) rfl rfl rfl ?_
              refine J_iconst (pc' := 145) rfl (i32_d rfl) rfl ?_
              refine J_icmp (P := zr40 = (-1)) (t := 175) (f := 148) rfl rfl rfl jc_eq W (fun W => ?_) (fun W => ?_)
              · refine J_aload_no (pc' := 176) rfl rfl zg1 rfl ?_
                refine J_getI (G := 1098) (pc' := 179) rfl rfl (Nat.le_of_ble_eq_true rfl) rfl zg1 rfl ?_
                refine J_istore (L' := [some (jo 1 zo0), some (ji zx1), none, some (ji 1), some (ji zr40), some (ji (rs zs39 1098 zo0))]) (pc' := 181) rfl (Nat.le_of_ble_eq_true rfl) rfl rfl ?_
                refine J_aload_no (pc' := 182) rfl rfl zg1 rfl ?_
                refine J_dup (pc' := 183) rfl rfl rfl ?_
                refine J_getI (G := 1098) (pc' := 186) rfl rfl (Nat.le_of_ble_eq_true rfl) rfl zg1 rfl ?_
                refine J_iconst (pc' := 187) rfl (i32_d rfl) rfl ?_
                obtain ⟨zg41, W⟩ := W
                refine J_iadd (pc' := 188) rfl zg41 rfl ?_
                refine J_putI (G := 1098) (pc' := 191) rfl rfl (Nat.le_of_ble_eq_true rfl) rfl rfl zg1 rfl (fun zs42 ezs42 => ?_)
                replace W := W zs42 ezs42
                refine J_aload_no (pc' := 192) rfl rfl zg1 rfl ?_
                obtain ⟨zg43, W⟩ := W
                refine J_getA (G := 1071) (pc' := 195) rfl rfl (Nat.le_of_ble_eq_true rfl) rfl zg1 zg43 rfl ?_
                refine J_iload (pc' := 197) rfl rfl rfl ?_
                refine J_iload_n (pc' := 198) rfl rfl rfl ?_
                obtain ⟨zg45, W⟩ := W
                obtain ⟨zg46, W⟩ := W
                refine J_iast (pc' := 199) rfl rfl (by decide) zg45 zg46 rfl (fun zs44 ezs44 => ?_)
                replace W := W zs44 ezs44
                refine J_aload_no (pc' := 200) rfl rfl zg1 rfl ?_
                obtain ⟨zg47, W⟩ := W
                refine J_getA (G := 1072) (pc' := 203) rfl rfl (Nat.le_of_ble_eq_true rfl) rfl zg1 zg47 rfl ?_
                refine J_iload (pc' := 205) rfl rfl rfl ?_
                refine J_iload_n (pc' := 206) rfl rfl rfl ?_
                obtain ⟨zg49, W⟩ := W
                obtain ⟨zg50, W⟩ := W
                refine J_bast2 (pc' := 207) rfl rfl (Or.inr rfl) zg49 zg50 rfl (fun zs48 ezs48 => ?_)
                replace W := W zs48 ezs48
                refine J_aload_no (pc' := 208) rfl rfl zg1 rfl ?_
                obtain ⟨zg51, W⟩ := W
                refine J_getA (G := 1073) (pc' := 211) rfl rfl (Nat.le_of_ble_eq_true rfl) rfl zg1 zg51 rfl ?_
                refine J_iload (pc' := 213) rfl rfl rfl ?_
                refine J_aload_no (pc' := 214) rfl rfl zg1 rfl ?_
                refine J_getI (G := 1105) (pc' := 217) rfl rfl (Nat.le_of_ble_eq_true rfl) rfl zg1 rfl ?_
                obtain ⟨zg53, W⟩ := W
                obtain ⟨zg54, W⟩ := W
                refine J_iast (pc' := 218) rfl rfl (by decide) zg53 zg54 rfl (fun zs52 ezs52 => ?_)
                replace W := W zs52 ezs52
                refine J_aload_no (pc' := 219) rfl rfl zg1 rfl ?_
                obtain ⟨zg55, W⟩ := W
                refine J_getA (G := 1093) (pc' := 222) rfl rfl (Nat.le_of_ble_eq_true rfl) rfl zg1 zg55 rfl ?_
                refine J_iload (pc' := 224) rfl rfl rfl ?_
                refine J_aload_no (pc' := 225) rfl rfl zg1 rfl ?_
                refine J_getI (G := 1097) (pc' := 228) rfl rfl (Nat.le_of_ble_eq_true rfl) rfl zg1 rfl ?_
                obtain ⟨zg57, W⟩ := W
                obtain ⟨zg58, W⟩ := W
                refine J_iast (pc' := 229) rfl rfl (by decide) zg57 zg58 rfl (fun zs56 ezs56 => ?_)
                replace W := W zs56 ezs56
                refine J_aload_no (pc' := 230) rfl rfl zg1 rfl ?_
                refine J_iload (pc' := 232) rfl rfl rfl ?_
                refine J_aload_no (pc' := 233) rfl rfl zg1 rfl ?_
                refine J_getI (G := 1108) (pc' := 236) rfl rfl (Nat.le_of_ble_eq_true rfl) rfl zg1 rfl ?_
                refine J_iconst (pc' := 237) rfl (i32_d rfl) rfl ?_
                refine J_weak (L' := [none, none, none, none, none, none]) trivial ?_
                refine J_callV (as := [jo 1 zo0, ji (rs zs39 1098 zo0), ji (rs zs56 1108 zo0), ji 0]) (rest := []) (pc' := 240) rfl rfl ax_Z_56 rfl rfl (Or.inr (Or.inr ⟨_, _, rfl, zg1⟩)) (Nat.le_of_ble_eq_true rfl) (Nat.le_of_ble_eq_true rfl) (Nat.le_of_ble_eq_true rfl) zg2 trivial trivial rfl W (fun zs59 W => ?_)
                exact J_vret rfl rfl ⟨rfl, W⟩
              · refine J_aload_no (pc' := 149) rfl rfl zg1 rfl ?_
                refine J_dup (pc' := 150) rfl rfl rfl ?_
                refine J_getI (G := 1104) (pc' := 153) rfl rfl (Nat.le_of_ble_eq_true rfl) rfl zg1 rfl ?_
                refine J_iconst (pc' := 154) rfl (i32_d rfl) rfl ?_
                obtain ⟨zg61, W⟩ := W
                refine J_iadd (pc' := 155) rfl zg61 rfl ?_
                refine J_putI (G := 1104) (pc' := 158) rfl rfl (Nat.le_of_ble_eq_true rfl) rfl rfl zg1 rfl (fun zs62 ezs62 => ?_)
                replace W := W zs62 ezs62
                refine J_aload_no (pc' := 159) rfl rfl zg1 rfl ?_
                refine J_iconst (pc' := 160) rfl (i32_d rfl) rfl ?_
                refine J_putZ (G := 1101) (pc' := 163) rfl rfl (Nat.le_of_ble_eq_true rfl) rfl rfl zg1 (Or.inr rfl) rfl (fun zs63 ezs63 => ?_)
                replace W := W zs63 ezs63
                refine J_aload_no (pc' := 164) rfl rfl zg1 rfl ?_
                refine J_aload_no (pc' := 165) rfl rfl zg1 rfl ?_
                obtain ⟨zg64, W⟩ := W
                refine J_getA (G := 1069) (pc' := 168) rfl rfl (Nat.le_of_ble_eq_true rfl) rfl zg1 zg64 rfl ?_
                refine J_iload (pc' := 170) rfl rfl rfl ?_
                obtain ⟨zg65, W⟩ := W
                obtain ⟨zg66, W⟩ := W
                refine J_iald (pc' := 171) rfl rfl zg65 zg66 rfl ?_
                refine J_putI (G := 1102) (pc' := 174) rfl rfl (Nat.le_of_ble_eq_true rfl) rfl rfl zg1 rfl (fun zs67 ezs67 => ?_)
                replace W := W zs67 ezs67
                exact J_vret rfl rfl ⟨rfl, W⟩
      · refine J_weak (L' := [some (jo 1 zo0), none, none, none, none, none]) (And.intro rfl trivial) ?_
        exact W
set_option maxRecDepth 16000 in
theorem wp_Model_askGoal_31 {n : Nat} {σ : jS} {Q : jS → Prop} {zo0 : Int} (W : 0 ≤ zo0 ∧ (if ¬ rs σ 1103 zo0 = 200 then (if ¬ rs σ 1098 zo0 = 20 then (∀ zs2, zs2 = ws σ 1099 zo0 5 → Q zs2) else (∀ zs3, zs3 = ws σ 1099 zo0 4 → Q zs3)) else (∀ zs4, zs4 = ws σ 1099 zo0 3 → Q zs4))) : J n c_Model_askGoal none 31 [some (jo 1 zo0), none, none, none, none, none] [] σ (qV Q) := by
  obtain ⟨zg1, W⟩ := W
  refine J_aload_no (pc' := 32) rfl rfl zg1 rfl ?_
  refine J_aload_no (pc' := 33) rfl rfl zg1 rfl ?_
  refine J_getI (G := 1103) (pc' := 36) rfl rfl (Nat.le_of_ble_eq_true rfl) rfl zg1 rfl ?_
  refine J_sipush (pc' := 39) rfl (by decide) (by decide) rfl ?_
  refine J_icmp (P := ¬ rs σ 1103 zo0 = 200) (t := 46) (f := 42) rfl rfl rfl jc_ne W (fun W => ?_) (fun W => ?_)
  · refine J_aload_no (pc' := 47) rfl rfl zg1 rfl ?_
    refine J_getI (G := 1098) (pc' := 50) rfl rfl (Nat.le_of_ble_eq_true rfl) rfl zg1 rfl ?_
    refine J_bipush (pc' := 52) rfl (by decide) (by decide) rfl ?_
    refine J_icmp (P := ¬ rs σ 1098 zo0 = 20) (t := 59) (f := 55) rfl rfl rfl jc_ne W (fun W => ?_) (fun W => ?_)
    · refine J_iconst (pc' := 60) rfl (i32_d rfl) rfl ?_
      refine J_putI (G := 1099) (pc' := 63) rfl rfl (Nat.le_of_ble_eq_true rfl) rfl rfl zg1 rfl (fun zs2 ezs2 => ?_)
      replace W := W zs2 ezs2
      exact J_vret rfl rfl ⟨rfl, W⟩
    · refine J_iconst (pc' := 56) rfl (i32_d rfl) rfl ?_
      refine J_goto (pc' := 60) rfl rfl ?_
      refine J_putI (G := 1099) (pc' := 63) rfl rfl (Nat.le_of_ble_eq_true rfl) rfl rfl zg1 rfl (fun zs3 ezs3 => ?_)
      replace W := W zs3 ezs3
      exact J_vret rfl rfl ⟨rfl, W⟩
  · refine J_iconst (pc' := 43) rfl (i32_d rfl) rfl ?_
    refine J_goto (pc' := 60) rfl rfl ?_
    refine J_putI (G := 1099) (pc' := 63) rfl rfl (Nat.le_of_ble_eq_true rfl) rfl rfl zg1 rfl (fun zs4 ezs4 => ?_)
    replace W := W zs4 ezs4
    exact J_vret rfl rfl ⟨rfl, W⟩
set_option maxRecDepth 16000 in
theorem wp_Model_askGoal_139 {n : Nat} {σ : jS} {Q : jS → Prop} {zo0 : Int} {zx1 : Int} {zx3 : Int} (W : 0 ≤ zo0 ∧ i32 ((rs σ 1098 zo0) + 1) ∧ (∀ zs3, zs3 = ws σ 1098 zo0 ((rs σ 1098 zo0) + 1) → 0 ≤ rl zs3 1071 zo0 ∧ 0 ≤ rs σ 1098 zo0 ∧ rs σ 1098 zo0 < rl zs3 1071 zo0 ∧ (∀ zs5, zs5 = wa zs3 1071 zo0 (rs σ 1098 zo0) zx1 → 0 ≤ rl zs5 1072 zo0 ∧ (zx3 = 0 ∨ zx3 = 1) ∧ 0 ≤ rs σ 1098 zo0 ∧ rs σ 1098 zo0 < rl zs5 1072 zo0 ∧ (∀ zs9, zs9 = wa zs5 1072 zo0 (rs σ 1098 zo0) zx3 → 0 ≤ rl zs9 1073 zo0 ∧ 0 ≤ rs σ 1098 zo0 ∧ rs σ 1098 zo0 < rl zs9 1073 zo0 ∧ (∀ zs14, zs14 = wa zs9 1073 zo0 (rs σ 1098 zo0) (rs zs9 1105 zo0) → 0 ≤ rl zs14 1093 zo0 ∧ 0 ≤ rs σ 1098 zo0 ∧ rs σ 1098 zo0 < rl zs14 1093 zo0 ∧ (∀ zs18, zs18 = wa zs14 1093 zo0 (rs σ 1098 zo0) (rs zs14 1097 zo0) → 1 ≤ n ∧ TrV (n - 1) i_Model_openLevel [jo 1 zo0, ji (rs σ 1098 zo0), ji (rs zs18 1108 zo0), ji 0] zs18 (fun zs22 => Q zs22))))))) : J n c_Model_askGoal none 139 [some (jo 1 zo0), some (ji zx1), none, some (ji zx3), none, none] [] σ (qV Q) := by
  refine J_iconst (pc' := 140) rfl (i32_d rfl) rfl ?_
  refine J_istore (L' := [some (jo 1 zo0), some (ji zx1), none, some (ji zx3), some (ji (-1)), none]) (pc' := 142) rfl (Nat.le_of_ble_eq_true rfl) rfl rfl ?_
  refine J_iload (pc' := 144) rfl rfl rfl ?_
  refine J_iconst (pc' := 145) rfl (i32_d rfl) rfl ?_
  refine J_icmp_t (pc' := 175) rfl rfl rfl ?_
  obtain ⟨zg1, W⟩ := W
  refine J_aload_no (pc' := 176) rfl rfl zg1 rfl ?_
  refine J_getI (G := 1098) (pc' := 179) rfl rfl (Nat.le_of_ble_eq_true rfl) rfl zg1 rfl ?_
  refine J_istore (L' := [some (jo 1 zo0), some (ji zx1), none, some (ji zx3), some (ji (-1)), some (ji (rs σ 1098 zo0))]) (pc' := 181) rfl (Nat.le_of_ble_eq_true rfl) rfl rfl ?_
  refine J_aload_no (pc' := 182) rfl rfl zg1 rfl ?_
  refine J_dup (pc' := 183) rfl rfl rfl ?_
  refine J_getI (G := 1098) (pc' := 186) rfl rfl (Nat.le_of_ble_eq_true rfl) rfl zg1 rfl ?_
  refine J_iconst (pc' := 187) rfl (i32_d rfl) rfl ?_
  obtain ⟨zg2, W⟩ := W
  refine J_iadd (pc' := 188) rfl zg2 rfl ?_
  refine J_putI (G := 1098) (pc' := 191) rfl rfl (Nat.le_of_ble_eq_true rfl) rfl rfl zg1 rfl (fun zs3 ezs3 => ?_)
  replace W := W zs3 ezs3
  refine J_aload_no (pc' := 192) rfl rfl zg1 rfl ?_
  obtain ⟨zg4, W⟩ := W
  refine J_getA (G := 1071) (pc' := 195) rfl rfl (Nat.le_of_ble_eq_true rfl) rfl zg1 zg4 rfl ?_
  refine J_iload (pc' := 197) rfl rfl rfl ?_
  refine J_iload_n (pc' := 198) rfl rfl rfl ?_
  obtain ⟨zg6, W⟩ := W
  obtain ⟨zg7, W⟩ := W
  refine J_iast (pc' := 199) rfl rfl (by decide) zg6 zg7 rfl (fun zs5 ezs5 => ?_)
  replace W := W zs5 ezs5
  refine J_aload_no (pc' := 200) rfl rfl zg1 rfl ?_
  obtain ⟨zg8, W⟩ := W
  refine J_getA (G := 1072) (pc' := 203) rfl rfl (Nat.le_of_ble_eq_true rfl) rfl zg1 zg8 rfl ?_
  refine J_iload (pc' := 205) rfl rfl rfl ?_
  refine J_iload_n (pc' := 206) rfl rfl rfl ?_
  obtain ⟨zg10, W⟩ := W
  obtain ⟨zg11, W⟩ := W
  obtain ⟨zg12, W⟩ := W
  refine J_bast2 (pc' := 207) rfl rfl zg10 zg11 zg12 rfl (fun zs9 ezs9 => ?_)
  replace W := W zs9 ezs9
  refine J_aload_no (pc' := 208) rfl rfl zg1 rfl ?_
  obtain ⟨zg13, W⟩ := W
  refine J_getA (G := 1073) (pc' := 211) rfl rfl (Nat.le_of_ble_eq_true rfl) rfl zg1 zg13 rfl ?_
  refine J_iload (pc' := 213) rfl rfl rfl ?_
  refine J_aload_no (pc' := 214) rfl rfl zg1 rfl ?_
  refine J_getI (G := 1105) (pc' := 217) rfl rfl (Nat.le_of_ble_eq_true rfl) rfl zg1 rfl ?_
  obtain ⟨zg15, W⟩ := W
  obtain ⟨zg16, W⟩ := W
  refine J_iast (pc' := 218) rfl rfl (by decide) zg15 zg16 rfl (fun zs14 ezs14 => ?_)
  replace W := W zs14 ezs14
  refine J_aload_no (pc' := 219) rfl rfl zg1 rfl ?_
  obtain ⟨zg17, W⟩ := W
  refine J_getA (G := 1093) (pc' := 222) rfl rfl (Nat.le_of_ble_eq_true rfl) rfl zg1 zg17 rfl ?_
  refine J_iload (pc' := 224) rfl rfl rfl ?_
  refine J_aload_no (pc' := 225) rfl rfl zg1 rfl ?_
  refine J_getI (G := 1097) (pc' := 228) rfl rfl (Nat.le_of_ble_eq_true rfl) rfl zg1 rfl ?_
  obtain ⟨zg19, W⟩ := W
  obtain ⟨zg20, W⟩ := W
  refine J_iast (pc' := 229) rfl rfl (by decide) zg19 zg20 rfl (fun zs18 ezs18 => ?_)
  replace W := W zs18 ezs18
  refine J_aload_no (pc' := 230) rfl rfl zg1 rfl ?_
  refine J_iload (pc' := 232) rfl rfl rfl ?_
  refine J_aload_no (pc' := 233) rfl rfl zg1 rfl ?_
  refine J_getI (G := 1108) (pc' := 236) rfl rfl (Nat.le_of_ble_eq_true rfl) rfl zg1 rfl ?_
  refine J_iconst (pc' := 237) rfl (i32_d rfl) rfl ?_
  obtain ⟨zg21, W⟩ := W
  refine J_weak (L' := [none, none, none, none, none, none]) trivial ?_
  refine J_callV (as := [jo 1 zo0, ji (rs σ 1098 zo0), ji (rs zs18 1108 zo0), ji 0]) (rest := []) (pc' := 240) rfl rfl ax_Z_56 rfl rfl (Or.inr (Or.inr ⟨_, _, rfl, zg1⟩)) (Nat.le_of_ble_eq_true rfl) (Nat.le_of_ble_eq_true rfl) (Nat.le_of_ble_eq_true rfl) zg21 trivial trivial rfl W (fun zs22 W => ?_)
  exact J_vret rfl rfl ⟨rfl, W⟩
theorem wp_Model_isCut {n : Nat} {σ : jS} {Q : Int → jS → Prop} {zo0 : Int} {zx1 : Int} {zx2 : Int} (W : 0 ≤ zo0 ∧ 0 ≤ rl σ 1071 zo0 ∧ 0 ≤ zx1 ∧ zx1 < rl σ 1071 zo0 ∧ 1 ≤ n ∧ TrI (n - 1) i_Model_layOut [jo 1 zo0, ji (ra σ 1071 zo0 zx1)] σ (fun zr7 zs6 => J n c_Model_isCut (some .boolean) 20 [some (jo 1 zo0), some (ji zx1), some (ji zx2), some (ji zr7), some (ji (rs zs6 1045 zo0)), some (ji 0)] [] zs6 (qI Q))) : TrI n i_Model_isCut [jo 1 zo0, ji zx1, ji zx2] σ Q := by
  refine Tr_of ax_Z_61 ?_
  show J n c_Model_isCut (some .boolean) 0 [some (jo 1 zo0), some (ji zx1), some (ji zx2), none, none, none] [] σ (qI Q)
  obtain ⟨zg1, W⟩ := W
  refine J_aload_no (pc' := 1) rfl rfl zg1 rfl ?_
  refine J_aload_no (pc' := 2) rfl rfl zg1 rfl ?_
  obtain ⟨zg2, W⟩ := W
  refine J_getA (G := 1071) (pc' := 5) rfl rfl (Nat.le_of_ble_eq_true rfl) rfl zg1 zg2 rfl ?_
  refine J_iload_n (pc' := 6) rfl rfl rfl ?_
  obtain ⟨zg3, W⟩ := W
  obtain ⟨zg4, W⟩ := W
  refine J_iald (pc' := 7) rfl rfl zg3 zg4 rfl ?_
  obtain ⟨zg5, W⟩ := W
  refine J_callI (as := [jo 1 zo0, ji (ra σ 1071 zo0 zx1)]) (rest := []) (pc' := 10) rfl rfl ax_Z_50 rfl rfl (Or.inr (Or.inr ⟨_, _, rfl, zg1⟩)) (Nat.le_of_ble_eq_true rfl) (Nat.le_of_ble_eq_true rfl) (Nat.le_of_ble_eq_true rfl) zg5 trivial trivial rfl W (fun zr7 zs6 W => ?_)
  refine J_istore_n (L' := [some (jo 1 zo0), some (ji zx1), some (ji zx2), some (ji zr7), none, none]) (pc' := 11) rfl (Nat.le_of_ble_eq_true rfl) rfl rfl ?_
  refine J_aload_no (pc' := 12) rfl rfl zg1 rfl ?_
  refine J_getI (G := 1045) (pc' := 15) rfl rfl (Nat.le_of_ble_eq_true rfl) rfl zg1 rfl ?_
  refine J_istore (L' := [some (jo 1 zo0), some (ji zx1), some (ji zx2), some (ji zr7), some (ji (rs zs6 1045 zo0)), none]) (pc' := 17) rfl (Nat.le_of_ble_eq_true rfl) rfl rfl ?_
  refine J_iconst (pc' := 18) rfl (i32_d rfl) rfl ?_
  refine J_istore (L' := [some (jo 1 zo0), some (ji zx1), some (ji zx2), some (ji zr7), some (ji (rs zs6 1045 zo0)), some (ji 0)]) (pc' := 20) rfl (Nat.le_of_ble_eq_true rfl) rfl rfl ?_
  exact W
theorem wp_Model_isCut_20 {n : Nat} {σ : jS} {Q : Int → jS → Prop} {zo0 : Int} {zx1 : Int} {zx2 : Int} {zx3 : Int} {zx4 : Int} {zx5 : Int} (W : (if zx1 ≤ zx5 then Q 0 σ else 0 ≤ zo0 ∧ 0 ≤ rl σ 1081 zo0 ∧ 0 ≤ zx5 ∧ zx5 < rl σ 1081 zo0 ∧ (if ¬ ra σ 1081 zo0 zx5 = zx2 then i32 (zx5 + 1) ∧ J n c_Model_isCut (some .boolean) 20 [some (jo 1 zo0), some (ji zx1), some (ji zx2), some (ji zx3), some (ji zx4), some (ji (zx5 + 1))] [] σ (qI Q) else 0 ≤ rl σ 1071 zo0 ∧ zx5 < rl σ 1071 zo0 ∧ 1 ≤ n ∧ TrI (n - 1) i_Model_layOut [jo 1 zo0, ji (ra σ 1071 zo0 zx5)] σ (fun zr10 zs9 => (if zx3 < zr10 then i32 (zx5 + 1) ∧ J n c_Model_isCut (some .boolean) 20 [some (jo 1 zo0), some (ji zx1), some (ji zx2), some (ji zx3), some (ji zx4), some (ji (zx5 + 1))] [] zs9 (qI Q) else (if ¬ rs zs9 1045 zo0 = zx4 then i32 (zx5 + 1) ∧ J n c_Model_isCut (some .boolean) 20 [some (jo 1 zo0), some (ji zx1), some (ji zx2), some (ji zx3), some (ji zx4), some (ji (zx5 + 1))] [] zs9 (qI Q) else Q 1 zs9)))))) : J n c_Model_isCut (some .boolean) 20 [some (jo 1 zo0), some (ji zx1), some (ji zx2), some (ji zx3), some (ji zx4), some (ji zx5)] [] σ (qI Q) := by
  refine J_iload (pc' := 22) rfl rfl rfl ?_
  refine J_iload_n (pc' := 23) rfl rfl rfl ?_
  refine J_icmp (P := zx1 ≤ zx5) (t := 69) (f := 26) rfl rfl rfl jc_ge W (fun W => ?_) (fun W => ?_)
  · refine J_iconst (pc' := 70) rfl (i32_d rfl) rfl ?_
    exact J_zret rfl rfl (Or.inl rfl) ⟨_, rfl, W⟩
  · obtain ⟨zg1, W⟩ := W
    refine J_aload_no (pc' := 27) rfl rfl zg1 rfl ?_
    obtain ⟨zg2, W⟩ := W
    refine J_getA (G := 1081) (pc' := 30) rfl rfl (Nat.le_of_ble_eq_true rfl) rfl zg1 zg2 rfl ?_
    refine J_iload (pc' := 32) rfl rfl rfl ?_
    obtain ⟨zg3, W⟩ := W
    obtain ⟨zg4, W⟩ := W
    refine J_iald (pc' := 33) rfl rfl zg3 zg4 rfl ?_
    refine J_iload_n (pc' := 34) rfl rfl rfl ?_
    refine J_icmp (P := ¬ ra σ 1081 zo0 zx5 = zx2) (t := 63) (f := 37) rfl rfl rfl jc_ne W (fun W => ?_) (fun W => ?_)
    · obtain ⟨zg5, W⟩ := W
      refine J_iinc (L' := [some (jo 1 zo0), some (ji zx1), some (ji zx2), some (ji zx3), some (ji zx4), some (ji (zx5 + 1))]) (pc' := 66) rfl rfl zg5 rfl rfl ?_
      refine J_goto (pc' := 20) rfl rfl ?_
      exact W
    · refine J_aload_no (pc' := 38) rfl rfl zg1 rfl ?_
      refine J_aload_no (pc' := 39) rfl rfl zg1 rfl ?_
      obtain ⟨zg6, W⟩ := W
      refine J_getA (G := 1071) (pc' := 42) rfl rfl (Nat.le_of_ble_eq_true rfl) rfl zg1 zg6 rfl ?_
      refine J_iload (pc' := 44) rfl rfl rfl ?_
      obtain ⟨zg7, W⟩ := W
      refine J_iald (pc' := 45) rfl rfl zg3 zg7 rfl ?_
      obtain ⟨zg8, W⟩ := W
      refine J_callI (as := [jo 1 zo0, ji (ra σ 1071 zo0 zx5)]) (rest := []) (pc' := 48) rfl rfl ax_Z_50 rfl rfl (Or.inr (Or.inr ⟨_, _, rfl, zg1⟩)) (Nat.le_of_ble_eq_true rfl) (Nat.le_of_ble_eq_true rfl) (Nat.le_of_ble_eq_true rfl) zg8 trivial trivial rfl W (fun zr10 zs9 W => ?_)
      refine J_iload_n (pc' := 49) rfl rfl rfl ?_
      refine J_icmp (P := zx3 < zr10) (t := 63) (f := 52) rfl rfl rfl jc_gt W (fun W => ?_) (fun W => ?_)
      · obtain ⟨zg11, W⟩ := W
        refine J_iinc (L' := [some (jo 1 zo0), some (ji zx1), some (ji zx2), some (ji zx3), some (ji zx4), some (ji (zx5 + 1))]) (pc' := 66) rfl rfl zg11 rfl rfl ?_
        refine J_goto (pc' := 20) rfl rfl ?_
        exact W
      · refine J_aload_no (pc' := 53) rfl rfl zg1 rfl ?_
        refine J_getI (G := 1045) (pc' := 56) rfl rfl (Nat.le_of_ble_eq_true rfl) rfl zg1 rfl ?_
        refine J_iload (pc' := 58) rfl rfl rfl ?_
        refine J_icmp (P := ¬ rs zs9 1045 zo0 = zx4) (t := 63) (f := 61) rfl rfl rfl jc_ne W (fun W => ?_) (fun W => ?_)
        · obtain ⟨zg12, W⟩ := W
          refine J_iinc (L' := [some (jo 1 zo0), some (ji zx1), some (ji zx2), some (ji zx3), some (ji zx4), some (ji (zx5 + 1))]) (pc' := 66) rfl rfl zg12 rfl rfl ?_
          refine J_goto (pc' := 20) rfl rfl ?_
          exact W
        · refine J_iconst (pc' := 62) rfl (i32_d rfl) rfl ?_
          exact J_zret rfl rfl (Or.inr rfl) ⟨_, rfl, W⟩
theorem wp_Model_tryGiven {n : Nat} {σ : jS} {Q : jS → Prop} {zo0 : Int} {zx1 : Int} {zx2 : Int} (W : 0 ≤ zo0 ∧ i32 ((rs σ 1106 zo0) + 1) ∧ (∀ zs3, zs3 = ws σ 1106 zo0 ((rs σ 1106 zo0) + 1) → 0 ≤ rl zs3 1081 zo0 ∧ 0 ≤ zx1 ∧ zx1 < rl zs3 1081 zo0 ∧ (∀ zs5, zs5 = wa zs3 1081 zo0 zx1 zx2 → 0 ≤ rl zs5 1082 zo0 ∧ zx1 < rl zs5 1082 zo0 ∧ (∀ zs9, zs9 = wa zs5 1082 zo0 zx1 0 → 0 ≤ rl zs9 1084 zo0 ∧ zx1 < rl zs9 1084 zo0 ∧ (∀ zs12, zs12 = wa zs9 1084 zo0 zx1 (rs zs9 1035 zo0) → 0 ≤ rl zs12 1085 zo0 ∧ zx1 < rl zs12 1085 zo0 ∧ (∀ zs15, zs15 = wa zs12 1085 zo0 zx1 (rs zs12 1033 zo0) → 0 ≤ rl zs15 1086 zo0 ∧ zx1 < rl zs15 1086 zo0 ∧ (∀ zs18, zs18 = wa zs15 1086 zo0 zx1 (rs zs15 1034 zo0) → 0 ≤ rl zs18 1087 zo0 ∧ zx1 < rl zs18 1087 zo0 ∧ (∀ zs21, zs21 = wa zs18 1087 zo0 zx1 (rs zs18 1064 zo0) → 1 ≤ n ∧ TrI (n - 1) i_Model_layGiven [jo 1 zo0, ji zx2, ji 0] zs21 (fun zr25 zs24 => J n c_Model_tryGiven none 74 [some (jo 1 zo0), some (ji zx1), some (ji zx2), some (ji zr25), some (ji 1)] [] zs24 (qV Q)))))))))) : TrV n i_Model_tryGiven [jo 1 zo0, ji zx1, ji zx2] σ Q := by
  refine Tr_of ax_Z_62 ?_
  show J n c_Model_tryGiven none 0 [some (jo 1 zo0), some (ji zx1), some (ji zx2), none, none] [] σ (qV Q)
  obtain ⟨zg1, W⟩ := W
  refine J_aload_no (pc' := 1) rfl rfl zg1 rfl ?_
  refine J_dup (pc' := 2) rfl rfl rfl ?_
  refine J_getI (G := 1106) (pc' := 5) rfl rfl (Nat.le_of_ble_eq_true rfl) rfl zg1 rfl ?_
  refine J_iconst (pc' := 6) rfl (i32_d rfl) rfl ?_
  obtain ⟨zg2, W⟩ := W
  refine J_iadd (pc' := 7) rfl zg2 rfl ?_
  refine J_putI (G := 1106) (pc' := 10) rfl rfl (Nat.le_of_ble_eq_true rfl) rfl rfl zg1 rfl (fun zs3 ezs3 => ?_)
  replace W := W zs3 ezs3
  refine J_aload_no (pc' := 11) rfl rfl zg1 rfl ?_
  obtain ⟨zg4, W⟩ := W
  refine J_getA (G := 1081) (pc' := 14) rfl rfl (Nat.le_of_ble_eq_true rfl) rfl zg1 zg4 rfl ?_
  refine J_iload_n (pc' := 15) rfl rfl rfl ?_
  refine J_iload_n (pc' := 16) rfl rfl rfl ?_
  obtain ⟨zg6, W⟩ := W
  obtain ⟨zg7, W⟩ := W
  refine J_iast (pc' := 17) rfl rfl (by decide) zg6 zg7 rfl (fun zs5 ezs5 => ?_)
  replace W := W zs5 ezs5
  refine J_aload_no (pc' := 18) rfl rfl zg1 rfl ?_
  obtain ⟨zg8, W⟩ := W
  refine J_getA (G := 1082) (pc' := 21) rfl rfl (Nat.le_of_ble_eq_true rfl) rfl zg1 zg8 rfl ?_
  refine J_iload_n (pc' := 22) rfl rfl rfl ?_
  refine J_iconst (pc' := 23) rfl (i32_d rfl) rfl ?_
  obtain ⟨zg10, W⟩ := W
  refine J_iast (pc' := 24) rfl rfl (by decide) zg6 zg10 rfl (fun zs9 ezs9 => ?_)
  replace W := W zs9 ezs9
  refine J_aload_no (pc' := 25) rfl rfl zg1 rfl ?_
  obtain ⟨zg11, W⟩ := W
  refine J_getA (G := 1084) (pc' := 28) rfl rfl (Nat.le_of_ble_eq_true rfl) rfl zg1 zg11 rfl ?_
  refine J_iload_n (pc' := 29) rfl rfl rfl ?_
  refine J_aload_no (pc' := 30) rfl rfl zg1 rfl ?_
  refine J_getI (G := 1035) (pc' := 33) rfl rfl (Nat.le_of_ble_eq_true rfl) rfl zg1 rfl ?_
  obtain ⟨zg13, W⟩ := W
  refine J_iast (pc' := 34) rfl rfl (by decide) zg6 zg13 rfl (fun zs12 ezs12 => ?_)
  replace W := W zs12 ezs12
  refine J_aload_no (pc' := 35) rfl rfl zg1 rfl ?_
  obtain ⟨zg14, W⟩ := W
  refine J_getA (G := 1085) (pc' := 38) rfl rfl (Nat.le_of_ble_eq_true rfl) rfl zg1 zg14 rfl ?_
  refine J_iload_n (pc' := 39) rfl rfl rfl ?_
  refine J_aload_no (pc' := 40) rfl rfl zg1 rfl ?_
  refine J_getI (G := 1033) (pc' := 43) rfl rfl (Nat.le_of_ble_eq_true rfl) rfl zg1 rfl ?_
  obtain ⟨zg16, W⟩ := W
  refine J_iast (pc' := 44) rfl rfl (by decide) zg6 zg16 rfl (fun zs15 ezs15 => ?_)
  replace W := W zs15 ezs15
  refine J_aload_no (pc' := 45) rfl rfl zg1 rfl ?_
  obtain ⟨zg17, W⟩ := W
  refine J_getA (G := 1086) (pc' := 48) rfl rfl (Nat.le_of_ble_eq_true rfl) rfl zg1 zg17 rfl ?_
  refine J_iload_n (pc' := 49) rfl rfl rfl ?_
  refine J_aload_no (pc' := 50) rfl rfl zg1 rfl ?_
  refine J_getI (G := 1034) (pc' := 53) rfl rfl (Nat.le_of_ble_eq_true rfl) rfl zg1 rfl ?_
  obtain ⟨zg19, W⟩ := W
  refine J_iast (pc' := 54) rfl rfl (by decide) zg6 zg19 rfl (fun zs18 ezs18 => ?_)
  replace W := W zs18 ezs18
  refine J_aload_no (pc' := 55) rfl rfl zg1 rfl ?_
  obtain ⟨zg20, W⟩ := W
  refine J_getA (G := 1087) (pc' := 58) rfl rfl (Nat.le_of_ble_eq_true rfl) rfl zg1 zg20 rfl ?_
  refine J_iload_n (pc' := 59) rfl rfl rfl ?_
  refine J_aload_no (pc' := 60) rfl rfl zg1 rfl ?_
  refine J_getI (G := 1064) (pc' := 63) rfl rfl (Nat.le_of_ble_eq_true rfl) rfl zg1 rfl ?_
  obtain ⟨zg22, W⟩ := W
  refine J_iast (pc' := 64) rfl rfl (by decide) zg6 zg22 rfl (fun zs21 ezs21 => ?_)
  replace W := W zs21 ezs21
  refine J_aload_no (pc' := 65) rfl rfl zg1 rfl ?_
  refine J_iload_n (pc' := 66) rfl rfl rfl ?_
  refine J_iconst (pc' := 67) rfl (i32_d rfl) rfl ?_
  obtain ⟨zg23, W⟩ := W
  refine J_callI (as := [jo 1 zo0, ji zx2, ji 0]) (rest := []) (pc' := 70) rfl rfl ax_Z_43 rfl rfl (Or.inr (Or.inr ⟨_, _, rfl, zg1⟩)) (Nat.le_of_ble_eq_true rfl) (Nat.le_of_ble_eq_true rfl) (Nat.le_of_ble_eq_true rfl) zg23 trivial trivial rfl W (fun zr25 zs24 W => ?_)
  refine J_istore_n (L' := [some (jo 1 zo0), some (ji zx1), some (ji zx2), some (ji zr25), none]) (pc' := 71) rfl (Nat.le_of_ble_eq_true rfl) rfl rfl ?_
  refine J_iconst (pc' := 72) rfl (i32_d rfl) rfl ?_
  refine J_istore (L' := [some (jo 1 zo0), some (ji zx1), some (ji zx2), some (ji zr25), some (ji 1)]) (pc' := 74) rfl (Nat.le_of_ble_eq_true rfl) rfl rfl ?_
  exact W
theorem wp_Model_tryGiven_74 {n : Nat} {σ : jS} {Q : jS → Prop} {zo0 : Int} {zx1 : Int} {zx2 : Int} {zx3 : Int} {zx4 : Int} (W : 0 ≤ zo0 ∧ 0 ≤ rl σ 1010 zo0 ∧ 0 ≤ zx2 ∧ zx2 < rl σ 1010 zo0 ∧ (if ra σ 1010 zo0 zx2 < zx4 then 0 ≤ rl σ 1071 zo0 ∧ 0 ≤ zx1 ∧ zx1 < rl σ 1071 zo0 ∧ 1 ≤ n ∧ TrI (n - 1) i_Model_isUnified [jo 1 zo0, ji zx3, ji (ra σ 1071 zo0 zx1)] σ (fun zr10 zs9 => TrV (n - 1) i_Model_goOn [jo 1 zo0, ji zx1] zs9 (fun zs11 => Q zs11)) else 0 ≤ rl σ 1083 zo0 ∧ i32 (4 * zx1) ∧ i32 ((4 * zx1) + zx4) ∧ i32 (((4 * zx1) + zx4) - 1) ∧ 1 ≤ n ∧ TrI (n - 1) i_Model_layGiven [jo 1 zo0, ji zx2, ji zx4] σ (fun zr19 zs18 => 0 ≤ ((4 * zx1) + zx4) - 1 ∧ ((4 * zx1) + zx4) - 1 < rl zs18 1083 zo0 ∧ (∀ zs20, zs20 = wa zs18 1083 zo0 (((4 * zx1) + zx4) - 1) zr19 → i32 (zx4 + 1) ∧ J n c_Model_tryGiven none 74 [some (jo 1 zo0), some (ji zx1), some (ji zx2), some (ji zx3), some (ji (zx4 + 1))] [] zs20 (qV Q))))) : J n c_Model_tryGiven none 74 [some (jo 1 zo0), some (ji zx1), some (ji zx2), some (ji zx3), some (ji zx4)] [] σ (qV Q) := by
  refine J_iload (pc' := 76) rfl rfl rfl ?_
  obtain ⟨zg1, W⟩ := W
  refine J_aload_no (pc' := 77) rfl rfl zg1 rfl ?_
  obtain ⟨zg2, W⟩ := W
  refine J_getA (G := 1010) (pc' := 80) rfl rfl (Nat.le_of_ble_eq_true rfl) rfl zg1 zg2 rfl ?_
  refine J_iload_n (pc' := 81) rfl rfl rfl ?_
  obtain ⟨zg3, W⟩ := W
  obtain ⟨zg4, W⟩ := W
  refine J_iald (pc' := 82) rfl rfl zg3 zg4 rfl ?_
  refine J_icmp (P := ra σ 1010 zo0 zx2 < zx4) (t := 111) (f := 85) rfl rfl rfl jc_gt W (fun W => ?_) (fun W => ?_)
  · refine J_aload_no (pc' := 112) rfl rfl zg1 rfl ?_
    refine J_iload_n (pc' := 113) rfl rfl rfl ?_
    refine J_aload_no (pc' := 114) rfl rfl zg1 rfl ?_
    obtain ⟨zg5, W⟩ := W
    refine J_getA (G := 1071) (pc' := 117) rfl rfl (Nat.le_of_ble_eq_true rfl) rfl zg1 zg5 rfl ?_
    refine J_iload_n (pc' := 118) rfl rfl rfl ?_
    obtain ⟨zg6, W⟩ := W
    obtain ⟨zg7, W⟩ := W
    refine J_iald (pc' := 119) rfl rfl zg6 zg7 rfl ?_
    obtain ⟨zg8, W⟩ := W
    refine J_weak (L' := [some (jo 1 zo0), some (ji zx1), none, none, none]) (And.intro rfl (And.intro rfl trivial)) ?_
    refine J_callI (as := [jo 1 zo0, ji zx3, ji (ra σ 1071 zo0 zx1)]) (rest := []) (pc' := 122) rfl rfl ax_Z_48 rfl rfl (Or.inr (Or.inr ⟨_, _, rfl, zg1⟩)) (Nat.le_of_ble_eq_true rfl) (Nat.le_of_ble_eq_true rfl) (Nat.le_of_ble_eq_true rfl) zg8 trivial trivial rfl W (fun zr10 zs9 W => ?_)
    refine J_istore (L' := [some (jo 1 zo0), some (ji zx1), none, none, some (ji zr10)]) (pc' := 124) rfl (Nat.le_of_ble_eq_true rfl) rfl rfl ?_
    refine J_aload_no (pc' := 125) rfl rfl zg1 rfl ?_
    refine J_iload_n (pc' := 126) rfl rfl rfl ?_
    refine J_weak (L' := [none, none, none, none, none]) trivial ?_
    refine J_callV (as := [jo 1 zo0, ji zx1]) (rest := []) (pc' := 129) rfl rfl ax_Z_63 rfl rfl (Or.inr (Or.inr ⟨_, _, rfl, zg1⟩)) (Nat.le_of_ble_eq_true rfl) (Nat.le_of_ble_eq_true rfl) (Nat.le_of_ble_eq_true rfl) zg8 trivial trivial rfl W (fun zs11 W => ?_)
    exact J_vret rfl rfl ⟨rfl, W⟩
  · refine J_aload_no (pc' := 86) rfl rfl zg1 rfl ?_
    obtain ⟨zg13, W⟩ := W
    refine J_getA (G := 1083) (pc' := 89) rfl rfl (Nat.le_of_ble_eq_true rfl) rfl zg1 zg13 rfl ?_
    refine J_iconst (pc' := 90) rfl (i32_d rfl) rfl ?_
    refine J_iload_n (pc' := 91) rfl rfl rfl ?_
    obtain ⟨zg14, W⟩ := W
    refine J_imul (pc' := 92) rfl zg14 rfl ?_
    refine J_iload (pc' := 94) rfl rfl rfl ?_
    obtain ⟨zg15, W⟩ := W
    refine J_iadd (pc' := 95) rfl zg15 rfl ?_
    refine J_iconst (pc' := 96) rfl (i32_d rfl) rfl ?_
    obtain ⟨zg16, W⟩ := W
    refine J_isub (pc' := 97) rfl zg16 rfl ?_
    refine J_aload_no (pc' := 98) rfl rfl zg1 rfl ?_
    refine J_iload_n (pc' := 99) rfl rfl rfl ?_
    refine J_iload (pc' := 101) rfl rfl rfl ?_
    obtain ⟨zg17, W⟩ := W
    refine J_callI (as := [jo 1 zo0, ji zx2, ji zx4]) (rest := [ji (((4 * zx1) + zx4) - 1), ja 1083 zo0]) (pc' := 104) rfl rfl ax_Z_43 rfl rfl (Or.inr (Or.inr ⟨_, _, rfl, zg1⟩)) (Nat.le_of_ble_eq_true rfl) (Nat.le_of_ble_eq_true rfl) (Nat.le_of_ble_eq_true rfl) zg17 trivial (And.intro rfl trivial) rfl W (fun zr19 zs18 W => ?_)
    obtain ⟨zg21, W⟩ := W
    obtain ⟨zg22, W⟩ := W
    refine J_iast (pc' := 105) rfl rfl (by decide) zg21 zg22 rfl (fun zs20 ezs20 => ?_)
    replace W := W zs20 ezs20
    obtain ⟨zg23, W⟩ := W
    refine J_iinc (L' := [some (jo 1 zo0), some (ji zx1), some (ji zx2), some (ji zx3), some (ji (zx4 + 1))]) (pc' := 108) rfl rfl zg23 rfl rfl ?_
    refine J_goto (pc' := 74) rfl rfl ?_
    exact W
theorem wp_Model_goOn {n : Nat} {σ : jS} {Q : jS → Prop} {zo0 : Int} {zx1 : Int} (W : 0 ≤ zo0 ∧ 0 ≤ rl σ 1082 zo0 ∧ 0 ≤ zx1 ∧ zx1 < rl σ 1082 zo0 ∧ 0 ≤ rl σ 1010 zo0 ∧ 0 ≤ rl σ 1081 zo0 ∧ zx1 < rl σ 1081 zo0 ∧ 0 ≤ ra σ 1081 zo0 zx1 ∧ ra σ 1081 zo0 zx1 < rl σ 1010 zo0 ∧ (if ra σ 1010 zo0 (ra σ 1081 zo0 zx1) ≤ ra σ 1082 zo0 zx1 then 1 ≤ n ∧ TrV (n - 1) i_Model_didWell [jo 1 zo0, ji zx1] σ (fun zs11 => Q zs11) else 0 ≤ rl σ 1083 zo0 ∧ i32 (4 * zx1) ∧ i32 ((4 * zx1) + (ra σ 1082 zo0 zx1)) ∧ 0 ≤ (4 * zx1) + (ra σ 1082 zo0 zx1) ∧ (4 * zx1) + (ra σ 1082 zo0 zx1) < rl σ 1083 zo0 ∧ 1 ≤ n ∧ TrV (n - 1) i_Model_askGoal [jo 1 zo0, ji (ra σ 1083 zo0 ((4 * zx1) + (ra σ 1082 zo0 zx1)))] σ (fun zs19 => Q zs19))) : TrV n i_Model_goOn [jo 1 zo0, ji zx1] σ Q := by
  refine Tr_of ax_Z_63 ?_
  show J n c_Model_goOn none 0 [some (jo 1 zo0), some (ji zx1)] [] σ (qV Q)
  obtain ⟨zg1, W⟩ := W
  refine J_aload_no (pc' := 1) rfl rfl zg1 rfl ?_
  obtain ⟨zg2, W⟩ := W
  refine J_getA (G := 1082) (pc' := 4) rfl rfl (Nat.le_of_ble_eq_true rfl) rfl zg1 zg2 rfl ?_
  refine J_iload_n (pc' := 5) rfl rfl rfl ?_
  obtain ⟨zg3, W⟩ := W
  obtain ⟨zg4, W⟩ := W
  refine J_iald (pc' := 6) rfl rfl zg3 zg4 rfl ?_
  refine J_aload_no (pc' := 7) rfl rfl zg1 rfl ?_
  obtain ⟨zg5, W⟩ := W
  refine J_getA (G := 1010) (pc' := 10) rfl rfl (Nat.le_of_ble_eq_true rfl) rfl zg1 zg5 rfl ?_
  refine J_aload_no (pc' := 11) rfl rfl zg1 rfl ?_
  obtain ⟨zg6, W⟩ := W
  refine J_getA (G := 1081) (pc' := 14) rfl rfl (Nat.le_of_ble_eq_true rfl) rfl zg1 zg6 rfl ?_
  refine J_iload_n (pc' := 15) rfl rfl rfl ?_
  obtain ⟨zg7, W⟩ := W
  refine J_iald (pc' := 16) rfl rfl zg3 zg7 rfl ?_
  obtain ⟨zg8, W⟩ := W
  obtain ⟨zg9, W⟩ := W
  refine J_iald (pc' := 17) rfl rfl zg8 zg9 rfl ?_
  refine J_icmp (P := ra σ 1010 zo0 (ra σ 1081 zo0 zx1) ≤ ra σ 1082 zo0 zx1) (t := 42) (f := 20) rfl rfl rfl jc_ge W (fun W => ?_) (fun W => ?_)
  · refine J_aload_no (pc' := 43) rfl rfl zg1 rfl ?_
    refine J_iload_n (pc' := 44) rfl rfl rfl ?_
    obtain ⟨zg10, W⟩ := W
    refine J_weak (L' := [none, none]) trivial ?_
    refine J_callV (as := [jo 1 zo0, ji zx1]) (rest := []) (pc' := 47) rfl rfl ax_Z_65 rfl rfl (Or.inr (Or.inr ⟨_, _, rfl, zg1⟩)) (Nat.le_of_ble_eq_true rfl) (Nat.le_of_ble_eq_true rfl) (Nat.le_of_ble_eq_true rfl) zg10 trivial trivial rfl W (fun zs11 W => ?_)
    exact J_vret rfl rfl ⟨rfl, W⟩
  · refine J_aload_no (pc' := 21) rfl rfl zg1 rfl ?_
    refine J_aload_no (pc' := 22) rfl rfl zg1 rfl ?_
    obtain ⟨zg13, W⟩ := W
    refine J_getA (G := 1083) (pc' := 25) rfl rfl (Nat.le_of_ble_eq_true rfl) rfl zg1 zg13 rfl ?_
    refine J_iconst (pc' := 26) rfl (i32_d rfl) rfl ?_
    refine J_iload_n (pc' := 27) rfl rfl rfl ?_
    obtain ⟨zg14, W⟩ := W
    refine J_imul (pc' := 28) rfl zg14 rfl ?_
    refine J_aload_no (pc' := 29) rfl rfl zg1 rfl ?_
    refine J_getA (G := 1082) (pc' := 32) rfl rfl (Nat.le_of_ble_eq_true rfl) rfl zg1 zg2 rfl ?_
    refine J_iload_n (pc' := 33) rfl rfl rfl ?_
    refine J_iald (pc' := 34) rfl rfl zg3 zg4 rfl ?_
    obtain ⟨zg15, W⟩ := W
    refine J_iadd (pc' := 35) rfl zg15 rfl ?_
    obtain ⟨zg16, W⟩ := W
    obtain ⟨zg17, W⟩ := W
    refine J_iald (pc' := 36) rfl rfl zg16 zg17 rfl ?_
    obtain ⟨zg18, W⟩ := W
    refine J_weak (L' := [none, none]) trivial ?_
    refine J_callV (as := [jo 1 zo0, ji (ra σ 1083 zo0 ((4 * zx1) + (ra σ 1082 zo0 zx1)))]) (rest := []) (pc' := 39) rfl rfl ax_Z_60 rfl rfl (Or.inr (Or.inr ⟨_, _, rfl, zg1⟩)) (Nat.le_of_ble_eq_true rfl) (Nat.le_of_ble_eq_true rfl) (Nat.le_of_ble_eq_true rfl) zg18 trivial trivial rfl W (fun zs19 W => ?_)
    refine J_goto (pc' := 47) rfl rfl ?_
    exact J_vret rfl rfl ⟨rfl, W⟩
theorem wp_Model_back {n : Nat} {σ : jS} {Q : jS → Prop} {zo0 : Int} {zx1 : Int} (W : 0 ≤ zo0 ∧ 0 ≤ rl σ 1084 zo0 ∧ 0 ≤ zx1 ∧ zx1 < rl σ 1084 zo0 ∧ 1 ≤ n ∧ TrV (n - 1) i_Model_untie [jo 1 zo0, ji (ra σ 1084 zo0 zx1)] σ (fun zs6 => 0 ≤ rl zs6 1085 zo0 ∧ zx1 < rl zs6 1085 zo0 ∧ (∀ zs10, zs10 = ws zs6 1033 zo0 (ra zs6 1085 zo0 zx1) → 0 ≤ rl zs10 1086 zo0 ∧ zx1 < rl zs10 1086 zo0 ∧ (∀ zs13, zs13 = ws zs10 1034 zo0 (ra zs10 1086 zo0 zx1) → 0 ≤ rl zs13 1087 zo0 ∧ zx1 < rl zs13 1087 zo0 ∧ (∀ zs16, zs16 = ws zs13 1064 zo0 (ra zs13 1087 zo0 zx1) → Q zs16))))) : TrV n i_Model_back [jo 1 zo0, ji zx1] σ Q := by
  refine Tr_of ax_Z_64 ?_
  show J n c_Model_back none 0 [some (jo 1 zo0), some (ji zx1)] [] σ (qV Q)
  obtain ⟨zg1, W⟩ := W
  refine J_aload_no (pc' := 1) rfl rfl zg1 rfl ?_
  refine J_aload_no (pc' := 2) rfl rfl zg1 rfl ?_
  obtain ⟨zg2, W⟩ := W
  refine J_getA (G := 1084) (pc' := 5) rfl rfl (Nat.le_of_ble_eq_true rfl) rfl zg1 zg2 rfl ?_
  refine J_iload_n (pc' := 6) rfl rfl rfl ?_
  obtain ⟨zg3, W⟩ := W
  obtain ⟨zg4, W⟩ := W
  refine J_iald (pc' := 7) rfl rfl zg3 zg4 rfl ?_
  obtain ⟨zg5, W⟩ := W
  refine J_callV (as := [jo 1 zo0, ji (ra σ 1084 zo0 zx1)]) (rest := []) (pc' := 10) rfl rfl ax_Z_46 rfl rfl (Or.inr (Or.inr ⟨_, _, rfl, zg1⟩)) (Nat.le_of_ble_eq_true rfl) (Nat.le_of_ble_eq_true rfl) (Nat.le_of_ble_eq_true rfl) zg5 trivial trivial rfl W (fun zs6 W => ?_)
  refine J_aload_no (pc' := 11) rfl rfl zg1 rfl ?_
  refine J_aload_no (pc' := 12) rfl rfl zg1 rfl ?_
  obtain ⟨zg8, W⟩ := W
  refine J_getA (G := 1085) (pc' := 15) rfl rfl (Nat.le_of_ble_eq_true rfl) rfl zg1 zg8 rfl ?_
  refine J_iload_n (pc' := 16) rfl rfl rfl ?_
  obtain ⟨zg9, W⟩ := W
  refine J_iald (pc' := 17) rfl rfl zg3 zg9 rfl ?_
  refine J_putI (G := 1033) (pc' := 20) rfl rfl (Nat.le_of_ble_eq_true rfl) rfl rfl zg1 rfl (fun zs10 ezs10 => ?_)
  replace W := W zs10 ezs10
  refine J_aload_no (pc' := 21) rfl rfl zg1 rfl ?_
  refine J_aload_no (pc' := 22) rfl rfl zg1 rfl ?_
  obtain ⟨zg11, W⟩ := W
  refine J_getA (G := 1086) (pc' := 25) rfl rfl (Nat.le_of_ble_eq_true rfl) rfl zg1 zg11 rfl ?_
  refine J_iload_n (pc' := 26) rfl rfl rfl ?_
  obtain ⟨zg12, W⟩ := W
  refine J_iald (pc' := 27) rfl rfl zg3 zg12 rfl ?_
  refine J_putI (G := 1034) (pc' := 30) rfl rfl (Nat.le_of_ble_eq_true rfl) rfl rfl zg1 rfl (fun zs13 ezs13 => ?_)
  replace W := W zs13 ezs13
  refine J_aload_no (pc' := 31) rfl rfl zg1 rfl ?_
  refine J_aload_no (pc' := 32) rfl rfl zg1 rfl ?_
  obtain ⟨zg14, W⟩ := W
  refine J_getA (G := 1087) (pc' := 35) rfl rfl (Nat.le_of_ble_eq_true rfl) rfl zg1 zg14 rfl ?_
  refine J_iload_n (pc' := 36) rfl rfl rfl ?_
  obtain ⟨zg15, W⟩ := W
  refine J_iald (pc' := 37) rfl rfl zg3 zg15 rfl ?_
  refine J_putI (G := 1064) (pc' := 40) rfl rfl (Nat.le_of_ble_eq_true rfl) rfl rfl zg1 rfl (fun zs16 ezs16 => ?_)
  replace W := W zs16 ezs16
  exact J_vret rfl rfl ⟨rfl, W⟩
set_option maxRecDepth 16000 in
theorem wp_Model_didWell {n : Nat} {σ : jS} {Q : jS → Prop} {zo0 : Int} {zx1 : Int} (W : J n c_Model_didWell none 4 [some (jo 1 zo0), some (ji zx1), some (ji 1), some (ji 0)] [] σ (qV Q)) : TrV n i_Model_didWell [jo 1 zo0, ji zx1] σ Q := by
  refine Tr_of ax_Z_65 ?_
  show J n c_Model_didWell none 0 [some (jo 1 zo0), some (ji zx1), none, none] [] σ (qV Q)
  refine J_iconst (pc' := 1) rfl (i32_d rfl) rfl ?_
  refine J_istore_n (L' := [some (jo 1 zo0), some (ji zx1), some (ji 1), none]) (pc' := 2) rfl (Nat.le_of_ble_eq_true rfl) rfl rfl ?_
  refine J_iconst (pc' := 3) rfl (i32_d rfl) rfl ?_
  refine J_istore_n (L' := [some (jo 1 zo0), some (ji zx1), some (ji 1), some (ji 0)]) (pc' := 4) rfl (Nat.le_of_ble_eq_true rfl) rfl rfl ?_
  exact W
set_option maxRecDepth 16000 in
theorem wp_Model_didWell_4 {n : Nat} {σ : jS} {Q : jS → Prop} {zo0 : Int} {zx1 : Int} {zx2 : Int} {zx3 : Int} (W : 0 ≤ zo0 ∧ 0 ≤ rl σ 1082 zo0 ∧ 0 ≤ zx1 ∧ zx1 < rl σ 1082 zo0 ∧ (if ra σ 1082 zo0 zx1 ≤ zx3 then (if zx2 ≤ 200 then 0 ≤ rl σ 1089 zo0 ∧ zx1 < rl σ 1089 zo0 ∧ i32 ((ra σ 1089 zo0 zx1) + 1) ∧ (∀ zs8, zs8 = wa σ 1089 zo0 zx1 ((ra σ 1089 zo0 zx1) + 1) → 0 ≤ rl zs8 1089 zo0 ∧ zx1 < rl zs8 1089 zo0 ∧ (if ra zs8 1089 zo0 zx1 ≤ 1 then 0 ≤ rl zs8 1090 zo0 ∧ 0 ≤ rl zs8 1081 zo0 ∧ zx1 < rl zs8 1081 zo0 ∧ zx1 < rl zs8 1090 zo0 ∧ (∀ zs14, zs14 = wa zs8 1090 zo0 zx1 (ra zs8 1081 zo0 zx1) → 0 ≤ rl zs14 1088 zo0 ∧ i32 (4 * zx1) ∧ 0 ≤ rl zs14 1092 zo0 ∧ 1 ≤ n ∧ TrV (n - 1) i_Model_copy [ja 1088 zo0, ji (4 * zx1), ji 4, ja 1092 zo0, ji (4 * zx1)] zs14 (fun zs20 => 0 ≤ rl zs20 1094 zo0 ∧ 0 ≤ rl zs20 1084 zo0 ∧ zx1 < rl zs20 1084 zo0 ∧ i32 ((rs zs20 1035 zo0) - (ra zs20 1084 zo0 zx1)) ∧ zx1 < rl zs20 1094 zo0 ∧ (∀ zs26, zs26 = wa zs20 1094 zo0 zx1 ((rs zs20 1035 zo0) - (ra zs20 1084 zo0 zx1)) → 0 ≤ rl zs26 1084 zo0 ∧ zx1 < rl zs26 1084 zo0 ∧ J n c_Model_didWell none 154 [some (jo 1 zo0), some (ji zx1), none, some (ji (ra zs26 1084 zo0 zx1))] [] zs26 (qV Q)))) else (if ¬ ra zs8 1089 zo0 zx1 = 2 then 1 ≤ n ∧ TrV (n - 1) i_Model_back [jo 1 zo0, ji zx1] zs8 (fun zs31 => Q zs31) else 0 ≤ rl zs8 1091 zo0 ∧ 0 ≤ rl zs8 1081 zo0 ∧ zx1 < rl zs8 1081 zo0 ∧ zx1 < rl zs8 1091 zo0 ∧ (∀ zs36, zs36 = wa zs8 1091 zo0 zx1 (ra zs8 1081 zo0 zx1) → 1 ≤ n ∧ TrV (n - 1) i_Model_back [jo 1 zo0, ji zx1] zs36 (fun zs39 => Q zs39))))) else (∀ zs41, zs41 = ws σ 1099 zo0 6 → Q zs41)) else 0 ≤ rl σ 1059 zo0 ∧ 0 ≤ rl σ 1088 zo0 ∧ i32 (4 * zx1) ∧ i32 ((4 * zx1) + zx3) ∧ 0 ≤ (4 * zx1) + zx3 ∧ (4 * zx1) + zx3 < rl σ 1088 zo0 ∧ 0 ≤ ra σ 1088 zo0 ((4 * zx1) + zx3) ∧ ra σ 1088 zo0 ((4 * zx1) + zx3) < rl σ 1059 zo0 ∧ i32 (zx2 + (ra σ 1059 zo0 (ra σ 1088 zo0 ((4 * zx1) + zx3)))) ∧ i32 (zx3 + 1) ∧ J n c_Model_didWell none 4 [some (jo 1 zo0), some (ji zx1), some (ji (zx2 + (ra σ 1059 zo0 (ra σ 1088 zo0 ((4 * zx1) + zx3))))), some (ji (zx3 + 1))] [] σ (qV Q))) : J n c_Model_didWell none 4 [some (jo 1 zo0), some (ji zx1), some (ji zx2), some (ji zx3)] [] σ (qV Q) := by
  refine J_iload_n (pc' := 5) rfl rfl rfl ?_
  obtain ⟨zg1, W⟩ := W
  refine J_aload_no (pc' := 6) rfl rfl zg1 rfl ?_
  obtain ⟨zg2, W⟩ := W
  refine J_getA (G := 1082) (pc' := 9) rfl rfl (Nat.le_of_ble_eq_true rfl) rfl zg1 zg2 rfl ?_
  refine J_iload_n (pc' := 10) rfl rfl rfl ?_
  obtain ⟨zg3, W⟩ := W
  obtain ⟨zg4, W⟩ := W
  refine J_iald (pc' := 11) rfl rfl zg3 zg4 rfl ?_
  refine J_icmp (P := ra σ 1082 zo0 zx1 ≤ zx3) (t := 38) (f := 14) rfl rfl rfl jc_ge W (fun W => ?_) (fun W => ?_)
  · refine J_iload_n (pc' := 39) rfl rfl rfl ?_
    refine J_sipush (pc' := 42) rfl (by decide) (by decide) rfl ?_
    refine J_icmp (P := zx2 ≤ 200) (t := 52) (f := 45) rfl rfl rfl jc_le W (fun W => ?_) (fun W => ?_)
    · refine J_aload_no (pc' := 53) rfl rfl zg1 rfl ?_
      obtain ⟨zg5, W⟩ := W
      refine J_getA (G := 1089) (pc' := 56) rfl rfl (Nat.le_of_ble_eq_true rfl) rfl zg1 zg5 rfl ?_
      refine J_iload_n (pc' := 57) rfl rfl rfl ?_
      refine J_dup2 (pc' := 58) rfl rfl rfl rfl ?_
      obtain ⟨zg6, W⟩ := W
      refine J_iald (pc' := 59) rfl rfl zg3 zg6 rfl ?_
      refine J_iconst (pc' := 60) rfl (i32_d rfl) rfl ?_
      obtain ⟨zg7, W⟩ := W
      refine J_iadd (pc' := 61) rfl zg7 rfl ?_
      refine J_iast (pc' := 62) rfl rfl (by decide) zg3 zg6 rfl (fun zs8 ezs8 => ?_)
      replace W := W zs8 ezs8
      refine J_aload_no (pc' := 63) rfl rfl zg1 rfl ?_
      obtain ⟨zg9, W⟩ := W
      refine J_getA (G := 1089) (pc' := 66) rfl rfl (Nat.le_of_ble_eq_true rfl) rfl zg1 zg9 rfl ?_
      refine J_iload_n (pc' := 67) rfl rfl rfl ?_
      obtain ⟨zg10, W⟩ := W
      refine J_iald (pc' := 68) rfl rfl zg3 zg10 rfl ?_
      refine J_iconst (pc' := 69) rfl (i32_d rfl) rfl ?_
      refine J_icmp (P := ra zs8 1089 zo0 zx1 ≤ 1) (t := 100) (f := 72) rfl rfl rfl jc_le W (fun W => ?_) (fun W => ?_)
      · refine J_aload_no (pc' := 101) rfl rfl zg1 rfl ?_
        obtain ⟨zg11, W⟩ := W
        refine J_getA (G := 1090) (pc' := 104) rfl rfl (Nat.le_of_ble_eq_true rfl) rfl zg1 zg11 rfl ?_
        refine J_iload_n (pc' := 105) rfl rfl rfl ?_
        refine J_aload_no (pc' := 106) rfl rfl zg1 rfl ?_
        obtain ⟨zg12, W⟩ := W
        refine J_getA (G := 1081) (pc' := 109) rfl rfl (Nat.le_of_ble_eq_true rfl) rfl zg1 zg12 rfl ?_
        refine J_iload_n (pc' := 110) rfl rfl rfl ?_
        obtain ⟨zg13, W⟩ := W
        refine J_iald (pc' := 111) rfl rfl zg3 zg13 rfl ?_
        obtain ⟨zg15, W⟩ := W
        refine J_iast (pc' := 112) rfl rfl (by decide) zg3 zg15 rfl (fun zs14 ezs14 => ?_)
        replace W := W zs14 ezs14
        refine J_aload_no (pc' := 113) rfl rfl zg1 rfl ?_
        obtain ⟨zg16, W⟩ := W
        refine J_getA (G := 1088) (pc' := 116) rfl rfl (Nat.le_of_ble_eq_true rfl) rfl zg1 zg16 rfl ?_
        refine J_iconst (pc' := 117) rfl (i32_d rfl) rfl ?_
        refine J_iload_n (pc' := 118) rfl rfl rfl ?_
        obtain ⟨zg17, W⟩ := W
        refine J_imul (pc' := 119) rfl zg17 rfl ?_
        refine J_iconst (pc' := 120) rfl (i32_d rfl) rfl ?_
        refine J_aload_no (pc' := 121) rfl rfl zg1 rfl ?_
        obtain ⟨zg18, W⟩ := W
        refine J_getA (G := 1092) (pc' := 124) rfl rfl (Nat.le_of_ble_eq_true rfl) rfl zg1 zg18 rfl ?_
        refine J_iconst (pc' := 125) rfl (i32_d rfl) rfl ?_
        refine J_iload_n (pc' := 126) rfl rfl rfl ?_
        refine J_imul (pc' := 127) rfl zg17 rfl ?_
        obtain ⟨zg19, W⟩ := W
        refine J_weak (L' := [some (jo 1 zo0), some (ji zx1), none, none]) (And.intro rfl (And.intro rfl trivial)) ?_
        refine J_callV (as := [ja 1088 zo0, ji (4 * zx1), ji 4, ja 1092 zo0, ji (4 * zx1)]) (rest := []) (pc' := 130) rfl rfl ax_Z_16 rfl rfl (Or.inl rfl) (Nat.le_of_ble_eq_true rfl) (Nat.le_of_ble_eq_true rfl) (Nat.le_of_ble_eq_true rfl) zg19 trivial trivial rfl W (fun zs20 W => ?_)
        refine J_aload_no (pc' := 131) rfl rfl zg1 rfl ?_
        obtain ⟨zg22, W⟩ := W
        refine J_getA (G := 1094) (pc' := 134) rfl rfl (Nat.le_of_ble_eq_true rfl) rfl zg1 zg22 rfl ?_
        refine J_iload_n (pc' := 135) rfl rfl rfl ?_
        refine J_aload_no (pc' := 136) rfl rfl zg1 rfl ?_
        refine J_getI (G := 1035) (pc' := 139) rfl rfl (Nat.le_of_ble_eq_true rfl) rfl zg1 rfl ?_
        refine J_aload_no (pc' := 140) rfl rfl zg1 rfl ?_
        obtain ⟨zg23, W⟩ := W
        refine J_getA (G := 1084) (pc' := 143) rfl rfl (Nat.le_of_ble_eq_true rfl) rfl zg1 zg23 rfl ?_
        refine J_iload_n (pc' := 144) rfl rfl rfl ?_
        obtain ⟨zg24, W⟩ := W
        refine J_iald (pc' := 145) rfl rfl zg3 zg24 rfl ?_
        obtain ⟨zg25, W⟩ := W
        refine J_isub (pc' := 146) rfl zg25 rfl ?_
        obtain ⟨zg27, W⟩ := W
        refine J_iast (pc' := 147) rfl rfl (by decide) zg3 zg27 rfl (fun zs26 ezs26 => ?_)
        replace W := W zs26 ezs26
        refine J_aload_no (pc' := 148) rfl rfl zg1 rfl ?_
        obtain ⟨zg28, W⟩ := W
        refine J_getA (G := 1084) (pc' := 151) rfl rfl (Nat.le_of_ble_eq_true rfl) rfl zg1 zg28 rfl ?_
        refine J_iload_n (pc' := 152) rfl rfl rfl ?_
        obtain ⟨zg29, W⟩ := W
        refine J_iald (pc' := 153) rfl rfl zg3 zg29 rfl ?_
        refine J_istore_n (L' := [some (jo 1 zo0), some (ji zx1), none, some (ji (ra zs26 1084 zo0 zx1))]) (pc' := 154) rfl (Nat.le_of_ble_eq_true rfl) rfl rfl ?_
        exact W
      · refine J_aload_no (pc' := 73) rfl rfl zg1 rfl ?_
        refine J_getA (G := 1089) (pc' := 76) rfl rfl (Nat.le_of_ble_eq_true rfl) rfl zg1 zg9 rfl ?_
        refine J_iload_n (pc' := 77) rfl rfl rfl ?_
        refine J_iald (pc' := 78) rfl rfl zg3 zg10 rfl ?_
        refine J_iconst (pc' := 79) rfl (i32_d rfl) rfl ?_
        refine J_icmp (P := ¬ ra zs8 1089 zo0 zx1 = 2) (t := 94) (f := 82) rfl rfl rfl jc_ne W (fun W => ?_) (fun W => ?_)
        · refine J_aload_no (pc' := 95) rfl rfl zg1 rfl ?_
          refine J_iload_n (pc' := 96) rfl rfl rfl ?_
          obtain ⟨zg30, W⟩ := W
          refine J_weak (L' := [none, none, none, none]) trivial ?_
          refine J_callV (as := [jo 1 zo0, ji zx1]) (rest := []) (pc' := 99) rfl rfl ax_Z_64 rfl rfl (Or.inr (Or.inr ⟨_, _, rfl, zg1⟩)) (Nat.le_of_ble_eq_true rfl) (Nat.le_of_ble_eq_true rfl) (Nat.le_of_ble_eq_true rfl) zg30 trivial trivial rfl W (fun zs31 W => ?_)
          exact J_vret rfl rfl ⟨rfl, W⟩
        · refine J_aload_no (pc' := 83) rfl rfl zg1 rfl ?_
          obtain ⟨zg33, W⟩ := W
          refine J_getA (G := 1091) (pc' := 86) rfl rfl (Nat.le_of_ble_eq_true rfl) rfl zg1 zg33 rfl ?_
          refine J_iload_n (pc' := 87) rfl rfl rfl ?_
          refine J_aload_no (pc' := 88) rfl rfl zg1 rfl ?_
          obtain ⟨zg34, W⟩ := W
          refine J_getA (G := 1081) (pc' := 91) rfl rfl (Nat.le_of_ble_eq_true rfl) rfl zg1 zg34 rfl ?_
          refine J_iload_n (pc' := 92) rfl rfl rfl ?_
          obtain ⟨zg35, W⟩ := W
          refine J_iald (pc' := 93) rfl rfl zg3 zg35 rfl ?_
          obtain ⟨zg37, W⟩ := W
          refine J_iast (pc' := 94) rfl rfl (by decide) zg3 zg37 rfl (fun zs36 ezs36 => ?_)
          replace W := W zs36 ezs36
          refine J_aload_no (pc' := 95) rfl rfl zg1 rfl ?_
          refine J_iload_n (pc' := 96) rfl rfl rfl ?_
          obtain ⟨zg38, W⟩ := W
          refine J_weak (L' := [none, none, none, none]) trivial ?_
          refine J_callV (as := [jo 1 zo0, ji zx1]) (rest := []) (pc' := 99) rfl rfl ax_Z_64 rfl rfl (Or.inr (Or.inr ⟨_, _, rfl, zg1⟩)) (Nat.le_of_ble_eq_true rfl) (Nat.le_of_ble_eq_true rfl) (Nat.le_of_ble_eq_true rfl) zg38 trivial trivial rfl W (fun zs39 W => ?_)
          exact J_vret rfl rfl ⟨rfl, W⟩
    · refine J_aload_no (pc' := 46) rfl rfl zg1 rfl ?_
      refine J_bipush (pc' := 48) rfl (by decide) (by decide) rfl ?_
      refine J_putI (G := 1099) (pc' := 51) rfl rfl (Nat.le_of_ble_eq_true rfl) rfl rfl zg1 rfl (fun zs41 ezs41 => ?_)
      replace W := W zs41 ezs41
      exact J_vret rfl rfl ⟨rfl, W⟩
  · refine J_iload_n (pc' := 15) rfl rfl rfl ?_
    refine J_aload_no (pc' := 16) rfl rfl zg1 rfl ?_
    obtain ⟨zg42, W⟩ := W
    refine J_getA (G := 1059) (pc' := 19) rfl rfl (Nat.le_of_ble_eq_true rfl) rfl zg1 zg42 rfl ?_
    refine J_aload_no (pc' := 20) rfl rfl zg1 rfl ?_
    obtain ⟨zg43, W⟩ := W
    refine J_getA (G := 1088) (pc' := 23) rfl rfl (Nat.le_of_ble_eq_true rfl) rfl zg1 zg43 rfl ?_
    refine J_iconst (pc' := 24) rfl (i32_d rfl) rfl ?_
    refine J_iload_n (pc' := 25) rfl rfl rfl ?_
    obtain ⟨zg44, W⟩ := W
    refine J_imul (pc' := 26) rfl zg44 rfl ?_
    refine J_iload_n (pc' := 27) rfl rfl rfl ?_
    obtain ⟨zg45, W⟩ := W
    refine J_iadd (pc' := 28) rfl zg45 rfl ?_
    obtain ⟨zg46, W⟩ := W
    obtain ⟨zg47, W⟩ := W
    refine J_iald (pc' := 29) rfl rfl zg46 zg47 rfl ?_
    obtain ⟨zg48, W⟩ := W
    obtain ⟨zg49, W⟩ := W
    refine J_iald (pc' := 30) rfl rfl zg48 zg49 rfl ?_
    obtain ⟨zg50, W⟩ := W
    refine J_iadd (pc' := 31) rfl zg50 rfl ?_
    refine J_istore_n (L' := [some (jo 1 zo0), some (ji zx1), some (ji (zx2 + (ra σ 1059 zo0 (ra σ 1088 zo0 ((4 * zx1) + zx3))))), some (ji zx3)]) (pc' := 32) rfl (Nat.le_of_ble_eq_true rfl) rfl rfl ?_
    obtain ⟨zg51, W⟩ := W
    refine J_iinc (L' := [some (jo 1 zo0), some (ji zx1), some (ji (zx2 + (ra σ 1059 zo0 (ra σ 1088 zo0 ((4 * zx1) + zx3))))), some (ji (zx3 + 1))]) (pc' := 35) rfl rfl zg51 rfl rfl ?_
    refine J_goto (pc' := 4) rfl rfl ?_
    exact W
set_option maxRecDepth 16000 in
theorem wp_Model_didWell_154 {n : Nat} {σ : jS} {Q : jS → Prop} {zo0 : Int} {zx1 : Int} {zx3 : Int} (W : 0 ≤ zo0 ∧ (if rs σ 1035 zo0 ≤ zx3 then 0 ≤ rl σ 1084 zo0 ∧ 0 ≤ zx1 ∧ zx1 < rl σ 1084 zo0 ∧ 1 ≤ n ∧ TrV (n - 1) i_Model_untie [jo 1 zo0, ji (ra σ 1084 zo0 zx1)] σ (fun zs6 => Q zs6) else 0 ≤ rl σ 1095 zo0 ∧ 0 ≤ rl σ 1032 zo0 ∧ 0 ≤ zx3 ∧ zx3 < rl σ 1032 zo0 ∧ 0 ≤ rs σ 1097 zo0 ∧ rs σ 1097 zo0 < rl σ 1095 zo0 ∧ (∀ zs12, zs12 = wa σ 1095 zo0 (rs σ 1097 zo0) (ra σ 1032 zo0 zx3) → 0 ≤ rl zs12 1096 zo0 ∧ 0 ≤ rl zs12 1030 zo0 ∧ 0 ≤ rl zs12 1032 zo0 ∧ zx3 < rl zs12 1032 zo0 ∧ 0 ≤ ra zs12 1032 zo0 zx3 ∧ ra zs12 1032 zo0 zx3 < rl zs12 1030 zo0 ∧ 0 ≤ rs zs12 1097 zo0 ∧ rs zs12 1097 zo0 < rl zs12 1096 zo0 ∧ (∀ zs21, zs21 = wa zs12 1096 zo0 (rs zs12 1097 zo0) (ra zs12 1030 zo0 (ra zs12 1032 zo0 zx3)) → i32 ((rs zs21 1097 zo0) + 1) ∧ (∀ zs25, zs25 = ws zs21 1097 zo0 ((rs zs21 1097 zo0) + 1) → i32 (zx3 + 1) ∧ J n c_Model_didWell none 154 [some (jo 1 zo0), some (ji zx1), none, some (ji (zx3 + 1))] [] zs25 (qV Q)))))) : J n c_Model_didWell none 154 [some (jo 1 zo0), some (ji zx1), none, some (ji zx3)] [] σ (qV Q) := by
  refine J_iload_n (pc' := 155) rfl rfl rfl ?_
  obtain ⟨zg1, W⟩ := W
  refine J_aload_no (pc' := 156) rfl rfl zg1 rfl ?_
  refine J_getI (G := 1035) (pc' := 159) rfl rfl (Nat.le_of_ble_eq_true rfl) rfl zg1 rfl ?_
  refine J_icmp (P := rs σ 1035 zo0 ≤ zx3) (t := 213) (f := 162) rfl rfl rfl jc_ge W (fun W => ?_) (fun W => ?_)
  · refine J_aload_no (pc' := 214) rfl rfl zg1 rfl ?_
    refine J_aload_no (pc' := 215) rfl rfl zg1 rfl ?_
    obtain ⟨zg2, W⟩ := W
    refine J_getA (G := 1084) (pc' := 218) rfl rfl (Nat.le_of_ble_eq_true rfl) rfl zg1 zg2 rfl ?_
    refine J_iload_n (pc' := 219) rfl rfl rfl ?_
    obtain ⟨zg3, W⟩ := W
    obtain ⟨zg4, W⟩ := W
    refine J_iald (pc' := 220) rfl rfl zg3 zg4 rfl ?_
    obtain ⟨zg5, W⟩ := W
    refine J_weak (L' := [none, none, none, none]) trivial ?_
    refine J_callV (as := [jo 1 zo0, ji (ra σ 1084 zo0 zx1)]) (rest := []) (pc' := 223) rfl rfl ax_Z_46 rfl rfl (Or.inr (Or.inr ⟨_, _, rfl, zg1⟩)) (Nat.le_of_ble_eq_true rfl) (Nat.le_of_ble_eq_true rfl) (Nat.le_of_ble_eq_true rfl) zg5 trivial trivial rfl W (fun zs6 W => ?_)
    exact J_vret rfl rfl ⟨rfl, W⟩
  · refine J_aload_no (pc' := 163) rfl rfl zg1 rfl ?_
    obtain ⟨zg8, W⟩ := W
    refine J_getA (G := 1095) (pc' := 166) rfl rfl (Nat.le_of_ble_eq_true rfl) rfl zg1 zg8 rfl ?_
    refine J_aload_no (pc' := 167) rfl rfl zg1 rfl ?_
    refine J_getI (G := 1097) (pc' := 170) rfl rfl (Nat.le_of_ble_eq_true rfl) rfl zg1 rfl ?_
    refine J_aload_no (pc' := 171) rfl rfl zg1 rfl ?_
    obtain ⟨zg9, W⟩ := W
    refine J_getA (G := 1032) (pc' := 174) rfl rfl (Nat.le_of_ble_eq_true rfl) rfl zg1 zg9 rfl ?_
    refine J_iload_n (pc' := 175) rfl rfl rfl ?_
    obtain ⟨zg10, W⟩ := W
    obtain ⟨zg11, W⟩ := W
    refine J_iald (pc' := 176) rfl rfl zg10 zg11 rfl ?_
    obtain ⟨zg13, W⟩ := W
    obtain ⟨zg14, W⟩ := W
    refine J_iast (pc' := 177) rfl rfl (by decide) zg13 zg14 rfl (fun zs12 ezs12 => ?_)
    replace W := W zs12 ezs12
    refine J_aload_no (pc' := 178) rfl rfl zg1 rfl ?_
    obtain ⟨zg15, W⟩ := W
    refine J_getA (G := 1096) (pc' := 181) rfl rfl (Nat.le_of_ble_eq_true rfl) rfl zg1 zg15 rfl ?_
    refine J_aload_no (pc' := 182) rfl rfl zg1 rfl ?_
    refine J_getI (G := 1097) (pc' := 185) rfl rfl (Nat.le_of_ble_eq_true rfl) rfl zg1 rfl ?_
    refine J_aload_no (pc' := 186) rfl rfl zg1 rfl ?_
    obtain ⟨zg16, W⟩ := W
    refine J_getA (G := 1030) (pc' := 189) rfl rfl (Nat.le_of_ble_eq_true rfl) rfl zg1 zg16 rfl ?_
    refine J_aload_no (pc' := 190) rfl rfl zg1 rfl ?_
    obtain ⟨zg17, W⟩ := W
    refine J_getA (G := 1032) (pc' := 193) rfl rfl (Nat.le_of_ble_eq_true rfl) rfl zg1 zg17 rfl ?_
    refine J_iload_n (pc' := 194) rfl rfl rfl ?_
    obtain ⟨zg18, W⟩ := W
    refine J_iald (pc' := 195) rfl rfl zg10 zg18 rfl ?_
    obtain ⟨zg19, W⟩ := W
    obtain ⟨zg20, W⟩ := W
    refine J_iald (pc' := 196) rfl rfl zg19 zg20 rfl ?_
    obtain ⟨zg22, W⟩ := W
    obtain ⟨zg23, W⟩ := W
    refine J_iast (pc' := 197) rfl rfl (by decide) zg22 zg23 rfl (fun zs21 ezs21 => ?_)
    replace W := W zs21 ezs21
    refine J_aload_no (pc' := 198) rfl rfl zg1 rfl ?_
    refine J_dup (pc' := 199) rfl rfl rfl ?_
    refine J_getI (G := 1097) (pc' := 202) rfl rfl (Nat.le_of_ble_eq_true rfl) rfl zg1 rfl ?_
    refine J_iconst (pc' := 203) rfl (i32_d rfl) rfl ?_
    obtain ⟨zg24, W⟩ := W
    refine J_iadd (pc' := 204) rfl zg24 rfl ?_
    refine J_putI (G := 1097) (pc' := 207) rfl rfl (Nat.le_of_ble_eq_true rfl) rfl rfl zg1 rfl (fun zs25 ezs25 => ?_)
    replace W := W zs25 ezs25
    obtain ⟨zg26, W⟩ := W
    refine J_iinc (L' := [some (jo 1 zo0), some (ji zx1), none, some (ji (zx3 + 1))]) (pc' := 210) rfl rfl zg26 rfl rfl ?_
    refine J_goto (pc' := 154) rfl rfl ?_
    exact W
set_option maxRecDepth 16000 in
theorem wp_Model_newNode {n : Nat} {σ : jS} {Q : Int → jS → Prop} {zo0 : Int} {zx1 : Int} (W : 0 ≤ zo0 ∧ i32 ((rs σ 1064 zo0) + 1) ∧ (∀ zs3, zs3 = ws σ 1064 zo0 ((rs σ 1064 zo0) + 1) → 0 ≤ rl zs3 1090 zo0 ∧ 0 ≤ zx1 ∧ zx1 < rl zs3 1090 zo0 ∧ 0 ≤ rl zs3 1052 zo0 ∧ 0 ≤ rs σ 1064 zo0 ∧ rs σ 1064 zo0 < rl zs3 1052 zo0 ∧ (∀ zs8, zs8 = wa zs3 1052 zo0 (rs σ 1064 zo0) (ra zs3 1090 zo0 zx1) → 0 ≤ rl zs8 1053 zo0 ∧ 0 ≤ rl zs8 1075 zo0 ∧ zx1 < rl zs8 1075 zo0 ∧ 0 ≤ rs σ 1064 zo0 ∧ rs σ 1064 zo0 < rl zs8 1053 zo0 ∧ (∀ zs14, zs14 = wa zs8 1053 zo0 (rs σ 1064 zo0) (ra zs8 1075 zo0 zx1) → 0 ≤ rl zs14 1054 zo0 ∧ 0 ≤ rl zs14 1077 zo0 ∧ zx1 < rl zs14 1077 zo0 ∧ 0 ≤ rs σ 1064 zo0 ∧ rs σ 1064 zo0 < rl zs14 1054 zo0 ∧ (∀ zs20, zs20 = wa zs14 1054 zo0 (rs σ 1064 zo0) (ra zs14 1077 zo0 zx1) → 0 ≤ rl zs20 1055 zo0 ∧ 0 ≤ rl zs20 1078 zo0 ∧ zx1 < rl zs20 1078 zo0 ∧ 0 ≤ rs σ 1064 zo0 ∧ rs σ 1064 zo0 < rl zs20 1055 zo0 ∧ (∀ zs26, zs26 = wa zs20 1055 zo0 (rs σ 1064 zo0) (ra zs20 1078 zo0 zx1) → 0 ≤ rl zs26 1056 zo0 ∧ 0 ≤ rl zs26 1076 zo0 ∧ zx1 < rl zs26 1076 zo0 ∧ 0 ≤ rl zs26 1079 zo0 ∧ zx1 < rl zs26 1079 zo0 ∧ 1 ≤ n ∧ TrI (n - 1) i_Model_bits [ji (bAnd (ra zs26 1076 zo0 zx1) (bXor (ra zs26 1079 zo0 zx1) (-1)))] zs26 (fun zr36 zs35 => 0 ≤ rs σ 1064 zo0 ∧ rs σ 1064 zo0 < rl zs35 1056 zo0 ∧ (∀ zs37, zs37 = wa zs35 1056 zo0 (rs σ 1064 zo0) zr36 → 0 ≤ rl zs37 1057 zo0 ∧ 0 ≤ rl zs37 1010 zo0 ∧ 0 ≤ ra zs3 1090 zo0 zx1 ∧ ra zs3 1090 zo0 zx1 < rl zs37 1010 zo0 ∧ 0 ≤ rs σ 1064 zo0 ∧ rs σ 1064 zo0 < rl zs37 1057 zo0 ∧ (∀ zs44, zs44 = wa zs37 1057 zo0 (rs σ 1064 zo0) (ra zs37 1010 zo0 (ra zs3 1090 zo0 zx1)) → 0 ≤ rl zs44 1059 zo0 ∧ 0 ≤ rs σ 1064 zo0 ∧ rs σ 1064 zo0 < rl zs44 1059 zo0 ∧ (∀ zs48, zs48 = wa zs44 1059 zo0 (rs σ 1064 zo0) 1 → J n c_Model_newNode (some .int) 111 [some (jo 1 zo0), some (ji zx1), some (ji (rs σ 1064 zo0)), some (ji (ra zs3 1090 zo0 zx1)), some (ji 0)] [] zs48 (qI Q))))))))))) : TrI n i_Model_newNode [jo 1 zo0, ji zx1] σ Q := by
  refine Tr_of ax_Z_66 ?_
  show J n c_Model_newNode (some .int) 0 [some (jo 1 zo0), some (ji zx1), none, none, none] [] σ (qI Q)
  obtain ⟨zg1, W⟩ := W
  refine J_aload_no (pc' := 1) rfl rfl zg1 rfl ?_
  refine J_getI (G := 1064) (pc' := 4) rfl rfl (Nat.le_of_ble_eq_true rfl) rfl zg1 rfl ?_
  refine J_istore_n (L' := [some (jo 1 zo0), some (ji zx1), some (ji (rs σ 1064 zo0)), none, none]) (pc' := 5) rfl (Nat.le_of_ble_eq_true rfl) rfl rfl ?_
  refine J_aload_no (pc' := 6) rfl rfl zg1 rfl ?_
  refine J_dup (pc' := 7) rfl rfl rfl ?_
  refine J_getI (G := 1064) (pc' := 10) rfl rfl (Nat.le_of_ble_eq_true rfl) rfl zg1 rfl ?_
  refine J_iconst (pc' := 11) rfl (i32_d rfl) rfl ?_
  obtain ⟨zg2, W⟩ := W
  refine J_iadd (pc' := 12) rfl zg2 rfl ?_
  refine J_putI (G := 1064) (pc' := 15) rfl rfl (Nat.le_of_ble_eq_true rfl) rfl rfl zg1 rfl (fun zs3 ezs3 => ?_)
  replace W := W zs3 ezs3
  refine J_aload_no (pc' := 16) rfl rfl zg1 rfl ?_
  obtain ⟨zg4, W⟩ := W
  refine J_getA (G := 1090) (pc' := 19) rfl rfl (Nat.le_of_ble_eq_true rfl) rfl zg1 zg4 rfl ?_
  refine J_iload_n (pc' := 20) rfl rfl rfl ?_
  obtain ⟨zg5, W⟩ := W
  obtain ⟨zg6, W⟩ := W
  refine J_iald (pc' := 21) rfl rfl zg5 zg6 rfl ?_
  refine J_istore_n (L' := [some (jo 1 zo0), some (ji zx1), some (ji (rs σ 1064 zo0)), some (ji (ra zs3 1090 zo0 zx1)), none]) (pc' := 22) rfl (Nat.le_of_ble_eq_true rfl) rfl rfl ?_
  refine J_aload_no (pc' := 23) rfl rfl zg1 rfl ?_
  obtain ⟨zg7, W⟩ := W
  refine J_getA (G := 1052) (pc' := 26) rfl rfl (Nat.le_of_ble_eq_true rfl) rfl zg1 zg7 rfl ?_
  refine J_iload_n (pc' := 27) rfl rfl rfl ?_
  refine J_iload_n (pc' := 28) rfl rfl rfl ?_
  obtain ⟨zg9, W⟩ := W
  obtain ⟨zg10, W⟩ := W
  refine J_iast (pc' := 29) rfl rfl (by decide) zg9 zg10 rfl (fun zs8 ezs8 => ?_)
  replace W := W zs8 ezs8
  refine J_aload_no (pc' := 30) rfl rfl zg1 rfl ?_
  obtain ⟨zg11, W⟩ := W
  refine J_getA (G := 1053) (pc' := 33) rfl rfl (Nat.le_of_ble_eq_true rfl) rfl zg1 zg11 rfl ?_
  refine J_iload_n (pc' := 34) rfl rfl rfl ?_
  refine J_aload_no (pc' := 35) rfl rfl zg1 rfl ?_
  obtain ⟨zg12, W⟩ := W
  refine J_getA (G := 1075) (pc' := 38) rfl rfl (Nat.le_of_ble_eq_true rfl) rfl zg1 zg12 rfl ?_
  refine J_iload_n (pc' := 39) rfl rfl rfl ?_
  obtain ⟨zg13, W⟩ := W
  refine J_iald (pc' := 40) rfl rfl zg5 zg13 rfl ?_
  obtain ⟨zg15, W⟩ := W
  obtain ⟨zg16, W⟩ := W
  refine J_iast (pc' := 41) rfl rfl (by decide) zg15 zg16 rfl (fun zs14 ezs14 => ?_)
  replace W := W zs14 ezs14
  refine J_aload_no (pc' := 42) rfl rfl zg1 rfl ?_
  obtain ⟨zg17, W⟩ := W
  refine J_getA (G := 1054) (pc' := 45) rfl rfl (Nat.le_of_ble_eq_true rfl) rfl zg1 zg17 rfl ?_
  refine J_iload_n (pc' := 46) rfl rfl rfl ?_
  refine J_aload_no (pc' := 47) rfl rfl zg1 rfl ?_
  obtain ⟨zg18, W⟩ := W
  refine J_getA (G := 1077) (pc' := 50) rfl rfl (Nat.le_of_ble_eq_true rfl) rfl zg1 zg18 rfl ?_
  refine J_iload_n (pc' := 51) rfl rfl rfl ?_
  obtain ⟨zg19, W⟩ := W
  refine J_iald (pc' := 52) rfl rfl zg5 zg19 rfl ?_
  obtain ⟨zg21, W⟩ := W
  obtain ⟨zg22, W⟩ := W
  refine J_iast (pc' := 53) rfl rfl (by decide) zg21 zg22 rfl (fun zs20 ezs20 => ?_)
  replace W := W zs20 ezs20
  refine J_aload_no (pc' := 54) rfl rfl zg1 rfl ?_
  obtain ⟨zg23, W⟩ := W
  refine J_getA (G := 1055) (pc' := 57) rfl rfl (Nat.le_of_ble_eq_true rfl) rfl zg1 zg23 rfl ?_
  refine J_iload_n (pc' := 58) rfl rfl rfl ?_
  refine J_aload_no (pc' := 59) rfl rfl zg1 rfl ?_
  obtain ⟨zg24, W⟩ := W
  refine J_getA (G := 1078) (pc' := 62) rfl rfl (Nat.le_of_ble_eq_true rfl) rfl zg1 zg24 rfl ?_
  refine J_iload_n (pc' := 63) rfl rfl rfl ?_
  obtain ⟨zg25, W⟩ := W
  refine J_iald (pc' := 64) rfl rfl zg5 zg25 rfl ?_
  obtain ⟨zg27, W⟩ := W
  obtain ⟨zg28, W⟩ := W
  refine J_iast (pc' := 65) rfl rfl (by decide) zg27 zg28 rfl (fun zs26 ezs26 => ?_)
  replace W := W zs26 ezs26
  refine J_aload_no (pc' := 66) rfl rfl zg1 rfl ?_
  obtain ⟨zg29, W⟩ := W
  refine J_getA (G := 1056) (pc' := 69) rfl rfl (Nat.le_of_ble_eq_true rfl) rfl zg1 zg29 rfl ?_
  refine J_iload_n (pc' := 70) rfl rfl rfl ?_
  refine J_aload_no (pc' := 71) rfl rfl zg1 rfl ?_
  obtain ⟨zg30, W⟩ := W
  refine J_getA (G := 1076) (pc' := 74) rfl rfl (Nat.le_of_ble_eq_true rfl) rfl zg1 zg30 rfl ?_
  refine J_iload_n (pc' := 75) rfl rfl rfl ?_
  obtain ⟨zg31, W⟩ := W
  refine J_iald (pc' := 76) rfl rfl zg5 zg31 rfl ?_
  refine J_aload_no (pc' := 77) rfl rfl zg1 rfl ?_
  obtain ⟨zg32, W⟩ := W
  refine J_getA (G := 1079) (pc' := 80) rfl rfl (Nat.le_of_ble_eq_true rfl) rfl zg1 zg32 rfl ?_
  refine J_iload_n (pc' := 81) rfl rfl rfl ?_
  obtain ⟨zg33, W⟩ := W
  refine J_iald (pc' := 82) rfl rfl zg5 zg33 rfl ?_
  refine J_iconst (pc' := 83) rfl (i32_d rfl) rfl ?_
  refine J_ixor (pc' := 84) rfl rfl ?_
  refine J_iand (pc' := 85) rfl rfl ?_
  obtain ⟨zg34, W⟩ := W
  refine J_callI (as := [ji (bAnd (ra zs26 1076 zo0 zx1) (bXor (ra zs26 1079 zo0 zx1) (-1)))]) (rest := [ji (rs σ 1064 zo0), ja 1056 zo0]) (pc' := 88) rfl rfl ax_Z_2 rfl rfl (Or.inl rfl) (Nat.le_of_ble_eq_true rfl) (Nat.le_of_ble_eq_true rfl) (Nat.le_of_ble_eq_true rfl) zg34 trivial (And.intro rfl trivial) rfl W (fun zr36 zs35 W => ?_)
  obtain ⟨zg38, W⟩ := W
  obtain ⟨zg39, W⟩ := W
  refine J_iast (pc' := 89) rfl rfl (by decide) zg38 zg39 rfl (fun zs37 ezs37 => ?_)
  replace W := W zs37 ezs37
  refine J_aload_no (pc' := 90) rfl rfl zg1 rfl ?_
  obtain ⟨zg40, W⟩ := W
  refine J_getA (G := 1057) (pc' := 93) rfl rfl (Nat.le_of_ble_eq_true rfl) rfl zg1 zg40 rfl ?_
  refine J_iload_n (pc' := 94) rfl rfl rfl ?_
  refine J_aload_no (pc' := 95) rfl rfl zg1 rfl ?_
  obtain ⟨zg41, W⟩ := W
  refine J_getA (G := 1010) (pc' := 98) rfl rfl (Nat.le_of_ble_eq_true rfl) rfl zg1 zg41 rfl ?_
  refine J_iload_n (pc' := 99) rfl rfl rfl ?_
  obtain ⟨zg42, W⟩ := W
  obtain ⟨zg43, W⟩ := W
  refine J_iald (pc' := 100) rfl rfl zg42 zg43 rfl ?_
  obtain ⟨zg45, W⟩ := W
  obtain ⟨zg46, W⟩ := W
  refine J_iast (pc' := 101) rfl rfl (by decide) zg45 zg46 rfl (fun zs44 ezs44 => ?_)
  replace W := W zs44 ezs44
  refine J_aload_no (pc' := 102) rfl rfl zg1 rfl ?_
  obtain ⟨zg47, W⟩ := W
  refine J_getA (G := 1059) (pc' := 105) rfl rfl (Nat.le_of_ble_eq_true rfl) rfl zg1 zg47 rfl ?_
  refine J_iload_n (pc' := 106) rfl rfl rfl ?_
  refine J_iconst (pc' := 107) rfl (i32_d rfl) rfl ?_
  obtain ⟨zg49, W⟩ := W
  obtain ⟨zg50, W⟩ := W
  refine J_iast (pc' := 108) rfl rfl (by decide) zg49 zg50 rfl (fun zs48 ezs48 => ?_)
  replace W := W zs48 ezs48
  refine J_iconst (pc' := 109) rfl (i32_d rfl) rfl ?_
  refine J_istore (L' := [some (jo 1 zo0), some (ji zx1), some (ji (rs σ 1064 zo0)), some (ji (ra zs3 1090 zo0 zx1)), some (ji 0)]) (pc' := 111) rfl (Nat.le_of_ble_eq_true rfl) rfl rfl ?_
  exact W
set_option maxRecDepth 16000 in
theorem wp_Model_newNode_111 {n : Nat} {σ : jS} {Q : Int → jS → Prop} {zo0 : Int} {zx1 : Int} {zx2 : Int} {zx3 : Int} {zx4 : Int} (W : 0 ≤ zo0 ∧ 0 ≤ rl σ 1010 zo0 ∧ 0 ≤ zx3 ∧ zx3 < rl σ 1010 zo0 ∧ (if ra σ 1010 zo0 zx3 ≤ zx4 then 0 ≤ rl σ 1060 zo0 ∧ 0 ≤ rl σ 1071 zo0 ∧ 0 ≤ zx1 ∧ zx1 < rl σ 1071 zo0 ∧ 0 ≤ zx2 ∧ zx2 < rl σ 1060 zo0 ∧ (∀ zs9, zs9 = wa σ 1060 zo0 zx2 (ra σ 1071 zo0 zx1) → 0 ≤ rl zs9 1061 zo0 ∧ zx2 < rl zs9 1061 zo0 ∧ (∀ zs13, zs13 = wa zs9 1061 zo0 zx2 0 → Q zx2 zs13)) else 0 ≤ rl σ 1058 zo0 ∧ i32 (4 * zx2) ∧ i32 ((4 * zx2) + zx4) ∧ 0 ≤ rl σ 1092 zo0 ∧ i32 (4 * zx1) ∧ i32 ((4 * zx1) + zx4) ∧ 0 ≤ (4 * zx1) + zx4 ∧ (4 * zx1) + zx4 < rl σ 1092 zo0 ∧ 0 ≤ (4 * zx2) + zx4 ∧ (4 * zx2) + zx4 < rl σ 1058 zo0 ∧ (∀ zs23, zs23 = wa σ 1058 zo0 ((4 * zx2) + zx4) (ra σ 1092 zo0 ((4 * zx1) + zx4)) → 0 ≤ rl zs23 1059 zo0 ∧ 0 ≤ zx2 ∧ zx2 < rl zs23 1059 zo0 ∧ 0 ≤ rl zs23 1092 zo0 ∧ (4 * zx1) + zx4 < rl zs23 1092 zo0 ∧ 0 ≤ ra zs23 1092 zo0 ((4 * zx1) + zx4) ∧ ra zs23 1092 zo0 ((4 * zx1) + zx4) < rl zs23 1059 zo0 ∧ i32 ((ra zs23 1059 zo0 zx2) + (ra zs23 1059 zo0 (ra zs23 1092 zo0 ((4 * zx1) + zx4)))) ∧ (∀ zs34, zs34 = wa zs23 1059 zo0 zx2 ((ra zs23 1059 zo0 zx2) + (ra zs23 1059 zo0 (ra zs23 1092 zo0 ((4 * zx1) + zx4)))) → i32 (zx4 + 1) ∧ J n c_Model_newNode (some .int) 111 [some (jo 1 zo0), some (ji zx1), some (ji zx2), some (ji zx3), some (ji (zx4 + 1))] [] zs34 (qI Q))))) : J n c_Model_newNode (some .int) 111 [some (jo 1 zo0), some (ji zx1), some (ji zx2), some (ji zx3), some (ji zx4)] [] σ (qI Q) := by
  refine J_iload (pc' := 113) rfl rfl rfl ?_
  obtain ⟨zg1, W⟩ := W
  refine J_aload_no (pc' := 114) rfl rfl zg1 rfl ?_
  obtain ⟨zg2, W⟩ := W
  refine J_getA (G := 1010) (pc' := 117) rfl rfl (Nat.le_of_ble_eq_true rfl) rfl zg1 zg2 rfl ?_
  refine J_iload_n (pc' := 118) rfl rfl rfl ?_
  obtain ⟨zg3, W⟩ := W
  obtain ⟨zg4, W⟩ := W
  refine J_iald (pc' := 119) rfl rfl zg3 zg4 rfl ?_
  refine J_icmp (P := ra σ 1010 zo0 zx3 ≤ zx4) (t := 175) (f := 122) rfl rfl rfl jc_ge W (fun W => ?_) (fun W => ?_)
  · refine J_aload_no (pc' := 176) rfl rfl zg1 rfl ?_
    obtain ⟨zg5, W⟩ := W
    refine J_getA (G := 1060) (pc' := 179) rfl rfl (Nat.le_of_ble_eq_true rfl) rfl zg1 zg5 rfl ?_
    refine J_iload_n (pc' := 180) rfl rfl rfl ?_
    refine J_aload_no (pc' := 181) rfl rfl zg1 rfl ?_
    obtain ⟨zg6, W⟩ := W
    refine J_getA (G := 1071) (pc' := 184) rfl rfl (Nat.le_of_ble_eq_true rfl) rfl zg1 zg6 rfl ?_
    refine J_iload_n (pc' := 185) rfl rfl rfl ?_
    obtain ⟨zg7, W⟩ := W
    obtain ⟨zg8, W⟩ := W
    refine J_iald (pc' := 186) rfl rfl zg7 zg8 rfl ?_
    obtain ⟨zg10, W⟩ := W
    obtain ⟨zg11, W⟩ := W
    refine J_iast (pc' := 187) rfl rfl (by decide) zg10 zg11 rfl (fun zs9 ezs9 => ?_)
    replace W := W zs9 ezs9
    refine J_aload_no (pc' := 188) rfl rfl zg1 rfl ?_
    obtain ⟨zg12, W⟩ := W
    refine J_getA (G := 1061) (pc' := 191) rfl rfl (Nat.le_of_ble_eq_true rfl) rfl zg1 zg12 rfl ?_
    refine J_iload_n (pc' := 192) rfl rfl rfl ?_
    refine J_iconst (pc' := 193) rfl (i32_d rfl) rfl ?_
    obtain ⟨zg14, W⟩ := W
    refine J_iast (pc' := 194) rfl rfl (by decide) zg10 zg14 rfl (fun zs13 ezs13 => ?_)
    replace W := W zs13 ezs13
    refine J_iload_n (pc' := 195) rfl rfl rfl ?_
    exact J_iret rfl rfl ⟨_, rfl, W⟩
  · refine J_aload_no (pc' := 123) rfl rfl zg1 rfl ?_
    obtain ⟨zg15, W⟩ := W
    refine J_getA (G := 1058) (pc' := 126) rfl rfl (Nat.le_of_ble_eq_true rfl) rfl zg1 zg15 rfl ?_
    refine J_iconst (pc' := 127) rfl (i32_d rfl) rfl ?_
    refine J_iload_n (pc' := 128) rfl rfl rfl ?_
    obtain ⟨zg16, W⟩ := W
    refine J_imul (pc' := 129) rfl zg16 rfl ?_
    refine J_iload (pc' := 131) rfl rfl rfl ?_
    obtain ⟨zg17, W⟩ := W
    refine J_iadd (pc' := 132) rfl zg17 rfl ?_
    refine J_aload_no (pc' := 133) rfl rfl zg1 rfl ?_
    obtain ⟨zg18, W⟩ := W
    refine J_getA (G := 1092) (pc' := 136) rfl rfl (Nat.le_of_ble_eq_true rfl) rfl zg1 zg18 rfl ?_
    refine J_iconst (pc' := 137) rfl (i32_d rfl) rfl ?_
    refine J_iload_n (pc' := 138) rfl rfl rfl ?_
    obtain ⟨zg19, W⟩ := W
    refine J_imul (pc' := 139) rfl zg19 rfl ?_
    refine J_iload (pc' := 141) rfl rfl rfl ?_
    obtain ⟨zg20, W⟩ := W
    refine J_iadd (pc' := 142) rfl zg20 rfl ?_
    obtain ⟨zg21, W⟩ := W
    obtain ⟨zg22, W⟩ := W
    refine J_iald (pc' := 143) rfl rfl zg21 zg22 rfl ?_
    obtain ⟨zg24, W⟩ := W
    obtain ⟨zg25, W⟩ := W
    refine J_iast (pc' := 144) rfl rfl (by decide) zg24 zg25 rfl (fun zs23 ezs23 => ?_)
    replace W := W zs23 ezs23
    refine J_aload_no (pc' := 145) rfl rfl zg1 rfl ?_
    obtain ⟨zg26, W⟩ := W
    refine J_getA (G := 1059) (pc' := 148) rfl rfl (Nat.le_of_ble_eq_true rfl) rfl zg1 zg26 rfl ?_
    refine J_iload_n (pc' := 149) rfl rfl rfl ?_
    refine J_dup2 (pc' := 150) rfl rfl rfl rfl ?_
    obtain ⟨zg27, W⟩ := W
    obtain ⟨zg28, W⟩ := W
    refine J_iald (pc' := 151) rfl rfl zg27 zg28 rfl ?_
    refine J_aload_no (pc' := 152) rfl rfl zg1 rfl ?_
    refine J_getA (G := 1059) (pc' := 155) rfl rfl (Nat.le_of_ble_eq_true rfl) rfl zg1 zg26 rfl ?_
    refine J_aload_no (pc' := 156) rfl rfl zg1 rfl ?_
    obtain ⟨zg29, W⟩ := W
    refine J_getA (G := 1092) (pc' := 159) rfl rfl (Nat.le_of_ble_eq_true rfl) rfl zg1 zg29 rfl ?_
    refine J_iconst (pc' := 160) rfl (i32_d rfl) rfl ?_
    refine J_iload_n (pc' := 161) rfl rfl rfl ?_
    refine J_imul (pc' := 162) rfl zg19 rfl ?_
    refine J_iload (pc' := 164) rfl rfl rfl ?_
    refine J_iadd (pc' := 165) rfl zg20 rfl ?_
    obtain ⟨zg30, W⟩ := W
    refine J_iald (pc' := 166) rfl rfl zg21 zg30 rfl ?_
    obtain ⟨zg31, W⟩ := W
    obtain ⟨zg32, W⟩ := W
    refine J_iald (pc' := 167) rfl rfl zg31 zg32 rfl ?_
    obtain ⟨zg33, W⟩ := W
    refine J_iadd (pc' := 168) rfl zg33 rfl ?_
    refine J_iast (pc' := 169) rfl rfl (by decide) zg27 zg28 rfl (fun zs34 ezs34 => ?_)
    replace W := W zs34 ezs34
    obtain ⟨zg35, W⟩ := W
    refine J_iinc (L' := [some (jo 1 zo0), some (ji zx1), some (ji zx2), some (ji zx3), some (ji (zx4 + 1))]) (pc' := 172) rfl rfl zg35 rfl rfl ?_
    refine J_goto (pc' := 111) rfl rfl ?_
    exact W
set_option maxRecDepth 16000 in
theorem wp_Model_step {n : Nat} {σ : jS} {Q : jS → Prop} {zo0 : Int} (W : 0 ≤ zo0 ∧ i32 ((rs σ 1098 zo0) - 1) ∧ (if rs σ 1101 zo0 = 0 then J n c_Model_step none 25 [some (jo 1 zo0), some (ji ((rs σ 1098 zo0) - 1)), none] [] σ (qV Q) else (∀ zs3, zs3 = ws σ 1101 zo0 0 → 1 ≤ n ∧ TrV (n - 1) i_Model_comeBack [jo 1 zo0, ji ((rs σ 1098 zo0) - 1)] zs3 (fun zs5 => Q zs5)))) : TrV n i_Model_step [jo 1 zo0] σ Q := by
  refine Tr_of ax_Z_67 ?_
  show J n c_Model_step none 0 [some (jo 1 zo0), none, none] [] σ (qV Q)
  obtain ⟨zg1, W⟩ := W
  refine J_aload_no (pc' := 1) rfl rfl zg1 rfl ?_
  refine J_getI (G := 1098) (pc' := 4) rfl rfl (Nat.le_of_ble_eq_true rfl) rfl zg1 rfl ?_
  refine J_iconst (pc' := 5) rfl (i32_d rfl) rfl ?_
  obtain ⟨zg2, W⟩ := W
  refine J_isub (pc' := 6) rfl zg2 rfl ?_
  refine J_istore_n (L' := [some (jo 1 zo0), some (ji ((rs σ 1098 zo0) - 1)), none]) (pc' := 7) rfl (Nat.le_of_ble_eq_true rfl) rfl rfl ?_
  refine J_aload_no (pc' := 8) rfl rfl zg1 rfl ?_
  refine J_getI (G := 1101) (pc' := 11) rfl rfl (Nat.le_of_ble_eq_true rfl) rfl zg1 rfl ?_
  refine J_if (P := rs σ 1101 zo0 = 0) (t := 25) (f := 14) rfl rfl rfl jc_eq W (fun W => ?_) (fun W => ?_)
  · exact W
  · refine J_aload_no (pc' := 15) rfl rfl zg1 rfl ?_
    refine J_iconst (pc' := 16) rfl (i32_d rfl) rfl ?_
    refine J_putZ (G := 1101) (pc' := 19) rfl rfl (Nat.le_of_ble_eq_true rfl) rfl rfl zg1 (Or.inl rfl) rfl (fun zs3 ezs3 => ?_)
    replace W := W zs3 ezs3
    refine J_aload_no (pc' := 20) rfl rfl zg1 rfl ?_
    refine J_iload_n (pc' := 21) rfl rfl rfl ?_
    obtain ⟨zg4, W⟩ := W
    refine J_weak (L' := [none, none, none]) trivial ?_
    refine J_callV (as := [jo 1 zo0, ji ((rs σ 1098 zo0) - 1)]) (rest := []) (pc' := 24) rfl rfl ax_Z_68 rfl rfl (Or.inr (Or.inr ⟨_, _, rfl, zg1⟩)) (Nat.le_of_ble_eq_true rfl) (Nat.le_of_ble_eq_true rfl) (Nat.le_of_ble_eq_true rfl) zg4 trivial trivial rfl W (fun zs5 W => ?_)
    exact J_vret rfl rfl ⟨rfl, W⟩
set_option maxRecDepth 16000 in
theorem wp_Model_step_25 {n : Nat} {σ : jS} {Q : jS → Prop} {zo0 : Int} {zx1 : Int} (W : 0 ≤ zo0 ∧ 0 ≤ rl σ 1080 zo0 ∧ 0 ≤ zx1 ∧ zx1 < rl σ 1080 zo0 ∧ (if 24 ≤ ra σ 1080 zo0 zx1 then J n c_Model_step none 67 [some (jo 1 zo0), some (ji zx1), none] [] σ (qV Q) else 0 ≤ rl σ 1079 zo0 ∧ zx1 < rl σ 1079 zo0 ∧ 1 ≤ n ∧ TrI (n - 1) i_Model_has [ji (ra σ 1079 zo0 zx1), ji (ra σ 1080 zo0 zx1)] σ (fun zr9 zs8 => (if ¬ zr9 = 0 then J n c_Model_step none 67 [some (jo 1 zo0), some (ji zx1), none] [] zs8 (qV Q) else 0 ≤ rl zs8 1080 zo0 ∧ zx1 < rl zs8 1080 zo0 ∧ i32 ((ra zs8 1080 zo0 zx1) + 1) ∧ (∀ zs13, zs13 = wa zs8 1080 zo0 zx1 ((ra zs8 1080 zo0 zx1) + 1) → J n c_Model_step none 25 [some (jo 1 zo0), some (ji zx1), none] [] zs13 (qV Q)))))) : J n c_Model_step none 25 [some (jo 1 zo0), some (ji zx1), none] [] σ (qV Q) := by
  obtain ⟨zg1, W⟩ := W
  refine J_aload_no (pc' := 26) rfl rfl zg1 rfl ?_
  obtain ⟨zg2, W⟩ := W
  refine J_getA (G := 1080) (pc' := 29) rfl rfl (Nat.le_of_ble_eq_true rfl) rfl zg1 zg2 rfl ?_
  refine J_iload_n (pc' := 30) rfl rfl rfl ?_
  obtain ⟨zg3, W⟩ := W
  obtain ⟨zg4, W⟩ := W
  refine J_iald (pc' := 31) rfl rfl zg3 zg4 rfl ?_
  refine J_bipush (pc' := 33) rfl (by decide) (by decide) rfl ?_
  refine J_icmp (P := 24 ≤ ra σ 1080 zo0 zx1) (t := 67) (f := 36) rfl rfl rfl jc_ge W (fun W => ?_) (fun W => ?_)
  · exact W
  · refine J_aload_no (pc' := 37) rfl rfl zg1 rfl ?_
    obtain ⟨zg5, W⟩ := W
    refine J_getA (G := 1079) (pc' := 40) rfl rfl (Nat.le_of_ble_eq_true rfl) rfl zg1 zg5 rfl ?_
    refine J_iload_n (pc' := 41) rfl rfl rfl ?_
    obtain ⟨zg6, W⟩ := W
    refine J_iald (pc' := 42) rfl rfl zg3 zg6 rfl ?_
    refine J_aload_no (pc' := 43) rfl rfl zg1 rfl ?_
    refine J_getA (G := 1080) (pc' := 46) rfl rfl (Nat.le_of_ble_eq_true rfl) rfl zg1 zg2 rfl ?_
    refine J_iload_n (pc' := 47) rfl rfl rfl ?_
    refine J_iald (pc' := 48) rfl rfl zg3 zg4 rfl ?_
    obtain ⟨zg7, W⟩ := W
    refine J_callI (as := [ji (ra σ 1079 zo0 zx1), ji (ra σ 1080 zo0 zx1)]) (rest := []) (pc' := 51) rfl rfl ax_Z_1 rfl rfl (Or.inl rfl) (Nat.le_of_ble_eq_true rfl) (Nat.le_of_ble_eq_true rfl) (Nat.le_of_ble_eq_true rfl) zg7 trivial trivial rfl W (fun zr9 zs8 W => ?_)
    refine J_if (P := ¬ zr9 = 0) (t := 67) (f := 54) rfl rfl rfl jc_ne W (fun W => ?_) (fun W => ?_)
    · exact W
    · refine J_aload_no (pc' := 55) rfl rfl zg1 rfl ?_
      obtain ⟨zg10, W⟩ := W
      refine J_getA (G := 1080) (pc' := 58) rfl rfl (Nat.le_of_ble_eq_true rfl) rfl zg1 zg10 rfl ?_
      refine J_iload_n (pc' := 59) rfl rfl rfl ?_
      refine J_dup2 (pc' := 60) rfl rfl rfl rfl ?_
      obtain ⟨zg11, W⟩ := W
      refine J_iald (pc' := 61) rfl rfl zg3 zg11 rfl ?_
      refine J_iconst (pc' := 62) rfl (i32_d rfl) rfl ?_
      obtain ⟨zg12, W⟩ := W
      refine J_iadd (pc' := 63) rfl zg12 rfl ?_
      refine J_iast (pc' := 64) rfl rfl (by decide) zg3 zg11 rfl (fun zs13 ezs13 => ?_)
      replace W := W zs13 ezs13
      refine J_goto (pc' := 25) rfl rfl ?_
      exact W
set_option maxRecDepth 16000 in
theorem wp_Model_step_67 {n : Nat} {σ : jS} {Q : jS → Prop} {zo0 : Int} {zx1 : Int} (W : 0 ≤ zo0 ∧ 0 ≤ rl σ 1080 zo0 ∧ 0 ≤ zx1 ∧ zx1 < rl σ 1080 zo0 ∧ (if 24 ≤ ra σ 1080 zo0 zx1 then 0 ≤ rl σ 1089 zo0 ∧ zx1 < rl σ 1089 zo0 ∧ (if ra σ 1089 zo0 zx1 ≤ 1 then (if ¬ ra σ 1089 zo0 zx1 = 1 then 0 ≤ rl σ 1076 zo0 ∧ zx1 < rl σ 1076 zo0 ∧ 0 ≤ rl σ 1079 zo0 ∧ zx1 < rl σ 1079 zo0 ∧ (∀ zs11, zs11 = wa σ 1076 zo0 zx1 (bAnd (ra σ 1076 zo0 zx1) (bXor (ra σ 1079 zo0 zx1) (-1))) → 0 ≤ rl zs11 1076 zo0 ∧ zx1 < rl zs11 1076 zo0 ∧ (if ra zs11 1076 zo0 zx1 = 0 then 0 ≤ rl zs11 1074 zo0 ∧ zx1 < rl zs11 1074 zo0 ∧ (if ra zs11 1074 zo0 zx1 = (-1) then 1 ≤ n ∧ TrV (n - 1) i_Model_leave [jo 1 zo0, ji zx1, ji (-1)] zs11 (fun zs17 => Q zs17) else 0 ≤ rl zs11 1008 zo0 ∧ 0 ≤ ra zs11 1074 zo0 zx1 ∧ ra zs11 1074 zo0 zx1 < rl zs11 1008 zo0 ∧ (if ra zs11 1008 zo0 (ra zs11 1074 zo0 zx1) = (-1) then 1 ≤ n ∧ TrV (n - 1) i_Model_leave [jo 1 zo0, ji zx1, ji (-1)] zs11 (fun zs23 => Q zs23) else 0 ≤ rl zs11 1075 zo0 ∧ zx1 < rl zs11 1075 zo0 ∧ i32 ((ra zs11 1075 zo0 zx1) + 1) ∧ 1 ≤ n ∧ TrV (n - 1) i_Model_openLevel [jo 1 zo0, ji zx1, ji (ra zs11 1008 zo0 (ra zs11 1074 zo0 zx1)), ji ((ra zs11 1075 zo0 zx1) + 1)] zs11 (fun zs29 => Q zs29))) else 1 ≤ n ∧ TrV (n - 1) i_Model_newRound [jo 1 zo0, ji zx1] zs11 (fun zs32 => Q zs32))) else 1 ≤ n ∧ TrV (n - 1) i_Model_leaveFound [jo 1 zo0, ji zx1] σ (fun zs35 => Q zs35)) else (∀ zs37, zs37 = ws σ 1099 zo0 2 → Q zs37)) else i32 ((ra σ 1080 zo0 zx1) + 1) ∧ (∀ zs39, zs39 = wa σ 1080 zo0 zx1 ((ra σ 1080 zo0 zx1) + 1) → 1 ≤ n ∧ TrI (n - 1) i_Model_isCut [jo 1 zo0, ji zx1, ji (ra σ 1080 zo0 zx1)] zs39 (fun zr42 zs41 => (if zr42 = 0 then TrV (n - 1) i_Model_tryGiven [jo 1 zo0, ji zx1, ji (ra σ 1080 zo0 zx1)] zs41 (fun zs43 => Q zs43) else i32 ((rs zs41 1105 zo0) + 1) ∧ (∀ zs46, zs46 = ws zs41 1105 zo0 ((rs zs41 1105 zo0) + 1) → 0 ≤ rl zs46 1078 zo0 ∧ zx1 < rl zs46 1078 zo0 ∧ i32 ((ra zs46 1078 zo0 zx1) + 1) ∧ (∀ zs50, zs50 = wa zs46 1078 zo0 zx1 ((ra zs46 1078 zo0 zx1) + 1) → Q zs50))))))) : J n c_Model_step none 67 [some (jo 1 zo0), some (ji zx1), none] [] σ (qV Q) := by
  obtain ⟨zg1, W⟩ := W
  refine J_aload_no (pc' := 68) rfl rfl zg1 rfl ?_
  obtain ⟨zg2, W⟩ := W
  refine J_getA (G := 1080) (pc' := 71) rfl rfl (Nat.le_of_ble_eq_true rfl) rfl zg1 zg2 rfl ?_
  refine J_iload_n (pc' := 72) rfl rfl rfl ?_
  obtain ⟨zg3, W⟩ := W
  obtain ⟨zg4, W⟩ := W
  refine J_iald (pc' := 73) rfl rfl zg3 zg4 rfl ?_
  refine J_bipush (pc' := 75) rfl (by decide) (by decide) rfl ?_
  refine J_icmp (P := 24 ≤ ra σ 1080 zo0 zx1) (t := 134) (f := 78) rfl rfl rfl jc_ge W (fun W => ?_) (fun W => ?_)
  · refine J_aload_no (pc' := 135) rfl rfl zg1 rfl ?_
    obtain ⟨zg5, W⟩ := W
    refine J_getA (G := 1089) (pc' := 138) rfl rfl (Nat.le_of_ble_eq_true rfl) rfl zg1 zg5 rfl ?_
    refine J_iload_n (pc' := 139) rfl rfl rfl ?_
    obtain ⟨zg6, W⟩ := W
    refine J_iald (pc' := 140) rfl rfl zg3 zg6 rfl ?_
    refine J_iconst (pc' := 141) rfl (i32_d rfl) rfl ?_
    refine J_icmp (P := ra σ 1089 zo0 zx1 ≤ 1) (t := 150) (f := 144) rfl rfl rfl jc_le W (fun W => ?_) (fun W => ?_)
    · refine J_aload_no (pc' := 151) rfl rfl zg1 rfl ?_
      refine J_getA (G := 1089) (pc' := 154) rfl rfl (Nat.le_of_ble_eq_true rfl) rfl zg1 zg5 rfl ?_
      refine J_iload_n (pc' := 155) rfl rfl rfl ?_
      refine J_iald (pc' := 156) rfl rfl zg3 zg6 rfl ?_
      refine J_iconst (pc' := 157) rfl (i32_d rfl) rfl ?_
      refine J_icmp (P := ¬ ra σ 1089 zo0 zx1 = 1) (t := 166) (f := 160) rfl rfl rfl jc_ne W (fun W => ?_) (fun W => ?_)
      · refine J_aload_no (pc' := 167) rfl rfl zg1 rfl ?_
        obtain ⟨zg7, W⟩ := W
        refine J_getA (G := 1076) (pc' := 170) rfl rfl (Nat.le_of_ble_eq_true rfl) rfl zg1 zg7 rfl ?_
        refine J_iload_n (pc' := 171) rfl rfl rfl ?_
        refine J_dup2 (pc' := 172) rfl rfl rfl rfl ?_
        obtain ⟨zg8, W⟩ := W
        refine J_iald (pc' := 173) rfl rfl zg3 zg8 rfl ?_
        refine J_aload_no (pc' := 174) rfl rfl zg1 rfl ?_
        obtain ⟨zg9, W⟩ := W
        refine J_getA (G := 1079) (pc' := 177) rfl rfl (Nat.le_of_ble_eq_true rfl) rfl zg1 zg9 rfl ?_
        refine J_iload_n (pc' := 178) rfl rfl rfl ?_
        obtain ⟨zg10, W⟩ := W
        refine J_iald (pc' := 179) rfl rfl zg3 zg10 rfl ?_
        refine J_iconst (pc' := 180) rfl (i32_d rfl) rfl ?_
        refine J_ixor (pc' := 181) rfl rfl ?_
        refine J_iand (pc' := 182) rfl rfl ?_
        refine J_iast (pc' := 183) rfl rfl (by decide) zg3 zg8 rfl (fun zs11 ezs11 => ?_)
        replace W := W zs11 ezs11
        refine J_aload_no (pc' := 184) rfl rfl zg1 rfl ?_
        obtain ⟨zg12, W⟩ := W
        refine J_getA (G := 1076) (pc' := 187) rfl rfl (Nat.le_of_ble_eq_true rfl) rfl zg1 zg12 rfl ?_
        refine J_iload_n (pc' := 188) rfl rfl rfl ?_
        obtain ⟨zg13, W⟩ := W
        refine J_iald (pc' := 189) rfl rfl zg3 zg13 rfl ?_
        refine J_if (P := ra zs11 1076 zo0 zx1 = 0) (t := 200) (f := 192) rfl rfl rfl jc_eq W (fun W => ?_) (fun W => ?_)
        · refine J_aload_no (pc' := 201) rfl rfl zg1 rfl ?_
          obtain ⟨zg14, W⟩ := W
          refine J_getA (G := 1074) (pc' := 204) rfl rfl (Nat.le_of_ble_eq_true rfl) rfl zg1 zg14 rfl ?_
          refine J_iload_n (pc' := 205) rfl rfl rfl ?_
          obtain ⟨zg15, W⟩ := W
          refine J_iald (pc' := 206) rfl rfl zg3 zg15 rfl ?_
          refine J_iconst (pc' := 207) rfl (i32_d rfl) rfl ?_
          refine J_icmp (P := ra zs11 1074 zo0 zx1 = (-1)) (t := 252) (f := 210) rfl rfl rfl jc_eq W (fun W => ?_) (fun W => ?_)
          · refine J_aload_no (pc' := 253) rfl rfl zg1 rfl ?_
            refine J_iload_n (pc' := 254) rfl rfl rfl ?_
            refine J_iconst (pc' := 255) rfl (i32_d rfl) rfl ?_
            obtain ⟨zg16, W⟩ := W
            refine J_weak (L' := [none, none, none]) trivial ?_
            refine J_callV (as := [jo 1 zo0, ji zx1, ji (-1)]) (rest := []) (pc' := 258) rfl rfl ax_Z_70 rfl rfl (Or.inr (Or.inr ⟨_, _, rfl, zg1⟩)) (Nat.le_of_ble_eq_true rfl) (Nat.le_of_ble_eq_true rfl) (Nat.le_of_ble_eq_true rfl) zg16 trivial trivial rfl W (fun zs17 W => ?_)
            exact J_vret rfl rfl ⟨rfl, W⟩
          · refine J_aload_no (pc' := 211) rfl rfl zg1 rfl ?_
            obtain ⟨zg19, W⟩ := W
            refine J_getA (G := 1008) (pc' := 214) rfl rfl (Nat.le_of_ble_eq_true rfl) rfl zg1 zg19 rfl ?_
            refine J_aload_no (pc' := 215) rfl rfl zg1 rfl ?_
            refine J_getA (G := 1074) (pc' := 218) rfl rfl (Nat.le_of_ble_eq_true rfl) rfl zg1 zg14 rfl ?_
            refine J_iload_n (pc' := 219) rfl rfl rfl ?_
            refine J_iald (pc' := 220) rfl rfl zg3 zg15 rfl ?_
            obtain ⟨zg20, W⟩ := W
            obtain ⟨zg21, W⟩ := W
            refine J_iald (pc' := 221) rfl rfl zg20 zg21 rfl ?_
            refine J_iconst (pc' := 222) rfl (i32_d rfl) rfl ?_
            refine J_icmp (P := ra zs11 1008 zo0 (ra zs11 1074 zo0 zx1) = (-1)) (t := 252) (f := 225) rfl rfl rfl jc_eq W (fun W => ?_) (fun W => ?_)
            · refine J_aload_no (pc' := 253) rfl rfl zg1 rfl ?_
              refine J_iload_n (pc' := 254) rfl rfl rfl ?_
              refine J_iconst (pc' := 255) rfl (i32_d rfl) rfl ?_
              obtain ⟨zg22, W⟩ := W
              refine J_weak (L' := [none, none, none]) trivial ?_
              refine J_callV (as := [jo 1 zo0, ji zx1, ji (-1)]) (rest := []) (pc' := 258) rfl rfl ax_Z_70 rfl rfl (Or.inr (Or.inr ⟨_, _, rfl, zg1⟩)) (Nat.le_of_ble_eq_true rfl) (Nat.le_of_ble_eq_true rfl) (Nat.le_of_ble_eq_true rfl) zg22 trivial trivial rfl W (fun zs23 W => ?_)
              exact J_vret rfl rfl ⟨rfl, W⟩
            · refine J_aload_no (pc' := 226) rfl rfl zg1 rfl ?_
              refine J_iload_n (pc' := 227) rfl rfl rfl ?_
              refine J_aload_no (pc' := 228) rfl rfl zg1 rfl ?_
              refine J_getA (G := 1008) (pc' := 231) rfl rfl (Nat.le_of_ble_eq_true rfl) rfl zg1 zg19 rfl ?_
              refine J_aload_no (pc' := 232) rfl rfl zg1 rfl ?_
              refine J_getA (G := 1074) (pc' := 235) rfl rfl (Nat.le_of_ble_eq_true rfl) rfl zg1 zg14 rfl ?_
              refine J_iload_n (pc' := 236) rfl rfl rfl ?_
              refine J_iald (pc' := 237) rfl rfl zg3 zg15 rfl ?_
              refine J_iald (pc' := 238) rfl rfl zg20 zg21 rfl ?_
              refine J_aload_no (pc' := 239) rfl rfl zg1 rfl ?_
              obtain ⟨zg25, W⟩ := W
              refine J_getA (G := 1075) (pc' := 242) rfl rfl (Nat.le_of_ble_eq_true rfl) rfl zg1 zg25 rfl ?_
              refine J_iload_n (pc' := 243) rfl rfl rfl ?_
              obtain ⟨zg26, W⟩ := W
              refine J_iald (pc' := 244) rfl rfl zg3 zg26 rfl ?_
              refine J_iconst (pc' := 245) rfl (i32_d rfl) rfl ?_
              obtain ⟨zg27, W⟩ := W
              refine J_iadd (pc' := 246) rfl zg27 rfl ?_
              obtain ⟨zg28, W⟩ := W
              refine J_weak (L' := [none, none, none]) trivial ?_
              refine J_callV (as := [jo 1 zo0, ji zx1, ji (ra zs11 1008 zo0 (ra zs11 1074 zo0 zx1)), ji ((ra zs11 1075 zo0 zx1) + 1)]) (rest := []) (pc' := 249) rfl rfl ax_Z_56 rfl rfl (Or.inr (Or.inr ⟨_, _, rfl, zg1⟩)) (Nat.le_of_ble_eq_true rfl) (Nat.le_of_ble_eq_true rfl) (Nat.le_of_ble_eq_true rfl) zg28 trivial trivial rfl W (fun zs29 W => ?_)
              refine J_goto (pc' := 258) rfl rfl ?_
              exact J_vret rfl rfl ⟨rfl, W⟩
        · refine J_aload_no (pc' := 193) rfl rfl zg1 rfl ?_
          refine J_iload_n (pc' := 194) rfl rfl rfl ?_
          obtain ⟨zg31, W⟩ := W
          refine J_weak (L' := [none, none, none]) trivial ?_
          refine J_callV (as := [jo 1 zo0, ji zx1]) (rest := []) (pc' := 197) rfl rfl ax_Z_59 rfl rfl (Or.inr (Or.inr ⟨_, _, rfl, zg1⟩)) (Nat.le_of_ble_eq_true rfl) (Nat.le_of_ble_eq_true rfl) (Nat.le_of_ble_eq_true rfl) zg31 trivial trivial rfl W (fun zs32 W => ?_)
          refine J_goto (pc' := 258) rfl rfl ?_
          exact J_vret rfl rfl ⟨rfl, W⟩
      · refine J_aload_no (pc' := 161) rfl rfl zg1 rfl ?_
        refine J_iload_n (pc' := 162) rfl rfl rfl ?_
        obtain ⟨zg34, W⟩ := W
        refine J_weak (L' := [none, none, none]) trivial ?_
        refine J_callV (as := [jo 1 zo0, ji zx1]) (rest := []) (pc' := 165) rfl rfl ax_Z_69 rfl rfl (Or.inr (Or.inr ⟨_, _, rfl, zg1⟩)) (Nat.le_of_ble_eq_true rfl) (Nat.le_of_ble_eq_true rfl) (Nat.le_of_ble_eq_true rfl) zg34 trivial trivial rfl W (fun zs35 W => ?_)
        exact J_vret rfl rfl ⟨rfl, W⟩
    · refine J_aload_no (pc' := 145) rfl rfl zg1 rfl ?_
      refine J_iconst (pc' := 146) rfl (i32_d rfl) rfl ?_
      refine J_putI (G := 1099) (pc' := 149) rfl rfl (Nat.le_of_ble_eq_true rfl) rfl rfl zg1 rfl (fun zs37 ezs37 => ?_)
      replace W := W zs37 ezs37
      exact J_vret rfl rfl ⟨rfl, W⟩
  · refine J_aload_no (pc' := 79) rfl rfl zg1 rfl ?_
    refine J_getA (G := 1080) (pc' := 82) rfl rfl (Nat.le_of_ble_eq_true rfl) rfl zg1 zg2 rfl ?_
    refine J_iload_n (pc' := 83) rfl rfl rfl ?_
    refine J_iald (pc' := 84) rfl rfl zg3 zg4 rfl ?_
    refine J_istore_n (L' := [some (jo 1 zo0), some (ji zx1), some (ji (ra σ 1080 zo0 zx1))]) (pc' := 85) rfl (Nat.le_of_ble_eq_true rfl) rfl rfl ?_
    refine J_aload_no (pc' := 86) rfl rfl zg1 rfl ?_
    refine J_getA (G := 1080) (pc' := 89) rfl rfl (Nat.le_of_ble_eq_true rfl) rfl zg1 zg2 rfl ?_
    refine J_iload_n (pc' := 90) rfl rfl rfl ?_
    refine J_dup2 (pc' := 91) rfl rfl rfl rfl ?_
    refine J_iald (pc' := 92) rfl rfl zg3 zg4 rfl ?_
    refine J_iconst (pc' := 93) rfl (i32_d rfl) rfl ?_
    obtain ⟨zg38, W⟩ := W
    refine J_iadd (pc' := 94) rfl zg38 rfl ?_
    refine J_iast (pc' := 95) rfl rfl (by decide) zg3 zg4 rfl (fun zs39 ezs39 => ?_)
    replace W := W zs39 ezs39
    refine J_aload_no (pc' := 96) rfl rfl zg1 rfl ?_
    refine J_iload_n (pc' := 97) rfl rfl rfl ?_
    refine J_iload_n (pc' := 98) rfl rfl rfl ?_
    obtain ⟨zg40, W⟩ := W
    refine J_callI (as := [jo 1 zo0, ji zx1, ji (ra σ 1080 zo0 zx1)]) (rest := []) (pc' := 101) rfl rfl ax_Z_61 rfl rfl (Or.inr (Or.inr ⟨_, _, rfl, zg1⟩)) (Nat.le_of_ble_eq_true rfl) (Nat.le_of_ble_eq_true rfl) (Nat.le_of_ble_eq_true rfl) zg40 trivial trivial rfl W (fun zr42 zs41 W => ?_)
    refine J_if (P := zr42 = 0) (t := 127) (f := 104) rfl rfl rfl jc_eq W (fun W => ?_) (fun W => ?_)
    · refine J_aload_no (pc' := 128) rfl rfl zg1 rfl ?_
      refine J_iload_n (pc' := 129) rfl rfl rfl ?_
      refine J_iload_n (pc' := 130) rfl rfl rfl ?_
      refine J_weak (L' := [none, none, none]) trivial ?_
      refine J_callV (as := [jo 1 zo0, ji zx1, ji (ra σ 1080 zo0 zx1)]) (rest := []) (pc' := 133) rfl rfl ax_Z_62 rfl rfl (Or.inr (Or.inr ⟨_, _, rfl, zg1⟩)) (Nat.le_of_ble_eq_true rfl) (Nat.le_of_ble_eq_true rfl) (Nat.le_of_ble_eq_true rfl) zg40 trivial trivial rfl W (fun zs43 W => ?_)
      exact J_vret rfl rfl ⟨rfl, W⟩
    · refine J_aload_no (pc' := 105) rfl rfl zg1 rfl ?_
      refine J_dup (pc' := 106) rfl rfl rfl ?_
      refine J_getI (G := 1105) (pc' := 109) rfl rfl (Nat.le_of_ble_eq_true rfl) rfl zg1 rfl ?_
      refine J_iconst (pc' := 110) rfl (i32_d rfl) rfl ?_
      obtain ⟨zg45, W⟩ := W
      refine J_iadd (pc' := 111) rfl zg45 rfl ?_
      refine J_putI (G := 1105) (pc' := 114) rfl rfl (Nat.le_of_ble_eq_true rfl) rfl rfl zg1 rfl (fun zs46 ezs46 => ?_)
      replace W := W zs46 ezs46
      refine J_aload_no (pc' := 115) rfl rfl zg1 rfl ?_
      obtain ⟨zg47, W⟩ := W
      refine J_getA (G := 1078) (pc' := 118) rfl rfl (Nat.le_of_ble_eq_true rfl) rfl zg1 zg47 rfl ?_
      refine J_iload_n (pc' := 119) rfl rfl rfl ?_
      refine J_dup2 (pc' := 120) rfl rfl rfl rfl ?_
      obtain ⟨zg48, W⟩ := W
      refine J_iald (pc' := 121) rfl rfl zg3 zg48 rfl ?_
      refine J_iconst (pc' := 122) rfl (i32_d rfl) rfl ?_
      obtain ⟨zg49, W⟩ := W
      refine J_iadd (pc' := 123) rfl zg49 rfl ?_
      refine J_iast (pc' := 124) rfl rfl (by decide) zg3 zg48 rfl (fun zs50 ezs50 => ?_)
      replace W := W zs50 ezs50
      refine J_goto (pc' := 133) rfl rfl ?_
      exact J_vret rfl rfl ⟨rfl, W⟩
theorem wp_Model_comeBack {n : Nat} {σ : jS} {Q : jS → Prop} {zo0 : Int} {zx1 : Int} (W : 0 ≤ zo0 ∧ (if ¬ rs σ 1102 zo0 = (-1) then 0 ≤ rl σ 1088 zo0 ∧ i32 (4 * zx1) ∧ 0 ≤ rl σ 1082 zo0 ∧ 0 ≤ zx1 ∧ zx1 < rl σ 1082 zo0 ∧ i32 ((4 * zx1) + (ra σ 1082 zo0 zx1)) ∧ 0 ≤ (4 * zx1) + (ra σ 1082 zo0 zx1) ∧ (4 * zx1) + (ra σ 1082 zo0 zx1) < rl σ 1088 zo0 ∧ (∀ zs8, zs8 = wa σ 1088 zo0 ((4 * zx1) + (ra σ 1082 zo0 zx1)) (rs σ 1102 zo0) → 0 ≤ rl zs8 1082 zo0 ∧ zx1 < rl zs8 1082 zo0 ∧ i32 ((ra zs8 1082 zo0 zx1) + 1) ∧ (∀ zs14, zs14 = wa zs8 1082 zo0 zx1 ((ra zs8 1082 zo0 zx1) + 1) → 1 ≤ n ∧ TrV (n - 1) i_Model_goOn [jo 1 zo0, ji zx1] zs14 (fun zs16 => Q zs16))) else 0 ≤ rl σ 1078 zo0 ∧ 0 ≤ zx1 ∧ zx1 < rl σ 1078 zo0 ∧ i32 ((ra σ 1078 zo0 zx1) + 1) ∧ (∀ zs22, zs22 = wa σ 1078 zo0 zx1 ((ra σ 1078 zo0 zx1) + 1) → 1 ≤ n ∧ TrV (n - 1) i_Model_back [jo 1 zo0, ji zx1] zs22 (fun zs24 => Q zs24)))) : TrV n i_Model_comeBack [jo 1 zo0, ji zx1] σ Q := by
  refine Tr_of ax_Z_68 ?_
  show J n c_Model_comeBack none 0 [some (jo 1 zo0), some (ji zx1)] [] σ (qV Q)
  obtain ⟨zg1, W⟩ := W
  refine J_aload_no (pc' := 1) rfl rfl zg1 rfl ?_
  refine J_getI (G := 1102) (pc' := 4) rfl rfl (Nat.le_of_ble_eq_true rfl) rfl zg1 rfl ?_
  refine J_iconst (pc' := 5) rfl (i32_d rfl) rfl ?_
  refine J_icmp (P := ¬ rs σ 1102 zo0 = (-1)) (t := 24) (f := 8) rfl rfl rfl jc_ne W (fun W => ?_) (fun W => ?_)
  · refine J_aload_no (pc' := 25) rfl rfl zg1 rfl ?_
    obtain ⟨zg2, W⟩ := W
    refine J_getA (G := 1088) (pc' := 28) rfl rfl (Nat.le_of_ble_eq_true rfl) rfl zg1 zg2 rfl ?_
    refine J_iconst (pc' := 29) rfl (i32_d rfl) rfl ?_
    refine J_iload_n (pc' := 30) rfl rfl rfl ?_
    obtain ⟨zg3, W⟩ := W
    refine J_imul (pc' := 31) rfl zg3 rfl ?_
    refine J_aload_no (pc' := 32) rfl rfl zg1 rfl ?_
    obtain ⟨zg4, W⟩ := W
    refine J_getA (G := 1082) (pc' := 35) rfl rfl (Nat.le_of_ble_eq_true rfl) rfl zg1 zg4 rfl ?_
    refine J_iload_n (pc' := 36) rfl rfl rfl ?_
    obtain ⟨zg5, W⟩ := W
    obtain ⟨zg6, W⟩ := W
    refine J_iald (pc' := 37) rfl rfl zg5 zg6 rfl ?_
    obtain ⟨zg7, W⟩ := W
    refine J_iadd (pc' := 38) rfl zg7 rfl ?_
    refine J_aload_no (pc' := 39) rfl rfl zg1 rfl ?_
    refine J_getI (G := 1102) (pc' := 42) rfl rfl (Nat.le_of_ble_eq_true rfl) rfl zg1 rfl ?_
    obtain ⟨zg9, W⟩ := W
    obtain ⟨zg10, W⟩ := W
    refine J_iast (pc' := 43) rfl rfl (by decide) zg9 zg10 rfl (fun zs8 ezs8 => ?_)
    replace W := W zs8 ezs8
    refine J_aload_no (pc' := 44) rfl rfl zg1 rfl ?_
    obtain ⟨zg11, W⟩ := W
    refine J_getA (G := 1082) (pc' := 47) rfl rfl (Nat.le_of_ble_eq_true rfl) rfl zg1 zg11 rfl ?_
    refine J_iload_n (pc' := 48) rfl rfl rfl ?_
    refine J_dup2 (pc' := 49) rfl rfl rfl rfl ?_
    obtain ⟨zg12, W⟩ := W
    refine J_iald (pc' := 50) rfl rfl zg5 zg12 rfl ?_
    refine J_iconst (pc' := 51) rfl (i32_d rfl) rfl ?_
    obtain ⟨zg13, W⟩ := W
    refine J_iadd (pc' := 52) rfl zg13 rfl ?_
    refine J_iast (pc' := 53) rfl rfl (by decide) zg5 zg12 rfl (fun zs14 ezs14 => ?_)
    replace W := W zs14 ezs14
    refine J_aload_no (pc' := 54) rfl rfl zg1 rfl ?_
    refine J_iload_n (pc' := 55) rfl rfl rfl ?_
    obtain ⟨zg15, W⟩ := W
    refine J_weak (L' := [none, none]) trivial ?_
    refine J_callV (as := [jo 1 zo0, ji zx1]) (rest := []) (pc' := 58) rfl rfl ax_Z_63 rfl rfl (Or.inr (Or.inr ⟨_, _, rfl, zg1⟩)) (Nat.le_of_ble_eq_true rfl) (Nat.le_of_ble_eq_true rfl) (Nat.le_of_ble_eq_true rfl) zg15 trivial trivial rfl W (fun zs16 W => ?_)
    exact J_vret rfl rfl ⟨rfl, W⟩
  · refine J_aload_no (pc' := 9) rfl rfl zg1 rfl ?_
    obtain ⟨zg18, W⟩ := W
    refine J_getA (G := 1078) (pc' := 12) rfl rfl (Nat.le_of_ble_eq_true rfl) rfl zg1 zg18 rfl ?_
    refine J_iload_n (pc' := 13) rfl rfl rfl ?_
    refine J_dup2 (pc' := 14) rfl rfl rfl rfl ?_
    obtain ⟨zg19, W⟩ := W
    obtain ⟨zg20, W⟩ := W
    refine J_iald (pc' := 15) rfl rfl zg19 zg20 rfl ?_
    refine J_iconst (pc' := 16) rfl (i32_d rfl) rfl ?_
    obtain ⟨zg21, W⟩ := W
    refine J_iadd (pc' := 17) rfl zg21 rfl ?_
    refine J_iast (pc' := 18) rfl rfl (by decide) zg19 zg20 rfl (fun zs22 ezs22 => ?_)
    replace W := W zs22 ezs22
    refine J_aload_no (pc' := 19) rfl rfl zg1 rfl ?_
    refine J_iload_n (pc' := 20) rfl rfl rfl ?_
    obtain ⟨zg23, W⟩ := W
    refine J_weak (L' := [none, none]) trivial ?_
    refine J_callV (as := [jo 1 zo0, ji zx1]) (rest := []) (pc' := 23) rfl rfl ax_Z_64 rfl rfl (Or.inr (Or.inr ⟨_, _, rfl, zg1⟩)) (Nat.le_of_ble_eq_true rfl) (Nat.le_of_ble_eq_true rfl) (Nat.le_of_ble_eq_true rfl) zg23 trivial trivial rfl W (fun zs24 W => ?_)
    exact J_vret rfl rfl ⟨rfl, W⟩
theorem wp_Model_leaveFound {n : Nat} {σ : jS} {Q : jS → Prop} {zo0 : Int} {zx1 : Int} (W : 0 ≤ zo0 ∧ 0 ≤ rl σ 1093 zo0 ∧ 0 ≤ zx1 ∧ zx1 < rl σ 1093 zo0 ∧ J n c_Model_leaveFound none 7 [some (jo 1 zo0), some (ji zx1), some (ji (ra σ 1093 zo0 zx1))] [] σ (qV Q)) : TrV n i_Model_leaveFound [jo 1 zo0, ji zx1] σ Q := by
  refine Tr_of ax_Z_69 ?_
  show J n c_Model_leaveFound none 0 [some (jo 1 zo0), some (ji zx1), none] [] σ (qV Q)
  obtain ⟨zg1, W⟩ := W
  refine J_aload_no (pc' := 1) rfl rfl zg1 rfl ?_
  obtain ⟨zg2, W⟩ := W
  refine J_getA (G := 1093) (pc' := 4) rfl rfl (Nat.le_of_ble_eq_true rfl) rfl zg1 zg2 rfl ?_
  refine J_iload_n (pc' := 5) rfl rfl rfl ?_
  obtain ⟨zg3, W⟩ := W
  obtain ⟨zg4, W⟩ := W
  refine J_iald (pc' := 6) rfl rfl zg3 zg4 rfl ?_
  refine J_istore_n (L' := [some (jo 1 zo0), some (ji zx1), some (ji (ra σ 1093 zo0 zx1))]) (pc' := 7) rfl (Nat.le_of_ble_eq_true rfl) rfl rfl ?_
  exact W
theorem wp_Model_leaveFound_7 {n : Nat} {σ : jS} {Q : jS → Prop} {zo0 : Int} {zx1 : Int} {zx2 : Int} (W : 0 ≤ zo0 ∧ 0 ≤ rl σ 1093 zo0 ∧ 0 ≤ zx1 ∧ zx1 < rl σ 1093 zo0 ∧ 0 ≤ rl σ 1094 zo0 ∧ zx1 < rl σ 1094 zo0 ∧ i32 ((ra σ 1093 zo0 zx1) + (ra σ 1094 zo0 zx1)) ∧ (if (ra σ 1093 zo0 zx1) + (ra σ 1094 zo0 zx1) ≤ zx2 then 1 ≤ n ∧ TrI (n - 1) i_Model_newNode [jo 1 zo0, ji zx1] σ (fun zr10 zs9 => TrV (n - 1) i_Model_leave [jo 1 zo0, ji zx1, ji zr10] zs9 (fun zs11 => Q zs11)) else 0 ≤ rl σ 1095 zo0 ∧ 0 ≤ zx2 ∧ zx2 < rl σ 1095 zo0 ∧ 0 ≤ rl σ 1096 zo0 ∧ zx2 < rl σ 1096 zo0 ∧ 1 ≤ n ∧ TrV (n - 1) i_Model_tie [jo 1 zo0, ji (ra σ 1095 zo0 zx2), ji (ra σ 1096 zo0 zx2)] σ (fun zs19 => i32 (zx2 + 1) ∧ J n c_Model_leaveFound none 7 [some (jo 1 zo0), some (ji zx1), some (ji (zx2 + 1))] [] zs19 (qV Q)))) : J n c_Model_leaveFound none 7 [some (jo 1 zo0), some (ji zx1), some (ji zx2)] [] σ (qV Q) := by
  refine J_iload_n (pc' := 8) rfl rfl rfl ?_
  obtain ⟨zg1, W⟩ := W
  refine J_aload_no (pc' := 9) rfl rfl zg1 rfl ?_
  obtain ⟨zg2, W⟩ := W
  refine J_getA (G := 1093) (pc' := 12) rfl rfl (Nat.le_of_ble_eq_true rfl) rfl zg1 zg2 rfl ?_
  refine J_iload_n (pc' := 13) rfl rfl rfl ?_
  obtain ⟨zg3, W⟩ := W
  obtain ⟨zg4, W⟩ := W
  refine J_iald (pc' := 14) rfl rfl zg3 zg4 rfl ?_
  refine J_aload_no (pc' := 15) rfl rfl zg1 rfl ?_
  obtain ⟨zg5, W⟩ := W
  refine J_getA (G := 1094) (pc' := 18) rfl rfl (Nat.le_of_ble_eq_true rfl) rfl zg1 zg5 rfl ?_
  refine J_iload_n (pc' := 19) rfl rfl rfl ?_
  obtain ⟨zg6, W⟩ := W
  refine J_iald (pc' := 20) rfl rfl zg3 zg6 rfl ?_
  obtain ⟨zg7, W⟩ := W
  refine J_iadd (pc' := 21) rfl zg7 rfl ?_
  refine J_icmp (P := (ra σ 1093 zo0 zx1) + (ra σ 1094 zo0 zx1) ≤ zx2) (t := 46) (f := 24) rfl rfl rfl jc_ge W (fun W => ?_) (fun W => ?_)
  · refine J_aload_no (pc' := 47) rfl rfl zg1 rfl ?_
    refine J_iload_n (pc' := 48) rfl rfl rfl ?_
    refine J_aload_no (pc' := 49) rfl rfl zg1 rfl ?_
    refine J_iload_n (pc' := 50) rfl rfl rfl ?_
    obtain ⟨zg8, W⟩ := W
    refine J_weak (L' := [none, none, none]) trivial ?_
    refine J_callI (as := [jo 1 zo0, ji zx1]) (rest := [ji zx1, jo 1 zo0]) (pc' := 53) rfl rfl ax_Z_66 rfl rfl (Or.inr (Or.inr ⟨_, _, rfl, zg1⟩)) (Nat.le_of_ble_eq_true rfl) (Nat.le_of_ble_eq_true rfl) (Nat.le_of_ble_eq_true rfl) zg8 trivial trivial rfl W (fun zr10 zs9 W => ?_)
    refine J_callV (as := [jo 1 zo0, ji zx1, ji zr10]) (rest := []) (pc' := 56) rfl rfl ax_Z_70 rfl rfl (Or.inr (Or.inr ⟨_, _, rfl, zg1⟩)) (Nat.le_of_ble_eq_true rfl) (Nat.le_of_ble_eq_true rfl) (Nat.le_of_ble_eq_true rfl) zg8 trivial trivial rfl W (fun zs11 W => ?_)
    exact J_vret rfl rfl ⟨rfl, W⟩
  · refine J_aload_no (pc' := 25) rfl rfl zg1 rfl ?_
    refine J_aload_no (pc' := 26) rfl rfl zg1 rfl ?_
    obtain ⟨zg13, W⟩ := W
    refine J_getA (G := 1095) (pc' := 29) rfl rfl (Nat.le_of_ble_eq_true rfl) rfl zg1 zg13 rfl ?_
    refine J_iload_n (pc' := 30) rfl rfl rfl ?_
    obtain ⟨zg14, W⟩ := W
    obtain ⟨zg15, W⟩ := W
    refine J_iald (pc' := 31) rfl rfl zg14 zg15 rfl ?_
    refine J_aload_no (pc' := 32) rfl rfl zg1 rfl ?_
    obtain ⟨zg16, W⟩ := W
    refine J_getA (G := 1096) (pc' := 35) rfl rfl (Nat.le_of_ble_eq_true rfl) rfl zg1 zg16 rfl ?_
    refine J_iload_n (pc' := 36) rfl rfl rfl ?_
    obtain ⟨zg17, W⟩ := W
    refine J_iald (pc' := 37) rfl rfl zg14 zg17 rfl ?_
    obtain ⟨zg18, W⟩ := W
    refine J_callV (as := [jo 1 zo0, ji (ra σ 1095 zo0 zx2), ji (ra σ 1096 zo0 zx2)]) (rest := []) (pc' := 40) rfl rfl ax_Z_45 rfl rfl (Or.inr (Or.inr ⟨_, _, rfl, zg1⟩)) (Nat.le_of_ble_eq_true rfl) (Nat.le_of_ble_eq_true rfl) (Nat.le_of_ble_eq_true rfl) zg18 trivial trivial rfl W (fun zs19 W => ?_)
    obtain ⟨zg21, W⟩ := W
    refine J_iinc (L' := [some (jo 1 zo0), some (ji zx1), some (ji (zx2 + 1))]) (pc' := 43) rfl rfl zg21 rfl rfl ?_
    refine J_goto (pc' := 7) rfl rfl ?_
    exact W
