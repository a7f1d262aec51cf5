/-! Rows that turn code into formulas (written by genwp.py). -/
theorem wp_Model_backValue {n : Nat} {σ : jS} {Q : jS → Prop} {zo0 : Int} {zx1 : Int} (W : 0 ≤ zo0 ∧ 0 ≤ rl σ 1139 zo0 ∧ 0 ≤ zx1 ∧ zx1 < rl σ 1139 zo0 ∧ 1 ≤ n ∧ TrV (n - 1) i_Model_untie [jo 1 zo0, ji (ra σ 1139 zo0 zx1)] σ (fun zs6 => 0 ≤ rl zs6 1140 zo0 ∧ zx1 < rl zs6 1140 zo0 ∧ (∀ zs10, zs10 = ws zs6 1033 zo0 (ra zs6 1140 zo0 zx1) → 0 ≤ rl zs10 1141 zo0 ∧ zx1 < rl zs10 1141 zo0 ∧ (∀ zs13, zs13 = ws zs10 1034 zo0 (ra zs10 1141 zo0 zx1) → Q zs13)))) : TrV n i_Model_backValue [jo 1 zo0, ji zx1] σ Q := by
  refine Tr_of ax_Z_107 ?_
  show J n c_Model_backValue none 0 [some (jo 1 zo0), some (ji zx1)] [] σ (qV Q)
  obtain ⟨zg1, W⟩ := W
  refine J_aload_no (pc' := 1) rfl rfl zg1 rfl ?_
  refine J_aload_no (pc' := 2) rfl rfl zg1 rfl ?_
  obtain ⟨zg2, W⟩ := W
  refine J_getA (G := 1139) (pc' := 5) rfl rfl (Nat.le_of_ble_eq_true rfl) rfl zg1 zg2 rfl ?_
  refine J_iload_n (pc' := 6) rfl rfl rfl ?_
  obtain ⟨zg3, W⟩ := W
  obtain ⟨zg4, W⟩ := W
  refine J_iald (pc' := 7) rfl rfl zg3 zg4 rfl ?_
  obtain ⟨zg5, W⟩ := W
  refine J_callV (as := [jo 1 zo0, ji (ra σ 1139 zo0 zx1)]) (rest := []) (pc' := 10) rfl rfl ax_Z_46 rfl rfl (Or.inr (Or.inr ⟨_, _, rfl, zg1⟩)) (Nat.le_of_ble_eq_true rfl) (Nat.le_of_ble_eq_true rfl) (Nat.le_of_ble_eq_true rfl) zg5 trivial trivial rfl W (fun zs6 W => ?_)
  refine J_aload_no (pc' := 11) rfl rfl zg1 rfl ?_
  refine J_aload_no (pc' := 12) rfl rfl zg1 rfl ?_
  obtain ⟨zg8, W⟩ := W
  refine J_getA (G := 1140) (pc' := 15) rfl rfl (Nat.le_of_ble_eq_true rfl) rfl zg1 zg8 rfl ?_
  refine J_iload_n (pc' := 16) rfl rfl rfl ?_
  obtain ⟨zg9, W⟩ := W
  refine J_iald (pc' := 17) rfl rfl zg3 zg9 rfl ?_
  refine J_putI (G := 1033) (pc' := 20) rfl rfl (Nat.le_of_ble_eq_true rfl) rfl rfl zg1 rfl (fun zs10 ezs10 => ?_)
  replace W := W zs10 ezs10
  refine J_aload_no (pc' := 21) rfl rfl zg1 rfl ?_
  refine J_aload_no (pc' := 22) rfl rfl zg1 rfl ?_
  obtain ⟨zg11, W⟩ := W
  refine J_getA (G := 1141) (pc' := 25) rfl rfl (Nat.le_of_ble_eq_true rfl) rfl zg1 zg11 rfl ?_
  refine J_iload_n (pc' := 26) rfl rfl rfl ?_
  obtain ⟨zg12, W⟩ := W
  refine J_iald (pc' := 27) rfl rfl zg3 zg12 rfl ?_
  refine J_putI (G := 1034) (pc' := 30) rfl rfl (Nat.le_of_ble_eq_true rfl) rfl rfl zg1 rfl (fun zs13 ezs13 => ?_)
  replace W := W zs13 ezs13
  exact J_vret rfl rfl ⟨rfl, W⟩
theorem wp_Model_valuesOf {n : Nat} {σ : jS} {Q : Int → jS → Prop} {zo0 : Int} {zx1 : Int} {zx2 : Int} {zx3 : Int} (W : 0 ≤ zo0 ∧ 1 ≤ n ∧ TrV (n - 1) i_Model_openValue [jo 1 zo0, ji 0, ji zx1] σ (fun zs3 => J n c_Model_valuesOf (some .int) 9 [some (jo 1 zo0), none, some (ji zx2), some (ji zx3), some (ji 0), none] [] zs3 (qI Q))) : TrI n i_Model_valuesOf [jo 1 zo0, ji zx1, ji zx2, ji zx3] σ Q := by
  refine Tr_of ax_Z_108 ?_
  show J n c_Model_valuesOf (some .int) 0 [some (jo 1 zo0), some (ji zx1), some (ji zx2), some (ji zx3), none, none] [] σ (qI Q)
  refine J_iconst (pc' := 1) rfl (i32_d rfl) rfl ?_
  refine J_istore (L' := [some (jo 1 zo0), some (ji zx1), some (ji zx2), some (ji zx3), some (ji 0), none]) (pc' := 3) rfl (Nat.le_of_ble_eq_true rfl) rfl rfl ?_
  obtain ⟨zg1, W⟩ := W
  refine J_aload_no (pc' := 4) rfl rfl zg1 rfl ?_
  refine J_iconst (pc' := 5) rfl (i32_d rfl) rfl ?_
  refine J_iload_n (pc' := 6) rfl rfl rfl ?_
  obtain ⟨zg2, W⟩ := W
  refine J_weak (L' := [some (jo 1 zo0), none, some (ji zx2), some (ji zx3), some (ji 0), none]) (And.intro rfl (And.intro rfl (And.intro rfl (And.intro rfl trivial)))) ?_
  refine J_callV (as := [jo 1 zo0, ji 0, ji zx1]) (rest := []) (pc' := 9) rfl rfl ax_Z_104 rfl rfl (Or.inr (Or.inr ⟨_, _, rfl, zg1⟩)) (Nat.le_of_ble_eq_true rfl) (Nat.le_of_ble_eq_true rfl) (Nat.le_of_ble_eq_true rfl) zg2 trivial trivial rfl W (fun zs3 W => ?_)
  exact W
theorem wp_Model_valuesOf_9 {n : Nat} {σ : jS} {Q : Int → jS → Prop} {zo0 : Int} {zx2 : Int} {zx3 : Int} {zx4 : Int} (W : (if zx4 < 0 then 0 ≤ zo0 ∧ 0 ≤ rl σ 1143 zo0 ∧ 0 < rl σ 1143 zo0 ∧ i32 (ra σ 1143 zo0 0) ∧ Q (ra σ 1143 zo0 0) σ else 0 ≤ zo0 ∧ 1 ≤ n ∧ TrI (n - 1) i_Model_nextGiven [jo 1 zo0, ji zx4, ji zx2] σ (fun zr8 zs7 => (if ¬ zr8 = 0 then 0 ≤ rl zs7 1010 zo0 ∧ 0 ≤ rl zs7 1136 zo0 ∧ 0 ≤ zx4 ∧ zx4 < rl zs7 1136 zo0 ∧ 0 ≤ ra zs7 1136 zo0 zx4 ∧ ra zs7 1136 zo0 zx4 < rl zs7 1010 zo0 ∧ (if ¬ ra zs7 1010 zo0 (ra zs7 1136 zo0 zx4) = 0 then (if zx3 ≤ zx4 then J n c_Model_valuesOf (some .int) 9 [some (jo 1 zo0), none, some (ji zx2), some (ji zx3), some (ji zx4), none] [] zs7 (qI Q) else 0 ≤ rl zs7 1142 zo0 ∧ zx4 < rl zs7 1142 zo0 ∧ (∀ zs16, zs16 = wa zs7 1142 zo0 zx4 1 → 0 ≤ rl zs16 1137 zo0 ∧ zx4 < rl zs16 1137 zo0 ∧ (∀ zs19, zs19 = wa zs16 1137 zo0 zx4 0 → i32 (zx4 + 1) ∧ 0 ≤ rl zs19 1138 zo0 ∧ i32 (4 * zx4) ∧ 0 ≤ 4 * zx4 ∧ 4 * zx4 < rl zs19 1138 zo0 ∧ TrV (n - 1) i_Model_openValue [jo 1 zo0, ji (zx4 + 1), ji (ra zs19 1138 zo0 (4 * zx4))] zs19 (fun zs26 => J n c_Model_valuesOf (some .int) 9 [some (jo 1 zo0), none, some (ji zx2), some (ji zx3), some (ji (zx4 + 1)), none] [] zs26 (qI Q))))) else 0 ≤ rl zs7 1143 zo0 ∧ zx4 < rl zs7 1143 zo0 ∧ i64 ((ra zs7 1143 zo0 zx4) + 1) ∧ TrL (n - 1) i_Model_least [jl ((ra zs7 1143 zo0 zx4) + 1)] zs7 (fun zr32 zs31 => i32 zr32 ∧ zx4 < rl zs31 1143 zo0 ∧ (∀ zs33, zs33 = wa zs31 1143 zo0 zx4 zr32 → J n c_Model_valuesOf (some .int) 9 [some (jo 1 zo0), none, some (ji zx2), some (ji zx3), some (ji zx4), none] [] zs33 (qI Q)))) else i32 (zx4 + (-1)) ∧ (if 0 ≤ zx4 + (-1) then 0 ≤ rl zs7 1143 zo0 ∧ i32 ((zx4 + (-1)) + 1) ∧ 0 ≤ (zx4 + (-1)) + 1 ∧ (zx4 + (-1)) + 1 < rl zs7 1143 zo0 ∧ TrI (n - 1) i_Model_upWith [jo 1 zo0, ji (zx4 + (-1)), jl (ra zs7 1143 zo0 ((zx4 + (-1)) + 1))] zs7 (fun zr42 zs41 => J n c_Model_valuesOf (some .int) 9 [some (jo 1 zo0), none, some (ji zx2), some (ji zx3), some (ji zr42), none] [] zs41 (qI Q)) else J n c_Model_valuesOf (some .int) 9 [some (jo 1 zo0), none, some (ji zx2), some (ji zx3), some (ji (zx4 + (-1))), none] [] zs7 (qI Q)))))) : J n c_Model_valuesOf (some .int) 9 [some (jo 1 zo0), none, some (ji zx2), some (ji zx3), some (ji zx4), none] [] σ (qI Q) := by
  refine J_iload (pc' := 11) rfl rfl rfl ?_
  refine J_if (P := zx4 < 0) (t := 143) (f := 14) rfl rfl rfl jc_lt W (fun W => ?_) (fun W => ?_)
  · obtain ⟨zg1, W⟩ := W
    refine J_aload_no (pc' := 144) rfl rfl zg1 rfl ?_
    obtain ⟨zg2, W⟩ := W
    refine J_getA (G := 1143) (pc' := 147) rfl rfl (Nat.le_of_ble_eq_true rfl) rfl zg1 zg2 rfl ?_
    refine J_iconst (pc' := 148) rfl (i32_d rfl) rfl ?_
    obtain ⟨zg3, W⟩ := W
    refine J_lald (pc' := 149) rfl rfl (by decide) zg3 rfl ?_
    obtain ⟨zg4, W⟩ := W
    refine J_l2i (pc' := 150) rfl zg4 rfl ?_
    exact J_iret rfl rfl ⟨_, rfl, W⟩
  · obtain ⟨zg5, W⟩ := W
    refine J_aload_no (pc' := 15) rfl rfl zg5 rfl ?_
    refine J_iload (pc' := 17) rfl rfl rfl ?_
    refine J_iload_n (pc' := 18) rfl rfl rfl ?_
    obtain ⟨zg6, W⟩ := W
    refine J_callI (as := [jo 1 zo0, ji zx4, ji zx2]) (rest := []) (pc' := 21) rfl rfl ax_Z_106 rfl rfl (Or.inr (Or.inr ⟨_, _, rfl, zg5⟩)) (Nat.le_of_ble_eq_true rfl) (Nat.le_of_ble_eq_true rfl) (Nat.le_of_ble_eq_true rfl) zg6 trivial trivial rfl W (fun zr8 zs7 W => ?_)
    refine J_if (P := ¬ zr8 = 0) (t := 57) (f := 24) rfl rfl rfl jc_ne W (fun W => ?_) (fun W => ?_)
    · refine J_aload_no (pc' := 58) rfl rfl zg5 rfl ?_
      obtain ⟨zg9, W⟩ := W
      refine J_getA (G := 1010) (pc' := 61) rfl rfl (Nat.le_of_ble_eq_true rfl) rfl zg5 zg9 rfl ?_
      refine J_aload_no (pc' := 62) rfl rfl zg5 rfl ?_
      obtain ⟨zg10, W⟩ := W
      refine J_getA (G := 1136) (pc' := 65) rfl rfl (Nat.le_of_ble_eq_true rfl) rfl zg5 zg10 rfl ?_
      refine J_iload (pc' := 67) rfl rfl rfl ?_
      obtain ⟨zg11, W⟩ := W
      obtain ⟨zg12, W⟩ := W
      refine J_iald (pc' := 68) rfl rfl zg11 zg12 rfl ?_
      obtain ⟨zg13, W⟩ := W
      obtain ⟨zg14, W⟩ := W
      refine J_iald (pc' := 69) rfl rfl zg13 zg14 rfl ?_
      refine J_istore (L' := [some (jo 1 zo0), none, some (ji zx2), some (ji zx3), some (ji zx4), some (ji (ra zs7 1010 zo0 (ra zs7 1136 zo0 zx4)))]) (pc' := 71) rfl (Nat.le_of_ble_eq_true rfl) rfl rfl ?_
      refine J_iload (pc' := 73) rfl rfl rfl ?_
      refine J_if (P := ¬ ra zs7 1010 zo0 (ra zs7 1136 zo0 zx4) = 0) (t := 98) (f := 76) rfl rfl rfl jc_ne W (fun W => ?_) (fun W => ?_)
      · refine J_iload (pc' := 100) rfl rfl rfl ?_
        refine J_iload_n (pc' := 101) rfl rfl rfl ?_
        refine J_icmp (P := zx3 ≤ zx4) (t := 140) (f := 104) rfl rfl rfl jc_ge W (fun W => ?_) (fun W => ?_)
        · refine J_goto (pc' := 9) rfl rfl ?_
          refine J_weak (L' := [some (jo 1 zo0), none, some (ji zx2), some (ji zx3), some (ji zx4), none]) (And.intro rfl (And.intro rfl (And.intro rfl (And.intro rfl trivial)))) ?_
          exact W
        · refine J_aload_no (pc' := 105) rfl rfl zg5 rfl ?_
          obtain ⟨zg15, W⟩ := W
          refine J_getA (G := 1142) (pc' := 108) rfl rfl (Nat.le_of_ble_eq_true rfl) rfl zg5 zg15 rfl ?_
          refine J_iload (pc' := 110) rfl rfl rfl ?_
          refine J_lconst (m := 1) (pc' := 111) rfl rfl ⟨by decide, by decide⟩ rfl ?_
          obtain ⟨zg17, W⟩ := W
          refine J_last (pc' := 112) rfl rfl (i32_d rfl) zg11 zg17 rfl (fun zs16 ezs16 => ?_)
          replace W := W zs16 ezs16
          refine J_aload_no (pc' := 113) rfl rfl zg5 rfl ?_
          obtain ⟨zg18, W⟩ := W
          refine J_getA (G := 1137) (pc' := 116) rfl rfl (Nat.le_of_ble_eq_true rfl) rfl zg5 zg18 rfl ?_
          refine J_iload (pc' := 118) rfl rfl rfl ?_
          refine J_iconst (pc' := 119) rfl (i32_d rfl) rfl ?_
          obtain ⟨zg20, W⟩ := W
          refine J_iast (pc' := 120) rfl rfl (by decide) zg11 zg20 rfl (fun zs19 ezs19 => ?_)
          replace W := W zs19 ezs19
          refine J_aload_no (pc' := 121) rfl rfl zg5 rfl ?_
          refine J_iload (pc' := 123) rfl rfl rfl ?_
          refine J_iconst (pc' := 124) rfl (i32_d rfl) rfl ?_
          obtain ⟨zg21, W⟩ := W
          refine J_iadd (pc' := 125) rfl zg21 rfl ?_
          refine J_aload_no (pc' := 126) rfl rfl zg5 rfl ?_
          obtain ⟨zg22, W⟩ := W
          refine J_getA (G := 1138) (pc' := 129) rfl rfl (Nat.le_of_ble_eq_true rfl) rfl zg5 zg22 rfl ?_
          refine J_iconst (pc' := 130) rfl (i32_d rfl) rfl ?_
          refine J_iload (pc' := 132) rfl rfl rfl ?_
          obtain ⟨zg23, W⟩ := W
          refine J_imul (pc' := 133) rfl zg23 rfl ?_
          obtain ⟨zg24, W⟩ := W
          obtain ⟨zg25, W⟩ := W
          refine J_iald (pc' := 134) rfl rfl zg24 zg25 rfl ?_
          refine J_weak (L' := [some (jo 1 zo0), none, some (ji zx2), some (ji zx3), some (ji zx4), none]) (And.intro rfl (And.intro rfl (And.intro rfl (And.intro rfl trivial)))) ?_
          refine J_callV (as := [jo 1 zo0, ji (zx4 + 1), ji (ra zs19 1138 zo0 (4 * zx4))]) (rest := []) (pc' := 137) rfl rfl ax_Z_104 rfl rfl (Or.inr (Or.inr ⟨_, _, rfl, zg5⟩)) (Nat.le_of_ble_eq_true rfl) (Nat.le_of_ble_eq_true rfl) (Nat.le_of_ble_eq_true rfl) zg6 trivial trivial rfl W (fun zs26 W => ?_)
          refine J_iinc (L' := [some (jo 1 zo0), none, some (ji zx2), some (ji zx3), some (ji (zx4 + 1)), none]) (pc' := 140) rfl rfl zg21 rfl rfl ?_
          refine J_goto (pc' := 9) rfl rfl ?_
          exact W
      · refine J_aload_no (pc' := 77) rfl rfl zg5 rfl ?_
        obtain ⟨zg28, W⟩ := W
        refine J_getA (G := 1143) (pc' := 80) rfl rfl (Nat.le_of_ble_eq_true rfl) rfl zg5 zg28 rfl ?_
        refine J_iload (pc' := 82) rfl rfl rfl ?_
        refine J_aload_no (pc' := 83) rfl rfl zg5 rfl ?_
        refine J_getA (G := 1143) (pc' := 86) rfl rfl (Nat.le_of_ble_eq_true rfl) rfl zg5 zg28 rfl ?_
        refine J_iload (pc' := 88) rfl rfl rfl ?_
        obtain ⟨zg29, W⟩ := W
        refine J_lald (pc' := 89) rfl rfl zg11 zg29 rfl ?_
        refine J_lconst (m := 1) (pc' := 90) rfl rfl ⟨by decide, by decide⟩ rfl ?_
        obtain ⟨zg30, W⟩ := W
        refine J_ladd (pc' := 91) rfl zg30 rfl ?_
        refine J_weak (L' := [some (jo 1 zo0), none, some (ji zx2), some (ji zx3), some (ji zx4), none]) (And.intro rfl (And.intro rfl (And.intro rfl (And.intro rfl trivial)))) ?_
        refine J_callL (as := [jl ((ra zs7 1143 zo0 zx4) + 1)]) (rest := [ji zx4, ja 1143 zo0]) (pc' := 94) rfl rfl ax_Z_105 rfl rfl (Or.inl rfl) (Nat.le_of_ble_eq_true rfl) (Nat.le_of_ble_eq_true rfl) (Nat.le_of_ble_eq_true rfl) zg6 trivial (And.intro rfl trivial) rfl W (fun zr32 zs31 W => ?_)
        obtain ⟨zg34, W⟩ := W
        obtain ⟨zg35, W⟩ := W
        refine J_last (pc' := 95) rfl rfl zg34 zg11 zg35 rfl (fun zs33 ezs33 => ?_)
        replace W := W zs33 ezs33
        refine J_goto (pc' := 140) rfl rfl ?_
        refine J_goto (pc' := 9) rfl rfl ?_
        exact W
    · obtain ⟨zg36, W⟩ := W
      refine J_iinc (L' := [some (jo 1 zo0), none, some (ji zx2), some (ji zx3), some (ji (zx4 + (-1))), none]) (pc' := 27) rfl rfl zg36 rfl rfl ?_
      refine J_iload (pc' := 29) rfl rfl rfl ?_
      refine J_if (P := 0 ≤ zx4 + (-1)) (t := 37) (f := 32) rfl rfl rfl jc_ge W (fun W => ?_) (fun W => ?_)
      · refine J_aload_no (pc' := 38) rfl rfl zg5 rfl ?_
        refine J_iload (pc' := 40) rfl rfl rfl ?_
        refine J_aload_no (pc' := 41) rfl rfl zg5 rfl ?_
        obtain ⟨zg37, W⟩ := W
        refine J_getA (G := 1143) (pc' := 44) rfl rfl (Nat.le_of_ble_eq_true rfl) rfl zg5 zg37 rfl ?_
        refine J_iload (pc' := 46) rfl rfl rfl ?_
        refine J_iconst (pc' := 47) rfl (i32_d rfl) rfl ?_
        obtain ⟨zg38, W⟩ := W
        refine J_iadd (pc' := 48) rfl zg38 rfl ?_
        obtain ⟨zg39, W⟩ := W
        obtain ⟨zg40, W⟩ := W
        refine J_lald (pc' := 49) rfl rfl zg39 zg40 rfl ?_
        refine J_weak (L' := [some (jo 1 zo0), none, some (ji zx2), some (ji zx3), none, none]) (And.intro rfl (And.intro rfl (And.intro rfl trivial))) ?_
        refine J_callI (as := [jo 1 zo0, ji (zx4 + (-1)), jl (ra zs7 1143 zo0 ((zx4 + (-1)) + 1))]) (rest := []) (pc' := 52) rfl rfl ax_Z_109 rfl rfl (Or.inr (Or.inr ⟨_, _, rfl, zg5⟩)) (Nat.le_of_ble_eq_true rfl) (Nat.le_of_ble_eq_true rfl) (Nat.le_of_ble_eq_true rfl) zg6 trivial trivial rfl W (fun zr42 zs41 W => ?_)
        refine J_istore (L' := [some (jo 1 zo0), none, some (ji zx2), some (ji zx3), some (ji zr42), none]) (pc' := 54) rfl (Nat.le_of_ble_eq_true rfl) rfl rfl ?_
        refine J_goto (pc' := 9) rfl rfl ?_
        exact W
      · refine J_iload (pc' := 34) rfl rfl rfl ?_
        refine J_goto (pc' := 52) rfl rfl ?_
        refine J_istore (L' := [some (jo 1 zo0), none, some (ji zx2), some (ji zx3), some (ji (zx4 + (-1))), none]) (pc' := 54) rfl (Nat.le_of_ble_eq_true rfl) rfl rfl ?_
        refine J_goto (pc' := 9) rfl rfl ?_
        exact W
theorem wp_Model_upWith {n : Nat} {σ : jS} {Q : Int → jS → Prop} {zo0 : Int} {zx1 : Int} {zx2 : Int} (W : 0 ≤ zo0 ∧ 0 ≤ rl σ 1142 zo0 ∧ 0 ≤ zx1 ∧ zx1 < rl σ 1142 zo0 ∧ i64 ((ra σ 1142 zo0 zx1) * zx2) ∧ 1 ≤ n ∧ TrL (n - 1) i_Model_least [jl ((ra σ 1142 zo0 zx1) * zx2)] σ (fun zr8 zs7 => i32 zr8 ∧ zx1 < rl zs7 1142 zo0 ∧ (∀ zs9, zs9 = wa zs7 1142 zo0 zx1 zr8 → 0 ≤ rl zs9 1137 zo0 ∧ zx1 < rl zs9 1137 zo0 ∧ i32 ((ra zs9 1137 zo0 zx1) + 1) ∧ (∀ zs15, zs15 = wa zs9 1137 zo0 zx1 ((ra zs9 1137 zo0 zx1) + 1) → 0 ≤ rl zs15 1142 zo0 ∧ zx1 < rl zs15 1142 zo0 ∧ (if lcm3 (ra zs15 1142 zo0 zx1) 0 ≤ 0 then J n c_Model_upWith (some .int) 84 [some (jo 1 zo0), some (ji zx1), none, none] [] zs15 (qI Q) else 0 ≤ rl zs15 1137 zo0 ∧ zx1 < rl zs15 1137 zo0 ∧ 0 ≤ rl zs15 1010 zo0 ∧ 0 ≤ rl zs15 1136 zo0 ∧ zx1 < rl zs15 1136 zo0 ∧ 0 ≤ ra zs15 1136 zo0 zx1 ∧ ra zs15 1136 zo0 zx1 < rl zs15 1010 zo0 ∧ (if ra zs15 1010 zo0 (ra zs15 1136 zo0 zx1) ≤ ra zs15 1137 zo0 zx1 then J n c_Model_upWith (some .int) 84 [some (jo 1 zo0), some (ji zx1), none, none] [] zs15 (qI Q) else i32 (zx1 + 1) ∧ 0 ≤ rl zs15 1138 zo0 ∧ i32 (4 * zx1) ∧ i32 ((4 * zx1) + (ra zs15 1137 zo0 zx1)) ∧ 0 ≤ (4 * zx1) + (ra zs15 1137 zo0 zx1) ∧ (4 * zx1) + (ra zs15 1137 zo0 zx1) < rl zs15 1138 zo0 ∧ TrV (n - 1) i_Model_openValue [jo 1 zo0, ji (zx1 + 1), ji (ra zs15 1138 zo0 ((4 * zx1) + (ra zs15 1137 zo0 zx1)))] zs15 (fun zs31 => Q (zx1 + 1) zs31))))))) : TrI n i_Model_upWith [jo 1 zo0, ji zx1, jl zx2] σ Q := by
  refine Tr_of ax_Z_109 ?_
  show J n c_Model_upWith (some .int) 0 [some (jo 1 zo0), some (ji zx1), some (jl zx2), none] [] σ (qI Q)
  obtain ⟨zg1, W⟩ := W
  refine J_aload_no (pc' := 1) rfl rfl zg1 rfl ?_
  obtain ⟨zg2, W⟩ := W
  refine J_getA (G := 1142) (pc' := 4) rfl rfl (Nat.le_of_ble_eq_true rfl) rfl zg1 zg2 rfl ?_
  refine J_iload_n (pc' := 5) rfl rfl rfl ?_
  refine J_aload_no (pc' := 6) rfl rfl zg1 rfl ?_
  refine J_getA (G := 1142) (pc' := 9) rfl rfl (Nat.le_of_ble_eq_true rfl) rfl zg1 zg2 rfl ?_
  refine J_iload_n (pc' := 10) rfl rfl rfl ?_
  obtain ⟨zg3, W⟩ := W
  obtain ⟨zg4, W⟩ := W
  refine J_lald (pc' := 11) rfl rfl zg3 zg4 rfl ?_
  refine J_lload_n (pc' := 12) rfl rfl rfl ?_
  obtain ⟨zg5, W⟩ := W
  refine J_lmul (pc' := 13) rfl zg5 rfl ?_
  obtain ⟨zg6, W⟩ := W
  refine J_weak (L' := [some (jo 1 zo0), some (ji zx1), none, none]) (And.intro rfl (And.intro rfl trivial)) ?_
  refine J_callL (as := [jl ((ra σ 1142 zo0 zx1) * zx2)]) (rest := [ji zx1, ja 1142 zo0]) (pc' := 16) rfl rfl ax_Z_105 rfl rfl (Or.inl rfl) (Nat.le_of_ble_eq_true rfl) (Nat.le_of_ble_eq_true rfl) (Nat.le_of_ble_eq_true rfl) zg6 trivial (And.intro rfl trivial) rfl W (fun zr8 zs7 W => ?_)
  obtain ⟨zg10, W⟩ := W
  obtain ⟨zg11, W⟩ := W
  refine J_last (pc' := 17) rfl rfl zg10 zg3 zg11 rfl (fun zs9 ezs9 => ?_)
  replace W := W zs9 ezs9
  refine J_aload_no (pc' := 18) rfl rfl zg1 rfl ?_
  obtain ⟨zg12, W⟩ := W
  refine J_getA (G := 1137) (pc' := 21) rfl rfl (Nat.le_of_ble_eq_true rfl) rfl zg1 zg12 rfl ?_
  refine J_iload_n (pc' := 22) rfl rfl rfl ?_
  refine J_dup2 (pc' := 23) rfl rfl rfl rfl ?_
  obtain ⟨zg13, W⟩ := W
  refine J_iald (pc' := 24) rfl rfl zg3 zg13 rfl ?_
  refine J_iconst (pc' := 25) rfl (i32_d rfl) rfl ?_
  obtain ⟨zg14, W⟩ := W
  refine J_iadd (pc' := 26) rfl zg14 rfl ?_
  refine J_iast (pc' := 27) rfl rfl (by decide) zg3 zg13 rfl (fun zs15 ezs15 => ?_)
  replace W := W zs15 ezs15
  refine J_aload_no (pc' := 28) rfl rfl zg1 rfl ?_
  obtain ⟨zg16, W⟩ := W
  refine J_getA (G := 1142) (pc' := 31) rfl rfl (Nat.le_of_ble_eq_true rfl) rfl zg1 zg16 rfl ?_
  refine J_iload_n (pc' := 32) rfl rfl rfl ?_
  obtain ⟨zg17, W⟩ := W
  refine J_lald (pc' := 33) rfl rfl zg3 zg17 rfl ?_
  refine J_lconst (m := 0) (pc' := 34) rfl rfl ⟨by decide, by decide⟩ rfl ?_
  refine J_lcmp (pc' := 35) rfl rfl ?_
  refine J_if (P := lcm3 (ra zs15 1142 zo0 zx1) 0 ≤ 0) (t := 84) (f := 38) rfl rfl rfl jc_le W (fun W => ?_) (fun W => ?_)
  · exact W
  · refine J_aload_no (pc' := 39) rfl rfl zg1 rfl ?_
    obtain ⟨zg18, W⟩ := W
    refine J_getA (G := 1137) (pc' := 42) rfl rfl (Nat.le_of_ble_eq_true rfl) rfl zg1 zg18 rfl ?_
    refine J_iload_n (pc' := 43) rfl rfl rfl ?_
    obtain ⟨zg19, W⟩ := W
    refine J_iald (pc' := 44) rfl rfl zg3 zg19 rfl ?_
    refine J_aload_no (pc' := 45) rfl rfl zg1 rfl ?_
    obtain ⟨zg20, W⟩ := W
    refine J_getA (G := 1010) (pc' := 48) rfl rfl (Nat.le_of_ble_eq_true rfl) rfl zg1 zg20 rfl ?_
    refine J_aload_no (pc' := 49) rfl rfl zg1 rfl ?_
    obtain ⟨zg21, W⟩ := W
    refine J_getA (G := 1136) (pc' := 52) rfl rfl (Nat.le_of_ble_eq_true rfl) rfl zg1 zg21 rfl ?_
    refine J_iload_n (pc' := 53) rfl rfl rfl ?_
    obtain ⟨zg22, W⟩ := W
    refine J_iald (pc' := 54) rfl rfl zg3 zg22 rfl ?_
    obtain ⟨zg23, W⟩ := W
    obtain ⟨zg24, W⟩ := W
    refine J_iald (pc' := 55) rfl rfl zg23 zg24 rfl ?_
    refine J_icmp (P := ra zs15 1010 zo0 (ra zs15 1136 zo0 zx1) ≤ ra zs15 1137 zo0 zx1) (t := 84) (f := 58) rfl rfl rfl jc_ge W (fun W => ?_) (fun W => ?_)
    · exact W
    · refine J_aload_no (pc' := 59) rfl rfl zg1 rfl ?_
      refine J_iload_n (pc' := 60) rfl rfl rfl ?_
      refine J_iconst (pc' := 61) rfl (i32_d rfl) rfl ?_
      obtain ⟨zg25, W⟩ := W
      refine J_iadd (pc' := 62) rfl zg25 rfl ?_
      refine J_aload_no (pc' := 63) rfl rfl zg1 rfl ?_
      obtain ⟨zg26, W⟩ := W
      refine J_getA (G := 1138) (pc' := 66) rfl rfl (Nat.le_of_ble_eq_true rfl) rfl zg1 zg26 rfl ?_
      refine J_iconst (pc' := 67) rfl (i32_d rfl) rfl ?_
      refine J_iload_n (pc' := 68) rfl rfl rfl ?_
      obtain ⟨zg27, W⟩ := W
      refine J_imul (pc' := 69) rfl zg27 rfl ?_
      refine J_aload_no (pc' := 70) rfl rfl zg1 rfl ?_
      refine J_getA (G := 1137) (pc' := 73) rfl rfl (Nat.le_of_ble_eq_true rfl) rfl zg1 zg18 rfl ?_
      refine J_iload_n (pc' := 74) rfl rfl rfl ?_
      refine J_iald (pc' := 75) rfl rfl zg3 zg19 rfl ?_
      obtain ⟨zg28, W⟩ := W
      refine J_iadd (pc' := 76) rfl zg28 rfl ?_
      obtain ⟨zg29, W⟩ := W
      obtain ⟨zg30, W⟩ := W
      refine J_iald (pc' := 77) rfl rfl zg29 zg30 rfl ?_
      refine J_weak (L' := [none, some (ji zx1), none, none]) (And.intro rfl trivial) ?_
      refine J_callV (as := [jo 1 zo0, ji (zx1 + 1), ji (ra zs15 1138 zo0 ((4 * zx1) + (ra zs15 1137 zo0 zx1)))]) (rest := []) (pc' := 80) rfl rfl ax_Z_104 rfl rfl (Or.inr (Or.inr ⟨_, _, rfl, zg1⟩)) (Nat.le_of_ble_eq_true rfl) (Nat.le_of_ble_eq_true rfl) (Nat.le_of_ble_eq_true rfl) zg6 trivial trivial rfl W (fun zs31 W => ?_)
      refine J_iload_n (pc' := 81) rfl rfl rfl ?_
      refine J_iconst (pc' := 82) rfl (i32_d rfl) rfl ?_
      refine J_iadd (pc' := 83) rfl zg25 rfl ?_
      exact J_iret rfl rfl ⟨_, rfl, W⟩
theorem wp_Model_upWith_84 {n : Nat} {σ : jS} {Q : Int → jS → Prop} {zo0 : Int} {zx1 : Int} (W : 0 ≤ zo0 ∧ 0 ≤ rl σ 1143 zo0 ∧ 0 ≤ zx1 ∧ zx1 < rl σ 1143 zo0 ∧ 0 ≤ rl σ 1142 zo0 ∧ zx1 < rl σ 1142 zo0 ∧ i64 ((ra σ 1143 zo0 zx1) + (ra σ 1142 zo0 zx1)) ∧ 1 ≤ n ∧ TrL (n - 1) i_Model_least [jl ((ra σ 1143 zo0 zx1) + (ra σ 1142 zo0 zx1))] σ (fun zr10 zs9 => i32 zr10 ∧ zx1 < rl zs9 1143 zo0 ∧ (∀ zs11, zs11 = wa zs9 1143 zo0 zx1 zr10 → Q zx1 zs11))) : J n c_Model_upWith (some .int) 84 [some (jo 1 zo0), some (ji zx1), none, none] [] σ (qI Q) := by
  obtain ⟨zg1, W⟩ := W
  refine J_aload_no (pc' := 85) rfl rfl zg1 rfl ?_
  obtain ⟨zg2, W⟩ := W
  refine J_getA (G := 1143) (pc' := 88) rfl rfl (Nat.le_of_ble_eq_true rfl) rfl zg1 zg2 rfl ?_
  refine J_iload_n (pc' := 89) rfl rfl rfl ?_
  refine J_aload_no (pc' := 90) rfl rfl zg1 rfl ?_
  refine J_getA (G := 1143) (pc' := 93) rfl rfl (Nat.le_of_ble_eq_true rfl) rfl zg1 zg2 rfl ?_
  refine J_iload_n (pc' := 94) rfl rfl rfl ?_
  obtain ⟨zg3, W⟩ := W
  obtain ⟨zg4, W⟩ := W
  refine J_lald (pc' := 95) rfl rfl zg3 zg4 rfl ?_
  refine J_aload_no (pc' := 96) rfl rfl zg1 rfl ?_
  obtain ⟨zg5, W⟩ := W
  refine J_getA (G := 1142) (pc' := 99) rfl rfl (Nat.le_of_ble_eq_true rfl) rfl zg1 zg5 rfl ?_
  refine J_iload_n (pc' := 100) rfl rfl rfl ?_
  obtain ⟨zg6, W⟩ := W
  refine J_lald (pc' := 101) rfl rfl zg3 zg6 rfl ?_
  obtain ⟨zg7, W⟩ := W
  refine J_ladd (pc' := 102) rfl zg7 rfl ?_
  obtain ⟨zg8, W⟩ := W
  refine J_weak (L' := [none, some (ji zx1), none, none]) (And.intro rfl trivial) ?_
  refine J_callL (as := [jl ((ra σ 1143 zo0 zx1) + (ra σ 1142 zo0 zx1))]) (rest := [ji zx1, ja 1143 zo0]) (pc' := 105) rfl rfl ax_Z_105 rfl rfl (Or.inl rfl) (Nat.le_of_ble_eq_true rfl) (Nat.le_of_ble_eq_true rfl) (Nat.le_of_ble_eq_true rfl) zg8 trivial (And.intro rfl trivial) rfl W (fun zr10 zs9 W => ?_)
  obtain ⟨zg12, W⟩ := W
  obtain ⟨zg13, W⟩ := W
  refine J_last (pc' := 106) rfl rfl zg12 zg3 zg13 rfl (fun zs11 ezs11 => ?_)
  replace W := W zs11 ezs11
  refine J_iload_n (pc' := 107) rfl rfl rfl ?_
  exact J_iret rfl rfl ⟨_, rfl, W⟩
theorem wp_Model_values {n : Nat} {σ : jS} {Q : Int → jS → Prop} {zo0 : Int} {zx1 : Int} {zx2 : Int} {zx3 : Int} (W : 1 ≤ n ∧ TrI (n - 1) i_Model_isTold [ji zx1] σ (fun zr3 zs2 => (if zr3 = 0 then Q (-1) zs2 else 0 ≤ zo0 ∧ TrI (n - 1) i_Model_isScope [jo 1 zo0, ji zx2] zs2 (fun zr6 zs5 => (if zr6 = 0 then Q (-1) zs5 else TrI (n - 1) i_Model_isIn [ji zx3, ji 0, ji 3] zs5 (fun zr8 zs7 => (if ¬ zr8 = 0 then i32 (12 * zx1) ∧ J n c_Model_values (some .int) 32 [some (jo 1 zo0), some (ji zx1), some (ji zx2), some (ji zx3), some (ji (12 * zx1)), none] [] zs7 (qI Q) else Q (-1) zs7))))))) : TrI n i_Model_values [jo 1 zo0, ji zx1, ji zx2, ji zx3] σ Q := by
  refine Tr_of ax_Z_110 ?_
  show J n c_Model_values (some .int) 0 [some (jo 1 zo0), some (ji zx1), some (ji zx2), some (ji zx3), none, none] [] σ (qI Q)
  refine J_iload_n (pc' := 1) rfl rfl rfl ?_
  obtain ⟨zg1, W⟩ := W
  refine J_callI (as := [ji zx1]) (rest := []) (pc' := 4) rfl rfl ax_Z_97 rfl rfl (Or.inl rfl) (Nat.le_of_ble_eq_true rfl) (Nat.le_of_ble_eq_true rfl) (Nat.le_of_ble_eq_true rfl) zg1 trivial trivial rfl W (fun zr3 zs2 W => ?_)
  refine J_if (P := zr3 = 0) (t := 24) (f := 7) rfl rfl rfl jc_eq W (fun W => ?_) (fun W => ?_)
  · refine J_iconst (pc' := 25) rfl (i32_d rfl) rfl ?_
    exact J_iret rfl rfl ⟨_, rfl, W⟩
  · obtain ⟨zg4, W⟩ := W
    refine J_aload_no (pc' := 8) rfl rfl zg4 rfl ?_
    refine J_iload_n (pc' := 9) rfl rfl rfl ?_
    refine J_callI (as := [jo 1 zo0, ji zx2]) (rest := []) (pc' := 12) rfl rfl ax_Z_24 rfl rfl (Or.inr (Or.inr ⟨_, _, rfl, zg4⟩)) (Nat.le_of_ble_eq_true rfl) (Nat.le_of_ble_eq_true rfl) (Nat.le_of_ble_eq_true rfl) zg1 trivial trivial rfl W (fun zr6 zs5 W => ?_)
    refine J_if (P := zr6 = 0) (t := 24) (f := 15) rfl rfl rfl jc_eq W (fun W => ?_) (fun W => ?_)
    · refine J_iconst (pc' := 25) rfl (i32_d rfl) rfl ?_
      exact J_iret rfl rfl ⟨_, rfl, W⟩
    · refine J_iload_n (pc' := 16) rfl rfl rfl ?_
      refine J_iconst (pc' := 17) rfl (i32_d rfl) rfl ?_
      refine J_iconst (pc' := 18) rfl (i32_d rfl) rfl ?_
      refine J_callI (as := [ji zx3, ji 0, ji 3]) (rest := []) (pc' := 21) rfl rfl ax_Z_0 rfl rfl (Or.inl rfl) (Nat.le_of_ble_eq_true rfl) (Nat.le_of_ble_eq_true rfl) (Nat.le_of_ble_eq_true rfl) zg1 trivial trivial rfl W (fun zr8 zs7 W => ?_)
      refine J_if (P := ¬ zr8 = 0) (t := 26) (f := 24) rfl rfl rfl jc_ne W (fun W => ?_) (fun W => ?_)
      · refine J_bipush (pc' := 28) rfl (by decide) (by decide) rfl ?_
        refine J_iload_n (pc' := 29) rfl rfl rfl ?_
        obtain ⟨zg9, W⟩ := W
        refine J_imul (pc' := 30) rfl zg9 rfl ?_
        refine J_istore (L' := [some (jo 1 zo0), some (ji zx1), some (ji zx2), some (ji zx3), some (ji (12 * zx1)), none]) (pc' := 32) rfl (Nat.le_of_ble_eq_true rfl) rfl rfl ?_
        exact W
      · refine J_iconst (pc' := 25) rfl (i32_d rfl) rfl ?_
        exact J_iret rfl rfl ⟨_, rfl, W⟩
theorem wp_Model_values_32 {n : Nat} {σ : jS} {Q : Int → jS → Prop} {zo0 : Int} {zx1 : Int} {zx2 : Int} {zx3 : Int} {zx4 : Int} (W : i32 (12 * zx1) ∧ 0 ≤ zo0 ∧ 0 ≤ rl σ 1047 zo0 ∧ 0 ≤ zx1 ∧ zx1 < rl σ 1047 zo0 ∧ i32 ((12 * zx1) + (ra σ 1047 zo0 zx1)) ∧ (if (12 * zx1) + (ra σ 1047 zo0 zx1) ≤ zx4 then 1 ≤ n ∧ TrI (n - 1) i_Model_allAround [jo 1 zo0, ji zx2] σ (fun zr9 zs8 => J n c_Model_values (some .int) 76 [some (jo 1 zo0), some (ji zx1), none, some (ji zx3), some (ji zr9), some (ji 0)] [] zs8 (qI Q)) else 0 ≤ rl σ 1046 zo0 ∧ 0 ≤ zx4 ∧ zx4 < rl σ 1046 zo0 ∧ (if 0 ≤ ra σ 1046 zo0 zx4 then i32 (zx4 + 1) ∧ J n c_Model_values (some .int) 32 [some (jo 1 zo0), some (ji zx1), some (ji zx2), some (ji zx3), some (ji (zx4 + 1)), none] [] σ (qI Q) else Q (-1) σ))) : J n c_Model_values (some .int) 32 [some (jo 1 zo0), some (ji zx1), some (ji zx2), some (ji zx3), some (ji zx4), none] [] σ (qI Q) := by
  refine J_iload (pc' := 34) rfl rfl rfl ?_
  refine J_bipush (pc' := 36) rfl (by decide) (by decide) rfl ?_
  refine J_iload_n (pc' := 37) rfl rfl rfl ?_
  obtain ⟨zg1, W⟩ := W
  refine J_imul (pc' := 38) rfl zg1 rfl ?_
  obtain ⟨zg2, W⟩ := W
  refine J_aload_no (pc' := 39) rfl rfl zg2 rfl ?_
  obtain ⟨zg3, W⟩ := W
  refine J_getA (G := 1047) (pc' := 42) rfl rfl (Nat.le_of_ble_eq_true rfl) rfl zg2 zg3 rfl ?_
  refine J_iload_n (pc' := 43) rfl rfl rfl ?_
  obtain ⟨zg4, W⟩ := W
  obtain ⟨zg5, W⟩ := W
  refine J_iald (pc' := 44) rfl rfl zg4 zg5 rfl ?_
  obtain ⟨zg6, W⟩ := W
  refine J_iadd (pc' := 45) rfl zg6 rfl ?_
  refine J_icmp (P := (12 * zx1) + (ra σ 1047 zo0 zx1) ≤ zx4) (t := 66) (f := 48) rfl rfl rfl jc_ge W (fun W => ?_) (fun W => ?_)
  · refine J_aload_no (pc' := 67) rfl rfl zg2 rfl ?_
    refine J_iload_n (pc' := 68) rfl rfl rfl ?_
    obtain ⟨zg7, W⟩ := W
    refine J_weak (L' := [some (jo 1 zo0), some (ji zx1), none, some (ji zx3), none, none]) (And.intro rfl (And.intro rfl (And.intro rfl trivial))) ?_
    refine J_callI (as := [jo 1 zo0, ji zx2]) (rest := []) (pc' := 71) rfl rfl ax_Z_103 rfl rfl (Or.inr (Or.inr ⟨_, _, rfl, zg2⟩)) (Nat.le_of_ble_eq_true rfl) (Nat.le_of_ble_eq_true rfl) (Nat.le_of_ble_eq_true rfl) zg7 trivial trivial rfl W (fun zr9 zs8 W => ?_)
    refine J_istore (L' := [some (jo 1 zo0), some (ji zx1), none, some (ji zx3), some (ji zr9), none]) (pc' := 73) rfl (Nat.le_of_ble_eq_true rfl) rfl rfl ?_
    refine J_iconst (pc' := 74) rfl (i32_d rfl) rfl ?_
    refine J_istore (L' := [some (jo 1 zo0), some (ji zx1), none, some (ji zx3), some (ji zr9), some (ji 0)]) (pc' := 76) rfl (Nat.le_of_ble_eq_true rfl) rfl rfl ?_
    exact W
  · refine J_aload_no (pc' := 49) rfl rfl zg2 rfl ?_
    obtain ⟨zg10, W⟩ := W
    refine J_getA (G := 1046) (pc' := 52) rfl rfl (Nat.le_of_ble_eq_true rfl) rfl zg2 zg10 rfl ?_
    refine J_iload (pc' := 54) rfl rfl rfl ?_
    obtain ⟨zg11, W⟩ := W
    obtain ⟨zg12, W⟩ := W
    refine J_iald (pc' := 55) rfl rfl zg11 zg12 rfl ?_
    refine J_if (P := 0 ≤ ra σ 1046 zo0 zx4) (t := 60) (f := 58) rfl rfl rfl jc_ge W (fun W => ?_) (fun W => ?_)
    · obtain ⟨zg13, W⟩ := W
      refine J_iinc (L' := [some (jo 1 zo0), some (ji zx1), some (ji zx2), some (ji zx3), some (ji (zx4 + 1)), none]) (pc' := 63) rfl rfl zg13 rfl rfl ?_
      refine J_goto (pc' := 32) rfl rfl ?_
      exact W
    · refine J_iconst (pc' := 59) rfl (i32_d rfl) rfl ?_
      exact J_iret rfl rfl ⟨_, rfl, W⟩
theorem wp_Model_values_76 {n : Nat} {σ : jS} {Q : Int → jS → Prop} {zo0 : Int} {zx1 : Int} {zx3 : Int} {zx4 : Int} {zx5 : Int} (W : 0 ≤ zo0 ∧ (if rs σ 1014 zo0 ≤ zx5 then 1 ≤ n ∧ TrV (n - 1) i_Model_beginHeap [jo 1 zo0] σ (fun zs3 => TrV (n - 1) i_Model_newUnknowns [jo 1 zo0] zs3 (fun zs5 => 0 ≤ rl zs5 1046 zo0 ∧ i32 (12 * zx1) ∧ 0 ≤ rl zs5 1047 zo0 ∧ 0 ≤ zx1 ∧ zx1 < rl zs5 1047 zo0 ∧ TrI (n - 1) i_Model_layRow [jo 1 zo0, ja 1046 zo0, ji (12 * zx1), ji (ra zs5 1047 zo0 zx1)] zs5 (fun zr13 zs12 => TrI (n - 1) i_Model_valuesOf [jo 1 zo0, ji zr13, ji zx4, ji zx3] zs12 (fun zr15 zs14 => Q zr15 zs14)))) else 1 ≤ n ∧ TrI (n - 1) i_Model_has [ji zx4, ji zx5] σ (fun zr18 zs17 => (if zr18 = 0 then i32 (zx5 + 1) ∧ J n c_Model_values (some .int) 76 [some (jo 1 zo0), some (ji zx1), none, some (ji zx3), some (ji zx4), some (ji (zx5 + 1))] [] zs17 (qI Q) else TrI (n - 1) i_Model_needsVars [jo 1 zo0, ji zx5] zs17 (fun zr21 zs20 => (if zr21 ≤ 0 then i32 (zx5 + 1) ∧ J n c_Model_values (some .int) 76 [some (jo 1 zo0), some (ji zx1), none, some (ji zx3), some (ji zx4), some (ji (zx5 + 1))] [] zs20 (qI Q) else Q (-2) zs20)))))) : J n c_Model_values (some .int) 76 [some (jo 1 zo0), some (ji zx1), none, some (ji zx3), some (ji zx4), some (ji zx5)] [] σ (qI Q) := by
  refine J_iload (pc' := 78) rfl rfl rfl ?_
  obtain ⟨zg1, W⟩ := W
  refine J_aload_no (pc' := 79) rfl rfl zg1 rfl ?_
  refine J_getI (G := 1014) (pc' := 82) rfl rfl (Nat.le_of_ble_eq_true rfl) rfl zg1 rfl ?_
  refine J_icmp (P := rs σ 1014 zo0 ≤ zx5) (t := 113) (f := 85) rfl rfl rfl jc_ge W (fun W => ?_) (fun W => ?_)
  · refine J_aload_no (pc' := 114) rfl rfl zg1 rfl ?_
    obtain ⟨zg2, W⟩ := W
    refine J_weak (L' := [some (jo 1 zo0), some (ji zx1), none, some (ji zx3), some (ji zx4), none]) (And.intro rfl (And.intro rfl (And.intro rfl (And.intro rfl trivial)))) ?_
    refine J_callV (as := [jo 1 zo0]) (rest := []) (pc' := 117) rfl rfl ax_Z_39 rfl rfl (Or.inr (Or.inr ⟨_, _, rfl, zg1⟩)) (Nat.le_of_ble_eq_true rfl) (Nat.le_of_ble_eq_true rfl) (Nat.le_of_ble_eq_true rfl) zg2 trivial trivial rfl W (fun zs3 W => ?_)
    refine J_aload_no (pc' := 118) rfl rfl zg1 rfl ?_
    refine J_callV (as := [jo 1 zo0]) (rest := []) (pc' := 121) rfl rfl ax_Z_41 rfl rfl (Or.inr (Or.inr ⟨_, _, rfl, zg1⟩)) (Nat.le_of_ble_eq_true rfl) (Nat.le_of_ble_eq_true rfl) (Nat.le_of_ble_eq_true rfl) zg2 trivial trivial rfl W (fun zs5 W => ?_)
    refine J_aload_no (pc' := 122) rfl rfl zg1 rfl ?_
    refine J_aload_no (pc' := 123) rfl rfl zg1 rfl ?_
    refine J_aload_no (pc' := 124) rfl rfl zg1 rfl ?_
    obtain ⟨zg7, W⟩ := W
    refine J_getA (G := 1046) (pc' := 127) rfl rfl (Nat.le_of_ble_eq_true rfl) rfl zg1 zg7 rfl ?_
    refine J_bipush (pc' := 129) rfl (by decide) (by decide) rfl ?_
    refine J_iload_n (pc' := 130) rfl rfl rfl ?_
    obtain ⟨zg8, W⟩ := W
    refine J_imul (pc' := 131) rfl zg8 rfl ?_
    refine J_aload_no (pc' := 132) rfl rfl zg1 rfl ?_
    obtain ⟨zg9, W⟩ := W
    refine J_getA (G := 1047) (pc' := 135) rfl rfl (Nat.le_of_ble_eq_true rfl) rfl zg1 zg9 rfl ?_
    refine J_iload_n (pc' := 136) rfl rfl rfl ?_
    obtain ⟨zg10, W⟩ := W
    obtain ⟨zg11, W⟩ := W
    refine J_iald (pc' := 137) rfl rfl zg10 zg11 rfl ?_
    refine J_weak (L' := [none, none, none, some (ji zx3), some (ji zx4), none]) (And.intro rfl (And.intro rfl trivial)) ?_
    refine J_callI (as := [jo 1 zo0, ja 1046 zo0, ji (12 * zx1), ji (ra zs5 1047 zo0 zx1)]) (rest := [jo 1 zo0]) (pc' := 140) rfl rfl ax_Z_42 rfl rfl (Or.inr (Or.inr ⟨_, _, rfl, zg1⟩)) (Nat.le_of_ble_eq_true rfl) (Nat.le_of_ble_eq_true rfl) (Nat.le_of_ble_eq_true rfl) zg2 trivial trivial rfl W (fun zr13 zs12 W => ?_)
    refine J_iload (pc' := 142) rfl rfl rfl ?_
    refine J_iload_n (pc' := 143) rfl rfl rfl ?_
    refine J_weak (L' := [none, none, none, none, none, none]) trivial ?_
    refine J_callI (as := [jo 1 zo0, ji zr13, ji zx4, ji zx3]) (rest := []) (pc' := 146) rfl rfl ax_Z_108 rfl rfl (Or.inr (Or.inr ⟨_, _, rfl, zg1⟩)) (Nat.le_of_ble_eq_true rfl) (Nat.le_of_ble_eq_true rfl) (Nat.le_of_ble_eq_true rfl) zg2 trivial trivial rfl W (fun zr15 zs14 W => ?_)
    exact J_iret rfl rfl ⟨_, rfl, W⟩
  · refine J_iload (pc' := 87) rfl rfl rfl ?_
    refine J_iload (pc' := 89) rfl rfl rfl ?_
    obtain ⟨zg16, W⟩ := W
    refine J_callI (as := [ji zx4, ji zx5]) (rest := []) (pc' := 92) rfl rfl ax_Z_1 rfl rfl (Or.inl rfl) (Nat.le_of_ble_eq_true rfl) (Nat.le_of_ble_eq_true rfl) (Nat.le_of_ble_eq_true rfl) zg16 trivial trivial rfl W (fun zr18 zs17 W => ?_)
    refine J_if (P := zr18 = 0) (t := 107) (f := 95) rfl rfl rfl jc_eq W (fun W => ?_) (fun W => ?_)
    · obtain ⟨zg19, W⟩ := W
      refine J_iinc (L' := [some (jo 1 zo0), some (ji zx1), none, some (ji zx3), some (ji zx4), some (ji (zx5 + 1))]) (pc' := 110) rfl rfl zg19 rfl rfl ?_
      refine J_goto (pc' := 76) rfl rfl ?_
      exact W
    · refine J_aload_no (pc' := 96) rfl rfl zg1 rfl ?_
      refine J_iload (pc' := 98) rfl rfl rfl ?_
      refine J_callI (as := [jo 1 zo0, ji zx5]) (rest := []) (pc' := 101) rfl rfl ax_Z_30 rfl rfl (Or.inr (Or.inr ⟨_, _, rfl, zg1⟩)) (Nat.le_of_ble_eq_true rfl) (Nat.le_of_ble_eq_true rfl) (Nat.le_of_ble_eq_true rfl) zg16 trivial trivial rfl W (fun zr21 zs20 W => ?_)
      refine J_if (P := zr21 ≤ 0) (t := 107) (f := 104) rfl rfl rfl jc_le W (fun W => ?_) (fun W => ?_)
      · obtain ⟨zg22, W⟩ := W
        refine J_iinc (L' := [some (jo 1 zo0), some (ji zx1), none, some (ji zx3), some (ji zx4), some (ji (zx5 + 1))]) (pc' := 110) rfl rfl zg22 rfl rfl ?_
        refine J_goto (pc' := 76) rfl rfl ?_
        exact W
      · refine J_bipush (pc' := 106) rfl (by decide) (by decide) rfl ?_
        exact J_iret rfl rfl ⟨_, rfl, W⟩
theorem wp_Integer_bitCount {n : Nat} {σ : jS} {Q : Int → jS → Prop} {zx0 : Int} (W : i32 (zx0 - (bAnd (bUsh zx0 1) 1431655765)) ∧ i32 ((bAnd (zx0 - (bAnd (bUsh zx0 1) 1431655765)) 858993459) + (bAnd (bUsh (zx0 - (bAnd (bUsh zx0 1) 1431655765)) 2) 858993459)) ∧ i32 (((bAnd (zx0 - (bAnd (bUsh zx0 1) 1431655765)) 858993459) + (bAnd (bUsh (zx0 - (bAnd (bUsh zx0 1) 1431655765)) 2) 858993459)) + (bUsh ((bAnd (zx0 - (bAnd (bUsh zx0 1) 1431655765)) 858993459) + (bAnd (bUsh (zx0 - (bAnd (bUsh zx0 1) 1431655765)) 2) 858993459)) 4)) ∧ i32 ((bAnd (((bAnd (zx0 - (bAnd (bUsh zx0 1) 1431655765)) 858993459) + (bAnd (bUsh (zx0 - (bAnd (bUsh zx0 1) 1431655765)) 2) 858993459)) + (bUsh ((bAnd (zx0 - (bAnd (bUsh zx0 1) 1431655765)) 858993459) + (bAnd (bUsh (zx0 - (bAnd (bUsh zx0 1) 1431655765)) 2) 858993459)) 4)) 252645135) + (bUsh (bAnd (((bAnd (zx0 - (bAnd (bUsh zx0 1) 1431655765)) 858993459) + (bAnd (bUsh (zx0 - (bAnd (bUsh zx0 1) 1431655765)) 2) 858993459)) + (bUsh ((bAnd (zx0 - (bAnd (bUsh zx0 1) 1431655765)) 858993459) + (bAnd (bUsh (zx0 - (bAnd (bUsh zx0 1) 1431655765)) 2) 858993459)) 4)) 252645135) 8)) ∧ i32 (((bAnd (((bAnd (zx0 - (bAnd (bUsh zx0 1) 1431655765)) 858993459) + (bAnd (bUsh (zx0 - (bAnd (bUsh zx0 1) 1431655765)) 2) 858993459)) + (bUsh ((bAnd (zx0 - (bAnd (bUsh zx0 1) 1431655765)) 858993459) + (bAnd (bUsh (zx0 - (bAnd (bUsh zx0 1) 1431655765)) 2) 858993459)) 4)) 252645135) + (bUsh (bAnd (((bAnd (zx0 - (bAnd (bUsh zx0 1) 1431655765)) 858993459) + (bAnd (bUsh (zx0 - (bAnd (bUsh zx0 1) 1431655765)) 2) 858993459)) + (bUsh ((bAnd (zx0 - (bAnd (bUsh zx0 1) 1431655765)) 858993459) + (bAnd (bUsh (zx0 - (bAnd (bUsh zx0 1) 1431655765)) 2) 858993459)) 4)) 252645135) 8)) + (bUsh ((bAnd (((bAnd (zx0 - (bAnd (bUsh zx0 1) 1431655765)) 858993459) + (bAnd (bUsh (zx0 - (bAnd (bUsh zx0 1) 1431655765)) 2) 858993459)) + (bUsh ((bAnd (zx0 - (bAnd (bUsh zx0 1) 1431655765)) 858993459) + (bAnd (bUsh (zx0 - (bAnd (bUsh zx0 1) 1431655765)) 2) 858993459)) 4)) 252645135) + (bUsh (bAnd (((bAnd (zx0 - (bAnd (bUsh zx0 1) 1431655765)) 858993459) + (bAnd (bUsh (zx0 - (bAnd (bUsh zx0 1) 1431655765)) 2) 858993459)) + (bUsh ((bAnd (zx0 - (bAnd (bUsh zx0 1) 1431655765)) 858993459) + (bAnd (bUsh (zx0 - (bAnd (bUsh zx0 1) 1431655765)) 2) 858993459)) 4)) 252645135) 8)) 16)) ∧ Q (bAnd (((bAnd (((bAnd (zx0 - (bAnd (bUsh zx0 1) 1431655765)) 858993459) + (bAnd (bUsh (zx0 - (bAnd (bUsh zx0 1) 1431655765)) 2) 858993459)) + (bUsh ((bAnd (zx0 - (bAnd (bUsh zx0 1) 1431655765)) 858993459) + (bAnd (bUsh (zx0 - (bAnd (bUsh zx0 1) 1431655765)) 2) 858993459)) 4)) 252645135) + (bUsh (bAnd (((bAnd (zx0 - (bAnd (bUsh zx0 1) 1431655765)) 858993459) + (bAnd (bUsh (zx0 - (bAnd (bUsh zx0 1) 1431655765)) 2) 858993459)) + (bUsh ((bAnd (zx0 - (bAnd (bUsh zx0 1) 1431655765)) 858993459) + (bAnd (bUsh (zx0 - (bAnd (bUsh zx0 1) 1431655765)) 2) 858993459)) 4)) 252645135) 8)) + (bUsh ((bAnd (((bAnd (zx0 - (bAnd (bUsh zx0 1) 1431655765)) 858993459) + (bAnd (bUsh (zx0 - (bAnd (bUsh zx0 1) 1431655765)) 2) 858993459)) + (bUsh ((bAnd (zx0 - (bAnd (bUsh zx0 1) 1431655765)) 858993459) + (bAnd (bUsh (zx0 - (bAnd (bUsh zx0 1) 1431655765)) 2) 858993459)) 4)) 252645135) + (bUsh (bAnd (((bAnd (zx0 - (bAnd (bUsh zx0 1) 1431655765)) 858993459) + (bAnd (bUsh (zx0 - (bAnd (bUsh zx0 1) 1431655765)) 2) 858993459)) + (bUsh ((bAnd (zx0 - (bAnd (bUsh zx0 1) 1431655765)) 858993459) + (bAnd (bUsh (zx0 - (bAnd (bUsh zx0 1) 1431655765)) 2) 858993459)) 4)) 252645135) 8)) 16)) 63) σ) : TrI n i_Integer_bitCount [ji zx0] σ Q := by
  refine Tr_of ax_Z_111 ?_
  show J n c_Integer_bitCount (some .int) 0 [some (ji zx0)] [] σ (qI Q)
  refine J_iload_n (pc' := 1) rfl rfl rfl ?_
  refine J_iload_n (pc' := 2) rfl rfl rfl ?_
  refine J_iconst (pc' := 3) rfl (i32_d rfl) rfl ?_
  refine J_iushr (pc' := 4) rfl rfl ?_
  refine J_ldc (pc' := 7) (Or.inr rfl) rfl (i32_d rfl) rfl ?_
  refine J_iand (pc' := 8) rfl rfl ?_
  obtain ⟨zg1, W⟩ := W
  refine J_isub (pc' := 9) rfl zg1 rfl ?_
  refine J_istore_n (L' := [some (ji (zx0 - (bAnd (bUsh zx0 1) 1431655765)))]) (pc' := 10) rfl (Nat.le_of_ble_eq_true rfl) rfl rfl ?_
  refine J_iload_n (pc' := 11) rfl rfl rfl ?_
  refine J_ldc (pc' := 14) (Or.inr rfl) rfl (i32_d rfl) rfl ?_
  refine J_iand (pc' := 15) rfl rfl ?_
  refine J_iload_n (pc' := 16) rfl rfl rfl ?_
  refine J_iconst (pc' := 17) rfl (i32_d rfl) rfl ?_
  refine J_iushr (pc' := 18) rfl rfl ?_
  refine J_ldc (pc' := 21) (Or.inr rfl) rfl (i32_d rfl) rfl ?_
  refine J_iand (pc' := 22) rfl rfl ?_
  obtain ⟨zg2, W⟩ := W
  refine J_iadd (pc' := 23) rfl zg2 rfl ?_
  refine J_istore_n (L' := [some (ji ((bAnd (zx0 - (bAnd (bUsh zx0 1) 1431655765)) 858993459) + (bAnd (bUsh (zx0 - (bAnd (bUsh zx0 1) 1431655765)) 2) 858993459)))]) (pc' := 24) rfl (Nat.le_of_ble_eq_true rfl) rfl rfl ?_
  refine J_iload_n (pc' := 25) rfl rfl rfl ?_
  refine J_iload_n (pc' := 26) rfl rfl rfl ?_
  refine J_iconst (pc' := 27) rfl (i32_d rfl) rfl ?_
  refine J_iushr (pc' := 28) rfl rfl ?_
  obtain ⟨zg3, W⟩ := W
  refine J_iadd (pc' := 29) rfl zg3 rfl ?_
  refine J_ldc (pc' := 32) (Or.inr rfl) rfl (i32_d rfl) rfl ?_
  refine J_iand (pc' := 33) rfl rfl ?_
  refine J_istore_n (L' := [some (ji (bAnd (((bAnd (zx0 - (bAnd (bUsh zx0 1) 1431655765)) 858993459) + (bAnd (bUsh (zx0 - (bAnd (bUsh zx0 1) 1431655765)) 2) 858993459)) + (bUsh ((bAnd (zx0 - (bAnd (bUsh zx0 1) 1431655765)) 858993459) + (bAnd (bUsh (zx0 - (bAnd (bUsh zx0 1) 1431655765)) 2) 858993459)) 4)) 252645135))]) (pc' := 34) rfl (Nat.le_of_ble_eq_true rfl) rfl rfl ?_
  refine J_iload_n (pc' := 35) rfl rfl rfl ?_
  refine J_iload_n (pc' := 36) rfl rfl rfl ?_
  refine J_bipush (pc' := 38) rfl (by decide) (by decide) rfl ?_
  refine J_iushr (pc' := 39) rfl rfl ?_
  obtain ⟨zg4, W⟩ := W
  refine J_iadd (pc' := 40) rfl zg4 rfl ?_
  refine J_istore_n (L' := [some (ji ((bAnd (((bAnd (zx0 - (bAnd (bUsh zx0 1) 1431655765)) 858993459) + (bAnd (bUsh (zx0 - (bAnd (bUsh zx0 1) 1431655765)) 2) 858993459)) + (bUsh ((bAnd (zx0 - (bAnd (bUsh zx0 1) 1431655765)) 858993459) + (bAnd (bUsh (zx0 - (bAnd (bUsh zx0 1) 1431655765)) 2) 858993459)) 4)) 252645135) + (bUsh (bAnd (((bAnd (zx0 - (bAnd (bUsh zx0 1) 1431655765)) 858993459) + (bAnd (bUsh (zx0 - (bAnd (bUsh zx0 1) 1431655765)) 2) 858993459)) + (bUsh ((bAnd (zx0 - (bAnd (bUsh zx0 1) 1431655765)) 858993459) + (bAnd (bUsh (zx0 - (bAnd (bUsh zx0 1) 1431655765)) 2) 858993459)) 4)) 252645135) 8)))]) (pc' := 41) rfl (Nat.le_of_ble_eq_true rfl) rfl rfl ?_
  refine J_iload_n (pc' := 42) rfl rfl rfl ?_
  refine J_iload_n (pc' := 43) rfl rfl rfl ?_
  refine J_bipush (pc' := 45) rfl (by decide) (by decide) rfl ?_
  refine J_iushr (pc' := 46) rfl rfl ?_
  obtain ⟨zg5, W⟩ := W
  refine J_iadd (pc' := 47) rfl zg5 rfl ?_
  refine J_istore_n (L' := [some (ji (((bAnd (((bAnd (zx0 - (bAnd (bUsh zx0 1) 1431655765)) 858993459) + (bAnd (bUsh (zx0 - (bAnd (bUsh zx0 1) 1431655765)) 2) 858993459)) + (bUsh ((bAnd (zx0 - (bAnd (bUsh zx0 1) 1431655765)) 858993459) + (bAnd (bUsh (zx0 - (bAnd (bUsh zx0 1) 1431655765)) 2) 858993459)) 4)) 252645135) + (bUsh (bAnd (((bAnd (zx0 - (bAnd (bUsh zx0 1) 1431655765)) 858993459) + (bAnd (bUsh (zx0 - (bAnd (bUsh zx0 1) 1431655765)) 2) 858993459)) + (bUsh ((bAnd (zx0 - (bAnd (bUsh zx0 1) 1431655765)) 858993459) + (bAnd (bUsh (zx0 - (bAnd (bUsh zx0 1) 1431655765)) 2) 858993459)) 4)) 252645135) 8)) + (bUsh ((bAnd (((bAnd (zx0 - (bAnd (bUsh zx0 1) 1431655765)) 858993459) + (bAnd (bUsh (zx0 - (bAnd (bUsh zx0 1) 1431655765)) 2) 858993459)) + (bUsh ((bAnd (zx0 - (bAnd (bUsh zx0 1) 1431655765)) 858993459) + (bAnd (bUsh (zx0 - (bAnd (bUsh zx0 1) 1431655765)) 2) 858993459)) 4)) 252645135) + (bUsh (bAnd (((bAnd (zx0 - (bAnd (bUsh zx0 1) 1431655765)) 858993459) + (bAnd (bUsh (zx0 - (bAnd (bUsh zx0 1) 1431655765)) 2) 858993459)) + (bUsh ((bAnd (zx0 - (bAnd (bUsh zx0 1) 1431655765)) 858993459) + (bAnd (bUsh (zx0 - (bAnd (bUsh zx0 1) 1431655765)) 2) 858993459)) 4)) 252645135) 8)) 16)))]) (pc' := 48) rfl (Nat.le_of_ble_eq_true rfl) rfl rfl ?_
  refine J_iload_n (pc' := 49) rfl rfl rfl ?_
  refine J_bipush (pc' := 51) rfl (by decide) (by decide) rfl ?_
  refine J_iand (pc' := 52) rfl rfl ?_
  exact J_iret rfl rfl ⟨_, rfl, W⟩
theorem wp_Arrays_fill {n : Nat} {σ : jS} {Q : jS → Prop} {zF0 : Nat} {zp0 : Int} {zx1 : Int} (W : jt zF0 ≤ 4 ∧ J n c_Arrays_fill none 5 [some (ja zF0 zp0), some (ji zx1), some (ji 0), some (ji (rl σ zF0 zp0))] [] σ (qV Q)) : TrV n i_Arrays_fill [ja zF0 zp0, ji zx1] σ Q := by
  refine Tr_of ax_Z_112 ?_
  show J n c_Arrays_fill none 0 [some (ja zF0 zp0), some (ji zx1), none, none] [] σ (qV Q)
  refine J_iconst (pc' := 1) rfl (i32_d rfl) rfl ?_
  refine J_istore_n (L' := [some (ja zF0 zp0), some (ji zx1), some (ji 0), none]) (pc' := 2) rfl (Nat.le_of_ble_eq_true rfl) rfl rfl ?_
  refine J_aload_na (pc' := 3) rfl rfl rfl ?_
  obtain ⟨zg1, W⟩ := W
  refine J_alen (pc' := 4) rfl zg1 rfl ?_
  refine J_istore_n (L' := [some (ja zF0 zp0), some (ji zx1), some (ji 0), some (ji (rl σ zF0 zp0))]) (pc' := 5) rfl (Nat.le_of_ble_eq_true rfl) rfl rfl ?_
  exact W
theorem wp_Arrays_fill_5 {n : Nat} {σ : jS} {Q : jS → Prop} {zF0 : Nat} {zp0 : Int} {zx1 : Int} {zx2 : Int} {zx3 : Int} (W : (if zx3 ≤ zx2 then Q σ else jt zF0 = 0 ∧ ¬ zF0 = jscr ∧ 0 ≤ zx2 ∧ zx2 < rl σ zF0 zp0 ∧ (∀ zs1, zs1 = wa σ zF0 zp0 zx2 zx1 → i32 (zx2 + 1) ∧ J n c_Arrays_fill none 5 [some (ja zF0 zp0), some (ji zx1), some (ji (zx2 + 1)), some (ji zx3)] [] zs1 (qV Q)))) : J n c_Arrays_fill none 5 [some (ja zF0 zp0), some (ji zx1), some (ji zx2), some (ji zx3)] [] σ (qV Q) := by
  refine J_iload_n (pc' := 6) rfl rfl rfl ?_
  refine J_iload_n (pc' := 7) rfl rfl rfl ?_
  refine J_icmp (P := zx3 ≤ zx2) (t := 20) (f := 10) rfl rfl rfl jc_ge W (fun W => ?_) (fun W => ?_)
  · exact J_vret rfl rfl ⟨rfl, W⟩
  · refine J_aload_na (pc' := 11) rfl rfl rfl ?_
    refine J_iload_n (pc' := 12) rfl rfl rfl ?_
    refine J_iload_n (pc' := 13) rfl rfl rfl ?_
    obtain ⟨zg2, W⟩ := W
    obtain ⟨zg3, W⟩ := W
    obtain ⟨zg4, W⟩ := W
    obtain ⟨zg5, W⟩ := W
    refine J_iast (pc' := 14) rfl zg2 zg3 zg4 zg5 rfl (fun zs1 ezs1 => ?_)
    replace W := W zs1 ezs1
    obtain ⟨zg6, W⟩ := W
    refine J_iinc (L' := [some (ja zF0 zp0), some (ji zx1), some (ji (zx2 + 1)), some (ji zx3)]) (pc' := 17) rfl rfl zg6 rfl rfl ?_
    refine J_goto (pc' := 5) rfl rfl ?_
    exact W
theorem wp_Arrays_copyOf {n : Nat} {σ : jS} {Q : Nat → Int → jS → Prop} {zF0 : Nat} {zp0 : Int} {zx1 : Int} (W : jt zF0 ≤ 4 ∧ (if ¬ zx1 = rl σ zF0 zp0 then 0 ≤ zx1 ∧ zx1 ≤ 2000000 ∧ ¬ zF0 = jtmp 0 ∧ (∀ zs2, zs2 = nA σ 0 zx1 → 1 ≤ n ∧ jt zF0 = 0 ∧ ¬ zF0 = jscr ∧ 0 ≤ min (rl zs2 zF0 zp0) zx1 ∧ 0 + (min (rl zs2 zF0 zp0) zx1) ≤ rl zs2 zF0 zp0 ∧ 0 + (min (rl zs2 zF0 zp0) zx1) ≤ rl zs2 900000 0 ∧ (∀ zs7, zs7 = wA zs2 900000 0 (fun j => if 0 ≤ j ∧ j < 0 + (min (rl zs2 zF0 zp0) zx1) then ra zs2 zF0 zp0 (0 + (j - 0)) else ra zs2 900000 0 j) → Q 900000 0 zs7)) else False)) : TrA n i_Arrays_copyOf [ja zF0 zp0, ji zx1] σ Q := by
  refine Tr_of ax_Z_113 ?_
  show J n c_Arrays_copyOf (some (.array .int)) 0 [some (ja zF0 zp0), some (ji zx1), none] [] σ (qA Q)
  refine J_iload_n (pc' := 1) rfl rfl rfl ?_
  refine J_aload_na (pc' := 2) rfl rfl rfl ?_
  obtain ⟨zg1, W⟩ := W
  refine J_alen (pc' := 3) rfl zg1 rfl ?_
  refine J_icmp (P := ¬ zx1 = rl σ zF0 zp0) (t := 14) (f := 6) rfl rfl rfl jc_ne W (fun W => ?_) (fun W => ?_)
  · refine J_iload_n (pc' := 15) rfl rfl rfl ?_
    obtain ⟨zg3, W⟩ := W
    obtain ⟨zg4, W⟩ := W
    obtain ⟨zg5, W⟩ := W
    refine J_newa (pc' := 17) rfl (by decide) zg3 zg4 (And.intro zg5 trivial) trivial rfl (fun zs2 ezs2 => ?_)
    replace W := W zs2 ezs2
    refine J_astore_na (L' := [some (ja zF0 zp0), some (ji zx1), some (ja 900000 0)]) (pc' := 18) rfl (Nat.le_of_ble_eq_true rfl) rfl rfl ?_
    refine J_aload_na (pc' := 19) rfl rfl rfl ?_
    refine J_iconst (pc' := 20) rfl (i32_d rfl) rfl ?_
    refine J_aload_na (pc' := 21) rfl rfl rfl ?_
    refine J_iconst (pc' := 22) rfl (i32_d rfl) rfl ?_
    refine J_aload_na (pc' := 23) rfl rfl rfl ?_
    refine J_alen (pc' := 24) rfl zg1 rfl ?_
    refine J_iload_n (pc' := 25) rfl rfl rfl ?_
    obtain ⟨zg6, W⟩ := W
    refine J_min (pc' := 28) rfl zg6 (Nat.le_of_ble_eq_true rfl) rfl ?_
    obtain ⟨zg8, W⟩ := W
    obtain ⟨zg9, W⟩ := W
    obtain ⟨zg10, W⟩ := W
    obtain ⟨zg11, W⟩ := W
    obtain ⟨zg12, W⟩ := W
    refine J_copy (pc' := 31) rfl zg8 rfl zg9 (by decide) zg6 (Nat.le_of_ble_eq_true rfl) (by decide) (by decide) zg10 zg11 zg12 rfl (fun zs7 ezs7 => ?_)
    replace W := W zs7 ezs7
    refine J_aload_na (pc' := 32) rfl rfl rfl ?_
    exact J_aret rfl rfl ⟨_, _, rfl, W⟩
  · refine J_aload_na (pc' := 7) rfl rfl rfl ?_
    exact False.elim W
theorem wp_Flat_init {n : Nat} {σ : jS} {Q : jS → Prop} {zo0 : Int} {zx1 : Int} (W : 0 ≤ zo0 ∧ 1 ≤ n ∧ 0 ≤ max zx1 1 ∧ max zx1 1 ≤ 2000000 ∧ (∀ zs3, zs3 = nA σ 0 (max zx1 1) → rl zs3 0 zo0 < 0 ∧ (∀ zs6, zs6 = mA zs3 0 0 zo0 → Q zs6))) : TrV n i_Flat_init [jo 0 zo0, ji zx1] σ Q := by
  refine Tr_of ax_Z_114 ?_
  show J n c_Flat_init none 0 [some (jo 0 zo0), some (ji zx1)] [] σ (qV Q)
  obtain ⟨zg1, W⟩ := W
  refine J_aload_no (pc' := 1) rfl rfl zg1 rfl ?_
  obtain ⟨zg2, W⟩ := W
  refine J_oinit (pc' := 4) rfl zg1 zg2 (Nat.le_of_ble_eq_true rfl) rfl ?_
  refine J_aload_no (pc' := 5) rfl rfl zg1 rfl ?_
  refine J_iload_n (pc' := 6) rfl rfl rfl ?_
  refine J_iconst (pc' := 7) rfl (i32_d rfl) rfl ?_
  refine J_max (pc' := 10) rfl zg2 (Nat.le_of_ble_eq_true rfl) rfl ?_
  obtain ⟨zg4, W⟩ := W
  obtain ⟨zg5, W⟩ := W
  refine J_newa (pc' := 12) rfl (by decide) zg4 zg5 trivial trivial rfl (fun zs3 ezs3 => ?_)
  replace W := W zs3 ezs3
  obtain ⟨zg7, W⟩ := W
  refine J_putT (G := 0) (t := 0) (pc' := 15) rfl rfl (Nat.le_of_ble_eq_true rfl) rfl rfl rfl zg1 (Or.inr zg7) trivial trivial trivial trivial rfl (fun zs6 ezs6 => ?_)
  replace W := W zs6 ezs6
  exact J_vret rfl rfl ⟨rfl, W⟩
theorem wp_Flat_clear {n : Nat} {σ : jS} {Q : jS → Prop} {zo0 : Int} (W : 0 ≤ zo0 ∧ (∀ zs2, zs2 = ws σ 1 zo0 0 → Q zs2)) : TrV n i_Flat_clear [jo 0 zo0] σ Q := by
  refine Tr_of ax_Z_115 ?_
  show J n c_Flat_clear none 0 [some (jo 0 zo0)] [] σ (qV Q)
  obtain ⟨zg1, W⟩ := W
  refine J_aload_no (pc' := 1) rfl rfl zg1 rfl ?_
  refine J_iconst (pc' := 2) rfl (i32_d rfl) rfl ?_
  refine J_putI (G := 1) (pc' := 5) rfl rfl (Nat.le_of_ble_eq_true rfl) rfl rfl zg1 rfl (fun zs2 ezs2 => ?_)
  replace W := W zs2 ezs2
  exact J_vret rfl rfl ⟨rfl, W⟩
theorem wp_Flat_add {n : Nat} {σ : jS} {Q : jS → Prop} {zo0 : Int} {zx1 : Int} (W : 0 ≤ zo0 ∧ 0 ≤ rl σ 0 zo0 ∧ (if rl σ 0 zo0 ≤ rs σ 1 zo0 then i32 ((rs σ 1 zo0) + 1) ∧ (∀ zs4, zs4 = ws σ 1 zo0 ((rs σ 1 zo0) + 1) → Q zs4) else 0 ≤ rs σ 1 zo0 ∧ rs σ 1 zo0 < rl σ 0 zo0 ∧ (∀ zs5, zs5 = wa σ 0 zo0 (rs σ 1 zo0) zx1 → i32 ((rs zs5 1 zo0) + 1) ∧ (∀ zs9, zs9 = ws zs5 1 zo0 ((rs zs5 1 zo0) + 1) → Q zs9)))) : TrV n i_Flat_add [jo 0 zo0, ji zx1] σ Q := by
  refine Tr_of ax_Z_116 ?_
  show J n c_Flat_add none 0 [some (jo 0 zo0), some (ji zx1)] [] σ (qV Q)
  obtain ⟨zg1, W⟩ := W
  refine J_aload_no (pc' := 1) rfl rfl zg1 rfl ?_
  refine J_getI (G := 1) (pc' := 4) rfl rfl (Nat.le_of_ble_eq_true rfl) rfl zg1 rfl ?_
  refine J_aload_no (pc' := 5) rfl rfl zg1 rfl ?_
  obtain ⟨zg2, W⟩ := W
  refine J_getA (G := 0) (pc' := 8) rfl rfl (Nat.le_of_ble_eq_true rfl) rfl zg1 zg2 rfl ?_
  refine J_alen (pc' := 9) rfl (by decide) rfl ?_
  refine J_icmp (P := rl σ 0 zo0 ≤ rs σ 1 zo0) (t := 22) (f := 12) rfl rfl rfl jc_ge W (fun W => ?_) (fun W => ?_)
  · refine J_aload_no (pc' := 23) rfl rfl zg1 rfl ?_
    refine J_dup (pc' := 24) rfl rfl rfl ?_
    refine J_getI (G := 1) (pc' := 27) rfl rfl (Nat.le_of_ble_eq_true rfl) rfl zg1 rfl ?_
    refine J_iconst (pc' := 28) rfl (i32_d rfl) rfl ?_
    obtain ⟨zg3, W⟩ := W
    refine J_iadd (pc' := 29) rfl zg3 rfl ?_
    refine J_putI (G := 1) (pc' := 32) rfl rfl (Nat.le_of_ble_eq_true rfl) rfl rfl zg1 rfl (fun zs4 ezs4 => ?_)
    replace W := W zs4 ezs4
    exact J_vret rfl rfl ⟨rfl, W⟩
  · refine J_aload_no (pc' := 13) rfl rfl zg1 rfl ?_
    refine J_getA (G := 0) (pc' := 16) rfl rfl (Nat.le_of_ble_eq_true rfl) rfl zg1 zg2 rfl ?_
    refine J_aload_no (pc' := 17) rfl rfl zg1 rfl ?_
    refine J_getI (G := 1) (pc' := 20) rfl rfl (Nat.le_of_ble_eq_true rfl) rfl zg1 rfl ?_
    refine J_iload_n (pc' := 21) rfl rfl rfl ?_
    obtain ⟨zg6, W⟩ := W
    obtain ⟨zg7, W⟩ := W
    refine J_iast (pc' := 22) rfl rfl (by decide) zg6 zg7 rfl (fun zs5 ezs5 => ?_)
    replace W := W zs5 ezs5
    refine J_aload_no (pc' := 23) rfl rfl zg1 rfl ?_
    refine J_dup (pc' := 24) rfl rfl rfl ?_
    refine J_getI (G := 1) (pc' := 27) rfl rfl (Nat.le_of_ble_eq_true rfl) rfl zg1 rfl ?_
    refine J_iconst (pc' := 28) rfl (i32_d rfl) rfl ?_
    obtain ⟨zg8, W⟩ := W
    refine J_iadd (pc' := 29) rfl zg8 rfl ?_
    refine J_putI (G := 1) (pc' := 32) rfl rfl (Nat.le_of_ble_eq_true rfl) rfl rfl zg1 rfl (fun zs9 ezs9 => ?_)
    replace W := W zs9 ezs9
    exact J_vret rfl rfl ⟨rfl, W⟩
theorem wp_Flat_at {n : Nat} {σ : jS} {Q : Int → jS → Prop} {zo0 : Int} {zx1 : Int} (W : (if zx1 < 0 then Q (-1) σ else 0 ≤ zo0 ∧ (if rs σ 1 zo0 ≤ zx1 then Q (-1) σ else 0 ≤ rl σ 0 zo0 ∧ (if rl σ 0 zo0 ≤ zx1 then Q (-1) σ else 0 ≤ zx1 ∧ zx1 < rl σ 0 zo0 ∧ Q (ra σ 0 zo0 zx1) σ)))) : TrI n i_Flat_at [jo 0 zo0, ji zx1] σ Q := by
  refine Tr_of ax_Z_117 ?_
  show J n c_Flat_at (some .int) 0 [some (jo 0 zo0), some (ji zx1)] [] σ (qI Q)
  refine J_iload_n (pc' := 1) rfl rfl rfl ?_
  refine J_if (P := zx1 < 0) (t := 30) (f := 4) rfl rfl rfl jc_lt W (fun W => ?_) (fun W => ?_)
  · refine J_iconst (pc' := 31) rfl (i32_d rfl) rfl ?_
    exact J_iret rfl rfl ⟨_, rfl, W⟩
  · refine J_iload_n (pc' := 5) rfl rfl rfl ?_
    obtain ⟨zg1, W⟩ := W
    refine J_aload_no (pc' := 6) rfl rfl zg1 rfl ?_
    refine J_getI (G := 1) (pc' := 9) rfl rfl (Nat.le_of_ble_eq_true rfl) rfl zg1 rfl ?_
    refine J_icmp (P := rs σ 1 zo0 ≤ zx1) (t := 30) (f := 12) rfl rfl rfl jc_ge W (fun W => ?_) (fun W => ?_)
    · refine J_iconst (pc' := 31) rfl (i32_d rfl) rfl ?_
      exact J_iret rfl rfl ⟨_, rfl, W⟩
    · refine J_iload_n (pc' := 13) rfl rfl rfl ?_
      refine J_aload_no (pc' := 14) rfl rfl zg1 rfl ?_
      obtain ⟨zg2, W⟩ := W
      refine J_getA (G := 0) (pc' := 17) rfl rfl (Nat.le_of_ble_eq_true rfl) rfl zg1 zg2 rfl ?_
      refine J_alen (pc' := 18) rfl (by decide) rfl ?_
      refine J_icmp (P := rl σ 0 zo0 ≤ zx1) (t := 30) (f := 21) rfl rfl rfl jc_ge W (fun W => ?_) (fun W => ?_)
      · refine J_iconst (pc' := 31) rfl (i32_d rfl) rfl ?_
        exact J_iret rfl rfl ⟨_, rfl, W⟩
      · refine J_aload_no (pc' := 22) rfl rfl zg1 rfl ?_
        refine J_getA (G := 0) (pc' := 25) rfl rfl (Nat.le_of_ble_eq_true rfl) rfl zg1 zg2 rfl ?_
        refine J_iload_n (pc' := 26) rfl rfl rfl ?_
        obtain ⟨zg3, W⟩ := W
        obtain ⟨zg4, W⟩ := W
        refine J_iald (pc' := 27) rfl rfl zg3 zg4 rfl ?_
        refine J_goto (pc' := 31) rfl rfl ?_
        exact J_iret rfl rfl ⟨_, rfl, W⟩
theorem wp_Flat_addPart {n : Nat} {σ : jS} {Q : jS → Prop} {zo0 : Int} {zx1 : Int} (W : (if zx1 < 0 then Q σ else 0 ≤ zo0 ∧ 1 ≤ n ∧ TrI (n - 1) i_Flat_length [jo 0 zo0] σ (fun zr4 zs3 => (if zr4 ≤ zx1 then Q zs3 else 0 ≤ rl zs3 0 zo0 ∧ 0 ≤ zx1 ∧ zx1 < rl zs3 0 zo0 ∧ i32 ((ra zs3 0 zo0 zx1) + 1) ∧ (∀ zs9, zs9 = wa zs3 0 zo0 zx1 ((ra zs3 0 zo0 zx1) + 1) → Q zs9))))) : TrV n i_Flat_addPart [jo 0 zo0, ji zx1] σ Q := by
  refine Tr_of ax_Z_118 ?_
  show J n c_Flat_addPart none 0 [some (jo 0 zo0), some (ji zx1)] [] σ (qV Q)
  refine J_iload_n (pc' := 1) rfl rfl rfl ?_
  refine J_if (P := zx1 < 0) (t := 22) (f := 4) rfl rfl rfl jc_lt W (fun W => ?_) (fun W => ?_)
  · exact J_vret rfl rfl ⟨rfl, W⟩
  · refine J_iload_n (pc' := 5) rfl rfl rfl ?_
    obtain ⟨zg1, W⟩ := W
    refine J_aload_no (pc' := 6) rfl rfl zg1 rfl ?_
    obtain ⟨zg2, W⟩ := W
    refine J_callI (as := [jo 0 zo0]) (rest := [ji zx1]) (pc' := 9) rfl rfl ax_Z_121 rfl rfl (Or.inr (Or.inr ⟨_, _, rfl, zg1⟩)) (Nat.le_of_ble_eq_true rfl) (Nat.le_of_ble_eq_true rfl) (Nat.le_of_ble_eq_true rfl) zg2 trivial trivial rfl W (fun zr4 zs3 W => ?_)
    refine J_icmp (P := zr4 ≤ zx1) (t := 22) (f := 12) rfl rfl rfl jc_ge W (fun W => ?_) (fun W => ?_)
    · exact J_vret rfl rfl ⟨rfl, W⟩
    · refine J_aload_no (pc' := 13) rfl rfl zg1 rfl ?_
      obtain ⟨zg5, W⟩ := W
      refine J_getA (G := 0) (pc' := 16) rfl rfl (Nat.le_of_ble_eq_true rfl) rfl zg1 zg5 rfl ?_
      refine J_iload_n (pc' := 17) rfl rfl rfl ?_
      refine J_dup2 (pc' := 18) rfl rfl rfl rfl ?_
      obtain ⟨zg6, W⟩ := W
      obtain ⟨zg7, W⟩ := W
      refine J_iald (pc' := 19) rfl rfl zg6 zg7 rfl ?_
      refine J_iconst (pc' := 20) rfl (i32_d rfl) rfl ?_
      obtain ⟨zg8, W⟩ := W
      refine J_iadd (pc' := 21) rfl zg8 rfl ?_
      refine J_iast (pc' := 22) rfl rfl (by decide) zg6 zg7 rfl (fun zs9 ezs9 => ?_)
      replace W := W zs9 ezs9
      exact J_vret rfl rfl ⟨rfl, W⟩
theorem wp_Flat_partsAt {n : Nat} {σ : jS} {Q : Int → jS → Prop} {zo0 : Int} {zx1 : Int} (W : 0 ≤ zo0 ∧ 1 ≤ n ∧ TrI (n - 1) i_Flat_at [jo 0 zo0, ji zx1] σ (fun zr4 zs3 => TrI (n - 1) i_Flat_partsOf [ji zr4] zs3 (fun zr6 zs5 => Q zr6 zs5))) : TrI n i_Flat_partsAt [jo 0 zo0, ji zx1] σ Q := by
  refine Tr_of ax_Z_119 ?_
  show J n c_Flat_partsAt (some .int) 0 [some (jo 0 zo0), some (ji zx1)] [] σ (qI Q)
  obtain ⟨zg1, W⟩ := W
  refine J_aload_no (pc' := 1) rfl rfl zg1 rfl ?_
  refine J_iload_n (pc' := 2) rfl rfl rfl ?_
  obtain ⟨zg2, W⟩ := W
  refine J_weak (L' := [none, none]) trivial ?_
  refine J_callI (as := [jo 0 zo0, ji zx1]) (rest := []) (pc' := 5) rfl rfl ax_Z_117 rfl rfl (Or.inr (Or.inr ⟨_, _, rfl, zg1⟩)) (Nat.le_of_ble_eq_true rfl) (Nat.le_of_ble_eq_true rfl) (Nat.le_of_ble_eq_true rfl) zg2 trivial trivial rfl W (fun zr4 zs3 W => ?_)
  refine J_callI (as := [ji zr4]) (rest := []) (pc' := 8) rfl rfl ax_Z_120 rfl rfl (Or.inl rfl) (Nat.le_of_ble_eq_true rfl) (Nat.le_of_ble_eq_true rfl) (Nat.le_of_ble_eq_true rfl) zg2 trivial trivial rfl W (fun zr6 zs5 W => ?_)
  exact J_iret rfl rfl ⟨_, rfl, W⟩
theorem wp_Flat_partsOf {n : Nat} {σ : jS} {Q : Int → jS → Prop} {zx0 : Int} (W : (if zx0 < 0 then Q 0 σ else (if zx0 < 104 then Q (bAnd zx0 3) σ else Q 0 σ))) : TrI n i_Flat_partsOf [ji zx0] σ Q := by
  refine Tr_of ax_Z_120 ?_
  show J n c_Flat_partsOf (some .int) 0 [some (ji zx0)] [] σ (qI Q)
  refine J_iload_n (pc' := 1) rfl rfl rfl ?_
  refine J_if (P := zx0 < 0) (t := 10) (f := 4) rfl rfl rfl jc_lt W (fun W => ?_) (fun W => ?_)
  · refine J_iconst (pc' := 11) rfl (i32_d rfl) rfl ?_
    refine J_goto (pc' := 17) rfl rfl ?_
    exact J_iret rfl rfl ⟨_, rfl, W⟩
  · refine J_iload_n (pc' := 5) rfl rfl rfl ?_
    refine J_bipush (pc' := 7) rfl (by decide) (by decide) rfl ?_
    refine J_icmp (P := zx0 < 104) (t := 14) (f := 10) rfl rfl rfl jc_lt W (fun W => ?_) (fun W => ?_)
    · refine J_iload_n (pc' := 15) rfl rfl rfl ?_
      refine J_iconst (pc' := 16) rfl (i32_d rfl) rfl ?_
      refine J_iand (pc' := 17) rfl rfl ?_
      exact J_iret rfl rfl ⟨_, rfl, W⟩
    · refine J_iconst (pc' := 11) rfl (i32_d rfl) rfl ?_
      refine J_goto (pc' := 17) rfl rfl ?_
      exact J_iret rfl rfl ⟨_, rfl, W⟩
theorem wp_Flat_length {n : Nat} {σ : jS} {Q : Int → jS → Prop} {zo0 : Int} (W : 0 ≤ zo0 ∧ 0 ≤ rl σ 0 zo0 ∧ 1 ≤ n ∧ Q (min (rs σ 1 zo0) (rl σ 0 zo0)) σ) : TrI n i_Flat_length [jo 0 zo0] σ Q := by
  refine Tr_of ax_Z_121 ?_
  show J n c_Flat_length (some .int) 0 [some (jo 0 zo0)] [] σ (qI Q)
  obtain ⟨zg1, W⟩ := W
  refine J_aload_no (pc' := 1) rfl rfl zg1 rfl ?_
  refine J_getI (G := 1) (pc' := 4) rfl rfl (Nat.le_of_ble_eq_true rfl) rfl zg1 rfl ?_
  refine J_aload_no (pc' := 5) rfl rfl zg1 rfl ?_
  obtain ⟨zg2, W⟩ := W
  refine J_getA (G := 0) (pc' := 8) rfl rfl (Nat.le_of_ble_eq_true rfl) rfl zg1 zg2 rfl ?_
  refine J_alen (pc' := 9) rfl (by decide) rfl ?_
  obtain ⟨zg3, W⟩ := W
  refine J_min (pc' := 12) rfl zg3 (Nat.le_of_ble_eq_true rfl) rfl ?_
  exact J_iret rfl rfl ⟨_, rfl, W⟩
theorem wp_Flat_take {n : Nat} {σ : jS} {Q : jS → Prop} {zo0 : Int} {zo1 : Int} (W : 0 ≤ zo0 ∧ (∀ zs2, zs2 = ws σ 1 zo0 0 → J n c_Flat_take none 7 [some (jo 0 zo0), some (jo 0 zo1), some (ji 0)] [] zs2 (qV Q))) : TrV n i_Flat_take [jo 0 zo0, jo 0 zo1] σ Q := by
  refine Tr_of ax_Z_122 ?_
  show J n c_Flat_take none 0 [some (jo 0 zo0), some (jo 0 zo1), none] [] σ (qV Q)
  obtain ⟨zg1, W⟩ := W
  refine J_aload_no (pc' := 1) rfl rfl zg1 rfl ?_
  refine J_iconst (pc' := 2) rfl (i32_d rfl) rfl ?_
  refine J_putI (G := 1) (pc' := 5) rfl rfl (Nat.le_of_ble_eq_true rfl) rfl rfl zg1 rfl (fun zs2 ezs2 => ?_)
  replace W := W zs2 ezs2
  refine J_iconst (pc' := 6) rfl (i32_d rfl) rfl ?_
  refine J_istore_n (L' := [some (jo 0 zo0), some (jo 0 zo1), some (ji 0)]) (pc' := 7) rfl (Nat.le_of_ble_eq_true rfl) rfl rfl ?_
  exact W
theorem wp_Flat_take_7 {n : Nat} {σ : jS} {Q : jS → Prop} {zo0 : Int} {zo1 : Int} {zx2 : Int} (W : 0 ≤ zo1 ∧ 1 ≤ n ∧ TrI (n - 1) i_Flat_length [jo 0 zo1] σ (fun zr4 zs3 => (if zr4 ≤ zx2 then 0 ≤ zo0 ∧ (∀ zs6, zs6 = ws zs3 1 zo0 (rs zs3 1 zo1) → Q zs6) else 0 ≤ zo0 ∧ 0 ≤ rl zs3 0 zo1 ∧ 0 ≤ zx2 ∧ zx2 < rl zs3 0 zo1 ∧ TrV (n - 1) i_Flat_add [jo 0 zo0, ji (ra zs3 0 zo1 zx2)] zs3 (fun zs11 => i32 (zx2 + 1) ∧ J n c_Flat_take none 7 [some (jo 0 zo0), some (jo 0 zo1), some (ji (zx2 + 1))] [] zs11 (qV Q))))) : J n c_Flat_take none 7 [some (jo 0 zo0), some (jo 0 zo1), some (ji zx2)] [] σ (qV Q) := by
  refine J_iload_n (pc' := 8) rfl rfl rfl ?_
  obtain ⟨zg1, W⟩ := W
  refine J_aload_no (pc' := 9) rfl rfl zg1 rfl ?_
  obtain ⟨zg2, W⟩ := W
  refine J_callI (as := [jo 0 zo1]) (rest := [ji zx2]) (pc' := 12) rfl rfl ax_Z_121 rfl rfl (Or.inr (Or.inr ⟨_, _, rfl, zg1⟩)) (Nat.le_of_ble_eq_true rfl) (Nat.le_of_ble_eq_true rfl) (Nat.le_of_ble_eq_true rfl) zg2 trivial trivial rfl W (fun zr4 zs3 W => ?_)
  refine J_icmp (P := zr4 ≤ zx2) (t := 31) (f := 15) rfl rfl rfl jc_ge W (fun W => ?_) (fun W => ?_)
  · obtain ⟨zg5, W⟩ := W
    refine J_aload_no (pc' := 32) rfl rfl zg5 rfl ?_
    refine J_aload_no (pc' := 33) rfl rfl zg1 rfl ?_
    refine J_getI (G := 1) (pc' := 36) rfl rfl (Nat.le_of_ble_eq_true rfl) rfl zg1 rfl ?_
    refine J_putI (G := 1) (pc' := 39) rfl rfl (Nat.le_of_ble_eq_true rfl) rfl rfl zg5 rfl (fun zs6 ezs6 => ?_)
    replace W := W zs6 ezs6
    exact J_vret rfl rfl ⟨rfl, W⟩
  · obtain ⟨zg7, W⟩ := W
    refine J_aload_no (pc' := 16) rfl rfl zg7 rfl ?_
    refine J_aload_no (pc' := 17) rfl rfl zg1 rfl ?_
    obtain ⟨zg8, W⟩ := W
    refine J_getA (G := 0) (pc' := 20) rfl rfl (Nat.le_of_ble_eq_true rfl) rfl zg1 zg8 rfl ?_
    refine J_iload_n (pc' := 21) rfl rfl rfl ?_
    obtain ⟨zg9, W⟩ := W
    obtain ⟨zg10, W⟩ := W
    refine J_iald (pc' := 22) rfl rfl zg9 zg10 rfl ?_
    refine J_callV (as := [jo 0 zo0, ji (ra zs3 0 zo1 zx2)]) (rest := []) (pc' := 25) rfl rfl ax_Z_116 rfl rfl (Or.inr (Or.inr ⟨_, _, rfl, zg7⟩)) (Nat.le_of_ble_eq_true rfl) (Nat.le_of_ble_eq_true rfl) (Nat.le_of_ble_eq_true rfl) zg2 trivial trivial rfl W (fun zs11 W => ?_)
    obtain ⟨zg13, W⟩ := W
    refine J_iinc (L' := [some (jo 0 zo0), some (jo 0 zo1), some (ji (zx2 + 1))]) (pc' := 28) rfl rfl zg13 rfl rfl ?_
    refine J_goto (pc' := 7) rfl rfl ?_
    exact W
theorem wp_Flat_isSame {n : Nat} {σ : jS} {Q : Int → jS → Prop} {zo0 : Int} {zo1 : Int} (W : 0 ≤ zo0 ∧ 0 ≤ zo1 ∧ (if rs σ 1 zo0 = rs σ 1 zo1 then J n c_Flat_isSame (some .boolean) 15 [some (jo 0 zo0), some (jo 0 zo1), some (ji 0)] [] σ (qI Q) else Q 0 σ)) : TrI n i_Flat_isSame [jo 0 zo0, jo 0 zo1] σ Q := by
  refine Tr_of ax_Z_123 ?_
  show J n c_Flat_isSame (some .boolean) 0 [some (jo 0 zo0), some (jo 0 zo1), none] [] σ (qI Q)
  obtain ⟨zg1, W⟩ := W
  refine J_aload_no (pc' := 1) rfl rfl zg1 rfl ?_
  refine J_getI (G := 1) (pc' := 4) rfl rfl (Nat.le_of_ble_eq_true rfl) rfl zg1 rfl ?_
  obtain ⟨zg2, W⟩ := W
  refine J_aload_no (pc' := 5) rfl rfl zg2 rfl ?_
  refine J_getI (G := 1) (pc' := 8) rfl rfl (Nat.le_of_ble_eq_true rfl) rfl zg2 rfl ?_
  refine J_icmp (P := rs σ 1 zo0 = rs σ 1 zo1) (t := 13) (f := 11) rfl rfl rfl jc_eq W (fun W => ?_) (fun W => ?_)
  · refine J_iconst (pc' := 14) rfl (i32_d rfl) rfl ?_
    refine J_istore_n (L' := [some (jo 0 zo0), some (jo 0 zo1), some (ji 0)]) (pc' := 15) rfl (Nat.le_of_ble_eq_true rfl) rfl rfl ?_
    exact W
  · refine J_iconst (pc' := 12) rfl (i32_d rfl) rfl ?_
    exact J_zret rfl rfl (Or.inl rfl) ⟨_, rfl, W⟩
theorem wp_Flat_isSame_15 {n : Nat} {σ : jS} {Q : Int → jS → Prop} {zo0 : Int} {zo1 : Int} {zx2 : Int} (W : 0 ≤ zo0 ∧ (if rs σ 1 zo0 ≤ zx2 then Q 1 σ else 1 ≤ n ∧ TrI (n - 1) i_Flat_at [jo 0 zo0, ji zx2] σ (fun zr4 zs3 => 0 ≤ zo1 ∧ TrI (n - 1) i_Flat_at [jo 0 zo1, ji zx2] zs3 (fun zr7 zs6 => (if zr4 = zr7 then i32 (zx2 + 1) ∧ J n c_Flat_isSame (some .boolean) 15 [some (jo 0 zo0), some (jo 0 zo1), some (ji (zx2 + 1))] [] zs6 (qI Q) else Q 0 zs6))))) : J n c_Flat_isSame (some .boolean) 15 [some (jo 0 zo0), some (jo 0 zo1), some (ji zx2)] [] σ (qI Q) := by
  refine J_iload_n (pc' := 16) rfl rfl rfl ?_
  obtain ⟨zg1, W⟩ := W
  refine J_aload_no (pc' := 17) rfl rfl zg1 rfl ?_
  refine J_getI (G := 1) (pc' := 20) rfl rfl (Nat.le_of_ble_eq_true rfl) rfl zg1 rfl ?_
  refine J_icmp (P := rs σ 1 zo0 ≤ zx2) (t := 44) (f := 23) rfl rfl rfl jc_ge W (fun W => ?_) (fun W => ?_)
  · refine J_iconst (pc' := 45) rfl (i32_d rfl) rfl ?_
    exact J_zret rfl rfl (Or.inr rfl) ⟨_, rfl, W⟩
  · refine J_aload_no (pc' := 24) rfl rfl zg1 rfl ?_
    refine J_iload_n (pc' := 25) rfl rfl rfl ?_
    obtain ⟨zg2, W⟩ := W
    refine J_callI (as := [jo 0 zo0, ji zx2]) (rest := []) (pc' := 28) rfl rfl ax_Z_117 rfl rfl (Or.inr (Or.inr ⟨_, _, rfl, zg1⟩)) (Nat.le_of_ble_eq_true rfl) (Nat.le_of_ble_eq_true rfl) (Nat.le_of_ble_eq_true rfl) zg2 trivial trivial rfl W (fun zr4 zs3 W => ?_)
    obtain ⟨zg5, W⟩ := W
    refine J_aload_no (pc' := 29) rfl rfl zg5 rfl ?_
    refine J_iload_n (pc' := 30) rfl rfl rfl ?_
    refine J_callI (as := [jo 0 zo1, ji zx2]) (rest := [ji zr4]) (pc' := 33) rfl rfl ax_Z_117 rfl rfl (Or.inr (Or.inr ⟨_, _, rfl, zg5⟩)) (Nat.le_of_ble_eq_true rfl) (Nat.le_of_ble_eq_true rfl) (Nat.le_of_ble_eq_true rfl) zg2 trivial trivial rfl W (fun zr7 zs6 W => ?_)
    refine J_icmp (P := zr4 = zr7) (t := 38) (f := 36) rfl rfl rfl jc_eq W (fun W => ?_) (fun W => ?_)
    · obtain ⟨zg8, W⟩ := W
      refine J_iinc (L' := [some (jo 0 zo0), some (jo 0 zo1), some (ji (zx2 + 1))]) (pc' := 41) rfl rfl zg8 rfl rfl ?_
      refine J_goto (pc' := 15) rfl rfl ?_
      exact W
    · refine J_iconst (pc' := 37) rfl (i32_d rfl) rfl ?_
      exact J_zret rfl rfl (Or.inl rfl) ⟨_, rfl, W⟩
theorem wp_Flat_isClosed {n : Nat} {σ : jS} {Q : Int → jS → Prop} {zo0 : Int} (W : J n c_Flat_isClosed (some .boolean) 2 [some (jo 0 zo0), some (ji 0)] [] σ (qI Q)) : TrI n i_Flat_isClosed [jo 0 zo0] σ Q := by
  refine Tr_of ax_Z_124 ?_
  show J n c_Flat_isClosed (some .boolean) 0 [some (jo 0 zo0), none] [] σ (qI Q)
  refine J_iconst (pc' := 1) rfl (i32_d rfl) rfl ?_
  refine J_istore_n (L' := [some (jo 0 zo0), some (ji 0)]) (pc' := 2) rfl (Nat.le_of_ble_eq_true rfl) rfl rfl ?_
  exact W
theorem wp_Flat_isClosed_2 {n : Nat} {σ : jS} {Q : Int → jS → Prop} {zo0 : Int} {zx1 : Int} (W : 0 ≤ zo0 ∧ 1 ≤ n ∧ TrI (n - 1) i_Flat_length [jo 0 zo0] σ (fun zr4 zs3 => (if zr4 ≤ zx1 then 0 ≤ rl zs3 0 zo0 ∧ (if rl zs3 0 zo0 < rs zs3 1 zo0 then Q 0 zs3 else Q 1 zs3) else 0 ≤ rl zs3 0 zo0 ∧ 0 ≤ zx1 ∧ zx1 < rl zs3 0 zo0 ∧ (if ra zs3 0 zo0 zx1 < 104 then i32 (zx1 + 1) ∧ J n c_Flat_isClosed (some .boolean) 2 [some (jo 0 zo0), some (ji (zx1 + 1))] [] zs3 (qI Q) else Q 0 zs3)))) : J n c_Flat_isClosed (some .boolean) 2 [some (jo 0 zo0), some (ji zx1)] [] σ (qI Q) := by
  refine J_iload_n (pc' := 3) rfl rfl rfl ?_
  obtain ⟨zg1, W⟩ := W
  refine J_aload_no (pc' := 4) rfl rfl zg1 rfl ?_
  obtain ⟨zg2, W⟩ := W
  refine J_callI (as := [jo 0 zo0]) (rest := [ji zx1]) (pc' := 7) rfl rfl ax_Z_121 rfl rfl (Or.inr (Or.inr ⟨_, _, rfl, zg1⟩)) (Nat.le_of_ble_eq_true rfl) (Nat.le_of_ble_eq_true rfl) (Nat.le_of_ble_eq_true rfl) zg2 trivial trivial rfl W (fun zr4 zs3 W => ?_)
  refine J_icmp (P := zr4 ≤ zx1) (t := 29) (f := 10) rfl rfl rfl jc_ge W (fun W => ?_) (fun W => ?_)
  · refine J_aload_no (pc' := 30) rfl rfl zg1 rfl ?_
    refine J_getI (G := 1) (pc' := 33) rfl rfl (Nat.le_of_ble_eq_true rfl) rfl zg1 rfl ?_
    refine J_aload_no (pc' := 34) rfl rfl zg1 rfl ?_
    obtain ⟨zg5, W⟩ := W
    refine J_getA (G := 0) (pc' := 37) rfl rfl (Nat.le_of_ble_eq_true rfl) rfl zg1 zg5 rfl ?_
    refine J_alen (pc' := 38) rfl (by decide) rfl ?_
    refine J_icmp (P := rl zs3 0 zo0 < rs zs3 1 zo0) (t := 45) (f := 41) rfl rfl rfl jc_gt W (fun W => ?_) (fun W => ?_)
    · refine J_iconst (pc' := 46) rfl (i32_d rfl) rfl ?_
      exact J_zret rfl rfl (Or.inl rfl) ⟨_, rfl, W⟩
    · refine J_iconst (pc' := 42) rfl (i32_d rfl) rfl ?_
      refine J_goto (pc' := 46) rfl rfl ?_
      exact J_zret rfl rfl (Or.inr rfl) ⟨_, rfl, W⟩
  · refine J_aload_no (pc' := 11) rfl rfl zg1 rfl ?_
    obtain ⟨zg6, W⟩ := W
    refine J_getA (G := 0) (pc' := 14) rfl rfl (Nat.le_of_ble_eq_true rfl) rfl zg1 zg6 rfl ?_
    refine J_iload_n (pc' := 15) rfl rfl rfl ?_
    obtain ⟨zg7, W⟩ := W
    obtain ⟨zg8, W⟩ := W
    refine J_iald (pc' := 16) rfl rfl zg7 zg8 rfl ?_
    refine J_bipush (pc' := 18) rfl (by decide) (by decide) rfl ?_
    refine J_icmp (P := ra zs3 0 zo0 zx1 < 104) (t := 23) (f := 21) rfl rfl rfl jc_lt W (fun W => ?_) (fun W => ?_)
    · obtain ⟨zg9, W⟩ := W
      refine J_iinc (L' := [some (jo 0 zo0), some (ji (zx1 + 1))]) (pc' := 26) rfl rfl zg9 rfl rfl ?_
      refine J_goto (pc' := 2) rfl rfl ?_
      exact W
    · refine J_iconst (pc' := 22) rfl (i32_d rfl) rfl ?_
      exact J_zret rfl rfl (Or.inl rfl) ⟨_, rfl, W⟩
theorem wp_Flat_cover {n : Nat} {σ : jS} {Q : Int → jS → Prop} {zo0 : Int} (W : J n c_Flat_cover (some .int) 4 [some (jo 0 zo0), some (ji 0), some (ji 0)] [] σ (qI Q)) : TrI n i_Flat_cover [jo 0 zo0] σ Q := by
  refine Tr_of ax_Z_125 ?_
  show J n c_Flat_cover (some .int) 0 [some (jo 0 zo0), none, none] [] σ (qI Q)
  refine J_iconst (pc' := 1) rfl (i32_d rfl) rfl ?_
  refine J_istore_n (L' := [some (jo 0 zo0), some (ji 0), none]) (pc' := 2) rfl (Nat.le_of_ble_eq_true rfl) rfl rfl ?_
  refine J_iconst (pc' := 3) rfl (i32_d rfl) rfl ?_
  refine J_istore_n (L' := [some (jo 0 zo0), some (ji 0), some (ji 0)]) (pc' := 4) rfl (Nat.le_of_ble_eq_true rfl) rfl rfl ?_
  exact W
theorem wp_Flat_cover_4 {n : Nat} {σ : jS} {Q : Int → jS → Prop} {zo0 : Int} {zx1 : Int} {zx2 : Int} (W : 0 ≤ zo0 ∧ 1 ≤ n ∧ TrI (n - 1) i_Flat_length [jo 0 zo0] σ (fun zr4 zs3 => (if zr4 ≤ zx2 then Q zx1 zs3 else 0 ≤ rl zs3 0 zo0 ∧ 0 ≤ zx2 ∧ zx2 < rl zs3 0 zo0 ∧ (if 104 ≤ ra zs3 0 zo0 zx2 then i32 (zx2 + 1) ∧ J n c_Flat_cover (some .int) 4 [some (jo 0 zo0), some (ji zx1), some (ji (zx2 + 1))] [] zs3 (qI Q) else i32 (zx2 + 1) ∧ J n c_Flat_cover (some .int) 4 [some (jo 0 zo0), some (ji (bOr zx1 (bShl 1 (bShr (ra zs3 0 zo0 zx2) 2)))), some (ji (zx2 + 1))] [] zs3 (qI Q))))) : J n c_Flat_cover (some .int) 4 [some (jo 0 zo0), some (ji zx1), some (ji zx2)] [] σ (qI Q) := by
  refine J_iload_n (pc' := 5) rfl rfl rfl ?_
  obtain ⟨zg1, W⟩ := W
  refine J_aload_no (pc' := 6) rfl rfl zg1 rfl ?_
  obtain ⟨zg2, W⟩ := W
  refine J_callI (as := [jo 0 zo0]) (rest := [ji zx2]) (pc' := 9) rfl rfl ax_Z_121 rfl rfl (Or.inr (Or.inr ⟨_, _, rfl, zg1⟩)) (Nat.le_of_ble_eq_true rfl) (Nat.le_of_ble_eq_true rfl) (Nat.le_of_ble_eq_true rfl) zg2 trivial trivial rfl W (fun zr4 zs3 W => ?_)
  refine J_icmp (P := zr4 ≤ zx2) (t := 42) (f := 12) rfl rfl rfl jc_ge W (fun W => ?_) (fun W => ?_)
  · refine J_iload_n (pc' := 43) rfl rfl rfl ?_
    exact J_iret rfl rfl ⟨_, rfl, W⟩
  · refine J_aload_no (pc' := 13) rfl rfl zg1 rfl ?_
    obtain ⟨zg5, W⟩ := W
    refine J_getA (G := 0) (pc' := 16) rfl rfl (Nat.le_of_ble_eq_true rfl) rfl zg1 zg5 rfl ?_
    refine J_iload_n (pc' := 17) rfl rfl rfl ?_
    obtain ⟨zg6, W⟩ := W
    obtain ⟨zg7, W⟩ := W
    refine J_iald (pc' := 18) rfl rfl zg6 zg7 rfl ?_
    refine J_bipush (pc' := 20) rfl (by decide) (by decide) rfl ?_
    refine J_icmp (P := 104 ≤ ra zs3 0 zo0 zx2) (t := 36) (f := 23) rfl rfl rfl jc_ge W (fun W => ?_) (fun W => ?_)
    · obtain ⟨zg8, W⟩ := W
      refine J_iinc (L' := [some (jo 0 zo0), some (ji zx1), some (ji (zx2 + 1))]) (pc' := 39) rfl rfl zg8 rfl rfl ?_
      refine J_goto (pc' := 4) rfl rfl ?_
      exact W
    · refine J_iload_n (pc' := 24) rfl rfl rfl ?_
      refine J_iconst (pc' := 25) rfl (i32_d rfl) rfl ?_
      refine J_aload_no (pc' := 26) rfl rfl zg1 rfl ?_
      refine J_getA (G := 0) (pc' := 29) rfl rfl (Nat.le_of_ble_eq_true rfl) rfl zg1 zg5 rfl ?_
      refine J_iload_n (pc' := 30) rfl rfl rfl ?_
      refine J_iald (pc' := 31) rfl rfl zg6 zg7 rfl ?_
      refine J_iconst (pc' := 32) rfl (i32_d rfl) rfl ?_
      refine J_ishr (pc' := 33) rfl rfl ?_
      refine J_ishl (pc' := 34) rfl rfl ?_
      refine J_ior (pc' := 35) rfl rfl ?_
      refine J_istore_n (L' := [some (jo 0 zo0), some (ji (bOr zx1 (bShl 1 (bShr (ra zs3 0 zo0 zx2) 2)))), some (ji zx2)]) (pc' := 36) rfl (Nat.le_of_ble_eq_true rfl) rfl rfl ?_
      obtain ⟨zg9, W⟩ := W
      refine J_iinc (L' := [some (jo 0 zo0), some (ji (bOr zx1 (bShl 1 (bShr (ra zs3 0 zo0 zx2) 2)))), some (ji (zx2 + 1))]) (pc' := 39) rfl rfl zg9 rfl rfl ?_
      refine J_goto (pc' := 4) rfl rfl ?_
      exact W
theorem wp_Flat_varLetters {n : Nat} {σ : jS} {Q : Int → jS → Prop} {zo0 : Int} (W : J n c_Flat_varLetters (some .int) 4 [some (jo 0 zo0), some (ji 0), some (ji 0)] [] σ (qI Q)) : TrI n i_Flat_varLetters [jo 0 zo0] σ Q := by
  refine Tr_of ax_Z_126 ?_
  show J n c_Flat_varLetters (some .int) 0 [some (jo 0 zo0), none, none] [] σ (qI Q)
  refine J_iconst (pc' := 1) rfl (i32_d rfl) rfl ?_
  refine J_istore_n (L' := [some (jo 0 zo0), some (ji 0), none]) (pc' := 2) rfl (Nat.le_of_ble_eq_true rfl) rfl rfl ?_
  refine J_iconst (pc' := 3) rfl (i32_d rfl) rfl ?_
  refine J_istore_n (L' := [some (jo 0 zo0), some (ji 0), some (ji 0)]) (pc' := 4) rfl (Nat.le_of_ble_eq_true rfl) rfl rfl ?_
  exact W
theorem wp_Flat_varLetters_4 {n : Nat} {σ : jS} {Q : Int → jS → Prop} {zo0 : Int} {zx1 : Int} {zx2 : Int} (W : 0 ≤ zo0 ∧ 1 ≤ n ∧ TrI (n - 1) i_Flat_length [jo 0 zo0] σ (fun zr4 zs3 => (if zr4 ≤ zx2 then Q zx1 zs3 else 0 ≤ rl zs3 0 zo0 ∧ 0 ≤ zx2 ∧ zx2 < rl zs3 0 zo0 ∧ (if ra zs3 0 zo0 zx2 < 104 then i32 (zx2 + 1) ∧ J n c_Flat_varLetters (some .int) 4 [some (jo 0 zo0), some (ji zx1), some (ji (zx2 + 1))] [] zs3 (qI Q) else i32 ((ra zs3 0 zo0 zx2) - 104) ∧ i32 (zx2 + 1) ∧ J n c_Flat_varLetters (some .int) 4 [some (jo 0 zo0), some (ji (bOr zx1 (bShl 1 ((ra zs3 0 zo0 zx2) - 104)))), some (ji (zx2 + 1))] [] zs3 (qI Q))))) : J n c_Flat_varLetters (some .int) 4 [some (jo 0 zo0), some (ji zx1), some (ji zx2)] [] σ (qI Q) := by
  refine J_iload_n (pc' := 5) rfl rfl rfl ?_
  obtain ⟨zg1, W⟩ := W
  refine J_aload_no (pc' := 6) rfl rfl zg1 rfl ?_
  obtain ⟨zg2, W⟩ := W
  refine J_callI (as := [jo 0 zo0]) (rest := [ji zx2]) (pc' := 9) rfl rfl ax_Z_121 rfl rfl (Or.inr (Or.inr ⟨_, _, rfl, zg1⟩)) (Nat.le_of_ble_eq_true rfl) (Nat.le_of_ble_eq_true rfl) (Nat.le_of_ble_eq_true rfl) zg2 trivial trivial rfl W (fun zr4 zs3 W => ?_)
  refine J_icmp (P := zr4 ≤ zx2) (t := 43) (f := 12) rfl rfl rfl jc_ge W (fun W => ?_) (fun W => ?_)
  · refine J_iload_n (pc' := 44) rfl rfl rfl ?_
    exact J_iret rfl rfl ⟨_, rfl, W⟩
  · refine J_aload_no (pc' := 13) rfl rfl zg1 rfl ?_
    obtain ⟨zg5, W⟩ := W
    refine J_getA (G := 0) (pc' := 16) rfl rfl (Nat.le_of_ble_eq_true rfl) rfl zg1 zg5 rfl ?_
    refine J_iload_n (pc' := 17) rfl rfl rfl ?_
    obtain ⟨zg6, W⟩ := W
    obtain ⟨zg7, W⟩ := W
    refine J_iald (pc' := 18) rfl rfl zg6 zg7 rfl ?_
    refine J_bipush (pc' := 20) rfl (by decide) (by decide) rfl ?_
    refine J_icmp (P := ra zs3 0 zo0 zx2 < 104) (t := 37) (f := 23) rfl rfl rfl jc_lt W (fun W => ?_) (fun W => ?_)
    · obtain ⟨zg8, W⟩ := W
      refine J_iinc (L' := [some (jo 0 zo0), some (ji zx1), some (ji (zx2 + 1))]) (pc' := 40) rfl rfl zg8 rfl rfl ?_
      refine J_goto (pc' := 4) rfl rfl ?_
      exact W
    · refine J_iload_n (pc' := 24) rfl rfl rfl ?_
      refine J_iconst (pc' := 25) rfl (i32_d rfl) rfl ?_
      refine J_aload_no (pc' := 26) rfl rfl zg1 rfl ?_
      refine J_getA (G := 0) (pc' := 29) rfl rfl (Nat.le_of_ble_eq_true rfl) rfl zg1 zg5 rfl ?_
      refine J_iload_n (pc' := 30) rfl rfl rfl ?_
      refine J_iald (pc' := 31) rfl rfl zg6 zg7 rfl ?_
      refine J_bipush (pc' := 33) rfl (by decide) (by decide) rfl ?_
      obtain ⟨zg9, W⟩ := W
      refine J_isub (pc' := 34) rfl zg9 rfl ?_
      refine J_ishl (pc' := 35) rfl rfl ?_
      refine J_ior (pc' := 36) rfl rfl ?_
      refine J_istore_n (L' := [some (jo 0 zo0), some (ji (bOr zx1 (bShl 1 ((ra zs3 0 zo0 zx2) - 104)))), some (ji zx2)]) (pc' := 37) rfl (Nat.le_of_ble_eq_true rfl) rfl rfl ?_
      obtain ⟨zg10, W⟩ := W
      refine J_iinc (L' := [some (jo 0 zo0), some (ji (bOr zx1 (bShl 1 ((ra zs3 0 zo0 zx2) - 104)))), some (ji (zx2 + 1))]) (pc' := 40) rfl rfl zg10 rfl rfl ?_
      refine J_goto (pc' := 4) rfl rfl ?_
      exact W
theorem wp_Flat_behind {n : Nat} {σ : jS} {Q : Int → jS → Prop} {zo0 : Int} {zx1 : Int} (W : J n c_Flat_behind (some .int) 4 [some (jo 0 zo0), none, some (ji 1), some (ji zx1)] [] σ (qI Q)) : TrI n i_Flat_behind [jo 0 zo0, ji zx1] σ Q := by
  refine Tr_of ax_Z_127 ?_
  show J n c_Flat_behind (some .int) 0 [some (jo 0 zo0), some (ji zx1), none, none] [] σ (qI Q)
  refine J_iconst (pc' := 1) rfl (i32_d rfl) rfl ?_
  refine J_istore_n (L' := [some (jo 0 zo0), some (ji zx1), some (ji 1), none]) (pc' := 2) rfl (Nat.le_of_ble_eq_true rfl) rfl rfl ?_
  refine J_iload_n (pc' := 3) rfl rfl rfl ?_
  refine J_istore_n (L' := [some (jo 0 zo0), some (ji zx1), some (ji 1), some (ji zx1)]) (pc' := 4) rfl (Nat.le_of_ble_eq_true rfl) rfl rfl ?_
  refine J_weak (L' := [some (jo 0 zo0), none, some (ji 1), some (ji zx1)]) (And.intro rfl (And.intro rfl (And.intro rfl trivial))) ?_
  exact W
theorem wp_Flat_behind_4 {n : Nat} {σ : jS} {Q : Int → jS → Prop} {zo0 : Int} {zx2 : Int} {zx3 : Int} (W : 0 ≤ zo0 ∧ 1 ≤ n ∧ TrI (n - 1) i_Flat_length [jo 0 zo0] σ (fun zr4 zs3 => (if zr4 ≤ zx3 then Q zx3 zs3 else (if zx2 ≤ 0 then Q zx3 zs3 else TrI (n - 1) i_Flat_partsAt [jo 0 zo0, ji zx3] zs3 (fun zr6 zs5 => i32 (zr6 - 1) ∧ i32 (zx2 + (zr6 - 1)) ∧ i32 (zx3 + 1) ∧ J n c_Flat_behind (some .int) 4 [some (jo 0 zo0), none, some (ji (zx2 + (zr6 - 1))), some (ji (zx3 + 1))] [] zs5 (qI Q)))))) : J n c_Flat_behind (some .int) 4 [some (jo 0 zo0), none, some (ji zx2), some (ji zx3)] [] σ (qI Q) := by
  refine J_iload_n (pc' := 5) rfl rfl rfl ?_
  obtain ⟨zg1, W⟩ := W
  refine J_aload_no (pc' := 6) rfl rfl zg1 rfl ?_
  obtain ⟨zg2, W⟩ := W
  refine J_callI (as := [jo 0 zo0]) (rest := [ji zx3]) (pc' := 9) rfl rfl ax_Z_121 rfl rfl (Or.inr (Or.inr ⟨_, _, rfl, zg1⟩)) (Nat.le_of_ble_eq_true rfl) (Nat.le_of_ble_eq_true rfl) (Nat.le_of_ble_eq_true rfl) zg2 trivial trivial rfl W (fun zr4 zs3 W => ?_)
  refine J_icmp (P := zr4 ≤ zx3) (t := 32) (f := 12) rfl rfl rfl jc_ge W (fun W => ?_) (fun W => ?_)
  · refine J_iload_n (pc' := 33) rfl rfl rfl ?_
    exact J_iret rfl rfl ⟨_, rfl, W⟩
  · refine J_iload_n (pc' := 13) rfl rfl rfl ?_
    refine J_if (P := zx2 ≤ 0) (t := 32) (f := 16) rfl rfl rfl jc_le W (fun W => ?_) (fun W => ?_)
    · refine J_iload_n (pc' := 33) rfl rfl rfl ?_
      exact J_iret rfl rfl ⟨_, rfl, W⟩
    · refine J_iload_n (pc' := 17) rfl rfl rfl ?_
      refine J_aload_no (pc' := 18) rfl rfl zg1 rfl ?_
      refine J_iload_n (pc' := 19) rfl rfl rfl ?_
      refine J_weak (L' := [some (jo 0 zo0), none, none, some (ji zx3)]) (And.intro rfl (And.intro rfl trivial)) ?_
      refine J_callI (as := [jo 0 zo0, ji zx3]) (rest := [ji zx2]) (pc' := 22) rfl rfl ax_Z_119 rfl rfl (Or.inr (Or.inr ⟨_, _, rfl, zg1⟩)) (Nat.le_of_ble_eq_true rfl) (Nat.le_of_ble_eq_true rfl) (Nat.le_of_ble_eq_true rfl) zg2 trivial trivial rfl W (fun zr6 zs5 W => ?_)
      refine J_iconst (pc' := 23) rfl (i32_d rfl) rfl ?_
      obtain ⟨zg7, W⟩ := W
      refine J_isub (pc' := 24) rfl zg7 rfl ?_
      obtain ⟨zg8, W⟩ := W
      refine J_iadd (pc' := 25) rfl zg8 rfl ?_
      refine J_istore_n (L' := [some (jo 0 zo0), none, some (ji (zx2 + (zr6 - 1))), some (ji zx3)]) (pc' := 26) rfl (Nat.le_of_ble_eq_true rfl) rfl rfl ?_
      obtain ⟨zg9, W⟩ := W
      refine J_iinc (L' := [some (jo 0 zo0), none, some (ji (zx2 + (zr6 - 1))), some (ji (zx3 + 1))]) (pc' := 29) rfl rfl zg9 rfl rfl ?_
      refine J_goto (pc' := 4) rfl rfl ?_
      exact W
theorem wp_Counts_init {n : Nat} {σ : jS} {Q : jS → Prop} {zo0 : Int} (W : 0 ≤ zo0 ∧ 1 ≤ n ∧ (∀ zs3, zs3 = nA σ 4 128 → rl zs3 2000 zo0 < 0 ∧ (∀ zs4, zs4 = mA zs3 4 2000 zo0 → (∀ zs6, zs6 = nA zs4 0 128 → rl zs6 2001 zo0 < 0 ∧ (∀ zs7, zs7 = mA zs6 0 2001 zo0 → (∀ zs9, zs9 = nA zs7 0 128 → rl zs9 2002 zo0 < 0 ∧ (∀ zs10, zs10 = mA zs9 0 2002 zo0 → Q zs10))))))) : TrV n i_Counts_init [jo 2 zo0] σ Q := by
  refine Tr_of ax_Z_128 ?_
  show J n c_Counts_init none 0 [some (jo 2 zo0)] [] σ (qV Q)
  obtain ⟨zg1, W⟩ := W
  refine J_aload_no (pc' := 1) rfl rfl zg1 rfl ?_
  obtain ⟨zg2, W⟩ := W
  refine J_oinit (pc' := 4) rfl zg1 zg2 (Nat.le_of_ble_eq_true rfl) rfl ?_
  refine J_aload_no (pc' := 5) rfl rfl zg1 rfl ?_
  refine J_sipush (pc' := 8) rfl (by decide) (by decide) rfl ?_
  refine J_anew (pc' := 11) rfl (by decide) (by decide) trivial trivial rfl (fun zs3 ezs3 => ?_)
  replace W := W zs3 ezs3
  obtain ⟨zg5, W⟩ := W
  refine J_putT (G := 2000) (t := 4) (pc' := 14) rfl rfl (Nat.le_of_ble_eq_true rfl) rfl rfl rfl zg1 (Or.inr zg5) trivial trivial trivial trivial rfl (fun zs4 ezs4 => ?_)
  replace W := W zs4 ezs4
  refine J_aload_no (pc' := 15) rfl rfl zg1 rfl ?_
  refine J_sipush (pc' := 18) rfl (by decide) (by decide) rfl ?_
  refine J_newa (pc' := 20) rfl (by decide) (by decide) (by decide) trivial trivial rfl (fun zs6 ezs6 => ?_)
  replace W := W zs6 ezs6
  obtain ⟨zg8, W⟩ := W
  refine J_putT (G := 2001) (t := 0) (pc' := 23) rfl rfl (Nat.le_of_ble_eq_true rfl) rfl rfl rfl zg1 (Or.inr zg8) trivial trivial trivial trivial rfl (fun zs7 ezs7 => ?_)
  replace W := W zs7 ezs7
  refine J_aload_no (pc' := 24) rfl rfl zg1 rfl ?_
  refine J_sipush (pc' := 27) rfl (by decide) (by decide) rfl ?_
  refine J_newa (pc' := 29) rfl (by decide) (by decide) (by decide) trivial trivial rfl (fun zs9 ezs9 => ?_)
  replace W := W zs9 ezs9
  obtain ⟨zg11, W⟩ := W
  refine J_putT (G := 2002) (t := 0) (pc' := 32) rfl rfl (Nat.le_of_ble_eq_true rfl) rfl rfl rfl zg1 (Or.inr zg11) trivial trivial trivial trivial rfl (fun zs10 ezs10 => ?_)
  replace W := W zs10 ezs10
  exact J_vret rfl rfl ⟨rfl, W⟩
theorem wp_Counts_clear {n : Nat} {σ : jS} {Q : jS → Prop} {zo0 : Int} (W : 0 ≤ zo0 ∧ (∀ zs2, zs2 = ws σ 2003 zo0 0 → (∀ zs3, zs3 = ws zs2 2004 zo0 0 → Q zs3))) : TrV n i_Counts_clear [jo 2 zo0] σ Q := by
  refine Tr_of ax_Z_129 ?_
  show J n c_Counts_clear none 0 [some (jo 2 zo0)] [] σ (qV Q)
  obtain ⟨zg1, W⟩ := W
  refine J_aload_no (pc' := 1) rfl rfl zg1 rfl ?_
  refine J_iconst (pc' := 2) rfl (i32_d rfl) rfl ?_
  refine J_putI (G := 2003) (pc' := 5) rfl rfl (Nat.le_of_ble_eq_true rfl) rfl rfl zg1 rfl (fun zs2 ezs2 => ?_)
  replace W := W zs2 ezs2
  refine J_aload_no (pc' := 6) rfl rfl zg1 rfl ?_
  refine J_iconst (pc' := 7) rfl (i32_d rfl) rfl ?_
  refine J_putI (G := 2004) (pc' := 10) rfl rfl (Nat.le_of_ble_eq_true rfl) rfl rfl zg1 rfl (fun zs3 ezs3 => ?_)
  replace W := W zs3 ezs3
  exact J_vret rfl rfl ⟨rfl, W⟩
theorem wp_Counts_find {n : Nat} {σ : jS} {Q : Int → jS → Prop} {zo0 : Int} {zo1 : Int} {zx2 : Int} (W : J n c_Counts_find (some .int) 2 [some (jo 2 zo0), some (jo 0 zo1), some (ji zx2), some (ji 0)] [] σ (qI Q)) : TrI n i_Counts_find [jo 2 zo0, jo 0 zo1, ji zx2] σ Q := by
  refine Tr_of ax_Z_130 ?_
  show J n c_Counts_find (some .int) 0 [some (jo 2 zo0), some (jo 0 zo1), some (ji zx2), none] [] σ (qI Q)
  refine J_iconst (pc' := 1) rfl (i32_d rfl) rfl ?_
  refine J_istore_n (L' := [some (jo 2 zo0), some (jo 0 zo1), some (ji zx2), some (ji 0)]) (pc' := 2) rfl (Nat.le_of_ble_eq_true rfl) rfl rfl ?_
  exact W
theorem wp_Counts_find_2 {n : Nat} {σ : jS} {Q : Int → jS → Prop} {zo0 : Int} {zo1 : Int} {zx2 : Int} {zx3 : Int} (W : 0 ≤ zo0 ∧ (if rs σ 2003 zo0 ≤ zx3 then Q (-1) σ else (if 128 ≤ zx3 then Q (-1) σ else 0 ≤ rl σ 2001 zo0 ∧ 0 ≤ zx3 ∧ zx3 < rl σ 2001 zo0 ∧ (if ¬ ra σ 2001 zo0 zx3 = zx2 then i32 (zx3 + 1) ∧ J n c_Counts_find (some .int) 2 [some (jo 2 zo0), some (jo 0 zo1), some (ji zx2), some (ji (zx3 + 1))] [] σ (qI Q) else 0 ≤ rl σ 2000 zo0 ∧ zx3 < rl σ 2000 zo0 ∧ (if ra σ 2000 zo0 zx3 < 0 then i32 (zx3 + 1) ∧ J n c_Counts_find (some .int) 2 [some (jo 2 zo0), some (jo 0 zo1), some (ji zx2), some (ji (zx3 + 1))] [] σ (qI Q) else 0 ≤ zo1 ∧ 1 ≤ n ∧ 0 ≤ ra σ 2000 zo0 zx3 ∧ TrI (n - 1) i_Flat_isSame [jo 0 (ra σ 2000 zo0 zx3), jo 0 zo1] σ (fun zr13 zs12 => (if zr13 = 0 then i32 (zx3 + 1) ∧ J n c_Counts_find (some .int) 2 [some (jo 2 zo0), some (jo 0 zo1), some (ji zx2), some (ji (zx3 + 1))] [] zs12 (qI Q) else 0 ≤ rl zs12 2002 zo0 ∧ zx3 < rl zs12 2002 zo0 ∧ Q (ra zs12 2002 zo0 zx3) zs12))))))) : J n c_Counts_find (some .int) 2 [some (jo 2 zo0), some (jo 0 zo1), some (ji zx2), some (ji zx3)] [] σ (qI Q) := by
  refine J_iload_n (pc' := 3) rfl rfl rfl ?_
  obtain ⟨zg1, W⟩ := W
  refine J_aload_no (pc' := 4) rfl rfl zg1 rfl ?_
  refine J_getI (G := 2003) (pc' := 7) rfl rfl (Nat.le_of_ble_eq_true rfl) rfl zg1 rfl ?_
  refine J_icmp (P := rs σ 2003 zo0 ≤ zx3) (t := 62) (f := 10) rfl rfl rfl jc_ge W (fun W => ?_) (fun W => ?_)
  · refine J_iconst (pc' := 63) rfl (i32_d rfl) rfl ?_
    exact J_iret rfl rfl ⟨_, rfl, W⟩
  · refine J_iload_n (pc' := 11) rfl rfl rfl ?_
    refine J_sipush (pc' := 14) rfl (by decide) (by decide) rfl ?_
    refine J_icmp (P := 128 ≤ zx3) (t := 62) (f := 17) rfl rfl rfl jc_ge W (fun W => ?_) (fun W => ?_)
    · refine J_iconst (pc' := 63) rfl (i32_d rfl) rfl ?_
      exact J_iret rfl rfl ⟨_, rfl, W⟩
    · refine J_aload_no (pc' := 18) rfl rfl zg1 rfl ?_
      obtain ⟨zg2, W⟩ := W
      refine J_getA (G := 2001) (pc' := 21) rfl rfl (Nat.le_of_ble_eq_true rfl) rfl zg1 zg2 rfl ?_
      refine J_iload_n (pc' := 22) rfl rfl rfl ?_
      obtain ⟨zg3, W⟩ := W
      obtain ⟨zg4, W⟩ := W
      refine J_iald (pc' := 23) rfl rfl zg3 zg4 rfl ?_
      refine J_iload_n (pc' := 24) rfl rfl rfl ?_
      refine J_icmp (P := ¬ ra σ 2001 zo0 zx3 = zx2) (t := 56) (f := 27) rfl rfl rfl jc_ne W (fun W => ?_) (fun W => ?_)
      · obtain ⟨zg5, W⟩ := W
        refine J_iinc (L' := [some (jo 2 zo0), some (jo 0 zo1), some (ji zx2), some (ji (zx3 + 1))]) (pc' := 59) rfl rfl zg5 rfl rfl ?_
        refine J_goto (pc' := 2) rfl rfl ?_
        exact W
      · refine J_aload_no (pc' := 28) rfl rfl zg1 rfl ?_
        obtain ⟨zg6, W⟩ := W
        refine J_getA (G := 2000) (pc' := 31) rfl rfl (Nat.le_of_ble_eq_true rfl) rfl zg1 zg6 rfl ?_
        refine J_iload_n (pc' := 32) rfl rfl rfl ?_
        obtain ⟨zg7, W⟩ := W
        refine J_aald (pc' := 33) rfl rfl zg3 zg7 rfl ?_
        refine J_null (t := 56) (f := 36) rfl rfl rfl W (fun W => ?_) (fun W => ?_)
        · obtain ⟨zg8, W⟩ := W
          refine J_iinc (L' := [some (jo 2 zo0), some (jo 0 zo1), some (ji zx2), some (ji (zx3 + 1))]) (pc' := 59) rfl rfl zg8 rfl rfl ?_
          refine J_goto (pc' := 2) rfl rfl ?_
          exact W
        · refine J_aload_no (pc' := 37) rfl rfl zg1 rfl ?_
          refine J_getA (G := 2000) (pc' := 40) rfl rfl (Nat.le_of_ble_eq_true rfl) rfl zg1 zg6 rfl ?_
          refine J_iload_n (pc' := 41) rfl rfl rfl ?_
          refine J_aald (pc' := 42) rfl rfl zg3 zg7 rfl ?_
          obtain ⟨zg9, W⟩ := W
          refine J_aload_no (pc' := 43) rfl rfl zg9 rfl ?_
          obtain ⟨zg10, W⟩ := W
          obtain ⟨zg11, W⟩ := W
          refine J_callI (as := [jo 0 (ra σ 2000 zo0 zx3), jo 0 zo1]) (rest := []) (pc' := 46) rfl rfl ax_Z_123 rfl rfl (Or.inr (Or.inr ⟨_, _, rfl, zg11⟩)) (Nat.le_of_ble_eq_true rfl) (Nat.le_of_ble_eq_true rfl) (Nat.le_of_ble_eq_true rfl) zg10 trivial trivial rfl W (fun zr13 zs12 W => ?_)
          refine J_if (P := zr13 = 0) (t := 56) (f := 49) rfl rfl rfl jc_eq W (fun W => ?_) (fun W => ?_)
          · obtain ⟨zg14, W⟩ := W
            refine J_iinc (L' := [some (jo 2 zo0), some (jo 0 zo1), some (ji zx2), some (ji (zx3 + 1))]) (pc' := 59) rfl rfl zg14 rfl rfl ?_
            refine J_goto (pc' := 2) rfl rfl ?_
            exact W
          · refine J_aload_no (pc' := 50) rfl rfl zg1 rfl ?_
            obtain ⟨zg15, W⟩ := W
            refine J_getA (G := 2002) (pc' := 53) rfl rfl (Nat.le_of_ble_eq_true rfl) rfl zg1 zg15 rfl ?_
            refine J_iload_n (pc' := 54) rfl rfl rfl ?_
            obtain ⟨zg16, W⟩ := W
            refine J_iald (pc' := 55) rfl rfl zg3 zg16 rfl ?_
            exact J_iret rfl rfl ⟨_, rfl, W⟩
theorem wp_Counts_keep {n : Nat} {σ : jS} {Q : jS → Prop} {zo0 : Int} {zo1 : Int} {zx2 : Int} {zx3 : Int} (W : 0 ≤ zo1 ∧ (if rs σ 1 zo1 ≤ 100 then 0 ≤ zo0 ∧ (if rs σ 2004 zo0 < 0 then J n c_Counts_keep none 34 [some (jo 2 zo0), some (jo 0 zo1), some (ji zx2), some (ji zx3), none] [] σ (qV Q) else (if 128 ≤ rs σ 2004 zo0 then J n c_Counts_keep none 34 [some (jo 2 zo0), some (jo 0 zo1), some (ji zx2), some (ji zx3), none] [] σ (qV Q) else 0 ≤ rl σ 2000 zo0 ∧ 0 ≤ rs σ 2004 zo0 ∧ rs σ 2004 zo0 < rl σ 2000 zo0 ∧ (if ra σ 2000 zo0 (rs σ 2004 zo0) < 0 then rk σ 0 < 2000000 ∧ 0 ≤ rk σ 0 ∧ (∀ zs6, zs6 = nO σ 0 → 1 ≤ n ∧ TrV (n - 1) i_Flat_init [jo 0 (rk σ 0), ji 100] zs6 (fun zs10 => 0 ≤ rk σ 0 ∧ 0 ≤ rs σ 2004 zo0 ∧ rs σ 2004 zo0 < rl zs10 2000 zo0 ∧ (∀ zs12, zs12 = wa zs10 2000 zo0 (rs σ 2004 zo0) (rk σ 0) → J n c_Counts_keep none 63 [some (jo 2 zo0), some (jo 0 zo1), some (ji zx2), some (ji zx3), some (ji (rs σ 2004 zo0))] [] zs12 (qV Q)))) else J n c_Counts_keep none 63 [some (jo 2 zo0), some (jo 0 zo1), some (ji zx2), some (ji zx3), some (ji (rs σ 2004 zo0))] [] σ (qV Q)))) else Q σ)) : TrV n i_Counts_keep [jo 2 zo0, jo 0 zo1, ji zx2, ji zx3] σ Q := by
  refine Tr_of ax_Z_131 ?_
  show J n c_Counts_keep none 0 [some (jo 2 zo0), some (jo 0 zo1), some (ji zx2), some (ji zx3), none] [] σ (qV Q)
  obtain ⟨zg1, W⟩ := W
  refine J_aload_no (pc' := 1) rfl rfl zg1 rfl ?_
  refine J_getI (G := 1) (pc' := 4) rfl rfl (Nat.le_of_ble_eq_true rfl) rfl zg1 rfl ?_
  refine J_bipush (pc' := 6) rfl (by decide) (by decide) rfl ?_
  refine J_icmp (P := rs σ 1 zo1 ≤ 100) (t := 10) (f := 9) rfl rfl rfl jc_le W (fun W => ?_) (fun W => ?_)
  · obtain ⟨zg2, W⟩ := W
    refine J_aload_no (pc' := 11) rfl rfl zg2 rfl ?_
    refine J_getI (G := 2004) (pc' := 14) rfl rfl (Nat.le_of_ble_eq_true rfl) rfl zg2 rfl ?_
    refine J_if (P := rs σ 2004 zo0 < 0) (t := 34) (f := 17) rfl rfl rfl jc_lt W (fun W => ?_) (fun W => ?_)
    · exact W
    · refine J_aload_no (pc' := 18) rfl rfl zg2 rfl ?_
      refine J_getI (G := 2004) (pc' := 21) rfl rfl (Nat.le_of_ble_eq_true rfl) rfl zg2 rfl ?_
      refine J_sipush (pc' := 24) rfl (by decide) (by decide) rfl ?_
      refine J_icmp (P := 128 ≤ rs σ 2004 zo0) (t := 34) (f := 27) rfl rfl rfl jc_ge W (fun W => ?_) (fun W => ?_)
      · exact W
      · refine J_aload_no (pc' := 28) rfl rfl zg2 rfl ?_
        refine J_getI (G := 2004) (pc' := 31) rfl rfl (Nat.le_of_ble_eq_true rfl) rfl zg2 rfl ?_
        refine J_goto (pc' := 35) rfl rfl ?_
        refine J_istore (L' := [some (jo 2 zo0), some (jo 0 zo1), some (ji zx2), some (ji zx3), some (ji (rs σ 2004 zo0))]) (pc' := 37) rfl (Nat.le_of_ble_eq_true rfl) rfl rfl ?_
        refine J_aload_no (pc' := 38) rfl rfl zg2 rfl ?_
        obtain ⟨zg3, W⟩ := W
        refine J_getA (G := 2000) (pc' := 41) rfl rfl (Nat.le_of_ble_eq_true rfl) rfl zg2 zg3 rfl ?_
        refine J_iload (pc' := 43) rfl rfl rfl ?_
        obtain ⟨zg4, W⟩ := W
        obtain ⟨zg5, W⟩ := W
        refine J_aald (pc' := 44) rfl rfl zg4 zg5 rfl ?_
        refine J_nonnull (t := 63) (f := 47) rfl rfl rfl W (fun W => ?_) (fun W => ?_)
        · refine J_aload_no (pc' := 48) rfl rfl zg2 rfl ?_
          refine J_getA (G := 2000) (pc' := 51) rfl rfl (Nat.le_of_ble_eq_true rfl) rfl zg2 zg3 rfl ?_
          refine J_iload (pc' := 53) rfl rfl rfl ?_
          obtain ⟨zg7, W⟩ := W
          obtain ⟨zg8, W⟩ := W
          refine J_new (pc' := 56) rfl zg7 rfl (fun zs6 ezs6 => ?_)
          replace W := W zs6 ezs6
          refine J_dup (pc' := 57) rfl rfl rfl ?_
          refine J_bipush (pc' := 59) rfl (by decide) (by decide) rfl ?_
          obtain ⟨zg9, W⟩ := W
          refine J_callV (as := [jo 0 (rk σ 0), ji 100]) (rest := [jo 0 (rk σ 0), ji (rs σ 2004 zo0), ja 2000 zo0]) (pc' := 62) rfl rfl ax_Z_114 rfl rfl (Or.inr (Or.inr ⟨_, _, rfl, zg8⟩)) (Nat.le_of_ble_eq_true rfl) (Nat.le_of_ble_eq_true rfl) (Nat.le_of_ble_eq_true rfl) zg9 trivial (And.intro rfl trivial) rfl W (fun zs10 W => ?_)
          obtain ⟨zg13, W⟩ := W
          obtain ⟨zg14, W⟩ := W
          obtain ⟨zg15, W⟩ := W
          refine J_aast (pc' := 63) rfl rfl zg13 zg14 zg15 rfl (fun zs12 ezs12 => ?_)
          replace W := W zs12 ezs12
          exact W
        · exact W
  · exact J_vret rfl rfl ⟨rfl, W⟩
theorem wp_Counts_keep_34 {n : Nat} {σ : jS} {Q : jS → Prop} {zo0 : Int} {zo1 : Int} {zx2 : Int} {zx3 : Int} (W : 0 ≤ zo0 ∧ 0 ≤ rl σ 2000 zo0 ∧ 0 < rl σ 2000 zo0 ∧ (if ra σ 2000 zo0 0 < 0 then rk σ 0 < 2000000 ∧ 0 ≤ rk σ 0 ∧ (∀ zs4, zs4 = nO σ 0 → 1 ≤ n ∧ TrV (n - 1) i_Flat_init [jo 0 (rk σ 0), ji 100] zs4 (fun zs8 => 0 ≤ rk σ 0 ∧ 0 < rl zs8 2000 zo0 ∧ (∀ zs10, zs10 = wa zs8 2000 zo0 0 (rk σ 0) → J n c_Counts_keep none 63 [some (jo 2 zo0), some (jo 0 zo1), some (ji zx2), some (ji zx3), some (ji 0)] [] zs10 (qV Q)))) else J n c_Counts_keep none 63 [some (jo 2 zo0), some (jo 0 zo1), some (ji zx2), some (ji zx3), some (ji 0)] [] σ (qV Q))) : J n c_Counts_keep none 34 [some (jo 2 zo0), some (jo 0 zo1), some (ji zx2), some (ji zx3), none] [] σ (qV Q) := by
  refine J_iconst (pc' := 35) rfl (i32_d rfl) rfl ?_
  refine J_istore (L' := [some (jo 2 zo0), some (jo 0 zo1), some (ji zx2), some (ji zx3), some (ji 0)]) (pc' := 37) rfl (Nat.le_of_ble_eq_true rfl) rfl rfl ?_
  obtain ⟨zg1, W⟩ := W
  refine J_aload_no (pc' := 38) rfl rfl zg1 rfl ?_
  obtain ⟨zg2, W⟩ := W
  refine J_getA (G := 2000) (pc' := 41) rfl rfl (Nat.le_of_ble_eq_true rfl) rfl zg1 zg2 rfl ?_
  refine J_iload (pc' := 43) rfl rfl rfl ?_
  obtain ⟨zg3, W⟩ := W
  refine J_aald (pc' := 44) rfl rfl (by decide) zg3 rfl ?_
  refine J_nonnull (t := 63) (f := 47) rfl rfl rfl W (fun W => ?_) (fun W => ?_)
  · refine J_aload_no (pc' := 48) rfl rfl zg1 rfl ?_
    refine J_getA (G := 2000) (pc' := 51) rfl rfl (Nat.le_of_ble_eq_true rfl) rfl zg1 zg2 rfl ?_
    refine J_iload (pc' := 53) rfl rfl rfl ?_
    obtain ⟨zg5, W⟩ := W
    obtain ⟨zg6, W⟩ := W
    refine J_new (pc' := 56) rfl zg5 rfl (fun zs4 ezs4 => ?_)
    replace W := W zs4 ezs4
    refine J_dup (pc' := 57) rfl rfl rfl ?_
    refine J_bipush (pc' := 59) rfl (by decide) (by decide) rfl ?_
    obtain ⟨zg7, W⟩ := W
    refine J_callV (as := [jo 0 (rk σ 0), ji 100]) (rest := [jo 0 (rk σ 0), ji 0, ja 2000 zo0]) (pc' := 62) rfl rfl ax_Z_114 rfl rfl (Or.inr (Or.inr ⟨_, _, rfl, zg6⟩)) (Nat.le_of_ble_eq_true rfl) (Nat.le_of_ble_eq_true rfl) (Nat.le_of_ble_eq_true rfl) zg7 trivial (And.intro rfl trivial) rfl W (fun zs8 W => ?_)
    obtain ⟨zg11, W⟩ := W
    obtain ⟨zg12, W⟩ := W
    refine J_aast (pc' := 63) rfl rfl zg11 (by decide) zg12 rfl (fun zs10 ezs10 => ?_)
    replace W := W zs10 ezs10
    exact W
  · exact W
theorem wp_Counts_keep_63 {n : Nat} {σ : jS} {Q : jS → Prop} {zo0 : Int} {zo1 : Int} {zx2 : Int} {zx3 : Int} {zx4 : Int} (W : 0 ≤ zo0 ∧ 0 ≤ rl σ 2000 zo0 ∧ 0 ≤ zx4 ∧ zx4 < rl σ 2000 zo0 ∧ 0 ≤ zo1 ∧ 1 ≤ n ∧ 0 ≤ ra σ 2000 zo0 zx4 ∧ TrV (n - 1) i_Flat_take [jo 0 (ra σ 2000 zo0 zx4), jo 0 zo1] σ (fun zs8 => 0 ≤ rl zs8 2001 zo0 ∧ zx4 < rl zs8 2001 zo0 ∧ (∀ zs11, zs11 = wa zs8 2001 zo0 zx4 zx2 → 0 ≤ rl zs11 2002 zo0 ∧ zx4 < rl zs11 2002 zo0 ∧ (∀ zs14, zs14 = wa zs11 2002 zo0 zx4 zx3 → i32 (zx4 + 1) ∧ (∀ zs17, zs17 = ws zs14 2004 zo0 (zx4 + 1) → (∀ zs18, zs18 = ws zs17 2003 zo0 (max (rs zs17 2003 zo0) (rs zs17 2004 zo0)) → Q zs18)))))) : J n c_Counts_keep none 63 [some (jo 2 zo0), some (jo 0 zo1), some (ji zx2), some (ji zx3), some (ji zx4)] [] σ (qV Q) := by
  obtain ⟨zg1, W⟩ := W
  refine J_aload_no (pc' := 64) rfl rfl zg1 rfl ?_
  obtain ⟨zg2, W⟩ := W
  refine J_getA (G := 2000) (pc' := 67) rfl rfl (Nat.le_of_ble_eq_true rfl) rfl zg1 zg2 rfl ?_
  refine J_iload (pc' := 69) rfl rfl rfl ?_
  obtain ⟨zg3, W⟩ := W
  obtain ⟨zg4, W⟩ := W
  refine J_aald (pc' := 70) rfl rfl zg3 zg4 rfl ?_
  obtain ⟨zg5, W⟩ := W
  refine J_aload_no (pc' := 71) rfl rfl zg5 rfl ?_
  obtain ⟨zg6, W⟩ := W
  obtain ⟨zg7, W⟩ := W
  refine J_weak (L' := [some (jo 2 zo0), none, some (ji zx2), some (ji zx3), some (ji zx4)]) (And.intro rfl (And.intro rfl (And.intro rfl (And.intro rfl trivial)))) ?_
  refine J_callV (as := [jo 0 (ra σ 2000 zo0 zx4), jo 0 zo1]) (rest := []) (pc' := 74) rfl rfl ax_Z_122 rfl rfl (Or.inr (Or.inr ⟨_, _, rfl, zg7⟩)) (Nat.le_of_ble_eq_true rfl) (Nat.le_of_ble_eq_true rfl) (Nat.le_of_ble_eq_true rfl) zg6 trivial trivial rfl W (fun zs8 W => ?_)
  refine J_aload_no (pc' := 75) rfl rfl zg1 rfl ?_
  obtain ⟨zg10, W⟩ := W
  refine J_getA (G := 2001) (pc' := 78) rfl rfl (Nat.le_of_ble_eq_true rfl) rfl zg1 zg10 rfl ?_
  refine J_iload (pc' := 80) rfl rfl rfl ?_
  refine J_iload_n (pc' := 81) rfl rfl rfl ?_
  obtain ⟨zg12, W⟩ := W
  refine J_iast (pc' := 82) rfl rfl (by decide) zg3 zg12 rfl (fun zs11 ezs11 => ?_)
  replace W := W zs11 ezs11
  refine J_aload_no (pc' := 83) rfl rfl zg1 rfl ?_
  obtain ⟨zg13, W⟩ := W
  refine J_getA (G := 2002) (pc' := 86) rfl rfl (Nat.le_of_ble_eq_true rfl) rfl zg1 zg13 rfl ?_
  refine J_iload (pc' := 88) rfl rfl rfl ?_
  refine J_iload_n (pc' := 89) rfl rfl rfl ?_
  obtain ⟨zg15, W⟩ := W
  refine J_iast (pc' := 90) rfl rfl (by decide) zg3 zg15 rfl (fun zs14 ezs14 => ?_)
  replace W := W zs14 ezs14
  refine J_aload_no (pc' := 91) rfl rfl zg1 rfl ?_
  refine J_iload (pc' := 93) rfl rfl rfl ?_
  refine J_iconst (pc' := 94) rfl (i32_d rfl) rfl ?_
  obtain ⟨zg16, W⟩ := W
  refine J_iadd (pc' := 95) rfl zg16 rfl ?_
  refine J_putI (G := 2004) (pc' := 98) rfl rfl (Nat.le_of_ble_eq_true rfl) rfl rfl zg1 rfl (fun zs17 ezs17 => ?_)
  replace W := W zs17 ezs17
  refine J_aload_no (pc' := 99) rfl rfl zg1 rfl ?_
  refine J_aload_no (pc' := 100) rfl rfl zg1 rfl ?_
  refine J_getI (G := 2003) (pc' := 103) rfl rfl (Nat.le_of_ble_eq_true rfl) rfl zg1 rfl ?_
  refine J_aload_no (pc' := 104) rfl rfl zg1 rfl ?_
  refine J_getI (G := 2004) (pc' := 107) rfl rfl (Nat.le_of_ble_eq_true rfl) rfl zg1 rfl ?_
  refine J_max (pc' := 110) rfl zg6 (Nat.le_of_ble_eq_true rfl) rfl ?_
  refine J_putI (G := 2003) (pc' := 113) rfl rfl (Nat.le_of_ble_eq_true rfl) rfl rfl zg1 rfl (fun zs18 ezs18 => ?_)
  replace W := W zs18 ezs18
  exact J_vret rfl rfl ⟨rfl, W⟩
theorem wp_Forest_init {n : Nat} {σ : jS} {Q : jS → Prop} {zo0 : Int} (W : 0 ≤ zo0 ∧ 1 ≤ n ∧ rk σ 6 < 2000000 ∧ 0 ≤ rk σ 6 ∧ (∀ zs3, zs3 = nO σ 6 → TrV (n - 1) i_Nodes_init [jo 6 (rk σ 6)] zs3 (fun zs6 => 0 ≤ rk σ 6 ∧ (∀ zs8, zs8 = ws zs6 3000 zo0 (rk σ 6) → (∀ zs10, zs10 = nA zs8 0 256 → (∀ zs11, zs11 = mA zs10 0 3001 zo0 → Q zs11)))))) : TrV n i_Forest_init [jo 3 zo0] σ Q := by
  refine Tr_of ax_Z_132 ?_
  show J n c_Forest_init none 0 [some (jo 3 zo0)] [] σ (qV Q)
  obtain ⟨zg1, W⟩ := W
  refine J_aload_no (pc' := 1) rfl rfl zg1 rfl ?_
  obtain ⟨zg2, W⟩ := W
  refine J_oinit (pc' := 4) rfl zg1 zg2 (Nat.le_of_ble_eq_true rfl) rfl ?_
  refine J_aload_no (pc' := 5) rfl rfl zg1 rfl ?_
  obtain ⟨zg4, W⟩ := W
  obtain ⟨zg5, W⟩ := W
  refine J_new (pc' := 8) rfl zg4 rfl (fun zs3 ezs3 => ?_)
  replace W := W zs3 ezs3
  refine J_dup (pc' := 9) rfl rfl rfl ?_
  refine J_callV (as := [jo 6 (rk σ 6)]) (rest := [jo 6 (rk σ 6), jo 3 zo0]) (pc' := 12) rfl rfl ax_Z_150 rfl rfl (Or.inr (Or.inr ⟨_, _, rfl, zg5⟩)) (Nat.le_of_ble_eq_true rfl) (Nat.le_of_ble_eq_true rfl) (Nat.le_of_ble_eq_true rfl) zg2 trivial trivial rfl W (fun zs6 W => ?_)
  obtain ⟨zg9, W⟩ := W
  refine J_putO (G := 3000) (pc' := 15) rfl rfl (Nat.le_of_ble_eq_true rfl) rfl rfl zg1 zg9 rfl (fun zs8 ezs8 => ?_)
  replace W := W zs8 ezs8
  refine J_aload_no (pc' := 16) rfl rfl zg1 rfl ?_
  refine J_sipush (pc' := 19) rfl (by decide) (by decide) rfl ?_
  refine J_newa (pc' := 21) rfl (by decide) (by decide) (by decide) trivial trivial rfl (fun zs10 ezs10 => ?_)
  replace W := W zs10 ezs10
  refine J_putT (G := 3001) (t := 0) (pc' := 24) rfl rfl (Nat.le_of_ble_eq_true rfl) rfl rfl rfl zg1 (Or.inl rfl) trivial trivial trivial trivial rfl (fun zs11 ezs11 => ?_)
  replace W := W zs11 ezs11
  exact J_vret rfl rfl ⟨rfl, W⟩
theorem wp_Forest_clear {n : Nat} {σ : jS} {Q : jS → Prop} {zo0 : Int} (W : 0 ≤ zo0 ∧ 0 ≤ rs σ 3000 zo0 ∧ (∀ zs3, zs3 = ws σ 6000 (rs σ 3000 zo0) 0 → (∀ zs4, zs4 = ws zs3 3002 zo0 0 → Q zs4))) : TrV n i_Forest_clear [jo 3 zo0] σ Q := by
  refine Tr_of ax_Z_133 ?_
  show J n c_Forest_clear none 0 [some (jo 3 zo0)] [] σ (qV Q)
  obtain ⟨zg1, W⟩ := W
  refine J_aload_no (pc' := 1) rfl rfl zg1 rfl ?_
  refine J_getO (G := 3000) (pc' := 4) rfl rfl (Nat.le_of_ble_eq_true rfl) rfl zg1 rfl ?_
  refine J_iconst (pc' := 5) rfl (i32_d rfl) rfl ?_
  obtain ⟨zg2, W⟩ := W
  refine J_putI (G := 6000) (pc' := 8) rfl rfl (Nat.le_of_ble_eq_true rfl) rfl rfl zg2 rfl (fun zs3 ezs3 => ?_)
  replace W := W zs3 ezs3
  refine J_aload_no (pc' := 9) rfl rfl zg1 rfl ?_
  refine J_iconst (pc' := 10) rfl (i32_d rfl) rfl ?_
  refine J_putI (G := 3002) (pc' := 13) rfl rfl (Nat.le_of_ble_eq_true rfl) rfl rfl zg1 rfl (fun zs4 ezs4 => ?_)
  replace W := W zs4 ezs4
  exact J_vret rfl rfl ⟨rfl, W⟩
theorem wp_Forest_add {n : Nat} {σ : jS} {Q : jS → Prop} {zo0 : Int} {zo1 : Int} {zo2 : Int} {zx3 : Int} {zx4 : Int} {zx5 : Int} (W : 0 ≤ zo0 ∧ 1 ≤ n ∧ 0 ≤ rs σ 3000 zo0 ∧ TrI (n - 1) i_Nodes_add [jo 6 (rs σ 3000 zo0)] σ (fun zr5 zs4 => 0 ≤ zo2 ∧ TrI (n - 1) i_Nodes_get [jo 6 zo2, ji zx3, ji 0] zs4 (fun zr8 zs7 => 0 ≤ rs zs4 3000 zo0 ∧ TrV (n - 1) i_Nodes_set [jo 6 (rs zs4 3000 zo0), ji zr5, ji 0, ji zr8] zs7 (fun zs10 => 0 ≤ rs zs10 3000 zo0 ∧ TrV (n - 1) i_Nodes_set [jo 6 (rs zs10 3000 zo0), ji zr5, ji 1, ji zx4] zs10 (fun zs13 => 0 ≤ rs zs13 3000 zo0 ∧ TrV (n - 1) i_Nodes_set [jo 6 (rs zs13 3000 zo0), ji zr5, ji 2, ji zx5] zs13 (fun zs16 => TrI (n - 1) i_Nodes_get [jo 6 zo2, ji zx3, ji 3] zs16 (fun zr19 zs18 => 0 ≤ rs zs16 3000 zo0 ∧ TrV (n - 1) i_Nodes_set [jo 6 (rs zs16 3000 zo0), ji zr5, ji 3, ji zr19] zs18 (fun zs21 => TrI (n - 1) i_Nodes_get [jo 6 zo2, ji zx3, ji 4] zs21 (fun zr24 zs23 => 0 ≤ rs zs21 3000 zo0 ∧ TrV (n - 1) i_Nodes_set [jo 6 (rs zs21 3000 zo0), ji zr5, ji 4, ji zr24] zs23 (fun zs26 => TrI (n - 1) i_Nodes_get [jo 6 zo2, ji zx3, ji 5] zs26 (fun zr29 zs28 => 0 ≤ rs zs26 3000 zo0 ∧ TrV (n - 1) i_Nodes_set [jo 6 (rs zs26 3000 zo0), ji zr5, ji 5, ji zr29] zs28 (fun zs31 => 0 ≤ rs zs31 3000 zo0 ∧ TrV (n - 1) i_Nodes_set [jo 6 (rs zs31 3000 zo0), ji zr5, ji 6, ji (rs zs31 3002 zo0)] zs31 (fun zs34 => 0 ≤ zo1 ∧ 0 ≤ rs zs34 3000 zo0 ∧ TrV (n - 1) i_Nodes_set [jo 6 (rs zs34 3000 zo0), ji zr5, ji 7, ji (min (rs zs34 1 zo1) 101)] zs34 (fun zs38 => J n c_Forest_add none 135 [some (jo 3 zo0), some (jo 0 zo1), none, none, none, none, none, some (ji 0)] [] zs38 (qV Q))))))))))))))) : TrV n i_Forest_add [jo 3 zo0, jo 0 zo1, jo 6 zo2, ji zx3, ji zx4, ji zx5] σ Q := by
  refine Tr_of ax_Z_134 ?_
  show J n c_Forest_add none 0 [some (jo 3 zo0), some (jo 0 zo1), some (jo 6 zo2), some (ji zx3), some (ji zx4), some (ji zx5), none, none] [] σ (qV Q)
  obtain ⟨zg1, W⟩ := W
  refine J_aload_no (pc' := 1) rfl rfl zg1 rfl ?_
  refine J_getO (G := 3000) (pc' := 4) rfl rfl (Nat.le_of_ble_eq_true rfl) rfl zg1 rfl ?_
  obtain ⟨zg2, W⟩ := W
  obtain ⟨zg3, W⟩ := W
  refine J_callI (as := [jo 6 (rs σ 3000 zo0)]) (rest := []) (pc' := 7) rfl rfl ax_Z_154 rfl rfl (Or.inr (Or.inr ⟨_, _, rfl, zg3⟩)) (Nat.le_of_ble_eq_true rfl) (Nat.le_of_ble_eq_true rfl) (Nat.le_of_ble_eq_true rfl) zg2 trivial trivial rfl W (fun zr5 zs4 W => ?_)
  refine J_istore (L' := [some (jo 3 zo0), some (jo 0 zo1), some (jo 6 zo2), some (ji zx3), some (ji zx4), some (ji zx5), some (ji zr5), none]) (pc' := 9) rfl (Nat.le_of_ble_eq_true rfl) rfl rfl ?_
  refine J_aload_no (pc' := 10) rfl rfl zg1 rfl ?_
  refine J_getO (G := 3000) (pc' := 13) rfl rfl (Nat.le_of_ble_eq_true rfl) rfl zg1 rfl ?_
  refine J_iload (pc' := 15) rfl rfl rfl ?_
  refine J_iconst (pc' := 16) rfl (i32_d rfl) rfl ?_
  obtain ⟨zg6, W⟩ := W
  refine J_aload_no (pc' := 17) rfl rfl zg6 rfl ?_
  refine J_iload_n (pc' := 18) rfl rfl rfl ?_
  refine J_iconst (pc' := 19) rfl (i32_d rfl) rfl ?_
  refine J_callI (as := [jo 6 zo2, ji zx3, ji 0]) (rest := [ji 0, ji zr5, jo 6 (rs zs4 3000 zo0)]) (pc' := 22) rfl rfl ax_Z_152 rfl rfl (Or.inr (Or.inr ⟨_, _, rfl, zg6⟩)) (Nat.le_of_ble_eq_true rfl) (Nat.le_of_ble_eq_true rfl) (Nat.le_of_ble_eq_true rfl) zg2 trivial trivial rfl W (fun zr8 zs7 W => ?_)
  obtain ⟨zg9, W⟩ := W
  refine J_callV (as := [jo 6 (rs zs4 3000 zo0), ji zr5, ji 0, ji zr8]) (rest := []) (pc' := 25) rfl rfl ax_Z_153 rfl rfl (Or.inr (Or.inr ⟨_, _, rfl, zg9⟩)) (Nat.le_of_ble_eq_true rfl) (Nat.le_of_ble_eq_true rfl) (Nat.le_of_ble_eq_true rfl) zg2 trivial trivial rfl W (fun zs10 W => ?_)
  refine J_aload_no (pc' := 26) rfl rfl zg1 rfl ?_
  refine J_getO (G := 3000) (pc' := 29) rfl rfl (Nat.le_of_ble_eq_true rfl) rfl zg1 rfl ?_
  refine J_iload (pc' := 31) rfl rfl rfl ?_
  refine J_iconst (pc' := 32) rfl (i32_d rfl) rfl ?_
  refine J_iload (pc' := 34) rfl rfl rfl ?_
  obtain ⟨zg12, W⟩ := W
  refine J_weak (L' := [some (jo 3 zo0), some (jo 0 zo1), some (jo 6 zo2), some (ji zx3), none, some (ji zx5), some (ji zr5), none]) (And.intro rfl (And.intro rfl (And.intro rfl (And.intro rfl (And.intro rfl (And.intro rfl trivial)))))) ?_
  refine J_callV (as := [jo 6 (rs zs10 3000 zo0), ji zr5, ji 1, ji zx4]) (rest := []) (pc' := 37) rfl rfl ax_Z_153 rfl rfl (Or.inr (Or.inr ⟨_, _, rfl, zg12⟩)) (Nat.le_of_ble_eq_true rfl) (Nat.le_of_ble_eq_true rfl) (Nat.le_of_ble_eq_true rfl) zg2 trivial trivial rfl W (fun zs13 W => ?_)
  refine J_aload_no (pc' := 38) rfl rfl zg1 rfl ?_
  refine J_getO (G := 3000) (pc' := 41) rfl rfl (Nat.le_of_ble_eq_true rfl) rfl zg1 rfl ?_
  refine J_iload (pc' := 43) rfl rfl rfl ?_
  refine J_iconst (pc' := 44) rfl (i32_d rfl) rfl ?_
  refine J_iload (pc' := 46) rfl rfl rfl ?_
  obtain ⟨zg15, W⟩ := W
  refine J_weak (L' := [some (jo 3 zo0), some (jo 0 zo1), some (jo 6 zo2), some (ji zx3), none, none, some (ji zr5), none]) (And.intro rfl (And.intro rfl (And.intro rfl (And.intro rfl (And.intro rfl trivial))))) ?_
  refine J_callV (as := [jo 6 (rs zs13 3000 zo0), ji zr5, ji 2, ji zx5]) (rest := []) (pc' := 49) rfl rfl ax_Z_153 rfl rfl (Or.inr (Or.inr ⟨_, _, rfl, zg15⟩)) (Nat.le_of_ble_eq_true rfl) (Nat.le_of_ble_eq_true rfl) (Nat.le_of_ble_eq_true rfl) zg2 trivial trivial rfl W (fun zs16 W => ?_)
  refine J_aload_no (pc' := 50) rfl rfl zg1 rfl ?_
  refine J_getO (G := 3000) (pc' := 53) rfl rfl (Nat.le_of_ble_eq_true rfl) rfl zg1 rfl ?_
  refine J_iload (pc' := 55) rfl rfl rfl ?_
  refine J_iconst (pc' := 56) rfl (i32_d rfl) rfl ?_
  refine J_aload_no (pc' := 57) rfl rfl zg6 rfl ?_
  refine J_iload_n (pc' := 58) rfl rfl rfl ?_
  refine J_iconst (pc' := 59) rfl (i32_d rfl) rfl ?_
  refine J_callI (as := [jo 6 zo2, ji zx3, ji 3]) (rest := [ji 3, ji zr5, jo 6 (rs zs16 3000 zo0)]) (pc' := 62) rfl rfl ax_Z_152 rfl rfl (Or.inr (Or.inr ⟨_, _, rfl, zg6⟩)) (Nat.le_of_ble_eq_true rfl) (Nat.le_of_ble_eq_true rfl) (Nat.le_of_ble_eq_true rfl) zg2 trivial trivial rfl W (fun zr19 zs18 W => ?_)
  obtain ⟨zg20, W⟩ := W
  refine J_callV (as := [jo 6 (rs zs16 3000 zo0), ji zr5, ji 3, ji zr19]) (rest := []) (pc' := 65) rfl rfl ax_Z_153 rfl rfl (Or.inr (Or.inr ⟨_, _, rfl, zg20⟩)) (Nat.le_of_ble_eq_true rfl) (Nat.le_of_ble_eq_true rfl) (Nat.le_of_ble_eq_true rfl) zg2 trivial trivial rfl W (fun zs21 W => ?_)
  refine J_aload_no (pc' := 66) rfl rfl zg1 rfl ?_
  refine J_getO (G := 3000) (pc' := 69) rfl rfl (Nat.le_of_ble_eq_true rfl) rfl zg1 rfl ?_
  refine J_iload (pc' := 71) rfl rfl rfl ?_
  refine J_iconst (pc' := 72) rfl (i32_d rfl) rfl ?_
  refine J_aload_no (pc' := 73) rfl rfl zg6 rfl ?_
  refine J_iload_n (pc' := 74) rfl rfl rfl ?_
  refine J_iconst (pc' := 75) rfl (i32_d rfl) rfl ?_
  refine J_callI (as := [jo 6 zo2, ji zx3, ji 4]) (rest := [ji 4, ji zr5, jo 6 (rs zs21 3000 zo0)]) (pc' := 78) rfl rfl ax_Z_152 rfl rfl (Or.inr (Or.inr ⟨_, _, rfl, zg6⟩)) (Nat.le_of_ble_eq_true rfl) (Nat.le_of_ble_eq_true rfl) (Nat.le_of_ble_eq_true rfl) zg2 trivial trivial rfl W (fun zr24 zs23 W => ?_)
  obtain ⟨zg25, W⟩ := W
  refine J_callV (as := [jo 6 (rs zs21 3000 zo0), ji zr5, ji 4, ji zr24]) (rest := []) (pc' := 81) rfl rfl ax_Z_153 rfl rfl (Or.inr (Or.inr ⟨_, _, rfl, zg25⟩)) (Nat.le_of_ble_eq_true rfl) (Nat.le_of_ble_eq_true rfl) (Nat.le_of_ble_eq_true rfl) zg2 trivial trivial rfl W (fun zs26 W => ?_)
  refine J_aload_no (pc' := 82) rfl rfl zg1 rfl ?_
  refine J_getO (G := 3000) (pc' := 85) rfl rfl (Nat.le_of_ble_eq_true rfl) rfl zg1 rfl ?_
  refine J_iload (pc' := 87) rfl rfl rfl ?_
  refine J_iconst (pc' := 88) rfl (i32_d rfl) rfl ?_
  refine J_aload_no (pc' := 89) rfl rfl zg6 rfl ?_
  refine J_iload_n (pc' := 90) rfl rfl rfl ?_
  refine J_iconst (pc' := 91) rfl (i32_d rfl) rfl ?_
  refine J_weak (L' := [some (jo 3 zo0), some (jo 0 zo1), none, none, none, none, some (ji zr5), none]) (And.intro rfl (And.intro rfl (And.intro rfl trivial))) ?_
  refine J_callI (as := [jo 6 zo2, ji zx3, ji 5]) (rest := [ji 5, ji zr5, jo 6 (rs zs26 3000 zo0)]) (pc' := 94) rfl rfl ax_Z_152 rfl rfl (Or.inr (Or.inr ⟨_, _, rfl, zg6⟩)) (Nat.le_of_ble_eq_true rfl) (Nat.le_of_ble_eq_true rfl) (Nat.le_of_ble_eq_true rfl) zg2 trivial trivial rfl W (fun zr29 zs28 W => ?_)
  obtain ⟨zg30, W⟩ := W
  refine J_callV (as := [jo 6 (rs zs26 3000 zo0), ji zr5, ji 5, ji zr29]) (rest := []) (pc' := 97) rfl rfl ax_Z_153 rfl rfl (Or.inr (Or.inr ⟨_, _, rfl, zg30⟩)) (Nat.le_of_ble_eq_true rfl) (Nat.le_of_ble_eq_true rfl) (Nat.le_of_ble_eq_true rfl) zg2 trivial trivial rfl W (fun zs31 W => ?_)
  refine J_aload_no (pc' := 98) rfl rfl zg1 rfl ?_
  refine J_getO (G := 3000) (pc' := 101) rfl rfl (Nat.le_of_ble_eq_true rfl) rfl zg1 rfl ?_
  refine J_iload (pc' := 103) rfl rfl rfl ?_
  refine J_bipush (pc' := 105) rfl (by decide) (by decide) rfl ?_
  refine J_aload_no (pc' := 106) rfl rfl zg1 rfl ?_
  refine J_getI (G := 3002) (pc' := 109) rfl rfl (Nat.le_of_ble_eq_true rfl) rfl zg1 rfl ?_
  obtain ⟨zg33, W⟩ := W
  refine J_callV (as := [jo 6 (rs zs31 3000 zo0), ji zr5, ji 6, ji (rs zs31 3002 zo0)]) (rest := []) (pc' := 112) rfl rfl ax_Z_153 rfl rfl (Or.inr (Or.inr ⟨_, _, rfl, zg33⟩)) (Nat.le_of_ble_eq_true rfl) (Nat.le_of_ble_eq_true rfl) (Nat.le_of_ble_eq_true rfl) zg2 trivial trivial rfl W (fun zs34 W => ?_)
  refine J_aload_no (pc' := 113) rfl rfl zg1 rfl ?_
  refine J_getO (G := 3000) (pc' := 116) rfl rfl (Nat.le_of_ble_eq_true rfl) rfl zg1 rfl ?_
  refine J_iload (pc' := 118) rfl rfl rfl ?_
  refine J_bipush (pc' := 120) rfl (by decide) (by decide) rfl ?_
  obtain ⟨zg36, W⟩ := W
  refine J_aload_no (pc' := 121) rfl rfl zg36 rfl ?_
  refine J_getI (G := 1) (pc' := 124) rfl rfl (Nat.le_of_ble_eq_true rfl) rfl zg36 rfl ?_
  refine J_bipush (pc' := 126) rfl (by decide) (by decide) rfl ?_
  refine J_min (pc' := 129) rfl zg2 (Nat.le_of_ble_eq_true rfl) rfl ?_
  obtain ⟨zg37, W⟩ := W
  refine J_weak (L' := [some (jo 3 zo0), some (jo 0 zo1), none, none, none, none, none, none]) (And.intro rfl (And.intro rfl trivial)) ?_
  refine J_callV (as := [jo 6 (rs zs34 3000 zo0), ji zr5, ji 7, ji (min (rs zs34 1 zo1) 101)]) (rest := []) (pc' := 132) rfl rfl ax_Z_153 rfl rfl (Or.inr (Or.inr ⟨_, _, rfl, zg37⟩)) (Nat.le_of_ble_eq_true rfl) (Nat.le_of_ble_eq_true rfl) (Nat.le_of_ble_eq_true rfl) zg2 trivial trivial rfl W (fun zs38 W => ?_)
  refine J_iconst (pc' := 133) rfl (i32_d rfl) rfl ?_
  refine J_istore (L' := [some (jo 3 zo0), some (jo 0 zo1), none, none, none, none, none, some (ji 0)]) (pc' := 135) rfl (Nat.le_of_ble_eq_true rfl) rfl rfl ?_
  exact W
theorem wp_Forest_add_135 {n : Nat} {σ : jS} {Q : jS → Prop} {zo0 : Int} {zo1 : Int} {zx7 : Int} (W : 0 ≤ zo1 ∧ (if rs σ 1 zo1 ≤ zx7 then Q σ else (if 100 < rs σ 1 zo1 then Q σ else 0 ≤ zo0 ∧ 1 ≤ n ∧ TrI (n - 1) i_Flat_at [jo 0 zo1, ji zx7] σ (fun zr5 zs4 => TrV (n - 1) i_Forest_addSign [jo 3 zo0, ji zr5] zs4 (fun zs6 => i32 (zx7 + 1) ∧ J n c_Forest_add none 135 [some (jo 3 zo0), some (jo 0 zo1), none, none, none, none, none, some (ji (zx7 + 1))] [] zs6 (qV Q)))))) : J n c_Forest_add none 135 [some (jo 3 zo0), some (jo 0 zo1), none, none, none, none, none, some (ji zx7)] [] σ (qV Q) := by
  refine J_iload (pc' := 137) rfl rfl rfl ?_
  obtain ⟨zg1, W⟩ := W
  refine J_aload_no (pc' := 138) rfl rfl zg1 rfl ?_
  refine J_getI (G := 1) (pc' := 141) rfl rfl (Nat.le_of_ble_eq_true rfl) rfl zg1 rfl ?_
  refine J_icmp (P := rs σ 1 zo1 ≤ zx7) (t := 169) (f := 144) rfl rfl rfl jc_ge W (fun W => ?_) (fun W => ?_)
  · exact J_vret rfl rfl ⟨rfl, W⟩
  · refine J_aload_no (pc' := 145) rfl rfl zg1 rfl ?_
    refine J_getI (G := 1) (pc' := 148) rfl rfl (Nat.le_of_ble_eq_true rfl) rfl zg1 rfl ?_
    refine J_bipush (pc' := 150) rfl (by decide) (by decide) rfl ?_
    refine J_icmp (P := 100 < rs σ 1 zo1) (t := 169) (f := 153) rfl rfl rfl jc_gt W (fun W => ?_) (fun W => ?_)
    · exact J_vret rfl rfl ⟨rfl, W⟩
    · obtain ⟨zg2, W⟩ := W
      refine J_aload_no (pc' := 154) rfl rfl zg2 rfl ?_
      refine J_aload_no (pc' := 155) rfl rfl zg1 rfl ?_
      refine J_iload (pc' := 157) rfl rfl rfl ?_
      obtain ⟨zg3, W⟩ := W
      refine J_callI (as := [jo 0 zo1, ji zx7]) (rest := [jo 3 zo0]) (pc' := 160) rfl rfl ax_Z_117 rfl rfl (Or.inr (Or.inr ⟨_, _, rfl, zg1⟩)) (Nat.le_of_ble_eq_true rfl) (Nat.le_of_ble_eq_true rfl) (Nat.le_of_ble_eq_true rfl) zg3 trivial trivial rfl W (fun zr5 zs4 W => ?_)
      refine J_callV (as := [jo 3 zo0, ji zr5]) (rest := []) (pc' := 163) rfl rfl ax_Z_135 rfl rfl (Or.inr (Or.inr ⟨_, _, rfl, zg2⟩)) (Nat.le_of_ble_eq_true rfl) (Nat.le_of_ble_eq_true rfl) (Nat.le_of_ble_eq_true rfl) zg3 trivial trivial rfl W (fun zs6 W => ?_)
      obtain ⟨zg8, W⟩ := W
      refine J_iinc (L' := [some (jo 3 zo0), some (jo 0 zo1), none, none, none, none, none, some (ji (zx7 + 1))]) (pc' := 166) rfl rfl zg8 rfl rfl ?_
      refine J_goto (pc' := 135) rfl rfl ?_
      exact W
theorem wp_Forest_addSign {n : Nat} {σ : jS} {Q : jS → Prop} {zo0 : Int} {zx1 : Int} (W : 0 ≤ zo0 ∧ 0 ≤ rl σ 3001 zo0 ∧ (if ¬ rs σ 3002 zo0 = rl σ 3001 zo0 then J n c_Forest_addSign none 40 [some (jo 3 zo0), some (ji zx1)] [] σ (qV Q) else (if 1048576 ≤ rl σ 3001 zo0 then J n c_Forest_addSign none 40 [some (jo 3 zo0), some (ji zx1)] [] σ (qV Q) else i32 ((rl σ 3001 zo0) * 2) ∧ 1 ≤ n ∧ TrA (n - 1) i_Arrays_copyOf [ja 3001 zo0, ji ((rl σ 3001 zo0) * 2)] σ (fun zF7 zp8 zs5 => (if zF7 = 900000 ∧ zp8 = 0 then ∀ zs9, zs9 = mA zs5 0 3001 zo0 → J n c_Forest_addSign none 40 [some (jo 3 zo0), some (ji zx1)] [] zs9 (qV Q) else (zF7 = 3001 ∧ zp8 = zo0) ∧ J n c_Forest_addSign none 40 [some (jo 3 zo0), some (ji zx1)] [] zs5 (qV Q)))))) : TrV n i_Forest_addSign [jo 3 zo0, ji zx1] σ Q := by
  refine Tr_of ax_Z_135 ?_
  show J n c_Forest_addSign none 0 [some (jo 3 zo0), some (ji zx1)] [] σ (qV Q)
  obtain ⟨zg1, W⟩ := W
  refine J_aload_no (pc' := 1) rfl rfl zg1 rfl ?_
  refine J_getI (G := 3002) (pc' := 4) rfl rfl (Nat.le_of_ble_eq_true rfl) rfl zg1 rfl ?_
  refine J_aload_no (pc' := 5) rfl rfl zg1 rfl ?_
  obtain ⟨zg2, W⟩ := W
  refine J_getA (G := 3001) (pc' := 8) rfl rfl (Nat.le_of_ble_eq_true rfl) rfl zg1 zg2 rfl ?_
  refine J_alen (pc' := 9) rfl (by decide) rfl ?_
  refine J_icmp (P := ¬ rs σ 3002 zo0 = rl σ 3001 zo0) (t := 40) (f := 12) rfl rfl rfl jc_ne W (fun W => ?_) (fun W => ?_)
  · exact W
  · refine J_aload_no (pc' := 13) rfl rfl zg1 rfl ?_
    refine J_getA (G := 3001) (pc' := 16) rfl rfl (Nat.le_of_ble_eq_true rfl) rfl zg1 zg2 rfl ?_
    refine J_alen (pc' := 17) rfl (by decide) rfl ?_
    refine J_ldc (pc' := 19) (Or.inl rfl) rfl (i32_d rfl) rfl ?_
    refine J_icmp (P := 1048576 ≤ rl σ 3001 zo0) (t := 40) (f := 22) rfl rfl rfl jc_ge W (fun W => ?_) (fun W => ?_)
    · exact W
    · refine J_aload_no (pc' := 23) rfl rfl zg1 rfl ?_
      refine J_aload_no (pc' := 24) rfl rfl zg1 rfl ?_
      refine J_getA (G := 3001) (pc' := 27) rfl rfl (Nat.le_of_ble_eq_true rfl) rfl zg1 zg2 rfl ?_
      refine J_aload_no (pc' := 28) rfl rfl zg1 rfl ?_
      refine J_getA (G := 3001) (pc' := 31) rfl rfl (Nat.le_of_ble_eq_true rfl) rfl zg1 zg2 rfl ?_
      refine J_alen (pc' := 32) rfl (by decide) rfl ?_
      refine J_iconst (pc' := 33) rfl (i32_d rfl) rfl ?_
      obtain ⟨zg3, W⟩ := W
      refine J_imul (pc' := 34) rfl zg3 rfl ?_
      obtain ⟨zg4, W⟩ := W
      refine J_callA (as := [ja 3001 zo0, ji ((rl σ 3001 zo0) * 2)]) (rest := [jo 3 zo0]) (pc' := 37) rfl rfl ax_Z_113 rfl rfl (Or.inl rfl) (Nat.le_of_ble_eq_true rfl) (Nat.le_of_ble_eq_true rfl) (Nat.le_of_ble_eq_true rfl) zg4 trivial trivial rfl W (fun zF7 zp8 zs5 W => ?_)
      by_cases zc11 : zF7 = 900000 ∧ zp8 = 0
      · rw [if_pos zc11] at W
        obtain ⟨rfl, rfl⟩ := zc11
        refine J_putT (G := 3001) (t := 0) (pc' := 40) rfl rfl (Nat.le_of_ble_eq_true rfl) rfl rfl rfl zg1 (Or.inl rfl) trivial trivial trivial trivial rfl (fun zs9 ezs9 => ?_)
        replace W := W zs9 ezs9
        exact W
      · rw [if_neg zc11] at W
        obtain ⟨⟨e1, e2⟩, W⟩ := W
        replace e2 := e2.symm
        subst e1 e2
        refine J_putS (G := 3001) (pc' := 40) rfl rfl (Nat.le_of_ble_eq_true rfl) rfl rfl zg1 rfl ?_
        exact W
theorem wp_Forest_addSign_40 {n : Nat} {σ : jS} {Q : jS → Prop} {zo0 : Int} {zx1 : Int} (W : 0 ≤ zo0 ∧ 0 ≤ rl σ 3001 zo0 ∧ (if rl σ 3001 zo0 ≤ rs σ 3002 zo0 then Q σ else 0 ≤ rs σ 3002 zo0 ∧ rs σ 3002 zo0 < rl σ 3001 zo0 ∧ (∀ zs3, zs3 = wa σ 3001 zo0 (rs σ 3002 zo0) zx1 → i32 ((rs zs3 3002 zo0) + 1) ∧ (∀ zs7, zs7 = ws zs3 3002 zo0 ((rs zs3 3002 zo0) + 1) → Q zs7)))) : J n c_Forest_addSign none 40 [some (jo 3 zo0), some (ji zx1)] [] σ (qV Q) := by
  obtain ⟨zg1, W⟩ := W
  refine J_aload_no (pc' := 41) rfl rfl zg1 rfl ?_
  refine J_getI (G := 3002) (pc' := 44) rfl rfl (Nat.le_of_ble_eq_true rfl) rfl zg1 rfl ?_
  refine J_aload_no (pc' := 45) rfl rfl zg1 rfl ?_
  obtain ⟨zg2, W⟩ := W
  refine J_getA (G := 3001) (pc' := 48) rfl rfl (Nat.le_of_ble_eq_true rfl) rfl zg1 zg2 rfl ?_
  refine J_alen (pc' := 49) rfl (by decide) rfl ?_
  refine J_icmp (P := rl σ 3001 zo0 ≤ rs σ 3002 zo0) (t := 72) (f := 52) rfl rfl rfl jc_ge W (fun W => ?_) (fun W => ?_)
  · exact J_vret rfl rfl ⟨rfl, W⟩
  · refine J_aload_no (pc' := 53) rfl rfl zg1 rfl ?_
    refine J_getA (G := 3001) (pc' := 56) rfl rfl (Nat.le_of_ble_eq_true rfl) rfl zg1 zg2 rfl ?_
    refine J_aload_no (pc' := 57) rfl rfl zg1 rfl ?_
    refine J_getI (G := 3002) (pc' := 60) rfl rfl (Nat.le_of_ble_eq_true rfl) rfl zg1 rfl ?_
    refine J_iload_n (pc' := 61) rfl rfl rfl ?_
    obtain ⟨zg4, W⟩ := W
    obtain ⟨zg5, W⟩ := W
    refine J_iast (pc' := 62) rfl rfl (by decide) zg4 zg5 rfl (fun zs3 ezs3 => ?_)
    replace W := W zs3 ezs3
    refine J_aload_no (pc' := 63) rfl rfl zg1 rfl ?_
    refine J_dup (pc' := 64) rfl rfl rfl ?_
    refine J_getI (G := 3002) (pc' := 67) rfl rfl (Nat.le_of_ble_eq_true rfl) rfl zg1 rfl ?_
    refine J_iconst (pc' := 68) rfl (i32_d rfl) rfl ?_
    obtain ⟨zg6, W⟩ := W
    refine J_iadd (pc' := 69) rfl zg6 rfl ?_
    refine J_putI (G := 3002) (pc' := 72) rfl rfl (Nat.le_of_ble_eq_true rfl) rfl rfl zg1 rfl (fun zs7 ezs7 => ?_)
    replace W := W zs7 ezs7
    exact J_vret rfl rfl ⟨rfl, W⟩
theorem wp_Forest_goalInto {n : Nat} {σ : jS} {Q : jS → Prop} {zo0 : Int} {zx1 : Int} {zo2 : Int} (W : 0 ≤ zo2 ∧ 1 ≤ n ∧ TrV (n - 1) i_Flat_clear [jo 0 zo2] σ (fun zs3 => 0 ≤ zo0 ∧ 0 ≤ rs zs3 3000 zo0 ∧ TrI (n - 1) i_Nodes_get [jo 6 (rs zs3 3000 zo0), ji zx1, ji 6] zs3 (fun zr8 zs7 => 0 ≤ rs zs7 3000 zo0 ∧ TrI (n - 1) i_Nodes_get [jo 6 (rs zs7 3000 zo0), ji zx1, ji 7] zs7 (fun zr11 zs10 => J n c_Forest_goalInto none 30 [some (jo 3 zo0), none, some (jo 0 zo2), some (ji zr8), some (ji zr11), some (ji 0), none] [] zs10 (qV Q))))) : TrV n i_Forest_goalInto [jo 3 zo0, ji zx1, jo 0 zo2] σ Q := by
  refine Tr_of ax_Z_136 ?_
  show J n c_Forest_goalInto none 0 [some (jo 3 zo0), some (ji zx1), some (jo 0 zo2), none, none, none, none] [] σ (qV Q)
  obtain ⟨zg1, W⟩ := W
  refine J_aload_no (pc' := 1) rfl rfl zg1 rfl ?_
  obtain ⟨zg2, W⟩ := W
  refine J_callV (as := [jo 0 zo2]) (rest := []) (pc' := 4) rfl rfl ax_Z_115 rfl rfl (Or.inr (Or.inr ⟨_, _, rfl, zg1⟩)) (Nat.le_of_ble_eq_true rfl) (Nat.le_of_ble_eq_true rfl) (Nat.le_of_ble_eq_true rfl) zg2 trivial trivial rfl W (fun zs3 W => ?_)
  obtain ⟨zg5, W⟩ := W
  refine J_aload_no (pc' := 5) rfl rfl zg5 rfl ?_
  refine J_getO (G := 3000) (pc' := 8) rfl rfl (Nat.le_of_ble_eq_true rfl) rfl zg5 rfl ?_
  refine J_iload_n (pc' := 9) rfl rfl rfl ?_
  refine J_bipush (pc' := 11) rfl (by decide) (by decide) rfl ?_
  obtain ⟨zg6, W⟩ := W
  refine J_callI (as := [jo 6 (rs zs3 3000 zo0), ji zx1, ji 6]) (rest := []) (pc' := 14) rfl rfl ax_Z_152 rfl rfl (Or.inr (Or.inr ⟨_, _, rfl, zg6⟩)) (Nat.le_of_ble_eq_true rfl) (Nat.le_of_ble_eq_true rfl) (Nat.le_of_ble_eq_true rfl) zg2 trivial trivial rfl W (fun zr8 zs7 W => ?_)
  refine J_istore_n (L' := [some (jo 3 zo0), some (ji zx1), some (jo 0 zo2), some (ji zr8), none, none, none]) (pc' := 15) rfl (Nat.le_of_ble_eq_true rfl) rfl rfl ?_
  refine J_aload_no (pc' := 16) rfl rfl zg5 rfl ?_
  refine J_getO (G := 3000) (pc' := 19) rfl rfl (Nat.le_of_ble_eq_true rfl) rfl zg5 rfl ?_
  refine J_iload_n (pc' := 20) rfl rfl rfl ?_
  refine J_bipush (pc' := 22) rfl (by decide) (by decide) rfl ?_
  obtain ⟨zg9, W⟩ := W
  refine J_weak (L' := [some (jo 3 zo0), none, some (jo 0 zo2), some (ji zr8), none, none, none]) (And.intro rfl (And.intro rfl (And.intro rfl trivial))) ?_
  refine J_callI (as := [jo 6 (rs zs7 3000 zo0), ji zx1, ji 7]) (rest := []) (pc' := 25) rfl rfl ax_Z_152 rfl rfl (Or.inr (Or.inr ⟨_, _, rfl, zg9⟩)) (Nat.le_of_ble_eq_true rfl) (Nat.le_of_ble_eq_true rfl) (Nat.le_of_ble_eq_true rfl) zg2 trivial trivial rfl W (fun zr11 zs10 W => ?_)
  refine J_istore (L' := [some (jo 3 zo0), none, some (jo 0 zo2), some (ji zr8), some (ji zr11), none, none]) (pc' := 27) rfl (Nat.le_of_ble_eq_true rfl) rfl rfl ?_
  refine J_iconst (pc' := 28) rfl (i32_d rfl) rfl ?_
  refine J_istore (L' := [some (jo 3 zo0), none, some (jo 0 zo2), some (ji zr8), some (ji zr11), some (ji 0), none]) (pc' := 30) rfl (Nat.le_of_ble_eq_true rfl) rfl rfl ?_
  exact W
theorem wp_Forest_goalInto_30 {n : Nat} {σ : jS} {Q : jS → Prop} {zo0 : Int} {zo2 : Int} {zx3 : Int} {zx4 : Int} {zx5 : Int} (W : (if zx4 ≤ zx5 then Q σ else i32 (zx3 + zx5) ∧ 0 ≤ zo2 ∧ (if 100 < zx4 then 1 ≤ n ∧ TrV (n - 1) i_Flat_add [jo 0 zo2, ji (-1)] σ (fun zs4 => i32 (zx5 + 1) ∧ J n c_Forest_goalInto none 30 [some (jo 3 zo0), none, some (jo 0 zo2), some (ji zx3), some (ji zx4), some (ji (zx5 + 1)), none] [] zs4 (qV Q)) else (if zx3 + zx5 < 0 then 1 ≤ n ∧ TrV (n - 1) i_Flat_add [jo 0 zo2, ji (-1)] σ (fun zs8 => i32 (zx5 + 1) ∧ J n c_Forest_goalInto none 30 [some (jo 3 zo0), none, some (jo 0 zo2), some (ji zx3), some (ji zx4), some (ji (zx5 + 1)), none] [] zs8 (qV Q)) else 0 ≤ zo0 ∧ (if rs σ 3002 zo0 ≤ zx3 + zx5 then 1 ≤ n ∧ TrV (n - 1) i_Flat_add [jo 0 zo2, ji (-1)] σ (fun zs13 => i32 (zx5 + 1) ∧ J n c_Forest_goalInto none 30 [some (jo 3 zo0), none, some (jo 0 zo2), some (ji zx3), some (ji zx4), some (ji (zx5 + 1)), none] [] zs13 (qV Q)) else 0 ≤ rl σ 3001 zo0 ∧ 0 ≤ zx3 + zx5 ∧ zx3 + zx5 < rl σ 3001 zo0 ∧ 1 ≤ n ∧ TrV (n - 1) i_Flat_add [jo 0 zo2, ji (ra σ 3001 zo0 (zx3 + zx5))] σ (fun zs20 => i32 (zx5 + 1) ∧ J n c_Forest_goalInto none 30 [some (jo 3 zo0), none, some (jo 0 zo2), some (ji zx3), some (ji zx4), some (ji (zx5 + 1)), none] [] zs20 (qV Q))))))) : J n c_Forest_goalInto none 30 [some (jo 3 zo0), none, some (jo 0 zo2), some (ji zx3), some (ji zx4), some (ji zx5), none] [] σ (qV Q) := by
  refine J_iload (pc' := 32) rfl rfl rfl ?_
  refine J_iload (pc' := 34) rfl rfl rfl ?_
  refine J_icmp (P := zx4 ≤ zx5) (t := 85) (f := 37) rfl rfl rfl jc_ge W (fun W => ?_) (fun W => ?_)
  · exact J_vret rfl rfl ⟨rfl, W⟩
  · refine J_iload_n (pc' := 38) rfl rfl rfl ?_
    refine J_iload (pc' := 40) rfl rfl rfl ?_
    obtain ⟨zg1, W⟩ := W
    refine J_iadd (pc' := 41) rfl zg1 rfl ?_
    refine J_istore (L' := [some (jo 3 zo0), none, some (jo 0 zo2), some (ji zx3), some (ji zx4), some (ji zx5), some (ji (zx3 + zx5))]) (pc' := 43) rfl (Nat.le_of_ble_eq_true rfl) rfl rfl ?_
    obtain ⟨zg2, W⟩ := W
    refine J_aload_no (pc' := 44) rfl rfl zg2 rfl ?_
    refine J_iload (pc' := 46) rfl rfl rfl ?_
    refine J_bipush (pc' := 48) rfl (by decide) (by decide) rfl ?_
    refine J_icmp (P := 100 < zx4) (t := 75) (f := 51) rfl rfl rfl jc_gt W (fun W => ?_) (fun W => ?_)
    · refine J_iconst (pc' := 76) rfl (i32_d rfl) rfl ?_
      obtain ⟨zg3, W⟩ := W
      refine J_weak (L' := [some (jo 3 zo0), none, some (jo 0 zo2), some (ji zx3), some (ji zx4), some (ji zx5), none]) (And.intro rfl (And.intro rfl (And.intro rfl (And.intro rfl (And.intro rfl trivial))))) ?_
      refine J_callV (as := [jo 0 zo2, ji (-1)]) (rest := []) (pc' := 79) rfl rfl ax_Z_116 rfl rfl (Or.inr (Or.inr ⟨_, _, rfl, zg2⟩)) (Nat.le_of_ble_eq_true rfl) (Nat.le_of_ble_eq_true rfl) (Nat.le_of_ble_eq_true rfl) zg3 trivial trivial rfl W (fun zs4 W => ?_)
      obtain ⟨zg6, W⟩ := W
      refine J_iinc (L' := [some (jo 3 zo0), none, some (jo 0 zo2), some (ji zx3), some (ji zx4), some (ji (zx5 + 1)), none]) (pc' := 82) rfl rfl zg6 rfl rfl ?_
      refine J_goto (pc' := 30) rfl rfl ?_
      exact W
    · refine J_iload (pc' := 53) rfl rfl rfl ?_
      refine J_if (P := zx3 + zx5 < 0) (t := 75) (f := 56) rfl rfl rfl jc_lt W (fun W => ?_) (fun W => ?_)
      · refine J_iconst (pc' := 76) rfl (i32_d rfl) rfl ?_
        obtain ⟨zg7, W⟩ := W
        refine J_weak (L' := [some (jo 3 zo0), none, some (jo 0 zo2), some (ji zx3), some (ji zx4), some (ji zx5), none]) (And.intro rfl (And.intro rfl (And.intro rfl (And.intro rfl (And.intro rfl trivial))))) ?_
        refine J_callV (as := [jo 0 zo2, ji (-1)]) (rest := []) (pc' := 79) rfl rfl ax_Z_116 rfl rfl (Or.inr (Or.inr ⟨_, _, rfl, zg2⟩)) (Nat.le_of_ble_eq_true rfl) (Nat.le_of_ble_eq_true rfl) (Nat.le_of_ble_eq_true rfl) zg7 trivial trivial rfl W (fun zs8 W => ?_)
        obtain ⟨zg10, W⟩ := W
        refine J_iinc (L' := [some (jo 3 zo0), none, some (jo 0 zo2), some (ji zx3), some (ji zx4), some (ji (zx5 + 1)), none]) (pc' := 82) rfl rfl zg10 rfl rfl ?_
        refine J_goto (pc' := 30) rfl rfl ?_
        exact W
      · refine J_iload (pc' := 58) rfl rfl rfl ?_
        obtain ⟨zg11, W⟩ := W
        refine J_aload_no (pc' := 59) rfl rfl zg11 rfl ?_
        refine J_getI (G := 3002) (pc' := 62) rfl rfl (Nat.le_of_ble_eq_true rfl) rfl zg11 rfl ?_
        refine J_icmp (P := rs σ 3002 zo0 ≤ zx3 + zx5) (t := 75) (f := 65) rfl rfl rfl jc_ge W (fun W => ?_) (fun W => ?_)
        · refine J_iconst (pc' := 76) rfl (i32_d rfl) rfl ?_
          obtain ⟨zg12, W⟩ := W
          refine J_weak (L' := [some (jo 3 zo0), none, some (jo 0 zo2), some (ji zx3), some (ji zx4), some (ji zx5), none]) (And.intro rfl (And.intro rfl (And.intro rfl (And.intro rfl (And.intro rfl trivial))))) ?_
          refine J_callV (as := [jo 0 zo2, ji (-1)]) (rest := []) (pc' := 79) rfl rfl ax_Z_116 rfl rfl (Or.inr (Or.inr ⟨_, _, rfl, zg2⟩)) (Nat.le_of_ble_eq_true rfl) (Nat.le_of_ble_eq_true rfl) (Nat.le_of_ble_eq_true rfl) zg12 trivial trivial rfl W (fun zs13 W => ?_)
          obtain ⟨zg15, W⟩ := W
          refine J_iinc (L' := [some (jo 3 zo0), none, some (jo 0 zo2), some (ji zx3), some (ji zx4), some (ji (zx5 + 1)), none]) (pc' := 82) rfl rfl zg15 rfl rfl ?_
          refine J_goto (pc' := 30) rfl rfl ?_
          exact W
        · refine J_aload_no (pc' := 66) rfl rfl zg11 rfl ?_
          obtain ⟨zg16, W⟩ := W
          refine J_getA (G := 3001) (pc' := 69) rfl rfl (Nat.le_of_ble_eq_true rfl) rfl zg11 zg16 rfl ?_
          refine J_iload (pc' := 71) rfl rfl rfl ?_
          obtain ⟨zg17, W⟩ := W
          obtain ⟨zg18, W⟩ := W
          refine J_iald (pc' := 72) rfl rfl zg17 zg18 rfl ?_
          refine J_goto (pc' := 76) rfl rfl ?_
          obtain ⟨zg19, W⟩ := W
          refine J_weak (L' := [some (jo 3 zo0), none, some (jo 0 zo2), some (ji zx3), some (ji zx4), some (ji zx5), none]) (And.intro rfl (And.intro rfl (And.intro rfl (And.intro rfl (And.intro rfl trivial))))) ?_
          refine J_callV (as := [jo 0 zo2, ji (ra σ 3001 zo0 (zx3 + zx5))]) (rest := []) (pc' := 79) rfl rfl ax_Z_116 rfl rfl (Or.inr (Or.inr ⟨_, _, rfl, zg2⟩)) (Nat.le_of_ble_eq_true rfl) (Nat.le_of_ble_eq_true rfl) (Nat.le_of_ble_eq_true rfl) zg19 trivial trivial rfl W (fun zs20 W => ?_)
          obtain ⟨zg22, W⟩ := W
          refine J_iinc (L' := [some (jo 3 zo0), none, some (jo 0 zo2), some (ji zx3), some (ji zx4), some (ji (zx5 + 1)), none]) (pc' := 82) rfl rfl zg22 rfl rfl ?_
          refine J_goto (pc' := 30) rfl rfl ?_
          exact W
theorem wp_Forest_deepest {n : Nat} {σ : jS} {Q : Int → jS → Prop} {zo0 : Int} (W : J n c_Forest_deepest (some .int) 4 [some (jo 3 zo0), some (ji 0), some (ji 0)] [] σ (qI Q)) : TrI n i_Forest_deepest [jo 3 zo0] σ Q := by
  refine Tr_of ax_Z_137 ?_
  show J n c_Forest_deepest (some .int) 0 [some (jo 3 zo0), none, none] [] σ (qI Q)
  refine J_iconst (pc' := 1) rfl (i32_d rfl) rfl ?_
  refine J_istore_n (L' := [some (jo 3 zo0), some (ji 0), none]) (pc' := 2) rfl (Nat.le_of_ble_eq_true rfl) rfl rfl ?_
  refine J_iconst (pc' := 3) rfl (i32_d rfl) rfl ?_
  refine J_istore_n (L' := [some (jo 3 zo0), some (ji 0), some (ji 0)]) (pc' := 4) rfl (Nat.le_of_ble_eq_true rfl) rfl rfl ?_
  exact W
theorem wp_Forest_deepest_4 {n : Nat} {σ : jS} {Q : Int → jS → Prop} {zo0 : Int} {zx1 : Int} {zx2 : Int} (W : 0 ≤ zo0 ∧ 0 ≤ rs σ 3000 zo0 ∧ (if rs σ 6000 (rs σ 3000 zo0) ≤ zx2 then Q zx1 σ else 1 ≤ n ∧ TrI (n - 1) i_Forest_deepOf [jo 3 zo0, ji zx2] σ (fun zr5 zs4 => i32 (zx2 + 1) ∧ J n c_Forest_deepest (some .int) 4 [some (jo 3 zo0), some (ji (max zx1 zr5)), some (ji (zx2 + 1))] [] zs4 (qI Q)))) : J n c_Forest_deepest (some .int) 4 [some (jo 3 zo0), some (ji zx1), some (ji zx2)] [] σ (qI Q) := by
  refine J_iload_n (pc' := 5) rfl rfl rfl ?_
  obtain ⟨zg1, W⟩ := W
  refine J_aload_no (pc' := 6) rfl rfl zg1 rfl ?_
  refine J_getO (G := 3000) (pc' := 9) rfl rfl (Nat.le_of_ble_eq_true rfl) rfl zg1 rfl ?_
  obtain ⟨zg2, W⟩ := W
  refine J_getI (G := 6000) (pc' := 12) rfl rfl (Nat.le_of_ble_eq_true rfl) rfl zg2 rfl ?_
  refine J_icmp (P := rs σ 6000 (rs σ 3000 zo0) ≤ zx2) (t := 31) (f := 15) rfl rfl rfl jc_ge W (fun W => ?_) (fun W => ?_)
  · refine J_iload_n (pc' := 32) rfl rfl rfl ?_
    exact J_iret rfl rfl ⟨_, rfl, W⟩
  · refine J_iload_n (pc' := 16) rfl rfl rfl ?_
    refine J_aload_no (pc' := 17) rfl rfl zg1 rfl ?_
    refine J_iload_n (pc' := 18) rfl rfl rfl ?_
    obtain ⟨zg3, W⟩ := W
    refine J_weak (L' := [some (jo 3 zo0), none, some (ji zx2)]) (And.intro rfl (And.intro rfl trivial)) ?_
    refine J_callI (as := [jo 3 zo0, ji zx2]) (rest := [ji zx1]) (pc' := 21) rfl rfl ax_Z_138 rfl rfl (Or.inr (Or.inr ⟨_, _, rfl, zg1⟩)) (Nat.le_of_ble_eq_true rfl) (Nat.le_of_ble_eq_true rfl) (Nat.le_of_ble_eq_true rfl) zg3 trivial trivial rfl W (fun zr5 zs4 W => ?_)
    refine J_max (pc' := 24) rfl zg3 (Nat.le_of_ble_eq_true rfl) rfl ?_
    refine J_istore_n (L' := [some (jo 3 zo0), some (ji (max zx1 zr5)), some (ji zx2)]) (pc' := 25) rfl (Nat.le_of_ble_eq_true rfl) rfl rfl ?_
    obtain ⟨zg6, W⟩ := W
    refine J_iinc (L' := [some (jo 3 zo0), some (ji (max zx1 zr5)), some (ji (zx2 + 1))]) (pc' := 28) rfl rfl zg6 rfl rfl ?_
    refine J_goto (pc' := 4) rfl rfl ?_
    exact W
theorem wp_Forest_deepOf {n : Nat} {σ : jS} {Q : Int → jS → Prop} {zo0 : Int} {zx1 : Int} (W : 0 ≤ zo0 ∧ 1 ≤ n ∧ 0 ≤ rs σ 3000 zo0 ∧ TrI (n - 1) i_Nodes_get [jo 6 (rs σ 3000 zo0), ji zx1, ji 1] σ (fun zr5 zs4 => J n c_Forest_deepOf (some .int) 15 [some (jo 3 zo0), none, some (ji 0), some (ji zr5), some (ji 0)] [] zs4 (qI Q))) : TrI n i_Forest_deepOf [jo 3 zo0, ji zx1] σ Q := by
  refine Tr_of ax_Z_138 ?_
  show J n c_Forest_deepOf (some .int) 0 [some (jo 3 zo0), some (ji zx1), none, none, none] [] σ (qI Q)
  refine J_iconst (pc' := 1) rfl (i32_d rfl) rfl ?_
  refine J_istore_n (L' := [some (jo 3 zo0), some (ji zx1), some (ji 0), none, none]) (pc' := 2) rfl (Nat.le_of_ble_eq_true rfl) rfl rfl ?_
  obtain ⟨zg1, W⟩ := W
  refine J_aload_no (pc' := 3) rfl rfl zg1 rfl ?_
  refine J_getO (G := 3000) (pc' := 6) rfl rfl (Nat.le_of_ble_eq_true rfl) rfl zg1 rfl ?_
  refine J_iload_n (pc' := 7) rfl rfl rfl ?_
  refine J_iconst (pc' := 8) rfl (i32_d rfl) rfl ?_
  obtain ⟨zg2, W⟩ := W
  obtain ⟨zg3, W⟩ := W
  refine J_weak (L' := [some (jo 3 zo0), none, some (ji 0), none, none]) (And.intro rfl (And.intro rfl trivial)) ?_
  refine J_callI (as := [jo 6 (rs σ 3000 zo0), ji zx1, ji 1]) (rest := []) (pc' := 11) rfl rfl ax_Z_152 rfl rfl (Or.inr (Or.inr ⟨_, _, rfl, zg3⟩)) (Nat.le_of_ble_eq_true rfl) (Nat.le_of_ble_eq_true rfl) (Nat.le_of_ble_eq_true rfl) zg2 trivial trivial rfl W (fun zr5 zs4 W => ?_)
  refine J_istore_n (L' := [some (jo 3 zo0), none, some (ji 0), some (ji zr5), none]) (pc' := 12) rfl (Nat.le_of_ble_eq_true rfl) rfl rfl ?_
  refine J_iconst (pc' := 13) rfl (i32_d rfl) rfl ?_
  refine J_istore (L' := [some (jo 3 zo0), none, some (ji 0), some (ji zr5), some (ji 0)]) (pc' := 15) rfl (Nat.le_of_ble_eq_true rfl) rfl rfl ?_
  exact W
theorem wp_Forest_deepOf_15 {n : Nat} {σ : jS} {Q : Int → jS → Prop} {zo0 : Int} {zx2 : Int} {zx3 : Int} {zx4 : Int} (W : (if 200 ≤ zx4 then Q zx2 σ else (if zx3 = (-1) then Q zx2 σ else i32 (zx2 + 1) ∧ 0 ≤ zo0 ∧ 1 ≤ n ∧ 0 ≤ rs σ 3000 zo0 ∧ TrI (n - 1) i_Nodes_get [jo 6 (rs σ 3000 zo0), ji zx3, ji 1] σ (fun zr6 zs5 => i32 (zx4 + 1) ∧ J n c_Forest_deepOf (some .int) 15 [some (jo 3 zo0), none, some (ji (zx2 + 1)), some (ji zr6), some (ji (zx4 + 1))] [] zs5 (qI Q))))) : J n c_Forest_deepOf (some .int) 15 [some (jo 3 zo0), none, some (ji zx2), some (ji zx3), some (ji zx4)] [] σ (qI Q) := by
  refine J_iload (pc' := 17) rfl rfl rfl ?_
  refine J_sipush (pc' := 20) rfl (by decide) (by decide) rfl ?_
  refine J_icmp (P := 200 ≤ zx4) (t := 47) (f := 23) rfl rfl rfl jc_ge W (fun W => ?_) (fun W => ?_)
  · refine J_iload_n (pc' := 48) rfl rfl rfl ?_
    exact J_iret rfl rfl ⟨_, rfl, W⟩
  · refine J_iload_n (pc' := 24) rfl rfl rfl ?_
    refine J_iconst (pc' := 25) rfl (i32_d rfl) rfl ?_
    refine J_icmp (P := zx3 = (-1)) (t := 47) (f := 28) rfl rfl rfl jc_eq W (fun W => ?_) (fun W => ?_)
    · refine J_iload_n (pc' := 48) rfl rfl rfl ?_
      exact J_iret rfl rfl ⟨_, rfl, W⟩
    · obtain ⟨zg1, W⟩ := W
      refine J_iinc (L' := [some (jo 3 zo0), none, some (ji (zx2 + 1)), some (ji zx3), some (ji zx4)]) (pc' := 31) rfl rfl zg1 rfl rfl ?_
      obtain ⟨zg2, W⟩ := W
      refine J_aload_no (pc' := 32) rfl rfl zg2 rfl ?_
      refine J_getO (G := 3000) (pc' := 35) rfl rfl (Nat.le_of_ble_eq_true rfl) rfl zg2 rfl ?_
      refine J_iload_n (pc' := 36) rfl rfl rfl ?_
      refine J_iconst (pc' := 37) rfl (i32_d rfl) rfl ?_
      obtain ⟨zg3, W⟩ := W
      obtain ⟨zg4, W⟩ := W
      refine J_weak (L' := [some (jo 3 zo0), none, some (ji (zx2 + 1)), none, some (ji zx4)]) (And.intro rfl (And.intro rfl (And.intro rfl trivial))) ?_
      refine J_callI (as := [jo 6 (rs σ 3000 zo0), ji zx3, ji 1]) (rest := []) (pc' := 40) rfl rfl ax_Z_152 rfl rfl (Or.inr (Or.inr ⟨_, _, rfl, zg4⟩)) (Nat.le_of_ble_eq_true rfl) (Nat.le_of_ble_eq_true rfl) (Nat.le_of_ble_eq_true rfl) zg3 trivial trivial rfl W (fun zr6 zs5 W => ?_)
      refine J_istore_n (L' := [some (jo 3 zo0), none, some (ji (zx2 + 1)), some (ji zr6), some (ji zx4)]) (pc' := 41) rfl (Nat.le_of_ble_eq_true rfl) rfl rfl ?_
      obtain ⟨zg7, W⟩ := W
      refine J_iinc (L' := [some (jo 3 zo0), none, some (ji (zx2 + 1)), some (ji zr6), some (ji (zx4 + 1))]) (pc' := 44) rfl rfl zg7 rfl rfl ?_
      refine J_goto (pc' := 15) rfl rfl ?_
      exact W
theorem wp_Forest_unlikeGivens {n : Nat} {σ : jS} {Q : Int → jS → Prop} {zo0 : Int} (W : J n c_Forest_unlikeGivens (some .int) 4 [some (jo 3 zo0), some (ji 0), some (ji 0)] [] σ (qI Q)) : TrI n i_Forest_unlikeGivens [jo 3 zo0] σ Q := by
  refine Tr_of ax_Z_139 ?_
  show J n c_Forest_unlikeGivens (some .int) 0 [some (jo 3 zo0), none, none] [] σ (qI Q)
  refine J_iconst (pc' := 1) rfl (i32_d rfl) rfl ?_
  refine J_istore_n (L' := [some (jo 3 zo0), some (ji 0), none]) (pc' := 2) rfl (Nat.le_of_ble_eq_true rfl) rfl rfl ?_
  refine J_iconst (pc' := 3) rfl (i32_d rfl) rfl ?_
  refine J_istore_n (L' := [some (jo 3 zo0), some (ji 0), some (ji 0)]) (pc' := 4) rfl (Nat.le_of_ble_eq_true rfl) rfl rfl ?_
  exact W
theorem wp_Forest_unlikeGivens_4 {n : Nat} {σ : jS} {Q : Int → jS → Prop} {zo0 : Int} {zx1 : Int} {zx2 : Int} (W : 0 ≤ zo0 ∧ 0 ≤ rs σ 3000 zo0 ∧ (if rs σ 6000 (rs σ 3000 zo0) ≤ zx2 then 1 ≤ n ∧ TrI (n - 1) i_Integer_bitCount [ji zx1] σ (fun zr5 zs4 => Q zr5 zs4) else 1 ≤ n ∧ TrI (n - 1) i_Nodes_get [jo 6 (rs σ 3000 zo0), ji zx2, ji 0] σ (fun zr8 zs7 => i32 (zx2 + 1) ∧ J n c_Forest_unlikeGivens (some .int) 4 [some (jo 3 zo0), some (ji (bOr zx1 (bShl 1 zr8))), some (ji (zx2 + 1))] [] zs7 (qI Q)))) : J n c_Forest_unlikeGivens (some .int) 4 [some (jo 3 zo0), some (ji zx1), some (ji zx2)] [] σ (qI Q) := by
  refine J_iload_n (pc' := 5) rfl rfl rfl ?_
  obtain ⟨zg1, W⟩ := W
  refine J_aload_no (pc' := 6) rfl rfl zg1 rfl ?_
  refine J_getO (G := 3000) (pc' := 9) rfl rfl (Nat.le_of_ble_eq_true rfl) rfl zg1 rfl ?_
  obtain ⟨zg2, W⟩ := W
  refine J_getI (G := 6000) (pc' := 12) rfl rfl (Nat.le_of_ble_eq_true rfl) rfl zg2 rfl ?_
  refine J_icmp (P := rs σ 6000 (rs σ 3000 zo0) ≤ zx2) (t := 35) (f := 15) rfl rfl rfl jc_ge W (fun W => ?_) (fun W => ?_)
  · refine J_iload_n (pc' := 36) rfl rfl rfl ?_
    obtain ⟨zg3, W⟩ := W
    refine J_weak (L' := [none, none, none]) trivial ?_
    refine J_callI (as := [ji zx1]) (rest := []) (pc' := 39) rfl rfl ax_Z_111 rfl rfl (Or.inl rfl) (Nat.le_of_ble_eq_true rfl) (Nat.le_of_ble_eq_true rfl) (Nat.le_of_ble_eq_true rfl) zg3 trivial trivial rfl W (fun zr5 zs4 W => ?_)
    exact J_iret rfl rfl ⟨_, rfl, W⟩
  · refine J_iload_n (pc' := 16) rfl rfl rfl ?_
    refine J_iconst (pc' := 17) rfl (i32_d rfl) rfl ?_
    refine J_aload_no (pc' := 18) rfl rfl zg1 rfl ?_
    refine J_getO (G := 3000) (pc' := 21) rfl rfl (Nat.le_of_ble_eq_true rfl) rfl zg1 rfl ?_
    refine J_iload_n (pc' := 22) rfl rfl rfl ?_
    refine J_iconst (pc' := 23) rfl (i32_d rfl) rfl ?_
    obtain ⟨zg6, W⟩ := W
    refine J_weak (L' := [some (jo 3 zo0), none, some (ji zx2)]) (And.intro rfl (And.intro rfl trivial)) ?_
    refine J_callI (as := [jo 6 (rs σ 3000 zo0), ji zx2, ji 0]) (rest := [ji 1, ji zx1]) (pc' := 26) rfl rfl ax_Z_152 rfl rfl (Or.inr (Or.inr ⟨_, _, rfl, zg2⟩)) (Nat.le_of_ble_eq_true rfl) (Nat.le_of_ble_eq_true rfl) (Nat.le_of_ble_eq_true rfl) zg6 trivial trivial rfl W (fun zr8 zs7 W => ?_)
    refine J_ishl (pc' := 27) rfl rfl ?_
    refine J_ior (pc' := 28) rfl rfl ?_
    refine J_istore_n (L' := [some (jo 3 zo0), some (ji (bOr zx1 (bShl 1 zr8))), some (ji zx2)]) (pc' := 29) rfl (Nat.le_of_ble_eq_true rfl) rfl rfl ?_
    obtain ⟨zg9, W⟩ := W
    refine J_iinc (L' := [some (jo 3 zo0), some (ji (bOr zx1 (bShl 1 zr8))), some (ji (zx2 + 1))]) (pc' := 32) rfl rfl zg9 rfl rfl ?_
    refine J_goto (pc' := 4) rfl rfl ?_
    exact W
theorem wp_Match_init {n : Nat} {σ : jS} {Q : jS → Prop} {zo0 : Int} (W : 0 ≤ zo0 ∧ 1 ≤ n ∧ (∀ zs3, zs3 = nA σ 0 26 → rl zs3 4000 zo0 < 0 ∧ (∀ zs4, zs4 = mA zs3 0 4000 zo0 → Q zs4))) : TrV n i_Match_init [jo 4 zo0] σ Q := by
  refine Tr_of ax_Z_140 ?_
  show J n c_Match_init none 0 [some (jo 4 zo0)] [] σ (qV Q)
  obtain ⟨zg1, W⟩ := W
  refine J_aload_no (pc' := 1) rfl rfl zg1 rfl ?_
  obtain ⟨zg2, W⟩ := W
  refine J_oinit (pc' := 4) rfl zg1 zg2 (Nat.le_of_ble_eq_true rfl) rfl ?_
  refine J_aload_no (pc' := 5) rfl rfl zg1 rfl ?_
  refine J_bipush (pc' := 7) rfl (by decide) (by decide) rfl ?_
  refine J_newa (pc' := 9) rfl (by decide) (by decide) (by decide) trivial trivial rfl (fun zs3 ezs3 => ?_)
  replace W := W zs3 ezs3
  obtain ⟨zg5, W⟩ := W
  refine J_putT (G := 4000) (t := 0) (pc' := 12) rfl rfl (Nat.le_of_ble_eq_true rfl) rfl rfl rfl zg1 (Or.inr zg5) trivial trivial trivial trivial rfl (fun zs4 ezs4 => ?_)
  replace W := W zs4 ezs4
  exact J_vret rfl rfl ⟨rfl, W⟩
theorem wp_Match_becomes {n : Nat} {σ : jS} {Q : Int → jS → Prop} {zo0 : Int} {zo1 : Int} {zo2 : Int} (W : 0 ≤ zo0 ∧ 0 ≤ rl σ 4000 zo0 ∧ 1 ≤ n ∧ TrV (n - 1) i_Arrays_fill [ja 4000 zo0, ji (-1)] σ (fun zs4 => J n c_Match_becomes (some .boolean) 13 [some (jo 4 zo0), some (jo 0 zo1), some (jo 0 zo2), some (ji 0), some (ji 0), none] [] zs4 (qI Q))) : TrI n i_Match_becomes [jo 4 zo0, jo 0 zo1, jo 0 zo2] σ Q := by
  refine Tr_of ax_Z_141 ?_
  show J n c_Match_becomes (some .boolean) 0 [some (jo 4 zo0), some (jo 0 zo1), some (jo 0 zo2), none, none, none] [] σ (qI Q)
  obtain ⟨zg1, W⟩ := W
  refine J_aload_no (pc' := 1) rfl rfl zg1 rfl ?_
  obtain ⟨zg2, W⟩ := W
  refine J_getA (G := 4000) (pc' := 4) rfl rfl (Nat.le_of_ble_eq_true rfl) rfl zg1 zg2 rfl ?_
  refine J_iconst (pc' := 5) rfl (i32_d rfl) rfl ?_
  obtain ⟨zg3, W⟩ := W
  refine J_callV (as := [ja 4000 zo0, ji (-1)]) (rest := []) (pc' := 8) rfl rfl ax_Z_112 rfl rfl (Or.inl rfl) (Nat.le_of_ble_eq_true rfl) (Nat.le_of_ble_eq_true rfl) (Nat.le_of_ble_eq_true rfl) zg3 trivial trivial rfl W (fun zs4 W => ?_)
  refine J_iconst (pc' := 9) rfl (i32_d rfl) rfl ?_
  refine J_istore_n (L' := [some (jo 4 zo0), some (jo 0 zo1), some (jo 0 zo2), some (ji 0), none, none]) (pc' := 10) rfl (Nat.le_of_ble_eq_true rfl) rfl rfl ?_
  refine J_iconst (pc' := 11) rfl (i32_d rfl) rfl ?_
  refine J_istore (L' := [some (jo 4 zo0), some (jo 0 zo1), some (jo 0 zo2), some (ji 0), some (ji 0), none]) (pc' := 13) rfl (Nat.le_of_ble_eq_true rfl) rfl rfl ?_
  exact W
theorem wp_Match_becomes_13 {n : Nat} {σ : jS} {Q : Int → jS → Prop} {zo0 : Int} {zo1 : Int} {zo2 : Int} {zx3 : Int} {zx4 : Int} (W : 0 ≤ zo1 ∧ (if rs σ 1 zo1 ≤ zx4 then Q 1 σ else 1 ≤ n ∧ TrI (n - 1) i_Flat_at [jo 0 zo1, ji zx4] σ (fun zr4 zs3 => (if zr4 < 104 then 0 ≤ zo2 ∧ TrI (n - 1) i_Flat_at [jo 0 zo2, ji zx3] zs3 (fun zr7 zs6 => (if ¬ zr4 = zr7 then Q 0 zs6 else i32 (zx3 + 1) ∧ i32 (zx4 + 1) ∧ J n c_Match_becomes (some .boolean) 13 [some (jo 4 zo0), some (jo 0 zo1), some (jo 0 zo2), some (ji (zx3 + 1)), some (ji (zx4 + 1)), none] [] zs6 (qI Q))) else 0 ≤ zo0 ∧ i32 (zr4 - 104) ∧ 0 ≤ zo2 ∧ TrI (n - 1) i_Match_put [jo 4 zo0, ji (zr4 - 104), jo 0 zo2, ji zx3] zs3 (fun zr14 zs13 => (if ¬ zr14 = 0 then TrI (n - 1) i_Flat_behind [jo 0 zo2, ji zx3] zs13 (fun zr16 zs15 => i32 (zx4 + 1) ∧ J n c_Match_becomes (some .boolean) 13 [some (jo 4 zo0), some (jo 0 zo1), some (jo 0 zo2), some (ji zr16), some (ji (zx4 + 1)), none] [] zs15 (qI Q)) else Q 0 zs13)))))) : J n c_Match_becomes (some .boolean) 13 [some (jo 4 zo0), some (jo 0 zo1), some (jo 0 zo2), some (ji zx3), some (ji zx4), none] [] σ (qI Q) := by
  refine J_iload (pc' := 15) rfl rfl rfl ?_
  obtain ⟨zg1, W⟩ := W
  refine J_aload_no (pc' := 16) rfl rfl zg1 rfl ?_
  refine J_getI (G := 1) (pc' := 19) rfl rfl (Nat.le_of_ble_eq_true rfl) rfl zg1 rfl ?_
  refine J_icmp (P := rs σ 1 zo1 ≤ zx4) (t := 86) (f := 22) rfl rfl rfl jc_ge W (fun W => ?_) (fun W => ?_)
  · refine J_iconst (pc' := 87) rfl (i32_d rfl) rfl ?_
    exact J_zret rfl rfl (Or.inr rfl) ⟨_, rfl, W⟩
  · refine J_aload_no (pc' := 23) rfl rfl zg1 rfl ?_
    refine J_iload (pc' := 25) rfl rfl rfl ?_
    obtain ⟨zg2, W⟩ := W
    refine J_callI (as := [jo 0 zo1, ji zx4]) (rest := []) (pc' := 28) rfl rfl ax_Z_117 rfl rfl (Or.inr (Or.inr ⟨_, _, rfl, zg1⟩)) (Nat.le_of_ble_eq_true rfl) (Nat.le_of_ble_eq_true rfl) (Nat.le_of_ble_eq_true rfl) zg2 trivial trivial rfl W (fun zr4 zs3 W => ?_)
    refine J_istore (L' := [some (jo 4 zo0), some (jo 0 zo1), some (jo 0 zo2), some (ji zx3), some (ji zx4), some (ji zr4)]) (pc' := 30) rfl (Nat.le_of_ble_eq_true rfl) rfl rfl ?_
    refine J_iload (pc' := 32) rfl rfl rfl ?_
    refine J_bipush (pc' := 34) rfl (by decide) (by decide) rfl ?_
    refine J_icmp (P := zr4 < 104) (t := 62) (f := 37) rfl rfl rfl jc_lt W (fun W => ?_) (fun W => ?_)
    · refine J_iload (pc' := 64) rfl rfl rfl ?_
      obtain ⟨zg5, W⟩ := W
      refine J_aload_no (pc' := 65) rfl rfl zg5 rfl ?_
      refine J_iload_n (pc' := 66) rfl rfl rfl ?_
      refine J_weak (L' := [some (jo 4 zo0), some (jo 0 zo1), some (jo 0 zo2), some (ji zx3), some (ji zx4), none]) (And.intro rfl (And.intro rfl (And.intro rfl (And.intro rfl (And.intro rfl trivial))))) ?_
      refine J_callI (as := [jo 0 zo2, ji zx3]) (rest := [ji zr4]) (pc' := 69) rfl rfl ax_Z_117 rfl rfl (Or.inr (Or.inr ⟨_, _, rfl, zg5⟩)) (Nat.le_of_ble_eq_true rfl) (Nat.le_of_ble_eq_true rfl) (Nat.le_of_ble_eq_true rfl) zg2 trivial trivial rfl W (fun zr7 zs6 W => ?_)
      refine J_icmp (P := ¬ zr4 = zr7) (t := 78) (f := 72) rfl rfl rfl jc_ne W (fun W => ?_) (fun W => ?_)
      · refine J_iconst (pc' := 79) rfl (i32_d rfl) rfl ?_
        exact J_zret rfl rfl (Or.inl rfl) ⟨_, rfl, W⟩
      · obtain ⟨zg8, W⟩ := W
        refine J_iinc (L' := [some (jo 4 zo0), some (jo 0 zo1), some (jo 0 zo2), some (ji (zx3 + 1)), some (ji zx4), none]) (pc' := 75) rfl rfl zg8 rfl rfl ?_
        refine J_goto (pc' := 80) rfl rfl ?_
        obtain ⟨zg9, W⟩ := W
        refine J_iinc (L' := [some (jo 4 zo0), some (jo 0 zo1), some (jo 0 zo2), some (ji (zx3 + 1)), some (ji (zx4 + 1)), none]) (pc' := 83) rfl rfl zg9 rfl rfl ?_
        refine J_goto (pc' := 13) rfl rfl ?_
        exact W
    · obtain ⟨zg10, W⟩ := W
      refine J_aload_no (pc' := 38) rfl rfl zg10 rfl ?_
      refine J_iload (pc' := 40) rfl rfl rfl ?_
      refine J_bipush (pc' := 42) rfl (by decide) (by decide) rfl ?_
      obtain ⟨zg11, W⟩ := W
      refine J_isub (pc' := 43) rfl zg11 rfl ?_
      obtain ⟨zg12, W⟩ := W
      refine J_aload_no (pc' := 44) rfl rfl zg12 rfl ?_
      refine J_iload_n (pc' := 45) rfl rfl rfl ?_
      refine J_weak (L' := [some (jo 4 zo0), some (jo 0 zo1), some (jo 0 zo2), some (ji zx3), some (ji zx4), none]) (And.intro rfl (And.intro rfl (And.intro rfl (And.intro rfl (And.intro rfl trivial))))) ?_
      refine J_callI (as := [jo 4 zo0, ji (zr4 - 104), jo 0 zo2, ji zx3]) (rest := []) (pc' := 48) rfl rfl ax_Z_142 rfl rfl (Or.inr (Or.inr ⟨_, _, rfl, zg10⟩)) (Nat.le_of_ble_eq_true rfl) (Nat.le_of_ble_eq_true rfl) (Nat.le_of_ble_eq_true rfl) zg2 trivial trivial rfl W (fun zr14 zs13 W => ?_)
      refine J_if (P := ¬ zr14 = 0) (t := 53) (f := 51) rfl rfl rfl jc_ne W (fun W => ?_) (fun W => ?_)
      · refine J_aload_no (pc' := 54) rfl rfl zg12 rfl ?_
        refine J_iload_n (pc' := 55) rfl rfl rfl ?_
        refine J_weak (L' := [some (jo 4 zo0), some (jo 0 zo1), some (jo 0 zo2), none, some (ji zx4), none]) (And.intro rfl (And.intro rfl (And.intro rfl (And.intro rfl trivial)))) ?_
        refine J_callI (as := [jo 0 zo2, ji zx3]) (rest := []) (pc' := 58) rfl rfl ax_Z_127 rfl rfl (Or.inr (Or.inr ⟨_, _, rfl, zg12⟩)) (Nat.le_of_ble_eq_true rfl) (Nat.le_of_ble_eq_true rfl) (Nat.le_of_ble_eq_true rfl) zg2 trivial trivial rfl W (fun zr16 zs15 W => ?_)
        refine J_istore_n (L' := [some (jo 4 zo0), some (jo 0 zo1), some (jo 0 zo2), some (ji zr16), some (ji zx4), none]) (pc' := 59) rfl (Nat.le_of_ble_eq_true rfl) rfl rfl ?_
        refine J_goto (pc' := 80) rfl rfl ?_
        obtain ⟨zg17, W⟩ := W
        refine J_iinc (L' := [some (jo 4 zo0), some (jo 0 zo1), some (jo 0 zo2), some (ji zr16), some (ji (zx4 + 1)), none]) (pc' := 83) rfl rfl zg17 rfl rfl ?_
        refine J_goto (pc' := 13) rfl rfl ?_
        exact W
      · refine J_iconst (pc' := 52) rfl (i32_d rfl) rfl ?_
        exact J_zret rfl rfl (Or.inl rfl) ⟨_, rfl, W⟩
theorem wp_Match_put {n : Nat} {σ : jS} {Q : Int → jS → Prop} {zo0 : Int} {zx1 : Int} {zo2 : Int} {zx3 : Int} (W : (if zx1 < 0 then Q 0 σ else (if zx1 < 26 then 0 ≤ zo0 ∧ 0 ≤ rl σ 4000 zo0 ∧ 0 ≤ zx1 ∧ zx1 < rl σ 4000 zo0 ∧ (if ¬ ra σ 4000 zo0 zx1 = (-1) then 0 ≤ zo2 ∧ 1 ≤ n ∧ TrI (n - 1) i_Flat_behind [jo 0 zo2, ji zx3] σ (fun zr8 zs7 => i32 (zr8 - zx3) ∧ J n c_Match_put (some .boolean) 51 [none, none, some (jo 0 zo2), some (ji zx3), some (ji (ra σ 4000 zo0 zx1)), some (ji (zr8 - zx3)), some (ji 0)] [] zs7 (qI Q)) else (∀ zs10, zs10 = wa σ 4000 zo0 zx1 zx3 → Q 1 zs10)) else Q 0 σ))) : TrI n i_Match_put [jo 4 zo0, ji zx1, jo 0 zo2, ji zx3] σ Q := by
  refine Tr_of ax_Z_142 ?_
  show J n c_Match_put (some .boolean) 0 [some (jo 4 zo0), some (ji zx1), some (jo 0 zo2), some (ji zx3), none, none, none] [] σ (qI Q)
  refine J_iload_n (pc' := 1) rfl rfl rfl ?_
  refine J_if (P := zx1 < 0) (t := 10) (f := 4) rfl rfl rfl jc_lt W (fun W => ?_) (fun W => ?_)
  · refine J_iconst (pc' := 11) rfl (i32_d rfl) rfl ?_
    exact J_zret rfl rfl (Or.inl rfl) ⟨_, rfl, W⟩
  · refine J_iload_n (pc' := 5) rfl rfl rfl ?_
    refine J_bipush (pc' := 7) rfl (by decide) (by decide) rfl ?_
    refine J_icmp (P := zx1 < 26) (t := 12) (f := 10) rfl rfl rfl jc_lt W (fun W => ?_) (fun W => ?_)
    · obtain ⟨zg1, W⟩ := W
      refine J_aload_no (pc' := 13) rfl rfl zg1 rfl ?_
      obtain ⟨zg2, W⟩ := W
      refine J_getA (G := 4000) (pc' := 16) rfl rfl (Nat.le_of_ble_eq_true rfl) rfl zg1 zg2 rfl ?_
      refine J_iload_n (pc' := 17) rfl rfl rfl ?_
      obtain ⟨zg3, W⟩ := W
      obtain ⟨zg4, W⟩ := W
      refine J_iald (pc' := 18) rfl rfl zg3 zg4 rfl ?_
      refine J_iconst (pc' := 19) rfl (i32_d rfl) rfl ?_
      refine J_icmp (P := ¬ ra σ 4000 zo0 zx1 = (-1)) (t := 31) (f := 22) rfl rfl rfl jc_ne W (fun W => ?_) (fun W => ?_)
      · refine J_aload_no (pc' := 32) rfl rfl zg1 rfl ?_
        refine J_getA (G := 4000) (pc' := 35) rfl rfl (Nat.le_of_ble_eq_true rfl) rfl zg1 zg2 rfl ?_
        refine J_iload_n (pc' := 36) rfl rfl rfl ?_
        refine J_iald (pc' := 37) rfl rfl zg3 zg4 rfl ?_
        refine J_istore (L' := [some (jo 4 zo0), some (ji zx1), some (jo 0 zo2), some (ji zx3), some (ji (ra σ 4000 zo0 zx1)), none, none]) (pc' := 39) rfl (Nat.le_of_ble_eq_true rfl) rfl rfl ?_
        obtain ⟨zg5, W⟩ := W
        refine J_aload_no (pc' := 40) rfl rfl zg5 rfl ?_
        refine J_iload_n (pc' := 41) rfl rfl rfl ?_
        obtain ⟨zg6, W⟩ := W
        refine J_weak (L' := [none, none, some (jo 0 zo2), some (ji zx3), some (ji (ra σ 4000 zo0 zx1)), none, none]) (And.intro rfl (And.intro rfl (And.intro rfl trivial))) ?_
        refine J_callI (as := [jo 0 zo2, ji zx3]) (rest := []) (pc' := 44) rfl rfl ax_Z_127 rfl rfl (Or.inr (Or.inr ⟨_, _, rfl, zg5⟩)) (Nat.le_of_ble_eq_true rfl) (Nat.le_of_ble_eq_true rfl) (Nat.le_of_ble_eq_true rfl) zg6 trivial trivial rfl W (fun zr8 zs7 W => ?_)
        refine J_iload_n (pc' := 45) rfl rfl rfl ?_
        obtain ⟨zg9, W⟩ := W
        refine J_isub (pc' := 46) rfl zg9 rfl ?_
        refine J_istore (L' := [none, none, some (jo 0 zo2), some (ji zx3), some (ji (ra σ 4000 zo0 zx1)), some (ji (zr8 - zx3)), none]) (pc' := 48) rfl (Nat.le_of_ble_eq_true rfl) rfl rfl ?_
        refine J_iconst (pc' := 49) rfl (i32_d rfl) rfl ?_
        refine J_istore (L' := [none, none, some (jo 0 zo2), some (ji zx3), some (ji (ra σ 4000 zo0 zx1)), some (ji (zr8 - zx3)), some (ji 0)]) (pc' := 51) rfl (Nat.le_of_ble_eq_true rfl) rfl rfl ?_
        exact W
      · refine J_aload_no (pc' := 23) rfl rfl zg1 rfl ?_
        refine J_getA (G := 4000) (pc' := 26) rfl rfl (Nat.le_of_ble_eq_true rfl) rfl zg1 zg2 rfl ?_
        refine J_iload_n (pc' := 27) rfl rfl rfl ?_
        refine J_iload_n (pc' := 28) rfl rfl rfl ?_
        refine J_iast (pc' := 29) rfl rfl (by decide) zg3 zg4 rfl (fun zs10 ezs10 => ?_)
        replace W := W zs10 ezs10
        refine J_iconst (pc' := 30) rfl (i32_d rfl) rfl ?_
        exact J_zret rfl rfl (Or.inr rfl) ⟨_, rfl, W⟩
    · refine J_iconst (pc' := 11) rfl (i32_d rfl) rfl ?_
      exact J_zret rfl rfl (Or.inl rfl) ⟨_, rfl, W⟩
theorem wp_Match_put_51 {n : Nat} {σ : jS} {Q : Int → jS → Prop} {zo2 : Int} {zx3 : Int} {zx4 : Int} {zx5 : Int} {zx6 : Int} (W : (if zx5 ≤ zx6 then Q 1 σ else 0 ≤ zo2 ∧ i32 (zx4 + zx6) ∧ 1 ≤ n ∧ TrI (n - 1) i_Flat_at [jo 0 zo2, ji (zx4 + zx6)] σ (fun zr5 zs4 => i32 (zx3 + zx6) ∧ TrI (n - 1) i_Flat_at [jo 0 zo2, ji (zx3 + zx6)] zs4 (fun zr8 zs7 => (if zr5 = zr8 then i32 (zx6 + 1) ∧ J n c_Match_put (some .boolean) 51 [none, none, some (jo 0 zo2), some (ji zx3), some (ji zx4), some (ji zx5), some (ji (zx6 + 1))] [] zs7 (qI Q) else Q 0 zs7))))) : J n c_Match_put (some .boolean) 51 [none, none, some (jo 0 zo2), some (ji zx3), some (ji zx4), some (ji zx5), some (ji zx6)] [] σ (qI Q) := by
  refine J_iload (pc' := 53) rfl rfl rfl ?_
  refine J_iload (pc' := 55) rfl rfl rfl ?_
  refine J_icmp (P := zx5 ≤ zx6) (t := 86) (f := 58) rfl rfl rfl jc_ge W (fun W => ?_) (fun W => ?_)
  · refine J_iconst (pc' := 87) rfl (i32_d rfl) rfl ?_
    exact J_zret rfl rfl (Or.inr rfl) ⟨_, rfl, W⟩
  · obtain ⟨zg1, W⟩ := W
    refine J_aload_no (pc' := 59) rfl rfl zg1 rfl ?_
    refine J_iload (pc' := 61) rfl rfl rfl ?_
    refine J_iload (pc' := 63) rfl rfl rfl ?_
    obtain ⟨zg2, W⟩ := W
    refine J_iadd (pc' := 64) rfl zg2 rfl ?_
    obtain ⟨zg3, W⟩ := W
    refine J_callI (as := [jo 0 zo2, ji (zx4 + zx6)]) (rest := []) (pc' := 67) rfl rfl ax_Z_117 rfl rfl (Or.inr (Or.inr ⟨_, _, rfl, zg1⟩)) (Nat.le_of_ble_eq_true rfl) (Nat.le_of_ble_eq_true rfl) (Nat.le_of_ble_eq_true rfl) zg3 trivial trivial rfl W (fun zr5 zs4 W => ?_)
    refine J_aload_no (pc' := 68) rfl rfl zg1 rfl ?_
    refine J_iload_n (pc' := 69) rfl rfl rfl ?_
    refine J_iload (pc' := 71) rfl rfl rfl ?_
    obtain ⟨zg6, W⟩ := W
    refine J_iadd (pc' := 72) rfl zg6 rfl ?_
    refine J_callI (as := [jo 0 zo2, ji (zx3 + zx6)]) (rest := [ji zr5]) (pc' := 75) rfl rfl ax_Z_117 rfl rfl (Or.inr (Or.inr ⟨_, _, rfl, zg1⟩)) (Nat.le_of_ble_eq_true rfl) (Nat.le_of_ble_eq_true rfl) (Nat.le_of_ble_eq_true rfl) zg3 trivial trivial rfl W (fun zr8 zs7 W => ?_)
    refine J_icmp (P := zr5 = zr8) (t := 80) (f := 78) rfl rfl rfl jc_eq W (fun W => ?_) (fun W => ?_)
    · obtain ⟨zg9, W⟩ := W
      refine J_iinc (L' := [none, none, some (jo 0 zo2), some (ji zx3), some (ji zx4), some (ji zx5), some (ji (zx6 + 1))]) (pc' := 83) rfl rfl zg9 rfl rfl ?_
      refine J_goto (pc' := 51) rfl rfl ?_
      exact W
    · refine J_iconst (pc' := 79) rfl (i32_d rfl) rfl ?_
      exact J_zret rfl rfl (Or.inl rfl) ⟨_, rfl, W⟩
theorem wp_Memory_init {n : Nat} {σ : jS} {Q : jS → Prop} {zo0 : Int} (W : 0 ≤ zo0 ∧ 1 ≤ n ∧ (∀ zs3, zs3 = nA σ 0 40 → rl zs3 5001 zo0 < 0 ∧ (∀ zs4, zs4 = mA zs3 0 5001 zo0 → (∀ zs6, zs6 = nA zs4 0 40 → rl zs6 5002 zo0 < 0 ∧ (∀ zs7, zs7 = mA zs6 0 5002 zo0 → rk zs7 3 < 2000000 ∧ 0 ≤ rk zs7 3 ∧ (∀ zs9, zs9 = nO zs7 3 → TrV (n - 1) i_Forest_init [jo 3 (rk zs7 3)] zs9 (fun zs12 => 0 ≤ rk zs7 3 ∧ (∀ zs14, zs14 = ws zs12 5003 zo0 (rk zs7 3) → (∀ zs16, zs16 = nA zs14 0 40 → rl zs16 5004 zo0 < 0 ∧ (∀ zs17, zs17 = mA zs16 0 5004 zo0 → (∀ zs19, zs19 = nA zs17 4 40 → rl zs19 5005 zo0 < 0 ∧ (∀ zs20, zs20 = mA zs19 4 5005 zo0 → Q zs20)))))))))))) : TrV n i_Memory_init [jo 5 zo0] σ Q := by
  refine Tr_of ax_Z_143 ?_
  show J n c_Memory_init none 0 [some (jo 5 zo0)] [] σ (qV Q)
  obtain ⟨zg1, W⟩ := W
  refine J_aload_no (pc' := 1) rfl rfl zg1 rfl ?_
  obtain ⟨zg2, W⟩ := W
  refine J_oinit (pc' := 4) rfl zg1 zg2 (Nat.le_of_ble_eq_true rfl) rfl ?_
  refine J_aload_no (pc' := 5) rfl rfl zg1 rfl ?_
  refine J_bipush (pc' := 7) rfl (by decide) (by decide) rfl ?_
  refine J_newa (pc' := 9) rfl (by decide) (by decide) (by decide) trivial trivial rfl (fun zs3 ezs3 => ?_)
  replace W := W zs3 ezs3
  obtain ⟨zg5, W⟩ := W
  refine J_putT (G := 5001) (t := 0) (pc' := 12) rfl rfl (Nat.le_of_ble_eq_true rfl) rfl rfl rfl zg1 (Or.inr zg5) trivial trivial trivial trivial rfl (fun zs4 ezs4 => ?_)
  replace W := W zs4 ezs4
  refine J_aload_no (pc' := 13) rfl rfl zg1 rfl ?_
  refine J_bipush (pc' := 15) rfl (by decide) (by decide) rfl ?_
  refine J_newa (pc' := 17) rfl (by decide) (by decide) (by decide) trivial trivial rfl (fun zs6 ezs6 => ?_)
  replace W := W zs6 ezs6
  obtain ⟨zg8, W⟩ := W
  refine J_putT (G := 5002) (t := 0) (pc' := 20) rfl rfl (Nat.le_of_ble_eq_true rfl) rfl rfl rfl zg1 (Or.inr zg8) trivial trivial trivial trivial rfl (fun zs7 ezs7 => ?_)
  replace W := W zs7 ezs7
  refine J_aload_no (pc' := 21) rfl rfl zg1 rfl ?_
  obtain ⟨zg10, W⟩ := W
  obtain ⟨zg11, W⟩ := W
  refine J_new (pc' := 24) rfl zg10 rfl (fun zs9 ezs9 => ?_)
  replace W := W zs9 ezs9
  refine J_dup (pc' := 25) rfl rfl rfl ?_
  refine J_callV (as := [jo 3 (rk zs7 3)]) (rest := [jo 3 (rk zs7 3), jo 5 zo0]) (pc' := 28) rfl rfl ax_Z_132 rfl rfl (Or.inr (Or.inr ⟨_, _, rfl, zg11⟩)) (Nat.le_of_ble_eq_true rfl) (Nat.le_of_ble_eq_true rfl) (Nat.le_of_ble_eq_true rfl) zg2 trivial trivial rfl W (fun zs12 W => ?_)
  obtain ⟨zg15, W⟩ := W
  refine J_putO (G := 5003) (pc' := 31) rfl rfl (Nat.le_of_ble_eq_true rfl) rfl rfl zg1 zg15 rfl (fun zs14 ezs14 => ?_)
  replace W := W zs14 ezs14
  refine J_aload_no (pc' := 32) rfl rfl zg1 rfl ?_
  refine J_bipush (pc' := 34) rfl (by decide) (by decide) rfl ?_
  refine J_newa (pc' := 36) rfl (by decide) (by decide) (by decide) trivial trivial rfl (fun zs16 ezs16 => ?_)
  replace W := W zs16 ezs16
  obtain ⟨zg18, W⟩ := W
  refine J_putT (G := 5004) (t := 0) (pc' := 39) rfl rfl (Nat.le_of_ble_eq_true rfl) rfl rfl rfl zg1 (Or.inr zg18) trivial trivial trivial trivial rfl (fun zs17 ezs17 => ?_)
  replace W := W zs17 ezs17
  refine J_aload_no (pc' := 40) rfl rfl zg1 rfl ?_
  refine J_bipush (pc' := 42) rfl (by decide) (by decide) rfl ?_
  refine J_anew (pc' := 45) rfl (by decide) (by decide) trivial trivial rfl (fun zs19 ezs19 => ?_)
  replace W := W zs19 ezs19
  obtain ⟨zg21, W⟩ := W
  refine J_putT (G := 5005) (t := 4) (pc' := 48) rfl rfl (Nat.le_of_ble_eq_true rfl) rfl rfl rfl zg1 (Or.inr zg21) trivial trivial trivial trivial rfl (fun zs20 ezs20 => ?_)
  replace W := W zs20 ezs20
  exact J_vret rfl rfl ⟨rfl, W⟩
theorem wp_Memory_forget {n : Nat} {σ : jS} {Q : jS → Prop} {zo0 : Int} (W : 0 ≤ zo0 ∧ (∀ zs2, zs2 = ws σ 5000 zo0 0 → 1 ≤ n ∧ 0 ≤ rs zs2 5003 zo0 ∧ TrV (n - 1) i_Forest_clear [jo 3 (rs zs2 5003 zo0)] zs2 (fun zs5 => Q zs5))) : TrV n i_Memory_forget [jo 5 zo0] σ Q := by
  refine Tr_of ax_Z_144 ?_
  show J n c_Memory_forget none 0 [some (jo 5 zo0)] [] σ (qV Q)
  obtain ⟨zg1, W⟩ := W
  refine J_aload_no (pc' := 1) rfl rfl zg1 rfl ?_
  refine J_iconst (pc' := 2) rfl (i32_d rfl) rfl ?_
  refine J_putI (G := 5000) (pc' := 5) rfl rfl (Nat.le_of_ble_eq_true rfl) rfl rfl zg1 rfl (fun zs2 ezs2 => ?_)
  replace W := W zs2 ezs2
  refine J_aload_no (pc' := 6) rfl rfl zg1 rfl ?_
  refine J_getO (G := 5003) (pc' := 9) rfl rfl (Nat.le_of_ble_eq_true rfl) rfl zg1 rfl ?_
  obtain ⟨zg3, W⟩ := W
  obtain ⟨zg4, W⟩ := W
  refine J_weak (L' := [none]) trivial ?_
  refine J_callV (as := [jo 3 (rs zs2 5003 zo0)]) (rest := []) (pc' := 12) rfl rfl ax_Z_133 rfl rfl (Or.inr (Or.inr ⟨_, _, rfl, zg4⟩)) (Nat.le_of_ble_eq_true rfl) (Nat.le_of_ble_eq_true rfl) (Nat.le_of_ble_eq_true rfl) zg3 trivial trivial rfl W (fun zs5 W => ?_)
  exact J_vret rfl rfl ⟨rfl, W⟩
theorem wp_Memory_find {n : Nat} {σ : jS} {Q : Int → jS → Prop} {zo0 : Int} {zx1 : Int} {zo2 : Int} (W : J n c_Memory_find (some .int) 2 [some (jo 5 zo0), some (ji zx1), some (jo 0 zo2), some (ji 0)] [] σ (qI Q)) : TrI n i_Memory_find [jo 5 zo0, ji zx1, jo 0 zo2] σ Q := by
  refine Tr_of ax_Z_145 ?_
  show J n c_Memory_find (some .int) 0 [some (jo 5 zo0), some (ji zx1), some (jo 0 zo2), none] [] σ (qI Q)
  refine J_iconst (pc' := 1) rfl (i32_d rfl) rfl ?_
  refine J_istore_n (L' := [some (jo 5 zo0), some (ji zx1), some (jo 0 zo2), some (ji 0)]) (pc' := 2) rfl (Nat.le_of_ble_eq_true rfl) rfl rfl ?_
  exact W
theorem wp_Memory_find_2 {n : Nat} {σ : jS} {Q : Int → jS → Prop} {zo0 : Int} {zx1 : Int} {zo2 : Int} {zx3 : Int} (W : 0 ≤ zo0 ∧ (if rs σ 5000 zo0 ≤ zx3 then Q (-1) σ else 0 ≤ rl σ 5004 zo0 ∧ 0 ≤ zx3 ∧ zx3 < rl σ 5004 zo0 ∧ (if ¬ ra σ 5004 zo0 zx3 = zx1 then i32 (zx3 + 1) ∧ J n c_Memory_find (some .int) 2 [some (jo 5 zo0), some (ji zx1), some (jo 0 zo2), some (ji (zx3 + 1))] [] σ (qI Q) else 0 ≤ rl σ 5005 zo0 ∧ zx3 < rl σ 5005 zo0 ∧ (if ra σ 5005 zo0 zx3 < 0 then i32 (zx3 + 1) ∧ J n c_Memory_find (some .int) 2 [some (jo 5 zo0), some (ji zx1), some (jo 0 zo2), some (ji (zx3 + 1))] [] σ (qI Q) else 0 ≤ zo2 ∧ 1 ≤ n ∧ 0 ≤ ra σ 5005 zo0 zx3 ∧ TrI (n - 1) i_Flat_isSame [jo 0 (ra σ 5005 zo0 zx3), jo 0 zo2] σ (fun zr13 zs12 => (if zr13 = 0 then i32 (zx3 + 1) ∧ J n c_Memory_find (some .int) 2 [some (jo 5 zo0), some (ji zx1), some (jo 0 zo2), some (ji (zx3 + 1))] [] zs12 (qI Q) else Q zx3 zs12)))))) : J n c_Memory_find (some .int) 2 [some (jo 5 zo0), some (ji zx1), some (jo 0 zo2), some (ji zx3)] [] σ (qI Q) := by
  refine J_iload_n (pc' := 3) rfl rfl rfl ?_
  obtain ⟨zg1, W⟩ := W
  refine J_aload_no (pc' := 4) rfl rfl zg1 rfl ?_
  refine J_getI (G := 5000) (pc' := 7) rfl rfl (Nat.le_of_ble_eq_true rfl) rfl zg1 rfl ?_
  refine J_icmp (P := rs σ 5000 zo0 ≤ zx3) (t := 50) (f := 10) rfl rfl rfl jc_ge W (fun W => ?_) (fun W => ?_)
  · refine J_iconst (pc' := 51) rfl (i32_d rfl) rfl ?_
    exact J_iret rfl rfl ⟨_, rfl, W⟩
  · refine J_aload_no (pc' := 11) rfl rfl zg1 rfl ?_
    obtain ⟨zg2, W⟩ := W
    refine J_getA (G := 5004) (pc' := 14) rfl rfl (Nat.le_of_ble_eq_true rfl) rfl zg1 zg2 rfl ?_
    refine J_iload_n (pc' := 15) rfl rfl rfl ?_
    obtain ⟨zg3, W⟩ := W
    obtain ⟨zg4, W⟩ := W
    refine J_iald (pc' := 16) rfl rfl zg3 zg4 rfl ?_
    refine J_iload_n (pc' := 17) rfl rfl rfl ?_
    refine J_icmp (P := ¬ ra σ 5004 zo0 zx3 = zx1) (t := 44) (f := 20) rfl rfl rfl jc_ne W (fun W => ?_) (fun W => ?_)
    · obtain ⟨zg5, W⟩ := W
      refine J_iinc (L' := [some (jo 5 zo0), some (ji zx1), some (jo 0 zo2), some (ji (zx3 + 1))]) (pc' := 47) rfl rfl zg5 rfl rfl ?_
      refine J_goto (pc' := 2) rfl rfl ?_
      exact W
    · refine J_aload_no (pc' := 21) rfl rfl zg1 rfl ?_
      obtain ⟨zg6, W⟩ := W
      refine J_getA (G := 5005) (pc' := 24) rfl rfl (Nat.le_of_ble_eq_true rfl) rfl zg1 zg6 rfl ?_
      refine J_iload_n (pc' := 25) rfl rfl rfl ?_
      obtain ⟨zg7, W⟩ := W
      refine J_aald (pc' := 26) rfl rfl zg3 zg7 rfl ?_
      refine J_null (t := 44) (f := 29) rfl rfl rfl W (fun W => ?_) (fun W => ?_)
      · obtain ⟨zg8, W⟩ := W
        refine J_iinc (L' := [some (jo 5 zo0), some (ji zx1), some (jo 0 zo2), some (ji (zx3 + 1))]) (pc' := 47) rfl rfl zg8 rfl rfl ?_
        refine J_goto (pc' := 2) rfl rfl ?_
        exact W
      · refine J_aload_no (pc' := 30) rfl rfl zg1 rfl ?_
        refine J_getA (G := 5005) (pc' := 33) rfl rfl (Nat.le_of_ble_eq_true rfl) rfl zg1 zg6 rfl ?_
        refine J_iload_n (pc' := 34) rfl rfl rfl ?_
        refine J_aald (pc' := 35) rfl rfl zg3 zg7 rfl ?_
        obtain ⟨zg9, W⟩ := W
        refine J_aload_no (pc' := 36) rfl rfl zg9 rfl ?_
        obtain ⟨zg10, W⟩ := W
        obtain ⟨zg11, W⟩ := W
        refine J_callI (as := [jo 0 (ra σ 5005 zo0 zx3), jo 0 zo2]) (rest := []) (pc' := 39) rfl rfl ax_Z_123 rfl rfl (Or.inr (Or.inr ⟨_, _, rfl, zg11⟩)) (Nat.le_of_ble_eq_true rfl) (Nat.le_of_ble_eq_true rfl) (Nat.le_of_ble_eq_true rfl) zg10 trivial trivial rfl W (fun zr13 zs12 W => ?_)
        refine J_if (P := zr13 = 0) (t := 44) (f := 42) rfl rfl rfl jc_eq W (fun W => ?_) (fun W => ?_)
        · obtain ⟨zg14, W⟩ := W
          refine J_iinc (L' := [some (jo 5 zo0), some (ji zx1), some (jo 0 zo2), some (ji (zx3 + 1))]) (pc' := 47) rfl rfl zg14 rfl rfl ?_
          refine J_goto (pc' := 2) rfl rfl ?_
          exact W
        · refine J_iload_n (pc' := 43) rfl rfl rfl ?_
          exact J_iret rfl rfl ⟨_, rfl, W⟩
theorem wp_Memory_takes {n : Nat} {σ : jS} {Q : Int → jS → Prop} {zo0 : Int} {zx1 : Int} {zo2 : Int} (W : 0 ≤ zo0 ∧ (if 40 ≤ rs σ 5000 zo0 then Q 0 σ else 0 ≤ zo2 ∧ 1 ≤ n ∧ TrI (n - 1) i_Memory_find [jo 5 zo0, ji zx1, jo 0 zo2] σ (fun zr5 zs4 => (if ¬ zr5 = (-1) then Q 0 zs4 else Q 1 zs4)))) : TrI n i_Memory_takes [jo 5 zo0, ji zx1, jo 0 zo2] σ Q := by
  refine Tr_of ax_Z_146 ?_
  show J n c_Memory_takes (some .boolean) 0 [some (jo 5 zo0), some (ji zx1), some (jo 0 zo2)] [] σ (qI Q)
  obtain ⟨zg1, W⟩ := W
  refine J_aload_no (pc' := 1) rfl rfl zg1 rfl ?_
  refine J_getI (G := 5000) (pc' := 4) rfl rfl (Nat.le_of_ble_eq_true rfl) rfl zg1 rfl ?_
  refine J_bipush (pc' := 6) rfl (by decide) (by decide) rfl ?_
  refine J_icmp (P := 40 ≤ rs σ 5000 zo0) (t := 23) (f := 9) rfl rfl rfl jc_ge W (fun W => ?_) (fun W => ?_)
  · refine J_iconst (pc' := 24) rfl (i32_d rfl) rfl ?_
    exact J_zret rfl rfl (Or.inl rfl) ⟨_, rfl, W⟩
  · refine J_aload_no (pc' := 10) rfl rfl zg1 rfl ?_
    refine J_iload_n (pc' := 11) rfl rfl rfl ?_
    obtain ⟨zg2, W⟩ := W
    refine J_aload_no (pc' := 12) rfl rfl zg2 rfl ?_
    obtain ⟨zg3, W⟩ := W
    refine J_weak (L' := [none, none, none]) trivial ?_
    refine J_callI (as := [jo 5 zo0, ji zx1, jo 0 zo2]) (rest := []) (pc' := 15) rfl rfl ax_Z_145 rfl rfl (Or.inr (Or.inr ⟨_, _, rfl, zg1⟩)) (Nat.le_of_ble_eq_true rfl) (Nat.le_of_ble_eq_true rfl) (Nat.le_of_ble_eq_true rfl) zg3 trivial trivial rfl W (fun zr5 zs4 W => ?_)
    refine J_iconst (pc' := 16) rfl (i32_d rfl) rfl ?_
    refine J_icmp (P := ¬ zr5 = (-1)) (t := 23) (f := 19) rfl rfl rfl jc_ne W (fun W => ?_) (fun W => ?_)
    · refine J_iconst (pc' := 24) rfl (i32_d rfl) rfl ?_
      exact J_zret rfl rfl (Or.inl rfl) ⟨_, rfl, W⟩
    · refine J_iconst (pc' := 20) rfl (i32_d rfl) rfl ?_
      refine J_goto (pc' := 24) rfl rfl ?_
      exact J_zret rfl rfl (Or.inr rfl) ⟨_, rfl, W⟩
theorem wp_Memory_add {n : Nat} {σ : jS} {Q : jS → Prop} {zo0 : Int} {zx1 : Int} {zo2 : Int} {zx3 : Int} (W : 0 ≤ zo0 ∧ (if rs σ 5000 zo0 < 40 then 0 ≤ rl σ 5005 zo0 ∧ 0 ≤ rs σ 5000 zo0 ∧ rs σ 5000 zo0 < rl σ 5005 zo0 ∧ (if ra σ 5005 zo0 (rs σ 5000 zo0) < 0 then rk σ 0 < 2000000 ∧ 0 ≤ rk σ 0 ∧ (∀ zs5, zs5 = nO σ 0 → 1 ≤ n ∧ TrV (n - 1) i_Flat_init [jo 0 (rk σ 0), ji 100] zs5 (fun zs9 => 0 ≤ rk σ 0 ∧ 0 ≤ rs σ 5000 zo0 ∧ rs σ 5000 zo0 < rl zs9 5005 zo0 ∧ (∀ zs11, zs11 = wa zs9 5005 zo0 (rs σ 5000 zo0) (rk σ 0) → J n c_Memory_add none 40 [some (jo 5 zo0), some (ji zx1), some (jo 0 zo2), some (ji zx3)] [] zs11 (qV Q)))) else J n c_Memory_add none 40 [some (jo 5 zo0), some (ji zx1), some (jo 0 zo2), some (ji zx3)] [] σ (qV Q)) else Q σ)) : TrV n i_Memory_add [jo 5 zo0, ji zx1, jo 0 zo2, ji zx3] σ Q := by
  refine Tr_of ax_Z_147 ?_
  show J n c_Memory_add none 0 [some (jo 5 zo0), some (ji zx1), some (jo 0 zo2), some (ji zx3)] [] σ (qV Q)
  obtain ⟨zg1, W⟩ := W
  refine J_aload_no (pc' := 1) rfl rfl zg1 rfl ?_
  refine J_getI (G := 5000) (pc' := 4) rfl rfl (Nat.le_of_ble_eq_true rfl) rfl zg1 rfl ?_
  refine J_bipush (pc' := 6) rfl (by decide) (by decide) rfl ?_
  refine J_icmp (P := rs σ 5000 zo0 < 40) (t := 10) (f := 9) rfl rfl rfl jc_lt W (fun W => ?_) (fun W => ?_)
  · refine J_aload_no (pc' := 11) rfl rfl zg1 rfl ?_
    obtain ⟨zg2, W⟩ := W
    refine J_getA (G := 5005) (pc' := 14) rfl rfl (Nat.le_of_ble_eq_true rfl) rfl zg1 zg2 rfl ?_
    refine J_aload_no (pc' := 15) rfl rfl zg1 rfl ?_
    refine J_getI (G := 5000) (pc' := 18) rfl rfl (Nat.le_of_ble_eq_true rfl) rfl zg1 rfl ?_
    obtain ⟨zg3, W⟩ := W
    obtain ⟨zg4, W⟩ := W
    refine J_aald (pc' := 19) rfl rfl zg3 zg4 rfl ?_
    refine J_nonnull (t := 40) (f := 22) rfl rfl rfl W (fun W => ?_) (fun W => ?_)
    · refine J_aload_no (pc' := 23) rfl rfl zg1 rfl ?_
      refine J_getA (G := 5005) (pc' := 26) rfl rfl (Nat.le_of_ble_eq_true rfl) rfl zg1 zg2 rfl ?_
      refine J_aload_no (pc' := 27) rfl rfl zg1 rfl ?_
      refine J_getI (G := 5000) (pc' := 30) rfl rfl (Nat.le_of_ble_eq_true rfl) rfl zg1 rfl ?_
      obtain ⟨zg6, W⟩ := W
      obtain ⟨zg7, W⟩ := W
      refine J_new (pc' := 33) rfl zg6 rfl (fun zs5 ezs5 => ?_)
      replace W := W zs5 ezs5
      refine J_dup (pc' := 34) rfl rfl rfl ?_
      refine J_bipush (pc' := 36) rfl (by decide) (by decide) rfl ?_
      obtain ⟨zg8, W⟩ := W
      refine J_callV (as := [jo 0 (rk σ 0), ji 100]) (rest := [jo 0 (rk σ 0), ji (rs σ 5000 zo0), ja 5005 zo0]) (pc' := 39) rfl rfl ax_Z_114 rfl rfl (Or.inr (Or.inr ⟨_, _, rfl, zg7⟩)) (Nat.le_of_ble_eq_true rfl) (Nat.le_of_ble_eq_true rfl) (Nat.le_of_ble_eq_true rfl) zg8 trivial (And.intro rfl trivial) rfl W (fun zs9 W => ?_)
      obtain ⟨zg12, W⟩ := W
      obtain ⟨zg13, W⟩ := W
      obtain ⟨zg14, W⟩ := W
      refine J_aast (pc' := 40) rfl rfl zg12 zg13 zg14 rfl (fun zs11 ezs11 => ?_)
      replace W := W zs11 ezs11
      exact W
    · exact W
  · exact J_vret rfl rfl ⟨rfl, W⟩
theorem wp_Memory_add_40 {n : Nat} {σ : jS} {Q : jS → Prop} {zo0 : Int} {zx1 : Int} {zo2 : Int} {zx3 : Int} (W : 0 ≤ zo0 ∧ 0 ≤ rl σ 5005 zo0 ∧ 0 ≤ rs σ 5000 zo0 ∧ rs σ 5000 zo0 < rl σ 5005 zo0 ∧ 0 ≤ zo2 ∧ 1 ≤ n ∧ 0 ≤ ra σ 5005 zo0 (rs σ 5000 zo0) ∧ TrV (n - 1) i_Flat_take [jo 0 (ra σ 5005 zo0 (rs σ 5000 zo0)), jo 0 zo2] σ (fun zs8 => 0 ≤ rl zs8 5004 zo0 ∧ 0 ≤ rs zs8 5000 zo0 ∧ rs zs8 5000 zo0 < rl zs8 5004 zo0 ∧ (∀ zs11, zs11 = wa zs8 5004 zo0 (rs zs8 5000 zo0) zx1 → 0 ≤ rl zs11 5001 zo0 ∧ 0 ≤ rs zs11 5000 zo0 ∧ rs zs11 5000 zo0 < rl zs11 5001 zo0 ∧ (∀ zs15, zs15 = wa zs11 5001 zo0 (rs zs11 5000 zo0) zx3 → 0 ≤ rl zs15 5002 zo0 ∧ 0 ≤ rs zs15 5003 zo0 ∧ 0 ≤ rs zs15 3000 (rs zs15 5003 zo0) ∧ 0 ≤ rs zs15 5000 zo0 ∧ rs zs15 5000 zo0 < rl zs15 5002 zo0 ∧ (∀ zs21, zs21 = wa zs15 5002 zo0 (rs zs15 5000 zo0) (rs zs15 6000 (rs zs15 3000 (rs zs15 5003 zo0))) → i32 ((rs zs21 5000 zo0) + 1) ∧ (∀ zs25, zs25 = ws zs21 5000 zo0 ((rs zs21 5000 zo0) + 1) → Q zs25)))))) : J n c_Memory_add none 40 [some (jo 5 zo0), some (ji zx1), some (jo 0 zo2), some (ji zx3)] [] σ (qV Q) := by
  obtain ⟨zg1, W⟩ := W
  refine J_aload_no (pc' := 41) rfl rfl zg1 rfl ?_
  obtain ⟨zg2, W⟩ := W
  refine J_getA (G := 5005) (pc' := 44) rfl rfl (Nat.le_of_ble_eq_true rfl) rfl zg1 zg2 rfl ?_
  refine J_aload_no (pc' := 45) rfl rfl zg1 rfl ?_
  refine J_getI (G := 5000) (pc' := 48) rfl rfl (Nat.le_of_ble_eq_true rfl) rfl zg1 rfl ?_
  obtain ⟨zg3, W⟩ := W
  obtain ⟨zg4, W⟩ := W
  refine J_aald (pc' := 49) rfl rfl zg3 zg4 rfl ?_
  obtain ⟨zg5, W⟩ := W
  refine J_aload_no (pc' := 50) rfl rfl zg5 rfl ?_
  obtain ⟨zg6, W⟩ := W
  obtain ⟨zg7, W⟩ := W
  refine J_weak (L' := [some (jo 5 zo0), some (ji zx1), none, some (ji zx3)]) (And.intro rfl (And.intro rfl (And.intro rfl trivial))) ?_
  refine J_callV (as := [jo 0 (ra σ 5005 zo0 (rs σ 5000 zo0)), jo 0 zo2]) (rest := []) (pc' := 53) rfl rfl ax_Z_122 rfl rfl (Or.inr (Or.inr ⟨_, _, rfl, zg7⟩)) (Nat.le_of_ble_eq_true rfl) (Nat.le_of_ble_eq_true rfl) (Nat.le_of_ble_eq_true rfl) zg6 trivial trivial rfl W (fun zs8 W => ?_)
  refine J_aload_no (pc' := 54) rfl rfl zg1 rfl ?_
  obtain ⟨zg10, W⟩ := W
  refine J_getA (G := 5004) (pc' := 57) rfl rfl (Nat.le_of_ble_eq_true rfl) rfl zg1 zg10 rfl ?_
  refine J_aload_no (pc' := 58) rfl rfl zg1 rfl ?_
  refine J_getI (G := 5000) (pc' := 61) rfl rfl (Nat.le_of_ble_eq_true rfl) rfl zg1 rfl ?_
  refine J_iload_n (pc' := 62) rfl rfl rfl ?_
  obtain ⟨zg12, W⟩ := W
  obtain ⟨zg13, W⟩ := W
  refine J_iast (pc' := 63) rfl rfl (by decide) zg12 zg13 rfl (fun zs11 ezs11 => ?_)
  replace W := W zs11 ezs11
  refine J_aload_no (pc' := 64) rfl rfl zg1 rfl ?_
  obtain ⟨zg14, W⟩ := W
  refine J_getA (G := 5001) (pc' := 67) rfl rfl (Nat.le_of_ble_eq_true rfl) rfl zg1 zg14 rfl ?_
  refine J_aload_no (pc' := 68) rfl rfl zg1 rfl ?_
  refine J_getI (G := 5000) (pc' := 71) rfl rfl (Nat.le_of_ble_eq_true rfl) rfl zg1 rfl ?_
  refine J_iload_n (pc' := 72) rfl rfl rfl ?_
  obtain ⟨zg16, W⟩ := W
  obtain ⟨zg17, W⟩ := W
  refine J_iast (pc' := 73) rfl rfl (by decide) zg16 zg17 rfl (fun zs15 ezs15 => ?_)
  replace W := W zs15 ezs15
  refine J_aload_no (pc' := 74) rfl rfl zg1 rfl ?_
  obtain ⟨zg18, W⟩ := W
  refine J_getA (G := 5002) (pc' := 77) rfl rfl (Nat.le_of_ble_eq_true rfl) rfl zg1 zg18 rfl ?_
  refine J_aload_no (pc' := 78) rfl rfl zg1 rfl ?_
  refine J_getI (G := 5000) (pc' := 81) rfl rfl (Nat.le_of_ble_eq_true rfl) rfl zg1 rfl ?_
  refine J_aload_no (pc' := 82) rfl rfl zg1 rfl ?_
  refine J_getO (G := 5003) (pc' := 85) rfl rfl (Nat.le_of_ble_eq_true rfl) rfl zg1 rfl ?_
  obtain ⟨zg19, W⟩ := W
  refine J_getO (G := 3000) (pc' := 88) rfl rfl (Nat.le_of_ble_eq_true rfl) rfl zg19 rfl ?_
  obtain ⟨zg20, W⟩ := W
  refine J_getI (G := 6000) (pc' := 91) rfl rfl (Nat.le_of_ble_eq_true rfl) rfl zg20 rfl ?_
  obtain ⟨zg22, W⟩ := W
  obtain ⟨zg23, W⟩ := W
  refine J_iast (pc' := 92) rfl rfl (by decide) zg22 zg23 rfl (fun zs21 ezs21 => ?_)
  replace W := W zs21 ezs21
  refine J_aload_no (pc' := 93) rfl rfl zg1 rfl ?_
  refine J_dup (pc' := 94) rfl rfl rfl ?_
  refine J_getI (G := 5000) (pc' := 97) rfl rfl (Nat.le_of_ble_eq_true rfl) rfl zg1 rfl ?_
  refine J_iconst (pc' := 98) rfl (i32_d rfl) rfl ?_
  obtain ⟨zg24, W⟩ := W
  refine J_iadd (pc' := 99) rfl zg24 rfl ?_
  refine J_putI (G := 5000) (pc' := 102) rfl rfl (Nat.le_of_ble_eq_true rfl) rfl rfl zg1 rfl (fun zs25 ezs25 => ?_)
  replace W := W zs25 ezs25
  exact J_vret rfl rfl ⟨rfl, W⟩
theorem wp_Memory_nodesOf {n : Nat} {σ : jS} {Q : Int → jS → Prop} {zo0 : Int} {zx1 : Int} (W : (if zx1 < 0 then Q 0 σ else 0 ≤ zo0 ∧ (if rs σ 5000 zo0 ≤ zx1 then Q 0 σ else 0 ≤ rl σ 5001 zo0 ∧ 0 ≤ zx1 ∧ zx1 < rl σ 5001 zo0 ∧ Q (ra σ 5001 zo0 zx1) σ))) : TrI n i_Memory_nodesOf [jo 5 zo0, ji zx1] σ Q := by
  refine Tr_of ax_Z_148 ?_
  show J n c_Memory_nodesOf (some .int) 0 [some (jo 5 zo0), some (ji zx1)] [] σ (qI Q)
  refine J_iload_n (pc' := 1) rfl rfl rfl ?_
  refine J_if (P := zx1 < 0) (t := 21) (f := 4) rfl rfl rfl jc_lt W (fun W => ?_) (fun W => ?_)
  · refine J_iconst (pc' := 22) rfl (i32_d rfl) rfl ?_
    exact J_iret rfl rfl ⟨_, rfl, W⟩
  · refine J_iload_n (pc' := 5) rfl rfl rfl ?_
    obtain ⟨zg1, W⟩ := W
    refine J_aload_no (pc' := 6) rfl rfl zg1 rfl ?_
    refine J_getI (G := 5000) (pc' := 9) rfl rfl (Nat.le_of_ble_eq_true rfl) rfl zg1 rfl ?_
    refine J_icmp (P := rs σ 5000 zo0 ≤ zx1) (t := 21) (f := 12) rfl rfl rfl jc_ge W (fun W => ?_) (fun W => ?_)
    · refine J_iconst (pc' := 22) rfl (i32_d rfl) rfl ?_
      exact J_iret rfl rfl ⟨_, rfl, W⟩
    · refine J_aload_no (pc' := 13) rfl rfl zg1 rfl ?_
      obtain ⟨zg2, W⟩ := W
      refine J_getA (G := 5001) (pc' := 16) rfl rfl (Nat.le_of_ble_eq_true rfl) rfl zg1 zg2 rfl ?_
      refine J_iload_n (pc' := 17) rfl rfl rfl ?_
      obtain ⟨zg3, W⟩ := W
      obtain ⟨zg4, W⟩ := W
      refine J_iald (pc' := 18) rfl rfl zg3 zg4 rfl ?_
      refine J_goto (pc' := 22) rfl rfl ?_
      exact J_iret rfl rfl ⟨_, rfl, W⟩
theorem wp_Memory_fromOf {n : Nat} {σ : jS} {Q : Int → jS → Prop} {zo0 : Int} {zx1 : Int} (W : (if zx1 < 0 then Q 0 σ else 0 ≤ zo0 ∧ (if rs σ 5000 zo0 ≤ zx1 then Q 0 σ else 0 ≤ rl σ 5002 zo0 ∧ 0 ≤ zx1 ∧ zx1 < rl σ 5002 zo0 ∧ Q (ra σ 5002 zo0 zx1) σ))) : TrI n i_Memory_fromOf [jo 5 zo0, ji zx1] σ Q := by
  refine Tr_of ax_Z_149 ?_
  show J n c_Memory_fromOf (some .int) 0 [some (jo 5 zo0), some (ji zx1)] [] σ (qI Q)
  refine J_iload_n (pc' := 1) rfl rfl rfl ?_
  refine J_if (P := zx1 < 0) (t := 21) (f := 4) rfl rfl rfl jc_lt W (fun W => ?_) (fun W => ?_)
  · refine J_iconst (pc' := 22) rfl (i32_d rfl) rfl ?_
    exact J_iret rfl rfl ⟨_, rfl, W⟩
  · refine J_iload_n (pc' := 5) rfl rfl rfl ?_
    obtain ⟨zg1, W⟩ := W
    refine J_aload_no (pc' := 6) rfl rfl zg1 rfl ?_
    refine J_getI (G := 5000) (pc' := 9) rfl rfl (Nat.le_of_ble_eq_true rfl) rfl zg1 rfl ?_
    refine J_icmp (P := rs σ 5000 zo0 ≤ zx1) (t := 21) (f := 12) rfl rfl rfl jc_ge W (fun W => ?_) (fun W => ?_)
    · refine J_iconst (pc' := 22) rfl (i32_d rfl) rfl ?_
      exact J_iret rfl rfl ⟨_, rfl, W⟩
    · refine J_aload_no (pc' := 13) rfl rfl zg1 rfl ?_
      obtain ⟨zg2, W⟩ := W
      refine J_getA (G := 5002) (pc' := 16) rfl rfl (Nat.le_of_ble_eq_true rfl) rfl zg1 zg2 rfl ?_
      refine J_iload_n (pc' := 17) rfl rfl rfl ?_
      obtain ⟨zg3, W⟩ := W
      obtain ⟨zg4, W⟩ := W
      refine J_iald (pc' := 18) rfl rfl zg3 zg4 rfl ?_
      refine J_goto (pc' := 22) rfl rfl ?_
      exact J_iret rfl rfl ⟨_, rfl, W⟩
theorem wp_Nodes_init {n : Nat} {σ : jS} {Q : jS → Prop} {zo0 : Int} (W : 0 ≤ zo0 ∧ 1 ≤ n ∧ (∀ zs3, zs3 = nA σ 0 256 → (∀ zs4, zs4 = mA zs3 0 6001 zo0 → Q zs4))) : TrV n i_Nodes_init [jo 6 zo0] σ Q := by
  refine Tr_of ax_Z_150 ?_
  show J n c_Nodes_init none 0 [some (jo 6 zo0)] [] σ (qV Q)
  obtain ⟨zg1, W⟩ := W
  refine J_aload_no (pc' := 1) rfl rfl zg1 rfl ?_
  obtain ⟨zg2, W⟩ := W
  refine J_oinit (pc' := 4) rfl zg1 zg2 (Nat.le_of_ble_eq_true rfl) rfl ?_
  refine J_aload_no (pc' := 5) rfl rfl zg1 rfl ?_
  refine J_sipush (pc' := 8) rfl (by decide) (by decide) rfl ?_
  refine J_newa (pc' := 10) rfl (by decide) (by decide) (by decide) trivial trivial rfl (fun zs3 ezs3 => ?_)
  replace W := W zs3 ezs3
  refine J_putT (G := 6001) (t := 0) (pc' := 13) rfl rfl (Nat.le_of_ble_eq_true rfl) rfl rfl rfl zg1 (Or.inl rfl) trivial trivial trivial trivial rfl (fun zs4 ezs4 => ?_)
  replace W := W zs4 ezs4
  exact J_vret rfl rfl ⟨rfl, W⟩
theorem wp_Nodes_has {n : Nat} {σ : jS} {Q : Int → jS → Prop} {zo0 : Int} {zx1 : Int} (W : (if zx1 < 0 then Q 0 σ else 0 ≤ zo0 ∧ (if rs σ 6000 zo0 ≤ zx1 then Q 0 σ else Q 1 σ))) : TrI n i_Nodes_has [jo 6 zo0, ji zx1] σ Q := by
  refine Tr_of ax_Z_151 ?_
  show J n c_Nodes_has (some .boolean) 0 [some (jo 6 zo0), some (ji zx1)] [] σ (qI Q)
  refine J_iload_n (pc' := 1) rfl rfl rfl ?_
  refine J_if (P := zx1 < 0) (t := 16) (f := 4) rfl rfl rfl jc_lt W (fun W => ?_) (fun W => ?_)
  · refine J_iconst (pc' := 17) rfl (i32_d rfl) rfl ?_
    exact J_zret rfl rfl (Or.inl rfl) ⟨_, rfl, W⟩
  · refine J_iload_n (pc' := 5) rfl rfl rfl ?_
    obtain ⟨zg1, W⟩ := W
    refine J_aload_no (pc' := 6) rfl rfl zg1 rfl ?_
    refine J_getI (G := 6000) (pc' := 9) rfl rfl (Nat.le_of_ble_eq_true rfl) rfl zg1 rfl ?_
    refine J_icmp (P := rs σ 6000 zo0 ≤ zx1) (t := 16) (f := 12) rfl rfl rfl jc_ge W (fun W => ?_) (fun W => ?_)
    · refine J_iconst (pc' := 17) rfl (i32_d rfl) rfl ?_
      exact J_zret rfl rfl (Or.inl rfl) ⟨_, rfl, W⟩
    · refine J_iconst (pc' := 13) rfl (i32_d rfl) rfl ?_
      refine J_goto (pc' := 17) rfl rfl ?_
      exact J_zret rfl rfl (Or.inr rfl) ⟨_, rfl, W⟩
theorem wp_Nodes_get {n : Nat} {σ : jS} {Q : Int → jS → Prop} {zo0 : Int} {zx1 : Int} {zx2 : Int} (W : i32 (zx1 * 8) ∧ i32 ((zx1 * 8) + zx2) ∧ (if zx1 < 0 then Q (-1) σ else 0 ≤ zo0 ∧ (if rs σ 6000 zo0 ≤ zx1 then Q (-1) σ else (if zx2 < 0 then Q (-1) σ else (if 8 ≤ zx2 then Q (-1) σ else 0 ≤ rl σ 6001 zo0 ∧ (if rl σ 6001 zo0 ≤ (zx1 * 8) + zx2 then Q (-1) σ else 0 ≤ (zx1 * 8) + zx2 ∧ (zx1 * 8) + zx2 < rl σ 6001 zo0 ∧ Q (ra σ 6001 zo0 ((zx1 * 8) + zx2)) σ)))))) : TrI n i_Nodes_get [jo 6 zo0, ji zx1, ji zx2] σ Q := by
  refine Tr_of ax_Z_152 ?_
  show J n c_Nodes_get (some .int) 0 [some (jo 6 zo0), some (ji zx1), some (ji zx2), none] [] σ (qI Q)
  refine J_iload_n (pc' := 1) rfl rfl rfl ?_
  refine J_bipush (pc' := 3) rfl (by decide) (by decide) rfl ?_
  obtain ⟨zg1, W⟩ := W
  refine J_imul (pc' := 4) rfl zg1 rfl ?_
  refine J_iload_n (pc' := 5) rfl rfl rfl ?_
  obtain ⟨zg2, W⟩ := W
  refine J_iadd (pc' := 6) rfl zg2 rfl ?_
  refine J_istore_n (L' := [some (jo 6 zo0), some (ji zx1), some (ji zx2), some (ji ((zx1 * 8) + zx2))]) (pc' := 7) rfl (Nat.le_of_ble_eq_true rfl) rfl rfl ?_
  refine J_iload_n (pc' := 8) rfl rfl rfl ?_
  refine J_if (P := zx1 < 0) (t := 47) (f := 11) rfl rfl rfl jc_lt W (fun W => ?_) (fun W => ?_)
  · refine J_iconst (pc' := 48) rfl (i32_d rfl) rfl ?_
    exact J_iret rfl rfl ⟨_, rfl, W⟩
  · refine J_iload_n (pc' := 12) rfl rfl rfl ?_
    obtain ⟨zg3, W⟩ := W
    refine J_aload_no (pc' := 13) rfl rfl zg3 rfl ?_
    refine J_getI (G := 6000) (pc' := 16) rfl rfl (Nat.le_of_ble_eq_true rfl) rfl zg3 rfl ?_
    refine J_icmp (P := rs σ 6000 zo0 ≤ zx1) (t := 47) (f := 19) rfl rfl rfl jc_ge W (fun W => ?_) (fun W => ?_)
    · refine J_iconst (pc' := 48) rfl (i32_d rfl) rfl ?_
      exact J_iret rfl rfl ⟨_, rfl, W⟩
    · refine J_iload_n (pc' := 20) rfl rfl rfl ?_
      refine J_if (P := zx2 < 0) (t := 47) (f := 23) rfl rfl rfl jc_lt W (fun W => ?_) (fun W => ?_)
      · refine J_iconst (pc' := 48) rfl (i32_d rfl) rfl ?_
        exact J_iret rfl rfl ⟨_, rfl, W⟩
      · refine J_iload_n (pc' := 24) rfl rfl rfl ?_
        refine J_bipush (pc' := 26) rfl (by decide) (by decide) rfl ?_
        refine J_icmp (P := 8 ≤ zx2) (t := 47) (f := 29) rfl rfl rfl jc_ge W (fun W => ?_) (fun W => ?_)
        · refine J_iconst (pc' := 48) rfl (i32_d rfl) rfl ?_
          exact J_iret rfl rfl ⟨_, rfl, W⟩
        · refine J_iload_n (pc' := 30) rfl rfl rfl ?_
          refine J_aload_no (pc' := 31) rfl rfl zg3 rfl ?_
          obtain ⟨zg4, W⟩ := W
          refine J_getA (G := 6001) (pc' := 34) rfl rfl (Nat.le_of_ble_eq_true rfl) rfl zg3 zg4 rfl ?_
          refine J_alen (pc' := 35) rfl (by decide) rfl ?_
          refine J_icmp (P := rl σ 6001 zo0 ≤ (zx1 * 8) + zx2) (t := 47) (f := 38) rfl rfl rfl jc_ge W (fun W => ?_) (fun W => ?_)
          · refine J_iconst (pc' := 48) rfl (i32_d rfl) rfl ?_
            exact J_iret rfl rfl ⟨_, rfl, W⟩
          · refine J_aload_no (pc' := 39) rfl rfl zg3 rfl ?_
            refine J_getA (G := 6001) (pc' := 42) rfl rfl (Nat.le_of_ble_eq_true rfl) rfl zg3 zg4 rfl ?_
            refine J_iload_n (pc' := 43) rfl rfl rfl ?_
            obtain ⟨zg5, W⟩ := W
            obtain ⟨zg6, W⟩ := W
            refine J_iald (pc' := 44) rfl rfl zg5 zg6 rfl ?_
            refine J_goto (pc' := 48) rfl rfl ?_
            exact J_iret rfl rfl ⟨_, rfl, W⟩
theorem wp_Nodes_set {n : Nat} {σ : jS} {Q : jS → Prop} {zo0 : Int} {zx1 : Int} {zx2 : Int} {zx3 : Int} (W : i32 (zx1 * 8) ∧ i32 ((zx1 * 8) + zx2) ∧ (if zx1 < 0 then Q σ else 0 ≤ zo0 ∧ (if rs σ 6000 zo0 ≤ zx1 then Q σ else (if zx2 < 0 then Q σ else (if 8 ≤ zx2 then Q σ else 0 ≤ rl σ 6001 zo0 ∧ (if rl σ 6001 zo0 ≤ (zx1 * 8) + zx2 then Q σ else 0 ≤ (zx1 * 8) + zx2 ∧ (zx1 * 8) + zx2 < rl σ 6001 zo0 ∧ (∀ zs5, zs5 = wa σ 6001 zo0 ((zx1 * 8) + zx2) zx3 → Q zs5))))))) : TrV n i_Nodes_set [jo 6 zo0, ji zx1, ji zx2, ji zx3] σ Q := by
  refine Tr_of ax_Z_153 ?_
  show J n c_Nodes_set none 0 [some (jo 6 zo0), some (ji zx1), some (ji zx2), some (ji zx3), none] [] σ (qV Q)
  refine J_iload_n (pc' := 1) rfl rfl rfl ?_
  refine J_bipush (pc' := 3) rfl (by decide) (by decide) rfl ?_
  obtain ⟨zg1, W⟩ := W
  refine J_imul (pc' := 4) rfl zg1 rfl ?_
  refine J_iload_n (pc' := 5) rfl rfl rfl ?_
  obtain ⟨zg2, W⟩ := W
  refine J_iadd (pc' := 6) rfl zg2 rfl ?_
  refine J_istore (L' := [some (jo 6 zo0), some (ji zx1), some (ji zx2), some (ji zx3), some (ji ((zx1 * 8) + zx2))]) (pc' := 8) rfl (Nat.le_of_ble_eq_true rfl) rfl rfl ?_
  refine J_iload_n (pc' := 9) rfl rfl rfl ?_
  refine J_if (P := zx1 < 0) (t := 48) (f := 12) rfl rfl rfl jc_lt W (fun W => ?_) (fun W => ?_)
  · exact J_vret rfl rfl ⟨rfl, W⟩
  · refine J_iload_n (pc' := 13) rfl rfl rfl ?_
    obtain ⟨zg3, W⟩ := W
    refine J_aload_no (pc' := 14) rfl rfl zg3 rfl ?_
    refine J_getI (G := 6000) (pc' := 17) rfl rfl (Nat.le_of_ble_eq_true rfl) rfl zg3 rfl ?_
    refine J_icmp (P := rs σ 6000 zo0 ≤ zx1) (t := 48) (f := 20) rfl rfl rfl jc_ge W (fun W => ?_) (fun W => ?_)
    · exact J_vret rfl rfl ⟨rfl, W⟩
    · refine J_iload_n (pc' := 21) rfl rfl rfl ?_
      refine J_if (P := zx2 < 0) (t := 48) (f := 24) rfl rfl rfl jc_lt W (fun W => ?_) (fun W => ?_)
      · exact J_vret rfl rfl ⟨rfl, W⟩
      · refine J_iload_n (pc' := 25) rfl rfl rfl ?_
        refine J_bipush (pc' := 27) rfl (by decide) (by decide) rfl ?_
        refine J_icmp (P := 8 ≤ zx2) (t := 48) (f := 30) rfl rfl rfl jc_ge W (fun W => ?_) (fun W => ?_)
        · exact J_vret rfl rfl ⟨rfl, W⟩
        · refine J_iload (pc' := 32) rfl rfl rfl ?_
          refine J_aload_no (pc' := 33) rfl rfl zg3 rfl ?_
          obtain ⟨zg4, W⟩ := W
          refine J_getA (G := 6001) (pc' := 36) rfl rfl (Nat.le_of_ble_eq_true rfl) rfl zg3 zg4 rfl ?_
          refine J_alen (pc' := 37) rfl (by decide) rfl ?_
          refine J_icmp (P := rl σ 6001 zo0 ≤ (zx1 * 8) + zx2) (t := 48) (f := 40) rfl rfl rfl jc_ge W (fun W => ?_) (fun W => ?_)
          · exact J_vret rfl rfl ⟨rfl, W⟩
          · refine J_aload_no (pc' := 41) rfl rfl zg3 rfl ?_
            refine J_getA (G := 6001) (pc' := 44) rfl rfl (Nat.le_of_ble_eq_true rfl) rfl zg3 zg4 rfl ?_
            refine J_iload (pc' := 46) rfl rfl rfl ?_
            refine J_iload_n (pc' := 47) rfl rfl rfl ?_
            obtain ⟨zg6, W⟩ := W
            obtain ⟨zg7, W⟩ := W
            refine J_iast (pc' := 48) rfl rfl (by decide) zg6 zg7 rfl (fun zs5 ezs5 => ?_)
            replace W := W zs5 ezs5
            exact J_vret rfl rfl ⟨rfl, W⟩
theorem wp_Nodes_add {n : Nat} {σ : jS} {Q : Int → jS → Prop} {zo0 : Int} (W : 0 ≤ zo0 ∧ i32 ((rs σ 6000 zo0) + 1) ∧ i32 (((rs σ 6000 zo0) + 1) * 8) ∧ 0 ≤ rl σ 6001 zo0 ∧ (if ((rs σ 6000 zo0) + 1) * 8 ≤ rl σ 6001 zo0 then J n c_Nodes_add (some .int) 45 [some (jo 6 zo0), none] [] σ (qI Q) else (if 131072 ≤ rl σ 6001 zo0 then J n c_Nodes_add (some .int) 45 [some (jo 6 zo0), none] [] σ (qI Q) else i32 ((rl σ 6001 zo0) * 2) ∧ 1 ≤ n ∧ TrA (n - 1) i_Arrays_copyOf [ja 6001 zo0, ji ((rl σ 6001 zo0) * 2)] σ (fun zF9 zp10 zs7 => (if zF9 = 900000 ∧ zp10 = 0 then ∀ zs11, zs11 = mA zs7 0 6001 zo0 → J n c_Nodes_add (some .int) 45 [some (jo 6 zo0), none] [] zs11 (qI Q) else (zF9 = 6001 ∧ zp10 = zo0) ∧ J n c_Nodes_add (some .int) 45 [some (jo 6 zo0), none] [] zs7 (qI Q)))))) : TrI n i_Nodes_add [jo 6 zo0] σ Q := by
  refine Tr_of ax_Z_154 ?_
  show J n c_Nodes_add (some .int) 0 [some (jo 6 zo0), none] [] σ (qI Q)
  obtain ⟨zg1, W⟩ := W
  refine J_aload_no (pc' := 1) rfl rfl zg1 rfl ?_
  refine J_getI (G := 6000) (pc' := 4) rfl rfl (Nat.le_of_ble_eq_true rfl) rfl zg1 rfl ?_
  refine J_iconst (pc' := 5) rfl (i32_d rfl) rfl ?_
  obtain ⟨zg2, W⟩ := W
  refine J_iadd (pc' := 6) rfl zg2 rfl ?_
  refine J_bipush (pc' := 8) rfl (by decide) (by decide) rfl ?_
  obtain ⟨zg3, W⟩ := W
  refine J_imul (pc' := 9) rfl zg3 rfl ?_
  refine J_aload_no (pc' := 10) rfl rfl zg1 rfl ?_
  obtain ⟨zg4, W⟩ := W
  refine J_getA (G := 6001) (pc' := 13) rfl rfl (Nat.le_of_ble_eq_true rfl) rfl zg1 zg4 rfl ?_
  refine J_alen (pc' := 14) rfl (by decide) rfl ?_
  refine J_icmp (P := ((rs σ 6000 zo0) + 1) * 8 ≤ rl σ 6001 zo0) (t := 45) (f := 17) rfl rfl rfl jc_le W (fun W => ?_) (fun W => ?_)
  · exact W
  · refine J_aload_no (pc' := 18) rfl rfl zg1 rfl ?_
    refine J_getA (G := 6001) (pc' := 21) rfl rfl (Nat.le_of_ble_eq_true rfl) rfl zg1 zg4 rfl ?_
    refine J_alen (pc' := 22) rfl (by decide) rfl ?_
    refine J_ldc (pc' := 24) (Or.inl rfl) rfl (i32_d rfl) rfl ?_
    refine J_icmp (P := 131072 ≤ rl σ 6001 zo0) (t := 45) (f := 27) rfl rfl rfl jc_ge W (fun W => ?_) (fun W => ?_)
    · exact W
    · refine J_aload_no (pc' := 28) rfl rfl zg1 rfl ?_
      refine J_aload_no (pc' := 29) rfl rfl zg1 rfl ?_
      refine J_getA (G := 6001) (pc' := 32) rfl rfl (Nat.le_of_ble_eq_true rfl) rfl zg1 zg4 rfl ?_
      refine J_aload_no (pc' := 33) rfl rfl zg1 rfl ?_
      refine J_getA (G := 6001) (pc' := 36) rfl rfl (Nat.le_of_ble_eq_true rfl) rfl zg1 zg4 rfl ?_
      refine J_alen (pc' := 37) rfl (by decide) rfl ?_
      refine J_iconst (pc' := 38) rfl (i32_d rfl) rfl ?_
      obtain ⟨zg5, W⟩ := W
      refine J_imul (pc' := 39) rfl zg5 rfl ?_
      obtain ⟨zg6, W⟩ := W
      refine J_callA (as := [ja 6001 zo0, ji ((rl σ 6001 zo0) * 2)]) (rest := [jo 6 zo0]) (pc' := 42) rfl rfl ax_Z_113 rfl rfl (Or.inl rfl) (Nat.le_of_ble_eq_true rfl) (Nat.le_of_ble_eq_true rfl) (Nat.le_of_ble_eq_true rfl) zg6 trivial trivial rfl W (fun zF9 zp10 zs7 W => ?_)
      by_cases zc13 : zF9 = 900000 ∧ zp10 = 0
      · rw [if_pos zc13] at W
        obtain ⟨rfl, rfl⟩ := zc13
        refine J_putT (G := 6001) (t := 0) (pc' := 45) rfl rfl (Nat.le_of_ble_eq_true rfl) rfl rfl rfl zg1 (Or.inl rfl) trivial trivial trivial trivial rfl (fun zs11 ezs11 => ?_)
        replace W := W zs11 ezs11
        exact W
      · rw [if_neg zc13] at W
        obtain ⟨⟨e1, e2⟩, W⟩ := W
        replace e2 := e2.symm
        subst e1 e2
        refine J_putS (G := 6001) (pc' := 45) rfl rfl (Nat.le_of_ble_eq_true rfl) rfl rfl zg1 rfl ?_
        exact W
theorem wp_Nodes_add_45 {n : Nat} {σ : jS} {Q : Int → jS → Prop} {zo0 : Int} (W : 0 ≤ zo0 ∧ i32 ((rs σ 6000 zo0) + 1) ∧ i32 (((rs σ 6000 zo0) + 1) * 8) ∧ 0 ≤ rl σ 6001 zo0 ∧ (if ((rs σ 6000 zo0) + 1) * 8 ≤ rl σ 6001 zo0 then (∀ zs5, zs5 = ws σ 6000 zo0 ((rs σ 6000 zo0) + 1) → Q (rs σ 6000 zo0) zs5) else Q (-1) σ)) : J n c_Nodes_add (some .int) 45 [some (jo 6 zo0), none] [] σ (qI Q) := by
  obtain ⟨zg1, W⟩ := W
  refine J_aload_no (pc' := 46) rfl rfl zg1 rfl ?_
  refine J_getI (G := 6000) (pc' := 49) rfl rfl (Nat.le_of_ble_eq_true rfl) rfl zg1 rfl ?_
  refine J_iconst (pc' := 50) rfl (i32_d rfl) rfl ?_
  obtain ⟨zg2, W⟩ := W
  refine J_iadd (pc' := 51) rfl zg2 rfl ?_
  refine J_bipush (pc' := 53) rfl (by decide) (by decide) rfl ?_
  obtain ⟨zg3, W⟩ := W
  refine J_imul (pc' := 54) rfl zg3 rfl ?_
  refine J_aload_no (pc' := 55) rfl rfl zg1 rfl ?_
  obtain ⟨zg4, W⟩ := W
  refine J_getA (G := 6001) (pc' := 58) rfl rfl (Nat.le_of_ble_eq_true rfl) rfl zg1 zg4 rfl ?_
  refine J_alen (pc' := 59) rfl (by decide) rfl ?_
  refine J_icmp (P := ((rs σ 6000 zo0) + 1) * 8 ≤ rl σ 6001 zo0) (t := 64) (f := 62) rfl rfl rfl jc_le W (fun W => ?_) (fun W => ?_)
  · refine J_aload_no (pc' := 65) rfl rfl zg1 rfl ?_
    refine J_getI (G := 6000) (pc' := 68) rfl rfl (Nat.le_of_ble_eq_true rfl) rfl zg1 rfl ?_
    refine J_istore_n (L' := [some (jo 6 zo0), some (ji (rs σ 6000 zo0))]) (pc' := 69) rfl (Nat.le_of_ble_eq_true rfl) rfl rfl ?_
    refine J_aload_no (pc' := 70) rfl rfl zg1 rfl ?_
    refine J_dup (pc' := 71) rfl rfl rfl ?_
    refine J_getI (G := 6000) (pc' := 74) rfl rfl (Nat.le_of_ble_eq_true rfl) rfl zg1 rfl ?_
    refine J_iconst (pc' := 75) rfl (i32_d rfl) rfl ?_
    refine J_iadd (pc' := 76) rfl zg2 rfl ?_
    refine J_putI (G := 6000) (pc' := 79) rfl rfl (Nat.le_of_ble_eq_true rfl) rfl rfl zg1 rfl (fun zs5 ezs5 => ?_)
    replace W := W zs5 ezs5
    refine J_iload_n (pc' := 80) rfl rfl rfl ?_
    exact J_iret rfl rfl ⟨_, rfl, W⟩
  · refine J_iconst (pc' := 63) rfl (i32_d rfl) rfl ?_
    exact J_iret rfl rfl ⟨_, rfl, W⟩
theorem wp_Search_init {n : Nat} {σ : jS} {Q : jS → Prop} {zo0 : Int} {zo1 : Int} (W : 0 ≤ zo0 ∧ 1 ≤ n ∧ rk σ 9 < 2000000 ∧ 0 ≤ rk σ 9 ∧ (∀ zs3, zs3 = nO σ 9 → TrV (n - 1) i_Terms_init [jo 9 (rk σ 9)] zs3 (fun zs6 => 0 ≤ rk σ 9 ∧ (∀ zs8, zs8 = ws zs6 7000 zo0 (rk σ 9) → rk zs8 5 < 2000000 ∧ 0 ≤ rk zs8 5 ∧ (∀ zs10, zs10 = nO zs8 5 → TrV (n - 1) i_Memory_init [jo 5 (rk zs8 5)] zs10 (fun zs13 => 0 ≤ rk zs8 5 ∧ (∀ zs15, zs15 = ws zs13 7001 zo0 (rk zs8 5) → (∀ zs17, zs17 = nA zs15 0 9 → rl zs17 7002 zo0 < 0 ∧ (∀ zs18, zs18 = mA zs17 0 7002 zo0 → rk zs18 0 < 2000000 ∧ 0 ≤ rk zs18 0 ∧ (∀ zs20, zs20 = nO zs18 0 → TrV (n - 1) i_Flat_init [jo 0 (rk zs18 0), ji 100] zs20 (fun zs23 => 0 ≤ rk zs18 0 ∧ (∀ zs25, zs25 = ws zs23 7003 zo0 (rk zs18 0) → (∀ zs27, zs27 = ws zs25 7004 zo0 (-1) → (∀ zs28, zs28 = ws zs27 7005 zo0 (-1) → rk zs28 6 < 2000000 ∧ 0 ≤ rk zs28 6 ∧ (∀ zs29, zs29 = nO zs28 6 → TrV (n - 1) i_Nodes_init [jo 6 (rk zs28 6)] zs29 (fun zs32 => 0 ≤ rk zs28 6 ∧ (∀ zs34, zs34 = ws zs32 7006 zo0 (rk zs28 6) → rk zs34 2 < 2000000 ∧ 0 ≤ rk zs34 2 ∧ (∀ zs36, zs36 = nO zs34 2 → TrV (n - 1) i_Counts_init [jo 2 (rk zs34 2)] zs36 (fun zs39 => 0 ≤ rk zs34 2 ∧ (∀ zs41, zs41 = ws zs39 7007 zo0 (rk zs34 2) → rk zs41 0 < 2000000 ∧ 0 ≤ rk zs41 0 ∧ (∀ zs43, zs43 = nO zs41 0 → TrV (n - 1) i_Flat_init [jo 0 (rk zs41 0), ji 100] zs43 (fun zs46 => 0 ≤ rk zs41 0 ∧ (∀ zs48, zs48 = ws zs46 7008 zo0 (rk zs41 0) → rk zs48 0 < 2000000 ∧ 0 ≤ rk zs48 0 ∧ (∀ zs50, zs50 = nO zs48 0 → TrV (n - 1) i_Flat_init [jo 0 (rk zs48 0), ji 100] zs50 (fun zs53 => 0 ≤ rk zs48 0 ∧ (∀ zs55, zs55 = ws zs53 7009 zo0 (rk zs48 0) → (∀ zs57, zs57 = nA zs55 0 20 → rl zs57 7010 zo0 < 0 ∧ (∀ zs58, zs58 = mA zs57 0 7010 zo0 → (∀ zs60, zs60 = nA zs58 0 20 → rl zs60 7011 zo0 < 0 ∧ (∀ zs61, zs61 = mA zs60 0 7011 zo0 → (∀ zs63, zs63 = nA zs61 0 80 → rl zs63 7012 zo0 < 0 ∧ (∀ zs64, zs64 = mA zs63 0 7012 zo0 → (∀ zs66, zs66 = nA zs64 0 200 → rl zs66 7013 zo0 < 0 ∧ (∀ zs67, zs67 = mA zs66 0 7013 zo0 → 0 ≤ zo1 ∧ (∀ zs70, zs70 = ws zs67 7019 zo0 zo1 → Q zs70))))))))))))))))))))))))))))))))))) : TrV n i_Search_init [jo 7 zo0, jo 10 zo1] σ Q := by
  refine Tr_of ax_Z_155 ?_
  show J n c_Search_init none 0 [some (jo 7 zo0), some (jo 10 zo1)] [] σ (qV Q)
  obtain ⟨zg1, W⟩ := W
  refine J_aload_no (pc' := 1) rfl rfl zg1 rfl ?_
  obtain ⟨zg2, W⟩ := W
  refine J_oinit (pc' := 4) rfl zg1 zg2 (Nat.le_of_ble_eq_true rfl) rfl ?_
  refine J_aload_no (pc' := 5) rfl rfl zg1 rfl ?_
  obtain ⟨zg4, W⟩ := W
  obtain ⟨zg5, W⟩ := W
  refine J_new (pc' := 8) rfl zg4 rfl (fun zs3 ezs3 => ?_)
  replace W := W zs3 ezs3
  refine J_dup (pc' := 9) rfl rfl rfl ?_
  refine J_callV (as := [jo 9 (rk σ 9)]) (rest := [jo 9 (rk σ 9), jo 7 zo0]) (pc' := 12) rfl rfl ax_Z_195 rfl rfl (Or.inr (Or.inr ⟨_, _, rfl, zg5⟩)) (Nat.le_of_ble_eq_true rfl) (Nat.le_of_ble_eq_true rfl) (Nat.le_of_ble_eq_true rfl) zg2 trivial trivial rfl W (fun zs6 W => ?_)
  obtain ⟨zg9, W⟩ := W
  refine J_putO (G := 7000) (pc' := 15) rfl rfl (Nat.le_of_ble_eq_true rfl) rfl rfl zg1 zg9 rfl (fun zs8 ezs8 => ?_)
  replace W := W zs8 ezs8
  refine J_aload_no (pc' := 16) rfl rfl zg1 rfl ?_
  obtain ⟨zg11, W⟩ := W
  obtain ⟨zg12, W⟩ := W
  refine J_new (pc' := 19) rfl zg11 rfl (fun zs10 ezs10 => ?_)
  replace W := W zs10 ezs10
  refine J_dup (pc' := 20) rfl rfl rfl ?_
  refine J_callV (as := [jo 5 (rk zs8 5)]) (rest := [jo 5 (rk zs8 5), jo 7 zo0]) (pc' := 23) rfl rfl ax_Z_143 rfl rfl (Or.inr (Or.inr ⟨_, _, rfl, zg12⟩)) (Nat.le_of_ble_eq_true rfl) (Nat.le_of_ble_eq_true rfl) (Nat.le_of_ble_eq_true rfl) zg2 trivial trivial rfl W (fun zs13 W => ?_)
  obtain ⟨zg16, W⟩ := W
  refine J_putO (G := 7001) (pc' := 26) rfl rfl (Nat.le_of_ble_eq_true rfl) rfl rfl zg1 zg16 rfl (fun zs15 ezs15 => ?_)
  replace W := W zs15 ezs15
  refine J_aload_no (pc' := 27) rfl rfl zg1 rfl ?_
  refine J_bipush (pc' := 29) rfl (by decide) (by decide) rfl ?_
  refine J_newa (pc' := 31) rfl (by decide) (by decide) (by decide) trivial trivial rfl (fun zs17 ezs17 => ?_)
  replace W := W zs17 ezs17
  obtain ⟨zg19, W⟩ := W
  refine J_putT (G := 7002) (t := 0) (pc' := 34) rfl rfl (Nat.le_of_ble_eq_true rfl) rfl rfl rfl zg1 (Or.inr zg19) trivial trivial trivial trivial rfl (fun zs18 ezs18 => ?_)
  replace W := W zs18 ezs18
  refine J_aload_no (pc' := 35) rfl rfl zg1 rfl ?_
  obtain ⟨zg21, W⟩ := W
  obtain ⟨zg22, W⟩ := W
  refine J_new (pc' := 38) rfl zg21 rfl (fun zs20 ezs20 => ?_)
  replace W := W zs20 ezs20
  refine J_dup (pc' := 39) rfl rfl rfl ?_
  refine J_bipush (pc' := 41) rfl (by decide) (by decide) rfl ?_
  refine J_callV (as := [jo 0 (rk zs18 0), ji 100]) (rest := [jo 0 (rk zs18 0), jo 7 zo0]) (pc' := 44) rfl rfl ax_Z_114 rfl rfl (Or.inr (Or.inr ⟨_, _, rfl, zg22⟩)) (Nat.le_of_ble_eq_true rfl) (Nat.le_of_ble_eq_true rfl) (Nat.le_of_ble_eq_true rfl) zg2 trivial trivial rfl W (fun zs23 W => ?_)
  obtain ⟨zg26, W⟩ := W
  refine J_putO (G := 7003) (pc' := 47) rfl rfl (Nat.le_of_ble_eq_true rfl) rfl rfl zg1 zg26 rfl (fun zs25 ezs25 => ?_)
  replace W := W zs25 ezs25
  refine J_aload_no (pc' := 48) rfl rfl zg1 rfl ?_
  refine J_iconst (pc' := 49) rfl (i32_d rfl) rfl ?_
  refine J_putI (G := 7004) (pc' := 52) rfl rfl (Nat.le_of_ble_eq_true rfl) rfl rfl zg1 rfl (fun zs27 ezs27 => ?_)
  replace W := W zs27 ezs27
  refine J_aload_no (pc' := 53) rfl rfl zg1 rfl ?_
  refine J_iconst (pc' := 54) rfl (i32_d rfl) rfl ?_
  refine J_putI (G := 7005) (pc' := 57) rfl rfl (Nat.le_of_ble_eq_true rfl) rfl rfl zg1 rfl (fun zs28 ezs28 => ?_)
  replace W := W zs28 ezs28
  refine J_aload_no (pc' := 58) rfl rfl zg1 rfl ?_
  obtain ⟨zg30, W⟩ := W
  obtain ⟨zg31, W⟩ := W
  refine J_new (pc' := 61) rfl zg30 rfl (fun zs29 ezs29 => ?_)
  replace W := W zs29 ezs29
  refine J_dup (pc' := 62) rfl rfl rfl ?_
  refine J_callV (as := [jo 6 (rk zs28 6)]) (rest := [jo 6 (rk zs28 6), jo 7 zo0]) (pc' := 65) rfl rfl ax_Z_150 rfl rfl (Or.inr (Or.inr ⟨_, _, rfl, zg31⟩)) (Nat.le_of_ble_eq_true rfl) (Nat.le_of_ble_eq_true rfl) (Nat.le_of_ble_eq_true rfl) zg2 trivial trivial rfl W (fun zs32 W => ?_)
  obtain ⟨zg35, W⟩ := W
  refine J_putO (G := 7006) (pc' := 68) rfl rfl (Nat.le_of_ble_eq_true rfl) rfl rfl zg1 zg35 rfl (fun zs34 ezs34 => ?_)
  replace W := W zs34 ezs34
  refine J_aload_no (pc' := 69) rfl rfl zg1 rfl ?_
  obtain ⟨zg37, W⟩ := W
  obtain ⟨zg38, W⟩ := W
  refine J_new (pc' := 72) rfl zg37 rfl (fun zs36 ezs36 => ?_)
  replace W := W zs36 ezs36
  refine J_dup (pc' := 73) rfl rfl rfl ?_
  refine J_callV (as := [jo 2 (rk zs34 2)]) (rest := [jo 2 (rk zs34 2), jo 7 zo0]) (pc' := 76) rfl rfl ax_Z_128 rfl rfl (Or.inr (Or.inr ⟨_, _, rfl, zg38⟩)) (Nat.le_of_ble_eq_true rfl) (Nat.le_of_ble_eq_true rfl) (Nat.le_of_ble_eq_true rfl) zg2 trivial trivial rfl W (fun zs39 W => ?_)
  obtain ⟨zg42, W⟩ := W
  refine J_putO (G := 7007) (pc' := 79) rfl rfl (Nat.le_of_ble_eq_true rfl) rfl rfl zg1 zg42 rfl (fun zs41 ezs41 => ?_)
  replace W := W zs41 ezs41
  refine J_aload_no (pc' := 80) rfl rfl zg1 rfl ?_
  obtain ⟨zg44, W⟩ := W
  obtain ⟨zg45, W⟩ := W
  refine J_new (pc' := 83) rfl zg44 rfl (fun zs43 ezs43 => ?_)
  replace W := W zs43 ezs43
  refine J_dup (pc' := 84) rfl rfl rfl ?_
  refine J_bipush (pc' := 86) rfl (by decide) (by decide) rfl ?_
  refine J_callV (as := [jo 0 (rk zs41 0), ji 100]) (rest := [jo 0 (rk zs41 0), jo 7 zo0]) (pc' := 89) rfl rfl ax_Z_114 rfl rfl (Or.inr (Or.inr ⟨_, _, rfl, zg45⟩)) (Nat.le_of_ble_eq_true rfl) (Nat.le_of_ble_eq_true rfl) (Nat.le_of_ble_eq_true rfl) zg2 trivial trivial rfl W (fun zs46 W => ?_)
  obtain ⟨zg49, W⟩ := W
  refine J_putO (G := 7008) (pc' := 92) rfl rfl (Nat.le_of_ble_eq_true rfl) rfl rfl zg1 zg49 rfl (fun zs48 ezs48 => ?_)
  replace W := W zs48 ezs48
  refine J_aload_no (pc' := 93) rfl rfl zg1 rfl ?_
  obtain ⟨zg51, W⟩ := W
  obtain ⟨zg52, W⟩ := W
  refine J_new (pc' := 96) rfl zg51 rfl (fun zs50 ezs50 => ?_)
  replace W := W zs50 ezs50
  refine J_dup (pc' := 97) rfl rfl rfl ?_
  refine J_bipush (pc' := 99) rfl (by decide) (by decide) rfl ?_
  refine J_callV (as := [jo 0 (rk zs48 0), ji 100]) (rest := [jo 0 (rk zs48 0), jo 7 zo0]) (pc' := 102) rfl rfl ax_Z_114 rfl rfl (Or.inr (Or.inr ⟨_, _, rfl, zg52⟩)) (Nat.le_of_ble_eq_true rfl) (Nat.le_of_ble_eq_true rfl) (Nat.le_of_ble_eq_true rfl) zg2 trivial trivial rfl W (fun zs53 W => ?_)
  obtain ⟨zg56, W⟩ := W
  refine J_putO (G := 7009) (pc' := 105) rfl rfl (Nat.le_of_ble_eq_true rfl) rfl rfl zg1 zg56 rfl (fun zs55 ezs55 => ?_)
  replace W := W zs55 ezs55
  refine J_aload_no (pc' := 106) rfl rfl zg1 rfl ?_
  refine J_bipush (pc' := 108) rfl (by decide) (by decide) rfl ?_
  refine J_newa (pc' := 110) rfl (by decide) (by decide) (by decide) trivial trivial rfl (fun zs57 ezs57 => ?_)
  replace W := W zs57 ezs57
  obtain ⟨zg59, W⟩ := W
  refine J_putT (G := 7010) (t := 0) (pc' := 113) rfl rfl (Nat.le_of_ble_eq_true rfl) rfl rfl rfl zg1 (Or.inr zg59) trivial trivial trivial trivial rfl (fun zs58 ezs58 => ?_)
  replace W := W zs58 ezs58
  refine J_aload_no (pc' := 114) rfl rfl zg1 rfl ?_
  refine J_bipush (pc' := 116) rfl (by decide) (by decide) rfl ?_
  refine J_newa (pc' := 118) rfl (by decide) (by decide) (by decide) trivial trivial rfl (fun zs60 ezs60 => ?_)
  replace W := W zs60 ezs60
  obtain ⟨zg62, W⟩ := W
  refine J_putT (G := 7011) (t := 0) (pc' := 121) rfl rfl (Nat.le_of_ble_eq_true rfl) rfl rfl rfl zg1 (Or.inr zg62) trivial trivial trivial trivial rfl (fun zs61 ezs61 => ?_)
  replace W := W zs61 ezs61
  refine J_aload_no (pc' := 122) rfl rfl zg1 rfl ?_
  refine J_bipush (pc' := 124) rfl (by decide) (by decide) rfl ?_
  refine J_newa (pc' := 126) rfl (by decide) (by decide) (by decide) trivial trivial rfl (fun zs63 ezs63 => ?_)
  replace W := W zs63 ezs63
  obtain ⟨zg65, W⟩ := W
  refine J_putT (G := 7012) (t := 0) (pc' := 129) rfl rfl (Nat.le_of_ble_eq_true rfl) rfl rfl rfl zg1 (Or.inr zg65) trivial trivial trivial trivial rfl (fun zs64 ezs64 => ?_)
  replace W := W zs64 ezs64
  refine J_aload_no (pc' := 130) rfl rfl zg1 rfl ?_
  refine J_sipush (pc' := 133) rfl (by decide) (by decide) rfl ?_
  refine J_newa (pc' := 135) rfl (by decide) (by decide) (by decide) trivial trivial rfl (fun zs66 ezs66 => ?_)
  replace W := W zs66 ezs66
  obtain ⟨zg68, W⟩ := W
  refine J_putT (G := 7013) (t := 0) (pc' := 138) rfl rfl (Nat.le_of_ble_eq_true rfl) rfl rfl rfl zg1 (Or.inr zg68) trivial trivial trivial trivial rfl (fun zs67 ezs67 => ?_)
  replace W := W zs67 ezs67
  refine J_aload_no (pc' := 139) rfl rfl zg1 rfl ?_
  obtain ⟨zg69, W⟩ := W
  refine J_aload_no (pc' := 140) rfl rfl zg69 rfl ?_
  refine J_putO (G := 7019) (pc' := 143) rfl rfl (Nat.le_of_ble_eq_true rfl) rfl rfl zg1 zg69 rfl (fun zs70 ezs70 => ?_)
  replace W := W zs70 ezs70
  exact J_vret rfl rfl ⟨rfl, W⟩
theorem wp_Search_tell {n : Nat} {σ : jS} {Q : jS → Prop} {zo0 : Int} {zo1 : Int} (W : 0 ≤ zo0 ∧ 0 ≤ zo1 ∧ (∀ zs3, zs3 = ws σ 7019 zo0 zo1 → 1 ≤ n ∧ 0 ≤ rs zs3 7001 zo0 ∧ TrV (n - 1) i_Memory_forget [jo 5 (rs zs3 7001 zo0)] zs3 (fun zs6 => Q zs6))) : TrV n i_Search_tell [jo 7 zo0, jo 10 zo1] σ Q := by
  refine Tr_of ax_Z_156 ?_
  show J n c_Search_tell none 0 [some (jo 7 zo0), some (jo 10 zo1)] [] σ (qV Q)
  obtain ⟨zg1, W⟩ := W
  refine J_aload_no (pc' := 1) rfl rfl zg1 rfl ?_
  obtain ⟨zg2, W⟩ := W
  refine J_aload_no (pc' := 2) rfl rfl zg2 rfl ?_
  refine J_putO (G := 7019) (pc' := 5) rfl rfl (Nat.le_of_ble_eq_true rfl) rfl rfl zg1 zg2 rfl (fun zs3 ezs3 => ?_)
  replace W := W zs3 ezs3
  refine J_aload_no (pc' := 6) rfl rfl zg1 rfl ?_
  refine J_getO (G := 7001) (pc' := 9) rfl rfl (Nat.le_of_ble_eq_true rfl) rfl zg1 rfl ?_
  obtain ⟨zg4, W⟩ := W
  obtain ⟨zg5, W⟩ := W
  refine J_weak (L' := [none, none]) trivial ?_
  refine J_callV (as := [jo 5 (rs zs3 7001 zo0)]) (rest := []) (pc' := 12) rfl rfl ax_Z_144 rfl rfl (Or.inr (Or.inr ⟨_, _, rfl, zg5⟩)) (Nat.le_of_ble_eq_true rfl) (Nat.le_of_ble_eq_true rfl) (Nat.le_of_ble_eq_true rfl) zg4 trivial trivial rfl W (fun zs6 W => ?_)
  exact J_vret rfl rfl ⟨rfl, W⟩
theorem wp_Search_begin {n : Nat} {σ : jS} {Q : jS → Prop} {zo0 : Int} {zx1 : Int} {zx2 : Int} {zx3 : Int} (W : 0 ≤ zo0 ∧ 1 ≤ n ∧ 0 ≤ rs σ 7000 zo0 ∧ TrV (n - 1) i_Terms_clear [jo 9 (rs σ 7000 zo0)] σ (fun zs4 => 0 ≤ rs zs4 7006 zo0 ∧ (∀ zs7, zs7 = ws zs4 6000 (rs zs4 7006 zo0) 0 → 0 ≤ rl zs7 7002 zo0 ∧ TrV (n - 1) i_Arrays_fill [ja 7002 zo0, ji 0] zs7 (fun zs9 => (∀ zs11, zs11 = ws zs9 7014 zo0 zx1 → (∀ zs12, zs12 = ws zs11 7015 zo0 zx2 → (∀ zs13, zs13 = ws zs12 7016 zo0 zx3 → (∀ zs14, zs14 = ws zs13 7017 zo0 0 → Q zs14)))))))) : TrV n i_Search_begin [jo 7 zo0, ji zx1, ji zx2, ji zx3] σ Q := by
  refine Tr_of ax_Z_157 ?_
  show J n c_Search_begin none 0 [some (jo 7 zo0), some (ji zx1), some (ji zx2), some (ji zx3)] [] σ (qV Q)
  obtain ⟨zg1, W⟩ := W
  refine J_aload_no (pc' := 1) rfl rfl zg1 rfl ?_
  refine J_getO (G := 7000) (pc' := 4) rfl rfl (Nat.le_of_ble_eq_true rfl) rfl zg1 rfl ?_
  obtain ⟨zg2, W⟩ := W
  obtain ⟨zg3, W⟩ := W
  refine J_callV (as := [jo 9 (rs σ 7000 zo0)]) (rest := []) (pc' := 7) rfl rfl ax_Z_196 rfl rfl (Or.inr (Or.inr ⟨_, _, rfl, zg3⟩)) (Nat.le_of_ble_eq_true rfl) (Nat.le_of_ble_eq_true rfl) (Nat.le_of_ble_eq_true rfl) zg2 trivial trivial rfl W (fun zs4 W => ?_)
  refine J_aload_no (pc' := 8) rfl rfl zg1 rfl ?_
  refine J_getO (G := 7006) (pc' := 11) rfl rfl (Nat.le_of_ble_eq_true rfl) rfl zg1 rfl ?_
  refine J_iconst (pc' := 12) rfl (i32_d rfl) rfl ?_
  obtain ⟨zg6, W⟩ := W
  refine J_putI (G := 6000) (pc' := 15) rfl rfl (Nat.le_of_ble_eq_true rfl) rfl rfl zg6 rfl (fun zs7 ezs7 => ?_)
  replace W := W zs7 ezs7
  refine J_aload_no (pc' := 16) rfl rfl zg1 rfl ?_
  obtain ⟨zg8, W⟩ := W
  refine J_getA (G := 7002) (pc' := 19) rfl rfl (Nat.le_of_ble_eq_true rfl) rfl zg1 zg8 rfl ?_
  refine J_iconst (pc' := 20) rfl (i32_d rfl) rfl ?_
  refine J_callV (as := [ja 7002 zo0, ji 0]) (rest := []) (pc' := 23) rfl rfl ax_Z_112 rfl rfl (Or.inl rfl) (Nat.le_of_ble_eq_true rfl) (Nat.le_of_ble_eq_true rfl) (Nat.le_of_ble_eq_true rfl) zg2 trivial trivial rfl W (fun zs9 W => ?_)
  refine J_aload_no (pc' := 24) rfl rfl zg1 rfl ?_
  refine J_iload_n (pc' := 25) rfl rfl rfl ?_
  refine J_putI (G := 7014) (pc' := 28) rfl rfl (Nat.le_of_ble_eq_true rfl) rfl rfl zg1 rfl (fun zs11 ezs11 => ?_)
  replace W := W zs11 ezs11
  refine J_aload_no (pc' := 29) rfl rfl zg1 rfl ?_
  refine J_iload_n (pc' := 30) rfl rfl rfl ?_
  refine J_putI (G := 7015) (pc' := 33) rfl rfl (Nat.le_of_ble_eq_true rfl) rfl rfl zg1 rfl (fun zs12 ezs12 => ?_)
  replace W := W zs12 ezs12
  refine J_aload_no (pc' := 34) rfl rfl zg1 rfl ?_
  refine J_iload_n (pc' := 35) rfl rfl rfl ?_
  refine J_putI (G := 7016) (pc' := 38) rfl rfl (Nat.le_of_ble_eq_true rfl) rfl rfl zg1 rfl (fun zs13 ezs13 => ?_)
  replace W := W zs13 ezs13
  refine J_aload_no (pc' := 39) rfl rfl zg1 rfl ?_
  refine J_iconst (pc' := 40) rfl (i32_d rfl) rfl ?_
  refine J_putI (G := 7017) (pc' := 43) rfl rfl (Nat.le_of_ble_eq_true rfl) rfl rfl zg1 rfl (fun zs14 ezs14 => ?_)
  replace W := W zs14 ezs14
  exact J_vret rfl rfl ⟨rfl, W⟩
theorem wp_Search_run {n : Nat} {σ : jS} {Q : Int → jS → Prop} {zo0 : Int} {zo1 : Int} {zx2 : Int} {zx3 : Int} {zx4 : Int} {zx5 : Int} (W : 0 ≤ zo0 ∧ 1 ≤ n ∧ TrV (n - 1) i_Search_begin [jo 7 zo0, ji zx2, ji zx3, ji zx4] σ (fun zs3 => (zx5 = 0 ∨ zx5 = 1) ∧ (∀ zs5, zs5 = ws zs3 7018 zo0 zx5 → 0 ≤ zo1 ∧ 0 ≤ rs zs5 7000 zo0 ∧ TrI (n - 1) i_Terms_build [jo 9 (rs zs5 7000 zo0), jo 0 zo1, ji 1] zs5 (fun zr10 zs9 => TrI (n - 1) i_Search_askGoal [jo 7 zo0, ji zr10, ji 0, ji (-1), ji (-1)] zs9 (fun zr12 zs11 => 0 ≤ rl zs11 7002 zo0 ∧ (if ¬ rs zs11 7017 zo0 = 0 then 0 < rl zs11 7002 zo0 ∧ (∀ zs14, zs14 = wa zs11 7002 zo0 0 (rs zs11 7017 zo0) → 0 ≤ rl zs14 7002 zo0 ∧ 0 < rl zs14 7002 zo0 ∧ Q (ra zs14 7002 zo0 0) zs14) else (if ¬ zr12 = 0 then 0 < rl zs11 7002 zo0 ∧ (∀ zs18, zs18 = wa zs11 7002 zo0 0 (rs zs11 7017 zo0) → 0 ≤ rl zs18 7002 zo0 ∧ 0 < rl zs18 7002 zo0 ∧ Q (ra zs18 7002 zo0 0) zs18) else 0 < rl zs11 7002 zo0 ∧ (∀ zs22, zs22 = wa zs11 7002 zo0 0 1 → 0 ≤ rl zs22 7002 zo0 ∧ 0 < rl zs22 7002 zo0 ∧ Q (ra zs22 7002 zo0 0) zs22)))))))) : TrI n i_Search_run [jo 7 zo0, jo 0 zo1, ji zx2, ji zx3, ji zx4, ji zx5] σ Q := by
  refine Tr_of ax_Z_158 ?_
  show J n c_Search_run (some .int) 0 [some (jo 7 zo0), some (jo 0 zo1), some (ji zx2), some (ji zx3), some (ji zx4), some (ji zx5), none] [] σ (qI Q)
  obtain ⟨zg1, W⟩ := W
  refine J_aload_no (pc' := 1) rfl rfl zg1 rfl ?_
  refine J_iload_n (pc' := 2) rfl rfl rfl ?_
  refine J_iload_n (pc' := 3) rfl rfl rfl ?_
  refine J_iload (pc' := 5) rfl rfl rfl ?_
  obtain ⟨zg2, W⟩ := W
  refine J_weak (L' := [some (jo 7 zo0), some (jo 0 zo1), none, none, none, some (ji zx5), none]) (And.intro rfl (And.intro rfl (And.intro rfl trivial))) ?_
  refine J_callV (as := [jo 7 zo0, ji zx2, ji zx3, ji zx4]) (rest := []) (pc' := 8) rfl rfl ax_Z_157 rfl rfl (Or.inr (Or.inr ⟨_, _, rfl, zg1⟩)) (Nat.le_of_ble_eq_true rfl) (Nat.le_of_ble_eq_true rfl) (Nat.le_of_ble_eq_true rfl) zg2 trivial trivial rfl W (fun zs3 W => ?_)
  refine J_aload_no (pc' := 9) rfl rfl zg1 rfl ?_
  refine J_iload (pc' := 11) rfl rfl rfl ?_
  obtain ⟨zg6, W⟩ := W
  refine J_putZ (G := 7018) (pc' := 14) rfl rfl (Nat.le_of_ble_eq_true rfl) rfl rfl zg1 zg6 rfl (fun zs5 ezs5 => ?_)
  replace W := W zs5 ezs5
  refine J_aload_no (pc' := 15) rfl rfl zg1 rfl ?_
  refine J_aload_no (pc' := 16) rfl rfl zg1 rfl ?_
  refine J_getO (G := 7000) (pc' := 19) rfl rfl (Nat.le_of_ble_eq_true rfl) rfl zg1 rfl ?_
  obtain ⟨zg7, W⟩ := W
  refine J_aload_no (pc' := 20) rfl rfl zg7 rfl ?_
  refine J_iconst (pc' := 21) rfl (i32_d rfl) rfl ?_
  obtain ⟨zg8, W⟩ := W
  refine J_weak (L' := [some (jo 7 zo0), none, none, none, none, none, none]) (And.intro rfl trivial) ?_
  refine J_callI (as := [jo 9 (rs zs5 7000 zo0), jo 0 zo1, ji 1]) (rest := [jo 7 zo0]) (pc' := 24) rfl rfl ax_Z_203 rfl rfl (Or.inr (Or.inr ⟨_, _, rfl, zg8⟩)) (Nat.le_of_ble_eq_true rfl) (Nat.le_of_ble_eq_true rfl) (Nat.le_of_ble_eq_true rfl) zg2 trivial trivial rfl W (fun zr10 zs9 W => ?_)
  refine J_iconst (pc' := 25) rfl (i32_d rfl) rfl ?_
  refine J_iconst (pc' := 26) rfl (i32_d rfl) rfl ?_
  refine J_iconst (pc' := 27) rfl (i32_d rfl) rfl ?_
  refine J_callI (as := [jo 7 zo0, ji zr10, ji 0, ji (-1), ji (-1)]) (rest := []) (pc' := 30) rfl rfl ax_Z_162 rfl rfl (Or.inr (Or.inr ⟨_, _, rfl, zg1⟩)) (Nat.le_of_ble_eq_true rfl) (Nat.le_of_ble_eq_true rfl) (Nat.le_of_ble_eq_true rfl) zg2 trivial trivial rfl W (fun zr12 zs11 W => ?_)
  refine J_istore (L' := [some (jo 7 zo0), none, none, none, none, none, some (ji zr12)]) (pc' := 32) rfl (Nat.le_of_ble_eq_true rfl) rfl rfl ?_
  refine J_aload_no (pc' := 33) rfl rfl zg1 rfl ?_
  obtain ⟨zg13, W⟩ := W
  refine J_getA (G := 7002) (pc' := 36) rfl rfl (Nat.le_of_ble_eq_true rfl) rfl zg1 zg13 rfl ?_
  refine J_iconst (pc' := 37) rfl (i32_d rfl) rfl ?_
  refine J_aload_no (pc' := 38) rfl rfl zg1 rfl ?_
  refine J_getI (G := 7017) (pc' := 41) rfl rfl (Nat.le_of_ble_eq_true rfl) rfl zg1 rfl ?_
  refine J_if (P := ¬ rs zs11 7017 zo0 = 0) (t := 53) (f := 44) rfl rfl rfl jc_ne W (fun W => ?_) (fun W => ?_)
  · refine J_aload_no (pc' := 54) rfl rfl zg1 rfl ?_
    refine J_getI (G := 7017) (pc' := 57) rfl rfl (Nat.le_of_ble_eq_true rfl) rfl zg1 rfl ?_
    obtain ⟨zg15, W⟩ := W
    refine J_iast (pc' := 58) rfl rfl (by decide) (by decide) zg15 rfl (fun zs14 ezs14 => ?_)
    replace W := W zs14 ezs14
    refine J_aload_no (pc' := 59) rfl rfl zg1 rfl ?_
    obtain ⟨zg16, W⟩ := W
    refine J_getA (G := 7002) (pc' := 62) rfl rfl (Nat.le_of_ble_eq_true rfl) rfl zg1 zg16 rfl ?_
    refine J_iconst (pc' := 63) rfl (i32_d rfl) rfl ?_
    obtain ⟨zg17, W⟩ := W
    refine J_iald (pc' := 64) rfl rfl (by decide) zg17 rfl ?_
    exact J_iret rfl rfl ⟨_, rfl, W⟩
  · refine J_iload (pc' := 46) rfl rfl rfl ?_
    refine J_if (P := ¬ zr12 = 0) (t := 53) (f := 49) rfl rfl rfl jc_ne W (fun W => ?_) (fun W => ?_)
    · refine J_aload_no (pc' := 54) rfl rfl zg1 rfl ?_
      refine J_getI (G := 7017) (pc' := 57) rfl rfl (Nat.le_of_ble_eq_true rfl) rfl zg1 rfl ?_
      obtain ⟨zg19, W⟩ := W
      refine J_iast (pc' := 58) rfl rfl (by decide) (by decide) zg19 rfl (fun zs18 ezs18 => ?_)
      replace W := W zs18 ezs18
      refine J_aload_no (pc' := 59) rfl rfl zg1 rfl ?_
      obtain ⟨zg20, W⟩ := W
      refine J_getA (G := 7002) (pc' := 62) rfl rfl (Nat.le_of_ble_eq_true rfl) rfl zg1 zg20 rfl ?_
      refine J_iconst (pc' := 63) rfl (i32_d rfl) rfl ?_
      obtain ⟨zg21, W⟩ := W
      refine J_iald (pc' := 64) rfl rfl (by decide) zg21 rfl ?_
      exact J_iret rfl rfl ⟨_, rfl, W⟩
    · refine J_iconst (pc' := 50) rfl (i32_d rfl) rfl ?_
      refine J_goto (pc' := 57) rfl rfl ?_
      obtain ⟨zg23, W⟩ := W
      refine J_iast (pc' := 58) rfl rfl (by decide) (by decide) zg23 rfl (fun zs22 ezs22 => ?_)
      replace W := W zs22 ezs22
      refine J_aload_no (pc' := 59) rfl rfl zg1 rfl ?_
      obtain ⟨zg24, W⟩ := W
      refine J_getA (G := 7002) (pc' := 62) rfl rfl (Nat.le_of_ble_eq_true rfl) rfl zg1 zg24 rfl ?_
      refine J_iconst (pc' := 63) rfl (i32_d rfl) rfl ?_
      obtain ⟨zg25, W⟩ := W
      refine J_iald (pc' := 64) rfl rfl (by decide) zg25 rfl ?_
      exact J_iret rfl rfl ⟨_, rfl, W⟩
theorem wp_Search_usable {n : Nat} {σ : jS} {Q : Int → jS → Prop} {zo0 : Int} {zx1 : Int} (W : 0 ≤ zo0 ∧ 1 ≤ n ∧ 0 ≤ rs σ 7019 zo0 ∧ TrI (n - 1) i_Text_hasScope [jo 10 (rs σ 7019 zo0), ji zx1] σ (fun zr5 zs4 => (if zr5 = 0 then Q 0 zs4 else TrI (n - 1) i_Top_isIn [ji (rs zs4 7016 zo0), ji zx1] zs4 (fun zr7 zs6 => (if zr7 = 0 then 0 ≤ rs zs6 7019 zo0 ∧ 0 ≤ rl zs6 10004 (rs zs6 7019 zo0) ∧ 0 ≤ zx1 ∧ zx1 < rl zs6 10004 (rs zs6 7019 zo0) ∧ Q (bAnd (ra zs6 10004 (rs zs6 7019 zo0) zx1) (bXor (rs zs6 7015 zo0) (-1))) zs6 else Q 0 zs6))))) : TrI n i_Search_usable [jo 7 zo0, ji zx1] σ Q := by
  refine Tr_of ax_Z_159 ?_
  show J n c_Search_usable (some .int) 0 [some (jo 7 zo0), some (ji zx1)] [] σ (qI Q)
  obtain ⟨zg1, W⟩ := W
  refine J_aload_no (pc' := 1) rfl rfl zg1 rfl ?_
  refine J_getO (G := 7019) (pc' := 4) rfl rfl (Nat.le_of_ble_eq_true rfl) rfl zg1 rfl ?_
  refine J_iload_n (pc' := 5) rfl rfl rfl ?_
  obtain ⟨zg2, W⟩ := W
  obtain ⟨zg3, W⟩ := W
  refine J_callI (as := [jo 10 (rs σ 7019 zo0), ji zx1]) (rest := []) (pc' := 8) rfl rfl ax_Z_224 rfl rfl (Or.inr (Or.inr ⟨_, _, rfl, zg3⟩)) (Nat.le_of_ble_eq_true rfl) (Nat.le_of_ble_eq_true rfl) (Nat.le_of_ble_eq_true rfl) zg2 trivial trivial rfl W (fun zr5 zs4 W => ?_)
  refine J_if (P := zr5 = 0) (t := 22) (f := 11) rfl rfl rfl jc_eq W (fun W => ?_) (fun W => ?_)
  · refine J_iconst (pc' := 23) rfl (i32_d rfl) rfl ?_
    refine J_goto (pc' := 42) rfl rfl ?_
    exact J_iret rfl rfl ⟨_, rfl, W⟩
  · refine J_aload_no (pc' := 12) rfl rfl zg1 rfl ?_
    refine J_getI (G := 7016) (pc' := 15) rfl rfl (Nat.le_of_ble_eq_true rfl) rfl zg1 rfl ?_
    refine J_iload_n (pc' := 16) rfl rfl rfl ?_
    refine J_callI (as := [ji (rs zs4 7016 zo0), ji zx1]) (rest := []) (pc' := 19) rfl rfl ax_Z_279 rfl rfl (Or.inr (Or.inl rfl)) (Nat.le_of_ble_eq_true rfl) (Nat.le_of_ble_eq_true rfl) (Nat.le_of_ble_eq_true rfl) zg2 trivial trivial rfl W (fun zr7 zs6 W => ?_)
    refine J_if (P := zr7 = 0) (t := 26) (f := 22) rfl rfl rfl jc_eq W (fun W => ?_) (fun W => ?_)
    · refine J_aload_no (pc' := 27) rfl rfl zg1 rfl ?_
      refine J_getO (G := 7019) (pc' := 30) rfl rfl (Nat.le_of_ble_eq_true rfl) rfl zg1 rfl ?_
      obtain ⟨zg8, W⟩ := W
      obtain ⟨zg9, W⟩ := W
      refine J_getA (G := 10004) (pc' := 33) rfl rfl (Nat.le_of_ble_eq_true rfl) rfl zg8 zg9 rfl ?_
      refine J_iload_n (pc' := 34) rfl rfl rfl ?_
      obtain ⟨zg10, W⟩ := W
      obtain ⟨zg11, W⟩ := W
      refine J_iald (pc' := 35) rfl rfl zg10 zg11 rfl ?_
      refine J_aload_no (pc' := 36) rfl rfl zg1 rfl ?_
      refine J_getI (G := 7015) (pc' := 39) rfl rfl (Nat.le_of_ble_eq_true rfl) rfl zg1 rfl ?_
      refine J_iconst (pc' := 40) rfl (i32_d rfl) rfl ?_
      refine J_ixor (pc' := 41) rfl rfl ?_
      refine J_iand (pc' := 42) rfl rfl ?_
      exact J_iret rfl rfl ⟨_, rfl, W⟩
    · refine J_iconst (pc' := 23) rfl (i32_d rfl) rfl ?_
      refine J_goto (pc' := 42) rfl rfl ?_
      exact J_iret rfl rfl ⟨_, rfl, W⟩
theorem wp_Search_usableFrom {n : Nat} {σ : jS} {Q : Int → jS → Prop} {zo0 : Int} {zx1 : Int} (W : J n c_Search_usableFrom (some .int) 7 [some (jo 7 zo0), none, some (ji 0), some (ji zx1), some (ji 0)] [] σ (qI Q)) : TrI n i_Search_usableFrom [jo 7 zo0, ji zx1] σ Q := by
  refine Tr_of ax_Z_160 ?_
  show J n c_Search_usableFrom (some .int) 0 [some (jo 7 zo0), some (ji zx1), none, none, none] [] σ (qI Q)
  refine J_iconst (pc' := 1) rfl (i32_d rfl) rfl ?_
  refine J_istore_n (L' := [some (jo 7 zo0), some (ji zx1), some (ji 0), none, none]) (pc' := 2) rfl (Nat.le_of_ble_eq_true rfl) rfl rfl ?_
  refine J_iload_n (pc' := 3) rfl rfl rfl ?_
  refine J_istore_n (L' := [some (jo 7 zo0), some (ji zx1), some (ji 0), some (ji zx1), none]) (pc' := 4) rfl (Nat.le_of_ble_eq_true rfl) rfl rfl ?_
  refine J_iconst (pc' := 5) rfl (i32_d rfl) rfl ?_
  refine J_istore (L' := [some (jo 7 zo0), some (ji zx1), some (ji 0), some (ji zx1), some (ji 0)]) (pc' := 7) rfl (Nat.le_of_ble_eq_true rfl) rfl rfl ?_
  refine J_weak (L' := [some (jo 7 zo0), none, some (ji 0), some (ji zx1), some (ji 0)]) (And.intro rfl (And.intro rfl (And.intro rfl (And.intro rfl trivial)))) ?_
  exact W
theorem wp_Search_usableFrom_7 {n : Nat} {σ : jS} {Q : Int → jS → Prop} {zo0 : Int} {zx2 : Int} {zx3 : Int} {zx4 : Int} (W : (if 5 < zx4 then Q zx2 σ else (if zx3 = (-1) then Q zx2 σ else 0 ≤ zo0 ∧ 1 ≤ n ∧ TrI (n - 1) i_Search_usable [jo 7 zo0, ji zx3] σ (fun zr4 zs3 => 0 ≤ rs zs3 7019 zo0 ∧ TrI (n - 1) i_Text_aroundOf [jo 10 (rs zs3 7019 zo0), ji zx3] zs3 (fun zr7 zs6 => i32 (zx4 + 1) ∧ J n c_Search_usableFrom (some .int) 7 [some (jo 7 zo0), none, some (ji (bOr zx2 zr4)), some (ji zr7), some (ji (zx4 + 1))] [] zs6 (qI Q)))))) : J n c_Search_usableFrom (some .int) 7 [some (jo 7 zo0), none, some (ji zx2), some (ji zx3), some (ji zx4)] [] σ (qI Q) := by
  refine J_iload (pc' := 9) rfl rfl rfl ?_
  refine J_iconst (pc' := 10) rfl (i32_d rfl) rfl ?_
  refine J_icmp (P := 5 < zx4) (t := 41) (f := 13) rfl rfl rfl jc_gt W (fun W => ?_) (fun W => ?_)
  · refine J_iload_n (pc' := 42) rfl rfl rfl ?_
    exact J_iret rfl rfl ⟨_, rfl, W⟩
  · refine J_iload_n (pc' := 14) rfl rfl rfl ?_
    refine J_iconst (pc' := 15) rfl (i32_d rfl) rfl ?_
    refine J_icmp (P := zx3 = (-1)) (t := 41) (f := 18) rfl rfl rfl jc_eq W (fun W => ?_) (fun W => ?_)
    · refine J_iload_n (pc' := 42) rfl rfl rfl ?_
      exact J_iret rfl rfl ⟨_, rfl, W⟩
    · refine J_iload_n (pc' := 19) rfl rfl rfl ?_
      obtain ⟨zg1, W⟩ := W
      refine J_aload_no (pc' := 20) rfl rfl zg1 rfl ?_
      refine J_iload_n (pc' := 21) rfl rfl rfl ?_
      obtain ⟨zg2, W⟩ := W
      refine J_weak (L' := [some (jo 7 zo0), none, none, some (ji zx3), some (ji zx4)]) (And.intro rfl (And.intro rfl (And.intro rfl trivial))) ?_
      refine J_callI (as := [jo 7 zo0, ji zx3]) (rest := [ji zx2]) (pc' := 24) rfl rfl ax_Z_159 rfl rfl (Or.inr (Or.inr ⟨_, _, rfl, zg1⟩)) (Nat.le_of_ble_eq_true rfl) (Nat.le_of_ble_eq_true rfl) (Nat.le_of_ble_eq_true rfl) zg2 trivial trivial rfl W (fun zr4 zs3 W => ?_)
      refine J_ior (pc' := 25) rfl rfl ?_
      refine J_istore_n (L' := [some (jo 7 zo0), none, some (ji (bOr zx2 zr4)), some (ji zx3), some (ji zx4)]) (pc' := 26) rfl (Nat.le_of_ble_eq_true rfl) rfl rfl ?_
      refine J_aload_no (pc' := 27) rfl rfl zg1 rfl ?_
      refine J_getO (G := 7019) (pc' := 30) rfl rfl (Nat.le_of_ble_eq_true rfl) rfl zg1 rfl ?_
      refine J_iload_n (pc' := 31) rfl rfl rfl ?_
      obtain ⟨zg5, W⟩ := W
      refine J_weak (L' := [some (jo 7 zo0), none, some (ji (bOr zx2 zr4)), none, some (ji zx4)]) (And.intro rfl (And.intro rfl (And.intro rfl trivial))) ?_
      refine J_callI (as := [jo 10 (rs zs3 7019 zo0), ji zx3]) (rest := []) (pc' := 34) rfl rfl ax_Z_228 rfl rfl (Or.inr (Or.inr ⟨_, _, rfl, zg5⟩)) (Nat.le_of_ble_eq_true rfl) (Nat.le_of_ble_eq_true rfl) (Nat.le_of_ble_eq_true rfl) zg2 trivial trivial rfl W (fun zr7 zs6 W => ?_)
      refine J_istore_n (L' := [some (jo 7 zo0), none, some (ji (bOr zx2 zr4)), some (ji zr7), some (ji zx4)]) (pc' := 35) rfl (Nat.le_of_ble_eq_true rfl) rfl rfl ?_
      obtain ⟨zg8, W⟩ := W
      refine J_iinc (L' := [some (jo 7 zo0), none, some (ji (bOr zx2 zr4)), some (ji zr7), some (ji (zx4 + 1))]) (pc' := 38) rfl rfl zg8 rfl rfl ?_
      refine J_goto (pc' := 7) rfl rfl ?_
      exact W
theorem wp_Search_suited {n : Nat} {σ : jS} {Q : Int → jS → Prop} {zo0 : Int} {zx1 : Int} {zx2 : Int} (W : 0 ≤ zo0 ∧ 0 ≤ rs σ 7000 zo0 ∧ 1 ≤ n ∧ TrI (n - 1) i_Search_usable [jo 7 zo0, ji zx2] σ (fun zr5 zs4 => J n c_Search_suited (some .int) 30 [some (jo 7 zo0), some (ji zx1), none, some (ji (rs σ 9001 (rs σ 7000 zo0))), some (ji (rs σ 9000 (rs σ 7000 zo0))), some (ji zr5), some (ji 0), some (ji 0)] [] zs4 (qI Q))) : TrI n i_Search_suited [jo 7 zo0, ji zx1, ji zx2] σ Q := by
  refine Tr_of ax_Z_161 ?_
  show J n c_Search_suited (some .int) 0 [some (jo 7 zo0), some (ji zx1), some (ji zx2), none, none, none, none, none] [] σ (qI Q)
  obtain ⟨zg1, W⟩ := W
  refine J_aload_no (pc' := 1) rfl rfl zg1 rfl ?_
  refine J_getO (G := 7000) (pc' := 4) rfl rfl (Nat.le_of_ble_eq_true rfl) rfl zg1 rfl ?_
  obtain ⟨zg2, W⟩ := W
  refine J_getI (G := 9001) (pc' := 7) rfl rfl (Nat.le_of_ble_eq_true rfl) rfl zg2 rfl ?_
  refine J_istore_n (L' := [some (jo 7 zo0), some (ji zx1), some (ji zx2), some (ji (rs σ 9001 (rs σ 7000 zo0))), none, none, none, none]) (pc' := 8) rfl (Nat.le_of_ble_eq_true rfl) rfl rfl ?_
  refine J_aload_no (pc' := 9) rfl rfl zg1 rfl ?_
  refine J_getO (G := 7000) (pc' := 12) rfl rfl (Nat.le_of_ble_eq_true rfl) rfl zg1 rfl ?_
  refine J_getI (G := 9000) (pc' := 15) rfl rfl (Nat.le_of_ble_eq_true rfl) rfl zg2 rfl ?_
  refine J_istore (L' := [some (jo 7 zo0), some (ji zx1), some (ji zx2), some (ji (rs σ 9001 (rs σ 7000 zo0))), some (ji (rs σ 9000 (rs σ 7000 zo0))), none, none, none]) (pc' := 17) rfl (Nat.le_of_ble_eq_true rfl) rfl rfl ?_
  refine J_aload_no (pc' := 18) rfl rfl zg1 rfl ?_
  refine J_iload_n (pc' := 19) rfl rfl rfl ?_
  obtain ⟨zg3, W⟩ := W
  refine J_weak (L' := [some (jo 7 zo0), some (ji zx1), none, some (ji (rs σ 9001 (rs σ 7000 zo0))), some (ji (rs σ 9000 (rs σ 7000 zo0))), none, none, none]) (And.intro rfl (And.intro rfl (And.intro rfl (And.intro rfl trivial)))) ?_
  refine J_callI (as := [jo 7 zo0, ji zx2]) (rest := []) (pc' := 22) rfl rfl ax_Z_159 rfl rfl (Or.inr (Or.inr ⟨_, _, rfl, zg1⟩)) (Nat.le_of_ble_eq_true rfl) (Nat.le_of_ble_eq_true rfl) (Nat.le_of_ble_eq_true rfl) zg3 trivial trivial rfl W (fun zr5 zs4 W => ?_)
  refine J_istore (L' := [some (jo 7 zo0), some (ji zx1), none, some (ji (rs σ 9001 (rs σ 7000 zo0))), some (ji (rs σ 9000 (rs σ 7000 zo0))), some (ji zr5), none, none]) (pc' := 24) rfl (Nat.le_of_ble_eq_true rfl) rfl rfl ?_
  refine J_iconst (pc' := 25) rfl (i32_d rfl) rfl ?_
  refine J_istore (L' := [some (jo 7 zo0), some (ji zx1), none, some (ji (rs σ 9001 (rs σ 7000 zo0))), some (ji (rs σ 9000 (rs σ 7000 zo0))), some (ji zr5), some (ji 0), none]) (pc' := 27) rfl (Nat.le_of_ble_eq_true rfl) rfl rfl ?_
  refine J_iconst (pc' := 28) rfl (i32_d rfl) rfl ?_
  refine J_istore (L' := [some (jo 7 zo0), some (ji zx1), none, some (ji (rs σ 9001 (rs σ 7000 zo0))), some (ji (rs σ 9000 (rs σ 7000 zo0))), some (ji zr5), some (ji 0), some (ji 0)]) (pc' := 30) rfl (Nat.le_of_ble_eq_true rfl) rfl rfl ?_
  exact W
theorem wp_Search_suited_30 {n : Nat} {σ : jS} {Q : Int → jS → Prop} {zo0 : Int} {zx1 : Int} {zx3 : Int} {zx4 : Int} {zx5 : Int} {zx6 : Int} {zx7 : Int} (W : 0 ≤ zo0 ∧ 0 ≤ rs σ 7019 zo0 ∧ (if rs σ 10001 (rs σ 7019 zo0) ≤ zx7 then Q zx6 σ else 1 ≤ n ∧ TrI (n - 1) i_Top_isIn [ji zx5, ji zx7] σ (fun zr5 zs4 => (if zr5 = 0 then i32 (zx7 + 1) ∧ J n c_Search_suited (some .int) 30 [some (jo 7 zo0), some (ji zx1), none, some (ji zx3), some (ji zx4), some (ji zx5), some (ji zx6), some (ji (zx7 + 1))] [] zs4 (qI Q) else 0 ≤ rs zs4 7019 zo0 ∧ TrO (n - 1) i_Text_part 0 [jo 10 (rs zs4 7019 zo0), ji zx7, ji 0] zs4 (fun zr9 zs8 => 0 ≤ rs zs4 7000 zo0 ∧ TrI (n - 1) i_Terms_build [jo 9 (rs zs4 7000 zo0), jo 0 zr9, ji 1] zs8 (fun zr13 zs12 => 0 ≤ rs zs4 7000 zo0 ∧ TrI (n - 1) i_Terms_unify [jo 9 (rs zs4 7000 zo0), ji zr13, ji zx1] zs12 (fun zr16 zs15 => (if zr16 = 0 then 0 ≤ rs zs15 7000 zo0 ∧ TrV (n - 1) i_Terms_back [jo 9 (rs zs15 7000 zo0), ji zx3, ji zx4] zs15 (fun zs18 => i32 (zx7 + 1) ∧ J n c_Search_suited (some .int) 30 [some (jo 7 zo0), some (ji zx1), none, some (ji zx3), some (ji zx4), some (ji zx5), some (ji zx6), some (ji (zx7 + 1))] [] zs18 (qI Q)) else 0 ≤ rs zs15 7000 zo0 ∧ TrV (n - 1) i_Terms_back [jo 9 (rs zs15 7000 zo0), ji zx3, ji zx4] zs15 (fun zs22 => i32 (zx7 + 1) ∧ J n c_Search_suited (some .int) 30 [some (jo 7 zo0), some (ji zx1), none, some (ji zx3), some (ji zx4), some (ji zx5), some (ji (bOr zx6 (bShl 1 zx7))), some (ji (zx7 + 1))] [] zs22 (qI Q)))))))))) : J n c_Search_suited (some .int) 30 [some (jo 7 zo0), some (ji zx1), none, some (ji zx3), some (ji zx4), some (ji zx5), some (ji zx6), some (ji zx7)] [] σ (qI Q) := by
  refine J_iload (pc' := 32) rfl rfl rfl ?_
  obtain ⟨zg1, W⟩ := W
  refine J_aload_no (pc' := 33) rfl rfl zg1 rfl ?_
  refine J_getO (G := 7019) (pc' := 36) rfl rfl (Nat.le_of_ble_eq_true rfl) rfl zg1 rfl ?_
  obtain ⟨zg2, W⟩ := W
  refine J_getI (G := 10001) (pc' := 39) rfl rfl (Nat.le_of_ble_eq_true rfl) rfl zg2 rfl ?_
  refine J_icmp (P := rs σ 10001 (rs σ 7019 zo0) ≤ zx7) (t := 106) (f := 42) rfl rfl rfl jc_ge W (fun W => ?_) (fun W => ?_)
  · refine J_iload (pc' := 108) rfl rfl rfl ?_
    exact J_iret rfl rfl ⟨_, rfl, W⟩
  · refine J_iload (pc' := 44) rfl rfl rfl ?_
    refine J_iload (pc' := 46) rfl rfl rfl ?_
    obtain ⟨zg3, W⟩ := W
    refine J_callI (as := [ji zx5, ji zx7]) (rest := []) (pc' := 49) rfl rfl ax_Z_279 rfl rfl (Or.inr (Or.inl rfl)) (Nat.le_of_ble_eq_true rfl) (Nat.le_of_ble_eq_true rfl) (Nat.le_of_ble_eq_true rfl) zg3 trivial trivial rfl W (fun zr5 zs4 W => ?_)
    refine J_if (P := zr5 = 0) (t := 100) (f := 52) rfl rfl rfl jc_eq W (fun W => ?_) (fun W => ?_)
    · obtain ⟨zg6, W⟩ := W
      refine J_iinc (L' := [some (jo 7 zo0), some (ji zx1), none, some (ji zx3), some (ji zx4), some (ji zx5), some (ji zx6), some (ji (zx7 + 1))]) (pc' := 103) rfl rfl zg6 rfl rfl ?_
      refine J_goto (pc' := 30) rfl rfl ?_
      exact W
    · refine J_aload_no (pc' := 53) rfl rfl zg1 rfl ?_
      refine J_getO (G := 7000) (pc' := 56) rfl rfl (Nat.le_of_ble_eq_true rfl) rfl zg1 rfl ?_
      refine J_aload_no (pc' := 57) rfl rfl zg1 rfl ?_
      refine J_getO (G := 7000) (pc' := 60) rfl rfl (Nat.le_of_ble_eq_true rfl) rfl zg1 rfl ?_
      refine J_aload_no (pc' := 61) rfl rfl zg1 rfl ?_
      refine J_getO (G := 7019) (pc' := 64) rfl rfl (Nat.le_of_ble_eq_true rfl) rfl zg1 rfl ?_
      refine J_iload (pc' := 66) rfl rfl rfl ?_
      refine J_iconst (pc' := 67) rfl (i32_d rfl) rfl ?_
      obtain ⟨zg7, W⟩ := W
      refine J_callO (as := [jo 10 (rs zs4 7019 zo0), ji zx7, ji 0]) (rest := [jo 9 (rs zs4 7000 zo0), jo 9 (rs zs4 7000 zo0)]) (pc' := 70) rfl rfl ax_Z_230 rfl rfl (Or.inr (Or.inr ⟨_, _, rfl, zg7⟩)) (Nat.le_of_ble_eq_true rfl) (Nat.le_of_ble_eq_true rfl) (Nat.le_of_ble_eq_true rfl) zg3 trivial trivial rfl W (fun zr9 zs8 zh10 W => ?_)
      refine J_iconst (pc' := 71) rfl (i32_d rfl) rfl ?_
      obtain ⟨zg11, W⟩ := W
      refine J_callI (as := [jo 9 (rs zs4 7000 zo0), jo 0 zr9, ji 1]) (rest := [jo 9 (rs zs4 7000 zo0)]) (pc' := 74) rfl rfl ax_Z_203 rfl rfl (Or.inr (Or.inr ⟨_, _, rfl, zg11⟩)) (Nat.le_of_ble_eq_true rfl) (Nat.le_of_ble_eq_true rfl) (Nat.le_of_ble_eq_true rfl) zg3 trivial trivial rfl W (fun zr13 zs12 W => ?_)
      refine J_iload_n (pc' := 75) rfl rfl rfl ?_
      obtain ⟨zg14, W⟩ := W
      refine J_callI (as := [jo 9 (rs zs4 7000 zo0), ji zr13, ji zx1]) (rest := []) (pc' := 78) rfl rfl ax_Z_209 rfl rfl (Or.inr (Or.inr ⟨_, _, rfl, zg14⟩)) (Nat.le_of_ble_eq_true rfl) (Nat.le_of_ble_eq_true rfl) (Nat.le_of_ble_eq_true rfl) zg3 trivial trivial rfl W (fun zr16 zs15 W => ?_)
      refine J_if (P := zr16 = 0) (t := 90) (f := 81) rfl rfl rfl jc_eq W (fun W => ?_) (fun W => ?_)
      · refine J_aload_no (pc' := 91) rfl rfl zg1 rfl ?_
        refine J_getO (G := 7000) (pc' := 94) rfl rfl (Nat.le_of_ble_eq_true rfl) rfl zg1 rfl ?_
        refine J_iload_n (pc' := 95) rfl rfl rfl ?_
        refine J_iload (pc' := 97) rfl rfl rfl ?_
        obtain ⟨zg17, W⟩ := W
        refine J_callV (as := [jo 9 (rs zs15 7000 zo0), ji zx3, ji zx4]) (rest := []) (pc' := 100) rfl rfl ax_Z_217 rfl rfl (Or.inr (Or.inr ⟨_, _, rfl, zg17⟩)) (Nat.le_of_ble_eq_true rfl) (Nat.le_of_ble_eq_true rfl) (Nat.le_of_ble_eq_true rfl) zg3 trivial trivial rfl W (fun zs18 W => ?_)
        obtain ⟨zg20, W⟩ := W
        refine J_iinc (L' := [some (jo 7 zo0), some (ji zx1), none, some (ji zx3), some (ji zx4), some (ji zx5), some (ji zx6), some (ji (zx7 + 1))]) (pc' := 103) rfl rfl zg20 rfl rfl ?_
        refine J_goto (pc' := 30) rfl rfl ?_
        exact W
      · refine J_iload (pc' := 83) rfl rfl rfl ?_
        refine J_iconst (pc' := 84) rfl (i32_d rfl) rfl ?_
        refine J_iload (pc' := 86) rfl rfl rfl ?_
        refine J_ishl (pc' := 87) rfl rfl ?_
        refine J_ior (pc' := 88) rfl rfl ?_
        refine J_istore (L' := [some (jo 7 zo0), some (ji zx1), none, some (ji zx3), some (ji zx4), some (ji zx5), some (ji (bOr zx6 (bShl 1 zx7))), some (ji zx7)]) (pc' := 90) rfl (Nat.le_of_ble_eq_true rfl) rfl rfl ?_
        refine J_aload_no (pc' := 91) rfl rfl zg1 rfl ?_
        refine J_getO (G := 7000) (pc' := 94) rfl rfl (Nat.le_of_ble_eq_true rfl) rfl zg1 rfl ?_
        refine J_iload_n (pc' := 95) rfl rfl rfl ?_
        refine J_iload (pc' := 97) rfl rfl rfl ?_
        obtain ⟨zg21, W⟩ := W
        refine J_callV (as := [jo 9 (rs zs15 7000 zo0), ji zx3, ji zx4]) (rest := []) (pc' := 100) rfl rfl ax_Z_217 rfl rfl (Or.inr (Or.inr ⟨_, _, rfl, zg21⟩)) (Nat.le_of_ble_eq_true rfl) (Nat.le_of_ble_eq_true rfl) (Nat.le_of_ble_eq_true rfl) zg3 trivial trivial rfl W (fun zs22 W => ?_)
        obtain ⟨zg24, W⟩ := W
        refine J_iinc (L' := [some (jo 7 zo0), some (ji zx1), none, some (ji zx3), some (ji zx4), some (ji zx5), some (ji (bOr zx6 (bShl 1 zx7))), some (ji (zx7 + 1))]) (pc' := 103) rfl rfl zg24 rfl rfl ?_
        refine J_goto (pc' := 30) rfl rfl ?_
        exact W
set_option maxRecDepth 16000 in
theorem wp_Search_askGoal {n : Nat} {σ : jS} {Q : Int → jS → Prop} {zo0 : Int} {zx1 : Int} {zx2 : Int} {zx3 : Int} {zx4 : Int} (W : 0 ≤ zo0 ∧ 1 ≤ n ∧ TrI (n - 1) i_Search_mayAsk [jo 7 zo0, ji zx1, ji zx2] σ (fun zr4 zs3 => (if ¬ zr4 = 0 then 0 ≤ rl zs3 7002 zo0 ∧ 1 < rl zs3 7002 zo0 ∧ i32 ((ra zs3 7002 zo0 1) + 1) ∧ (∀ zs8, zs8 = wa zs3 7002 zo0 1 ((ra zs3 7002 zo0 1) + 1) → 0 ≤ rl zs8 7002 zo0 ∧ 7 < rl zs8 7002 zo0 ∧ i32 (zx2 + 1) ∧ (∀ zs12, zs12 = wa zs8 7002 zo0 7 (max (ra zs8 7002 zo0 7) (zx2 + 1)) → TrI (n - 1) i_Search_addToPlan [jo 7 zo0, ji zx1, ji zx3, ji zx4] zs12 (fun zr14 zs13 => (if rs zs13 7018 zo0 = 0 then J n c_Search_askGoal (some .int) 72 [some (jo 7 zo0), some (ji zx1), some (ji zx2), none, none, some (ji zr14), none, none, none, none] [] zs13 (qI Q) else 0 ≤ rs zs13 7008 zo0 ∧ TrI (n - 1) i_Flat_isClosed [jo 0 (rs zs13 7008 zo0)] zs13 (fun zr17 zs16 => (if zr17 = 0 then J n c_Search_askGoal (some .int) 72 [some (jo 7 zo0), some (ji zx1), some (ji zx2), none, none, some (ji zr14), none, none, none, none] [] zs16 (qI Q) else 0 ≤ rs zs16 7001 zo0 ∧ TrI (n - 1) i_Memory_find [jo 5 (rs zs16 7001 zo0), ji (rs zs16 7014 zo0), jo 0 (rs zs16 7008 zo0)] zs16 (fun zr20 zs19 => (if zr20 = (-1) then 0 ≤ rl zs19 7002 zo0 ∧ 3 < rl zs19 7002 zo0 ∧ TrI (n - 1) i_Search_seek [jo 7 zo0, ji zx1, ji zx2, ji zr14] zs19 (fun zr24 zs23 => (if ¬ rs zs23 7017 zo0 = 0 then Q zr24 zs23 else 0 ≤ rl zs23 7002 zo0 ∧ 3 < rl zs23 7002 zo0 ∧ (if ¬ ra zs23 7002 zo0 3 = ra zs19 7002 zo0 3 then Q zr24 zs23 else TrV (n - 1) i_Search_remember [jo 7 zo0, ji zx1, ji zr14, ji zr24] zs23 (fun zs27 => Q zr24 zs27)))) else TrI (n - 1) i_Search_meet [jo 7 zo0, ji zr20, ji zr14] zs19 (fun zr30 zs29 => Q zr30 zs29))))))))) else Q 0 zs3))) : TrI n i_Search_askGoal [jo 7 zo0, ji zx1, ji zx2, ji zx3, ji zx4] σ Q := by
  refine Tr_of ax_Z_162 ?_
  show J n c_Search_askGoal (some .int) 0 [some (jo 7 zo0), some (ji zx1), some (ji zx2), some (ji zx3), some (ji zx4), none, none, none, none, none] [] σ (qI Q)
  obtain ⟨zg1, W⟩ := W
  refine J_aload_no (pc' := 1) rfl rfl zg1 rfl ?_
  refine J_iload_n (pc' := 2) rfl rfl rfl ?_
  refine J_iload_n (pc' := 3) rfl rfl rfl ?_
  obtain ⟨zg2, W⟩ := W
  refine J_callI (as := [jo 7 zo0, ji zx1, ji zx2]) (rest := []) (pc' := 6) rfl rfl ax_Z_163 rfl rfl (Or.inr (Or.inr ⟨_, _, rfl, zg1⟩)) (Nat.le_of_ble_eq_true rfl) (Nat.le_of_ble_eq_true rfl) (Nat.le_of_ble_eq_true rfl) zg2 trivial trivial rfl W (fun zr4 zs3 W => ?_)
  refine J_if (P := ¬ zr4 = 0) (t := 11) (f := 9) rfl rfl rfl jc_ne W (fun W => ?_) (fun W => ?_)
  · refine J_aload_no (pc' := 12) rfl rfl zg1 rfl ?_
    obtain ⟨zg5, W⟩ := W
    refine J_getA (G := 7002) (pc' := 15) rfl rfl (Nat.le_of_ble_eq_true rfl) rfl zg1 zg5 rfl ?_
    refine J_iconst (pc' := 16) rfl (i32_d rfl) rfl ?_
    refine J_dup2 (pc' := 17) rfl rfl rfl rfl ?_
    obtain ⟨zg6, W⟩ := W
    refine J_iald (pc' := 18) rfl rfl (by decide) zg6 rfl ?_
    refine J_iconst (pc' := 19) rfl (i32_d rfl) rfl ?_
    obtain ⟨zg7, W⟩ := W
    refine J_iadd (pc' := 20) rfl zg7 rfl ?_
    refine J_iast (pc' := 21) rfl rfl (by decide) (by decide) zg6 rfl (fun zs8 ezs8 => ?_)
    replace W := W zs8 ezs8
    refine J_aload_no (pc' := 22) rfl rfl zg1 rfl ?_
    obtain ⟨zg9, W⟩ := W
    refine J_getA (G := 7002) (pc' := 25) rfl rfl (Nat.le_of_ble_eq_true rfl) rfl zg1 zg9 rfl ?_
    refine J_bipush (pc' := 27) rfl (by decide) (by decide) rfl ?_
    refine J_aload_no (pc' := 28) rfl rfl zg1 rfl ?_
    refine J_getA (G := 7002) (pc' := 31) rfl rfl (Nat.le_of_ble_eq_true rfl) rfl zg1 zg9 rfl ?_
    refine J_bipush (pc' := 33) rfl (by decide) (by decide) rfl ?_
    obtain ⟨zg10, W⟩ := W
    refine J_iald (pc' := 34) rfl rfl (by decide) zg10 rfl ?_
    refine J_iload_n (pc' := 35) rfl rfl rfl ?_
    refine J_iconst (pc' := 36) rfl (i32_d rfl) rfl ?_
    obtain ⟨zg11, W⟩ := W
    refine J_iadd (pc' := 37) rfl zg11 rfl ?_
    refine J_max (pc' := 40) rfl zg2 (Nat.le_of_ble_eq_true rfl) rfl ?_
    refine J_iast (pc' := 41) rfl rfl (by decide) (by decide) zg10 rfl (fun zs12 ezs12 => ?_)
    replace W := W zs12 ezs12
    refine J_aload_no (pc' := 42) rfl rfl zg1 rfl ?_
    refine J_iload_n (pc' := 43) rfl rfl rfl ?_
    refine J_iload_n (pc' := 44) rfl rfl rfl ?_
    refine J_iload (pc' := 46) rfl rfl rfl ?_
    refine J_weak (L' := [some (jo 7 zo0), some (ji zx1), some (ji zx2), none, none, none, none, none, none, none]) (And.intro rfl (And.intro rfl (And.intro rfl trivial))) ?_
    refine J_callI (as := [jo 7 zo0, ji zx1, ji zx3, ji zx4]) (rest := []) (pc' := 49) rfl rfl ax_Z_164 rfl rfl (Or.inr (Or.inr ⟨_, _, rfl, zg1⟩)) (Nat.le_of_ble_eq_true rfl) (Nat.le_of_ble_eq_true rfl) (Nat.le_of_ble_eq_true rfl) zg2 trivial trivial rfl W (fun zr14 zs13 W => ?_)
    refine J_istore (L' := [some (jo 7 zo0), some (ji zx1), some (ji zx2), none, none, some (ji zr14), none, none, none, none]) (pc' := 51) rfl (Nat.le_of_ble_eq_true rfl) rfl rfl ?_
    refine J_aload_no (pc' := 52) rfl rfl zg1 rfl ?_
    refine J_getI (G := 7018) (pc' := 55) rfl rfl (Nat.le_of_ble_eq_true rfl) rfl zg1 rfl ?_
    refine J_if (P := rs zs13 7018 zo0 = 0) (t := 72) (f := 58) rfl rfl rfl jc_eq W (fun W => ?_) (fun W => ?_)
    · exact W
    · refine J_aload_no (pc' := 59) rfl rfl zg1 rfl ?_
      refine J_getO (G := 7008) (pc' := 62) rfl rfl (Nat.le_of_ble_eq_true rfl) rfl zg1 rfl ?_
      obtain ⟨zg15, W⟩ := W
      refine J_callI (as := [jo 0 (rs zs13 7008 zo0)]) (rest := []) (pc' := 65) rfl rfl ax_Z_124 rfl rfl (Or.inr (Or.inr ⟨_, _, rfl, zg15⟩)) (Nat.le_of_ble_eq_true rfl) (Nat.le_of_ble_eq_true rfl) (Nat.le_of_ble_eq_true rfl) zg2 trivial trivial rfl W (fun zr17 zs16 W => ?_)
      refine J_if (P := zr17 = 0) (t := 72) (f := 68) rfl rfl rfl jc_eq W (fun W => ?_) (fun W => ?_)
      · exact W
      · refine J_iconst (pc' := 69) rfl (i32_d rfl) rfl ?_
        refine J_goto (pc' := 73) rfl rfl ?_
        refine J_istore (L' := [some (jo 7 zo0), some (ji zx1), some (ji zx2), none, none, some (ji zr14), some (ji 1), none, none, none]) (pc' := 75) rfl (Nat.le_of_ble_eq_true rfl) rfl rfl ?_
        refine J_iload (pc' := 77) rfl rfl rfl ?_
        refine J_if_f (pc' := 80) rfl rfl rfl ?_
        refine J_aload_no (pc' := 81) rfl rfl zg1 rfl ?_
        refine J_getO (G := 7001) (pc' := 84) rfl rfl (Nat.le_of_ble_eq_true rfl) rfl zg1 rfl ?_
        refine J_aload_no (pc' := 85) rfl rfl zg1 rfl ?_
        refine J_getI (G := 7014) (pc' := 88) rfl rfl (Nat.le_of_ble_eq_true rfl) rfl zg1 rfl ?_
        refine J_aload_no (pc' := 89) rfl rfl zg1 rfl ?_
        refine J_getO (G := 7008) (pc' := 92) rfl rfl (Nat.le_of_ble_eq_true rfl) rfl zg1 rfl ?_
        obtain ⟨zg18, W⟩ := W
        refine J_callI (as := [jo 5 (rs zs16 7001 zo0), ji (rs zs16 7014 zo0), jo 0 (rs zs16 7008 zo0)]) (rest := []) (pc' := 95) rfl rfl ax_Z_145 rfl rfl (Or.inr (Or.inr ⟨_, _, rfl, zg18⟩)) (Nat.le_of_ble_eq_true rfl) (Nat.le_of_ble_eq_true rfl) (Nat.le_of_ble_eq_true rfl) zg2 trivial trivial rfl W (fun zr20 zs19 W => ?_)
        refine J_goto (pc' := 99) rfl rfl ?_
        refine J_istore (L' := [some (jo 7 zo0), some (ji zx1), some (ji zx2), none, none, some (ji zr14), some (ji 1), some (ji zr20), none, none]) (pc' := 101) rfl (Nat.le_of_ble_eq_true rfl) rfl rfl ?_
        refine J_iload (pc' := 103) rfl rfl rfl ?_
        refine J_iconst (pc' := 104) rfl (i32_d rfl) rfl ?_
        refine J_icmp (P := zr20 = (-1)) (t := 116) (f := 107) rfl rfl rfl jc_eq W (fun W => ?_) (fun W => ?_)
        · refine J_aload_no (pc' := 117) rfl rfl zg1 rfl ?_
          obtain ⟨zg21, W⟩ := W
          refine J_getA (G := 7002) (pc' := 120) rfl rfl (Nat.le_of_ble_eq_true rfl) rfl zg1 zg21 rfl ?_
          refine J_iconst (pc' := 121) rfl (i32_d rfl) rfl ?_
          obtain ⟨zg22, W⟩ := W
          refine J_iald (pc' := 122) rfl rfl (by decide) zg22 rfl ?_
          refine J_istore (L' := [some (jo 7 zo0), some (ji zx1), some (ji zx2), none, none, some (ji zr14), some (ji 1), some (ji zr20), some (ji (ra zs19 7002 zo0 3)), none]) (pc' := 124) rfl (Nat.le_of_ble_eq_true rfl) rfl rfl ?_
          refine J_aload_no (pc' := 125) rfl rfl zg1 rfl ?_
          refine J_iload_n (pc' := 126) rfl rfl rfl ?_
          refine J_iload_n (pc' := 127) rfl rfl rfl ?_
          refine J_iload (pc' := 129) rfl rfl rfl ?_
          refine J_weak (L' := [some (jo 7 zo0), some (ji zx1), none, none, none, some (ji zr14), some (ji 1), none, some (ji (ra zs19 7002 zo0 3)), none]) (And.intro rfl (And.intro rfl (And.intro rfl (And.intro rfl (And.intro rfl trivial))))) ?_
          refine J_callI (as := [jo 7 zo0, ji zx1, ji zx2, ji zr14]) (rest := []) (pc' := 132) rfl rfl ax_Z_167 rfl rfl (Or.inr (Or.inr ⟨_, _, rfl, zg1⟩)) (Nat.le_of_ble_eq_true rfl) (Nat.le_of_ble_eq_true rfl) (Nat.le_of_ble_eq_true rfl) zg2 trivial trivial rfl W (fun zr24 zs23 W => ?_)
          refine J_istore (L' := [some (jo 7 zo0), some (ji zx1), none, none, none, some (ji zr14), some (ji 1), none, some (ji (ra zs19 7002 zo0 3)), some (ji zr24)]) (pc' := 134) rfl (Nat.le_of_ble_eq_true rfl) rfl rfl ?_
          refine J_iload (pc' := 136) rfl rfl rfl ?_
          refine J_if_f (pc' := 139) rfl rfl rfl ?_
          refine J_aload_no (pc' := 140) rfl rfl zg1 rfl ?_
          refine J_getI (G := 7017) (pc' := 143) rfl rfl (Nat.le_of_ble_eq_true rfl) rfl zg1 rfl ?_
          refine J_if (P := ¬ rs zs23 7017 zo0 = 0) (t := 166) (f := 146) rfl rfl rfl jc_ne W (fun W => ?_) (fun W => ?_)
          · refine J_iload (pc' := 168) rfl rfl rfl ?_
            exact J_iret rfl rfl ⟨_, rfl, W⟩
          · refine J_aload_no (pc' := 147) rfl rfl zg1 rfl ?_
            obtain ⟨zg25, W⟩ := W
            refine J_getA (G := 7002) (pc' := 150) rfl rfl (Nat.le_of_ble_eq_true rfl) rfl zg1 zg25 rfl ?_
            refine J_iconst (pc' := 151) rfl (i32_d rfl) rfl ?_
            obtain ⟨zg26, W⟩ := W
            refine J_iald (pc' := 152) rfl rfl (by decide) zg26 rfl ?_
            refine J_iload (pc' := 154) rfl rfl rfl ?_
            refine J_icmp (P := ¬ ra zs23 7002 zo0 3 = ra zs19 7002 zo0 3) (t := 166) (f := 157) rfl rfl rfl jc_ne W (fun W => ?_) (fun W => ?_)
            · refine J_iload (pc' := 168) rfl rfl rfl ?_
              exact J_iret rfl rfl ⟨_, rfl, W⟩
            · refine J_aload_no (pc' := 158) rfl rfl zg1 rfl ?_
              refine J_iload_n (pc' := 159) rfl rfl rfl ?_
              refine J_iload (pc' := 161) rfl rfl rfl ?_
              refine J_iload (pc' := 163) rfl rfl rfl ?_
              refine J_weak (L' := [none, none, none, none, none, none, none, none, none, some (ji zr24)]) (And.intro rfl trivial) ?_
              refine J_callV (as := [jo 7 zo0, ji zx1, ji zr14, ji zr24]) (rest := []) (pc' := 166) rfl rfl ax_Z_166 rfl rfl (Or.inr (Or.inr ⟨_, _, rfl, zg1⟩)) (Nat.le_of_ble_eq_true rfl) (Nat.le_of_ble_eq_true rfl) (Nat.le_of_ble_eq_true rfl) zg2 trivial trivial rfl W (fun zs27 W => ?_)
              refine J_iload (pc' := 168) rfl rfl rfl ?_
              exact J_iret rfl rfl ⟨_, rfl, W⟩
        · refine J_aload_no (pc' := 108) rfl rfl zg1 rfl ?_
          refine J_iload (pc' := 110) rfl rfl rfl ?_
          refine J_iload (pc' := 112) rfl rfl rfl ?_
          refine J_weak (L' := [none, none, none, none, none, none, none, none, none, none]) trivial ?_
          refine J_callI (as := [jo 7 zo0, ji zr20, ji zr14]) (rest := []) (pc' := 115) rfl rfl ax_Z_165 rfl rfl (Or.inr (Or.inr ⟨_, _, rfl, zg1⟩)) (Nat.le_of_ble_eq_true rfl) (Nat.le_of_ble_eq_true rfl) (Nat.le_of_ble_eq_true rfl) zg2 trivial trivial rfl W (fun zr30 zs29 W => ?_)
          exact J_iret rfl rfl ⟨_, rfl, W⟩
  · refine J_iconst (pc' := 10) rfl (i32_d rfl) rfl ?_
    exact J_iret rfl rfl ⟨_, rfl, W⟩
set_option maxRecDepth 16000 in
theorem wp_Search_askGoal_72 {n : Nat} {σ : jS} {Q : Int → jS → Prop} {zo0 : Int} {zx1 : Int} {zx2 : Int} {zx5 : Int} (W : 0 ≤ zo0 ∧ 0 ≤ rl σ 7002 zo0 ∧ 3 < rl σ 7002 zo0 ∧ 1 ≤ n ∧ TrI (n - 1) i_Search_seek [jo 7 zo0, ji zx1, ji zx2, ji zx5] σ (fun zr6 zs5 => Q zr6 zs5)) : J n c_Search_askGoal (some .int) 72 [some (jo 7 zo0), some (ji zx1), some (ji zx2), none, none, some (ji zx5), none, none, none, none] [] σ (qI Q) := by
  refine J_iconst (pc' := 73) rfl (i32_d rfl) rfl ?_
  refine J_istore (L' := [some (jo 7 zo0), some (ji zx1), some (ji zx2), none, none, some (ji zx5), some (ji 0), none, none, none]) (pc' := 75) rfl (Nat.le_of_ble_eq_true rfl) rfl rfl ?_
  refine J_iload (pc' := 77) rfl rfl rfl ?_
  refine J_if_t (pc' := 98) rfl rfl rfl ?_
  refine J_iconst (pc' := 99) rfl (i32_d rfl) rfl ?_
  refine J_istore (L' := [some (jo 7 zo0), some (ji zx1), some (ji zx2), none, none, some (ji zx5), some (ji 0), some (ji (-1)), none, none]) (pc' := 101) rfl (Nat.le_of_ble_eq_true rfl) rfl rfl ?_
  refine J_iload (pc' := 103) rfl rfl rfl ?_
  refine J_iconst (pc' := 104) rfl (i32_d rfl) rfl ?_
  refine J_icmp_t (pc' := 116) rfl rfl rfl ?_
  obtain ⟨zg1, W⟩ := W
  refine J_aload_no (pc' := 117) rfl rfl zg1 rfl ?_
  obtain ⟨zg2, W⟩ := W
  refine J_getA (G := 7002) (pc' := 120) rfl rfl (Nat.le_of_ble_eq_true rfl) rfl zg1 zg2 rfl ?_
  refine J_iconst (pc' := 121) rfl (i32_d rfl) rfl ?_
  obtain ⟨zg3, W⟩ := W
  refine J_iald (pc' := 122) rfl rfl (by decide) zg3 rfl ?_
  refine J_istore (L' := [some (jo 7 zo0), some (ji zx1), some (ji zx2), none, none, some (ji zx5), some (ji 0), some (ji (-1)), some (ji (ra σ 7002 zo0 3)), none]) (pc' := 124) rfl (Nat.le_of_ble_eq_true rfl) rfl rfl ?_
  refine J_aload_no (pc' := 125) rfl rfl zg1 rfl ?_
  refine J_iload_n (pc' := 126) rfl rfl rfl ?_
  refine J_iload_n (pc' := 127) rfl rfl rfl ?_
  refine J_iload (pc' := 129) rfl rfl rfl ?_
  obtain ⟨zg4, W⟩ := W
  refine J_weak (L' := [some (jo 7 zo0), some (ji zx1), none, none, none, some (ji zx5), some (ji 0), none, some (ji (ra σ 7002 zo0 3)), none]) (And.intro rfl (And.intro rfl (And.intro rfl (And.intro rfl (And.intro rfl trivial))))) ?_
  refine J_callI (as := [jo 7 zo0, ji zx1, ji zx2, ji zx5]) (rest := []) (pc' := 132) rfl rfl ax_Z_167 rfl rfl (Or.inr (Or.inr ⟨_, _, rfl, zg1⟩)) (Nat.le_of_ble_eq_true rfl) (Nat.le_of_ble_eq_true rfl) (Nat.le_of_ble_eq_true rfl) zg4 trivial trivial rfl W (fun zr6 zs5 W => ?_)
  refine J_istore (L' := [some (jo 7 zo0), some (ji zx1), none, none, none, some (ji zx5), some (ji 0), none, some (ji (ra σ 7002 zo0 3)), some (ji zr6)]) (pc' := 134) rfl (Nat.le_of_ble_eq_true rfl) rfl rfl ?_
  refine J_iload (pc' := 136) rfl rfl rfl ?_
  refine J_if_t (pc' := 166) rfl rfl rfl ?_
  refine J_iload (pc' := 168) rfl rfl rfl ?_
  exact J_iret rfl rfl ⟨_, rfl, W⟩
theorem wp_Search_mayAsk {n : Nat} {σ : jS} {Q : Int → jS → Prop} {zo0 : Int} {zx1 : Int} {zx2 : Int} (W : 0 ≤ zo0 ∧ 0 ≤ rl σ 7002 zo0 ∧ 1 < rl σ 7002 zo0 ∧ (if ¬ ra σ 7002 zo0 1 = 200 then (if zx2 < 20 then 1 ≤ n ∧ 0 ≤ rs σ 7000 zo0 ∧ TrV (n - 1) i_Terms_flatten [jo 9 (rs σ 7000 zo0), ji zx1, jo 0 (rs σ 7008 zo0)] σ (fun zs6 => 0 ≤ rs zs6 7008 zo0 ∧ (if rs zs6 1 (rs zs6 7008 zo0) ≤ 100 then Q 1 zs6 else (∀ zs9, zs9 = ws zs6 7017 zo0 5 → Q 0 zs9))) else (∀ zs10, zs10 = ws σ 7017 zo0 4 → Q 0 zs10)) else (∀ zs11, zs11 = ws σ 7017 zo0 3 → Q 0 zs11))) : TrI n i_Search_mayAsk [jo 7 zo0, ji zx1, ji zx2] σ Q := by
  refine Tr_of ax_Z_163 ?_
  show J n c_Search_mayAsk (some .boolean) 0 [some (jo 7 zo0), some (ji zx1), some (ji zx2)] [] σ (qI Q)
  obtain ⟨zg1, W⟩ := W
  refine J_aload_no (pc' := 1) rfl rfl zg1 rfl ?_
  obtain ⟨zg2, W⟩ := W
  refine J_getA (G := 7002) (pc' := 4) rfl rfl (Nat.le_of_ble_eq_true rfl) rfl zg1 zg2 rfl ?_
  refine J_iconst (pc' := 5) rfl (i32_d rfl) rfl ?_
  obtain ⟨zg3, W⟩ := W
  refine J_iald (pc' := 6) rfl rfl (by decide) zg3 rfl ?_
  refine J_sipush (pc' := 9) rfl (by decide) (by decide) rfl ?_
  refine J_icmp (P := ¬ ra σ 7002 zo0 1 = 200) (t := 19) (f := 12) rfl rfl rfl jc_ne W (fun W => ?_) (fun W => ?_)
  · refine J_iload_n (pc' := 20) rfl rfl rfl ?_
    refine J_bipush (pc' := 22) rfl (by decide) (by decide) rfl ?_
    refine J_icmp (P := zx2 < 20) (t := 32) (f := 25) rfl rfl rfl jc_lt W (fun W => ?_) (fun W => ?_)
    · refine J_aload_no (pc' := 33) rfl rfl zg1 rfl ?_
      refine J_getO (G := 7000) (pc' := 36) rfl rfl (Nat.le_of_ble_eq_true rfl) rfl zg1 rfl ?_
      refine J_iload_n (pc' := 37) rfl rfl rfl ?_
      refine J_aload_no (pc' := 38) rfl rfl zg1 rfl ?_
      refine J_getO (G := 7008) (pc' := 41) rfl rfl (Nat.le_of_ble_eq_true rfl) rfl zg1 rfl ?_
      obtain ⟨zg4, W⟩ := W
      obtain ⟨zg5, W⟩ := W
      refine J_weak (L' := [some (jo 7 zo0), none, none]) (And.intro rfl trivial) ?_
      refine J_callV (as := [jo 9 (rs σ 7000 zo0), ji zx1, jo 0 (rs σ 7008 zo0)]) (rest := []) (pc' := 44) rfl rfl ax_Z_220 rfl rfl (Or.inr (Or.inr ⟨_, _, rfl, zg5⟩)) (Nat.le_of_ble_eq_true rfl) (Nat.le_of_ble_eq_true rfl) (Nat.le_of_ble_eq_true rfl) zg4 trivial trivial rfl W (fun zs6 W => ?_)
      refine J_aload_no (pc' := 45) rfl rfl zg1 rfl ?_
      refine J_getO (G := 7008) (pc' := 48) rfl rfl (Nat.le_of_ble_eq_true rfl) rfl zg1 rfl ?_
      obtain ⟨zg8, W⟩ := W
      refine J_getI (G := 1) (pc' := 51) rfl rfl (Nat.le_of_ble_eq_true rfl) rfl zg8 rfl ?_
      refine J_bipush (pc' := 53) rfl (by decide) (by decide) rfl ?_
      refine J_icmp (P := rs zs6 1 (rs zs6 7008 zo0) ≤ 100) (t := 63) (f := 56) rfl rfl rfl jc_le W (fun W => ?_) (fun W => ?_)
      · refine J_iconst (pc' := 64) rfl (i32_d rfl) rfl ?_
        exact J_zret rfl rfl (Or.inr rfl) ⟨_, rfl, W⟩
      · refine J_aload_no (pc' := 57) rfl rfl zg1 rfl ?_
        refine J_iconst (pc' := 58) rfl (i32_d rfl) rfl ?_
        refine J_putI (G := 7017) (pc' := 61) rfl rfl (Nat.le_of_ble_eq_true rfl) rfl rfl zg1 rfl (fun zs9 ezs9 => ?_)
        replace W := W zs9 ezs9
        refine J_iconst (pc' := 62) rfl (i32_d rfl) rfl ?_
        exact J_zret rfl rfl (Or.inl rfl) ⟨_, rfl, W⟩
    · refine J_aload_no (pc' := 26) rfl rfl zg1 rfl ?_
      refine J_iconst (pc' := 27) rfl (i32_d rfl) rfl ?_
      refine J_putI (G := 7017) (pc' := 30) rfl rfl (Nat.le_of_ble_eq_true rfl) rfl rfl zg1 rfl (fun zs10 ezs10 => ?_)
      replace W := W zs10 ezs10
      refine J_iconst (pc' := 31) rfl (i32_d rfl) rfl ?_
      exact J_zret rfl rfl (Or.inl rfl) ⟨_, rfl, W⟩
  · refine J_aload_no (pc' := 13) rfl rfl zg1 rfl ?_
    refine J_iconst (pc' := 14) rfl (i32_d rfl) rfl ?_
    refine J_putI (G := 7017) (pc' := 17) rfl rfl (Nat.le_of_ble_eq_true rfl) rfl rfl zg1 rfl (fun zs11 ezs11 => ?_)
    replace W := W zs11 ezs11
    refine J_iconst (pc' := 18) rfl (i32_d rfl) rfl ?_
    exact J_zret rfl rfl (Or.inl rfl) ⟨_, rfl, W⟩
theorem wp_Search_addToPlan {n : Nat} {σ : jS} {Q : Int → jS → Prop} {zo0 : Int} {zx1 : Int} {zx2 : Int} {zx3 : Int} (W : 0 ≤ zo0 ∧ 1 ≤ n ∧ 0 ≤ rs σ 7006 zo0 ∧ TrI (n - 1) i_Nodes_add [jo 6 (rs σ 7006 zo0)] σ (fun zr5 zs4 => 0 ≤ rs zs4 7006 zo0 ∧ TrV (n - 1) i_Nodes_set [jo 6 (rs zs4 7006 zo0), ji zr5, ji 1, ji zx2] zs4 (fun zs7 => 0 ≤ rs zs7 7006 zo0 ∧ TrV (n - 1) i_Nodes_set [jo 6 (rs zs7 7006 zo0), ji zr5, ji 2, ji zx3] zs7 (fun zs10 => 0 ≤ rs zs10 7006 zo0 ∧ TrV (n - 1) i_Nodes_set [jo 6 (rs zs10 7006 zo0), ji zr5, ji 6, ji zx1] zs10 (fun zs13 => 0 ≤ rs zs13 7006 zo0 ∧ TrV (n - 1) i_Nodes_set [jo 6 (rs zs13 7006 zo0), ji zr5, ji 7, ji (-1)] zs13 (fun zs16 => Q zr5 zs16)))))) : TrI n i_Search_addToPlan [jo 7 zo0, ji zx1, ji zx2, ji zx3] σ Q := by
  refine Tr_of ax_Z_164 ?_
  show J n c_Search_addToPlan (some .int) 0 [some (jo 7 zo0), some (ji zx1), some (ji zx2), some (ji zx3), none] [] σ (qI Q)
  obtain ⟨zg1, W⟩ := W
  refine J_aload_no (pc' := 1) rfl rfl zg1 rfl ?_
  refine J_getO (G := 7006) (pc' := 4) rfl rfl (Nat.le_of_ble_eq_true rfl) rfl zg1 rfl ?_
  obtain ⟨zg2, W⟩ := W
  obtain ⟨zg3, W⟩ := W
  refine J_callI (as := [jo 6 (rs σ 7006 zo0)]) (rest := []) (pc' := 7) rfl rfl ax_Z_154 rfl rfl (Or.inr (Or.inr ⟨_, _, rfl, zg3⟩)) (Nat.le_of_ble_eq_true rfl) (Nat.le_of_ble_eq_true rfl) (Nat.le_of_ble_eq_true rfl) zg2 trivial trivial rfl W (fun zr5 zs4 W => ?_)
  refine J_istore (L' := [some (jo 7 zo0), some (ji zx1), some (ji zx2), some (ji zx3), some (ji zr5)]) (pc' := 9) rfl (Nat.le_of_ble_eq_true rfl) rfl rfl ?_
  refine J_aload_no (pc' := 10) rfl rfl zg1 rfl ?_
  refine J_getO (G := 7006) (pc' := 13) rfl rfl (Nat.le_of_ble_eq_true rfl) rfl zg1 rfl ?_
  refine J_iload (pc' := 15) rfl rfl rfl ?_
  refine J_iconst (pc' := 16) rfl (i32_d rfl) rfl ?_
  refine J_iload_n (pc' := 17) rfl rfl rfl ?_
  obtain ⟨zg6, W⟩ := W
  refine J_weak (L' := [some (jo 7 zo0), some (ji zx1), none, some (ji zx3), some (ji zr5)]) (And.intro rfl (And.intro rfl (And.intro rfl (And.intro rfl trivial)))) ?_
  refine J_callV (as := [jo 6 (rs zs4 7006 zo0), ji zr5, ji 1, ji zx2]) (rest := []) (pc' := 20) rfl rfl ax_Z_153 rfl rfl (Or.inr (Or.inr ⟨_, _, rfl, zg6⟩)) (Nat.le_of_ble_eq_true rfl) (Nat.le_of_ble_eq_true rfl) (Nat.le_of_ble_eq_true rfl) zg2 trivial trivial rfl W (fun zs7 W => ?_)
  refine J_aload_no (pc' := 21) rfl rfl zg1 rfl ?_
  refine J_getO (G := 7006) (pc' := 24) rfl rfl (Nat.le_of_ble_eq_true rfl) rfl zg1 rfl ?_
  refine J_iload (pc' := 26) rfl rfl rfl ?_
  refine J_iconst (pc' := 27) rfl (i32_d rfl) rfl ?_
  refine J_iload_n (pc' := 28) rfl rfl rfl ?_
  obtain ⟨zg9, W⟩ := W
  refine J_weak (L' := [some (jo 7 zo0), some (ji zx1), none, none, some (ji zr5)]) (And.intro rfl (And.intro rfl (And.intro rfl trivial))) ?_
  refine J_callV (as := [jo 6 (rs zs7 7006 zo0), ji zr5, ji 2, ji zx3]) (rest := []) (pc' := 31) rfl rfl ax_Z_153 rfl rfl (Or.inr (Or.inr ⟨_, _, rfl, zg9⟩)) (Nat.le_of_ble_eq_true rfl) (Nat.le_of_ble_eq_true rfl) (Nat.le_of_ble_eq_true rfl) zg2 trivial trivial rfl W (fun zs10 W => ?_)
  refine J_aload_no (pc' := 32) rfl rfl zg1 rfl ?_
  refine J_getO (G := 7006) (pc' := 35) rfl rfl (Nat.le_of_ble_eq_true rfl) rfl zg1 rfl ?_
  refine J_iload (pc' := 37) rfl rfl rfl ?_
  refine J_bipush (pc' := 39) rfl (by decide) (by decide) rfl ?_
  refine J_iload_n (pc' := 40) rfl rfl rfl ?_
  obtain ⟨zg12, W⟩ := W
  refine J_weak (L' := [some (jo 7 zo0), none, none, none, some (ji zr5)]) (And.intro rfl (And.intro rfl trivial)) ?_
  refine J_callV (as := [jo 6 (rs zs10 7006 zo0), ji zr5, ji 6, ji zx1]) (rest := []) (pc' := 43) rfl rfl ax_Z_153 rfl rfl (Or.inr (Or.inr ⟨_, _, rfl, zg12⟩)) (Nat.le_of_ble_eq_true rfl) (Nat.le_of_ble_eq_true rfl) (Nat.le_of_ble_eq_true rfl) zg2 trivial trivial rfl W (fun zs13 W => ?_)
  refine J_aload_no (pc' := 44) rfl rfl zg1 rfl ?_
  refine J_getO (G := 7006) (pc' := 47) rfl rfl (Nat.le_of_ble_eq_true rfl) rfl zg1 rfl ?_
  refine J_iload (pc' := 49) rfl rfl rfl ?_
  refine J_bipush (pc' := 51) rfl (by decide) (by decide) rfl ?_
  refine J_iconst (pc' := 52) rfl (i32_d rfl) rfl ?_
  obtain ⟨zg15, W⟩ := W
  refine J_weak (L' := [none, none, none, none, some (ji zr5)]) (And.intro rfl trivial) ?_
  refine J_callV (as := [jo 6 (rs zs13 7006 zo0), ji zr5, ji 7, ji (-1)]) (rest := []) (pc' := 55) rfl rfl ax_Z_153 rfl rfl (Or.inr (Or.inr ⟨_, _, rfl, zg15⟩)) (Nat.le_of_ble_eq_true rfl) (Nat.le_of_ble_eq_true rfl) (Nat.le_of_ble_eq_true rfl) zg2 trivial trivial rfl W (fun zs16 W => ?_)
  refine J_iload (pc' := 57) rfl rfl rfl ?_
  exact J_iret rfl rfl ⟨_, rfl, W⟩
theorem wp_Search_meet {n : Nat} {σ : jS} {Q : Int → jS → Prop} {zo0 : Int} {zx1 : Int} {zx2 : Int} (W : 0 ≤ zo0 ∧ 0 ≤ rl σ 7002 zo0 ∧ 2 < rl σ 7002 zo0 ∧ i32 ((ra σ 7002 zo0 2) + 1) ∧ (∀ zs5, zs5 = wa σ 7002 zo0 2 ((ra σ 7002 zo0 2) + 1) → 1 ≤ n ∧ 0 ≤ rs zs5 7006 zo0 ∧ TrV (n - 1) i_Nodes_set [jo 6 (rs zs5 7006 zo0), ji zx2, ji 7, ji zx1] zs5 (fun zs8 => 0 ≤ rs zs8 7001 zo0 ∧ TrI (n - 1) i_Memory_nodesOf [jo 5 (rs zs8 7001 zo0), ji zx1] zs8 (fun zr12 zs11 => Q zr12 zs11)))) : TrI n i_Search_meet [jo 7 zo0, ji zx1, ji zx2] σ Q := by
  refine Tr_of ax_Z_165 ?_
  show J n c_Search_meet (some .int) 0 [some (jo 7 zo0), some (ji zx1), some (ji zx2)] [] σ (qI Q)
  obtain ⟨zg1, W⟩ := W
  refine J_aload_no (pc' := 1) rfl rfl zg1 rfl ?_
  obtain ⟨zg2, W⟩ := W
  refine J_getA (G := 7002) (pc' := 4) rfl rfl (Nat.le_of_ble_eq_true rfl) rfl zg1 zg2 rfl ?_
  refine J_iconst (pc' := 5) rfl (i32_d rfl) rfl ?_
  refine J_dup2 (pc' := 6) rfl rfl rfl rfl ?_
  obtain ⟨zg3, W⟩ := W
  refine J_iald (pc' := 7) rfl rfl (by decide) zg3 rfl ?_
  refine J_iconst (pc' := 8) rfl (i32_d rfl) rfl ?_
  obtain ⟨zg4, W⟩ := W
  refine J_iadd (pc' := 9) rfl zg4 rfl ?_
  refine J_iast (pc' := 10) rfl rfl (by decide) (by decide) zg3 rfl (fun zs5 ezs5 => ?_)
  replace W := W zs5 ezs5
  refine J_aload_no (pc' := 11) rfl rfl zg1 rfl ?_
  refine J_getO (G := 7006) (pc' := 14) rfl rfl (Nat.le_of_ble_eq_true rfl) rfl zg1 rfl ?_
  refine J_iload_n (pc' := 15) rfl rfl rfl ?_
  refine J_bipush (pc' := 17) rfl (by decide) (by decide) rfl ?_
  refine J_iload_n (pc' := 18) rfl rfl rfl ?_
  obtain ⟨zg6, W⟩ := W
  obtain ⟨zg7, W⟩ := W
  refine J_weak (L' := [some (jo 7 zo0), some (ji zx1), none]) (And.intro rfl (And.intro rfl trivial)) ?_
  refine J_callV (as := [jo 6 (rs zs5 7006 zo0), ji zx2, ji 7, ji zx1]) (rest := []) (pc' := 21) rfl rfl ax_Z_153 rfl rfl (Or.inr (Or.inr ⟨_, _, rfl, zg7⟩)) (Nat.le_of_ble_eq_true rfl) (Nat.le_of_ble_eq_true rfl) (Nat.le_of_ble_eq_true rfl) zg6 trivial trivial rfl W (fun zs8 W => ?_)
  refine J_aload_no (pc' := 22) rfl rfl zg1 rfl ?_
  refine J_getO (G := 7001) (pc' := 25) rfl rfl (Nat.le_of_ble_eq_true rfl) rfl zg1 rfl ?_
  refine J_iload_n (pc' := 26) rfl rfl rfl ?_
  obtain ⟨zg10, W⟩ := W
  refine J_weak (L' := [none, none, none]) trivial ?_
  refine J_callI (as := [jo 5 (rs zs8 7001 zo0), ji zx1]) (rest := []) (pc' := 29) rfl rfl ax_Z_148 rfl rfl (Or.inr (Or.inr ⟨_, _, rfl, zg10⟩)) (Nat.le_of_ble_eq_true rfl) (Nat.le_of_ble_eq_true rfl) (Nat.le_of_ble_eq_true rfl) zg6 trivial trivial rfl W (fun zr12 zs11 W => ?_)
  exact J_iret rfl rfl ⟨_, rfl, W⟩
