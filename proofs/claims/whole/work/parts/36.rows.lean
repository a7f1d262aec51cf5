/-! Rows that turn code into formulas (written by genwp.py). -/
theorem wp_Top_scope {n : Nat} {σ : jS} {Q : Int → jS → Prop} {zo0 : Int} {zx1 : Int} {zx2 : Int} (W : 0 ≤ zo0 ∧ 1 ≤ n ∧ 0 ≤ rs σ 12005 zo0 ∧ TrI (n - 1) i_Text_hasScope [jo 10 (rs σ 12005 zo0), ji zx1] σ (fun zr5 zs4 => (if ¬ zr5 = 0 then (if zx2 = 0 then 0 ≤ rs zs4 12005 zo0 ∧ 0 ≤ rl zs4 10002 (rs zs4 12005 zo0) ∧ 0 ≤ zx1 ∧ zx1 < rl zs4 10002 (rs zs4 12005 zo0) ∧ Q (ra zs4 10002 (rs zs4 12005 zo0) zx1) zs4 else (if zx2 = 1 then 0 ≤ rs zs4 12005 zo0 ∧ 0 ≤ rl zs4 10004 (rs zs4 12005 zo0) ∧ 0 ≤ zx1 ∧ zx1 < rl zs4 10004 (rs zs4 12005 zo0) ∧ TrI (n - 1) i_Integer_bitCount [ji (ra zs4 10004 (rs zs4 12005 zo0) zx1)] zs4 (fun zr15 zs14 => Q zr15 zs14) else (if zx2 = 2 then 0 ≤ rs zs4 12005 zo0 ∧ 0 ≤ rl zs4 10003 (rs zs4 12005 zo0) ∧ 0 ≤ zx1 ∧ zx1 < rl zs4 10003 (rs zs4 12005 zo0) ∧ Q (ra zs4 10003 (rs zs4 12005 zo0) zx1) zs4 else (if zx2 = 3 then 0 ≤ rs zs4 12005 zo0 ∧ TrI (n - 1) i_Text_scopesRightIn [jo 10 (rs zs4 12005 zo0), ji zx1] zs4 (fun zr22 zs21 => Q zr22 zs21) else Q (-2) zs4)))) else Q (-2) zs4))) : TrI n i_Top_scope [jo 12 zo0, ji zx1, ji zx2] σ Q := by
  refine Tr_of ax_Z_257 ?_
  show J n c_Top_scope (some .int) 0 [some (jo 12 zo0), some (ji zx1), some (ji zx2)] [] σ (qI Q)
  obtain ⟨zg1, W⟩ := W
  refine J_aload_no (pc' := 1) rfl rfl zg1 rfl ?_
  refine J_getO (G := 12005) (pc' := 4) rfl rfl (Nat.le_of_ble_eq_true rfl) rfl zg1 rfl ?_
  refine J_iload_n (pc' := 5) rfl rfl rfl ?_
  obtain ⟨zg2, W⟩ := W
  obtain ⟨zg3, W⟩ := W
  refine J_callI (as := [jo 10 (rs σ 12005 zo0), ji zx1]) (rest := []) (pc' := 8) rfl rfl ax_Z_224 rfl rfl (Or.inr (Or.inr ⟨_, _, rfl, zg3⟩)) (Nat.le_of_ble_eq_true rfl) (Nat.le_of_ble_eq_true rfl) (Nat.le_of_ble_eq_true rfl) zg2 trivial trivial rfl W (fun zr5 zs4 W => ?_)
  refine J_if (P := ¬ zr5 = 0) (t := 14) (f := 11) rfl rfl rfl jc_ne W (fun W => ?_) (fun W => ?_)
  · refine J_iload_n (pc' := 15) rfl rfl rfl ?_
    by_cases zc23 : zx2 = 0
    · rw [if_pos zc23] at W
      refine J_swC (pc' := 44) (i := 0) rfl (by omega) (by decide) rfl rfl ?_
      refine J_aload_no (pc' := 45) rfl rfl zg1 rfl ?_
      refine J_getO (G := 12005) (pc' := 48) rfl rfl (Nat.le_of_ble_eq_true rfl) rfl zg1 rfl ?_
      obtain ⟨zg6, W⟩ := W
      obtain ⟨zg7, W⟩ := W
      refine J_getA (G := 10002) (pc' := 51) rfl rfl (Nat.le_of_ble_eq_true rfl) rfl zg6 zg7 rfl ?_
      refine J_iload_n (pc' := 52) rfl rfl rfl ?_
      obtain ⟨zg8, W⟩ := W
      obtain ⟨zg9, W⟩ := W
      refine J_iald (pc' := 53) rfl rfl zg8 zg9 rfl ?_
      exact J_iret rfl rfl ⟨_, rfl, W⟩
    rw [if_neg zc23] at W
    by_cases zc24 : zx2 = 1
    · rw [if_pos zc24] at W
      refine J_swC (pc' := 54) (i := 1) rfl (by omega) (by decide) rfl rfl ?_
      refine J_aload_no (pc' := 55) rfl rfl zg1 rfl ?_
      refine J_getO (G := 12005) (pc' := 58) rfl rfl (Nat.le_of_ble_eq_true rfl) rfl zg1 rfl ?_
      obtain ⟨zg10, W⟩ := W
      obtain ⟨zg11, W⟩ := W
      refine J_getA (G := 10004) (pc' := 61) rfl rfl (Nat.le_of_ble_eq_true rfl) rfl zg10 zg11 rfl ?_
      refine J_iload_n (pc' := 62) rfl rfl rfl ?_
      obtain ⟨zg12, W⟩ := W
      obtain ⟨zg13, W⟩ := W
      refine J_iald (pc' := 63) rfl rfl zg12 zg13 rfl ?_
      refine J_weak (L' := [none, none, none]) trivial ?_
      refine J_callI (as := [ji (ra zs4 10004 (rs zs4 12005 zo0) zx1)]) (rest := []) (pc' := 66) rfl rfl ax_Z_111 rfl rfl (Or.inl rfl) (Nat.le_of_ble_eq_true rfl) (Nat.le_of_ble_eq_true rfl) (Nat.le_of_ble_eq_true rfl) zg2 trivial trivial rfl W (fun zr15 zs14 W => ?_)
      exact J_iret rfl rfl ⟨_, rfl, W⟩
    rw [if_neg zc24] at W
    by_cases zc25 : zx2 = 2
    · rw [if_pos zc25] at W
      refine J_swC (pc' := 67) (i := 2) rfl (by omega) (by decide) rfl rfl ?_
      refine J_aload_no (pc' := 68) rfl rfl zg1 rfl ?_
      refine J_getO (G := 12005) (pc' := 71) rfl rfl (Nat.le_of_ble_eq_true rfl) rfl zg1 rfl ?_
      obtain ⟨zg16, W⟩ := W
      obtain ⟨zg17, W⟩ := W
      refine J_getA (G := 10003) (pc' := 74) rfl rfl (Nat.le_of_ble_eq_true rfl) rfl zg16 zg17 rfl ?_
      refine J_iload_n (pc' := 75) rfl rfl rfl ?_
      obtain ⟨zg18, W⟩ := W
      obtain ⟨zg19, W⟩ := W
      refine J_iald (pc' := 76) rfl rfl zg18 zg19 rfl ?_
      exact J_iret rfl rfl ⟨_, rfl, W⟩
    rw [if_neg zc25] at W
    by_cases zc26 : zx2 = 3
    · rw [if_pos zc26] at W
      refine J_swC (pc' := 77) (i := 3) rfl (by omega) (by decide) rfl rfl ?_
      refine J_aload_no (pc' := 78) rfl rfl zg1 rfl ?_
      refine J_getO (G := 12005) (pc' := 81) rfl rfl (Nat.le_of_ble_eq_true rfl) rfl zg1 rfl ?_
      refine J_iload_n (pc' := 82) rfl rfl rfl ?_
      obtain ⟨zg20, W⟩ := W
      refine J_weak (L' := [none, none, none]) trivial ?_
      refine J_callI (as := [jo 10 (rs zs4 12005 zo0), ji zx1]) (rest := []) (pc' := 85) rfl rfl ax_Z_235 rfl rfl (Or.inr (Or.inr ⟨_, _, rfl, zg20⟩)) (Nat.le_of_ble_eq_true rfl) (Nat.le_of_ble_eq_true rfl) (Nat.le_of_ble_eq_true rfl) zg2 trivial trivial rfl W (fun zr22 zs21 W => ?_)
      exact J_iret rfl rfl ⟨_, rfl, W⟩
    rw [if_neg zc26] at W
    refine J_swD (pc' := 86) rfl (by omega) rfl ?_
    refine J_bipush (pc' := 88) rfl (by decide) (by decide) rfl ?_
    exact J_iret rfl rfl ⟨_, rfl, W⟩
  · refine J_bipush (pc' := 13) rfl (by decide) (by decide) rfl ?_
    exact J_iret rfl rfl ⟨_, rfl, W⟩
theorem wp_Top_given {n : Nat} {σ : jS} {Q : Int → jS → Prop} {zo0 : Int} {zx1 : Int} {zx2 : Int} (W : 0 ≤ zo0 ∧ 1 ≤ n ∧ 0 ≤ rs σ 12005 zo0 ∧ TrI (n - 1) i_Text_hasGiven [jo 10 (rs σ 12005 zo0), ji zx1] σ (fun zr5 zs4 => (if ¬ zr5 = 0 then 0 ≤ rs zs4 12005 zo0 ∧ TrO (n - 1) i_Text_part 0 [jo 10 (rs zs4 12005 zo0), ji zx1, ji 0] zs4 (fun zr8 zs7 => TrI (n - 1) i_Flat_varLetters [jo 0 zr8] zs7 (fun zr11 zs10 => 0 ≤ rs zs10 12005 zo0 ∧ TrI (n - 1) i_Text_needVars [jo 10 (rs zs10 12005 zo0), ji zx1] zs10 (fun zr14 zs13 => (if zx2 = 0 then 0 ≤ rs zs13 12005 zo0 ∧ 0 ≤ rl zs13 10005 (rs zs13 12005 zo0) ∧ 0 ≤ zx1 ∧ zx1 < rl zs13 10005 (rs zs13 12005 zo0) ∧ Q (ra zs13 10005 (rs zs13 12005 zo0) zx1) zs13 else (if zx2 = 1 then 0 ≤ rs zs13 12005 zo0 ∧ 0 ≤ rl zs13 10006 (rs zs13 12005 zo0) ∧ 0 ≤ zx1 ∧ zx1 < rl zs13 10006 (rs zs13 12005 zo0) ∧ Q (ra zs13 10006 (rs zs13 12005 zo0) zx1) zs13 else (if zx2 = 2 then TrI (n - 1) i_Integer_bitCount [ji (bOr zr11 zr14)] zs13 (fun zr24 zs23 => Q zr24 zs23) else (if zx2 = 3 then 0 ≤ rs zs13 12005 zo0 ∧ TrO (n - 1) i_Text_part 0 [jo 10 (rs zs13 12005 zo0), ji zx1, ji 0] zs13 (fun zr27 zs26 => Q (rs zs26 1 zr27) zs26) else (if zx2 = 4 then 0 ≤ rs zs13 12005 zo0 ∧ TrI (n - 1) i_Text_needSizes [jo 10 (rs zs13 12005 zo0), ji zx1] zs13 (fun zr31 zs30 => Q zr31 zs30) else (if zx2 = 5 then TrI (n - 1) i_Integer_bitCount [ji (bAnd zr14 (bXor zr11 (-1)))] zs13 (fun zr33 zs32 => Q zr33 zs32) else Q (-1) zs13))))))))) else Q (-1) zs4))) : TrI n i_Top_given [jo 12 zo0, ji zx1, ji zx2] σ Q := by
  refine Tr_of ax_Z_258 ?_
  show J n c_Top_given (some .int) 0 [some (jo 12 zo0), some (ji zx1), some (ji zx2), none, none] [] σ (qI Q)
  obtain ⟨zg1, W⟩ := W
  refine J_aload_no (pc' := 1) rfl rfl zg1 rfl ?_
  refine J_getO (G := 12005) (pc' := 4) rfl rfl (Nat.le_of_ble_eq_true rfl) rfl zg1 rfl ?_
  refine J_iload_n (pc' := 5) rfl rfl rfl ?_
  obtain ⟨zg2, W⟩ := W
  obtain ⟨zg3, W⟩ := W
  refine J_callI (as := [jo 10 (rs σ 12005 zo0), ji zx1]) (rest := []) (pc' := 8) rfl rfl ax_Z_225 rfl rfl (Or.inr (Or.inr ⟨_, _, rfl, zg3⟩)) (Nat.le_of_ble_eq_true rfl) (Nat.le_of_ble_eq_true rfl) (Nat.le_of_ble_eq_true rfl) zg2 trivial trivial rfl W (fun zr5 zs4 W => ?_)
  refine J_if (P := ¬ zr5 = 0) (t := 13) (f := 11) rfl rfl rfl jc_ne W (fun W => ?_) (fun W => ?_)
  · refine J_aload_no (pc' := 14) rfl rfl zg1 rfl ?_
    refine J_getO (G := 12005) (pc' := 17) rfl rfl (Nat.le_of_ble_eq_true rfl) rfl zg1 rfl ?_
    refine J_iload_n (pc' := 18) rfl rfl rfl ?_
    refine J_iconst (pc' := 19) rfl (i32_d rfl) rfl ?_
    obtain ⟨zg6, W⟩ := W
    refine J_callO (as := [jo 10 (rs zs4 12005 zo0), ji zx1, ji 0]) (rest := []) (pc' := 22) rfl rfl ax_Z_230 rfl rfl (Or.inr (Or.inr ⟨_, _, rfl, zg6⟩)) (Nat.le_of_ble_eq_true rfl) (Nat.le_of_ble_eq_true rfl) (Nat.le_of_ble_eq_true rfl) zg2 trivial trivial rfl W (fun zr8 zs7 zh9 W => ?_)
    refine J_callI (as := [jo 0 zr8]) (rest := []) (pc' := 25) rfl rfl ax_Z_126 rfl rfl (Or.inr (Or.inr ⟨_, _, rfl, zh9⟩)) (Nat.le_of_ble_eq_true rfl) (Nat.le_of_ble_eq_true rfl) (Nat.le_of_ble_eq_true rfl) zg2 trivial trivial rfl W (fun zr11 zs10 W => ?_)
    refine J_istore_n (L' := [some (jo 12 zo0), some (ji zx1), some (ji zx2), some (ji zr11), none]) (pc' := 26) rfl (Nat.le_of_ble_eq_true rfl) rfl rfl ?_
    refine J_aload_no (pc' := 27) rfl rfl zg1 rfl ?_
    refine J_getO (G := 12005) (pc' := 30) rfl rfl (Nat.le_of_ble_eq_true rfl) rfl zg1 rfl ?_
    refine J_iload_n (pc' := 31) rfl rfl rfl ?_
    obtain ⟨zg12, W⟩ := W
    refine J_callI (as := [jo 10 (rs zs10 12005 zo0), ji zx1]) (rest := []) (pc' := 34) rfl rfl ax_Z_234 rfl rfl (Or.inr (Or.inr ⟨_, _, rfl, zg12⟩)) (Nat.le_of_ble_eq_true rfl) (Nat.le_of_ble_eq_true rfl) (Nat.le_of_ble_eq_true rfl) zg2 trivial trivial rfl W (fun zr14 zs13 W => ?_)
    refine J_istore (L' := [some (jo 12 zo0), some (ji zx1), some (ji zx2), some (ji zr11), some (ji zr14)]) (pc' := 36) rfl (Nat.le_of_ble_eq_true rfl) rfl rfl ?_
    refine J_iload_n (pc' := 37) rfl rfl rfl ?_
    by_cases zc34 : zx2 = 0
    · rw [if_pos zc34] at W
      refine J_swC (pc' := 76) (i := 0) rfl (by omega) (by decide) rfl rfl ?_
      refine J_aload_no (pc' := 77) rfl rfl zg1 rfl ?_
      refine J_getO (G := 12005) (pc' := 80) rfl rfl (Nat.le_of_ble_eq_true rfl) rfl zg1 rfl ?_
      obtain ⟨zg15, W⟩ := W
      obtain ⟨zg16, W⟩ := W
      refine J_getA (G := 10005) (pc' := 83) rfl rfl (Nat.le_of_ble_eq_true rfl) rfl zg15 zg16 rfl ?_
      refine J_iload_n (pc' := 84) rfl rfl rfl ?_
      obtain ⟨zg17, W⟩ := W
      obtain ⟨zg18, W⟩ := W
      refine J_iald (pc' := 85) rfl rfl zg17 zg18 rfl ?_
      exact J_iret rfl rfl ⟨_, rfl, W⟩
    rw [if_neg zc34] at W
    by_cases zc35 : zx2 = 1
    · rw [if_pos zc35] at W
      refine J_swC (pc' := 86) (i := 1) rfl (by omega) (by decide) rfl rfl ?_
      refine J_aload_no (pc' := 87) rfl rfl zg1 rfl ?_
      refine J_getO (G := 12005) (pc' := 90) rfl rfl (Nat.le_of_ble_eq_true rfl) rfl zg1 rfl ?_
      obtain ⟨zg19, W⟩ := W
      obtain ⟨zg20, W⟩ := W
      refine J_getA (G := 10006) (pc' := 93) rfl rfl (Nat.le_of_ble_eq_true rfl) rfl zg19 zg20 rfl ?_
      refine J_iload_n (pc' := 94) rfl rfl rfl ?_
      obtain ⟨zg21, W⟩ := W
      obtain ⟨zg22, W⟩ := W
      refine J_iald (pc' := 95) rfl rfl zg21 zg22 rfl ?_
      exact J_iret rfl rfl ⟨_, rfl, W⟩
    rw [if_neg zc35] at W
    by_cases zc36 : zx2 = 2
    · rw [if_pos zc36] at W
      refine J_swC (pc' := 96) (i := 2) rfl (by omega) (by decide) rfl rfl ?_
      refine J_iload_n (pc' := 97) rfl rfl rfl ?_
      refine J_iload (pc' := 99) rfl rfl rfl ?_
      refine J_ior (pc' := 100) rfl rfl ?_
      refine J_weak (L' := [none, none, none, none, none]) trivial ?_
      refine J_callI (as := [ji (bOr zr11 zr14)]) (rest := []) (pc' := 103) rfl rfl ax_Z_111 rfl rfl (Or.inl rfl) (Nat.le_of_ble_eq_true rfl) (Nat.le_of_ble_eq_true rfl) (Nat.le_of_ble_eq_true rfl) zg2 trivial trivial rfl W (fun zr24 zs23 W => ?_)
      exact J_iret rfl rfl ⟨_, rfl, W⟩
    rw [if_neg zc36] at W
    by_cases zc37 : zx2 = 3
    · rw [if_pos zc37] at W
      refine J_swC (pc' := 104) (i := 3) rfl (by omega) (by decide) rfl rfl ?_
      refine J_aload_no (pc' := 105) rfl rfl zg1 rfl ?_
      refine J_getO (G := 12005) (pc' := 108) rfl rfl (Nat.le_of_ble_eq_true rfl) rfl zg1 rfl ?_
      refine J_iload_n (pc' := 109) rfl rfl rfl ?_
      refine J_iconst (pc' := 110) rfl (i32_d rfl) rfl ?_
      obtain ⟨zg25, W⟩ := W
      refine J_weak (L' := [none, none, none, none, none]) trivial ?_
      refine J_callO (as := [jo 10 (rs zs13 12005 zo0), ji zx1, ji 0]) (rest := []) (pc' := 113) rfl rfl ax_Z_230 rfl rfl (Or.inr (Or.inr ⟨_, _, rfl, zg25⟩)) (Nat.le_of_ble_eq_true rfl) (Nat.le_of_ble_eq_true rfl) (Nat.le_of_ble_eq_true rfl) zg2 trivial trivial rfl W (fun zr27 zs26 zh28 W => ?_)
      refine J_getI (G := 1) (pc' := 116) rfl rfl (Nat.le_of_ble_eq_true rfl) rfl zh28 rfl ?_
      exact J_iret rfl rfl ⟨_, rfl, W⟩
    rw [if_neg zc37] at W
    by_cases zc38 : zx2 = 4
    · rw [if_pos zc38] at W
      refine J_swC (pc' := 117) (i := 4) rfl (by omega) (by decide) rfl rfl ?_
      refine J_aload_no (pc' := 118) rfl rfl zg1 rfl ?_
      refine J_getO (G := 12005) (pc' := 121) rfl rfl (Nat.le_of_ble_eq_true rfl) rfl zg1 rfl ?_
      refine J_iload_n (pc' := 122) rfl rfl rfl ?_
      obtain ⟨zg29, W⟩ := W
      refine J_weak (L' := [none, none, none, none, none]) trivial ?_
      refine J_callI (as := [jo 10 (rs zs13 12005 zo0), ji zx1]) (rest := []) (pc' := 125) rfl rfl ax_Z_233 rfl rfl (Or.inr (Or.inr ⟨_, _, rfl, zg29⟩)) (Nat.le_of_ble_eq_true rfl) (Nat.le_of_ble_eq_true rfl) (Nat.le_of_ble_eq_true rfl) zg2 trivial trivial rfl W (fun zr31 zs30 W => ?_)
      exact J_iret rfl rfl ⟨_, rfl, W⟩
    rw [if_neg zc38] at W
    by_cases zc39 : zx2 = 5
    · rw [if_pos zc39] at W
      refine J_swC (pc' := 126) (i := 5) rfl (by omega) (by decide) rfl rfl ?_
      refine J_iload (pc' := 128) rfl rfl rfl ?_
      refine J_iload_n (pc' := 129) rfl rfl rfl ?_
      refine J_iconst (pc' := 130) rfl (i32_d rfl) rfl ?_
      refine J_ixor (pc' := 131) rfl rfl ?_
      refine J_iand (pc' := 132) rfl rfl ?_
      refine J_weak (L' := [none, none, none, none, none]) trivial ?_
      refine J_callI (as := [ji (bAnd zr14 (bXor zr11 (-1)))]) (rest := []) (pc' := 135) rfl rfl ax_Z_111 rfl rfl (Or.inl rfl) (Nat.le_of_ble_eq_true rfl) (Nat.le_of_ble_eq_true rfl) (Nat.le_of_ble_eq_true rfl) zg2 trivial trivial rfl W (fun zr33 zs32 W => ?_)
      exact J_iret rfl rfl ⟨_, rfl, W⟩
    rw [if_neg zc39] at W
    refine J_swD (pc' := 136) rfl (by omega) rfl ?_
    refine J_iconst (pc' := 137) rfl (i32_d rfl) rfl ?_
    exact J_iret rfl rfl ⟨_, rfl, W⟩
  · refine J_iconst (pc' := 12) rfl (i32_d rfl) rfl ?_
    exact J_iret rfl rfl ⟨_, rfl, W⟩
theorem wp_Top_out {n : Nat} {σ : jS} {Q : Int → jS → Prop} {zo0 : Int} {zx1 : Int} {zx2 : Int} (W : 0 ≤ zo0 ∧ 1 ≤ n ∧ 0 ≤ rs σ 12005 zo0 ∧ TrI (n - 1) i_Text_hasGiven [jo 10 (rs σ 12005 zo0), ji zx1] σ (fun zr5 zs4 => (if zr5 = 0 then Q 0 zs4 else TrI (n - 1) i_Top_isIn [ji (rs zs4 12009 zo0), ji zx1] zs4 (fun zr7 zs6 => (if ¬ zr7 = zx2 then (∀ zs8, zs8 = ws zs6 12009 zo0 (bXor (rs zs6 12009 zo0) (bShl 1 zx1)) → 0 ≤ rs zs8 12007 zo0 ∧ 0 ≤ rs zs8 7001 (rs zs8 12007 zo0) ∧ TrV (n - 1) i_Memory_forget [jo 5 (rs zs8 7001 (rs zs8 12007 zo0))] zs8 (fun zs11 => Q 1 zs11)) else Q 0 zs6))))) : TrI n i_Top_out [jo 12 zo0, ji zx1, ji zx2] σ Q := by
  refine Tr_of ax_Z_259 ?_
  show J n c_Top_out (some .boolean) 0 [some (jo 12 zo0), some (ji zx1), some (ji zx2)] [] σ (qI Q)
  obtain ⟨zg1, W⟩ := W
  refine J_aload_no (pc' := 1) rfl rfl zg1 rfl ?_
  refine J_getO (G := 12005) (pc' := 4) rfl rfl (Nat.le_of_ble_eq_true rfl) rfl zg1 rfl ?_
  refine J_iload_n (pc' := 5) rfl rfl rfl ?_
  obtain ⟨zg2, W⟩ := W
  obtain ⟨zg3, W⟩ := W
  refine J_callI (as := [jo 10 (rs σ 12005 zo0), ji zx1]) (rest := []) (pc' := 8) rfl rfl ax_Z_225 rfl rfl (Or.inr (Or.inr ⟨_, _, rfl, zg3⟩)) (Nat.le_of_ble_eq_true rfl) (Nat.le_of_ble_eq_true rfl) (Nat.le_of_ble_eq_true rfl) zg2 trivial trivial rfl W (fun zr5 zs4 W => ?_)
  refine J_if (P := zr5 = 0) (t := 23) (f := 11) rfl rfl rfl jc_eq W (fun W => ?_) (fun W => ?_)
  · refine J_iconst (pc' := 24) rfl (i32_d rfl) rfl ?_
    exact J_zret rfl rfl (Or.inl rfl) ⟨_, rfl, W⟩
  · refine J_aload_no (pc' := 12) rfl rfl zg1 rfl ?_
    refine J_getI (G := 12009) (pc' := 15) rfl rfl (Nat.le_of_ble_eq_true rfl) rfl zg1 rfl ?_
    refine J_iload_n (pc' := 16) rfl rfl rfl ?_
    refine J_callI (as := [ji (rs zs4 12009 zo0), ji zx1]) (rest := []) (pc' := 19) rfl rfl ax_Z_279 rfl rfl (Or.inl rfl) (Nat.le_of_ble_eq_true rfl) (Nat.le_of_ble_eq_true rfl) (Nat.le_of_ble_eq_true rfl) zg2 trivial trivial rfl W (fun zr7 zs6 W => ?_)
    refine J_iload_n (pc' := 20) rfl rfl rfl ?_
    refine J_icmp (P := ¬ zr7 = zx2) (t := 25) (f := 23) rfl rfl rfl jc_ne W (fun W => ?_) (fun W => ?_)
    · refine J_aload_no (pc' := 26) rfl rfl zg1 rfl ?_
      refine J_dup (pc' := 27) rfl rfl rfl ?_
      refine J_getI (G := 12009) (pc' := 30) rfl rfl (Nat.le_of_ble_eq_true rfl) rfl zg1 rfl ?_
      refine J_iconst (pc' := 31) rfl (i32_d rfl) rfl ?_
      refine J_iload_n (pc' := 32) rfl rfl rfl ?_
      refine J_ishl (pc' := 33) rfl rfl ?_
      refine J_ixor (pc' := 34) rfl rfl ?_
      refine J_putI (G := 12009) (pc' := 37) rfl rfl (Nat.le_of_ble_eq_true rfl) rfl rfl zg1 rfl (fun zs8 ezs8 => ?_)
      replace W := W zs8 ezs8
      refine J_aload_no (pc' := 38) rfl rfl zg1 rfl ?_
      refine J_getO (G := 12007) (pc' := 41) rfl rfl (Nat.le_of_ble_eq_true rfl) rfl zg1 rfl ?_
      obtain ⟨zg9, W⟩ := W
      refine J_getO (G := 7001) (pc' := 44) rfl rfl (Nat.le_of_ble_eq_true rfl) rfl zg9 rfl ?_
      obtain ⟨zg10, W⟩ := W
      refine J_weak (L' := [none, none, none]) trivial ?_
      refine J_callV (as := [jo 5 (rs zs8 7001 (rs zs8 12007 zo0))]) (rest := []) (pc' := 47) rfl rfl ax_Z_144 rfl rfl (Or.inr (Or.inr ⟨_, _, rfl, zg10⟩)) (Nat.le_of_ble_eq_true rfl) (Nat.le_of_ble_eq_true rfl) (Nat.le_of_ble_eq_true rfl) zg2 trivial trivial rfl W (fun zs11 W => ?_)
      refine J_iconst (pc' := 48) rfl (i32_d rfl) rfl ?_
      exact J_zret rfl rfl (Or.inr rfl) ⟨_, rfl, W⟩
    · refine J_iconst (pc' := 24) rfl (i32_d rfl) rfl ?_
      exact J_zret rfl rfl (Or.inl rfl) ⟨_, rfl, W⟩
theorem wp_Top_shut {n : Nat} {σ : jS} {Q : Int → jS → Prop} {zo0 : Int} {zx1 : Int} {zx2 : Int} (W : 0 ≤ zo0 ∧ 1 ≤ n ∧ 0 ≤ rs σ 12005 zo0 ∧ TrI (n - 1) i_Text_hasScope [jo 10 (rs σ 12005 zo0), ji zx1] σ (fun zr5 zs4 => (if zr5 = 0 then Q 0 zs4 else TrI (n - 1) i_Top_isIn [ji (rs zs4 12010 zo0), ji zx1] zs4 (fun zr7 zs6 => (if ¬ zr7 = zx2 then (∀ zs8, zs8 = ws zs6 12010 zo0 (bXor (rs zs6 12010 zo0) (bShl 1 zx1)) → 0 ≤ rs zs8 12007 zo0 ∧ 0 ≤ rs zs8 7001 (rs zs8 12007 zo0) ∧ TrV (n - 1) i_Memory_forget [jo 5 (rs zs8 7001 (rs zs8 12007 zo0))] zs8 (fun zs11 => Q 1 zs11)) else Q 0 zs6))))) : TrI n i_Top_shut [jo 12 zo0, ji zx1, ji zx2] σ Q := by
  refine Tr_of ax_Z_260 ?_
  show J n c_Top_shut (some .boolean) 0 [some (jo 12 zo0), some (ji zx1), some (ji zx2)] [] σ (qI Q)
  obtain ⟨zg1, W⟩ := W
  refine J_aload_no (pc' := 1) rfl rfl zg1 rfl ?_
  refine J_getO (G := 12005) (pc' := 4) rfl rfl (Nat.le_of_ble_eq_true rfl) rfl zg1 rfl ?_
  refine J_iload_n (pc' := 5) rfl rfl rfl ?_
  obtain ⟨zg2, W⟩ := W
  obtain ⟨zg3, W⟩ := W
  refine J_callI (as := [jo 10 (rs σ 12005 zo0), ji zx1]) (rest := []) (pc' := 8) rfl rfl ax_Z_224 rfl rfl (Or.inr (Or.inr ⟨_, _, rfl, zg3⟩)) (Nat.le_of_ble_eq_true rfl) (Nat.le_of_ble_eq_true rfl) (Nat.le_of_ble_eq_true rfl) zg2 trivial trivial rfl W (fun zr5 zs4 W => ?_)
  refine J_if (P := zr5 = 0) (t := 23) (f := 11) rfl rfl rfl jc_eq W (fun W => ?_) (fun W => ?_)
  · refine J_iconst (pc' := 24) rfl (i32_d rfl) rfl ?_
    exact J_zret rfl rfl (Or.inl rfl) ⟨_, rfl, W⟩
  · refine J_aload_no (pc' := 12) rfl rfl zg1 rfl ?_
    refine J_getI (G := 12010) (pc' := 15) rfl rfl (Nat.le_of_ble_eq_true rfl) rfl zg1 rfl ?_
    refine J_iload_n (pc' := 16) rfl rfl rfl ?_
    refine J_callI (as := [ji (rs zs4 12010 zo0), ji zx1]) (rest := []) (pc' := 19) rfl rfl ax_Z_279 rfl rfl (Or.inl rfl) (Nat.le_of_ble_eq_true rfl) (Nat.le_of_ble_eq_true rfl) (Nat.le_of_ble_eq_true rfl) zg2 trivial trivial rfl W (fun zr7 zs6 W => ?_)
    refine J_iload_n (pc' := 20) rfl rfl rfl ?_
    refine J_icmp (P := ¬ zr7 = zx2) (t := 25) (f := 23) rfl rfl rfl jc_ne W (fun W => ?_) (fun W => ?_)
    · refine J_aload_no (pc' := 26) rfl rfl zg1 rfl ?_
      refine J_dup (pc' := 27) rfl rfl rfl ?_
      refine J_getI (G := 12010) (pc' := 30) rfl rfl (Nat.le_of_ble_eq_true rfl) rfl zg1 rfl ?_
      refine J_iconst (pc' := 31) rfl (i32_d rfl) rfl ?_
      refine J_iload_n (pc' := 32) rfl rfl rfl ?_
      refine J_ishl (pc' := 33) rfl rfl ?_
      refine J_ixor (pc' := 34) rfl rfl ?_
      refine J_putI (G := 12010) (pc' := 37) rfl rfl (Nat.le_of_ble_eq_true rfl) rfl rfl zg1 rfl (fun zs8 ezs8 => ?_)
      replace W := W zs8 ezs8
      refine J_aload_no (pc' := 38) rfl rfl zg1 rfl ?_
      refine J_getO (G := 12007) (pc' := 41) rfl rfl (Nat.le_of_ble_eq_true rfl) rfl zg1 rfl ?_
      obtain ⟨zg9, W⟩ := W
      refine J_getO (G := 7001) (pc' := 44) rfl rfl (Nat.le_of_ble_eq_true rfl) rfl zg9 rfl ?_
      obtain ⟨zg10, W⟩ := W
      refine J_weak (L' := [none, none, none]) trivial ?_
      refine J_callV (as := [jo 5 (rs zs8 7001 (rs zs8 12007 zo0))]) (rest := []) (pc' := 47) rfl rfl ax_Z_144 rfl rfl (Or.inr (Or.inr ⟨_, _, rfl, zg10⟩)) (Nat.le_of_ble_eq_true rfl) (Nat.le_of_ble_eq_true rfl) (Nat.le_of_ble_eq_true rfl) zg2 trivial trivial rfl W (fun zs11 W => ?_)
      refine J_iconst (pc' := 48) rfl (i32_d rfl) rfl ?_
      exact J_zret rfl rfl (Or.inr rfl) ⟨_, rfl, W⟩
    · refine J_iconst (pc' := 24) rfl (i32_d rfl) rfl ?_
      exact J_zret rfl rfl (Or.inl rfl) ⟨_, rfl, W⟩
theorem wp_Top_special {n : Nat} {σ : jS} {Q : Int → jS → Prop} {zo0 : Int} {zx1 : Int} {zx2 : Int} (W : 0 ≤ zo0 ∧ 1 ≤ n ∧ 0 ≤ rs σ 12005 zo0 ∧ TrI (n - 1) i_Text_hasGiven [jo 10 (rs σ 12005 zo0), ji zx1] σ (fun zr5 zs4 => (if zr5 = 0 then Q (-1) zs4 else 0 ≤ rs zs4 12005 zo0 ∧ TrI (n - 1) i_Text_hasGiven [jo 10 (rs zs4 12005 zo0), ji zx2] zs4 (fun zr8 zs7 => (if ¬ zr8 = 0 then 0 ≤ rs zs7 12005 zo0 ∧ TrI (n - 1) i_Text_isCase [jo 10 (rs zs7 12005 zo0), ji zx1, ji zx2] zs7 (fun zr11 zs10 => 0 ≤ rs zs10 12005 zo0 ∧ TrI (n - 1) i_Text_isCase [jo 10 (rs zs10 12005 zo0), ji zx2, ji zx1] zs10 (fun zr14 zs13 => (if zr11 = zr14 then (if zr11 = 0 then 0 ≤ rs zs13 12005 zo0 ∧ TrO (n - 1) i_Text_part 0 [jo 10 (rs zs13 12005 zo0), ji zx1, ji 0] zs13 (fun zr17 zs16 => 0 ≤ rs zs16 12005 zo0 ∧ TrO (n - 1) i_Text_part 0 [jo 10 (rs zs16 12005 zo0), ji zx2, ji 0] zs16 (fun zr21 zs20 => 0 ≤ rs zs13 12007 zo0 ∧ TrI (n - 1) i_Search_canMeet [jo 7 (rs zs13 12007 zo0), jo 0 zr17, jo 0 zr21] zs20 (fun zr25 zs24 => (if zr25 = 0 then Q 0 zs24 else Q 4 zs24)))) else Q 3 zs13) else (if zr11 = 0 then Q 2 zs13 else Q 1 zs13)))) else Q (-1) zs7))))) : TrI n i_Top_special [jo 12 zo0, ji zx1, ji zx2] σ Q := by
  refine Tr_of ax_Z_261 ?_
  show J n c_Top_special (some .int) 0 [some (jo 12 zo0), some (ji zx1), some (ji zx2), none, none] [] σ (qI Q)
  obtain ⟨zg1, W⟩ := W
  refine J_aload_no (pc' := 1) rfl rfl zg1 rfl ?_
  refine J_getO (G := 12005) (pc' := 4) rfl rfl (Nat.le_of_ble_eq_true rfl) rfl zg1 rfl ?_
  refine J_iload_n (pc' := 5) rfl rfl rfl ?_
  obtain ⟨zg2, W⟩ := W
  obtain ⟨zg3, W⟩ := W
  refine J_callI (as := [jo 10 (rs σ 12005 zo0), ji zx1]) (rest := []) (pc' := 8) rfl rfl ax_Z_225 rfl rfl (Or.inr (Or.inr ⟨_, _, rfl, zg3⟩)) (Nat.le_of_ble_eq_true rfl) (Nat.le_of_ble_eq_true rfl) (Nat.le_of_ble_eq_true rfl) zg2 trivial trivial rfl W (fun zr5 zs4 W => ?_)
  refine J_if (P := zr5 = 0) (t := 22) (f := 11) rfl rfl rfl jc_eq W (fun W => ?_) (fun W => ?_)
  · refine J_iconst (pc' := 23) rfl (i32_d rfl) rfl ?_
    exact J_iret rfl rfl ⟨_, rfl, W⟩
  · refine J_aload_no (pc' := 12) rfl rfl zg1 rfl ?_
    refine J_getO (G := 12005) (pc' := 15) rfl rfl (Nat.le_of_ble_eq_true rfl) rfl zg1 rfl ?_
    refine J_iload_n (pc' := 16) rfl rfl rfl ?_
    obtain ⟨zg6, W⟩ := W
    refine J_callI (as := [jo 10 (rs zs4 12005 zo0), ji zx2]) (rest := []) (pc' := 19) rfl rfl ax_Z_225 rfl rfl (Or.inr (Or.inr ⟨_, _, rfl, zg6⟩)) (Nat.le_of_ble_eq_true rfl) (Nat.le_of_ble_eq_true rfl) (Nat.le_of_ble_eq_true rfl) zg2 trivial trivial rfl W (fun zr8 zs7 W => ?_)
    refine J_if (P := ¬ zr8 = 0) (t := 24) (f := 22) rfl rfl rfl jc_ne W (fun W => ?_) (fun W => ?_)
    · refine J_aload_no (pc' := 25) rfl rfl zg1 rfl ?_
      refine J_getO (G := 12005) (pc' := 28) rfl rfl (Nat.le_of_ble_eq_true rfl) rfl zg1 rfl ?_
      refine J_iload_n (pc' := 29) rfl rfl rfl ?_
      refine J_iload_n (pc' := 30) rfl rfl rfl ?_
      obtain ⟨zg9, W⟩ := W
      refine J_callI (as := [jo 10 (rs zs7 12005 zo0), ji zx1, ji zx2]) (rest := []) (pc' := 33) rfl rfl ax_Z_237 rfl rfl (Or.inr (Or.inr ⟨_, _, rfl, zg9⟩)) (Nat.le_of_ble_eq_true rfl) (Nat.le_of_ble_eq_true rfl) (Nat.le_of_ble_eq_true rfl) zg2 trivial trivial rfl W (fun zr11 zs10 W => ?_)
      refine J_istore_n (L' := [some (jo 12 zo0), some (ji zx1), some (ji zx2), some (ji zr11), none]) (pc' := 34) rfl (Nat.le_of_ble_eq_true rfl) rfl rfl ?_
      refine J_aload_no (pc' := 35) rfl rfl zg1 rfl ?_
      refine J_getO (G := 12005) (pc' := 38) rfl rfl (Nat.le_of_ble_eq_true rfl) rfl zg1 rfl ?_
      refine J_iload_n (pc' := 39) rfl rfl rfl ?_
      refine J_iload_n (pc' := 40) rfl rfl rfl ?_
      obtain ⟨zg12, W⟩ := W
      refine J_callI (as := [jo 10 (rs zs10 12005 zo0), ji zx2, ji zx1]) (rest := []) (pc' := 43) rfl rfl ax_Z_237 rfl rfl (Or.inr (Or.inr ⟨_, _, rfl, zg12⟩)) (Nat.le_of_ble_eq_true rfl) (Nat.le_of_ble_eq_true rfl) (Nat.le_of_ble_eq_true rfl) zg2 trivial trivial rfl W (fun zr14 zs13 W => ?_)
      refine J_istore (L' := [some (jo 12 zo0), some (ji zx1), some (ji zx2), some (ji zr11), some (ji zr14)]) (pc' := 45) rfl (Nat.le_of_ble_eq_true rfl) rfl rfl ?_
      refine J_iload_n (pc' := 46) rfl rfl rfl ?_
      refine J_iload (pc' := 48) rfl rfl rfl ?_
      refine J_icmp (P := zr11 = zr14) (t := 61) (f := 51) rfl rfl rfl jc_eq W (fun W => ?_) (fun W => ?_)
      · refine J_iload_n (pc' := 62) rfl rfl rfl ?_
        refine J_if (P := zr11 = 0) (t := 67) (f := 65) rfl rfl rfl jc_eq W (fun W => ?_) (fun W => ?_)
        · refine J_aload_no (pc' := 68) rfl rfl zg1 rfl ?_
          refine J_getO (G := 12007) (pc' := 71) rfl rfl (Nat.le_of_ble_eq_true rfl) rfl zg1 rfl ?_
          refine J_aload_no (pc' := 72) rfl rfl zg1 rfl ?_
          refine J_getO (G := 12005) (pc' := 75) rfl rfl (Nat.le_of_ble_eq_true rfl) rfl zg1 rfl ?_
          refine J_iload_n (pc' := 76) rfl rfl rfl ?_
          refine J_iconst (pc' := 77) rfl (i32_d rfl) rfl ?_
          obtain ⟨zg15, W⟩ := W
          refine J_weak (L' := [some (jo 12 zo0), none, some (ji zx2), none, none]) (And.intro rfl (And.intro rfl trivial)) ?_
          refine J_callO (as := [jo 10 (rs zs13 12005 zo0), ji zx1, ji 0]) (rest := [jo 7 (rs zs13 12007 zo0)]) (pc' := 80) rfl rfl ax_Z_230 rfl rfl (Or.inr (Or.inr ⟨_, _, rfl, zg15⟩)) (Nat.le_of_ble_eq_true rfl) (Nat.le_of_ble_eq_true rfl) (Nat.le_of_ble_eq_true rfl) zg2 trivial trivial rfl W (fun zr17 zs16 zh18 W => ?_)
          refine J_aload_no (pc' := 81) rfl rfl zg1 rfl ?_
          refine J_getO (G := 12005) (pc' := 84) rfl rfl (Nat.le_of_ble_eq_true rfl) rfl zg1 rfl ?_
          refine J_iload_n (pc' := 85) rfl rfl rfl ?_
          refine J_iconst (pc' := 86) rfl (i32_d rfl) rfl ?_
          obtain ⟨zg19, W⟩ := W
          refine J_weak (L' := [none, none, none, none, none]) trivial ?_
          refine J_callO (as := [jo 10 (rs zs16 12005 zo0), ji zx2, ji 0]) (rest := [jo 0 zr17, jo 7 (rs zs13 12007 zo0)]) (pc' := 89) rfl rfl ax_Z_230 rfl rfl (Or.inr (Or.inr ⟨_, _, rfl, zg19⟩)) (Nat.le_of_ble_eq_true rfl) (Nat.le_of_ble_eq_true rfl) (Nat.le_of_ble_eq_true rfl) zg2 trivial trivial rfl W (fun zr21 zs20 zh22 W => ?_)
          obtain ⟨zg23, W⟩ := W
          refine J_callI (as := [jo 7 (rs zs13 12007 zo0), jo 0 zr17, jo 0 zr21]) (rest := []) (pc' := 92) rfl rfl ax_Z_177 rfl rfl (Or.inr (Or.inr ⟨_, _, rfl, zg23⟩)) (Nat.le_of_ble_eq_true rfl) (Nat.le_of_ble_eq_true rfl) (Nat.le_of_ble_eq_true rfl) zg2 trivial trivial rfl W (fun zr25 zs24 W => ?_)
          refine J_if (P := zr25 = 0) (t := 99) (f := 95) rfl rfl rfl jc_eq W (fun W => ?_) (fun W => ?_)
          · refine J_iconst (pc' := 100) rfl (i32_d rfl) rfl ?_
            exact J_iret rfl rfl ⟨_, rfl, W⟩
          · refine J_iconst (pc' := 96) rfl (i32_d rfl) rfl ?_
            refine J_goto (pc' := 100) rfl rfl ?_
            exact J_iret rfl rfl ⟨_, rfl, W⟩
        · refine J_iconst (pc' := 66) rfl (i32_d rfl) rfl ?_
          exact J_iret rfl rfl ⟨_, rfl, W⟩
      · refine J_iload_n (pc' := 52) rfl rfl rfl ?_
        refine J_if (P := zr11 = 0) (t := 59) (f := 55) rfl rfl rfl jc_eq W (fun W => ?_) (fun W => ?_)
        · refine J_iconst (pc' := 60) rfl (i32_d rfl) rfl ?_
          exact J_iret rfl rfl ⟨_, rfl, W⟩
        · refine J_iconst (pc' := 56) rfl (i32_d rfl) rfl ?_
          refine J_goto (pc' := 60) rfl rfl ?_
          exact J_iret rfl rfl ⟨_, rfl, W⟩
    · refine J_iconst (pc' := 23) rfl (i32_d rfl) rfl ?_
      exact J_iret rfl rfl ⟨_, rfl, W⟩
theorem wp_Top_clashes {n : Nat} {σ : jS} {Q : Int → jS → Prop} {zo0 : Int} (W : J n c_Top_clashes (some .int) 4 [some (jo 12 zo0), some (ji 0), some (ji 0), none, none] [] σ (qI Q)) : TrI n i_Top_clashes [jo 12 zo0] σ Q := by
  refine Tr_of ax_Z_262 ?_
  show J n c_Top_clashes (some .int) 0 [some (jo 12 zo0), none, none, none, none] [] σ (qI Q)
  refine J_iconst (pc' := 1) rfl (i32_d rfl) rfl ?_
  refine J_istore_n (L' := [some (jo 12 zo0), some (ji 0), none, none, none]) (pc' := 2) rfl (Nat.le_of_ble_eq_true rfl) rfl rfl ?_
  refine J_iconst (pc' := 3) rfl (i32_d rfl) rfl ?_
  refine J_istore_n (L' := [some (jo 12 zo0), some (ji 0), some (ji 0), none, none]) (pc' := 4) rfl (Nat.le_of_ble_eq_true rfl) rfl rfl ?_
  exact W
theorem wp_Top_clashes_4 {n : Nat} {σ : jS} {Q : Int → jS → Prop} {zo0 : Int} {zx1 : Int} {zx2 : Int} (W : 0 ≤ zo0 ∧ 0 ≤ rs σ 12005 zo0 ∧ (if rs σ 10001 (rs σ 12005 zo0) ≤ zx2 then Q zx1 σ else i32 (zx2 + 1) ∧ J n c_Top_clashes (some .int) 19 [some (jo 12 zo0), some (ji zx1), some (ji zx2), some (ji (zx2 + 1)), none] [] σ (qI Q))) : J n c_Top_clashes (some .int) 4 [some (jo 12 zo0), some (ji zx1), some (ji zx2), none, none] [] σ (qI Q) := by
  refine J_iload_n (pc' := 5) rfl rfl rfl ?_
  obtain ⟨zg1, W⟩ := W
  refine J_aload_no (pc' := 6) rfl rfl zg1 rfl ?_
  refine J_getO (G := 12005) (pc' := 9) rfl rfl (Nat.le_of_ble_eq_true rfl) rfl zg1 rfl ?_
  obtain ⟨zg2, W⟩ := W
  refine J_getI (G := 10001) (pc' := 12) rfl rfl (Nat.le_of_ble_eq_true rfl) rfl zg2 rfl ?_
  refine J_icmp (P := rs σ 10001 (rs σ 12005 zo0) ≤ zx2) (t := 110) (f := 15) rfl rfl rfl jc_ge W (fun W => ?_) (fun W => ?_)
  · refine J_iload_n (pc' := 111) rfl rfl rfl ?_
    exact J_iret rfl rfl ⟨_, rfl, W⟩
  · refine J_iload_n (pc' := 16) rfl rfl rfl ?_
    refine J_iconst (pc' := 17) rfl (i32_d rfl) rfl ?_
    obtain ⟨zg3, W⟩ := W
    refine J_iadd (pc' := 18) rfl zg3 rfl ?_
    refine J_istore_n (L' := [some (jo 12 zo0), some (ji zx1), some (ji zx2), some (ji (zx2 + 1)), none]) (pc' := 19) rfl (Nat.le_of_ble_eq_true rfl) rfl rfl ?_
    exact W
theorem wp_Top_clashes_19 {n : Nat} {σ : jS} {Q : Int → jS → Prop} {zo0 : Int} {zx1 : Int} {zx2 : Int} {zx3 : Int} (W : 0 ≤ zo0 ∧ 0 ≤ rs σ 12005 zo0 ∧ (if rs σ 10001 (rs σ 12005 zo0) ≤ zx3 then i32 (zx2 + 1) ∧ J n c_Top_clashes (some .int) 4 [some (jo 12 zo0), some (ji zx1), some (ji (zx2 + 1)), none, none] [] σ (qI Q) else 0 ≤ rl σ 10005 (rs σ 12005 zo0) ∧ 0 ≤ zx2 ∧ zx2 < rl σ 10005 (rs σ 12005 zo0) ∧ 0 ≤ zx3 ∧ zx3 < rl σ 10005 (rs σ 12005 zo0) ∧ (if ¬ ra σ 10005 (rs σ 12005 zo0) zx2 = ra σ 10005 (rs σ 12005 zo0) zx3 then J n c_Top_clashes (some .int) 77 [some (jo 12 zo0), some (ji zx1), some (ji zx2), some (ji zx3), none] [] σ (qI Q) else 1 ≤ n ∧ TrI (n - 1) i_Top_isIn [ji (rs σ 12009 zo0), ji zx2] σ (fun zr11 zs10 => (if ¬ zr11 = 0 then J n c_Top_clashes (some .int) 77 [some (jo 12 zo0), some (ji zx1), some (ji zx2), some (ji zx3), none] [] zs10 (qI Q) else TrI (n - 1) i_Top_isIn [ji (rs zs10 12009 zo0), ji zx3] zs10 (fun zr13 zs12 => (if ¬ zr13 = 0 then J n c_Top_clashes (some .int) 77 [some (jo 12 zo0), some (ji zx1), some (ji zx2), some (ji zx3), none] [] zs12 (qI Q) else TrI (n - 1) i_Top_special [jo 12 zo0, ji zx2, ji zx3] zs12 (fun zr15 zs14 => (if zr15 < 3 then i32 (zx3 + 1) ∧ J n c_Top_clashes (some .int) 19 [some (jo 12 zo0), some (ji zx1), some (ji zx2), some (ji (zx3 + 1)), none] [] zs14 (qI Q) else i32 (zx1 + 1) ∧ i32 (zx3 + 1) ∧ J n c_Top_clashes (some .int) 19 [some (jo 12 zo0), some (ji (zx1 + 1)), some (ji zx2), some (ji (zx3 + 1)), none] [] zs14 (qI Q)))))))))) : J n c_Top_clashes (some .int) 19 [some (jo 12 zo0), some (ji zx1), some (ji zx2), some (ji zx3), none] [] σ (qI Q) := by
  refine J_iload_n (pc' := 20) rfl rfl rfl ?_
  obtain ⟨zg1, W⟩ := W
  refine J_aload_no (pc' := 21) rfl rfl zg1 rfl ?_
  refine J_getO (G := 12005) (pc' := 24) rfl rfl (Nat.le_of_ble_eq_true rfl) rfl zg1 rfl ?_
  obtain ⟨zg2, W⟩ := W
  refine J_getI (G := 10001) (pc' := 27) rfl rfl (Nat.le_of_ble_eq_true rfl) rfl zg2 rfl ?_
  refine J_icmp (P := rs σ 10001 (rs σ 12005 zo0) ≤ zx3) (t := 104) (f := 30) rfl rfl rfl jc_ge W (fun W => ?_) (fun W => ?_)
  · obtain ⟨zg3, W⟩ := W
    refine J_iinc (L' := [some (jo 12 zo0), some (ji zx1), some (ji (zx2 + 1)), some (ji zx3), none]) (pc' := 107) rfl rfl zg3 rfl rfl ?_
    refine J_goto (pc' := 4) rfl rfl ?_
    refine J_weak (L' := [some (jo 12 zo0), some (ji zx1), some (ji (zx2 + 1)), none, none]) (And.intro rfl (And.intro rfl (And.intro rfl trivial))) ?_
    exact W
  · refine J_aload_no (pc' := 31) rfl rfl zg1 rfl ?_
    refine J_getO (G := 12005) (pc' := 34) rfl rfl (Nat.le_of_ble_eq_true rfl) rfl zg1 rfl ?_
    obtain ⟨zg4, W⟩ := W
    refine J_getA (G := 10005) (pc' := 37) rfl rfl (Nat.le_of_ble_eq_true rfl) rfl zg2 zg4 rfl ?_
    refine J_iload_n (pc' := 38) rfl rfl rfl ?_
    obtain ⟨zg5, W⟩ := W
    obtain ⟨zg6, W⟩ := W
    refine J_iald (pc' := 39) rfl rfl zg5 zg6 rfl ?_
    refine J_aload_no (pc' := 40) rfl rfl zg1 rfl ?_
    refine J_getO (G := 12005) (pc' := 43) rfl rfl (Nat.le_of_ble_eq_true rfl) rfl zg1 rfl ?_
    refine J_getA (G := 10005) (pc' := 46) rfl rfl (Nat.le_of_ble_eq_true rfl) rfl zg2 zg4 rfl ?_
    refine J_iload_n (pc' := 47) rfl rfl rfl ?_
    obtain ⟨zg7, W⟩ := W
    obtain ⟨zg8, W⟩ := W
    refine J_iald (pc' := 48) rfl rfl zg7 zg8 rfl ?_
    refine J_icmp (P := ¬ ra σ 10005 (rs σ 12005 zo0) zx2 = ra σ 10005 (rs σ 12005 zo0) zx3) (t := 77) (f := 51) rfl rfl rfl jc_ne W (fun W => ?_) (fun W => ?_)
    · exact W
    · refine J_aload_no (pc' := 52) rfl rfl zg1 rfl ?_
      refine J_getI (G := 12009) (pc' := 55) rfl rfl (Nat.le_of_ble_eq_true rfl) rfl zg1 rfl ?_
      refine J_iload_n (pc' := 56) rfl rfl rfl ?_
      obtain ⟨zg9, W⟩ := W
      refine J_callI (as := [ji (rs σ 12009 zo0), ji zx2]) (rest := []) (pc' := 59) rfl rfl ax_Z_279 rfl rfl (Or.inl rfl) (Nat.le_of_ble_eq_true rfl) (Nat.le_of_ble_eq_true rfl) (Nat.le_of_ble_eq_true rfl) zg9 trivial trivial rfl W (fun zr11 zs10 W => ?_)
      refine J_if (P := ¬ zr11 = 0) (t := 77) (f := 62) rfl rfl rfl jc_ne W (fun W => ?_) (fun W => ?_)
      · exact W
      · refine J_aload_no (pc' := 63) rfl rfl zg1 rfl ?_
        refine J_getI (G := 12009) (pc' := 66) rfl rfl (Nat.le_of_ble_eq_true rfl) rfl zg1 rfl ?_
        refine J_iload_n (pc' := 67) rfl rfl rfl ?_
        refine J_callI (as := [ji (rs zs10 12009 zo0), ji zx3]) (rest := []) (pc' := 70) rfl rfl ax_Z_279 rfl rfl (Or.inl rfl) (Nat.le_of_ble_eq_true rfl) (Nat.le_of_ble_eq_true rfl) (Nat.le_of_ble_eq_true rfl) zg9 trivial trivial rfl W (fun zr13 zs12 W => ?_)
        refine J_if (P := ¬ zr13 = 0) (t := 77) (f := 73) rfl rfl rfl jc_ne W (fun W => ?_) (fun W => ?_)
        · exact W
        · refine J_iconst (pc' := 74) rfl (i32_d rfl) rfl ?_
          refine J_goto (pc' := 78) rfl rfl ?_
          refine J_istore (L' := [some (jo 12 zo0), some (ji zx1), some (ji zx2), some (ji zx3), some (ji 1)]) (pc' := 80) rfl (Nat.le_of_ble_eq_true rfl) rfl rfl ?_
          refine J_iload (pc' := 82) rfl rfl rfl ?_
          refine J_if_f (pc' := 85) rfl rfl rfl ?_
          refine J_aload_no (pc' := 86) rfl rfl zg1 rfl ?_
          refine J_iload_n (pc' := 87) rfl rfl rfl ?_
          refine J_iload_n (pc' := 88) rfl rfl rfl ?_
          refine J_weak (L' := [some (jo 12 zo0), some (ji zx1), some (ji zx2), some (ji zx3), none]) (And.intro rfl (And.intro rfl (And.intro rfl (And.intro rfl trivial)))) ?_
          refine J_callI (as := [jo 12 zo0, ji zx2, ji zx3]) (rest := []) (pc' := 91) rfl rfl ax_Z_261 rfl rfl (Or.inr (Or.inr ⟨_, _, rfl, zg1⟩)) (Nat.le_of_ble_eq_true rfl) (Nat.le_of_ble_eq_true rfl) (Nat.le_of_ble_eq_true rfl) zg9 trivial trivial rfl W (fun zr15 zs14 W => ?_)
          refine J_iconst (pc' := 92) rfl (i32_d rfl) rfl ?_
          refine J_icmp (P := zr15 < 3) (t := 98) (f := 95) rfl rfl rfl jc_lt W (fun W => ?_) (fun W => ?_)
          · obtain ⟨zg16, W⟩ := W
            refine J_iinc (L' := [some (jo 12 zo0), some (ji zx1), some (ji zx2), some (ji (zx3 + 1)), none]) (pc' := 101) rfl rfl zg16 rfl rfl ?_
            refine J_goto (pc' := 19) rfl rfl ?_
            exact W
          · obtain ⟨zg17, W⟩ := W
            refine J_iinc (L' := [some (jo 12 zo0), some (ji (zx1 + 1)), some (ji zx2), some (ji zx3), none]) (pc' := 98) rfl rfl zg17 rfl rfl ?_
            obtain ⟨zg18, W⟩ := W
            refine J_iinc (L' := [some (jo 12 zo0), some (ji (zx1 + 1)), some (ji zx2), some (ji (zx3 + 1)), none]) (pc' := 101) rfl rfl zg18 rfl rfl ?_
            refine J_goto (pc' := 19) rfl rfl ?_
            exact W
theorem wp_Top_clashes_77 {n : Nat} {σ : jS} {Q : Int → jS → Prop} {zo0 : Int} {zx1 : Int} {zx2 : Int} {zx3 : Int} (W : i32 (zx3 + 1) ∧ J n c_Top_clashes (some .int) 19 [some (jo 12 zo0), some (ji zx1), some (ji zx2), some (ji (zx3 + 1)), none] [] σ (qI Q)) : J n c_Top_clashes (some .int) 77 [some (jo 12 zo0), some (ji zx1), some (ji zx2), some (ji zx3), none] [] σ (qI Q) := by
  refine J_iconst (pc' := 78) rfl (i32_d rfl) rfl ?_
  refine J_istore (L' := [some (jo 12 zo0), some (ji zx1), some (ji zx2), some (ji zx3), some (ji 0)]) (pc' := 80) rfl (Nat.le_of_ble_eq_true rfl) rfl rfl ?_
  refine J_iload (pc' := 82) rfl rfl rfl ?_
  refine J_if_t (pc' := 98) rfl rfl rfl ?_
  obtain ⟨zg1, W⟩ := W
  refine J_iinc (L' := [some (jo 12 zo0), some (ji zx1), some (ji zx2), some (ji (zx3 + 1)), some (ji 0)]) (pc' := 101) rfl rfl zg1 rfl rfl ?_
  refine J_goto (pc' := 19) rfl rfl ?_
  refine J_weak (L' := [some (jo 12 zo0), some (ji zx1), some (ji zx2), some (ji (zx3 + 1)), none]) (And.intro rfl (And.intro rfl (And.intro rfl (And.intro rfl trivial)))) ?_
  exact W
theorem wp_Top_type {n : Nat} {σ : jS} {Q : Int → jS → Prop} {zo0 : Int} {zx1 : Int} (W : 0 ≤ zo0 ∧ 1 ≤ n ∧ TrI (n - 1) i_Top_hasType [jo 12 zo0, ji zx1] σ (fun zr4 zs3 => (if zr4 = 0 then J n c_Top_type (some .int) 28 [some (jo 12 zo0), some (ji zx1), some (ji zr4), none] [] zs3 (qI Q) else 0 ≤ rs zs3 12000 zo0 ∧ TrI (n - 1) i_Tape_readWhole [jo 8 (rs zs3 12000 zo0), jo 0 (rs zs3 12002 zo0)] zs3 (fun zr7 zs6 => (if zr7 = 0 then J n c_Top_type (some .int) 28 [some (jo 12 zo0), some (ji zx1), some (ji zr4), none] [] zs6 (qI Q) else (if zr4 = 0 then (∀ zs8, zs8 = ws zs6 12008 zo0 (-1) → 0 ≤ rs zs8 12000 zo0 ∧ (∀ zs10, zs10 = ws zs8 8000 (rs zs8 12000 zo0) 0 → 0 ≤ rl zs10 12001 zo0 ∧ 0 ≤ zx1 ∧ zx1 < rl zs10 12001 zo0 ∧ 0 ≤ ra zs10 12001 zo0 zx1 ∧ TrV (n - 1) i_Flat_take [jo 0 (ra zs10 12001 zo0 zx1), jo 0 (rs zs10 12002 zo0)] zs10 (fun zs15 => 0 ≤ rs zs15 12002 zo0 ∧ Q (rs zs15 1 (rs zs15 12002 zo0)) zs15))) else (∀ zs18, zs18 = ws zs6 12008 zo0 (-1) → 0 ≤ rs zs18 12000 zo0 ∧ (∀ zs20, zs20 = ws zs18 8000 (rs zs18 12000 zo0) 0 → 0 ≤ rl zs20 12001 zo0 ∧ 0 ≤ zx1 ∧ zx1 < rl zs20 12001 zo0 ∧ 0 ≤ ra zs20 12001 zo0 zx1 ∧ TrV (n - 1) i_Flat_take [jo 0 (ra zs20 12001 zo0 zx1), jo 0 (rs zs20 12002 zo0)] zs20 (fun zs25 => 0 ≤ rs zs25 12002 zo0 ∧ Q (rs zs25 1 (rs zs25 12002 zo0)) zs25))))))))) : TrI n i_Top_type [jo 12 zo0, ji zx1] σ Q := by
  refine Tr_of ax_Z_263 ?_
  show J n c_Top_type (some .int) 0 [some (jo 12 zo0), some (ji zx1), none, none] [] σ (qI Q)
  obtain ⟨zg1, W⟩ := W
  refine J_aload_no (pc' := 1) rfl rfl zg1 rfl ?_
  refine J_iload_n (pc' := 2) rfl rfl rfl ?_
  obtain ⟨zg2, W⟩ := W
  refine J_callI (as := [jo 12 zo0, ji zx1]) (rest := []) (pc' := 5) rfl rfl ax_Z_280 rfl rfl (Or.inr (Or.inr ⟨_, _, rfl, zg1⟩)) (Nat.le_of_ble_eq_true rfl) (Nat.le_of_ble_eq_true rfl) (Nat.le_of_ble_eq_true rfl) zg2 trivial trivial rfl W (fun zr4 zs3 W => ?_)
  refine J_istore_n (L' := [some (jo 12 zo0), some (ji zx1), some (ji zr4), none]) (pc' := 6) rfl (Nat.le_of_ble_eq_true rfl) rfl rfl ?_
  refine J_iload_n (pc' := 7) rfl rfl rfl ?_
  refine J_if (P := zr4 = 0) (t := 28) (f := 10) rfl rfl rfl jc_eq W (fun W => ?_) (fun W => ?_)
  · exact W
  · refine J_aload_no (pc' := 11) rfl rfl zg1 rfl ?_
    refine J_getO (G := 12000) (pc' := 14) rfl rfl (Nat.le_of_ble_eq_true rfl) rfl zg1 rfl ?_
    refine J_aload_no (pc' := 15) rfl rfl zg1 rfl ?_
    refine J_getO (G := 12002) (pc' := 18) rfl rfl (Nat.le_of_ble_eq_true rfl) rfl zg1 rfl ?_
    obtain ⟨zg5, W⟩ := W
    refine J_callI (as := [jo 8 (rs zs3 12000 zo0), jo 0 (rs zs3 12002 zo0)]) (rest := []) (pc' := 21) rfl rfl ax_Z_189 rfl rfl (Or.inr (Or.inr ⟨_, _, rfl, zg5⟩)) (Nat.le_of_ble_eq_true rfl) (Nat.le_of_ble_eq_true rfl) (Nat.le_of_ble_eq_true rfl) zg2 trivial trivial rfl W (fun zr7 zs6 W => ?_)
    refine J_if (P := zr7 = 0) (t := 28) (f := 24) rfl rfl rfl jc_eq W (fun W => ?_) (fun W => ?_)
    · exact W
    · refine J_iconst (pc' := 25) rfl (i32_d rfl) rfl ?_
      refine J_goto (pc' := 29) rfl rfl ?_
      refine J_istore_n (L' := [some (jo 12 zo0), some (ji zx1), some (ji zr4), some (ji 1)]) (pc' := 30) rfl (Nat.le_of_ble_eq_true rfl) rfl rfl ?_
      refine J_aload_no (pc' := 31) rfl rfl zg1 rfl ?_
      refine J_iload_n (pc' := 32) rfl rfl rfl ?_
      refine J_if (P := zr4 = 0) (t := 49) (f := 35) rfl rfl rfl jc_eq W (fun W => ?_) (fun W => ?_)
      · refine J_iconst (pc' := 50) rfl (i32_d rfl) rfl ?_
        refine J_putI (G := 12008) (pc' := 53) rfl rfl (Nat.le_of_ble_eq_true rfl) rfl rfl zg1 rfl (fun zs8 ezs8 => ?_)
        replace W := W zs8 ezs8
        refine J_aload_no (pc' := 54) rfl rfl zg1 rfl ?_
        refine J_getO (G := 12000) (pc' := 57) rfl rfl (Nat.le_of_ble_eq_true rfl) rfl zg1 rfl ?_
        refine J_iconst (pc' := 58) rfl (i32_d rfl) rfl ?_
        obtain ⟨zg9, W⟩ := W
        refine J_putI (G := 8000) (pc' := 61) rfl rfl (Nat.le_of_ble_eq_true rfl) rfl rfl zg9 rfl (fun zs10 ezs10 => ?_)
        replace W := W zs10 ezs10
        refine J_iload_n (pc' := 62) rfl rfl rfl ?_
        refine J_if_t (pc' := 67) rfl rfl rfl ?_
        refine J_aload_no (pc' := 68) rfl rfl zg1 rfl ?_
        obtain ⟨zg11, W⟩ := W
        refine J_getA (G := 12001) (pc' := 71) rfl rfl (Nat.le_of_ble_eq_true rfl) rfl zg1 zg11 rfl ?_
        refine J_iload_n (pc' := 72) rfl rfl rfl ?_
        obtain ⟨zg12, W⟩ := W
        obtain ⟨zg13, W⟩ := W
        refine J_aald (pc' := 73) rfl rfl zg12 zg13 rfl ?_
        refine J_aload_no (pc' := 74) rfl rfl zg1 rfl ?_
        refine J_getO (G := 12002) (pc' := 77) rfl rfl (Nat.le_of_ble_eq_true rfl) rfl zg1 rfl ?_
        obtain ⟨zg14, W⟩ := W
        refine J_weak (L' := [some (jo 12 zo0), none, none, none]) (And.intro rfl trivial) ?_
        refine J_callV (as := [jo 0 (ra zs10 12001 zo0 zx1), jo 0 (rs zs10 12002 zo0)]) (rest := []) (pc' := 80) rfl rfl ax_Z_122 rfl rfl (Or.inr (Or.inr ⟨_, _, rfl, zg14⟩)) (Nat.le_of_ble_eq_true rfl) (Nat.le_of_ble_eq_true rfl) (Nat.le_of_ble_eq_true rfl) zg2 trivial trivial rfl W (fun zs15 W => ?_)
        refine J_aload_no (pc' := 81) rfl rfl zg1 rfl ?_
        refine J_getO (G := 12002) (pc' := 84) rfl rfl (Nat.le_of_ble_eq_true rfl) rfl zg1 rfl ?_
        obtain ⟨zg17, W⟩ := W
        refine J_getI (G := 1) (pc' := 87) rfl rfl (Nat.le_of_ble_eq_true rfl) rfl zg17 rfl ?_
        exact J_iret rfl rfl ⟨_, rfl, W⟩
      · refine J_iload_n (pc' := 36) rfl rfl rfl ?_
        refine J_if_t (pc' := 49) rfl rfl rfl ?_
        refine J_iconst (pc' := 50) rfl (i32_d rfl) rfl ?_
        refine J_putI (G := 12008) (pc' := 53) rfl rfl (Nat.le_of_ble_eq_true rfl) rfl rfl zg1 rfl (fun zs18 ezs18 => ?_)
        replace W := W zs18 ezs18
        refine J_aload_no (pc' := 54) rfl rfl zg1 rfl ?_
        refine J_getO (G := 12000) (pc' := 57) rfl rfl (Nat.le_of_ble_eq_true rfl) rfl zg1 rfl ?_
        refine J_iconst (pc' := 58) rfl (i32_d rfl) rfl ?_
        obtain ⟨zg19, W⟩ := W
        refine J_putI (G := 8000) (pc' := 61) rfl rfl (Nat.le_of_ble_eq_true rfl) rfl rfl zg19 rfl (fun zs20 ezs20 => ?_)
        replace W := W zs20 ezs20
        refine J_iload_n (pc' := 62) rfl rfl rfl ?_
        refine J_if_t (pc' := 67) rfl rfl rfl ?_
        refine J_aload_no (pc' := 68) rfl rfl zg1 rfl ?_
        obtain ⟨zg21, W⟩ := W
        refine J_getA (G := 12001) (pc' := 71) rfl rfl (Nat.le_of_ble_eq_true rfl) rfl zg1 zg21 rfl ?_
        refine J_iload_n (pc' := 72) rfl rfl rfl ?_
        obtain ⟨zg22, W⟩ := W
        obtain ⟨zg23, W⟩ := W
        refine J_aald (pc' := 73) rfl rfl zg22 zg23 rfl ?_
        refine J_aload_no (pc' := 74) rfl rfl zg1 rfl ?_
        refine J_getO (G := 12002) (pc' := 77) rfl rfl (Nat.le_of_ble_eq_true rfl) rfl zg1 rfl ?_
        obtain ⟨zg24, W⟩ := W
        refine J_weak (L' := [some (jo 12 zo0), none, none, none]) (And.intro rfl trivial) ?_
        refine J_callV (as := [jo 0 (ra zs20 12001 zo0 zx1), jo 0 (rs zs20 12002 zo0)]) (rest := []) (pc' := 80) rfl rfl ax_Z_122 rfl rfl (Or.inr (Or.inr ⟨_, _, rfl, zg24⟩)) (Nat.le_of_ble_eq_true rfl) (Nat.le_of_ble_eq_true rfl) (Nat.le_of_ble_eq_true rfl) zg2 trivial trivial rfl W (fun zs25 W => ?_)
        refine J_aload_no (pc' := 81) rfl rfl zg1 rfl ?_
        refine J_getO (G := 12002) (pc' := 84) rfl rfl (Nat.le_of_ble_eq_true rfl) rfl zg1 rfl ?_
        obtain ⟨zg27, W⟩ := W
        refine J_getI (G := 1) (pc' := 87) rfl rfl (Nat.le_of_ble_eq_true rfl) rfl zg27 rfl ?_
        exact J_iret rfl rfl ⟨_, rfl, W⟩
theorem wp_Top_type_28 {n : Nat} {σ : jS} {Q : Int → jS → Prop} {zo0 : Int} {zx1 : Int} {zx2 : Int} (W : 0 ≤ zo0 ∧ (if zx2 = 0 then (∀ zs2, zs2 = ws σ 12008 zo0 (-1) → 0 ≤ rs zs2 12000 zo0 ∧ (∀ zs4, zs4 = ws zs2 8000 (rs zs2 12000 zo0) 0 → Q (-1) zs4)) else 0 ≤ rs σ 12000 zo0 ∧ (∀ zs6, zs6 = ws σ 12008 zo0 (rs σ 8001 (rs σ 12000 zo0)) → 0 ≤ rs zs6 12000 zo0 ∧ (∀ zs8, zs8 = ws zs6 8000 (rs zs6 12000 zo0) 0 → Q (-1) zs8)))) : J n c_Top_type (some .int) 28 [some (jo 12 zo0), some (ji zx1), some (ji zx2), none] [] σ (qI Q) := by
  refine J_iconst (pc' := 29) rfl (i32_d rfl) rfl ?_
  refine J_istore_n (L' := [some (jo 12 zo0), some (ji zx1), some (ji zx2), some (ji 0)]) (pc' := 30) rfl (Nat.le_of_ble_eq_true rfl) rfl rfl ?_
  obtain ⟨zg1, W⟩ := W
  refine J_aload_no (pc' := 31) rfl rfl zg1 rfl ?_
  refine J_iload_n (pc' := 32) rfl rfl rfl ?_
  refine J_if (P := zx2 = 0) (t := 49) (f := 35) rfl rfl rfl jc_eq W (fun W => ?_) (fun W => ?_)
  · refine J_iconst (pc' := 50) rfl (i32_d rfl) rfl ?_
    refine J_putI (G := 12008) (pc' := 53) rfl rfl (Nat.le_of_ble_eq_true rfl) rfl rfl zg1 rfl (fun zs2 ezs2 => ?_)
    replace W := W zs2 ezs2
    refine J_aload_no (pc' := 54) rfl rfl zg1 rfl ?_
    refine J_getO (G := 12000) (pc' := 57) rfl rfl (Nat.le_of_ble_eq_true rfl) rfl zg1 rfl ?_
    refine J_iconst (pc' := 58) rfl (i32_d rfl) rfl ?_
    obtain ⟨zg3, W⟩ := W
    refine J_putI (G := 8000) (pc' := 61) rfl rfl (Nat.le_of_ble_eq_true rfl) rfl rfl zg3 rfl (fun zs4 ezs4 => ?_)
    replace W := W zs4 ezs4
    refine J_iload_n (pc' := 62) rfl rfl rfl ?_
    refine J_if_f (pc' := 65) rfl rfl rfl ?_
    refine J_iconst (pc' := 66) rfl (i32_d rfl) rfl ?_
    exact J_iret rfl rfl ⟨_, rfl, W⟩
  · refine J_iload_n (pc' := 36) rfl rfl rfl ?_
    refine J_if_f (pc' := 39) rfl rfl rfl ?_
    refine J_aload_no (pc' := 40) rfl rfl zg1 rfl ?_
    refine J_getO (G := 12000) (pc' := 43) rfl rfl (Nat.le_of_ble_eq_true rfl) rfl zg1 rfl ?_
    obtain ⟨zg5, W⟩ := W
    refine J_getI (G := 8001) (pc' := 46) rfl rfl (Nat.le_of_ble_eq_true rfl) rfl zg5 rfl ?_
    refine J_goto (pc' := 50) rfl rfl ?_
    refine J_putI (G := 12008) (pc' := 53) rfl rfl (Nat.le_of_ble_eq_true rfl) rfl rfl zg1 rfl (fun zs6 ezs6 => ?_)
    replace W := W zs6 ezs6
    refine J_aload_no (pc' := 54) rfl rfl zg1 rfl ?_
    refine J_getO (G := 12000) (pc' := 57) rfl rfl (Nat.le_of_ble_eq_true rfl) rfl zg1 rfl ?_
    refine J_iconst (pc' := 58) rfl (i32_d rfl) rfl ?_
    obtain ⟨zg7, W⟩ := W
    refine J_putI (G := 8000) (pc' := 61) rfl rfl (Nat.le_of_ble_eq_true rfl) rfl rfl zg7 rfl (fun zs8 ezs8 => ?_)
    replace W := W zs8 ezs8
    refine J_iload_n (pc' := 62) rfl rfl rfl ?_
    refine J_if_f (pc' := 65) rfl rfl rfl ?_
    refine J_iconst (pc' := 66) rfl (i32_d rfl) rfl ?_
    exact J_iret rfl rfl ⟨_, rfl, W⟩
set_option maxRecDepth 16000 in
theorem wp_Top_relation {n : Nat} {σ : jS} {Q : Int → jS → Prop} {zo0 : Int} {zx1 : Int} {zx2 : Int} {zx3 : Int} (W : 0 ≤ zo0 ∧ 1 ≤ n ∧ TrI (n - 1) i_Top_hasType [jo 12 zo0, ji zx1] σ (fun zr4 zs3 => (if zr4 = 0 then Q (-1) zs3 else TrI (n - 1) i_Top_hasType [jo 12 zo0, ji zx2] zs3 (fun zr6 zs5 => (if ¬ zr6 = 0 then (if zx3 = 0 then 0 ≤ rl zs5 12001 zo0 ∧ 0 ≤ zx1 ∧ zx1 < rl zs5 12001 zo0 ∧ 0 ≤ zx2 ∧ zx2 < rl zs5 12001 zo0 ∧ 0 ≤ rs zs5 12007 zo0 ∧ TrI (n - 1) i_Search_join [jo 7 (rs zs5 12007 zo0), jo 0 (ra zs5 12001 zo0 zx1), jo 0 (ra zs5 12001 zo0 zx2), jo 0 (rs zs5 12003 zo0)] zs5 (fun zr14 zs13 => (if zr14 = 0 then Q 0 zs13 else Q 1 zs13)) else (if zx3 = 1 then 0 ≤ rs zs5 12005 zo0 ∧ 0 ≤ rl zs5 12001 zo0 ∧ 0 ≤ zx2 ∧ zx2 < rl zs5 12001 zo0 ∧ 0 ≤ zx1 ∧ zx1 < rl zs5 12001 zo0 ∧ 0 ≤ rs zs5 10007 (rs zs5 12005 zo0) ∧ TrI (n - 1) i_Match_becomes [jo 4 (rs zs5 10007 (rs zs5 12005 zo0)), jo 0 (ra zs5 12001 zo0 zx2), jo 0 (ra zs5 12001 zo0 zx1)] zs5 (fun zr23 zs22 => (if zr23 = 0 then Q 0 zs22 else Q 1 zs22)) else (if zx3 = 2 then 0 ≤ rl zs5 12001 zo0 ∧ 0 ≤ zx1 ∧ zx1 < rl zs5 12001 zo0 ∧ 0 ≤ ra zs5 12001 zo0 zx1 ∧ 0 ≤ zx2 ∧ zx2 < rl zs5 12001 zo0 ∧ 0 ≤ ra zs5 12001 zo0 zx2 ∧ (if rs zs5 1 (ra zs5 12001 zo0 zx1) < rs zs5 1 (ra zs5 12001 zo0 zx2) then Q 0 zs5 else TrI (n - 1) i_Flat_cover [jo 0 (ra zs5 12001 zo0 zx1)] zs5 (fun zr32 zs31 => 0 ≤ rl zs31 12001 zo0 ∧ zx2 < rl zs31 12001 zo0 ∧ 0 ≤ ra zs31 12001 zo0 zx2 ∧ TrI (n - 1) i_Flat_cover [jo 0 (ra zs31 12001 zo0 zx2)] zs31 (fun zr37 zs36 => (if ¬ zr32 = zr37 then Q 0 zs36 else Q 1 zs36)))) else (if zx3 = 3 then 0 ≤ rl zs5 12001 zo0 ∧ 0 ≤ zx1 ∧ zx1 < rl zs5 12001 zo0 ∧ 0 ≤ zx2 ∧ zx2 < rl zs5 12001 zo0 ∧ 0 ≤ rs zs5 12007 zo0 ∧ TrI (n - 1) i_Search_join [jo 7 (rs zs5 12007 zo0), jo 0 (ra zs5 12001 zo0 zx1), jo 0 (ra zs5 12001 zo0 zx2), jo 0 (rs zs5 12003 zo0)] zs5 (fun zr45 zs44 => (if zr45 = 0 then Q (-1) zs44 else 0 ≤ rs zs44 12003 zo0 ∧ (if 100 < rs zs44 1 (rs zs44 12003 zo0) then Q (-1) zs44 else Q (rs zs44 1 (rs zs44 12003 zo0)) zs44))) else Q (-1) zs5)))) else Q (-1) zs5))))) : TrI n i_Top_relation [jo 12 zo0, ji zx1, ji zx2, ji zx3] σ Q := by
  refine Tr_of ax_Z_264 ?_
  show J n c_Top_relation (some .int) 0 [some (jo 12 zo0), some (ji zx1), some (ji zx2), some (ji zx3)] [] σ (qI Q)
  obtain ⟨zg1, W⟩ := W
  refine J_aload_no (pc' := 1) rfl rfl zg1 rfl ?_
  refine J_iload_n (pc' := 2) rfl rfl rfl ?_
  obtain ⟨zg2, W⟩ := W
  refine J_callI (as := [jo 12 zo0, ji zx1]) (rest := []) (pc' := 5) rfl rfl ax_Z_280 rfl rfl (Or.inr (Or.inr ⟨_, _, rfl, zg1⟩)) (Nat.le_of_ble_eq_true rfl) (Nat.le_of_ble_eq_true rfl) (Nat.le_of_ble_eq_true rfl) zg2 trivial trivial rfl W (fun zr4 zs3 W => ?_)
  refine J_if (P := zr4 = 0) (t := 16) (f := 8) rfl rfl rfl jc_eq W (fun W => ?_) (fun W => ?_)
  · refine J_iconst (pc' := 17) rfl (i32_d rfl) rfl ?_
    exact J_iret rfl rfl ⟨_, rfl, W⟩
  · refine J_aload_no (pc' := 9) rfl rfl zg1 rfl ?_
    refine J_iload_n (pc' := 10) rfl rfl rfl ?_
    refine J_callI (as := [jo 12 zo0, ji zx2]) (rest := []) (pc' := 13) rfl rfl ax_Z_280 rfl rfl (Or.inr (Or.inr ⟨_, _, rfl, zg1⟩)) (Nat.le_of_ble_eq_true rfl) (Nat.le_of_ble_eq_true rfl) (Nat.le_of_ble_eq_true rfl) zg2 trivial trivial rfl W (fun zr6 zs5 W => ?_)
    refine J_if (P := ¬ zr6 = 0) (t := 18) (f := 16) rfl rfl rfl jc_ne W (fun W => ?_) (fun W => ?_)
    · refine J_iload_n (pc' := 19) rfl rfl rfl ?_
      by_cases zc47 : zx3 = 0
      · rw [if_pos zc47] at W
        refine J_swC (pc' := 48) (i := 0) rfl (by omega) (by decide) rfl rfl ?_
        refine J_aload_no (pc' := 49) rfl rfl zg1 rfl ?_
        refine J_getO (G := 12007) (pc' := 52) rfl rfl (Nat.le_of_ble_eq_true rfl) rfl zg1 rfl ?_
        refine J_aload_no (pc' := 53) rfl rfl zg1 rfl ?_
        obtain ⟨zg7, W⟩ := W
        refine J_getA (G := 12001) (pc' := 56) rfl rfl (Nat.le_of_ble_eq_true rfl) rfl zg1 zg7 rfl ?_
        refine J_iload_n (pc' := 57) rfl rfl rfl ?_
        obtain ⟨zg8, W⟩ := W
        obtain ⟨zg9, W⟩ := W
        refine J_aald (pc' := 58) rfl rfl zg8 zg9 rfl ?_
        refine J_aload_no (pc' := 59) rfl rfl zg1 rfl ?_
        refine J_getA (G := 12001) (pc' := 62) rfl rfl (Nat.le_of_ble_eq_true rfl) rfl zg1 zg7 rfl ?_
        refine J_iload_n (pc' := 63) rfl rfl rfl ?_
        obtain ⟨zg10, W⟩ := W
        obtain ⟨zg11, W⟩ := W
        refine J_aald (pc' := 64) rfl rfl zg10 zg11 rfl ?_
        refine J_aload_no (pc' := 65) rfl rfl zg1 rfl ?_
        refine J_getO (G := 12003) (pc' := 68) rfl rfl (Nat.le_of_ble_eq_true rfl) rfl zg1 rfl ?_
        obtain ⟨zg12, W⟩ := W
        refine J_weak (L' := [none, none, none, none]) trivial ?_
        refine J_callI (as := [jo 7 (rs zs5 12007 zo0), jo 0 (ra zs5 12001 zo0 zx1), jo 0 (ra zs5 12001 zo0 zx2), jo 0 (rs zs5 12003 zo0)]) (rest := []) (pc' := 71) rfl rfl ax_Z_176 rfl rfl (Or.inr (Or.inr ⟨_, _, rfl, zg12⟩)) (Nat.le_of_ble_eq_true rfl) (Nat.le_of_ble_eq_true rfl) (Nat.le_of_ble_eq_true rfl) zg2 trivial trivial rfl W (fun zr14 zs13 W => ?_)
        refine J_if (P := zr14 = 0) (t := 78) (f := 74) rfl rfl rfl jc_eq W (fun W => ?_) (fun W => ?_)
        · refine J_iconst (pc' := 79) rfl (i32_d rfl) rfl ?_
          exact J_iret rfl rfl ⟨_, rfl, W⟩
        · refine J_iconst (pc' := 75) rfl (i32_d rfl) rfl ?_
          refine J_goto (pc' := 79) rfl rfl ?_
          exact J_iret rfl rfl ⟨_, rfl, W⟩
      rw [if_neg zc47] at W
      by_cases zc48 : zx3 = 1
      · rw [if_pos zc48] at W
        refine J_swC (pc' := 80) (i := 1) rfl (by omega) (by decide) rfl rfl ?_
        refine J_aload_no (pc' := 81) rfl rfl zg1 rfl ?_
        refine J_getO (G := 12005) (pc' := 84) rfl rfl (Nat.le_of_ble_eq_true rfl) rfl zg1 rfl ?_
        obtain ⟨zg15, W⟩ := W
        refine J_getO (G := 10007) (pc' := 87) rfl rfl (Nat.le_of_ble_eq_true rfl) rfl zg15 rfl ?_
        refine J_aload_no (pc' := 88) rfl rfl zg1 rfl ?_
        obtain ⟨zg16, W⟩ := W
        refine J_getA (G := 12001) (pc' := 91) rfl rfl (Nat.le_of_ble_eq_true rfl) rfl zg1 zg16 rfl ?_
        refine J_iload_n (pc' := 92) rfl rfl rfl ?_
        obtain ⟨zg17, W⟩ := W
        obtain ⟨zg18, W⟩ := W
        refine J_aald (pc' := 93) rfl rfl zg17 zg18 rfl ?_
        refine J_aload_no (pc' := 94) rfl rfl zg1 rfl ?_
        refine J_getA (G := 12001) (pc' := 97) rfl rfl (Nat.le_of_ble_eq_true rfl) rfl zg1 zg16 rfl ?_
        refine J_iload_n (pc' := 98) rfl rfl rfl ?_
        obtain ⟨zg19, W⟩ := W
        obtain ⟨zg20, W⟩ := W
        refine J_aald (pc' := 99) rfl rfl zg19 zg20 rfl ?_
        obtain ⟨zg21, W⟩ := W
        refine J_weak (L' := [none, none, none, none]) trivial ?_
        refine J_callI (as := [jo 4 (rs zs5 10007 (rs zs5 12005 zo0)), jo 0 (ra zs5 12001 zo0 zx2), jo 0 (ra zs5 12001 zo0 zx1)]) (rest := []) (pc' := 102) rfl rfl ax_Z_141 rfl rfl (Or.inr (Or.inr ⟨_, _, rfl, zg21⟩)) (Nat.le_of_ble_eq_true rfl) (Nat.le_of_ble_eq_true rfl) (Nat.le_of_ble_eq_true rfl) zg2 trivial trivial rfl W (fun zr23 zs22 W => ?_)
        refine J_if (P := zr23 = 0) (t := 109) (f := 105) rfl rfl rfl jc_eq W (fun W => ?_) (fun W => ?_)
        · refine J_iconst (pc' := 110) rfl (i32_d rfl) rfl ?_
          exact J_iret rfl rfl ⟨_, rfl, W⟩
        · refine J_iconst (pc' := 106) rfl (i32_d rfl) rfl ?_
          refine J_goto (pc' := 110) rfl rfl ?_
          exact J_iret rfl rfl ⟨_, rfl, W⟩
      rw [if_neg zc48] at W
      by_cases zc49 : zx3 = 2
      · rw [if_pos zc49] at W
        refine J_swC (pc' := 111) (i := 2) rfl (by omega) (by decide) rfl rfl ?_
        refine J_aload_no (pc' := 112) rfl rfl zg1 rfl ?_
        obtain ⟨zg24, W⟩ := W
        refine J_getA (G := 12001) (pc' := 115) rfl rfl (Nat.le_of_ble_eq_true rfl) rfl zg1 zg24 rfl ?_
        refine J_iload_n (pc' := 116) rfl rfl rfl ?_
        obtain ⟨zg25, W⟩ := W
        obtain ⟨zg26, W⟩ := W
        refine J_aald (pc' := 117) rfl rfl zg25 zg26 rfl ?_
        obtain ⟨zg27, W⟩ := W
        refine J_getI (G := 1) (pc' := 120) rfl rfl (Nat.le_of_ble_eq_true rfl) rfl zg27 rfl ?_
        refine J_aload_no (pc' := 121) rfl rfl zg1 rfl ?_
        refine J_getA (G := 12001) (pc' := 124) rfl rfl (Nat.le_of_ble_eq_true rfl) rfl zg1 zg24 rfl ?_
        refine J_iload_n (pc' := 125) rfl rfl rfl ?_
        obtain ⟨zg28, W⟩ := W
        obtain ⟨zg29, W⟩ := W
        refine J_aald (pc' := 126) rfl rfl zg28 zg29 rfl ?_
        obtain ⟨zg30, W⟩ := W
        refine J_getI (G := 1) (pc' := 129) rfl rfl (Nat.le_of_ble_eq_true rfl) rfl zg30 rfl ?_
        refine J_icmp (P := rs zs5 1 (ra zs5 12001 zo0 zx1) < rs zs5 1 (ra zs5 12001 zo0 zx2)) (t := 157) (f := 132) rfl rfl rfl jc_lt W (fun W => ?_) (fun W => ?_)
        · refine J_iconst (pc' := 158) rfl (i32_d rfl) rfl ?_
          exact J_iret rfl rfl ⟨_, rfl, W⟩
        · refine J_aload_no (pc' := 133) rfl rfl zg1 rfl ?_
          refine J_getA (G := 12001) (pc' := 136) rfl rfl (Nat.le_of_ble_eq_true rfl) rfl zg1 zg24 rfl ?_
          refine J_iload_n (pc' := 137) rfl rfl rfl ?_
          refine J_aald (pc' := 138) rfl rfl zg25 zg26 rfl ?_
          refine J_weak (L' := [some (jo 12 zo0), none, some (ji zx2), none]) (And.intro rfl (And.intro rfl trivial)) ?_
          refine J_callI (as := [jo 0 (ra zs5 12001 zo0 zx1)]) (rest := []) (pc' := 141) rfl rfl ax_Z_125 rfl rfl (Or.inr (Or.inr ⟨_, _, rfl, zg27⟩)) (Nat.le_of_ble_eq_true rfl) (Nat.le_of_ble_eq_true rfl) (Nat.le_of_ble_eq_true rfl) zg2 trivial trivial rfl W (fun zr32 zs31 W => ?_)
          refine J_aload_no (pc' := 142) rfl rfl zg1 rfl ?_
          obtain ⟨zg33, W⟩ := W
          refine J_getA (G := 12001) (pc' := 145) rfl rfl (Nat.le_of_ble_eq_true rfl) rfl zg1 zg33 rfl ?_
          refine J_iload_n (pc' := 146) rfl rfl rfl ?_
          obtain ⟨zg34, W⟩ := W
          refine J_aald (pc' := 147) rfl rfl zg28 zg34 rfl ?_
          obtain ⟨zg35, W⟩ := W
          refine J_weak (L' := [none, none, none, none]) trivial ?_
          refine J_callI (as := [jo 0 (ra zs31 12001 zo0 zx2)]) (rest := [ji zr32]) (pc' := 150) rfl rfl ax_Z_125 rfl rfl (Or.inr (Or.inr ⟨_, _, rfl, zg35⟩)) (Nat.le_of_ble_eq_true rfl) (Nat.le_of_ble_eq_true rfl) (Nat.le_of_ble_eq_true rfl) zg2 trivial trivial rfl W (fun zr37 zs36 W => ?_)
          refine J_icmp (P := ¬ zr32 = zr37) (t := 157) (f := 153) rfl rfl rfl jc_ne W (fun W => ?_) (fun W => ?_)
          · refine J_iconst (pc' := 158) rfl (i32_d rfl) rfl ?_
            exact J_iret rfl rfl ⟨_, rfl, W⟩
          · refine J_iconst (pc' := 154) rfl (i32_d rfl) rfl ?_
            refine J_goto (pc' := 158) rfl rfl ?_
            exact J_iret rfl rfl ⟨_, rfl, W⟩
      rw [if_neg zc49] at W
      by_cases zc50 : zx3 = 3
      · rw [if_pos zc50] at W
        refine J_swC (pc' := 159) (i := 3) rfl (by omega) (by decide) rfl rfl ?_
        refine J_aload_no (pc' := 160) rfl rfl zg1 rfl ?_
        refine J_getO (G := 12007) (pc' := 163) rfl rfl (Nat.le_of_ble_eq_true rfl) rfl zg1 rfl ?_
        refine J_aload_no (pc' := 164) rfl rfl zg1 rfl ?_
        obtain ⟨zg38, W⟩ := W
        refine J_getA (G := 12001) (pc' := 167) rfl rfl (Nat.le_of_ble_eq_true rfl) rfl zg1 zg38 rfl ?_
        refine J_iload_n (pc' := 168) rfl rfl rfl ?_
        obtain ⟨zg39, W⟩ := W
        obtain ⟨zg40, W⟩ := W
        refine J_aald (pc' := 169) rfl rfl zg39 zg40 rfl ?_
        refine J_aload_no (pc' := 170) rfl rfl zg1 rfl ?_
        refine J_getA (G := 12001) (pc' := 173) rfl rfl (Nat.le_of_ble_eq_true rfl) rfl zg1 zg38 rfl ?_
        refine J_iload_n (pc' := 174) rfl rfl rfl ?_
        obtain ⟨zg41, W⟩ := W
        obtain ⟨zg42, W⟩ := W
        refine J_aald (pc' := 175) rfl rfl zg41 zg42 rfl ?_
        refine J_aload_no (pc' := 176) rfl rfl zg1 rfl ?_
        refine J_getO (G := 12003) (pc' := 179) rfl rfl (Nat.le_of_ble_eq_true rfl) rfl zg1 rfl ?_
        obtain ⟨zg43, W⟩ := W
        refine J_weak (L' := [some (jo 12 zo0), none, none, none]) (And.intro rfl trivial) ?_
        refine J_callI (as := [jo 7 (rs zs5 12007 zo0), jo 0 (ra zs5 12001 zo0 zx1), jo 0 (ra zs5 12001 zo0 zx2), jo 0 (rs zs5 12003 zo0)]) (rest := []) (pc' := 182) rfl rfl ax_Z_176 rfl rfl (Or.inr (Or.inr ⟨_, _, rfl, zg43⟩)) (Nat.le_of_ble_eq_true rfl) (Nat.le_of_ble_eq_true rfl) (Nat.le_of_ble_eq_true rfl) zg2 trivial trivial rfl W (fun zr45 zs44 W => ?_)
        refine J_if (P := zr45 = 0) (t := 207) (f := 185) rfl rfl rfl jc_eq W (fun W => ?_) (fun W => ?_)
        · refine J_iconst (pc' := 208) rfl (i32_d rfl) rfl ?_
          exact J_iret rfl rfl ⟨_, rfl, W⟩
        · refine J_aload_no (pc' := 186) rfl rfl zg1 rfl ?_
          refine J_getO (G := 12003) (pc' := 189) rfl rfl (Nat.le_of_ble_eq_true rfl) rfl zg1 rfl ?_
          obtain ⟨zg46, W⟩ := W
          refine J_getI (G := 1) (pc' := 192) rfl rfl (Nat.le_of_ble_eq_true rfl) rfl zg46 rfl ?_
          refine J_bipush (pc' := 194) rfl (by decide) (by decide) rfl ?_
          refine J_icmp (P := 100 < rs zs44 1 (rs zs44 12003 zo0)) (t := 207) (f := 197) rfl rfl rfl jc_gt W (fun W => ?_) (fun W => ?_)
          · refine J_iconst (pc' := 208) rfl (i32_d rfl) rfl ?_
            exact J_iret rfl rfl ⟨_, rfl, W⟩
          · refine J_aload_no (pc' := 198) rfl rfl zg1 rfl ?_
            refine J_getO (G := 12003) (pc' := 201) rfl rfl (Nat.le_of_ble_eq_true rfl) rfl zg1 rfl ?_
            refine J_getI (G := 1) (pc' := 204) rfl rfl (Nat.le_of_ble_eq_true rfl) rfl zg46 rfl ?_
            refine J_goto (pc' := 208) rfl rfl ?_
            exact J_iret rfl rfl ⟨_, rfl, W⟩
      rw [if_neg zc50] at W
      refine J_swD (pc' := 209) rfl (by omega) rfl ?_
      refine J_iconst (pc' := 210) rfl (i32_d rfl) rfl ?_
      exact J_iret rfl rfl ⟨_, rfl, W⟩
    · refine J_iconst (pc' := 17) rfl (i32_d rfl) rfl ?_
      exact J_iret rfl rfl ⟨_, rfl, W⟩
theorem wp_Top_unified {n : Nat} {σ : jS} {Q : Int → jS → Prop} {zo0 : Int} {zx1 : Int} {zx2 : Int} (W : 0 ≤ zo0 ∧ 1 ≤ n ∧ TrI (n - 1) i_Top_hasType [jo 12 zo0, ji zx1] σ (fun zr4 zs3 => (if zr4 = 0 then Q (-1) zs3 else TrI (n - 1) i_Top_hasType [jo 12 zo0, ji zx2] zs3 (fun zr6 zs5 => (if zr6 = 0 then Q (-1) zs5 else 0 ≤ rl zs5 12001 zo0 ∧ 0 ≤ zx1 ∧ zx1 < rl zs5 12001 zo0 ∧ 0 ≤ zx2 ∧ zx2 < rl zs5 12001 zo0 ∧ 0 ≤ rs zs5 12007 zo0 ∧ TrI (n - 1) i_Search_join [jo 7 (rs zs5 12007 zo0), jo 0 (ra zs5 12001 zo0 zx1), jo 0 (ra zs5 12001 zo0 zx2), jo 0 (rs zs5 12003 zo0)] zs5 (fun zr14 zs13 => (if ¬ zr14 = 0 then TrI (n - 1) i_Top_writeFlat [jo 12 zo0] zs13 (fun zr16 zs15 => Q zr16 zs15) else Q (-1) zs13))))))) : TrI n i_Top_unified [jo 12 zo0, ji zx1, ji zx2] σ Q := by
  refine Tr_of ax_Z_265 ?_
  show J n c_Top_unified (some .int) 0 [some (jo 12 zo0), some (ji zx1), some (ji zx2)] [] σ (qI Q)
  obtain ⟨zg1, W⟩ := W
  refine J_aload_no (pc' := 1) rfl rfl zg1 rfl ?_
  refine J_iload_n (pc' := 2) rfl rfl rfl ?_
  obtain ⟨zg2, W⟩ := W
  refine J_callI (as := [jo 12 zo0, ji zx1]) (rest := []) (pc' := 5) rfl rfl ax_Z_280 rfl rfl (Or.inr (Or.inr ⟨_, _, rfl, zg1⟩)) (Nat.le_of_ble_eq_true rfl) (Nat.le_of_ble_eq_true rfl) (Nat.le_of_ble_eq_true rfl) zg2 trivial trivial rfl W (fun zr4 zs3 W => ?_)
  refine J_if (P := zr4 = 0) (t := 42) (f := 8) rfl rfl rfl jc_eq W (fun W => ?_) (fun W => ?_)
  · refine J_iconst (pc' := 43) rfl (i32_d rfl) rfl ?_
    exact J_iret rfl rfl ⟨_, rfl, W⟩
  · refine J_aload_no (pc' := 9) rfl rfl zg1 rfl ?_
    refine J_iload_n (pc' := 10) rfl rfl rfl ?_
    refine J_callI (as := [jo 12 zo0, ji zx2]) (rest := []) (pc' := 13) rfl rfl ax_Z_280 rfl rfl (Or.inr (Or.inr ⟨_, _, rfl, zg1⟩)) (Nat.le_of_ble_eq_true rfl) (Nat.le_of_ble_eq_true rfl) (Nat.le_of_ble_eq_true rfl) zg2 trivial trivial rfl W (fun zr6 zs5 W => ?_)
    refine J_if (P := zr6 = 0) (t := 42) (f := 16) rfl rfl rfl jc_eq W (fun W => ?_) (fun W => ?_)
    · refine J_iconst (pc' := 43) rfl (i32_d rfl) rfl ?_
      exact J_iret rfl rfl ⟨_, rfl, W⟩
    · refine J_aload_no (pc' := 17) rfl rfl zg1 rfl ?_
      refine J_getO (G := 12007) (pc' := 20) rfl rfl (Nat.le_of_ble_eq_true rfl) rfl zg1 rfl ?_
      refine J_aload_no (pc' := 21) rfl rfl zg1 rfl ?_
      obtain ⟨zg7, W⟩ := W
      refine J_getA (G := 12001) (pc' := 24) rfl rfl (Nat.le_of_ble_eq_true rfl) rfl zg1 zg7 rfl ?_
      refine J_iload_n (pc' := 25) rfl rfl rfl ?_
      obtain ⟨zg8, W⟩ := W
      obtain ⟨zg9, W⟩ := W
      refine J_aald (pc' := 26) rfl rfl zg8 zg9 rfl ?_
      refine J_aload_no (pc' := 27) rfl rfl zg1 rfl ?_
      refine J_getA (G := 12001) (pc' := 30) rfl rfl (Nat.le_of_ble_eq_true rfl) rfl zg1 zg7 rfl ?_
      refine J_iload_n (pc' := 31) rfl rfl rfl ?_
      obtain ⟨zg10, W⟩ := W
      obtain ⟨zg11, W⟩ := W
      refine J_aald (pc' := 32) rfl rfl zg10 zg11 rfl ?_
      refine J_aload_no (pc' := 33) rfl rfl zg1 rfl ?_
      refine J_getO (G := 12003) (pc' := 36) rfl rfl (Nat.le_of_ble_eq_true rfl) rfl zg1 rfl ?_
      obtain ⟨zg12, W⟩ := W
      refine J_weak (L' := [some (jo 12 zo0), none, none]) (And.intro rfl trivial) ?_
      refine J_callI (as := [jo 7 (rs zs5 12007 zo0), jo 0 (ra zs5 12001 zo0 zx1), jo 0 (ra zs5 12001 zo0 zx2), jo 0 (rs zs5 12003 zo0)]) (rest := []) (pc' := 39) rfl rfl ax_Z_176 rfl rfl (Or.inr (Or.inr ⟨_, _, rfl, zg12⟩)) (Nat.le_of_ble_eq_true rfl) (Nat.le_of_ble_eq_true rfl) (Nat.le_of_ble_eq_true rfl) zg2 trivial trivial rfl W (fun zr14 zs13 W => ?_)
      refine J_if (P := ¬ zr14 = 0) (t := 44) (f := 42) rfl rfl rfl jc_ne W (fun W => ?_) (fun W => ?_)
      · refine J_aload_no (pc' := 45) rfl rfl zg1 rfl ?_
        refine J_weak (L' := [none, none, none]) trivial ?_
        refine J_callI (as := [jo 12 zo0]) (rest := []) (pc' := 48) rfl rfl ax_Z_281 rfl rfl (Or.inr (Or.inr ⟨_, _, rfl, zg1⟩)) (Nat.le_of_ble_eq_true rfl) (Nat.le_of_ble_eq_true rfl) (Nat.le_of_ble_eq_true rfl) zg2 trivial trivial rfl W (fun zr16 zs15 W => ?_)
        exact J_iret rfl rfl ⟨_, rfl, W⟩
      · refine J_iconst (pc' := 43) rfl (i32_d rfl) rfl ?_
        exact J_iret rfl rfl ⟨_, rfl, W⟩
theorem wp_Top_ask {n : Nat} {σ : jS} {Q : Int → jS → Prop} {zo0 : Int} {zx1 : Int} (W : 0 ≤ zo0 ∧ 1 ≤ n ∧ 0 ≤ rs σ 12005 zo0 ∧ TrI (n - 1) i_Text_hasScope [jo 10 (rs σ 12005 zo0), ji zx1] σ (fun zr5 zs4 => (if zr5 = 0 then J n c_Top_ask (some .int) 31 [some (jo 12 zo0), some (ji zx1), some (ji zr5), none] [] zs4 (qI Q) else 0 ≤ rs zs4 12000 zo0 ∧ TrI (n - 1) i_Tape_readWhole [jo 8 (rs zs4 12000 zo0), jo 0 (rs zs4 12002 zo0)] zs4 (fun zr8 zs7 => (if zr8 = 0 then J n c_Top_ask (some .int) 31 [some (jo 12 zo0), some (ji zx1), some (ji zr5), none] [] zs7 (qI Q) else (if zr5 = 0 then (∀ zs9, zs9 = ws zs7 12008 zo0 (-1) → 0 ≤ rs zs9 12000 zo0 ∧ (∀ zs11, zs11 = ws zs9 8000 (rs zs9 12000 zo0) 0 → 0 ≤ rs zs11 12012 zo0 ∧ TrV (n - 1) i_Flat_take [jo 0 (rs zs11 12012 zo0), jo 0 (rs zs11 12002 zo0)] zs11 (fun zs13 => (∀ zs15, zs15 = ws zs13 12015 zo0 zx1 → 0 ≤ rs zs15 12007 zo0 ∧ TrI (n - 1) i_Search_run [jo 7 (rs zs15 12007 zo0), jo 0 (rs zs15 12012 zo0), ji zx1, ji (rs zs15 12009 zo0), ji (rs zs15 12010 zo0), ji 1] zs15 (fun zr18 zs17 => TrV (n - 1) i_Top_keepAsking [jo 12 zo0] zs17 (fun zs19 => 0 ≤ rl zs19 12011 zo0 ∧ 0 < rl zs19 12011 zo0 ∧ Q (ra zs19 12011 zo0 0) zs19)))))) else (∀ zs23, zs23 = ws zs7 12008 zo0 (-1) → 0 ≤ rs zs23 12000 zo0 ∧ (∀ zs25, zs25 = ws zs23 8000 (rs zs23 12000 zo0) 0 → 0 ≤ rs zs25 12012 zo0 ∧ TrV (n - 1) i_Flat_take [jo 0 (rs zs25 12012 zo0), jo 0 (rs zs25 12002 zo0)] zs25 (fun zs27 => (∀ zs29, zs29 = ws zs27 12015 zo0 zx1 → 0 ≤ rs zs29 12007 zo0 ∧ TrI (n - 1) i_Search_run [jo 7 (rs zs29 12007 zo0), jo 0 (rs zs29 12012 zo0), ji zx1, ji (rs zs29 12009 zo0), ji (rs zs29 12010 zo0), ji 1] zs29 (fun zr32 zs31 => TrV (n - 1) i_Top_keepAsking [jo 12 zo0] zs31 (fun zs33 => 0 ≤ rl zs33 12011 zo0 ∧ 0 < rl zs33 12011 zo0 ∧ Q (ra zs33 12011 zo0 0) zs33)))))))))))) : TrI n i_Top_ask [jo 12 zo0, ji zx1] σ Q := by
  refine Tr_of ax_Z_266 ?_
  show J n c_Top_ask (some .int) 0 [some (jo 12 zo0), some (ji zx1), none, none] [] σ (qI Q)
  obtain ⟨zg1, W⟩ := W
  refine J_aload_no (pc' := 1) rfl rfl zg1 rfl ?_
  refine J_getO (G := 12005) (pc' := 4) rfl rfl (Nat.le_of_ble_eq_true rfl) rfl zg1 rfl ?_
  refine J_iload_n (pc' := 5) rfl rfl rfl ?_
  obtain ⟨zg2, W⟩ := W
  obtain ⟨zg3, W⟩ := W
  refine J_callI (as := [jo 10 (rs σ 12005 zo0), ji zx1]) (rest := []) (pc' := 8) rfl rfl ax_Z_224 rfl rfl (Or.inr (Or.inr ⟨_, _, rfl, zg3⟩)) (Nat.le_of_ble_eq_true rfl) (Nat.le_of_ble_eq_true rfl) (Nat.le_of_ble_eq_true rfl) zg2 trivial trivial rfl W (fun zr5 zs4 W => ?_)
  refine J_istore_n (L' := [some (jo 12 zo0), some (ji zx1), some (ji zr5), none]) (pc' := 9) rfl (Nat.le_of_ble_eq_true rfl) rfl rfl ?_
  refine J_iload_n (pc' := 10) rfl rfl rfl ?_
  refine J_if (P := zr5 = 0) (t := 31) (f := 13) rfl rfl rfl jc_eq W (fun W => ?_) (fun W => ?_)
  · exact W
  · refine J_aload_no (pc' := 14) rfl rfl zg1 rfl ?_
    refine J_getO (G := 12000) (pc' := 17) rfl rfl (Nat.le_of_ble_eq_true rfl) rfl zg1 rfl ?_
    refine J_aload_no (pc' := 18) rfl rfl zg1 rfl ?_
    refine J_getO (G := 12002) (pc' := 21) rfl rfl (Nat.le_of_ble_eq_true rfl) rfl zg1 rfl ?_
    obtain ⟨zg6, W⟩ := W
    refine J_callI (as := [jo 8 (rs zs4 12000 zo0), jo 0 (rs zs4 12002 zo0)]) (rest := []) (pc' := 24) rfl rfl ax_Z_189 rfl rfl (Or.inr (Or.inr ⟨_, _, rfl, zg6⟩)) (Nat.le_of_ble_eq_true rfl) (Nat.le_of_ble_eq_true rfl) (Nat.le_of_ble_eq_true rfl) zg2 trivial trivial rfl W (fun zr8 zs7 W => ?_)
    refine J_if (P := zr8 = 0) (t := 31) (f := 27) rfl rfl rfl jc_eq W (fun W => ?_) (fun W => ?_)
    · exact W
    · refine J_iconst (pc' := 28) rfl (i32_d rfl) rfl ?_
      refine J_goto (pc' := 32) rfl rfl ?_
      refine J_istore_n (L' := [some (jo 12 zo0), some (ji zx1), some (ji zr5), some (ji 1)]) (pc' := 33) rfl (Nat.le_of_ble_eq_true rfl) rfl rfl ?_
      refine J_aload_no (pc' := 34) rfl rfl zg1 rfl ?_
      refine J_iload_n (pc' := 35) rfl rfl rfl ?_
      refine J_if (P := zr5 = 0) (t := 52) (f := 38) rfl rfl rfl jc_eq W (fun W => ?_) (fun W => ?_)
      · refine J_iconst (pc' := 53) rfl (i32_d rfl) rfl ?_
        refine J_putI (G := 12008) (pc' := 56) rfl rfl (Nat.le_of_ble_eq_true rfl) rfl rfl zg1 rfl (fun zs9 ezs9 => ?_)
        replace W := W zs9 ezs9
        refine J_aload_no (pc' := 57) rfl rfl zg1 rfl ?_
        refine J_getO (G := 12000) (pc' := 60) rfl rfl (Nat.le_of_ble_eq_true rfl) rfl zg1 rfl ?_
        refine J_iconst (pc' := 61) rfl (i32_d rfl) rfl ?_
        obtain ⟨zg10, W⟩ := W
        refine J_putI (G := 8000) (pc' := 64) rfl rfl (Nat.le_of_ble_eq_true rfl) rfl rfl zg10 rfl (fun zs11 ezs11 => ?_)
        replace W := W zs11 ezs11
        refine J_iload_n (pc' := 65) rfl rfl rfl ?_
        refine J_if_t (pc' := 71) rfl rfl rfl ?_
        refine J_aload_no (pc' := 72) rfl rfl zg1 rfl ?_
        refine J_getO (G := 12012) (pc' := 75) rfl rfl (Nat.le_of_ble_eq_true rfl) rfl zg1 rfl ?_
        refine J_aload_no (pc' := 76) rfl rfl zg1 rfl ?_
        refine J_getO (G := 12002) (pc' := 79) rfl rfl (Nat.le_of_ble_eq_true rfl) rfl zg1 rfl ?_
        obtain ⟨zg12, W⟩ := W
        refine J_weak (L' := [some (jo 12 zo0), some (ji zx1), none, none]) (And.intro rfl (And.intro rfl trivial)) ?_
        refine J_callV (as := [jo 0 (rs zs11 12012 zo0), jo 0 (rs zs11 12002 zo0)]) (rest := []) (pc' := 82) rfl rfl ax_Z_122 rfl rfl (Or.inr (Or.inr ⟨_, _, rfl, zg12⟩)) (Nat.le_of_ble_eq_true rfl) (Nat.le_of_ble_eq_true rfl) (Nat.le_of_ble_eq_true rfl) zg2 trivial trivial rfl W (fun zs13 W => ?_)
        refine J_aload_no (pc' := 83) rfl rfl zg1 rfl ?_
        refine J_iload_n (pc' := 84) rfl rfl rfl ?_
        refine J_putI (G := 12015) (pc' := 87) rfl rfl (Nat.le_of_ble_eq_true rfl) rfl rfl zg1 rfl (fun zs15 ezs15 => ?_)
        replace W := W zs15 ezs15
        refine J_aload_no (pc' := 88) rfl rfl zg1 rfl ?_
        refine J_getO (G := 12007) (pc' := 91) rfl rfl (Nat.le_of_ble_eq_true rfl) rfl zg1 rfl ?_
        refine J_aload_no (pc' := 92) rfl rfl zg1 rfl ?_
        refine J_getO (G := 12012) (pc' := 95) rfl rfl (Nat.le_of_ble_eq_true rfl) rfl zg1 rfl ?_
        refine J_iload_n (pc' := 96) rfl rfl rfl ?_
        refine J_aload_no (pc' := 97) rfl rfl zg1 rfl ?_
        refine J_getI (G := 12009) (pc' := 100) rfl rfl (Nat.le_of_ble_eq_true rfl) rfl zg1 rfl ?_
        refine J_aload_no (pc' := 101) rfl rfl zg1 rfl ?_
        refine J_getI (G := 12010) (pc' := 104) rfl rfl (Nat.le_of_ble_eq_true rfl) rfl zg1 rfl ?_
        refine J_iconst (pc' := 105) rfl (i32_d rfl) rfl ?_
        obtain ⟨zg16, W⟩ := W
        refine J_weak (L' := [some (jo 12 zo0), none, none, none]) (And.intro rfl trivial) ?_
        refine J_callI (as := [jo 7 (rs zs15 12007 zo0), jo 0 (rs zs15 12012 zo0), ji zx1, ji (rs zs15 12009 zo0), ji (rs zs15 12010 zo0), ji 1]) (rest := []) (pc' := 108) rfl rfl ax_Z_158 rfl rfl (Or.inr (Or.inr ⟨_, _, rfl, zg16⟩)) (Nat.le_of_ble_eq_true rfl) (Nat.le_of_ble_eq_true rfl) (Nat.le_of_ble_eq_true rfl) zg2 trivial trivial rfl W (fun zr18 zs17 W => ?_)
        refine J_pop (pc' := 109) rfl rfl rfl ?_
        refine J_aload_no (pc' := 110) rfl rfl zg1 rfl ?_
        refine J_callV (as := [jo 12 zo0]) (rest := []) (pc' := 113) rfl rfl ax_Z_282 rfl rfl (Or.inr (Or.inr ⟨_, _, rfl, zg1⟩)) (Nat.le_of_ble_eq_true rfl) (Nat.le_of_ble_eq_true rfl) (Nat.le_of_ble_eq_true rfl) zg2 trivial trivial rfl W (fun zs19 W => ?_)
        refine J_aload_no (pc' := 114) rfl rfl zg1 rfl ?_
        obtain ⟨zg21, W⟩ := W
        refine J_getA (G := 12011) (pc' := 117) rfl rfl (Nat.le_of_ble_eq_true rfl) rfl zg1 zg21 rfl ?_
        refine J_iconst (pc' := 118) rfl (i32_d rfl) rfl ?_
        obtain ⟨zg22, W⟩ := W
        refine J_iald (pc' := 119) rfl rfl (by decide) zg22 rfl ?_
        exact J_iret rfl rfl ⟨_, rfl, W⟩
      · refine J_iload_n (pc' := 39) rfl rfl rfl ?_
        refine J_if_t (pc' := 52) rfl rfl rfl ?_
        refine J_iconst (pc' := 53) rfl (i32_d rfl) rfl ?_
        refine J_putI (G := 12008) (pc' := 56) rfl rfl (Nat.le_of_ble_eq_true rfl) rfl rfl zg1 rfl (fun zs23 ezs23 => ?_)
        replace W := W zs23 ezs23
        refine J_aload_no (pc' := 57) rfl rfl zg1 rfl ?_
        refine J_getO (G := 12000) (pc' := 60) rfl rfl (Nat.le_of_ble_eq_true rfl) rfl zg1 rfl ?_
        refine J_iconst (pc' := 61) rfl (i32_d rfl) rfl ?_
        obtain ⟨zg24, W⟩ := W
        refine J_putI (G := 8000) (pc' := 64) rfl rfl (Nat.le_of_ble_eq_true rfl) rfl rfl zg24 rfl (fun zs25 ezs25 => ?_)
        replace W := W zs25 ezs25
        refine J_iload_n (pc' := 65) rfl rfl rfl ?_
        refine J_if_t (pc' := 71) rfl rfl rfl ?_
        refine J_aload_no (pc' := 72) rfl rfl zg1 rfl ?_
        refine J_getO (G := 12012) (pc' := 75) rfl rfl (Nat.le_of_ble_eq_true rfl) rfl zg1 rfl ?_
        refine J_aload_no (pc' := 76) rfl rfl zg1 rfl ?_
        refine J_getO (G := 12002) (pc' := 79) rfl rfl (Nat.le_of_ble_eq_true rfl) rfl zg1 rfl ?_
        obtain ⟨zg26, W⟩ := W
        refine J_weak (L' := [some (jo 12 zo0), some (ji zx1), none, none]) (And.intro rfl (And.intro rfl trivial)) ?_
        refine J_callV (as := [jo 0 (rs zs25 12012 zo0), jo 0 (rs zs25 12002 zo0)]) (rest := []) (pc' := 82) rfl rfl ax_Z_122 rfl rfl (Or.inr (Or.inr ⟨_, _, rfl, zg26⟩)) (Nat.le_of_ble_eq_true rfl) (Nat.le_of_ble_eq_true rfl) (Nat.le_of_ble_eq_true rfl) zg2 trivial trivial rfl W (fun zs27 W => ?_)
        refine J_aload_no (pc' := 83) rfl rfl zg1 rfl ?_
        refine J_iload_n (pc' := 84) rfl rfl rfl ?_
        refine J_putI (G := 12015) (pc' := 87) rfl rfl (Nat.le_of_ble_eq_true rfl) rfl rfl zg1 rfl (fun zs29 ezs29 => ?_)
        replace W := W zs29 ezs29
        refine J_aload_no (pc' := 88) rfl rfl zg1 rfl ?_
        refine J_getO (G := 12007) (pc' := 91) rfl rfl (Nat.le_of_ble_eq_true rfl) rfl zg1 rfl ?_
        refine J_aload_no (pc' := 92) rfl rfl zg1 rfl ?_
        refine J_getO (G := 12012) (pc' := 95) rfl rfl (Nat.le_of_ble_eq_true rfl) rfl zg1 rfl ?_
        refine J_iload_n (pc' := 96) rfl rfl rfl ?_
        refine J_aload_no (pc' := 97) rfl rfl zg1 rfl ?_
        refine J_getI (G := 12009) (pc' := 100) rfl rfl (Nat.le_of_ble_eq_true rfl) rfl zg1 rfl ?_
        refine J_aload_no (pc' := 101) rfl rfl zg1 rfl ?_
        refine J_getI (G := 12010) (pc' := 104) rfl rfl (Nat.le_of_ble_eq_true rfl) rfl zg1 rfl ?_
        refine J_iconst (pc' := 105) rfl (i32_d rfl) rfl ?_
        obtain ⟨zg30, W⟩ := W
        refine J_weak (L' := [some (jo 12 zo0), none, none, none]) (And.intro rfl trivial) ?_
        refine J_callI (as := [jo 7 (rs zs29 12007 zo0), jo 0 (rs zs29 12012 zo0), ji zx1, ji (rs zs29 12009 zo0), ji (rs zs29 12010 zo0), ji 1]) (rest := []) (pc' := 108) rfl rfl ax_Z_158 rfl rfl (Or.inr (Or.inr ⟨_, _, rfl, zg30⟩)) (Nat.le_of_ble_eq_true rfl) (Nat.le_of_ble_eq_true rfl) (Nat.le_of_ble_eq_true rfl) zg2 trivial trivial rfl W (fun zr32 zs31 W => ?_)
        refine J_pop (pc' := 109) rfl rfl rfl ?_
        refine J_aload_no (pc' := 110) rfl rfl zg1 rfl ?_
        refine J_callV (as := [jo 12 zo0]) (rest := []) (pc' := 113) rfl rfl ax_Z_282 rfl rfl (Or.inr (Or.inr ⟨_, _, rfl, zg1⟩)) (Nat.le_of_ble_eq_true rfl) (Nat.le_of_ble_eq_true rfl) (Nat.le_of_ble_eq_true rfl) zg2 trivial trivial rfl W (fun zs33 W => ?_)
        refine J_aload_no (pc' := 114) rfl rfl zg1 rfl ?_
        obtain ⟨zg35, W⟩ := W
        refine J_getA (G := 12011) (pc' := 117) rfl rfl (Nat.le_of_ble_eq_true rfl) rfl zg1 zg35 rfl ?_
        refine J_iconst (pc' := 118) rfl (i32_d rfl) rfl ?_
        obtain ⟨zg36, W⟩ := W
        refine J_iald (pc' := 119) rfl rfl (by decide) zg36 rfl ?_
        exact J_iret rfl rfl ⟨_, rfl, W⟩
theorem wp_Top_ask_31 {n : Nat} {σ : jS} {Q : Int → jS → Prop} {zo0 : Int} {zx1 : Int} {zx2 : Int} (W : 0 ≤ zo0 ∧ (if zx2 = 0 then (∀ zs2, zs2 = ws σ 12008 zo0 (-1) → 0 ≤ rs zs2 12000 zo0 ∧ (∀ zs4, zs4 = ws zs2 8000 (rs zs2 12000 zo0) 0 → Q (-2) zs4)) else 0 ≤ rs σ 12000 zo0 ∧ (∀ zs6, zs6 = ws σ 12008 zo0 (rs σ 8001 (rs σ 12000 zo0)) → 0 ≤ rs zs6 12000 zo0 ∧ (∀ zs8, zs8 = ws zs6 8000 (rs zs6 12000 zo0) 0 → Q (-2) zs8)))) : J n c_Top_ask (some .int) 31 [some (jo 12 zo0), some (ji zx1), some (ji zx2), none] [] σ (qI Q) := by
  refine J_iconst (pc' := 32) rfl (i32_d rfl) rfl ?_
  refine J_istore_n (L' := [some (jo 12 zo0), some (ji zx1), some (ji zx2), some (ji 0)]) (pc' := 33) rfl (Nat.le_of_ble_eq_true rfl) rfl rfl ?_
  obtain ⟨zg1, W⟩ := W
  refine J_aload_no (pc' := 34) rfl rfl zg1 rfl ?_
  refine J_iload_n (pc' := 35) rfl rfl rfl ?_
  refine J_if (P := zx2 = 0) (t := 52) (f := 38) rfl rfl rfl jc_eq W (fun W => ?_) (fun W => ?_)
  · refine J_iconst (pc' := 53) rfl (i32_d rfl) rfl ?_
    refine J_putI (G := 12008) (pc' := 56) rfl rfl (Nat.le_of_ble_eq_true rfl) rfl rfl zg1 rfl (fun zs2 ezs2 => ?_)
    replace W := W zs2 ezs2
    refine J_aload_no (pc' := 57) rfl rfl zg1 rfl ?_
    refine J_getO (G := 12000) (pc' := 60) rfl rfl (Nat.le_of_ble_eq_true rfl) rfl zg1 rfl ?_
    refine J_iconst (pc' := 61) rfl (i32_d rfl) rfl ?_
    obtain ⟨zg3, W⟩ := W
    refine J_putI (G := 8000) (pc' := 64) rfl rfl (Nat.le_of_ble_eq_true rfl) rfl rfl zg3 rfl (fun zs4 ezs4 => ?_)
    replace W := W zs4 ezs4
    refine J_iload_n (pc' := 65) rfl rfl rfl ?_
    refine J_if_f (pc' := 68) rfl rfl rfl ?_
    refine J_bipush (pc' := 70) rfl (by decide) (by decide) rfl ?_
    exact J_iret rfl rfl ⟨_, rfl, W⟩
  · refine J_iload_n (pc' := 39) rfl rfl rfl ?_
    refine J_if_f (pc' := 42) rfl rfl rfl ?_
    refine J_aload_no (pc' := 43) rfl rfl zg1 rfl ?_
    refine J_getO (G := 12000) (pc' := 46) rfl rfl (Nat.le_of_ble_eq_true rfl) rfl zg1 rfl ?_
    obtain ⟨zg5, W⟩ := W
    refine J_getI (G := 8001) (pc' := 49) rfl rfl (Nat.le_of_ble_eq_true rfl) rfl zg5 rfl ?_
    refine J_goto (pc' := 53) rfl rfl ?_
    refine J_putI (G := 12008) (pc' := 56) rfl rfl (Nat.le_of_ble_eq_true rfl) rfl rfl zg1 rfl (fun zs6 ezs6 => ?_)
    replace W := W zs6 ezs6
    refine J_aload_no (pc' := 57) rfl rfl zg1 rfl ?_
    refine J_getO (G := 12000) (pc' := 60) rfl rfl (Nat.le_of_ble_eq_true rfl) rfl zg1 rfl ?_
    refine J_iconst (pc' := 61) rfl (i32_d rfl) rfl ?_
    obtain ⟨zg7, W⟩ := W
    refine J_putI (G := 8000) (pc' := 64) rfl rfl (Nat.le_of_ble_eq_true rfl) rfl rfl zg7 rfl (fun zs8 ezs8 => ?_)
    replace W := W zs8 ezs8
    refine J_iload_n (pc' := 65) rfl rfl rfl ?_
    refine J_if_f (pc' := 68) rfl rfl rfl ?_
    refine J_bipush (pc' := 70) rfl (by decide) (by decide) rfl ?_
    exact J_iret rfl rfl ⟨_, rfl, W⟩
theorem wp_Top_asked {n : Nat} {σ : jS} {Q : Int → jS → Prop} {zo0 : Int} {zx1 : Int} (W : 0 ≤ zo0 ∧ 0 ≤ rl σ 12011 zo0 ∧ 0 < rl σ 12011 zo0 ∧ (if ra σ 12011 zo0 0 = (-1) then Q (-1) σ else (if zx1 < 0 then Q (-1) σ else (if zx1 < 9 then 0 ≤ zx1 ∧ zx1 < rl σ 12011 zo0 ∧ Q (ra σ 12011 zo0 zx1) σ else Q (-1) σ)))) : TrI n i_Top_asked [jo 12 zo0, ji zx1] σ Q := by
  refine Tr_of ax_Z_267 ?_
  show J n c_Top_asked (some .int) 0 [some (jo 12 zo0), some (ji zx1)] [] σ (qI Q)
  obtain ⟨zg1, W⟩ := W
  refine J_aload_no (pc' := 1) rfl rfl zg1 rfl ?_
  obtain ⟨zg2, W⟩ := W
  refine J_getA (G := 12011) (pc' := 4) rfl rfl (Nat.le_of_ble_eq_true rfl) rfl zg1 zg2 rfl ?_
  refine J_iconst (pc' := 5) rfl (i32_d rfl) rfl ?_
  obtain ⟨zg3, W⟩ := W
  refine J_iald (pc' := 6) rfl rfl (by decide) zg3 rfl ?_
  refine J_iconst (pc' := 7) rfl (i32_d rfl) rfl ?_
  refine J_icmp (P := ra σ 12011 zo0 0 = (-1)) (t := 20) (f := 10) rfl rfl rfl jc_eq W (fun W => ?_) (fun W => ?_)
  · refine J_iconst (pc' := 21) rfl (i32_d rfl) rfl ?_
    exact J_iret rfl rfl ⟨_, rfl, W⟩
  · refine J_iload_n (pc' := 11) rfl rfl rfl ?_
    refine J_if (P := zx1 < 0) (t := 20) (f := 14) rfl rfl rfl jc_lt W (fun W => ?_) (fun W => ?_)
    · refine J_iconst (pc' := 21) rfl (i32_d rfl) rfl ?_
      exact J_iret rfl rfl ⟨_, rfl, W⟩
    · refine J_iload_n (pc' := 15) rfl rfl rfl ?_
      refine J_bipush (pc' := 17) rfl (by decide) (by decide) rfl ?_
      refine J_icmp (P := zx1 < 9) (t := 22) (f := 20) rfl rfl rfl jc_lt W (fun W => ?_) (fun W => ?_)
      · refine J_aload_no (pc' := 23) rfl rfl zg1 rfl ?_
        refine J_getA (G := 12011) (pc' := 26) rfl rfl (Nat.le_of_ble_eq_true rfl) rfl zg1 zg2 rfl ?_
        refine J_iload_n (pc' := 27) rfl rfl rfl ?_
        obtain ⟨zg4, W⟩ := W
        obtain ⟨zg5, W⟩ := W
        refine J_iald (pc' := 28) rfl rfl zg4 zg5 rfl ?_
        exact J_iret rfl rfl ⟨_, rfl, W⟩
      · refine J_iconst (pc' := 21) rfl (i32_d rfl) rfl ?_
        exact J_iret rfl rfl ⟨_, rfl, W⟩
theorem wp_Top_node {n : Nat} {σ : jS} {Q : Int → jS → Prop} {zo0 : Int} {zx1 : Int} {zx2 : Int} (W : 0 ≤ zo0 ∧ 0 ≤ rs σ 12014 zo0 ∧ 1 ≤ n ∧ 0 ≤ rs σ 3000 (rs σ 12014 zo0) ∧ TrI (n - 1) i_Nodes_has [jo 6 (rs σ 3000 (rs σ 12014 zo0)), ji zx1] σ (fun zr6 zs5 => (if ¬ zr6 = 0 then (if zx2 < 0 then J n c_Top_node (some .int) 39 [some (jo 12 zo0), some (ji zx1), some (ji zx2)] [] zs5 (qI Q) else (if 5 < zx2 then J n c_Top_node (some .int) 39 [some (jo 12 zo0), some (ji zx1), some (ji zx2)] [] zs5 (qI Q) else 0 ≤ rs zs5 12014 zo0 ∧ 0 ≤ rs zs5 3000 (rs zs5 12014 zo0) ∧ TrI (n - 1) i_Nodes_get [jo 6 (rs zs5 3000 (rs zs5 12014 zo0)), ji zx1, ji zx2] zs5 (fun zr10 zs9 => Q zr10 zs9))) else Q (-2) zs5))) : TrI n i_Top_node [jo 12 zo0, ji zx1, ji zx2] σ Q := by
  refine Tr_of ax_Z_268 ?_
  show J n c_Top_node (some .int) 0 [some (jo 12 zo0), some (ji zx1), some (ji zx2)] [] σ (qI Q)
  obtain ⟨zg1, W⟩ := W
  refine J_aload_no (pc' := 1) rfl rfl zg1 rfl ?_
  refine J_getO (G := 12014) (pc' := 4) rfl rfl (Nat.le_of_ble_eq_true rfl) rfl zg1 rfl ?_
  obtain ⟨zg2, W⟩ := W
  refine J_getO (G := 3000) (pc' := 7) rfl rfl (Nat.le_of_ble_eq_true rfl) rfl zg2 rfl ?_
  refine J_iload_n (pc' := 8) rfl rfl rfl ?_
  obtain ⟨zg3, W⟩ := W
  obtain ⟨zg4, W⟩ := W
  refine J_callI (as := [jo 6 (rs σ 3000 (rs σ 12014 zo0)), ji zx1]) (rest := []) (pc' := 11) rfl rfl ax_Z_151 rfl rfl (Or.inr (Or.inr ⟨_, _, rfl, zg4⟩)) (Nat.le_of_ble_eq_true rfl) (Nat.le_of_ble_eq_true rfl) (Nat.le_of_ble_eq_true rfl) zg3 trivial trivial rfl W (fun zr6 zs5 W => ?_)
  refine J_if (P := ¬ zr6 = 0) (t := 17) (f := 14) rfl rfl rfl jc_ne W (fun W => ?_) (fun W => ?_)
  · refine J_iload_n (pc' := 18) rfl rfl rfl ?_
    refine J_if (P := zx2 < 0) (t := 39) (f := 21) rfl rfl rfl jc_lt W (fun W => ?_) (fun W => ?_)
    · exact W
    · refine J_iload_n (pc' := 22) rfl rfl rfl ?_
      refine J_iconst (pc' := 23) rfl (i32_d rfl) rfl ?_
      refine J_icmp (P := 5 < zx2) (t := 39) (f := 26) rfl rfl rfl jc_gt W (fun W => ?_) (fun W => ?_)
      · exact W
      · refine J_aload_no (pc' := 27) rfl rfl zg1 rfl ?_
        refine J_getO (G := 12014) (pc' := 30) rfl rfl (Nat.le_of_ble_eq_true rfl) rfl zg1 rfl ?_
        obtain ⟨zg7, W⟩ := W
        refine J_getO (G := 3000) (pc' := 33) rfl rfl (Nat.le_of_ble_eq_true rfl) rfl zg7 rfl ?_
        refine J_iload_n (pc' := 34) rfl rfl rfl ?_
        refine J_iload_n (pc' := 35) rfl rfl rfl ?_
        obtain ⟨zg8, W⟩ := W
        refine J_weak (L' := [none, none, none]) trivial ?_
        refine J_callI (as := [jo 6 (rs zs5 3000 (rs zs5 12014 zo0)), ji zx1, ji zx2]) (rest := []) (pc' := 38) rfl rfl ax_Z_152 rfl rfl (Or.inr (Or.inr ⟨_, _, rfl, zg8⟩)) (Nat.le_of_ble_eq_true rfl) (Nat.le_of_ble_eq_true rfl) (Nat.le_of_ble_eq_true rfl) zg3 trivial trivial rfl W (fun zr10 zs9 W => ?_)
        exact J_iret rfl rfl ⟨_, rfl, W⟩
  · refine J_bipush (pc' := 16) rfl (by decide) (by decide) rfl ?_
    exact J_iret rfl rfl ⟨_, rfl, W⟩
theorem wp_Top_node_39 {n : Nat} {σ : jS} {Q : Int → jS → Prop} {zo0 : Int} {zx1 : Int} {zx2 : Int} (W : (if ¬ zx2 = 6 then (if ¬ zx2 = 7 then Q (-2) σ else 0 ≤ zo0 ∧ 0 ≤ rs σ 12014 zo0 ∧ 1 ≤ n ∧ 0 ≤ rs σ 3000 (rs σ 12014 zo0) ∧ TrI (n - 1) i_Nodes_get [jo 6 (rs σ 3000 (rs σ 12014 zo0)), ji zx1, ji 7] σ (fun zr6 zs5 => Q zr6 zs5)) else 0 ≤ zo0 ∧ 0 ≤ rs σ 12014 zo0 ∧ 1 ≤ n ∧ 0 ≤ rs σ 3000 (rs σ 12014 zo0) ∧ TrI (n - 1) i_Nodes_get [jo 6 (rs σ 3000 (rs σ 12014 zo0)), ji zx1, ji 4] σ (fun zr12 zs11 => 0 ≤ rs zs11 12014 zo0 ∧ 0 ≤ rs zs11 3000 (rs zs11 12014 zo0) ∧ TrI (n - 1) i_Nodes_get [jo 6 (rs zs11 3000 (rs zs11 12014 zo0)), ji zx1, ji 5] zs11 (fun zr16 zs15 => i32 (zr12 - zr16) ∧ i32 ((zr12 - zr16) - 1) ∧ Q ((zr12 - zr16) - 1) zs15)))) : J n c_Top_node (some .int) 39 [some (jo 12 zo0), some (ji zx1), some (ji zx2)] [] σ (qI Q) := by
  refine J_iload_n (pc' := 40) rfl rfl rfl ?_
  refine J_bipush (pc' := 42) rfl (by decide) (by decide) rfl ?_
  refine J_icmp (P := ¬ zx2 = 6) (t := 73) (f := 45) rfl rfl rfl jc_ne W (fun W => ?_) (fun W => ?_)
  · refine J_iload_n (pc' := 74) rfl rfl rfl ?_
    refine J_bipush (pc' := 76) rfl (by decide) (by decide) rfl ?_
    refine J_icmp (P := ¬ zx2 = 7) (t := 95) (f := 79) rfl rfl rfl jc_ne W (fun W => ?_) (fun W => ?_)
    · refine J_bipush (pc' := 97) rfl (by decide) (by decide) rfl ?_
      exact J_iret rfl rfl ⟨_, rfl, W⟩
    · obtain ⟨zg1, W⟩ := W
      refine J_aload_no (pc' := 80) rfl rfl zg1 rfl ?_
      refine J_getO (G := 12014) (pc' := 83) rfl rfl (Nat.le_of_ble_eq_true rfl) rfl zg1 rfl ?_
      obtain ⟨zg2, W⟩ := W
      refine J_getO (G := 3000) (pc' := 86) rfl rfl (Nat.le_of_ble_eq_true rfl) rfl zg2 rfl ?_
      refine J_iload_n (pc' := 87) rfl rfl rfl ?_
      refine J_bipush (pc' := 89) rfl (by decide) (by decide) rfl ?_
      obtain ⟨zg3, W⟩ := W
      obtain ⟨zg4, W⟩ := W
      refine J_weak (L' := [none, none, none]) trivial ?_
      refine J_callI (as := [jo 6 (rs σ 3000 (rs σ 12014 zo0)), ji zx1, ji 7]) (rest := []) (pc' := 92) rfl rfl ax_Z_152 rfl rfl (Or.inr (Or.inr ⟨_, _, rfl, zg4⟩)) (Nat.le_of_ble_eq_true rfl) (Nat.le_of_ble_eq_true rfl) (Nat.le_of_ble_eq_true rfl) zg3 trivial trivial rfl W (fun zr6 zs5 W => ?_)
      refine J_goto (pc' := 97) rfl rfl ?_
      exact J_iret rfl rfl ⟨_, rfl, W⟩
  · obtain ⟨zg7, W⟩ := W
    refine J_aload_no (pc' := 46) rfl rfl zg7 rfl ?_
    refine J_getO (G := 12014) (pc' := 49) rfl rfl (Nat.le_of_ble_eq_true rfl) rfl zg7 rfl ?_
    obtain ⟨zg8, W⟩ := W
    refine J_getO (G := 3000) (pc' := 52) rfl rfl (Nat.le_of_ble_eq_true rfl) rfl zg8 rfl ?_
    refine J_iload_n (pc' := 53) rfl rfl rfl ?_
    refine J_iconst (pc' := 54) rfl (i32_d rfl) rfl ?_
    obtain ⟨zg9, W⟩ := W
    obtain ⟨zg10, W⟩ := W
    refine J_weak (L' := [some (jo 12 zo0), some (ji zx1), none]) (And.intro rfl (And.intro rfl trivial)) ?_
    refine J_callI (as := [jo 6 (rs σ 3000 (rs σ 12014 zo0)), ji zx1, ji 4]) (rest := []) (pc' := 57) rfl rfl ax_Z_152 rfl rfl (Or.inr (Or.inr ⟨_, _, rfl, zg10⟩)) (Nat.le_of_ble_eq_true rfl) (Nat.le_of_ble_eq_true rfl) (Nat.le_of_ble_eq_true rfl) zg9 trivial trivial rfl W (fun zr12 zs11 W => ?_)
    refine J_aload_no (pc' := 58) rfl rfl zg7 rfl ?_
    refine J_getO (G := 12014) (pc' := 61) rfl rfl (Nat.le_of_ble_eq_true rfl) rfl zg7 rfl ?_
    obtain ⟨zg13, W⟩ := W
    refine J_getO (G := 3000) (pc' := 64) rfl rfl (Nat.le_of_ble_eq_true rfl) rfl zg13 rfl ?_
    refine J_iload_n (pc' := 65) rfl rfl rfl ?_
    refine J_iconst (pc' := 66) rfl (i32_d rfl) rfl ?_
    obtain ⟨zg14, W⟩ := W
    refine J_weak (L' := [none, none, none]) trivial ?_
    refine J_callI (as := [jo 6 (rs zs11 3000 (rs zs11 12014 zo0)), ji zx1, ji 5]) (rest := [ji zr12]) (pc' := 69) rfl rfl ax_Z_152 rfl rfl (Or.inr (Or.inr ⟨_, _, rfl, zg14⟩)) (Nat.le_of_ble_eq_true rfl) (Nat.le_of_ble_eq_true rfl) (Nat.le_of_ble_eq_true rfl) zg9 trivial trivial rfl W (fun zr16 zs15 W => ?_)
    obtain ⟨zg17, W⟩ := W
    refine J_isub (pc' := 70) rfl zg17 rfl ?_
    refine J_iconst (pc' := 71) rfl (i32_d rfl) rfl ?_
    obtain ⟨zg18, W⟩ := W
    refine J_isub (pc' := 72) rfl zg18 rfl ?_
    exact J_iret rfl rfl ⟨_, rfl, W⟩
theorem wp_Top_writeGoal {n : Nat} {σ : jS} {Q : Int → jS → Prop} {zo0 : Int} {zx1 : Int} (W : 0 ≤ zo0 ∧ 0 ≤ rs σ 12014 zo0 ∧ 1 ≤ n ∧ 0 ≤ rs σ 3000 (rs σ 12014 zo0) ∧ TrI (n - 1) i_Nodes_has [jo 6 (rs σ 3000 (rs σ 12014 zo0)), ji zx1] σ (fun zr6 zs5 => (if ¬ zr6 = 0 then 0 ≤ rs zs5 12014 zo0 ∧ TrV (n - 1) i_Forest_goalInto [jo 3 (rs zs5 12014 zo0), ji zx1, jo 0 (rs zs5 12003 zo0)] zs5 (fun zs8 => TrI (n - 1) i_Top_writeFlat [jo 12 zo0] zs8 (fun zr11 zs10 => Q zr11 zs10)) else Q (-1) zs5))) : TrI n i_Top_writeGoal [jo 12 zo0, ji zx1] σ Q := by
  refine Tr_of ax_Z_269 ?_
  show J n c_Top_writeGoal (some .int) 0 [some (jo 12 zo0), some (ji zx1)] [] σ (qI Q)
  obtain ⟨zg1, W⟩ := W
  refine J_aload_no (pc' := 1) rfl rfl zg1 rfl ?_
  refine J_getO (G := 12014) (pc' := 4) rfl rfl (Nat.le_of_ble_eq_true rfl) rfl zg1 rfl ?_
  obtain ⟨zg2, W⟩ := W
  refine J_getO (G := 3000) (pc' := 7) rfl rfl (Nat.le_of_ble_eq_true rfl) rfl zg2 rfl ?_
  refine J_iload_n (pc' := 8) rfl rfl rfl ?_
  obtain ⟨zg3, W⟩ := W
  obtain ⟨zg4, W⟩ := W
  refine J_callI (as := [jo 6 (rs σ 3000 (rs σ 12014 zo0)), ji zx1]) (rest := []) (pc' := 11) rfl rfl ax_Z_151 rfl rfl (Or.inr (Or.inr ⟨_, _, rfl, zg4⟩)) (Nat.le_of_ble_eq_true rfl) (Nat.le_of_ble_eq_true rfl) (Nat.le_of_ble_eq_true rfl) zg3 trivial trivial rfl W (fun zr6 zs5 W => ?_)
  refine J_if (P := ¬ zr6 = 0) (t := 16) (f := 14) rfl rfl rfl jc_ne W (fun W => ?_) (fun W => ?_)
  · refine J_aload_no (pc' := 17) rfl rfl zg1 rfl ?_
    refine J_getO (G := 12014) (pc' := 20) rfl rfl (Nat.le_of_ble_eq_true rfl) rfl zg1 rfl ?_
    refine J_iload_n (pc' := 21) rfl rfl rfl ?_
    refine J_aload_no (pc' := 22) rfl rfl zg1 rfl ?_
    refine J_getO (G := 12003) (pc' := 25) rfl rfl (Nat.le_of_ble_eq_true rfl) rfl zg1 rfl ?_
    obtain ⟨zg7, W⟩ := W
    refine J_weak (L' := [some (jo 12 zo0), none]) (And.intro rfl trivial) ?_
    refine J_callV (as := [jo 3 (rs zs5 12014 zo0), ji zx1, jo 0 (rs zs5 12003 zo0)]) (rest := []) (pc' := 28) rfl rfl ax_Z_136 rfl rfl (Or.inr (Or.inr ⟨_, _, rfl, zg7⟩)) (Nat.le_of_ble_eq_true rfl) (Nat.le_of_ble_eq_true rfl) (Nat.le_of_ble_eq_true rfl) zg3 trivial trivial rfl W (fun zs8 W => ?_)
    refine J_aload_no (pc' := 29) rfl rfl zg1 rfl ?_
    refine J_weak (L' := [none, none]) trivial ?_
    refine J_callI (as := [jo 12 zo0]) (rest := []) (pc' := 32) rfl rfl ax_Z_281 rfl rfl (Or.inr (Or.inr ⟨_, _, rfl, zg1⟩)) (Nat.le_of_ble_eq_true rfl) (Nat.le_of_ble_eq_true rfl) (Nat.le_of_ble_eq_true rfl) zg3 trivial trivial rfl W (fun zr11 zs10 W => ?_)
    exact J_iret rfl rfl ⟨_, rfl, W⟩
  · refine J_iconst (pc' := 15) rfl (i32_d rfl) rfl ?_
    exact J_iret rfl rfl ⟨_, rfl, W⟩
theorem wp_Top_writeTree {n : Nat} {σ : jS} {Q : Int → jS → Prop} {zo0 : Int} (W : 0 ≤ zo0 ∧ 0 ≤ rs σ 12014 zo0 ∧ 0 ≤ rs σ 3000 (rs σ 12014 zo0) ∧ (if ¬ rs σ 6000 (rs σ 3000 (rs σ 12014 zo0)) = 0 then 1 ≤ n ∧ 0 ≤ rs σ 12004 zo0 ∧ TrV (n - 1) i_Written_clear [jo 11 (rs σ 12004 zo0)] σ (fun zs6 => 0 ≤ rs zs6 12004 zo0 ∧ TrV (n - 1) i_Written_addTree [jo 11 (rs zs6 12004 zo0), jo 3 (rs zs6 12014 zo0)] zs6 (fun zs9 => 0 ≤ rs zs9 12004 zo0 ∧ Q (rs zs9 11000 (rs zs9 12004 zo0)) zs9)) else Q (-1) σ)) : TrI n i_Top_writeTree [jo 12 zo0] σ Q := by
  refine Tr_of ax_Z_270 ?_
  show J n c_Top_writeTree (some .int) 0 [some (jo 12 zo0)] [] σ (qI Q)
  obtain ⟨zg1, W⟩ := W
  refine J_aload_no (pc' := 1) rfl rfl zg1 rfl ?_
  refine J_getO (G := 12014) (pc' := 4) rfl rfl (Nat.le_of_ble_eq_true rfl) rfl zg1 rfl ?_
  obtain ⟨zg2, W⟩ := W
  refine J_getO (G := 3000) (pc' := 7) rfl rfl (Nat.le_of_ble_eq_true rfl) rfl zg2 rfl ?_
  obtain ⟨zg3, W⟩ := W
  refine J_getI (G := 6000) (pc' := 10) rfl rfl (Nat.le_of_ble_eq_true rfl) rfl zg3 rfl ?_
  refine J_if (P := ¬ rs σ 6000 (rs σ 3000 (rs σ 12014 zo0)) = 0) (t := 15) (f := 13) rfl rfl rfl jc_ne W (fun W => ?_) (fun W => ?_)
  · refine J_aload_no (pc' := 16) rfl rfl zg1 rfl ?_
    refine J_getO (G := 12004) (pc' := 19) rfl rfl (Nat.le_of_ble_eq_true rfl) rfl zg1 rfl ?_
    obtain ⟨zg4, W⟩ := W
    obtain ⟨zg5, W⟩ := W
    refine J_callV (as := [jo 11 (rs σ 12004 zo0)]) (rest := []) (pc' := 22) rfl rfl ax_Z_241 rfl rfl (Or.inr (Or.inr ⟨_, _, rfl, zg5⟩)) (Nat.le_of_ble_eq_true rfl) (Nat.le_of_ble_eq_true rfl) (Nat.le_of_ble_eq_true rfl) zg4 trivial trivial rfl W (fun zs6 W => ?_)
    refine J_aload_no (pc' := 23) rfl rfl zg1 rfl ?_
    refine J_getO (G := 12004) (pc' := 26) rfl rfl (Nat.le_of_ble_eq_true rfl) rfl zg1 rfl ?_
    refine J_aload_no (pc' := 27) rfl rfl zg1 rfl ?_
    refine J_getO (G := 12014) (pc' := 30) rfl rfl (Nat.le_of_ble_eq_true rfl) rfl zg1 rfl ?_
    obtain ⟨zg8, W⟩ := W
    refine J_callV (as := [jo 11 (rs zs6 12004 zo0), jo 3 (rs zs6 12014 zo0)]) (rest := []) (pc' := 33) rfl rfl ax_Z_248 rfl rfl (Or.inr (Or.inr ⟨_, _, rfl, zg8⟩)) (Nat.le_of_ble_eq_true rfl) (Nat.le_of_ble_eq_true rfl) (Nat.le_of_ble_eq_true rfl) zg4 trivial trivial rfl W (fun zs9 W => ?_)
    refine J_aload_no (pc' := 34) rfl rfl zg1 rfl ?_
    refine J_getO (G := 12004) (pc' := 37) rfl rfl (Nat.le_of_ble_eq_true rfl) rfl zg1 rfl ?_
    obtain ⟨zg11, W⟩ := W
    refine J_getI (G := 11000) (pc' := 40) rfl rfl (Nat.le_of_ble_eq_true rfl) rfl zg11 rfl ?_
    exact J_iret rfl rfl ⟨_, rfl, W⟩
  · refine J_iconst (pc' := 14) rfl (i32_d rfl) rfl ?_
    exact J_iret rfl rfl ⟨_, rfl, W⟩
theorem wp_Top_writeAnswer {n : Nat} {σ : jS} {Q : Int → jS → Prop} {zo0 : Int} (W : 0 ≤ zo0 ∧ 0 ≤ rl σ 12011 zo0 ∧ 0 < rl σ 12011 zo0 ∧ (if ¬ ra σ 12011 zo0 0 = 2 then 1 ≤ n ∧ TrI (n - 1) i_Top_writeGoal [jo 12 zo0, ji 0] σ (fun zr6 zs5 => Q zr6 zs5) else 1 ≤ n ∧ 0 ≤ rs σ 12003 zo0 ∧ TrV (n - 1) i_Flat_take [jo 0 (rs σ 12003 zo0), jo 0 (rs σ 12013 zo0)] σ (fun zs9 => TrI (n - 1) i_Top_writeFlat [jo 12 zo0] zs9 (fun zr12 zs11 => Q zr12 zs11)))) : TrI n i_Top_writeAnswer [jo 12 zo0] σ Q := by
  refine Tr_of ax_Z_271 ?_
  show J n c_Top_writeAnswer (some .int) 0 [some (jo 12 zo0)] [] σ (qI Q)
  obtain ⟨zg1, W⟩ := W
  refine J_aload_no (pc' := 1) rfl rfl zg1 rfl ?_
  obtain ⟨zg2, W⟩ := W
  refine J_getA (G := 12011) (pc' := 4) rfl rfl (Nat.le_of_ble_eq_true rfl) rfl zg1 zg2 rfl ?_
  refine J_iconst (pc' := 5) rfl (i32_d rfl) rfl ?_
  obtain ⟨zg3, W⟩ := W
  refine J_iald (pc' := 6) rfl rfl (by decide) zg3 rfl ?_
  refine J_iconst (pc' := 7) rfl (i32_d rfl) rfl ?_
  refine J_icmp (P := ¬ ra σ 12011 zo0 0 = 2) (t := 26) (f := 10) rfl rfl rfl jc_ne W (fun W => ?_) (fun W => ?_)
  · refine J_aload_no (pc' := 27) rfl rfl zg1 rfl ?_
    refine J_iconst (pc' := 28) rfl (i32_d rfl) rfl ?_
    obtain ⟨zg4, W⟩ := W
    refine J_weak (L' := [none]) trivial ?_
    refine J_callI (as := [jo 12 zo0, ji 0]) (rest := []) (pc' := 31) rfl rfl ax_Z_269 rfl rfl (Or.inr (Or.inr ⟨_, _, rfl, zg1⟩)) (Nat.le_of_ble_eq_true rfl) (Nat.le_of_ble_eq_true rfl) (Nat.le_of_ble_eq_true rfl) zg4 trivial trivial rfl W (fun zr6 zs5 W => ?_)
    exact J_iret rfl rfl ⟨_, rfl, W⟩
  · refine J_aload_no (pc' := 11) rfl rfl zg1 rfl ?_
    refine J_getO (G := 12003) (pc' := 14) rfl rfl (Nat.le_of_ble_eq_true rfl) rfl zg1 rfl ?_
    refine J_aload_no (pc' := 15) rfl rfl zg1 rfl ?_
    refine J_getO (G := 12013) (pc' := 18) rfl rfl (Nat.le_of_ble_eq_true rfl) rfl zg1 rfl ?_
    obtain ⟨zg7, W⟩ := W
    obtain ⟨zg8, W⟩ := W
    refine J_callV (as := [jo 0 (rs σ 12003 zo0), jo 0 (rs σ 12013 zo0)]) (rest := []) (pc' := 21) rfl rfl ax_Z_122 rfl rfl (Or.inr (Or.inr ⟨_, _, rfl, zg8⟩)) (Nat.le_of_ble_eq_true rfl) (Nat.le_of_ble_eq_true rfl) (Nat.le_of_ble_eq_true rfl) zg7 trivial trivial rfl W (fun zs9 W => ?_)
    refine J_aload_no (pc' := 22) rfl rfl zg1 rfl ?_
    refine J_weak (L' := [none]) trivial ?_
    refine J_callI (as := [jo 12 zo0]) (rest := []) (pc' := 25) rfl rfl ax_Z_281 rfl rfl (Or.inr (Or.inr ⟨_, _, rfl, zg1⟩)) (Nat.le_of_ble_eq_true rfl) (Nat.le_of_ble_eq_true rfl) (Nat.le_of_ble_eq_true rfl) zg7 trivial trivial rfl W (fun zr12 zs11 W => ?_)
    exact J_iret rfl rfl ⟨_, rfl, W⟩
theorem wp_Top_both {n : Nat} {σ : jS} {Q : Int → jS → Prop} {zo0 : Int} {zx1 : Int} (W : 0 ≤ zo0 ∧ 0 ≤ rl σ 12011 zo0 ∧ 0 < rl σ 12011 zo0 ∧ (if ¬ ra σ 12011 zo0 0 = 2 then Q (-1) σ else (if zx1 < 0 then Q (-1) σ else (if zx1 ≤ 1 then (if ¬ zx1 = 0 then Q (rs σ 12017 zo0) σ else Q (rs σ 12016 zo0) σ) else Q (-1) σ)))) : TrI n i_Top_both [jo 12 zo0, ji zx1] σ Q := by
  refine Tr_of ax_Z_272 ?_
  show J n c_Top_both (some .int) 0 [some (jo 12 zo0), some (ji zx1)] [] σ (qI Q)
  obtain ⟨zg1, W⟩ := W
  refine J_aload_no (pc' := 1) rfl rfl zg1 rfl ?_
  obtain ⟨zg2, W⟩ := W
  refine J_getA (G := 12011) (pc' := 4) rfl rfl (Nat.le_of_ble_eq_true rfl) rfl zg1 zg2 rfl ?_
  refine J_iconst (pc' := 5) rfl (i32_d rfl) rfl ?_
  obtain ⟨zg3, W⟩ := W
  refine J_iald (pc' := 6) rfl rfl (by decide) zg3 rfl ?_
  refine J_iconst (pc' := 7) rfl (i32_d rfl) rfl ?_
  refine J_icmp (P := ¬ ra σ 12011 zo0 0 = 2) (t := 19) (f := 10) rfl rfl rfl jc_ne W (fun W => ?_) (fun W => ?_)
  · refine J_iconst (pc' := 20) rfl (i32_d rfl) rfl ?_
    exact J_iret rfl rfl ⟨_, rfl, W⟩
  · refine J_iload_n (pc' := 11) rfl rfl rfl ?_
    refine J_if (P := zx1 < 0) (t := 19) (f := 14) rfl rfl rfl jc_lt W (fun W => ?_) (fun W => ?_)
    · refine J_iconst (pc' := 20) rfl (i32_d rfl) rfl ?_
      exact J_iret rfl rfl ⟨_, rfl, W⟩
    · refine J_iload_n (pc' := 15) rfl rfl rfl ?_
      refine J_iconst (pc' := 16) rfl (i32_d rfl) rfl ?_
      refine J_icmp (P := zx1 ≤ 1) (t := 21) (f := 19) rfl rfl rfl jc_le W (fun W => ?_) (fun W => ?_)
      · refine J_iload_n (pc' := 22) rfl rfl rfl ?_
        refine J_if (P := ¬ zx1 = 0) (t := 32) (f := 25) rfl rfl rfl jc_ne W (fun W => ?_) (fun W => ?_)
        · refine J_aload_no (pc' := 33) rfl rfl zg1 rfl ?_
          refine J_getI (G := 12017) (pc' := 36) rfl rfl (Nat.le_of_ble_eq_true rfl) rfl zg1 rfl ?_
          exact J_iret rfl rfl ⟨_, rfl, W⟩
        · refine J_aload_no (pc' := 26) rfl rfl zg1 rfl ?_
          refine J_getI (G := 12016) (pc' := 29) rfl rfl (Nat.le_of_ble_eq_true rfl) rfl zg1 rfl ?_
          refine J_goto (pc' := 36) rfl rfl ?_
          exact J_iret rfl rfl ⟨_, rfl, W⟩
      · refine J_iconst (pc' := 20) rfl (i32_d rfl) rfl ?_
        exact J_iret rfl rfl ⟨_, rfl, W⟩
theorem wp_Top_octet {n : Nat} {σ : jS} {Q : Int → jS → Prop} {zo0 : Int} {zx1 : Int} (W : 0 ≤ zo0 ∧ 1 ≤ n ∧ 0 ≤ rs σ 12004 zo0 ∧ TrI (n - 1) i_Written_at [jo 11 (rs σ 12004 zo0), ji zx1] σ (fun zr5 zs4 => Q zr5 zs4)) : TrI n i_Top_octet [jo 12 zo0, ji zx1] σ Q := by
  refine Tr_of ax_Z_273 ?_
  show J n c_Top_octet (some .int) 0 [some (jo 12 zo0), some (ji zx1)] [] σ (qI Q)
  obtain ⟨zg1, W⟩ := W
  refine J_aload_no (pc' := 1) rfl rfl zg1 rfl ?_
  refine J_getO (G := 12004) (pc' := 4) rfl rfl (Nat.le_of_ble_eq_true rfl) rfl zg1 rfl ?_
  refine J_iload_n (pc' := 5) rfl rfl rfl ?_
  obtain ⟨zg2, W⟩ := W
  obtain ⟨zg3, W⟩ := W
  refine J_weak (L' := [none, none]) trivial ?_
  refine J_callI (as := [jo 11 (rs σ 12004 zo0), ji zx1]) (rest := []) (pc' := 8) rfl rfl ax_Z_242 rfl rfl (Or.inr (Or.inr ⟨_, _, rfl, zg3⟩)) (Nat.le_of_ble_eq_true rfl) (Nat.le_of_ble_eq_true rfl) (Nat.le_of_ble_eq_true rfl) zg2 trivial trivial rfl W (fun zr5 zs4 W => ?_)
  exact J_iret rfl rfl ⟨_, rfl, W⟩
theorem wp_Top_without {n : Nat} {σ : jS} {Q : Int → jS → Prop} {zo0 : Int} {zx1 : Int} (W : 0 ≤ zo0 ∧ 0 ≤ rl σ 12011 zo0 ∧ 0 < rl σ 12011 zo0 ∧ (if ra σ 12011 zo0 0 = (-1) then Q (-1) σ else 1 ≤ n ∧ 0 ≤ rs σ 12005 zo0 ∧ TrI (n - 1) i_Text_hasGiven [jo 10 (rs σ 12005 zo0), ji zx1] σ (fun zr7 zs6 => (if ¬ zr7 = 0 then 0 ≤ rs zs6 12007 zo0 ∧ TrI (n - 1) i_Search_run [jo 7 (rs zs6 12007 zo0), jo 0 (rs zs6 12012 zo0), ji (rs zs6 12015 zo0), ji (bOr (rs zs6 12009 zo0) (bShl 1 zx1)), ji (rs zs6 12010 zo0), ji 0] zs6 (fun zr10 zs9 => Q zr10 zs9) else Q (-1) zs6)))) : TrI n i_Top_without [jo 12 zo0, ji zx1] σ Q := by
  refine Tr_of ax_Z_274 ?_
  show J n c_Top_without (some .int) 0 [some (jo 12 zo0), some (ji zx1)] [] σ (qI Q)
  obtain ⟨zg1, W⟩ := W
  refine J_aload_no (pc' := 1) rfl rfl zg1 rfl ?_
  obtain ⟨zg2, W⟩ := W
  refine J_getA (G := 12011) (pc' := 4) rfl rfl (Nat.le_of_ble_eq_true rfl) rfl zg1 zg2 rfl ?_
  refine J_iconst (pc' := 5) rfl (i32_d rfl) rfl ?_
  obtain ⟨zg3, W⟩ := W
  refine J_iald (pc' := 6) rfl rfl (by decide) zg3 rfl ?_
  refine J_iconst (pc' := 7) rfl (i32_d rfl) rfl ?_
  refine J_icmp (P := ra σ 12011 zo0 0 = (-1)) (t := 21) (f := 10) rfl rfl rfl jc_eq W (fun W => ?_) (fun W => ?_)
  · refine J_iconst (pc' := 22) rfl (i32_d rfl) rfl ?_
    exact J_iret rfl rfl ⟨_, rfl, W⟩
  · refine J_aload_no (pc' := 11) rfl rfl zg1 rfl ?_
    refine J_getO (G := 12005) (pc' := 14) rfl rfl (Nat.le_of_ble_eq_true rfl) rfl zg1 rfl ?_
    refine J_iload_n (pc' := 15) rfl rfl rfl ?_
    obtain ⟨zg4, W⟩ := W
    obtain ⟨zg5, W⟩ := W
    refine J_callI (as := [jo 10 (rs σ 12005 zo0), ji zx1]) (rest := []) (pc' := 18) rfl rfl ax_Z_225 rfl rfl (Or.inr (Or.inr ⟨_, _, rfl, zg5⟩)) (Nat.le_of_ble_eq_true rfl) (Nat.le_of_ble_eq_true rfl) (Nat.le_of_ble_eq_true rfl) zg4 trivial trivial rfl W (fun zr7 zs6 W => ?_)
    refine J_if (P := ¬ zr7 = 0) (t := 23) (f := 21) rfl rfl rfl jc_ne W (fun W => ?_) (fun W => ?_)
    · refine J_aload_no (pc' := 24) rfl rfl zg1 rfl ?_
      refine J_getO (G := 12007) (pc' := 27) rfl rfl (Nat.le_of_ble_eq_true rfl) rfl zg1 rfl ?_
      refine J_aload_no (pc' := 28) rfl rfl zg1 rfl ?_
      refine J_getO (G := 12012) (pc' := 31) rfl rfl (Nat.le_of_ble_eq_true rfl) rfl zg1 rfl ?_
      refine J_aload_no (pc' := 32) rfl rfl zg1 rfl ?_
      refine J_getI (G := 12015) (pc' := 35) rfl rfl (Nat.le_of_ble_eq_true rfl) rfl zg1 rfl ?_
      refine J_aload_no (pc' := 36) rfl rfl zg1 rfl ?_
      refine J_getI (G := 12009) (pc' := 39) rfl rfl (Nat.le_of_ble_eq_true rfl) rfl zg1 rfl ?_
      refine J_iconst (pc' := 40) rfl (i32_d rfl) rfl ?_
      refine J_iload_n (pc' := 41) rfl rfl rfl ?_
      refine J_ishl (pc' := 42) rfl rfl ?_
      refine J_ior (pc' := 43) rfl rfl ?_
      refine J_aload_no (pc' := 44) rfl rfl zg1 rfl ?_
      refine J_getI (G := 12010) (pc' := 47) rfl rfl (Nat.le_of_ble_eq_true rfl) rfl zg1 rfl ?_
      refine J_iconst (pc' := 48) rfl (i32_d rfl) rfl ?_
      obtain ⟨zg8, W⟩ := W
      refine J_weak (L' := [none, none]) trivial ?_
      refine J_callI (as := [jo 7 (rs zs6 12007 zo0), jo 0 (rs zs6 12012 zo0), ji (rs zs6 12015 zo0), ji (bOr (rs zs6 12009 zo0) (bShl 1 zx1)), ji (rs zs6 12010 zo0), ji 0]) (rest := []) (pc' := 51) rfl rfl ax_Z_158 rfl rfl (Or.inr (Or.inr ⟨_, _, rfl, zg8⟩)) (Nat.le_of_ble_eq_true rfl) (Nat.le_of_ble_eq_true rfl) (Nat.le_of_ble_eq_true rfl) zg4 trivial trivial rfl W (fun zr10 zs9 W => ?_)
      exact J_iret rfl rfl ⟨_, rfl, W⟩
    · refine J_iconst (pc' := 22) rfl (i32_d rfl) rfl ?_
      exact J_iret rfl rfl ⟨_, rfl, W⟩
theorem wp_Top_needed {n : Nat} {σ : jS} {Q : Int → jS → Prop} {zo0 : Int} (W : 0 ≤ zo0 ∧ 0 ≤ rl σ 12011 zo0 ∧ 0 < rl σ 12011 zo0 ∧ (if ra σ 12011 zo0 0 = 0 then J n c_Top_needed (some .int) 15 [some (jo 12 zo0), some (ji 0), some (ji 0)] [] σ (qI Q) else Q (-1) σ)) : TrI n i_Top_needed [jo 12 zo0] σ Q := by
  refine Tr_of ax_Z_275 ?_
  show J n c_Top_needed (some .int) 0 [some (jo 12 zo0), none, none] [] σ (qI Q)
  obtain ⟨zg1, W⟩ := W
  refine J_aload_no (pc' := 1) rfl rfl zg1 rfl ?_
  obtain ⟨zg2, W⟩ := W
  refine J_getA (G := 12011) (pc' := 4) rfl rfl (Nat.le_of_ble_eq_true rfl) rfl zg1 zg2 rfl ?_
  refine J_iconst (pc' := 5) rfl (i32_d rfl) rfl ?_
  obtain ⟨zg3, W⟩ := W
  refine J_iald (pc' := 6) rfl rfl (by decide) zg3 rfl ?_
  refine J_if (P := ra σ 12011 zo0 0 = 0) (t := 11) (f := 9) rfl rfl rfl jc_eq W (fun W => ?_) (fun W => ?_)
  · refine J_iconst (pc' := 12) rfl (i32_d rfl) rfl ?_
    refine J_istore_n (L' := [some (jo 12 zo0), some (ji 0), none]) (pc' := 13) rfl (Nat.le_of_ble_eq_true rfl) rfl rfl ?_
    refine J_iconst (pc' := 14) rfl (i32_d rfl) rfl ?_
    refine J_istore_n (L' := [some (jo 12 zo0), some (ji 0), some (ji 0)]) (pc' := 15) rfl (Nat.le_of_ble_eq_true rfl) rfl rfl ?_
    exact W
  · refine J_iconst (pc' := 10) rfl (i32_d rfl) rfl ?_
    exact J_iret rfl rfl ⟨_, rfl, W⟩
theorem wp_Top_needed_15 {n : Nat} {σ : jS} {Q : Int → jS → Prop} {zo0 : Int} {zx1 : Int} {zx2 : Int} (W : 0 ≤ zo0 ∧ 0 ≤ rs σ 12005 zo0 ∧ (if rs σ 10001 (rs σ 12005 zo0) ≤ zx2 then Q zx1 σ else 1 ≤ n ∧ 0 ≤ rs σ 12007 zo0 ∧ TrI (n - 1) i_Search_run [jo 7 (rs σ 12007 zo0), jo 0 (rs σ 12012 zo0), ji (rs σ 12015 zo0), ji (bOr (rs σ 12009 zo0) (bShl 1 zx2)), ji (rs σ 12010 zo0), ji 0] σ (fun zr6 zs5 => (if zr6 = 0 then i32 (zx2 + 1) ∧ J n c_Top_needed (some .int) 15 [some (jo 12 zo0), some (ji zx1), some (ji (zx2 + 1))] [] zs5 (qI Q) else i32 (zx2 + 1) ∧ J n c_Top_needed (some .int) 15 [some (jo 12 zo0), some (ji (bOr zx1 (bShl 1 zx2))), some (ji (zx2 + 1))] [] zs5 (qI Q))))) : J n c_Top_needed (some .int) 15 [some (jo 12 zo0), some (ji zx1), some (ji zx2)] [] σ (qI Q) := by
  refine J_iload_n (pc' := 16) rfl rfl rfl ?_
  obtain ⟨zg1, W⟩ := W
  refine J_aload_no (pc' := 17) rfl rfl zg1 rfl ?_
  refine J_getO (G := 12005) (pc' := 20) rfl rfl (Nat.le_of_ble_eq_true rfl) rfl zg1 rfl ?_
  obtain ⟨zg2, W⟩ := W
  refine J_getI (G := 10001) (pc' := 23) rfl rfl (Nat.le_of_ble_eq_true rfl) rfl zg2 rfl ?_
  refine J_icmp (P := rs σ 10001 (rs σ 12005 zo0) ≤ zx2) (t := 69) (f := 26) rfl rfl rfl jc_ge W (fun W => ?_) (fun W => ?_)
  · refine J_iload_n (pc' := 70) rfl rfl rfl ?_
    exact J_iret rfl rfl ⟨_, rfl, W⟩
  · refine J_aload_no (pc' := 27) rfl rfl zg1 rfl ?_
    refine J_getO (G := 12007) (pc' := 30) rfl rfl (Nat.le_of_ble_eq_true rfl) rfl zg1 rfl ?_
    refine J_aload_no (pc' := 31) rfl rfl zg1 rfl ?_
    refine J_getO (G := 12012) (pc' := 34) rfl rfl (Nat.le_of_ble_eq_true rfl) rfl zg1 rfl ?_
    refine J_aload_no (pc' := 35) rfl rfl zg1 rfl ?_
    refine J_getI (G := 12015) (pc' := 38) rfl rfl (Nat.le_of_ble_eq_true rfl) rfl zg1 rfl ?_
    refine J_aload_no (pc' := 39) rfl rfl zg1 rfl ?_
    refine J_getI (G := 12009) (pc' := 42) rfl rfl (Nat.le_of_ble_eq_true rfl) rfl zg1 rfl ?_
    refine J_iconst (pc' := 43) rfl (i32_d rfl) rfl ?_
    refine J_iload_n (pc' := 44) rfl rfl rfl ?_
    refine J_ishl (pc' := 45) rfl rfl ?_
    refine J_ior (pc' := 46) rfl rfl ?_
    refine J_aload_no (pc' := 47) rfl rfl zg1 rfl ?_
    refine J_getI (G := 12010) (pc' := 50) rfl rfl (Nat.le_of_ble_eq_true rfl) rfl zg1 rfl ?_
    refine J_iconst (pc' := 51) rfl (i32_d rfl) rfl ?_
    obtain ⟨zg3, W⟩ := W
    obtain ⟨zg4, W⟩ := W
    refine J_callI (as := [jo 7 (rs σ 12007 zo0), jo 0 (rs σ 12012 zo0), ji (rs σ 12015 zo0), ji (bOr (rs σ 12009 zo0) (bShl 1 zx2)), ji (rs σ 12010 zo0), ji 0]) (rest := []) (pc' := 54) rfl rfl ax_Z_158 rfl rfl (Or.inr (Or.inr ⟨_, _, rfl, zg4⟩)) (Nat.le_of_ble_eq_true rfl) (Nat.le_of_ble_eq_true rfl) (Nat.le_of_ble_eq_true rfl) zg3 trivial trivial rfl W (fun zr6 zs5 W => ?_)
    refine J_if (P := zr6 = 0) (t := 63) (f := 57) rfl rfl rfl jc_eq W (fun W => ?_) (fun W => ?_)
    · obtain ⟨zg7, W⟩ := W
      refine J_iinc (L' := [some (jo 12 zo0), some (ji zx1), some (ji (zx2 + 1))]) (pc' := 66) rfl rfl zg7 rfl rfl ?_
      refine J_goto (pc' := 15) rfl rfl ?_
      exact W
    · refine J_iload_n (pc' := 58) rfl rfl rfl ?_
      refine J_iconst (pc' := 59) rfl (i32_d rfl) rfl ?_
      refine J_iload_n (pc' := 60) rfl rfl rfl ?_
      refine J_ishl (pc' := 61) rfl rfl ?_
      refine J_ior (pc' := 62) rfl rfl ?_
      refine J_istore_n (L' := [some (jo 12 zo0), some (ji (bOr zx1 (bShl 1 zx2))), some (ji zx2)]) (pc' := 63) rfl (Nat.le_of_ble_eq_true rfl) rfl rfl ?_
      obtain ⟨zg8, W⟩ := W
      refine J_iinc (L' := [some (jo 12 zo0), some (ji (bOr zx1 (bShl 1 zx2))), some (ji (zx2 + 1))]) (pc' := 66) rfl rfl zg8 rfl rfl ?_
      refine J_goto (pc' := 15) rfl rfl ?_
      exact W
theorem wp_Top_mends {n : Nat} {σ : jS} {Q : Int → jS → Prop} {zo0 : Int} (W : 0 ≤ zo0 ∧ 0 ≤ rl σ 12011 zo0 ∧ 0 < rl σ 12011 zo0 ∧ (if ra σ 12011 zo0 0 = (-1) then Q (-1) σ else (if ¬ ra σ 12011 zo0 0 = 0 then J n c_Top_mends (some .int) 25 [some (jo 12 zo0), some (ji 0), some (ji 0)] [] σ (qI Q) else Q (-1) σ))) : TrI n i_Top_mends [jo 12 zo0] σ Q := by
  refine Tr_of ax_Z_276 ?_
  show J n c_Top_mends (some .int) 0 [some (jo 12 zo0), none, none] [] σ (qI Q)
  obtain ⟨zg1, W⟩ := W
  refine J_aload_no (pc' := 1) rfl rfl zg1 rfl ?_
  obtain ⟨zg2, W⟩ := W
  refine J_getA (G := 12011) (pc' := 4) rfl rfl (Nat.le_of_ble_eq_true rfl) rfl zg1 zg2 rfl ?_
  refine J_iconst (pc' := 5) rfl (i32_d rfl) rfl ?_
  obtain ⟨zg3, W⟩ := W
  refine J_iald (pc' := 6) rfl rfl (by decide) zg3 rfl ?_
  refine J_iconst (pc' := 7) rfl (i32_d rfl) rfl ?_
  refine J_icmp (P := ra σ 12011 zo0 0 = (-1)) (t := 19) (f := 10) rfl rfl rfl jc_eq W (fun W => ?_) (fun W => ?_)
  · refine J_iconst (pc' := 20) rfl (i32_d rfl) rfl ?_
    exact J_iret rfl rfl ⟨_, rfl, W⟩
  · refine J_aload_no (pc' := 11) rfl rfl zg1 rfl ?_
    refine J_getA (G := 12011) (pc' := 14) rfl rfl (Nat.le_of_ble_eq_true rfl) rfl zg1 zg2 rfl ?_
    refine J_iconst (pc' := 15) rfl (i32_d rfl) rfl ?_
    refine J_iald (pc' := 16) rfl rfl (by decide) zg3 rfl ?_
    refine J_if (P := ¬ ra σ 12011 zo0 0 = 0) (t := 21) (f := 19) rfl rfl rfl jc_ne W (fun W => ?_) (fun W => ?_)
    · refine J_iconst (pc' := 22) rfl (i32_d rfl) rfl ?_
      refine J_istore_n (L' := [some (jo 12 zo0), some (ji 0), none]) (pc' := 23) rfl (Nat.le_of_ble_eq_true rfl) rfl rfl ?_
      refine J_iconst (pc' := 24) rfl (i32_d rfl) rfl ?_
      refine J_istore_n (L' := [some (jo 12 zo0), some (ji 0), some (ji 0)]) (pc' := 25) rfl (Nat.le_of_ble_eq_true rfl) rfl rfl ?_
      exact W
    · refine J_iconst (pc' := 20) rfl (i32_d rfl) rfl ?_
      exact J_iret rfl rfl ⟨_, rfl, W⟩
theorem wp_Top_mends_25 {n : Nat} {σ : jS} {Q : Int → jS → Prop} {zo0 : Int} {zx1 : Int} {zx2 : Int} (W : 0 ≤ zo0 ∧ 0 ≤ rs σ 12005 zo0 ∧ (if rs σ 10001 (rs σ 12005 zo0) ≤ zx2 then Q zx1 σ else 1 ≤ n ∧ TrI (n - 1) i_Top_isIn [ji (rs σ 12009 zo0), ji zx2] σ (fun zr5 zs4 => (if zr5 = 0 then i32 (zx2 + 1) ∧ J n c_Top_mends (some .int) 25 [some (jo 12 zo0), some (ji zx1), some (ji (zx2 + 1))] [] zs4 (qI Q) else 0 ≤ rs zs4 12007 zo0 ∧ TrI (n - 1) i_Search_run [jo 7 (rs zs4 12007 zo0), jo 0 (rs zs4 12012 zo0), ji (rs zs4 12015 zo0), ji (bAnd (rs zs4 12009 zo0) (bXor (bShl 1 zx2) (-1))), ji (rs zs4 12010 zo0), ji 0] zs4 (fun zr9 zs8 => (if ¬ zr9 = 0 then i32 (zx2 + 1) ∧ J n c_Top_mends (some .int) 25 [some (jo 12 zo0), some (ji zx1), some (ji (zx2 + 1))] [] zs8 (qI Q) else i32 (zx2 + 1) ∧ J n c_Top_mends (some .int) 25 [some (jo 12 zo0), some (ji (bOr zx1 (bShl 1 zx2))), some (ji (zx2 + 1))] [] zs8 (qI Q))))))) : J n c_Top_mends (some .int) 25 [some (jo 12 zo0), some (ji zx1), some (ji zx2)] [] σ (qI Q) := by
  refine J_iload_n (pc' := 26) rfl rfl rfl ?_
  obtain ⟨zg1, W⟩ := W
  refine J_aload_no (pc' := 27) rfl rfl zg1 rfl ?_
  refine J_getO (G := 12005) (pc' := 30) rfl rfl (Nat.le_of_ble_eq_true rfl) rfl zg1 rfl ?_
  obtain ⟨zg2, W⟩ := W
  refine J_getI (G := 10001) (pc' := 33) rfl rfl (Nat.le_of_ble_eq_true rfl) rfl zg2 rfl ?_
  refine J_icmp (P := rs σ 10001 (rs σ 12005 zo0) ≤ zx2) (t := 92) (f := 36) rfl rfl rfl jc_ge W (fun W => ?_) (fun W => ?_)
  · refine J_iload_n (pc' := 93) rfl rfl rfl ?_
    exact J_iret rfl rfl ⟨_, rfl, W⟩
  · refine J_aload_no (pc' := 37) rfl rfl zg1 rfl ?_
    refine J_getI (G := 12009) (pc' := 40) rfl rfl (Nat.le_of_ble_eq_true rfl) rfl zg1 rfl ?_
    refine J_iload_n (pc' := 41) rfl rfl rfl ?_
    obtain ⟨zg3, W⟩ := W
    refine J_callI (as := [ji (rs σ 12009 zo0), ji zx2]) (rest := []) (pc' := 44) rfl rfl ax_Z_279 rfl rfl (Or.inl rfl) (Nat.le_of_ble_eq_true rfl) (Nat.le_of_ble_eq_true rfl) (Nat.le_of_ble_eq_true rfl) zg3 trivial trivial rfl W (fun zr5 zs4 W => ?_)
    refine J_if (P := zr5 = 0) (t := 86) (f := 47) rfl rfl rfl jc_eq W (fun W => ?_) (fun W => ?_)
    · obtain ⟨zg6, W⟩ := W
      refine J_iinc (L' := [some (jo 12 zo0), some (ji zx1), some (ji (zx2 + 1))]) (pc' := 89) rfl rfl zg6 rfl rfl ?_
      refine J_goto (pc' := 25) rfl rfl ?_
      exact W
    · refine J_aload_no (pc' := 48) rfl rfl zg1 rfl ?_
      refine J_getO (G := 12007) (pc' := 51) rfl rfl (Nat.le_of_ble_eq_true rfl) rfl zg1 rfl ?_
      refine J_aload_no (pc' := 52) rfl rfl zg1 rfl ?_
      refine J_getO (G := 12012) (pc' := 55) rfl rfl (Nat.le_of_ble_eq_true rfl) rfl zg1 rfl ?_
      refine J_aload_no (pc' := 56) rfl rfl zg1 rfl ?_
      refine J_getI (G := 12015) (pc' := 59) rfl rfl (Nat.le_of_ble_eq_true rfl) rfl zg1 rfl ?_
      refine J_aload_no (pc' := 60) rfl rfl zg1 rfl ?_
      refine J_getI (G := 12009) (pc' := 63) rfl rfl (Nat.le_of_ble_eq_true rfl) rfl zg1 rfl ?_
      refine J_iconst (pc' := 64) rfl (i32_d rfl) rfl ?_
      refine J_iload_n (pc' := 65) rfl rfl rfl ?_
      refine J_ishl (pc' := 66) rfl rfl ?_
      refine J_iconst (pc' := 67) rfl (i32_d rfl) rfl ?_
      refine J_ixor (pc' := 68) rfl rfl ?_
      refine J_iand (pc' := 69) rfl rfl ?_
      refine J_aload_no (pc' := 70) rfl rfl zg1 rfl ?_
      refine J_getI (G := 12010) (pc' := 73) rfl rfl (Nat.le_of_ble_eq_true rfl) rfl zg1 rfl ?_
      refine J_iconst (pc' := 74) rfl (i32_d rfl) rfl ?_
      obtain ⟨zg7, W⟩ := W
      refine J_callI (as := [jo 7 (rs zs4 12007 zo0), jo 0 (rs zs4 12012 zo0), ji (rs zs4 12015 zo0), ji (bAnd (rs zs4 12009 zo0) (bXor (bShl 1 zx2) (-1))), ji (rs zs4 12010 zo0), ji 0]) (rest := []) (pc' := 77) rfl rfl ax_Z_158 rfl rfl (Or.inr (Or.inr ⟨_, _, rfl, zg7⟩)) (Nat.le_of_ble_eq_true rfl) (Nat.le_of_ble_eq_true rfl) (Nat.le_of_ble_eq_true rfl) zg3 trivial trivial rfl W (fun zr9 zs8 W => ?_)
      refine J_if (P := ¬ zr9 = 0) (t := 86) (f := 80) rfl rfl rfl jc_ne W (fun W => ?_) (fun W => ?_)
      · obtain ⟨zg10, W⟩ := W
        refine J_iinc (L' := [some (jo 12 zo0), some (ji zx1), some (ji (zx2 + 1))]) (pc' := 89) rfl rfl zg10 rfl rfl ?_
        refine J_goto (pc' := 25) rfl rfl ?_
        exact W
      · refine J_iload_n (pc' := 81) rfl rfl rfl ?_
        refine J_iconst (pc' := 82) rfl (i32_d rfl) rfl ?_
        refine J_iload_n (pc' := 83) rfl rfl rfl ?_
        refine J_ishl (pc' := 84) rfl rfl ?_
        refine J_ior (pc' := 85) rfl rfl ?_
        refine J_istore_n (L' := [some (jo 12 zo0), some (ji (bOr zx1 (bShl 1 zx2))), some (ji zx2)]) (pc' := 86) rfl (Nat.le_of_ble_eq_true rfl) rfl rfl ?_
        obtain ⟨zg11, W⟩ := W
        refine J_iinc (L' := [some (jo 12 zo0), some (ji (bOr zx1 (bShl 1 zx2))), some (ji (zx2 + 1))]) (pc' := 89) rfl rfl zg11 rfl rfl ?_
        refine J_goto (pc' := 25) rfl rfl ?_
        exact W
set_option maxRecDepth 16000 in
theorem wp_Top_candidates {n : Nat} {σ : jS} {Q : Int → jS → Prop} {zo0 : Int} {zx1 : Int} {zx2 : Int} {zx3 : Int} (W : 0 ≤ zo0 ∧ 1 ≤ n ∧ TrI (n - 1) i_Top_hasType [jo 12 zo0, ji zx1] σ (fun zr4 zs3 => (if zr4 = 0 then Q (-1) zs3 else 0 ≤ rs zs3 12005 zo0 ∧ TrI (n - 1) i_Text_hasScope [jo 10 (rs zs3 12005 zo0), ji zx2] zs3 (fun zr7 zs6 => (if zr7 = 0 then Q (-1) zs6 else (if zx3 < 0 then Q (-1) zs6 else (if zx3 ≤ 3 then (if ¬ zx3 = 0 then 0 ≤ rs zs6 12007 zo0 ∧ TrV (n - 1) i_Search_begin [jo 7 (rs zs6 12007 zo0), ji zx2, ji (rs zs6 12009 zo0), ji (rs zs6 12010 zo0)] zs6 (fun zs9 => 0 ≤ rs zs9 12007 zo0 ∧ 0 ≤ rl zs9 12001 zo0 ∧ 0 ≤ zx1 ∧ zx1 < rl zs9 12001 zo0 ∧ 0 ≤ rs zs9 7000 (rs zs9 12007 zo0) ∧ TrI (n - 1) i_Terms_build [jo 9 (rs zs9 7000 (rs zs9 12007 zo0)), jo 0 (ra zs9 12001 zo0 zx1), ji 1] zs9 (fun zr17 zs16 => J n c_Top_candidates (some .int) 96 [some (jo 12 zo0), none, none, some (ji zx3), some (ji zr17), some (ji (-1)), some (ji 0), some (ji 0), some (ji zx2), some (ji 0), none] [] zs16 (qI Q))) else 0 ≤ rs zs6 12005 zo0 ∧ 0 ≤ rl zs6 10003 (rs zs6 12005 zo0) ∧ 0 ≤ zx2 ∧ zx2 < rl zs6 10003 (rs zs6 12005 zo0) ∧ i32 ((ra zs6 10003 (rs zs6 12005 zo0) zx2) + 1) ∧ Q ((ra zs6 10003 (rs zs6 12005 zo0) zx2) + 1) zs6) else Q (-1) zs6))))))) : TrI n i_Top_candidates [jo 12 zo0, ji zx1, ji zx2, ji zx3] σ Q := by
  refine Tr_of ax_Z_277 ?_
  show J n c_Top_candidates (some .int) 0 [some (jo 12 zo0), some (ji zx1), some (ji zx2), some (ji zx3), none, none, none, none, none, none, none] [] σ (qI Q)
  obtain ⟨zg1, W⟩ := W
  refine J_aload_no (pc' := 1) rfl rfl zg1 rfl ?_
  refine J_iload_n (pc' := 2) rfl rfl rfl ?_
  obtain ⟨zg2, W⟩ := W
  refine J_callI (as := [jo 12 zo0, ji zx1]) (rest := []) (pc' := 5) rfl rfl ax_Z_280 rfl rfl (Or.inr (Or.inr ⟨_, _, rfl, zg1⟩)) (Nat.le_of_ble_eq_true rfl) (Nat.le_of_ble_eq_true rfl) (Nat.le_of_ble_eq_true rfl) zg2 trivial trivial rfl W (fun zr4 zs3 W => ?_)
  refine J_if (P := zr4 = 0) (t := 28) (f := 8) rfl rfl rfl jc_eq W (fun W => ?_) (fun W => ?_)
  · refine J_iconst (pc' := 29) rfl (i32_d rfl) rfl ?_
    exact J_iret rfl rfl ⟨_, rfl, W⟩
  · refine J_aload_no (pc' := 9) rfl rfl zg1 rfl ?_
    refine J_getO (G := 12005) (pc' := 12) rfl rfl (Nat.le_of_ble_eq_true rfl) rfl zg1 rfl ?_
    refine J_iload_n (pc' := 13) rfl rfl rfl ?_
    obtain ⟨zg5, W⟩ := W
    refine J_callI (as := [jo 10 (rs zs3 12005 zo0), ji zx2]) (rest := []) (pc' := 16) rfl rfl ax_Z_224 rfl rfl (Or.inr (Or.inr ⟨_, _, rfl, zg5⟩)) (Nat.le_of_ble_eq_true rfl) (Nat.le_of_ble_eq_true rfl) (Nat.le_of_ble_eq_true rfl) zg2 trivial trivial rfl W (fun zr7 zs6 W => ?_)
    refine J_if (P := zr7 = 0) (t := 28) (f := 19) rfl rfl rfl jc_eq W (fun W => ?_) (fun W => ?_)
    · refine J_iconst (pc' := 29) rfl (i32_d rfl) rfl ?_
      exact J_iret rfl rfl ⟨_, rfl, W⟩
    · refine J_iload_n (pc' := 20) rfl rfl rfl ?_
      refine J_if (P := zx3 < 0) (t := 28) (f := 23) rfl rfl rfl jc_lt W (fun W => ?_) (fun W => ?_)
      · refine J_iconst (pc' := 29) rfl (i32_d rfl) rfl ?_
        exact J_iret rfl rfl ⟨_, rfl, W⟩
      · refine J_iload_n (pc' := 24) rfl rfl rfl ?_
        refine J_iconst (pc' := 25) rfl (i32_d rfl) rfl ?_
        refine J_icmp (P := zx3 ≤ 3) (t := 30) (f := 28) rfl rfl rfl jc_le W (fun W => ?_) (fun W => ?_)
        · refine J_iload_n (pc' := 31) rfl rfl rfl ?_
          refine J_if (P := ¬ zx3 = 0) (t := 46) (f := 34) rfl rfl rfl jc_ne W (fun W => ?_) (fun W => ?_)
          · refine J_aload_no (pc' := 47) rfl rfl zg1 rfl ?_
            refine J_getO (G := 12007) (pc' := 50) rfl rfl (Nat.le_of_ble_eq_true rfl) rfl zg1 rfl ?_
            refine J_iload_n (pc' := 51) rfl rfl rfl ?_
            refine J_aload_no (pc' := 52) rfl rfl zg1 rfl ?_
            refine J_getI (G := 12009) (pc' := 55) rfl rfl (Nat.le_of_ble_eq_true rfl) rfl zg1 rfl ?_
            refine J_aload_no (pc' := 56) rfl rfl zg1 rfl ?_
            refine J_getI (G := 12010) (pc' := 59) rfl rfl (Nat.le_of_ble_eq_true rfl) rfl zg1 rfl ?_
            obtain ⟨zg8, W⟩ := W
            refine J_callV (as := [jo 7 (rs zs6 12007 zo0), ji zx2, ji (rs zs6 12009 zo0), ji (rs zs6 12010 zo0)]) (rest := []) (pc' := 62) rfl rfl ax_Z_157 rfl rfl (Or.inr (Or.inr ⟨_, _, rfl, zg8⟩)) (Nat.le_of_ble_eq_true rfl) (Nat.le_of_ble_eq_true rfl) (Nat.le_of_ble_eq_true rfl) zg2 trivial trivial rfl W (fun zs9 W => ?_)
            refine J_aload_no (pc' := 63) rfl rfl zg1 rfl ?_
            refine J_getO (G := 12007) (pc' := 66) rfl rfl (Nat.le_of_ble_eq_true rfl) rfl zg1 rfl ?_
            obtain ⟨zg11, W⟩ := W
            refine J_getO (G := 7000) (pc' := 69) rfl rfl (Nat.le_of_ble_eq_true rfl) rfl zg11 rfl ?_
            refine J_aload_no (pc' := 70) rfl rfl zg1 rfl ?_
            obtain ⟨zg12, W⟩ := W
            refine J_getA (G := 12001) (pc' := 73) rfl rfl (Nat.le_of_ble_eq_true rfl) rfl zg1 zg12 rfl ?_
            refine J_iload_n (pc' := 74) rfl rfl rfl ?_
            obtain ⟨zg13, W⟩ := W
            obtain ⟨zg14, W⟩ := W
            refine J_aald (pc' := 75) rfl rfl zg13 zg14 rfl ?_
            refine J_iconst (pc' := 76) rfl (i32_d rfl) rfl ?_
            obtain ⟨zg15, W⟩ := W
            refine J_weak (L' := [some (jo 12 zo0), none, some (ji zx2), some (ji zx3), none, none, none, none, none, none, none]) (And.intro rfl (And.intro rfl (And.intro rfl trivial))) ?_
            refine J_callI (as := [jo 9 (rs zs9 7000 (rs zs9 12007 zo0)), jo 0 (ra zs9 12001 zo0 zx1), ji 1]) (rest := []) (pc' := 79) rfl rfl ax_Z_203 rfl rfl (Or.inr (Or.inr ⟨_, _, rfl, zg15⟩)) (Nat.le_of_ble_eq_true rfl) (Nat.le_of_ble_eq_true rfl) (Nat.le_of_ble_eq_true rfl) zg2 trivial trivial rfl W (fun zr17 zs16 W => ?_)
            refine J_istore (L' := [some (jo 12 zo0), none, some (ji zx2), some (ji zx3), some (ji zr17), none, none, none, none, none, none]) (pc' := 81) rfl (Nat.le_of_ble_eq_true rfl) rfl rfl ?_
            refine J_iconst (pc' := 82) rfl (i32_d rfl) rfl ?_
            refine J_istore (L' := [some (jo 12 zo0), none, some (ji zx2), some (ji zx3), some (ji zr17), some (ji (-1)), none, none, none, none, none]) (pc' := 84) rfl (Nat.le_of_ble_eq_true rfl) rfl rfl ?_
            refine J_iconst (pc' := 85) rfl (i32_d rfl) rfl ?_
            refine J_istore (L' := [some (jo 12 zo0), none, some (ji zx2), some (ji zx3), some (ji zr17), some (ji (-1)), some (ji 0), none, none, none, none]) (pc' := 87) rfl (Nat.le_of_ble_eq_true rfl) rfl rfl ?_
            refine J_iconst (pc' := 88) rfl (i32_d rfl) rfl ?_
            refine J_istore (L' := [some (jo 12 zo0), none, some (ji zx2), some (ji zx3), some (ji zr17), some (ji (-1)), some (ji 0), some (ji 0), none, none, none]) (pc' := 90) rfl (Nat.le_of_ble_eq_true rfl) rfl rfl ?_
            refine J_iload_n (pc' := 91) rfl rfl rfl ?_
            refine J_istore (L' := [some (jo 12 zo0), none, some (ji zx2), some (ji zx3), some (ji zr17), some (ji (-1)), some (ji 0), some (ji 0), some (ji zx2), none, none]) (pc' := 93) rfl (Nat.le_of_ble_eq_true rfl) rfl rfl ?_
            refine J_iconst (pc' := 94) rfl (i32_d rfl) rfl ?_
            refine J_istore (L' := [some (jo 12 zo0), none, some (ji zx2), some (ji zx3), some (ji zr17), some (ji (-1)), some (ji 0), some (ji 0), some (ji zx2), some (ji 0), none]) (pc' := 96) rfl (Nat.le_of_ble_eq_true rfl) rfl rfl ?_
            refine J_weak (L' := [some (jo 12 zo0), none, none, some (ji zx3), some (ji zr17), some (ji (-1)), some (ji 0), some (ji 0), some (ji zx2), some (ji 0), none]) (And.intro rfl (And.intro rfl (And.intro rfl (And.intro rfl (And.intro rfl (And.intro rfl (And.intro rfl (And.intro rfl trivial)))))))) ?_
            exact W
          · refine J_aload_no (pc' := 35) rfl rfl zg1 rfl ?_
            refine J_getO (G := 12005) (pc' := 38) rfl rfl (Nat.le_of_ble_eq_true rfl) rfl zg1 rfl ?_
            obtain ⟨zg18, W⟩ := W
            obtain ⟨zg19, W⟩ := W
            refine J_getA (G := 10003) (pc' := 41) rfl rfl (Nat.le_of_ble_eq_true rfl) rfl zg18 zg19 rfl ?_
            refine J_iload_n (pc' := 42) rfl rfl rfl ?_
            obtain ⟨zg20, W⟩ := W
            obtain ⟨zg21, W⟩ := W
            refine J_iald (pc' := 43) rfl rfl zg20 zg21 rfl ?_
            refine J_iconst (pc' := 44) rfl (i32_d rfl) rfl ?_
            obtain ⟨zg22, W⟩ := W
            refine J_iadd (pc' := 45) rfl zg22 rfl ?_
            exact J_iret rfl rfl ⟨_, rfl, W⟩
        · refine J_iconst (pc' := 29) rfl (i32_d rfl) rfl ?_
          exact J_iret rfl rfl ⟨_, rfl, W⟩
set_option maxRecDepth 16000 in
theorem wp_Top_candidates_96 {n : Nat} {σ : jS} {Q : Int → jS → Prop} {zo0 : Int} {zx3 : Int} {zx4 : Int} {zx5 : Int} {zx6 : Int} {zx7 : Int} {zx8 : Int} {zx9 : Int} (W : (if 5 < zx9 then (if ¬ zx3 = 1 then (if ¬ zx3 = 2 then Q zx6 σ else Q zx7 σ) else Q zx5 σ) else (if zx8 = (-1) then (if ¬ zx3 = 1 then (if ¬ zx3 = 2 then Q zx6 σ else Q zx7 σ) else Q zx5 σ) else 0 ≤ zo0 ∧ 1 ≤ n ∧ 0 ≤ rs σ 12007 zo0 ∧ TrI (n - 1) i_Search_suited [jo 7 (rs σ 12007 zo0), ji zx4, ji zx8] σ (fun zr5 zs4 => (if zr5 = 0 then 0 ≤ rs zs4 12005 zo0 ∧ TrI (n - 1) i_Text_aroundOf [jo 10 (rs zs4 12005 zo0), ji zx8] zs4 (fun zr8 zs7 => i32 (zx9 + 1) ∧ J n c_Top_candidates (some .int) 96 [some (jo 12 zo0), none, none, some (ji zx3), some (ji zx4), some (ji zx5), some (ji zx6), some (ji (bOr zx7 zr5)), some (ji zr8), some (ji (zx9 + 1)), none] [] zs7 (qI Q)) else (if ¬ zx5 = (-1) then 0 ≤ rs zs4 12005 zo0 ∧ TrI (n - 1) i_Text_aroundOf [jo 10 (rs zs4 12005 zo0), ji zx8] zs4 (fun zr12 zs11 => i32 (zx9 + 1) ∧ J n c_Top_candidates (some .int) 96 [some (jo 12 zo0), none, none, some (ji zx3), some (ji zx4), some (ji zx5), some (ji zx6), some (ji (bOr zx7 zr5)), some (ji zr12), some (ji (zx9 + 1)), none] [] zs11 (qI Q)) else 0 ≤ rs zs4 12005 zo0 ∧ TrI (n - 1) i_Text_bestOf [jo 10 (rs zs4 12005 zo0), ji zr5] zs4 (fun zr16 zs15 => 0 ≤ rs zs15 12005 zo0 ∧ TrI (n - 1) i_Text_aroundOf [jo 10 (rs zs15 12005 zo0), ji zx8] zs15 (fun zr19 zs18 => i32 (zx9 + 1) ∧ J n c_Top_candidates (some .int) 96 [some (jo 12 zo0), none, none, some (ji zx3), some (ji zx4), some (ji zx9), some (ji zr16), some (ji (bOr zx7 zr5)), some (ji zr19), some (ji (zx9 + 1)), none] [] zs18 (qI Q))))))))) : J n c_Top_candidates (some .int) 96 [some (jo 12 zo0), none, none, some (ji zx3), some (ji zx4), some (ji zx5), some (ji zx6), some (ji zx7), some (ji zx8), some (ji zx9), none] [] σ (qI Q) := by
  refine J_iload (pc' := 98) rfl rfl rfl ?_
  refine J_iconst (pc' := 99) rfl (i32_d rfl) rfl ?_
  refine J_icmp (P := 5 < zx9) (t := 171) (f := 102) rfl rfl rfl jc_gt W (fun W => ?_) (fun W => ?_)
  · refine J_iload_n (pc' := 172) rfl rfl rfl ?_
    refine J_iconst (pc' := 173) rfl (i32_d rfl) rfl ?_
    refine J_icmp (P := ¬ zx3 = 1) (t := 179) (f := 176) rfl rfl rfl jc_ne W (fun W => ?_) (fun W => ?_)
    · refine J_iload_n (pc' := 180) rfl rfl rfl ?_
      refine J_iconst (pc' := 181) rfl (i32_d rfl) rfl ?_
      refine J_icmp (P := ¬ zx3 = 2) (t := 189) (f := 184) rfl rfl rfl jc_ne W (fun W => ?_) (fun W => ?_)
      · refine J_iload (pc' := 191) rfl rfl rfl ?_
        exact J_iret rfl rfl ⟨_, rfl, W⟩
      · refine J_iload (pc' := 186) rfl rfl rfl ?_
        refine J_goto (pc' := 191) rfl rfl ?_
        exact J_iret rfl rfl ⟨_, rfl, W⟩
    · refine J_iload (pc' := 178) rfl rfl rfl ?_
      exact J_iret rfl rfl ⟨_, rfl, W⟩
  · refine J_iload (pc' := 104) rfl rfl rfl ?_
    refine J_iconst (pc' := 105) rfl (i32_d rfl) rfl ?_
    refine J_icmp (P := zx8 = (-1)) (t := 171) (f := 108) rfl rfl rfl jc_eq W (fun W => ?_) (fun W => ?_)
    · refine J_iload_n (pc' := 172) rfl rfl rfl ?_
      refine J_iconst (pc' := 173) rfl (i32_d rfl) rfl ?_
      refine J_icmp (P := ¬ zx3 = 1) (t := 179) (f := 176) rfl rfl rfl jc_ne W (fun W => ?_) (fun W => ?_)
      · refine J_iload_n (pc' := 180) rfl rfl rfl ?_
        refine J_iconst (pc' := 181) rfl (i32_d rfl) rfl ?_
        refine J_icmp (P := ¬ zx3 = 2) (t := 189) (f := 184) rfl rfl rfl jc_ne W (fun W => ?_) (fun W => ?_)
        · refine J_iload (pc' := 191) rfl rfl rfl ?_
          exact J_iret rfl rfl ⟨_, rfl, W⟩
        · refine J_iload (pc' := 186) rfl rfl rfl ?_
          refine J_goto (pc' := 191) rfl rfl ?_
          exact J_iret rfl rfl ⟨_, rfl, W⟩
      · refine J_iload (pc' := 178) rfl rfl rfl ?_
        exact J_iret rfl rfl ⟨_, rfl, W⟩
    · obtain ⟨zg1, W⟩ := W
      refine J_aload_no (pc' := 109) rfl rfl zg1 rfl ?_
      refine J_getO (G := 12007) (pc' := 112) rfl rfl (Nat.le_of_ble_eq_true rfl) rfl zg1 rfl ?_
      refine J_iload (pc' := 114) rfl rfl rfl ?_
      refine J_iload (pc' := 116) rfl rfl rfl ?_
      obtain ⟨zg2, W⟩ := W
      obtain ⟨zg3, W⟩ := W
      refine J_callI (as := [jo 7 (rs σ 12007 zo0), ji zx4, ji zx8]) (rest := []) (pc' := 119) rfl rfl ax_Z_161 rfl rfl (Or.inr (Or.inr ⟨_, _, rfl, zg3⟩)) (Nat.le_of_ble_eq_true rfl) (Nat.le_of_ble_eq_true rfl) (Nat.le_of_ble_eq_true rfl) zg2 trivial trivial rfl W (fun zr5 zs4 W => ?_)
      refine J_istore (L' := [some (jo 12 zo0), none, none, some (ji zx3), some (ji zx4), some (ji zx5), some (ji zx6), some (ji zx7), some (ji zx8), some (ji zx9), some (ji zr5)]) (pc' := 121) rfl (Nat.le_of_ble_eq_true rfl) rfl rfl ?_
      refine J_iload (pc' := 123) rfl rfl rfl ?_
      refine J_if (P := zr5 = 0) (t := 147) (f := 126) rfl rfl rfl jc_eq W (fun W => ?_) (fun W => ?_)
      · refine J_iload (pc' := 149) rfl rfl rfl ?_
        refine J_iload (pc' := 151) rfl rfl rfl ?_
        refine J_ior (pc' := 152) rfl rfl ?_
        refine J_istore (L' := [some (jo 12 zo0), none, none, some (ji zx3), some (ji zx4), some (ji zx5), some (ji zx6), some (ji (bOr zx7 zr5)), some (ji zx8), some (ji zx9), some (ji zr5)]) (pc' := 154) rfl (Nat.le_of_ble_eq_true rfl) rfl rfl ?_
        refine J_aload_no (pc' := 155) rfl rfl zg1 rfl ?_
        refine J_getO (G := 12005) (pc' := 158) rfl rfl (Nat.le_of_ble_eq_true rfl) rfl zg1 rfl ?_
        refine J_iload (pc' := 160) rfl rfl rfl ?_
        obtain ⟨zg6, W⟩ := W
        refine J_weak (L' := [some (jo 12 zo0), none, none, some (ji zx3), some (ji zx4), some (ji zx5), some (ji zx6), some (ji (bOr zx7 zr5)), none, some (ji zx9), none]) (And.intro rfl (And.intro rfl (And.intro rfl (And.intro rfl (And.intro rfl (And.intro rfl (And.intro rfl trivial))))))) ?_
        refine J_callI (as := [jo 10 (rs zs4 12005 zo0), ji zx8]) (rest := []) (pc' := 163) rfl rfl ax_Z_228 rfl rfl (Or.inr (Or.inr ⟨_, _, rfl, zg6⟩)) (Nat.le_of_ble_eq_true rfl) (Nat.le_of_ble_eq_true rfl) (Nat.le_of_ble_eq_true rfl) zg2 trivial trivial rfl W (fun zr8 zs7 W => ?_)
        refine J_istore (L' := [some (jo 12 zo0), none, none, some (ji zx3), some (ji zx4), some (ji zx5), some (ji zx6), some (ji (bOr zx7 zr5)), some (ji zr8), some (ji zx9), none]) (pc' := 165) rfl (Nat.le_of_ble_eq_true rfl) rfl rfl ?_
        obtain ⟨zg9, W⟩ := W
        refine J_iinc (L' := [some (jo 12 zo0), none, none, some (ji zx3), some (ji zx4), some (ji zx5), some (ji zx6), some (ji (bOr zx7 zr5)), some (ji zr8), some (ji (zx9 + 1)), none]) (pc' := 168) rfl rfl zg9 rfl rfl ?_
        refine J_goto (pc' := 96) rfl rfl ?_
        exact W
      · refine J_iload (pc' := 128) rfl rfl rfl ?_
        refine J_iconst (pc' := 129) rfl (i32_d rfl) rfl ?_
        refine J_icmp (P := ¬ zx5 = (-1)) (t := 147) (f := 132) rfl rfl rfl jc_ne W (fun W => ?_) (fun W => ?_)
        · refine J_iload (pc' := 149) rfl rfl rfl ?_
          refine J_iload (pc' := 151) rfl rfl rfl ?_
          refine J_ior (pc' := 152) rfl rfl ?_
          refine J_istore (L' := [some (jo 12 zo0), none, none, some (ji zx3), some (ji zx4), some (ji zx5), some (ji zx6), some (ji (bOr zx7 zr5)), some (ji zx8), some (ji zx9), some (ji zr5)]) (pc' := 154) rfl (Nat.le_of_ble_eq_true rfl) rfl rfl ?_
          refine J_aload_no (pc' := 155) rfl rfl zg1 rfl ?_
          refine J_getO (G := 12005) (pc' := 158) rfl rfl (Nat.le_of_ble_eq_true rfl) rfl zg1 rfl ?_
          refine J_iload (pc' := 160) rfl rfl rfl ?_
          obtain ⟨zg10, W⟩ := W
          refine J_weak (L' := [some (jo 12 zo0), none, none, some (ji zx3), some (ji zx4), some (ji zx5), some (ji zx6), some (ji (bOr zx7 zr5)), none, some (ji zx9), none]) (And.intro rfl (And.intro rfl (And.intro rfl (And.intro rfl (And.intro rfl (And.intro rfl (And.intro rfl trivial))))))) ?_
          refine J_callI (as := [jo 10 (rs zs4 12005 zo0), ji zx8]) (rest := []) (pc' := 163) rfl rfl ax_Z_228 rfl rfl (Or.inr (Or.inr ⟨_, _, rfl, zg10⟩)) (Nat.le_of_ble_eq_true rfl) (Nat.le_of_ble_eq_true rfl) (Nat.le_of_ble_eq_true rfl) zg2 trivial trivial rfl W (fun zr12 zs11 W => ?_)
          refine J_istore (L' := [some (jo 12 zo0), none, none, some (ji zx3), some (ji zx4), some (ji zx5), some (ji zx6), some (ji (bOr zx7 zr5)), some (ji zr12), some (ji zx9), none]) (pc' := 165) rfl (Nat.le_of_ble_eq_true rfl) rfl rfl ?_
          obtain ⟨zg13, W⟩ := W
          refine J_iinc (L' := [some (jo 12 zo0), none, none, some (ji zx3), some (ji zx4), some (ji zx5), some (ji zx6), some (ji (bOr zx7 zr5)), some (ji zr12), some (ji (zx9 + 1)), none]) (pc' := 168) rfl rfl zg13 rfl rfl ?_
          refine J_goto (pc' := 96) rfl rfl ?_
          exact W
        · refine J_iload (pc' := 134) rfl rfl rfl ?_
          refine J_istore (L' := [some (jo 12 zo0), none, none, some (ji zx3), some (ji zx4), some (ji zx9), some (ji zx6), some (ji zx7), some (ji zx8), some (ji zx9), some (ji zr5)]) (pc' := 136) rfl (Nat.le_of_ble_eq_true rfl) rfl rfl ?_
          refine J_aload_no (pc' := 137) rfl rfl zg1 rfl ?_
          refine J_getO (G := 12005) (pc' := 140) rfl rfl (Nat.le_of_ble_eq_true rfl) rfl zg1 rfl ?_
          refine J_iload (pc' := 142) rfl rfl rfl ?_
          obtain ⟨zg14, W⟩ := W
          refine J_weak (L' := [some (jo 12 zo0), none, none, some (ji zx3), some (ji zx4), some (ji zx9), none, some (ji zx7), some (ji zx8), some (ji zx9), some (ji zr5)]) (And.intro rfl (And.intro rfl (And.intro rfl (And.intro rfl (And.intro rfl (And.intro rfl (And.intro rfl (And.intro rfl trivial)))))))) ?_
          refine J_callI (as := [jo 10 (rs zs4 12005 zo0), ji zr5]) (rest := []) (pc' := 145) rfl rfl ax_Z_239 rfl rfl (Or.inr (Or.inr ⟨_, _, rfl, zg14⟩)) (Nat.le_of_ble_eq_true rfl) (Nat.le_of_ble_eq_true rfl) (Nat.le_of_ble_eq_true rfl) zg2 trivial trivial rfl W (fun zr16 zs15 W => ?_)
          refine J_istore (L' := [some (jo 12 zo0), none, none, some (ji zx3), some (ji zx4), some (ji zx9), some (ji zr16), some (ji zx7), some (ji zx8), some (ji zx9), some (ji zr5)]) (pc' := 147) rfl (Nat.le_of_ble_eq_true rfl) rfl rfl ?_
          refine J_iload (pc' := 149) rfl rfl rfl ?_
          refine J_iload (pc' := 151) rfl rfl rfl ?_
          refine J_ior (pc' := 152) rfl rfl ?_
          refine J_istore (L' := [some (jo 12 zo0), none, none, some (ji zx3), some (ji zx4), some (ji zx9), some (ji zr16), some (ji (bOr zx7 zr5)), some (ji zx8), some (ji zx9), some (ji zr5)]) (pc' := 154) rfl (Nat.le_of_ble_eq_true rfl) rfl rfl ?_
          refine J_aload_no (pc' := 155) rfl rfl zg1 rfl ?_
          refine J_getO (G := 12005) (pc' := 158) rfl rfl (Nat.le_of_ble_eq_true rfl) rfl zg1 rfl ?_
          refine J_iload (pc' := 160) rfl rfl rfl ?_
          obtain ⟨zg17, W⟩ := W
          refine J_weak (L' := [some (jo 12 zo0), none, none, some (ji zx3), some (ji zx4), some (ji zx9), some (ji zr16), some (ji (bOr zx7 zr5)), none, some (ji zx9), none]) (And.intro rfl (And.intro rfl (And.intro rfl (And.intro rfl (And.intro rfl (And.intro rfl (And.intro rfl trivial))))))) ?_
          refine J_callI (as := [jo 10 (rs zs15 12005 zo0), ji zx8]) (rest := []) (pc' := 163) rfl rfl ax_Z_228 rfl rfl (Or.inr (Or.inr ⟨_, _, rfl, zg17⟩)) (Nat.le_of_ble_eq_true rfl) (Nat.le_of_ble_eq_true rfl) (Nat.le_of_ble_eq_true rfl) zg2 trivial trivial rfl W (fun zr19 zs18 W => ?_)
          refine J_istore (L' := [some (jo 12 zo0), none, none, some (ji zx3), some (ji zx4), some (ji zx9), some (ji zr16), some (ji (bOr zx7 zr5)), some (ji zr19), some (ji zx9), none]) (pc' := 165) rfl (Nat.le_of_ble_eq_true rfl) rfl rfl ?_
          obtain ⟨zg20, W⟩ := W
          refine J_iinc (L' := [some (jo 12 zo0), none, none, some (ji zx3), some (ji zx4), some (ji zx9), some (ji zr16), some (ji (bOr zx7 zr5)), some (ji zr19), some (ji (zx9 + 1)), none]) (pc' := 168) rfl rfl zg20 rfl rfl ?_
          refine J_goto (pc' := 96) rfl rfl ?_
          exact W
theorem wp_Top_values {n : Nat} {σ : jS} {Q : Int → jS → Prop} {zo0 : Int} {zx1 : Int} {zx2 : Int} {zx3 : Int} (W : 0 ≤ zo0 ∧ 1 ≤ n ∧ TrI (n - 1) i_Top_hasType [jo 12 zo0, ji zx1] σ (fun zr4 zs3 => (if zr4 = 0 then Q (-1) zs3 else 0 ≤ rs zs3 12005 zo0 ∧ TrI (n - 1) i_Text_hasScope [jo 10 (rs zs3 12005 zo0), ji zx2] zs3 (fun zr7 zs6 => (if zr7 = 0 then Q (-1) zs6 else (if zx3 < 0 then Q (-1) zs6 else (if 3 < zx3 then Q (-1) zs6 else 0 ≤ rl zs6 12001 zo0 ∧ 0 ≤ zx1 ∧ zx1 < rl zs6 12001 zo0 ∧ 0 ≤ ra zs6 12001 zo0 zx1 ∧ TrI (n - 1) i_Flat_isClosed [jo 0 (ra zs6 12001 zo0 zx1)] zs6 (fun zr13 zs12 => (if ¬ zr13 = 0 then 0 ≤ rs zs12 12007 zo0 ∧ TrV (n - 1) i_Search_begin [jo 7 (rs zs12 12007 zo0), ji zx2, ji (rs zs12 12009 zo0), ji (rs zs12 12010 zo0)] zs12 (fun zs15 => 0 ≤ rs zs15 12007 zo0 ∧ TrI (n - 1) i_Search_usableFrom [jo 7 (rs zs15 12007 zo0), ji zx2] zs15 (fun zr19 zs18 => J n c_Top_values (some .int) 71 [some (jo 12 zo0), some (ji zx1), none, some (ji zx3), some (ji zr19), some (ji 0)] [] zs18 (qI Q))) else Q (-1) zs12))))))))) : TrI n i_Top_values [jo 12 zo0, ji zx1, ji zx2, ji zx3] σ Q := by
  refine Tr_of ax_Z_278 ?_
  show J n c_Top_values (some .int) 0 [some (jo 12 zo0), some (ji zx1), some (ji zx2), some (ji zx3), none, none] [] σ (qI Q)
  obtain ⟨zg1, W⟩ := W
  refine J_aload_no (pc' := 1) rfl rfl zg1 rfl ?_
  refine J_iload_n (pc' := 2) rfl rfl rfl ?_
  obtain ⟨zg2, W⟩ := W
  refine J_callI (as := [jo 12 zo0, ji zx1]) (rest := []) (pc' := 5) rfl rfl ax_Z_280 rfl rfl (Or.inr (Or.inr ⟨_, _, rfl, zg1⟩)) (Nat.le_of_ble_eq_true rfl) (Nat.le_of_ble_eq_true rfl) (Nat.le_of_ble_eq_true rfl) zg2 trivial trivial rfl W (fun zr4 zs3 W => ?_)
  refine J_if (P := zr4 = 0) (t := 40) (f := 8) rfl rfl rfl jc_eq W (fun W => ?_) (fun W => ?_)
  · refine J_iconst (pc' := 41) rfl (i32_d rfl) rfl ?_
    exact J_iret rfl rfl ⟨_, rfl, W⟩
  · refine J_aload_no (pc' := 9) rfl rfl zg1 rfl ?_
    refine J_getO (G := 12005) (pc' := 12) rfl rfl (Nat.le_of_ble_eq_true rfl) rfl zg1 rfl ?_
    refine J_iload_n (pc' := 13) rfl rfl rfl ?_
    obtain ⟨zg5, W⟩ := W
    refine J_callI (as := [jo 10 (rs zs3 12005 zo0), ji zx2]) (rest := []) (pc' := 16) rfl rfl ax_Z_224 rfl rfl (Or.inr (Or.inr ⟨_, _, rfl, zg5⟩)) (Nat.le_of_ble_eq_true rfl) (Nat.le_of_ble_eq_true rfl) (Nat.le_of_ble_eq_true rfl) zg2 trivial trivial rfl W (fun zr7 zs6 W => ?_)
    refine J_if (P := zr7 = 0) (t := 40) (f := 19) rfl rfl rfl jc_eq W (fun W => ?_) (fun W => ?_)
    · refine J_iconst (pc' := 41) rfl (i32_d rfl) rfl ?_
      exact J_iret rfl rfl ⟨_, rfl, W⟩
    · refine J_iload_n (pc' := 20) rfl rfl rfl ?_
      refine J_if (P := zx3 < 0) (t := 40) (f := 23) rfl rfl rfl jc_lt W (fun W => ?_) (fun W => ?_)
      · refine J_iconst (pc' := 41) rfl (i32_d rfl) rfl ?_
        exact J_iret rfl rfl ⟨_, rfl, W⟩
      · refine J_iload_n (pc' := 24) rfl rfl rfl ?_
        refine J_iconst (pc' := 25) rfl (i32_d rfl) rfl ?_
        refine J_icmp (P := 3 < zx3) (t := 40) (f := 28) rfl rfl rfl jc_gt W (fun W => ?_) (fun W => ?_)
        · refine J_iconst (pc' := 41) rfl (i32_d rfl) rfl ?_
          exact J_iret rfl rfl ⟨_, rfl, W⟩
        · refine J_aload_no (pc' := 29) rfl rfl zg1 rfl ?_
          obtain ⟨zg8, W⟩ := W
          refine J_getA (G := 12001) (pc' := 32) rfl rfl (Nat.le_of_ble_eq_true rfl) rfl zg1 zg8 rfl ?_
          refine J_iload_n (pc' := 33) rfl rfl rfl ?_
          obtain ⟨zg9, W⟩ := W
          obtain ⟨zg10, W⟩ := W
          refine J_aald (pc' := 34) rfl rfl zg9 zg10 rfl ?_
          obtain ⟨zg11, W⟩ := W
          refine J_callI (as := [jo 0 (ra zs6 12001 zo0 zx1)]) (rest := []) (pc' := 37) rfl rfl ax_Z_124 rfl rfl (Or.inr (Or.inr ⟨_, _, rfl, zg11⟩)) (Nat.le_of_ble_eq_true rfl) (Nat.le_of_ble_eq_true rfl) (Nat.le_of_ble_eq_true rfl) zg2 trivial trivial rfl W (fun zr13 zs12 W => ?_)
          refine J_if (P := ¬ zr13 = 0) (t := 42) (f := 40) rfl rfl rfl jc_ne W (fun W => ?_) (fun W => ?_)
          · refine J_aload_no (pc' := 43) rfl rfl zg1 rfl ?_
            refine J_getO (G := 12007) (pc' := 46) rfl rfl (Nat.le_of_ble_eq_true rfl) rfl zg1 rfl ?_
            refine J_iload_n (pc' := 47) rfl rfl rfl ?_
            refine J_aload_no (pc' := 48) rfl rfl zg1 rfl ?_
            refine J_getI (G := 12009) (pc' := 51) rfl rfl (Nat.le_of_ble_eq_true rfl) rfl zg1 rfl ?_
            refine J_aload_no (pc' := 52) rfl rfl zg1 rfl ?_
            refine J_getI (G := 12010) (pc' := 55) rfl rfl (Nat.le_of_ble_eq_true rfl) rfl zg1 rfl ?_
            obtain ⟨zg14, W⟩ := W
            refine J_callV (as := [jo 7 (rs zs12 12007 zo0), ji zx2, ji (rs zs12 12009 zo0), ji (rs zs12 12010 zo0)]) (rest := []) (pc' := 58) rfl rfl ax_Z_157 rfl rfl (Or.inr (Or.inr ⟨_, _, rfl, zg14⟩)) (Nat.le_of_ble_eq_true rfl) (Nat.le_of_ble_eq_true rfl) (Nat.le_of_ble_eq_true rfl) zg2 trivial trivial rfl W (fun zs15 W => ?_)
            refine J_aload_no (pc' := 59) rfl rfl zg1 rfl ?_
            refine J_getO (G := 12007) (pc' := 62) rfl rfl (Nat.le_of_ble_eq_true rfl) rfl zg1 rfl ?_
            refine J_iload_n (pc' := 63) rfl rfl rfl ?_
            obtain ⟨zg17, W⟩ := W
            refine J_weak (L' := [some (jo 12 zo0), some (ji zx1), none, some (ji zx3), none, none]) (And.intro rfl (And.intro rfl (And.intro rfl trivial))) ?_
            refine J_callI (as := [jo 7 (rs zs15 12007 zo0), ji zx2]) (rest := []) (pc' := 66) rfl rfl ax_Z_160 rfl rfl (Or.inr (Or.inr ⟨_, _, rfl, zg17⟩)) (Nat.le_of_ble_eq_true rfl) (Nat.le_of_ble_eq_true rfl) (Nat.le_of_ble_eq_true rfl) zg2 trivial trivial rfl W (fun zr19 zs18 W => ?_)
            refine J_istore (L' := [some (jo 12 zo0), some (ji zx1), none, some (ji zx3), some (ji zr19), none]) (pc' := 68) rfl (Nat.le_of_ble_eq_true rfl) rfl rfl ?_
            refine J_iconst (pc' := 69) rfl (i32_d rfl) rfl ?_
            refine J_istore (L' := [some (jo 12 zo0), some (ji zx1), none, some (ji zx3), some (ji zr19), some (ji 0)]) (pc' := 71) rfl (Nat.le_of_ble_eq_true rfl) rfl rfl ?_
            exact W
          · refine J_iconst (pc' := 41) rfl (i32_d rfl) rfl ?_
            exact J_iret rfl rfl ⟨_, rfl, W⟩
theorem wp_Top_values_71 {n : Nat} {σ : jS} {Q : Int → jS → Prop} {zo0 : Int} {zx1 : Int} {zx3 : Int} {zx4 : Int} {zx5 : Int} (W : 0 ≤ zo0 ∧ 0 ≤ rs σ 12005 zo0 ∧ (if rs σ 10001 (rs σ 12005 zo0) ≤ zx5 then 0 ≤ rs σ 12007 zo0 ∧ 0 ≤ rl σ 12001 zo0 ∧ 0 ≤ zx1 ∧ zx1 < rl σ 12001 zo0 ∧ 1 ≤ n ∧ 0 ≤ rs σ 7000 (rs σ 12007 zo0) ∧ TrI (n - 1) i_Terms_build [jo 9 (rs σ 7000 (rs σ 12007 zo0)), jo 0 (ra σ 12001 zo0 zx1), ji 1] σ (fun zr10 zs9 => 0 ≤ rs σ 12007 zo0 ∧ TrI (n - 1) i_Search_countValues [jo 7 (rs σ 12007 zo0), ji zr10, ji zx4, ji zx3] zs9 (fun zr13 zs12 => Q zr13 zs12)) else 1 ≤ n ∧ TrI (n - 1) i_Top_isIn [ji zx4, ji zx5] σ (fun zr16 zs15 => (if zr16 = 0 then i32 (zx5 + 1) ∧ J n c_Top_values (some .int) 71 [some (jo 12 zo0), some (ji zx1), none, some (ji zx3), some (ji zx4), some (ji (zx5 + 1))] [] zs15 (qI Q) else 0 ≤ rs zs15 12005 zo0 ∧ TrI (n - 1) i_Text_needVars [jo 10 (rs zs15 12005 zo0), ji zx5] zs15 (fun zr20 zs19 => 0 ≤ rs zs19 12005 zo0 ∧ TrO (n - 1) i_Text_part 0 [jo 10 (rs zs19 12005 zo0), ji zx5, ji 0] zs19 (fun zr23 zs22 => TrI (n - 1) i_Flat_varLetters [jo 0 zr23] zs22 (fun zr26 zs25 => (if bAnd zr20 (bXor zr26 (-1)) = 0 then i32 (zx5 + 1) ∧ J n c_Top_values (some .int) 71 [some (jo 12 zo0), some (ji zx1), none, some (ji zx3), some (ji zx4), some (ji (zx5 + 1))] [] zs25 (qI Q) else Q (-2) zs25)))))))) : J n c_Top_values (some .int) 71 [some (jo 12 zo0), some (ji zx1), none, some (ji zx3), some (ji zx4), some (ji zx5)] [] σ (qI Q) := by
  refine J_iload (pc' := 73) rfl rfl rfl ?_
  obtain ⟨zg1, W⟩ := W
  refine J_aload_no (pc' := 74) rfl rfl zg1 rfl ?_
  refine J_getO (G := 12005) (pc' := 77) rfl rfl (Nat.le_of_ble_eq_true rfl) rfl zg1 rfl ?_
  obtain ⟨zg2, W⟩ := W
  refine J_getI (G := 10001) (pc' := 80) rfl rfl (Nat.le_of_ble_eq_true rfl) rfl zg2 rfl ?_
  refine J_icmp (P := rs σ 10001 (rs σ 12005 zo0) ≤ zx5) (t := 130) (f := 83) rfl rfl rfl jc_ge W (fun W => ?_) (fun W => ?_)
  · refine J_aload_no (pc' := 131) rfl rfl zg1 rfl ?_
    refine J_getO (G := 12007) (pc' := 134) rfl rfl (Nat.le_of_ble_eq_true rfl) rfl zg1 rfl ?_
    refine J_aload_no (pc' := 135) rfl rfl zg1 rfl ?_
    refine J_getO (G := 12007) (pc' := 138) rfl rfl (Nat.le_of_ble_eq_true rfl) rfl zg1 rfl ?_
    obtain ⟨zg3, W⟩ := W
    refine J_getO (G := 7000) (pc' := 141) rfl rfl (Nat.le_of_ble_eq_true rfl) rfl zg3 rfl ?_
    refine J_aload_no (pc' := 142) rfl rfl zg1 rfl ?_
    obtain ⟨zg4, W⟩ := W
    refine J_getA (G := 12001) (pc' := 145) rfl rfl (Nat.le_of_ble_eq_true rfl) rfl zg1 zg4 rfl ?_
    refine J_iload_n (pc' := 146) rfl rfl rfl ?_
    obtain ⟨zg5, W⟩ := W
    obtain ⟨zg6, W⟩ := W
    refine J_aald (pc' := 147) rfl rfl zg5 zg6 rfl ?_
    refine J_iconst (pc' := 148) rfl (i32_d rfl) rfl ?_
    obtain ⟨zg7, W⟩ := W
    obtain ⟨zg8, W⟩ := W
    refine J_weak (L' := [none, none, none, some (ji zx3), some (ji zx4), none]) (And.intro rfl (And.intro rfl trivial)) ?_
    refine J_callI (as := [jo 9 (rs σ 7000 (rs σ 12007 zo0)), jo 0 (ra σ 12001 zo0 zx1), ji 1]) (rest := [jo 7 (rs σ 12007 zo0)]) (pc' := 151) rfl rfl ax_Z_203 rfl rfl (Or.inr (Or.inr ⟨_, _, rfl, zg8⟩)) (Nat.le_of_ble_eq_true rfl) (Nat.le_of_ble_eq_true rfl) (Nat.le_of_ble_eq_true rfl) zg7 trivial trivial rfl W (fun zr10 zs9 W => ?_)
    refine J_iload (pc' := 153) rfl rfl rfl ?_
    refine J_iload_n (pc' := 154) rfl rfl rfl ?_
    obtain ⟨zg11, W⟩ := W
    refine J_weak (L' := [none, none, none, none, none, none]) trivial ?_
    refine J_callI (as := [jo 7 (rs σ 12007 zo0), ji zr10, ji zx4, ji zx3]) (rest := []) (pc' := 157) rfl rfl ax_Z_178 rfl rfl (Or.inr (Or.inr ⟨_, _, rfl, zg11⟩)) (Nat.le_of_ble_eq_true rfl) (Nat.le_of_ble_eq_true rfl) (Nat.le_of_ble_eq_true rfl) zg7 trivial trivial rfl W (fun zr13 zs12 W => ?_)
    exact J_iret rfl rfl ⟨_, rfl, W⟩
  · refine J_iload (pc' := 85) rfl rfl rfl ?_
    refine J_iload (pc' := 87) rfl rfl rfl ?_
    obtain ⟨zg14, W⟩ := W
    refine J_callI (as := [ji zx4, ji zx5]) (rest := []) (pc' := 90) rfl rfl ax_Z_279 rfl rfl (Or.inl rfl) (Nat.le_of_ble_eq_true rfl) (Nat.le_of_ble_eq_true rfl) (Nat.le_of_ble_eq_true rfl) zg14 trivial trivial rfl W (fun zr16 zs15 W => ?_)
    refine J_if (P := zr16 = 0) (t := 124) (f := 93) rfl rfl rfl jc_eq W (fun W => ?_) (fun W => ?_)
    · obtain ⟨zg17, W⟩ := W
      refine J_iinc (L' := [some (jo 12 zo0), some (ji zx1), none, some (ji zx3), some (ji zx4), some (ji (zx5 + 1))]) (pc' := 127) rfl rfl zg17 rfl rfl ?_
      refine J_goto (pc' := 71) rfl rfl ?_
      exact W
    · refine J_aload_no (pc' := 94) rfl rfl zg1 rfl ?_
      refine J_getO (G := 12005) (pc' := 97) rfl rfl (Nat.le_of_ble_eq_true rfl) rfl zg1 rfl ?_
      refine J_iload (pc' := 99) rfl rfl rfl ?_
      obtain ⟨zg18, W⟩ := W
      refine J_callI (as := [jo 10 (rs zs15 12005 zo0), ji zx5]) (rest := []) (pc' := 102) rfl rfl ax_Z_234 rfl rfl (Or.inr (Or.inr ⟨_, _, rfl, zg18⟩)) (Nat.le_of_ble_eq_true rfl) (Nat.le_of_ble_eq_true rfl) (Nat.le_of_ble_eq_true rfl) zg14 trivial trivial rfl W (fun zr20 zs19 W => ?_)
      refine J_aload_no (pc' := 103) rfl rfl zg1 rfl ?_
      refine J_getO (G := 12005) (pc' := 106) rfl rfl (Nat.le_of_ble_eq_true rfl) rfl zg1 rfl ?_
      refine J_iload (pc' := 108) rfl rfl rfl ?_
      refine J_iconst (pc' := 109) rfl (i32_d rfl) rfl ?_
      obtain ⟨zg21, W⟩ := W
      refine J_callO (as := [jo 10 (rs zs19 12005 zo0), ji zx5, ji 0]) (rest := [ji zr20]) (pc' := 112) rfl rfl ax_Z_230 rfl rfl (Or.inr (Or.inr ⟨_, _, rfl, zg21⟩)) (Nat.le_of_ble_eq_true rfl) (Nat.le_of_ble_eq_true rfl) (Nat.le_of_ble_eq_true rfl) zg14 trivial trivial rfl W (fun zr23 zs22 zh24 W => ?_)
      refine J_callI (as := [jo 0 zr23]) (rest := [ji zr20]) (pc' := 115) rfl rfl ax_Z_126 rfl rfl (Or.inr (Or.inr ⟨_, _, rfl, zh24⟩)) (Nat.le_of_ble_eq_true rfl) (Nat.le_of_ble_eq_true rfl) (Nat.le_of_ble_eq_true rfl) zg14 trivial trivial rfl W (fun zr26 zs25 W => ?_)
      refine J_iconst (pc' := 116) rfl (i32_d rfl) rfl ?_
      refine J_ixor (pc' := 117) rfl rfl ?_
      refine J_iand (pc' := 118) rfl rfl ?_
      refine J_if (P := bAnd zr20 (bXor zr26 (-1)) = 0) (t := 124) (f := 121) rfl rfl rfl jc_eq W (fun W => ?_) (fun W => ?_)
      · obtain ⟨zg27, W⟩ := W
        refine J_iinc (L' := [some (jo 12 zo0), some (ji zx1), none, some (ji zx3), some (ji zx4), some (ji (zx5 + 1))]) (pc' := 127) rfl rfl zg27 rfl rfl ?_
        refine J_goto (pc' := 71) rfl rfl ?_
        exact W
      · refine J_bipush (pc' := 123) rfl (by decide) (by decide) rfl ?_
        exact J_iret rfl rfl ⟨_, rfl, W⟩
theorem wp_Top_isIn {n : Nat} {σ : jS} {Q : Int → jS → Prop} {zx0 : Int} {zx1 : Int} (W : (if ¬ bAnd (bShr zx0 zx1) 1 = 1 then Q 0 σ else Q 1 σ)) : TrI n i_Top_isIn [ji zx0, ji zx1] σ Q := by
  refine Tr_of ax_Z_279 ?_
  show J n c_Top_isIn (some .boolean) 0 [some (ji zx0), some (ji zx1)] [] σ (qI Q)
  refine J_iload_n (pc' := 1) rfl rfl rfl ?_
  refine J_iload_n (pc' := 2) rfl rfl rfl ?_
  refine J_ishr (pc' := 3) rfl rfl ?_
  refine J_iconst (pc' := 4) rfl (i32_d rfl) rfl ?_
  refine J_iand (pc' := 5) rfl rfl ?_
  refine J_iconst (pc' := 6) rfl (i32_d rfl) rfl ?_
  refine J_icmp (P := ¬ bAnd (bShr zx0 zx1) 1 = 1) (t := 13) (f := 9) rfl rfl rfl jc_ne W (fun W => ?_) (fun W => ?_)
  · refine J_iconst (pc' := 14) rfl (i32_d rfl) rfl ?_
    exact J_zret rfl rfl (Or.inl rfl) ⟨_, rfl, W⟩
  · refine J_iconst (pc' := 10) rfl (i32_d rfl) rfl ?_
    refine J_goto (pc' := 14) rfl rfl ?_
    exact J_zret rfl rfl (Or.inr rfl) ⟨_, rfl, W⟩
theorem wp_Top_hasType {n : Nat} {σ : jS} {Q : Int → jS → Prop} {zo0 : Int} {zx1 : Int} (W : (if zx1 < 0 then Q 0 σ else 0 ≤ zo0 ∧ 0 ≤ rl σ 12001 zo0 ∧ (if rl σ 12001 zo0 ≤ zx1 then Q 0 σ else Q 1 σ))) : TrI n i_Top_hasType [jo 12 zo0, ji zx1] σ Q := by
  refine Tr_of ax_Z_280 ?_
  show J n c_Top_hasType (some .boolean) 0 [some (jo 12 zo0), some (ji zx1)] [] σ (qI Q)
  refine J_iload_n (pc' := 1) rfl rfl rfl ?_
  refine J_if (P := zx1 < 0) (t := 17) (f := 4) rfl rfl rfl jc_lt W (fun W => ?_) (fun W => ?_)
  · refine J_iconst (pc' := 18) rfl (i32_d rfl) rfl ?_
    exact J_zret rfl rfl (Or.inl rfl) ⟨_, rfl, W⟩
  · refine J_iload_n (pc' := 5) rfl rfl rfl ?_
    obtain ⟨zg1, W⟩ := W
    refine J_aload_no (pc' := 6) rfl rfl zg1 rfl ?_
    obtain ⟨zg2, W⟩ := W
    refine J_getA (G := 12001) (pc' := 9) rfl rfl (Nat.le_of_ble_eq_true rfl) rfl zg1 zg2 rfl ?_
    refine J_alen (pc' := 10) rfl (by decide) rfl ?_
    refine J_icmp (P := rl σ 12001 zo0 ≤ zx1) (t := 17) (f := 13) rfl rfl rfl jc_ge W (fun W => ?_) (fun W => ?_)
    · refine J_iconst (pc' := 18) rfl (i32_d rfl) rfl ?_
      exact J_zret rfl rfl (Or.inl rfl) ⟨_, rfl, W⟩
    · refine J_iconst (pc' := 14) rfl (i32_d rfl) rfl ?_
      refine J_goto (pc' := 18) rfl rfl ?_
      exact J_zret rfl rfl (Or.inr rfl) ⟨_, rfl, W⟩
theorem wp_Top_writeFlat {n : Nat} {σ : jS} {Q : Int → jS → Prop} {zo0 : Int} (W : 0 ≤ zo0 ∧ 0 ≤ rs σ 12003 zo0 ∧ (if rs σ 1 (rs σ 12003 zo0) ≤ 100 then 1 ≤ n ∧ 0 ≤ rs σ 12004 zo0 ∧ TrV (n - 1) i_Written_clear [jo 11 (rs σ 12004 zo0)] σ (fun zs5 => 0 ≤ rs zs5 12004 zo0 ∧ TrV (n - 1) i_Written_addFlat [jo 11 (rs zs5 12004 zo0), jo 0 (rs zs5 12003 zo0)] zs5 (fun zs8 => 0 ≤ rs zs8 12004 zo0 ∧ Q (rs zs8 11000 (rs zs8 12004 zo0)) zs8)) else Q (-1) σ)) : TrI n i_Top_writeFlat [jo 12 zo0] σ Q := by
  refine Tr_of ax_Z_281 ?_
  show J n c_Top_writeFlat (some .int) 0 [some (jo 12 zo0)] [] σ (qI Q)
  obtain ⟨zg1, W⟩ := W
  refine J_aload_no (pc' := 1) rfl rfl zg1 rfl ?_
  refine J_getO (G := 12003) (pc' := 4) rfl rfl (Nat.le_of_ble_eq_true rfl) rfl zg1 rfl ?_
  obtain ⟨zg2, W⟩ := W
  refine J_getI (G := 1) (pc' := 7) rfl rfl (Nat.le_of_ble_eq_true rfl) rfl zg2 rfl ?_
  refine J_bipush (pc' := 9) rfl (by decide) (by decide) rfl ?_
  refine J_icmp (P := rs σ 1 (rs σ 12003 zo0) ≤ 100) (t := 14) (f := 12) rfl rfl rfl jc_le W (fun W => ?_) (fun W => ?_)
  · refine J_aload_no (pc' := 15) rfl rfl zg1 rfl ?_
    refine J_getO (G := 12004) (pc' := 18) rfl rfl (Nat.le_of_ble_eq_true rfl) rfl zg1 rfl ?_
    obtain ⟨zg3, W⟩ := W
    obtain ⟨zg4, W⟩ := W
    refine J_callV (as := [jo 11 (rs σ 12004 zo0)]) (rest := []) (pc' := 21) rfl rfl ax_Z_241 rfl rfl (Or.inr (Or.inr ⟨_, _, rfl, zg4⟩)) (Nat.le_of_ble_eq_true rfl) (Nat.le_of_ble_eq_true rfl) (Nat.le_of_ble_eq_true rfl) zg3 trivial trivial rfl W (fun zs5 W => ?_)
    refine J_aload_no (pc' := 22) rfl rfl zg1 rfl ?_
    refine J_getO (G := 12004) (pc' := 25) rfl rfl (Nat.le_of_ble_eq_true rfl) rfl zg1 rfl ?_
    refine J_aload_no (pc' := 26) rfl rfl zg1 rfl ?_
    refine J_getO (G := 12003) (pc' := 29) rfl rfl (Nat.le_of_ble_eq_true rfl) rfl zg1 rfl ?_
    obtain ⟨zg7, W⟩ := W
    refine J_callV (as := [jo 11 (rs zs5 12004 zo0), jo 0 (rs zs5 12003 zo0)]) (rest := []) (pc' := 32) rfl rfl ax_Z_245 rfl rfl (Or.inr (Or.inr ⟨_, _, rfl, zg7⟩)) (Nat.le_of_ble_eq_true rfl) (Nat.le_of_ble_eq_true rfl) (Nat.le_of_ble_eq_true rfl) zg3 trivial trivial rfl W (fun zs8 W => ?_)
    refine J_aload_no (pc' := 33) rfl rfl zg1 rfl ?_
    refine J_getO (G := 12004) (pc' := 36) rfl rfl (Nat.le_of_ble_eq_true rfl) rfl zg1 rfl ?_
    obtain ⟨zg10, W⟩ := W
    refine J_getI (G := 11000) (pc' := 39) rfl rfl (Nat.le_of_ble_eq_true rfl) rfl zg10 rfl ?_
    exact J_iret rfl rfl ⟨_, rfl, W⟩
  · refine J_iconst (pc' := 13) rfl (i32_d rfl) rfl ?_
    exact J_iret rfl rfl ⟨_, rfl, W⟩
theorem wp_Top_keepAsking {n : Nat} {σ : jS} {Q : jS → Prop} {zo0 : Int} (W : 0 ≤ zo0 ∧ 0 ≤ rs σ 12007 zo0 ∧ 0 ≤ rl σ 7002 (rs σ 12007 zo0) ∧ 0 ≤ rl σ 12011 zo0 ∧ 1 ≤ n ∧ 0 + 9 ≤ rl σ 7002 (rs σ 12007 zo0) ∧ 0 + 9 ≤ rl σ 12011 zo0 ∧ (∀ zs6, zs6 = wA σ 12011 zo0 (fun j => if 0 ≤ j ∧ j < 0 + 9 then ra σ 7002 (rs σ 12007 zo0) (0 + (j - 0)) else ra σ 12011 zo0 j) → 0 ≤ rs zs6 12014 zo0 ∧ TrV (n - 1) i_Forest_clear [jo 3 (rs zs6 12014 zo0)] zs6 (fun zs10 => 0 ≤ rl zs10 12011 zo0 ∧ 0 < rl zs10 12011 zo0 ∧ (if ¬ ra zs10 12011 zo0 0 = 0 then J n c_Top_keepAsking none 46 [some (jo 12 zo0)] [] zs10 (qV Q) else 0 ≤ rs zs10 12007 zo0 ∧ TrV (n - 1) i_Search_plant [jo 7 (rs zs10 12007 zo0), ji 0, jo 3 (rs zs10 12014 zo0)] zs10 (fun zs15 => J n c_Top_keepAsking none 46 [some (jo 12 zo0)] [] zs15 (qV Q)))))) : TrV n i_Top_keepAsking [jo 12 zo0] σ Q := by
  refine Tr_of ax_Z_282 ?_
  show J n c_Top_keepAsking none 0 [some (jo 12 zo0)] [] σ (qV Q)
  obtain ⟨zg1, W⟩ := W
  refine J_aload_no (pc' := 1) rfl rfl zg1 rfl ?_
  refine J_getO (G := 12007) (pc' := 4) rfl rfl (Nat.le_of_ble_eq_true rfl) rfl zg1 rfl ?_
  obtain ⟨zg2, W⟩ := W
  obtain ⟨zg3, W⟩ := W
  refine J_getA (G := 7002) (pc' := 7) rfl rfl (Nat.le_of_ble_eq_true rfl) rfl zg2 zg3 rfl ?_
  refine J_iconst (pc' := 8) rfl (i32_d rfl) rfl ?_
  refine J_aload_no (pc' := 9) rfl rfl zg1 rfl ?_
  obtain ⟨zg4, W⟩ := W
  refine J_getA (G := 12011) (pc' := 12) rfl rfl (Nat.le_of_ble_eq_true rfl) rfl zg1 zg4 rfl ?_
  refine J_iconst (pc' := 13) rfl (i32_d rfl) rfl ?_
  refine J_bipush (pc' := 15) rfl (by decide) (by decide) rfl ?_
  obtain ⟨zg5, W⟩ := W
  obtain ⟨zg7, W⟩ := W
  obtain ⟨zg8, W⟩ := W
  refine J_copy (pc' := 18) rfl rfl rfl (by decide) (by decide) zg5 (Nat.le_of_ble_eq_true rfl) (by decide) (by decide) (by decide) zg7 zg8 rfl (fun zs6 ezs6 => ?_)
  replace W := W zs6 ezs6
  refine J_aload_no (pc' := 19) rfl rfl zg1 rfl ?_
  refine J_getO (G := 12014) (pc' := 22) rfl rfl (Nat.le_of_ble_eq_true rfl) rfl zg1 rfl ?_
  obtain ⟨zg9, W⟩ := W
  refine J_callV (as := [jo 3 (rs zs6 12014 zo0)]) (rest := []) (pc' := 25) rfl rfl ax_Z_133 rfl rfl (Or.inr (Or.inr ⟨_, _, rfl, zg9⟩)) (Nat.le_of_ble_eq_true rfl) (Nat.le_of_ble_eq_true rfl) (Nat.le_of_ble_eq_true rfl) zg5 trivial trivial rfl W (fun zs10 W => ?_)
  refine J_aload_no (pc' := 26) rfl rfl zg1 rfl ?_
  obtain ⟨zg12, W⟩ := W
  refine J_getA (G := 12011) (pc' := 29) rfl rfl (Nat.le_of_ble_eq_true rfl) rfl zg1 zg12 rfl ?_
  refine J_iconst (pc' := 30) rfl (i32_d rfl) rfl ?_
  obtain ⟨zg13, W⟩ := W
  refine J_iald (pc' := 31) rfl rfl (by decide) zg13 rfl ?_
  refine J_if (P := ¬ ra zs10 12011 zo0 0 = 0) (t := 46) (f := 34) rfl rfl rfl jc_ne W (fun W => ?_) (fun W => ?_)
  · exact W
  · refine J_aload_no (pc' := 35) rfl rfl zg1 rfl ?_
    refine J_getO (G := 12007) (pc' := 38) rfl rfl (Nat.le_of_ble_eq_true rfl) rfl zg1 rfl ?_
    refine J_iconst (pc' := 39) rfl (i32_d rfl) rfl ?_
    refine J_aload_no (pc' := 40) rfl rfl zg1 rfl ?_
    refine J_getO (G := 12014) (pc' := 43) rfl rfl (Nat.le_of_ble_eq_true rfl) rfl zg1 rfl ?_
    obtain ⟨zg14, W⟩ := W
    refine J_callV (as := [jo 7 (rs zs10 12007 zo0), ji 0, jo 3 (rs zs10 12014 zo0)]) (rest := []) (pc' := 46) rfl rfl ax_Z_174 rfl rfl (Or.inr (Or.inr ⟨_, _, rfl, zg14⟩)) (Nat.le_of_ble_eq_true rfl) (Nat.le_of_ble_eq_true rfl) (Nat.le_of_ble_eq_true rfl) zg5 trivial trivial rfl W (fun zs15 W => ?_)
    exact W
theorem wp_Top_keepAsking_46 {n : Nat} {σ : jS} {Q : jS → Prop} {zo0 : Int} (W : 0 ≤ zo0 ∧ 0 ≤ rl σ 12011 zo0 ∧ 0 ≤ rs σ 12014 zo0 ∧ 0 ≤ rs σ 3000 (rs σ 12014 zo0) ∧ 5 < rl σ 12011 zo0 ∧ (∀ zs5, zs5 = wa σ 12011 zo0 5 (rs σ 6000 (rs σ 3000 (rs σ 12014 zo0))) → 0 ≤ rl zs5 12011 zo0 ∧ 1 ≤ n ∧ 0 ≤ rs zs5 12014 zo0 ∧ TrI (n - 1) i_Forest_deepest [jo 3 (rs zs5 12014 zo0)] zs5 (fun zr11 zs10 => 6 < rl zs10 12011 zo0 ∧ (∀ zs12, zs12 = wa zs10 12011 zo0 6 zr11 → 0 ≤ rl zs12 12011 zo0 ∧ 0 ≤ rs zs12 12014 zo0 ∧ TrI (n - 1) i_Forest_unlikeGivens [jo 3 (rs zs12 12014 zo0)] zs12 (fun zr17 zs16 => 8 < rl zs16 12011 zo0 ∧ (∀ zs18, zs18 = wa zs16 12011 zo0 8 zr17 → 0 ≤ rs zs18 12007 zo0 ∧ (∀ zs21, zs21 = ws zs18 12016 zo0 (rs zs18 7004 (rs zs18 12007 zo0)) → 0 ≤ rs zs21 12007 zo0 ∧ (∀ zs23, zs23 = ws zs21 12017 zo0 (rs zs21 7005 (rs zs21 12007 zo0)) → 0 ≤ rs zs23 12007 zo0 ∧ 0 ≤ rs zs23 12013 zo0 ∧ TrV (n - 1) i_Flat_take [jo 0 (rs zs23 12013 zo0), jo 0 (rs zs23 7003 (rs zs23 12007 zo0))] zs23 (fun zs26 => Q zs26))))))))) : J n c_Top_keepAsking none 46 [some (jo 12 zo0)] [] σ (qV Q) := by
  obtain ⟨zg1, W⟩ := W
  refine J_aload_no (pc' := 47) rfl rfl zg1 rfl ?_
  obtain ⟨zg2, W⟩ := W
  refine J_getA (G := 12011) (pc' := 50) rfl rfl (Nat.le_of_ble_eq_true rfl) rfl zg1 zg2 rfl ?_
  refine J_iconst (pc' := 51) rfl (i32_d rfl) rfl ?_
  refine J_aload_no (pc' := 52) rfl rfl zg1 rfl ?_
  refine J_getO (G := 12014) (pc' := 55) rfl rfl (Nat.le_of_ble_eq_true rfl) rfl zg1 rfl ?_
  obtain ⟨zg3, W⟩ := W
  refine J_getO (G := 3000) (pc' := 58) rfl rfl (Nat.le_of_ble_eq_true rfl) rfl zg3 rfl ?_
  obtain ⟨zg4, W⟩ := W
  refine J_getI (G := 6000) (pc' := 61) rfl rfl (Nat.le_of_ble_eq_true rfl) rfl zg4 rfl ?_
  obtain ⟨zg6, W⟩ := W
  refine J_iast (pc' := 62) rfl rfl (by decide) (by decide) zg6 rfl (fun zs5 ezs5 => ?_)
  replace W := W zs5 ezs5
  refine J_aload_no (pc' := 63) rfl rfl zg1 rfl ?_
  obtain ⟨zg7, W⟩ := W
  refine J_getA (G := 12011) (pc' := 66) rfl rfl (Nat.le_of_ble_eq_true rfl) rfl zg1 zg7 rfl ?_
  refine J_bipush (pc' := 68) rfl (by decide) (by decide) rfl ?_
  refine J_aload_no (pc' := 69) rfl rfl zg1 rfl ?_
  refine J_getO (G := 12014) (pc' := 72) rfl rfl (Nat.le_of_ble_eq_true rfl) rfl zg1 rfl ?_
  obtain ⟨zg8, W⟩ := W
  obtain ⟨zg9, W⟩ := W
  refine J_callI (as := [jo 3 (rs zs5 12014 zo0)]) (rest := [ji 6, ja 12011 zo0]) (pc' := 75) rfl rfl ax_Z_137 rfl rfl (Or.inr (Or.inr ⟨_, _, rfl, zg9⟩)) (Nat.le_of_ble_eq_true rfl) (Nat.le_of_ble_eq_true rfl) (Nat.le_of_ble_eq_true rfl) zg8 trivial (And.intro rfl trivial) rfl W (fun zr11 zs10 W => ?_)
  obtain ⟨zg13, W⟩ := W
  refine J_iast (pc' := 76) rfl rfl (by decide) (by decide) zg13 rfl (fun zs12 ezs12 => ?_)
  replace W := W zs12 ezs12
  refine J_aload_no (pc' := 77) rfl rfl zg1 rfl ?_
  obtain ⟨zg14, W⟩ := W
  refine J_getA (G := 12011) (pc' := 80) rfl rfl (Nat.le_of_ble_eq_true rfl) rfl zg1 zg14 rfl ?_
  refine J_bipush (pc' := 82) rfl (by decide) (by decide) rfl ?_
  refine J_aload_no (pc' := 83) rfl rfl zg1 rfl ?_
  refine J_getO (G := 12014) (pc' := 86) rfl rfl (Nat.le_of_ble_eq_true rfl) rfl zg1 rfl ?_
  obtain ⟨zg15, W⟩ := W
  refine J_callI (as := [jo 3 (rs zs12 12014 zo0)]) (rest := [ji 8, ja 12011 zo0]) (pc' := 89) rfl rfl ax_Z_139 rfl rfl (Or.inr (Or.inr ⟨_, _, rfl, zg15⟩)) (Nat.le_of_ble_eq_true rfl) (Nat.le_of_ble_eq_true rfl) (Nat.le_of_ble_eq_true rfl) zg8 trivial (And.intro rfl trivial) rfl W (fun zr17 zs16 W => ?_)
  obtain ⟨zg19, W⟩ := W
  refine J_iast (pc' := 90) rfl rfl (by decide) (by decide) zg19 rfl (fun zs18 ezs18 => ?_)
  replace W := W zs18 ezs18
  refine J_aload_no (pc' := 91) rfl rfl zg1 rfl ?_
  refine J_aload_no (pc' := 92) rfl rfl zg1 rfl ?_
  refine J_getO (G := 12007) (pc' := 95) rfl rfl (Nat.le_of_ble_eq_true rfl) rfl zg1 rfl ?_
  obtain ⟨zg20, W⟩ := W
  refine J_getI (G := 7004) (pc' := 98) rfl rfl (Nat.le_of_ble_eq_true rfl) rfl zg20 rfl ?_
  refine J_putI (G := 12016) (pc' := 101) rfl rfl (Nat.le_of_ble_eq_true rfl) rfl rfl zg1 rfl (fun zs21 ezs21 => ?_)
  replace W := W zs21 ezs21
  refine J_aload_no (pc' := 102) rfl rfl zg1 rfl ?_
  refine J_aload_no (pc' := 103) rfl rfl zg1 rfl ?_
  refine J_getO (G := 12007) (pc' := 106) rfl rfl (Nat.le_of_ble_eq_true rfl) rfl zg1 rfl ?_
  obtain ⟨zg22, W⟩ := W
  refine J_getI (G := 7005) (pc' := 109) rfl rfl (Nat.le_of_ble_eq_true rfl) rfl zg22 rfl ?_
  refine J_putI (G := 12017) (pc' := 112) rfl rfl (Nat.le_of_ble_eq_true rfl) rfl rfl zg1 rfl (fun zs23 ezs23 => ?_)
  replace W := W zs23 ezs23
  refine J_aload_no (pc' := 113) rfl rfl zg1 rfl ?_
  refine J_getO (G := 12013) (pc' := 116) rfl rfl (Nat.le_of_ble_eq_true rfl) rfl zg1 rfl ?_
  refine J_aload_no (pc' := 117) rfl rfl zg1 rfl ?_
  refine J_getO (G := 12007) (pc' := 120) rfl rfl (Nat.le_of_ble_eq_true rfl) rfl zg1 rfl ?_
  obtain ⟨zg24, W⟩ := W
  refine J_getO (G := 7003) (pc' := 123) rfl rfl (Nat.le_of_ble_eq_true rfl) rfl zg24 rfl ?_
  obtain ⟨zg25, W⟩ := W
  refine J_weak (L' := [none]) trivial ?_
  refine J_callV (as := [jo 0 (rs zs23 12013 zo0), jo 0 (rs zs23 7003 (rs zs23 12007 zo0))]) (rest := []) (pc' := 126) rfl rfl ax_Z_122 rfl rfl (Or.inr (Or.inr ⟨_, _, rfl, zg25⟩)) (Nat.le_of_ble_eq_true rfl) (Nat.le_of_ble_eq_true rfl) (Nat.le_of_ble_eq_true rfl) zg8 trivial trivial rfl W (fun zs26 W => ?_)
  exact J_vret rfl rfl ⟨rfl, W⟩
