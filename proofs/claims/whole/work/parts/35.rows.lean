/-! Rows that turn code into formulas (written by genwp.py). -/
theorem wp_Terms_make {n : Nat} {σ : jS} {Q : Int → jS → Prop} {zo0 : Int} {zx1 : Int} (W : 0 ≤ zo0 ∧ 0 ≤ rl σ 9003 zo0 ∧ (if ¬ rs σ 9000 zo0 = rl σ 9003 zo0 then J n c_Terms_make (some .int) 51 [some (jo 9 zo0), some (ji zx1), none] [] σ (qI Q) else 1 ≤ n ∧ TrA (n - 1) i_Terms_grown [ja 9003 zo0, ji 65536] σ (fun zF6 zp7 zs4 => (if zF6 = 900000 ∧ zp7 = 0 then ∀ zs8, zs8 = mA zs4 0 9003 zo0 → 0 ≤ rl zs8 9004 zo0 ∧ TrA (n - 1) i_Terms_grown [ja 9004 zo0, ji 65536] zs8 (fun zF13 zp14 zs11 => (if zF13 = 900000 ∧ zp14 = 0 then ∀ zs15, zs15 = mA zs11 0 9004 zo0 → 0 ≤ rl zs15 9005 zo0 ∧ TrA (n - 1) i_Terms_grown [ja 9005 zo0, ji 196608] zs15 (fun zF20 zp21 zs18 => (if zF20 = 900000 ∧ zp21 = 0 then ∀ zs22, zs22 = mA zs18 0 9005 zo0 → J n c_Terms_make (some .int) 51 [some (jo 9 zo0), some (ji zx1), none] [] zs22 (qI Q) else (zF20 = 9005 ∧ zp21 = zo0) ∧ J n c_Terms_make (some .int) 51 [some (jo 9 zo0), some (ji zx1), none] [] zs18 (qI Q))) else (zF13 = 9004 ∧ zp14 = zo0) ∧ 0 ≤ rl zs11 9005 zo0 ∧ TrA (n - 1) i_Terms_grown [ja 9005 zo0, ji 196608] zs11 (fun zF28 zp29 zs26 => (if zF28 = 900000 ∧ zp29 = 0 then ∀ zs30, zs30 = mA zs26 0 9005 zo0 → J n c_Terms_make (some .int) 51 [some (jo 9 zo0), some (ji zx1), none] [] zs30 (qI Q) else (zF28 = 9005 ∧ zp29 = zo0) ∧ J n c_Terms_make (some .int) 51 [some (jo 9 zo0), some (ji zx1), none] [] zs26 (qI Q))))) else (zF6 = 9003 ∧ zp7 = zo0) ∧ 0 ≤ rl zs4 9004 zo0 ∧ TrA (n - 1) i_Terms_grown [ja 9004 zo0, ji 65536] zs4 (fun zF37 zp38 zs35 => (if zF37 = 900000 ∧ zp38 = 0 then ∀ zs39, zs39 = mA zs35 0 9004 zo0 → 0 ≤ rl zs39 9005 zo0 ∧ TrA (n - 1) i_Terms_grown [ja 9005 zo0, ji 196608] zs39 (fun zF44 zp45 zs42 => (if zF44 = 900000 ∧ zp45 = 0 then ∀ zs46, zs46 = mA zs42 0 9005 zo0 → J n c_Terms_make (some .int) 51 [some (jo 9 zo0), some (ji zx1), none] [] zs46 (qI Q) else (zF44 = 9005 ∧ zp45 = zo0) ∧ J n c_Terms_make (some .int) 51 [some (jo 9 zo0), some (ji zx1), none] [] zs42 (qI Q))) else (zF37 = 9004 ∧ zp38 = zo0) ∧ 0 ≤ rl zs35 9005 zo0 ∧ TrA (n - 1) i_Terms_grown [ja 9005 zo0, ji 196608] zs35 (fun zF52 zp53 zs50 => (if zF52 = 900000 ∧ zp53 = 0 then ∀ zs54, zs54 = mA zs50 0 9005 zo0 → J n c_Terms_make (some .int) 51 [some (jo 9 zo0), some (ji zx1), none] [] zs54 (qI Q) else (zF52 = 9005 ∧ zp53 = zo0) ∧ J n c_Terms_make (some .int) 51 [some (jo 9 zo0), some (ji zx1), none] [] zs50 (qI Q))))))))) : TrI n i_Terms_make [jo 9 zo0, ji zx1] σ Q := by
  refine Tr_of ax_Z_202 ?_
  show J n c_Terms_make (some .int) 0 [some (jo 9 zo0), some (ji zx1), none] [] σ (qI Q)
  obtain ⟨zg1, W⟩ := W
  refine J_aload_no (pc' := 1) rfl rfl zg1 rfl ?_
  refine J_getI (G := 9000) (pc' := 4) rfl rfl (Nat.le_of_ble_eq_true rfl) rfl zg1 rfl ?_
  refine J_aload_no (pc' := 5) rfl rfl zg1 rfl ?_
  obtain ⟨zg2, W⟩ := W
  refine J_getA (G := 9003) (pc' := 8) rfl rfl (Nat.le_of_ble_eq_true rfl) rfl zg1 zg2 rfl ?_
  refine J_alen (pc' := 9) rfl (by decide) rfl ?_
  refine J_icmp (P := ¬ rs σ 9000 zo0 = rl σ 9003 zo0) (t := 51) (f := 12) rfl rfl rfl jc_ne W (fun W => ?_) (fun W => ?_)
  · exact W
  · refine J_aload_no (pc' := 13) rfl rfl zg1 rfl ?_
    refine J_aload_no (pc' := 14) rfl rfl zg1 rfl ?_
    refine J_getA (G := 9003) (pc' := 17) rfl rfl (Nat.le_of_ble_eq_true rfl) rfl zg1 zg2 rfl ?_
    refine J_ldc (pc' := 19) (Or.inl rfl) rfl (i32_d rfl) rfl ?_
    obtain ⟨zg3, W⟩ := W
    refine J_callA (as := [ja 9003 zo0, ji 65536]) (rest := [jo 9 zo0]) (pc' := 22) rfl rfl ax_Z_201 rfl rfl (Or.inl rfl) (Nat.le_of_ble_eq_true rfl) (Nat.le_of_ble_eq_true rfl) (Nat.le_of_ble_eq_true rfl) zg3 trivial trivial rfl W (fun zF6 zp7 zs4 W => ?_)
    by_cases zc58 : zF6 = 900000 ∧ zp7 = 0
    · rw [if_pos zc58] at W
      obtain ⟨rfl, rfl⟩ := zc58
      refine J_putT (G := 9003) (t := 0) (pc' := 25) rfl rfl (Nat.le_of_ble_eq_true rfl) rfl rfl rfl zg1 (Or.inl rfl) trivial trivial trivial trivial rfl (fun zs8 ezs8 => ?_)
      replace W := W zs8 ezs8
      refine J_aload_no (pc' := 26) rfl rfl zg1 rfl ?_
      refine J_aload_no (pc' := 27) rfl rfl zg1 rfl ?_
      obtain ⟨zg10, W⟩ := W
      refine J_getA (G := 9004) (pc' := 30) rfl rfl (Nat.le_of_ble_eq_true rfl) rfl zg1 zg10 rfl ?_
      refine J_ldc (pc' := 32) (Or.inl rfl) rfl (i32_d rfl) rfl ?_
      refine J_callA (as := [ja 9004 zo0, ji 65536]) (rest := [jo 9 zo0]) (pc' := 35) rfl rfl ax_Z_201 rfl rfl (Or.inl rfl) (Nat.le_of_ble_eq_true rfl) (Nat.le_of_ble_eq_true rfl) (Nat.le_of_ble_eq_true rfl) zg3 trivial trivial rfl W (fun zF13 zp14 zs11 W => ?_)
      by_cases zc33 : zF13 = 900000 ∧ zp14 = 0
      · rw [if_pos zc33] at W
        obtain ⟨rfl, rfl⟩ := zc33
        refine J_putT (G := 9004) (t := 0) (pc' := 38) rfl rfl (Nat.le_of_ble_eq_true rfl) rfl rfl rfl zg1 (Or.inl rfl) trivial trivial trivial trivial rfl (fun zs15 ezs15 => ?_)
        replace W := W zs15 ezs15
        refine J_aload_no (pc' := 39) rfl rfl zg1 rfl ?_
        refine J_aload_no (pc' := 40) rfl rfl zg1 rfl ?_
        obtain ⟨zg17, W⟩ := W
        refine J_getA (G := 9005) (pc' := 43) rfl rfl (Nat.le_of_ble_eq_true rfl) rfl zg1 zg17 rfl ?_
        refine J_ldc (pc' := 45) (Or.inl rfl) rfl (i32_d rfl) rfl ?_
        refine J_callA (as := [ja 9005 zo0, ji 196608]) (rest := [jo 9 zo0]) (pc' := 48) rfl rfl ax_Z_201 rfl rfl (Or.inl rfl) (Nat.le_of_ble_eq_true rfl) (Nat.le_of_ble_eq_true rfl) (Nat.le_of_ble_eq_true rfl) zg3 trivial trivial rfl W (fun zF20 zp21 zs18 W => ?_)
        by_cases zc24 : zF20 = 900000 ∧ zp21 = 0
        · rw [if_pos zc24] at W
          obtain ⟨rfl, rfl⟩ := zc24
          refine J_putT (G := 9005) (t := 0) (pc' := 51) rfl rfl (Nat.le_of_ble_eq_true rfl) rfl rfl rfl zg1 (Or.inl rfl) trivial trivial trivial trivial rfl (fun zs22 ezs22 => ?_)
          replace W := W zs22 ezs22
          exact W
        · rw [if_neg zc24] at W
          obtain ⟨⟨e1, e2⟩, W⟩ := W
          replace e2 := e2.symm
          subst e1 e2
          refine J_putS (G := 9005) (pc' := 51) rfl rfl (Nat.le_of_ble_eq_true rfl) rfl rfl zg1 rfl ?_
          exact W
      · rw [if_neg zc33] at W
        obtain ⟨⟨e1, e2⟩, W⟩ := W
        replace e2 := e2.symm
        subst e1 e2
        refine J_putS (G := 9004) (pc' := 38) rfl rfl (Nat.le_of_ble_eq_true rfl) rfl rfl zg1 rfl ?_
        refine J_aload_no (pc' := 39) rfl rfl zg1 rfl ?_
        refine J_aload_no (pc' := 40) rfl rfl zg1 rfl ?_
        obtain ⟨zg25, W⟩ := W
        refine J_getA (G := 9005) (pc' := 43) rfl rfl (Nat.le_of_ble_eq_true rfl) rfl zg1 zg25 rfl ?_
        refine J_ldc (pc' := 45) (Or.inl rfl) rfl (i32_d rfl) rfl ?_
        refine J_callA (as := [ja 9005 zo0, ji 196608]) (rest := [jo 9 zo0]) (pc' := 48) rfl rfl ax_Z_201 rfl rfl (Or.inl rfl) (Nat.le_of_ble_eq_true rfl) (Nat.le_of_ble_eq_true rfl) (Nat.le_of_ble_eq_true rfl) zg3 trivial trivial rfl W (fun zF28 zp29 zs26 W => ?_)
        by_cases zc32 : zF28 = 900000 ∧ zp29 = 0
        · rw [if_pos zc32] at W
          obtain ⟨rfl, rfl⟩ := zc32
          refine J_putT (G := 9005) (t := 0) (pc' := 51) rfl rfl (Nat.le_of_ble_eq_true rfl) rfl rfl rfl zg1 (Or.inl rfl) trivial trivial trivial trivial rfl (fun zs30 ezs30 => ?_)
          replace W := W zs30 ezs30
          exact W
        · rw [if_neg zc32] at W
          obtain ⟨⟨e1, e2⟩, W⟩ := W
          replace e2 := e2.symm
          subst e1 e2
          refine J_putS (G := 9005) (pc' := 51) rfl rfl (Nat.le_of_ble_eq_true rfl) rfl rfl zg1 rfl ?_
          exact W
    · rw [if_neg zc58] at W
      obtain ⟨⟨e1, e2⟩, W⟩ := W
      replace e2 := e2.symm
      subst e1 e2
      refine J_putS (G := 9003) (pc' := 25) rfl rfl (Nat.le_of_ble_eq_true rfl) rfl rfl zg1 rfl ?_
      refine J_aload_no (pc' := 26) rfl rfl zg1 rfl ?_
      refine J_aload_no (pc' := 27) rfl rfl zg1 rfl ?_
      obtain ⟨zg34, W⟩ := W
      refine J_getA (G := 9004) (pc' := 30) rfl rfl (Nat.le_of_ble_eq_true rfl) rfl zg1 zg34 rfl ?_
      refine J_ldc (pc' := 32) (Or.inl rfl) rfl (i32_d rfl) rfl ?_
      refine J_callA (as := [ja 9004 zo0, ji 65536]) (rest := [jo 9 zo0]) (pc' := 35) rfl rfl ax_Z_201 rfl rfl (Or.inl rfl) (Nat.le_of_ble_eq_true rfl) (Nat.le_of_ble_eq_true rfl) (Nat.le_of_ble_eq_true rfl) zg3 trivial trivial rfl W (fun zF37 zp38 zs35 W => ?_)
      by_cases zc57 : zF37 = 900000 ∧ zp38 = 0
      · rw [if_pos zc57] at W
        obtain ⟨rfl, rfl⟩ := zc57
        refine J_putT (G := 9004) (t := 0) (pc' := 38) rfl rfl (Nat.le_of_ble_eq_true rfl) rfl rfl rfl zg1 (Or.inl rfl) trivial trivial trivial trivial rfl (fun zs39 ezs39 => ?_)
        replace W := W zs39 ezs39
        refine J_aload_no (pc' := 39) rfl rfl zg1 rfl ?_
        refine J_aload_no (pc' := 40) rfl rfl zg1 rfl ?_
        obtain ⟨zg41, W⟩ := W
        refine J_getA (G := 9005) (pc' := 43) rfl rfl (Nat.le_of_ble_eq_true rfl) rfl zg1 zg41 rfl ?_
        refine J_ldc (pc' := 45) (Or.inl rfl) rfl (i32_d rfl) rfl ?_
        refine J_callA (as := [ja 9005 zo0, ji 196608]) (rest := [jo 9 zo0]) (pc' := 48) rfl rfl ax_Z_201 rfl rfl (Or.inl rfl) (Nat.le_of_ble_eq_true rfl) (Nat.le_of_ble_eq_true rfl) (Nat.le_of_ble_eq_true rfl) zg3 trivial trivial rfl W (fun zF44 zp45 zs42 W => ?_)
        by_cases zc48 : zF44 = 900000 ∧ zp45 = 0
        · rw [if_pos zc48] at W
          obtain ⟨rfl, rfl⟩ := zc48
          refine J_putT (G := 9005) (t := 0) (pc' := 51) rfl rfl (Nat.le_of_ble_eq_true rfl) rfl rfl rfl zg1 (Or.inl rfl) trivial trivial trivial trivial rfl (fun zs46 ezs46 => ?_)
          replace W := W zs46 ezs46
          exact W
        · rw [if_neg zc48] at W
          obtain ⟨⟨e1, e2⟩, W⟩ := W
          replace e2 := e2.symm
          subst e1 e2
          refine J_putS (G := 9005) (pc' := 51) rfl rfl (Nat.le_of_ble_eq_true rfl) rfl rfl zg1 rfl ?_
          exact W
      · rw [if_neg zc57] at W
        obtain ⟨⟨e1, e2⟩, W⟩ := W
        replace e2 := e2.symm
        subst e1 e2
        refine J_putS (G := 9004) (pc' := 38) rfl rfl (Nat.le_of_ble_eq_true rfl) rfl rfl zg1 rfl ?_
        refine J_aload_no (pc' := 39) rfl rfl zg1 rfl ?_
        refine J_aload_no (pc' := 40) rfl rfl zg1 rfl ?_
        obtain ⟨zg49, W⟩ := W
        refine J_getA (G := 9005) (pc' := 43) rfl rfl (Nat.le_of_ble_eq_true rfl) rfl zg1 zg49 rfl ?_
        refine J_ldc (pc' := 45) (Or.inl rfl) rfl (i32_d rfl) rfl ?_
        refine J_callA (as := [ja 9005 zo0, ji 196608]) (rest := [jo 9 zo0]) (pc' := 48) rfl rfl ax_Z_201 rfl rfl (Or.inl rfl) (Nat.le_of_ble_eq_true rfl) (Nat.le_of_ble_eq_true rfl) (Nat.le_of_ble_eq_true rfl) zg3 trivial trivial rfl W (fun zF52 zp53 zs50 W => ?_)
        by_cases zc56 : zF52 = 900000 ∧ zp53 = 0
        · rw [if_pos zc56] at W
          obtain ⟨rfl, rfl⟩ := zc56
          refine J_putT (G := 9005) (t := 0) (pc' := 51) rfl rfl (Nat.le_of_ble_eq_true rfl) rfl rfl rfl zg1 (Or.inl rfl) trivial trivial trivial trivial rfl (fun zs54 ezs54 => ?_)
          replace W := W zs54 ezs54
          exact W
        · rw [if_neg zc56] at W
          obtain ⟨⟨e1, e2⟩, W⟩ := W
          replace e2 := e2.symm
          subst e1 e2
          refine J_putS (G := 9005) (pc' := 51) rfl rfl (Nat.le_of_ble_eq_true rfl) rfl rfl zg1 rfl ?_
          exact W
theorem wp_Terms_make_51 {n : Nat} {σ : jS} {Q : Int → jS → Prop} {zo0 : Int} {zx1 : Int} (W : 0 ≤ zo0 ∧ 0 ≤ rl σ 9003 zo0 ∧ (if rs σ 9000 zo0 < rl σ 9003 zo0 then i32 ((rs σ 9000 zo0) + 1) ∧ (∀ zs4, zs4 = ws σ 9000 zo0 ((rs σ 9000 zo0) + 1) → 0 ≤ rl zs4 9003 zo0 ∧ 0 ≤ rs σ 9000 zo0 ∧ rs σ 9000 zo0 < rl zs4 9003 zo0 ∧ (∀ zs6, zs6 = wa zs4 9003 zo0 (rs σ 9000 zo0) zx1 → 1 ≤ n ∧ TrV (n - 1) i_Terms_setPart [jo 9 zo0, ji (rs σ 9000 zo0), ji 0, ji (-1)] zs6 (fun zs10 => Q (rs σ 9000 zo0) zs10))) else Q (-1) σ)) : J n c_Terms_make (some .int) 51 [some (jo 9 zo0), some (ji zx1), none] [] σ (qI Q) := by
  obtain ⟨zg1, W⟩ := W
  refine J_aload_no (pc' := 52) rfl rfl zg1 rfl ?_
  refine J_getI (G := 9000) (pc' := 55) rfl rfl (Nat.le_of_ble_eq_true rfl) rfl zg1 rfl ?_
  refine J_aload_no (pc' := 56) rfl rfl zg1 rfl ?_
  obtain ⟨zg2, W⟩ := W
  refine J_getA (G := 9003) (pc' := 59) rfl rfl (Nat.le_of_ble_eq_true rfl) rfl zg1 zg2 rfl ?_
  refine J_alen (pc' := 60) rfl (by decide) rfl ?_
  refine J_icmp (P := rs σ 9000 zo0 < rl σ 9003 zo0) (t := 65) (f := 63) rfl rfl rfl jc_lt W (fun W => ?_) (fun W => ?_)
  · refine J_aload_no (pc' := 66) rfl rfl zg1 rfl ?_
    refine J_getI (G := 9000) (pc' := 69) rfl rfl (Nat.le_of_ble_eq_true rfl) rfl zg1 rfl ?_
    refine J_istore_n (L' := [some (jo 9 zo0), some (ji zx1), some (ji (rs σ 9000 zo0))]) (pc' := 70) rfl (Nat.le_of_ble_eq_true rfl) rfl rfl ?_
    refine J_aload_no (pc' := 71) rfl rfl zg1 rfl ?_
    refine J_dup (pc' := 72) rfl rfl rfl ?_
    refine J_getI (G := 9000) (pc' := 75) rfl rfl (Nat.le_of_ble_eq_true rfl) rfl zg1 rfl ?_
    refine J_iconst (pc' := 76) rfl (i32_d rfl) rfl ?_
    obtain ⟨zg3, W⟩ := W
    refine J_iadd (pc' := 77) rfl zg3 rfl ?_
    refine J_putI (G := 9000) (pc' := 80) rfl rfl (Nat.le_of_ble_eq_true rfl) rfl rfl zg1 rfl (fun zs4 ezs4 => ?_)
    replace W := W zs4 ezs4
    refine J_aload_no (pc' := 81) rfl rfl zg1 rfl ?_
    obtain ⟨zg5, W⟩ := W
    refine J_getA (G := 9003) (pc' := 84) rfl rfl (Nat.le_of_ble_eq_true rfl) rfl zg1 zg5 rfl ?_
    refine J_iload_n (pc' := 85) rfl rfl rfl ?_
    refine J_iload_n (pc' := 86) rfl rfl rfl ?_
    obtain ⟨zg7, W⟩ := W
    obtain ⟨zg8, W⟩ := W
    refine J_iast (pc' := 87) rfl rfl (by decide) zg7 zg8 rfl (fun zs6 ezs6 => ?_)
    replace W := W zs6 ezs6
    refine J_aload_no (pc' := 88) rfl rfl zg1 rfl ?_
    refine J_iload_n (pc' := 89) rfl rfl rfl ?_
    refine J_iconst (pc' := 90) rfl (i32_d rfl) rfl ?_
    refine J_iconst (pc' := 91) rfl (i32_d rfl) rfl ?_
    obtain ⟨zg9, W⟩ := W
    refine J_weak (L' := [none, none, some (ji (rs σ 9000 zo0))]) (And.intro rfl trivial) ?_
    refine J_callV (as := [jo 9 zo0, ji (rs σ 9000 zo0), ji 0, ji (-1)]) (rest := []) (pc' := 94) rfl rfl ax_Z_200 rfl rfl (Or.inr (Or.inr ⟨_, _, rfl, zg1⟩)) (Nat.le_of_ble_eq_true rfl) (Nat.le_of_ble_eq_true rfl) (Nat.le_of_ble_eq_true rfl) zg9 trivial trivial rfl W (fun zs10 W => ?_)
    refine J_iload_n (pc' := 95) rfl rfl rfl ?_
    exact J_iret rfl rfl ⟨_, rfl, W⟩
  · refine J_iconst (pc' := 64) rfl (i32_d rfl) rfl ?_
    exact J_iret rfl rfl ⟨_, rfl, W⟩
theorem wp_Terms_build {n : Nat} {σ : jS} {Q : Int → jS → Prop} {zo0 : Int} {zo1 : Int} {zx2 : Int} (W : (if zx2 = 0 then 0 ≤ zo0 ∧ (∀ zs2, zs2 = ws σ 9012 zo0 0 → 0 ≤ zo1 ∧ i32 ((rs zs2 1 zo1) - 1) ∧ J n c_Terms_build (some .int) 24 [some (jo 9 zo0), some (jo 0 zo1), none, some (ji ((rs zs2 1 zo1) - 1)), none, none, none] [] zs2 (qI Q)) else 0 ≤ zo0 ∧ 0 ≤ rl σ 9010 zo0 ∧ 1 ≤ n ∧ TrV (n - 1) i_Arrays_fill [ja 9010 zo0, ji (-1)] σ (fun zs8 => (∀ zs10, zs10 = ws zs8 9012 zo0 0 → 0 ≤ zo1 ∧ i32 ((rs zs10 1 zo1) - 1) ∧ J n c_Terms_build (some .int) 24 [some (jo 9 zo0), some (jo 0 zo1), none, some (ji ((rs zs10 1 zo1) - 1)), none, none, none] [] zs10 (qI Q))))) : TrI n i_Terms_build [jo 9 zo0, jo 0 zo1, ji zx2] σ Q := by
  refine Tr_of ax_Z_203 ?_
  show J n c_Terms_build (some .int) 0 [some (jo 9 zo0), some (jo 0 zo1), some (ji zx2), none, none, none, none] [] σ (qI Q)
  refine J_iload_n (pc' := 1) rfl rfl rfl ?_
  refine J_if (P := zx2 = 0) (t := 12) (f := 4) rfl rfl rfl jc_eq W (fun W => ?_) (fun W => ?_)
  · obtain ⟨zg1, W⟩ := W
    refine J_aload_no (pc' := 13) rfl rfl zg1 rfl ?_
    refine J_iconst (pc' := 14) rfl (i32_d rfl) rfl ?_
    refine J_putI (G := 9012) (pc' := 17) rfl rfl (Nat.le_of_ble_eq_true rfl) rfl rfl zg1 rfl (fun zs2 ezs2 => ?_)
    replace W := W zs2 ezs2
    obtain ⟨zg3, W⟩ := W
    refine J_aload_no (pc' := 18) rfl rfl zg3 rfl ?_
    refine J_getI (G := 1) (pc' := 21) rfl rfl (Nat.le_of_ble_eq_true rfl) rfl zg3 rfl ?_
    refine J_iconst (pc' := 22) rfl (i32_d rfl) rfl ?_
    obtain ⟨zg4, W⟩ := W
    refine J_isub (pc' := 23) rfl zg4 rfl ?_
    refine J_istore_n (L' := [some (jo 9 zo0), some (jo 0 zo1), some (ji zx2), some (ji ((rs zs2 1 zo1) - 1)), none, none, none]) (pc' := 24) rfl (Nat.le_of_ble_eq_true rfl) rfl rfl ?_
    refine J_weak (L' := [some (jo 9 zo0), some (jo 0 zo1), none, some (ji ((rs zs2 1 zo1) - 1)), none, none, none]) (And.intro rfl (And.intro rfl (And.intro rfl trivial))) ?_
    exact W
  · obtain ⟨zg5, W⟩ := W
    refine J_aload_no (pc' := 5) rfl rfl zg5 rfl ?_
    obtain ⟨zg6, W⟩ := W
    refine J_getA (G := 9010) (pc' := 8) rfl rfl (Nat.le_of_ble_eq_true rfl) rfl zg5 zg6 rfl ?_
    refine J_iconst (pc' := 9) rfl (i32_d rfl) rfl ?_
    obtain ⟨zg7, W⟩ := W
    refine J_weak (L' := [some (jo 9 zo0), some (jo 0 zo1), none, none, none, none, none]) (And.intro rfl (And.intro rfl trivial)) ?_
    refine J_callV (as := [ja 9010 zo0, ji (-1)]) (rest := []) (pc' := 12) rfl rfl ax_Z_112 rfl rfl (Or.inl rfl) (Nat.le_of_ble_eq_true rfl) (Nat.le_of_ble_eq_true rfl) (Nat.le_of_ble_eq_true rfl) zg7 trivial trivial rfl W (fun zs8 W => ?_)
    refine J_aload_no (pc' := 13) rfl rfl zg5 rfl ?_
    refine J_iconst (pc' := 14) rfl (i32_d rfl) rfl ?_
    refine J_putI (G := 9012) (pc' := 17) rfl rfl (Nat.le_of_ble_eq_true rfl) rfl rfl zg5 rfl (fun zs10 ezs10 => ?_)
    replace W := W zs10 ezs10
    obtain ⟨zg11, W⟩ := W
    refine J_aload_no (pc' := 18) rfl rfl zg11 rfl ?_
    refine J_getI (G := 1) (pc' := 21) rfl rfl (Nat.le_of_ble_eq_true rfl) rfl zg11 rfl ?_
    refine J_iconst (pc' := 22) rfl (i32_d rfl) rfl ?_
    obtain ⟨zg12, W⟩ := W
    refine J_isub (pc' := 23) rfl zg12 rfl ?_
    refine J_istore_n (L' := [some (jo 9 zo0), some (jo 0 zo1), none, some (ji ((rs zs10 1 zo1) - 1)), none, none, none]) (pc' := 24) rfl (Nat.le_of_ble_eq_true rfl) rfl rfl ?_
    exact W
theorem wp_Terms_build_24 {n : Nat} {σ : jS} {Q : Int → jS → Prop} {zo0 : Int} {zo1 : Int} {zx3 : Int} (W : (if zx3 < 0 then 0 ≤ zo0 ∧ 1 ≤ n ∧ TrI (n - 1) i_Terms_popOpen [jo 9 zo0] σ (fun zr4 zs3 => Q zr4 zs3) else 0 ≤ zo1 ∧ 1 ≤ n ∧ TrI (n - 1) i_Flat_at [jo 0 zo1, ji zx3] σ (fun zr8 zs7 => (if zr8 < 104 then 0 ≤ zo0 ∧ TrI (n - 1) i_Terms_make [jo 9 zo0, ji zr8] zs7 (fun zr11 zs10 => J n c_Terms_build (some .int) 65 [some (jo 9 zo0), some (jo 0 zo1), none, some (ji zx3), some (ji zr8), some (ji zr11), some (ji 0)] [] zs10 (qI Q)) else 0 ≤ zo0 ∧ i32 (zr8 - 104) ∧ TrI (n - 1) i_Terms_unknown [jo 9 zo0, ji (zr8 - 104)] zs7 (fun zr15 zs14 => J n c_Terms_build (some .int) 65 [some (jo 9 zo0), some (jo 0 zo1), none, some (ji zx3), some (ji zr8), some (ji zr15), some (ji 0)] [] zs14 (qI Q)))))) : J n c_Terms_build (some .int) 24 [some (jo 9 zo0), some (jo 0 zo1), none, some (ji zx3), none, none, none] [] σ (qI Q) := by
  refine J_iload_n (pc' := 25) rfl rfl rfl ?_
  refine J_if (P := zx3 < 0) (t := 105) (f := 28) rfl rfl rfl jc_lt W (fun W => ?_) (fun W => ?_)
  · obtain ⟨zg1, W⟩ := W
    refine J_aload_no (pc' := 106) rfl rfl zg1 rfl ?_
    obtain ⟨zg2, W⟩ := W
    refine J_weak (L' := [none, none, none, none, none, none, none]) trivial ?_
    refine J_callI (as := [jo 9 zo0]) (rest := []) (pc' := 109) rfl rfl ax_Z_206 rfl rfl (Or.inr (Or.inr ⟨_, _, rfl, zg1⟩)) (Nat.le_of_ble_eq_true rfl) (Nat.le_of_ble_eq_true rfl) (Nat.le_of_ble_eq_true rfl) zg2 trivial trivial rfl W (fun zr4 zs3 W => ?_)
    exact J_iret rfl rfl ⟨_, rfl, W⟩
  · obtain ⟨zg5, W⟩ := W
    refine J_aload_no (pc' := 29) rfl rfl zg5 rfl ?_
    refine J_iload_n (pc' := 30) rfl rfl rfl ?_
    obtain ⟨zg6, W⟩ := W
    refine J_callI (as := [jo 0 zo1, ji zx3]) (rest := []) (pc' := 33) rfl rfl ax_Z_117 rfl rfl (Or.inr (Or.inr ⟨_, _, rfl, zg5⟩)) (Nat.le_of_ble_eq_true rfl) (Nat.le_of_ble_eq_true rfl) (Nat.le_of_ble_eq_true rfl) zg6 trivial trivial rfl W (fun zr8 zs7 W => ?_)
    refine J_istore (L' := [some (jo 9 zo0), some (jo 0 zo1), none, some (ji zx3), some (ji zr8), none, none]) (pc' := 35) rfl (Nat.le_of_ble_eq_true rfl) rfl rfl ?_
    refine J_iload (pc' := 37) rfl rfl rfl ?_
    refine J_bipush (pc' := 39) rfl (by decide) (by decide) rfl ?_
    refine J_icmp (P := zr8 < 104) (t := 54) (f := 42) rfl rfl rfl jc_lt W (fun W => ?_) (fun W => ?_)
    · obtain ⟨zg9, W⟩ := W
      refine J_aload_no (pc' := 55) rfl rfl zg9 rfl ?_
      refine J_iload (pc' := 57) rfl rfl rfl ?_
      refine J_callI (as := [jo 9 zo0, ji zr8]) (rest := []) (pc' := 60) rfl rfl ax_Z_202 rfl rfl (Or.inr (Or.inr ⟨_, _, rfl, zg9⟩)) (Nat.le_of_ble_eq_true rfl) (Nat.le_of_ble_eq_true rfl) (Nat.le_of_ble_eq_true rfl) zg6 trivial trivial rfl W (fun zr11 zs10 W => ?_)
      refine J_istore (L' := [some (jo 9 zo0), some (jo 0 zo1), none, some (ji zx3), some (ji zr8), some (ji zr11), none]) (pc' := 62) rfl (Nat.le_of_ble_eq_true rfl) rfl rfl ?_
      refine J_iconst (pc' := 63) rfl (i32_d rfl) rfl ?_
      refine J_istore (L' := [some (jo 9 zo0), some (jo 0 zo1), none, some (ji zx3), some (ji zr8), some (ji zr11), some (ji 0)]) (pc' := 65) rfl (Nat.le_of_ble_eq_true rfl) rfl rfl ?_
      exact W
    · obtain ⟨zg12, W⟩ := W
      refine J_aload_no (pc' := 43) rfl rfl zg12 rfl ?_
      refine J_iload (pc' := 45) rfl rfl rfl ?_
      refine J_bipush (pc' := 47) rfl (by decide) (by decide) rfl ?_
      obtain ⟨zg13, W⟩ := W
      refine J_isub (pc' := 48) rfl zg13 rfl ?_
      refine J_callI (as := [jo 9 zo0, ji (zr8 - 104)]) (rest := []) (pc' := 51) rfl rfl ax_Z_204 rfl rfl (Or.inr (Or.inr ⟨_, _, rfl, zg12⟩)) (Nat.le_of_ble_eq_true rfl) (Nat.le_of_ble_eq_true rfl) (Nat.le_of_ble_eq_true rfl) zg6 trivial trivial rfl W (fun zr15 zs14 W => ?_)
      refine J_goto (pc' := 60) rfl rfl ?_
      refine J_istore (L' := [some (jo 9 zo0), some (jo 0 zo1), none, some (ji zx3), some (ji zr8), some (ji zr15), none]) (pc' := 62) rfl (Nat.le_of_ble_eq_true rfl) rfl rfl ?_
      refine J_iconst (pc' := 63) rfl (i32_d rfl) rfl ?_
      refine J_istore (L' := [some (jo 9 zo0), some (jo 0 zo1), none, some (ji zx3), some (ji zr8), some (ji zr15), some (ji 0)]) (pc' := 65) rfl (Nat.le_of_ble_eq_true rfl) rfl rfl ?_
      exact W
theorem wp_Terms_build_65 {n : Nat} {σ : jS} {Q : Int → jS → Prop} {zo0 : Int} {zo1 : Int} {zx3 : Int} {zx4 : Int} {zx5 : Int} {zx6 : Int} (W : 1 ≤ n ∧ TrI (n - 1) i_Flat_partsOf [ji zx4] σ (fun zr3 zs2 => (if zr3 ≤ zx6 then 0 ≤ zo0 ∧ TrV (n - 1) i_Terms_pushOpen [jo 9 zo0, ji zx5] zs2 (fun zs5 => i32 (zx3 + (-1)) ∧ J n c_Terms_build (some .int) 24 [some (jo 9 zo0), some (jo 0 zo1), none, some (ji (zx3 + (-1))), none, none, none] [] zs5 (qI Q)) else 0 ≤ zo0 ∧ TrI (n - 1) i_Terms_popOpen [jo 9 zo0] zs2 (fun zr10 zs9 => TrV (n - 1) i_Terms_setPart [jo 9 zo0, ji zx5, ji zx6, ji zr10] zs9 (fun zs11 => i32 (zx6 + 1) ∧ J n c_Terms_build (some .int) 65 [some (jo 9 zo0), some (jo 0 zo1), none, some (ji zx3), some (ji zx4), some (ji zx5), some (ji (zx6 + 1))] [] zs11 (qI Q)))))) : J n c_Terms_build (some .int) 65 [some (jo 9 zo0), some (jo 0 zo1), none, some (ji zx3), some (ji zx4), some (ji zx5), some (ji zx6)] [] σ (qI Q) := by
  refine J_iload (pc' := 67) rfl rfl rfl ?_
  refine J_iload (pc' := 69) rfl rfl rfl ?_
  obtain ⟨zg1, W⟩ := W
  refine J_callI (as := [ji zx4]) (rest := [ji zx6]) (pc' := 72) rfl rfl ax_Z_120 rfl rfl (Or.inl rfl) (Nat.le_of_ble_eq_true rfl) (Nat.le_of_ble_eq_true rfl) (Nat.le_of_ble_eq_true rfl) zg1 trivial trivial rfl W (fun zr3 zs2 W => ?_)
  refine J_icmp (P := zr3 ≤ zx6) (t := 93) (f := 75) rfl rfl rfl jc_ge W (fun W => ?_) (fun W => ?_)
  · obtain ⟨zg4, W⟩ := W
    refine J_aload_no (pc' := 94) rfl rfl zg4 rfl ?_
    refine J_iload (pc' := 96) rfl rfl rfl ?_
    refine J_weak (L' := [some (jo 9 zo0), some (jo 0 zo1), none, some (ji zx3), none, none, none]) (And.intro rfl (And.intro rfl (And.intro rfl trivial))) ?_
    refine J_callV (as := [jo 9 zo0, ji zx5]) (rest := []) (pc' := 99) rfl rfl ax_Z_205 rfl rfl (Or.inr (Or.inr ⟨_, _, rfl, zg4⟩)) (Nat.le_of_ble_eq_true rfl) (Nat.le_of_ble_eq_true rfl) (Nat.le_of_ble_eq_true rfl) zg1 trivial trivial rfl W (fun zs5 W => ?_)
    obtain ⟨zg7, W⟩ := W
    refine J_iinc (L' := [some (jo 9 zo0), some (jo 0 zo1), none, some (ji (zx3 + (-1))), none, none, none]) (pc' := 102) rfl rfl zg7 rfl rfl ?_
    refine J_goto (pc' := 24) rfl rfl ?_
    exact W
  · obtain ⟨zg8, W⟩ := W
    refine J_aload_no (pc' := 76) rfl rfl zg8 rfl ?_
    refine J_iload (pc' := 78) rfl rfl rfl ?_
    refine J_iload (pc' := 80) rfl rfl rfl ?_
    refine J_aload_no (pc' := 81) rfl rfl zg8 rfl ?_
    refine J_callI (as := [jo 9 zo0]) (rest := [ji zx6, ji zx5, jo 9 zo0]) (pc' := 84) rfl rfl ax_Z_206 rfl rfl (Or.inr (Or.inr ⟨_, _, rfl, zg8⟩)) (Nat.le_of_ble_eq_true rfl) (Nat.le_of_ble_eq_true rfl) (Nat.le_of_ble_eq_true rfl) zg1 trivial trivial rfl W (fun zr10 zs9 W => ?_)
    refine J_callV (as := [jo 9 zo0, ji zx5, ji zx6, ji zr10]) (rest := []) (pc' := 87) rfl rfl ax_Z_200 rfl rfl (Or.inr (Or.inr ⟨_, _, rfl, zg8⟩)) (Nat.le_of_ble_eq_true rfl) (Nat.le_of_ble_eq_true rfl) (Nat.le_of_ble_eq_true rfl) zg1 trivial trivial rfl W (fun zs11 W => ?_)
    obtain ⟨zg13, W⟩ := W
    refine J_iinc (L' := [some (jo 9 zo0), some (jo 0 zo1), none, some (ji zx3), some (ji zx4), some (ji zx5), some (ji (zx6 + 1))]) (pc' := 90) rfl rfl zg13 rfl rfl ?_
    refine J_goto (pc' := 65) rfl rfl ?_
    exact W
theorem wp_Terms_unknown {n : Nat} {σ : jS} {Q : Int → jS → Prop} {zo0 : Int} {zx1 : Int} (W : (if zx1 < 0 then Q (-1) σ else (if zx1 < 26 then 0 ≤ zo0 ∧ 0 ≤ rl σ 9010 zo0 ∧ 0 ≤ zx1 ∧ zx1 < rl σ 9010 zo0 ∧ (if ¬ ra σ 9010 zo0 zx1 = (-1) then Q (ra σ 9010 zo0 zx1) σ else 1 ≤ n ∧ TrI (n - 1) i_Terms_make [jo 9 zo0, ji 104] σ (fun zr7 zs6 => zx1 < rl zs6 9010 zo0 ∧ (∀ zs8, zs8 = wa zs6 9010 zo0 zx1 zr7 → 0 ≤ rl zs8 9010 zo0 ∧ zx1 < rl zs8 9010 zo0 ∧ Q (ra zs8 9010 zo0 zx1) zs8))) else Q (-1) σ))) : TrI n i_Terms_unknown [jo 9 zo0, ji zx1] σ Q := by
  refine Tr_of ax_Z_204 ?_
  show J n c_Terms_unknown (some .int) 0 [some (jo 9 zo0), some (ji zx1)] [] σ (qI Q)
  refine J_iload_n (pc' := 1) rfl rfl rfl ?_
  refine J_if (P := zx1 < 0) (t := 10) (f := 4) rfl rfl rfl jc_lt W (fun W => ?_) (fun W => ?_)
  · refine J_iconst (pc' := 11) rfl (i32_d rfl) rfl ?_
    exact J_iret rfl rfl ⟨_, rfl, W⟩
  · refine J_iload_n (pc' := 5) rfl rfl rfl ?_
    refine J_bipush (pc' := 7) rfl (by decide) (by decide) rfl ?_
    refine J_icmp (P := zx1 < 26) (t := 12) (f := 10) rfl rfl rfl jc_lt W (fun W => ?_) (fun W => ?_)
    · obtain ⟨zg1, W⟩ := W
      refine J_aload_no (pc' := 13) rfl rfl zg1 rfl ?_
      obtain ⟨zg2, W⟩ := W
      refine J_getA (G := 9010) (pc' := 16) rfl rfl (Nat.le_of_ble_eq_true rfl) rfl zg1 zg2 rfl ?_
      refine J_iload_n (pc' := 17) rfl rfl rfl ?_
      obtain ⟨zg3, W⟩ := W
      obtain ⟨zg4, W⟩ := W
      refine J_iald (pc' := 18) rfl rfl zg3 zg4 rfl ?_
      refine J_iconst (pc' := 19) rfl (i32_d rfl) rfl ?_
      refine J_icmp (P := ¬ ra σ 9010 zo0 zx1 = (-1)) (t := 34) (f := 22) rfl rfl rfl jc_ne W (fun W => ?_) (fun W => ?_)
      · refine J_aload_no (pc' := 35) rfl rfl zg1 rfl ?_
        refine J_getA (G := 9010) (pc' := 38) rfl rfl (Nat.le_of_ble_eq_true rfl) rfl zg1 zg2 rfl ?_
        refine J_iload_n (pc' := 39) rfl rfl rfl ?_
        refine J_iald (pc' := 40) rfl rfl zg3 zg4 rfl ?_
        exact J_iret rfl rfl ⟨_, rfl, W⟩
      · refine J_aload_no (pc' := 23) rfl rfl zg1 rfl ?_
        refine J_getA (G := 9010) (pc' := 26) rfl rfl (Nat.le_of_ble_eq_true rfl) rfl zg1 zg2 rfl ?_
        refine J_iload_n (pc' := 27) rfl rfl rfl ?_
        refine J_aload_no (pc' := 28) rfl rfl zg1 rfl ?_
        refine J_bipush (pc' := 30) rfl (by decide) (by decide) rfl ?_
        obtain ⟨zg5, W⟩ := W
        refine J_callI (as := [jo 9 zo0, ji 104]) (rest := [ji zx1, ja 9010 zo0]) (pc' := 33) rfl rfl ax_Z_202 rfl rfl (Or.inr (Or.inr ⟨_, _, rfl, zg1⟩)) (Nat.le_of_ble_eq_true rfl) (Nat.le_of_ble_eq_true rfl) (Nat.le_of_ble_eq_true rfl) zg5 trivial (And.intro rfl trivial) rfl W (fun zr7 zs6 W => ?_)
        obtain ⟨zg9, W⟩ := W
        refine J_iast (pc' := 34) rfl rfl (by decide) zg3 zg9 rfl (fun zs8 ezs8 => ?_)
        replace W := W zs8 ezs8
        refine J_aload_no (pc' := 35) rfl rfl zg1 rfl ?_
        obtain ⟨zg10, W⟩ := W
        refine J_getA (G := 9010) (pc' := 38) rfl rfl (Nat.le_of_ble_eq_true rfl) rfl zg1 zg10 rfl ?_
        refine J_iload_n (pc' := 39) rfl rfl rfl ?_
        obtain ⟨zg11, W⟩ := W
        refine J_iald (pc' := 40) rfl rfl zg3 zg11 rfl ?_
        exact J_iret rfl rfl ⟨_, rfl, W⟩
    · refine J_iconst (pc' := 11) rfl (i32_d rfl) rfl ?_
      exact J_iret rfl rfl ⟨_, rfl, W⟩
theorem wp_Terms_pushOpen {n : Nat} {σ : jS} {Q : jS → Prop} {zo0 : Int} {zx1 : Int} (W : 0 ≤ zo0 ∧ (if 2048 ≤ rs σ 9012 zo0 then Q σ else 0 ≤ rl σ 9008 zo0 ∧ 0 ≤ rs σ 9012 zo0 ∧ rs σ 9012 zo0 < rl σ 9008 zo0 ∧ (∀ zs3, zs3 = wa σ 9008 zo0 (rs σ 9012 zo0) zx1 → i32 ((rs zs3 9012 zo0) + 1) ∧ (∀ zs7, zs7 = ws zs3 9012 zo0 ((rs zs3 9012 zo0) + 1) → Q zs7)))) : TrV n i_Terms_pushOpen [jo 9 zo0, ji zx1] σ Q := by
  refine Tr_of ax_Z_205 ?_
  show J n c_Terms_pushOpen none 0 [some (jo 9 zo0), some (ji zx1)] [] σ (qV Q)
  obtain ⟨zg1, W⟩ := W
  refine J_aload_no (pc' := 1) rfl rfl zg1 rfl ?_
  refine J_getI (G := 9012) (pc' := 4) rfl rfl (Nat.le_of_ble_eq_true rfl) rfl zg1 rfl ?_
  refine J_sipush (pc' := 7) rfl (by decide) (by decide) rfl ?_
  refine J_icmp (P := 2048 ≤ rs σ 9012 zo0) (t := 30) (f := 10) rfl rfl rfl jc_ge W (fun W => ?_) (fun W => ?_)
  · exact J_vret rfl rfl ⟨rfl, W⟩
  · refine J_aload_no (pc' := 11) rfl rfl zg1 rfl ?_
    obtain ⟨zg2, W⟩ := W
    refine J_getA (G := 9008) (pc' := 14) rfl rfl (Nat.le_of_ble_eq_true rfl) rfl zg1 zg2 rfl ?_
    refine J_aload_no (pc' := 15) rfl rfl zg1 rfl ?_
    refine J_getI (G := 9012) (pc' := 18) rfl rfl (Nat.le_of_ble_eq_true rfl) rfl zg1 rfl ?_
    refine J_iload_n (pc' := 19) rfl rfl rfl ?_
    obtain ⟨zg4, W⟩ := W
    obtain ⟨zg5, W⟩ := W
    refine J_iast (pc' := 20) rfl rfl (by decide) zg4 zg5 rfl (fun zs3 ezs3 => ?_)
    replace W := W zs3 ezs3
    refine J_aload_no (pc' := 21) rfl rfl zg1 rfl ?_
    refine J_dup (pc' := 22) rfl rfl rfl ?_
    refine J_getI (G := 9012) (pc' := 25) rfl rfl (Nat.le_of_ble_eq_true rfl) rfl zg1 rfl ?_
    refine J_iconst (pc' := 26) rfl (i32_d rfl) rfl ?_
    obtain ⟨zg6, W⟩ := W
    refine J_iadd (pc' := 27) rfl zg6 rfl ?_
    refine J_putI (G := 9012) (pc' := 30) rfl rfl (Nat.le_of_ble_eq_true rfl) rfl rfl zg1 rfl (fun zs7 ezs7 => ?_)
    replace W := W zs7 ezs7
    exact J_vret rfl rfl ⟨rfl, W⟩
theorem wp_Terms_popOpen {n : Nat} {σ : jS} {Q : Int → jS → Prop} {zo0 : Int} (W : 0 ≤ zo0 ∧ (if ¬ rs σ 9012 zo0 = 0 then i32 ((rs σ 9012 zo0) - 1) ∧ (∀ zs3, zs3 = ws σ 9012 zo0 ((rs σ 9012 zo0) - 1) → 0 ≤ rl zs3 9008 zo0 ∧ 0 ≤ rs zs3 9012 zo0 ∧ rs zs3 9012 zo0 < rl zs3 9008 zo0 ∧ Q (ra zs3 9008 zo0 (rs zs3 9012 zo0)) zs3) else Q (-1) σ)) : TrI n i_Terms_popOpen [jo 9 zo0] σ Q := by
  refine Tr_of ax_Z_206 ?_
  show J n c_Terms_popOpen (some .int) 0 [some (jo 9 zo0)] [] σ (qI Q)
  obtain ⟨zg1, W⟩ := W
  refine J_aload_no (pc' := 1) rfl rfl zg1 rfl ?_
  refine J_getI (G := 9012) (pc' := 4) rfl rfl (Nat.le_of_ble_eq_true rfl) rfl zg1 rfl ?_
  refine J_if (P := ¬ rs σ 9012 zo0 = 0) (t := 9) (f := 7) rfl rfl rfl jc_ne W (fun W => ?_) (fun W => ?_)
  · refine J_aload_no (pc' := 10) rfl rfl zg1 rfl ?_
    refine J_dup (pc' := 11) rfl rfl rfl ?_
    refine J_getI (G := 9012) (pc' := 14) rfl rfl (Nat.le_of_ble_eq_true rfl) rfl zg1 rfl ?_
    refine J_iconst (pc' := 15) rfl (i32_d rfl) rfl ?_
    obtain ⟨zg2, W⟩ := W
    refine J_isub (pc' := 16) rfl zg2 rfl ?_
    refine J_putI (G := 9012) (pc' := 19) rfl rfl (Nat.le_of_ble_eq_true rfl) rfl rfl zg1 rfl (fun zs3 ezs3 => ?_)
    replace W := W zs3 ezs3
    refine J_aload_no (pc' := 20) rfl rfl zg1 rfl ?_
    obtain ⟨zg4, W⟩ := W
    refine J_getA (G := 9008) (pc' := 23) rfl rfl (Nat.le_of_ble_eq_true rfl) rfl zg1 zg4 rfl ?_
    refine J_aload_no (pc' := 24) rfl rfl zg1 rfl ?_
    refine J_getI (G := 9012) (pc' := 27) rfl rfl (Nat.le_of_ble_eq_true rfl) rfl zg1 rfl ?_
    obtain ⟨zg5, W⟩ := W
    obtain ⟨zg6, W⟩ := W
    refine J_iald (pc' := 28) rfl rfl zg5 zg6 rfl ?_
    exact J_iret rfl rfl ⟨_, rfl, W⟩
  · refine J_iconst (pc' := 8) rfl (i32_d rfl) rfl ?_
    exact J_iret rfl rfl ⟨_, rfl, W⟩
theorem wp_Terms_pushParts {n : Nat} {σ : jS} {Q : jS → Prop} {zo0 : Int} {zx1 : Int} (W : 0 ≤ zo0 ∧ 1 ≤ n ∧ TrI (n - 1) i_Terms_signOf [jo 9 zo0, ji zx1] σ (fun zr4 zs3 => TrI (n - 1) i_Flat_partsOf [ji zr4] zs3 (fun zr6 zs5 => i32 (zr6 - 1) ∧ J n c_Terms_pushParts none 11 [some (jo 9 zo0), some (ji zx1), some (ji (zr6 - 1))] [] zs5 (qV Q)))) : TrV n i_Terms_pushParts [jo 9 zo0, ji zx1] σ Q := by
  refine Tr_of ax_Z_207 ?_
  show J n c_Terms_pushParts none 0 [some (jo 9 zo0), some (ji zx1), none] [] σ (qV Q)
  obtain ⟨zg1, W⟩ := W
  refine J_aload_no (pc' := 1) rfl rfl zg1 rfl ?_
  refine J_iload_n (pc' := 2) rfl rfl rfl ?_
  obtain ⟨zg2, W⟩ := W
  refine J_callI (as := [jo 9 zo0, ji zx1]) (rest := []) (pc' := 5) rfl rfl ax_Z_197 rfl rfl (Or.inr (Or.inr ⟨_, _, rfl, zg1⟩)) (Nat.le_of_ble_eq_true rfl) (Nat.le_of_ble_eq_true rfl) (Nat.le_of_ble_eq_true rfl) zg2 trivial trivial rfl W (fun zr4 zs3 W => ?_)
  refine J_callI (as := [ji zr4]) (rest := []) (pc' := 8) rfl rfl ax_Z_120 rfl rfl (Or.inl rfl) (Nat.le_of_ble_eq_true rfl) (Nat.le_of_ble_eq_true rfl) (Nat.le_of_ble_eq_true rfl) zg2 trivial trivial rfl W (fun zr6 zs5 W => ?_)
  refine J_iconst (pc' := 9) rfl (i32_d rfl) rfl ?_
  obtain ⟨zg7, W⟩ := W
  refine J_isub (pc' := 10) rfl zg7 rfl ?_
  refine J_istore_n (L' := [some (jo 9 zo0), some (ji zx1), some (ji (zr6 - 1))]) (pc' := 11) rfl (Nat.le_of_ble_eq_true rfl) rfl rfl ?_
  exact W
theorem wp_Terms_pushParts_11 {n : Nat} {σ : jS} {Q : jS → Prop} {zo0 : Int} {zx1 : Int} {zx2 : Int} (W : (if zx2 < 0 then Q σ else 0 ≤ zo0 ∧ 1 ≤ n ∧ TrI (n - 1) i_Terms_partOf [jo 9 zo0, ji zx1, ji zx2] σ (fun zr4 zs3 => TrV (n - 1) i_Terms_pushOpen [jo 9 zo0, ji zr4] zs3 (fun zs5 => i32 (zx2 + (-1)) ∧ J n c_Terms_pushParts none 11 [some (jo 9 zo0), some (ji zx1), some (ji (zx2 + (-1)))] [] zs5 (qV Q))))) : J n c_Terms_pushParts none 11 [some (jo 9 zo0), some (ji zx1), some (ji zx2)] [] σ (qV Q) := by
  refine J_iload_n (pc' := 12) rfl rfl rfl ?_
  refine J_if (P := zx2 < 0) (t := 31) (f := 15) rfl rfl rfl jc_lt W (fun W => ?_) (fun W => ?_)
  · exact J_vret rfl rfl ⟨rfl, W⟩
  · obtain ⟨zg1, W⟩ := W
    refine J_aload_no (pc' := 16) rfl rfl zg1 rfl ?_
    refine J_aload_no (pc' := 17) rfl rfl zg1 rfl ?_
    refine J_iload_n (pc' := 18) rfl rfl rfl ?_
    refine J_iload_n (pc' := 19) rfl rfl rfl ?_
    obtain ⟨zg2, W⟩ := W
    refine J_callI (as := [jo 9 zo0, ji zx1, ji zx2]) (rest := [jo 9 zo0]) (pc' := 22) rfl rfl ax_Z_199 rfl rfl (Or.inr (Or.inr ⟨_, _, rfl, zg1⟩)) (Nat.le_of_ble_eq_true rfl) (Nat.le_of_ble_eq_true rfl) (Nat.le_of_ble_eq_true rfl) zg2 trivial trivial rfl W (fun zr4 zs3 W => ?_)
    refine J_callV (as := [jo 9 zo0, ji zr4]) (rest := []) (pc' := 25) rfl rfl ax_Z_205 rfl rfl (Or.inr (Or.inr ⟨_, _, rfl, zg1⟩)) (Nat.le_of_ble_eq_true rfl) (Nat.le_of_ble_eq_true rfl) (Nat.le_of_ble_eq_true rfl) zg2 trivial trivial rfl W (fun zs5 W => ?_)
    obtain ⟨zg7, W⟩ := W
    refine J_iinc (L' := [some (jo 9 zo0), some (ji zx1), some (ji (zx2 + (-1)))]) (pc' := 28) rfl rfl zg7 rfl rfl ?_
    refine J_goto (pc' := 11) rfl rfl ?_
    exact W
theorem wp_Terms_solved {n : Nat} {σ : jS} {Q : Int → jS → Prop} {zo0 : Int} {zx1 : Int} (W : J n c_Terms_solved (some .int) 4 [some (jo 9 zo0), none, some (ji zx1), some (ji 0)] [] σ (qI Q)) : TrI n i_Terms_solved [jo 9 zo0, ji zx1] σ Q := by
  refine Tr_of ax_Z_208 ?_
  show J n c_Terms_solved (some .int) 0 [some (jo 9 zo0), some (ji zx1), none, none] [] σ (qI Q)
  refine J_iload_n (pc' := 1) rfl rfl rfl ?_
  refine J_istore_n (L' := [some (jo 9 zo0), some (ji zx1), some (ji zx1), none]) (pc' := 2) rfl (Nat.le_of_ble_eq_true rfl) rfl rfl ?_
  refine J_iconst (pc' := 3) rfl (i32_d rfl) rfl ?_
  refine J_istore_n (L' := [some (jo 9 zo0), some (ji zx1), some (ji zx1), some (ji 0)]) (pc' := 4) rfl (Nat.le_of_ble_eq_true rfl) rfl rfl ?_
  refine J_weak (L' := [some (jo 9 zo0), none, some (ji zx1), some (ji 0)]) (And.intro rfl (And.intro rfl (And.intro rfl trivial))) ?_
  exact W
theorem wp_Terms_solved_4 {n : Nat} {σ : jS} {Q : Int → jS → Prop} {zo0 : Int} {zx2 : Int} {zx3 : Int} (W : 0 ≤ zo0 ∧ (if rs σ 9000 zo0 ≤ zx3 then Q zx2 σ else 1 ≤ n ∧ TrI (n - 1) i_Terms_signOf [jo 9 zo0, ji zx2] σ (fun zr4 zs3 => (if ¬ zr4 = 104 then Q zx2 zs3 else TrI (n - 1) i_Terms_partOf [jo 9 zo0, ji zx2, ji 0] zs3 (fun zr6 zs5 => (if zr6 = (-1) then Q zx2 zs5 else TrI (n - 1) i_Terms_partOf [jo 9 zo0, ji zx2, ji 0] zs5 (fun zr8 zs7 => i32 (zx3 + 1) ∧ J n c_Terms_solved (some .int) 4 [some (jo 9 zo0), none, some (ji zr8), some (ji (zx3 + 1))] [] zs7 (qI Q)))))))) : J n c_Terms_solved (some .int) 4 [some (jo 9 zo0), none, some (ji zx2), some (ji zx3)] [] σ (qI Q) := by
  refine J_iload_n (pc' := 5) rfl rfl rfl ?_
  obtain ⟨zg1, W⟩ := W
  refine J_aload_no (pc' := 6) rfl rfl zg1 rfl ?_
  refine J_getI (G := 9000) (pc' := 9) rfl rfl (Nat.le_of_ble_eq_true rfl) rfl zg1 rfl ?_
  refine J_icmp (P := rs σ 9000 zo0 ≤ zx3) (t := 45) (f := 12) rfl rfl rfl jc_ge W (fun W => ?_) (fun W => ?_)
  · refine J_iload_n (pc' := 46) rfl rfl rfl ?_
    exact J_iret rfl rfl ⟨_, rfl, W⟩
  · refine J_aload_no (pc' := 13) rfl rfl zg1 rfl ?_
    refine J_iload_n (pc' := 14) rfl rfl rfl ?_
    obtain ⟨zg2, W⟩ := W
    refine J_callI (as := [jo 9 zo0, ji zx2]) (rest := []) (pc' := 17) rfl rfl ax_Z_197 rfl rfl (Or.inr (Or.inr ⟨_, _, rfl, zg1⟩)) (Nat.le_of_ble_eq_true rfl) (Nat.le_of_ble_eq_true rfl) (Nat.le_of_ble_eq_true rfl) zg2 trivial trivial rfl W (fun zr4 zs3 W => ?_)
    refine J_bipush (pc' := 19) rfl (by decide) (by decide) rfl ?_
    refine J_icmp (P := ¬ zr4 = 104) (t := 45) (f := 22) rfl rfl rfl jc_ne W (fun W => ?_) (fun W => ?_)
    · refine J_iload_n (pc' := 46) rfl rfl rfl ?_
      exact J_iret rfl rfl ⟨_, rfl, W⟩
    · refine J_aload_no (pc' := 23) rfl rfl zg1 rfl ?_
      refine J_iload_n (pc' := 24) rfl rfl rfl ?_
      refine J_iconst (pc' := 25) rfl (i32_d rfl) rfl ?_
      refine J_callI (as := [jo 9 zo0, ji zx2, ji 0]) (rest := []) (pc' := 28) rfl rfl ax_Z_199 rfl rfl (Or.inr (Or.inr ⟨_, _, rfl, zg1⟩)) (Nat.le_of_ble_eq_true rfl) (Nat.le_of_ble_eq_true rfl) (Nat.le_of_ble_eq_true rfl) zg2 trivial trivial rfl W (fun zr6 zs5 W => ?_)
      refine J_iconst (pc' := 29) rfl (i32_d rfl) rfl ?_
      refine J_icmp (P := zr6 = (-1)) (t := 45) (f := 32) rfl rfl rfl jc_eq W (fun W => ?_) (fun W => ?_)
      · refine J_iload_n (pc' := 46) rfl rfl rfl ?_
        exact J_iret rfl rfl ⟨_, rfl, W⟩
      · refine J_aload_no (pc' := 33) rfl rfl zg1 rfl ?_
        refine J_iload_n (pc' := 34) rfl rfl rfl ?_
        refine J_iconst (pc' := 35) rfl (i32_d rfl) rfl ?_
        refine J_weak (L' := [some (jo 9 zo0), none, none, some (ji zx3)]) (And.intro rfl (And.intro rfl trivial)) ?_
        refine J_callI (as := [jo 9 zo0, ji zx2, ji 0]) (rest := []) (pc' := 38) rfl rfl ax_Z_199 rfl rfl (Or.inr (Or.inr ⟨_, _, rfl, zg1⟩)) (Nat.le_of_ble_eq_true rfl) (Nat.le_of_ble_eq_true rfl) (Nat.le_of_ble_eq_true rfl) zg2 trivial trivial rfl W (fun zr8 zs7 W => ?_)
        refine J_istore_n (L' := [some (jo 9 zo0), none, some (ji zr8), some (ji zx3)]) (pc' := 39) rfl (Nat.le_of_ble_eq_true rfl) rfl rfl ?_
        obtain ⟨zg9, W⟩ := W
        refine J_iinc (L' := [some (jo 9 zo0), none, some (ji zr8), some (ji (zx3 + 1))]) (pc' := 42) rfl rfl zg9 rfl rfl ?_
        refine J_goto (pc' := 4) rfl rfl ?_
        exact W
set_option maxRecDepth 16000 in
theorem wp_Terms_unify {n : Nat} {σ : jS} {Q : Int → jS → Prop} {zo0 : Int} {zx1 : Int} {zx2 : Int} (W : 0 ≤ zo0 ∧ (∀ zs2, zs2 = ws σ 9013 zo0 0 → 1 ≤ n ∧ TrV (n - 1) i_Terms_pushPair [jo 9 zo0, ji zx1, ji zx2] zs2 (fun zs4 => J n c_Terms_unify (some .boolean) 13 [some (jo 9 zo0), none, none, some (ji 0), none, none, none] [] zs4 (qI Q)))) : TrI n i_Terms_unify [jo 9 zo0, ji zx1, ji zx2] σ Q := by
  refine Tr_of ax_Z_209 ?_
  show J n c_Terms_unify (some .boolean) 0 [some (jo 9 zo0), some (ji zx1), some (ji zx2), none, none, none, none] [] σ (qI Q)
  obtain ⟨zg1, W⟩ := W
  refine J_aload_no (pc' := 1) rfl rfl zg1 rfl ?_
  refine J_iconst (pc' := 2) rfl (i32_d rfl) rfl ?_
  refine J_putI (G := 9013) (pc' := 5) rfl rfl (Nat.le_of_ble_eq_true rfl) rfl rfl zg1 rfl (fun zs2 ezs2 => ?_)
  replace W := W zs2 ezs2
  refine J_aload_no (pc' := 6) rfl rfl zg1 rfl ?_
  refine J_iload_n (pc' := 7) rfl rfl rfl ?_
  refine J_iload_n (pc' := 8) rfl rfl rfl ?_
  obtain ⟨zg3, W⟩ := W
  refine J_weak (L' := [some (jo 9 zo0), none, none, none, none, none, none]) (And.intro rfl trivial) ?_
  refine J_callV (as := [jo 9 zo0, ji zx1, ji zx2]) (rest := []) (pc' := 11) rfl rfl ax_Z_210 rfl rfl (Or.inr (Or.inr ⟨_, _, rfl, zg1⟩)) (Nat.le_of_ble_eq_true rfl) (Nat.le_of_ble_eq_true rfl) (Nat.le_of_ble_eq_true rfl) zg3 trivial trivial rfl W (fun zs4 W => ?_)
  refine J_iconst (pc' := 12) rfl (i32_d rfl) rfl ?_
  refine J_istore_n (L' := [some (jo 9 zo0), none, none, some (ji 0), none, none, none]) (pc' := 13) rfl (Nat.le_of_ble_eq_true rfl) rfl rfl ?_
  exact W
set_option maxRecDepth 16000 in
theorem wp_Terms_unify_13 {n : Nat} {σ : jS} {Q : Int → jS → Prop} {zo0 : Int} {zx3 : Int} (W : (if 16777216 ≤ zx3 then 0 ≤ zo0 ∧ (if ¬ rs σ 9013 zo0 = 0 then Q 0 σ else Q 1 σ) else 0 ≤ zo0 ∧ (if rs σ 9013 zo0 ≤ 1 then (if ¬ rs σ 9013 zo0 = 0 then Q 0 σ else Q 1 σ) else i32 ((rs σ 9013 zo0) - 2) ∧ (∀ zs4, zs4 = ws σ 9013 zo0 ((rs σ 9013 zo0) - 2) → 0 ≤ rl zs4 9009 zo0 ∧ 0 ≤ rs zs4 9013 zo0 ∧ rs zs4 9013 zo0 < rl zs4 9009 zo0 ∧ 1 ≤ n ∧ TrI (n - 1) i_Terms_solved [jo 9 zo0, ji (ra zs4 9009 zo0 (rs zs4 9013 zo0))] zs4 (fun zr10 zs9 => 0 ≤ rl zs9 9009 zo0 ∧ i32 ((rs zs9 9013 zo0) + 1) ∧ 0 ≤ (rs zs9 9013 zo0) + 1 ∧ (rs zs9 9013 zo0) + 1 < rl zs9 9009 zo0 ∧ TrI (n - 1) i_Terms_solved [jo 9 zo0, ji (ra zs9 9009 zo0 ((rs zs9 9013 zo0) + 1))] zs9 (fun zr16 zs15 => (if ¬ zr10 = zr16 then TrI (n - 1) i_Terms_isUnknown [jo 9 zo0, ji zr16] zs15 (fun zr18 zs17 => (if zr18 = 0 then J n c_Terms_unify (some .boolean) 100 [some (jo 9 zo0), none, none, some (ji zx3), some (ji zr10), some (ji zr16), none] [] zs17 (qI Q) else J n c_Terms_unify (some .boolean) 100 [some (jo 9 zo0), none, none, some (ji zx3), some (ji zr16), some (ji zr10), none] [] zs17 (qI Q))) else i32 (zx3 + 1) ∧ J n c_Terms_unify (some .boolean) 13 [some (jo 9 zo0), none, none, some (ji (zx3 + 1)), none, none, none] [] zs15 (qI Q)))))))) : J n c_Terms_unify (some .boolean) 13 [some (jo 9 zo0), none, none, some (ji zx3), none, none, none] [] σ (qI Q) := by
  refine J_iload_n (pc' := 14) rfl rfl rfl ?_
  refine J_ldc (pc' := 16) (Or.inl rfl) rfl (i32_d rfl) rfl ?_
  refine J_icmp (P := 16777216 ≤ zx3) (t := 167) (f := 19) rfl rfl rfl jc_ge W (fun W => ?_) (fun W => ?_)
  · obtain ⟨zg1, W⟩ := W
    refine J_aload_no (pc' := 168) rfl rfl zg1 rfl ?_
    refine J_getI (G := 9013) (pc' := 171) rfl rfl (Nat.le_of_ble_eq_true rfl) rfl zg1 rfl ?_
    refine J_if (P := ¬ rs σ 9013 zo0 = 0) (t := 178) (f := 174) rfl rfl rfl jc_ne W (fun W => ?_) (fun W => ?_)
    · refine J_iconst (pc' := 179) rfl (i32_d rfl) rfl ?_
      exact J_zret rfl rfl (Or.inl rfl) ⟨_, rfl, W⟩
    · refine J_iconst (pc' := 175) rfl (i32_d rfl) rfl ?_
      refine J_goto (pc' := 179) rfl rfl ?_
      exact J_zret rfl rfl (Or.inr rfl) ⟨_, rfl, W⟩
  · obtain ⟨zg2, W⟩ := W
    refine J_aload_no (pc' := 20) rfl rfl zg2 rfl ?_
    refine J_getI (G := 9013) (pc' := 23) rfl rfl (Nat.le_of_ble_eq_true rfl) rfl zg2 rfl ?_
    refine J_iconst (pc' := 24) rfl (i32_d rfl) rfl ?_
    refine J_icmp (P := rs σ 9013 zo0 ≤ 1) (t := 167) (f := 27) rfl rfl rfl jc_le W (fun W => ?_) (fun W => ?_)
    · refine J_aload_no (pc' := 168) rfl rfl zg2 rfl ?_
      refine J_getI (G := 9013) (pc' := 171) rfl rfl (Nat.le_of_ble_eq_true rfl) rfl zg2 rfl ?_
      refine J_if (P := ¬ rs σ 9013 zo0 = 0) (t := 178) (f := 174) rfl rfl rfl jc_ne W (fun W => ?_) (fun W => ?_)
      · refine J_iconst (pc' := 179) rfl (i32_d rfl) rfl ?_
        exact J_zret rfl rfl (Or.inl rfl) ⟨_, rfl, W⟩
      · refine J_iconst (pc' := 175) rfl (i32_d rfl) rfl ?_
        refine J_goto (pc' := 179) rfl rfl ?_
        exact J_zret rfl rfl (Or.inr rfl) ⟨_, rfl, W⟩
    · refine J_aload_no (pc' := 28) rfl rfl zg2 rfl ?_
      refine J_dup (pc' := 29) rfl rfl rfl ?_
      refine J_getI (G := 9013) (pc' := 32) rfl rfl (Nat.le_of_ble_eq_true rfl) rfl zg2 rfl ?_
      refine J_iconst (pc' := 33) rfl (i32_d rfl) rfl ?_
      obtain ⟨zg3, W⟩ := W
      refine J_isub (pc' := 34) rfl zg3 rfl ?_
      refine J_putI (G := 9013) (pc' := 37) rfl rfl (Nat.le_of_ble_eq_true rfl) rfl rfl zg2 rfl (fun zs4 ezs4 => ?_)
      replace W := W zs4 ezs4
      refine J_aload_no (pc' := 38) rfl rfl zg2 rfl ?_
      refine J_aload_no (pc' := 39) rfl rfl zg2 rfl ?_
      obtain ⟨zg5, W⟩ := W
      refine J_getA (G := 9009) (pc' := 42) rfl rfl (Nat.le_of_ble_eq_true rfl) rfl zg2 zg5 rfl ?_
      refine J_aload_no (pc' := 43) rfl rfl zg2 rfl ?_
      refine J_getI (G := 9013) (pc' := 46) rfl rfl (Nat.le_of_ble_eq_true rfl) rfl zg2 rfl ?_
      obtain ⟨zg6, W⟩ := W
      obtain ⟨zg7, W⟩ := W
      refine J_iald (pc' := 47) rfl rfl zg6 zg7 rfl ?_
      obtain ⟨zg8, W⟩ := W
      refine J_callI (as := [jo 9 zo0, ji (ra zs4 9009 zo0 (rs zs4 9013 zo0))]) (rest := []) (pc' := 50) rfl rfl ax_Z_208 rfl rfl (Or.inr (Or.inr ⟨_, _, rfl, zg2⟩)) (Nat.le_of_ble_eq_true rfl) (Nat.le_of_ble_eq_true rfl) (Nat.le_of_ble_eq_true rfl) zg8 trivial trivial rfl W (fun zr10 zs9 W => ?_)
      refine J_istore (L' := [some (jo 9 zo0), none, none, some (ji zx3), some (ji zr10), none, none]) (pc' := 52) rfl (Nat.le_of_ble_eq_true rfl) rfl rfl ?_
      refine J_aload_no (pc' := 53) rfl rfl zg2 rfl ?_
      refine J_aload_no (pc' := 54) rfl rfl zg2 rfl ?_
      obtain ⟨zg11, W⟩ := W
      refine J_getA (G := 9009) (pc' := 57) rfl rfl (Nat.le_of_ble_eq_true rfl) rfl zg2 zg11 rfl ?_
      refine J_aload_no (pc' := 58) rfl rfl zg2 rfl ?_
      refine J_getI (G := 9013) (pc' := 61) rfl rfl (Nat.le_of_ble_eq_true rfl) rfl zg2 rfl ?_
      refine J_iconst (pc' := 62) rfl (i32_d rfl) rfl ?_
      obtain ⟨zg12, W⟩ := W
      refine J_iadd (pc' := 63) rfl zg12 rfl ?_
      obtain ⟨zg13, W⟩ := W
      obtain ⟨zg14, W⟩ := W
      refine J_iald (pc' := 64) rfl rfl zg13 zg14 rfl ?_
      refine J_callI (as := [jo 9 zo0, ji (ra zs9 9009 zo0 ((rs zs9 9013 zo0) + 1))]) (rest := []) (pc' := 67) rfl rfl ax_Z_208 rfl rfl (Or.inr (Or.inr ⟨_, _, rfl, zg2⟩)) (Nat.le_of_ble_eq_true rfl) (Nat.le_of_ble_eq_true rfl) (Nat.le_of_ble_eq_true rfl) zg8 trivial trivial rfl W (fun zr16 zs15 W => ?_)
      refine J_istore (L' := [some (jo 9 zo0), none, none, some (ji zx3), some (ji zr10), some (ji zr16), none]) (pc' := 69) rfl (Nat.le_of_ble_eq_true rfl) rfl rfl ?_
      refine J_iload (pc' := 71) rfl rfl rfl ?_
      refine J_iload (pc' := 73) rfl rfl rfl ?_
      refine J_icmp (P := ¬ zr10 = zr16) (t := 79) (f := 76) rfl rfl rfl jc_ne W (fun W => ?_) (fun W => ?_)
      · refine J_aload_no (pc' := 80) rfl rfl zg2 rfl ?_
        refine J_iload (pc' := 82) rfl rfl rfl ?_
        refine J_callI (as := [jo 9 zo0, ji zr16]) (rest := []) (pc' := 85) rfl rfl ax_Z_198 rfl rfl (Or.inr (Or.inr ⟨_, _, rfl, zg2⟩)) (Nat.le_of_ble_eq_true rfl) (Nat.le_of_ble_eq_true rfl) (Nat.le_of_ble_eq_true rfl) zg8 trivial trivial rfl W (fun zr18 zs17 W => ?_)
        refine J_if (P := zr18 = 0) (t := 100) (f := 88) rfl rfl rfl jc_eq W (fun W => ?_) (fun W => ?_)
        · exact W
        · refine J_iload (pc' := 90) rfl rfl rfl ?_
          refine J_istore (L' := [some (jo 9 zo0), none, none, some (ji zx3), some (ji zr10), some (ji zr16), some (ji zr10)]) (pc' := 92) rfl (Nat.le_of_ble_eq_true rfl) rfl rfl ?_
          refine J_iload (pc' := 94) rfl rfl rfl ?_
          refine J_istore (L' := [some (jo 9 zo0), none, none, some (ji zx3), some (ji zr16), some (ji zr16), some (ji zr10)]) (pc' := 96) rfl (Nat.le_of_ble_eq_true rfl) rfl rfl ?_
          refine J_iload (pc' := 98) rfl rfl rfl ?_
          refine J_istore (L' := [some (jo 9 zo0), none, none, some (ji zx3), some (ji zr16), some (ji zr10), some (ji zr10)]) (pc' := 100) rfl (Nat.le_of_ble_eq_true rfl) rfl rfl ?_
          refine J_weak (L' := [some (jo 9 zo0), none, none, some (ji zx3), some (ji zr16), some (ji zr10), none]) (And.intro rfl (And.intro rfl (And.intro rfl (And.intro rfl trivial)))) ?_
          exact W
      · refine J_goto (pc' := 161) rfl rfl ?_
        obtain ⟨zg19, W⟩ := W
        refine J_iinc (L' := [some (jo 9 zo0), none, none, some (ji (zx3 + 1)), some (ji zr10), some (ji zr16), none]) (pc' := 164) rfl rfl zg19 rfl rfl ?_
        refine J_goto (pc' := 13) rfl rfl ?_
        refine J_weak (L' := [some (jo 9 zo0), none, none, some (ji (zx3 + 1)), none, none, none]) (And.intro rfl (And.intro rfl trivial)) ?_
        exact W
set_option maxRecDepth 16000 in
theorem wp_Terms_unify_100 {n : Nat} {σ : jS} {Q : Int → jS → Prop} {zo0 : Int} {zx3 : Int} {zx4 : Int} {zx5 : Int} (W : 0 ≤ zo0 ∧ 1 ≤ n ∧ TrI (n - 1) i_Terms_isUnknown [jo 9 zo0, ji zx4] σ (fun zr4 zs3 => (if zr4 = 0 then TrI (n - 1) i_Terms_signOf [jo 9 zo0, ji zx4] zs3 (fun zr6 zs5 => TrI (n - 1) i_Terms_signOf [jo 9 zo0, ji zx5] zs5 (fun zr8 zs7 => (if ¬ zr6 = zr8 then Q 0 zs7 else TrV (n - 1) i_Terms_pushPairsOfParts [jo 9 zo0, ji zx4, ji zx5] zs7 (fun zs9 => i32 (zx3 + 1) ∧ J n c_Terms_unify (some .boolean) 13 [some (jo 9 zo0), none, none, some (ji (zx3 + 1)), none, none, none] [] zs9 (qI Q))))) else TrI (n - 1) i_Terms_standsIn [jo 9 zo0, ji zx4, ji zx5] zs3 (fun zr13 zs12 => (if zr13 = 0 then TrV (n - 1) i_Terms_put [jo 9 zo0, ji zx4, ji zx5] zs12 (fun zs14 => i32 (zx3 + 1) ∧ J n c_Terms_unify (some .boolean) 13 [some (jo 9 zo0), none, none, some (ji (zx3 + 1)), none, none, none] [] zs14 (qI Q)) else Q 0 zs12))))) : J n c_Terms_unify (some .boolean) 100 [some (jo 9 zo0), none, none, some (ji zx3), some (ji zx4), some (ji zx5), none] [] σ (qI Q) := by
  obtain ⟨zg1, W⟩ := W
  refine J_aload_no (pc' := 101) rfl rfl zg1 rfl ?_
  refine J_iload (pc' := 103) rfl rfl rfl ?_
  obtain ⟨zg2, W⟩ := W
  refine J_callI (as := [jo 9 zo0, ji zx4]) (rest := []) (pc' := 106) rfl rfl ax_Z_198 rfl rfl (Or.inr (Or.inr ⟨_, _, rfl, zg1⟩)) (Nat.le_of_ble_eq_true rfl) (Nat.le_of_ble_eq_true rfl) (Nat.le_of_ble_eq_true rfl) zg2 trivial trivial rfl W (fun zr4 zs3 W => ?_)
  refine J_if (P := zr4 = 0) (t := 133) (f := 109) rfl rfl rfl jc_eq W (fun W => ?_) (fun W => ?_)
  · refine J_aload_no (pc' := 134) rfl rfl zg1 rfl ?_
    refine J_iload (pc' := 136) rfl rfl rfl ?_
    refine J_callI (as := [jo 9 zo0, ji zx4]) (rest := []) (pc' := 139) rfl rfl ax_Z_197 rfl rfl (Or.inr (Or.inr ⟨_, _, rfl, zg1⟩)) (Nat.le_of_ble_eq_true rfl) (Nat.le_of_ble_eq_true rfl) (Nat.le_of_ble_eq_true rfl) zg2 trivial trivial rfl W (fun zr6 zs5 W => ?_)
    refine J_aload_no (pc' := 140) rfl rfl zg1 rfl ?_
    refine J_iload (pc' := 142) rfl rfl rfl ?_
    refine J_callI (as := [jo 9 zo0, ji zx5]) (rest := [ji zr6]) (pc' := 145) rfl rfl ax_Z_197 rfl rfl (Or.inr (Or.inr ⟨_, _, rfl, zg1⟩)) (Nat.le_of_ble_eq_true rfl) (Nat.le_of_ble_eq_true rfl) (Nat.le_of_ble_eq_true rfl) zg2 trivial trivial rfl W (fun zr8 zs7 W => ?_)
    refine J_icmp (P := ¬ zr6 = zr8) (t := 159) (f := 148) rfl rfl rfl jc_ne W (fun W => ?_) (fun W => ?_)
    · refine J_iconst (pc' := 160) rfl (i32_d rfl) rfl ?_
      exact J_zret rfl rfl (Or.inl rfl) ⟨_, rfl, W⟩
    · refine J_aload_no (pc' := 149) rfl rfl zg1 rfl ?_
      refine J_iload (pc' := 151) rfl rfl rfl ?_
      refine J_iload (pc' := 153) rfl rfl rfl ?_
      refine J_weak (L' := [some (jo 9 zo0), none, none, some (ji zx3), none, none, none]) (And.intro rfl (And.intro rfl trivial)) ?_
      refine J_callV (as := [jo 9 zo0, ji zx4, ji zx5]) (rest := []) (pc' := 156) rfl rfl ax_Z_211 rfl rfl (Or.inr (Or.inr ⟨_, _, rfl, zg1⟩)) (Nat.le_of_ble_eq_true rfl) (Nat.le_of_ble_eq_true rfl) (Nat.le_of_ble_eq_true rfl) zg2 trivial trivial rfl W (fun zs9 W => ?_)
      refine J_goto (pc' := 161) rfl rfl ?_
      obtain ⟨zg11, W⟩ := W
      refine J_iinc (L' := [some (jo 9 zo0), none, none, some (ji (zx3 + 1)), none, none, none]) (pc' := 164) rfl rfl zg11 rfl rfl ?_
      refine J_goto (pc' := 13) rfl rfl ?_
      exact W
  · refine J_aload_no (pc' := 110) rfl rfl zg1 rfl ?_
    refine J_iload (pc' := 112) rfl rfl rfl ?_
    refine J_iload (pc' := 114) rfl rfl rfl ?_
    refine J_callI (as := [jo 9 zo0, ji zx4, ji zx5]) (rest := []) (pc' := 117) rfl rfl ax_Z_213 rfl rfl (Or.inr (Or.inr ⟨_, _, rfl, zg1⟩)) (Nat.le_of_ble_eq_true rfl) (Nat.le_of_ble_eq_true rfl) (Nat.le_of_ble_eq_true rfl) zg2 trivial trivial rfl W (fun zr13 zs12 W => ?_)
    refine J_if (P := zr13 = 0) (t := 122) (f := 120) rfl rfl rfl jc_eq W (fun W => ?_) (fun W => ?_)
    · refine J_aload_no (pc' := 123) rfl rfl zg1 rfl ?_
      refine J_iload (pc' := 125) rfl rfl rfl ?_
      refine J_iload (pc' := 127) rfl rfl rfl ?_
      refine J_weak (L' := [some (jo 9 zo0), none, none, some (ji zx3), none, none, none]) (And.intro rfl (And.intro rfl trivial)) ?_
      refine J_callV (as := [jo 9 zo0, ji zx4, ji zx5]) (rest := []) (pc' := 130) rfl rfl ax_Z_212 rfl rfl (Or.inr (Or.inr ⟨_, _, rfl, zg1⟩)) (Nat.le_of_ble_eq_true rfl) (Nat.le_of_ble_eq_true rfl) (Nat.le_of_ble_eq_true rfl) zg2 trivial trivial rfl W (fun zs14 W => ?_)
      refine J_goto (pc' := 161) rfl rfl ?_
      obtain ⟨zg16, W⟩ := W
      refine J_iinc (L' := [some (jo 9 zo0), none, none, some (ji (zx3 + 1)), none, none, none]) (pc' := 164) rfl rfl zg16 rfl rfl ?_
      refine J_goto (pc' := 13) rfl rfl ?_
      exact W
    · refine J_iconst (pc' := 121) rfl (i32_d rfl) rfl ?_
      exact J_zret rfl rfl (Or.inl rfl) ⟨_, rfl, W⟩
theorem wp_Terms_pushPair {n : Nat} {σ : jS} {Q : jS → Prop} {zo0 : Int} {zx1 : Int} {zx2 : Int} (W : 0 ≤ zo0 ∧ i32 ((rs σ 9013 zo0) + 2) ∧ (if 2048 < (rs σ 9013 zo0) + 2 then Q σ else 0 ≤ rl σ 9009 zo0 ∧ 0 ≤ rs σ 9013 zo0 ∧ rs σ 9013 zo0 < rl σ 9009 zo0 ∧ (∀ zs4, zs4 = wa σ 9009 zo0 (rs σ 9013 zo0) zx1 → 0 ≤ rl zs4 9009 zo0 ∧ i32 ((rs zs4 9013 zo0) + 1) ∧ 0 ≤ (rs zs4 9013 zo0) + 1 ∧ (rs zs4 9013 zo0) + 1 < rl zs4 9009 zo0 ∧ (∀ zs9, zs9 = wa zs4 9009 zo0 ((rs zs4 9013 zo0) + 1) zx2 → i32 ((rs zs9 9013 zo0) + 2) ∧ (∀ zs13, zs13 = ws zs9 9013 zo0 ((rs zs9 9013 zo0) + 2) → Q zs13))))) : TrV n i_Terms_pushPair [jo 9 zo0, ji zx1, ji zx2] σ Q := by
  refine Tr_of ax_Z_210 ?_
  show J n c_Terms_pushPair none 0 [some (jo 9 zo0), some (ji zx1), some (ji zx2)] [] σ (qV Q)
  obtain ⟨zg1, W⟩ := W
  refine J_aload_no (pc' := 1) rfl rfl zg1 rfl ?_
  refine J_getI (G := 9013) (pc' := 4) rfl rfl (Nat.le_of_ble_eq_true rfl) rfl zg1 rfl ?_
  refine J_iconst (pc' := 5) rfl (i32_d rfl) rfl ?_
  obtain ⟨zg2, W⟩ := W
  refine J_iadd (pc' := 6) rfl zg2 rfl ?_
  refine J_sipush (pc' := 9) rfl (by decide) (by decide) rfl ?_
  refine J_icmp (P := 2048 < (rs σ 9013 zo0) + 2) (t := 44) (f := 12) rfl rfl rfl jc_gt W (fun W => ?_) (fun W => ?_)
  · exact J_vret rfl rfl ⟨rfl, W⟩
  · refine J_aload_no (pc' := 13) rfl rfl zg1 rfl ?_
    obtain ⟨zg3, W⟩ := W
    refine J_getA (G := 9009) (pc' := 16) rfl rfl (Nat.le_of_ble_eq_true rfl) rfl zg1 zg3 rfl ?_
    refine J_aload_no (pc' := 17) rfl rfl zg1 rfl ?_
    refine J_getI (G := 9013) (pc' := 20) rfl rfl (Nat.le_of_ble_eq_true rfl) rfl zg1 rfl ?_
    refine J_iload_n (pc' := 21) rfl rfl rfl ?_
    obtain ⟨zg5, W⟩ := W
    obtain ⟨zg6, W⟩ := W
    refine J_iast (pc' := 22) rfl rfl (by decide) zg5 zg6 rfl (fun zs4 ezs4 => ?_)
    replace W := W zs4 ezs4
    refine J_aload_no (pc' := 23) rfl rfl zg1 rfl ?_
    obtain ⟨zg7, W⟩ := W
    refine J_getA (G := 9009) (pc' := 26) rfl rfl (Nat.le_of_ble_eq_true rfl) rfl zg1 zg7 rfl ?_
    refine J_aload_no (pc' := 27) rfl rfl zg1 rfl ?_
    refine J_getI (G := 9013) (pc' := 30) rfl rfl (Nat.le_of_ble_eq_true rfl) rfl zg1 rfl ?_
    refine J_iconst (pc' := 31) rfl (i32_d rfl) rfl ?_
    obtain ⟨zg8, W⟩ := W
    refine J_iadd (pc' := 32) rfl zg8 rfl ?_
    refine J_iload_n (pc' := 33) rfl rfl rfl ?_
    obtain ⟨zg10, W⟩ := W
    obtain ⟨zg11, W⟩ := W
    refine J_iast (pc' := 34) rfl rfl (by decide) zg10 zg11 rfl (fun zs9 ezs9 => ?_)
    replace W := W zs9 ezs9
    refine J_aload_no (pc' := 35) rfl rfl zg1 rfl ?_
    refine J_dup (pc' := 36) rfl rfl rfl ?_
    refine J_getI (G := 9013) (pc' := 39) rfl rfl (Nat.le_of_ble_eq_true rfl) rfl zg1 rfl ?_
    refine J_iconst (pc' := 40) rfl (i32_d rfl) rfl ?_
    obtain ⟨zg12, W⟩ := W
    refine J_iadd (pc' := 41) rfl zg12 rfl ?_
    refine J_putI (G := 9013) (pc' := 44) rfl rfl (Nat.le_of_ble_eq_true rfl) rfl rfl zg1 rfl (fun zs13 ezs13 => ?_)
    replace W := W zs13 ezs13
    exact J_vret rfl rfl ⟨rfl, W⟩
theorem wp_Terms_pushPairsOfParts {n : Nat} {σ : jS} {Q : jS → Prop} {zo0 : Int} {zx1 : Int} {zx2 : Int} (W : 0 ≤ zo0 ∧ 1 ≤ n ∧ TrI (n - 1) i_Terms_signOf [jo 9 zo0, ji zx1] σ (fun zr4 zs3 => TrI (n - 1) i_Flat_partsOf [ji zr4] zs3 (fun zr6 zs5 => i32 (zr6 - 1) ∧ J n c_Terms_pushPairsOfParts none 11 [some (jo 9 zo0), some (ji zx1), some (ji zx2), some (ji (zr6 - 1))] [] zs5 (qV Q)))) : TrV n i_Terms_pushPairsOfParts [jo 9 zo0, ji zx1, ji zx2] σ Q := by
  refine Tr_of ax_Z_211 ?_
  show J n c_Terms_pushPairsOfParts none 0 [some (jo 9 zo0), some (ji zx1), some (ji zx2), none] [] σ (qV Q)
  obtain ⟨zg1, W⟩ := W
  refine J_aload_no (pc' := 1) rfl rfl zg1 rfl ?_
  refine J_iload_n (pc' := 2) rfl rfl rfl ?_
  obtain ⟨zg2, W⟩ := W
  refine J_callI (as := [jo 9 zo0, ji zx1]) (rest := []) (pc' := 5) rfl rfl ax_Z_197 rfl rfl (Or.inr (Or.inr ⟨_, _, rfl, zg1⟩)) (Nat.le_of_ble_eq_true rfl) (Nat.le_of_ble_eq_true rfl) (Nat.le_of_ble_eq_true rfl) zg2 trivial trivial rfl W (fun zr4 zs3 W => ?_)
  refine J_callI (as := [ji zr4]) (rest := []) (pc' := 8) rfl rfl ax_Z_120 rfl rfl (Or.inl rfl) (Nat.le_of_ble_eq_true rfl) (Nat.le_of_ble_eq_true rfl) (Nat.le_of_ble_eq_true rfl) zg2 trivial trivial rfl W (fun zr6 zs5 W => ?_)
  refine J_iconst (pc' := 9) rfl (i32_d rfl) rfl ?_
  obtain ⟨zg7, W⟩ := W
  refine J_isub (pc' := 10) rfl zg7 rfl ?_
  refine J_istore_n (L' := [some (jo 9 zo0), some (ji zx1), some (ji zx2), some (ji (zr6 - 1))]) (pc' := 11) rfl (Nat.le_of_ble_eq_true rfl) rfl rfl ?_
  exact W
theorem wp_Terms_pushPairsOfParts_11 {n : Nat} {σ : jS} {Q : jS → Prop} {zo0 : Int} {zx1 : Int} {zx2 : Int} {zx3 : Int} (W : (if zx3 < 0 then Q σ else 0 ≤ zo0 ∧ 1 ≤ n ∧ TrI (n - 1) i_Terms_partOf [jo 9 zo0, ji zx1, ji zx3] σ (fun zr4 zs3 => TrI (n - 1) i_Terms_partOf [jo 9 zo0, ji zx2, ji zx3] zs3 (fun zr6 zs5 => TrV (n - 1) i_Terms_pushPair [jo 9 zo0, ji zr4, ji zr6] zs5 (fun zs7 => i32 (zx3 + (-1)) ∧ J n c_Terms_pushPairsOfParts none 11 [some (jo 9 zo0), some (ji zx1), some (ji zx2), some (ji (zx3 + (-1)))] [] zs7 (qV Q)))))) : J n c_Terms_pushPairsOfParts none 11 [some (jo 9 zo0), some (ji zx1), some (ji zx2), some (ji zx3)] [] σ (qV Q) := by
  refine J_iload_n (pc' := 12) rfl rfl rfl ?_
  refine J_if (P := zx3 < 0) (t := 37) (f := 15) rfl rfl rfl jc_lt W (fun W => ?_) (fun W => ?_)
  · exact J_vret rfl rfl ⟨rfl, W⟩
  · obtain ⟨zg1, W⟩ := W
    refine J_aload_no (pc' := 16) rfl rfl zg1 rfl ?_
    refine J_aload_no (pc' := 17) rfl rfl zg1 rfl ?_
    refine J_iload_n (pc' := 18) rfl rfl rfl ?_
    refine J_iload_n (pc' := 19) rfl rfl rfl ?_
    obtain ⟨zg2, W⟩ := W
    refine J_callI (as := [jo 9 zo0, ji zx1, ji zx3]) (rest := [jo 9 zo0]) (pc' := 22) rfl rfl ax_Z_199 rfl rfl (Or.inr (Or.inr ⟨_, _, rfl, zg1⟩)) (Nat.le_of_ble_eq_true rfl) (Nat.le_of_ble_eq_true rfl) (Nat.le_of_ble_eq_true rfl) zg2 trivial trivial rfl W (fun zr4 zs3 W => ?_)
    refine J_aload_no (pc' := 23) rfl rfl zg1 rfl ?_
    refine J_iload_n (pc' := 24) rfl rfl rfl ?_
    refine J_iload_n (pc' := 25) rfl rfl rfl ?_
    refine J_callI (as := [jo 9 zo0, ji zx2, ji zx3]) (rest := [ji zr4, jo 9 zo0]) (pc' := 28) rfl rfl ax_Z_199 rfl rfl (Or.inr (Or.inr ⟨_, _, rfl, zg1⟩)) (Nat.le_of_ble_eq_true rfl) (Nat.le_of_ble_eq_true rfl) (Nat.le_of_ble_eq_true rfl) zg2 trivial trivial rfl W (fun zr6 zs5 W => ?_)
    refine J_callV (as := [jo 9 zo0, ji zr4, ji zr6]) (rest := []) (pc' := 31) rfl rfl ax_Z_210 rfl rfl (Or.inr (Or.inr ⟨_, _, rfl, zg1⟩)) (Nat.le_of_ble_eq_true rfl) (Nat.le_of_ble_eq_true rfl) (Nat.le_of_ble_eq_true rfl) zg2 trivial trivial rfl W (fun zs7 W => ?_)
    obtain ⟨zg9, W⟩ := W
    refine J_iinc (L' := [some (jo 9 zo0), some (ji zx1), some (ji zx2), some (ji (zx3 + (-1)))]) (pc' := 34) rfl rfl zg9 rfl rfl ?_
    refine J_goto (pc' := 11) rfl rfl ?_
    exact W
theorem wp_Terms_put {n : Nat} {σ : jS} {Q : jS → Prop} {zo0 : Int} {zx1 : Int} {zx2 : Int} (W : 0 ≤ zo0 ∧ 0 ≤ rl σ 9006 zo0 ∧ (if ¬ rs σ 9001 zo0 = rl σ 9006 zo0 then J n c_Terms_put none 25 [some (jo 9 zo0), some (ji zx1), some (ji zx2)] [] σ (qV Q) else 1 ≤ n ∧ TrA (n - 1) i_Terms_grown [ja 9006 zo0, ji 65536] σ (fun zF6 zp7 zs4 => (if zF6 = 900000 ∧ zp7 = 0 then ∀ zs8, zs8 = mA zs4 0 9006 zo0 → J n c_Terms_put none 25 [some (jo 9 zo0), some (ji zx1), some (ji zx2)] [] zs8 (qV Q) else (zF6 = 9006 ∧ zp7 = zo0) ∧ J n c_Terms_put none 25 [some (jo 9 zo0), some (ji zx1), some (ji zx2)] [] zs4 (qV Q))))) : TrV n i_Terms_put [jo 9 zo0, ji zx1, ji zx2] σ Q := by
  refine Tr_of ax_Z_212 ?_
  show J n c_Terms_put none 0 [some (jo 9 zo0), some (ji zx1), some (ji zx2)] [] σ (qV Q)
  obtain ⟨zg1, W⟩ := W
  refine J_aload_no (pc' := 1) rfl rfl zg1 rfl ?_
  refine J_getI (G := 9001) (pc' := 4) rfl rfl (Nat.le_of_ble_eq_true rfl) rfl zg1 rfl ?_
  refine J_aload_no (pc' := 5) rfl rfl zg1 rfl ?_
  obtain ⟨zg2, W⟩ := W
  refine J_getA (G := 9006) (pc' := 8) rfl rfl (Nat.le_of_ble_eq_true rfl) rfl zg1 zg2 rfl ?_
  refine J_alen (pc' := 9) rfl (by decide) rfl ?_
  refine J_icmp (P := ¬ rs σ 9001 zo0 = rl σ 9006 zo0) (t := 25) (f := 12) rfl rfl rfl jc_ne W (fun W => ?_) (fun W => ?_)
  · exact W
  · refine J_aload_no (pc' := 13) rfl rfl zg1 rfl ?_
    refine J_aload_no (pc' := 14) rfl rfl zg1 rfl ?_
    refine J_getA (G := 9006) (pc' := 17) rfl rfl (Nat.le_of_ble_eq_true rfl) rfl zg1 zg2 rfl ?_
    refine J_ldc (pc' := 19) (Or.inl rfl) rfl (i32_d rfl) rfl ?_
    obtain ⟨zg3, W⟩ := W
    refine J_callA (as := [ja 9006 zo0, ji 65536]) (rest := [jo 9 zo0]) (pc' := 22) rfl rfl ax_Z_201 rfl rfl (Or.inl rfl) (Nat.le_of_ble_eq_true rfl) (Nat.le_of_ble_eq_true rfl) (Nat.le_of_ble_eq_true rfl) zg3 trivial trivial rfl W (fun zF6 zp7 zs4 W => ?_)
    by_cases zc10 : zF6 = 900000 ∧ zp7 = 0
    · rw [if_pos zc10] at W
      obtain ⟨rfl, rfl⟩ := zc10
      refine J_putT (G := 9006) (t := 0) (pc' := 25) rfl rfl (Nat.le_of_ble_eq_true rfl) rfl rfl rfl zg1 (Or.inl rfl) trivial trivial trivial trivial rfl (fun zs8 ezs8 => ?_)
      replace W := W zs8 ezs8
      exact W
    · rw [if_neg zc10] at W
      obtain ⟨⟨e1, e2⟩, W⟩ := W
      replace e2 := e2.symm
      subst e1 e2
      refine J_putS (G := 9006) (pc' := 25) rfl rfl (Nat.le_of_ble_eq_true rfl) rfl rfl zg1 rfl ?_
      exact W
theorem wp_Terms_put_25 {n : Nat} {σ : jS} {Q : jS → Prop} {zo0 : Int} {zx1 : Int} {zx2 : Int} (W : 0 ≤ zo0 ∧ 0 ≤ rl σ 9006 zo0 ∧ (if rl σ 9006 zo0 ≤ rs σ 9001 zo0 then Q σ else 0 ≤ rs σ 9001 zo0 ∧ rs σ 9001 zo0 < rl σ 9006 zo0 ∧ (∀ zs3, zs3 = wa σ 9006 zo0 (rs σ 9001 zo0) zx1 → i32 ((rs zs3 9001 zo0) + 1) ∧ (∀ zs7, zs7 = ws zs3 9001 zo0 ((rs zs3 9001 zo0) + 1) → 1 ≤ n ∧ TrV (n - 1) i_Terms_setPart [jo 9 zo0, ji zx1, ji 0, ji zx2] zs7 (fun zs9 => Q zs9))))) : J n c_Terms_put none 25 [some (jo 9 zo0), some (ji zx1), some (ji zx2)] [] σ (qV Q) := by
  obtain ⟨zg1, W⟩ := W
  refine J_aload_no (pc' := 26) rfl rfl zg1 rfl ?_
  refine J_getI (G := 9001) (pc' := 29) rfl rfl (Nat.le_of_ble_eq_true rfl) rfl zg1 rfl ?_
  refine J_aload_no (pc' := 30) rfl rfl zg1 rfl ?_
  obtain ⟨zg2, W⟩ := W
  refine J_getA (G := 9006) (pc' := 33) rfl rfl (Nat.le_of_ble_eq_true rfl) rfl zg1 zg2 rfl ?_
  refine J_alen (pc' := 34) rfl (by decide) rfl ?_
  refine J_icmp (P := rl σ 9006 zo0 ≤ rs σ 9001 zo0) (t := 64) (f := 37) rfl rfl rfl jc_ge W (fun W => ?_) (fun W => ?_)
  · exact J_vret rfl rfl ⟨rfl, W⟩
  · refine J_aload_no (pc' := 38) rfl rfl zg1 rfl ?_
    refine J_getA (G := 9006) (pc' := 41) rfl rfl (Nat.le_of_ble_eq_true rfl) rfl zg1 zg2 rfl ?_
    refine J_aload_no (pc' := 42) rfl rfl zg1 rfl ?_
    refine J_getI (G := 9001) (pc' := 45) rfl rfl (Nat.le_of_ble_eq_true rfl) rfl zg1 rfl ?_
    refine J_iload_n (pc' := 46) rfl rfl rfl ?_
    obtain ⟨zg4, W⟩ := W
    obtain ⟨zg5, W⟩ := W
    refine J_iast (pc' := 47) rfl rfl (by decide) zg4 zg5 rfl (fun zs3 ezs3 => ?_)
    replace W := W zs3 ezs3
    refine J_aload_no (pc' := 48) rfl rfl zg1 rfl ?_
    refine J_dup (pc' := 49) rfl rfl rfl ?_
    refine J_getI (G := 9001) (pc' := 52) rfl rfl (Nat.le_of_ble_eq_true rfl) rfl zg1 rfl ?_
    refine J_iconst (pc' := 53) rfl (i32_d rfl) rfl ?_
    obtain ⟨zg6, W⟩ := W
    refine J_iadd (pc' := 54) rfl zg6 rfl ?_
    refine J_putI (G := 9001) (pc' := 57) rfl rfl (Nat.le_of_ble_eq_true rfl) rfl rfl zg1 rfl (fun zs7 ezs7 => ?_)
    replace W := W zs7 ezs7
    refine J_aload_no (pc' := 58) rfl rfl zg1 rfl ?_
    refine J_iload_n (pc' := 59) rfl rfl rfl ?_
    refine J_iconst (pc' := 60) rfl (i32_d rfl) rfl ?_
    refine J_iload_n (pc' := 61) rfl rfl rfl ?_
    obtain ⟨zg8, W⟩ := W
    refine J_weak (L' := [none, none, none]) trivial ?_
    refine J_callV (as := [jo 9 zo0, ji zx1, ji 0, ji zx2]) (rest := []) (pc' := 64) rfl rfl ax_Z_200 rfl rfl (Or.inr (Or.inr ⟨_, _, rfl, zg1⟩)) (Nat.le_of_ble_eq_true rfl) (Nat.le_of_ble_eq_true rfl) (Nat.le_of_ble_eq_true rfl) zg8 trivial trivial rfl W (fun zs9 W => ?_)
    exact J_vret rfl rfl ⟨rfl, W⟩
theorem wp_Terms_standsIn {n : Nat} {σ : jS} {Q : Int → jS → Prop} {zo0 : Int} {zx1 : Int} {zx2 : Int} (W : 0 ≤ zo0 ∧ (∀ zs2, zs2 = ws σ 9012 zo0 0 → 1 ≤ n ∧ TrI (n - 1) i_Terms_solved [jo 9 zo0, ji zx2] zs2 (fun zr5 zs4 => TrV (n - 1) i_Terms_list [jo 9 zo0, ji zr5] zs4 (fun zs6 => J n c_Terms_standsIn (some .boolean) 16 [some (jo 9 zo0), some (ji zx1), none, some (ji 0), none, none] [] zs6 (qI Q))))) : TrI n i_Terms_standsIn [jo 9 zo0, ji zx1, ji zx2] σ Q := by
  refine Tr_of ax_Z_213 ?_
  show J n c_Terms_standsIn (some .boolean) 0 [some (jo 9 zo0), some (ji zx1), some (ji zx2), none, none, none] [] σ (qI Q)
  obtain ⟨zg1, W⟩ := W
  refine J_aload_no (pc' := 1) rfl rfl zg1 rfl ?_
  refine J_iconst (pc' := 2) rfl (i32_d rfl) rfl ?_
  refine J_putI (G := 9012) (pc' := 5) rfl rfl (Nat.le_of_ble_eq_true rfl) rfl rfl zg1 rfl (fun zs2 ezs2 => ?_)
  replace W := W zs2 ezs2
  refine J_aload_no (pc' := 6) rfl rfl zg1 rfl ?_
  refine J_aload_no (pc' := 7) rfl rfl zg1 rfl ?_
  refine J_iload_n (pc' := 8) rfl rfl rfl ?_
  obtain ⟨zg3, W⟩ := W
  refine J_weak (L' := [some (jo 9 zo0), some (ji zx1), none, none, none, none]) (And.intro rfl (And.intro rfl trivial)) ?_
  refine J_callI (as := [jo 9 zo0, ji zx2]) (rest := [jo 9 zo0]) (pc' := 11) rfl rfl ax_Z_208 rfl rfl (Or.inr (Or.inr ⟨_, _, rfl, zg1⟩)) (Nat.le_of_ble_eq_true rfl) (Nat.le_of_ble_eq_true rfl) (Nat.le_of_ble_eq_true rfl) zg3 trivial trivial rfl W (fun zr5 zs4 W => ?_)
  refine J_callV (as := [jo 9 zo0, ji zr5]) (rest := []) (pc' := 14) rfl rfl ax_Z_214 rfl rfl (Or.inr (Or.inr ⟨_, _, rfl, zg1⟩)) (Nat.le_of_ble_eq_true rfl) (Nat.le_of_ble_eq_true rfl) (Nat.le_of_ble_eq_true rfl) zg3 trivial trivial rfl W (fun zs6 W => ?_)
  refine J_iconst (pc' := 15) rfl (i32_d rfl) rfl ?_
  refine J_istore_n (L' := [some (jo 9 zo0), some (ji zx1), none, some (ji 0), none, none]) (pc' := 16) rfl (Nat.le_of_ble_eq_true rfl) rfl rfl ?_
  exact W
theorem wp_Terms_standsIn_16 {n : Nat} {σ : jS} {Q : Int → jS → Prop} {zo0 : Int} {zx1 : Int} {zx3 : Int} (W : (if 2048 ≤ zx3 then 0 ≤ zo0 ∧ 1 ≤ n ∧ TrI (n - 1) i_Terms_isListed [jo 9 zo0, ji zx1] σ (fun zr4 zs3 => J n c_Terms_standsIn (some .boolean) 101 [some (jo 9 zo0), none, none, some (ji zr4), some (ji 0), none] [] zs3 (qI Q)) else 0 ≤ zo0 ∧ (if rs σ 9012 zo0 ≤ zx3 then 1 ≤ n ∧ TrI (n - 1) i_Terms_isListed [jo 9 zo0, ji zx1] σ (fun zr8 zs7 => J n c_Terms_standsIn (some .boolean) 101 [some (jo 9 zo0), none, none, some (ji zr8), some (ji 0), none] [] zs7 (qI Q)) else 1 ≤ n ∧ TrI (n - 1) i_Terms_isListed [jo 9 zo0, ji zx1] σ (fun zr11 zs10 => (if ¬ zr11 = 0 then TrI (n - 1) i_Terms_isListed [jo 9 zo0, ji zx1] zs10 (fun zr13 zs12 => J n c_Terms_standsIn (some .boolean) 101 [some (jo 9 zo0), none, none, some (ji zr13), some (ji 0), none] [] zs12 (qI Q)) else 0 ≤ rl zs10 9008 zo0 ∧ 0 ≤ zx3 ∧ zx3 < rl zs10 9008 zo0 ∧ J n c_Terms_standsIn (some .boolean) 50 [some (jo 9 zo0), some (ji zx1), none, some (ji zx3), some (ji (ra zs10 9008 zo0 zx3)), some (ji 0)] [] zs10 (qI Q)))))) : J n c_Terms_standsIn (some .boolean) 16 [some (jo 9 zo0), some (ji zx1), none, some (ji zx3), none, none] [] σ (qI Q) := by
  refine J_iload_n (pc' := 17) rfl rfl rfl ?_
  refine J_sipush (pc' := 20) rfl (by decide) (by decide) rfl ?_
  refine J_icmp (P := 2048 ≤ zx3) (t := 92) (f := 23) rfl rfl rfl jc_ge W (fun W => ?_) (fun W => ?_)
  · obtain ⟨zg1, W⟩ := W
    refine J_aload_no (pc' := 93) rfl rfl zg1 rfl ?_
    refine J_iload_n (pc' := 94) rfl rfl rfl ?_
    obtain ⟨zg2, W⟩ := W
    refine J_weak (L' := [some (jo 9 zo0), none, none, none, none, none]) (And.intro rfl trivial) ?_
    refine J_callI (as := [jo 9 zo0, ji zx1]) (rest := []) (pc' := 97) rfl rfl ax_Z_215 rfl rfl (Or.inr (Or.inr ⟨_, _, rfl, zg1⟩)) (Nat.le_of_ble_eq_true rfl) (Nat.le_of_ble_eq_true rfl) (Nat.le_of_ble_eq_true rfl) zg2 trivial trivial rfl W (fun zr4 zs3 W => ?_)
    refine J_istore_n (L' := [some (jo 9 zo0), none, none, some (ji zr4), none, none]) (pc' := 98) rfl (Nat.le_of_ble_eq_true rfl) rfl rfl ?_
    refine J_iconst (pc' := 99) rfl (i32_d rfl) rfl ?_
    refine J_istore (L' := [some (jo 9 zo0), none, none, some (ji zr4), some (ji 0), none]) (pc' := 101) rfl (Nat.le_of_ble_eq_true rfl) rfl rfl ?_
    exact W
  · refine J_iload_n (pc' := 24) rfl rfl rfl ?_
    obtain ⟨zg5, W⟩ := W
    refine J_aload_no (pc' := 25) rfl rfl zg5 rfl ?_
    refine J_getI (G := 9012) (pc' := 28) rfl rfl (Nat.le_of_ble_eq_true rfl) rfl zg5 rfl ?_
    refine J_icmp (P := rs σ 9012 zo0 ≤ zx3) (t := 92) (f := 31) rfl rfl rfl jc_ge W (fun W => ?_) (fun W => ?_)
    · refine J_aload_no (pc' := 93) rfl rfl zg5 rfl ?_
      refine J_iload_n (pc' := 94) rfl rfl rfl ?_
      obtain ⟨zg6, W⟩ := W
      refine J_weak (L' := [some (jo 9 zo0), none, none, none, none, none]) (And.intro rfl trivial) ?_
      refine J_callI (as := [jo 9 zo0, ji zx1]) (rest := []) (pc' := 97) rfl rfl ax_Z_215 rfl rfl (Or.inr (Or.inr ⟨_, _, rfl, zg5⟩)) (Nat.le_of_ble_eq_true rfl) (Nat.le_of_ble_eq_true rfl) (Nat.le_of_ble_eq_true rfl) zg6 trivial trivial rfl W (fun zr8 zs7 W => ?_)
      refine J_istore_n (L' := [some (jo 9 zo0), none, none, some (ji zr8), none, none]) (pc' := 98) rfl (Nat.le_of_ble_eq_true rfl) rfl rfl ?_
      refine J_iconst (pc' := 99) rfl (i32_d rfl) rfl ?_
      refine J_istore (L' := [some (jo 9 zo0), none, none, some (ji zr8), some (ji 0), none]) (pc' := 101) rfl (Nat.le_of_ble_eq_true rfl) rfl rfl ?_
      exact W
    · refine J_aload_no (pc' := 32) rfl rfl zg5 rfl ?_
      refine J_iload_n (pc' := 33) rfl rfl rfl ?_
      obtain ⟨zg9, W⟩ := W
      refine J_callI (as := [jo 9 zo0, ji zx1]) (rest := []) (pc' := 36) rfl rfl ax_Z_215 rfl rfl (Or.inr (Or.inr ⟨_, _, rfl, zg5⟩)) (Nat.le_of_ble_eq_true rfl) (Nat.le_of_ble_eq_true rfl) (Nat.le_of_ble_eq_true rfl) zg9 trivial trivial rfl W (fun zr11 zs10 W => ?_)
      refine J_if (P := ¬ zr11 = 0) (t := 92) (f := 39) rfl rfl rfl jc_ne W (fun W => ?_) (fun W => ?_)
      · refine J_aload_no (pc' := 93) rfl rfl zg5 rfl ?_
        refine J_iload_n (pc' := 94) rfl rfl rfl ?_
        refine J_weak (L' := [some (jo 9 zo0), none, none, none, none, none]) (And.intro rfl trivial) ?_
        refine J_callI (as := [jo 9 zo0, ji zx1]) (rest := []) (pc' := 97) rfl rfl ax_Z_215 rfl rfl (Or.inr (Or.inr ⟨_, _, rfl, zg5⟩)) (Nat.le_of_ble_eq_true rfl) (Nat.le_of_ble_eq_true rfl) (Nat.le_of_ble_eq_true rfl) zg9 trivial trivial rfl W (fun zr13 zs12 W => ?_)
        refine J_istore_n (L' := [some (jo 9 zo0), none, none, some (ji zr13), none, none]) (pc' := 98) rfl (Nat.le_of_ble_eq_true rfl) rfl rfl ?_
        refine J_iconst (pc' := 99) rfl (i32_d rfl) rfl ?_
        refine J_istore (L' := [some (jo 9 zo0), none, none, some (ji zr13), some (ji 0), none]) (pc' := 101) rfl (Nat.le_of_ble_eq_true rfl) rfl rfl ?_
        exact W
      · refine J_aload_no (pc' := 40) rfl rfl zg5 rfl ?_
        obtain ⟨zg14, W⟩ := W
        refine J_getA (G := 9008) (pc' := 43) rfl rfl (Nat.le_of_ble_eq_true rfl) rfl zg5 zg14 rfl ?_
        refine J_iload_n (pc' := 44) rfl rfl rfl ?_
        obtain ⟨zg15, W⟩ := W
        obtain ⟨zg16, W⟩ := W
        refine J_iald (pc' := 45) rfl rfl zg15 zg16 rfl ?_
        refine J_istore (L' := [some (jo 9 zo0), some (ji zx1), none, some (ji zx3), some (ji (ra zs10 9008 zo0 zx3)), none]) (pc' := 47) rfl (Nat.le_of_ble_eq_true rfl) rfl rfl ?_
        refine J_iconst (pc' := 48) rfl (i32_d rfl) rfl ?_
        refine J_istore (L' := [some (jo 9 zo0), some (ji zx1), none, some (ji zx3), some (ji (ra zs10 9008 zo0 zx3)), some (ji 0)]) (pc' := 50) rfl (Nat.le_of_ble_eq_true rfl) rfl rfl ?_
        exact W
theorem wp_Terms_standsIn_50 {n : Nat} {σ : jS} {Q : Int → jS → Prop} {zo0 : Int} {zx1 : Int} {zx3 : Int} {zx4 : Int} {zx5 : Int} (W : 0 ≤ zo0 ∧ 1 ≤ n ∧ TrI (n - 1) i_Terms_signOf [jo 9 zo0, ji zx4] σ (fun zr4 zs3 => TrI (n - 1) i_Flat_partsOf [ji zr4] zs3 (fun zr6 zs5 => (if zr6 ≤ zx5 then i32 (zx3 + 1) ∧ J n c_Terms_standsIn (some .boolean) 16 [some (jo 9 zo0), some (ji zx1), none, some (ji (zx3 + 1)), none, none] [] zs5 (qI Q) else TrI (n - 1) i_Terms_partOf [jo 9 zo0, ji zx4, ji zx5] zs5 (fun zr9 zs8 => TrI (n - 1) i_Terms_solved [jo 9 zo0, ji zr9] zs8 (fun zr11 zs10 => TrV (n - 1) i_Terms_list [jo 9 zo0, ji zr11] zs10 (fun zs12 => i32 (zx5 + 1) ∧ J n c_Terms_standsIn (some .boolean) 50 [some (jo 9 zo0), some (ji zx1), none, some (ji zx3), some (ji zx4), some (ji (zx5 + 1))] [] zs12 (qI Q)))))))) : J n c_Terms_standsIn (some .boolean) 50 [some (jo 9 zo0), some (ji zx1), none, some (ji zx3), some (ji zx4), some (ji zx5)] [] σ (qI Q) := by
  refine J_iload (pc' := 52) rfl rfl rfl ?_
  obtain ⟨zg1, W⟩ := W
  refine J_aload_no (pc' := 53) rfl rfl zg1 rfl ?_
  refine J_iload (pc' := 55) rfl rfl rfl ?_
  obtain ⟨zg2, W⟩ := W
  refine J_callI (as := [jo 9 zo0, ji zx4]) (rest := [ji zx5]) (pc' := 58) rfl rfl ax_Z_197 rfl rfl (Or.inr (Or.inr ⟨_, _, rfl, zg1⟩)) (Nat.le_of_ble_eq_true rfl) (Nat.le_of_ble_eq_true rfl) (Nat.le_of_ble_eq_true rfl) zg2 trivial trivial rfl W (fun zr4 zs3 W => ?_)
  refine J_callI (as := [ji zr4]) (rest := [ji zx5]) (pc' := 61) rfl rfl ax_Z_120 rfl rfl (Or.inl rfl) (Nat.le_of_ble_eq_true rfl) (Nat.le_of_ble_eq_true rfl) (Nat.le_of_ble_eq_true rfl) zg2 trivial trivial rfl W (fun zr6 zs5 W => ?_)
  refine J_icmp (P := zr6 ≤ zx5) (t := 86) (f := 64) rfl rfl rfl jc_ge W (fun W => ?_) (fun W => ?_)
  · obtain ⟨zg7, W⟩ := W
    refine J_iinc (L' := [some (jo 9 zo0), some (ji zx1), none, some (ji (zx3 + 1)), some (ji zx4), some (ji zx5)]) (pc' := 89) rfl rfl zg7 rfl rfl ?_
    refine J_goto (pc' := 16) rfl rfl ?_
    refine J_weak (L' := [some (jo 9 zo0), some (ji zx1), none, some (ji (zx3 + 1)), none, none]) (And.intro rfl (And.intro rfl (And.intro rfl trivial))) ?_
    exact W
  · refine J_aload_no (pc' := 65) rfl rfl zg1 rfl ?_
    refine J_aload_no (pc' := 66) rfl rfl zg1 rfl ?_
    refine J_aload_no (pc' := 67) rfl rfl zg1 rfl ?_
    refine J_iload (pc' := 69) rfl rfl rfl ?_
    refine J_iload (pc' := 71) rfl rfl rfl ?_
    refine J_callI (as := [jo 9 zo0, ji zx4, ji zx5]) (rest := [jo 9 zo0, jo 9 zo0]) (pc' := 74) rfl rfl ax_Z_199 rfl rfl (Or.inr (Or.inr ⟨_, _, rfl, zg1⟩)) (Nat.le_of_ble_eq_true rfl) (Nat.le_of_ble_eq_true rfl) (Nat.le_of_ble_eq_true rfl) zg2 trivial trivial rfl W (fun zr9 zs8 W => ?_)
    refine J_callI (as := [jo 9 zo0, ji zr9]) (rest := [jo 9 zo0]) (pc' := 77) rfl rfl ax_Z_208 rfl rfl (Or.inr (Or.inr ⟨_, _, rfl, zg1⟩)) (Nat.le_of_ble_eq_true rfl) (Nat.le_of_ble_eq_true rfl) (Nat.le_of_ble_eq_true rfl) zg2 trivial trivial rfl W (fun zr11 zs10 W => ?_)
    refine J_callV (as := [jo 9 zo0, ji zr11]) (rest := []) (pc' := 80) rfl rfl ax_Z_214 rfl rfl (Or.inr (Or.inr ⟨_, _, rfl, zg1⟩)) (Nat.le_of_ble_eq_true rfl) (Nat.le_of_ble_eq_true rfl) (Nat.le_of_ble_eq_true rfl) zg2 trivial trivial rfl W (fun zs12 W => ?_)
    obtain ⟨zg14, W⟩ := W
    refine J_iinc (L' := [some (jo 9 zo0), some (ji zx1), none, some (ji zx3), some (ji zx4), some (ji (zx5 + 1))]) (pc' := 83) rfl rfl zg14 rfl rfl ?_
    refine J_goto (pc' := 50) rfl rfl ?_
    exact W
theorem wp_Terms_standsIn_101 {n : Nat} {σ : jS} {Q : Int → jS → Prop} {zo0 : Int} {zx3 : Int} {zx4 : Int} (W : (if 2048 ≤ zx4 then (zx3 = 0 ∨ zx3 = 1) ∧ Q zx3 σ else 0 ≤ zo0 ∧ (if rs σ 9012 zo0 ≤ zx4 then (zx3 = 0 ∨ zx3 = 1) ∧ Q zx3 σ else 0 ≤ rl σ 9008 zo0 ∧ 0 ≤ zx4 ∧ zx4 < rl σ 9008 zo0 ∧ 1 ≤ n ∧ TrV (n - 1) i_Terms_setListed [jo 9 zo0, ji (ra σ 9008 zo0 zx4), ji 0] σ (fun zs8 => i32 (zx4 + 1) ∧ J n c_Terms_standsIn (some .boolean) 101 [some (jo 9 zo0), none, none, some (ji zx3), some (ji (zx4 + 1)), none] [] zs8 (qI Q))))) : J n c_Terms_standsIn (some .boolean) 101 [some (jo 9 zo0), none, none, some (ji zx3), some (ji zx4), none] [] σ (qI Q) := by
  refine J_iload (pc' := 103) rfl rfl rfl ?_
  refine J_sipush (pc' := 106) rfl (by decide) (by decide) rfl ?_
  refine J_icmp (P := 2048 ≤ zx4) (t := 136) (f := 109) rfl rfl rfl jc_ge W (fun W => ?_) (fun W => ?_)
  · refine J_iload_n (pc' := 137) rfl rfl rfl ?_
    obtain ⟨zg1, W⟩ := W
    exact J_zret rfl rfl zg1 ⟨_, rfl, W⟩
  · refine J_iload (pc' := 111) rfl rfl rfl ?_
    obtain ⟨zg2, W⟩ := W
    refine J_aload_no (pc' := 112) rfl rfl zg2 rfl ?_
    refine J_getI (G := 9012) (pc' := 115) rfl rfl (Nat.le_of_ble_eq_true rfl) rfl zg2 rfl ?_
    refine J_icmp (P := rs σ 9012 zo0 ≤ zx4) (t := 136) (f := 118) rfl rfl rfl jc_ge W (fun W => ?_) (fun W => ?_)
    · refine J_iload_n (pc' := 137) rfl rfl rfl ?_
      obtain ⟨zg3, W⟩ := W
      exact J_zret rfl rfl zg3 ⟨_, rfl, W⟩
    · refine J_aload_no (pc' := 119) rfl rfl zg2 rfl ?_
      refine J_aload_no (pc' := 120) rfl rfl zg2 rfl ?_
      obtain ⟨zg4, W⟩ := W
      refine J_getA (G := 9008) (pc' := 123) rfl rfl (Nat.le_of_ble_eq_true rfl) rfl zg2 zg4 rfl ?_
      refine J_iload (pc' := 125) rfl rfl rfl ?_
      obtain ⟨zg5, W⟩ := W
      obtain ⟨zg6, W⟩ := W
      refine J_iald (pc' := 126) rfl rfl zg5 zg6 rfl ?_
      refine J_iconst (pc' := 127) rfl (i32_d rfl) rfl ?_
      obtain ⟨zg7, W⟩ := W
      refine J_callV (as := [jo 9 zo0, ji (ra σ 9008 zo0 zx4), ji 0]) (rest := []) (pc' := 130) rfl rfl ax_Z_216 rfl rfl (Or.inr (Or.inr ⟨_, _, rfl, zg2⟩)) (Nat.le_of_ble_eq_true rfl) (Nat.le_of_ble_eq_true rfl) (Nat.le_of_ble_eq_true rfl) zg7 trivial trivial rfl W (fun zs8 W => ?_)
      obtain ⟨zg10, W⟩ := W
      refine J_iinc (L' := [some (jo 9 zo0), none, none, some (ji zx3), some (ji (zx4 + 1)), none]) (pc' := 133) rfl rfl zg10 rfl rfl ?_
      refine J_goto (pc' := 101) rfl rfl ?_
      exact W
theorem wp_Terms_list {n : Nat} {σ : jS} {Q : jS → Prop} {zo0 : Int} {zx1 : Int} (W : 0 ≤ zo0 ∧ 1 ≤ n ∧ TrI (n - 1) i_Terms_isListed [jo 9 zo0, ji zx1] σ (fun zr4 zs3 => (if ¬ zr4 = 0 then Q zs3 else (if 2048 ≤ rs zs3 9012 zo0 then Q zs3 else TrV (n - 1) i_Terms_setListed [jo 9 zo0, ji zx1, ji 1] zs3 (fun zs5 => TrV (n - 1) i_Terms_pushOpen [jo 9 zo0, ji zx1] zs5 (fun zs7 => Q zs7)))))) : TrV n i_Terms_list [jo 9 zo0, ji zx1] σ Q := by
  refine Tr_of ax_Z_214 ?_
  show J n c_Terms_list none 0 [some (jo 9 zo0), some (ji zx1)] [] σ (qV Q)
  obtain ⟨zg1, W⟩ := W
  refine J_aload_no (pc' := 1) rfl rfl zg1 rfl ?_
  refine J_iload_n (pc' := 2) rfl rfl rfl ?_
  obtain ⟨zg2, W⟩ := W
  refine J_callI (as := [jo 9 zo0, ji zx1]) (rest := []) (pc' := 5) rfl rfl ax_Z_215 rfl rfl (Or.inr (Or.inr ⟨_, _, rfl, zg1⟩)) (Nat.le_of_ble_eq_true rfl) (Nat.le_of_ble_eq_true rfl) (Nat.le_of_ble_eq_true rfl) zg2 trivial trivial rfl W (fun zr4 zs3 W => ?_)
  refine J_if (P := ¬ zr4 = 0) (t := 29) (f := 8) rfl rfl rfl jc_ne W (fun W => ?_) (fun W => ?_)
  · exact J_vret rfl rfl ⟨rfl, W⟩
  · refine J_aload_no (pc' := 9) rfl rfl zg1 rfl ?_
    refine J_getI (G := 9012) (pc' := 12) rfl rfl (Nat.le_of_ble_eq_true rfl) rfl zg1 rfl ?_
    refine J_sipush (pc' := 15) rfl (by decide) (by decide) rfl ?_
    refine J_icmp (P := 2048 ≤ rs zs3 9012 zo0) (t := 29) (f := 18) rfl rfl rfl jc_ge W (fun W => ?_) (fun W => ?_)
    · exact J_vret rfl rfl ⟨rfl, W⟩
    · refine J_aload_no (pc' := 19) rfl rfl zg1 rfl ?_
      refine J_iload_n (pc' := 20) rfl rfl rfl ?_
      refine J_iconst (pc' := 21) rfl (i32_d rfl) rfl ?_
      refine J_callV (as := [jo 9 zo0, ji zx1, ji 1]) (rest := []) (pc' := 24) rfl rfl ax_Z_216 rfl rfl (Or.inr (Or.inr ⟨_, _, rfl, zg1⟩)) (Nat.le_of_ble_eq_true rfl) (Nat.le_of_ble_eq_true rfl) (Nat.le_of_ble_eq_true rfl) zg2 trivial trivial rfl W (fun zs5 W => ?_)
      refine J_aload_no (pc' := 25) rfl rfl zg1 rfl ?_
      refine J_iload_n (pc' := 26) rfl rfl rfl ?_
      refine J_weak (L' := [none, none]) trivial ?_
      refine J_callV (as := [jo 9 zo0, ji zx1]) (rest := []) (pc' := 29) rfl rfl ax_Z_205 rfl rfl (Or.inr (Or.inr ⟨_, _, rfl, zg1⟩)) (Nat.le_of_ble_eq_true rfl) (Nat.le_of_ble_eq_true rfl) (Nat.le_of_ble_eq_true rfl) zg2 trivial trivial rfl W (fun zs7 W => ?_)
      exact J_vret rfl rfl ⟨rfl, W⟩
theorem wp_Terms_isListed {n : Nat} {σ : jS} {Q : Int → jS → Prop} {zo0 : Int} {zx1 : Int} (W : (if zx1 < 0 then Q 0 σ else 0 ≤ zo0 ∧ (if rs σ 9000 zo0 ≤ zx1 then Q 0 σ else 0 ≤ rl σ 9004 zo0 ∧ (if rl σ 9004 zo0 ≤ zx1 then Q 0 σ else 0 ≤ zx1 ∧ zx1 < rl σ 9004 zo0 ∧ (if ¬ ra σ 9004 zo0 zx1 = 1 then Q 0 σ else Q 1 σ))))) : TrI n i_Terms_isListed [jo 9 zo0, ji zx1] σ Q := by
  refine Tr_of ax_Z_215 ?_
  show J n c_Terms_isListed (some .boolean) 0 [some (jo 9 zo0), some (ji zx1)] [] σ (qI Q)
  refine J_iload_n (pc' := 1) rfl rfl rfl ?_
  refine J_if (P := zx1 < 0) (t := 35) (f := 4) rfl rfl rfl jc_lt W (fun W => ?_) (fun W => ?_)
  · refine J_iconst (pc' := 36) rfl (i32_d rfl) rfl ?_
    exact J_zret rfl rfl (Or.inl rfl) ⟨_, rfl, W⟩
  · refine J_iload_n (pc' := 5) rfl rfl rfl ?_
    obtain ⟨zg1, W⟩ := W
    refine J_aload_no (pc' := 6) rfl rfl zg1 rfl ?_
    refine J_getI (G := 9000) (pc' := 9) rfl rfl (Nat.le_of_ble_eq_true rfl) rfl zg1 rfl ?_
    refine J_icmp (P := rs σ 9000 zo0 ≤ zx1) (t := 35) (f := 12) rfl rfl rfl jc_ge W (fun W => ?_) (fun W => ?_)
    · refine J_iconst (pc' := 36) rfl (i32_d rfl) rfl ?_
      exact J_zret rfl rfl (Or.inl rfl) ⟨_, rfl, W⟩
    · refine J_iload_n (pc' := 13) rfl rfl rfl ?_
      refine J_aload_no (pc' := 14) rfl rfl zg1 rfl ?_
      obtain ⟨zg2, W⟩ := W
      refine J_getA (G := 9004) (pc' := 17) rfl rfl (Nat.le_of_ble_eq_true rfl) rfl zg1 zg2 rfl ?_
      refine J_alen (pc' := 18) rfl (by decide) rfl ?_
      refine J_icmp (P := rl σ 9004 zo0 ≤ zx1) (t := 35) (f := 21) rfl rfl rfl jc_ge W (fun W => ?_) (fun W => ?_)
      · refine J_iconst (pc' := 36) rfl (i32_d rfl) rfl ?_
        exact J_zret rfl rfl (Or.inl rfl) ⟨_, rfl, W⟩
      · refine J_aload_no (pc' := 22) rfl rfl zg1 rfl ?_
        refine J_getA (G := 9004) (pc' := 25) rfl rfl (Nat.le_of_ble_eq_true rfl) rfl zg1 zg2 rfl ?_
        refine J_iload_n (pc' := 26) rfl rfl rfl ?_
        obtain ⟨zg3, W⟩ := W
        obtain ⟨zg4, W⟩ := W
        refine J_iald (pc' := 27) rfl rfl zg3 zg4 rfl ?_
        refine J_iconst (pc' := 28) rfl (i32_d rfl) rfl ?_
        refine J_icmp (P := ¬ ra σ 9004 zo0 zx1 = 1) (t := 35) (f := 31) rfl rfl rfl jc_ne W (fun W => ?_) (fun W => ?_)
        · refine J_iconst (pc' := 36) rfl (i32_d rfl) rfl ?_
          exact J_zret rfl rfl (Or.inl rfl) ⟨_, rfl, W⟩
        · refine J_iconst (pc' := 32) rfl (i32_d rfl) rfl ?_
          refine J_goto (pc' := 36) rfl rfl ?_
          exact J_zret rfl rfl (Or.inr rfl) ⟨_, rfl, W⟩
theorem wp_Terms_setListed {n : Nat} {σ : jS} {Q : jS → Prop} {zo0 : Int} {zx1 : Int} {zx2 : Int} (W : (if zx1 < 0 then Q σ else 0 ≤ zo0 ∧ (if rs σ 9000 zo0 ≤ zx1 then Q σ else 0 ≤ rl σ 9004 zo0 ∧ (if rl σ 9004 zo0 ≤ zx1 then Q σ else 0 ≤ zx1 ∧ zx1 < rl σ 9004 zo0 ∧ (∀ zs3, zs3 = wa σ 9004 zo0 zx1 zx2 → Q zs3))))) : TrV n i_Terms_setListed [jo 9 zo0, ji zx1, ji zx2] σ Q := by
  refine Tr_of ax_Z_216 ?_
  show J n c_Terms_setListed none 0 [some (jo 9 zo0), some (ji zx1), some (ji zx2)] [] σ (qV Q)
  refine J_iload_n (pc' := 1) rfl rfl rfl ?_
  refine J_if (P := zx1 < 0) (t := 28) (f := 4) rfl rfl rfl jc_lt W (fun W => ?_) (fun W => ?_)
  · exact J_vret rfl rfl ⟨rfl, W⟩
  · refine J_iload_n (pc' := 5) rfl rfl rfl ?_
    obtain ⟨zg1, W⟩ := W
    refine J_aload_no (pc' := 6) rfl rfl zg1 rfl ?_
    refine J_getI (G := 9000) (pc' := 9) rfl rfl (Nat.le_of_ble_eq_true rfl) rfl zg1 rfl ?_
    refine J_icmp (P := rs σ 9000 zo0 ≤ zx1) (t := 28) (f := 12) rfl rfl rfl jc_ge W (fun W => ?_) (fun W => ?_)
    · exact J_vret rfl rfl ⟨rfl, W⟩
    · refine J_iload_n (pc' := 13) rfl rfl rfl ?_
      refine J_aload_no (pc' := 14) rfl rfl zg1 rfl ?_
      obtain ⟨zg2, W⟩ := W
      refine J_getA (G := 9004) (pc' := 17) rfl rfl (Nat.le_of_ble_eq_true rfl) rfl zg1 zg2 rfl ?_
      refine J_alen (pc' := 18) rfl (by decide) rfl ?_
      refine J_icmp (P := rl σ 9004 zo0 ≤ zx1) (t := 28) (f := 21) rfl rfl rfl jc_ge W (fun W => ?_) (fun W => ?_)
      · exact J_vret rfl rfl ⟨rfl, W⟩
      · refine J_aload_no (pc' := 22) rfl rfl zg1 rfl ?_
        refine J_getA (G := 9004) (pc' := 25) rfl rfl (Nat.le_of_ble_eq_true rfl) rfl zg1 zg2 rfl ?_
        refine J_iload_n (pc' := 26) rfl rfl rfl ?_
        refine J_iload_n (pc' := 27) rfl rfl rfl ?_
        obtain ⟨zg4, W⟩ := W
        obtain ⟨zg5, W⟩ := W
        refine J_iast (pc' := 28) rfl rfl (by decide) zg4 zg5 rfl (fun zs3 ezs3 => ?_)
        replace W := W zs3 ezs3
        exact J_vret rfl rfl ⟨rfl, W⟩
theorem wp_Terms_back {n : Nat} {σ : jS} {Q : jS → Prop} {zo0 : Int} {zx1 : Int} {zx2 : Int} (W : J n c_Terms_back none 0 [some (jo 9 zo0), some (ji zx1), some (ji zx2)] [] σ (qV Q)) : TrV n i_Terms_back [jo 9 zo0, ji zx1, ji zx2] σ Q := by
  refine Tr_of ax_Z_217 ?_
  show J n c_Terms_back none 0 [some (jo 9 zo0), some (ji zx1), some (ji zx2)] [] σ (qV Q)
  exact W
theorem wp_Terms_back_0 {n : Nat} {σ : jS} {Q : jS → Prop} {zo0 : Int} {zx1 : Int} {zx2 : Int} (W : 0 ≤ zo0 ∧ (if rs σ 9001 zo0 ≤ zx1 then 1 ≤ n ∧ (∀ zs3, zs3 = ws σ 9000 zo0 (min (rs σ 9000 zo0) zx2) → Q zs3) else (if rs σ 9001 zo0 ≤ 0 then 1 ≤ n ∧ (∀ zs5, zs5 = ws σ 9000 zo0 (min (rs σ 9000 zo0) zx2) → Q zs5) else i32 ((rs σ 9001 zo0) - 1) ∧ (∀ zs7, zs7 = ws σ 9001 zo0 ((rs σ 9001 zo0) - 1) → 0 ≤ rl zs7 9006 zo0 ∧ 0 ≤ rs zs7 9001 zo0 ∧ rs zs7 9001 zo0 < rl zs7 9006 zo0 ∧ 1 ≤ n ∧ TrV (n - 1) i_Terms_setPart [jo 9 zo0, ji (ra zs7 9006 zo0 (rs zs7 9001 zo0)), ji 0, ji (-1)] zs7 (fun zs12 => J n c_Terms_back none 0 [some (jo 9 zo0), some (ji zx1), some (ji zx2)] [] zs12 (qV Q)))))) : J n c_Terms_back none 0 [some (jo 9 zo0), some (ji zx1), some (ji zx2)] [] σ (qV Q) := by
  obtain ⟨zg1, W⟩ := W
  refine J_aload_no (pc' := 1) rfl rfl zg1 rfl ?_
  refine J_getI (G := 9001) (pc' := 4) rfl rfl (Nat.le_of_ble_eq_true rfl) rfl zg1 rfl ?_
  refine J_iload_n (pc' := 5) rfl rfl rfl ?_
  refine J_icmp (P := rs σ 9001 zo0 ≤ zx1) (t := 43) (f := 8) rfl rfl rfl jc_le W (fun W => ?_) (fun W => ?_)
  · refine J_aload_no (pc' := 44) rfl rfl zg1 rfl ?_
    refine J_aload_no (pc' := 45) rfl rfl zg1 rfl ?_
    refine J_getI (G := 9000) (pc' := 48) rfl rfl (Nat.le_of_ble_eq_true rfl) rfl zg1 rfl ?_
    refine J_iload_n (pc' := 49) rfl rfl rfl ?_
    obtain ⟨zg2, W⟩ := W
    refine J_min (pc' := 52) rfl zg2 (Nat.le_of_ble_eq_true rfl) rfl ?_
    refine J_putI (G := 9000) (pc' := 55) rfl rfl (Nat.le_of_ble_eq_true rfl) rfl rfl zg1 rfl (fun zs3 ezs3 => ?_)
    replace W := W zs3 ezs3
    exact J_vret rfl rfl ⟨rfl, W⟩
  · refine J_aload_no (pc' := 9) rfl rfl zg1 rfl ?_
    refine J_getI (G := 9001) (pc' := 12) rfl rfl (Nat.le_of_ble_eq_true rfl) rfl zg1 rfl ?_
    refine J_if (P := rs σ 9001 zo0 ≤ 0) (t := 43) (f := 15) rfl rfl rfl jc_le W (fun W => ?_) (fun W => ?_)
    · refine J_aload_no (pc' := 44) rfl rfl zg1 rfl ?_
      refine J_aload_no (pc' := 45) rfl rfl zg1 rfl ?_
      refine J_getI (G := 9000) (pc' := 48) rfl rfl (Nat.le_of_ble_eq_true rfl) rfl zg1 rfl ?_
      refine J_iload_n (pc' := 49) rfl rfl rfl ?_
      obtain ⟨zg4, W⟩ := W
      refine J_min (pc' := 52) rfl zg4 (Nat.le_of_ble_eq_true rfl) rfl ?_
      refine J_putI (G := 9000) (pc' := 55) rfl rfl (Nat.le_of_ble_eq_true rfl) rfl rfl zg1 rfl (fun zs5 ezs5 => ?_)
      replace W := W zs5 ezs5
      exact J_vret rfl rfl ⟨rfl, W⟩
    · refine J_aload_no (pc' := 16) rfl rfl zg1 rfl ?_
      refine J_dup (pc' := 17) rfl rfl rfl ?_
      refine J_getI (G := 9001) (pc' := 20) rfl rfl (Nat.le_of_ble_eq_true rfl) rfl zg1 rfl ?_
      refine J_iconst (pc' := 21) rfl (i32_d rfl) rfl ?_
      obtain ⟨zg6, W⟩ := W
      refine J_isub (pc' := 22) rfl zg6 rfl ?_
      refine J_putI (G := 9001) (pc' := 25) rfl rfl (Nat.le_of_ble_eq_true rfl) rfl rfl zg1 rfl (fun zs7 ezs7 => ?_)
      replace W := W zs7 ezs7
      refine J_aload_no (pc' := 26) rfl rfl zg1 rfl ?_
      refine J_aload_no (pc' := 27) rfl rfl zg1 rfl ?_
      obtain ⟨zg8, W⟩ := W
      refine J_getA (G := 9006) (pc' := 30) rfl rfl (Nat.le_of_ble_eq_true rfl) rfl zg1 zg8 rfl ?_
      refine J_aload_no (pc' := 31) rfl rfl zg1 rfl ?_
      refine J_getI (G := 9001) (pc' := 34) rfl rfl (Nat.le_of_ble_eq_true rfl) rfl zg1 rfl ?_
      obtain ⟨zg9, W⟩ := W
      obtain ⟨zg10, W⟩ := W
      refine J_iald (pc' := 35) rfl rfl zg9 zg10 rfl ?_
      refine J_iconst (pc' := 36) rfl (i32_d rfl) rfl ?_
      refine J_iconst (pc' := 37) rfl (i32_d rfl) rfl ?_
      obtain ⟨zg11, W⟩ := W
      refine J_callV (as := [jo 9 zo0, ji (ra zs7 9006 zo0 (rs zs7 9001 zo0)), ji 0, ji (-1)]) (rest := []) (pc' := 40) rfl rfl ax_Z_200 rfl rfl (Or.inr (Or.inr ⟨_, _, rfl, zg1⟩)) (Nat.le_of_ble_eq_true rfl) (Nat.le_of_ble_eq_true rfl) (Nat.le_of_ble_eq_true rfl) zg11 trivial trivial rfl W (fun zs12 W => ?_)
      refine J_goto (pc' := 0) rfl rfl ?_
      exact W
theorem wp_Terms_save {n : Nat} {σ : jS} {Q : jS → Prop} {zo0 : Int} {zx1 : Int} (W : 1 ≤ n ∧ J n c_Terms_save none 6 [some (jo 9 zo0), none, some (ji (max zx1 0))] [] σ (qV Q)) : TrV n i_Terms_save [jo 9 zo0, ji zx1] σ Q := by
  refine Tr_of ax_Z_218 ?_
  show J n c_Terms_save none 0 [some (jo 9 zo0), some (ji zx1), none] [] σ (qV Q)
  refine J_iload_n (pc' := 1) rfl rfl rfl ?_
  refine J_iconst (pc' := 2) rfl (i32_d rfl) rfl ?_
  obtain ⟨zg1, W⟩ := W
  refine J_max (pc' := 5) rfl zg1 (Nat.le_of_ble_eq_true rfl) rfl ?_
  refine J_istore_n (L' := [some (jo 9 zo0), some (ji zx1), some (ji (max zx1 0))]) (pc' := 6) rfl (Nat.le_of_ble_eq_true rfl) rfl rfl ?_
  refine J_weak (L' := [some (jo 9 zo0), none, some (ji (max zx1 0))]) (And.intro rfl (And.intro rfl trivial)) ?_
  exact W
theorem wp_Terms_save_6 {n : Nat} {σ : jS} {Q : jS → Prop} {zo0 : Int} {zx2 : Int} (W : 0 ≤ zo0 ∧ (if rs σ 9001 zo0 ≤ zx2 then Q σ else i32 ((rs σ 9002 zo0) + 2) ∧ 0 ≤ rl σ 9007 zo0 ∧ (if (rs σ 9002 zo0) + 2 ≤ rl σ 9007 zo0 then J n c_Terms_save none 41 [some (jo 9 zo0), none, some (ji zx2)] [] σ (qV Q) else 1 ≤ n ∧ TrA (n - 1) i_Terms_grown [ja 9007 zo0, ji 65536] σ (fun zF7 zp8 zs5 => (if zF7 = 900000 ∧ zp8 = 0 then ∀ zs9, zs9 = mA zs5 0 9007 zo0 → J n c_Terms_save none 41 [some (jo 9 zo0), none, some (ji zx2)] [] zs9 (qV Q) else (zF7 = 9007 ∧ zp8 = zo0) ∧ J n c_Terms_save none 41 [some (jo 9 zo0), none, some (ji zx2)] [] zs5 (qV Q)))))) : J n c_Terms_save none 6 [some (jo 9 zo0), none, some (ji zx2)] [] σ (qV Q) := by
  refine J_iload_n (pc' := 7) rfl rfl rfl ?_
  obtain ⟨zg1, W⟩ := W
  refine J_aload_no (pc' := 8) rfl rfl zg1 rfl ?_
  refine J_getI (G := 9001) (pc' := 11) rfl rfl (Nat.le_of_ble_eq_true rfl) rfl zg1 rfl ?_
  refine J_icmp (P := rs σ 9001 zo0 ≤ zx2) (t := 108) (f := 14) rfl rfl rfl jc_ge W (fun W => ?_) (fun W => ?_)
  · exact J_vret rfl rfl ⟨rfl, W⟩
  · refine J_aload_no (pc' := 15) rfl rfl zg1 rfl ?_
    refine J_getI (G := 9002) (pc' := 18) rfl rfl (Nat.le_of_ble_eq_true rfl) rfl zg1 rfl ?_
    refine J_iconst (pc' := 19) rfl (i32_d rfl) rfl ?_
    obtain ⟨zg2, W⟩ := W
    refine J_iadd (pc' := 20) rfl zg2 rfl ?_
    refine J_aload_no (pc' := 21) rfl rfl zg1 rfl ?_
    obtain ⟨zg3, W⟩ := W
    refine J_getA (G := 9007) (pc' := 24) rfl rfl (Nat.le_of_ble_eq_true rfl) rfl zg1 zg3 rfl ?_
    refine J_alen (pc' := 25) rfl (by decide) rfl ?_
    refine J_icmp (P := (rs σ 9002 zo0) + 2 ≤ rl σ 9007 zo0) (t := 41) (f := 28) rfl rfl rfl jc_le W (fun W => ?_) (fun W => ?_)
    · exact W
    · refine J_aload_no (pc' := 29) rfl rfl zg1 rfl ?_
      refine J_aload_no (pc' := 30) rfl rfl zg1 rfl ?_
      refine J_getA (G := 9007) (pc' := 33) rfl rfl (Nat.le_of_ble_eq_true rfl) rfl zg1 zg3 rfl ?_
      refine J_ldc (pc' := 35) (Or.inl rfl) rfl (i32_d rfl) rfl ?_
      obtain ⟨zg4, W⟩ := W
      refine J_callA (as := [ja 9007 zo0, ji 65536]) (rest := [jo 9 zo0]) (pc' := 38) rfl rfl ax_Z_201 rfl rfl (Or.inl rfl) (Nat.le_of_ble_eq_true rfl) (Nat.le_of_ble_eq_true rfl) (Nat.le_of_ble_eq_true rfl) zg4 trivial trivial rfl W (fun zF7 zp8 zs5 W => ?_)
      by_cases zc11 : zF7 = 900000 ∧ zp8 = 0
      · rw [if_pos zc11] at W
        obtain ⟨rfl, rfl⟩ := zc11
        refine J_putT (G := 9007) (t := 0) (pc' := 41) rfl rfl (Nat.le_of_ble_eq_true rfl) rfl rfl rfl zg1 (Or.inl rfl) trivial trivial trivial trivial rfl (fun zs9 ezs9 => ?_)
        replace W := W zs9 ezs9
        exact W
      · rw [if_neg zc11] at W
        obtain ⟨⟨e1, e2⟩, W⟩ := W
        replace e2 := e2.symm
        subst e1 e2
        refine J_putS (G := 9007) (pc' := 41) rfl rfl (Nat.le_of_ble_eq_true rfl) rfl rfl zg1 rfl ?_
        exact W
theorem wp_Terms_save_41 {n : Nat} {σ : jS} {Q : jS → Prop} {zo0 : Int} {zx2 : Int} (W : 0 ≤ zo0 ∧ i32 ((rs σ 9002 zo0) + 2) ∧ 0 ≤ rl σ 9007 zo0 ∧ (if rl σ 9007 zo0 < (rs σ 9002 zo0) + 2 then i32 (zx2 + 1) ∧ J n c_Terms_save none 6 [some (jo 9 zo0), none, some (ji (zx2 + 1))] [] σ (qV Q) else 0 ≤ rl σ 9006 zo0 ∧ 0 ≤ zx2 ∧ zx2 < rl σ 9006 zo0 ∧ 0 ≤ rs σ 9002 zo0 ∧ rs σ 9002 zo0 < rl σ 9007 zo0 ∧ (∀ zs8, zs8 = wa σ 9007 zo0 (rs σ 9002 zo0) (ra σ 9006 zo0 zx2) → 0 ≤ rl zs8 9007 zo0 ∧ i32 ((rs zs8 9002 zo0) + 1) ∧ 0 ≤ rl zs8 9006 zo0 ∧ zx2 < rl zs8 9006 zo0 ∧ 1 ≤ n ∧ jnT zs8 ∧ TrI (n - 1) i_Terms_partOf [jo 9 zo0, ji (ra zs8 9006 zo0 zx2), ji 0] zs8 (fun zr18 zs17 => rc zs17 = rc zs8 ∧ 0 ≤ (rs zs8 9002 zo0) + 1 ∧ (rs zs8 9002 zo0) + 1 < rl zs17 9007 zo0 ∧ (∀ zs19, zs19 = wa zs17 9007 zo0 ((rs zs8 9002 zo0) + 1) zr18 → i32 ((rs zs19 9002 zo0) + 2) ∧ (∀ zs23, zs23 = ws zs19 9002 zo0 ((rs zs19 9002 zo0) + 2) → i32 (zx2 + 1) ∧ J n c_Terms_save none 6 [some (jo 9 zo0), none, some (ji (zx2 + 1))] [] zs23 (qV Q))))))) : J n c_Terms_save none 41 [some (jo 9 zo0), none, some (ji zx2)] [] σ (qV Q) := by
  obtain ⟨zg1, W⟩ := W
  refine J_aload_no (pc' := 42) rfl rfl zg1 rfl ?_
  refine J_getI (G := 9002) (pc' := 45) rfl rfl (Nat.le_of_ble_eq_true rfl) rfl zg1 rfl ?_
  refine J_iconst (pc' := 46) rfl (i32_d rfl) rfl ?_
  obtain ⟨zg2, W⟩ := W
  refine J_iadd (pc' := 47) rfl zg2 rfl ?_
  refine J_aload_no (pc' := 48) rfl rfl zg1 rfl ?_
  obtain ⟨zg3, W⟩ := W
  refine J_getA (G := 9007) (pc' := 51) rfl rfl (Nat.le_of_ble_eq_true rfl) rfl zg1 zg3 rfl ?_
  refine J_alen (pc' := 52) rfl (by decide) rfl ?_
  refine J_icmp (P := rl σ 9007 zo0 < (rs σ 9002 zo0) + 2) (t := 102) (f := 55) rfl rfl rfl jc_gt W (fun W => ?_) (fun W => ?_)
  · obtain ⟨zg4, W⟩ := W
    refine J_iinc (L' := [some (jo 9 zo0), none, some (ji (zx2 + 1))]) (pc' := 105) rfl rfl zg4 rfl rfl ?_
    refine J_goto (pc' := 6) rfl rfl ?_
    exact W
  · refine J_aload_no (pc' := 56) rfl rfl zg1 rfl ?_
    refine J_getA (G := 9007) (pc' := 59) rfl rfl (Nat.le_of_ble_eq_true rfl) rfl zg1 zg3 rfl ?_
    refine J_aload_no (pc' := 60) rfl rfl zg1 rfl ?_
    refine J_getI (G := 9002) (pc' := 63) rfl rfl (Nat.le_of_ble_eq_true rfl) rfl zg1 rfl ?_
    refine J_aload_no (pc' := 64) rfl rfl zg1 rfl ?_
    obtain ⟨zg5, W⟩ := W
    refine J_getA (G := 9006) (pc' := 67) rfl rfl (Nat.le_of_ble_eq_true rfl) rfl zg1 zg5 rfl ?_
    refine J_iload_n (pc' := 68) rfl rfl rfl ?_
    obtain ⟨zg6, W⟩ := W
    obtain ⟨zg7, W⟩ := W
    refine J_iald (pc' := 69) rfl rfl zg6 zg7 rfl ?_
    obtain ⟨zg9, W⟩ := W
    obtain ⟨zg10, W⟩ := W
    refine J_iast (pc' := 70) rfl rfl (by decide) zg9 zg10 rfl (fun zs8 ezs8 => ?_)
    replace W := W zs8 ezs8
    refine J_aload_no (pc' := 71) rfl rfl zg1 rfl ?_
    obtain ⟨zg11, W⟩ := W
    refine J_getA (G := 9007) (pc' := 74) rfl rfl (Nat.le_of_ble_eq_true rfl) rfl zg1 zg11 rfl ?_
    refine J_aload_no (pc' := 75) rfl rfl zg1 rfl ?_
    refine J_getI (G := 9002) (pc' := 78) rfl rfl (Nat.le_of_ble_eq_true rfl) rfl zg1 rfl ?_
    refine J_iconst (pc' := 79) rfl (i32_d rfl) rfl ?_
    obtain ⟨zg12, W⟩ := W
    refine J_iadd (pc' := 80) rfl zg12 rfl ?_
    refine J_aload_no (pc' := 81) rfl rfl zg1 rfl ?_
    refine J_aload_no (pc' := 82) rfl rfl zg1 rfl ?_
    obtain ⟨zg13, W⟩ := W
    refine J_getA (G := 9006) (pc' := 85) rfl rfl (Nat.le_of_ble_eq_true rfl) rfl zg1 zg13 rfl ?_
    refine J_iload_n (pc' := 86) rfl rfl rfl ?_
    obtain ⟨zg14, W⟩ := W
    refine J_iald (pc' := 87) rfl rfl zg6 zg14 rfl ?_
    refine J_iconst (pc' := 88) rfl (i32_d rfl) rfl ?_
    obtain ⟨zg15, W⟩ := W
    obtain ⟨zg16, W⟩ := W
    refine J_callK (as := [jo 9 zo0, ji (ra zs8 9006 zo0 zx2), ji 0]) (rest := [ji ((rs zs8 9002 zo0) + 1), ja 9007 zo0]) (pc' := 91) rfl rfl ax_Z_199 rfl rfl (Or.inr (Or.inr ⟨_, _, rfl, zg1⟩)) (Nat.le_of_ble_eq_true rfl) (Nat.le_of_ble_eq_true rfl) (Nat.le_of_ble_eq_true rfl) zg15 zg16 rfl W (fun zr18 zs17 W => ?_)
    obtain ⟨zg20, W⟩ := W
    obtain ⟨zg21, W⟩ := W
    refine J_iast (pc' := 92) rfl rfl (by decide) zg20 zg21 rfl (fun zs19 ezs19 => ?_)
    replace W := W zs19 ezs19
    refine J_aload_no (pc' := 93) rfl rfl zg1 rfl ?_
    refine J_dup (pc' := 94) rfl rfl rfl ?_
    refine J_getI (G := 9002) (pc' := 97) rfl rfl (Nat.le_of_ble_eq_true rfl) rfl zg1 rfl ?_
    refine J_iconst (pc' := 98) rfl (i32_d rfl) rfl ?_
    obtain ⟨zg22, W⟩ := W
    refine J_iadd (pc' := 99) rfl zg22 rfl ?_
    refine J_putI (G := 9002) (pc' := 102) rfl rfl (Nat.le_of_ble_eq_true rfl) rfl rfl zg1 rfl (fun zs23 ezs23 => ?_)
    replace W := W zs23 ezs23
    obtain ⟨zg24, W⟩ := W
    refine J_iinc (L' := [some (jo 9 zo0), none, some (ji (zx2 + 1))]) (pc' := 105) rfl rfl zg24 rfl rfl ?_
    refine J_goto (pc' := 6) rfl rfl ?_
    exact W
theorem wp_Terms_putAgain {n : Nat} {σ : jS} {Q : jS → Prop} {zo0 : Int} {zx1 : Int} (W : 1 ≤ n ∧ J n c_Terms_putAgain none 6 [some (jo 9 zo0), some (ji zx1), some (ji (max zx1 0))] [] σ (qV Q)) : TrV n i_Terms_putAgain [jo 9 zo0, ji zx1] σ Q := by
  refine Tr_of ax_Z_219 ?_
  show J n c_Terms_putAgain none 0 [some (jo 9 zo0), some (ji zx1), none] [] σ (qV Q)
  refine J_iload_n (pc' := 1) rfl rfl rfl ?_
  refine J_iconst (pc' := 2) rfl (i32_d rfl) rfl ?_
  obtain ⟨zg1, W⟩ := W
  refine J_max (pc' := 5) rfl zg1 (Nat.le_of_ble_eq_true rfl) rfl ?_
  refine J_istore_n (L' := [some (jo 9 zo0), some (ji zx1), some (ji (max zx1 0))]) (pc' := 6) rfl (Nat.le_of_ble_eq_true rfl) rfl rfl ?_
  exact W
theorem wp_Terms_putAgain_6 {n : Nat} {σ : jS} {Q : jS → Prop} {zo0 : Int} {zx1 : Int} {zx2 : Int} (W : i32 (zx2 + 1) ∧ 0 ≤ zo0 ∧ (if rs σ 9002 zo0 ≤ zx2 + 1 then (∀ zs3, zs3 = ws σ 9002 zo0 zx1 → Q zs3) else 0 ≤ rl σ 9007 zo0 ∧ 0 ≤ zx2 ∧ zx2 < rl σ 9007 zo0 ∧ 0 ≤ zx2 + 1 ∧ zx2 + 1 < rl σ 9007 zo0 ∧ 1 ≤ n ∧ TrV (n - 1) i_Terms_put [jo 9 zo0, ji (ra σ 9007 zo0 zx2), ji (ra σ 9007 zo0 (zx2 + 1))] σ (fun zs10 => i32 (zx2 + 2) ∧ J n c_Terms_putAgain none 6 [some (jo 9 zo0), some (ji zx1), some (ji (zx2 + 2))] [] zs10 (qV Q)))) : J n c_Terms_putAgain none 6 [some (jo 9 zo0), some (ji zx1), some (ji zx2)] [] σ (qV Q) := by
  refine J_iload_n (pc' := 7) rfl rfl rfl ?_
  refine J_iconst (pc' := 8) rfl (i32_d rfl) rfl ?_
  obtain ⟨zg1, W⟩ := W
  refine J_iadd (pc' := 9) rfl zg1 rfl ?_
  obtain ⟨zg2, W⟩ := W
  refine J_aload_no (pc' := 10) rfl rfl zg2 rfl ?_
  refine J_getI (G := 9002) (pc' := 13) rfl rfl (Nat.le_of_ble_eq_true rfl) rfl zg2 rfl ?_
  refine J_icmp (P := rs σ 9002 zo0 ≤ zx2 + 1) (t := 40) (f := 16) rfl rfl rfl jc_ge W (fun W => ?_) (fun W => ?_)
  · refine J_aload_no (pc' := 41) rfl rfl zg2 rfl ?_
    refine J_iload_n (pc' := 42) rfl rfl rfl ?_
    refine J_putI (G := 9002) (pc' := 45) rfl rfl (Nat.le_of_ble_eq_true rfl) rfl rfl zg2 rfl (fun zs3 ezs3 => ?_)
    replace W := W zs3 ezs3
    exact J_vret rfl rfl ⟨rfl, W⟩
  · refine J_aload_no (pc' := 17) rfl rfl zg2 rfl ?_
    refine J_aload_no (pc' := 18) rfl rfl zg2 rfl ?_
    obtain ⟨zg4, W⟩ := W
    refine J_getA (G := 9007) (pc' := 21) rfl rfl (Nat.le_of_ble_eq_true rfl) rfl zg2 zg4 rfl ?_
    refine J_iload_n (pc' := 22) rfl rfl rfl ?_
    obtain ⟨zg5, W⟩ := W
    obtain ⟨zg6, W⟩ := W
    refine J_iald (pc' := 23) rfl rfl zg5 zg6 rfl ?_
    refine J_aload_no (pc' := 24) rfl rfl zg2 rfl ?_
    refine J_getA (G := 9007) (pc' := 27) rfl rfl (Nat.le_of_ble_eq_true rfl) rfl zg2 zg4 rfl ?_
    refine J_iload_n (pc' := 28) rfl rfl rfl ?_
    refine J_iconst (pc' := 29) rfl (i32_d rfl) rfl ?_
    refine J_iadd (pc' := 30) rfl zg1 rfl ?_
    obtain ⟨zg7, W⟩ := W
    obtain ⟨zg8, W⟩ := W
    refine J_iald (pc' := 31) rfl rfl zg7 zg8 rfl ?_
    obtain ⟨zg9, W⟩ := W
    refine J_callV (as := [jo 9 zo0, ji (ra σ 9007 zo0 zx2), ji (ra σ 9007 zo0 (zx2 + 1))]) (rest := []) (pc' := 34) rfl rfl ax_Z_212 rfl rfl (Or.inr (Or.inr ⟨_, _, rfl, zg2⟩)) (Nat.le_of_ble_eq_true rfl) (Nat.le_of_ble_eq_true rfl) (Nat.le_of_ble_eq_true rfl) zg9 trivial trivial rfl W (fun zs10 W => ?_)
    obtain ⟨zg12, W⟩ := W
    refine J_iinc (L' := [some (jo 9 zo0), some (ji zx1), some (ji (zx2 + 2))]) (pc' := 37) rfl rfl zg12 rfl rfl ?_
    refine J_goto (pc' := 6) rfl rfl ?_
    exact W
theorem wp_Terms_flatten {n : Nat} {σ : jS} {Q : jS → Prop} {zo0 : Int} {zx1 : Int} {zo2 : Int} (W : 0 ≤ zo2 ∧ 1 ≤ n ∧ TrV (n - 1) i_Flat_clear [jo 0 zo2] σ (fun zs3 => 0 ≤ zo0 ∧ (∀ zs6, zs6 = ws zs3 9012 zo0 0 → (∀ zs7, zs7 = ws zs6 9014 zo0 0 → TrV (n - 1) i_Terms_pushOpen [jo 9 zo0, ji zx1] zs7 (fun zs8 => J n c_Terms_flatten none 21 [some (jo 9 zo0), none, some (jo 0 zo2), some (ji 0), none] [] zs8 (qV Q)))))) : TrV n i_Terms_flatten [jo 9 zo0, ji zx1, jo 0 zo2] σ Q := by
  refine Tr_of ax_Z_220 ?_
  show J n c_Terms_flatten none 0 [some (jo 9 zo0), some (ji zx1), some (jo 0 zo2), none, none] [] σ (qV Q)
  obtain ⟨zg1, W⟩ := W
  refine J_aload_no (pc' := 1) rfl rfl zg1 rfl ?_
  obtain ⟨zg2, W⟩ := W
  refine J_callV (as := [jo 0 zo2]) (rest := []) (pc' := 4) rfl rfl ax_Z_115 rfl rfl (Or.inr (Or.inr ⟨_, _, rfl, zg1⟩)) (Nat.le_of_ble_eq_true rfl) (Nat.le_of_ble_eq_true rfl) (Nat.le_of_ble_eq_true rfl) zg2 trivial trivial rfl W (fun zs3 W => ?_)
  obtain ⟨zg5, W⟩ := W
  refine J_aload_no (pc' := 5) rfl rfl zg5 rfl ?_
  refine J_iconst (pc' := 6) rfl (i32_d rfl) rfl ?_
  refine J_putI (G := 9012) (pc' := 9) rfl rfl (Nat.le_of_ble_eq_true rfl) rfl rfl zg5 rfl (fun zs6 ezs6 => ?_)
  replace W := W zs6 ezs6
  refine J_aload_no (pc' := 10) rfl rfl zg5 rfl ?_
  refine J_iconst (pc' := 11) rfl (i32_d rfl) rfl ?_
  refine J_putI (G := 9014) (pc' := 14) rfl rfl (Nat.le_of_ble_eq_true rfl) rfl rfl zg5 rfl (fun zs7 ezs7 => ?_)
  replace W := W zs7 ezs7
  refine J_aload_no (pc' := 15) rfl rfl zg5 rfl ?_
  refine J_iload_n (pc' := 16) rfl rfl rfl ?_
  refine J_weak (L' := [some (jo 9 zo0), none, some (jo 0 zo2), none, none]) (And.intro rfl (And.intro rfl trivial)) ?_
  refine J_callV (as := [jo 9 zo0, ji zx1]) (rest := []) (pc' := 19) rfl rfl ax_Z_205 rfl rfl (Or.inr (Or.inr ⟨_, _, rfl, zg5⟩)) (Nat.le_of_ble_eq_true rfl) (Nat.le_of_ble_eq_true rfl) (Nat.le_of_ble_eq_true rfl) zg2 trivial trivial rfl W (fun zs8 W => ?_)
  refine J_iconst (pc' := 20) rfl (i32_d rfl) rfl ?_
  refine J_istore_n (L' := [some (jo 9 zo0), none, some (jo 0 zo2), some (ji 0), none]) (pc' := 21) rfl (Nat.le_of_ble_eq_true rfl) rfl rfl ?_
  exact W
theorem wp_Terms_flatten_21 {n : Nat} {σ : jS} {Q : jS → Prop} {zo0 : Int} {zo2 : Int} {zx3 : Int} (W : (if 100 < zx3 then Q σ else 0 ≤ zo0 ∧ (if rs σ 9012 zo0 ≤ 0 then Q σ else 1 ≤ n ∧ TrI (n - 1) i_Terms_popOpen [jo 9 zo0] σ (fun zr4 zs3 => TrI (n - 1) i_Terms_solved [jo 9 zo0, ji zr4] zs3 (fun zr6 zs5 => 0 ≤ zo2 ∧ TrI (n - 1) i_Terms_isUnknown [jo 9 zo0, ji zr6] zs5 (fun zr9 zs8 => (if zr9 = 0 then TrI (n - 1) i_Terms_signOf [jo 9 zo0, ji zr6] zs8 (fun zr11 zs10 => TrV (n - 1) i_Flat_add [jo 0 zo2, ji zr11] zs10 (fun zs12 => TrI (n - 1) i_Terms_isUnknown [jo 9 zo0, ji zr6] zs12 (fun zr15 zs14 => (if ¬ zr15 = 0 then i32 (zx3 + 1) ∧ J n c_Terms_flatten none 21 [some (jo 9 zo0), none, some (jo 0 zo2), some (ji (zx3 + 1)), none] [] zs14 (qV Q) else TrV (n - 1) i_Terms_pushParts [jo 9 zo0, ji zr6] zs14 (fun zs17 => i32 (zx3 + 1) ∧ J n c_Terms_flatten none 21 [some (jo 9 zo0), none, some (jo 0 zo2), some (ji (zx3 + 1)), none] [] zs17 (qV Q)))))) else TrI (n - 1) i_Terms_nameOf [jo 9 zo0, ji zr6] zs8 (fun zr21 zs20 => i32 (104 + zr21) ∧ TrV (n - 1) i_Flat_add [jo 0 zo2, ji (104 + zr21)] zs20 (fun zs23 => TrI (n - 1) i_Terms_isUnknown [jo 9 zo0, ji zr6] zs23 (fun zr26 zs25 => (if ¬ zr26 = 0 then i32 (zx3 + 1) ∧ J n c_Terms_flatten none 21 [some (jo 9 zo0), none, some (jo 0 zo2), some (ji (zx3 + 1)), none] [] zs25 (qV Q) else TrV (n - 1) i_Terms_pushParts [jo 9 zo0, ji zr6] zs25 (fun zs28 => i32 (zx3 + 1) ∧ J n c_Terms_flatten none 21 [some (jo 9 zo0), none, some (jo 0 zo2), some (ji (zx3 + 1)), none] [] zs28 (qV Q))))))))))))) : J n c_Terms_flatten none 21 [some (jo 9 zo0), none, some (jo 0 zo2), some (ji zx3), none] [] σ (qV Q) := by
  refine J_iload_n (pc' := 22) rfl rfl rfl ?_
  refine J_bipush (pc' := 24) rfl (by decide) (by decide) rfl ?_
  refine J_icmp (P := 100 < zx3) (t := 96) (f := 27) rfl rfl rfl jc_gt W (fun W => ?_) (fun W => ?_)
  · exact J_vret rfl rfl ⟨rfl, W⟩
  · obtain ⟨zg1, W⟩ := W
    refine J_aload_no (pc' := 28) rfl rfl zg1 rfl ?_
    refine J_getI (G := 9012) (pc' := 31) rfl rfl (Nat.le_of_ble_eq_true rfl) rfl zg1 rfl ?_
    refine J_if (P := rs σ 9012 zo0 ≤ 0) (t := 96) (f := 34) rfl rfl rfl jc_le W (fun W => ?_) (fun W => ?_)
    · exact J_vret rfl rfl ⟨rfl, W⟩
    · refine J_aload_no (pc' := 35) rfl rfl zg1 rfl ?_
      refine J_aload_no (pc' := 36) rfl rfl zg1 rfl ?_
      obtain ⟨zg2, W⟩ := W
      refine J_callI (as := [jo 9 zo0]) (rest := [jo 9 zo0]) (pc' := 39) rfl rfl ax_Z_206 rfl rfl (Or.inr (Or.inr ⟨_, _, rfl, zg1⟩)) (Nat.le_of_ble_eq_true rfl) (Nat.le_of_ble_eq_true rfl) (Nat.le_of_ble_eq_true rfl) zg2 trivial trivial rfl W (fun zr4 zs3 W => ?_)
      refine J_callI (as := [jo 9 zo0, ji zr4]) (rest := []) (pc' := 42) rfl rfl ax_Z_208 rfl rfl (Or.inr (Or.inr ⟨_, _, rfl, zg1⟩)) (Nat.le_of_ble_eq_true rfl) (Nat.le_of_ble_eq_true rfl) (Nat.le_of_ble_eq_true rfl) zg2 trivial trivial rfl W (fun zr6 zs5 W => ?_)
      refine J_istore (L' := [some (jo 9 zo0), none, some (jo 0 zo2), some (ji zx3), some (ji zr6)]) (pc' := 44) rfl (Nat.le_of_ble_eq_true rfl) rfl rfl ?_
      obtain ⟨zg7, W⟩ := W
      refine J_aload_no (pc' := 45) rfl rfl zg7 rfl ?_
      refine J_aload_no (pc' := 46) rfl rfl zg1 rfl ?_
      refine J_iload (pc' := 48) rfl rfl rfl ?_
      refine J_callI (as := [jo 9 zo0, ji zr6]) (rest := [jo 0 zo2]) (pc' := 51) rfl rfl ax_Z_198 rfl rfl (Or.inr (Or.inr ⟨_, _, rfl, zg1⟩)) (Nat.le_of_ble_eq_true rfl) (Nat.le_of_ble_eq_true rfl) (Nat.le_of_ble_eq_true rfl) zg2 trivial trivial rfl W (fun zr9 zs8 W => ?_)
      refine J_if (P := zr9 = 0) (t := 66) (f := 54) rfl rfl rfl jc_eq W (fun W => ?_) (fun W => ?_)
      · refine J_aload_no (pc' := 67) rfl rfl zg1 rfl ?_
        refine J_iload (pc' := 69) rfl rfl rfl ?_
        refine J_callI (as := [jo 9 zo0, ji zr6]) (rest := [jo 0 zo2]) (pc' := 72) rfl rfl ax_Z_197 rfl rfl (Or.inr (Or.inr ⟨_, _, rfl, zg1⟩)) (Nat.le_of_ble_eq_true rfl) (Nat.le_of_ble_eq_true rfl) (Nat.le_of_ble_eq_true rfl) zg2 trivial trivial rfl W (fun zr11 zs10 W => ?_)
        refine J_callV (as := [jo 0 zo2, ji zr11]) (rest := []) (pc' := 75) rfl rfl ax_Z_116 rfl rfl (Or.inr (Or.inr ⟨_, _, rfl, zg7⟩)) (Nat.le_of_ble_eq_true rfl) (Nat.le_of_ble_eq_true rfl) (Nat.le_of_ble_eq_true rfl) zg2 trivial trivial rfl W (fun zs12 W => ?_)
        refine J_aload_no (pc' := 76) rfl rfl zg1 rfl ?_
        refine J_iload (pc' := 78) rfl rfl rfl ?_
        refine J_callI (as := [jo 9 zo0, ji zr6]) (rest := []) (pc' := 81) rfl rfl ax_Z_198 rfl rfl (Or.inr (Or.inr ⟨_, _, rfl, zg1⟩)) (Nat.le_of_ble_eq_true rfl) (Nat.le_of_ble_eq_true rfl) (Nat.le_of_ble_eq_true rfl) zg2 trivial trivial rfl W (fun zr15 zs14 W => ?_)
        refine J_if (P := ¬ zr15 = 0) (t := 90) (f := 84) rfl rfl rfl jc_ne W (fun W => ?_) (fun W => ?_)
        · obtain ⟨zg16, W⟩ := W
          refine J_iinc (L' := [some (jo 9 zo0), none, some (jo 0 zo2), some (ji (zx3 + 1)), some (ji zr6)]) (pc' := 93) rfl rfl zg16 rfl rfl ?_
          refine J_goto (pc' := 21) rfl rfl ?_
          refine J_weak (L' := [some (jo 9 zo0), none, some (jo 0 zo2), some (ji (zx3 + 1)), none]) (And.intro rfl (And.intro rfl (And.intro rfl trivial))) ?_
          exact W
        · refine J_aload_no (pc' := 85) rfl rfl zg1 rfl ?_
          refine J_iload (pc' := 87) rfl rfl rfl ?_
          refine J_weak (L' := [some (jo 9 zo0), none, some (jo 0 zo2), some (ji zx3), none]) (And.intro rfl (And.intro rfl (And.intro rfl trivial))) ?_
          refine J_callV (as := [jo 9 zo0, ji zr6]) (rest := []) (pc' := 90) rfl rfl ax_Z_207 rfl rfl (Or.inr (Or.inr ⟨_, _, rfl, zg1⟩)) (Nat.le_of_ble_eq_true rfl) (Nat.le_of_ble_eq_true rfl) (Nat.le_of_ble_eq_true rfl) zg2 trivial trivial rfl W (fun zs17 W => ?_)
          obtain ⟨zg19, W⟩ := W
          refine J_iinc (L' := [some (jo 9 zo0), none, some (jo 0 zo2), some (ji (zx3 + 1)), none]) (pc' := 93) rfl rfl zg19 rfl rfl ?_
          refine J_goto (pc' := 21) rfl rfl ?_
          exact W
      · refine J_bipush (pc' := 56) rfl (by decide) (by decide) rfl ?_
        refine J_aload_no (pc' := 57) rfl rfl zg1 rfl ?_
        refine J_iload (pc' := 59) rfl rfl rfl ?_
        refine J_callI (as := [jo 9 zo0, ji zr6]) (rest := [ji 104, jo 0 zo2]) (pc' := 62) rfl rfl ax_Z_221 rfl rfl (Or.inr (Or.inr ⟨_, _, rfl, zg1⟩)) (Nat.le_of_ble_eq_true rfl) (Nat.le_of_ble_eq_true rfl) (Nat.le_of_ble_eq_true rfl) zg2 trivial trivial rfl W (fun zr21 zs20 W => ?_)
        obtain ⟨zg22, W⟩ := W
        refine J_iadd (pc' := 63) rfl zg22 rfl ?_
        refine J_goto (pc' := 72) rfl rfl ?_
        refine J_callV (as := [jo 0 zo2, ji (104 + zr21)]) (rest := []) (pc' := 75) rfl rfl ax_Z_116 rfl rfl (Or.inr (Or.inr ⟨_, _, rfl, zg7⟩)) (Nat.le_of_ble_eq_true rfl) (Nat.le_of_ble_eq_true rfl) (Nat.le_of_ble_eq_true rfl) zg2 trivial trivial rfl W (fun zs23 W => ?_)
        refine J_aload_no (pc' := 76) rfl rfl zg1 rfl ?_
        refine J_iload (pc' := 78) rfl rfl rfl ?_
        refine J_callI (as := [jo 9 zo0, ji zr6]) (rest := []) (pc' := 81) rfl rfl ax_Z_198 rfl rfl (Or.inr (Or.inr ⟨_, _, rfl, zg1⟩)) (Nat.le_of_ble_eq_true rfl) (Nat.le_of_ble_eq_true rfl) (Nat.le_of_ble_eq_true rfl) zg2 trivial trivial rfl W (fun zr26 zs25 W => ?_)
        refine J_if (P := ¬ zr26 = 0) (t := 90) (f := 84) rfl rfl rfl jc_ne W (fun W => ?_) (fun W => ?_)
        · obtain ⟨zg27, W⟩ := W
          refine J_iinc (L' := [some (jo 9 zo0), none, some (jo 0 zo2), some (ji (zx3 + 1)), some (ji zr6)]) (pc' := 93) rfl rfl zg27 rfl rfl ?_
          refine J_goto (pc' := 21) rfl rfl ?_
          refine J_weak (L' := [some (jo 9 zo0), none, some (jo 0 zo2), some (ji (zx3 + 1)), none]) (And.intro rfl (And.intro rfl (And.intro rfl trivial))) ?_
          exact W
        · refine J_aload_no (pc' := 85) rfl rfl zg1 rfl ?_
          refine J_iload (pc' := 87) rfl rfl rfl ?_
          refine J_weak (L' := [some (jo 9 zo0), none, some (jo 0 zo2), some (ji zx3), none]) (And.intro rfl (And.intro rfl (And.intro rfl trivial))) ?_
          refine J_callV (as := [jo 9 zo0, ji zr6]) (rest := []) (pc' := 90) rfl rfl ax_Z_207 rfl rfl (Or.inr (Or.inr ⟨_, _, rfl, zg1⟩)) (Nat.le_of_ble_eq_true rfl) (Nat.le_of_ble_eq_true rfl) (Nat.le_of_ble_eq_true rfl) zg2 trivial trivial rfl W (fun zs28 W => ?_)
          obtain ⟨zg30, W⟩ := W
          refine J_iinc (L' := [some (jo 9 zo0), none, some (jo 0 zo2), some (ji (zx3 + 1)), none]) (pc' := 93) rfl rfl zg30 rfl rfl ?_
          refine J_goto (pc' := 21) rfl rfl ?_
          exact W
theorem wp_Terms_nameOf {n : Nat} {σ : jS} {Q : Int → jS → Prop} {zo0 : Int} {zx1 : Int} (W : J n c_Terms_nameOf (some .int) 2 [some (jo 9 zo0), some (ji zx1), some (ji 0)] [] σ (qI Q)) : TrI n i_Terms_nameOf [jo 9 zo0, ji zx1] σ Q := by
  refine Tr_of ax_Z_221 ?_
  show J n c_Terms_nameOf (some .int) 0 [some (jo 9 zo0), some (ji zx1), none] [] σ (qI Q)
  refine J_iconst (pc' := 1) rfl (i32_d rfl) rfl ?_
  refine J_istore_n (L' := [some (jo 9 zo0), some (ji zx1), some (ji 0)]) (pc' := 2) rfl (Nat.le_of_ble_eq_true rfl) rfl rfl ?_
  exact W
theorem wp_Terms_nameOf_2 {n : Nat} {σ : jS} {Q : Int → jS → Prop} {zo0 : Int} {zx1 : Int} {zx2 : Int} (W : 0 ≤ zo0 ∧ (if rs σ 9014 zo0 ≤ zx2 then 0 ≤ rl σ 9011 zo0 ∧ (if rl σ 9011 zo0 ≤ rs σ 9014 zo0 then i32 ((rs σ 9014 zo0) - 1) ∧ Q ((rs σ 9014 zo0) - 1) σ else 0 ≤ rs σ 9014 zo0 ∧ rs σ 9014 zo0 < rl σ 9011 zo0 ∧ (∀ zs4, zs4 = wa σ 9011 zo0 (rs σ 9014 zo0) zx1 → i32 ((rs zs4 9014 zo0) + 1) ∧ (∀ zs8, zs8 = ws zs4 9014 zo0 ((rs zs4 9014 zo0) + 1) → i32 ((rs zs8 9014 zo0) - 1) ∧ Q ((rs zs8 9014 zo0) - 1) zs8))) else 0 ≤ rl σ 9011 zo0 ∧ 0 ≤ zx2 ∧ zx2 < rl σ 9011 zo0 ∧ (if ¬ ra σ 9011 zo0 zx2 = zx1 then i32 (zx2 + 1) ∧ J n c_Terms_nameOf (some .int) 2 [some (jo 9 zo0), some (ji zx1), some (ji (zx2 + 1))] [] σ (qI Q) else Q zx2 σ))) : J n c_Terms_nameOf (some .int) 2 [some (jo 9 zo0), some (ji zx1), some (ji zx2)] [] σ (qI Q) := by
  refine J_iload_n (pc' := 3) rfl rfl rfl ?_
  obtain ⟨zg1, W⟩ := W
  refine J_aload_no (pc' := 4) rfl rfl zg1 rfl ?_
  refine J_getI (G := 9014) (pc' := 7) rfl rfl (Nat.le_of_ble_eq_true rfl) rfl zg1 rfl ?_
  refine J_icmp (P := rs σ 9014 zo0 ≤ zx2) (t := 28) (f := 10) rfl rfl rfl jc_ge W (fun W => ?_) (fun W => ?_)
  · refine J_aload_no (pc' := 29) rfl rfl zg1 rfl ?_
    refine J_getI (G := 9014) (pc' := 32) rfl rfl (Nat.le_of_ble_eq_true rfl) rfl zg1 rfl ?_
    refine J_aload_no (pc' := 33) rfl rfl zg1 rfl ?_
    obtain ⟨zg2, W⟩ := W
    refine J_getA (G := 9011) (pc' := 36) rfl rfl (Nat.le_of_ble_eq_true rfl) rfl zg1 zg2 rfl ?_
    refine J_alen (pc' := 37) rfl (by decide) rfl ?_
    refine J_icmp (P := rl σ 9011 zo0 ≤ rs σ 9014 zo0) (t := 60) (f := 40) rfl rfl rfl jc_ge W (fun W => ?_) (fun W => ?_)
    · refine J_aload_no (pc' := 61) rfl rfl zg1 rfl ?_
      refine J_getI (G := 9014) (pc' := 64) rfl rfl (Nat.le_of_ble_eq_true rfl) rfl zg1 rfl ?_
      refine J_iconst (pc' := 65) rfl (i32_d rfl) rfl ?_
      obtain ⟨zg3, W⟩ := W
      refine J_isub (pc' := 66) rfl zg3 rfl ?_
      exact J_iret rfl rfl ⟨_, rfl, W⟩
    · refine J_aload_no (pc' := 41) rfl rfl zg1 rfl ?_
      refine J_getA (G := 9011) (pc' := 44) rfl rfl (Nat.le_of_ble_eq_true rfl) rfl zg1 zg2 rfl ?_
      refine J_aload_no (pc' := 45) rfl rfl zg1 rfl ?_
      refine J_getI (G := 9014) (pc' := 48) rfl rfl (Nat.le_of_ble_eq_true rfl) rfl zg1 rfl ?_
      refine J_iload_n (pc' := 49) rfl rfl rfl ?_
      obtain ⟨zg5, W⟩ := W
      obtain ⟨zg6, W⟩ := W
      refine J_iast (pc' := 50) rfl rfl (by decide) zg5 zg6 rfl (fun zs4 ezs4 => ?_)
      replace W := W zs4 ezs4
      refine J_aload_no (pc' := 51) rfl rfl zg1 rfl ?_
      refine J_dup (pc' := 52) rfl rfl rfl ?_
      refine J_getI (G := 9014) (pc' := 55) rfl rfl (Nat.le_of_ble_eq_true rfl) rfl zg1 rfl ?_
      refine J_iconst (pc' := 56) rfl (i32_d rfl) rfl ?_
      obtain ⟨zg7, W⟩ := W
      refine J_iadd (pc' := 57) rfl zg7 rfl ?_
      refine J_putI (G := 9014) (pc' := 60) rfl rfl (Nat.le_of_ble_eq_true rfl) rfl rfl zg1 rfl (fun zs8 ezs8 => ?_)
      replace W := W zs8 ezs8
      refine J_aload_no (pc' := 61) rfl rfl zg1 rfl ?_
      refine J_getI (G := 9014) (pc' := 64) rfl rfl (Nat.le_of_ble_eq_true rfl) rfl zg1 rfl ?_
      refine J_iconst (pc' := 65) rfl (i32_d rfl) rfl ?_
      obtain ⟨zg9, W⟩ := W
      refine J_isub (pc' := 66) rfl zg9 rfl ?_
      exact J_iret rfl rfl ⟨_, rfl, W⟩
  · refine J_aload_no (pc' := 11) rfl rfl zg1 rfl ?_
    obtain ⟨zg10, W⟩ := W
    refine J_getA (G := 9011) (pc' := 14) rfl rfl (Nat.le_of_ble_eq_true rfl) rfl zg1 zg10 rfl ?_
    refine J_iload_n (pc' := 15) rfl rfl rfl ?_
    obtain ⟨zg11, W⟩ := W
    obtain ⟨zg12, W⟩ := W
    refine J_iald (pc' := 16) rfl rfl zg11 zg12 rfl ?_
    refine J_iload_n (pc' := 17) rfl rfl rfl ?_
    refine J_icmp (P := ¬ ra σ 9011 zo0 zx2 = zx1) (t := 22) (f := 20) rfl rfl rfl jc_ne W (fun W => ?_) (fun W => ?_)
    · obtain ⟨zg13, W⟩ := W
      refine J_iinc (L' := [some (jo 9 zo0), some (ji zx1), some (ji (zx2 + 1))]) (pc' := 25) rfl rfl zg13 rfl rfl ?_
      refine J_goto (pc' := 2) rfl rfl ?_
      exact W
    · refine J_iload_n (pc' := 21) rfl rfl rfl ?_
      exact J_iret rfl rfl ⟨_, rfl, W⟩
theorem wp_Text_init {n : Nat} {σ : jS} {Q : jS → Prop} {zo0 : Int} (W : 0 ≤ zo0 ∧ 1 ≤ n ∧ (∀ zs3, zs3 = nA σ 0 8 → rl zs3 10002 zo0 < 0 ∧ (∀ zs4, zs4 = mA zs3 0 10002 zo0 → (∀ zs6, zs6 = nA zs4 0 8 → rl zs6 10003 zo0 < 0 ∧ (∀ zs7, zs7 = mA zs6 0 10003 zo0 → (∀ zs9, zs9 = nA zs7 0 8 → rl zs9 10004 zo0 < 0 ∧ (∀ zs10, zs10 = mA zs9 0 10004 zo0 → (∀ zs12, zs12 = nA zs10 0 24 → rl zs12 10005 zo0 < 0 ∧ (∀ zs13, zs13 = mA zs12 0 10005 zo0 → (∀ zs15, zs15 = nA zs13 0 24 → rl zs15 10006 zo0 < 0 ∧ (∀ zs16, zs16 = mA zs15 0 10006 zo0 → rk zs16 4 < 2000000 ∧ 0 ≤ rk zs16 4 ∧ (∀ zs18, zs18 = nO zs16 4 → TrV (n - 1) i_Match_init [jo 4 (rk zs16 4)] zs18 (fun zs21 => 0 ≤ rk zs16 4 ∧ (∀ zs23, zs23 = ws zs21 10007 zo0 (rk zs16 4) → (∀ zs25, zs25 = nA zs23 4 120 → rl zs25 10008 zo0 < 0 ∧ (∀ zs26, zs26 = mA zs25 4 10008 zo0 → (∀ zs28, zs28 = nA zs26 0 24 → rl zs28 10009 zo0 < 0 ∧ (∀ zs29, zs29 = mA zs28 0 10009 zo0 → J n c_Text_init none 74 [some (jo 10 zo0), some (ji 0)] [] zs29 (qV Q))))))))))))))))))) : TrV n i_Text_init [jo 10 zo0] σ Q := by
  refine Tr_of ax_Z_222 ?_
  show J n c_Text_init none 0 [some (jo 10 zo0), none] [] σ (qV Q)
  obtain ⟨zg1, W⟩ := W
  refine J_aload_no (pc' := 1) rfl rfl zg1 rfl ?_
  obtain ⟨zg2, W⟩ := W
  refine J_oinit (pc' := 4) rfl zg1 zg2 (Nat.le_of_ble_eq_true rfl) rfl ?_
  refine J_aload_no (pc' := 5) rfl rfl zg1 rfl ?_
  refine J_bipush (pc' := 7) rfl (by decide) (by decide) rfl ?_
  refine J_newa (pc' := 9) rfl (by decide) (by decide) (by decide) trivial trivial rfl (fun zs3 ezs3 => ?_)
  replace W := W zs3 ezs3
  obtain ⟨zg5, W⟩ := W
  refine J_putT (G := 10002) (t := 0) (pc' := 12) rfl rfl (Nat.le_of_ble_eq_true rfl) rfl rfl rfl zg1 (Or.inr zg5) trivial trivial trivial trivial rfl (fun zs4 ezs4 => ?_)
  replace W := W zs4 ezs4
  refine J_aload_no (pc' := 13) rfl rfl zg1 rfl ?_
  refine J_bipush (pc' := 15) rfl (by decide) (by decide) rfl ?_
  refine J_newa (pc' := 17) rfl (by decide) (by decide) (by decide) trivial trivial rfl (fun zs6 ezs6 => ?_)
  replace W := W zs6 ezs6
  obtain ⟨zg8, W⟩ := W
  refine J_putT (G := 10003) (t := 0) (pc' := 20) rfl rfl (Nat.le_of_ble_eq_true rfl) rfl rfl rfl zg1 (Or.inr zg8) trivial trivial trivial trivial rfl (fun zs7 ezs7 => ?_)
  replace W := W zs7 ezs7
  refine J_aload_no (pc' := 21) rfl rfl zg1 rfl ?_
  refine J_bipush (pc' := 23) rfl (by decide) (by decide) rfl ?_
  refine J_newa (pc' := 25) rfl (by decide) (by decide) (by decide) trivial trivial rfl (fun zs9 ezs9 => ?_)
  replace W := W zs9 ezs9
  obtain ⟨zg11, W⟩ := W
  refine J_putT (G := 10004) (t := 0) (pc' := 28) rfl rfl (Nat.le_of_ble_eq_true rfl) rfl rfl rfl zg1 (Or.inr zg11) trivial trivial trivial trivial rfl (fun zs10 ezs10 => ?_)
  replace W := W zs10 ezs10
  refine J_aload_no (pc' := 29) rfl rfl zg1 rfl ?_
  refine J_bipush (pc' := 31) rfl (by decide) (by decide) rfl ?_
  refine J_newa (pc' := 33) rfl (by decide) (by decide) (by decide) trivial trivial rfl (fun zs12 ezs12 => ?_)
  replace W := W zs12 ezs12
  obtain ⟨zg14, W⟩ := W
  refine J_putT (G := 10005) (t := 0) (pc' := 36) rfl rfl (Nat.le_of_ble_eq_true rfl) rfl rfl rfl zg1 (Or.inr zg14) trivial trivial trivial trivial rfl (fun zs13 ezs13 => ?_)
  replace W := W zs13 ezs13
  refine J_aload_no (pc' := 37) rfl rfl zg1 rfl ?_
  refine J_bipush (pc' := 39) rfl (by decide) (by decide) rfl ?_
  refine J_newa (pc' := 41) rfl (by decide) (by decide) (by decide) trivial trivial rfl (fun zs15 ezs15 => ?_)
  replace W := W zs15 ezs15
  obtain ⟨zg17, W⟩ := W
  refine J_putT (G := 10006) (t := 0) (pc' := 44) rfl rfl (Nat.le_of_ble_eq_true rfl) rfl rfl rfl zg1 (Or.inr zg17) trivial trivial trivial trivial rfl (fun zs16 ezs16 => ?_)
  replace W := W zs16 ezs16
  refine J_aload_no (pc' := 45) rfl rfl zg1 rfl ?_
  obtain ⟨zg19, W⟩ := W
  obtain ⟨zg20, W⟩ := W
  refine J_new (pc' := 48) rfl zg19 rfl (fun zs18 ezs18 => ?_)
  replace W := W zs18 ezs18
  refine J_dup (pc' := 49) rfl rfl rfl ?_
  refine J_callV (as := [jo 4 (rk zs16 4)]) (rest := [jo 4 (rk zs16 4), jo 10 zo0]) (pc' := 52) rfl rfl ax_Z_140 rfl rfl (Or.inr (Or.inr ⟨_, _, rfl, zg20⟩)) (Nat.le_of_ble_eq_true rfl) (Nat.le_of_ble_eq_true rfl) (Nat.le_of_ble_eq_true rfl) zg2 trivial trivial rfl W (fun zs21 W => ?_)
  obtain ⟨zg24, W⟩ := W
  refine J_putO (G := 10007) (pc' := 55) rfl rfl (Nat.le_of_ble_eq_true rfl) rfl rfl zg1 zg24 rfl (fun zs23 ezs23 => ?_)
  replace W := W zs23 ezs23
  refine J_aload_no (pc' := 56) rfl rfl zg1 rfl ?_
  refine J_bipush (pc' := 58) rfl (by decide) (by decide) rfl ?_
  refine J_anew (pc' := 61) rfl (by decide) (by decide) trivial trivial rfl (fun zs25 ezs25 => ?_)
  replace W := W zs25 ezs25
  obtain ⟨zg27, W⟩ := W
  refine J_putT (G := 10008) (t := 4) (pc' := 64) rfl rfl (Nat.le_of_ble_eq_true rfl) rfl rfl rfl zg1 (Or.inr zg27) trivial trivial trivial trivial rfl (fun zs26 ezs26 => ?_)
  replace W := W zs26 ezs26
  refine J_aload_no (pc' := 65) rfl rfl zg1 rfl ?_
  refine J_bipush (pc' := 67) rfl (by decide) (by decide) rfl ?_
  refine J_newa (pc' := 69) rfl (by decide) (by decide) (by decide) trivial trivial rfl (fun zs28 ezs28 => ?_)
  replace W := W zs28 ezs28
  obtain ⟨zg30, W⟩ := W
  refine J_putT (G := 10009) (t := 0) (pc' := 72) rfl rfl (Nat.le_of_ble_eq_true rfl) rfl rfl rfl zg1 (Or.inr zg30) trivial trivial trivial trivial rfl (fun zs29 ezs29 => ?_)
  replace W := W zs29 ezs29
  refine J_iconst (pc' := 73) rfl (i32_d rfl) rfl ?_
  refine J_istore_n (L' := [some (jo 10 zo0), some (ji 0)]) (pc' := 74) rfl (Nat.le_of_ble_eq_true rfl) rfl rfl ?_
  exact W
theorem wp_Text_init_74 {n : Nat} {σ : jS} {Q : jS → Prop} {zo0 : Int} {zx1 : Int} (W : 0 ≤ zo0 ∧ 0 ≤ rl σ 10008 zo0 ∧ (if rl σ 10008 zo0 ≤ zx1 then Q σ else rk σ 0 < 2000000 ∧ 0 ≤ rk σ 0 ∧ (∀ zs3, zs3 = nO σ 0 → 1 ≤ n ∧ TrV (n - 1) i_Flat_init [jo 0 (rk σ 0), ji 12] zs3 (fun zs7 => 0 ≤ rk σ 0 ∧ 0 ≤ zx1 ∧ zx1 < rl zs7 10008 zo0 ∧ (∀ zs9, zs9 = wa zs7 10008 zo0 zx1 (rk σ 0) → i32 (zx1 + 1) ∧ J n c_Text_init none 74 [some (jo 10 zo0), some (ji (zx1 + 1))] [] zs9 (qV Q)))))) : J n c_Text_init none 74 [some (jo 10 zo0), some (ji zx1)] [] σ (qV Q) := by
  refine J_iload_n (pc' := 75) rfl rfl rfl ?_
  obtain ⟨zg1, W⟩ := W
  refine J_aload_no (pc' := 76) rfl rfl zg1 rfl ?_
  obtain ⟨zg2, W⟩ := W
  refine J_getA (G := 10008) (pc' := 79) rfl rfl (Nat.le_of_ble_eq_true rfl) rfl zg1 zg2 rfl ?_
  refine J_alen (pc' := 80) rfl (by decide) rfl ?_
  refine J_icmp (P := rl σ 10008 zo0 ≤ zx1) (t := 104) (f := 83) rfl rfl rfl jc_ge W (fun W => ?_) (fun W => ?_)
  · exact J_vret rfl rfl ⟨rfl, W⟩
  · refine J_aload_no (pc' := 84) rfl rfl zg1 rfl ?_
    refine J_getA (G := 10008) (pc' := 87) rfl rfl (Nat.le_of_ble_eq_true rfl) rfl zg1 zg2 rfl ?_
    refine J_iload_n (pc' := 88) rfl rfl rfl ?_
    obtain ⟨zg4, W⟩ := W
    obtain ⟨zg5, W⟩ := W
    refine J_new (pc' := 91) rfl zg4 rfl (fun zs3 ezs3 => ?_)
    replace W := W zs3 ezs3
    refine J_dup (pc' := 92) rfl rfl rfl ?_
    refine J_bipush (pc' := 94) rfl (by decide) (by decide) rfl ?_
    obtain ⟨zg6, W⟩ := W
    refine J_callV (as := [jo 0 (rk σ 0), ji 12]) (rest := [jo 0 (rk σ 0), ji zx1, ja 10008 zo0]) (pc' := 97) rfl rfl ax_Z_114 rfl rfl (Or.inr (Or.inr ⟨_, _, rfl, zg5⟩)) (Nat.le_of_ble_eq_true rfl) (Nat.le_of_ble_eq_true rfl) (Nat.le_of_ble_eq_true rfl) zg6 trivial (And.intro rfl trivial) rfl W (fun zs7 W => ?_)
    obtain ⟨zg10, W⟩ := W
    obtain ⟨zg11, W⟩ := W
    obtain ⟨zg12, W⟩ := W
    refine J_aast (pc' := 98) rfl rfl zg10 zg11 zg12 rfl (fun zs9 ezs9 => ?_)
    replace W := W zs9 ezs9
    obtain ⟨zg13, W⟩ := W
    refine J_iinc (L' := [some (jo 10 zo0), some (ji (zx1 + 1))]) (pc' := 101) rfl rfl zg13 rfl rfl ?_
    refine J_goto (pc' := 74) rfl rfl ?_
    exact W
theorem wp_Text_clear {n : Nat} {σ : jS} {Q : jS → Prop} {zo0 : Int} (W : 0 ≤ zo0 ∧ (∀ zs2, zs2 = ws σ 10000 zo0 0 → (∀ zs3, zs3 = ws zs2 10001 zo0 0 → Q zs3))) : TrV n i_Text_clear [jo 10 zo0] σ Q := by
  refine Tr_of ax_Z_223 ?_
  show J n c_Text_clear none 0 [some (jo 10 zo0)] [] σ (qV Q)
  obtain ⟨zg1, W⟩ := W
  refine J_aload_no (pc' := 1) rfl rfl zg1 rfl ?_
  refine J_iconst (pc' := 2) rfl (i32_d rfl) rfl ?_
  refine J_putI (G := 10000) (pc' := 5) rfl rfl (Nat.le_of_ble_eq_true rfl) rfl rfl zg1 rfl (fun zs2 ezs2 => ?_)
  replace W := W zs2 ezs2
  refine J_aload_no (pc' := 6) rfl rfl zg1 rfl ?_
  refine J_iconst (pc' := 7) rfl (i32_d rfl) rfl ?_
  refine J_putI (G := 10001) (pc' := 10) rfl rfl (Nat.le_of_ble_eq_true rfl) rfl rfl zg1 rfl (fun zs3 ezs3 => ?_)
  replace W := W zs3 ezs3
  exact J_vret rfl rfl ⟨rfl, W⟩
theorem wp_Text_hasScope {n : Nat} {σ : jS} {Q : Int → jS → Prop} {zo0 : Int} {zx1 : Int} (W : (if zx1 < 0 then Q 0 σ else 0 ≤ zo0 ∧ (if rs σ 10000 zo0 ≤ zx1 then Q 0 σ else (if 8 ≤ zx1 then Q 0 σ else Q 1 σ)))) : TrI n i_Text_hasScope [jo 10 zo0, ji zx1] σ Q := by
  refine Tr_of ax_Z_224 ?_
  show J n c_Text_hasScope (some .boolean) 0 [some (jo 10 zo0), some (ji zx1)] [] σ (qI Q)
  refine J_iload_n (pc' := 1) rfl rfl rfl ?_
  refine J_if (P := zx1 < 0) (t := 22) (f := 4) rfl rfl rfl jc_lt W (fun W => ?_) (fun W => ?_)
  · refine J_iconst (pc' := 23) rfl (i32_d rfl) rfl ?_
    exact J_zret rfl rfl (Or.inl rfl) ⟨_, rfl, W⟩
  · refine J_iload_n (pc' := 5) rfl rfl rfl ?_
    obtain ⟨zg1, W⟩ := W
    refine J_aload_no (pc' := 6) rfl rfl zg1 rfl ?_
    refine J_getI (G := 10000) (pc' := 9) rfl rfl (Nat.le_of_ble_eq_true rfl) rfl zg1 rfl ?_
    refine J_icmp (P := rs σ 10000 zo0 ≤ zx1) (t := 22) (f := 12) rfl rfl rfl jc_ge W (fun W => ?_) (fun W => ?_)
    · refine J_iconst (pc' := 23) rfl (i32_d rfl) rfl ?_
      exact J_zret rfl rfl (Or.inl rfl) ⟨_, rfl, W⟩
    · refine J_iload_n (pc' := 13) rfl rfl rfl ?_
      refine J_bipush (pc' := 15) rfl (by decide) (by decide) rfl ?_
      refine J_icmp (P := 8 ≤ zx1) (t := 22) (f := 18) rfl rfl rfl jc_ge W (fun W => ?_) (fun W => ?_)
      · refine J_iconst (pc' := 23) rfl (i32_d rfl) rfl ?_
        exact J_zret rfl rfl (Or.inl rfl) ⟨_, rfl, W⟩
      · refine J_iconst (pc' := 19) rfl (i32_d rfl) rfl ?_
        refine J_goto (pc' := 23) rfl rfl ?_
        exact J_zret rfl rfl (Or.inr rfl) ⟨_, rfl, W⟩
theorem wp_Text_hasGiven {n : Nat} {σ : jS} {Q : Int → jS → Prop} {zo0 : Int} {zx1 : Int} (W : (if zx1 < 0 then Q 0 σ else 0 ≤ zo0 ∧ (if rs σ 10001 zo0 ≤ zx1 then Q 0 σ else (if 24 ≤ zx1 then Q 0 σ else Q 1 σ)))) : TrI n i_Text_hasGiven [jo 10 zo0, ji zx1] σ Q := by
  refine Tr_of ax_Z_225 ?_
  show J n c_Text_hasGiven (some .boolean) 0 [some (jo 10 zo0), some (ji zx1)] [] σ (qI Q)
  refine J_iload_n (pc' := 1) rfl rfl rfl ?_
  refine J_if (P := zx1 < 0) (t := 22) (f := 4) rfl rfl rfl jc_lt W (fun W => ?_) (fun W => ?_)
  · refine J_iconst (pc' := 23) rfl (i32_d rfl) rfl ?_
    exact J_zret rfl rfl (Or.inl rfl) ⟨_, rfl, W⟩
  · refine J_iload_n (pc' := 5) rfl rfl rfl ?_
    obtain ⟨zg1, W⟩ := W
    refine J_aload_no (pc' := 6) rfl rfl zg1 rfl ?_
    refine J_getI (G := 10001) (pc' := 9) rfl rfl (Nat.le_of_ble_eq_true rfl) rfl zg1 rfl ?_
    refine J_icmp (P := rs σ 10001 zo0 ≤ zx1) (t := 22) (f := 12) rfl rfl rfl jc_ge W (fun W => ?_) (fun W => ?_)
    · refine J_iconst (pc' := 23) rfl (i32_d rfl) rfl ?_
      exact J_zret rfl rfl (Or.inl rfl) ⟨_, rfl, W⟩
    · refine J_iload_n (pc' := 13) rfl rfl rfl ?_
      refine J_bipush (pc' := 15) rfl (by decide) (by decide) rfl ?_
      refine J_icmp (P := 24 ≤ zx1) (t := 22) (f := 18) rfl rfl rfl jc_ge W (fun W => ?_) (fun W => ?_)
      · refine J_iconst (pc' := 23) rfl (i32_d rfl) rfl ?_
        exact J_zret rfl rfl (Or.inl rfl) ⟨_, rfl, W⟩
      · refine J_iconst (pc' := 19) rfl (i32_d rfl) rfl ?_
        refine J_goto (pc' := 23) rfl rfl ?_
        exact J_zret rfl rfl (Or.inr rfl) ⟨_, rfl, W⟩
theorem wp_Text_mayOpenIn {n : Nat} {σ : jS} {Q : Int → jS → Prop} {zo0 : Int} {zx1 : Int} (W : 0 ≤ zo0 ∧ (if 8 ≤ rs σ 10000 zo0 then Q 0 σ else 1 ≤ n ∧ TrI (n - 1) i_Text_hasScope [jo 10 zo0, ji zx1] σ (fun zr4 zs3 => (if zr4 = 0 then Q 1 zs3 else 0 ≤ rl zs3 10003 zo0 ∧ 0 ≤ zx1 ∧ zx1 < rl zs3 10003 zo0 ∧ (if 5 ≤ ra zs3 10003 zo0 zx1 then Q 0 zs3 else Q 1 zs3))))) : TrI n i_Text_mayOpenIn [jo 10 zo0, ji zx1] σ Q := by
  refine Tr_of ax_Z_226 ?_
  show J n c_Text_mayOpenIn (some .boolean) 0 [some (jo 10 zo0), some (ji zx1)] [] σ (qI Q)
  obtain ⟨zg1, W⟩ := W
  refine J_aload_no (pc' := 1) rfl rfl zg1 rfl ?_
  refine J_getI (G := 10000) (pc' := 4) rfl rfl (Nat.le_of_ble_eq_true rfl) rfl zg1 rfl ?_
  refine J_bipush (pc' := 6) rfl (by decide) (by decide) rfl ?_
  refine J_icmp (P := 8 ≤ rs σ 10000 zo0) (t := 31) (f := 9) rfl rfl rfl jc_ge W (fun W => ?_) (fun W => ?_)
  · refine J_iconst (pc' := 32) rfl (i32_d rfl) rfl ?_
    exact J_zret rfl rfl (Or.inl rfl) ⟨_, rfl, W⟩
  · refine J_aload_no (pc' := 10) rfl rfl zg1 rfl ?_
    refine J_iload_n (pc' := 11) rfl rfl rfl ?_
    obtain ⟨zg2, W⟩ := W
    refine J_callI (as := [jo 10 zo0, ji zx1]) (rest := []) (pc' := 14) rfl rfl ax_Z_224 rfl rfl (Or.inr (Or.inr ⟨_, _, rfl, zg1⟩)) (Nat.le_of_ble_eq_true rfl) (Nat.le_of_ble_eq_true rfl) (Nat.le_of_ble_eq_true rfl) zg2 trivial trivial rfl W (fun zr4 zs3 W => ?_)
    refine J_if (P := zr4 = 0) (t := 27) (f := 17) rfl rfl rfl jc_eq W (fun W => ?_) (fun W => ?_)
    · refine J_iconst (pc' := 28) rfl (i32_d rfl) rfl ?_
      refine J_goto (pc' := 32) rfl rfl ?_
      exact J_zret rfl rfl (Or.inr rfl) ⟨_, rfl, W⟩
    · refine J_aload_no (pc' := 18) rfl rfl zg1 rfl ?_
      obtain ⟨zg5, W⟩ := W
      refine J_getA (G := 10003) (pc' := 21) rfl rfl (Nat.le_of_ble_eq_true rfl) rfl zg1 zg5 rfl ?_
      refine J_iload_n (pc' := 22) rfl rfl rfl ?_
      obtain ⟨zg6, W⟩ := W
      obtain ⟨zg7, W⟩ := W
      refine J_iald (pc' := 23) rfl rfl zg6 zg7 rfl ?_
      refine J_iconst (pc' := 24) rfl (i32_d rfl) rfl ?_
      refine J_icmp (P := 5 ≤ ra zs3 10003 zo0 zx1) (t := 31) (f := 27) rfl rfl rfl jc_ge W (fun W => ?_) (fun W => ?_)
      · refine J_iconst (pc' := 32) rfl (i32_d rfl) rfl ?_
        exact J_zret rfl rfl (Or.inl rfl) ⟨_, rfl, W⟩
      · refine J_iconst (pc' := 28) rfl (i32_d rfl) rfl ?_
        refine J_goto (pc' := 32) rfl rfl ?_
        exact J_zret rfl rfl (Or.inr rfl) ⟨_, rfl, W⟩
theorem wp_Text_open {n : Nat} {σ : jS} {Q : Int → jS → Prop} {zo0 : Int} {zx1 : Int} (W : 0 ≤ zo0 ∧ (if 8 ≤ rs σ 10000 zo0 then Q (rs σ 10000 zo0) σ else 0 ≤ rl σ 10002 zo0 ∧ 0 ≤ rs σ 10000 zo0 ∧ rs σ 10000 zo0 < rl σ 10002 zo0 ∧ (∀ zs3, zs3 = wa σ 10002 zo0 (rs σ 10000 zo0) zx1 → 0 ≤ rl zs3 10003 zo0 ∧ 1 ≤ n ∧ TrI (n - 1) i_Text_hasScope [jo 10 zo0, ji zx1] zs3 (fun zr9 zs8 => (if zr9 = 0 then 0 ≤ rs σ 10000 zo0 ∧ rs σ 10000 zo0 < rl zs8 10003 zo0 ∧ (∀ zs10, zs10 = wa zs8 10003 zo0 (rs σ 10000 zo0) 0 → 0 ≤ rl zs10 10004 zo0 ∧ 0 ≤ rs σ 10000 zo0 ∧ rs σ 10000 zo0 < rl zs10 10004 zo0 ∧ (∀ zs14, zs14 = wa zs10 10004 zo0 (rs σ 10000 zo0) 0 → i32 ((rs zs14 10000 zo0) + 1) ∧ (∀ zs18, zs18 = ws zs14 10000 zo0 ((rs zs14 10000 zo0) + 1) → Q (rs σ 10000 zo0) zs18))) else 0 ≤ rl zs8 10003 zo0 ∧ 0 ≤ zx1 ∧ zx1 < rl zs8 10003 zo0 ∧ i32 ((ra zs8 10003 zo0 zx1) + 1) ∧ 0 ≤ rs σ 10000 zo0 ∧ rs σ 10000 zo0 < rl zs8 10003 zo0 ∧ (∀ zs23, zs23 = wa zs8 10003 zo0 (rs σ 10000 zo0) ((ra zs8 10003 zo0 zx1) + 1) → 0 ≤ rl zs23 10004 zo0 ∧ 0 ≤ rs σ 10000 zo0 ∧ rs σ 10000 zo0 < rl zs23 10004 zo0 ∧ (∀ zs27, zs27 = wa zs23 10004 zo0 (rs σ 10000 zo0) 0 → i32 ((rs zs27 10000 zo0) + 1) ∧ (∀ zs31, zs31 = ws zs27 10000 zo0 ((rs zs27 10000 zo0) + 1) → Q (rs σ 10000 zo0) zs31)))))))) : TrI n i_Text_open [jo 10 zo0, ji zx1] σ Q := by
  refine Tr_of ax_Z_227 ?_
  show J n c_Text_open (some .int) 0 [some (jo 10 zo0), some (ji zx1), none] [] σ (qI Q)
  obtain ⟨zg1, W⟩ := W
  refine J_aload_no (pc' := 1) rfl rfl zg1 rfl ?_
  refine J_getI (G := 10000) (pc' := 4) rfl rfl (Nat.le_of_ble_eq_true rfl) rfl zg1 rfl ?_
  refine J_istore_n (L' := [some (jo 10 zo0), some (ji zx1), some (ji (rs σ 10000 zo0))]) (pc' := 5) rfl (Nat.le_of_ble_eq_true rfl) rfl rfl ?_
  refine J_iload_n (pc' := 6) rfl rfl rfl ?_
  refine J_bipush (pc' := 8) rfl (by decide) (by decide) rfl ?_
  refine J_icmp (P := 8 ≤ rs σ 10000 zo0) (t := 61) (f := 11) rfl rfl rfl jc_ge W (fun W => ?_) (fun W => ?_)
  · refine J_iload_n (pc' := 62) rfl rfl rfl ?_
    exact J_iret rfl rfl ⟨_, rfl, W⟩
  · refine J_aload_no (pc' := 12) rfl rfl zg1 rfl ?_
    obtain ⟨zg2, W⟩ := W
    refine J_getA (G := 10002) (pc' := 15) rfl rfl (Nat.le_of_ble_eq_true rfl) rfl zg1 zg2 rfl ?_
    refine J_iload_n (pc' := 16) rfl rfl rfl ?_
    refine J_iload_n (pc' := 17) rfl rfl rfl ?_
    obtain ⟨zg4, W⟩ := W
    obtain ⟨zg5, W⟩ := W
    refine J_iast (pc' := 18) rfl rfl (by decide) zg4 zg5 rfl (fun zs3 ezs3 => ?_)
    replace W := W zs3 ezs3
    refine J_aload_no (pc' := 19) rfl rfl zg1 rfl ?_
    obtain ⟨zg6, W⟩ := W
    refine J_getA (G := 10003) (pc' := 22) rfl rfl (Nat.le_of_ble_eq_true rfl) rfl zg1 zg6 rfl ?_
    refine J_iload_n (pc' := 23) rfl rfl rfl ?_
    refine J_aload_no (pc' := 24) rfl rfl zg1 rfl ?_
    refine J_iload_n (pc' := 25) rfl rfl rfl ?_
    obtain ⟨zg7, W⟩ := W
    refine J_callI (as := [jo 10 zo0, ji zx1]) (rest := [ji (rs σ 10000 zo0), ja 10003 zo0]) (pc' := 28) rfl rfl ax_Z_224 rfl rfl (Or.inr (Or.inr ⟨_, _, rfl, zg1⟩)) (Nat.le_of_ble_eq_true rfl) (Nat.le_of_ble_eq_true rfl) (Nat.le_of_ble_eq_true rfl) zg7 trivial (And.intro rfl trivial) rfl W (fun zr9 zs8 W => ?_)
    refine J_if (P := zr9 = 0) (t := 42) (f := 31) rfl rfl rfl jc_eq W (fun W => ?_) (fun W => ?_)
    · refine J_iconst (pc' := 43) rfl (i32_d rfl) rfl ?_
      obtain ⟨zg11, W⟩ := W
      obtain ⟨zg12, W⟩ := W
      refine J_iast (pc' := 44) rfl rfl (by decide) zg11 zg12 rfl (fun zs10 ezs10 => ?_)
      replace W := W zs10 ezs10
      refine J_aload_no (pc' := 45) rfl rfl zg1 rfl ?_
      obtain ⟨zg13, W⟩ := W
      refine J_getA (G := 10004) (pc' := 48) rfl rfl (Nat.le_of_ble_eq_true rfl) rfl zg1 zg13 rfl ?_
      refine J_iload_n (pc' := 49) rfl rfl rfl ?_
      refine J_iconst (pc' := 50) rfl (i32_d rfl) rfl ?_
      obtain ⟨zg15, W⟩ := W
      obtain ⟨zg16, W⟩ := W
      refine J_iast (pc' := 51) rfl rfl (by decide) zg15 zg16 rfl (fun zs14 ezs14 => ?_)
      replace W := W zs14 ezs14
      refine J_aload_no (pc' := 52) rfl rfl zg1 rfl ?_
      refine J_dup (pc' := 53) rfl rfl rfl ?_
      refine J_getI (G := 10000) (pc' := 56) rfl rfl (Nat.le_of_ble_eq_true rfl) rfl zg1 rfl ?_
      refine J_iconst (pc' := 57) rfl (i32_d rfl) rfl ?_
      obtain ⟨zg17, W⟩ := W
      refine J_iadd (pc' := 58) rfl zg17 rfl ?_
      refine J_putI (G := 10000) (pc' := 61) rfl rfl (Nat.le_of_ble_eq_true rfl) rfl rfl zg1 rfl (fun zs18 ezs18 => ?_)
      replace W := W zs18 ezs18
      refine J_iload_n (pc' := 62) rfl rfl rfl ?_
      exact J_iret rfl rfl ⟨_, rfl, W⟩
    · refine J_aload_no (pc' := 32) rfl rfl zg1 rfl ?_
      obtain ⟨zg19, W⟩ := W
      refine J_getA (G := 10003) (pc' := 35) rfl rfl (Nat.le_of_ble_eq_true rfl) rfl zg1 zg19 rfl ?_
      refine J_iload_n (pc' := 36) rfl rfl rfl ?_
      obtain ⟨zg20, W⟩ := W
      obtain ⟨zg21, W⟩ := W
      refine J_iald (pc' := 37) rfl rfl zg20 zg21 rfl ?_
      refine J_iconst (pc' := 38) rfl (i32_d rfl) rfl ?_
      obtain ⟨zg22, W⟩ := W
      refine J_iadd (pc' := 39) rfl zg22 rfl ?_
      refine J_goto (pc' := 43) rfl rfl ?_
      obtain ⟨zg24, W⟩ := W
      obtain ⟨zg25, W⟩ := W
      refine J_iast (pc' := 44) rfl rfl (by decide) zg24 zg25 rfl (fun zs23 ezs23 => ?_)
      replace W := W zs23 ezs23
      refine J_aload_no (pc' := 45) rfl rfl zg1 rfl ?_
      obtain ⟨zg26, W⟩ := W
      refine J_getA (G := 10004) (pc' := 48) rfl rfl (Nat.le_of_ble_eq_true rfl) rfl zg1 zg26 rfl ?_
      refine J_iload_n (pc' := 49) rfl rfl rfl ?_
      refine J_iconst (pc' := 50) rfl (i32_d rfl) rfl ?_
      obtain ⟨zg28, W⟩ := W
      obtain ⟨zg29, W⟩ := W
      refine J_iast (pc' := 51) rfl rfl (by decide) zg28 zg29 rfl (fun zs27 ezs27 => ?_)
      replace W := W zs27 ezs27
      refine J_aload_no (pc' := 52) rfl rfl zg1 rfl ?_
      refine J_dup (pc' := 53) rfl rfl rfl ?_
      refine J_getI (G := 10000) (pc' := 56) rfl rfl (Nat.le_of_ble_eq_true rfl) rfl zg1 rfl ?_
      refine J_iconst (pc' := 57) rfl (i32_d rfl) rfl ?_
      obtain ⟨zg30, W⟩ := W
      refine J_iadd (pc' := 58) rfl zg30 rfl ?_
      refine J_putI (G := 10000) (pc' := 61) rfl rfl (Nat.le_of_ble_eq_true rfl) rfl rfl zg1 rfl (fun zs31 ezs31 => ?_)
      replace W := W zs31 ezs31
      refine J_iload_n (pc' := 62) rfl rfl rfl ?_
      exact J_iret rfl rfl ⟨_, rfl, W⟩
theorem wp_Text_aroundOf {n : Nat} {σ : jS} {Q : Int → jS → Prop} {zo0 : Int} {zx1 : Int} (W : 0 ≤ zo0 ∧ 1 ≤ n ∧ TrI (n - 1) i_Text_hasScope [jo 10 zo0, ji zx1] σ (fun zr4 zs3 => (if zr4 = 0 then Q (-1) zs3 else 0 ≤ rl zs3 10002 zo0 ∧ 0 ≤ zx1 ∧ zx1 < rl zs3 10002 zo0 ∧ Q (ra zs3 10002 zo0 zx1) zs3))) : TrI n i_Text_aroundOf [jo 10 zo0, ji zx1] σ Q := by
  refine Tr_of ax_Z_228 ?_
  show J n c_Text_aroundOf (some .int) 0 [some (jo 10 zo0), some (ji zx1)] [] σ (qI Q)
  obtain ⟨zg1, W⟩ := W
  refine J_aload_no (pc' := 1) rfl rfl zg1 rfl ?_
  refine J_iload_n (pc' := 2) rfl rfl rfl ?_
  obtain ⟨zg2, W⟩ := W
  refine J_callI (as := [jo 10 zo0, ji zx1]) (rest := []) (pc' := 5) rfl rfl ax_Z_224 rfl rfl (Or.inr (Or.inr ⟨_, _, rfl, zg1⟩)) (Nat.le_of_ble_eq_true rfl) (Nat.le_of_ble_eq_true rfl) (Nat.le_of_ble_eq_true rfl) zg2 trivial trivial rfl W (fun zr4 zs3 W => ?_)
  refine J_if (P := zr4 = 0) (t := 17) (f := 8) rfl rfl rfl jc_eq W (fun W => ?_) (fun W => ?_)
  · refine J_iconst (pc' := 18) rfl (i32_d rfl) rfl ?_
    exact J_iret rfl rfl ⟨_, rfl, W⟩
  · refine J_aload_no (pc' := 9) rfl rfl zg1 rfl ?_
    obtain ⟨zg5, W⟩ := W
    refine J_getA (G := 10002) (pc' := 12) rfl rfl (Nat.le_of_ble_eq_true rfl) rfl zg1 zg5 rfl ?_
    refine J_iload_n (pc' := 13) rfl rfl rfl ?_
    obtain ⟨zg6, W⟩ := W
    obtain ⟨zg7, W⟩ := W
    refine J_iald (pc' := 14) rfl rfl zg6 zg7 rfl ?_
    refine J_goto (pc' := 18) rfl rfl ?_
    exact J_iret rfl rfl ⟨_, rfl, W⟩
theorem wp_Text_addGiven {n : Nat} {σ : jS} {Q : jS → Prop} {zo0 : Int} {zx1 : Int} {zx2 : Int} (W : 0 ≤ zo0 ∧ (if 24 ≤ rs σ 10001 zo0 then Q σ else 1 ≤ n ∧ TrI (n - 1) i_Text_hasScope [jo 10 zo0, ji zx1] σ (fun zr4 zs3 => (if zr4 = 0 then Q zs3 else 0 ≤ rl zs3 10005 zo0 ∧ 0 ≤ rs zs3 10001 zo0 ∧ rs zs3 10001 zo0 < rl zs3 10005 zo0 ∧ (∀ zs6, zs6 = wa zs3 10005 zo0 (rs zs3 10001 zo0) zx1 → 0 ≤ rl zs6 10006 zo0 ∧ 0 ≤ rs zs6 10001 zo0 ∧ rs zs6 10001 zo0 < rl zs6 10006 zo0 ∧ (∀ zs10, zs10 = wa zs6 10006 zo0 (rs zs6 10001 zo0) zx2 → 0 ≤ rl zs10 10004 zo0 ∧ 0 ≤ zx1 ∧ zx1 < rl zs10 10004 zo0 ∧ (∀ zs16, zs16 = wa zs10 10004 zo0 zx1 (bOr (ra zs10 10004 zo0 zx1) (bShl 1 (rs zs10 10001 zo0))) → i32 ((rs zs16 10001 zo0) + 1) ∧ (∀ zs18, zs18 = ws zs16 10001 zo0 ((rs zs16 10001 zo0) + 1) → Q zs18)))))))) : TrV n i_Text_addGiven [jo 10 zo0, ji zx1, ji zx2] σ Q := by
  refine Tr_of ax_Z_229 ?_
  show J n c_Text_addGiven none 0 [some (jo 10 zo0), some (ji zx1), some (ji zx2)] [] σ (qV Q)
  obtain ⟨zg1, W⟩ := W
  refine J_aload_no (pc' := 1) rfl rfl zg1 rfl ?_
  refine J_getI (G := 10001) (pc' := 4) rfl rfl (Nat.le_of_ble_eq_true rfl) rfl zg1 rfl ?_
  refine J_bipush (pc' := 6) rfl (by decide) (by decide) rfl ?_
  refine J_icmp (P := 24 ≤ rs σ 10001 zo0) (t := 62) (f := 9) rfl rfl rfl jc_ge W (fun W => ?_) (fun W => ?_)
  · exact J_vret rfl rfl ⟨rfl, W⟩
  · refine J_aload_no (pc' := 10) rfl rfl zg1 rfl ?_
    refine J_iload_n (pc' := 11) rfl rfl rfl ?_
    obtain ⟨zg2, W⟩ := W
    refine J_callI (as := [jo 10 zo0, ji zx1]) (rest := []) (pc' := 14) rfl rfl ax_Z_224 rfl rfl (Or.inr (Or.inr ⟨_, _, rfl, zg1⟩)) (Nat.le_of_ble_eq_true rfl) (Nat.le_of_ble_eq_true rfl) (Nat.le_of_ble_eq_true rfl) zg2 trivial trivial rfl W (fun zr4 zs3 W => ?_)
    refine J_if (P := zr4 = 0) (t := 62) (f := 17) rfl rfl rfl jc_eq W (fun W => ?_) (fun W => ?_)
    · exact J_vret rfl rfl ⟨rfl, W⟩
    · refine J_aload_no (pc' := 18) rfl rfl zg1 rfl ?_
      obtain ⟨zg5, W⟩ := W
      refine J_getA (G := 10005) (pc' := 21) rfl rfl (Nat.le_of_ble_eq_true rfl) rfl zg1 zg5 rfl ?_
      refine J_aload_no (pc' := 22) rfl rfl zg1 rfl ?_
      refine J_getI (G := 10001) (pc' := 25) rfl rfl (Nat.le_of_ble_eq_true rfl) rfl zg1 rfl ?_
      refine J_iload_n (pc' := 26) rfl rfl rfl ?_
      obtain ⟨zg7, W⟩ := W
      obtain ⟨zg8, W⟩ := W
      refine J_iast (pc' := 27) rfl rfl (by decide) zg7 zg8 rfl (fun zs6 ezs6 => ?_)
      replace W := W zs6 ezs6
      refine J_aload_no (pc' := 28) rfl rfl zg1 rfl ?_
      obtain ⟨zg9, W⟩ := W
      refine J_getA (G := 10006) (pc' := 31) rfl rfl (Nat.le_of_ble_eq_true rfl) rfl zg1 zg9 rfl ?_
      refine J_aload_no (pc' := 32) rfl rfl zg1 rfl ?_
      refine J_getI (G := 10001) (pc' := 35) rfl rfl (Nat.le_of_ble_eq_true rfl) rfl zg1 rfl ?_
      refine J_iload_n (pc' := 36) rfl rfl rfl ?_
      obtain ⟨zg11, W⟩ := W
      obtain ⟨zg12, W⟩ := W
      refine J_iast (pc' := 37) rfl rfl (by decide) zg11 zg12 rfl (fun zs10 ezs10 => ?_)
      replace W := W zs10 ezs10
      refine J_aload_no (pc' := 38) rfl rfl zg1 rfl ?_
      obtain ⟨zg13, W⟩ := W
      refine J_getA (G := 10004) (pc' := 41) rfl rfl (Nat.le_of_ble_eq_true rfl) rfl zg1 zg13 rfl ?_
      refine J_iload_n (pc' := 42) rfl rfl rfl ?_
      refine J_dup2 (pc' := 43) rfl rfl rfl rfl ?_
      obtain ⟨zg14, W⟩ := W
      obtain ⟨zg15, W⟩ := W
      refine J_iald (pc' := 44) rfl rfl zg14 zg15 rfl ?_
      refine J_iconst (pc' := 45) rfl (i32_d rfl) rfl ?_
      refine J_aload_no (pc' := 46) rfl rfl zg1 rfl ?_
      refine J_getI (G := 10001) (pc' := 49) rfl rfl (Nat.le_of_ble_eq_true rfl) rfl zg1 rfl ?_
      refine J_ishl (pc' := 50) rfl rfl ?_
      refine J_ior (pc' := 51) rfl rfl ?_
      refine J_iast (pc' := 52) rfl rfl (by decide) zg14 zg15 rfl (fun zs16 ezs16 => ?_)
      replace W := W zs16 ezs16
      refine J_aload_no (pc' := 53) rfl rfl zg1 rfl ?_
      refine J_dup (pc' := 54) rfl rfl rfl ?_
      refine J_getI (G := 10001) (pc' := 57) rfl rfl (Nat.le_of_ble_eq_true rfl) rfl zg1 rfl ?_
      refine J_iconst (pc' := 58) rfl (i32_d rfl) rfl ?_
      obtain ⟨zg17, W⟩ := W
      refine J_iadd (pc' := 59) rfl zg17 rfl ?_
      refine J_putI (G := 10001) (pc' := 62) rfl rfl (Nat.le_of_ble_eq_true rfl) rfl rfl zg1 rfl (fun zs18 ezs18 => ?_)
      replace W := W zs18 ezs18
      exact J_vret rfl rfl ⟨rfl, W⟩
theorem wp_Text_part {n : Nat} {σ : jS} {Q : Int → jS → Prop} {zo0 : Int} {zx1 : Int} {zx2 : Int} (W : i32 (zx1 * 5) ∧ i32 ((zx1 * 5) + zx2) ∧ 0 ≤ zo0 ∧ 0 ≤ rl σ 10008 zo0 ∧ (if (zx1 * 5) + zx2 < 0 then 0 < rl σ 10008 zo0 ∧ 0 ≤ ra σ 10008 zo0 0 ∧ Q (ra σ 10008 zo0 0) σ else (if rl σ 10008 zo0 ≤ (zx1 * 5) + zx2 then 0 < rl σ 10008 zo0 ∧ 0 ≤ ra σ 10008 zo0 0 ∧ Q (ra σ 10008 zo0 0) σ else 0 ≤ (zx1 * 5) + zx2 ∧ (zx1 * 5) + zx2 < rl σ 10008 zo0 ∧ 0 ≤ ra σ 10008 zo0 ((zx1 * 5) + zx2) ∧ Q (ra σ 10008 zo0 ((zx1 * 5) + zx2)) σ))) : TrO n i_Text_part 0 [jo 10 zo0, ji zx1, ji zx2] σ Q := by
  refine Tr_of ax_Z_230 ?_
  show J n c_Text_part (some (.object "GivenSearch$Flat")) 0 [some (jo 10 zo0), some (ji zx1), some (ji zx2), none] [] σ (qO 0 Q)
  refine J_iload_n (pc' := 1) rfl rfl rfl ?_
  refine J_iconst (pc' := 2) rfl (i32_d rfl) rfl ?_
  obtain ⟨zg1, W⟩ := W
  refine J_imul (pc' := 3) rfl zg1 rfl ?_
  refine J_iload_n (pc' := 4) rfl rfl rfl ?_
  obtain ⟨zg2, W⟩ := W
  refine J_iadd (pc' := 5) rfl zg2 rfl ?_
  refine J_istore_n (L' := [some (jo 10 zo0), some (ji zx1), some (ji zx2), some (ji ((zx1 * 5) + zx2))]) (pc' := 6) rfl (Nat.le_of_ble_eq_true rfl) rfl rfl ?_
  obtain ⟨zg3, W⟩ := W
  refine J_aload_no (pc' := 7) rfl rfl zg3 rfl ?_
  obtain ⟨zg4, W⟩ := W
  refine J_getA (G := 10008) (pc' := 10) rfl rfl (Nat.le_of_ble_eq_true rfl) rfl zg3 zg4 rfl ?_
  refine J_iload_n (pc' := 11) rfl rfl rfl ?_
  refine J_if (P := (zx1 * 5) + zx2 < 0) (t := 27) (f := 14) rfl rfl rfl jc_lt W (fun W => ?_) (fun W => ?_)
  · refine J_iconst (pc' := 28) rfl (i32_d rfl) rfl ?_
    obtain ⟨zg5, W⟩ := W
    refine J_aald (pc' := 29) rfl rfl (by decide) zg5 rfl ?_
    obtain ⟨zg6, W⟩ := W
    exact J_oret rfl rfl zg6 ⟨_, rfl, zg6, W⟩
  · refine J_iload_n (pc' := 15) rfl rfl rfl ?_
    refine J_aload_no (pc' := 16) rfl rfl zg3 rfl ?_
    refine J_getA (G := 10008) (pc' := 19) rfl rfl (Nat.le_of_ble_eq_true rfl) rfl zg3 zg4 rfl ?_
    refine J_alen (pc' := 20) rfl (by decide) rfl ?_
    refine J_icmp (P := rl σ 10008 zo0 ≤ (zx1 * 5) + zx2) (t := 27) (f := 23) rfl rfl rfl jc_ge W (fun W => ?_) (fun W => ?_)
    · refine J_iconst (pc' := 28) rfl (i32_d rfl) rfl ?_
      obtain ⟨zg7, W⟩ := W
      refine J_aald (pc' := 29) rfl rfl (by decide) zg7 rfl ?_
      obtain ⟨zg8, W⟩ := W
      exact J_oret rfl rfl zg8 ⟨_, rfl, zg8, W⟩
    · refine J_iload_n (pc' := 24) rfl rfl rfl ?_
      refine J_goto (pc' := 28) rfl rfl ?_
      obtain ⟨zg9, W⟩ := W
      obtain ⟨zg10, W⟩ := W
      refine J_aald (pc' := 29) rfl rfl zg9 zg10 rfl ?_
      obtain ⟨zg11, W⟩ := W
      exact J_oret rfl rfl zg11 ⟨_, rfl, zg11, W⟩
theorem wp_Text_needsOf {n : Nat} {σ : jS} {Q : Int → jS → Prop} {zo0 : Int} {zx1 : Int} (W : 0 ≤ zo0 ∧ 1 ≤ n ∧ TrI (n - 1) i_Text_hasGiven [jo 10 zo0, ji zx1] σ (fun zr4 zs3 => (if zr4 = 0 then Q 0 zs3 else 0 ≤ rl zs3 10006 zo0 ∧ 0 ≤ zx1 ∧ zx1 < rl zs3 10006 zo0 ∧ Q (ra zs3 10006 zo0 zx1) zs3))) : TrI n i_Text_needsOf [jo 10 zo0, ji zx1] σ Q := by
  refine Tr_of ax_Z_231 ?_
  show J n c_Text_needsOf (some .int) 0 [some (jo 10 zo0), some (ji zx1)] [] σ (qI Q)
  obtain ⟨zg1, W⟩ := W
  refine J_aload_no (pc' := 1) rfl rfl zg1 rfl ?_
  refine J_iload_n (pc' := 2) rfl rfl rfl ?_
  obtain ⟨zg2, W⟩ := W
  refine J_callI (as := [jo 10 zo0, ji zx1]) (rest := []) (pc' := 5) rfl rfl ax_Z_225 rfl rfl (Or.inr (Or.inr ⟨_, _, rfl, zg1⟩)) (Nat.le_of_ble_eq_true rfl) (Nat.le_of_ble_eq_true rfl) (Nat.le_of_ble_eq_true rfl) zg2 trivial trivial rfl W (fun zr4 zs3 W => ?_)
  refine J_if (P := zr4 = 0) (t := 17) (f := 8) rfl rfl rfl jc_eq W (fun W => ?_) (fun W => ?_)
  · refine J_iconst (pc' := 18) rfl (i32_d rfl) rfl ?_
    exact J_iret rfl rfl ⟨_, rfl, W⟩
  · refine J_aload_no (pc' := 9) rfl rfl zg1 rfl ?_
    obtain ⟨zg5, W⟩ := W
    refine J_getA (G := 10006) (pc' := 12) rfl rfl (Nat.le_of_ble_eq_true rfl) rfl zg1 zg5 rfl ?_
    refine J_iload_n (pc' := 13) rfl rfl rfl ?_
    obtain ⟨zg6, W⟩ := W
    obtain ⟨zg7, W⟩ := W
    refine J_iald (pc' := 14) rfl rfl zg6 zg7 rfl ?_
    refine J_goto (pc' := 18) rfl rfl ?_
    exact J_iret rfl rfl ⟨_, rfl, W⟩
theorem wp_Text_needsInAll {n : Nat} {σ : jS} {Q : Int → jS → Prop} {zo0 : Int} (W : J n c_Text_needsInAll (some .int) 4 [some (jo 10 zo0), some (ji 0), some (ji 0)] [] σ (qI Q)) : TrI n i_Text_needsInAll [jo 10 zo0] σ Q := by
  refine Tr_of ax_Z_232 ?_
  show J n c_Text_needsInAll (some .int) 0 [some (jo 10 zo0), none, none] [] σ (qI Q)
  refine J_iconst (pc' := 1) rfl (i32_d rfl) rfl ?_
  refine J_istore_n (L' := [some (jo 10 zo0), some (ji 0), none]) (pc' := 2) rfl (Nat.le_of_ble_eq_true rfl) rfl rfl ?_
  refine J_iconst (pc' := 3) rfl (i32_d rfl) rfl ?_
  refine J_istore_n (L' := [some (jo 10 zo0), some (ji 0), some (ji 0)]) (pc' := 4) rfl (Nat.le_of_ble_eq_true rfl) rfl rfl ?_
  exact W
theorem wp_Text_needsInAll_4 {n : Nat} {σ : jS} {Q : Int → jS → Prop} {zo0 : Int} {zx1 : Int} {zx2 : Int} (W : 0 ≤ zo0 ∧ (if rs σ 10001 zo0 ≤ zx2 then Q zx1 σ else 0 ≤ rl σ 10006 zo0 ∧ 0 ≤ zx2 ∧ zx2 < rl σ 10006 zo0 ∧ i32 (zx1 + (ra σ 10006 zo0 zx2)) ∧ i32 (zx2 + 1) ∧ J n c_Text_needsInAll (some .int) 4 [some (jo 10 zo0), some (ji (zx1 + (ra σ 10006 zo0 zx2))), some (ji (zx2 + 1))] [] σ (qI Q))) : J n c_Text_needsInAll (some .int) 4 [some (jo 10 zo0), some (ji zx1), some (ji zx2)] [] σ (qI Q) := by
  refine J_iload_n (pc' := 5) rfl rfl rfl ?_
  obtain ⟨zg1, W⟩ := W
  refine J_aload_no (pc' := 6) rfl rfl zg1 rfl ?_
  refine J_getI (G := 10001) (pc' := 9) rfl rfl (Nat.le_of_ble_eq_true rfl) rfl zg1 rfl ?_
  refine J_icmp (P := rs σ 10001 zo0 ≤ zx2) (t := 27) (f := 12) rfl rfl rfl jc_ge W (fun W => ?_) (fun W => ?_)
  · refine J_iload_n (pc' := 28) rfl rfl rfl ?_
    exact J_iret rfl rfl ⟨_, rfl, W⟩
  · refine J_iload_n (pc' := 13) rfl rfl rfl ?_
    refine J_aload_no (pc' := 14) rfl rfl zg1 rfl ?_
    obtain ⟨zg2, W⟩ := W
    refine J_getA (G := 10006) (pc' := 17) rfl rfl (Nat.le_of_ble_eq_true rfl) rfl zg1 zg2 rfl ?_
    refine J_iload_n (pc' := 18) rfl rfl rfl ?_
    obtain ⟨zg3, W⟩ := W
    obtain ⟨zg4, W⟩ := W
    refine J_iald (pc' := 19) rfl rfl zg3 zg4 rfl ?_
    obtain ⟨zg5, W⟩ := W
    refine J_iadd (pc' := 20) rfl zg5 rfl ?_
    refine J_istore_n (L' := [some (jo 10 zo0), some (ji (zx1 + (ra σ 10006 zo0 zx2))), some (ji zx2)]) (pc' := 21) rfl (Nat.le_of_ble_eq_true rfl) rfl rfl ?_
    obtain ⟨zg6, W⟩ := W
    refine J_iinc (L' := [some (jo 10 zo0), some (ji (zx1 + (ra σ 10006 zo0 zx2))), some (ji (zx2 + 1))]) (pc' := 24) rfl rfl zg6 rfl rfl ?_
    refine J_goto (pc' := 4) rfl rfl ?_
    exact W
theorem wp_Text_needSizes {n : Nat} {σ : jS} {Q : Int → jS → Prop} {zo0 : Int} {zx1 : Int} (W : J n c_Text_needSizes (some .int) 4 [some (jo 10 zo0), some (ji zx1), some (ji 0), some (ji 1)] [] σ (qI Q)) : TrI n i_Text_needSizes [jo 10 zo0, ji zx1] σ Q := by
  refine Tr_of ax_Z_233 ?_
  show J n c_Text_needSizes (some .int) 0 [some (jo 10 zo0), some (ji zx1), none, none] [] σ (qI Q)
  refine J_iconst (pc' := 1) rfl (i32_d rfl) rfl ?_
  refine J_istore_n (L' := [some (jo 10 zo0), some (ji zx1), some (ji 0), none]) (pc' := 2) rfl (Nat.le_of_ble_eq_true rfl) rfl rfl ?_
  refine J_iconst (pc' := 3) rfl (i32_d rfl) rfl ?_
  refine J_istore_n (L' := [some (jo 10 zo0), some (ji zx1), some (ji 0), some (ji 1)]) (pc' := 4) rfl (Nat.le_of_ble_eq_true rfl) rfl rfl ?_
  exact W
theorem wp_Text_needSizes_4 {n : Nat} {σ : jS} {Q : Int → jS → Prop} {zo0 : Int} {zx1 : Int} {zx2 : Int} {zx3 : Int} (W : 0 ≤ zo0 ∧ 1 ≤ n ∧ TrI (n - 1) i_Text_needsOf [jo 10 zo0, ji zx1] σ (fun zr4 zs3 => (if zr4 < zx3 then Q zx2 zs3 else TrO (n - 1) i_Text_part 0 [jo 10 zo0, ji zx1, ji zx3] zs3 (fun zr6 zs5 => i32 (zx2 + (rs zs5 1 zr6)) ∧ i32 (zx3 + 1) ∧ J n c_Text_needSizes (some .int) 4 [some (jo 10 zo0), some (ji zx1), some (ji (zx2 + (rs zs5 1 zr6))), some (ji (zx3 + 1))] [] zs5 (qI Q))))) : J n c_Text_needSizes (some .int) 4 [some (jo 10 zo0), some (ji zx1), some (ji zx2), some (ji zx3)] [] σ (qI Q) := by
  refine J_iload_n (pc' := 5) rfl rfl rfl ?_
  obtain ⟨zg1, W⟩ := W
  refine J_aload_no (pc' := 6) rfl rfl zg1 rfl ?_
  refine J_iload_n (pc' := 7) rfl rfl rfl ?_
  obtain ⟨zg2, W⟩ := W
  refine J_callI (as := [jo 10 zo0, ji zx1]) (rest := [ji zx3]) (pc' := 10) rfl rfl ax_Z_231 rfl rfl (Or.inr (Or.inr ⟨_, _, rfl, zg1⟩)) (Nat.le_of_ble_eq_true rfl) (Nat.le_of_ble_eq_true rfl) (Nat.le_of_ble_eq_true rfl) zg2 trivial trivial rfl W (fun zr4 zs3 W => ?_)
  refine J_icmp (P := zr4 < zx3) (t := 31) (f := 13) rfl rfl rfl jc_gt W (fun W => ?_) (fun W => ?_)
  · refine J_iload_n (pc' := 32) rfl rfl rfl ?_
    exact J_iret rfl rfl ⟨_, rfl, W⟩
  · refine J_iload_n (pc' := 14) rfl rfl rfl ?_
    refine J_aload_no (pc' := 15) rfl rfl zg1 rfl ?_
    refine J_iload_n (pc' := 16) rfl rfl rfl ?_
    refine J_iload_n (pc' := 17) rfl rfl rfl ?_
    refine J_weak (L' := [some (jo 10 zo0), some (ji zx1), none, some (ji zx3)]) (And.intro rfl (And.intro rfl (And.intro rfl trivial))) ?_
    refine J_callO (as := [jo 10 zo0, ji zx1, ji zx3]) (rest := [ji zx2]) (pc' := 20) rfl rfl ax_Z_230 rfl rfl (Or.inr (Or.inr ⟨_, _, rfl, zg1⟩)) (Nat.le_of_ble_eq_true rfl) (Nat.le_of_ble_eq_true rfl) (Nat.le_of_ble_eq_true rfl) zg2 trivial trivial rfl W (fun zr6 zs5 zh7 W => ?_)
    refine J_getI (G := 1) (pc' := 23) rfl rfl (Nat.le_of_ble_eq_true rfl) rfl zh7 rfl ?_
    obtain ⟨zg8, W⟩ := W
    refine J_iadd (pc' := 24) rfl zg8 rfl ?_
    refine J_istore_n (L' := [some (jo 10 zo0), some (ji zx1), some (ji (zx2 + (rs zs5 1 zr6))), some (ji zx3)]) (pc' := 25) rfl (Nat.le_of_ble_eq_true rfl) rfl rfl ?_
    obtain ⟨zg9, W⟩ := W
    refine J_iinc (L' := [some (jo 10 zo0), some (ji zx1), some (ji (zx2 + (rs zs5 1 zr6))), some (ji (zx3 + 1))]) (pc' := 28) rfl rfl zg9 rfl rfl ?_
    refine J_goto (pc' := 4) rfl rfl ?_
    exact W
theorem wp_Text_needVars {n : Nat} {σ : jS} {Q : Int → jS → Prop} {zo0 : Int} {zx1 : Int} (W : J n c_Text_needVars (some .int) 4 [some (jo 10 zo0), some (ji zx1), some (ji 0), some (ji 1)] [] σ (qI Q)) : TrI n i_Text_needVars [jo 10 zo0, ji zx1] σ Q := by
  refine Tr_of ax_Z_234 ?_
  show J n c_Text_needVars (some .int) 0 [some (jo 10 zo0), some (ji zx1), none, none] [] σ (qI Q)
  refine J_iconst (pc' := 1) rfl (i32_d rfl) rfl ?_
  refine J_istore_n (L' := [some (jo 10 zo0), some (ji zx1), some (ji 0), none]) (pc' := 2) rfl (Nat.le_of_ble_eq_true rfl) rfl rfl ?_
  refine J_iconst (pc' := 3) rfl (i32_d rfl) rfl ?_
  refine J_istore_n (L' := [some (jo 10 zo0), some (ji zx1), some (ji 0), some (ji 1)]) (pc' := 4) rfl (Nat.le_of_ble_eq_true rfl) rfl rfl ?_
  exact W
theorem wp_Text_needVars_4 {n : Nat} {σ : jS} {Q : Int → jS → Prop} {zo0 : Int} {zx1 : Int} {zx2 : Int} {zx3 : Int} (W : 0 ≤ zo0 ∧ 1 ≤ n ∧ TrI (n - 1) i_Text_needsOf [jo 10 zo0, ji zx1] σ (fun zr4 zs3 => (if zr4 < zx3 then Q zx2 zs3 else TrO (n - 1) i_Text_part 0 [jo 10 zo0, ji zx1, ji zx3] zs3 (fun zr6 zs5 => TrI (n - 1) i_Flat_varLetters [jo 0 zr6] zs5 (fun zr9 zs8 => i32 (zx3 + 1) ∧ J n c_Text_needVars (some .int) 4 [some (jo 10 zo0), some (ji zx1), some (ji (bOr zx2 zr9)), some (ji (zx3 + 1))] [] zs8 (qI Q)))))) : J n c_Text_needVars (some .int) 4 [some (jo 10 zo0), some (ji zx1), some (ji zx2), some (ji zx3)] [] σ (qI Q) := by
  refine J_iload_n (pc' := 5) rfl rfl rfl ?_
  obtain ⟨zg1, W⟩ := W
  refine J_aload_no (pc' := 6) rfl rfl zg1 rfl ?_
  refine J_iload_n (pc' := 7) rfl rfl rfl ?_
  obtain ⟨zg2, W⟩ := W
  refine J_callI (as := [jo 10 zo0, ji zx1]) (rest := [ji zx3]) (pc' := 10) rfl rfl ax_Z_231 rfl rfl (Or.inr (Or.inr ⟨_, _, rfl, zg1⟩)) (Nat.le_of_ble_eq_true rfl) (Nat.le_of_ble_eq_true rfl) (Nat.le_of_ble_eq_true rfl) zg2 trivial trivial rfl W (fun zr4 zs3 W => ?_)
  refine J_icmp (P := zr4 < zx3) (t := 31) (f := 13) rfl rfl rfl jc_gt W (fun W => ?_) (fun W => ?_)
  · refine J_iload_n (pc' := 32) rfl rfl rfl ?_
    exact J_iret rfl rfl ⟨_, rfl, W⟩
  · refine J_iload_n (pc' := 14) rfl rfl rfl ?_
    refine J_aload_no (pc' := 15) rfl rfl zg1 rfl ?_
    refine J_iload_n (pc' := 16) rfl rfl rfl ?_
    refine J_iload_n (pc' := 17) rfl rfl rfl ?_
    refine J_weak (L' := [some (jo 10 zo0), some (ji zx1), none, some (ji zx3)]) (And.intro rfl (And.intro rfl (And.intro rfl trivial))) ?_
    refine J_callO (as := [jo 10 zo0, ji zx1, ji zx3]) (rest := [ji zx2]) (pc' := 20) rfl rfl ax_Z_230 rfl rfl (Or.inr (Or.inr ⟨_, _, rfl, zg1⟩)) (Nat.le_of_ble_eq_true rfl) (Nat.le_of_ble_eq_true rfl) (Nat.le_of_ble_eq_true rfl) zg2 trivial trivial rfl W (fun zr6 zs5 zh7 W => ?_)
    refine J_callI (as := [jo 0 zr6]) (rest := [ji zx2]) (pc' := 23) rfl rfl ax_Z_126 rfl rfl (Or.inr (Or.inr ⟨_, _, rfl, zh7⟩)) (Nat.le_of_ble_eq_true rfl) (Nat.le_of_ble_eq_true rfl) (Nat.le_of_ble_eq_true rfl) zg2 trivial trivial rfl W (fun zr9 zs8 W => ?_)
    refine J_ior (pc' := 24) rfl rfl ?_
    refine J_istore_n (L' := [some (jo 10 zo0), some (ji zx1), some (ji (bOr zx2 zr9)), some (ji zx3)]) (pc' := 25) rfl (Nat.le_of_ble_eq_true rfl) rfl rfl ?_
    obtain ⟨zg10, W⟩ := W
    refine J_iinc (L' := [some (jo 10 zo0), some (ji zx1), some (ji (bOr zx2 zr9)), some (ji (zx3 + 1))]) (pc' := 28) rfl rfl zg10 rfl rfl ?_
    refine J_goto (pc' := 4) rfl rfl ?_
    exact W
theorem wp_Text_scopesRightIn {n : Nat} {σ : jS} {Q : Int → jS → Prop} {zo0 : Int} {zx1 : Int} (W : J n c_Text_scopesRightIn (some .int) 4 [some (jo 10 zo0), some (ji zx1), some (ji 0), some (ji 0)] [] σ (qI Q)) : TrI n i_Text_scopesRightIn [jo 10 zo0, ji zx1] σ Q := by
  refine Tr_of ax_Z_235 ?_
  show J n c_Text_scopesRightIn (some .int) 0 [some (jo 10 zo0), some (ji zx1), none, none] [] σ (qI Q)
  refine J_iconst (pc' := 1) rfl (i32_d rfl) rfl ?_
  refine J_istore_n (L' := [some (jo 10 zo0), some (ji zx1), some (ji 0), none]) (pc' := 2) rfl (Nat.le_of_ble_eq_true rfl) rfl rfl ?_
  refine J_iconst (pc' := 3) rfl (i32_d rfl) rfl ?_
  refine J_istore_n (L' := [some (jo 10 zo0), some (ji zx1), some (ji 0), some (ji 0)]) (pc' := 4) rfl (Nat.le_of_ble_eq_true rfl) rfl rfl ?_
  exact W
theorem wp_Text_scopesRightIn_4 {n : Nat} {σ : jS} {Q : Int → jS → Prop} {zo0 : Int} {zx1 : Int} {zx2 : Int} {zx3 : Int} (W : 0 ≤ zo0 ∧ (if rs σ 10000 zo0 ≤ zx3 then Q zx2 σ else 0 ≤ rl σ 10002 zo0 ∧ 0 ≤ zx3 ∧ zx3 < rl σ 10002 zo0 ∧ (if ¬ ra σ 10002 zo0 zx3 = zx1 then i32 (zx3 + 1) ∧ J n c_Text_scopesRightIn (some .int) 4 [some (jo 10 zo0), some (ji zx1), some (ji zx2), some (ji (zx3 + 1))] [] σ (qI Q) else i32 (zx2 + 1) ∧ i32 (zx3 + 1) ∧ J n c_Text_scopesRightIn (some .int) 4 [some (jo 10 zo0), some (ji zx1), some (ji (zx2 + 1)), some (ji (zx3 + 1))] [] σ (qI Q)))) : J n c_Text_scopesRightIn (some .int) 4 [some (jo 10 zo0), some (ji zx1), some (ji zx2), some (ji zx3)] [] σ (qI Q) := by
  refine J_iload_n (pc' := 5) rfl rfl rfl ?_
  obtain ⟨zg1, W⟩ := W
  refine J_aload_no (pc' := 6) rfl rfl zg1 rfl ?_
  refine J_getI (G := 10000) (pc' := 9) rfl rfl (Nat.le_of_ble_eq_true rfl) rfl zg1 rfl ?_
  refine J_icmp (P := rs σ 10000 zo0 ≤ zx3) (t := 31) (f := 12) rfl rfl rfl jc_ge W (fun W => ?_) (fun W => ?_)
  · refine J_iload_n (pc' := 32) rfl rfl rfl ?_
    exact J_iret rfl rfl ⟨_, rfl, W⟩
  · refine J_aload_no (pc' := 13) rfl rfl zg1 rfl ?_
    obtain ⟨zg2, W⟩ := W
    refine J_getA (G := 10002) (pc' := 16) rfl rfl (Nat.le_of_ble_eq_true rfl) rfl zg1 zg2 rfl ?_
    refine J_iload_n (pc' := 17) rfl rfl rfl ?_
    obtain ⟨zg3, W⟩ := W
    obtain ⟨zg4, W⟩ := W
    refine J_iald (pc' := 18) rfl rfl zg3 zg4 rfl ?_
    refine J_iload_n (pc' := 19) rfl rfl rfl ?_
    refine J_icmp (P := ¬ ra σ 10002 zo0 zx3 = zx1) (t := 25) (f := 22) rfl rfl rfl jc_ne W (fun W => ?_) (fun W => ?_)
    · obtain ⟨zg5, W⟩ := W
      refine J_iinc (L' := [some (jo 10 zo0), some (ji zx1), some (ji zx2), some (ji (zx3 + 1))]) (pc' := 28) rfl rfl zg5 rfl rfl ?_
      refine J_goto (pc' := 4) rfl rfl ?_
      exact W
    · obtain ⟨zg6, W⟩ := W
      refine J_iinc (L' := [some (jo 10 zo0), some (ji zx1), some (ji (zx2 + 1)), some (ji zx3)]) (pc' := 25) rfl rfl zg6 rfl rfl ?_
      obtain ⟨zg7, W⟩ := W
      refine J_iinc (L' := [some (jo 10 zo0), some (ji zx1), some (ji (zx2 + 1)), some (ji (zx3 + 1))]) (pc' := 28) rfl rfl zg7 rfl rfl ?_
      refine J_goto (pc' := 4) rfl rfl ?_
      exact W
theorem wp_Text_settle {n : Nat} {σ : jS} {Q : jS → Prop} {zo0 : Int} (W : J n c_Text_settle none 2 [some (jo 10 zo0), some (ji 0), none] [] σ (qV Q)) : TrV n i_Text_settle [jo 10 zo0] σ Q := by
  refine Tr_of ax_Z_236 ?_
  show J n c_Text_settle none 0 [some (jo 10 zo0), none, none] [] σ (qV Q)
  refine J_iconst (pc' := 1) rfl (i32_d rfl) rfl ?_
  refine J_istore_n (L' := [some (jo 10 zo0), some (ji 0), none]) (pc' := 2) rfl (Nat.le_of_ble_eq_true rfl) rfl rfl ?_
  exact W
theorem wp_Text_settle_2 {n : Nat} {σ : jS} {Q : jS → Prop} {zo0 : Int} {zx1 : Int} (W : 0 ≤ zo0 ∧ (if rs σ 10001 zo0 ≤ zx1 then Q σ else 0 ≤ rl σ 10009 zo0 ∧ 0 ≤ zx1 ∧ zx1 < rl σ 10009 zo0 ∧ (∀ zs3, zs3 = wa σ 10009 zo0 zx1 0 → J n c_Text_settle none 19 [some (jo 10 zo0), some (ji zx1), some (ji 0)] [] zs3 (qV Q)))) : J n c_Text_settle none 2 [some (jo 10 zo0), some (ji zx1), none] [] σ (qV Q) := by
  refine J_iload_n (pc' := 3) rfl rfl rfl ?_
  obtain ⟨zg1, W⟩ := W
  refine J_aload_no (pc' := 4) rfl rfl zg1 rfl ?_
  refine J_getI (G := 10001) (pc' := 7) rfl rfl (Nat.le_of_ble_eq_true rfl) rfl zg1 rfl ?_
  refine J_icmp (P := rs σ 10001 zo0 ≤ zx1) (t := 73) (f := 10) rfl rfl rfl jc_ge W (fun W => ?_) (fun W => ?_)
  · exact J_vret rfl rfl ⟨rfl, W⟩
  · refine J_aload_no (pc' := 11) rfl rfl zg1 rfl ?_
    obtain ⟨zg2, W⟩ := W
    refine J_getA (G := 10009) (pc' := 14) rfl rfl (Nat.le_of_ble_eq_true rfl) rfl zg1 zg2 rfl ?_
    refine J_iload_n (pc' := 15) rfl rfl rfl ?_
    refine J_iconst (pc' := 16) rfl (i32_d rfl) rfl ?_
    obtain ⟨zg4, W⟩ := W
    obtain ⟨zg5, W⟩ := W
    refine J_iast (pc' := 17) rfl rfl (by decide) zg4 zg5 rfl (fun zs3 ezs3 => ?_)
    replace W := W zs3 ezs3
    refine J_iconst (pc' := 18) rfl (i32_d rfl) rfl ?_
    refine J_istore_n (L' := [some (jo 10 zo0), some (ji zx1), some (ji 0)]) (pc' := 19) rfl (Nat.le_of_ble_eq_true rfl) rfl rfl ?_
    exact W
theorem wp_Text_settle_19 {n : Nat} {σ : jS} {Q : jS → Prop} {zo0 : Int} {zx1 : Int} {zx2 : Int} (W : 0 ≤ zo0 ∧ (if rs σ 10001 zo0 ≤ zx2 then i32 (zx1 + 1) ∧ J n c_Text_settle none 2 [some (jo 10 zo0), some (ji (zx1 + 1)), none] [] σ (qV Q) else 1 ≤ n ∧ TrO (n - 1) i_Text_part 0 [jo 10 zo0, ji zx1, ji 0] σ (fun zr5 zs4 => TrO (n - 1) i_Text_part 0 [jo 10 zo0, ji zx2, ji 0] zs4 (fun zr8 zs7 => 0 ≤ rs σ 10007 zo0 ∧ TrI (n - 1) i_Match_becomes [jo 4 (rs σ 10007 zo0), jo 0 zr5, jo 0 zr8] zs7 (fun zr12 zs11 => (if zr12 = 0 then i32 (zx2 + 1) ∧ J n c_Text_settle none 19 [some (jo 10 zo0), some (ji zx1), some (ji (zx2 + 1))] [] zs11 (qV Q) else 0 ≤ rl zs11 10009 zo0 ∧ 0 ≤ zx1 ∧ zx1 < rl zs11 10009 zo0 ∧ (∀ zs17, zs17 = wa zs11 10009 zo0 zx1 (bOr (ra zs11 10009 zo0 zx1) (bShl 1 zx2)) → i32 (zx2 + 1) ∧ J n c_Text_settle none 19 [some (jo 10 zo0), some (ji zx1), some (ji (zx2 + 1))] [] zs17 (qV Q)))))))) : J n c_Text_settle none 19 [some (jo 10 zo0), some (ji zx1), some (ji zx2)] [] σ (qV Q) := by
  refine J_iload_n (pc' := 20) rfl rfl rfl ?_
  obtain ⟨zg1, W⟩ := W
  refine J_aload_no (pc' := 21) rfl rfl zg1 rfl ?_
  refine J_getI (G := 10001) (pc' := 24) rfl rfl (Nat.le_of_ble_eq_true rfl) rfl zg1 rfl ?_
  refine J_icmp (P := rs σ 10001 zo0 ≤ zx2) (t := 67) (f := 27) rfl rfl rfl jc_ge W (fun W => ?_) (fun W => ?_)
  · obtain ⟨zg2, W⟩ := W
    refine J_iinc (L' := [some (jo 10 zo0), some (ji (zx1 + 1)), some (ji zx2)]) (pc' := 70) rfl rfl zg2 rfl rfl ?_
    refine J_goto (pc' := 2) rfl rfl ?_
    refine J_weak (L' := [some (jo 10 zo0), some (ji (zx1 + 1)), none]) (And.intro rfl (And.intro rfl trivial)) ?_
    exact W
  · refine J_aload_no (pc' := 28) rfl rfl zg1 rfl ?_
    refine J_getO (G := 10007) (pc' := 31) rfl rfl (Nat.le_of_ble_eq_true rfl) rfl zg1 rfl ?_
    refine J_aload_no (pc' := 32) rfl rfl zg1 rfl ?_
    refine J_iload_n (pc' := 33) rfl rfl rfl ?_
    refine J_iconst (pc' := 34) rfl (i32_d rfl) rfl ?_
    obtain ⟨zg3, W⟩ := W
    refine J_callO (as := [jo 10 zo0, ji zx1, ji 0]) (rest := [jo 4 (rs σ 10007 zo0)]) (pc' := 37) rfl rfl ax_Z_230 rfl rfl (Or.inr (Or.inr ⟨_, _, rfl, zg1⟩)) (Nat.le_of_ble_eq_true rfl) (Nat.le_of_ble_eq_true rfl) (Nat.le_of_ble_eq_true rfl) zg3 trivial trivial rfl W (fun zr5 zs4 zh6 W => ?_)
    refine J_aload_no (pc' := 38) rfl rfl zg1 rfl ?_
    refine J_iload_n (pc' := 39) rfl rfl rfl ?_
    refine J_iconst (pc' := 40) rfl (i32_d rfl) rfl ?_
    refine J_callO (as := [jo 10 zo0, ji zx2, ji 0]) (rest := [jo 0 zr5, jo 4 (rs σ 10007 zo0)]) (pc' := 43) rfl rfl ax_Z_230 rfl rfl (Or.inr (Or.inr ⟨_, _, rfl, zg1⟩)) (Nat.le_of_ble_eq_true rfl) (Nat.le_of_ble_eq_true rfl) (Nat.le_of_ble_eq_true rfl) zg3 trivial trivial rfl W (fun zr8 zs7 zh9 W => ?_)
    obtain ⟨zg10, W⟩ := W
    refine J_callI (as := [jo 4 (rs σ 10007 zo0), jo 0 zr5, jo 0 zr8]) (rest := []) (pc' := 46) rfl rfl ax_Z_141 rfl rfl (Or.inr (Or.inr ⟨_, _, rfl, zg10⟩)) (Nat.le_of_ble_eq_true rfl) (Nat.le_of_ble_eq_true rfl) (Nat.le_of_ble_eq_true rfl) zg3 trivial trivial rfl W (fun zr12 zs11 W => ?_)
    refine J_if (P := zr12 = 0) (t := 61) (f := 49) rfl rfl rfl jc_eq W (fun W => ?_) (fun W => ?_)
    · obtain ⟨zg13, W⟩ := W
      refine J_iinc (L' := [some (jo 10 zo0), some (ji zx1), some (ji (zx2 + 1))]) (pc' := 64) rfl rfl zg13 rfl rfl ?_
      refine J_goto (pc' := 19) rfl rfl ?_
      exact W
    · refine J_aload_no (pc' := 50) rfl rfl zg1 rfl ?_
      obtain ⟨zg14, W⟩ := W
      refine J_getA (G := 10009) (pc' := 53) rfl rfl (Nat.le_of_ble_eq_true rfl) rfl zg1 zg14 rfl ?_
      refine J_iload_n (pc' := 54) rfl rfl rfl ?_
      refine J_dup2 (pc' := 55) rfl rfl rfl rfl ?_
      obtain ⟨zg15, W⟩ := W
      obtain ⟨zg16, W⟩ := W
      refine J_iald (pc' := 56) rfl rfl zg15 zg16 rfl ?_
      refine J_iconst (pc' := 57) rfl (i32_d rfl) rfl ?_
      refine J_iload_n (pc' := 58) rfl rfl rfl ?_
      refine J_ishl (pc' := 59) rfl rfl ?_
      refine J_ior (pc' := 60) rfl rfl ?_
      refine J_iast (pc' := 61) rfl rfl (by decide) zg15 zg16 rfl (fun zs17 ezs17 => ?_)
      replace W := W zs17 ezs17
      obtain ⟨zg18, W⟩ := W
      refine J_iinc (L' := [some (jo 10 zo0), some (ji zx1), some (ji (zx2 + 1))]) (pc' := 64) rfl rfl zg18 rfl rfl ?_
      refine J_goto (pc' := 19) rfl rfl ?_
      exact W
theorem wp_Text_isCase {n : Nat} {σ : jS} {Q : Int → jS → Prop} {zo0 : Int} {zx1 : Int} {zx2 : Int} (W : 0 ≤ zo0 ∧ 1 ≤ n ∧ TrI (n - 1) i_Text_hasGiven [jo 10 zo0, ji zx2] σ (fun zr4 zs3 => (if zr4 = 0 then Q 0 zs3 else 0 ≤ rl zs3 10009 zo0 ∧ 0 ≤ zx2 ∧ zx2 < rl zs3 10009 zo0 ∧ TrI (n - 1) i_Top_isIn [ji (ra zs3 10009 zo0 zx2), ji zx1] zs3 (fun zr9 zs8 => (if zr9 = 0 then Q 0 zs8 else Q 1 zs8))))) : TrI n i_Text_isCase [jo 10 zo0, ji zx1, ji zx2] σ Q := by
  refine Tr_of ax_Z_237 ?_
  show J n c_Text_isCase (some .boolean) 0 [some (jo 10 zo0), some (ji zx1), some (ji zx2)] [] σ (qI Q)
  obtain ⟨zg1, W⟩ := W
  refine J_aload_no (pc' := 1) rfl rfl zg1 rfl ?_
  refine J_iload_n (pc' := 2) rfl rfl rfl ?_
  obtain ⟨zg2, W⟩ := W
  refine J_callI (as := [jo 10 zo0, ji zx2]) (rest := []) (pc' := 5) rfl rfl ax_Z_225 rfl rfl (Or.inr (Or.inr ⟨_, _, rfl, zg1⟩)) (Nat.le_of_ble_eq_true rfl) (Nat.le_of_ble_eq_true rfl) (Nat.le_of_ble_eq_true rfl) zg2 trivial trivial rfl W (fun zr4 zs3 W => ?_)
  refine J_if (P := zr4 = 0) (t := 25) (f := 8) rfl rfl rfl jc_eq W (fun W => ?_) (fun W => ?_)
  · refine J_iconst (pc' := 26) rfl (i32_d rfl) rfl ?_
    exact J_zret rfl rfl (Or.inl rfl) ⟨_, rfl, W⟩
  · refine J_aload_no (pc' := 9) rfl rfl zg1 rfl ?_
    obtain ⟨zg5, W⟩ := W
    refine J_getA (G := 10009) (pc' := 12) rfl rfl (Nat.le_of_ble_eq_true rfl) rfl zg1 zg5 rfl ?_
    refine J_iload_n (pc' := 13) rfl rfl rfl ?_
    obtain ⟨zg6, W⟩ := W
    obtain ⟨zg7, W⟩ := W
    refine J_iald (pc' := 14) rfl rfl zg6 zg7 rfl ?_
    refine J_iload_n (pc' := 15) rfl rfl rfl ?_
    refine J_weak (L' := [none, none, none]) trivial ?_
    refine J_callI (as := [ji (ra zs3 10009 zo0 zx2), ji zx1]) (rest := []) (pc' := 18) rfl rfl ax_Z_279 rfl rfl (Or.inr (Or.inl rfl)) (Nat.le_of_ble_eq_true rfl) (Nat.le_of_ble_eq_true rfl) (Nat.le_of_ble_eq_true rfl) zg2 trivial trivial rfl W (fun zr9 zs8 W => ?_)
    refine J_if (P := zr9 = 0) (t := 25) (f := 21) rfl rfl rfl jc_eq W (fun W => ?_) (fun W => ?_)
    · refine J_iconst (pc' := 26) rfl (i32_d rfl) rfl ?_
      exact J_zret rfl rfl (Or.inl rfl) ⟨_, rfl, W⟩
    · refine J_iconst (pc' := 22) rfl (i32_d rfl) rfl ?_
      refine J_goto (pc' := 26) rfl rfl ?_
      exact J_zret rfl rfl (Or.inr rfl) ⟨_, rfl, W⟩
theorem wp_Text_hasMoreSpecial {n : Nat} {σ : jS} {Q : Int → jS → Prop} {zo0 : Int} {zx1 : Int} {zx2 : Int} (W : J n c_Text_hasMoreSpecial (some .boolean) 2 [some (jo 10 zo0), some (ji zx1), some (ji zx2), some (ji 0)] [] σ (qI Q)) : TrI n i_Text_hasMoreSpecial [jo 10 zo0, ji zx1, ji zx2] σ Q := by
  refine Tr_of ax_Z_238 ?_
  show J n c_Text_hasMoreSpecial (some .boolean) 0 [some (jo 10 zo0), some (ji zx1), some (ji zx2), none] [] σ (qI Q)
  refine J_iconst (pc' := 1) rfl (i32_d rfl) rfl ?_
  refine J_istore_n (L' := [some (jo 10 zo0), some (ji zx1), some (ji zx2), some (ji 0)]) (pc' := 2) rfl (Nat.le_of_ble_eq_true rfl) rfl rfl ?_
  exact W
theorem wp_Text_hasMoreSpecial_2 {n : Nat} {σ : jS} {Q : Int → jS → Prop} {zo0 : Int} {zx1 : Int} {zx2 : Int} {zx3 : Int} (W : 0 ≤ zo0 ∧ (if rs σ 10001 zo0 ≤ zx3 then Q 0 σ else 1 ≤ n ∧ TrI (n - 1) i_Top_isIn [ji zx2, ji zx3] σ (fun zr4 zs3 => (if zr4 = 0 then i32 (zx3 + 1) ∧ J n c_Text_hasMoreSpecial (some .boolean) 2 [some (jo 10 zo0), some (ji zx1), some (ji zx2), some (ji (zx3 + 1))] [] zs3 (qI Q) else TrI (n - 1) i_Text_isCase [jo 10 zo0, ji zx3, ji zx1] zs3 (fun zr7 zs6 => (if zr7 = 0 then i32 (zx3 + 1) ∧ J n c_Text_hasMoreSpecial (some .boolean) 2 [some (jo 10 zo0), some (ji zx1), some (ji zx2), some (ji (zx3 + 1))] [] zs6 (qI Q) else TrI (n - 1) i_Text_isCase [jo 10 zo0, ji zx1, ji zx3] zs6 (fun zr10 zs9 => (if ¬ zr10 = 0 then i32 (zx3 + 1) ∧ J n c_Text_hasMoreSpecial (some .boolean) 2 [some (jo 10 zo0), some (ji zx1), some (ji zx2), some (ji (zx3 + 1))] [] zs9 (qI Q) else Q 1 zs9)))))))) : J n c_Text_hasMoreSpecial (some .boolean) 2 [some (jo 10 zo0), some (ji zx1), some (ji zx2), some (ji zx3)] [] σ (qI Q) := by
  refine J_iload_n (pc' := 3) rfl rfl rfl ?_
  obtain ⟨zg1, W⟩ := W
  refine J_aload_no (pc' := 4) rfl rfl zg1 rfl ?_
  refine J_getI (G := 10001) (pc' := 7) rfl rfl (Nat.le_of_ble_eq_true rfl) rfl zg1 rfl ?_
  refine J_icmp (P := rs σ 10001 zo0 ≤ zx3) (t := 44) (f := 10) rfl rfl rfl jc_ge W (fun W => ?_) (fun W => ?_)
  · refine J_iconst (pc' := 45) rfl (i32_d rfl) rfl ?_
    exact J_zret rfl rfl (Or.inl rfl) ⟨_, rfl, W⟩
  · refine J_iload_n (pc' := 11) rfl rfl rfl ?_
    refine J_iload_n (pc' := 12) rfl rfl rfl ?_
    obtain ⟨zg2, W⟩ := W
    refine J_callI (as := [ji zx2, ji zx3]) (rest := []) (pc' := 15) rfl rfl ax_Z_279 rfl rfl (Or.inr (Or.inl rfl)) (Nat.le_of_ble_eq_true rfl) (Nat.le_of_ble_eq_true rfl) (Nat.le_of_ble_eq_true rfl) zg2 trivial trivial rfl W (fun zr4 zs3 W => ?_)
    refine J_if (P := zr4 = 0) (t := 38) (f := 18) rfl rfl rfl jc_eq W (fun W => ?_) (fun W => ?_)
    · obtain ⟨zg5, W⟩ := W
      refine J_iinc (L' := [some (jo 10 zo0), some (ji zx1), some (ji zx2), some (ji (zx3 + 1))]) (pc' := 41) rfl rfl zg5 rfl rfl ?_
      refine J_goto (pc' := 2) rfl rfl ?_
      exact W
    · refine J_aload_no (pc' := 19) rfl rfl zg1 rfl ?_
      refine J_iload_n (pc' := 20) rfl rfl rfl ?_
      refine J_iload_n (pc' := 21) rfl rfl rfl ?_
      refine J_callI (as := [jo 10 zo0, ji zx3, ji zx1]) (rest := []) (pc' := 24) rfl rfl ax_Z_237 rfl rfl (Or.inr (Or.inr ⟨_, _, rfl, zg1⟩)) (Nat.le_of_ble_eq_true rfl) (Nat.le_of_ble_eq_true rfl) (Nat.le_of_ble_eq_true rfl) zg2 trivial trivial rfl W (fun zr7 zs6 W => ?_)
      refine J_if (P := zr7 = 0) (t := 38) (f := 27) rfl rfl rfl jc_eq W (fun W => ?_) (fun W => ?_)
      · obtain ⟨zg8, W⟩ := W
        refine J_iinc (L' := [some (jo 10 zo0), some (ji zx1), some (ji zx2), some (ji (zx3 + 1))]) (pc' := 41) rfl rfl zg8 rfl rfl ?_
        refine J_goto (pc' := 2) rfl rfl ?_
        exact W
      · refine J_aload_no (pc' := 28) rfl rfl zg1 rfl ?_
        refine J_iload_n (pc' := 29) rfl rfl rfl ?_
        refine J_iload_n (pc' := 30) rfl rfl rfl ?_
        refine J_callI (as := [jo 10 zo0, ji zx1, ji zx3]) (rest := []) (pc' := 33) rfl rfl ax_Z_237 rfl rfl (Or.inr (Or.inr ⟨_, _, rfl, zg1⟩)) (Nat.le_of_ble_eq_true rfl) (Nat.le_of_ble_eq_true rfl) (Nat.le_of_ble_eq_true rfl) zg2 trivial trivial rfl W (fun zr10 zs9 W => ?_)
        refine J_if (P := ¬ zr10 = 0) (t := 38) (f := 36) rfl rfl rfl jc_ne W (fun W => ?_) (fun W => ?_)
        · obtain ⟨zg11, W⟩ := W
          refine J_iinc (L' := [some (jo 10 zo0), some (ji zx1), some (ji zx2), some (ji (zx3 + 1))]) (pc' := 41) rfl rfl zg11 rfl rfl ?_
          refine J_goto (pc' := 2) rfl rfl ?_
          exact W
        · refine J_iconst (pc' := 37) rfl (i32_d rfl) rfl ?_
          exact J_zret rfl rfl (Or.inr rfl) ⟨_, rfl, W⟩
theorem wp_Text_bestOf {n : Nat} {σ : jS} {Q : Int → jS → Prop} {zo0 : Int} {zx1 : Int} (W : J n c_Text_bestOf (some .int) 4 [some (jo 10 zo0), some (ji zx1), some (ji 0), some (ji 0)] [] σ (qI Q)) : TrI n i_Text_bestOf [jo 10 zo0, ji zx1] σ Q := by
  refine Tr_of ax_Z_239 ?_
  show J n c_Text_bestOf (some .int) 0 [some (jo 10 zo0), some (ji zx1), none, none] [] σ (qI Q)
  refine J_iconst (pc' := 1) rfl (i32_d rfl) rfl ?_
  refine J_istore_n (L' := [some (jo 10 zo0), some (ji zx1), some (ji 0), none]) (pc' := 2) rfl (Nat.le_of_ble_eq_true rfl) rfl rfl ?_
  refine J_iconst (pc' := 3) rfl (i32_d rfl) rfl ?_
  refine J_istore_n (L' := [some (jo 10 zo0), some (ji zx1), some (ji 0), some (ji 0)]) (pc' := 4) rfl (Nat.le_of_ble_eq_true rfl) rfl rfl ?_
  exact W
theorem wp_Text_bestOf_4 {n : Nat} {σ : jS} {Q : Int → jS → Prop} {zo0 : Int} {zx1 : Int} {zx2 : Int} {zx3 : Int} (W : 0 ≤ zo0 ∧ (if rs σ 10001 zo0 ≤ zx3 then Q zx2 σ else 1 ≤ n ∧ TrI (n - 1) i_Top_isIn [ji zx1, ji zx3] σ (fun zr4 zs3 => (if zr4 = 0 then i32 (zx3 + 1) ∧ J n c_Text_bestOf (some .int) 4 [some (jo 10 zo0), some (ji zx1), some (ji zx2), some (ji (zx3 + 1))] [] zs3 (qI Q) else TrI (n - 1) i_Text_hasMoreSpecial [jo 10 zo0, ji zx3, ji zx1] zs3 (fun zr7 zs6 => (if ¬ zr7 = 0 then i32 (zx3 + 1) ∧ J n c_Text_bestOf (some .int) 4 [some (jo 10 zo0), some (ji zx1), some (ji zx2), some (ji (zx3 + 1))] [] zs6 (qI Q) else i32 (zx3 + 1) ∧ J n c_Text_bestOf (some .int) 4 [some (jo 10 zo0), some (ji zx1), some (ji (bOr zx2 (bShl 1 zx3))), some (ji (zx3 + 1))] [] zs6 (qI Q))))))) : J n c_Text_bestOf (some .int) 4 [some (jo 10 zo0), some (ji zx1), some (ji zx2), some (ji zx3)] [] σ (qI Q) := by
  refine J_iload_n (pc' := 5) rfl rfl rfl ?_
  obtain ⟨zg1, W⟩ := W
  refine J_aload_no (pc' := 6) rfl rfl zg1 rfl ?_
  refine J_getI (G := 10001) (pc' := 9) rfl rfl (Nat.le_of_ble_eq_true rfl) rfl zg1 rfl ?_
  refine J_icmp (P := rs σ 10001 zo0 ≤ zx3) (t := 41) (f := 12) rfl rfl rfl jc_ge W (fun W => ?_) (fun W => ?_)
  · refine J_iload_n (pc' := 42) rfl rfl rfl ?_
    exact J_iret rfl rfl ⟨_, rfl, W⟩
  · refine J_iload_n (pc' := 13) rfl rfl rfl ?_
    refine J_iload_n (pc' := 14) rfl rfl rfl ?_
    obtain ⟨zg2, W⟩ := W
    refine J_callI (as := [ji zx1, ji zx3]) (rest := []) (pc' := 17) rfl rfl ax_Z_279 rfl rfl (Or.inr (Or.inl rfl)) (Nat.le_of_ble_eq_true rfl) (Nat.le_of_ble_eq_true rfl) (Nat.le_of_ble_eq_true rfl) zg2 trivial trivial rfl W (fun zr4 zs3 W => ?_)
    refine J_if (P := zr4 = 0) (t := 35) (f := 20) rfl rfl rfl jc_eq W (fun W => ?_) (fun W => ?_)
    · obtain ⟨zg5, W⟩ := W
      refine J_iinc (L' := [some (jo 10 zo0), some (ji zx1), some (ji zx2), some (ji (zx3 + 1))]) (pc' := 38) rfl rfl zg5 rfl rfl ?_
      refine J_goto (pc' := 4) rfl rfl ?_
      exact W
    · refine J_aload_no (pc' := 21) rfl rfl zg1 rfl ?_
      refine J_iload_n (pc' := 22) rfl rfl rfl ?_
      refine J_iload_n (pc' := 23) rfl rfl rfl ?_
      refine J_callI (as := [jo 10 zo0, ji zx3, ji zx1]) (rest := []) (pc' := 26) rfl rfl ax_Z_238 rfl rfl (Or.inr (Or.inr ⟨_, _, rfl, zg1⟩)) (Nat.le_of_ble_eq_true rfl) (Nat.le_of_ble_eq_true rfl) (Nat.le_of_ble_eq_true rfl) zg2 trivial trivial rfl W (fun zr7 zs6 W => ?_)
      refine J_if (P := ¬ zr7 = 0) (t := 35) (f := 29) rfl rfl rfl jc_ne W (fun W => ?_) (fun W => ?_)
      · obtain ⟨zg8, W⟩ := W
        refine J_iinc (L' := [some (jo 10 zo0), some (ji zx1), some (ji zx2), some (ji (zx3 + 1))]) (pc' := 38) rfl rfl zg8 rfl rfl ?_
        refine J_goto (pc' := 4) rfl rfl ?_
        exact W
      · refine J_iload_n (pc' := 30) rfl rfl rfl ?_
        refine J_iconst (pc' := 31) rfl (i32_d rfl) rfl ?_
        refine J_iload_n (pc' := 32) rfl rfl rfl ?_
        refine J_ishl (pc' := 33) rfl rfl ?_
        refine J_ior (pc' := 34) rfl rfl ?_
        refine J_istore_n (L' := [some (jo 10 zo0), some (ji zx1), some (ji (bOr zx2 (bShl 1 zx3))), some (ji zx3)]) (pc' := 35) rfl (Nat.le_of_ble_eq_true rfl) rfl rfl ?_
        obtain ⟨zg9, W⟩ := W
        refine J_iinc (L' := [some (jo 10 zo0), some (ji zx1), some (ji (bOr zx2 (bShl 1 zx3))), some (ji (zx3 + 1))]) (pc' := 38) rfl rfl zg9 rfl rfl ?_
        refine J_goto (pc' := 4) rfl rfl ?_
        exact W
theorem wp_Written_init {n : Nat} {σ : jS} {Q : jS → Prop} {zo0 : Int} (W : 0 ≤ zo0 ∧ 1 ≤ n ∧ (∀ zs3, zs3 = nA σ 0 2000 → rl zs3 11001 zo0 < 0 ∧ (∀ zs4, zs4 = mA zs3 0 11001 zo0 → (∀ zs6, zs6 = nA zs4 0 101 → rl zs6 11002 zo0 < 0 ∧ (∀ zs7, zs7 = mA zs6 0 11002 zo0 → Q zs7))))) : TrV n i_Written_init [jo 11 zo0] σ Q := by
  refine Tr_of ax_Z_240 ?_
  show J n c_Written_init none 0 [some (jo 11 zo0)] [] σ (qV Q)
  obtain ⟨zg1, W⟩ := W
  refine J_aload_no (pc' := 1) rfl rfl zg1 rfl ?_
  obtain ⟨zg2, W⟩ := W
  refine J_oinit (pc' := 4) rfl zg1 zg2 (Nat.le_of_ble_eq_true rfl) rfl ?_
  refine J_aload_no (pc' := 5) rfl rfl zg1 rfl ?_
  refine J_sipush (pc' := 8) rfl (by decide) (by decide) rfl ?_
  refine J_newa (pc' := 10) rfl (by decide) (by decide) (by decide) trivial trivial rfl (fun zs3 ezs3 => ?_)
  replace W := W zs3 ezs3
  obtain ⟨zg5, W⟩ := W
  refine J_putT (G := 11001) (t := 0) (pc' := 13) rfl rfl (Nat.le_of_ble_eq_true rfl) rfl rfl rfl zg1 (Or.inr zg5) trivial trivial trivial trivial rfl (fun zs4 ezs4 => ?_)
  replace W := W zs4 ezs4
  refine J_aload_no (pc' := 14) rfl rfl zg1 rfl ?_
  refine J_bipush (pc' := 16) rfl (by decide) (by decide) rfl ?_
  refine J_newa (pc' := 18) rfl (by decide) (by decide) (by decide) trivial trivial rfl (fun zs6 ezs6 => ?_)
  replace W := W zs6 ezs6
  obtain ⟨zg8, W⟩ := W
  refine J_putT (G := 11002) (t := 0) (pc' := 21) rfl rfl (Nat.le_of_ble_eq_true rfl) rfl rfl rfl zg1 (Or.inr zg8) trivial trivial trivial trivial rfl (fun zs7 ezs7 => ?_)
  replace W := W zs7 ezs7
  exact J_vret rfl rfl ⟨rfl, W⟩
theorem wp_Written_clear {n : Nat} {σ : jS} {Q : jS → Prop} {zo0 : Int} (W : 0 ≤ zo0 ∧ (∀ zs2, zs2 = ws σ 11000 zo0 0 → Q zs2)) : TrV n i_Written_clear [jo 11 zo0] σ Q := by
  refine Tr_of ax_Z_241 ?_
  show J n c_Written_clear none 0 [some (jo 11 zo0)] [] σ (qV Q)
  obtain ⟨zg1, W⟩ := W
  refine J_aload_no (pc' := 1) rfl rfl zg1 rfl ?_
  refine J_iconst (pc' := 2) rfl (i32_d rfl) rfl ?_
  refine J_putI (G := 11000) (pc' := 5) rfl rfl (Nat.le_of_ble_eq_true rfl) rfl rfl zg1 rfl (fun zs2 ezs2 => ?_)
  replace W := W zs2 ezs2
  exact J_vret rfl rfl ⟨rfl, W⟩
theorem wp_Written_at {n : Nat} {σ : jS} {Q : Int → jS → Prop} {zo0 : Int} {zx1 : Int} (W : (if zx1 < 0 then Q (-1) σ else 0 ≤ zo0 ∧ (if rs σ 11000 zo0 ≤ zx1 then Q (-1) σ else (if 2000 ≤ zx1 then Q (-1) σ else 0 ≤ rl σ 11001 zo0 ∧ 0 ≤ zx1 ∧ zx1 < rl σ 11001 zo0 ∧ Q (ra σ 11001 zo0 zx1) σ)))) : TrI n i_Written_at [jo 11 zo0, ji zx1] σ Q := by
  refine Tr_of ax_Z_242 ?_
  show J n c_Written_at (some .int) 0 [some (jo 11 zo0), some (ji zx1)] [] σ (qI Q)
  refine J_iload_n (pc' := 1) rfl rfl rfl ?_
  refine J_if (P := zx1 < 0) (t := 28) (f := 4) rfl rfl rfl jc_lt W (fun W => ?_) (fun W => ?_)
  · refine J_iconst (pc' := 29) rfl (i32_d rfl) rfl ?_
    exact J_iret rfl rfl ⟨_, rfl, W⟩
  · refine J_iload_n (pc' := 5) rfl rfl rfl ?_
    obtain ⟨zg1, W⟩ := W
    refine J_aload_no (pc' := 6) rfl rfl zg1 rfl ?_
    refine J_getI (G := 11000) (pc' := 9) rfl rfl (Nat.le_of_ble_eq_true rfl) rfl zg1 rfl ?_
    refine J_icmp (P := rs σ 11000 zo0 ≤ zx1) (t := 28) (f := 12) rfl rfl rfl jc_ge W (fun W => ?_) (fun W => ?_)
    · refine J_iconst (pc' := 29) rfl (i32_d rfl) rfl ?_
      exact J_iret rfl rfl ⟨_, rfl, W⟩
    · refine J_iload_n (pc' := 13) rfl rfl rfl ?_
      refine J_sipush (pc' := 16) rfl (by decide) (by decide) rfl ?_
      refine J_icmp (P := 2000 ≤ zx1) (t := 28) (f := 19) rfl rfl rfl jc_ge W (fun W => ?_) (fun W => ?_)
      · refine J_iconst (pc' := 29) rfl (i32_d rfl) rfl ?_
        exact J_iret rfl rfl ⟨_, rfl, W⟩
      · refine J_aload_no (pc' := 20) rfl rfl zg1 rfl ?_
        obtain ⟨zg2, W⟩ := W
        refine J_getA (G := 11001) (pc' := 23) rfl rfl (Nat.le_of_ble_eq_true rfl) rfl zg1 zg2 rfl ?_
        refine J_iload_n (pc' := 24) rfl rfl rfl ?_
        obtain ⟨zg3, W⟩ := W
        obtain ⟨zg4, W⟩ := W
        refine J_iald (pc' := 25) rfl rfl zg3 zg4 rfl ?_
        refine J_goto (pc' := 29) rfl rfl ?_
        exact J_iret rfl rfl ⟨_, rfl, W⟩
theorem wp_Written_add {n : Nat} {σ : jS} {Q : jS → Prop} {zo0 : Int} {zx1 : Int} (W : 0 ≤ zo0 ∧ (if 2000 ≤ rs σ 11000 zo0 then Q σ else 0 ≤ rl σ 11001 zo0 ∧ 0 ≤ rs σ 11000 zo0 ∧ rs σ 11000 zo0 < rl σ 11001 zo0 ∧ (∀ zs3, zs3 = wa σ 11001 zo0 (rs σ 11000 zo0) zx1 → i32 ((rs zs3 11000 zo0) + 1) ∧ (∀ zs7, zs7 = ws zs3 11000 zo0 ((rs zs3 11000 zo0) + 1) → Q zs7)))) : TrV n i_Written_add [jo 11 zo0, ji zx1] σ Q := by
  refine Tr_of ax_Z_243 ?_
  show J n c_Written_add none 0 [some (jo 11 zo0), some (ji zx1)] [] σ (qV Q)
  obtain ⟨zg1, W⟩ := W
  refine J_aload_no (pc' := 1) rfl rfl zg1 rfl ?_
  refine J_getI (G := 11000) (pc' := 4) rfl rfl (Nat.le_of_ble_eq_true rfl) rfl zg1 rfl ?_
  refine J_sipush (pc' := 7) rfl (by decide) (by decide) rfl ?_
  refine J_icmp (P := 2000 ≤ rs σ 11000 zo0) (t := 30) (f := 10) rfl rfl rfl jc_ge W (fun W => ?_) (fun W => ?_)
  · exact J_vret rfl rfl ⟨rfl, W⟩
  · refine J_aload_no (pc' := 11) rfl rfl zg1 rfl ?_
    obtain ⟨zg2, W⟩ := W
    refine J_getA (G := 11001) (pc' := 14) rfl rfl (Nat.le_of_ble_eq_true rfl) rfl zg1 zg2 rfl ?_
    refine J_aload_no (pc' := 15) rfl rfl zg1 rfl ?_
    refine J_getI (G := 11000) (pc' := 18) rfl rfl (Nat.le_of_ble_eq_true rfl) rfl zg1 rfl ?_
    refine J_iload_n (pc' := 19) rfl rfl rfl ?_
    obtain ⟨zg4, W⟩ := W
    obtain ⟨zg5, W⟩ := W
    refine J_iast (pc' := 20) rfl rfl (by decide) zg4 zg5 rfl (fun zs3 ezs3 => ?_)
    replace W := W zs3 ezs3
    refine J_aload_no (pc' := 21) rfl rfl zg1 rfl ?_
    refine J_dup (pc' := 22) rfl rfl rfl ?_
    refine J_getI (G := 11000) (pc' := 25) rfl rfl (Nat.le_of_ble_eq_true rfl) rfl zg1 rfl ?_
    refine J_iconst (pc' := 26) rfl (i32_d rfl) rfl ?_
    obtain ⟨zg6, W⟩ := W
    refine J_iadd (pc' := 27) rfl zg6 rfl ?_
    refine J_putI (G := 11000) (pc' := 30) rfl rfl (Nat.le_of_ble_eq_true rfl) rfl rfl zg1 rfl (fun zs7 ezs7 => ?_)
    replace W := W zs7 ezs7
    exact J_vret rfl rfl ⟨rfl, W⟩
theorem wp_Written_addNumber {n : Nat} {σ : jS} {Q : jS → Prop} {zo0 : Int} {zx1 : Int} (W : (if zx1 < 10 then 0 ≤ zo0 ∧ 0 ≤ zx1 ∧ i32 (48 + (zx1 % 10)) ∧ 1 ≤ n ∧ TrV (n - 1) i_Written_add [jo 11 zo0, ji (48 + (zx1 % 10))] σ (fun zs5 => Q zs5) else 0 ≤ zo0 ∧ 0 ≤ zx1 ∧ 0 ≤ zx1 / 10 ∧ i32 (48 + ((zx1 / 10) % 10)) ∧ 1 ≤ n ∧ TrV (n - 1) i_Written_add [jo 11 zo0, ji (48 + ((zx1 / 10) % 10))] σ (fun zs12 => i32 (48 + (zx1 % 10)) ∧ TrV (n - 1) i_Written_add [jo 11 zo0, ji (48 + (zx1 % 10))] zs12 (fun zs15 => Q zs15)))) : TrV n i_Written_addNumber [jo 11 zo0, ji zx1] σ Q := by
  refine Tr_of ax_Z_244 ?_
  show J n c_Written_addNumber none 0 [some (jo 11 zo0), some (ji zx1)] [] σ (qV Q)
  refine J_iload_n (pc' := 1) rfl rfl rfl ?_
  refine J_bipush (pc' := 3) rfl (by decide) (by decide) rfl ?_
  refine J_icmp (P := zx1 < 10) (t := 20) (f := 6) rfl rfl rfl jc_lt W (fun W => ?_) (fun W => ?_)
  · obtain ⟨zg1, W⟩ := W
    refine J_aload_no (pc' := 21) rfl rfl zg1 rfl ?_
    refine J_bipush (pc' := 23) rfl (by decide) (by decide) rfl ?_
    refine J_iload_n (pc' := 24) rfl rfl rfl ?_
    refine J_bipush (pc' := 26) rfl (by decide) (by decide) rfl ?_
    obtain ⟨zg2, W⟩ := W
    refine J_irem (pc' := 27) rfl zg2 (by decide) rfl ?_
    obtain ⟨zg3, W⟩ := W
    refine J_iadd (pc' := 28) rfl zg3 rfl ?_
    obtain ⟨zg4, W⟩ := W
    refine J_weak (L' := [none, none]) trivial ?_
    refine J_callV (as := [jo 11 zo0, ji (48 + (zx1 % 10))]) (rest := []) (pc' := 31) rfl rfl ax_Z_243 rfl rfl (Or.inr (Or.inr ⟨_, _, rfl, zg1⟩)) (Nat.le_of_ble_eq_true rfl) (Nat.le_of_ble_eq_true rfl) (Nat.le_of_ble_eq_true rfl) zg4 trivial trivial rfl W (fun zs5 W => ?_)
    exact J_vret rfl rfl ⟨rfl, W⟩
  · obtain ⟨zg7, W⟩ := W
    refine J_aload_no (pc' := 7) rfl rfl zg7 rfl ?_
    refine J_bipush (pc' := 9) rfl (by decide) (by decide) rfl ?_
    refine J_iload_n (pc' := 10) rfl rfl rfl ?_
    refine J_bipush (pc' := 12) rfl (by decide) (by decide) rfl ?_
    obtain ⟨zg8, W⟩ := W
    refine J_idiv (pc' := 13) rfl zg8 (by decide) rfl ?_
    refine J_bipush (pc' := 15) rfl (by decide) (by decide) rfl ?_
    obtain ⟨zg9, W⟩ := W
    refine J_irem (pc' := 16) rfl zg9 (by decide) rfl ?_
    obtain ⟨zg10, W⟩ := W
    refine J_iadd (pc' := 17) rfl zg10 rfl ?_
    obtain ⟨zg11, W⟩ := W
    refine J_callV (as := [jo 11 zo0, ji (48 + ((zx1 / 10) % 10))]) (rest := []) (pc' := 20) rfl rfl ax_Z_243 rfl rfl (Or.inr (Or.inr ⟨_, _, rfl, zg7⟩)) (Nat.le_of_ble_eq_true rfl) (Nat.le_of_ble_eq_true rfl) (Nat.le_of_ble_eq_true rfl) zg11 trivial trivial rfl W (fun zs12 W => ?_)
    refine J_aload_no (pc' := 21) rfl rfl zg7 rfl ?_
    refine J_bipush (pc' := 23) rfl (by decide) (by decide) rfl ?_
    refine J_iload_n (pc' := 24) rfl rfl rfl ?_
    refine J_bipush (pc' := 26) rfl (by decide) (by decide) rfl ?_
    refine J_irem (pc' := 27) rfl zg8 (by decide) rfl ?_
    obtain ⟨zg14, W⟩ := W
    refine J_iadd (pc' := 28) rfl zg14 rfl ?_
    refine J_weak (L' := [none, none]) trivial ?_
    refine J_callV (as := [jo 11 zo0, ji (48 + (zx1 % 10))]) (rest := []) (pc' := 31) rfl rfl ax_Z_243 rfl rfl (Or.inr (Or.inr ⟨_, _, rfl, zg7⟩)) (Nat.le_of_ble_eq_true rfl) (Nat.le_of_ble_eq_true rfl) (Nat.le_of_ble_eq_true rfl) zg11 trivial trivial rfl W (fun zs15 W => ?_)
    exact J_vret rfl rfl ⟨rfl, W⟩
theorem wp_Written_addFlat {n : Nat} {σ : jS} {Q : jS → Prop} {zo0 : Int} {zo1 : Int} (W : J n c_Written_addFlat none 4 [some (jo 11 zo0), some (jo 0 zo1), some (ji 0), some (ji 0), none] [] σ (qV Q)) : TrV n i_Written_addFlat [jo 11 zo0, jo 0 zo1] σ Q := by
  refine Tr_of ax_Z_245 ?_
  show J n c_Written_addFlat none 0 [some (jo 11 zo0), some (jo 0 zo1), none, none, none] [] σ (qV Q)
  refine J_iconst (pc' := 1) rfl (i32_d rfl) rfl ?_
  refine J_istore_n (L' := [some (jo 11 zo0), some (jo 0 zo1), some (ji 0), none, none]) (pc' := 2) rfl (Nat.le_of_ble_eq_true rfl) rfl rfl ?_
  refine J_iconst (pc' := 3) rfl (i32_d rfl) rfl ?_
  refine J_istore_n (L' := [some (jo 11 zo0), some (jo 0 zo1), some (ji 0), some (ji 0), none]) (pc' := 4) rfl (Nat.le_of_ble_eq_true rfl) rfl rfl ?_
  exact W
theorem wp_Written_addFlat_4 {n : Nat} {σ : jS} {Q : jS → Prop} {zo0 : Int} {zo1 : Int} {zx2 : Int} {zx3 : Int} (W : 0 ≤ zo1 ∧ (if rs σ 1 zo1 ≤ zx3 then Q σ else 0 ≤ zo0 ∧ 1 ≤ n ∧ TrI (n - 1) i_Flat_at [jo 0 zo1, ji zx3] σ (fun zr5 zs4 => TrV (n - 1) i_Written_addSign [jo 11 zo0, ji zr5] zs4 (fun zs6 => TrI (n - 1) i_Flat_partsAt [jo 0 zo1, ji zx3] zs6 (fun zr9 zs8 => (if zr9 ≤ 0 then TrI (n - 1) i_Written_close [jo 11 zo0, ji zx2] zs8 (fun zr11 zs10 => i32 (zx3 + 1) ∧ J n c_Written_addFlat none 4 [some (jo 11 zo0), some (jo 0 zo1), some (ji zr11), some (ji (zx3 + 1)), none] [] zs10 (qV Q)) else 0 ≤ rl zs8 11002 zo0 ∧ (if rl zs8 11002 zo0 ≤ zx2 then TrI (n - 1) i_Written_close [jo 11 zo0, ji zx2] zs8 (fun zr15 zs14 => i32 (zx3 + 1) ∧ J n c_Written_addFlat none 4 [some (jo 11 zo0), some (jo 0 zo1), some (ji zr15), some (ji (zx3 + 1)), none] [] zs14 (qV Q)) else TrV (n - 1) i_Written_add [jo 11 zo0, ji 40] zs8 (fun zs17 => 0 ≤ rl zs17 11002 zo0 ∧ 0 ≤ zx2 ∧ zx2 < rl zs17 11002 zo0 ∧ (∀ zs20, zs20 = wa zs17 11002 zo0 zx2 zr9 → i32 (zx2 + 1) ∧ i32 (zx3 + 1) ∧ J n c_Written_addFlat none 4 [some (jo 11 zo0), some (jo 0 zo1), some (ji (zx2 + 1)), some (ji (zx3 + 1)), none] [] zs20 (qV Q)))))))))) : J n c_Written_addFlat none 4 [some (jo 11 zo0), some (jo 0 zo1), some (ji zx2), some (ji zx3), none] [] σ (qV Q) := by
  refine J_iload_n (pc' := 5) rfl rfl rfl ?_
  obtain ⟨zg1, W⟩ := W
  refine J_aload_no (pc' := 6) rfl rfl zg1 rfl ?_
  refine J_getI (G := 1) (pc' := 9) rfl rfl (Nat.le_of_ble_eq_true rfl) rfl zg1 rfl ?_
  refine J_icmp (P := rs σ 1 zo1 ≤ zx3) (t := 74) (f := 12) rfl rfl rfl jc_ge W (fun W => ?_) (fun W => ?_)
  · exact J_vret rfl rfl ⟨rfl, W⟩
  · obtain ⟨zg2, W⟩ := W
    refine J_aload_no (pc' := 13) rfl rfl zg2 rfl ?_
    refine J_aload_no (pc' := 14) rfl rfl zg1 rfl ?_
    refine J_iload_n (pc' := 15) rfl rfl rfl ?_
    obtain ⟨zg3, W⟩ := W
    refine J_callI (as := [jo 0 zo1, ji zx3]) (rest := [jo 11 zo0]) (pc' := 18) rfl rfl ax_Z_117 rfl rfl (Or.inr (Or.inr ⟨_, _, rfl, zg1⟩)) (Nat.le_of_ble_eq_true rfl) (Nat.le_of_ble_eq_true rfl) (Nat.le_of_ble_eq_true rfl) zg3 trivial trivial rfl W (fun zr5 zs4 W => ?_)
    refine J_callV (as := [jo 11 zo0, ji zr5]) (rest := []) (pc' := 21) rfl rfl ax_Z_246 rfl rfl (Or.inr (Or.inr ⟨_, _, rfl, zg2⟩)) (Nat.le_of_ble_eq_true rfl) (Nat.le_of_ble_eq_true rfl) (Nat.le_of_ble_eq_true rfl) zg3 trivial trivial rfl W (fun zs6 W => ?_)
    refine J_aload_no (pc' := 22) rfl rfl zg1 rfl ?_
    refine J_iload_n (pc' := 23) rfl rfl rfl ?_
    refine J_callI (as := [jo 0 zo1, ji zx3]) (rest := []) (pc' := 26) rfl rfl ax_Z_119 rfl rfl (Or.inr (Or.inr ⟨_, _, rfl, zg1⟩)) (Nat.le_of_ble_eq_true rfl) (Nat.le_of_ble_eq_true rfl) (Nat.le_of_ble_eq_true rfl) zg3 trivial trivial rfl W (fun zr9 zs8 W => ?_)
    refine J_istore (L' := [some (jo 11 zo0), some (jo 0 zo1), some (ji zx2), some (ji zx3), some (ji zr9)]) (pc' := 28) rfl (Nat.le_of_ble_eq_true rfl) rfl rfl ?_
    refine J_iload (pc' := 30) rfl rfl rfl ?_
    refine J_if (P := zr9 ≤ 0) (t := 62) (f := 33) rfl rfl rfl jc_le W (fun W => ?_) (fun W => ?_)
    · refine J_aload_no (pc' := 63) rfl rfl zg2 rfl ?_
      refine J_iload_n (pc' := 64) rfl rfl rfl ?_
      refine J_weak (L' := [some (jo 11 zo0), some (jo 0 zo1), none, some (ji zx3), none]) (And.intro rfl (And.intro rfl (And.intro rfl trivial))) ?_
      refine J_callI (as := [jo 11 zo0, ji zx2]) (rest := []) (pc' := 67) rfl rfl ax_Z_247 rfl rfl (Or.inr (Or.inr ⟨_, _, rfl, zg2⟩)) (Nat.le_of_ble_eq_true rfl) (Nat.le_of_ble_eq_true rfl) (Nat.le_of_ble_eq_true rfl) zg3 trivial trivial rfl W (fun zr11 zs10 W => ?_)
      refine J_istore_n (L' := [some (jo 11 zo0), some (jo 0 zo1), some (ji zr11), some (ji zx3), none]) (pc' := 68) rfl (Nat.le_of_ble_eq_true rfl) rfl rfl ?_
      obtain ⟨zg12, W⟩ := W
      refine J_iinc (L' := [some (jo 11 zo0), some (jo 0 zo1), some (ji zr11), some (ji (zx3 + 1)), none]) (pc' := 71) rfl rfl zg12 rfl rfl ?_
      refine J_goto (pc' := 4) rfl rfl ?_
      exact W
    · refine J_iload_n (pc' := 34) rfl rfl rfl ?_
      refine J_aload_no (pc' := 35) rfl rfl zg2 rfl ?_
      obtain ⟨zg13, W⟩ := W
      refine J_getA (G := 11002) (pc' := 38) rfl rfl (Nat.le_of_ble_eq_true rfl) rfl zg2 zg13 rfl ?_
      refine J_alen (pc' := 39) rfl (by decide) rfl ?_
      refine J_icmp (P := rl zs8 11002 zo0 ≤ zx2) (t := 62) (f := 42) rfl rfl rfl jc_ge W (fun W => ?_) (fun W => ?_)
      · refine J_aload_no (pc' := 63) rfl rfl zg2 rfl ?_
        refine J_iload_n (pc' := 64) rfl rfl rfl ?_
        refine J_weak (L' := [some (jo 11 zo0), some (jo 0 zo1), none, some (ji zx3), none]) (And.intro rfl (And.intro rfl (And.intro rfl trivial))) ?_
        refine J_callI (as := [jo 11 zo0, ji zx2]) (rest := []) (pc' := 67) rfl rfl ax_Z_247 rfl rfl (Or.inr (Or.inr ⟨_, _, rfl, zg2⟩)) (Nat.le_of_ble_eq_true rfl) (Nat.le_of_ble_eq_true rfl) (Nat.le_of_ble_eq_true rfl) zg3 trivial trivial rfl W (fun zr15 zs14 W => ?_)
        refine J_istore_n (L' := [some (jo 11 zo0), some (jo 0 zo1), some (ji zr15), some (ji zx3), none]) (pc' := 68) rfl (Nat.le_of_ble_eq_true rfl) rfl rfl ?_
        obtain ⟨zg16, W⟩ := W
        refine J_iinc (L' := [some (jo 11 zo0), some (jo 0 zo1), some (ji zr15), some (ji (zx3 + 1)), none]) (pc' := 71) rfl rfl zg16 rfl rfl ?_
        refine J_goto (pc' := 4) rfl rfl ?_
        exact W
      · refine J_aload_no (pc' := 43) rfl rfl zg2 rfl ?_
        refine J_bipush (pc' := 45) rfl (by decide) (by decide) rfl ?_
        refine J_callV (as := [jo 11 zo0, ji 40]) (rest := []) (pc' := 48) rfl rfl ax_Z_243 rfl rfl (Or.inr (Or.inr ⟨_, _, rfl, zg2⟩)) (Nat.le_of_ble_eq_true rfl) (Nat.le_of_ble_eq_true rfl) (Nat.le_of_ble_eq_true rfl) zg3 trivial trivial rfl W (fun zs17 W => ?_)
        refine J_aload_no (pc' := 49) rfl rfl zg2 rfl ?_
        obtain ⟨zg19, W⟩ := W
        refine J_getA (G := 11002) (pc' := 52) rfl rfl (Nat.le_of_ble_eq_true rfl) rfl zg2 zg19 rfl ?_
        refine J_iload_n (pc' := 53) rfl rfl rfl ?_
        refine J_iload (pc' := 55) rfl rfl rfl ?_
        obtain ⟨zg21, W⟩ := W
        obtain ⟨zg22, W⟩ := W
        refine J_iast (pc' := 56) rfl rfl (by decide) zg21 zg22 rfl (fun zs20 ezs20 => ?_)
        replace W := W zs20 ezs20
        obtain ⟨zg23, W⟩ := W
        refine J_iinc (L' := [some (jo 11 zo0), some (jo 0 zo1), some (ji (zx2 + 1)), some (ji zx3), some (ji zr9)]) (pc' := 59) rfl rfl zg23 rfl rfl ?_
        refine J_goto (pc' := 68) rfl rfl ?_
        obtain ⟨zg24, W⟩ := W
        refine J_iinc (L' := [some (jo 11 zo0), some (jo 0 zo1), some (ji (zx2 + 1)), some (ji (zx3 + 1)), some (ji zr9)]) (pc' := 71) rfl rfl zg24 rfl rfl ?_
        refine J_goto (pc' := 4) rfl rfl ?_
        refine J_weak (L' := [some (jo 11 zo0), some (jo 0 zo1), some (ji (zx2 + 1)), some (ji (zx3 + 1)), none]) (And.intro rfl (And.intro rfl (And.intro rfl (And.intro rfl trivial)))) ?_
        exact W
theorem wp_Written_addSign {n : Nat} {σ : jS} {Q : jS → Prop} {zo0 : Int} {zx1 : Int} (W : (if 104 ≤ zx1 then i32 (zx1 - 104) ∧ 0 ≤ zo0 ∧ 0 ≤ zx1 - 104 ∧ i32 (97 + ((zx1 - 104) % 26)) ∧ 1 ≤ n ∧ TrV (n - 1) i_Written_add [jo 11 zo0, ji (97 + ((zx1 - 104) % 26))] σ (fun zs6 => (if zx1 - 104 < 26 then Q zs6 else TrV (n - 1) i_Written_addNumber [jo 11 zo0, ji ((zx1 - 104) / 26)] zs6 (fun zs8 => Q zs8))) else 0 ≤ zo0 ∧ 0 ≤ zx1 ∧ i32 (65 + (zx1 / 4)) ∧ 1 ≤ n ∧ TrV (n - 1) i_Written_add [jo 11 zo0, ji (65 + (zx1 / 4))] σ (fun zs14 => Q zs14))) : TrV n i_Written_addSign [jo 11 zo0, ji zx1] σ Q := by
  refine Tr_of ax_Z_246 ?_
  show J n c_Written_addSign none 0 [some (jo 11 zo0), some (ji zx1), none] [] σ (qV Q)
  refine J_iload_n (pc' := 1) rfl rfl rfl ?_
  refine J_bipush (pc' := 3) rfl (by decide) (by decide) rfl ?_
  refine J_icmp (P := 104 ≤ zx1) (t := 17) (f := 6) rfl rfl rfl jc_ge W (fun W => ?_) (fun W => ?_)
  · refine J_iload_n (pc' := 18) rfl rfl rfl ?_
    refine J_bipush (pc' := 20) rfl (by decide) (by decide) rfl ?_
    obtain ⟨zg1, W⟩ := W
    refine J_isub (pc' := 21) rfl zg1 rfl ?_
    refine J_istore_n (L' := [some (jo 11 zo0), some (ji zx1), some (ji (zx1 - 104))]) (pc' := 22) rfl (Nat.le_of_ble_eq_true rfl) rfl rfl ?_
    obtain ⟨zg2, W⟩ := W
    refine J_aload_no (pc' := 23) rfl rfl zg2 rfl ?_
    refine J_bipush (pc' := 25) rfl (by decide) (by decide) rfl ?_
    refine J_iload_n (pc' := 26) rfl rfl rfl ?_
    refine J_bipush (pc' := 28) rfl (by decide) (by decide) rfl ?_
    obtain ⟨zg3, W⟩ := W
    refine J_irem (pc' := 29) rfl zg3 (by decide) rfl ?_
    obtain ⟨zg4, W⟩ := W
    refine J_iadd (pc' := 30) rfl zg4 rfl ?_
    obtain ⟨zg5, W⟩ := W
    refine J_weak (L' := [some (jo 11 zo0), none, some (ji (zx1 - 104))]) (And.intro rfl (And.intro rfl trivial)) ?_
    refine J_callV (as := [jo 11 zo0, ji (97 + ((zx1 - 104) % 26))]) (rest := []) (pc' := 33) rfl rfl ax_Z_243 rfl rfl (Or.inr (Or.inr ⟨_, _, rfl, zg2⟩)) (Nat.le_of_ble_eq_true rfl) (Nat.le_of_ble_eq_true rfl) (Nat.le_of_ble_eq_true rfl) zg5 trivial trivial rfl W (fun zs6 W => ?_)
    refine J_iload_n (pc' := 34) rfl rfl rfl ?_
    refine J_bipush (pc' := 36) rfl (by decide) (by decide) rfl ?_
    refine J_icmp (P := zx1 - 104 < 26) (t := 47) (f := 39) rfl rfl rfl jc_lt W (fun W => ?_) (fun W => ?_)
    · exact J_vret rfl rfl ⟨rfl, W⟩
    · refine J_aload_no (pc' := 40) rfl rfl zg2 rfl ?_
      refine J_iload_n (pc' := 41) rfl rfl rfl ?_
      refine J_bipush (pc' := 43) rfl (by decide) (by decide) rfl ?_
      refine J_idiv (pc' := 44) rfl zg3 (by decide) rfl ?_
      refine J_weak (L' := [none, none, none]) trivial ?_
      refine J_callV (as := [jo 11 zo0, ji ((zx1 - 104) / 26)]) (rest := []) (pc' := 47) rfl rfl ax_Z_244 rfl rfl (Or.inr (Or.inr ⟨_, _, rfl, zg2⟩)) (Nat.le_of_ble_eq_true rfl) (Nat.le_of_ble_eq_true rfl) (Nat.le_of_ble_eq_true rfl) zg5 trivial trivial rfl W (fun zs8 W => ?_)
      exact J_vret rfl rfl ⟨rfl, W⟩
  · obtain ⟨zg10, W⟩ := W
    refine J_aload_no (pc' := 7) rfl rfl zg10 rfl ?_
    refine J_bipush (pc' := 9) rfl (by decide) (by decide) rfl ?_
    refine J_iload_n (pc' := 10) rfl rfl rfl ?_
    refine J_iconst (pc' := 11) rfl (i32_d rfl) rfl ?_
    obtain ⟨zg11, W⟩ := W
    refine J_idiv (pc' := 12) rfl zg11 (by decide) rfl ?_
    obtain ⟨zg12, W⟩ := W
    refine J_iadd (pc' := 13) rfl zg12 rfl ?_
    obtain ⟨zg13, W⟩ := W
    refine J_weak (L' := [none, none, none]) trivial ?_
    refine J_callV (as := [jo 11 zo0, ji (65 + (zx1 / 4))]) (rest := []) (pc' := 16) rfl rfl ax_Z_243 rfl rfl (Or.inr (Or.inr ⟨_, _, rfl, zg10⟩)) (Nat.le_of_ble_eq_true rfl) (Nat.le_of_ble_eq_true rfl) (Nat.le_of_ble_eq_true rfl) zg13 trivial trivial rfl W (fun zs14 W => ?_)
    exact J_vret rfl rfl ⟨rfl, W⟩
theorem wp_Written_close {n : Nat} {σ : jS} {Q : Int → jS → Prop} {zo0 : Int} {zx1 : Int} (W : J n c_Written_close (some .int) 2 [some (jo 11 zo0), none, some (ji zx1)] [] σ (qI Q)) : TrI n i_Written_close [jo 11 zo0, ji zx1] σ Q := by
  refine Tr_of ax_Z_247 ?_
  show J n c_Written_close (some .int) 0 [some (jo 11 zo0), some (ji zx1), none] [] σ (qI Q)
  refine J_iload_n (pc' := 1) rfl rfl rfl ?_
  refine J_istore_n (L' := [some (jo 11 zo0), some (ji zx1), some (ji zx1)]) (pc' := 2) rfl (Nat.le_of_ble_eq_true rfl) rfl rfl ?_
  refine J_weak (L' := [some (jo 11 zo0), none, some (ji zx1)]) (And.intro rfl (And.intro rfl trivial)) ?_
  exact W
theorem wp_Written_close_2 {n : Nat} {σ : jS} {Q : Int → jS → Prop} {zo0 : Int} {zx2 : Int} (W : (if zx2 ≤ 0 then Q zx2 σ else 0 ≤ zo0 ∧ 0 ≤ rl σ 11002 zo0 ∧ i32 (zx2 - 1) ∧ 0 ≤ zx2 - 1 ∧ zx2 - 1 < rl σ 11002 zo0 ∧ i32 ((ra σ 11002 zo0 (zx2 - 1)) - 1) ∧ (∀ zs7, zs7 = wa σ 11002 zo0 (zx2 - 1) ((ra σ 11002 zo0 (zx2 - 1)) - 1) → 0 ≤ rl zs7 11002 zo0 ∧ zx2 - 1 < rl zs7 11002 zo0 ∧ (if ra zs7 11002 zo0 (zx2 - 1) ≤ 0 then 1 ≤ n ∧ TrV (n - 1) i_Written_add [jo 11 zo0, ji 41] zs7 (fun zs11 => i32 (zx2 + (-1)) ∧ J n c_Written_close (some .int) 2 [some (jo 11 zo0), none, some (ji (zx2 + (-1)))] [] zs11 (qI Q)) else 1 ≤ n ∧ TrV (n - 1) i_Written_add [jo 11 zo0, ji 44] zs7 (fun zs15 => Q zx2 zs15))))) : J n c_Written_close (some .int) 2 [some (jo 11 zo0), none, some (ji zx2)] [] σ (qI Q) := by
  refine J_iload_n (pc' := 3) rfl rfl rfl ?_
  refine J_if (P := zx2 ≤ 0) (t := 49) (f := 6) rfl rfl rfl jc_le W (fun W => ?_) (fun W => ?_)
  · refine J_iload_n (pc' := 50) rfl rfl rfl ?_
    exact J_iret rfl rfl ⟨_, rfl, W⟩
  · obtain ⟨zg1, W⟩ := W
    refine J_aload_no (pc' := 7) rfl rfl zg1 rfl ?_
    obtain ⟨zg2, W⟩ := W
    refine J_getA (G := 11002) (pc' := 10) rfl rfl (Nat.le_of_ble_eq_true rfl) rfl zg1 zg2 rfl ?_
    refine J_iload_n (pc' := 11) rfl rfl rfl ?_
    refine J_iconst (pc' := 12) rfl (i32_d rfl) rfl ?_
    obtain ⟨zg3, W⟩ := W
    refine J_isub (pc' := 13) rfl zg3 rfl ?_
    refine J_dup2 (pc' := 14) rfl rfl rfl rfl ?_
    obtain ⟨zg4, W⟩ := W
    obtain ⟨zg5, W⟩ := W
    refine J_iald (pc' := 15) rfl rfl zg4 zg5 rfl ?_
    refine J_iconst (pc' := 16) rfl (i32_d rfl) rfl ?_
    obtain ⟨zg6, W⟩ := W
    refine J_isub (pc' := 17) rfl zg6 rfl ?_
    refine J_iast (pc' := 18) rfl rfl (by decide) zg4 zg5 rfl (fun zs7 ezs7 => ?_)
    replace W := W zs7 ezs7
    refine J_aload_no (pc' := 19) rfl rfl zg1 rfl ?_
    obtain ⟨zg8, W⟩ := W
    refine J_getA (G := 11002) (pc' := 22) rfl rfl (Nat.le_of_ble_eq_true rfl) rfl zg1 zg8 rfl ?_
    refine J_iload_n (pc' := 23) rfl rfl rfl ?_
    refine J_iconst (pc' := 24) rfl (i32_d rfl) rfl ?_
    refine J_isub (pc' := 25) rfl zg3 rfl ?_
    obtain ⟨zg9, W⟩ := W
    refine J_iald (pc' := 26) rfl rfl zg4 zg9 rfl ?_
    refine J_if (P := ra zs7 11002 zo0 (zx2 - 1) ≤ 0) (t := 37) (f := 29) rfl rfl rfl jc_le W (fun W => ?_) (fun W => ?_)
    · refine J_aload_no (pc' := 38) rfl rfl zg1 rfl ?_
      refine J_bipush (pc' := 40) rfl (by decide) (by decide) rfl ?_
      obtain ⟨zg10, W⟩ := W
      refine J_callV (as := [jo 11 zo0, ji 41]) (rest := []) (pc' := 43) rfl rfl ax_Z_243 rfl rfl (Or.inr (Or.inr ⟨_, _, rfl, zg1⟩)) (Nat.le_of_ble_eq_true rfl) (Nat.le_of_ble_eq_true rfl) (Nat.le_of_ble_eq_true rfl) zg10 trivial trivial rfl W (fun zs11 W => ?_)
      obtain ⟨zg13, W⟩ := W
      refine J_iinc (L' := [some (jo 11 zo0), none, some (ji (zx2 + (-1)))]) (pc' := 46) rfl rfl zg13 rfl rfl ?_
      refine J_goto (pc' := 2) rfl rfl ?_
      exact W
    · refine J_aload_no (pc' := 30) rfl rfl zg1 rfl ?_
      refine J_bipush (pc' := 32) rfl (by decide) (by decide) rfl ?_
      obtain ⟨zg14, W⟩ := W
      refine J_weak (L' := [none, none, some (ji zx2)]) (And.intro rfl trivial) ?_
      refine J_callV (as := [jo 11 zo0, ji 44]) (rest := []) (pc' := 35) rfl rfl ax_Z_243 rfl rfl (Or.inr (Or.inr ⟨_, _, rfl, zg1⟩)) (Nat.le_of_ble_eq_true rfl) (Nat.le_of_ble_eq_true rfl) (Nat.le_of_ble_eq_true rfl) zg14 trivial trivial rfl W (fun zs15 W => ?_)
      refine J_iload_n (pc' := 36) rfl rfl rfl ?_
      exact J_iret rfl rfl ⟨_, rfl, W⟩
theorem wp_Written_addTree {n : Nat} {σ : jS} {Q : jS → Prop} {zo0 : Int} {zo1 : Int} (W : J n c_Written_addTree none 4 [some (jo 11 zo0), some (jo 3 zo1), some (ji 0), some (ji 0), none] [] σ (qV Q)) : TrV n i_Written_addTree [jo 11 zo0, jo 3 zo1] σ Q := by
  refine Tr_of ax_Z_248 ?_
  show J n c_Written_addTree none 0 [some (jo 11 zo0), some (jo 3 zo1), none, none, none] [] σ (qV Q)
  refine J_iconst (pc' := 1) rfl (i32_d rfl) rfl ?_
  refine J_istore_n (L' := [some (jo 11 zo0), some (jo 3 zo1), some (ji 0), none, none]) (pc' := 2) rfl (Nat.le_of_ble_eq_true rfl) rfl rfl ?_
  refine J_iconst (pc' := 3) rfl (i32_d rfl) rfl ?_
  refine J_istore_n (L' := [some (jo 11 zo0), some (jo 3 zo1), some (ji 0), some (ji 0), none]) (pc' := 4) rfl (Nat.le_of_ble_eq_true rfl) rfl rfl ?_
  exact W
theorem wp_Written_addTree_4 {n : Nat} {σ : jS} {Q : jS → Prop} {zo0 : Int} {zo1 : Int} {zx2 : Int} {zx3 : Int} (W : 0 ≤ zo1 ∧ 0 ≤ rs σ 3000 zo1 ∧ (if rs σ 6000 (rs σ 3000 zo1) ≤ zx3 then 0 ≤ zo0 ∧ 1 ≤ n ∧ TrV (n - 1) i_Written_addEnds [jo 11 zo0, ji zx2] σ (fun zs5 => Q zs5) else 1 ≤ n ∧ TrI (n - 1) i_Forest_deepOf [jo 3 zo1, ji zx3] σ (fun zr9 zs8 => (if zx3 ≤ 0 then J n c_Written_addTree none 33 [some (jo 11 zo0), some (jo 3 zo1), none, some (ji zx3), some (ji zr9)] [] zs8 (qV Q) else 0 ≤ zo0 ∧ TrV (n - 1) i_Written_addBetween [jo 11 zo0, ji zx2, ji zr9] zs8 (fun zs11 => J n c_Written_addTree none 33 [some (jo 11 zo0), some (jo 3 zo1), none, some (ji zx3), some (ji zr9)] [] zs11 (qV Q)))))) : J n c_Written_addTree none 4 [some (jo 11 zo0), some (jo 3 zo1), some (ji zx2), some (ji zx3), none] [] σ (qV Q) := by
  refine J_iload_n (pc' := 5) rfl rfl rfl ?_
  obtain ⟨zg1, W⟩ := W
  refine J_aload_no (pc' := 6) rfl rfl zg1 rfl ?_
  refine J_getO (G := 3000) (pc' := 9) rfl rfl (Nat.le_of_ble_eq_true rfl) rfl zg1 rfl ?_
  obtain ⟨zg2, W⟩ := W
  refine J_getI (G := 6000) (pc' := 12) rfl rfl (Nat.le_of_ble_eq_true rfl) rfl zg2 rfl ?_
  refine J_icmp (P := rs σ 6000 (rs σ 3000 zo1) ≤ zx3) (t := 61) (f := 15) rfl rfl rfl jc_ge W (fun W => ?_) (fun W => ?_)
  · obtain ⟨zg3, W⟩ := W
    refine J_aload_no (pc' := 62) rfl rfl zg3 rfl ?_
    refine J_iload_n (pc' := 63) rfl rfl rfl ?_
    obtain ⟨zg4, W⟩ := W
    refine J_weak (L' := [none, none, none, none, none]) trivial ?_
    refine J_callV (as := [jo 11 zo0, ji zx2]) (rest := []) (pc' := 66) rfl rfl ax_Z_250 rfl rfl (Or.inr (Or.inr ⟨_, _, rfl, zg3⟩)) (Nat.le_of_ble_eq_true rfl) (Nat.le_of_ble_eq_true rfl) (Nat.le_of_ble_eq_true rfl) zg4 trivial trivial rfl W (fun zs5 W => ?_)
    exact J_vret rfl rfl ⟨rfl, W⟩
  · refine J_aload_no (pc' := 16) rfl rfl zg1 rfl ?_
    refine J_iload_n (pc' := 17) rfl rfl rfl ?_
    obtain ⟨zg7, W⟩ := W
    refine J_callI (as := [jo 3 zo1, ji zx3]) (rest := []) (pc' := 20) rfl rfl ax_Z_138 rfl rfl (Or.inr (Or.inr ⟨_, _, rfl, zg1⟩)) (Nat.le_of_ble_eq_true rfl) (Nat.le_of_ble_eq_true rfl) (Nat.le_of_ble_eq_true rfl) zg7 trivial trivial rfl W (fun zr9 zs8 W => ?_)
    refine J_istore (L' := [some (jo 11 zo0), some (jo 3 zo1), some (ji zx2), some (ji zx3), some (ji zr9)]) (pc' := 22) rfl (Nat.le_of_ble_eq_true rfl) rfl rfl ?_
    refine J_iload_n (pc' := 23) rfl rfl rfl ?_
    refine J_if (P := zx3 ≤ 0) (t := 33) (f := 26) rfl rfl rfl jc_le W (fun W => ?_) (fun W => ?_)
    · refine J_weak (L' := [some (jo 11 zo0), some (jo 3 zo1), none, some (ji zx3), some (ji zr9)]) (And.intro rfl (And.intro rfl (And.intro rfl (And.intro rfl trivial)))) ?_
      exact W
    · obtain ⟨zg10, W⟩ := W
      refine J_aload_no (pc' := 27) rfl rfl zg10 rfl ?_
      refine J_iload_n (pc' := 28) rfl rfl rfl ?_
      refine J_iload (pc' := 30) rfl rfl rfl ?_
      refine J_weak (L' := [some (jo 11 zo0), some (jo 3 zo1), none, some (ji zx3), some (ji zr9)]) (And.intro rfl (And.intro rfl (And.intro rfl (And.intro rfl trivial)))) ?_
      refine J_callV (as := [jo 11 zo0, ji zx2, ji zr9]) (rest := []) (pc' := 33) rfl rfl ax_Z_249 rfl rfl (Or.inr (Or.inr ⟨_, _, rfl, zg10⟩)) (Nat.le_of_ble_eq_true rfl) (Nat.le_of_ble_eq_true rfl) (Nat.le_of_ble_eq_true rfl) zg7 trivial trivial rfl W (fun zs11 W => ?_)
      exact W
theorem wp_Written_addTree_33 {n : Nat} {σ : jS} {Q : jS → Prop} {zo0 : Int} {zo1 : Int} {zx3 : Int} {zx4 : Int} (W : 0 ≤ zo0 ∧ 1 ≤ n ∧ TrV (n - 1) i_Written_add [jo 11 zo0, ji 103] σ (fun zs3 => 0 ≤ zo1 ∧ 0 ≤ rs zs3 3000 zo1 ∧ TrI (n - 1) i_Nodes_get [jo 6 (rs zs3 3000 zo1), ji zx3, ji 0] zs3 (fun zr8 zs7 => TrV (n - 1) i_Written_addNumber [jo 11 zo0, ji zr8] zs7 (fun zs9 => i32 (zx3 + 1) ∧ J n c_Written_addTree none 4 [some (jo 11 zo0), some (jo 3 zo1), some (ji zx4), some (ji (zx3 + 1)), none] [] zs9 (qV Q))))) : J n c_Written_addTree none 33 [some (jo 11 zo0), some (jo 3 zo1), none, some (ji zx3), some (ji zx4)] [] σ (qV Q) := by
  obtain ⟨zg1, W⟩ := W
  refine J_aload_no (pc' := 34) rfl rfl zg1 rfl ?_
  refine J_bipush (pc' := 36) rfl (by decide) (by decide) rfl ?_
  obtain ⟨zg2, W⟩ := W
  refine J_callV (as := [jo 11 zo0, ji 103]) (rest := []) (pc' := 39) rfl rfl ax_Z_243 rfl rfl (Or.inr (Or.inr ⟨_, _, rfl, zg1⟩)) (Nat.le_of_ble_eq_true rfl) (Nat.le_of_ble_eq_true rfl) (Nat.le_of_ble_eq_true rfl) zg2 trivial trivial rfl W (fun zs3 W => ?_)
  refine J_aload_no (pc' := 40) rfl rfl zg1 rfl ?_
  obtain ⟨zg5, W⟩ := W
  refine J_aload_no (pc' := 41) rfl rfl zg5 rfl ?_
  refine J_getO (G := 3000) (pc' := 44) rfl rfl (Nat.le_of_ble_eq_true rfl) rfl zg5 rfl ?_
  refine J_iload_n (pc' := 45) rfl rfl rfl ?_
  refine J_iconst (pc' := 46) rfl (i32_d rfl) rfl ?_
  obtain ⟨zg6, W⟩ := W
  refine J_callI (as := [jo 6 (rs zs3 3000 zo1), ji zx3, ji 0]) (rest := [jo 11 zo0]) (pc' := 49) rfl rfl ax_Z_152 rfl rfl (Or.inr (Or.inr ⟨_, _, rfl, zg6⟩)) (Nat.le_of_ble_eq_true rfl) (Nat.le_of_ble_eq_true rfl) (Nat.le_of_ble_eq_true rfl) zg2 trivial trivial rfl W (fun zr8 zs7 W => ?_)
  refine J_callV (as := [jo 11 zo0, ji zr8]) (rest := []) (pc' := 52) rfl rfl ax_Z_244 rfl rfl (Or.inr (Or.inr ⟨_, _, rfl, zg1⟩)) (Nat.le_of_ble_eq_true rfl) (Nat.le_of_ble_eq_true rfl) (Nat.le_of_ble_eq_true rfl) zg2 trivial trivial rfl W (fun zs9 W => ?_)
  refine J_iload (pc' := 54) rfl rfl rfl ?_
  refine J_istore_n (L' := [some (jo 11 zo0), some (jo 3 zo1), some (ji zx4), some (ji zx3), some (ji zx4)]) (pc' := 55) rfl (Nat.le_of_ble_eq_true rfl) rfl rfl ?_
  obtain ⟨zg11, W⟩ := W
  refine J_iinc (L' := [some (jo 11 zo0), some (jo 3 zo1), some (ji zx4), some (ji (zx3 + 1)), some (ji zx4)]) (pc' := 58) rfl rfl zg11 rfl rfl ?_
  refine J_goto (pc' := 4) rfl rfl ?_
  refine J_weak (L' := [some (jo 11 zo0), some (jo 3 zo1), some (ji zx4), some (ji (zx3 + 1)), none]) (And.intro rfl (And.intro rfl (And.intro rfl (And.intro rfl trivial)))) ?_
  exact W
theorem wp_Written_addBetween {n : Nat} {σ : jS} {Q : jS → Prop} {zo0 : Int} {zx1 : Int} {zx2 : Int} (W : (if zx2 ≤ zx1 then 0 ≤ zo0 ∧ i32 (zx1 - zx2) ∧ 1 ≤ n ∧ TrV (n - 1) i_Written_addEnds [jo 11 zo0, ji (zx1 - zx2)] σ (fun zs4 => TrV (n - 1) i_Written_add [jo 11 zo0, ji 44] zs4 (fun zs6 => Q zs6)) else 0 ≤ zo0 ∧ 1 ≤ n ∧ TrV (n - 1) i_Written_add [jo 11 zo0, ji 40] σ (fun zs10 => Q zs10))) : TrV n i_Written_addBetween [jo 11 zo0, ji zx1, ji zx2] σ Q := by
  refine Tr_of ax_Z_249 ?_
  show J n c_Written_addBetween none 0 [some (jo 11 zo0), some (ji zx1), some (ji zx2)] [] σ (qV Q)
  refine J_iload_n (pc' := 1) rfl rfl rfl ?_
  refine J_iload_n (pc' := 2) rfl rfl rfl ?_
  refine J_icmp (P := zx2 ≤ zx1) (t := 12) (f := 5) rfl rfl rfl jc_le W (fun W => ?_) (fun W => ?_)
  · obtain ⟨zg1, W⟩ := W
    refine J_aload_no (pc' := 13) rfl rfl zg1 rfl ?_
    refine J_iload_n (pc' := 14) rfl rfl rfl ?_
    refine J_iload_n (pc' := 15) rfl rfl rfl ?_
    obtain ⟨zg2, W⟩ := W
    refine J_isub (pc' := 16) rfl zg2 rfl ?_
    obtain ⟨zg3, W⟩ := W
    refine J_weak (L' := [some (jo 11 zo0), none, none]) (And.intro rfl trivial) ?_
    refine J_callV (as := [jo 11 zo0, ji (zx1 - zx2)]) (rest := []) (pc' := 19) rfl rfl ax_Z_250 rfl rfl (Or.inr (Or.inr ⟨_, _, rfl, zg1⟩)) (Nat.le_of_ble_eq_true rfl) (Nat.le_of_ble_eq_true rfl) (Nat.le_of_ble_eq_true rfl) zg3 trivial trivial rfl W (fun zs4 W => ?_)
    refine J_aload_no (pc' := 20) rfl rfl zg1 rfl ?_
    refine J_bipush (pc' := 22) rfl (by decide) (by decide) rfl ?_
    refine J_weak (L' := [none, none, none]) trivial ?_
    refine J_callV (as := [jo 11 zo0, ji 44]) (rest := []) (pc' := 25) rfl rfl ax_Z_243 rfl rfl (Or.inr (Or.inr ⟨_, _, rfl, zg1⟩)) (Nat.le_of_ble_eq_true rfl) (Nat.le_of_ble_eq_true rfl) (Nat.le_of_ble_eq_true rfl) zg3 trivial trivial rfl W (fun zs6 W => ?_)
    exact J_vret rfl rfl ⟨rfl, W⟩
  · obtain ⟨zg8, W⟩ := W
    refine J_aload_no (pc' := 6) rfl rfl zg8 rfl ?_
    refine J_bipush (pc' := 8) rfl (by decide) (by decide) rfl ?_
    obtain ⟨zg9, W⟩ := W
    refine J_weak (L' := [none, none, none]) trivial ?_
    refine J_callV (as := [jo 11 zo0, ji 40]) (rest := []) (pc' := 11) rfl rfl ax_Z_243 rfl rfl (Or.inr (Or.inr ⟨_, _, rfl, zg8⟩)) (Nat.le_of_ble_eq_true rfl) (Nat.le_of_ble_eq_true rfl) (Nat.le_of_ble_eq_true rfl) zg9 trivial trivial rfl W (fun zs10 W => ?_)
    exact J_vret rfl rfl ⟨rfl, W⟩
theorem wp_Written_addEnds {n : Nat} {σ : jS} {Q : jS → Prop} {zo0 : Int} {zx1 : Int} (W : J n c_Written_addEnds none 2 [some (jo 11 zo0), some (ji zx1), some (ji 0)] [] σ (qV Q)) : TrV n i_Written_addEnds [jo 11 zo0, ji zx1] σ Q := by
  refine Tr_of ax_Z_250 ?_
  show J n c_Written_addEnds none 0 [some (jo 11 zo0), some (ji zx1), none] [] σ (qV Q)
  refine J_iconst (pc' := 1) rfl (i32_d rfl) rfl ?_
  refine J_istore_n (L' := [some (jo 11 zo0), some (ji zx1), some (ji 0)]) (pc' := 2) rfl (Nat.le_of_ble_eq_true rfl) rfl rfl ?_
  exact W
theorem wp_Written_addEnds_2 {n : Nat} {σ : jS} {Q : jS → Prop} {zo0 : Int} {zx1 : Int} {zx2 : Int} (W : (if zx1 ≤ zx2 then Q σ else 0 ≤ zo0 ∧ 1 ≤ n ∧ TrV (n - 1) i_Written_add [jo 11 zo0, ji 41] σ (fun zs3 => i32 (zx2 + 1) ∧ J n c_Written_addEnds none 2 [some (jo 11 zo0), some (ji zx1), some (ji (zx2 + 1))] [] zs3 (qV Q)))) : J n c_Written_addEnds none 2 [some (jo 11 zo0), some (ji zx1), some (ji zx2)] [] σ (qV Q) := by
  refine J_iload_n (pc' := 3) rfl rfl rfl ?_
  refine J_iload_n (pc' := 4) rfl rfl rfl ?_
  refine J_icmp (P := zx1 ≤ zx2) (t := 19) (f := 7) rfl rfl rfl jc_ge W (fun W => ?_) (fun W => ?_)
  · exact J_vret rfl rfl ⟨rfl, W⟩
  · obtain ⟨zg1, W⟩ := W
    refine J_aload_no (pc' := 8) rfl rfl zg1 rfl ?_
    refine J_bipush (pc' := 10) rfl (by decide) (by decide) rfl ?_
    obtain ⟨zg2, W⟩ := W
    refine J_callV (as := [jo 11 zo0, ji 41]) (rest := []) (pc' := 13) rfl rfl ax_Z_243 rfl rfl (Or.inr (Or.inr ⟨_, _, rfl, zg1⟩)) (Nat.le_of_ble_eq_true rfl) (Nat.le_of_ble_eq_true rfl) (Nat.le_of_ble_eq_true rfl) zg2 trivial trivial rfl W (fun zs3 W => ?_)
    obtain ⟨zg5, W⟩ := W
    refine J_iinc (L' := [some (jo 11 zo0), some (ji zx1), some (ji (zx2 + 1))]) (pc' := 16) rfl rfl zg5 rfl rfl ?_
    refine J_goto (pc' := 2) rfl rfl ?_
    exact W
set_option maxRecDepth 16000 in
theorem wp_Top_init {n : Nat} {σ : jS} {Q : jS → Prop} {zo0 : Int} (W : 0 ≤ zo0 ∧ 1 ≤ n ∧ rk σ 8 < 2000000 ∧ 0 ≤ rk σ 8 ∧ (∀ zs3, zs3 = nO σ 8 → TrV (n - 1) i_Tape_init [jo 8 (rk σ 8)] zs3 (fun zs6 => 0 ≤ rk σ 8 ∧ (∀ zs8, zs8 = ws zs6 12000 zo0 (rk σ 8) → (∀ zs10, zs10 = nA zs8 4 4 → rl zs10 12001 zo0 < 0 ∧ (∀ zs11, zs11 = mA zs10 4 12001 zo0 → rk zs11 0 < 2000000 ∧ 0 ≤ rk zs11 0 ∧ (∀ zs13, zs13 = nO zs11 0 → TrV (n - 1) i_Flat_init [jo 0 (rk zs11 0), ji 12] zs13 (fun zs16 => 0 ≤ rk zs11 0 ∧ (∀ zs18, zs18 = ws zs16 12002 zo0 (rk zs11 0) → rk zs18 0 < 2000000 ∧ 0 ≤ rk zs18 0 ∧ (∀ zs20, zs20 = nO zs18 0 → TrV (n - 1) i_Flat_init [jo 0 (rk zs18 0), ji 100] zs20 (fun zs23 => 0 ≤ rk zs18 0 ∧ (∀ zs25, zs25 = ws zs23 12003 zo0 (rk zs18 0) → rk zs25 11 < 2000000 ∧ 0 ≤ rk zs25 11 ∧ (∀ zs27, zs27 = nO zs25 11 → TrV (n - 1) i_Written_init [jo 11 (rk zs25 11)] zs27 (fun zs30 => 0 ≤ rk zs25 11 ∧ (∀ zs32, zs32 = ws zs30 12004 zo0 (rk zs25 11) → rk zs32 10 < 2000000 ∧ 0 ≤ rk zs32 10 ∧ (∀ zs34, zs34 = nO zs32 10 → TrV (n - 1) i_Text_init [jo 10 (rk zs32 10)] zs34 (fun zs37 => 0 ≤ rk zs32 10 ∧ (∀ zs39, zs39 = ws zs37 12005 zo0 (rk zs32 10) → rk zs39 10 < 2000000 ∧ 0 ≤ rk zs39 10 ∧ (∀ zs41, zs41 = nO zs39 10 → TrV (n - 1) i_Text_init [jo 10 (rk zs39 10)] zs41 (fun zs44 => 0 ≤ rk zs39 10 ∧ (∀ zs46, zs46 = ws zs44 12006 zo0 (rk zs39 10) → rk zs46 7 < 2000000 ∧ 0 ≤ rk zs46 7 ∧ (∀ zs48, zs48 = nO zs46 7 → TrV (n - 1) i_Search_init [jo 7 (rk zs46 7), jo 10 (rs zs48 12005 zo0)] zs48 (fun zs51 => 0 ≤ rk zs46 7 ∧ (∀ zs53, zs53 = ws zs51 12007 zo0 (rk zs46 7) → (∀ zs55, zs55 = ws zs53 12008 zo0 (-1) → (∀ zs56, zs56 = nA zs55 0 9 → rl zs56 12011 zo0 < 0 ∧ (∀ zs57, zs57 = mA zs56 0 12011 zo0 → rk zs57 0 < 2000000 ∧ 0 ≤ rk zs57 0 ∧ (∀ zs59, zs59 = nO zs57 0 → TrV (n - 1) i_Flat_init [jo 0 (rk zs57 0), ji 12] zs59 (fun zs62 => 0 ≤ rk zs57 0 ∧ (∀ zs64, zs64 = ws zs62 12012 zo0 (rk zs57 0) → rk zs64 0 < 2000000 ∧ 0 ≤ rk zs64 0 ∧ (∀ zs66, zs66 = nO zs64 0 → TrV (n - 1) i_Flat_init [jo 0 (rk zs64 0), ji 100] zs66 (fun zs69 => 0 ≤ rk zs64 0 ∧ (∀ zs71, zs71 = ws zs69 12013 zo0 (rk zs64 0) → rk zs71 3 < 2000000 ∧ 0 ≤ rk zs71 3 ∧ (∀ zs73, zs73 = nO zs71 3 → TrV (n - 1) i_Forest_init [jo 3 (rk zs71 3)] zs73 (fun zs76 => 0 ≤ rk zs71 3 ∧ (∀ zs78, zs78 = ws zs76 12014 zo0 (rk zs71 3) → (∀ zs80, zs80 = ws zs78 12016 zo0 (-1) → (∀ zs81, zs81 = ws zs80 12017 zo0 (-1) → J n c_Top_init none 159 [some (jo 12 zo0), some (ji 0)] [] zs81 (qV Q))))))))))))))))))))))))))))))))))))))) : TrV n i_Top_init [jo 12 zo0] σ Q := by
  refine Tr_of ax_Z_251 ?_
  show J n c_Top_init none 0 [some (jo 12 zo0), none] [] σ (qV Q)
  obtain ⟨zg1, W⟩ := W
  refine J_aload_no (pc' := 1) rfl rfl zg1 rfl ?_
  obtain ⟨zg2, W⟩ := W
  refine J_oinit (pc' := 4) rfl zg1 zg2 (Nat.le_of_ble_eq_true rfl) rfl ?_
  refine J_aload_no (pc' := 5) rfl rfl zg1 rfl ?_
  obtain ⟨zg4, W⟩ := W
  obtain ⟨zg5, W⟩ := W
  refine J_new (pc' := 8) rfl zg4 rfl (fun zs3 ezs3 => ?_)
  replace W := W zs3 ezs3
  refine J_dup (pc' := 9) rfl rfl rfl ?_
  refine J_callV (as := [jo 8 (rk σ 8)]) (rest := [jo 8 (rk σ 8), jo 12 zo0]) (pc' := 12) rfl rfl ax_Z_182 rfl rfl (Or.inr (Or.inr ⟨_, _, rfl, zg5⟩)) (Nat.le_of_ble_eq_true rfl) (Nat.le_of_ble_eq_true rfl) (Nat.le_of_ble_eq_true rfl) zg2 trivial trivial rfl W (fun zs6 W => ?_)
  obtain ⟨zg9, W⟩ := W
  refine J_putO (G := 12000) (pc' := 15) rfl rfl (Nat.le_of_ble_eq_true rfl) rfl rfl zg1 zg9 rfl (fun zs8 ezs8 => ?_)
  replace W := W zs8 ezs8
  refine J_aload_no (pc' := 16) rfl rfl zg1 rfl ?_
  refine J_iconst (pc' := 17) rfl (i32_d rfl) rfl ?_
  refine J_anew (pc' := 20) rfl (by decide) (by decide) trivial trivial rfl (fun zs10 ezs10 => ?_)
  replace W := W zs10 ezs10
  obtain ⟨zg12, W⟩ := W
  refine J_putT (G := 12001) (t := 4) (pc' := 23) rfl rfl (Nat.le_of_ble_eq_true rfl) rfl rfl rfl zg1 (Or.inr zg12) trivial trivial trivial trivial rfl (fun zs11 ezs11 => ?_)
  replace W := W zs11 ezs11
  refine J_aload_no (pc' := 24) rfl rfl zg1 rfl ?_
  obtain ⟨zg14, W⟩ := W
  obtain ⟨zg15, W⟩ := W
  refine J_new (pc' := 27) rfl zg14 rfl (fun zs13 ezs13 => ?_)
  replace W := W zs13 ezs13
  refine J_dup (pc' := 28) rfl rfl rfl ?_
  refine J_bipush (pc' := 30) rfl (by decide) (by decide) rfl ?_
  refine J_callV (as := [jo 0 (rk zs11 0), ji 12]) (rest := [jo 0 (rk zs11 0), jo 12 zo0]) (pc' := 33) rfl rfl ax_Z_114 rfl rfl (Or.inr (Or.inr ⟨_, _, rfl, zg15⟩)) (Nat.le_of_ble_eq_true rfl) (Nat.le_of_ble_eq_true rfl) (Nat.le_of_ble_eq_true rfl) zg2 trivial trivial rfl W (fun zs16 W => ?_)
  obtain ⟨zg19, W⟩ := W
  refine J_putO (G := 12002) (pc' := 36) rfl rfl (Nat.le_of_ble_eq_true rfl) rfl rfl zg1 zg19 rfl (fun zs18 ezs18 => ?_)
  replace W := W zs18 ezs18
  refine J_aload_no (pc' := 37) rfl rfl zg1 rfl ?_
  obtain ⟨zg21, W⟩ := W
  obtain ⟨zg22, W⟩ := W
  refine J_new (pc' := 40) rfl zg21 rfl (fun zs20 ezs20 => ?_)
  replace W := W zs20 ezs20
  refine J_dup (pc' := 41) rfl rfl rfl ?_
  refine J_bipush (pc' := 43) rfl (by decide) (by decide) rfl ?_
  refine J_callV (as := [jo 0 (rk zs18 0), ji 100]) (rest := [jo 0 (rk zs18 0), jo 12 zo0]) (pc' := 46) rfl rfl ax_Z_114 rfl rfl (Or.inr (Or.inr ⟨_, _, rfl, zg22⟩)) (Nat.le_of_ble_eq_true rfl) (Nat.le_of_ble_eq_true rfl) (Nat.le_of_ble_eq_true rfl) zg2 trivial trivial rfl W (fun zs23 W => ?_)
  obtain ⟨zg26, W⟩ := W
  refine J_putO (G := 12003) (pc' := 49) rfl rfl (Nat.le_of_ble_eq_true rfl) rfl rfl zg1 zg26 rfl (fun zs25 ezs25 => ?_)
  replace W := W zs25 ezs25
  refine J_aload_no (pc' := 50) rfl rfl zg1 rfl ?_
  obtain ⟨zg28, W⟩ := W
  obtain ⟨zg29, W⟩ := W
  refine J_new (pc' := 53) rfl zg28 rfl (fun zs27 ezs27 => ?_)
  replace W := W zs27 ezs27
  refine J_dup (pc' := 54) rfl rfl rfl ?_
  refine J_callV (as := [jo 11 (rk zs25 11)]) (rest := [jo 11 (rk zs25 11), jo 12 zo0]) (pc' := 57) rfl rfl ax_Z_240 rfl rfl (Or.inr (Or.inr ⟨_, _, rfl, zg29⟩)) (Nat.le_of_ble_eq_true rfl) (Nat.le_of_ble_eq_true rfl) (Nat.le_of_ble_eq_true rfl) zg2 trivial trivial rfl W (fun zs30 W => ?_)
  obtain ⟨zg33, W⟩ := W
  refine J_putO (G := 12004) (pc' := 60) rfl rfl (Nat.le_of_ble_eq_true rfl) rfl rfl zg1 zg33 rfl (fun zs32 ezs32 => ?_)
  replace W := W zs32 ezs32
  refine J_aload_no (pc' := 61) rfl rfl zg1 rfl ?_
  obtain ⟨zg35, W⟩ := W
  obtain ⟨zg36, W⟩ := W
  refine J_new (pc' := 64) rfl zg35 rfl (fun zs34 ezs34 => ?_)
  replace W := W zs34 ezs34
  refine J_dup (pc' := 65) rfl rfl rfl ?_
  refine J_callV (as := [jo 10 (rk zs32 10)]) (rest := [jo 10 (rk zs32 10), jo 12 zo0]) (pc' := 68) rfl rfl ax_Z_222 rfl rfl (Or.inr (Or.inr ⟨_, _, rfl, zg36⟩)) (Nat.le_of_ble_eq_true rfl) (Nat.le_of_ble_eq_true rfl) (Nat.le_of_ble_eq_true rfl) zg2 trivial trivial rfl W (fun zs37 W => ?_)
  obtain ⟨zg40, W⟩ := W
  refine J_putO (G := 12005) (pc' := 71) rfl rfl (Nat.le_of_ble_eq_true rfl) rfl rfl zg1 zg40 rfl (fun zs39 ezs39 => ?_)
  replace W := W zs39 ezs39
  refine J_aload_no (pc' := 72) rfl rfl zg1 rfl ?_
  obtain ⟨zg42, W⟩ := W
  obtain ⟨zg43, W⟩ := W
  refine J_new (pc' := 75) rfl zg42 rfl (fun zs41 ezs41 => ?_)
  replace W := W zs41 ezs41
  refine J_dup (pc' := 76) rfl rfl rfl ?_
  refine J_callV (as := [jo 10 (rk zs39 10)]) (rest := [jo 10 (rk zs39 10), jo 12 zo0]) (pc' := 79) rfl rfl ax_Z_222 rfl rfl (Or.inr (Or.inr ⟨_, _, rfl, zg43⟩)) (Nat.le_of_ble_eq_true rfl) (Nat.le_of_ble_eq_true rfl) (Nat.le_of_ble_eq_true rfl) zg2 trivial trivial rfl W (fun zs44 W => ?_)
  obtain ⟨zg47, W⟩ := W
  refine J_putO (G := 12006) (pc' := 82) rfl rfl (Nat.le_of_ble_eq_true rfl) rfl rfl zg1 zg47 rfl (fun zs46 ezs46 => ?_)
  replace W := W zs46 ezs46
  refine J_aload_no (pc' := 83) rfl rfl zg1 rfl ?_
  obtain ⟨zg49, W⟩ := W
  obtain ⟨zg50, W⟩ := W
  refine J_new (pc' := 86) rfl zg49 rfl (fun zs48 ezs48 => ?_)
  replace W := W zs48 ezs48
  refine J_dup (pc' := 87) rfl rfl rfl ?_
  refine J_aload_no (pc' := 88) rfl rfl zg1 rfl ?_
  refine J_getO (G := 12005) (pc' := 91) rfl rfl (Nat.le_of_ble_eq_true rfl) rfl zg1 rfl ?_
  refine J_callV (as := [jo 7 (rk zs46 7), jo 10 (rs zs48 12005 zo0)]) (rest := [jo 7 (rk zs46 7), jo 12 zo0]) (pc' := 94) rfl rfl ax_Z_155 rfl rfl (Or.inr (Or.inr ⟨_, _, rfl, zg50⟩)) (Nat.le_of_ble_eq_true rfl) (Nat.le_of_ble_eq_true rfl) (Nat.le_of_ble_eq_true rfl) zg2 trivial trivial rfl W (fun zs51 W => ?_)
  obtain ⟨zg54, W⟩ := W
  refine J_putO (G := 12007) (pc' := 97) rfl rfl (Nat.le_of_ble_eq_true rfl) rfl rfl zg1 zg54 rfl (fun zs53 ezs53 => ?_)
  replace W := W zs53 ezs53
  refine J_aload_no (pc' := 98) rfl rfl zg1 rfl ?_
  refine J_iconst (pc' := 99) rfl (i32_d rfl) rfl ?_
  refine J_putI (G := 12008) (pc' := 102) rfl rfl (Nat.le_of_ble_eq_true rfl) rfl rfl zg1 rfl (fun zs55 ezs55 => ?_)
  replace W := W zs55 ezs55
  refine J_aload_no (pc' := 103) rfl rfl zg1 rfl ?_
  refine J_bipush (pc' := 105) rfl (by decide) (by decide) rfl ?_
  refine J_newa (pc' := 107) rfl (by decide) (by decide) (by decide) trivial trivial rfl (fun zs56 ezs56 => ?_)
  replace W := W zs56 ezs56
  obtain ⟨zg58, W⟩ := W
  refine J_putT (G := 12011) (t := 0) (pc' := 110) rfl rfl (Nat.le_of_ble_eq_true rfl) rfl rfl rfl zg1 (Or.inr zg58) trivial trivial trivial trivial rfl (fun zs57 ezs57 => ?_)
  replace W := W zs57 ezs57
  refine J_aload_no (pc' := 111) rfl rfl zg1 rfl ?_
  obtain ⟨zg60, W⟩ := W
  obtain ⟨zg61, W⟩ := W
  refine J_new (pc' := 114) rfl zg60 rfl (fun zs59 ezs59 => ?_)
  replace W := W zs59 ezs59
  refine J_dup (pc' := 115) rfl rfl rfl ?_
  refine J_bipush (pc' := 117) rfl (by decide) (by decide) rfl ?_
  refine J_callV (as := [jo 0 (rk zs57 0), ji 12]) (rest := [jo 0 (rk zs57 0), jo 12 zo0]) (pc' := 120) rfl rfl ax_Z_114 rfl rfl (Or.inr (Or.inr ⟨_, _, rfl, zg61⟩)) (Nat.le_of_ble_eq_true rfl) (Nat.le_of_ble_eq_true rfl) (Nat.le_of_ble_eq_true rfl) zg2 trivial trivial rfl W (fun zs62 W => ?_)
  obtain ⟨zg65, W⟩ := W
  refine J_putO (G := 12012) (pc' := 123) rfl rfl (Nat.le_of_ble_eq_true rfl) rfl rfl zg1 zg65 rfl (fun zs64 ezs64 => ?_)
  replace W := W zs64 ezs64
  refine J_aload_no (pc' := 124) rfl rfl zg1 rfl ?_
  obtain ⟨zg67, W⟩ := W
  obtain ⟨zg68, W⟩ := W
  refine J_new (pc' := 127) rfl zg67 rfl (fun zs66 ezs66 => ?_)
  replace W := W zs66 ezs66
  refine J_dup (pc' := 128) rfl rfl rfl ?_
  refine J_bipush (pc' := 130) rfl (by decide) (by decide) rfl ?_
  refine J_callV (as := [jo 0 (rk zs64 0), ji 100]) (rest := [jo 0 (rk zs64 0), jo 12 zo0]) (pc' := 133) rfl rfl ax_Z_114 rfl rfl (Or.inr (Or.inr ⟨_, _, rfl, zg68⟩)) (Nat.le_of_ble_eq_true rfl) (Nat.le_of_ble_eq_true rfl) (Nat.le_of_ble_eq_true rfl) zg2 trivial trivial rfl W (fun zs69 W => ?_)
  obtain ⟨zg72, W⟩ := W
  refine J_putO (G := 12013) (pc' := 136) rfl rfl (Nat.le_of_ble_eq_true rfl) rfl rfl zg1 zg72 rfl (fun zs71 ezs71 => ?_)
  replace W := W zs71 ezs71
  refine J_aload_no (pc' := 137) rfl rfl zg1 rfl ?_
  obtain ⟨zg74, W⟩ := W
  obtain ⟨zg75, W⟩ := W
  refine J_new (pc' := 140) rfl zg74 rfl (fun zs73 ezs73 => ?_)
  replace W := W zs73 ezs73
  refine J_dup (pc' := 141) rfl rfl rfl ?_
  refine J_callV (as := [jo 3 (rk zs71 3)]) (rest := [jo 3 (rk zs71 3), jo 12 zo0]) (pc' := 144) rfl rfl ax_Z_132 rfl rfl (Or.inr (Or.inr ⟨_, _, rfl, zg75⟩)) (Nat.le_of_ble_eq_true rfl) (Nat.le_of_ble_eq_true rfl) (Nat.le_of_ble_eq_true rfl) zg2 trivial trivial rfl W (fun zs76 W => ?_)
  obtain ⟨zg79, W⟩ := W
  refine J_putO (G := 12014) (pc' := 147) rfl rfl (Nat.le_of_ble_eq_true rfl) rfl rfl zg1 zg79 rfl (fun zs78 ezs78 => ?_)
  replace W := W zs78 ezs78
  refine J_aload_no (pc' := 148) rfl rfl zg1 rfl ?_
  refine J_iconst (pc' := 149) rfl (i32_d rfl) rfl ?_
  refine J_putI (G := 12016) (pc' := 152) rfl rfl (Nat.le_of_ble_eq_true rfl) rfl rfl zg1 rfl (fun zs80 ezs80 => ?_)
  replace W := W zs80 ezs80
  refine J_aload_no (pc' := 153) rfl rfl zg1 rfl ?_
  refine J_iconst (pc' := 154) rfl (i32_d rfl) rfl ?_
  refine J_putI (G := 12017) (pc' := 157) rfl rfl (Nat.le_of_ble_eq_true rfl) rfl rfl zg1 rfl (fun zs81 ezs81 => ?_)
  replace W := W zs81 ezs81
  refine J_iconst (pc' := 158) rfl (i32_d rfl) rfl ?_
  refine J_istore_n (L' := [some (jo 12 zo0), some (ji 0)]) (pc' := 159) rfl (Nat.le_of_ble_eq_true rfl) rfl rfl ?_
  exact W
set_option maxRecDepth 16000 in
theorem wp_Top_init_159 {n : Nat} {σ : jS} {Q : jS → Prop} {zo0 : Int} {zx1 : Int} (W : (if 4 ≤ zx1 then 0 ≤ zo0 ∧ 0 ≤ rl σ 12011 zo0 ∧ 0 < rl σ 12011 zo0 ∧ (∀ zs3, zs3 = wa σ 12011 zo0 0 (-1) → Q zs3) else 0 ≤ zo0 ∧ 0 ≤ rl σ 12001 zo0 ∧ rk σ 0 < 2000000 ∧ 0 ≤ rk σ 0 ∧ (∀ zs7, zs7 = nO σ 0 → 1 ≤ n ∧ TrV (n - 1) i_Flat_init [jo 0 (rk σ 0), ji 12] zs7 (fun zs11 => 0 ≤ rk σ 0 ∧ 0 ≤ zx1 ∧ zx1 < rl zs11 12001 zo0 ∧ (∀ zs13, zs13 = wa zs11 12001 zo0 zx1 (rk σ 0) → 0 ≤ rl zs13 12001 zo0 ∧ zx1 < rl zs13 12001 zo0 ∧ 0 ≤ ra zs13 12001 zo0 zx1 ∧ TrV (n - 1) i_Flat_add [jo 0 (ra zs13 12001 zo0 zx1), ji 0] zs13 (fun zs20 => i32 (zx1 + 1) ∧ J n c_Top_init none 159 [some (jo 12 zo0), some (ji (zx1 + 1))] [] zs20 (qV Q))))))) : J n c_Top_init none 159 [some (jo 12 zo0), some (ji zx1)] [] σ (qV Q) := by
  refine J_iload_n (pc' := 160) rfl rfl rfl ?_
  refine J_iconst (pc' := 161) rfl (i32_d rfl) rfl ?_
  refine J_icmp (P := 4 ≤ zx1) (t := 195) (f := 164) rfl rfl rfl jc_ge W (fun W => ?_) (fun W => ?_)
  · obtain ⟨zg1, W⟩ := W
    refine J_aload_no (pc' := 196) rfl rfl zg1 rfl ?_
    obtain ⟨zg2, W⟩ := W
    refine J_getA (G := 12011) (pc' := 199) rfl rfl (Nat.le_of_ble_eq_true rfl) rfl zg1 zg2 rfl ?_
    refine J_iconst (pc' := 200) rfl (i32_d rfl) rfl ?_
    refine J_iconst (pc' := 201) rfl (i32_d rfl) rfl ?_
    obtain ⟨zg4, W⟩ := W
    refine J_iast (pc' := 202) rfl rfl (by decide) (by decide) zg4 rfl (fun zs3 ezs3 => ?_)
    replace W := W zs3 ezs3
    exact J_vret rfl rfl ⟨rfl, W⟩
  · obtain ⟨zg5, W⟩ := W
    refine J_aload_no (pc' := 165) rfl rfl zg5 rfl ?_
    obtain ⟨zg6, W⟩ := W
    refine J_getA (G := 12001) (pc' := 168) rfl rfl (Nat.le_of_ble_eq_true rfl) rfl zg5 zg6 rfl ?_
    refine J_iload_n (pc' := 169) rfl rfl rfl ?_
    obtain ⟨zg8, W⟩ := W
    obtain ⟨zg9, W⟩ := W
    refine J_new (pc' := 172) rfl zg8 rfl (fun zs7 ezs7 => ?_)
    replace W := W zs7 ezs7
    refine J_dup (pc' := 173) rfl rfl rfl ?_
    refine J_bipush (pc' := 175) rfl (by decide) (by decide) rfl ?_
    obtain ⟨zg10, W⟩ := W
    refine J_callV (as := [jo 0 (rk σ 0), ji 12]) (rest := [jo 0 (rk σ 0), ji zx1, ja 12001 zo0]) (pc' := 178) rfl rfl ax_Z_114 rfl rfl (Or.inr (Or.inr ⟨_, _, rfl, zg9⟩)) (Nat.le_of_ble_eq_true rfl) (Nat.le_of_ble_eq_true rfl) (Nat.le_of_ble_eq_true rfl) zg10 trivial (And.intro rfl trivial) rfl W (fun zs11 W => ?_)
    obtain ⟨zg14, W⟩ := W
    obtain ⟨zg15, W⟩ := W
    obtain ⟨zg16, W⟩ := W
    refine J_aast (pc' := 179) rfl rfl zg14 zg15 zg16 rfl (fun zs13 ezs13 => ?_)
    replace W := W zs13 ezs13
    refine J_aload_no (pc' := 180) rfl rfl zg5 rfl ?_
    obtain ⟨zg17, W⟩ := W
    refine J_getA (G := 12001) (pc' := 183) rfl rfl (Nat.le_of_ble_eq_true rfl) rfl zg5 zg17 rfl ?_
    refine J_iload_n (pc' := 184) rfl rfl rfl ?_
    obtain ⟨zg18, W⟩ := W
    refine J_aald (pc' := 185) rfl rfl zg15 zg18 rfl ?_
    refine J_iconst (pc' := 186) rfl (i32_d rfl) rfl ?_
    obtain ⟨zg19, W⟩ := W
    refine J_callV (as := [jo 0 (ra zs13 12001 zo0 zx1), ji 0]) (rest := []) (pc' := 189) rfl rfl ax_Z_116 rfl rfl (Or.inr (Or.inr ⟨_, _, rfl, zg19⟩)) (Nat.le_of_ble_eq_true rfl) (Nat.le_of_ble_eq_true rfl) (Nat.le_of_ble_eq_true rfl) zg10 trivial trivial rfl W (fun zs20 W => ?_)
    obtain ⟨zg22, W⟩ := W
    refine J_iinc (L' := [some (jo 12 zo0), some (ji (zx1 + 1))]) (pc' := 192) rfl rfl zg22 rfl rfl ?_
    refine J_goto (pc' := 159) rfl rfl ?_
    exact W
theorem wp_Top_feed {n : Nat} {σ : jS} {Q : Int → jS → Prop} {zo0 : Int} {zx1 : Int} {zx2 : Int} {zx3 : Int} {zx4 : Int} {zx5 : Int} (W : 0 ≤ zo0 ∧ 0 ≤ rs σ 12000 zo0 ∧ i32 ((rs σ 8000 (rs σ 12000 zo0)) + 20) ∧ (if (rs σ 8000 (rs σ 12000 zo0)) + 20 ≤ 800 then 1 ≤ n ∧ TrV (n - 1) i_Tape_addFour [jo 8 (rs σ 12000 zo0), ji zx1] σ (fun zs5 => 0 ≤ rs zs5 12000 zo0 ∧ TrV (n - 1) i_Tape_addFour [jo 8 (rs zs5 12000 zo0), ji zx2] zs5 (fun zs8 => 0 ≤ rs zs8 12000 zo0 ∧ TrV (n - 1) i_Tape_addFour [jo 8 (rs zs8 12000 zo0), ji zx3] zs8 (fun zs11 => 0 ≤ rs zs11 12000 zo0 ∧ TrV (n - 1) i_Tape_addFour [jo 8 (rs zs11 12000 zo0), ji zx4] zs11 (fun zs14 => 0 ≤ rs zs14 12000 zo0 ∧ TrV (n - 1) i_Tape_addFour [jo 8 (rs zs14 12000 zo0), ji zx5] zs14 (fun zs17 => 0 ≤ rs zs17 12000 zo0 ∧ Q (rs zs17 8000 (rs zs17 12000 zo0)) zs17))))) else Q (-1) σ)) : TrI n i_Top_feed [jo 12 zo0, ji zx1, ji zx2, ji zx3, ji zx4, ji zx5] σ Q := by
  refine Tr_of ax_Z_252 ?_
  show J n c_Top_feed (some .int) 0 [some (jo 12 zo0), some (ji zx1), some (ji zx2), some (ji zx3), some (ji zx4), some (ji zx5)] [] σ (qI Q)
  obtain ⟨zg1, W⟩ := W
  refine J_aload_no (pc' := 1) rfl rfl zg1 rfl ?_
  refine J_getO (G := 12000) (pc' := 4) rfl rfl (Nat.le_of_ble_eq_true rfl) rfl zg1 rfl ?_
  obtain ⟨zg2, W⟩ := W
  refine J_getI (G := 8000) (pc' := 7) rfl rfl (Nat.le_of_ble_eq_true rfl) rfl zg2 rfl ?_
  refine J_bipush (pc' := 9) rfl (by decide) (by decide) rfl ?_
  obtain ⟨zg3, W⟩ := W
  refine J_iadd (pc' := 10) rfl zg3 rfl ?_
  refine J_sipush (pc' := 13) rfl (by decide) (by decide) rfl ?_
  refine J_icmp (P := (rs σ 8000 (rs σ 12000 zo0)) + 20 ≤ 800) (t := 18) (f := 16) rfl rfl rfl jc_le W (fun W => ?_) (fun W => ?_)
  · refine J_aload_no (pc' := 19) rfl rfl zg1 rfl ?_
    refine J_getO (G := 12000) (pc' := 22) rfl rfl (Nat.le_of_ble_eq_true rfl) rfl zg1 rfl ?_
    refine J_iload_n (pc' := 23) rfl rfl rfl ?_
    obtain ⟨zg4, W⟩ := W
    refine J_weak (L' := [some (jo 12 zo0), none, some (ji zx2), some (ji zx3), some (ji zx4), some (ji zx5)]) (And.intro rfl (And.intro rfl (And.intro rfl (And.intro rfl (And.intro rfl trivial))))) ?_
    refine J_callV (as := [jo 8 (rs σ 12000 zo0), ji zx1]) (rest := []) (pc' := 26) rfl rfl ax_Z_183 rfl rfl (Or.inr (Or.inr ⟨_, _, rfl, zg2⟩)) (Nat.le_of_ble_eq_true rfl) (Nat.le_of_ble_eq_true rfl) (Nat.le_of_ble_eq_true rfl) zg4 trivial trivial rfl W (fun zs5 W => ?_)
    refine J_aload_no (pc' := 27) rfl rfl zg1 rfl ?_
    refine J_getO (G := 12000) (pc' := 30) rfl rfl (Nat.le_of_ble_eq_true rfl) rfl zg1 rfl ?_
    refine J_iload_n (pc' := 31) rfl rfl rfl ?_
    obtain ⟨zg7, W⟩ := W
    refine J_weak (L' := [some (jo 12 zo0), none, none, some (ji zx3), some (ji zx4), some (ji zx5)]) (And.intro rfl (And.intro rfl (And.intro rfl (And.intro rfl trivial)))) ?_
    refine J_callV (as := [jo 8 (rs zs5 12000 zo0), ji zx2]) (rest := []) (pc' := 34) rfl rfl ax_Z_183 rfl rfl (Or.inr (Or.inr ⟨_, _, rfl, zg7⟩)) (Nat.le_of_ble_eq_true rfl) (Nat.le_of_ble_eq_true rfl) (Nat.le_of_ble_eq_true rfl) zg4 trivial trivial rfl W (fun zs8 W => ?_)
    refine J_aload_no (pc' := 35) rfl rfl zg1 rfl ?_
    refine J_getO (G := 12000) (pc' := 38) rfl rfl (Nat.le_of_ble_eq_true rfl) rfl zg1 rfl ?_
    refine J_iload_n (pc' := 39) rfl rfl rfl ?_
    obtain ⟨zg10, W⟩ := W
    refine J_weak (L' := [some (jo 12 zo0), none, none, none, some (ji zx4), some (ji zx5)]) (And.intro rfl (And.intro rfl (And.intro rfl trivial))) ?_
    refine J_callV (as := [jo 8 (rs zs8 12000 zo0), ji zx3]) (rest := []) (pc' := 42) rfl rfl ax_Z_183 rfl rfl (Or.inr (Or.inr ⟨_, _, rfl, zg10⟩)) (Nat.le_of_ble_eq_true rfl) (Nat.le_of_ble_eq_true rfl) (Nat.le_of_ble_eq_true rfl) zg4 trivial trivial rfl W (fun zs11 W => ?_)
    refine J_aload_no (pc' := 43) rfl rfl zg1 rfl ?_
    refine J_getO (G := 12000) (pc' := 46) rfl rfl (Nat.le_of_ble_eq_true rfl) rfl zg1 rfl ?_
    refine J_iload (pc' := 48) rfl rfl rfl ?_
    obtain ⟨zg13, W⟩ := W
    refine J_weak (L' := [some (jo 12 zo0), none, none, none, none, some (ji zx5)]) (And.intro rfl (And.intro rfl trivial)) ?_
    refine J_callV (as := [jo 8 (rs zs11 12000 zo0), ji zx4]) (rest := []) (pc' := 51) rfl rfl ax_Z_183 rfl rfl (Or.inr (Or.inr ⟨_, _, rfl, zg13⟩)) (Nat.le_of_ble_eq_true rfl) (Nat.le_of_ble_eq_true rfl) (Nat.le_of_ble_eq_true rfl) zg4 trivial trivial rfl W (fun zs14 W => ?_)
    refine J_aload_no (pc' := 52) rfl rfl zg1 rfl ?_
    refine J_getO (G := 12000) (pc' := 55) rfl rfl (Nat.le_of_ble_eq_true rfl) rfl zg1 rfl ?_
    refine J_iload (pc' := 57) rfl rfl rfl ?_
    obtain ⟨zg16, W⟩ := W
    refine J_weak (L' := [some (jo 12 zo0), none, none, none, none, none]) (And.intro rfl trivial) ?_
    refine J_callV (as := [jo 8 (rs zs14 12000 zo0), ji zx5]) (rest := []) (pc' := 60) rfl rfl ax_Z_183 rfl rfl (Or.inr (Or.inr ⟨_, _, rfl, zg16⟩)) (Nat.le_of_ble_eq_true rfl) (Nat.le_of_ble_eq_true rfl) (Nat.le_of_ble_eq_true rfl) zg4 trivial trivial rfl W (fun zs17 W => ?_)
    refine J_aload_no (pc' := 61) rfl rfl zg1 rfl ?_
    refine J_getO (G := 12000) (pc' := 64) rfl rfl (Nat.le_of_ble_eq_true rfl) rfl zg1 rfl ?_
    obtain ⟨zg19, W⟩ := W
    refine J_getI (G := 8000) (pc' := 67) rfl rfl (Nat.le_of_ble_eq_true rfl) rfl zg19 rfl ?_
    exact J_iret rfl rfl ⟨_, rfl, W⟩
  · refine J_iconst (pc' := 17) rfl (i32_d rfl) rfl ?_
    exact J_iret rfl rfl ⟨_, rfl, W⟩
theorem wp_Top_end {n : Nat} {σ : jS} {Q : Int → jS → Prop} {zo0 : Int} {zx1 : Int} (W : (if zx1 < 0 then Q (-1) σ else 0 ≤ zo0 ∧ 0 ≤ rs σ 12000 zo0 ∧ (if zx1 ≤ rs σ 8000 (rs σ 12000 zo0) then (∀ zs3, zs3 = ws σ 8000 (rs σ 12000 zo0) zx1 → Q zx1 zs3) else Q (-1) σ))) : TrI n i_Top_end [jo 12 zo0, ji zx1] σ Q := by
  refine Tr_of ax_Z_253 ?_
  show J n c_Top_end (some .int) 0 [some (jo 12 zo0), some (ji zx1)] [] σ (qI Q)
  refine J_iload_n (pc' := 1) rfl rfl rfl ?_
  refine J_if (P := zx1 < 0) (t := 15) (f := 4) rfl rfl rfl jc_lt W (fun W => ?_) (fun W => ?_)
  · refine J_iconst (pc' := 16) rfl (i32_d rfl) rfl ?_
    exact J_iret rfl rfl ⟨_, rfl, W⟩
  · refine J_iload_n (pc' := 5) rfl rfl rfl ?_
    obtain ⟨zg1, W⟩ := W
    refine J_aload_no (pc' := 6) rfl rfl zg1 rfl ?_
    refine J_getO (G := 12000) (pc' := 9) rfl rfl (Nat.le_of_ble_eq_true rfl) rfl zg1 rfl ?_
    obtain ⟨zg2, W⟩ := W
    refine J_getI (G := 8000) (pc' := 12) rfl rfl (Nat.le_of_ble_eq_true rfl) rfl zg2 rfl ?_
    refine J_icmp (P := zx1 ≤ rs σ 8000 (rs σ 12000 zo0)) (t := 17) (f := 15) rfl rfl rfl jc_le W (fun W => ?_) (fun W => ?_)
    · refine J_aload_no (pc' := 18) rfl rfl zg1 rfl ?_
      refine J_getO (G := 12000) (pc' := 21) rfl rfl (Nat.le_of_ble_eq_true rfl) rfl zg1 rfl ?_
      refine J_iload_n (pc' := 22) rfl rfl rfl ?_
      refine J_putI (G := 8000) (pc' := 25) rfl rfl (Nat.le_of_ble_eq_true rfl) rfl rfl zg2 rfl (fun zs3 ezs3 => ?_)
      replace W := W zs3 ezs3
      refine J_iload_n (pc' := 26) rfl rfl rfl ?_
      exact J_iret rfl rfl ⟨_, rfl, W⟩
    · refine J_iconst (pc' := 16) rfl (i32_d rfl) rfl ?_
      exact J_iret rfl rfl ⟨_, rfl, W⟩
theorem wp_Top_scopes {n : Nat} {σ : jS} {Q : Int → jS → Prop} {zo0 : Int} (W : 0 ≤ zo0 ∧ 1 ≤ n ∧ 0 ≤ rs σ 12000 zo0 ∧ TrI (n - 1) i_Tape_readText [jo 8 (rs σ 12000 zo0), jo 10 (rs σ 12006 zo0)] σ (fun zr5 zs4 => (if zr5 = 0 then 0 ≤ rs zs4 12000 zo0 ∧ (∀ zs7, zs7 = ws zs4 12008 zo0 (rs zs4 8001 (rs zs4 12000 zo0)) → 0 ≤ rs zs7 12000 zo0 ∧ (∀ zs9, zs9 = ws zs7 8000 (rs zs7 12000 zo0) 0 → (if ¬ zr5 = 0 then 0 ≤ rs zs9 12005 zo0 ∧ 0 ≤ rs zs9 12006 zo0 ∧ (∀ zs11, zs11 = ws zs9 12005 zo0 (rs zs9 12006 zo0) → 0 ≤ rs zs9 12005 zo0 ∧ (∀ zs14, zs14 = ws zs11 12006 zo0 (rs zs9 12005 zo0) → 0 ≤ rs zs14 12005 zo0 ∧ TrV (n - 1) i_Text_settle [jo 10 (rs zs14 12005 zo0)] zs14 (fun zs16 => 0 ≤ rs zs16 12007 zo0 ∧ TrV (n - 1) i_Search_tell [jo 7 (rs zs16 12007 zo0), jo 10 (rs zs16 12005 zo0)] zs16 (fun zs19 => (∀ zs21, zs21 = ws zs19 12009 zo0 0 → (∀ zs22, zs22 = ws zs21 12010 zo0 0 → 0 ≤ rl zs22 12011 zo0 ∧ 0 < rl zs22 12011 zo0 ∧ (∀ zs24, zs24 = wa zs22 12011 zo0 0 (-1) → 0 ≤ rs zs24 12014 zo0 ∧ TrV (n - 1) i_Forest_clear [jo 3 (rs zs24 12014 zo0)] zs24 (fun zs27 => 0 ≤ rs zs27 12005 zo0 ∧ Q (rs zs27 10001 (rs zs27 12005 zo0)) zs27)))))))) else Q (-1) zs9))) else (∀ zs30, zs30 = ws zs4 12008 zo0 (-1) → 0 ≤ rs zs30 12000 zo0 ∧ (∀ zs32, zs32 = ws zs30 8000 (rs zs30 12000 zo0) 0 → (if ¬ zr5 = 0 then 0 ≤ rs zs32 12005 zo0 ∧ 0 ≤ rs zs32 12006 zo0 ∧ (∀ zs34, zs34 = ws zs32 12005 zo0 (rs zs32 12006 zo0) → 0 ≤ rs zs32 12005 zo0 ∧ (∀ zs37, zs37 = ws zs34 12006 zo0 (rs zs32 12005 zo0) → 0 ≤ rs zs37 12005 zo0 ∧ TrV (n - 1) i_Text_settle [jo 10 (rs zs37 12005 zo0)] zs37 (fun zs39 => 0 ≤ rs zs39 12007 zo0 ∧ TrV (n - 1) i_Search_tell [jo 7 (rs zs39 12007 zo0), jo 10 (rs zs39 12005 zo0)] zs39 (fun zs42 => (∀ zs44, zs44 = ws zs42 12009 zo0 0 → (∀ zs45, zs45 = ws zs44 12010 zo0 0 → 0 ≤ rl zs45 12011 zo0 ∧ 0 < rl zs45 12011 zo0 ∧ (∀ zs47, zs47 = wa zs45 12011 zo0 0 (-1) → 0 ≤ rs zs47 12014 zo0 ∧ TrV (n - 1) i_Forest_clear [jo 3 (rs zs47 12014 zo0)] zs47 (fun zs50 => 0 ≤ rs zs50 12005 zo0 ∧ Q (rs zs50 10001 (rs zs50 12005 zo0)) zs50)))))))) else Q (-1) zs32)))))) : TrI n i_Top_scopes [jo 12 zo0] σ Q := by
  refine Tr_of ax_Z_254 ?_
  show J n c_Top_scopes (some .int) 0 [some (jo 12 zo0), none, none] [] σ (qI Q)
  obtain ⟨zg1, W⟩ := W
  refine J_aload_no (pc' := 1) rfl rfl zg1 rfl ?_
  refine J_getO (G := 12000) (pc' := 4) rfl rfl (Nat.le_of_ble_eq_true rfl) rfl zg1 rfl ?_
  refine J_aload_no (pc' := 5) rfl rfl zg1 rfl ?_
  refine J_getO (G := 12006) (pc' := 8) rfl rfl (Nat.le_of_ble_eq_true rfl) rfl zg1 rfl ?_
  obtain ⟨zg2, W⟩ := W
  obtain ⟨zg3, W⟩ := W
  refine J_callI (as := [jo 8 (rs σ 12000 zo0), jo 10 (rs σ 12006 zo0)]) (rest := []) (pc' := 11) rfl rfl ax_Z_193 rfl rfl (Or.inr (Or.inr ⟨_, _, rfl, zg3⟩)) (Nat.le_of_ble_eq_true rfl) (Nat.le_of_ble_eq_true rfl) (Nat.le_of_ble_eq_true rfl) zg2 trivial trivial rfl W (fun zr5 zs4 W => ?_)
  refine J_istore_n (L' := [some (jo 12 zo0), some (ji zr5), none]) (pc' := 12) rfl (Nat.le_of_ble_eq_true rfl) rfl rfl ?_
  refine J_aload_no (pc' := 13) rfl rfl zg1 rfl ?_
  refine J_iload_n (pc' := 14) rfl rfl rfl ?_
  refine J_if (P := zr5 = 0) (t := 21) (f := 17) rfl rfl rfl jc_eq W (fun W => ?_) (fun W => ?_)
  · refine J_aload_no (pc' := 22) rfl rfl zg1 rfl ?_
    refine J_getO (G := 12000) (pc' := 25) rfl rfl (Nat.le_of_ble_eq_true rfl) rfl zg1 rfl ?_
    obtain ⟨zg6, W⟩ := W
    refine J_getI (G := 8001) (pc' := 28) rfl rfl (Nat.le_of_ble_eq_true rfl) rfl zg6 rfl ?_
    refine J_putI (G := 12008) (pc' := 31) rfl rfl (Nat.le_of_ble_eq_true rfl) rfl rfl zg1 rfl (fun zs7 ezs7 => ?_)
    replace W := W zs7 ezs7
    refine J_aload_no (pc' := 32) rfl rfl zg1 rfl ?_
    refine J_getO (G := 12000) (pc' := 35) rfl rfl (Nat.le_of_ble_eq_true rfl) rfl zg1 rfl ?_
    refine J_iconst (pc' := 36) rfl (i32_d rfl) rfl ?_
    obtain ⟨zg8, W⟩ := W
    refine J_putI (G := 8000) (pc' := 39) rfl rfl (Nat.le_of_ble_eq_true rfl) rfl rfl zg8 rfl (fun zs9 ezs9 => ?_)
    replace W := W zs9 ezs9
    refine J_iload_n (pc' := 40) rfl rfl rfl ?_
    refine J_if (P := ¬ zr5 = 0) (t := 45) (f := 43) rfl rfl rfl jc_ne W (fun W => ?_) (fun W => ?_)
    · refine J_aload_no (pc' := 46) rfl rfl zg1 rfl ?_
      refine J_getO (G := 12005) (pc' := 49) rfl rfl (Nat.le_of_ble_eq_true rfl) rfl zg1 rfl ?_
      obtain ⟨zg10, W⟩ := W
      refine J_astore_no (L' := [some (jo 12 zo0), some (ji zr5), some (jo 10 (rs zs9 12005 zo0))]) (pc' := 50) rfl zg10 (Nat.le_of_ble_eq_true rfl) rfl rfl ?_
      refine J_aload_no (pc' := 51) rfl rfl zg1 rfl ?_
      refine J_aload_no (pc' := 52) rfl rfl zg1 rfl ?_
      refine J_getO (G := 12006) (pc' := 55) rfl rfl (Nat.le_of_ble_eq_true rfl) rfl zg1 rfl ?_
      obtain ⟨zg12, W⟩ := W
      refine J_putO (G := 12005) (pc' := 58) rfl rfl (Nat.le_of_ble_eq_true rfl) rfl rfl zg1 zg12 rfl (fun zs11 ezs11 => ?_)
      replace W := W zs11 ezs11
      refine J_aload_no (pc' := 59) rfl rfl zg1 rfl ?_
      obtain ⟨zg13, W⟩ := W
      refine J_aload_no (pc' := 60) rfl rfl zg13 rfl ?_
      refine J_putO (G := 12006) (pc' := 63) rfl rfl (Nat.le_of_ble_eq_true rfl) rfl rfl zg1 zg13 rfl (fun zs14 ezs14 => ?_)
      replace W := W zs14 ezs14
      refine J_aload_no (pc' := 64) rfl rfl zg1 rfl ?_
      refine J_getO (G := 12005) (pc' := 67) rfl rfl (Nat.le_of_ble_eq_true rfl) rfl zg1 rfl ?_
      obtain ⟨zg15, W⟩ := W
      refine J_weak (L' := [some (jo 12 zo0), none, none]) (And.intro rfl trivial) ?_
      refine J_callV (as := [jo 10 (rs zs14 12005 zo0)]) (rest := []) (pc' := 70) rfl rfl ax_Z_236 rfl rfl (Or.inr (Or.inr ⟨_, _, rfl, zg15⟩)) (Nat.le_of_ble_eq_true rfl) (Nat.le_of_ble_eq_true rfl) (Nat.le_of_ble_eq_true rfl) zg2 trivial trivial rfl W (fun zs16 W => ?_)
      refine J_aload_no (pc' := 71) rfl rfl zg1 rfl ?_
      refine J_getO (G := 12007) (pc' := 74) rfl rfl (Nat.le_of_ble_eq_true rfl) rfl zg1 rfl ?_
      refine J_aload_no (pc' := 75) rfl rfl zg1 rfl ?_
      refine J_getO (G := 12005) (pc' := 78) rfl rfl (Nat.le_of_ble_eq_true rfl) rfl zg1 rfl ?_
      obtain ⟨zg18, W⟩ := W
      refine J_callV (as := [jo 7 (rs zs16 12007 zo0), jo 10 (rs zs16 12005 zo0)]) (rest := []) (pc' := 81) rfl rfl ax_Z_156 rfl rfl (Or.inr (Or.inr ⟨_, _, rfl, zg18⟩)) (Nat.le_of_ble_eq_true rfl) (Nat.le_of_ble_eq_true rfl) (Nat.le_of_ble_eq_true rfl) zg2 trivial trivial rfl W (fun zs19 W => ?_)
      refine J_aload_no (pc' := 82) rfl rfl zg1 rfl ?_
      refine J_iconst (pc' := 83) rfl (i32_d rfl) rfl ?_
      refine J_putI (G := 12009) (pc' := 86) rfl rfl (Nat.le_of_ble_eq_true rfl) rfl rfl zg1 rfl (fun zs21 ezs21 => ?_)
      replace W := W zs21 ezs21
      refine J_aload_no (pc' := 87) rfl rfl zg1 rfl ?_
      refine J_iconst (pc' := 88) rfl (i32_d rfl) rfl ?_
      refine J_putI (G := 12010) (pc' := 91) rfl rfl (Nat.le_of_ble_eq_true rfl) rfl rfl zg1 rfl (fun zs22 ezs22 => ?_)
      replace W := W zs22 ezs22
      refine J_aload_no (pc' := 92) rfl rfl zg1 rfl ?_
      obtain ⟨zg23, W⟩ := W
      refine J_getA (G := 12011) (pc' := 95) rfl rfl (Nat.le_of_ble_eq_true rfl) rfl zg1 zg23 rfl ?_
      refine J_iconst (pc' := 96) rfl (i32_d rfl) rfl ?_
      refine J_iconst (pc' := 97) rfl (i32_d rfl) rfl ?_
      obtain ⟨zg25, W⟩ := W
      refine J_iast (pc' := 98) rfl rfl (by decide) (by decide) zg25 rfl (fun zs24 ezs24 => ?_)
      replace W := W zs24 ezs24
      refine J_aload_no (pc' := 99) rfl rfl zg1 rfl ?_
      refine J_getO (G := 12014) (pc' := 102) rfl rfl (Nat.le_of_ble_eq_true rfl) rfl zg1 rfl ?_
      obtain ⟨zg26, W⟩ := W
      refine J_callV (as := [jo 3 (rs zs24 12014 zo0)]) (rest := []) (pc' := 105) rfl rfl ax_Z_133 rfl rfl (Or.inr (Or.inr ⟨_, _, rfl, zg26⟩)) (Nat.le_of_ble_eq_true rfl) (Nat.le_of_ble_eq_true rfl) (Nat.le_of_ble_eq_true rfl) zg2 trivial trivial rfl W (fun zs27 W => ?_)
      refine J_aload_no (pc' := 106) rfl rfl zg1 rfl ?_
      refine J_getO (G := 12005) (pc' := 109) rfl rfl (Nat.le_of_ble_eq_true rfl) rfl zg1 rfl ?_
      obtain ⟨zg29, W⟩ := W
      refine J_getI (G := 10001) (pc' := 112) rfl rfl (Nat.le_of_ble_eq_true rfl) rfl zg29 rfl ?_
      exact J_iret rfl rfl ⟨_, rfl, W⟩
    · refine J_iconst (pc' := 44) rfl (i32_d rfl) rfl ?_
      exact J_iret rfl rfl ⟨_, rfl, W⟩
  · refine J_iconst (pc' := 18) rfl (i32_d rfl) rfl ?_
    refine J_goto (pc' := 28) rfl rfl ?_
    refine J_putI (G := 12008) (pc' := 31) rfl rfl (Nat.le_of_ble_eq_true rfl) rfl rfl zg1 rfl (fun zs30 ezs30 => ?_)
    replace W := W zs30 ezs30
    refine J_aload_no (pc' := 32) rfl rfl zg1 rfl ?_
    refine J_getO (G := 12000) (pc' := 35) rfl rfl (Nat.le_of_ble_eq_true rfl) rfl zg1 rfl ?_
    refine J_iconst (pc' := 36) rfl (i32_d rfl) rfl ?_
    obtain ⟨zg31, W⟩ := W
    refine J_putI (G := 8000) (pc' := 39) rfl rfl (Nat.le_of_ble_eq_true rfl) rfl rfl zg31 rfl (fun zs32 ezs32 => ?_)
    replace W := W zs32 ezs32
    refine J_iload_n (pc' := 40) rfl rfl rfl ?_
    refine J_if (P := ¬ zr5 = 0) (t := 45) (f := 43) rfl rfl rfl jc_ne W (fun W => ?_) (fun W => ?_)
    · refine J_aload_no (pc' := 46) rfl rfl zg1 rfl ?_
      refine J_getO (G := 12005) (pc' := 49) rfl rfl (Nat.le_of_ble_eq_true rfl) rfl zg1 rfl ?_
      obtain ⟨zg33, W⟩ := W
      refine J_astore_no (L' := [some (jo 12 zo0), some (ji zr5), some (jo 10 (rs zs32 12005 zo0))]) (pc' := 50) rfl zg33 (Nat.le_of_ble_eq_true rfl) rfl rfl ?_
      refine J_aload_no (pc' := 51) rfl rfl zg1 rfl ?_
      refine J_aload_no (pc' := 52) rfl rfl zg1 rfl ?_
      refine J_getO (G := 12006) (pc' := 55) rfl rfl (Nat.le_of_ble_eq_true rfl) rfl zg1 rfl ?_
      obtain ⟨zg35, W⟩ := W
      refine J_putO (G := 12005) (pc' := 58) rfl rfl (Nat.le_of_ble_eq_true rfl) rfl rfl zg1 zg35 rfl (fun zs34 ezs34 => ?_)
      replace W := W zs34 ezs34
      refine J_aload_no (pc' := 59) rfl rfl zg1 rfl ?_
      obtain ⟨zg36, W⟩ := W
      refine J_aload_no (pc' := 60) rfl rfl zg36 rfl ?_
      refine J_putO (G := 12006) (pc' := 63) rfl rfl (Nat.le_of_ble_eq_true rfl) rfl rfl zg1 zg36 rfl (fun zs37 ezs37 => ?_)
      replace W := W zs37 ezs37
      refine J_aload_no (pc' := 64) rfl rfl zg1 rfl ?_
      refine J_getO (G := 12005) (pc' := 67) rfl rfl (Nat.le_of_ble_eq_true rfl) rfl zg1 rfl ?_
      obtain ⟨zg38, W⟩ := W
      refine J_weak (L' := [some (jo 12 zo0), none, none]) (And.intro rfl trivial) ?_
      refine J_callV (as := [jo 10 (rs zs37 12005 zo0)]) (rest := []) (pc' := 70) rfl rfl ax_Z_236 rfl rfl (Or.inr (Or.inr ⟨_, _, rfl, zg38⟩)) (Nat.le_of_ble_eq_true rfl) (Nat.le_of_ble_eq_true rfl) (Nat.le_of_ble_eq_true rfl) zg2 trivial trivial rfl W (fun zs39 W => ?_)
      refine J_aload_no (pc' := 71) rfl rfl zg1 rfl ?_
      refine J_getO (G := 12007) (pc' := 74) rfl rfl (Nat.le_of_ble_eq_true rfl) rfl zg1 rfl ?_
      refine J_aload_no (pc' := 75) rfl rfl zg1 rfl ?_
      refine J_getO (G := 12005) (pc' := 78) rfl rfl (Nat.le_of_ble_eq_true rfl) rfl zg1 rfl ?_
      obtain ⟨zg41, W⟩ := W
      refine J_callV (as := [jo 7 (rs zs39 12007 zo0), jo 10 (rs zs39 12005 zo0)]) (rest := []) (pc' := 81) rfl rfl ax_Z_156 rfl rfl (Or.inr (Or.inr ⟨_, _, rfl, zg41⟩)) (Nat.le_of_ble_eq_true rfl) (Nat.le_of_ble_eq_true rfl) (Nat.le_of_ble_eq_true rfl) zg2 trivial trivial rfl W (fun zs42 W => ?_)
      refine J_aload_no (pc' := 82) rfl rfl zg1 rfl ?_
      refine J_iconst (pc' := 83) rfl (i32_d rfl) rfl ?_
      refine J_putI (G := 12009) (pc' := 86) rfl rfl (Nat.le_of_ble_eq_true rfl) rfl rfl zg1 rfl (fun zs44 ezs44 => ?_)
      replace W := W zs44 ezs44
      refine J_aload_no (pc' := 87) rfl rfl zg1 rfl ?_
      refine J_iconst (pc' := 88) rfl (i32_d rfl) rfl ?_
      refine J_putI (G := 12010) (pc' := 91) rfl rfl (Nat.le_of_ble_eq_true rfl) rfl rfl zg1 rfl (fun zs45 ezs45 => ?_)
      replace W := W zs45 ezs45
      refine J_aload_no (pc' := 92) rfl rfl zg1 rfl ?_
      obtain ⟨zg46, W⟩ := W
      refine J_getA (G := 12011) (pc' := 95) rfl rfl (Nat.le_of_ble_eq_true rfl) rfl zg1 zg46 rfl ?_
      refine J_iconst (pc' := 96) rfl (i32_d rfl) rfl ?_
      refine J_iconst (pc' := 97) rfl (i32_d rfl) rfl ?_
      obtain ⟨zg48, W⟩ := W
      refine J_iast (pc' := 98) rfl rfl (by decide) (by decide) zg48 rfl (fun zs47 ezs47 => ?_)
      replace W := W zs47 ezs47
      refine J_aload_no (pc' := 99) rfl rfl zg1 rfl ?_
      refine J_getO (G := 12014) (pc' := 102) rfl rfl (Nat.le_of_ble_eq_true rfl) rfl zg1 rfl ?_
      obtain ⟨zg49, W⟩ := W
      refine J_callV (as := [jo 3 (rs zs47 12014 zo0)]) (rest := []) (pc' := 105) rfl rfl ax_Z_133 rfl rfl (Or.inr (Or.inr ⟨_, _, rfl, zg49⟩)) (Nat.le_of_ble_eq_true rfl) (Nat.le_of_ble_eq_true rfl) (Nat.le_of_ble_eq_true rfl) zg2 trivial trivial rfl W (fun zs50 W => ?_)
      refine J_aload_no (pc' := 106) rfl rfl zg1 rfl ?_
      refine J_getO (G := 12005) (pc' := 109) rfl rfl (Nat.le_of_ble_eq_true rfl) rfl zg1 rfl ?_
      obtain ⟨zg52, W⟩ := W
      refine J_getI (G := 10001) (pc' := 112) rfl rfl (Nat.le_of_ble_eq_true rfl) rfl zg52 rfl ?_
      exact J_iret rfl rfl ⟨_, rfl, W⟩
    · refine J_iconst (pc' := 44) rfl (i32_d rfl) rfl ?_
      exact J_iret rfl rfl ⟨_, rfl, W⟩
theorem wp_Top_fault {n : Nat} {σ : jS} {Q : Int → jS → Prop} {zo0 : Int} (W : 0 ≤ zo0 ∧ Q (rs σ 12008 zo0) σ) : TrI n i_Top_fault [jo 12 zo0] σ Q := by
  refine Tr_of ax_Z_255 ?_
  show J n c_Top_fault (some .int) 0 [some (jo 12 zo0)] [] σ (qI Q)
  obtain ⟨zg1, W⟩ := W
  refine J_aload_no (pc' := 1) rfl rfl zg1 rfl ?_
  refine J_getI (G := 12008) (pc' := 4) rfl rfl (Nat.le_of_ble_eq_true rfl) rfl zg1 rfl ?_
  exact J_iret rfl rfl ⟨_, rfl, W⟩
theorem wp_Top_is {n : Nat} {σ : jS} {Q : Int → jS → Prop} {zo0 : Int} {zx1 : Int} (W : (if zx1 = 0 then 0 ≤ zo0 ∧ 0 ≤ rs σ 12005 zo0 ∧ Q (rs σ 10000 (rs σ 12005 zo0)) σ else (if zx1 = 1 then 0 ≤ zo0 ∧ 0 ≤ rs σ 12005 zo0 ∧ Q (rs σ 10001 (rs σ 12005 zo0)) σ else (if zx1 = 2 then 0 ≤ zo0 ∧ Q (rs σ 12009 zo0) σ else (if zx1 = 3 then 0 ≤ zo0 ∧ Q (rs σ 12010 zo0) σ else (if zx1 = 4 then 0 ≤ zo0 ∧ 0 ≤ rs σ 12007 zo0 ∧ 0 ≤ rs σ 7001 (rs σ 12007 zo0) ∧ Q (rs σ 5000 (rs σ 7001 (rs σ 12007 zo0))) σ else (if zx1 = 5 then 0 ≤ zo0 ∧ 0 ≤ rs σ 12000 zo0 ∧ Q (rs σ 8000 (rs σ 12000 zo0)) σ else (if zx1 = 6 then 0 ≤ zo0 ∧ 1 ≤ n ∧ 0 ≤ rs σ 12005 zo0 ∧ TrI (n - 1) i_Text_needsInAll [jo 10 (rs σ 12005 zo0)] σ (fun zr16 zs15 => Q zr16 zs15) else Q (-1) σ)))))))) : TrI n i_Top_is [jo 12 zo0, ji zx1] σ Q := by
  refine Tr_of ax_Z_256 ?_
  show J n c_Top_is (some .int) 0 [some (jo 12 zo0), some (ji zx1)] [] σ (qI Q)
  refine J_iload_n (pc' := 1) rfl rfl rfl ?_
  by_cases zc17 : zx1 = 0
  · rw [if_pos zc17] at W
    refine J_swC (pc' := 44) (i := 0) rfl (by omega) (by decide) rfl rfl ?_
    obtain ⟨zg1, W⟩ := W
    refine J_aload_no (pc' := 45) rfl rfl zg1 rfl ?_
    refine J_getO (G := 12005) (pc' := 48) rfl rfl (Nat.le_of_ble_eq_true rfl) rfl zg1 rfl ?_
    obtain ⟨zg2, W⟩ := W
    refine J_getI (G := 10000) (pc' := 51) rfl rfl (Nat.le_of_ble_eq_true rfl) rfl zg2 rfl ?_
    exact J_iret rfl rfl ⟨_, rfl, W⟩
  rw [if_neg zc17] at W
  by_cases zc18 : zx1 = 1
  · rw [if_pos zc18] at W
    refine J_swC (pc' := 52) (i := 1) rfl (by omega) (by decide) rfl rfl ?_
    obtain ⟨zg3, W⟩ := W
    refine J_aload_no (pc' := 53) rfl rfl zg3 rfl ?_
    refine J_getO (G := 12005) (pc' := 56) rfl rfl (Nat.le_of_ble_eq_true rfl) rfl zg3 rfl ?_
    obtain ⟨zg4, W⟩ := W
    refine J_getI (G := 10001) (pc' := 59) rfl rfl (Nat.le_of_ble_eq_true rfl) rfl zg4 rfl ?_
    exact J_iret rfl rfl ⟨_, rfl, W⟩
  rw [if_neg zc18] at W
  by_cases zc19 : zx1 = 2
  · rw [if_pos zc19] at W
    refine J_swC (pc' := 60) (i := 2) rfl (by omega) (by decide) rfl rfl ?_
    obtain ⟨zg5, W⟩ := W
    refine J_aload_no (pc' := 61) rfl rfl zg5 rfl ?_
    refine J_getI (G := 12009) (pc' := 64) rfl rfl (Nat.le_of_ble_eq_true rfl) rfl zg5 rfl ?_
    exact J_iret rfl rfl ⟨_, rfl, W⟩
  rw [if_neg zc19] at W
  by_cases zc20 : zx1 = 3
  · rw [if_pos zc20] at W
    refine J_swC (pc' := 65) (i := 3) rfl (by omega) (by decide) rfl rfl ?_
    obtain ⟨zg6, W⟩ := W
    refine J_aload_no (pc' := 66) rfl rfl zg6 rfl ?_
    refine J_getI (G := 12010) (pc' := 69) rfl rfl (Nat.le_of_ble_eq_true rfl) rfl zg6 rfl ?_
    exact J_iret rfl rfl ⟨_, rfl, W⟩
  rw [if_neg zc20] at W
  by_cases zc21 : zx1 = 4
  · rw [if_pos zc21] at W
    refine J_swC (pc' := 70) (i := 4) rfl (by omega) (by decide) rfl rfl ?_
    obtain ⟨zg7, W⟩ := W
    refine J_aload_no (pc' := 71) rfl rfl zg7 rfl ?_
    refine J_getO (G := 12007) (pc' := 74) rfl rfl (Nat.le_of_ble_eq_true rfl) rfl zg7 rfl ?_
    obtain ⟨zg8, W⟩ := W
    refine J_getO (G := 7001) (pc' := 77) rfl rfl (Nat.le_of_ble_eq_true rfl) rfl zg8 rfl ?_
    obtain ⟨zg9, W⟩ := W
    refine J_getI (G := 5000) (pc' := 80) rfl rfl (Nat.le_of_ble_eq_true rfl) rfl zg9 rfl ?_
    exact J_iret rfl rfl ⟨_, rfl, W⟩
  rw [if_neg zc21] at W
  by_cases zc22 : zx1 = 5
  · rw [if_pos zc22] at W
    refine J_swC (pc' := 81) (i := 5) rfl (by omega) (by decide) rfl rfl ?_
    obtain ⟨zg10, W⟩ := W
    refine J_aload_no (pc' := 82) rfl rfl zg10 rfl ?_
    refine J_getO (G := 12000) (pc' := 85) rfl rfl (Nat.le_of_ble_eq_true rfl) rfl zg10 rfl ?_
    obtain ⟨zg11, W⟩ := W
    refine J_getI (G := 8000) (pc' := 88) rfl rfl (Nat.le_of_ble_eq_true rfl) rfl zg11 rfl ?_
    exact J_iret rfl rfl ⟨_, rfl, W⟩
  rw [if_neg zc22] at W
  by_cases zc23 : zx1 = 6
  · rw [if_pos zc23] at W
    refine J_swC (pc' := 89) (i := 6) rfl (by omega) (by decide) rfl rfl ?_
    obtain ⟨zg12, W⟩ := W
    refine J_aload_no (pc' := 90) rfl rfl zg12 rfl ?_
    refine J_getO (G := 12005) (pc' := 93) rfl rfl (Nat.le_of_ble_eq_true rfl) rfl zg12 rfl ?_
    obtain ⟨zg13, W⟩ := W
    obtain ⟨zg14, W⟩ := W
    refine J_weak (L' := [none, none]) trivial ?_
    refine J_callI (as := [jo 10 (rs σ 12005 zo0)]) (rest := []) (pc' := 96) rfl rfl ax_Z_232 rfl rfl (Or.inr (Or.inr ⟨_, _, rfl, zg14⟩)) (Nat.le_of_ble_eq_true rfl) (Nat.le_of_ble_eq_true rfl) (Nat.le_of_ble_eq_true rfl) zg13 trivial trivial rfl W (fun zr16 zs15 W => ?_)
    exact J_iret rfl rfl ⟨_, rfl, W⟩
  rw [if_neg zc23] at W
  refine J_swD (pc' := 97) rfl (by omega) rfl ?_
  refine J_iconst (pc' := 98) rfl (i32_d rfl) rfl ?_
  exact J_iret rfl rfl ⟨_, rfl, W⟩
