/-! Rows that turn code into formulas (written by genwp.py). -/
theorem wp_Model_isIn {n : Nat} {σ : jS} {Q : Int → jS → Prop} {zx0 : Int} {zx1 : Int} {zx2 : Int} (W : (if zx0 < zx1 then Q 0 σ else (if zx2 < zx0 then Q 0 σ else Q 1 σ))) : TrI n i_Model_isIn [ji zx0, ji zx1, ji zx2] σ Q := by
  refine Tr_of ax_Z_0 ?_
  show J n c_Model_isIn (some .boolean) 0 [some (ji zx0), some (ji zx1), some (ji zx2)] [] σ (qI Q)
  refine J_iload_n (pc' := 1) rfl rfl rfl ?_
  refine J_iload_n (pc' := 2) rfl rfl rfl ?_
  refine J_icmp (P := zx0 < zx1) (t := 14) (f := 5) rfl rfl rfl jc_lt W (fun W => ?_) (fun W => ?_)
  · refine J_iconst (pc' := 15) rfl (i32_d rfl) rfl ?_
    exact J_zret rfl rfl (Or.inl rfl) ⟨_, rfl, W⟩
  · refine J_iload_n (pc' := 6) rfl rfl rfl ?_
    refine J_iload_n (pc' := 7) rfl rfl rfl ?_
    refine J_icmp (P := zx2 < zx0) (t := 14) (f := 10) rfl rfl rfl jc_gt W (fun W => ?_) (fun W => ?_)
    · refine J_iconst (pc' := 15) rfl (i32_d rfl) rfl ?_
      exact J_zret rfl rfl (Or.inl rfl) ⟨_, rfl, W⟩
    · refine J_iconst (pc' := 11) rfl (i32_d rfl) rfl ?_
      refine J_goto (pc' := 15) rfl rfl ?_
      exact J_zret rfl rfl (Or.inr rfl) ⟨_, rfl, W⟩
theorem wp_Model_has {n : Nat} {σ : jS} {Q : Int → jS → Prop} {zx0 : Int} {zx1 : Int} (W : (if ¬ bAnd (bShr zx0 zx1) 1 = 1 then Q 0 σ else Q 1 σ)) : TrI n i_Model_has [ji zx0, ji zx1] σ Q := by
  refine Tr_of ax_Z_1 ?_
  show J n c_Model_has (some .boolean) 0 [some (ji zx0), some (ji zx1)] [] σ (qI Q)
  refine J_iload_n (pc' := 1) rfl rfl rfl ?_
  refine J_iload_n (pc' := 2) rfl rfl rfl ?_
  refine J_ishr (pc' := 3) rfl rfl ?_
  refine J_iconst (pc' := 4) rfl (i32_d rfl) rfl ?_
  refine J_iand (pc' := 5) rfl rfl ?_
  refine J_iconst (pc' := 6) rfl (i32_d rfl) rfl ?_
  refine J_icmp (P := ¬ bAnd (bShr zx0 zx1) 1 = 1) (t := 13) (f := 9) rfl rfl rfl jc_ne W (fun W => ?_) (fun W => ?_)
  · refine J_iconst (pc' := 14) rfl (i32_d rfl) rfl ?_
    exact J_zret rfl rfl (Or.inl rfl) ⟨_, rfl, W⟩
  · refine J_iconst (pc' := 10) rfl (i32_d rfl) rfl ?_
    refine J_goto (pc' := 14) rfl rfl ?_
    exact J_zret rfl rfl (Or.inr rfl) ⟨_, rfl, W⟩
theorem wp_Model_bits {n : Nat} {σ : jS} {Q : Int → jS → Prop} {zx0 : Int} (W : J n c_Model_bits (some .int) 4 [none, some (ji 0), some (ji zx0)] [] σ (qI Q)) : TrI n i_Model_bits [ji zx0] σ Q := by
  refine Tr_of ax_Z_2 ?_
  show J n c_Model_bits (some .int) 0 [some (ji zx0), none, none] [] σ (qI Q)
  refine J_iconst (pc' := 1) rfl (i32_d rfl) rfl ?_
  refine J_istore_n (L' := [some (ji zx0), some (ji 0), none]) (pc' := 2) rfl (Nat.le_of_ble_eq_true rfl) rfl rfl ?_
  refine J_iload_n (pc' := 3) rfl rfl rfl ?_
  refine J_istore_n (L' := [some (ji zx0), some (ji 0), some (ji zx0)]) (pc' := 4) rfl (Nat.le_of_ble_eq_true rfl) rfl rfl ?_
  refine J_weak (L' := [none, some (ji 0), some (ji zx0)]) (And.intro rfl (And.intro rfl trivial)) ?_
  exact W
theorem wp_Model_bits_4 {n : Nat} {σ : jS} {Q : Int → jS → Prop} {zx1 : Int} {zx2 : Int} (W : (if zx2 = 0 then Q zx1 σ else i32 (zx1 + 1) ∧ i32 (zx2 - 1) ∧ J n c_Model_bits (some .int) 4 [none, some (ji (zx1 + 1)), some (ji (bAnd zx2 (zx2 - 1)))] [] σ (qI Q))) : J n c_Model_bits (some .int) 4 [none, some (ji zx1), some (ji zx2)] [] σ (qI Q) := by
  refine J_iload_n (pc' := 5) rfl rfl rfl ?_
  refine J_if (P := zx2 = 0) (t := 20) (f := 8) rfl rfl rfl jc_eq W (fun W => ?_) (fun W => ?_)
  · refine J_iload_n (pc' := 21) rfl rfl rfl ?_
    exact J_iret rfl rfl ⟨_, rfl, W⟩
  · obtain ⟨zg1, W⟩ := W
    refine J_iinc (L' := [none, some (ji (zx1 + 1)), some (ji zx2)]) (pc' := 11) rfl rfl zg1 rfl rfl ?_
    refine J_iload_n (pc' := 12) rfl rfl rfl ?_
    refine J_iload_n (pc' := 13) rfl rfl rfl ?_
    refine J_iconst (pc' := 14) rfl (i32_d rfl) rfl ?_
    obtain ⟨zg2, W⟩ := W
    refine J_isub (pc' := 15) rfl zg2 rfl ?_
    refine J_iand (pc' := 16) rfl rfl ?_
    refine J_istore_n (L' := [none, some (ji (zx1 + 1)), some (ji (bAnd zx2 (zx2 - 1)))]) (pc' := 17) rfl (Nat.le_of_ble_eq_true rfl) rfl rfl ?_
    refine J_goto (pc' := 4) rfl rfl ?_
    exact W
theorem wp_Model_con {n : Nat} {σ : jS} {Q : Int → jS → Prop} {zx0 : Int} {zx1 : Int} (W : i32 (4 * zx0) ∧ i32 ((4 * zx0) + zx1) ∧ Q ((4 * zx0) + zx1) σ) : TrI n i_Model_con [ji zx0, ji zx1] σ Q := by
  refine Tr_of ax_Z_3 ?_
  show J n c_Model_con (some .int) 0 [some (ji zx0), some (ji zx1)] [] σ (qI Q)
  refine J_iconst (pc' := 1) rfl (i32_d rfl) rfl ?_
  refine J_iload_n (pc' := 2) rfl rfl rfl ?_
  obtain ⟨zg1, W⟩ := W
  refine J_imul (pc' := 3) rfl zg1 rfl ?_
  refine J_iload_n (pc' := 4) rfl rfl rfl ?_
  obtain ⟨zg2, W⟩ := W
  refine J_iadd (pc' := 5) rfl zg2 rfl ?_
  exact J_iret rfl rfl ⟨_, rfl, W⟩
theorem wp_Model_var {n : Nat} {σ : jS} {Q : Int → jS → Prop} {zx0 : Int} (W : i32 ((-1) - zx0) ∧ Q ((-1) - zx0) σ) : TrI n i_Model_var [ji zx0] σ Q := by
  refine Tr_of ax_Z_4 ?_
  show J n c_Model_var (some .int) 0 [some (ji zx0)] [] σ (qI Q)
  refine J_iconst (pc' := 1) rfl (i32_d rfl) rfl ?_
  refine J_iload_n (pc' := 2) rfl rfl rfl ?_
  obtain ⟨zg1, W⟩ := W
  refine J_isub (pc' := 3) rfl zg1 rfl ?_
  exact J_iret rfl rfl ⟨_, rfl, W⟩
theorem wp_Model_partsOf {n : Nat} {σ : jS} {Q : Int → jS → Prop} {zx0 : Int} (W : (if 0 ≤ zx0 then 0 ≤ zx0 ∧ Q (zx0 % 4) σ else Q 0 σ)) : TrI n i_Model_partsOf [ji zx0] σ Q := by
  refine Tr_of ax_Z_5 ?_
  show J n c_Model_partsOf (some .int) 0 [some (ji zx0)] [] σ (qI Q)
  refine J_iload_n (pc' := 1) rfl rfl rfl ?_
  refine J_if (P := 0 ≤ zx0) (t := 8) (f := 4) rfl rfl rfl jc_ge W (fun W => ?_) (fun W => ?_)
  · refine J_iload_n (pc' := 9) rfl rfl rfl ?_
    refine J_iconst (pc' := 10) rfl (i32_d rfl) rfl ?_
    obtain ⟨zg1, W⟩ := W
    refine J_irem (pc' := 11) rfl zg1 (by decide) rfl ?_
    exact J_iret rfl rfl ⟨_, rfl, W⟩
  · refine J_iconst (pc' := 5) rfl (i32_d rfl) rfl ?_
    refine J_goto (pc' := 11) rfl rfl ?_
    exact J_iret rfl rfl ⟨_, rfl, W⟩
theorem wp_Model_four {n : Nat} {σ : jS} {Q : jS → Prop} {zo0 : Int} {zx1 : Int} (W : J n c_Model_four none 3 [some (jo 1 zo0), some (ji zx1), some (ji 24)] [] σ (qV Q)) : TrV n i_Model_four [jo 1 zo0, ji zx1] σ Q := by
  refine Tr_of ax_Z_6 ?_
  show J n c_Model_four none 0 [some (jo 1 zo0), some (ji zx1), none] [] σ (qV Q)
  refine J_bipush (pc' := 2) rfl (by decide) (by decide) rfl ?_
  refine J_istore_n (L' := [some (jo 1 zo0), some (ji zx1), some (ji 24)]) (pc' := 3) rfl (Nat.le_of_ble_eq_true rfl) rfl rfl ?_
  exact W
theorem wp_Model_four_3 {n : Nat} {σ : jS} {Q : jS → Prop} {zo0 : Int} {zx1 : Int} {zx2 : Int} (W : (if zx2 < 0 then Q σ else 0 ≤ zo0 ∧ 0 ≤ rl σ 1000 zo0 ∧ 0 ≤ rs σ 1001 zo0 ∧ rs σ 1001 zo0 < rl σ 1000 zo0 ∧ (∀ zs3, zs3 = wa σ 1000 zo0 (rs σ 1001 zo0) (bI8 (bI8 (bShr zx1 zx2))) → i32 ((rs zs3 1001 zo0) + 1) ∧ (∀ zs7, zs7 = ws zs3 1001 zo0 ((rs zs3 1001 zo0) + 1) → i32 (zx2 + (-8)) ∧ J n c_Model_four none 3 [some (jo 1 zo0), some (ji zx1), some (ji (zx2 + (-8)))] [] zs7 (qV Q))))) : J n c_Model_four none 3 [some (jo 1 zo0), some (ji zx1), some (ji zx2)] [] σ (qV Q) := by
  refine J_iload_n (pc' := 4) rfl rfl rfl ?_
  refine J_if (P := zx2 < 0) (t := 36) (f := 7) rfl rfl rfl jc_lt W (fun W => ?_) (fun W => ?_)
  · exact J_vret rfl rfl ⟨rfl, W⟩
  · obtain ⟨zg1, W⟩ := W
    refine J_aload_no (pc' := 8) rfl rfl zg1 rfl ?_
    obtain ⟨zg2, W⟩ := W
    refine J_getA (G := 1000) (pc' := 11) rfl rfl (Nat.le_of_ble_eq_true rfl) rfl zg1 zg2 rfl ?_
    refine J_aload_no (pc' := 12) rfl rfl zg1 rfl ?_
    refine J_getI (G := 1001) (pc' := 15) rfl rfl (Nat.le_of_ble_eq_true rfl) rfl zg1 rfl ?_
    refine J_iload_n (pc' := 16) rfl rfl rfl ?_
    refine J_iload_n (pc' := 17) rfl rfl rfl ?_
    refine J_ishr (pc' := 18) rfl rfl ?_
    refine J_i2b (pc' := 19) rfl rfl ?_
    obtain ⟨zg4, W⟩ := W
    obtain ⟨zg5, W⟩ := W
    refine J_bast1 (pc' := 20) rfl rfl zg4 zg5 rfl (fun zs3 ezs3 => ?_)
    replace W := W zs3 ezs3
    refine J_aload_no (pc' := 21) rfl rfl zg1 rfl ?_
    refine J_dup (pc' := 22) rfl rfl rfl ?_
    refine J_getI (G := 1001) (pc' := 25) rfl rfl (Nat.le_of_ble_eq_true rfl) rfl zg1 rfl ?_
    refine J_iconst (pc' := 26) rfl (i32_d rfl) rfl ?_
    obtain ⟨zg6, W⟩ := W
    refine J_iadd (pc' := 27) rfl zg6 rfl ?_
    refine J_putI (G := 1001) (pc' := 30) rfl rfl (Nat.le_of_ble_eq_true rfl) rfl rfl zg1 rfl (fun zs7 ezs7 => ?_)
    replace W := W zs7 ezs7
    obtain ⟨zg8, W⟩ := W
    refine J_iinc (L' := [some (jo 1 zo0), some (ji zx1), some (ji (zx2 + (-8)))]) (pc' := 33) rfl rfl zg8 rfl rfl ?_
    refine J_goto (pc' := 3) rfl rfl ?_
    exact W
theorem wp_Model_feed {n : Nat} {σ : jS} {Q : Int → jS → Prop} {zo0 : Int} {zx1 : Int} {zx2 : Int} {zx3 : Int} {zx4 : Int} {zx5 : Int} (W : 0 ≤ zo0 ∧ i32 ((rs σ 1001 zo0) + 20) ∧ (if (rs σ 1001 zo0) + 20 ≤ 800 then 1 ≤ n ∧ TrV (n - 1) i_Model_four [jo 1 zo0, ji zx1] σ (fun zs4 => TrV (n - 1) i_Model_four [jo 1 zo0, ji zx2] zs4 (fun zs6 => TrV (n - 1) i_Model_four [jo 1 zo0, ji zx3] zs6 (fun zs8 => TrV (n - 1) i_Model_four [jo 1 zo0, ji zx4] zs8 (fun zs10 => TrV (n - 1) i_Model_four [jo 1 zo0, ji zx5] zs10 (fun zs12 => Q (rs zs12 1001 zo0) zs12))))) else Q (-1) σ)) : TrI n i_Model_feed [jo 1 zo0, ji zx1, ji zx2, ji zx3, ji zx4, ji zx5] σ Q := by
  refine Tr_of ax_Z_7 ?_
  show J n c_Model_feed (some .int) 0 [some (jo 1 zo0), some (ji zx1), some (ji zx2), some (ji zx3), some (ji zx4), some (ji zx5)] [] σ (qI Q)
  obtain ⟨zg1, W⟩ := W
  refine J_aload_no (pc' := 1) rfl rfl zg1 rfl ?_
  refine J_getI (G := 1001) (pc' := 4) rfl rfl (Nat.le_of_ble_eq_true rfl) rfl zg1 rfl ?_
  refine J_bipush (pc' := 6) rfl (by decide) (by decide) rfl ?_
  obtain ⟨zg2, W⟩ := W
  refine J_iadd (pc' := 7) rfl zg2 rfl ?_
  refine J_sipush (pc' := 10) rfl (by decide) (by decide) rfl ?_
  refine J_icmp (P := (rs σ 1001 zo0) + 20 ≤ 800) (t := 15) (f := 13) rfl rfl rfl jc_le W (fun W => ?_) (fun W => ?_)
  · refine J_aload_no (pc' := 16) rfl rfl zg1 rfl ?_
    refine J_iload_n (pc' := 17) rfl rfl rfl ?_
    obtain ⟨zg3, W⟩ := W
    refine J_weak (L' := [some (jo 1 zo0), none, some (ji zx2), some (ji zx3), some (ji zx4), some (ji zx5)]) (And.intro rfl (And.intro rfl (And.intro rfl (And.intro rfl (And.intro rfl trivial))))) ?_
    refine J_callV (as := [jo 1 zo0, ji zx1]) (rest := []) (pc' := 20) rfl rfl ax_Z_6 rfl rfl (Or.inr (Or.inr ⟨_, _, rfl, zg1⟩)) (Nat.le_of_ble_eq_true rfl) (Nat.le_of_ble_eq_true rfl) (Nat.le_of_ble_eq_true rfl) zg3 trivial trivial rfl W (fun zs4 W => ?_)
    refine J_aload_no (pc' := 21) rfl rfl zg1 rfl ?_
    refine J_iload_n (pc' := 22) rfl rfl rfl ?_
    refine J_weak (L' := [some (jo 1 zo0), none, none, some (ji zx3), some (ji zx4), some (ji zx5)]) (And.intro rfl (And.intro rfl (And.intro rfl (And.intro rfl trivial)))) ?_
    refine J_callV (as := [jo 1 zo0, ji zx2]) (rest := []) (pc' := 25) rfl rfl ax_Z_6 rfl rfl (Or.inr (Or.inr ⟨_, _, rfl, zg1⟩)) (Nat.le_of_ble_eq_true rfl) (Nat.le_of_ble_eq_true rfl) (Nat.le_of_ble_eq_true rfl) zg3 trivial trivial rfl W (fun zs6 W => ?_)
    refine J_aload_no (pc' := 26) rfl rfl zg1 rfl ?_
    refine J_iload_n (pc' := 27) rfl rfl rfl ?_
    refine J_weak (L' := [some (jo 1 zo0), none, none, none, some (ji zx4), some (ji zx5)]) (And.intro rfl (And.intro rfl (And.intro rfl trivial))) ?_
    refine J_callV (as := [jo 1 zo0, ji zx3]) (rest := []) (pc' := 30) rfl rfl ax_Z_6 rfl rfl (Or.inr (Or.inr ⟨_, _, rfl, zg1⟩)) (Nat.le_of_ble_eq_true rfl) (Nat.le_of_ble_eq_true rfl) (Nat.le_of_ble_eq_true rfl) zg3 trivial trivial rfl W (fun zs8 W => ?_)
    refine J_aload_no (pc' := 31) rfl rfl zg1 rfl ?_
    refine J_iload (pc' := 33) rfl rfl rfl ?_
    refine J_weak (L' := [some (jo 1 zo0), none, none, none, none, some (ji zx5)]) (And.intro rfl (And.intro rfl trivial)) ?_
    refine J_callV (as := [jo 1 zo0, ji zx4]) (rest := []) (pc' := 36) rfl rfl ax_Z_6 rfl rfl (Or.inr (Or.inr ⟨_, _, rfl, zg1⟩)) (Nat.le_of_ble_eq_true rfl) (Nat.le_of_ble_eq_true rfl) (Nat.le_of_ble_eq_true rfl) zg3 trivial trivial rfl W (fun zs10 W => ?_)
    refine J_aload_no (pc' := 37) rfl rfl zg1 rfl ?_
    refine J_iload (pc' := 39) rfl rfl rfl ?_
    refine J_weak (L' := [some (jo 1 zo0), none, none, none, none, none]) (And.intro rfl trivial) ?_
    refine J_callV (as := [jo 1 zo0, ji zx5]) (rest := []) (pc' := 42) rfl rfl ax_Z_6 rfl rfl (Or.inr (Or.inr ⟨_, _, rfl, zg1⟩)) (Nat.le_of_ble_eq_true rfl) (Nat.le_of_ble_eq_true rfl) (Nat.le_of_ble_eq_true rfl) zg3 trivial trivial rfl W (fun zs12 W => ?_)
    refine J_aload_no (pc' := 43) rfl rfl zg1 rfl ?_
    refine J_getI (G := 1001) (pc' := 46) rfl rfl (Nat.le_of_ble_eq_true rfl) rfl zg1 rfl ?_
    exact J_iret rfl rfl ⟨_, rfl, W⟩
  · refine J_iconst (pc' := 14) rfl (i32_d rfl) rfl ?_
    exact J_iret rfl rfl ⟨_, rfl, W⟩
theorem wp_Model_end {n : Nat} {σ : jS} {Q : Int → jS → Prop} {zo0 : Int} {zx1 : Int} (W : 0 ≤ zo0 ∧ 1 ≤ n ∧ TrI (n - 1) i_Model_isIn [ji zx1, ji 0, ji (rs σ 1001 zo0)] σ (fun zr4 zs3 => (if ¬ zr4 = 0 then (∀ zs5, zs5 = ws zs3 1001 zo0 zx1 → Q zx1 zs5) else Q (-1) zs3))) : TrI n i_Model_end [jo 1 zo0, ji zx1] σ Q := by
  refine Tr_of ax_Z_8 ?_
  show J n c_Model_end (some .int) 0 [some (jo 1 zo0), some (ji zx1)] [] σ (qI Q)
  refine J_iload_n (pc' := 1) rfl rfl rfl ?_
  refine J_iconst (pc' := 2) rfl (i32_d rfl) rfl ?_
  obtain ⟨zg1, W⟩ := W
  refine J_aload_no (pc' := 3) rfl rfl zg1 rfl ?_
  refine J_getI (G := 1001) (pc' := 6) rfl rfl (Nat.le_of_ble_eq_true rfl) rfl zg1 rfl ?_
  obtain ⟨zg2, W⟩ := W
  refine J_callI (as := [ji zx1, ji 0, ji (rs σ 1001 zo0)]) (rest := []) (pc' := 9) rfl rfl ax_Z_0 rfl rfl (Or.inl rfl) (Nat.le_of_ble_eq_true rfl) (Nat.le_of_ble_eq_true rfl) (Nat.le_of_ble_eq_true rfl) zg2 trivial trivial rfl W (fun zr4 zs3 W => ?_)
  refine J_if (P := ¬ zr4 = 0) (t := 14) (f := 12) rfl rfl rfl jc_ne W (fun W => ?_) (fun W => ?_)
  · refine J_aload_no (pc' := 15) rfl rfl zg1 rfl ?_
    refine J_iload_n (pc' := 16) rfl rfl rfl ?_
    refine J_putI (G := 1001) (pc' := 19) rfl rfl (Nat.le_of_ble_eq_true rfl) rfl rfl zg1 rfl (fun zs5 ezs5 => ?_)
    replace W := W zs5 ezs5
    refine J_iload_n (pc' := 20) rfl rfl rfl ?_
    exact J_iret rfl rfl ⟨_, rfl, W⟩
  · refine J_iconst (pc' := 13) rfl (i32_d rfl) rfl ?_
    exact J_iret rfl rfl ⟨_, rfl, W⟩
theorem wp_Model_here {n : Nat} {σ : jS} {Q : Int → jS → Prop} {zo0 : Int} (W : 0 ≤ zo0 ∧ (if rs σ 1001 zo0 ≤ rs σ 1002 zo0 then Q (-1) σ else 0 ≤ rl σ 1000 zo0 ∧ 0 ≤ rs σ 1002 zo0 ∧ rs σ 1002 zo0 < rl σ 1000 zo0 ∧ Q (bAnd (ra σ 1000 zo0 (rs σ 1002 zo0)) 255) σ)) : TrI n i_Model_here [jo 1 zo0] σ Q := by
  refine Tr_of ax_Z_9 ?_
  show J n c_Model_here (some .int) 0 [some (jo 1 zo0)] [] σ (qI Q)
  obtain ⟨zg1, W⟩ := W
  refine J_aload_no (pc' := 1) rfl rfl zg1 rfl ?_
  refine J_getI (G := 1002) (pc' := 4) rfl rfl (Nat.le_of_ble_eq_true rfl) rfl zg1 rfl ?_
  refine J_aload_no (pc' := 5) rfl rfl zg1 rfl ?_
  refine J_getI (G := 1001) (pc' := 8) rfl rfl (Nat.le_of_ble_eq_true rfl) rfl zg1 rfl ?_
  refine J_icmp (P := rs σ 1001 zo0 ≤ rs σ 1002 zo0) (t := 27) (f := 11) rfl rfl rfl jc_ge W (fun W => ?_) (fun W => ?_)
  · refine J_iconst (pc' := 28) rfl (i32_d rfl) rfl ?_
    exact J_iret rfl rfl ⟨_, rfl, W⟩
  · refine J_aload_no (pc' := 12) rfl rfl zg1 rfl ?_
    obtain ⟨zg2, W⟩ := W
    refine J_getA (G := 1000) (pc' := 15) rfl rfl (Nat.le_of_ble_eq_true rfl) rfl zg1 zg2 rfl ?_
    refine J_aload_no (pc' := 16) rfl rfl zg1 rfl ?_
    refine J_getI (G := 1002) (pc' := 19) rfl rfl (Nat.le_of_ble_eq_true rfl) rfl zg1 rfl ?_
    obtain ⟨zg3, W⟩ := W
    obtain ⟨zg4, W⟩ := W
    refine J_bald (pc' := 20) rfl (Or.inl rfl) zg3 zg4 rfl ?_
    refine J_sipush (pc' := 23) rfl (by decide) (by decide) rfl ?_
    refine J_iand (pc' := 24) rfl rfl ?_
    refine J_goto (pc' := 28) rfl rfl ?_
    exact J_iret rfl rfl ⟨_, rfl, W⟩
theorem wp_Model_fails {n : Nat} {σ : jS} {Q : Int → jS → Prop} {zo0 : Int} {zx1 : Int} (W : 0 ≤ zo0 ∧ (∀ zs2, zs2 = ws σ 1003 zo0 zx1 → Q 0 zs2)) : TrI n i_Model_fails [jo 1 zo0, ji zx1] σ Q := by
  refine Tr_of ax_Z_10 ?_
  show J n c_Model_fails (some .boolean) 0 [some (jo 1 zo0), some (ji zx1)] [] σ (qI Q)
  obtain ⟨zg1, W⟩ := W
  refine J_aload_no (pc' := 1) rfl rfl zg1 rfl ?_
  refine J_iload_n (pc' := 2) rfl rfl rfl ?_
  refine J_putI (G := 1003) (pc' := 5) rfl rfl (Nat.le_of_ble_eq_true rfl) rfl rfl zg1 rfl (fun zs2 ezs2 => ?_)
  replace W := W zs2 ezs2
  refine J_iconst (pc' := 6) rfl (i32_d rfl) rfl ?_
  exact J_zret rfl rfl (Or.inl rfl) ⟨_, rfl, W⟩
theorem wp_Model_takes {n : Nat} {σ : jS} {Q : Int → jS → Prop} {zo0 : Int} {zx1 : Int} (W : 0 ≤ zo0 ∧ 1 ≤ n ∧ TrI (n - 1) i_Model_here [jo 1 zo0] σ (fun zr4 zs3 => (if zr4 = zx1 then i32 ((rs zs3 1002 zo0) + 1) ∧ (∀ zs6, zs6 = ws zs3 1002 zo0 ((rs zs3 1002 zo0) + 1) → Q 1 zs6) else TrI (n - 1) i_Model_fails [jo 1 zo0, ji (rs zs3 1002 zo0)] zs3 (fun zr8 zs7 => (zr8 = 0 ∨ zr8 = 1) ∧ Q zr8 zs7)))) : TrI n i_Model_takes [jo 1 zo0, ji zx1] σ Q := by
  refine Tr_of ax_Z_11 ?_
  show J n c_Model_takes (some .boolean) 0 [some (jo 1 zo0), some (ji zx1)] [] σ (qI Q)
  obtain ⟨zg1, W⟩ := W
  refine J_aload_no (pc' := 1) rfl rfl zg1 rfl ?_
  obtain ⟨zg2, W⟩ := W
  refine J_callI (as := [jo 1 zo0]) (rest := []) (pc' := 4) rfl rfl ax_Z_9 rfl rfl (Or.inr (Or.inr ⟨_, _, rfl, zg1⟩)) (Nat.le_of_ble_eq_true rfl) (Nat.le_of_ble_eq_true rfl) (Nat.le_of_ble_eq_true rfl) zg2 trivial trivial rfl W (fun zr4 zs3 W => ?_)
  refine J_iload_n (pc' := 5) rfl rfl rfl ?_
  refine J_icmp (P := zr4 = zx1) (t := 17) (f := 8) rfl rfl rfl jc_eq W (fun W => ?_) (fun W => ?_)
  · refine J_aload_no (pc' := 18) rfl rfl zg1 rfl ?_
    refine J_dup (pc' := 19) rfl rfl rfl ?_
    refine J_getI (G := 1002) (pc' := 22) rfl rfl (Nat.le_of_ble_eq_true rfl) rfl zg1 rfl ?_
    refine J_iconst (pc' := 23) rfl (i32_d rfl) rfl ?_
    obtain ⟨zg5, W⟩ := W
    refine J_iadd (pc' := 24) rfl zg5 rfl ?_
    refine J_putI (G := 1002) (pc' := 27) rfl rfl (Nat.le_of_ble_eq_true rfl) rfl rfl zg1 rfl (fun zs6 ezs6 => ?_)
    replace W := W zs6 ezs6
    refine J_iconst (pc' := 28) rfl (i32_d rfl) rfl ?_
    exact J_zret rfl rfl (Or.inr rfl) ⟨_, rfl, W⟩
  · refine J_aload_no (pc' := 9) rfl rfl zg1 rfl ?_
    refine J_aload_no (pc' := 10) rfl rfl zg1 rfl ?_
    refine J_getI (G := 1002) (pc' := 13) rfl rfl (Nat.le_of_ble_eq_true rfl) rfl zg1 rfl ?_
    refine J_weak (L' := [none, none]) trivial ?_
    refine J_callI (as := [jo 1 zo0, ji (rs zs3 1002 zo0)]) (rest := []) (pc' := 16) rfl rfl ax_Z_10 rfl rfl (Or.inr (Or.inr ⟨_, _, rfl, zg1⟩)) (Nat.le_of_ble_eq_true rfl) (Nat.le_of_ble_eq_true rfl) (Nat.le_of_ble_eq_true rfl) zg2 trivial trivial rfl W (fun zr8 zs7 W => ?_)
    obtain ⟨zg9, W⟩ := W
    exact J_zret rfl rfl zg9 ⟨_, rfl, W⟩
theorem wp_Model_isVar {n : Nat} {σ : jS} {Q : Int → jS → Prop} {zx0 : Int} (W : (if zx0 < 97 then Q 0 σ else (if 122 < zx0 then Q 0 σ else Q 1 σ))) : TrI n i_Model_isVar [ji zx0] σ Q := by
  refine Tr_of ax_Z_12 ?_
  show J n c_Model_isVar (some .boolean) 0 [some (ji zx0)] [] σ (qI Q)
  refine J_iload_n (pc' := 1) rfl rfl rfl ?_
  refine J_bipush (pc' := 3) rfl (by decide) (by decide) rfl ?_
  refine J_icmp (P := zx0 < 97) (t := 16) (f := 6) rfl rfl rfl jc_lt W (fun W => ?_) (fun W => ?_)
  · refine J_iconst (pc' := 17) rfl (i32_d rfl) rfl ?_
    exact J_zret rfl rfl (Or.inl rfl) ⟨_, rfl, W⟩
  · refine J_iload_n (pc' := 7) rfl rfl rfl ?_
    refine J_bipush (pc' := 9) rfl (by decide) (by decide) rfl ?_
    refine J_icmp (P := 122 < zx0) (t := 16) (f := 12) rfl rfl rfl jc_gt W (fun W => ?_) (fun W => ?_)
    · refine J_iconst (pc' := 17) rfl (i32_d rfl) rfl ?_
      exact J_zret rfl rfl (Or.inl rfl) ⟨_, rfl, W⟩
    · refine J_iconst (pc' := 13) rfl (i32_d rfl) rfl ?_
      refine J_goto (pc' := 17) rfl rfl ?_
      exact J_zret rfl rfl (Or.inr rfl) ⟨_, rfl, W⟩
theorem wp_Model_isCon {n : Nat} {σ : jS} {Q : Int → jS → Prop} {zx0 : Int} (W : (if zx0 < 65 then Q 0 σ else (if 90 < zx0 then Q 0 σ else Q 1 σ))) : TrI n i_Model_isCon [ji zx0] σ Q := by
  refine Tr_of ax_Z_13 ?_
  show J n c_Model_isCon (some .boolean) 0 [some (ji zx0)] [] σ (qI Q)
  refine J_iload_n (pc' := 1) rfl rfl rfl ?_
  refine J_bipush (pc' := 3) rfl (by decide) (by decide) rfl ?_
  refine J_icmp (P := zx0 < 65) (t := 16) (f := 6) rfl rfl rfl jc_lt W (fun W => ?_) (fun W => ?_)
  · refine J_iconst (pc' := 17) rfl (i32_d rfl) rfl ?_
    exact J_zret rfl rfl (Or.inl rfl) ⟨_, rfl, W⟩
  · refine J_iload_n (pc' := 7) rfl rfl rfl ?_
    refine J_bipush (pc' := 9) rfl (by decide) (by decide) rfl ?_
    refine J_icmp (P := 90 < zx0) (t := 16) (f := 12) rfl rfl rfl jc_gt W (fun W => ?_) (fun W => ?_)
    · refine J_iconst (pc' := 17) rfl (i32_d rfl) rfl ?_
      exact J_zret rfl rfl (Or.inl rfl) ⟨_, rfl, W⟩
    · refine J_iconst (pc' := 13) rfl (i32_d rfl) rfl ?_
      refine J_goto (pc' := 17) rfl rfl ?_
      exact J_zret rfl rfl (Or.inr rfl) ⟨_, rfl, W⟩
theorem wp_Model_readType {n : Nat} {σ : jS} {Q : Int → jS → Prop} {zo0 : Int} (W : 0 ≤ zo0 ∧ (∀ zs2, zs2 = ws σ 1006 zo0 0 → (∀ zs3, zs3 = ws zs2 1007 zo0 0 → J n c_Model_readType (some .boolean) 12 [some (jo 1 zo0), some (ji 1), none] [] zs3 (qI Q)))) : TrI n i_Model_readType [jo 1 zo0] σ Q := by
  refine Tr_of ax_Z_14 ?_
  show J n c_Model_readType (some .boolean) 0 [some (jo 1 zo0), none, none] [] σ (qI Q)
  obtain ⟨zg1, W⟩ := W
  refine J_aload_no (pc' := 1) rfl rfl zg1 rfl ?_
  refine J_iconst (pc' := 2) rfl (i32_d rfl) rfl ?_
  refine J_putI (G := 1006) (pc' := 5) rfl rfl (Nat.le_of_ble_eq_true rfl) rfl rfl zg1 rfl (fun zs2 ezs2 => ?_)
  replace W := W zs2 ezs2
  refine J_aload_no (pc' := 6) rfl rfl zg1 rfl ?_
  refine J_iconst (pc' := 7) rfl (i32_d rfl) rfl ?_
  refine J_putI (G := 1007) (pc' := 10) rfl rfl (Nat.le_of_ble_eq_true rfl) rfl rfl zg1 rfl (fun zs3 ezs3 => ?_)
  replace W := W zs3 ezs3
  refine J_iconst (pc' := 11) rfl (i32_d rfl) rfl ?_
  refine J_istore_n (L' := [some (jo 1 zo0), some (ji 1), none]) (pc' := 12) rfl (Nat.le_of_ble_eq_true rfl) rfl rfl ?_
  exact W
theorem wp_Model_readType_12 {n : Nat} {σ : jS} {Q : Int → jS → Prop} {zo0 : Int} {zx1 : Int} (W : (if zx1 = 0 then Q 1 σ else 0 ≤ zo0 ∧ 1 ≤ n ∧ TrI (n - 1) i_Model_here [jo 1 zo0] σ (fun zr4 zs3 => TrI (n - 1) i_Model_isVar [ji zr4] zs3 (fun zr6 zs5 => (if ¬ zr6 = 0 then J n c_Model_readType (some .boolean) 35 [some (jo 1 zo0), none, some (ji zr4)] [] zs5 (qI Q) else TrI (n - 1) i_Model_isCon [ji zr4] zs5 (fun zr8 zs7 => (if zr8 = 0 then TrI (n - 1) i_Model_fails [jo 1 zo0, ji (rs zs7 1002 zo0)] zs7 (fun zr10 zs9 => (zr10 = 0 ∨ zr10 = 1) ∧ Q zr10 zs9) else J n c_Model_readType (some .boolean) 35 [some (jo 1 zo0), none, some (ji zr4)] [] zs7 (qI Q)))))))) : J n c_Model_readType (some .boolean) 12 [some (jo 1 zo0), some (ji zx1), none] [] σ (qI Q) := by
  refine J_iload_n (pc' := 13) rfl rfl rfl ?_
  refine J_if (P := zx1 = 0) (t := 129) (f := 16) rfl rfl rfl jc_eq W (fun W => ?_) (fun W => ?_)
  · refine J_iconst (pc' := 130) rfl (i32_d rfl) rfl ?_
    exact J_zret rfl rfl (Or.inr rfl) ⟨_, rfl, W⟩
  · obtain ⟨zg1, W⟩ := W
    refine J_aload_no (pc' := 17) rfl rfl zg1 rfl ?_
    obtain ⟨zg2, W⟩ := W
    refine J_weak (L' := [some (jo 1 zo0), none, none]) (And.intro rfl trivial) ?_
    refine J_callI (as := [jo 1 zo0]) (rest := []) (pc' := 20) rfl rfl ax_Z_9 rfl rfl (Or.inr (Or.inr ⟨_, _, rfl, zg1⟩)) (Nat.le_of_ble_eq_true rfl) (Nat.le_of_ble_eq_true rfl) (Nat.le_of_ble_eq_true rfl) zg2 trivial trivial rfl W (fun zr4 zs3 W => ?_)
    refine J_istore_n (L' := [some (jo 1 zo0), none, some (ji zr4)]) (pc' := 21) rfl (Nat.le_of_ble_eq_true rfl) rfl rfl ?_
    refine J_iload_n (pc' := 22) rfl rfl rfl ?_
    refine J_callI (as := [ji zr4]) (rest := []) (pc' := 25) rfl rfl ax_Z_12 rfl rfl (Or.inl rfl) (Nat.le_of_ble_eq_true rfl) (Nat.le_of_ble_eq_true rfl) (Nat.le_of_ble_eq_true rfl) zg2 trivial trivial rfl W (fun zr6 zs5 W => ?_)
    refine J_if (P := ¬ zr6 = 0) (t := 35) (f := 28) rfl rfl rfl jc_ne W (fun W => ?_) (fun W => ?_)
    · exact W
    · refine J_iload_n (pc' := 29) rfl rfl rfl ?_
      refine J_callI (as := [ji zr4]) (rest := []) (pc' := 32) rfl rfl ax_Z_13 rfl rfl (Or.inl rfl) (Nat.le_of_ble_eq_true rfl) (Nat.le_of_ble_eq_true rfl) (Nat.le_of_ble_eq_true rfl) zg2 trivial trivial rfl W (fun zr8 zs7 W => ?_)
      refine J_if (P := zr8 = 0) (t := 44) (f := 35) rfl rfl rfl jc_eq W (fun W => ?_) (fun W => ?_)
      · refine J_aload_no (pc' := 45) rfl rfl zg1 rfl ?_
        refine J_aload_no (pc' := 46) rfl rfl zg1 rfl ?_
        refine J_getI (G := 1002) (pc' := 49) rfl rfl (Nat.le_of_ble_eq_true rfl) rfl zg1 rfl ?_
        refine J_weak (L' := [none, none, none]) trivial ?_
        refine J_callI (as := [jo 1 zo0, ji (rs zs7 1002 zo0)]) (rest := []) (pc' := 52) rfl rfl ax_Z_10 rfl rfl (Or.inr (Or.inr ⟨_, _, rfl, zg1⟩)) (Nat.le_of_ble_eq_true rfl) (Nat.le_of_ble_eq_true rfl) (Nat.le_of_ble_eq_true rfl) zg2 trivial trivial rfl W (fun zr10 zs9 W => ?_)
        obtain ⟨zg11, W⟩ := W
        exact J_zret rfl rfl zg11 ⟨_, rfl, W⟩
      · exact W
theorem wp_Model_readType_35 {n : Nat} {σ : jS} {Q : Int → jS → Prop} {zo0 : Int} {zx2 : Int} (W : 0 ≤ zo0 ∧ (if ¬ rs σ 1006 zo0 = 12 then 0 ≤ rl σ 1004 zo0 ∧ 1 ≤ n ∧ TrI (n - 1) i_Model_isVar [ji zx2] σ (fun zr5 zs4 => (if zr5 = 0 then i32 (zx2 - 65) ∧ TrI (n - 1) i_Model_con [ji (zx2 - 65), ji 0] zs4 (fun zr8 zs7 => 0 ≤ rs σ 1006 zo0 ∧ rs σ 1006 zo0 < rl zs7 1004 zo0 ∧ (∀ zs9, zs9 = wa zs7 1004 zo0 (rs σ 1006 zo0) zr8 → i32 ((rs zs9 1006 zo0) + 1) ∧ (∀ zs13, zs13 = ws zs9 1006 zo0 ((rs zs9 1006 zo0) + 1) → i32 ((rs zs13 1002 zo0) + 1) ∧ (∀ zs15, zs15 = ws zs13 1002 zo0 ((rs zs13 1002 zo0) + 1) → TrI (n - 1) i_Model_isCon [ji zx2] zs15 (fun zr17 zs16 => TrI (n - 1) i_Model_hasMore [jo 1 zo0, ji zr17] zs16 (fun zr19 zs18 => (if rs zs18 1003 zo0 = (-1) then J n c_Model_readType (some .boolean) 12 [some (jo 1 zo0), some (ji zr19), none] [] zs18 (qI Q) else Q 0 zs18))))))) else i32 (zx2 - 97) ∧ TrI (n - 1) i_Model_var [ji (zx2 - 97)] zs4 (fun zr22 zs21 => 0 ≤ rs σ 1006 zo0 ∧ rs σ 1006 zo0 < rl zs21 1004 zo0 ∧ (∀ zs23, zs23 = wa zs21 1004 zo0 (rs σ 1006 zo0) zr22 → i32 ((rs zs23 1006 zo0) + 1) ∧ (∀ zs27, zs27 = ws zs23 1006 zo0 ((rs zs23 1006 zo0) + 1) → i32 ((rs zs27 1002 zo0) + 1) ∧ (∀ zs29, zs29 = ws zs27 1002 zo0 ((rs zs27 1002 zo0) + 1) → TrI (n - 1) i_Model_isCon [ji zx2] zs29 (fun zr31 zs30 => TrI (n - 1) i_Model_hasMore [jo 1 zo0, ji zr31] zs30 (fun zr33 zs32 => (if rs zs32 1003 zo0 = (-1) then J n c_Model_readType (some .boolean) 12 [some (jo 1 zo0), some (ji zr33), none] [] zs32 (qI Q) else Q 0 zs32))))))))) else 1 ≤ n ∧ TrI (n - 1) i_Model_fails [jo 1 zo0, ji (rs σ 1002 zo0)] σ (fun zr36 zs35 => (zr36 = 0 ∨ zr36 = 1) ∧ Q zr36 zs35))) : J n c_Model_readType (some .boolean) 35 [some (jo 1 zo0), none, some (ji zx2)] [] σ (qI Q) := by
  obtain ⟨zg1, W⟩ := W
  refine J_aload_no (pc' := 36) rfl rfl zg1 rfl ?_
  refine J_getI (G := 1006) (pc' := 39) rfl rfl (Nat.le_of_ble_eq_true rfl) rfl zg1 rfl ?_
  refine J_bipush (pc' := 41) rfl (by decide) (by decide) rfl ?_
  refine J_icmp (P := ¬ rs σ 1006 zo0 = 12) (t := 53) (f := 44) rfl rfl rfl jc_ne W (fun W => ?_) (fun W => ?_)
  · refine J_aload_no (pc' := 54) rfl rfl zg1 rfl ?_
    obtain ⟨zg2, W⟩ := W
    refine J_getA (G := 1004) (pc' := 57) rfl rfl (Nat.le_of_ble_eq_true rfl) rfl zg1 zg2 rfl ?_
    refine J_aload_no (pc' := 58) rfl rfl zg1 rfl ?_
    refine J_getI (G := 1006) (pc' := 61) rfl rfl (Nat.le_of_ble_eq_true rfl) rfl zg1 rfl ?_
    refine J_iload_n (pc' := 62) rfl rfl rfl ?_
    obtain ⟨zg3, W⟩ := W
    refine J_callI (as := [ji zx2]) (rest := [ji (rs σ 1006 zo0), ja 1004 zo0]) (pc' := 65) rfl rfl ax_Z_12 rfl rfl (Or.inl rfl) (Nat.le_of_ble_eq_true rfl) (Nat.le_of_ble_eq_true rfl) (Nat.le_of_ble_eq_true rfl) zg3 trivial (And.intro rfl trivial) rfl W (fun zr5 zs4 W => ?_)
    refine J_if (P := zr5 = 0) (t := 78) (f := 68) rfl rfl rfl jc_eq W (fun W => ?_) (fun W => ?_)
    · refine J_iload_n (pc' := 79) rfl rfl rfl ?_
      refine J_bipush (pc' := 81) rfl (by decide) (by decide) rfl ?_
      obtain ⟨zg6, W⟩ := W
      refine J_isub (pc' := 82) rfl zg6 rfl ?_
      refine J_iconst (pc' := 83) rfl (i32_d rfl) rfl ?_
      refine J_callI (as := [ji (zx2 - 65), ji 0]) (rest := [ji (rs σ 1006 zo0), ja 1004 zo0]) (pc' := 86) rfl rfl ax_Z_3 rfl rfl (Or.inl rfl) (Nat.le_of_ble_eq_true rfl) (Nat.le_of_ble_eq_true rfl) (Nat.le_of_ble_eq_true rfl) zg3 trivial (And.intro rfl trivial) rfl W (fun zr8 zs7 W => ?_)
      obtain ⟨zg10, W⟩ := W
      obtain ⟨zg11, W⟩ := W
      refine J_iast (pc' := 87) rfl rfl (by decide) zg10 zg11 rfl (fun zs9 ezs9 => ?_)
      replace W := W zs9 ezs9
      refine J_aload_no (pc' := 88) rfl rfl zg1 rfl ?_
      refine J_dup (pc' := 89) rfl rfl rfl ?_
      refine J_getI (G := 1006) (pc' := 92) rfl rfl (Nat.le_of_ble_eq_true rfl) rfl zg1 rfl ?_
      refine J_iconst (pc' := 93) rfl (i32_d rfl) rfl ?_
      obtain ⟨zg12, W⟩ := W
      refine J_iadd (pc' := 94) rfl zg12 rfl ?_
      refine J_putI (G := 1006) (pc' := 97) rfl rfl (Nat.le_of_ble_eq_true rfl) rfl rfl zg1 rfl (fun zs13 ezs13 => ?_)
      replace W := W zs13 ezs13
      refine J_aload_no (pc' := 98) rfl rfl zg1 rfl ?_
      refine J_dup (pc' := 99) rfl rfl rfl ?_
      refine J_getI (G := 1002) (pc' := 102) rfl rfl (Nat.le_of_ble_eq_true rfl) rfl zg1 rfl ?_
      refine J_iconst (pc' := 103) rfl (i32_d rfl) rfl ?_
      obtain ⟨zg14, W⟩ := W
      refine J_iadd (pc' := 104) rfl zg14 rfl ?_
      refine J_putI (G := 1002) (pc' := 107) rfl rfl (Nat.le_of_ble_eq_true rfl) rfl rfl zg1 rfl (fun zs15 ezs15 => ?_)
      replace W := W zs15 ezs15
      refine J_aload_no (pc' := 108) rfl rfl zg1 rfl ?_
      refine J_iload_n (pc' := 109) rfl rfl rfl ?_
      refine J_weak (L' := [some (jo 1 zo0), none, none]) (And.intro rfl trivial) ?_
      refine J_callI (as := [ji zx2]) (rest := [jo 1 zo0]) (pc' := 112) rfl rfl ax_Z_13 rfl rfl (Or.inl rfl) (Nat.le_of_ble_eq_true rfl) (Nat.le_of_ble_eq_true rfl) (Nat.le_of_ble_eq_true rfl) zg3 trivial trivial rfl W (fun zr17 zs16 W => ?_)
      refine J_callI (as := [jo 1 zo0, ji zr17]) (rest := []) (pc' := 115) rfl rfl ax_Z_15 rfl rfl (Or.inr (Or.inr ⟨_, _, rfl, zg1⟩)) (Nat.le_of_ble_eq_true rfl) (Nat.le_of_ble_eq_true rfl) (Nat.le_of_ble_eq_true rfl) zg3 trivial trivial rfl W (fun zr19 zs18 W => ?_)
      refine J_istore_n (L' := [some (jo 1 zo0), some (ji zr19), none]) (pc' := 116) rfl (Nat.le_of_ble_eq_true rfl) rfl rfl ?_
      refine J_aload_no (pc' := 117) rfl rfl zg1 rfl ?_
      refine J_getI (G := 1003) (pc' := 120) rfl rfl (Nat.le_of_ble_eq_true rfl) rfl zg1 rfl ?_
      refine J_iconst (pc' := 121) rfl (i32_d rfl) rfl ?_
      refine J_icmp (P := rs zs18 1003 zo0 = (-1)) (t := 126) (f := 124) rfl rfl rfl jc_eq W (fun W => ?_) (fun W => ?_)
      · refine J_goto (pc' := 12) rfl rfl ?_
        exact W
      · refine J_iconst (pc' := 125) rfl (i32_d rfl) rfl ?_
        exact J_zret rfl rfl (Or.inl rfl) ⟨_, rfl, W⟩
    · refine J_iload_n (pc' := 69) rfl rfl rfl ?_
      refine J_bipush (pc' := 71) rfl (by decide) (by decide) rfl ?_
      obtain ⟨zg20, W⟩ := W
      refine J_isub (pc' := 72) rfl zg20 rfl ?_
      refine J_callI (as := [ji (zx2 - 97)]) (rest := [ji (rs σ 1006 zo0), ja 1004 zo0]) (pc' := 75) rfl rfl ax_Z_4 rfl rfl (Or.inl rfl) (Nat.le_of_ble_eq_true rfl) (Nat.le_of_ble_eq_true rfl) (Nat.le_of_ble_eq_true rfl) zg3 trivial (And.intro rfl trivial) rfl W (fun zr22 zs21 W => ?_)
      refine J_goto (pc' := 86) rfl rfl ?_
      obtain ⟨zg24, W⟩ := W
      obtain ⟨zg25, W⟩ := W
      refine J_iast (pc' := 87) rfl rfl (by decide) zg24 zg25 rfl (fun zs23 ezs23 => ?_)
      replace W := W zs23 ezs23
      refine J_aload_no (pc' := 88) rfl rfl zg1 rfl ?_
      refine J_dup (pc' := 89) rfl rfl rfl ?_
      refine J_getI (G := 1006) (pc' := 92) rfl rfl (Nat.le_of_ble_eq_true rfl) rfl zg1 rfl ?_
      refine J_iconst (pc' := 93) rfl (i32_d rfl) rfl ?_
      obtain ⟨zg26, W⟩ := W
      refine J_iadd (pc' := 94) rfl zg26 rfl ?_
      refine J_putI (G := 1006) (pc' := 97) rfl rfl (Nat.le_of_ble_eq_true rfl) rfl rfl zg1 rfl (fun zs27 ezs27 => ?_)
      replace W := W zs27 ezs27
      refine J_aload_no (pc' := 98) rfl rfl zg1 rfl ?_
      refine J_dup (pc' := 99) rfl rfl rfl ?_
      refine J_getI (G := 1002) (pc' := 102) rfl rfl (Nat.le_of_ble_eq_true rfl) rfl zg1 rfl ?_
      refine J_iconst (pc' := 103) rfl (i32_d rfl) rfl ?_
      obtain ⟨zg28, W⟩ := W
      refine J_iadd (pc' := 104) rfl zg28 rfl ?_
      refine J_putI (G := 1002) (pc' := 107) rfl rfl (Nat.le_of_ble_eq_true rfl) rfl rfl zg1 rfl (fun zs29 ezs29 => ?_)
      replace W := W zs29 ezs29
      refine J_aload_no (pc' := 108) rfl rfl zg1 rfl ?_
      refine J_iload_n (pc' := 109) rfl rfl rfl ?_
      refine J_weak (L' := [some (jo 1 zo0), none, none]) (And.intro rfl trivial) ?_
      refine J_callI (as := [ji zx2]) (rest := [jo 1 zo0]) (pc' := 112) rfl rfl ax_Z_13 rfl rfl (Or.inl rfl) (Nat.le_of_ble_eq_true rfl) (Nat.le_of_ble_eq_true rfl) (Nat.le_of_ble_eq_true rfl) zg3 trivial trivial rfl W (fun zr31 zs30 W => ?_)
      refine J_callI (as := [jo 1 zo0, ji zr31]) (rest := []) (pc' := 115) rfl rfl ax_Z_15 rfl rfl (Or.inr (Or.inr ⟨_, _, rfl, zg1⟩)) (Nat.le_of_ble_eq_true rfl) (Nat.le_of_ble_eq_true rfl) (Nat.le_of_ble_eq_true rfl) zg3 trivial trivial rfl W (fun zr33 zs32 W => ?_)
      refine J_istore_n (L' := [some (jo 1 zo0), some (ji zr33), none]) (pc' := 116) rfl (Nat.le_of_ble_eq_true rfl) rfl rfl ?_
      refine J_aload_no (pc' := 117) rfl rfl zg1 rfl ?_
      refine J_getI (G := 1003) (pc' := 120) rfl rfl (Nat.le_of_ble_eq_true rfl) rfl zg1 rfl ?_
      refine J_iconst (pc' := 121) rfl (i32_d rfl) rfl ?_
      refine J_icmp (P := rs zs32 1003 zo0 = (-1)) (t := 126) (f := 124) rfl rfl rfl jc_eq W (fun W => ?_) (fun W => ?_)
      · refine J_goto (pc' := 12) rfl rfl ?_
        exact W
      · refine J_iconst (pc' := 125) rfl (i32_d rfl) rfl ?_
        exact J_zret rfl rfl (Or.inl rfl) ⟨_, rfl, W⟩
  · refine J_aload_no (pc' := 45) rfl rfl zg1 rfl ?_
    refine J_aload_no (pc' := 46) rfl rfl zg1 rfl ?_
    refine J_getI (G := 1002) (pc' := 49) rfl rfl (Nat.le_of_ble_eq_true rfl) rfl zg1 rfl ?_
    obtain ⟨zg34, W⟩ := W
    refine J_weak (L' := [none, none, none]) trivial ?_
    refine J_callI (as := [jo 1 zo0, ji (rs σ 1002 zo0)]) (rest := []) (pc' := 52) rfl rfl ax_Z_10 rfl rfl (Or.inr (Or.inr ⟨_, _, rfl, zg1⟩)) (Nat.le_of_ble_eq_true rfl) (Nat.le_of_ble_eq_true rfl) (Nat.le_of_ble_eq_true rfl) zg34 trivial trivial rfl W (fun zr36 zs35 W => ?_)
    obtain ⟨zg37, W⟩ := W
    exact J_zret rfl rfl zg37 ⟨_, rfl, W⟩
set_option maxRecDepth 16000 in
theorem wp_Model_hasMore {n : Nat} {σ : jS} {Q : Int → jS → Prop} {zo0 : Int} {zx1 : Int} (W : (if zx1 = 0 then J n c_Model_hasMore (some .boolean) 65 [some (jo 1 zo0), none, none] [] σ (qI Q) else 0 ≤ zo0 ∧ 1 ≤ n ∧ TrI (n - 1) i_Model_here [jo 1 zo0] σ (fun zr4 zs3 => (if ¬ zr4 = 40 then J n c_Model_hasMore (some .boolean) 65 [some (jo 1 zo0), none, none] [] zs3 (qI Q) else i32 ((rs zs3 1002 zo0) + 1) ∧ (∀ zs6, zs6 = ws zs3 1002 zo0 ((rs zs3 1002 zo0) + 1) → 0 ≤ rl zs6 1005 zo0 ∧ i32 ((rs zs6 1006 zo0) - 1) ∧ 0 ≤ rs zs6 1007 zo0 ∧ rs zs6 1007 zo0 < rl zs6 1005 zo0 ∧ (∀ zs9, zs9 = wa zs6 1005 zo0 (rs zs6 1007 zo0) ((rs zs6 1006 zo0) - 1) → i32 ((rs zs9 1007 zo0) + 1) ∧ (∀ zs13, zs13 = ws zs9 1007 zo0 ((rs zs9 1007 zo0) + 1) → 0 ≤ rl zs13 1004 zo0 ∧ i32 ((rs zs13 1006 zo0) - 1) ∧ 0 ≤ (rs zs13 1006 zo0) - 1 ∧ (rs zs13 1006 zo0) - 1 < rl zs13 1004 zo0 ∧ i32 ((ra zs13 1004 zo0 ((rs zs13 1006 zo0) - 1)) + 1) ∧ (∀ zs19, zs19 = wa zs13 1004 zo0 ((rs zs13 1006 zo0) - 1) ((ra zs13 1004 zo0 ((rs zs13 1006 zo0) - 1)) + 1) → Q 1 zs19)))))))) : TrI n i_Model_hasMore [jo 1 zo0, ji zx1] σ Q := by
  refine Tr_of ax_Z_15 ?_
  show J n c_Model_hasMore (some .boolean) 0 [some (jo 1 zo0), some (ji zx1), none] [] σ (qI Q)
  refine J_iload_n (pc' := 1) rfl rfl rfl ?_
  refine J_if (P := zx1 = 0) (t := 65) (f := 4) rfl rfl rfl jc_eq W (fun W => ?_) (fun W => ?_)
  · refine J_weak (L' := [some (jo 1 zo0), none, none]) (And.intro rfl trivial) ?_
    exact W
  · obtain ⟨zg1, W⟩ := W
    refine J_aload_no (pc' := 5) rfl rfl zg1 rfl ?_
    obtain ⟨zg2, W⟩ := W
    refine J_weak (L' := [some (jo 1 zo0), none, none]) (And.intro rfl trivial) ?_
    refine J_callI (as := [jo 1 zo0]) (rest := []) (pc' := 8) rfl rfl ax_Z_9 rfl rfl (Or.inr (Or.inr ⟨_, _, rfl, zg1⟩)) (Nat.le_of_ble_eq_true rfl) (Nat.le_of_ble_eq_true rfl) (Nat.le_of_ble_eq_true rfl) zg2 trivial trivial rfl W (fun zr4 zs3 W => ?_)
    refine J_bipush (pc' := 10) rfl (by decide) (by decide) rfl ?_
    refine J_icmp (P := ¬ zr4 = 40) (t := 65) (f := 13) rfl rfl rfl jc_ne W (fun W => ?_) (fun W => ?_)
    · exact W
    · refine J_aload_no (pc' := 14) rfl rfl zg1 rfl ?_
      refine J_dup (pc' := 15) rfl rfl rfl ?_
      refine J_getI (G := 1002) (pc' := 18) rfl rfl (Nat.le_of_ble_eq_true rfl) rfl zg1 rfl ?_
      refine J_iconst (pc' := 19) rfl (i32_d rfl) rfl ?_
      obtain ⟨zg5, W⟩ := W
      refine J_iadd (pc' := 20) rfl zg5 rfl ?_
      refine J_putI (G := 1002) (pc' := 23) rfl rfl (Nat.le_of_ble_eq_true rfl) rfl rfl zg1 rfl (fun zs6 ezs6 => ?_)
      replace W := W zs6 ezs6
      refine J_aload_no (pc' := 24) rfl rfl zg1 rfl ?_
      obtain ⟨zg7, W⟩ := W
      refine J_getA (G := 1005) (pc' := 27) rfl rfl (Nat.le_of_ble_eq_true rfl) rfl zg1 zg7 rfl ?_
      refine J_aload_no (pc' := 28) rfl rfl zg1 rfl ?_
      refine J_getI (G := 1007) (pc' := 31) rfl rfl (Nat.le_of_ble_eq_true rfl) rfl zg1 rfl ?_
      refine J_aload_no (pc' := 32) rfl rfl zg1 rfl ?_
      refine J_getI (G := 1006) (pc' := 35) rfl rfl (Nat.le_of_ble_eq_true rfl) rfl zg1 rfl ?_
      refine J_iconst (pc' := 36) rfl (i32_d rfl) rfl ?_
      obtain ⟨zg8, W⟩ := W
      refine J_isub (pc' := 37) rfl zg8 rfl ?_
      obtain ⟨zg10, W⟩ := W
      obtain ⟨zg11, W⟩ := W
      refine J_iast (pc' := 38) rfl rfl (by decide) zg10 zg11 rfl (fun zs9 ezs9 => ?_)
      replace W := W zs9 ezs9
      refine J_aload_no (pc' := 39) rfl rfl zg1 rfl ?_
      refine J_dup (pc' := 40) rfl rfl rfl ?_
      refine J_getI (G := 1007) (pc' := 43) rfl rfl (Nat.le_of_ble_eq_true rfl) rfl zg1 rfl ?_
      refine J_iconst (pc' := 44) rfl (i32_d rfl) rfl ?_
      obtain ⟨zg12, W⟩ := W
      refine J_iadd (pc' := 45) rfl zg12 rfl ?_
      refine J_putI (G := 1007) (pc' := 48) rfl rfl (Nat.le_of_ble_eq_true rfl) rfl rfl zg1 rfl (fun zs13 ezs13 => ?_)
      replace W := W zs13 ezs13
      refine J_aload_no (pc' := 49) rfl rfl zg1 rfl ?_
      obtain ⟨zg14, W⟩ := W
      refine J_getA (G := 1004) (pc' := 52) rfl rfl (Nat.le_of_ble_eq_true rfl) rfl zg1 zg14 rfl ?_
      refine J_aload_no (pc' := 53) rfl rfl zg1 rfl ?_
      refine J_getI (G := 1006) (pc' := 56) rfl rfl (Nat.le_of_ble_eq_true rfl) rfl zg1 rfl ?_
      refine J_iconst (pc' := 57) rfl (i32_d rfl) rfl ?_
      obtain ⟨zg15, W⟩ := W
      refine J_isub (pc' := 58) rfl zg15 rfl ?_
      refine J_dup2 (pc' := 59) rfl rfl rfl rfl ?_
      obtain ⟨zg16, W⟩ := W
      obtain ⟨zg17, W⟩ := W
      refine J_iald (pc' := 60) rfl rfl zg16 zg17 rfl ?_
      refine J_iconst (pc' := 61) rfl (i32_d rfl) rfl ?_
      obtain ⟨zg18, W⟩ := W
      refine J_iadd (pc' := 62) rfl zg18 rfl ?_
      refine J_iast (pc' := 63) rfl rfl (by decide) zg16 zg17 rfl (fun zs19 ezs19 => ?_)
      replace W := W zs19 ezs19
      refine J_iconst (pc' := 64) rfl (i32_d rfl) rfl ?_
      exact J_zret rfl rfl (Or.inr rfl) ⟨_, rfl, W⟩
set_option maxRecDepth 16000 in
theorem wp_Model_hasMore_65 {n : Nat} {σ : jS} {Q : Int → jS → Prop} {zo0 : Int} (W : 0 ≤ zo0 ∧ (if rs σ 1007 zo0 ≤ 0 then J n c_Model_hasMore (some .boolean) 104 [some (jo 1 zo0), none, none] [] σ (qI Q) else 1 ≤ n ∧ TrI (n - 1) i_Model_here [jo 1 zo0] σ (fun zr4 zs3 => (if ¬ zr4 = 41 then J n c_Model_hasMore (some .boolean) 104 [some (jo 1 zo0), none, none] [] zs3 (qI Q) else i32 ((rs zs3 1002 zo0) + 1) ∧ (∀ zs6, zs6 = ws zs3 1002 zo0 ((rs zs3 1002 zo0) + 1) → i32 ((rs zs6 1007 zo0) - 1) ∧ (∀ zs8, zs8 = ws zs6 1007 zo0 ((rs zs6 1007 zo0) - 1) → J n c_Model_hasMore (some .boolean) 65 [some (jo 1 zo0), none, none] [] zs8 (qI Q))))))) : J n c_Model_hasMore (some .boolean) 65 [some (jo 1 zo0), none, none] [] σ (qI Q) := by
  obtain ⟨zg1, W⟩ := W
  refine J_aload_no (pc' := 66) rfl rfl zg1 rfl ?_
  refine J_getI (G := 1007) (pc' := 69) rfl rfl (Nat.le_of_ble_eq_true rfl) rfl zg1 rfl ?_
  refine J_if (P := rs σ 1007 zo0 ≤ 0) (t := 104) (f := 72) rfl rfl rfl jc_le W (fun W => ?_) (fun W => ?_)
  · exact W
  · refine J_aload_no (pc' := 73) rfl rfl zg1 rfl ?_
    obtain ⟨zg2, W⟩ := W
    refine J_callI (as := [jo 1 zo0]) (rest := []) (pc' := 76) rfl rfl ax_Z_9 rfl rfl (Or.inr (Or.inr ⟨_, _, rfl, zg1⟩)) (Nat.le_of_ble_eq_true rfl) (Nat.le_of_ble_eq_true rfl) (Nat.le_of_ble_eq_true rfl) zg2 trivial trivial rfl W (fun zr4 zs3 W => ?_)
    refine J_bipush (pc' := 78) rfl (by decide) (by decide) rfl ?_
    refine J_icmp (P := ¬ zr4 = 41) (t := 104) (f := 81) rfl rfl rfl jc_ne W (fun W => ?_) (fun W => ?_)
    · exact W
    · refine J_aload_no (pc' := 82) rfl rfl zg1 rfl ?_
      refine J_dup (pc' := 83) rfl rfl rfl ?_
      refine J_getI (G := 1002) (pc' := 86) rfl rfl (Nat.le_of_ble_eq_true rfl) rfl zg1 rfl ?_
      refine J_iconst (pc' := 87) rfl (i32_d rfl) rfl ?_
      obtain ⟨zg5, W⟩ := W
      refine J_iadd (pc' := 88) rfl zg5 rfl ?_
      refine J_putI (G := 1002) (pc' := 91) rfl rfl (Nat.le_of_ble_eq_true rfl) rfl rfl zg1 rfl (fun zs6 ezs6 => ?_)
      replace W := W zs6 ezs6
      refine J_aload_no (pc' := 92) rfl rfl zg1 rfl ?_
      refine J_dup (pc' := 93) rfl rfl rfl ?_
      refine J_getI (G := 1007) (pc' := 96) rfl rfl (Nat.le_of_ble_eq_true rfl) rfl zg1 rfl ?_
      refine J_iconst (pc' := 97) rfl (i32_d rfl) rfl ?_
      obtain ⟨zg7, W⟩ := W
      refine J_isub (pc' := 98) rfl zg7 rfl ?_
      refine J_putI (G := 1007) (pc' := 101) rfl rfl (Nat.le_of_ble_eq_true rfl) rfl rfl zg1 rfl (fun zs8 ezs8 => ?_)
      replace W := W zs8 ezs8
      refine J_goto (pc' := 65) rfl rfl ?_
      exact W
set_option maxRecDepth 16000 in
theorem wp_Model_hasMore_104 {n : Nat} {σ : jS} {Q : Int → jS → Prop} {zo0 : Int} (W : 0 ≤ zo0 ∧ (if ¬ rs σ 1007 zo0 = 0 then 0 ≤ rl σ 1005 zo0 ∧ i32 ((rs σ 1007 zo0) - 1) ∧ 0 ≤ (rs σ 1007 zo0) - 1 ∧ (rs σ 1007 zo0) - 1 < rl σ 1005 zo0 ∧ 1 ≤ n ∧ TrI (n - 1) i_Model_here [jo 1 zo0] σ (fun zr8 zs7 => (if ¬ zr8 = 44 then TrI (n - 1) i_Model_fails [jo 1 zo0, ji (rs zs7 1002 zo0)] zs7 (fun zr10 zs9 => (zr10 = 0 ∨ zr10 = 1) ∧ Q zr10 zs9) else 0 ≤ rl zs7 1004 zo0 ∧ 0 ≤ ra σ 1005 zo0 ((rs σ 1007 zo0) - 1) ∧ ra σ 1005 zo0 ((rs σ 1007 zo0) - 1) < rl zs7 1004 zo0 ∧ 0 ≤ ra zs7 1004 zo0 (ra σ 1005 zo0 ((rs σ 1007 zo0) - 1)) ∧ (if ¬ (ra zs7 1004 zo0 (ra σ 1005 zo0 ((rs σ 1007 zo0) - 1))) % 4 = 3 then i32 ((ra zs7 1004 zo0 (ra σ 1005 zo0 ((rs σ 1007 zo0) - 1))) + 1) ∧ (∀ zs17, zs17 = wa zs7 1004 zo0 (ra σ 1005 zo0 ((rs σ 1007 zo0) - 1)) ((ra zs7 1004 zo0 (ra σ 1005 zo0 ((rs σ 1007 zo0) - 1))) + 1) → i32 ((rs zs17 1002 zo0) + 1) ∧ (∀ zs19, zs19 = ws zs17 1002 zo0 ((rs zs17 1002 zo0) + 1) → Q 1 zs19)) else TrI (n - 1) i_Model_fails [jo 1 zo0, ji (rs zs7 1002 zo0)] zs7 (fun zr21 zs20 => (zr21 = 0 ∨ zr21 = 1) ∧ Q zr21 zs20)))) else Q 0 σ)) : J n c_Model_hasMore (some .boolean) 104 [some (jo 1 zo0), none, none] [] σ (qI Q) := by
  obtain ⟨zg1, W⟩ := W
  refine J_aload_no (pc' := 105) rfl rfl zg1 rfl ?_
  refine J_getI (G := 1007) (pc' := 108) rfl rfl (Nat.le_of_ble_eq_true rfl) rfl zg1 rfl ?_
  refine J_if (P := ¬ rs σ 1007 zo0 = 0) (t := 113) (f := 111) rfl rfl rfl jc_ne W (fun W => ?_) (fun W => ?_)
  · refine J_aload_no (pc' := 114) rfl rfl zg1 rfl ?_
    obtain ⟨zg2, W⟩ := W
    refine J_getA (G := 1005) (pc' := 117) rfl rfl (Nat.le_of_ble_eq_true rfl) rfl zg1 zg2 rfl ?_
    refine J_aload_no (pc' := 118) rfl rfl zg1 rfl ?_
    refine J_getI (G := 1007) (pc' := 121) rfl rfl (Nat.le_of_ble_eq_true rfl) rfl zg1 rfl ?_
    refine J_iconst (pc' := 122) rfl (i32_d rfl) rfl ?_
    obtain ⟨zg3, W⟩ := W
    refine J_isub (pc' := 123) rfl zg3 rfl ?_
    obtain ⟨zg4, W⟩ := W
    obtain ⟨zg5, W⟩ := W
    refine J_iald (pc' := 124) rfl rfl zg4 zg5 rfl ?_
    refine J_istore_n (L' := [some (jo 1 zo0), none, some (ji (ra σ 1005 zo0 ((rs σ 1007 zo0) - 1)))]) (pc' := 125) rfl (Nat.le_of_ble_eq_true rfl) rfl rfl ?_
    refine J_aload_no (pc' := 126) rfl rfl zg1 rfl ?_
    obtain ⟨zg6, W⟩ := W
    refine J_callI (as := [jo 1 zo0]) (rest := []) (pc' := 129) rfl rfl ax_Z_9 rfl rfl (Or.inr (Or.inr ⟨_, _, rfl, zg1⟩)) (Nat.le_of_ble_eq_true rfl) (Nat.le_of_ble_eq_true rfl) (Nat.le_of_ble_eq_true rfl) zg6 trivial trivial rfl W (fun zr8 zs7 W => ?_)
    refine J_bipush (pc' := 131) rfl (by decide) (by decide) rfl ?_
    refine J_icmp (P := ¬ zr8 = 44) (t := 146) (f := 134) rfl rfl rfl jc_ne W (fun W => ?_) (fun W => ?_)
    · refine J_aload_no (pc' := 147) rfl rfl zg1 rfl ?_
      refine J_aload_no (pc' := 148) rfl rfl zg1 rfl ?_
      refine J_getI (G := 1002) (pc' := 151) rfl rfl (Nat.le_of_ble_eq_true rfl) rfl zg1 rfl ?_
      refine J_weak (L' := [none, none, none]) trivial ?_
      refine J_callI (as := [jo 1 zo0, ji (rs zs7 1002 zo0)]) (rest := []) (pc' := 154) rfl rfl ax_Z_10 rfl rfl (Or.inr (Or.inr ⟨_, _, rfl, zg1⟩)) (Nat.le_of_ble_eq_true rfl) (Nat.le_of_ble_eq_true rfl) (Nat.le_of_ble_eq_true rfl) zg6 trivial trivial rfl W (fun zr10 zs9 W => ?_)
      obtain ⟨zg11, W⟩ := W
      exact J_zret rfl rfl zg11 ⟨_, rfl, W⟩
    · refine J_aload_no (pc' := 135) rfl rfl zg1 rfl ?_
      obtain ⟨zg12, W⟩ := W
      refine J_getA (G := 1004) (pc' := 138) rfl rfl (Nat.le_of_ble_eq_true rfl) rfl zg1 zg12 rfl ?_
      refine J_iload_n (pc' := 139) rfl rfl rfl ?_
      obtain ⟨zg13, W⟩ := W
      obtain ⟨zg14, W⟩ := W
      refine J_iald (pc' := 140) rfl rfl zg13 zg14 rfl ?_
      refine J_iconst (pc' := 141) rfl (i32_d rfl) rfl ?_
      obtain ⟨zg15, W⟩ := W
      refine J_irem (pc' := 142) rfl zg15 (by decide) rfl ?_
      refine J_iconst (pc' := 143) rfl (i32_d rfl) rfl ?_
      refine J_icmp (P := ¬ (ra zs7 1004 zo0 (ra σ 1005 zo0 ((rs σ 1007 zo0) - 1))) % 4 = 3) (t := 155) (f := 146) rfl rfl rfl jc_ne W (fun W => ?_) (fun W => ?_)
      · refine J_aload_no (pc' := 156) rfl rfl zg1 rfl ?_
        refine J_getA (G := 1004) (pc' := 159) rfl rfl (Nat.le_of_ble_eq_true rfl) rfl zg1 zg12 rfl ?_
        refine J_iload_n (pc' := 160) rfl rfl rfl ?_
        refine J_dup2 (pc' := 161) rfl rfl rfl rfl ?_
        refine J_iald (pc' := 162) rfl rfl zg13 zg14 rfl ?_
        refine J_iconst (pc' := 163) rfl (i32_d rfl) rfl ?_
        obtain ⟨zg16, W⟩ := W
        refine J_iadd (pc' := 164) rfl zg16 rfl ?_
        refine J_iast (pc' := 165) rfl rfl (by decide) zg13 zg14 rfl (fun zs17 ezs17 => ?_)
        replace W := W zs17 ezs17
        refine J_aload_no (pc' := 166) rfl rfl zg1 rfl ?_
        refine J_dup (pc' := 167) rfl rfl rfl ?_
        refine J_getI (G := 1002) (pc' := 170) rfl rfl (Nat.le_of_ble_eq_true rfl) rfl zg1 rfl ?_
        refine J_iconst (pc' := 171) rfl (i32_d rfl) rfl ?_
        obtain ⟨zg18, W⟩ := W
        refine J_iadd (pc' := 172) rfl zg18 rfl ?_
        refine J_putI (G := 1002) (pc' := 175) rfl rfl (Nat.le_of_ble_eq_true rfl) rfl rfl zg1 rfl (fun zs19 ezs19 => ?_)
        replace W := W zs19 ezs19
        refine J_iconst (pc' := 176) rfl (i32_d rfl) rfl ?_
        exact J_zret rfl rfl (Or.inr rfl) ⟨_, rfl, W⟩
      · refine J_aload_no (pc' := 147) rfl rfl zg1 rfl ?_
        refine J_aload_no (pc' := 148) rfl rfl zg1 rfl ?_
        refine J_getI (G := 1002) (pc' := 151) rfl rfl (Nat.le_of_ble_eq_true rfl) rfl zg1 rfl ?_
        refine J_weak (L' := [none, none, none]) trivial ?_
        refine J_callI (as := [jo 1 zo0, ji (rs zs7 1002 zo0)]) (rest := []) (pc' := 154) rfl rfl ax_Z_10 rfl rfl (Or.inr (Or.inr ⟨_, _, rfl, zg1⟩)) (Nat.le_of_ble_eq_true rfl) (Nat.le_of_ble_eq_true rfl) (Nat.le_of_ble_eq_true rfl) zg6 trivial trivial rfl W (fun zr21 zs20 W => ?_)
        obtain ⟨zg22, W⟩ := W
        exact J_zret rfl rfl zg22 ⟨_, rfl, W⟩
  · refine J_iconst (pc' := 112) rfl (i32_d rfl) rfl ?_
    exact J_zret rfl rfl (Or.inl rfl) ⟨_, rfl, W⟩
theorem wp_Model_copy {n : Nat} {σ : jS} {Q : jS → Prop} {zF0 : Nat} {zp0 : Int} {zx1 : Int} {zx2 : Int} {zF3 : Nat} {zp3 : Int} {zx4 : Int} (W : J n c_Model_copy none 3 [some (ja zF0 zp0), some (ji zx1), some (ji zx2), some (ja zF3 zp3), some (ji zx4), some (ji 0)] [] σ (qV Q)) : TrV n i_Model_copy [ja zF0 zp0, ji zx1, ji zx2, ja zF3 zp3, ji zx4] σ Q := by
  refine Tr_of ax_Z_16 ?_
  show J n c_Model_copy none 0 [some (ja zF0 zp0), some (ji zx1), some (ji zx2), some (ja zF3 zp3), some (ji zx4), none] [] σ (qV Q)
  refine J_iconst (pc' := 1) rfl (i32_d rfl) rfl ?_
  refine J_istore (L' := [some (ja zF0 zp0), some (ji zx1), some (ji zx2), some (ja zF3 zp3), some (ji zx4), some (ji 0)]) (pc' := 3) rfl (Nat.le_of_ble_eq_true rfl) rfl rfl ?_
  exact W
theorem wp_Model_copy_3 {n : Nat} {σ : jS} {Q : jS → Prop} {zF0 : Nat} {zp0 : Int} {zx1 : Int} {zx2 : Int} {zF3 : Nat} {zp3 : Int} {zx4 : Int} {zx5 : Int} (W : (if zx2 ≤ zx5 then Q σ else i32 (zx4 + zx5) ∧ i32 (zx1 + zx5) ∧ jt zF0 = 0 ∧ 0 ≤ zx1 + zx5 ∧ zx1 + zx5 < rl σ zF0 zp0 ∧ jt zF3 = 0 ∧ ¬ zF3 = jscr ∧ 0 ≤ zx4 + zx5 ∧ zx4 + zx5 < rl σ zF3 zp3 ∧ (∀ zs6, zs6 = wa σ zF3 zp3 (zx4 + zx5) (ra σ zF0 zp0 (zx1 + zx5)) → i32 (zx5 + 1) ∧ J n c_Model_copy none 3 [some (ja zF0 zp0), some (ji zx1), some (ji zx2), some (ja zF3 zp3), some (ji zx4), some (ji (zx5 + 1))] [] zs6 (qV Q)))) : J n c_Model_copy none 3 [some (ja zF0 zp0), some (ji zx1), some (ji zx2), some (ja zF3 zp3), some (ji zx4), some (ji zx5)] [] σ (qV Q) := by
  refine J_iload (pc' := 5) rfl rfl rfl ?_
  refine J_iload_n (pc' := 6) rfl rfl rfl ?_
  refine J_icmp (P := zx2 ≤ zx5) (t := 28) (f := 9) rfl rfl rfl jc_ge W (fun W => ?_) (fun W => ?_)
  · exact J_vret rfl rfl ⟨rfl, W⟩
  · refine J_aload_na (pc' := 10) rfl rfl rfl ?_
    refine J_iload (pc' := 12) rfl rfl rfl ?_
    refine J_iload (pc' := 14) rfl rfl rfl ?_
    obtain ⟨zg1, W⟩ := W
    refine J_iadd (pc' := 15) rfl zg1 rfl ?_
    refine J_aload_na (pc' := 16) rfl rfl rfl ?_
    refine J_iload_n (pc' := 17) rfl rfl rfl ?_
    refine J_iload (pc' := 19) rfl rfl rfl ?_
    obtain ⟨zg2, W⟩ := W
    refine J_iadd (pc' := 20) rfl zg2 rfl ?_
    obtain ⟨zg3, W⟩ := W
    obtain ⟨zg4, W⟩ := W
    obtain ⟨zg5, W⟩ := W
    refine J_iald (pc' := 21) rfl zg3 zg4 zg5 rfl ?_
    obtain ⟨zg7, W⟩ := W
    obtain ⟨zg8, W⟩ := W
    obtain ⟨zg9, W⟩ := W
    obtain ⟨zg10, W⟩ := W
    refine J_iast (pc' := 22) rfl zg7 zg8 zg9 zg10 rfl (fun zs6 ezs6 => ?_)
    replace W := W zs6 ezs6
    obtain ⟨zg11, W⟩ := W
    refine J_iinc (L' := [some (ja zF0 zp0), some (ji zx1), some (ji zx2), some (ja zF3 zp3), some (ji zx4), some (ji (zx5 + 1))]) (pc' := 25) rfl rfl zg11 rfl rfl ?_
    refine J_goto (pc' := 3) rfl rfl ?_
    exact W
theorem wp_Model_layType {n : Nat} {σ : jS} {Q : jS → Prop} {zo0 : Int} {zx1 : Int} (W : 0 ≤ zo0 ∧ i32 (5 * (rs σ 1024 zo0)) ∧ i32 ((5 * (rs σ 1024 zo0)) + zx1) ∧ 0 ≤ rl σ 1021 zo0 ∧ 0 ≤ (5 * (rs σ 1024 zo0)) + zx1 ∧ (5 * (rs σ 1024 zo0)) + zx1 < rl σ 1021 zo0 ∧ (∀ zs5, zs5 = wa σ 1021 zo0 ((5 * (rs σ 1024 zo0)) + zx1) (rs σ 1006 zo0) → 0 ≤ rl zs5 1004 zo0 ∧ 0 ≤ rl zs5 1020 zo0 ∧ i32 (12 * ((5 * (rs σ 1024 zo0)) + zx1)) ∧ 1 ≤ n ∧ TrV (n - 1) i_Model_copy [ja 1004 zo0, ji 0, ji (rs zs5 1006 zo0), ja 1020 zo0, ji (12 * ((5 * (rs σ 1024 zo0)) + zx1))] zs5 (fun zs12 => Q zs12))) : TrV n i_Model_layType [jo 1 zo0, ji zx1] σ Q := by
  refine Tr_of ax_Z_17 ?_
  show J n c_Model_layType none 0 [some (jo 1 zo0), some (ji zx1), none] [] σ (qV Q)
  refine J_iconst (pc' := 1) rfl (i32_d rfl) rfl ?_
  obtain ⟨zg1, W⟩ := W
  refine J_aload_no (pc' := 2) rfl rfl zg1 rfl ?_
  refine J_getI (G := 1024) (pc' := 5) rfl rfl (Nat.le_of_ble_eq_true rfl) rfl zg1 rfl ?_
  obtain ⟨zg2, W⟩ := W
  refine J_imul (pc' := 6) rfl zg2 rfl ?_
  refine J_iload_n (pc' := 7) rfl rfl rfl ?_
  obtain ⟨zg3, W⟩ := W
  refine J_iadd (pc' := 8) rfl zg3 rfl ?_
  refine J_istore_n (L' := [some (jo 1 zo0), some (ji zx1), some (ji ((5 * (rs σ 1024 zo0)) + zx1))]) (pc' := 9) rfl (Nat.le_of_ble_eq_true rfl) rfl rfl ?_
  refine J_aload_no (pc' := 10) rfl rfl zg1 rfl ?_
  obtain ⟨zg4, W⟩ := W
  refine J_getA (G := 1021) (pc' := 13) rfl rfl (Nat.le_of_ble_eq_true rfl) rfl zg1 zg4 rfl ?_
  refine J_iload_n (pc' := 14) rfl rfl rfl ?_
  refine J_aload_no (pc' := 15) rfl rfl zg1 rfl ?_
  refine J_getI (G := 1006) (pc' := 18) rfl rfl (Nat.le_of_ble_eq_true rfl) rfl zg1 rfl ?_
  obtain ⟨zg6, W⟩ := W
  obtain ⟨zg7, W⟩ := W
  refine J_iast (pc' := 19) rfl rfl (by decide) zg6 zg7 rfl (fun zs5 ezs5 => ?_)
  replace W := W zs5 ezs5
  refine J_aload_no (pc' := 20) rfl rfl zg1 rfl ?_
  obtain ⟨zg8, W⟩ := W
  refine J_getA (G := 1004) (pc' := 23) rfl rfl (Nat.le_of_ble_eq_true rfl) rfl zg1 zg8 rfl ?_
  refine J_iconst (pc' := 24) rfl (i32_d rfl) rfl ?_
  refine J_aload_no (pc' := 25) rfl rfl zg1 rfl ?_
  refine J_getI (G := 1006) (pc' := 28) rfl rfl (Nat.le_of_ble_eq_true rfl) rfl zg1 rfl ?_
  refine J_aload_no (pc' := 29) rfl rfl zg1 rfl ?_
  obtain ⟨zg9, W⟩ := W
  refine J_getA (G := 1020) (pc' := 32) rfl rfl (Nat.le_of_ble_eq_true rfl) rfl zg1 zg9 rfl ?_
  refine J_bipush (pc' := 34) rfl (by decide) (by decide) rfl ?_
  refine J_iload_n (pc' := 35) rfl rfl rfl ?_
  obtain ⟨zg10, W⟩ := W
  refine J_imul (pc' := 36) rfl zg10 rfl ?_
  obtain ⟨zg11, W⟩ := W
  refine J_weak (L' := [none, none, none]) trivial ?_
  refine J_callV (as := [ja 1004 zo0, ji 0, ji (rs zs5 1006 zo0), ja 1020 zo0, ji (12 * ((5 * (rs σ 1024 zo0)) + zx1))]) (rest := []) (pc' := 39) rfl rfl ax_Z_16 rfl rfl (Or.inl rfl) (Nat.le_of_ble_eq_true rfl) (Nat.le_of_ble_eq_true rfl) (Nat.le_of_ble_eq_true rfl) zg11 trivial trivial rfl W (fun zs12 W => ?_)
  exact J_vret rfl rfl ⟨rfl, W⟩
set_option maxRecDepth 16000 in
theorem wp_Model_readGiven {n : Nat} {σ : jS} {Q : Int → jS → Prop} {zo0 : Int} (W : 0 ≤ zo0 ∧ (if ¬ rs σ 1024 zo0 = 24 then 1 ≤ n ∧ TrI (n - 1) i_Model_readType [jo 1 zo0] σ (fun zr4 zs3 => (if ¬ zr4 = 0 then TrV (n - 1) i_Model_layType [jo 1 zo0, ji 0] zs3 (fun zs5 => TrI (n - 1) i_Model_here [jo 1 zo0] zs5 (fun zr8 zs7 => (if ¬ zr8 = 60 then J n c_Model_readGiven (some .boolean) 127 [some (jo 1 zo0), some (ji 0), none] [] zs7 (qI Q) else i32 ((rs zs7 1002 zo0) + 1) ∧ (∀ zs10, zs10 = ws zs7 1002 zo0 ((rs zs7 1002 zo0) + 1) → TrI (n - 1) i_Model_here [jo 1 zo0] zs10 (fun zr12 zs11 => (if zr12 = 45 then J n c_Model_readGiven (some .boolean) 73 [some (jo 1 zo0), some (ji 0), some (ji 1)] [] zs11 (qI Q) else TrI (n - 1) i_Model_fails [jo 1 zo0, ji (rs zs11 1002 zo0)] zs11 (fun zr14 zs13 => (zr14 = 0 ∨ zr14 = 1) ∧ Q zr14 zs13))))))) else Q 0 zs3)) else 1 ≤ n ∧ TrI (n - 1) i_Model_fails [jo 1 zo0, ji (rs σ 1002 zo0)] σ (fun zr18 zs17 => (zr18 = 0 ∨ zr18 = 1) ∧ Q zr18 zs17))) : TrI n i_Model_readGiven [jo 1 zo0] σ Q := by
  refine Tr_of ax_Z_18 ?_
  show J n c_Model_readGiven (some .boolean) 0 [some (jo 1 zo0), none, none] [] σ (qI Q)
  obtain ⟨zg1, W⟩ := W
  refine J_aload_no (pc' := 1) rfl rfl zg1 rfl ?_
  refine J_getI (G := 1024) (pc' := 4) rfl rfl (Nat.le_of_ble_eq_true rfl) rfl zg1 rfl ?_
  refine J_bipush (pc' := 6) rfl (by decide) (by decide) rfl ?_
  refine J_icmp (P := ¬ rs σ 1024 zo0 = 24) (t := 18) (f := 9) rfl rfl rfl jc_ne W (fun W => ?_) (fun W => ?_)
  · refine J_aload_no (pc' := 19) rfl rfl zg1 rfl ?_
    obtain ⟨zg2, W⟩ := W
    refine J_callI (as := [jo 1 zo0]) (rest := []) (pc' := 22) rfl rfl ax_Z_14 rfl rfl (Or.inr (Or.inr ⟨_, _, rfl, zg1⟩)) (Nat.le_of_ble_eq_true rfl) (Nat.le_of_ble_eq_true rfl) (Nat.le_of_ble_eq_true rfl) zg2 trivial trivial rfl W (fun zr4 zs3 W => ?_)
    refine J_if (P := ¬ zr4 = 0) (t := 27) (f := 25) rfl rfl rfl jc_ne W (fun W => ?_) (fun W => ?_)
    · refine J_aload_no (pc' := 28) rfl rfl zg1 rfl ?_
      refine J_iconst (pc' := 29) rfl (i32_d rfl) rfl ?_
      refine J_callV (as := [jo 1 zo0, ji 0]) (rest := []) (pc' := 32) rfl rfl ax_Z_17 rfl rfl (Or.inr (Or.inr ⟨_, _, rfl, zg1⟩)) (Nat.le_of_ble_eq_true rfl) (Nat.le_of_ble_eq_true rfl) (Nat.le_of_ble_eq_true rfl) zg2 trivial trivial rfl W (fun zs5 W => ?_)
      refine J_iconst (pc' := 33) rfl (i32_d rfl) rfl ?_
      refine J_istore_n (L' := [some (jo 1 zo0), some (ji 0), none]) (pc' := 34) rfl (Nat.le_of_ble_eq_true rfl) rfl rfl ?_
      refine J_aload_no (pc' := 35) rfl rfl zg1 rfl ?_
      refine J_callI (as := [jo 1 zo0]) (rest := []) (pc' := 38) rfl rfl ax_Z_9 rfl rfl (Or.inr (Or.inr ⟨_, _, rfl, zg1⟩)) (Nat.le_of_ble_eq_true rfl) (Nat.le_of_ble_eq_true rfl) (Nat.le_of_ble_eq_true rfl) zg2 trivial trivial rfl W (fun zr8 zs7 W => ?_)
      refine J_bipush (pc' := 40) rfl (by decide) (by decide) rfl ?_
      refine J_icmp (P := ¬ zr8 = 60) (t := 127) (f := 43) rfl rfl rfl jc_ne W (fun W => ?_) (fun W => ?_)
      · exact W
      · refine J_aload_no (pc' := 44) rfl rfl zg1 rfl ?_
        refine J_dup (pc' := 45) rfl rfl rfl ?_
        refine J_getI (G := 1002) (pc' := 48) rfl rfl (Nat.le_of_ble_eq_true rfl) rfl zg1 rfl ?_
        refine J_iconst (pc' := 49) rfl (i32_d rfl) rfl ?_
        obtain ⟨zg9, W⟩ := W
        refine J_iadd (pc' := 50) rfl zg9 rfl ?_
        refine J_putI (G := 1002) (pc' := 53) rfl rfl (Nat.le_of_ble_eq_true rfl) rfl rfl zg1 rfl (fun zs10 ezs10 => ?_)
        replace W := W zs10 ezs10
        refine J_aload_no (pc' := 54) rfl rfl zg1 rfl ?_
        refine J_callI (as := [jo 1 zo0]) (rest := []) (pc' := 57) rfl rfl ax_Z_9 rfl rfl (Or.inr (Or.inr ⟨_, _, rfl, zg1⟩)) (Nat.le_of_ble_eq_true rfl) (Nat.le_of_ble_eq_true rfl) (Nat.le_of_ble_eq_true rfl) zg2 trivial trivial rfl W (fun zr12 zs11 W => ?_)
        refine J_bipush (pc' := 59) rfl (by decide) (by decide) rfl ?_
        refine J_icmp (P := zr12 = 45) (t := 71) (f := 62) rfl rfl rfl jc_eq W (fun W => ?_) (fun W => ?_)
        · refine J_iconst (pc' := 72) rfl (i32_d rfl) rfl ?_
          refine J_istore_n (L' := [some (jo 1 zo0), some (ji 0), some (ji 1)]) (pc' := 73) rfl (Nat.le_of_ble_eq_true rfl) rfl rfl ?_
          exact W
        · refine J_aload_no (pc' := 63) rfl rfl zg1 rfl ?_
          refine J_aload_no (pc' := 64) rfl rfl zg1 rfl ?_
          refine J_getI (G := 1002) (pc' := 67) rfl rfl (Nat.le_of_ble_eq_true rfl) rfl zg1 rfl ?_
          refine J_weak (L' := [none, none, none]) trivial ?_
          refine J_callI (as := [jo 1 zo0, ji (rs zs11 1002 zo0)]) (rest := []) (pc' := 70) rfl rfl ax_Z_10 rfl rfl (Or.inr (Or.inr ⟨_, _, rfl, zg1⟩)) (Nat.le_of_ble_eq_true rfl) (Nat.le_of_ble_eq_true rfl) (Nat.le_of_ble_eq_true rfl) zg2 trivial trivial rfl W (fun zr14 zs13 W => ?_)
          obtain ⟨zg15, W⟩ := W
          exact J_zret rfl rfl zg15 ⟨_, rfl, W⟩
    · refine J_iconst (pc' := 26) rfl (i32_d rfl) rfl ?_
      exact J_zret rfl rfl (Or.inl rfl) ⟨_, rfl, W⟩
  · refine J_aload_no (pc' := 10) rfl rfl zg1 rfl ?_
    refine J_aload_no (pc' := 11) rfl rfl zg1 rfl ?_
    refine J_getI (G := 1002) (pc' := 14) rfl rfl (Nat.le_of_ble_eq_true rfl) rfl zg1 rfl ?_
    obtain ⟨zg16, W⟩ := W
    refine J_weak (L' := [none, none, none]) trivial ?_
    refine J_callI (as := [jo 1 zo0, ji (rs σ 1002 zo0)]) (rest := []) (pc' := 17) rfl rfl ax_Z_10 rfl rfl (Or.inr (Or.inr ⟨_, _, rfl, zg1⟩)) (Nat.le_of_ble_eq_true rfl) (Nat.le_of_ble_eq_true rfl) (Nat.le_of_ble_eq_true rfl) zg16 trivial trivial rfl W (fun zr18 zs17 W => ?_)
    obtain ⟨zg19, W⟩ := W
    exact J_zret rfl rfl zg19 ⟨_, rfl, W⟩
set_option maxRecDepth 16000 in
theorem wp_Model_readGiven_73 {n : Nat} {σ : jS} {Q : Int → jS → Prop} {zo0 : Int} {zx1 : Int} {zx2 : Int} (W : (if zx2 = 0 then J n c_Model_readGiven (some .boolean) 127 [some (jo 1 zo0), some (ji zx1), none] [] σ (qI Q) else 0 ≤ zo0 ∧ i32 ((rs σ 1002 zo0) + 1) ∧ (∀ zs3, zs3 = ws σ 1002 zo0 ((rs σ 1002 zo0) + 1) → 1 ≤ n ∧ TrI (n - 1) i_Model_readType [jo 1 zo0] zs3 (fun zr6 zs5 => (if ¬ zr6 = 0 then i32 (zx1 + 1) ∧ TrV (n - 1) i_Model_layType [jo 1 zo0, ji (zx1 + 1)] zs5 (fun zs8 => TrI (n - 1) i_Model_here [jo 1 zo0] zs8 (fun zr11 zs10 => (if ¬ zr11 = 44 then J n c_Model_readGiven (some .boolean) 73 [some (jo 1 zo0), some (ji (zx1 + 1)), some (ji 0)] [] zs10 (qI Q) else (if 4 ≤ zx1 + 1 then J n c_Model_readGiven (some .boolean) 73 [some (jo 1 zo0), some (ji (zx1 + 1)), some (ji 0)] [] zs10 (qI Q) else J n c_Model_readGiven (some .boolean) 73 [some (jo 1 zo0), some (ji (zx1 + 1)), some (ji 1)] [] zs10 (qI Q))))) else Q 0 zs5))))) : J n c_Model_readGiven (some .boolean) 73 [some (jo 1 zo0), some (ji zx1), some (ji zx2)] [] σ (qI Q) := by
  refine J_iload_n (pc' := 74) rfl rfl rfl ?_
  refine J_if (P := zx2 = 0) (t := 127) (f := 77) rfl rfl rfl jc_eq W (fun W => ?_) (fun W => ?_)
  · refine J_weak (L' := [some (jo 1 zo0), some (ji zx1), none]) (And.intro rfl (And.intro rfl trivial)) ?_
    exact W
  · obtain ⟨zg1, W⟩ := W
    refine J_aload_no (pc' := 78) rfl rfl zg1 rfl ?_
    refine J_dup (pc' := 79) rfl rfl rfl ?_
    refine J_getI (G := 1002) (pc' := 82) rfl rfl (Nat.le_of_ble_eq_true rfl) rfl zg1 rfl ?_
    refine J_iconst (pc' := 83) rfl (i32_d rfl) rfl ?_
    obtain ⟨zg2, W⟩ := W
    refine J_iadd (pc' := 84) rfl zg2 rfl ?_
    refine J_putI (G := 1002) (pc' := 87) rfl rfl (Nat.le_of_ble_eq_true rfl) rfl rfl zg1 rfl (fun zs3 ezs3 => ?_)
    replace W := W zs3 ezs3
    refine J_aload_no (pc' := 88) rfl rfl zg1 rfl ?_
    obtain ⟨zg4, W⟩ := W
    refine J_weak (L' := [some (jo 1 zo0), some (ji zx1), none]) (And.intro rfl (And.intro rfl trivial)) ?_
    refine J_callI (as := [jo 1 zo0]) (rest := []) (pc' := 91) rfl rfl ax_Z_14 rfl rfl (Or.inr (Or.inr ⟨_, _, rfl, zg1⟩)) (Nat.le_of_ble_eq_true rfl) (Nat.le_of_ble_eq_true rfl) (Nat.le_of_ble_eq_true rfl) zg4 trivial trivial rfl W (fun zr6 zs5 W => ?_)
    refine J_if (P := ¬ zr6 = 0) (t := 96) (f := 94) rfl rfl rfl jc_ne W (fun W => ?_) (fun W => ?_)
    · obtain ⟨zg7, W⟩ := W
      refine J_iinc (L' := [some (jo 1 zo0), some (ji (zx1 + 1)), none]) (pc' := 99) rfl rfl zg7 rfl rfl ?_
      refine J_aload_no (pc' := 100) rfl rfl zg1 rfl ?_
      refine J_iload_n (pc' := 101) rfl rfl rfl ?_
      refine J_callV (as := [jo 1 zo0, ji (zx1 + 1)]) (rest := []) (pc' := 104) rfl rfl ax_Z_17 rfl rfl (Or.inr (Or.inr ⟨_, _, rfl, zg1⟩)) (Nat.le_of_ble_eq_true rfl) (Nat.le_of_ble_eq_true rfl) (Nat.le_of_ble_eq_true rfl) zg4 trivial trivial rfl W (fun zs8 W => ?_)
      refine J_aload_no (pc' := 105) rfl rfl zg1 rfl ?_
      refine J_callI (as := [jo 1 zo0]) (rest := []) (pc' := 108) rfl rfl ax_Z_9 rfl rfl (Or.inr (Or.inr ⟨_, _, rfl, zg1⟩)) (Nat.le_of_ble_eq_true rfl) (Nat.le_of_ble_eq_true rfl) (Nat.le_of_ble_eq_true rfl) zg4 trivial trivial rfl W (fun zr11 zs10 W => ?_)
      refine J_bipush (pc' := 110) rfl (by decide) (by decide) rfl ?_
      refine J_icmp (P := ¬ zr11 = 44) (t := 122) (f := 113) rfl rfl rfl jc_ne W (fun W => ?_) (fun W => ?_)
      · refine J_iconst (pc' := 123) rfl (i32_d rfl) rfl ?_
        refine J_istore_n (L' := [some (jo 1 zo0), some (ji (zx1 + 1)), some (ji 0)]) (pc' := 124) rfl (Nat.le_of_ble_eq_true rfl) rfl rfl ?_
        refine J_goto (pc' := 73) rfl rfl ?_
        exact W
      · refine J_iload_n (pc' := 114) rfl rfl rfl ?_
        refine J_iconst (pc' := 115) rfl (i32_d rfl) rfl ?_
        refine J_icmp (P := 4 ≤ zx1 + 1) (t := 122) (f := 118) rfl rfl rfl jc_ge W (fun W => ?_) (fun W => ?_)
        · refine J_iconst (pc' := 123) rfl (i32_d rfl) rfl ?_
          refine J_istore_n (L' := [some (jo 1 zo0), some (ji (zx1 + 1)), some (ji 0)]) (pc' := 124) rfl (Nat.le_of_ble_eq_true rfl) rfl rfl ?_
          refine J_goto (pc' := 73) rfl rfl ?_
          exact W
        · refine J_iconst (pc' := 119) rfl (i32_d rfl) rfl ?_
          refine J_goto (pc' := 123) rfl rfl ?_
          refine J_istore_n (L' := [some (jo 1 zo0), some (ji (zx1 + 1)), some (ji 1)]) (pc' := 124) rfl (Nat.le_of_ble_eq_true rfl) rfl rfl ?_
          refine J_goto (pc' := 73) rfl rfl ?_
          exact W
    · refine J_iconst (pc' := 95) rfl (i32_d rfl) rfl ?_
      exact J_zret rfl rfl (Or.inl rfl) ⟨_, rfl, W⟩
set_option maxRecDepth 16000 in
theorem wp_Model_readGiven_127 {n : Nat} {σ : jS} {Q : Int → jS → Prop} {zo0 : Int} {zx1 : Int} (W : 0 ≤ zo0 ∧ 1 ≤ n ∧ TrI (n - 1) i_Model_takes [jo 1 zo0, ji 59] σ (fun zr4 zs3 => (if ¬ zr4 = 0 then 0 ≤ rl zs3 1019 zo0 ∧ 0 ≤ rs zs3 1024 zo0 ∧ rs zs3 1024 zo0 < rl zs3 1019 zo0 ∧ (∀ zs6, zs6 = wa zs3 1019 zo0 (rs zs3 1024 zo0) zx1 → 0 ≤ rl zs6 1018 zo0 ∧ 0 ≤ rl zs6 1022 zo0 ∧ i32 ((rs zs6 1025 zo0) - 1) ∧ 0 ≤ (rs zs6 1025 zo0) - 1 ∧ (rs zs6 1025 zo0) - 1 < rl zs6 1022 zo0 ∧ 0 ≤ rs zs6 1024 zo0 ∧ rs zs6 1024 zo0 < rl zs6 1018 zo0 ∧ (∀ zs14, zs14 = wa zs6 1018 zo0 (rs zs6 1024 zo0) (ra zs6 1022 zo0 ((rs zs6 1025 zo0) - 1)) → i32 ((rs zs14 1024 zo0) + 1) ∧ (∀ zs18, zs18 = ws zs14 1024 zo0 ((rs zs14 1024 zo0) + 1) → Q 1 zs18))) else Q 0 zs3))) : J n c_Model_readGiven (some .boolean) 127 [some (jo 1 zo0), some (ji zx1), none] [] σ (qI Q) := by
  obtain ⟨zg1, W⟩ := W
  refine J_aload_no (pc' := 128) rfl rfl zg1 rfl ?_
  refine J_bipush (pc' := 130) rfl (by decide) (by decide) rfl ?_
  obtain ⟨zg2, W⟩ := W
  refine J_callI (as := [jo 1 zo0, ji 59]) (rest := []) (pc' := 133) rfl rfl ax_Z_11 rfl rfl (Or.inr (Or.inr ⟨_, _, rfl, zg1⟩)) (Nat.le_of_ble_eq_true rfl) (Nat.le_of_ble_eq_true rfl) (Nat.le_of_ble_eq_true rfl) zg2 trivial trivial rfl W (fun zr4 zs3 W => ?_)
  refine J_if (P := ¬ zr4 = 0) (t := 138) (f := 136) rfl rfl rfl jc_ne W (fun W => ?_) (fun W => ?_)
  · refine J_aload_no (pc' := 139) rfl rfl zg1 rfl ?_
    obtain ⟨zg5, W⟩ := W
    refine J_getA (G := 1019) (pc' := 142) rfl rfl (Nat.le_of_ble_eq_true rfl) rfl zg1 zg5 rfl ?_
    refine J_aload_no (pc' := 143) rfl rfl zg1 rfl ?_
    refine J_getI (G := 1024) (pc' := 146) rfl rfl (Nat.le_of_ble_eq_true rfl) rfl zg1 rfl ?_
    refine J_iload_n (pc' := 147) rfl rfl rfl ?_
    obtain ⟨zg7, W⟩ := W
    obtain ⟨zg8, W⟩ := W
    refine J_iast (pc' := 148) rfl rfl (by decide) zg7 zg8 rfl (fun zs6 ezs6 => ?_)
    replace W := W zs6 ezs6
    refine J_aload_no (pc' := 149) rfl rfl zg1 rfl ?_
    obtain ⟨zg9, W⟩ := W
    refine J_getA (G := 1018) (pc' := 152) rfl rfl (Nat.le_of_ble_eq_true rfl) rfl zg1 zg9 rfl ?_
    refine J_aload_no (pc' := 153) rfl rfl zg1 rfl ?_
    refine J_getI (G := 1024) (pc' := 156) rfl rfl (Nat.le_of_ble_eq_true rfl) rfl zg1 rfl ?_
    refine J_aload_no (pc' := 157) rfl rfl zg1 rfl ?_
    obtain ⟨zg10, W⟩ := W
    refine J_getA (G := 1022) (pc' := 160) rfl rfl (Nat.le_of_ble_eq_true rfl) rfl zg1 zg10 rfl ?_
    refine J_aload_no (pc' := 161) rfl rfl zg1 rfl ?_
    refine J_getI (G := 1025) (pc' := 164) rfl rfl (Nat.le_of_ble_eq_true rfl) rfl zg1 rfl ?_
    refine J_iconst (pc' := 165) rfl (i32_d rfl) rfl ?_
    obtain ⟨zg11, W⟩ := W
    refine J_isub (pc' := 166) rfl zg11 rfl ?_
    obtain ⟨zg12, W⟩ := W
    obtain ⟨zg13, W⟩ := W
    refine J_iald (pc' := 167) rfl rfl zg12 zg13 rfl ?_
    obtain ⟨zg15, W⟩ := W
    obtain ⟨zg16, W⟩ := W
    refine J_iast (pc' := 168) rfl rfl (by decide) zg15 zg16 rfl (fun zs14 ezs14 => ?_)
    replace W := W zs14 ezs14
    refine J_aload_no (pc' := 169) rfl rfl zg1 rfl ?_
    refine J_dup (pc' := 170) rfl rfl rfl ?_
    refine J_getI (G := 1024) (pc' := 173) rfl rfl (Nat.le_of_ble_eq_true rfl) rfl zg1 rfl ?_
    refine J_iconst (pc' := 174) rfl (i32_d rfl) rfl ?_
    obtain ⟨zg17, W⟩ := W
    refine J_iadd (pc' := 175) rfl zg17 rfl ?_
    refine J_putI (G := 1024) (pc' := 178) rfl rfl (Nat.le_of_ble_eq_true rfl) rfl rfl zg1 rfl (fun zs18 ezs18 => ?_)
    replace W := W zs18 ezs18
    refine J_iconst (pc' := 179) rfl (i32_d rfl) rfl ?_
    exact J_zret rfl rfl (Or.inr rfl) ⟨_, rfl, W⟩
  · refine J_iconst (pc' := 137) rfl (i32_d rfl) rfl ?_
    exact J_zret rfl rfl (Or.inl rfl) ⟨_, rfl, W⟩
theorem wp_Model_openScope {n : Nat} {σ : jS} {Q : Int → jS → Prop} {zo0 : Int} (W : 0 ≤ zo0 ∧ 1 ≤ n ∧ TrI (n - 1) i_Model_here [jo 1 zo0] σ (fun zr4 zs3 => (if ¬ zr4 = 123 then TrI (n - 1) i_Model_fails [jo 1 zo0, ji (rs zs3 1002 zo0)] zs3 (fun zr6 zs5 => (zr6 = 0 ∨ zr6 = 1) ∧ Q zr6 zs5) else (if rs zs3 1023 zo0 = 8 then TrI (n - 1) i_Model_fails [jo 1 zo0, ji (rs zs3 1002 zo0)] zs3 (fun zr9 zs8 => (zr9 = 0 ∨ zr9 = 1) ∧ Q zr9 zs8) else (if rs zs3 1025 zo0 ≤ 5 then i32 ((rs zs3 1002 zo0) + 1) ∧ (∀ zs12, zs12 = ws zs3 1002 zo0 ((rs zs3 1002 zo0) + 1) → 0 ≤ rl zs12 1017 zo0 ∧ (if ¬ rs zs12 1025 zo0 = 0 then 0 ≤ rl zs12 1022 zo0 ∧ i32 ((rs zs12 1025 zo0) - 1) ∧ 0 ≤ (rs zs12 1025 zo0) - 1 ∧ (rs zs12 1025 zo0) - 1 < rl zs12 1022 zo0 ∧ 0 ≤ rs zs12 1023 zo0 ∧ rs zs12 1023 zo0 < rl zs12 1017 zo0 ∧ (∀ zs18, zs18 = wa zs12 1017 zo0 (rs zs12 1023 zo0) (ra zs12 1022 zo0 ((rs zs12 1025 zo0) - 1)) → 0 ≤ rl zs18 1022 zo0 ∧ 0 ≤ rs zs18 1025 zo0 ∧ rs zs18 1025 zo0 < rl zs18 1022 zo0 ∧ (∀ zs22, zs22 = wa zs18 1022 zo0 (rs zs18 1025 zo0) (rs zs18 1023 zo0) → i32 ((rs zs22 1023 zo0) + 1) ∧ (∀ zs26, zs26 = ws zs22 1023 zo0 ((rs zs22 1023 zo0) + 1) → i32 ((rs zs26 1025 zo0) + 1) ∧ (∀ zs28, zs28 = ws zs26 1025 zo0 ((rs zs26 1025 zo0) + 1) → Q 1 zs28)))) else 0 ≤ rs zs12 1023 zo0 ∧ rs zs12 1023 zo0 < rl zs12 1017 zo0 ∧ (∀ zs29, zs29 = wa zs12 1017 zo0 (rs zs12 1023 zo0) (-1) → 0 ≤ rl zs29 1022 zo0 ∧ 0 ≤ rs zs29 1025 zo0 ∧ rs zs29 1025 zo0 < rl zs29 1022 zo0 ∧ (∀ zs33, zs33 = wa zs29 1022 zo0 (rs zs29 1025 zo0) (rs zs29 1023 zo0) → i32 ((rs zs33 1023 zo0) + 1) ∧ (∀ zs37, zs37 = ws zs33 1023 zo0 ((rs zs33 1023 zo0) + 1) → i32 ((rs zs37 1025 zo0) + 1) ∧ (∀ zs39, zs39 = ws zs37 1025 zo0 ((rs zs37 1025 zo0) + 1) → Q 1 zs39)))))) else TrI (n - 1) i_Model_fails [jo 1 zo0, ji (rs zs3 1002 zo0)] zs3 (fun zr41 zs40 => (zr41 = 0 ∨ zr41 = 1) ∧ Q zr41 zs40)))))) : TrI n i_Model_openScope [jo 1 zo0] σ Q := by
  refine Tr_of ax_Z_19 ?_
  show J n c_Model_openScope (some .boolean) 0 [some (jo 1 zo0)] [] σ (qI Q)
  obtain ⟨zg1, W⟩ := W
  refine J_aload_no (pc' := 1) rfl rfl zg1 rfl ?_
  obtain ⟨zg2, W⟩ := W
  refine J_callI (as := [jo 1 zo0]) (rest := []) (pc' := 4) rfl rfl ax_Z_9 rfl rfl (Or.inr (Or.inr ⟨_, _, rfl, zg1⟩)) (Nat.le_of_ble_eq_true rfl) (Nat.le_of_ble_eq_true rfl) (Nat.le_of_ble_eq_true rfl) zg2 trivial trivial rfl W (fun zr4 zs3 W => ?_)
  refine J_bipush (pc' := 6) rfl (by decide) (by decide) rfl ?_
  refine J_icmp (P := ¬ zr4 = 123) (t := 26) (f := 9) rfl rfl rfl jc_ne W (fun W => ?_) (fun W => ?_)
  · refine J_aload_no (pc' := 27) rfl rfl zg1 rfl ?_
    refine J_aload_no (pc' := 28) rfl rfl zg1 rfl ?_
    refine J_getI (G := 1002) (pc' := 31) rfl rfl (Nat.le_of_ble_eq_true rfl) rfl zg1 rfl ?_
    refine J_weak (L' := [none]) trivial ?_
    refine J_callI (as := [jo 1 zo0, ji (rs zs3 1002 zo0)]) (rest := []) (pc' := 34) rfl rfl ax_Z_10 rfl rfl (Or.inr (Or.inr ⟨_, _, rfl, zg1⟩)) (Nat.le_of_ble_eq_true rfl) (Nat.le_of_ble_eq_true rfl) (Nat.le_of_ble_eq_true rfl) zg2 trivial trivial rfl W (fun zr6 zs5 W => ?_)
    obtain ⟨zg7, W⟩ := W
    exact J_zret rfl rfl zg7 ⟨_, rfl, W⟩
  · refine J_aload_no (pc' := 10) rfl rfl zg1 rfl ?_
    refine J_getI (G := 1023) (pc' := 13) rfl rfl (Nat.le_of_ble_eq_true rfl) rfl zg1 rfl ?_
    refine J_bipush (pc' := 15) rfl (by decide) (by decide) rfl ?_
    refine J_icmp (P := rs zs3 1023 zo0 = 8) (t := 26) (f := 18) rfl rfl rfl jc_eq W (fun W => ?_) (fun W => ?_)
    · refine J_aload_no (pc' := 27) rfl rfl zg1 rfl ?_
      refine J_aload_no (pc' := 28) rfl rfl zg1 rfl ?_
      refine J_getI (G := 1002) (pc' := 31) rfl rfl (Nat.le_of_ble_eq_true rfl) rfl zg1 rfl ?_
      refine J_weak (L' := [none]) trivial ?_
      refine J_callI (as := [jo 1 zo0, ji (rs zs3 1002 zo0)]) (rest := []) (pc' := 34) rfl rfl ax_Z_10 rfl rfl (Or.inr (Or.inr ⟨_, _, rfl, zg1⟩)) (Nat.le_of_ble_eq_true rfl) (Nat.le_of_ble_eq_true rfl) (Nat.le_of_ble_eq_true rfl) zg2 trivial trivial rfl W (fun zr9 zs8 W => ?_)
      obtain ⟨zg10, W⟩ := W
      exact J_zret rfl rfl zg10 ⟨_, rfl, W⟩
    · refine J_aload_no (pc' := 19) rfl rfl zg1 rfl ?_
      refine J_getI (G := 1025) (pc' := 22) rfl rfl (Nat.le_of_ble_eq_true rfl) rfl zg1 rfl ?_
      refine J_iconst (pc' := 23) rfl (i32_d rfl) rfl ?_
      refine J_icmp (P := rs zs3 1025 zo0 ≤ 5) (t := 35) (f := 26) rfl rfl rfl jc_le W (fun W => ?_) (fun W => ?_)
      · refine J_aload_no (pc' := 36) rfl rfl zg1 rfl ?_
        refine J_dup (pc' := 37) rfl rfl rfl ?_
        refine J_getI (G := 1002) (pc' := 40) rfl rfl (Nat.le_of_ble_eq_true rfl) rfl zg1 rfl ?_
        refine J_iconst (pc' := 41) rfl (i32_d rfl) rfl ?_
        obtain ⟨zg11, W⟩ := W
        refine J_iadd (pc' := 42) rfl zg11 rfl ?_
        refine J_putI (G := 1002) (pc' := 45) rfl rfl (Nat.le_of_ble_eq_true rfl) rfl rfl zg1 rfl (fun zs12 ezs12 => ?_)
        replace W := W zs12 ezs12
        refine J_aload_no (pc' := 46) rfl rfl zg1 rfl ?_
        obtain ⟨zg13, W⟩ := W
        refine J_getA (G := 1017) (pc' := 49) rfl rfl (Nat.le_of_ble_eq_true rfl) rfl zg1 zg13 rfl ?_
        refine J_aload_no (pc' := 50) rfl rfl zg1 rfl ?_
        refine J_getI (G := 1023) (pc' := 53) rfl rfl (Nat.le_of_ble_eq_true rfl) rfl zg1 rfl ?_
        refine J_aload_no (pc' := 54) rfl rfl zg1 rfl ?_
        refine J_getI (G := 1025) (pc' := 57) rfl rfl (Nat.le_of_ble_eq_true rfl) rfl zg1 rfl ?_
        refine J_if (P := ¬ rs zs12 1025 zo0 = 0) (t := 64) (f := 60) rfl rfl rfl jc_ne W (fun W => ?_) (fun W => ?_)
        · refine J_aload_no (pc' := 65) rfl rfl zg1 rfl ?_
          obtain ⟨zg14, W⟩ := W
          refine J_getA (G := 1022) (pc' := 68) rfl rfl (Nat.le_of_ble_eq_true rfl) rfl zg1 zg14 rfl ?_
          refine J_aload_no (pc' := 69) rfl rfl zg1 rfl ?_
          refine J_getI (G := 1025) (pc' := 72) rfl rfl (Nat.le_of_ble_eq_true rfl) rfl zg1 rfl ?_
          refine J_iconst (pc' := 73) rfl (i32_d rfl) rfl ?_
          obtain ⟨zg15, W⟩ := W
          refine J_isub (pc' := 74) rfl zg15 rfl ?_
          obtain ⟨zg16, W⟩ := W
          obtain ⟨zg17, W⟩ := W
          refine J_iald (pc' := 75) rfl rfl zg16 zg17 rfl ?_
          obtain ⟨zg19, W⟩ := W
          obtain ⟨zg20, W⟩ := W
          refine J_iast (pc' := 76) rfl rfl (by decide) zg19 zg20 rfl (fun zs18 ezs18 => ?_)
          replace W := W zs18 ezs18
          refine J_aload_no (pc' := 77) rfl rfl zg1 rfl ?_
          obtain ⟨zg21, W⟩ := W
          refine J_getA (G := 1022) (pc' := 80) rfl rfl (Nat.le_of_ble_eq_true rfl) rfl zg1 zg21 rfl ?_
          refine J_aload_no (pc' := 81) rfl rfl zg1 rfl ?_
          refine J_getI (G := 1025) (pc' := 84) rfl rfl (Nat.le_of_ble_eq_true rfl) rfl zg1 rfl ?_
          refine J_aload_no (pc' := 85) rfl rfl zg1 rfl ?_
          refine J_getI (G := 1023) (pc' := 88) rfl rfl (Nat.le_of_ble_eq_true rfl) rfl zg1 rfl ?_
          obtain ⟨zg23, W⟩ := W
          obtain ⟨zg24, W⟩ := W
          refine J_iast (pc' := 89) rfl rfl (by decide) zg23 zg24 rfl (fun zs22 ezs22 => ?_)
          replace W := W zs22 ezs22
          refine J_aload_no (pc' := 90) rfl rfl zg1 rfl ?_
          refine J_dup (pc' := 91) rfl rfl rfl ?_
          refine J_getI (G := 1023) (pc' := 94) rfl rfl (Nat.le_of_ble_eq_true rfl) rfl zg1 rfl ?_
          refine J_iconst (pc' := 95) rfl (i32_d rfl) rfl ?_
          obtain ⟨zg25, W⟩ := W
          refine J_iadd (pc' := 96) rfl zg25 rfl ?_
          refine J_putI (G := 1023) (pc' := 99) rfl rfl (Nat.le_of_ble_eq_true rfl) rfl rfl zg1 rfl (fun zs26 ezs26 => ?_)
          replace W := W zs26 ezs26
          refine J_aload_no (pc' := 100) rfl rfl zg1 rfl ?_
          refine J_dup (pc' := 101) rfl rfl rfl ?_
          refine J_getI (G := 1025) (pc' := 104) rfl rfl (Nat.le_of_ble_eq_true rfl) rfl zg1 rfl ?_
          refine J_iconst (pc' := 105) rfl (i32_d rfl) rfl ?_
          obtain ⟨zg27, W⟩ := W
          refine J_iadd (pc' := 106) rfl zg27 rfl ?_
          refine J_putI (G := 1025) (pc' := 109) rfl rfl (Nat.le_of_ble_eq_true rfl) rfl rfl zg1 rfl (fun zs28 ezs28 => ?_)
          replace W := W zs28 ezs28
          refine J_iconst (pc' := 110) rfl (i32_d rfl) rfl ?_
          exact J_zret rfl rfl (Or.inr rfl) ⟨_, rfl, W⟩
        · refine J_iconst (pc' := 61) rfl (i32_d rfl) rfl ?_
          refine J_goto (pc' := 75) rfl rfl ?_
          obtain ⟨zg30, W⟩ := W
          obtain ⟨zg31, W⟩ := W
          refine J_iast (pc' := 76) rfl rfl (by decide) zg30 zg31 rfl (fun zs29 ezs29 => ?_)
          replace W := W zs29 ezs29
          refine J_aload_no (pc' := 77) rfl rfl zg1 rfl ?_
          obtain ⟨zg32, W⟩ := W
          refine J_getA (G := 1022) (pc' := 80) rfl rfl (Nat.le_of_ble_eq_true rfl) rfl zg1 zg32 rfl ?_
          refine J_aload_no (pc' := 81) rfl rfl zg1 rfl ?_
          refine J_getI (G := 1025) (pc' := 84) rfl rfl (Nat.le_of_ble_eq_true rfl) rfl zg1 rfl ?_
          refine J_aload_no (pc' := 85) rfl rfl zg1 rfl ?_
          refine J_getI (G := 1023) (pc' := 88) rfl rfl (Nat.le_of_ble_eq_true rfl) rfl zg1 rfl ?_
          obtain ⟨zg34, W⟩ := W
          obtain ⟨zg35, W⟩ := W
          refine J_iast (pc' := 89) rfl rfl (by decide) zg34 zg35 rfl (fun zs33 ezs33 => ?_)
          replace W := W zs33 ezs33
          refine J_aload_no (pc' := 90) rfl rfl zg1 rfl ?_
          refine J_dup (pc' := 91) rfl rfl rfl ?_
          refine J_getI (G := 1023) (pc' := 94) rfl rfl (Nat.le_of_ble_eq_true rfl) rfl zg1 rfl ?_
          refine J_iconst (pc' := 95) rfl (i32_d rfl) rfl ?_
          obtain ⟨zg36, W⟩ := W
          refine J_iadd (pc' := 96) rfl zg36 rfl ?_
          refine J_putI (G := 1023) (pc' := 99) rfl rfl (Nat.le_of_ble_eq_true rfl) rfl rfl zg1 rfl (fun zs37 ezs37 => ?_)
          replace W := W zs37 ezs37
          refine J_aload_no (pc' := 100) rfl rfl zg1 rfl ?_
          refine J_dup (pc' := 101) rfl rfl rfl ?_
          refine J_getI (G := 1025) (pc' := 104) rfl rfl (Nat.le_of_ble_eq_true rfl) rfl zg1 rfl ?_
          refine J_iconst (pc' := 105) rfl (i32_d rfl) rfl ?_
          obtain ⟨zg38, W⟩ := W
          refine J_iadd (pc' := 106) rfl zg38 rfl ?_
          refine J_putI (G := 1025) (pc' := 109) rfl rfl (Nat.le_of_ble_eq_true rfl) rfl rfl zg1 rfl (fun zs39 ezs39 => ?_)
          replace W := W zs39 ezs39
          refine J_iconst (pc' := 110) rfl (i32_d rfl) rfl ?_
          exact J_zret rfl rfl (Or.inr rfl) ⟨_, rfl, W⟩
      · refine J_aload_no (pc' := 27) rfl rfl zg1 rfl ?_
        refine J_aload_no (pc' := 28) rfl rfl zg1 rfl ?_
        refine J_getI (G := 1002) (pc' := 31) rfl rfl (Nat.le_of_ble_eq_true rfl) rfl zg1 rfl ?_
        refine J_weak (L' := [none]) trivial ?_
        refine J_callI (as := [jo 1 zo0, ji (rs zs3 1002 zo0)]) (rest := []) (pc' := 34) rfl rfl ax_Z_10 rfl rfl (Or.inr (Or.inr ⟨_, _, rfl, zg1⟩)) (Nat.le_of_ble_eq_true rfl) (Nat.le_of_ble_eq_true rfl) (Nat.le_of_ble_eq_true rfl) zg2 trivial trivial rfl W (fun zr41 zs40 W => ?_)
        obtain ⟨zg42, W⟩ := W
        exact J_zret rfl rfl zg42 ⟨_, rfl, W⟩
theorem wp_Model_readScopes {n : Nat} {σ : jS} {Q : Int → jS → Prop} {zo0 : Int} (W : 0 ≤ zo0 ∧ 1 ≤ n ∧ TrV (n - 1) i_Model_beginText [jo 1 zo0] σ (fun zs3 => (∀ zs5, zs5 = ws zs3 1023 zo0 0 → (∀ zs6, zs6 = ws zs5 1024 zo0 0 → (∀ zs7, zs7 = ws zs6 1025 zo0 0 → TrI (n - 1) i_Model_openScope [jo 1 zo0] zs7 (fun zr9 zs8 => (if ¬ zr9 = 0 then J n c_Model_readScopes (some .boolean) 28 [some (jo 1 zo0), none] [] zs8 (qI Q) else Q 0 zs8))))))) : TrI n i_Model_readScopes [jo 1 zo0] σ Q := by
  refine Tr_of ax_Z_20 ?_
  show J n c_Model_readScopes (some .boolean) 0 [some (jo 1 zo0), none] [] σ (qI Q)
  obtain ⟨zg1, W⟩ := W
  refine J_aload_no (pc' := 1) rfl rfl zg1 rfl ?_
  obtain ⟨zg2, W⟩ := W
  refine J_callV (as := [jo 1 zo0]) (rest := []) (pc' := 4) rfl rfl ax_Z_21 rfl rfl (Or.inr (Or.inr ⟨_, _, rfl, zg1⟩)) (Nat.le_of_ble_eq_true rfl) (Nat.le_of_ble_eq_true rfl) (Nat.le_of_ble_eq_true rfl) zg2 trivial trivial rfl W (fun zs3 W => ?_)
  refine J_aload_no (pc' := 5) rfl rfl zg1 rfl ?_
  refine J_iconst (pc' := 6) rfl (i32_d rfl) rfl ?_
  refine J_putI (G := 1023) (pc' := 9) rfl rfl (Nat.le_of_ble_eq_true rfl) rfl rfl zg1 rfl (fun zs5 ezs5 => ?_)
  replace W := W zs5 ezs5
  refine J_aload_no (pc' := 10) rfl rfl zg1 rfl ?_
  refine J_iconst (pc' := 11) rfl (i32_d rfl) rfl ?_
  refine J_putI (G := 1024) (pc' := 14) rfl rfl (Nat.le_of_ble_eq_true rfl) rfl rfl zg1 rfl (fun zs6 ezs6 => ?_)
  replace W := W zs6 ezs6
  refine J_aload_no (pc' := 15) rfl rfl zg1 rfl ?_
  refine J_iconst (pc' := 16) rfl (i32_d rfl) rfl ?_
  refine J_putI (G := 1025) (pc' := 19) rfl rfl (Nat.le_of_ble_eq_true rfl) rfl rfl zg1 rfl (fun zs7 ezs7 => ?_)
  replace W := W zs7 ezs7
  refine J_aload_no (pc' := 20) rfl rfl zg1 rfl ?_
  refine J_callI (as := [jo 1 zo0]) (rest := []) (pc' := 23) rfl rfl ax_Z_19 rfl rfl (Or.inr (Or.inr ⟨_, _, rfl, zg1⟩)) (Nat.le_of_ble_eq_true rfl) (Nat.le_of_ble_eq_true rfl) (Nat.le_of_ble_eq_true rfl) zg2 trivial trivial rfl W (fun zr9 zs8 W => ?_)
  refine J_if (P := ¬ zr9 = 0) (t := 28) (f := 26) rfl rfl rfl jc_ne W (fun W => ?_) (fun W => ?_)
  · exact W
  · refine J_iconst (pc' := 27) rfl (i32_d rfl) rfl ?_
    exact J_zret rfl rfl (Or.inl rfl) ⟨_, rfl, W⟩
theorem wp_Model_readScopes_28 {n : Nat} {σ : jS} {Q : Int → jS → Prop} {zo0 : Int} (W : 0 ≤ zo0 ∧ (if rs σ 1025 zo0 ≤ 0 then (if rs σ 1002 zo0 = rs σ 1001 zo0 then Q 1 σ else 1 ≤ n ∧ TrI (n - 1) i_Model_fails [jo 1 zo0, ji (rs σ 1002 zo0)] σ (fun zr4 zs3 => (if zr4 = 0 then Q 0 zs3 else Q 1 zs3))) else 1 ≤ n ∧ TrI (n - 1) i_Model_here [jo 1 zo0] σ (fun zr7 zs6 => (if ¬ zr7 = 125 then (if ¬ zr7 = 123 then TrI (n - 1) i_Model_readGiven [jo 1 zo0] zs6 (fun zr9 zs8 => (if ¬ zr9 = 0 then J n c_Model_readScopes (some .boolean) 28 [some (jo 1 zo0), none] [] zs8 (qI Q) else Q 0 zs8)) else TrI (n - 1) i_Model_openScope [jo 1 zo0] zs6 (fun zr11 zs10 => (if ¬ zr11 = 0 then J n c_Model_readScopes (some .boolean) 28 [some (jo 1 zo0), none] [] zs10 (qI Q) else Q 0 zs10))) else i32 ((rs zs6 1002 zo0) + 1) ∧ (∀ zs13, zs13 = ws zs6 1002 zo0 ((rs zs6 1002 zo0) + 1) → i32 ((rs zs13 1025 zo0) - 1) ∧ (∀ zs15, zs15 = ws zs13 1025 zo0 ((rs zs13 1025 zo0) - 1) → J n c_Model_readScopes (some .boolean) 28 [some (jo 1 zo0), none] [] zs15 (qI Q))))))) : J n c_Model_readScopes (some .boolean) 28 [some (jo 1 zo0), none] [] σ (qI Q) := by
  obtain ⟨zg1, W⟩ := W
  refine J_aload_no (pc' := 29) rfl rfl zg1 rfl ?_
  refine J_getI (G := 1025) (pc' := 32) rfl rfl (Nat.le_of_ble_eq_true rfl) rfl zg1 rfl ?_
  refine J_if (P := rs σ 1025 zo0 ≤ 0) (t := 96) (f := 35) rfl rfl rfl jc_le W (fun W => ?_) (fun W => ?_)
  · refine J_aload_no (pc' := 97) rfl rfl zg1 rfl ?_
    refine J_getI (G := 1002) (pc' := 100) rfl rfl (Nat.le_of_ble_eq_true rfl) rfl zg1 rfl ?_
    refine J_aload_no (pc' := 101) rfl rfl zg1 rfl ?_
    refine J_getI (G := 1001) (pc' := 104) rfl rfl (Nat.le_of_ble_eq_true rfl) rfl zg1 rfl ?_
    refine J_icmp (P := rs σ 1002 zo0 = rs σ 1001 zo0) (t := 118) (f := 107) rfl rfl rfl jc_eq W (fun W => ?_) (fun W => ?_)
    · refine J_iconst (pc' := 119) rfl (i32_d rfl) rfl ?_
      refine J_goto (pc' := 123) rfl rfl ?_
      exact J_zret rfl rfl (Or.inr rfl) ⟨_, rfl, W⟩
    · refine J_aload_no (pc' := 108) rfl rfl zg1 rfl ?_
      refine J_aload_no (pc' := 109) rfl rfl zg1 rfl ?_
      refine J_getI (G := 1002) (pc' := 112) rfl rfl (Nat.le_of_ble_eq_true rfl) rfl zg1 rfl ?_
      obtain ⟨zg2, W⟩ := W
      refine J_weak (L' := [none, none]) trivial ?_
      refine J_callI (as := [jo 1 zo0, ji (rs σ 1002 zo0)]) (rest := []) (pc' := 115) rfl rfl ax_Z_10 rfl rfl (Or.inr (Or.inr ⟨_, _, rfl, zg1⟩)) (Nat.le_of_ble_eq_true rfl) (Nat.le_of_ble_eq_true rfl) (Nat.le_of_ble_eq_true rfl) zg2 trivial trivial rfl W (fun zr4 zs3 W => ?_)
      refine J_if (P := zr4 = 0) (t := 122) (f := 118) rfl rfl rfl jc_eq W (fun W => ?_) (fun W => ?_)
      · refine J_iconst (pc' := 123) rfl (i32_d rfl) rfl ?_
        exact J_zret rfl rfl (Or.inl rfl) ⟨_, rfl, W⟩
      · refine J_iconst (pc' := 119) rfl (i32_d rfl) rfl ?_
        refine J_goto (pc' := 123) rfl rfl ?_
        exact J_zret rfl rfl (Or.inr rfl) ⟨_, rfl, W⟩
  · refine J_aload_no (pc' := 36) rfl rfl zg1 rfl ?_
    obtain ⟨zg5, W⟩ := W
    refine J_callI (as := [jo 1 zo0]) (rest := []) (pc' := 39) rfl rfl ax_Z_9 rfl rfl (Or.inr (Or.inr ⟨_, _, rfl, zg1⟩)) (Nat.le_of_ble_eq_true rfl) (Nat.le_of_ble_eq_true rfl) (Nat.le_of_ble_eq_true rfl) zg5 trivial trivial rfl W (fun zr7 zs6 W => ?_)
    refine J_istore_n (L' := [some (jo 1 zo0), some (ji zr7)]) (pc' := 40) rfl (Nat.le_of_ble_eq_true rfl) rfl rfl ?_
    refine J_iload_n (pc' := 41) rfl rfl rfl ?_
    refine J_bipush (pc' := 43) rfl (by decide) (by decide) rfl ?_
    refine J_icmp (P := ¬ zr7 = 125) (t := 69) (f := 46) rfl rfl rfl jc_ne W (fun W => ?_) (fun W => ?_)
    · refine J_iload_n (pc' := 70) rfl rfl rfl ?_
      refine J_bipush (pc' := 72) rfl (by decide) (by decide) rfl ?_
      refine J_icmp (P := ¬ zr7 = 123) (t := 84) (f := 75) rfl rfl rfl jc_ne W (fun W => ?_) (fun W => ?_)
      · refine J_aload_no (pc' := 85) rfl rfl zg1 rfl ?_
        refine J_weak (L' := [some (jo 1 zo0), none]) (And.intro rfl trivial) ?_
        refine J_callI (as := [jo 1 zo0]) (rest := []) (pc' := 88) rfl rfl ax_Z_18 rfl rfl (Or.inr (Or.inr ⟨_, _, rfl, zg1⟩)) (Nat.le_of_ble_eq_true rfl) (Nat.le_of_ble_eq_true rfl) (Nat.le_of_ble_eq_true rfl) zg5 trivial trivial rfl W (fun zr9 zs8 W => ?_)
        refine J_if (P := ¬ zr9 = 0) (t := 93) (f := 91) rfl rfl rfl jc_ne W (fun W => ?_) (fun W => ?_)
        · refine J_goto (pc' := 28) rfl rfl ?_
          exact W
        · refine J_iconst (pc' := 92) rfl (i32_d rfl) rfl ?_
          exact J_zret rfl rfl (Or.inl rfl) ⟨_, rfl, W⟩
      · refine J_aload_no (pc' := 76) rfl rfl zg1 rfl ?_
        refine J_weak (L' := [some (jo 1 zo0), none]) (And.intro rfl trivial) ?_
        refine J_callI (as := [jo 1 zo0]) (rest := []) (pc' := 79) rfl rfl ax_Z_19 rfl rfl (Or.inr (Or.inr ⟨_, _, rfl, zg1⟩)) (Nat.le_of_ble_eq_true rfl) (Nat.le_of_ble_eq_true rfl) (Nat.le_of_ble_eq_true rfl) zg5 trivial trivial rfl W (fun zr11 zs10 W => ?_)
        refine J_if (P := ¬ zr11 = 0) (t := 93) (f := 82) rfl rfl rfl jc_ne W (fun W => ?_) (fun W => ?_)
        · refine J_goto (pc' := 28) rfl rfl ?_
          exact W
        · refine J_iconst (pc' := 83) rfl (i32_d rfl) rfl ?_
          exact J_zret rfl rfl (Or.inl rfl) ⟨_, rfl, W⟩
    · refine J_aload_no (pc' := 47) rfl rfl zg1 rfl ?_
      refine J_dup (pc' := 48) rfl rfl rfl ?_
      refine J_getI (G := 1002) (pc' := 51) rfl rfl (Nat.le_of_ble_eq_true rfl) rfl zg1 rfl ?_
      refine J_iconst (pc' := 52) rfl (i32_d rfl) rfl ?_
      obtain ⟨zg12, W⟩ := W
      refine J_iadd (pc' := 53) rfl zg12 rfl ?_
      refine J_putI (G := 1002) (pc' := 56) rfl rfl (Nat.le_of_ble_eq_true rfl) rfl rfl zg1 rfl (fun zs13 ezs13 => ?_)
      replace W := W zs13 ezs13
      refine J_aload_no (pc' := 57) rfl rfl zg1 rfl ?_
      refine J_dup (pc' := 58) rfl rfl rfl ?_
      refine J_getI (G := 1025) (pc' := 61) rfl rfl (Nat.le_of_ble_eq_true rfl) rfl zg1 rfl ?_
      refine J_iconst (pc' := 62) rfl (i32_d rfl) rfl ?_
      obtain ⟨zg14, W⟩ := W
      refine J_isub (pc' := 63) rfl zg14 rfl ?_
      refine J_putI (G := 1025) (pc' := 66) rfl rfl (Nat.le_of_ble_eq_true rfl) rfl rfl zg1 rfl (fun zs15 ezs15 => ?_)
      replace W := W zs15 ezs15
      refine J_goto (pc' := 93) rfl rfl ?_
      refine J_goto (pc' := 28) rfl rfl ?_
      refine J_weak (L' := [some (jo 1 zo0), none]) (And.intro rfl trivial) ?_
      exact W
theorem wp_Model_beginText {n : Nat} {σ : jS} {Q : jS → Prop} {zo0 : Int} (W : 0 ≤ zo0 ∧ (∀ zs2, zs2 = ws σ 1002 zo0 0 → (∀ zs3, zs3 = ws zs2 1003 zo0 (-1) → Q zs3))) : TrV n i_Model_beginText [jo 1 zo0] σ Q := by
  refine Tr_of ax_Z_21 ?_
  show J n c_Model_beginText none 0 [some (jo 1 zo0)] [] σ (qV Q)
  obtain ⟨zg1, W⟩ := W
  refine J_aload_no (pc' := 1) rfl rfl zg1 rfl ?_
  refine J_iconst (pc' := 2) rfl (i32_d rfl) rfl ?_
  refine J_putI (G := 1002) (pc' := 5) rfl rfl (Nat.le_of_ble_eq_true rfl) rfl rfl zg1 rfl (fun zs2 ezs2 => ?_)
  replace W := W zs2 ezs2
  refine J_aload_no (pc' := 6) rfl rfl zg1 rfl ?_
  refine J_iconst (pc' := 7) rfl (i32_d rfl) rfl ?_
  refine J_putI (G := 1003) (pc' := 10) rfl rfl (Nat.le_of_ble_eq_true rfl) rfl rfl zg1 rfl (fun zs3 ezs3 => ?_)
  replace W := W zs3 ezs3
  exact J_vret rfl rfl ⟨rfl, W⟩
set_option maxRecDepth 16000 in
theorem wp_Model_scopes {n : Nat} {σ : jS} {Q : Int → jS → Prop} {zo0 : Int} (W : 0 ≤ zo0 ∧ 1 ≤ n ∧ TrI (n - 1) i_Model_readScopes [jo 1 zo0] σ (fun zr4 zs3 => (∀ zs5, zs5 = ws zs3 1001 zo0 0 → (if ¬ zr4 = 0 then (∀ zs6, zs6 = ws zs5 1013 zo0 (rs zs5 1023 zo0) → (∀ zs7, zs7 = ws zs6 1014 zo0 (rs zs6 1024 zo0) → (∀ zs8, zs8 = ws zs7 1015 zo0 0 → (∀ zs9, zs9 = ws zs8 1016 zo0 0 → 0 ≤ rl zs9 1017 zo0 ∧ 0 ≤ rl zs9 1008 zo0 ∧ TrV (n - 1) i_Model_copy [ja 1017 zo0, ji 0, ji (rs zs9 1013 zo0), ja 1008 zo0, ji 0] zs9 (fun zs12 => 0 ≤ rl zs12 1018 zo0 ∧ 0 ≤ rl zs12 1009 zo0 ∧ TrV (n - 1) i_Model_copy [ja 1018 zo0, ji 0, ji (rs zs12 1014 zo0), ja 1009 zo0, ji 0] zs12 (fun zs16 => 0 ≤ rl zs16 1019 zo0 ∧ 0 ≤ rl zs16 1010 zo0 ∧ TrV (n - 1) i_Model_copy [ja 1019 zo0, ji 0, ji (rs zs16 1014 zo0), ja 1010 zo0, ji 0] zs16 (fun zs20 => 0 ≤ rl zs20 1021 zo0 ∧ i32 (5 * (rs zs20 1014 zo0)) ∧ 0 ≤ rl zs20 1012 zo0 ∧ TrV (n - 1) i_Model_copy [ja 1021 zo0, ji 0, ji (5 * (rs zs20 1014 zo0)), ja 1012 zo0, ji 0] zs20 (fun zs25 => 0 ≤ rl zs25 1020 zo0 ∧ i32 (60 * (rs zs25 1014 zo0)) ∧ 0 ≤ rl zs25 1011 zo0 ∧ TrV (n - 1) i_Model_copy [ja 1020 zo0, ji 0, ji (60 * (rs zs25 1014 zo0)), ja 1011 zo0, ji 0] zs25 (fun zs30 => J n c_Model_scopes (some .int) 134 [some (jo 1 zo0), none, some (ji 0), none] [] zs30 (qI Q)))))))))) else Q (-1) zs5)))) : TrI n i_Model_scopes [jo 1 zo0] σ Q := by
  refine Tr_of ax_Z_22 ?_
  show J n c_Model_scopes (some .int) 0 [some (jo 1 zo0), none, none, none] [] σ (qI Q)
  obtain ⟨zg1, W⟩ := W
  refine J_aload_no (pc' := 1) rfl rfl zg1 rfl ?_
  obtain ⟨zg2, W⟩ := W
  refine J_callI (as := [jo 1 zo0]) (rest := []) (pc' := 4) rfl rfl ax_Z_20 rfl rfl (Or.inr (Or.inr ⟨_, _, rfl, zg1⟩)) (Nat.le_of_ble_eq_true rfl) (Nat.le_of_ble_eq_true rfl) (Nat.le_of_ble_eq_true rfl) zg2 trivial trivial rfl W (fun zr4 zs3 W => ?_)
  refine J_istore_n (L' := [some (jo 1 zo0), some (ji zr4), none, none]) (pc' := 5) rfl (Nat.le_of_ble_eq_true rfl) rfl rfl ?_
  refine J_aload_no (pc' := 6) rfl rfl zg1 rfl ?_
  refine J_iconst (pc' := 7) rfl (i32_d rfl) rfl ?_
  refine J_putI (G := 1001) (pc' := 10) rfl rfl (Nat.le_of_ble_eq_true rfl) rfl rfl zg1 rfl (fun zs5 ezs5 => ?_)
  replace W := W zs5 ezs5
  refine J_iload_n (pc' := 11) rfl rfl rfl ?_
  refine J_if (P := ¬ zr4 = 0) (t := 16) (f := 14) rfl rfl rfl jc_ne W (fun W => ?_) (fun W => ?_)
  · refine J_aload_no (pc' := 17) rfl rfl zg1 rfl ?_
    refine J_aload_no (pc' := 18) rfl rfl zg1 rfl ?_
    refine J_getI (G := 1023) (pc' := 21) rfl rfl (Nat.le_of_ble_eq_true rfl) rfl zg1 rfl ?_
    refine J_putI (G := 1013) (pc' := 24) rfl rfl (Nat.le_of_ble_eq_true rfl) rfl rfl zg1 rfl (fun zs6 ezs6 => ?_)
    replace W := W zs6 ezs6
    refine J_aload_no (pc' := 25) rfl rfl zg1 rfl ?_
    refine J_aload_no (pc' := 26) rfl rfl zg1 rfl ?_
    refine J_getI (G := 1024) (pc' := 29) rfl rfl (Nat.le_of_ble_eq_true rfl) rfl zg1 rfl ?_
    refine J_putI (G := 1014) (pc' := 32) rfl rfl (Nat.le_of_ble_eq_true rfl) rfl rfl zg1 rfl (fun zs7 ezs7 => ?_)
    replace W := W zs7 ezs7
    refine J_aload_no (pc' := 33) rfl rfl zg1 rfl ?_
    refine J_iconst (pc' := 34) rfl (i32_d rfl) rfl ?_
    refine J_putI (G := 1015) (pc' := 37) rfl rfl (Nat.le_of_ble_eq_true rfl) rfl rfl zg1 rfl (fun zs8 ezs8 => ?_)
    replace W := W zs8 ezs8
    refine J_aload_no (pc' := 38) rfl rfl zg1 rfl ?_
    refine J_iconst (pc' := 39) rfl (i32_d rfl) rfl ?_
    refine J_putI (G := 1016) (pc' := 42) rfl rfl (Nat.le_of_ble_eq_true rfl) rfl rfl zg1 rfl (fun zs9 ezs9 => ?_)
    replace W := W zs9 ezs9
    refine J_aload_no (pc' := 43) rfl rfl zg1 rfl ?_
    obtain ⟨zg10, W⟩ := W
    refine J_getA (G := 1017) (pc' := 46) rfl rfl (Nat.le_of_ble_eq_true rfl) rfl zg1 zg10 rfl ?_
    refine J_iconst (pc' := 47) rfl (i32_d rfl) rfl ?_
    refine J_aload_no (pc' := 48) rfl rfl zg1 rfl ?_
    refine J_getI (G := 1013) (pc' := 51) rfl rfl (Nat.le_of_ble_eq_true rfl) rfl zg1 rfl ?_
    refine J_aload_no (pc' := 52) rfl rfl zg1 rfl ?_
    obtain ⟨zg11, W⟩ := W
    refine J_getA (G := 1008) (pc' := 55) rfl rfl (Nat.le_of_ble_eq_true rfl) rfl zg1 zg11 rfl ?_
    refine J_iconst (pc' := 56) rfl (i32_d rfl) rfl ?_
    refine J_weak (L' := [some (jo 1 zo0), none, none, none]) (And.intro rfl trivial) ?_
    refine J_callV (as := [ja 1017 zo0, ji 0, ji (rs zs9 1013 zo0), ja 1008 zo0, ji 0]) (rest := []) (pc' := 59) rfl rfl ax_Z_16 rfl rfl (Or.inl rfl) (Nat.le_of_ble_eq_true rfl) (Nat.le_of_ble_eq_true rfl) (Nat.le_of_ble_eq_true rfl) zg2 trivial trivial rfl W (fun zs12 W => ?_)
    refine J_aload_no (pc' := 60) rfl rfl zg1 rfl ?_
    obtain ⟨zg14, W⟩ := W
    refine J_getA (G := 1018) (pc' := 63) rfl rfl (Nat.le_of_ble_eq_true rfl) rfl zg1 zg14 rfl ?_
    refine J_iconst (pc' := 64) rfl (i32_d rfl) rfl ?_
    refine J_aload_no (pc' := 65) rfl rfl zg1 rfl ?_
    refine J_getI (G := 1014) (pc' := 68) rfl rfl (Nat.le_of_ble_eq_true rfl) rfl zg1 rfl ?_
    refine J_aload_no (pc' := 69) rfl rfl zg1 rfl ?_
    obtain ⟨zg15, W⟩ := W
    refine J_getA (G := 1009) (pc' := 72) rfl rfl (Nat.le_of_ble_eq_true rfl) rfl zg1 zg15 rfl ?_
    refine J_iconst (pc' := 73) rfl (i32_d rfl) rfl ?_
    refine J_callV (as := [ja 1018 zo0, ji 0, ji (rs zs12 1014 zo0), ja 1009 zo0, ji 0]) (rest := []) (pc' := 76) rfl rfl ax_Z_16 rfl rfl (Or.inl rfl) (Nat.le_of_ble_eq_true rfl) (Nat.le_of_ble_eq_true rfl) (Nat.le_of_ble_eq_true rfl) zg2 trivial trivial rfl W (fun zs16 W => ?_)
    refine J_aload_no (pc' := 77) rfl rfl zg1 rfl ?_
    obtain ⟨zg18, W⟩ := W
    refine J_getA (G := 1019) (pc' := 80) rfl rfl (Nat.le_of_ble_eq_true rfl) rfl zg1 zg18 rfl ?_
    refine J_iconst (pc' := 81) rfl (i32_d rfl) rfl ?_
    refine J_aload_no (pc' := 82) rfl rfl zg1 rfl ?_
    refine J_getI (G := 1014) (pc' := 85) rfl rfl (Nat.le_of_ble_eq_true rfl) rfl zg1 rfl ?_
    refine J_aload_no (pc' := 86) rfl rfl zg1 rfl ?_
    obtain ⟨zg19, W⟩ := W
    refine J_getA (G := 1010) (pc' := 89) rfl rfl (Nat.le_of_ble_eq_true rfl) rfl zg1 zg19 rfl ?_
    refine J_iconst (pc' := 90) rfl (i32_d rfl) rfl ?_
    refine J_callV (as := [ja 1019 zo0, ji 0, ji (rs zs16 1014 zo0), ja 1010 zo0, ji 0]) (rest := []) (pc' := 93) rfl rfl ax_Z_16 rfl rfl (Or.inl rfl) (Nat.le_of_ble_eq_true rfl) (Nat.le_of_ble_eq_true rfl) (Nat.le_of_ble_eq_true rfl) zg2 trivial trivial rfl W (fun zs20 W => ?_)
    refine J_aload_no (pc' := 94) rfl rfl zg1 rfl ?_
    obtain ⟨zg22, W⟩ := W
    refine J_getA (G := 1021) (pc' := 97) rfl rfl (Nat.le_of_ble_eq_true rfl) rfl zg1 zg22 rfl ?_
    refine J_iconst (pc' := 98) rfl (i32_d rfl) rfl ?_
    refine J_iconst (pc' := 99) rfl (i32_d rfl) rfl ?_
    refine J_aload_no (pc' := 100) rfl rfl zg1 rfl ?_
    refine J_getI (G := 1014) (pc' := 103) rfl rfl (Nat.le_of_ble_eq_true rfl) rfl zg1 rfl ?_
    obtain ⟨zg23, W⟩ := W
    refine J_imul (pc' := 104) rfl zg23 rfl ?_
    refine J_aload_no (pc' := 105) rfl rfl zg1 rfl ?_
    obtain ⟨zg24, W⟩ := W
    refine J_getA (G := 1012) (pc' := 108) rfl rfl (Nat.le_of_ble_eq_true rfl) rfl zg1 zg24 rfl ?_
    refine J_iconst (pc' := 109) rfl (i32_d rfl) rfl ?_
    refine J_callV (as := [ja 1021 zo0, ji 0, ji (5 * (rs zs20 1014 zo0)), ja 1012 zo0, ji 0]) (rest := []) (pc' := 112) rfl rfl ax_Z_16 rfl rfl (Or.inl rfl) (Nat.le_of_ble_eq_true rfl) (Nat.le_of_ble_eq_true rfl) (Nat.le_of_ble_eq_true rfl) zg2 trivial trivial rfl W (fun zs25 W => ?_)
    refine J_aload_no (pc' := 113) rfl rfl zg1 rfl ?_
    obtain ⟨zg27, W⟩ := W
    refine J_getA (G := 1020) (pc' := 116) rfl rfl (Nat.le_of_ble_eq_true rfl) rfl zg1 zg27 rfl ?_
    refine J_iconst (pc' := 117) rfl (i32_d rfl) rfl ?_
    refine J_bipush (pc' := 119) rfl (by decide) (by decide) rfl ?_
    refine J_aload_no (pc' := 120) rfl rfl zg1 rfl ?_
    refine J_getI (G := 1014) (pc' := 123) rfl rfl (Nat.le_of_ble_eq_true rfl) rfl zg1 rfl ?_
    obtain ⟨zg28, W⟩ := W
    refine J_imul (pc' := 124) rfl zg28 rfl ?_
    refine J_aload_no (pc' := 125) rfl rfl zg1 rfl ?_
    obtain ⟨zg29, W⟩ := W
    refine J_getA (G := 1011) (pc' := 128) rfl rfl (Nat.le_of_ble_eq_true rfl) rfl zg1 zg29 rfl ?_
    refine J_iconst (pc' := 129) rfl (i32_d rfl) rfl ?_
    refine J_callV (as := [ja 1020 zo0, ji 0, ji (60 * (rs zs25 1014 zo0)), ja 1011 zo0, ji 0]) (rest := []) (pc' := 132) rfl rfl ax_Z_16 rfl rfl (Or.inl rfl) (Nat.le_of_ble_eq_true rfl) (Nat.le_of_ble_eq_true rfl) (Nat.le_of_ble_eq_true rfl) zg2 trivial trivial rfl W (fun zs30 W => ?_)
    refine J_iconst (pc' := 133) rfl (i32_d rfl) rfl ?_
    refine J_istore_n (L' := [some (jo 1 zo0), none, some (ji 0), none]) (pc' := 134) rfl (Nat.le_of_ble_eq_true rfl) rfl rfl ?_
    exact W
  · refine J_iconst (pc' := 15) rfl (i32_d rfl) rfl ?_
    exact J_iret rfl rfl ⟨_, rfl, W⟩
set_option maxRecDepth 16000 in
theorem wp_Model_scopes_134 {n : Nat} {σ : jS} {Q : Int → jS → Prop} {zo0 : Int} {zx2 : Int} (W : 0 ≤ zo0 ∧ (if rs σ 1014 zo0 ≤ zx2 then 1 ≤ n ∧ TrV (n - 1) i_Model_forget [jo 1 zo0] σ (fun zs3 => (∀ zs5, zs5 = ws zs3 1051 zo0 0 → Q (rs zs5 1014 zo0) zs5)) else J n c_Model_scopes (some .int) 144 [some (jo 1 zo0), none, some (ji zx2), some (ji 0)] [] σ (qI Q))) : J n c_Model_scopes (some .int) 134 [some (jo 1 zo0), none, some (ji zx2), none] [] σ (qI Q) := by
  refine J_iload_n (pc' := 135) rfl rfl rfl ?_
  obtain ⟨zg1, W⟩ := W
  refine J_aload_no (pc' := 136) rfl rfl zg1 rfl ?_
  refine J_getI (G := 1014) (pc' := 139) rfl rfl (Nat.le_of_ble_eq_true rfl) rfl zg1 rfl ?_
  refine J_icmp (P := rs σ 1014 zo0 ≤ zx2) (t := 242) (f := 142) rfl rfl rfl jc_ge W (fun W => ?_) (fun W => ?_)
  · refine J_aload_no (pc' := 243) rfl rfl zg1 rfl ?_
    obtain ⟨zg2, W⟩ := W
    refine J_weak (L' := [some (jo 1 zo0), none, none, none]) (And.intro rfl trivial) ?_
    refine J_callV (as := [jo 1 zo0]) (rest := []) (pc' := 246) rfl rfl ax_Z_54 rfl rfl (Or.inr (Or.inr ⟨_, _, rfl, zg1⟩)) (Nat.le_of_ble_eq_true rfl) (Nat.le_of_ble_eq_true rfl) (Nat.le_of_ble_eq_true rfl) zg2 trivial trivial rfl W (fun zs3 W => ?_)
    refine J_aload_no (pc' := 247) rfl rfl zg1 rfl ?_
    refine J_iconst (pc' := 248) rfl (i32_d rfl) rfl ?_
    refine J_putZ (G := 1051) (pc' := 251) rfl rfl (Nat.le_of_ble_eq_true rfl) rfl rfl zg1 (Or.inl rfl) rfl (fun zs5 ezs5 => ?_)
    replace W := W zs5 ezs5
    refine J_aload_no (pc' := 252) rfl rfl zg1 rfl ?_
    refine J_getI (G := 1014) (pc' := 255) rfl rfl (Nat.le_of_ble_eq_true rfl) rfl zg1 rfl ?_
    exact J_iret rfl rfl ⟨_, rfl, W⟩
  · refine J_iconst (pc' := 143) rfl (i32_d rfl) rfl ?_
    refine J_istore_n (L' := [some (jo 1 zo0), none, some (ji zx2), some (ji 0)]) (pc' := 144) rfl (Nat.le_of_ble_eq_true rfl) rfl rfl ?_
    exact W
set_option maxRecDepth 16000 in
theorem wp_Model_scopes_144 {n : Nat} {σ : jS} {Q : Int → jS → Prop} {zo0 : Int} {zx2 : Int} {zx3 : Int} (W : 0 ≤ zo0 ∧ (if rs σ 1014 zo0 ≤ zx3 then i32 (zx2 + 1) ∧ J n c_Model_scopes (some .int) 134 [some (jo 1 zo0), none, some (ji (zx2 + 1)), none] [] σ (qI Q) else 0 ≤ rl σ 1026 zo0 ∧ i32 (24 * zx2) ∧ i32 ((24 * zx2) + zx3) ∧ i32 (60 * zx2) ∧ 0 ≤ rl σ 1012 zo0 ∧ i32 (5 * zx2) ∧ 0 ≤ 5 * zx2 ∧ 5 * zx2 < rl σ 1012 zo0 ∧ i32 (60 * zx3) ∧ i32 (5 * zx3) ∧ 0 ≤ 5 * zx3 ∧ 5 * zx3 < rl σ 1012 zo0 ∧ 1 ≤ n ∧ TrI (n - 1) i_Model_isPut [jo 1 zo0, ji (60 * zx2), ji (ra σ 1012 zo0 (5 * zx2)), ji (60 * zx3), ji (ra σ 1012 zo0 (5 * zx3))] σ (fun zr17 zs16 => (if zr17 = 0 then 0 ≤ (24 * zx2) + zx3 ∧ (24 * zx2) + zx3 < rl zs16 1026 zo0 ∧ (∀ zs18, zs18 = wa zs16 1026 zo0 ((24 * zx2) + zx3) 0 → i32 (zx3 + 1) ∧ J n c_Model_scopes (some .int) 144 [some (jo 1 zo0), none, some (ji zx2), some (ji (zx3 + 1))] [] zs18 (qI Q)) else 0 ≤ rl zs16 1012 zo0 ∧ 5 * zx3 < rl zs16 1012 zo0 ∧ 5 * zx2 < rl zs16 1012 zo0 ∧ TrI (n - 1) i_Model_isPut [jo 1 zo0, ji (60 * zx3), ji (ra zs16 1012 zo0 (5 * zx3)), ji (60 * zx2), ji (ra zs16 1012 zo0 (5 * zx2))] zs16 (fun zr26 zs25 => (if ¬ zr26 = 0 then 0 ≤ (24 * zx2) + zx3 ∧ (24 * zx2) + zx3 < rl zs25 1026 zo0 ∧ (∀ zs27, zs27 = wa zs25 1026 zo0 ((24 * zx2) + zx3) 0 → i32 (zx3 + 1) ∧ J n c_Model_scopes (some .int) 144 [some (jo 1 zo0), none, some (ji zx2), some (ji (zx3 + 1))] [] zs27 (qI Q)) else 0 ≤ (24 * zx2) + zx3 ∧ (24 * zx2) + zx3 < rl zs25 1026 zo0 ∧ (∀ zs31, zs31 = wa zs25 1026 zo0 ((24 * zx2) + zx3) 1 → i32 (zx3 + 1) ∧ J n c_Model_scopes (some .int) 144 [some (jo 1 zo0), none, some (ji zx2), some (ji (zx3 + 1))] [] zs31 (qI Q)))))))) : J n c_Model_scopes (some .int) 144 [some (jo 1 zo0), none, some (ji zx2), some (ji zx3)] [] σ (qI Q) := by
  refine J_iload_n (pc' := 145) rfl rfl rfl ?_
  obtain ⟨zg1, W⟩ := W
  refine J_aload_no (pc' := 146) rfl rfl zg1 rfl ?_
  refine J_getI (G := 1014) (pc' := 149) rfl rfl (Nat.le_of_ble_eq_true rfl) rfl zg1 rfl ?_
  refine J_icmp (P := rs σ 1014 zo0 ≤ zx3) (t := 236) (f := 152) rfl rfl rfl jc_ge W (fun W => ?_) (fun W => ?_)
  · obtain ⟨zg2, W⟩ := W
    refine J_iinc (L' := [some (jo 1 zo0), none, some (ji (zx2 + 1)), some (ji zx3)]) (pc' := 239) rfl rfl zg2 rfl rfl ?_
    refine J_goto (pc' := 134) rfl rfl ?_
    refine J_weak (L' := [some (jo 1 zo0), none, some (ji (zx2 + 1)), none]) (And.intro rfl (And.intro rfl trivial)) ?_
    exact W
  · refine J_aload_no (pc' := 153) rfl rfl zg1 rfl ?_
    obtain ⟨zg3, W⟩ := W
    refine J_getA (G := 1026) (pc' := 156) rfl rfl (Nat.le_of_ble_eq_true rfl) rfl zg1 zg3 rfl ?_
    refine J_bipush (pc' := 158) rfl (by decide) (by decide) rfl ?_
    refine J_iload_n (pc' := 159) rfl rfl rfl ?_
    obtain ⟨zg4, W⟩ := W
    refine J_imul (pc' := 160) rfl zg4 rfl ?_
    refine J_iload_n (pc' := 161) rfl rfl rfl ?_
    obtain ⟨zg5, W⟩ := W
    refine J_iadd (pc' := 162) rfl zg5 rfl ?_
    refine J_aload_no (pc' := 163) rfl rfl zg1 rfl ?_
    refine J_bipush (pc' := 165) rfl (by decide) (by decide) rfl ?_
    refine J_iload_n (pc' := 166) rfl rfl rfl ?_
    obtain ⟨zg6, W⟩ := W
    refine J_imul (pc' := 167) rfl zg6 rfl ?_
    refine J_aload_no (pc' := 168) rfl rfl zg1 rfl ?_
    obtain ⟨zg7, W⟩ := W
    refine J_getA (G := 1012) (pc' := 171) rfl rfl (Nat.le_of_ble_eq_true rfl) rfl zg1 zg7 rfl ?_
    refine J_iconst (pc' := 172) rfl (i32_d rfl) rfl ?_
    refine J_iload_n (pc' := 173) rfl rfl rfl ?_
    obtain ⟨zg8, W⟩ := W
    refine J_imul (pc' := 174) rfl zg8 rfl ?_
    obtain ⟨zg9, W⟩ := W
    obtain ⟨zg10, W⟩ := W
    refine J_iald (pc' := 175) rfl rfl zg9 zg10 rfl ?_
    refine J_bipush (pc' := 177) rfl (by decide) (by decide) rfl ?_
    refine J_iload_n (pc' := 178) rfl rfl rfl ?_
    obtain ⟨zg11, W⟩ := W
    refine J_imul (pc' := 179) rfl zg11 rfl ?_
    refine J_aload_no (pc' := 180) rfl rfl zg1 rfl ?_
    refine J_getA (G := 1012) (pc' := 183) rfl rfl (Nat.le_of_ble_eq_true rfl) rfl zg1 zg7 rfl ?_
    refine J_iconst (pc' := 184) rfl (i32_d rfl) rfl ?_
    refine J_iload_n (pc' := 185) rfl rfl rfl ?_
    obtain ⟨zg12, W⟩ := W
    refine J_imul (pc' := 186) rfl zg12 rfl ?_
    obtain ⟨zg13, W⟩ := W
    obtain ⟨zg14, W⟩ := W
    refine J_iald (pc' := 187) rfl rfl zg13 zg14 rfl ?_
    obtain ⟨zg15, W⟩ := W
    refine J_callI (as := [jo 1 zo0, ji (60 * zx2), ji (ra σ 1012 zo0 (5 * zx2)), ji (60 * zx3), ji (ra σ 1012 zo0 (5 * zx3))]) (rest := [ji ((24 * zx2) + zx3), ja 1026 zo0]) (pc' := 190) rfl rfl ax_Z_35 rfl rfl (Or.inr (Or.inr ⟨_, _, rfl, zg1⟩)) (Nat.le_of_ble_eq_true rfl) (Nat.le_of_ble_eq_true rfl) (Nat.le_of_ble_eq_true rfl) zg15 trivial (And.intro rfl trivial) rfl W (fun zr17 zs16 W => ?_)
    refine J_if (P := zr17 = 0) (t := 228) (f := 193) rfl rfl rfl jc_eq W (fun W => ?_) (fun W => ?_)
    · refine J_iconst (pc' := 229) rfl (i32_d rfl) rfl ?_
      obtain ⟨zg19, W⟩ := W
      obtain ⟨zg20, W⟩ := W
      refine J_bast2 (pc' := 230) rfl rfl (Or.inl rfl) zg19 zg20 rfl (fun zs18 ezs18 => ?_)
      replace W := W zs18 ezs18
      obtain ⟨zg21, W⟩ := W
      refine J_iinc (L' := [some (jo 1 zo0), none, some (ji zx2), some (ji (zx3 + 1))]) (pc' := 233) rfl rfl zg21 rfl rfl ?_
      refine J_goto (pc' := 144) rfl rfl ?_
      exact W
    · refine J_aload_no (pc' := 194) rfl rfl zg1 rfl ?_
      refine J_bipush (pc' := 196) rfl (by decide) (by decide) rfl ?_
      refine J_iload_n (pc' := 197) rfl rfl rfl ?_
      refine J_imul (pc' := 198) rfl zg11 rfl ?_
      refine J_aload_no (pc' := 199) rfl rfl zg1 rfl ?_
      obtain ⟨zg22, W⟩ := W
      refine J_getA (G := 1012) (pc' := 202) rfl rfl (Nat.le_of_ble_eq_true rfl) rfl zg1 zg22 rfl ?_
      refine J_iconst (pc' := 203) rfl (i32_d rfl) rfl ?_
      refine J_iload_n (pc' := 204) rfl rfl rfl ?_
      refine J_imul (pc' := 205) rfl zg12 rfl ?_
      obtain ⟨zg23, W⟩ := W
      refine J_iald (pc' := 206) rfl rfl zg13 zg23 rfl ?_
      refine J_bipush (pc' := 208) rfl (by decide) (by decide) rfl ?_
      refine J_iload_n (pc' := 209) rfl rfl rfl ?_
      refine J_imul (pc' := 210) rfl zg6 rfl ?_
      refine J_aload_no (pc' := 211) rfl rfl zg1 rfl ?_
      refine J_getA (G := 1012) (pc' := 214) rfl rfl (Nat.le_of_ble_eq_true rfl) rfl zg1 zg22 rfl ?_
      refine J_iconst (pc' := 215) rfl (i32_d rfl) rfl ?_
      refine J_iload_n (pc' := 216) rfl rfl rfl ?_
      refine J_imul (pc' := 217) rfl zg8 rfl ?_
      obtain ⟨zg24, W⟩ := W
      refine J_iald (pc' := 218) rfl rfl zg9 zg24 rfl ?_
      refine J_callI (as := [jo 1 zo0, ji (60 * zx3), ji (ra zs16 1012 zo0 (5 * zx3)), ji (60 * zx2), ji (ra zs16 1012 zo0 (5 * zx2))]) (rest := [ji ((24 * zx2) + zx3), ja 1026 zo0]) (pc' := 221) rfl rfl ax_Z_35 rfl rfl (Or.inr (Or.inr ⟨_, _, rfl, zg1⟩)) (Nat.le_of_ble_eq_true rfl) (Nat.le_of_ble_eq_true rfl) (Nat.le_of_ble_eq_true rfl) zg15 trivial (And.intro rfl trivial) rfl W (fun zr26 zs25 W => ?_)
      refine J_if (P := ¬ zr26 = 0) (t := 228) (f := 224) rfl rfl rfl jc_ne W (fun W => ?_) (fun W => ?_)
      · refine J_iconst (pc' := 229) rfl (i32_d rfl) rfl ?_
        obtain ⟨zg28, W⟩ := W
        obtain ⟨zg29, W⟩ := W
        refine J_bast2 (pc' := 230) rfl rfl (Or.inl rfl) zg28 zg29 rfl (fun zs27 ezs27 => ?_)
        replace W := W zs27 ezs27
        obtain ⟨zg30, W⟩ := W
        refine J_iinc (L' := [some (jo 1 zo0), none, some (ji zx2), some (ji (zx3 + 1))]) (pc' := 233) rfl rfl zg30 rfl rfl ?_
        refine J_goto (pc' := 144) rfl rfl ?_
        exact W
      · refine J_iconst (pc' := 225) rfl (i32_d rfl) rfl ?_
        refine J_goto (pc' := 229) rfl rfl ?_
        obtain ⟨zg32, W⟩ := W
        obtain ⟨zg33, W⟩ := W
        refine J_bast2 (pc' := 230) rfl rfl (Or.inr rfl) zg32 zg33 rfl (fun zs31 ezs31 => ?_)
        replace W := W zs31 ezs31
        obtain ⟨zg34, W⟩ := W
        refine J_iinc (L' := [some (jo 1 zo0), none, some (ji zx2), some (ji (zx3 + 1))]) (pc' := 233) rfl rfl zg34 rfl rfl ?_
        refine J_goto (pc' := 144) rfl rfl ?_
        exact W
theorem wp_Model_fault {n : Nat} {σ : jS} {Q : Int → jS → Prop} {zo0 : Int} (W : 0 ≤ zo0 ∧ Q (rs σ 1003 zo0) σ) : TrI n i_Model_fault [jo 1 zo0] σ Q := by
  refine Tr_of ax_Z_23 ?_
  show J n c_Model_fault (some .int) 0 [some (jo 1 zo0)] [] σ (qI Q)
  obtain ⟨zg1, W⟩ := W
  refine J_aload_no (pc' := 1) rfl rfl zg1 rfl ?_
  refine J_getI (G := 1003) (pc' := 4) rfl rfl (Nat.le_of_ble_eq_true rfl) rfl zg1 rfl ?_
  exact J_iret rfl rfl ⟨_, rfl, W⟩
theorem wp_Model_isScope {n : Nat} {σ : jS} {Q : Int → jS → Prop} {zo0 : Int} {zx1 : Int} (W : 0 ≤ zo0 ∧ i32 ((rs σ 1013 zo0) - 1) ∧ 1 ≤ n ∧ TrI (n - 1) i_Model_isIn [ji zx1, ji 0, ji ((rs σ 1013 zo0) - 1)] σ (fun zr5 zs4 => (zr5 = 0 ∨ zr5 = 1) ∧ Q zr5 zs4)) : TrI n i_Model_isScope [jo 1 zo0, ji zx1] σ Q := by
  refine Tr_of ax_Z_24 ?_
  show J n c_Model_isScope (some .boolean) 0 [some (jo 1 zo0), some (ji zx1)] [] σ (qI Q)
  refine J_iload_n (pc' := 1) rfl rfl rfl ?_
  refine J_iconst (pc' := 2) rfl (i32_d rfl) rfl ?_
  obtain ⟨zg1, W⟩ := W
  refine J_aload_no (pc' := 3) rfl rfl zg1 rfl ?_
  refine J_getI (G := 1013) (pc' := 6) rfl rfl (Nat.le_of_ble_eq_true rfl) rfl zg1 rfl ?_
  refine J_iconst (pc' := 7) rfl (i32_d rfl) rfl ?_
  obtain ⟨zg2, W⟩ := W
  refine J_isub (pc' := 8) rfl zg2 rfl ?_
  obtain ⟨zg3, W⟩ := W
  refine J_weak (L' := [none, none]) trivial ?_
  refine J_callI (as := [ji zx1, ji 0, ji ((rs σ 1013 zo0) - 1)]) (rest := []) (pc' := 11) rfl rfl ax_Z_0 rfl rfl (Or.inl rfl) (Nat.le_of_ble_eq_true rfl) (Nat.le_of_ble_eq_true rfl) (Nat.le_of_ble_eq_true rfl) zg3 trivial trivial rfl W (fun zr5 zs4 W => ?_)
  obtain ⟨zg6, W⟩ := W
  exact J_zret rfl rfl zg6 ⟨_, rfl, W⟩
theorem wp_Model_isGiven {n : Nat} {σ : jS} {Q : Int → jS → Prop} {zo0 : Int} {zx1 : Int} (W : 0 ≤ zo0 ∧ i32 ((rs σ 1014 zo0) - 1) ∧ 1 ≤ n ∧ TrI (n - 1) i_Model_isIn [ji zx1, ji 0, ji ((rs σ 1014 zo0) - 1)] σ (fun zr5 zs4 => (zr5 = 0 ∨ zr5 = 1) ∧ Q zr5 zs4)) : TrI n i_Model_isGiven [jo 1 zo0, ji zx1] σ Q := by
  refine Tr_of ax_Z_25 ?_
  show J n c_Model_isGiven (some .boolean) 0 [some (jo 1 zo0), some (ji zx1)] [] σ (qI Q)
  refine J_iload_n (pc' := 1) rfl rfl rfl ?_
  refine J_iconst (pc' := 2) rfl (i32_d rfl) rfl ?_
  obtain ⟨zg1, W⟩ := W
  refine J_aload_no (pc' := 3) rfl rfl zg1 rfl ?_
  refine J_getI (G := 1014) (pc' := 6) rfl rfl (Nat.le_of_ble_eq_true rfl) rfl zg1 rfl ?_
  refine J_iconst (pc' := 7) rfl (i32_d rfl) rfl ?_
  obtain ⟨zg2, W⟩ := W
  refine J_isub (pc' := 8) rfl zg2 rfl ?_
  obtain ⟨zg3, W⟩ := W
  refine J_weak (L' := [none, none]) trivial ?_
  refine J_callI (as := [ji zx1, ji 0, ji ((rs σ 1014 zo0) - 1)]) (rest := []) (pc' := 11) rfl rfl ax_Z_0 rfl rfl (Or.inl rfl) (Nat.le_of_ble_eq_true rfl) (Nat.le_of_ble_eq_true rfl) (Nat.le_of_ble_eq_true rfl) zg3 trivial trivial rfl W (fun zr5 zs4 W => ?_)
  obtain ⟨zg6, W⟩ := W
  exact J_zret rfl rfl zg6 ⟨_, rfl, W⟩
theorem wp_Model_is {n : Nat} {σ : jS} {Q : Int → jS → Prop} {zo0 : Int} {zx1 : Int} (W : (if zx1 = 0 then 0 ≤ zo0 ∧ Q (rs σ 1013 zo0) σ else (if zx1 = 1 then 0 ≤ zo0 ∧ Q (rs σ 1014 zo0) σ else (if zx1 = 2 then 0 ≤ zo0 ∧ Q (rs σ 1015 zo0) σ else (if zx1 = 3 then 0 ≤ zo0 ∧ Q (rs σ 1016 zo0) σ else (if zx1 = 4 then 0 ≤ zo0 ∧ Q (rs σ 1070 zo0) σ else (if zx1 = 5 then 0 ≤ zo0 ∧ Q (rs σ 1001 zo0) σ else (if zx1 = 6 then J n c_Model_is (some .int) 76 [some (jo 1 zo0), none, some (ji 0), some (ji 0)] [] σ (qI Q) else Q (-1) σ)))))))) : TrI n i_Model_is [jo 1 zo0, ji zx1] σ Q := by
  refine Tr_of ax_Z_26 ?_
  show J n c_Model_is (some .int) 0 [some (jo 1 zo0), some (ji zx1), none, none] [] σ (qI Q)
  refine J_iconst (pc' := 1) rfl (i32_d rfl) rfl ?_
  refine J_istore_n (L' := [some (jo 1 zo0), some (ji zx1), some (ji 0), none]) (pc' := 2) rfl (Nat.le_of_ble_eq_true rfl) rfl rfl ?_
  refine J_iload_n (pc' := 3) rfl rfl rfl ?_
  by_cases zc7 : zx1 = 0
  · rw [if_pos zc7] at W
    refine J_swC (pc' := 44) (i := 0) rfl (by omega) (by decide) rfl rfl ?_
    obtain ⟨zg1, W⟩ := W
    refine J_aload_no (pc' := 45) rfl rfl zg1 rfl ?_
    refine J_getI (G := 1013) (pc' := 48) rfl rfl (Nat.le_of_ble_eq_true rfl) rfl zg1 rfl ?_
    exact J_iret rfl rfl ⟨_, rfl, W⟩
  rw [if_neg zc7] at W
  by_cases zc8 : zx1 = 1
  · rw [if_pos zc8] at W
    refine J_swC (pc' := 49) (i := 1) rfl (by omega) (by decide) rfl rfl ?_
    obtain ⟨zg2, W⟩ := W
    refine J_aload_no (pc' := 50) rfl rfl zg2 rfl ?_
    refine J_getI (G := 1014) (pc' := 53) rfl rfl (Nat.le_of_ble_eq_true rfl) rfl zg2 rfl ?_
    exact J_iret rfl rfl ⟨_, rfl, W⟩
  rw [if_neg zc8] at W
  by_cases zc9 : zx1 = 2
  · rw [if_pos zc9] at W
    refine J_swC (pc' := 54) (i := 2) rfl (by omega) (by decide) rfl rfl ?_
    obtain ⟨zg3, W⟩ := W
    refine J_aload_no (pc' := 55) rfl rfl zg3 rfl ?_
    refine J_getI (G := 1015) (pc' := 58) rfl rfl (Nat.le_of_ble_eq_true rfl) rfl zg3 rfl ?_
    exact J_iret rfl rfl ⟨_, rfl, W⟩
  rw [if_neg zc9] at W
  by_cases zc10 : zx1 = 3
  · rw [if_pos zc10] at W
    refine J_swC (pc' := 59) (i := 3) rfl (by omega) (by decide) rfl rfl ?_
    obtain ⟨zg4, W⟩ := W
    refine J_aload_no (pc' := 60) rfl rfl zg4 rfl ?_
    refine J_getI (G := 1016) (pc' := 63) rfl rfl (Nat.le_of_ble_eq_true rfl) rfl zg4 rfl ?_
    exact J_iret rfl rfl ⟨_, rfl, W⟩
  rw [if_neg zc10] at W
  by_cases zc11 : zx1 = 4
  · rw [if_pos zc11] at W
    refine J_swC (pc' := 64) (i := 4) rfl (by omega) (by decide) rfl rfl ?_
    obtain ⟨zg5, W⟩ := W
    refine J_aload_no (pc' := 65) rfl rfl zg5 rfl ?_
    refine J_getI (G := 1070) (pc' := 68) rfl rfl (Nat.le_of_ble_eq_true rfl) rfl zg5 rfl ?_
    exact J_iret rfl rfl ⟨_, rfl, W⟩
  rw [if_neg zc11] at W
  by_cases zc12 : zx1 = 5
  · rw [if_pos zc12] at W
    refine J_swC (pc' := 69) (i := 5) rfl (by omega) (by decide) rfl rfl ?_
    obtain ⟨zg6, W⟩ := W
    refine J_aload_no (pc' := 70) rfl rfl zg6 rfl ?_
    refine J_getI (G := 1001) (pc' := 73) rfl rfl (Nat.le_of_ble_eq_true rfl) rfl zg6 rfl ?_
    exact J_iret rfl rfl ⟨_, rfl, W⟩
  rw [if_neg zc12] at W
  by_cases zc13 : zx1 = 6
  · rw [if_pos zc13] at W
    refine J_swC (pc' := 74) (i := 6) rfl (by omega) (by decide) rfl rfl ?_
    refine J_iconst (pc' := 75) rfl (i32_d rfl) rfl ?_
    refine J_istore_n (L' := [some (jo 1 zo0), some (ji zx1), some (ji 0), some (ji 0)]) (pc' := 76) rfl (Nat.le_of_ble_eq_true rfl) rfl rfl ?_
    refine J_weak (L' := [some (jo 1 zo0), none, some (ji 0), some (ji 0)]) (And.intro rfl (And.intro rfl (And.intro rfl trivial))) ?_
    exact W
  rw [if_neg zc13] at W
  refine J_swD (pc' := 101) rfl (by omega) rfl ?_
  refine J_iconst (pc' := 102) rfl (i32_d rfl) rfl ?_
  exact J_iret rfl rfl ⟨_, rfl, W⟩
theorem wp_Model_is_76 {n : Nat} {σ : jS} {Q : Int → jS → Prop} {zo0 : Int} {zx2 : Int} {zx3 : Int} (W : 0 ≤ zo0 ∧ (if rs σ 1014 zo0 ≤ zx3 then Q zx2 σ else 0 ≤ rl σ 1010 zo0 ∧ 0 ≤ zx3 ∧ zx3 < rl σ 1010 zo0 ∧ i32 (zx2 + (ra σ 1010 zo0 zx3)) ∧ i32 (zx3 + 1) ∧ J n c_Model_is (some .int) 76 [some (jo 1 zo0), none, some (ji (zx2 + (ra σ 1010 zo0 zx3))), some (ji (zx3 + 1))] [] σ (qI Q))) : J n c_Model_is (some .int) 76 [some (jo 1 zo0), none, some (ji zx2), some (ji zx3)] [] σ (qI Q) := by
  refine J_iload_n (pc' := 77) rfl rfl rfl ?_
  obtain ⟨zg1, W⟩ := W
  refine J_aload_no (pc' := 78) rfl rfl zg1 rfl ?_
  refine J_getI (G := 1014) (pc' := 81) rfl rfl (Nat.le_of_ble_eq_true rfl) rfl zg1 rfl ?_
  refine J_icmp (P := rs σ 1014 zo0 ≤ zx3) (t := 99) (f := 84) rfl rfl rfl jc_ge W (fun W => ?_) (fun W => ?_)
  · refine J_iload_n (pc' := 100) rfl rfl rfl ?_
    exact J_iret rfl rfl ⟨_, rfl, W⟩
  · refine J_iload_n (pc' := 85) rfl rfl rfl ?_
    refine J_aload_no (pc' := 86) rfl rfl zg1 rfl ?_
    obtain ⟨zg2, W⟩ := W
    refine J_getA (G := 1010) (pc' := 89) rfl rfl (Nat.le_of_ble_eq_true rfl) rfl zg1 zg2 rfl ?_
    refine J_iload_n (pc' := 90) rfl rfl rfl ?_
    obtain ⟨zg3, W⟩ := W
    obtain ⟨zg4, W⟩ := W
    refine J_iald (pc' := 91) rfl rfl zg3 zg4 rfl ?_
    obtain ⟨zg5, W⟩ := W
    refine J_iadd (pc' := 92) rfl zg5 rfl ?_
    refine J_istore_n (L' := [some (jo 1 zo0), none, some (ji (zx2 + (ra σ 1010 zo0 zx3))), some (ji zx3)]) (pc' := 93) rfl (Nat.le_of_ble_eq_true rfl) rfl rfl ?_
    obtain ⟨zg6, W⟩ := W
    refine J_iinc (L' := [some (jo 1 zo0), none, some (ji (zx2 + (ra σ 1010 zo0 zx3))), some (ji (zx3 + 1))]) (pc' := 96) rfl rfl zg6 rfl rfl ?_
    refine J_goto (pc' := 76) rfl rfl ?_
    exact W
theorem wp_Model_liesIn {n : Nat} {σ : jS} {Q : Int → jS → Prop} {zo0 : Int} {zx1 : Int} (W : 0 ≤ zo0 ∧ 0 ≤ rl σ 1008 zo0 ∧ 0 ≤ zx1 ∧ zx1 < rl σ 1008 zo0 ∧ J n c_Model_liesIn (some .int) 9 [some (jo 1 zo0), none, some (ji 0), some (ji (ra σ 1008 zo0 zx1))] [] σ (qI Q)) : TrI n i_Model_liesIn [jo 1 zo0, ji zx1] σ Q := by
  refine Tr_of ax_Z_27 ?_
  show J n c_Model_liesIn (some .int) 0 [some (jo 1 zo0), some (ji zx1), none, none] [] σ (qI Q)
  refine J_iconst (pc' := 1) rfl (i32_d rfl) rfl ?_
  refine J_istore_n (L' := [some (jo 1 zo0), some (ji zx1), some (ji 0), none]) (pc' := 2) rfl (Nat.le_of_ble_eq_true rfl) rfl rfl ?_
  obtain ⟨zg1, W⟩ := W
  refine J_aload_no (pc' := 3) rfl rfl zg1 rfl ?_
  obtain ⟨zg2, W⟩ := W
  refine J_getA (G := 1008) (pc' := 6) rfl rfl (Nat.le_of_ble_eq_true rfl) rfl zg1 zg2 rfl ?_
  refine J_iload_n (pc' := 7) rfl rfl rfl ?_
  obtain ⟨zg3, W⟩ := W
  obtain ⟨zg4, W⟩ := W
  refine J_iald (pc' := 8) rfl rfl zg3 zg4 rfl ?_
  refine J_istore_n (L' := [some (jo 1 zo0), some (ji zx1), some (ji 0), some (ji (ra σ 1008 zo0 zx1))]) (pc' := 9) rfl (Nat.le_of_ble_eq_true rfl) rfl rfl ?_
  refine J_weak (L' := [some (jo 1 zo0), none, some (ji 0), some (ji (ra σ 1008 zo0 zx1))]) (And.intro rfl (And.intro rfl (And.intro rfl trivial))) ?_
  exact W
theorem wp_Model_liesIn_9 {n : Nat} {σ : jS} {Q : Int → jS → Prop} {zo0 : Int} {zx2 : Int} {zx3 : Int} (W : (if zx3 = (-1) then Q zx2 σ else i32 (zx2 + 1) ∧ 0 ≤ zo0 ∧ 0 ≤ rl σ 1008 zo0 ∧ 0 ≤ zx3 ∧ zx3 < rl σ 1008 zo0 ∧ J n c_Model_liesIn (some .int) 9 [some (jo 1 zo0), none, some (ji (zx2 + 1)), some (ji (ra σ 1008 zo0 zx3))] [] σ (qI Q))) : J n c_Model_liesIn (some .int) 9 [some (jo 1 zo0), none, some (ji zx2), some (ji zx3)] [] σ (qI Q) := by
  refine J_iload_n (pc' := 10) rfl rfl rfl ?_
  refine J_iconst (pc' := 11) rfl (i32_d rfl) rfl ?_
  refine J_icmp (P := zx3 = (-1)) (t := 27) (f := 14) rfl rfl rfl jc_eq W (fun W => ?_) (fun W => ?_)
  · refine J_iload_n (pc' := 28) rfl rfl rfl ?_
    exact J_iret rfl rfl ⟨_, rfl, W⟩
  · obtain ⟨zg1, W⟩ := W
    refine J_iinc (L' := [some (jo 1 zo0), none, some (ji (zx2 + 1)), some (ji zx3)]) (pc' := 17) rfl rfl zg1 rfl rfl ?_
    obtain ⟨zg2, W⟩ := W
    refine J_aload_no (pc' := 18) rfl rfl zg2 rfl ?_
    obtain ⟨zg3, W⟩ := W
    refine J_getA (G := 1008) (pc' := 21) rfl rfl (Nat.le_of_ble_eq_true rfl) rfl zg2 zg3 rfl ?_
    refine J_iload_n (pc' := 22) rfl rfl rfl ?_
    obtain ⟨zg4, W⟩ := W
    obtain ⟨zg5, W⟩ := W
    refine J_iald (pc' := 23) rfl rfl zg4 zg5 rfl ?_
    refine J_istore_n (L' := [some (jo 1 zo0), none, some (ji (zx2 + 1)), some (ji (ra σ 1008 zo0 zx3))]) (pc' := 24) rfl (Nat.le_of_ble_eq_true rfl) rfl rfl ?_
    refine J_goto (pc' := 9) rfl rfl ?_
    exact W
theorem wp_Model_scope {n : Nat} {σ : jS} {Q : Int → jS → Prop} {zo0 : Int} {zx1 : Int} {zx2 : Int} (W : 0 ≤ zo0 ∧ 1 ≤ n ∧ TrI (n - 1) i_Model_isScope [jo 1 zo0, ji zx1] σ (fun zr4 zs3 => (if zr4 = 0 then Q (-2) zs3 else TrI (n - 1) i_Model_isIn [ji zx2, ji 0, ji 3] zs3 (fun zr6 zs5 => (if ¬ zr6 = 0 then (if zx2 = 0 then 0 ≤ rl zs5 1008 zo0 ∧ 0 ≤ zx1 ∧ zx1 < rl zs5 1008 zo0 ∧ Q (ra zs5 1008 zo0 zx1) zs5 else (if zx2 = 1 then J n c_Model_scope (some .int) 58 [some (jo 1 zo0), some (ji zx1), none, some (ji 0), some (ji 0)] [] zs5 (qI Q) else (if zx2 = 2 then TrI (n - 1) i_Model_liesIn [jo 1 zo0, ji zx1] zs5 (fun zr11 zs10 => Q zr11 zs10) else J n c_Model_scope (some .int) 103 [some (jo 1 zo0), some (ji zx1), none, some (ji 0), some (ji 0)] [] zs5 (qI Q)))) else Q (-2) zs5))))) : TrI n i_Model_scope [jo 1 zo0, ji zx1, ji zx2] σ Q := by
  refine Tr_of ax_Z_28 ?_
  show J n c_Model_scope (some .int) 0 [some (jo 1 zo0), some (ji zx1), some (ji zx2), none, none] [] σ (qI Q)
  obtain ⟨zg1, W⟩ := W
  refine J_aload_no (pc' := 1) rfl rfl zg1 rfl ?_
  refine J_iload_n (pc' := 2) rfl rfl rfl ?_
  obtain ⟨zg2, W⟩ := W
  refine J_callI (as := [jo 1 zo0, ji zx1]) (rest := []) (pc' := 5) rfl rfl ax_Z_24 rfl rfl (Or.inr (Or.inr ⟨_, _, rfl, zg1⟩)) (Nat.le_of_ble_eq_true rfl) (Nat.le_of_ble_eq_true rfl) (Nat.le_of_ble_eq_true rfl) zg2 trivial trivial rfl W (fun zr4 zs3 W => ?_)
  refine J_if (P := zr4 = 0) (t := 17) (f := 8) rfl rfl rfl jc_eq W (fun W => ?_) (fun W => ?_)
  · refine J_bipush (pc' := 19) rfl (by decide) (by decide) rfl ?_
    exact J_iret rfl rfl ⟨_, rfl, W⟩
  · refine J_iload_n (pc' := 9) rfl rfl rfl ?_
    refine J_iconst (pc' := 10) rfl (i32_d rfl) rfl ?_
    refine J_iconst (pc' := 11) rfl (i32_d rfl) rfl ?_
    refine J_callI (as := [ji zx2, ji 0, ji 3]) (rest := []) (pc' := 14) rfl rfl ax_Z_0 rfl rfl (Or.inl rfl) (Nat.le_of_ble_eq_true rfl) (Nat.le_of_ble_eq_true rfl) (Nat.le_of_ble_eq_true rfl) zg2 trivial trivial rfl W (fun zr6 zs5 W => ?_)
    refine J_if (P := ¬ zr6 = 0) (t := 20) (f := 17) rfl rfl rfl jc_ne W (fun W => ?_) (fun W => ?_)
    · refine J_iconst (pc' := 21) rfl (i32_d rfl) rfl ?_
      refine J_istore_n (L' := [some (jo 1 zo0), some (ji zx1), some (ji zx2), some (ji 0), none]) (pc' := 22) rfl (Nat.le_of_ble_eq_true rfl) rfl rfl ?_
      refine J_iload_n (pc' := 23) rfl rfl rfl ?_
      by_cases zc12 : zx2 = 0
      · rw [if_pos zc12] at W
        refine J_swC (pc' := 48) (i := 0) rfl (by omega) (by decide) rfl rfl ?_
        refine J_aload_no (pc' := 49) rfl rfl zg1 rfl ?_
        obtain ⟨zg7, W⟩ := W
        refine J_getA (G := 1008) (pc' := 52) rfl rfl (Nat.le_of_ble_eq_true rfl) rfl zg1 zg7 rfl ?_
        refine J_iload_n (pc' := 53) rfl rfl rfl ?_
        obtain ⟨zg8, W⟩ := W
        obtain ⟨zg9, W⟩ := W
        refine J_iald (pc' := 54) rfl rfl zg8 zg9 rfl ?_
        exact J_iret rfl rfl ⟨_, rfl, W⟩
      rw [if_neg zc12] at W
      by_cases zc13 : zx2 = 1
      · rw [if_pos zc13] at W
        refine J_swC (pc' := 55) (i := 1) rfl (by omega) (by decide) rfl rfl ?_
        refine J_iconst (pc' := 56) rfl (i32_d rfl) rfl ?_
        refine J_istore (L' := [some (jo 1 zo0), some (ji zx1), some (ji zx2), some (ji 0), some (ji 0)]) (pc' := 58) rfl (Nat.le_of_ble_eq_true rfl) rfl rfl ?_
        refine J_weak (L' := [some (jo 1 zo0), some (ji zx1), none, some (ji 0), some (ji 0)]) (And.intro rfl (And.intro rfl (And.intro rfl (And.intro rfl trivial)))) ?_
        exact W
      rw [if_neg zc13] at W
      by_cases zc14 : zx2 = 2
      · rw [if_pos zc14] at W
        refine J_swC (pc' := 94) (i := 2) rfl (by omega) (by decide) rfl rfl ?_
        refine J_aload_no (pc' := 95) rfl rfl zg1 rfl ?_
        refine J_iload_n (pc' := 96) rfl rfl rfl ?_
        refine J_weak (L' := [none, none, none, none, none]) trivial ?_
        refine J_callI (as := [jo 1 zo0, ji zx1]) (rest := []) (pc' := 99) rfl rfl ax_Z_27 rfl rfl (Or.inr (Or.inr ⟨_, _, rfl, zg1⟩)) (Nat.le_of_ble_eq_true rfl) (Nat.le_of_ble_eq_true rfl) (Nat.le_of_ble_eq_true rfl) zg2 trivial trivial rfl W (fun zr11 zs10 W => ?_)
        exact J_iret rfl rfl ⟨_, rfl, W⟩
      rw [if_neg zc14] at W
      refine J_swD (pc' := 100) rfl (by omega) rfl ?_
      refine J_iconst (pc' := 101) rfl (i32_d rfl) rfl ?_
      refine J_istore (L' := [some (jo 1 zo0), some (ji zx1), some (ji zx2), some (ji 0), some (ji 0)]) (pc' := 103) rfl (Nat.le_of_ble_eq_true rfl) rfl rfl ?_
      refine J_weak (L' := [some (jo 1 zo0), some (ji zx1), none, some (ji 0), some (ji 0)]) (And.intro rfl (And.intro rfl (And.intro rfl (And.intro rfl trivial)))) ?_
      exact W
    · refine J_bipush (pc' := 19) rfl (by decide) (by decide) rfl ?_
      exact J_iret rfl rfl ⟨_, rfl, W⟩
theorem wp_Model_scope_58 {n : Nat} {σ : jS} {Q : Int → jS → Prop} {zo0 : Int} {zx1 : Int} {zx3 : Int} {zx4 : Int} (W : 0 ≤ zo0 ∧ (if rs σ 1014 zo0 ≤ zx4 then Q zx3 σ else 0 ≤ rl σ 1009 zo0 ∧ 0 ≤ zx4 ∧ zx4 < rl σ 1009 zo0 ∧ (if ¬ ra σ 1009 zo0 zx4 = zx1 then i32 (zx3 + 0) ∧ i32 (zx4 + 1) ∧ J n c_Model_scope (some .int) 58 [some (jo 1 zo0), some (ji zx1), none, some (ji (zx3 + 0)), some (ji (zx4 + 1))] [] σ (qI Q) else i32 (zx3 + 1) ∧ i32 (zx4 + 1) ∧ J n c_Model_scope (some .int) 58 [some (jo 1 zo0), some (ji zx1), none, some (ji (zx3 + 1)), some (ji (zx4 + 1))] [] σ (qI Q)))) : J n c_Model_scope (some .int) 58 [some (jo 1 zo0), some (ji zx1), none, some (ji zx3), some (ji zx4)] [] σ (qI Q) := by
  refine J_iload (pc' := 60) rfl rfl rfl ?_
  obtain ⟨zg1, W⟩ := W
  refine J_aload_no (pc' := 61) rfl rfl zg1 rfl ?_
  refine J_getI (G := 1014) (pc' := 64) rfl rfl (Nat.le_of_ble_eq_true rfl) rfl zg1 rfl ?_
  refine J_icmp (P := rs σ 1014 zo0 ≤ zx4) (t := 92) (f := 67) rfl rfl rfl jc_ge W (fun W => ?_) (fun W => ?_)
  · refine J_iload_n (pc' := 93) rfl rfl rfl ?_
    exact J_iret rfl rfl ⟨_, rfl, W⟩
  · refine J_iload_n (pc' := 68) rfl rfl rfl ?_
    refine J_aload_no (pc' := 69) rfl rfl zg1 rfl ?_
    obtain ⟨zg2, W⟩ := W
    refine J_getA (G := 1009) (pc' := 72) rfl rfl (Nat.le_of_ble_eq_true rfl) rfl zg1 zg2 rfl ?_
    refine J_iload (pc' := 74) rfl rfl rfl ?_
    obtain ⟨zg3, W⟩ := W
    obtain ⟨zg4, W⟩ := W
    refine J_iald (pc' := 75) rfl rfl zg3 zg4 rfl ?_
    refine J_iload_n (pc' := 76) rfl rfl rfl ?_
    refine J_icmp (P := ¬ ra σ 1009 zo0 zx4 = zx1) (t := 83) (f := 79) rfl rfl rfl jc_ne W (fun W => ?_) (fun W => ?_)
    · refine J_iconst (pc' := 84) rfl (i32_d rfl) rfl ?_
      obtain ⟨zg5, W⟩ := W
      refine J_iadd (pc' := 85) rfl zg5 rfl ?_
      refine J_istore_n (L' := [some (jo 1 zo0), some (ji zx1), none, some (ji (zx3 + 0)), some (ji zx4)]) (pc' := 86) rfl (Nat.le_of_ble_eq_true rfl) rfl rfl ?_
      obtain ⟨zg6, W⟩ := W
      refine J_iinc (L' := [some (jo 1 zo0), some (ji zx1), none, some (ji (zx3 + 0)), some (ji (zx4 + 1))]) (pc' := 89) rfl rfl zg6 rfl rfl ?_
      refine J_goto (pc' := 58) rfl rfl ?_
      exact W
    · refine J_iconst (pc' := 80) rfl (i32_d rfl) rfl ?_
      refine J_goto (pc' := 84) rfl rfl ?_
      obtain ⟨zg7, W⟩ := W
      refine J_iadd (pc' := 85) rfl zg7 rfl ?_
      refine J_istore_n (L' := [some (jo 1 zo0), some (ji zx1), none, some (ji (zx3 + 1)), some (ji zx4)]) (pc' := 86) rfl (Nat.le_of_ble_eq_true rfl) rfl rfl ?_
      obtain ⟨zg8, W⟩ := W
      refine J_iinc (L' := [some (jo 1 zo0), some (ji zx1), none, some (ji (zx3 + 1)), some (ji (zx4 + 1))]) (pc' := 89) rfl rfl zg8 rfl rfl ?_
      refine J_goto (pc' := 58) rfl rfl ?_
      exact W
theorem wp_Model_scope_103 {n : Nat} {σ : jS} {Q : Int → jS → Prop} {zo0 : Int} {zx1 : Int} {zx3 : Int} {zx4 : Int} (W : 0 ≤ zo0 ∧ (if rs σ 1013 zo0 ≤ zx4 then Q zx3 σ else 0 ≤ rl σ 1008 zo0 ∧ 0 ≤ zx4 ∧ zx4 < rl σ 1008 zo0 ∧ (if ¬ ra σ 1008 zo0 zx4 = zx1 then i32 (zx3 + 0) ∧ i32 (zx4 + 1) ∧ J n c_Model_scope (some .int) 103 [some (jo 1 zo0), some (ji zx1), none, some (ji (zx3 + 0)), some (ji (zx4 + 1))] [] σ (qI Q) else i32 (zx3 + 1) ∧ i32 (zx4 + 1) ∧ J n c_Model_scope (some .int) 103 [some (jo 1 zo0), some (ji zx1), none, some (ji (zx3 + 1)), some (ji (zx4 + 1))] [] σ (qI Q)))) : J n c_Model_scope (some .int) 103 [some (jo 1 zo0), some (ji zx1), none, some (ji zx3), some (ji zx4)] [] σ (qI Q) := by
  refine J_iload (pc' := 105) rfl rfl rfl ?_
  obtain ⟨zg1, W⟩ := W
  refine J_aload_no (pc' := 106) rfl rfl zg1 rfl ?_
  refine J_getI (G := 1013) (pc' := 109) rfl rfl (Nat.le_of_ble_eq_true rfl) rfl zg1 rfl ?_
  refine J_icmp (P := rs σ 1013 zo0 ≤ zx4) (t := 137) (f := 112) rfl rfl rfl jc_ge W (fun W => ?_) (fun W => ?_)
  · refine J_iload_n (pc' := 138) rfl rfl rfl ?_
    exact J_iret rfl rfl ⟨_, rfl, W⟩
  · refine J_iload_n (pc' := 113) rfl rfl rfl ?_
    refine J_aload_no (pc' := 114) rfl rfl zg1 rfl ?_
    obtain ⟨zg2, W⟩ := W
    refine J_getA (G := 1008) (pc' := 117) rfl rfl (Nat.le_of_ble_eq_true rfl) rfl zg1 zg2 rfl ?_
    refine J_iload (pc' := 119) rfl rfl rfl ?_
    obtain ⟨zg3, W⟩ := W
    obtain ⟨zg4, W⟩ := W
    refine J_iald (pc' := 120) rfl rfl zg3 zg4 rfl ?_
    refine J_iload_n (pc' := 121) rfl rfl rfl ?_
    refine J_icmp (P := ¬ ra σ 1008 zo0 zx4 = zx1) (t := 128) (f := 124) rfl rfl rfl jc_ne W (fun W => ?_) (fun W => ?_)
    · refine J_iconst (pc' := 129) rfl (i32_d rfl) rfl ?_
      obtain ⟨zg5, W⟩ := W
      refine J_iadd (pc' := 130) rfl zg5 rfl ?_
      refine J_istore_n (L' := [some (jo 1 zo0), some (ji zx1), none, some (ji (zx3 + 0)), some (ji zx4)]) (pc' := 131) rfl (Nat.le_of_ble_eq_true rfl) rfl rfl ?_
      obtain ⟨zg6, W⟩ := W
      refine J_iinc (L' := [some (jo 1 zo0), some (ji zx1), none, some (ji (zx3 + 0)), some (ji (zx4 + 1))]) (pc' := 134) rfl rfl zg6 rfl rfl ?_
      refine J_goto (pc' := 103) rfl rfl ?_
      exact W
    · refine J_iconst (pc' := 125) rfl (i32_d rfl) rfl ?_
      refine J_goto (pc' := 129) rfl rfl ?_
      obtain ⟨zg7, W⟩ := W
      refine J_iadd (pc' := 130) rfl zg7 rfl ?_
      refine J_istore_n (L' := [some (jo 1 zo0), some (ji zx1), none, some (ji (zx3 + 1)), some (ji zx4)]) (pc' := 131) rfl (Nat.le_of_ble_eq_true rfl) rfl rfl ?_
      obtain ⟨zg8, W⟩ := W
      refine J_iinc (L' := [some (jo 1 zo0), some (ji zx1), none, some (ji (zx3 + 1)), some (ji (zx4 + 1))]) (pc' := 134) rfl rfl zg8 rfl rfl ?_
      refine J_goto (pc' := 103) rfl rfl ?_
      exact W
theorem wp_Model_varsOf {n : Nat} {σ : jS} {Q : Int → jS → Prop} {zo0 : Int} {zx1 : Int} {zx2 : Int} {zx3 : Int} (W : J n c_Model_varsOf (some .int) 6 [some (jo 1 zo0), some (ji zx1), none, some (ji zx3), some (ji 0), some (ji zx2), none] [] σ (qI Q)) : TrI n i_Model_varsOf [jo 1 zo0, ji zx1, ji zx2, ji zx3] σ Q := by
  refine Tr_of ax_Z_29 ?_
  show J n c_Model_varsOf (some .int) 0 [some (jo 1 zo0), some (ji zx1), some (ji zx2), some (ji zx3), none, none, none] [] σ (qI Q)
  refine J_iconst (pc' := 1) rfl (i32_d rfl) rfl ?_
  refine J_istore (L' := [some (jo 1 zo0), some (ji zx1), some (ji zx2), some (ji zx3), some (ji 0), none, none]) (pc' := 3) rfl (Nat.le_of_ble_eq_true rfl) rfl rfl ?_
  refine J_iload_n (pc' := 4) rfl rfl rfl ?_
  refine J_istore (L' := [some (jo 1 zo0), some (ji zx1), some (ji zx2), some (ji zx3), some (ji 0), some (ji zx2), none]) (pc' := 6) rfl (Nat.le_of_ble_eq_true rfl) rfl rfl ?_
  refine J_weak (L' := [some (jo 1 zo0), some (ji zx1), none, some (ji zx3), some (ji 0), some (ji zx2), none]) (And.intro rfl (And.intro rfl (And.intro rfl (And.intro rfl (And.intro rfl trivial))))) ?_
  exact W
theorem wp_Model_varsOf_6 {n : Nat} {σ : jS} {Q : Int → jS → Prop} {zo0 : Int} {zx1 : Int} {zx3 : Int} {zx4 : Int} {zx5 : Int} (W : (if zx3 < zx5 then Q zx4 σ else J n c_Model_varsOf (some .int) 15 [some (jo 1 zo0), some (ji zx1), none, some (ji zx3), some (ji zx4), some (ji zx5), some (ji 0)] [] σ (qI Q))) : J n c_Model_varsOf (some .int) 6 [some (jo 1 zo0), some (ji zx1), none, some (ji zx3), some (ji zx4), some (ji zx5), none] [] σ (qI Q) := by
  refine J_iload (pc' := 8) rfl rfl rfl ?_
  refine J_iload_n (pc' := 9) rfl rfl rfl ?_
  refine J_icmp (P := zx3 < zx5) (t := 89) (f := 12) rfl rfl rfl jc_gt W (fun W => ?_) (fun W => ?_)
  · refine J_iload (pc' := 91) rfl rfl rfl ?_
    exact J_iret rfl rfl ⟨_, rfl, W⟩
  · refine J_iconst (pc' := 13) rfl (i32_d rfl) rfl ?_
    refine J_istore (L' := [some (jo 1 zo0), some (ji zx1), none, some (ji zx3), some (ji zx4), some (ji zx5), some (ji 0)]) (pc' := 15) rfl (Nat.le_of_ble_eq_true rfl) rfl rfl ?_
    exact W
theorem wp_Model_varsOf_15 {n : Nat} {σ : jS} {Q : Int → jS → Prop} {zo0 : Int} {zx1 : Int} {zx3 : Int} {zx4 : Int} {zx5 : Int} {zx6 : Int} (W : 0 ≤ zo0 ∧ 0 ≤ rl σ 1012 zo0 ∧ i32 (5 * zx1) ∧ i32 ((5 * zx1) + zx5) ∧ 0 ≤ (5 * zx1) + zx5 ∧ (5 * zx1) + zx5 < rl σ 1012 zo0 ∧ (if ra σ 1012 zo0 ((5 * zx1) + zx5) ≤ zx6 then i32 (zx5 + 1) ∧ J n c_Model_varsOf (some .int) 6 [some (jo 1 zo0), some (ji zx1), none, some (ji zx3), some (ji zx4), some (ji (zx5 + 1)), none] [] σ (qI Q) else 0 ≤ rl σ 1011 zo0 ∧ i32 (12 * ((5 * zx1) + zx5)) ∧ i32 ((12 * ((5 * zx1) + zx5)) + zx6) ∧ 0 ≤ (12 * ((5 * zx1) + zx5)) + zx6 ∧ (12 * ((5 * zx1) + zx5)) + zx6 < rl σ 1011 zo0 ∧ (if 0 ≤ ra σ 1011 zo0 ((12 * ((5 * zx1) + zx5)) + zx6) then i32 (zx6 + 1) ∧ J n c_Model_varsOf (some .int) 15 [some (jo 1 zo0), some (ji zx1), none, some (ji zx3), some (ji zx4), some (ji zx5), some (ji (zx6 + 1))] [] σ (qI Q) else i32 ((-1) - (ra σ 1011 zo0 ((12 * ((5 * zx1) + zx5)) + zx6))) ∧ i32 (zx6 + 1) ∧ J n c_Model_varsOf (some .int) 15 [some (jo 1 zo0), some (ji zx1), none, some (ji zx3), some (ji (bOr zx4 (bShl 1 ((-1) - (ra σ 1011 zo0 ((12 * ((5 * zx1) + zx5)) + zx6)))))), some (ji zx5), some (ji (zx6 + 1))] [] σ (qI Q)))) : J n c_Model_varsOf (some .int) 15 [some (jo 1 zo0), some (ji zx1), none, some (ji zx3), some (ji zx4), some (ji zx5), some (ji zx6)] [] σ (qI Q) := by
  refine J_iload (pc' := 17) rfl rfl rfl ?_
  obtain ⟨zg1, W⟩ := W
  refine J_aload_no (pc' := 18) rfl rfl zg1 rfl ?_
  obtain ⟨zg2, W⟩ := W
  refine J_getA (G := 1012) (pc' := 21) rfl rfl (Nat.le_of_ble_eq_true rfl) rfl zg1 zg2 rfl ?_
  refine J_iconst (pc' := 22) rfl (i32_d rfl) rfl ?_
  refine J_iload_n (pc' := 23) rfl rfl rfl ?_
  obtain ⟨zg3, W⟩ := W
  refine J_imul (pc' := 24) rfl zg3 rfl ?_
  refine J_iload (pc' := 26) rfl rfl rfl ?_
  obtain ⟨zg4, W⟩ := W
  refine J_iadd (pc' := 27) rfl zg4 rfl ?_
  obtain ⟨zg5, W⟩ := W
  obtain ⟨zg6, W⟩ := W
  refine J_iald (pc' := 28) rfl rfl zg5 zg6 rfl ?_
  refine J_icmp (P := ra σ 1012 zo0 ((5 * zx1) + zx5) ≤ zx6) (t := 83) (f := 31) rfl rfl rfl jc_ge W (fun W => ?_) (fun W => ?_)
  · obtain ⟨zg7, W⟩ := W
    refine J_iinc (L' := [some (jo 1 zo0), some (ji zx1), none, some (ji zx3), some (ji zx4), some (ji (zx5 + 1)), some (ji zx6)]) (pc' := 86) rfl rfl zg7 rfl rfl ?_
    refine J_goto (pc' := 6) rfl rfl ?_
    refine J_weak (L' := [some (jo 1 zo0), some (ji zx1), none, some (ji zx3), some (ji zx4), some (ji (zx5 + 1)), none]) (And.intro rfl (And.intro rfl (And.intro rfl (And.intro rfl (And.intro rfl trivial))))) ?_
    exact W
  · refine J_aload_no (pc' := 32) rfl rfl zg1 rfl ?_
    obtain ⟨zg8, W⟩ := W
    refine J_getA (G := 1011) (pc' := 35) rfl rfl (Nat.le_of_ble_eq_true rfl) rfl zg1 zg8 rfl ?_
    refine J_bipush (pc' := 37) rfl (by decide) (by decide) rfl ?_
    refine J_iconst (pc' := 38) rfl (i32_d rfl) rfl ?_
    refine J_iload_n (pc' := 39) rfl rfl rfl ?_
    refine J_imul (pc' := 40) rfl zg3 rfl ?_
    refine J_iload (pc' := 42) rfl rfl rfl ?_
    refine J_iadd (pc' := 43) rfl zg4 rfl ?_
    obtain ⟨zg9, W⟩ := W
    refine J_imul (pc' := 44) rfl zg9 rfl ?_
    refine J_iload (pc' := 46) rfl rfl rfl ?_
    obtain ⟨zg10, W⟩ := W
    refine J_iadd (pc' := 47) rfl zg10 rfl ?_
    obtain ⟨zg11, W⟩ := W
    obtain ⟨zg12, W⟩ := W
    refine J_iald (pc' := 48) rfl rfl zg11 zg12 rfl ?_
    refine J_if (P := 0 ≤ ra σ 1011 zo0 ((12 * ((5 * zx1) + zx5)) + zx6)) (t := 77) (f := 51) rfl rfl rfl jc_ge W (fun W => ?_) (fun W => ?_)
    · obtain ⟨zg13, W⟩ := W
      refine J_iinc (L' := [some (jo 1 zo0), some (ji zx1), none, some (ji zx3), some (ji zx4), some (ji zx5), some (ji (zx6 + 1))]) (pc' := 80) rfl rfl zg13 rfl rfl ?_
      refine J_goto (pc' := 15) rfl rfl ?_
      exact W
    · refine J_iload (pc' := 53) rfl rfl rfl ?_
      refine J_iconst (pc' := 54) rfl (i32_d rfl) rfl ?_
      refine J_iconst (pc' := 55) rfl (i32_d rfl) rfl ?_
      refine J_aload_no (pc' := 56) rfl rfl zg1 rfl ?_
      refine J_getA (G := 1011) (pc' := 59) rfl rfl (Nat.le_of_ble_eq_true rfl) rfl zg1 zg8 rfl ?_
      refine J_bipush (pc' := 61) rfl (by decide) (by decide) rfl ?_
      refine J_iconst (pc' := 62) rfl (i32_d rfl) rfl ?_
      refine J_iload_n (pc' := 63) rfl rfl rfl ?_
      refine J_imul (pc' := 64) rfl zg3 rfl ?_
      refine J_iload (pc' := 66) rfl rfl rfl ?_
      refine J_iadd (pc' := 67) rfl zg4 rfl ?_
      refine J_imul (pc' := 68) rfl zg9 rfl ?_
      refine J_iload (pc' := 70) rfl rfl rfl ?_
      refine J_iadd (pc' := 71) rfl zg10 rfl ?_
      refine J_iald (pc' := 72) rfl rfl zg11 zg12 rfl ?_
      obtain ⟨zg14, W⟩ := W
      refine J_isub (pc' := 73) rfl zg14 rfl ?_
      refine J_ishl (pc' := 74) rfl rfl ?_
      refine J_ior (pc' := 75) rfl rfl ?_
      refine J_istore (L' := [some (jo 1 zo0), some (ji zx1), none, some (ji zx3), some (ji (bOr zx4 (bShl 1 ((-1) - (ra σ 1011 zo0 ((12 * ((5 * zx1) + zx5)) + zx6)))))), some (ji zx5), some (ji zx6)]) (pc' := 77) rfl (Nat.le_of_ble_eq_true rfl) rfl rfl ?_
      obtain ⟨zg15, W⟩ := W
      refine J_iinc (L' := [some (jo 1 zo0), some (ji zx1), none, some (ji zx3), some (ji (bOr zx4 (bShl 1 ((-1) - (ra σ 1011 zo0 ((12 * ((5 * zx1) + zx5)) + zx6)))))), some (ji zx5), some (ji (zx6 + 1))]) (pc' := 80) rfl rfl zg15 rfl rfl ?_
      refine J_goto (pc' := 15) rfl rfl ?_
      exact W
theorem wp_Model_needsVars {n : Nat} {σ : jS} {Q : Int → jS → Prop} {zo0 : Int} {zx1 : Int} (W : 0 ≤ zo0 ∧ 0 ≤ rl σ 1010 zo0 ∧ 0 ≤ zx1 ∧ zx1 < rl σ 1010 zo0 ∧ 1 ≤ n ∧ TrI (n - 1) i_Model_varsOf [jo 1 zo0, ji zx1, ji 1, ji (ra σ 1010 zo0 zx1)] σ (fun zr7 zs6 => TrI (n - 1) i_Model_varsOf [jo 1 zo0, ji zx1, ji 0, ji 0] zs6 (fun zr9 zs8 => TrI (n - 1) i_Model_bits [ji (bAnd zr7 (bXor zr9 (-1)))] zs8 (fun zr11 zs10 => Q zr11 zs10)))) : TrI n i_Model_needsVars [jo 1 zo0, ji zx1] σ Q := by
  refine Tr_of ax_Z_30 ?_
  show J n c_Model_needsVars (some .int) 0 [some (jo 1 zo0), some (ji zx1)] [] σ (qI Q)
  obtain ⟨zg1, W⟩ := W
  refine J_aload_no (pc' := 1) rfl rfl zg1 rfl ?_
  refine J_iload_n (pc' := 2) rfl rfl rfl ?_
  refine J_iconst (pc' := 3) rfl (i32_d rfl) rfl ?_
  refine J_aload_no (pc' := 4) rfl rfl zg1 rfl ?_
  obtain ⟨zg2, W⟩ := W
  refine J_getA (G := 1010) (pc' := 7) rfl rfl (Nat.le_of_ble_eq_true rfl) rfl zg1 zg2 rfl ?_
  refine J_iload_n (pc' := 8) rfl rfl rfl ?_
  obtain ⟨zg3, W⟩ := W
  obtain ⟨zg4, W⟩ := W
  refine J_iald (pc' := 9) rfl rfl zg3 zg4 rfl ?_
  obtain ⟨zg5, W⟩ := W
  refine J_callI (as := [jo 1 zo0, ji zx1, ji 1, ji (ra σ 1010 zo0 zx1)]) (rest := []) (pc' := 12) rfl rfl ax_Z_29 rfl rfl (Or.inr (Or.inr ⟨_, _, rfl, zg1⟩)) (Nat.le_of_ble_eq_true rfl) (Nat.le_of_ble_eq_true rfl) (Nat.le_of_ble_eq_true rfl) zg5 trivial trivial rfl W (fun zr7 zs6 W => ?_)
  refine J_aload_no (pc' := 13) rfl rfl zg1 rfl ?_
  refine J_iload_n (pc' := 14) rfl rfl rfl ?_
  refine J_iconst (pc' := 15) rfl (i32_d rfl) rfl ?_
  refine J_iconst (pc' := 16) rfl (i32_d rfl) rfl ?_
  refine J_weak (L' := [none, none]) trivial ?_
  refine J_callI (as := [jo 1 zo0, ji zx1, ji 0, ji 0]) (rest := [ji zr7]) (pc' := 19) rfl rfl ax_Z_29 rfl rfl (Or.inr (Or.inr ⟨_, _, rfl, zg1⟩)) (Nat.le_of_ble_eq_true rfl) (Nat.le_of_ble_eq_true rfl) (Nat.le_of_ble_eq_true rfl) zg5 trivial trivial rfl W (fun zr9 zs8 W => ?_)
  refine J_iconst (pc' := 20) rfl (i32_d rfl) rfl ?_
  refine J_ixor (pc' := 21) rfl rfl ?_
  refine J_iand (pc' := 22) rfl rfl ?_
  refine J_callI (as := [ji (bAnd zr7 (bXor zr9 (-1)))]) (rest := []) (pc' := 25) rfl rfl ax_Z_2 rfl rfl (Or.inl rfl) (Nat.le_of_ble_eq_true rfl) (Nat.le_of_ble_eq_true rfl) (Nat.le_of_ble_eq_true rfl) zg5 trivial trivial rfl W (fun zr11 zs10 W => ?_)
  exact J_iret rfl rfl ⟨_, rfl, W⟩
theorem wp_Model_given {n : Nat} {σ : jS} {Q : Int → jS → Prop} {zo0 : Int} {zx1 : Int} {zx2 : Int} (W : 0 ≤ zo0 ∧ 1 ≤ n ∧ TrI (n - 1) i_Model_isGiven [jo 1 zo0, ji zx1] σ (fun zr4 zs3 => (if ¬ zr4 = 0 then (if zx2 = 0 then 0 ≤ rl zs3 1009 zo0 ∧ 0 ≤ zx1 ∧ zx1 < rl zs3 1009 zo0 ∧ Q (ra zs3 1009 zo0 zx1) zs3 else (if zx2 = 1 then 0 ≤ rl zs3 1010 zo0 ∧ 0 ≤ zx1 ∧ zx1 < rl zs3 1010 zo0 ∧ Q (ra zs3 1010 zo0 zx1) zs3 else (if zx2 = 2 then 0 ≤ rl zs3 1010 zo0 ∧ 0 ≤ zx1 ∧ zx1 < rl zs3 1010 zo0 ∧ TrI (n - 1) i_Model_varsOf [jo 1 zo0, ji zx1, ji 0, ji (ra zs3 1010 zo0 zx1)] zs3 (fun zr15 zs14 => TrI (n - 1) i_Model_bits [ji zr15] zs14 (fun zr17 zs16 => Q zr17 zs16)) else (if zx2 = 3 then 0 ≤ rl zs3 1012 zo0 ∧ i32 (5 * zx1) ∧ 0 ≤ 5 * zx1 ∧ 5 * zx1 < rl zs3 1012 zo0 ∧ Q (ra zs3 1012 zo0 (5 * zx1)) zs3 else (if zx2 = 4 then J n c_Model_given (some .int) 94 [some (jo 1 zo0), some (ji zx1), none, some (ji 0), some (ji 1)] [] zs3 (qI Q) else (if zx2 = 5 then TrI (n - 1) i_Model_needsVars [jo 1 zo0, ji zx1] zs3 (fun zr23 zs22 => Q zr23 zs22) else Q (-1) zs3)))))) else Q (-1) zs3))) : TrI n i_Model_given [jo 1 zo0, ji zx1, ji zx2] σ Q := by
  refine Tr_of ax_Z_31 ?_
  show J n c_Model_given (some .int) 0 [some (jo 1 zo0), some (ji zx1), some (ji zx2), none, none] [] σ (qI Q)
  obtain ⟨zg1, W⟩ := W
  refine J_aload_no (pc' := 1) rfl rfl zg1 rfl ?_
  refine J_iload_n (pc' := 2) rfl rfl rfl ?_
  obtain ⟨zg2, W⟩ := W
  refine J_callI (as := [jo 1 zo0, ji zx1]) (rest := []) (pc' := 5) rfl rfl ax_Z_25 rfl rfl (Or.inr (Or.inr ⟨_, _, rfl, zg1⟩)) (Nat.le_of_ble_eq_true rfl) (Nat.le_of_ble_eq_true rfl) (Nat.le_of_ble_eq_true rfl) zg2 trivial trivial rfl W (fun zr4 zs3 W => ?_)
  refine J_if (P := ¬ zr4 = 0) (t := 10) (f := 8) rfl rfl rfl jc_ne W (fun W => ?_) (fun W => ?_)
  · refine J_iconst (pc' := 11) rfl (i32_d rfl) rfl ?_
    refine J_istore_n (L' := [some (jo 1 zo0), some (ji zx1), some (ji zx2), some (ji 0), none]) (pc' := 12) rfl (Nat.le_of_ble_eq_true rfl) rfl rfl ?_
    refine J_iload_n (pc' := 13) rfl rfl rfl ?_
    by_cases zc24 : zx2 = 0
    · rw [if_pos zc24] at W
      refine J_swC (pc' := 52) (i := 0) rfl (by omega) (by decide) rfl rfl ?_
      refine J_aload_no (pc' := 53) rfl rfl zg1 rfl ?_
      obtain ⟨zg5, W⟩ := W
      refine J_getA (G := 1009) (pc' := 56) rfl rfl (Nat.le_of_ble_eq_true rfl) rfl zg1 zg5 rfl ?_
      refine J_iload_n (pc' := 57) rfl rfl rfl ?_
      obtain ⟨zg6, W⟩ := W
      obtain ⟨zg7, W⟩ := W
      refine J_iald (pc' := 58) rfl rfl zg6 zg7 rfl ?_
      exact J_iret rfl rfl ⟨_, rfl, W⟩
    rw [if_neg zc24] at W
    by_cases zc25 : zx2 = 1
    · rw [if_pos zc25] at W
      refine J_swC (pc' := 59) (i := 1) rfl (by omega) (by decide) rfl rfl ?_
      refine J_aload_no (pc' := 60) rfl rfl zg1 rfl ?_
      obtain ⟨zg8, W⟩ := W
      refine J_getA (G := 1010) (pc' := 63) rfl rfl (Nat.le_of_ble_eq_true rfl) rfl zg1 zg8 rfl ?_
      refine J_iload_n (pc' := 64) rfl rfl rfl ?_
      obtain ⟨zg9, W⟩ := W
      obtain ⟨zg10, W⟩ := W
      refine J_iald (pc' := 65) rfl rfl zg9 zg10 rfl ?_
      exact J_iret rfl rfl ⟨_, rfl, W⟩
    rw [if_neg zc25] at W
    by_cases zc26 : zx2 = 2
    · rw [if_pos zc26] at W
      refine J_swC (pc' := 66) (i := 2) rfl (by omega) (by decide) rfl rfl ?_
      refine J_aload_no (pc' := 67) rfl rfl zg1 rfl ?_
      refine J_iload_n (pc' := 68) rfl rfl rfl ?_
      refine J_iconst (pc' := 69) rfl (i32_d rfl) rfl ?_
      refine J_aload_no (pc' := 70) rfl rfl zg1 rfl ?_
      obtain ⟨zg11, W⟩ := W
      refine J_getA (G := 1010) (pc' := 73) rfl rfl (Nat.le_of_ble_eq_true rfl) rfl zg1 zg11 rfl ?_
      refine J_iload_n (pc' := 74) rfl rfl rfl ?_
      obtain ⟨zg12, W⟩ := W
      obtain ⟨zg13, W⟩ := W
      refine J_iald (pc' := 75) rfl rfl zg12 zg13 rfl ?_
      refine J_weak (L' := [none, none, none, none, none]) trivial ?_
      refine J_callI (as := [jo 1 zo0, ji zx1, ji 0, ji (ra zs3 1010 zo0 zx1)]) (rest := []) (pc' := 78) rfl rfl ax_Z_29 rfl rfl (Or.inr (Or.inr ⟨_, _, rfl, zg1⟩)) (Nat.le_of_ble_eq_true rfl) (Nat.le_of_ble_eq_true rfl) (Nat.le_of_ble_eq_true rfl) zg2 trivial trivial rfl W (fun zr15 zs14 W => ?_)
      refine J_callI (as := [ji zr15]) (rest := []) (pc' := 81) rfl rfl ax_Z_2 rfl rfl (Or.inl rfl) (Nat.le_of_ble_eq_true rfl) (Nat.le_of_ble_eq_true rfl) (Nat.le_of_ble_eq_true rfl) zg2 trivial trivial rfl W (fun zr17 zs16 W => ?_)
      exact J_iret rfl rfl ⟨_, rfl, W⟩
    rw [if_neg zc26] at W
    by_cases zc27 : zx2 = 3
    · rw [if_pos zc27] at W
      refine J_swC (pc' := 82) (i := 3) rfl (by omega) (by decide) rfl rfl ?_
      refine J_aload_no (pc' := 83) rfl rfl zg1 rfl ?_
      obtain ⟨zg18, W⟩ := W
      refine J_getA (G := 1012) (pc' := 86) rfl rfl (Nat.le_of_ble_eq_true rfl) rfl zg1 zg18 rfl ?_
      refine J_iconst (pc' := 87) rfl (i32_d rfl) rfl ?_
      refine J_iload_n (pc' := 88) rfl rfl rfl ?_
      obtain ⟨zg19, W⟩ := W
      refine J_imul (pc' := 89) rfl zg19 rfl ?_
      obtain ⟨zg20, W⟩ := W
      obtain ⟨zg21, W⟩ := W
      refine J_iald (pc' := 90) rfl rfl zg20 zg21 rfl ?_
      exact J_iret rfl rfl ⟨_, rfl, W⟩
    rw [if_neg zc27] at W
    by_cases zc28 : zx2 = 4
    · rw [if_pos zc28] at W
      refine J_swC (pc' := 91) (i := 4) rfl (by omega) (by decide) rfl rfl ?_
      refine J_iconst (pc' := 92) rfl (i32_d rfl) rfl ?_
      refine J_istore (L' := [some (jo 1 zo0), some (ji zx1), some (ji zx2), some (ji 0), some (ji 1)]) (pc' := 94) rfl (Nat.le_of_ble_eq_true rfl) rfl rfl ?_
      refine J_weak (L' := [some (jo 1 zo0), some (ji zx1), none, some (ji 0), some (ji 1)]) (And.intro rfl (And.intro rfl (And.intro rfl (And.intro rfl trivial)))) ?_
      exact W
    rw [if_neg zc28] at W
    by_cases zc29 : zx2 = 5
    · rw [if_pos zc29] at W
      refine J_swC (pc' := 127) (i := 5) rfl (by omega) (by decide) rfl rfl ?_
      refine J_aload_no (pc' := 128) rfl rfl zg1 rfl ?_
      refine J_iload_n (pc' := 129) rfl rfl rfl ?_
      refine J_weak (L' := [none, none, none, none, none]) trivial ?_
      refine J_callI (as := [jo 1 zo0, ji zx1]) (rest := []) (pc' := 132) rfl rfl ax_Z_30 rfl rfl (Or.inr (Or.inr ⟨_, _, rfl, zg1⟩)) (Nat.le_of_ble_eq_true rfl) (Nat.le_of_ble_eq_true rfl) (Nat.le_of_ble_eq_true rfl) zg2 trivial trivial rfl W (fun zr23 zs22 W => ?_)
      exact J_iret rfl rfl ⟨_, rfl, W⟩
    rw [if_neg zc29] at W
    refine J_swD (pc' := 133) rfl (by omega) rfl ?_
    refine J_iconst (pc' := 134) rfl (i32_d rfl) rfl ?_
    exact J_iret rfl rfl ⟨_, rfl, W⟩
  · refine J_iconst (pc' := 9) rfl (i32_d rfl) rfl ?_
    exact J_iret rfl rfl ⟨_, rfl, W⟩
theorem wp_Model_given_94 {n : Nat} {σ : jS} {Q : Int → jS → Prop} {zo0 : Int} {zx1 : Int} {zx3 : Int} {zx4 : Int} (W : 0 ≤ zo0 ∧ 0 ≤ rl σ 1010 zo0 ∧ 0 ≤ zx1 ∧ zx1 < rl σ 1010 zo0 ∧ (if ra σ 1010 zo0 zx1 < zx4 then Q zx3 σ else 0 ≤ rl σ 1012 zo0 ∧ i32 (5 * zx1) ∧ i32 ((5 * zx1) + zx4) ∧ 0 ≤ (5 * zx1) + zx4 ∧ (5 * zx1) + zx4 < rl σ 1012 zo0 ∧ i32 (zx3 + (ra σ 1012 zo0 ((5 * zx1) + zx4))) ∧ i32 (zx4 + 1) ∧ J n c_Model_given (some .int) 94 [some (jo 1 zo0), some (ji zx1), none, some (ji (zx3 + (ra σ 1012 zo0 ((5 * zx1) + zx4)))), some (ji (zx4 + 1))] [] σ (qI Q))) : J n c_Model_given (some .int) 94 [some (jo 1 zo0), some (ji zx1), none, some (ji zx3), some (ji zx4)] [] σ (qI Q) := by
  refine J_iload (pc' := 96) rfl rfl rfl ?_
  obtain ⟨zg1, W⟩ := W
  refine J_aload_no (pc' := 97) rfl rfl zg1 rfl ?_
  obtain ⟨zg2, W⟩ := W
  refine J_getA (G := 1010) (pc' := 100) rfl rfl (Nat.le_of_ble_eq_true rfl) rfl zg1 zg2 rfl ?_
  refine J_iload_n (pc' := 101) rfl rfl rfl ?_
  obtain ⟨zg3, W⟩ := W
  obtain ⟨zg4, W⟩ := W
  refine J_iald (pc' := 102) rfl rfl zg3 zg4 rfl ?_
  refine J_icmp (P := ra σ 1010 zo0 zx1 < zx4) (t := 125) (f := 105) rfl rfl rfl jc_gt W (fun W => ?_) (fun W => ?_)
  · refine J_iload_n (pc' := 126) rfl rfl rfl ?_
    exact J_iret rfl rfl ⟨_, rfl, W⟩
  · refine J_iload_n (pc' := 106) rfl rfl rfl ?_
    refine J_aload_no (pc' := 107) rfl rfl zg1 rfl ?_
    obtain ⟨zg5, W⟩ := W
    refine J_getA (G := 1012) (pc' := 110) rfl rfl (Nat.le_of_ble_eq_true rfl) rfl zg1 zg5 rfl ?_
    refine J_iconst (pc' := 111) rfl (i32_d rfl) rfl ?_
    refine J_iload_n (pc' := 112) rfl rfl rfl ?_
    obtain ⟨zg6, W⟩ := W
    refine J_imul (pc' := 113) rfl zg6 rfl ?_
    refine J_iload (pc' := 115) rfl rfl rfl ?_
    obtain ⟨zg7, W⟩ := W
    refine J_iadd (pc' := 116) rfl zg7 rfl ?_
    obtain ⟨zg8, W⟩ := W
    obtain ⟨zg9, W⟩ := W
    refine J_iald (pc' := 117) rfl rfl zg8 zg9 rfl ?_
    obtain ⟨zg10, W⟩ := W
    refine J_iadd (pc' := 118) rfl zg10 rfl ?_
    refine J_istore_n (L' := [some (jo 1 zo0), some (ji zx1), none, some (ji (zx3 + (ra σ 1012 zo0 ((5 * zx1) + zx4)))), some (ji zx4)]) (pc' := 119) rfl (Nat.le_of_ble_eq_true rfl) rfl rfl ?_
    obtain ⟨zg11, W⟩ := W
    refine J_iinc (L' := [some (jo 1 zo0), some (ji zx1), none, some (ji (zx3 + (ra σ 1012 zo0 ((5 * zx1) + zx4)))), some (ji (zx4 + 1))]) (pc' := 122) rfl rfl zg11 rfl rfl ?_
    refine J_goto (pc' := 94) rfl rfl ?_
    exact W
theorem wp_Model_out {n : Nat} {σ : jS} {Q : Int → jS → Prop} {zo0 : Int} {zx1 : Int} {zx2 : Int} (W : 0 ≤ zo0 ∧ 1 ≤ n ∧ TrI (n - 1) i_Model_isGiven [jo 1 zo0, ji zx1] σ (fun zr4 zs3 => (if zr4 = 0 then Q 0 zs3 else TrI (n - 1) i_Model_has [ji (rs zs3 1015 zo0), ji zx1] zs3 (fun zr6 zs5 => (if ¬ zr6 = zx2 then (∀ zs7, zs7 = ws zs5 1015 zo0 (bXor (rs zs5 1015 zo0) (bShl 1 zx1)) → TrV (n - 1) i_Model_forget [jo 1 zo0] zs7 (fun zs8 => Q 1 zs8)) else Q 0 zs5))))) : TrI n i_Model_out [jo 1 zo0, ji zx1, ji zx2] σ Q := by
  refine Tr_of ax_Z_32 ?_
  show J n c_Model_out (some .boolean) 0 [some (jo 1 zo0), some (ji zx1), some (ji zx2)] [] σ (qI Q)
  obtain ⟨zg1, W⟩ := W
  refine J_aload_no (pc' := 1) rfl rfl zg1 rfl ?_
  refine J_iload_n (pc' := 2) rfl rfl rfl ?_
  obtain ⟨zg2, W⟩ := W
  refine J_callI (as := [jo 1 zo0, ji zx1]) (rest := []) (pc' := 5) rfl rfl ax_Z_25 rfl rfl (Or.inr (Or.inr ⟨_, _, rfl, zg1⟩)) (Nat.le_of_ble_eq_true rfl) (Nat.le_of_ble_eq_true rfl) (Nat.le_of_ble_eq_true rfl) zg2 trivial trivial rfl W (fun zr4 zs3 W => ?_)
  refine J_if (P := zr4 = 0) (t := 20) (f := 8) rfl rfl rfl jc_eq W (fun W => ?_) (fun W => ?_)
  · refine J_iconst (pc' := 21) rfl (i32_d rfl) rfl ?_
    exact J_zret rfl rfl (Or.inl rfl) ⟨_, rfl, W⟩
  · refine J_aload_no (pc' := 9) rfl rfl zg1 rfl ?_
    refine J_getI (G := 1015) (pc' := 12) rfl rfl (Nat.le_of_ble_eq_true rfl) rfl zg1 rfl ?_
    refine J_iload_n (pc' := 13) rfl rfl rfl ?_
    refine J_callI (as := [ji (rs zs3 1015 zo0), ji zx1]) (rest := []) (pc' := 16) rfl rfl ax_Z_1 rfl rfl (Or.inl rfl) (Nat.le_of_ble_eq_true rfl) (Nat.le_of_ble_eq_true rfl) (Nat.le_of_ble_eq_true rfl) zg2 trivial trivial rfl W (fun zr6 zs5 W => ?_)
    refine J_iload_n (pc' := 17) rfl rfl rfl ?_
    refine J_icmp (P := ¬ zr6 = zx2) (t := 22) (f := 20) rfl rfl rfl jc_ne W (fun W => ?_) (fun W => ?_)
    · refine J_aload_no (pc' := 23) rfl rfl zg1 rfl ?_
      refine J_dup (pc' := 24) rfl rfl rfl ?_
      refine J_getI (G := 1015) (pc' := 27) rfl rfl (Nat.le_of_ble_eq_true rfl) rfl zg1 rfl ?_
      refine J_iconst (pc' := 28) rfl (i32_d rfl) rfl ?_
      refine J_iload_n (pc' := 29) rfl rfl rfl ?_
      refine J_ishl (pc' := 30) rfl rfl ?_
      refine J_ixor (pc' := 31) rfl rfl ?_
      refine J_putI (G := 1015) (pc' := 34) rfl rfl (Nat.le_of_ble_eq_true rfl) rfl rfl zg1 rfl (fun zs7 ezs7 => ?_)
      replace W := W zs7 ezs7
      refine J_aload_no (pc' := 35) rfl rfl zg1 rfl ?_
      refine J_weak (L' := [none, none, none]) trivial ?_
      refine J_callV (as := [jo 1 zo0]) (rest := []) (pc' := 38) rfl rfl ax_Z_54 rfl rfl (Or.inr (Or.inr ⟨_, _, rfl, zg1⟩)) (Nat.le_of_ble_eq_true rfl) (Nat.le_of_ble_eq_true rfl) (Nat.le_of_ble_eq_true rfl) zg2 trivial trivial rfl W (fun zs8 W => ?_)
      refine J_iconst (pc' := 39) rfl (i32_d rfl) rfl ?_
      exact J_zret rfl rfl (Or.inr rfl) ⟨_, rfl, W⟩
    · refine J_iconst (pc' := 21) rfl (i32_d rfl) rfl ?_
      exact J_zret rfl rfl (Or.inl rfl) ⟨_, rfl, W⟩
theorem wp_Model_shut {n : Nat} {σ : jS} {Q : Int → jS → Prop} {zo0 : Int} {zx1 : Int} {zx2 : Int} (W : 0 ≤ zo0 ∧ 1 ≤ n ∧ TrI (n - 1) i_Model_isScope [jo 1 zo0, ji zx1] σ (fun zr4 zs3 => (if zr4 = 0 then Q 0 zs3 else TrI (n - 1) i_Model_has [ji (rs zs3 1016 zo0), ji zx1] zs3 (fun zr6 zs5 => (if ¬ zr6 = zx2 then (∀ zs7, zs7 = ws zs5 1016 zo0 (bXor (rs zs5 1016 zo0) (bShl 1 zx1)) → TrV (n - 1) i_Model_forget [jo 1 zo0] zs7 (fun zs8 => Q 1 zs8)) else Q 0 zs5))))) : TrI n i_Model_shut [jo 1 zo0, ji zx1, ji zx2] σ Q := by
  refine Tr_of ax_Z_33 ?_
  show J n c_Model_shut (some .boolean) 0 [some (jo 1 zo0), some (ji zx1), some (ji zx2)] [] σ (qI Q)
  obtain ⟨zg1, W⟩ := W
  refine J_aload_no (pc' := 1) rfl rfl zg1 rfl ?_
  refine J_iload_n (pc' := 2) rfl rfl rfl ?_
  obtain ⟨zg2, W⟩ := W
  refine J_callI (as := [jo 1 zo0, ji zx1]) (rest := []) (pc' := 5) rfl rfl ax_Z_24 rfl rfl (Or.inr (Or.inr ⟨_, _, rfl, zg1⟩)) (Nat.le_of_ble_eq_true rfl) (Nat.le_of_ble_eq_true rfl) (Nat.le_of_ble_eq_true rfl) zg2 trivial trivial rfl W (fun zr4 zs3 W => ?_)
  refine J_if (P := zr4 = 0) (t := 20) (f := 8) rfl rfl rfl jc_eq W (fun W => ?_) (fun W => ?_)
  · refine J_iconst (pc' := 21) rfl (i32_d rfl) rfl ?_
    exact J_zret rfl rfl (Or.inl rfl) ⟨_, rfl, W⟩
  · refine J_aload_no (pc' := 9) rfl rfl zg1 rfl ?_
    refine J_getI (G := 1016) (pc' := 12) rfl rfl (Nat.le_of_ble_eq_true rfl) rfl zg1 rfl ?_
    refine J_iload_n (pc' := 13) rfl rfl rfl ?_
    refine J_callI (as := [ji (rs zs3 1016 zo0), ji zx1]) (rest := []) (pc' := 16) rfl rfl ax_Z_1 rfl rfl (Or.inl rfl) (Nat.le_of_ble_eq_true rfl) (Nat.le_of_ble_eq_true rfl) (Nat.le_of_ble_eq_true rfl) zg2 trivial trivial rfl W (fun zr6 zs5 W => ?_)
    refine J_iload_n (pc' := 17) rfl rfl rfl ?_
    refine J_icmp (P := ¬ zr6 = zx2) (t := 22) (f := 20) rfl rfl rfl jc_ne W (fun W => ?_) (fun W => ?_)
    · refine J_aload_no (pc' := 23) rfl rfl zg1 rfl ?_
      refine J_dup (pc' := 24) rfl rfl rfl ?_
      refine J_getI (G := 1016) (pc' := 27) rfl rfl (Nat.le_of_ble_eq_true rfl) rfl zg1 rfl ?_
      refine J_iconst (pc' := 28) rfl (i32_d rfl) rfl ?_
      refine J_iload_n (pc' := 29) rfl rfl rfl ?_
      refine J_ishl (pc' := 30) rfl rfl ?_
      refine J_ixor (pc' := 31) rfl rfl ?_
      refine J_putI (G := 1016) (pc' := 34) rfl rfl (Nat.le_of_ble_eq_true rfl) rfl rfl zg1 rfl (fun zs7 ezs7 => ?_)
      replace W := W zs7 ezs7
      refine J_aload_no (pc' := 35) rfl rfl zg1 rfl ?_
      refine J_weak (L' := [none, none, none]) trivial ?_
      refine J_callV (as := [jo 1 zo0]) (rest := []) (pc' := 38) rfl rfl ax_Z_54 rfl rfl (Or.inr (Or.inr ⟨_, _, rfl, zg1⟩)) (Nat.le_of_ble_eq_true rfl) (Nat.le_of_ble_eq_true rfl) (Nat.le_of_ble_eq_true rfl) zg2 trivial trivial rfl W (fun zs8 W => ?_)
      refine J_iconst (pc' := 39) rfl (i32_d rfl) rfl ?_
      exact J_zret rfl rfl (Or.inr rfl) ⟨_, rfl, W⟩
    · refine J_iconst (pc' := 21) rfl (i32_d rfl) rfl ?_
      exact J_zret rfl rfl (Or.inl rfl) ⟨_, rfl, W⟩
theorem wp_Model_behind {n : Nat} {σ : jS} {Q : Int → jS → Prop} {zF0 : Nat} {zp0 : Int} {zx1 : Int} (W : J n c_Model_behind (some .int) 4 [some (ja zF0 zp0), none, some (ji 1), some (ji zx1)] [] σ (qI Q)) : TrI n i_Model_behind [ja zF0 zp0, ji zx1] σ Q := by
  refine Tr_of ax_Z_34 ?_
  show J n c_Model_behind (some .int) 0 [some (ja zF0 zp0), some (ji zx1), none, none] [] σ (qI Q)
  refine J_iconst (pc' := 1) rfl (i32_d rfl) rfl ?_
  refine J_istore_n (L' := [some (ja zF0 zp0), some (ji zx1), some (ji 1), none]) (pc' := 2) rfl (Nat.le_of_ble_eq_true rfl) rfl rfl ?_
  refine J_iload_n (pc' := 3) rfl rfl rfl ?_
  refine J_istore_n (L' := [some (ja zF0 zp0), some (ji zx1), some (ji 1), some (ji zx1)]) (pc' := 4) rfl (Nat.le_of_ble_eq_true rfl) rfl rfl ?_
  refine J_weak (L' := [some (ja zF0 zp0), none, some (ji 1), some (ji zx1)]) (And.intro rfl (And.intro rfl (And.intro rfl trivial))) ?_
  exact W
theorem wp_Model_behind_4 {n : Nat} {σ : jS} {Q : Int → jS → Prop} {zF0 : Nat} {zp0 : Int} {zx2 : Int} {zx3 : Int} (W : (if zx2 ≤ 0 then Q zx3 σ else jt zF0 = 0 ∧ 0 ≤ zx3 ∧ zx3 < rl σ zF0 zp0 ∧ 1 ≤ n ∧ jmv zF0 = false ∧ TrI (n - 1) i_Model_partsOf [ji (ra σ zF0 zp0 zx3)] σ (fun zr7 zs6 => i32 (zr7 - 1) ∧ i32 (zx2 + (zr7 - 1)) ∧ i32 (zx3 + 1) ∧ J n c_Model_behind (some .int) 4 [some (ja zF0 zp0), none, some (ji (zx2 + (zr7 - 1))), some (ji (zx3 + 1))] [] zs6 (qI Q)))) : J n c_Model_behind (some .int) 4 [some (ja zF0 zp0), none, some (ji zx2), some (ji zx3)] [] σ (qI Q) := by
  refine J_iload_n (pc' := 5) rfl rfl rfl ?_
  refine J_if (P := zx2 ≤ 0) (t := 25) (f := 8) rfl rfl rfl jc_le W (fun W => ?_) (fun W => ?_)
  · refine J_iload_n (pc' := 26) rfl rfl rfl ?_
    exact J_iret rfl rfl ⟨_, rfl, W⟩
  · refine J_iload_n (pc' := 9) rfl rfl rfl ?_
    refine J_aload_na (pc' := 10) rfl rfl rfl ?_
    refine J_iload_n (pc' := 11) rfl rfl rfl ?_
    obtain ⟨zg1, W⟩ := W
    obtain ⟨zg2, W⟩ := W
    obtain ⟨zg3, W⟩ := W
    refine J_iald (pc' := 12) rfl zg1 zg2 zg3 rfl ?_
    obtain ⟨zg4, W⟩ := W
    refine J_weak (L' := [some (ja zF0 zp0), none, none, some (ji zx3)]) (And.intro rfl (And.intro rfl trivial)) ?_
    obtain ⟨zg5, W⟩ := W
    refine J_callI (as := [ji (ra σ zF0 zp0 zx3)]) (rest := [ji zx2]) (pc' := 15) rfl rfl ax_Z_5 rfl rfl (Or.inl rfl) (Nat.le_of_ble_eq_true rfl) (Nat.le_of_ble_eq_true rfl) (Nat.le_of_ble_eq_true rfl) zg4 (And.intro zg5 trivial) trivial rfl W (fun zr7 zs6 W => ?_)
    refine J_iconst (pc' := 16) rfl (i32_d rfl) rfl ?_
    obtain ⟨zg8, W⟩ := W
    refine J_isub (pc' := 17) rfl zg8 rfl ?_
    obtain ⟨zg9, W⟩ := W
    refine J_iadd (pc' := 18) rfl zg9 rfl ?_
    refine J_istore_n (L' := [some (ja zF0 zp0), none, some (ji (zx2 + (zr7 - 1))), some (ji zx3)]) (pc' := 19) rfl (Nat.le_of_ble_eq_true rfl) rfl rfl ?_
    obtain ⟨zg10, W⟩ := W
    refine J_iinc (L' := [some (ja zF0 zp0), none, some (ji (zx2 + (zr7 - 1))), some (ji (zx3 + 1))]) (pc' := 22) rfl rfl zg10 rfl rfl ?_
    refine J_goto (pc' := 4) rfl rfl ?_
    exact W
theorem wp_Model_isPut {n : Nat} {σ : jS} {Q : Int → jS → Prop} {zo0 : Int} {zx1 : Int} {zx2 : Int} {zx3 : Int} {zx4 : Int} (W : 0 ≤ zo0 ∧ 0 ≤ rl σ 1011 zo0 ∧ 1 ≤ n ∧ TrI (n - 1) i_Model_isPutIn [jo 1 zo0, ja 1011 zo0, ji zx1, ja 1011 zo0, ji zx3, ji zx4] σ (fun zr5 zs4 => (zr5 = 0 ∨ zr5 = 1) ∧ Q zr5 zs4)) : TrI n i_Model_isPut [jo 1 zo0, ji zx1, ji zx2, ji zx3, ji zx4] σ Q := by
  refine Tr_of ax_Z_35 ?_
  show J n c_Model_isPut (some .boolean) 0 [some (jo 1 zo0), some (ji zx1), some (ji zx2), some (ji zx3), some (ji zx4)] [] σ (qI Q)
  obtain ⟨zg1, W⟩ := W
  refine J_aload_no (pc' := 1) rfl rfl zg1 rfl ?_
  refine J_aload_no (pc' := 2) rfl rfl zg1 rfl ?_
  obtain ⟨zg2, W⟩ := W
  refine J_getA (G := 1011) (pc' := 5) rfl rfl (Nat.le_of_ble_eq_true rfl) rfl zg1 zg2 rfl ?_
  refine J_iload_n (pc' := 6) rfl rfl rfl ?_
  refine J_aload_no (pc' := 7) rfl rfl zg1 rfl ?_
  refine J_getA (G := 1011) (pc' := 10) rfl rfl (Nat.le_of_ble_eq_true rfl) rfl zg1 zg2 rfl ?_
  refine J_iload_n (pc' := 11) rfl rfl rfl ?_
  refine J_iload (pc' := 13) rfl rfl rfl ?_
  obtain ⟨zg3, W⟩ := W
  refine J_weak (L' := [none, none, none, none, none]) trivial ?_
  refine J_callI (as := [jo 1 zo0, ja 1011 zo0, ji zx1, ja 1011 zo0, ji zx3, ji zx4]) (rest := []) (pc' := 16) rfl rfl ax_Z_36 rfl rfl (Or.inr (Or.inr ⟨_, _, rfl, zg1⟩)) (Nat.le_of_ble_eq_true rfl) (Nat.le_of_ble_eq_true rfl) (Nat.le_of_ble_eq_true rfl) zg3 trivial trivial rfl W (fun zr5 zs4 W => ?_)
  obtain ⟨zg6, W⟩ := W
  exact J_zret rfl rfl zg6 ⟨_, rfl, W⟩
theorem wp_Model_isPutIn {n : Nat} {σ : jS} {Q : Int → jS → Prop} {zo0 : Int} {zF1 : Nat} {zp1 : Int} {zx2 : Int} {zF3 : Nat} {zp3 : Int} {zx4 : Int} {zx5 : Int} (W : J n c_Model_isPutIn (some .boolean) 3 [some (jo 1 zo0), some (ja zF1 zp1), some (ji zx2), some (ja zF3 zp3), some (ji zx4), some (ji zx5), some (ji 0), none, none, none, none] [] σ (qI Q)) : TrI n i_Model_isPutIn [jo 1 zo0, ja zF1 zp1, ji zx2, ja zF3 zp3, ji zx4, ji zx5] σ Q := by
  refine Tr_of ax_Z_36 ?_
  show J n c_Model_isPutIn (some .boolean) 0 [some (jo 1 zo0), some (ja zF1 zp1), some (ji zx2), some (ja zF3 zp3), some (ji zx4), some (ji zx5), none, none, none, none, none] [] σ (qI Q)
  refine J_iconst (pc' := 1) rfl (i32_d rfl) rfl ?_
  refine J_istore (L' := [some (jo 1 zo0), some (ja zF1 zp1), some (ji zx2), some (ja zF3 zp3), some (ji zx4), some (ji zx5), some (ji 0), none, none, none, none]) (pc' := 3) rfl (Nat.le_of_ble_eq_true rfl) rfl rfl ?_
  exact W
theorem wp_Model_isPutIn_3 {n : Nat} {σ : jS} {Q : Int → jS → Prop} {zo0 : Int} {zF1 : Nat} {zp1 : Int} {zx2 : Int} {zF3 : Nat} {zp3 : Int} {zx4 : Int} {zx5 : Int} {zx6 : Int} (W : (if 26 ≤ zx6 then J n c_Model_isPutIn (some .boolean) 31 [some (jo 1 zo0), some (ja zF1 zp1), none, some (ja zF3 zp3), some (ji zx4), some (ji zx5), some (ji zx2), some (ji zx4), none, none, none] [] σ (qI Q) else 0 ≤ zo0 ∧ 0 ≤ rl σ 1027 zo0 ∧ 0 ≤ zx6 ∧ zx6 < rl σ 1027 zo0 ∧ (∀ zs3, zs3 = wa σ 1027 zo0 zx6 (-1) → i32 (zx6 + 1) ∧ J n c_Model_isPutIn (some .boolean) 3 [some (jo 1 zo0), some (ja zF1 zp1), some (ji zx2), some (ja zF3 zp3), some (ji zx4), some (ji zx5), some (ji (zx6 + 1)), none, none, none, none] [] zs3 (qI Q)))) : J n c_Model_isPutIn (some .boolean) 3 [some (jo 1 zo0), some (ja zF1 zp1), some (ji zx2), some (ja zF3 zp3), some (ji zx4), some (ji zx5), some (ji zx6), none, none, none, none] [] σ (qI Q) := by
  refine J_iload (pc' := 5) rfl rfl rfl ?_
  refine J_bipush (pc' := 7) rfl (by decide) (by decide) rfl ?_
  refine J_icmp (P := 26 ≤ zx6) (t := 24) (f := 10) rfl rfl rfl jc_ge W (fun W => ?_) (fun W => ?_)
  · refine J_iload_n (pc' := 25) rfl rfl rfl ?_
    refine J_istore (L' := [some (jo 1 zo0), some (ja zF1 zp1), some (ji zx2), some (ja zF3 zp3), some (ji zx4), some (ji zx5), some (ji zx2), none, none, none, none]) (pc' := 27) rfl (Nat.le_of_ble_eq_true rfl) rfl rfl ?_
    refine J_iload (pc' := 29) rfl rfl rfl ?_
    refine J_istore (L' := [some (jo 1 zo0), some (ja zF1 zp1), some (ji zx2), some (ja zF3 zp3), some (ji zx4), some (ji zx5), some (ji zx2), some (ji zx4), none, none, none]) (pc' := 31) rfl (Nat.le_of_ble_eq_true rfl) rfl rfl ?_
    refine J_weak (L' := [some (jo 1 zo0), some (ja zF1 zp1), none, some (ja zF3 zp3), some (ji zx4), some (ji zx5), some (ji zx2), some (ji zx4), none, none, none]) (And.intro rfl (And.intro rfl (And.intro rfl (And.intro rfl (And.intro rfl (And.intro rfl (And.intro rfl trivial))))))) ?_
    exact W
  · obtain ⟨zg1, W⟩ := W
    refine J_aload_no (pc' := 11) rfl rfl zg1 rfl ?_
    obtain ⟨zg2, W⟩ := W
    refine J_getA (G := 1027) (pc' := 14) rfl rfl (Nat.le_of_ble_eq_true rfl) rfl zg1 zg2 rfl ?_
    refine J_iload (pc' := 16) rfl rfl rfl ?_
    refine J_iconst (pc' := 17) rfl (i32_d rfl) rfl ?_
    obtain ⟨zg4, W⟩ := W
    obtain ⟨zg5, W⟩ := W
    refine J_iast (pc' := 18) rfl rfl (by decide) zg4 zg5 rfl (fun zs3 ezs3 => ?_)
    replace W := W zs3 ezs3
    obtain ⟨zg6, W⟩ := W
    refine J_iinc (L' := [some (jo 1 zo0), some (ja zF1 zp1), some (ji zx2), some (ja zF3 zp3), some (ji zx4), some (ji zx5), some (ji (zx6 + 1)), none, none, none, none]) (pc' := 21) rfl rfl zg6 rfl rfl ?_
    refine J_goto (pc' := 3) rfl rfl ?_
    exact W
theorem wp_Model_isPutIn_31 {n : Nat} {σ : jS} {Q : Int → jS → Prop} {zo0 : Int} {zF1 : Nat} {zp1 : Int} {zF3 : Nat} {zp3 : Int} {zx4 : Int} {zx5 : Int} {zx6 : Int} {zx7 : Int} (W : i32 (zx4 + zx5) ∧ (if zx4 + zx5 ≤ zx7 then Q 1 σ else jt zF3 = 0 ∧ 0 ≤ zx7 ∧ zx7 < rl σ zF3 zp3 ∧ (if ra σ zF3 zp3 zx7 < 0 then i32 ((-1) - (ra σ zF3 zp3 zx7)) ∧ 1 ≤ n ∧ jmv zF3 = false ∧ jmv zF1 = false ∧ TrI (n - 1) i_Model_behind [ja zF1 zp1, ji zx6] σ (fun zr10 zs9 => 0 ≤ zo0 ∧ 0 ≤ rl zs9 1027 zo0 ∧ 0 ≤ (-1) - (ra σ zF3 zp3 zx7) ∧ (-1) - (ra σ zF3 zp3 zx7) < rl zs9 1027 zo0 ∧ (if ¬ ra zs9 1027 zo0 ((-1) - (ra σ zF3 zp3 zx7)) = (-1) then J n c_Model_isPutIn (some .boolean) 106 [some (jo 1 zo0), some (ja zF1 zp1), none, some (ja zF3 zp3), some (ji zx4), some (ji zx5), some (ji zx6), some (ji zx7), some (ji ((-1) - (ra σ zF3 zp3 zx7))), some (ji zr10), some (ji 0)] [] zs9 (qI Q) else (∀ zs15, zs15 = wa zs9 1027 zo0 ((-1) - (ra σ zF3 zp3 zx7)) zx6 → J n c_Model_isPutIn (some .boolean) 106 [some (jo 1 zo0), some (ja zF1 zp1), none, some (ja zF3 zp3), some (ji zx4), some (ji zx5), some (ji zx6), some (ji zx7), some (ji ((-1) - (ra σ zF3 zp3 zx7))), some (ji zr10), some (ji 0)] [] zs15 (qI Q)))) else jt zF1 = 0 ∧ 0 ≤ zx6 ∧ zx6 < rl σ zF1 zp1 ∧ (if ra σ zF1 zp1 zx6 = ra σ zF3 zp3 zx7 then i32 (zx6 + 1) ∧ i32 (zx7 + 1) ∧ J n c_Model_isPutIn (some .boolean) 31 [some (jo 1 zo0), some (ja zF1 zp1), none, some (ja zF3 zp3), some (ji zx4), some (ji zx5), some (ji (zx6 + 1)), some (ji (zx7 + 1)), none, none, none] [] σ (qI Q) else Q 0 σ)))) : J n c_Model_isPutIn (some .boolean) 31 [some (jo 1 zo0), some (ja zF1 zp1), none, some (ja zF3 zp3), some (ji zx4), some (ji zx5), some (ji zx6), some (ji zx7), none, none, none] [] σ (qI Q) := by
  refine J_iload (pc' := 33) rfl rfl rfl ?_
  refine J_iload (pc' := 35) rfl rfl rfl ?_
  refine J_iload (pc' := 37) rfl rfl rfl ?_
  obtain ⟨zg1, W⟩ := W
  refine J_iadd (pc' := 38) rfl zg1 rfl ?_
  refine J_icmp (P := zx4 + zx5 ≤ zx7) (t := 156) (f := 41) rfl rfl rfl jc_ge W (fun W => ?_) (fun W => ?_)
  · refine J_iconst (pc' := 157) rfl (i32_d rfl) rfl ?_
    exact J_zret rfl rfl (Or.inr rfl) ⟨_, rfl, W⟩
  · refine J_aload_na (pc' := 42) rfl rfl rfl ?_
    refine J_iload (pc' := 44) rfl rfl rfl ?_
    obtain ⟨zg2, W⟩ := W
    obtain ⟨zg3, W⟩ := W
    obtain ⟨zg4, W⟩ := W
    refine J_iald (pc' := 45) rfl zg2 zg3 zg4 rfl ?_
    refine J_if (P := ra σ zF3 zp3 zx7 < 0) (t := 67) (f := 48) rfl rfl rfl jc_lt W (fun W => ?_) (fun W => ?_)
    · refine J_iconst (pc' := 68) rfl (i32_d rfl) rfl ?_
      refine J_aload_na (pc' := 69) rfl rfl rfl ?_
      refine J_iload (pc' := 71) rfl rfl rfl ?_
      refine J_iald (pc' := 72) rfl zg2 zg3 zg4 rfl ?_
      obtain ⟨zg5, W⟩ := W
      refine J_isub (pc' := 73) rfl zg5 rfl ?_
      refine J_istore (L' := [some (jo 1 zo0), some (ja zF1 zp1), none, some (ja zF3 zp3), some (ji zx4), some (ji zx5), some (ji zx6), some (ji zx7), some (ji ((-1) - (ra σ zF3 zp3 zx7))), none, none]) (pc' := 75) rfl (Nat.le_of_ble_eq_true rfl) rfl rfl ?_
      refine J_aload_na (pc' := 76) rfl rfl rfl ?_
      refine J_iload (pc' := 78) rfl rfl rfl ?_
      obtain ⟨zg6, W⟩ := W
      obtain ⟨zg7, W⟩ := W
      obtain ⟨zg8, W⟩ := W
      refine J_callI (as := [ja zF1 zp1, ji zx6]) (rest := []) (pc' := 81) rfl rfl ax_Z_34 rfl rfl (Or.inl rfl) (Nat.le_of_ble_eq_true rfl) (Nat.le_of_ble_eq_true rfl) (Nat.le_of_ble_eq_true rfl) zg6 (And.intro zg8 (And.intro zg7 trivial)) trivial rfl W (fun zr10 zs9 W => ?_)
      refine J_istore (L' := [some (jo 1 zo0), some (ja zF1 zp1), none, some (ja zF3 zp3), some (ji zx4), some (ji zx5), some (ji zx6), some (ji zx7), some (ji ((-1) - (ra σ zF3 zp3 zx7))), some (ji zr10), none]) (pc' := 83) rfl (Nat.le_of_ble_eq_true rfl) rfl rfl ?_
      obtain ⟨zg11, W⟩ := W
      refine J_aload_no (pc' := 84) rfl rfl zg11 rfl ?_
      obtain ⟨zg12, W⟩ := W
      refine J_getA (G := 1027) (pc' := 87) rfl rfl (Nat.le_of_ble_eq_true rfl) rfl zg11 zg12 rfl ?_
      refine J_iload (pc' := 89) rfl rfl rfl ?_
      obtain ⟨zg13, W⟩ := W
      obtain ⟨zg14, W⟩ := W
      refine J_iald (pc' := 90) rfl rfl zg13 zg14 rfl ?_
      refine J_iconst (pc' := 91) rfl (i32_d rfl) rfl ?_
      refine J_icmp (P := ¬ ra zs9 1027 zo0 ((-1) - (ra σ zF3 zp3 zx7)) = (-1)) (t := 103) (f := 94) rfl rfl rfl jc_ne W (fun W => ?_) (fun W => ?_)
      · refine J_iconst (pc' := 104) rfl (i32_d rfl) rfl ?_
        refine J_istore (L' := [some (jo 1 zo0), some (ja zF1 zp1), none, some (ja zF3 zp3), some (ji zx4), some (ji zx5), some (ji zx6), some (ji zx7), some (ji ((-1) - (ra σ zF3 zp3 zx7))), some (ji zr10), some (ji 0)]) (pc' := 106) rfl (Nat.le_of_ble_eq_true rfl) rfl rfl ?_
        exact W
      · refine J_aload_no (pc' := 95) rfl rfl zg11 rfl ?_
        refine J_getA (G := 1027) (pc' := 98) rfl rfl (Nat.le_of_ble_eq_true rfl) rfl zg11 zg12 rfl ?_
        refine J_iload (pc' := 100) rfl rfl rfl ?_
        refine J_iload (pc' := 102) rfl rfl rfl ?_
        refine J_iast (pc' := 103) rfl rfl (by decide) zg13 zg14 rfl (fun zs15 ezs15 => ?_)
        replace W := W zs15 ezs15
        refine J_iconst (pc' := 104) rfl (i32_d rfl) rfl ?_
        refine J_istore (L' := [some (jo 1 zo0), some (ja zF1 zp1), none, some (ja zF3 zp3), some (ji zx4), some (ji zx5), some (ji zx6), some (ji zx7), some (ji ((-1) - (ra σ zF3 zp3 zx7))), some (ji zr10), some (ji 0)]) (pc' := 106) rfl (Nat.le_of_ble_eq_true rfl) rfl rfl ?_
        exact W
    · refine J_aload_na (pc' := 49) rfl rfl rfl ?_
      refine J_iload (pc' := 51) rfl rfl rfl ?_
      obtain ⟨zg16, W⟩ := W
      obtain ⟨zg17, W⟩ := W
      obtain ⟨zg18, W⟩ := W
      refine J_iald (pc' := 52) rfl zg16 zg17 zg18 rfl ?_
      refine J_aload_na (pc' := 53) rfl rfl rfl ?_
      refine J_iload (pc' := 55) rfl rfl rfl ?_
      refine J_iald (pc' := 56) rfl zg2 zg3 zg4 rfl ?_
      refine J_icmp (P := ra σ zF1 zp1 zx6 = ra σ zF3 zp3 zx7) (t := 61) (f := 59) rfl rfl rfl jc_eq W (fun W => ?_) (fun W => ?_)
      · obtain ⟨zg19, W⟩ := W
        refine J_iinc (L' := [some (jo 1 zo0), some (ja zF1 zp1), none, some (ja zF3 zp3), some (ji zx4), some (ji zx5), some (ji (zx6 + 1)), some (ji zx7), none, none, none]) (pc' := 64) rfl rfl zg19 rfl rfl ?_
        refine J_goto (pc' := 150) rfl rfl ?_
        obtain ⟨zg20, W⟩ := W
        refine J_iinc (L' := [some (jo 1 zo0), some (ja zF1 zp1), none, some (ja zF3 zp3), some (ji zx4), some (ji zx5), some (ji (zx6 + 1)), some (ji (zx7 + 1)), none, none, none]) (pc' := 153) rfl rfl zg20 rfl rfl ?_
        refine J_goto (pc' := 31) rfl rfl ?_
        exact W
      · refine J_iconst (pc' := 60) rfl (i32_d rfl) rfl ?_
        exact J_zret rfl rfl (Or.inl rfl) ⟨_, rfl, W⟩
theorem wp_Model_isPutIn_106 {n : Nat} {σ : jS} {Q : Int → jS → Prop} {zo0 : Int} {zF1 : Nat} {zp1 : Int} {zF3 : Nat} {zp3 : Int} {zx4 : Int} {zx5 : Int} {zx6 : Int} {zx7 : Int} {zx8 : Int} {zx9 : Int} {zx10 : Int} (W : i32 (zx9 - zx6) ∧ (if zx9 - zx6 ≤ zx10 then i32 (zx7 + 1) ∧ J n c_Model_isPutIn (some .boolean) 31 [some (jo 1 zo0), some (ja zF1 zp1), none, some (ja zF3 zp3), some (ji zx4), some (ji zx5), some (ji zx9), some (ji (zx7 + 1)), none, none, none] [] σ (qI Q) else 0 ≤ zo0 ∧ 0 ≤ rl σ 1027 zo0 ∧ 0 ≤ zx8 ∧ zx8 < rl σ 1027 zo0 ∧ i32 ((ra σ 1027 zo0 zx8) + zx10) ∧ jt zF1 = 0 ∧ 0 ≤ (ra σ 1027 zo0 zx8) + zx10 ∧ (ra σ 1027 zo0 zx8) + zx10 < rl σ zF1 zp1 ∧ i32 (zx6 + zx10) ∧ 0 ≤ zx6 + zx10 ∧ zx6 + zx10 < rl σ zF1 zp1 ∧ (if ra σ zF1 zp1 ((ra σ 1027 zo0 zx8) + zx10) = ra σ zF1 zp1 (zx6 + zx10) then i32 (zx10 + 1) ∧ J n c_Model_isPutIn (some .boolean) 106 [some (jo 1 zo0), some (ja zF1 zp1), none, some (ja zF3 zp3), some (ji zx4), some (ji zx5), some (ji zx6), some (ji zx7), some (ji zx8), some (ji zx9), some (ji (zx10 + 1))] [] σ (qI Q) else Q 0 σ))) : J n c_Model_isPutIn (some .boolean) 106 [some (jo 1 zo0), some (ja zF1 zp1), none, some (ja zF3 zp3), some (ji zx4), some (ji zx5), some (ji zx6), some (ji zx7), some (ji zx8), some (ji zx9), some (ji zx10)] [] σ (qI Q) := by
  refine J_iload (pc' := 108) rfl rfl rfl ?_
  refine J_iload (pc' := 110) rfl rfl rfl ?_
  refine J_iload (pc' := 112) rfl rfl rfl ?_
  obtain ⟨zg1, W⟩ := W
  refine J_isub (pc' := 113) rfl zg1 rfl ?_
  refine J_icmp (P := zx9 - zx6 ≤ zx10) (t := 146) (f := 116) rfl rfl rfl jc_ge W (fun W => ?_) (fun W => ?_)
  · refine J_iload (pc' := 148) rfl rfl rfl ?_
    refine J_istore (L' := [some (jo 1 zo0), some (ja zF1 zp1), none, some (ja zF3 zp3), some (ji zx4), some (ji zx5), some (ji zx9), some (ji zx7), some (ji zx8), some (ji zx9), some (ji zx10)]) (pc' := 150) rfl (Nat.le_of_ble_eq_true rfl) rfl rfl ?_
    obtain ⟨zg2, W⟩ := W
    refine J_iinc (L' := [some (jo 1 zo0), some (ja zF1 zp1), none, some (ja zF3 zp3), some (ji zx4), some (ji zx5), some (ji zx9), some (ji (zx7 + 1)), some (ji zx8), some (ji zx9), some (ji zx10)]) (pc' := 153) rfl rfl zg2 rfl rfl ?_
    refine J_goto (pc' := 31) rfl rfl ?_
    refine J_weak (L' := [some (jo 1 zo0), some (ja zF1 zp1), none, some (ja zF3 zp3), some (ji zx4), some (ji zx5), some (ji zx9), some (ji (zx7 + 1)), none, none, none]) (And.intro rfl (And.intro rfl (And.intro rfl (And.intro rfl (And.intro rfl (And.intro rfl (And.intro rfl trivial))))))) ?_
    exact W
  · refine J_aload_na (pc' := 117) rfl rfl rfl ?_
    obtain ⟨zg3, W⟩ := W
    refine J_aload_no (pc' := 118) rfl rfl zg3 rfl ?_
    obtain ⟨zg4, W⟩ := W
    refine J_getA (G := 1027) (pc' := 121) rfl rfl (Nat.le_of_ble_eq_true rfl) rfl zg3 zg4 rfl ?_
    refine J_iload (pc' := 123) rfl rfl rfl ?_
    obtain ⟨zg5, W⟩ := W
    obtain ⟨zg6, W⟩ := W
    refine J_iald (pc' := 124) rfl rfl zg5 zg6 rfl ?_
    refine J_iload (pc' := 126) rfl rfl rfl ?_
    obtain ⟨zg7, W⟩ := W
    refine J_iadd (pc' := 127) rfl zg7 rfl ?_
    obtain ⟨zg8, W⟩ := W
    obtain ⟨zg9, W⟩ := W
    obtain ⟨zg10, W⟩ := W
    refine J_iald (pc' := 128) rfl zg8 zg9 zg10 rfl ?_
    refine J_aload_na (pc' := 129) rfl rfl rfl ?_
    refine J_iload (pc' := 131) rfl rfl rfl ?_
    refine J_iload (pc' := 133) rfl rfl rfl ?_
    obtain ⟨zg11, W⟩ := W
    refine J_iadd (pc' := 134) rfl zg11 rfl ?_
    obtain ⟨zg12, W⟩ := W
    obtain ⟨zg13, W⟩ := W
    refine J_iald (pc' := 135) rfl zg8 zg12 zg13 rfl ?_
    refine J_icmp (P := ra σ zF1 zp1 ((ra σ 1027 zo0 zx8) + zx10) = ra σ zF1 zp1 (zx6 + zx10)) (t := 140) (f := 138) rfl rfl rfl jc_eq W (fun W => ?_) (fun W => ?_)
    · obtain ⟨zg14, W⟩ := W
      refine J_iinc (L' := [some (jo 1 zo0), some (ja zF1 zp1), none, some (ja zF3 zp3), some (ji zx4), some (ji zx5), some (ji zx6), some (ji zx7), some (ji zx8), some (ji zx9), some (ji (zx10 + 1))]) (pc' := 143) rfl rfl zg14 rfl rfl ?_
      refine J_goto (pc' := 106) rfl rfl ?_
      exact W
    · refine J_iconst (pc' := 139) rfl (i32_d rfl) rfl ?_
      exact J_zret rfl rfl (Or.inl rfl) ⟨_, rfl, W⟩
theorem wp_Model_special {n : Nat} {σ : jS} {Q : Int → jS → Prop} {zo0 : Int} {zx1 : Int} {zx2 : Int} (W : 0 ≤ zo0 ∧ 1 ≤ n ∧ TrI (n - 1) i_Model_isGiven [jo 1 zo0, ji zx1] σ (fun zr4 zs3 => (if zr4 = 0 then Q (-1) zs3 else TrI (n - 1) i_Model_isGiven [jo 1 zo0, ji zx2] zs3 (fun zr6 zs5 => (if ¬ zr6 = 0 then 0 ≤ rl zs5 1026 zo0 ∧ i32 (24 * zx1) ∧ i32 ((24 * zx1) + zx2) ∧ 0 ≤ (24 * zx1) + zx2 ∧ (24 * zx1) + zx2 < rl zs5 1026 zo0 ∧ (if ra zs5 1026 zo0 ((24 * zx1) + zx2) = 0 then i32 (24 * zx2) ∧ i32 ((24 * zx2) + zx1) ∧ 0 ≤ (24 * zx2) + zx1 ∧ (24 * zx2) + zx1 < rl zs5 1026 zo0 ∧ (if ra zs5 1026 zo0 ((24 * zx2) + zx1) = 0 then i32 (60 * zx1) ∧ 0 ≤ rl zs5 1012 zo0 ∧ i32 (5 * zx1) ∧ 0 ≤ 5 * zx1 ∧ 5 * zx1 < rl zs5 1012 zo0 ∧ i32 (60 * zx2) ∧ i32 (5 * zx2) ∧ 0 ≤ 5 * zx2 ∧ 5 * zx2 < rl zs5 1012 zo0 ∧ TrI (n - 1) i_Model_isPut [jo 1 zo0, ji (60 * zx1), ji (ra zs5 1012 zo0 (5 * zx1)), ji (60 * zx2), ji (ra zs5 1012 zo0 (5 * zx2))] zs5 (fun zr26 zs25 => (if zr26 = 0 then TrV (n - 1) i_Model_beginHeap [jo 1 zo0] zs25 (fun zs27 => TrI (n - 1) i_Model_layGiven [jo 1 zo0, ji zx1, ji 0] zs27 (fun zr30 zs29 => TrI (n - 1) i_Model_layGiven [jo 1 zo0, ji zx2, ji 0] zs29 (fun zr32 zs31 => TrI (n - 1) i_Model_isUnified [jo 1 zo0, ji zr30, ji zr32] zs31 (fun zr34 zs33 => (if zr34 = 0 then Q 0 zs33 else Q 4 zs33))))) else Q 3 zs25)) else Q 2 zs5) else Q 1 zs5) else Q (-1) zs5))))) : TrI n i_Model_special [jo 1 zo0, ji zx1, ji zx2] σ Q := by
  refine Tr_of ax_Z_37 ?_
  show J n c_Model_special (some .int) 0 [some (jo 1 zo0), some (ji zx1), some (ji zx2), none] [] σ (qI Q)
  obtain ⟨zg1, W⟩ := W
  refine J_aload_no (pc' := 1) rfl rfl zg1 rfl ?_
  refine J_iload_n (pc' := 2) rfl rfl rfl ?_
  obtain ⟨zg2, W⟩ := W
  refine J_callI (as := [jo 1 zo0, ji zx1]) (rest := []) (pc' := 5) rfl rfl ax_Z_25 rfl rfl (Or.inr (Or.inr ⟨_, _, rfl, zg1⟩)) (Nat.le_of_ble_eq_true rfl) (Nat.le_of_ble_eq_true rfl) (Nat.le_of_ble_eq_true rfl) zg2 trivial trivial rfl W (fun zr4 zs3 W => ?_)
  refine J_if (P := zr4 = 0) (t := 16) (f := 8) rfl rfl rfl jc_eq W (fun W => ?_) (fun W => ?_)
  · refine J_iconst (pc' := 17) rfl (i32_d rfl) rfl ?_
    exact J_iret rfl rfl ⟨_, rfl, W⟩
  · refine J_aload_no (pc' := 9) rfl rfl zg1 rfl ?_
    refine J_iload_n (pc' := 10) rfl rfl rfl ?_
    refine J_callI (as := [jo 1 zo0, ji zx2]) (rest := []) (pc' := 13) rfl rfl ax_Z_25 rfl rfl (Or.inr (Or.inr ⟨_, _, rfl, zg1⟩)) (Nat.le_of_ble_eq_true rfl) (Nat.le_of_ble_eq_true rfl) (Nat.le_of_ble_eq_true rfl) zg2 trivial trivial rfl W (fun zr6 zs5 W => ?_)
    refine J_if (P := ¬ zr6 = 0) (t := 18) (f := 16) rfl rfl rfl jc_ne W (fun W => ?_) (fun W => ?_)
    · refine J_aload_no (pc' := 19) rfl rfl zg1 rfl ?_
      obtain ⟨zg7, W⟩ := W
      refine J_getA (G := 1026) (pc' := 22) rfl rfl (Nat.le_of_ble_eq_true rfl) rfl zg1 zg7 rfl ?_
      refine J_bipush (pc' := 24) rfl (by decide) (by decide) rfl ?_
      refine J_iload_n (pc' := 25) rfl rfl rfl ?_
      obtain ⟨zg8, W⟩ := W
      refine J_imul (pc' := 26) rfl zg8 rfl ?_
      refine J_iload_n (pc' := 27) rfl rfl rfl ?_
      obtain ⟨zg9, W⟩ := W
      refine J_iadd (pc' := 28) rfl zg9 rfl ?_
      obtain ⟨zg10, W⟩ := W
      obtain ⟨zg11, W⟩ := W
      refine J_bald (pc' := 29) rfl (Or.inr rfl) zg10 zg11 rfl ?_
      refine J_if (P := ra zs5 1026 zo0 ((24 * zx1) + zx2) = 0) (t := 34) (f := 32) rfl rfl rfl jc_eq W (fun W => ?_) (fun W => ?_)
      · refine J_aload_no (pc' := 35) rfl rfl zg1 rfl ?_
        refine J_getA (G := 1026) (pc' := 38) rfl rfl (Nat.le_of_ble_eq_true rfl) rfl zg1 zg7 rfl ?_
        refine J_bipush (pc' := 40) rfl (by decide) (by decide) rfl ?_
        refine J_iload_n (pc' := 41) rfl rfl rfl ?_
        obtain ⟨zg12, W⟩ := W
        refine J_imul (pc' := 42) rfl zg12 rfl ?_
        refine J_iload_n (pc' := 43) rfl rfl rfl ?_
        obtain ⟨zg13, W⟩ := W
        refine J_iadd (pc' := 44) rfl zg13 rfl ?_
        obtain ⟨zg14, W⟩ := W
        obtain ⟨zg15, W⟩ := W
        refine J_bald (pc' := 45) rfl (Or.inr rfl) zg14 zg15 rfl ?_
        refine J_if (P := ra zs5 1026 zo0 ((24 * zx2) + zx1) = 0) (t := 50) (f := 48) rfl rfl rfl jc_eq W (fun W => ?_) (fun W => ?_)
        · refine J_aload_no (pc' := 51) rfl rfl zg1 rfl ?_
          refine J_bipush (pc' := 53) rfl (by decide) (by decide) rfl ?_
          refine J_iload_n (pc' := 54) rfl rfl rfl ?_
          obtain ⟨zg16, W⟩ := W
          refine J_imul (pc' := 55) rfl zg16 rfl ?_
          refine J_aload_no (pc' := 56) rfl rfl zg1 rfl ?_
          obtain ⟨zg17, W⟩ := W
          refine J_getA (G := 1012) (pc' := 59) rfl rfl (Nat.le_of_ble_eq_true rfl) rfl zg1 zg17 rfl ?_
          refine J_iconst (pc' := 60) rfl (i32_d rfl) rfl ?_
          refine J_iload_n (pc' := 61) rfl rfl rfl ?_
          obtain ⟨zg18, W⟩ := W
          refine J_imul (pc' := 62) rfl zg18 rfl ?_
          obtain ⟨zg19, W⟩ := W
          obtain ⟨zg20, W⟩ := W
          refine J_iald (pc' := 63) rfl rfl zg19 zg20 rfl ?_
          refine J_bipush (pc' := 65) rfl (by decide) (by decide) rfl ?_
          refine J_iload_n (pc' := 66) rfl rfl rfl ?_
          obtain ⟨zg21, W⟩ := W
          refine J_imul (pc' := 67) rfl zg21 rfl ?_
          refine J_aload_no (pc' := 68) rfl rfl zg1 rfl ?_
          refine J_getA (G := 1012) (pc' := 71) rfl rfl (Nat.le_of_ble_eq_true rfl) rfl zg1 zg17 rfl ?_
          refine J_iconst (pc' := 72) rfl (i32_d rfl) rfl ?_
          refine J_iload_n (pc' := 73) rfl rfl rfl ?_
          obtain ⟨zg22, W⟩ := W
          refine J_imul (pc' := 74) rfl zg22 rfl ?_
          obtain ⟨zg23, W⟩ := W
          obtain ⟨zg24, W⟩ := W
          refine J_iald (pc' := 75) rfl rfl zg23 zg24 rfl ?_
          refine J_callI (as := [jo 1 zo0, ji (60 * zx1), ji (ra zs5 1012 zo0 (5 * zx1)), ji (60 * zx2), ji (ra zs5 1012 zo0 (5 * zx2))]) (rest := []) (pc' := 78) rfl rfl ax_Z_35 rfl rfl (Or.inr (Or.inr ⟨_, _, rfl, zg1⟩)) (Nat.le_of_ble_eq_true rfl) (Nat.le_of_ble_eq_true rfl) (Nat.le_of_ble_eq_true rfl) zg2 trivial trivial rfl W (fun zr26 zs25 W => ?_)
          refine J_if (P := zr26 = 0) (t := 83) (f := 81) rfl rfl rfl jc_eq W (fun W => ?_) (fun W => ?_)
          · refine J_aload_no (pc' := 84) rfl rfl zg1 rfl ?_
            refine J_callV (as := [jo 1 zo0]) (rest := []) (pc' := 87) rfl rfl ax_Z_39 rfl rfl (Or.inr (Or.inr ⟨_, _, rfl, zg1⟩)) (Nat.le_of_ble_eq_true rfl) (Nat.le_of_ble_eq_true rfl) (Nat.le_of_ble_eq_true rfl) zg2 trivial trivial rfl W (fun zs27 W => ?_)
            refine J_aload_no (pc' := 88) rfl rfl zg1 rfl ?_
            refine J_iload_n (pc' := 89) rfl rfl rfl ?_
            refine J_iconst (pc' := 90) rfl (i32_d rfl) rfl ?_
            refine J_weak (L' := [some (jo 1 zo0), none, some (ji zx2), none]) (And.intro rfl (And.intro rfl trivial)) ?_
            refine J_callI (as := [jo 1 zo0, ji zx1, ji 0]) (rest := []) (pc' := 93) rfl rfl ax_Z_43 rfl rfl (Or.inr (Or.inr ⟨_, _, rfl, zg1⟩)) (Nat.le_of_ble_eq_true rfl) (Nat.le_of_ble_eq_true rfl) (Nat.le_of_ble_eq_true rfl) zg2 trivial trivial rfl W (fun zr30 zs29 W => ?_)
            refine J_istore_n (L' := [some (jo 1 zo0), none, some (ji zx2), some (ji zr30)]) (pc' := 94) rfl (Nat.le_of_ble_eq_true rfl) rfl rfl ?_
            refine J_aload_no (pc' := 95) rfl rfl zg1 rfl ?_
            refine J_iload_n (pc' := 96) rfl rfl rfl ?_
            refine J_aload_no (pc' := 97) rfl rfl zg1 rfl ?_
            refine J_iload_n (pc' := 98) rfl rfl rfl ?_
            refine J_iconst (pc' := 99) rfl (i32_d rfl) rfl ?_
            refine J_weak (L' := [none, none, none, none]) trivial ?_
            refine J_callI (as := [jo 1 zo0, ji zx2, ji 0]) (rest := [ji zr30, jo 1 zo0]) (pc' := 102) rfl rfl ax_Z_43 rfl rfl (Or.inr (Or.inr ⟨_, _, rfl, zg1⟩)) (Nat.le_of_ble_eq_true rfl) (Nat.le_of_ble_eq_true rfl) (Nat.le_of_ble_eq_true rfl) zg2 trivial trivial rfl W (fun zr32 zs31 W => ?_)
            refine J_callI (as := [jo 1 zo0, ji zr30, ji zr32]) (rest := []) (pc' := 105) rfl rfl ax_Z_48 rfl rfl (Or.inr (Or.inr ⟨_, _, rfl, zg1⟩)) (Nat.le_of_ble_eq_true rfl) (Nat.le_of_ble_eq_true rfl) (Nat.le_of_ble_eq_true rfl) zg2 trivial trivial rfl W (fun zr34 zs33 W => ?_)
            refine J_if (P := zr34 = 0) (t := 112) (f := 108) rfl rfl rfl jc_eq W (fun W => ?_) (fun W => ?_)
            · refine J_iconst (pc' := 113) rfl (i32_d rfl) rfl ?_
              exact J_iret rfl rfl ⟨_, rfl, W⟩
            · refine J_iconst (pc' := 109) rfl (i32_d rfl) rfl ?_
              refine J_goto (pc' := 113) rfl rfl ?_
              exact J_iret rfl rfl ⟨_, rfl, W⟩
          · refine J_iconst (pc' := 82) rfl (i32_d rfl) rfl ?_
            exact J_iret rfl rfl ⟨_, rfl, W⟩
        · refine J_iconst (pc' := 49) rfl (i32_d rfl) rfl ?_
          exact J_iret rfl rfl ⟨_, rfl, W⟩
      · refine J_iconst (pc' := 33) rfl (i32_d rfl) rfl ?_
        exact J_iret rfl rfl ⟨_, rfl, W⟩
    · refine J_iconst (pc' := 17) rfl (i32_d rfl) rfl ?_
      exact J_iret rfl rfl ⟨_, rfl, W⟩
theorem wp_Model_clashes {n : Nat} {σ : jS} {Q : Int → jS → Prop} {zo0 : Int} (W : J n c_Model_clashes (some .int) 4 [some (jo 1 zo0), some (ji 0), some (ji 0), none] [] σ (qI Q)) : TrI n i_Model_clashes [jo 1 zo0] σ Q := by
  refine Tr_of ax_Z_38 ?_
  show J n c_Model_clashes (some .int) 0 [some (jo 1 zo0), none, none, none] [] σ (qI Q)
  refine J_iconst (pc' := 1) rfl (i32_d rfl) rfl ?_
  refine J_istore_n (L' := [some (jo 1 zo0), some (ji 0), none, none]) (pc' := 2) rfl (Nat.le_of_ble_eq_true rfl) rfl rfl ?_
  refine J_iconst (pc' := 3) rfl (i32_d rfl) rfl ?_
  refine J_istore_n (L' := [some (jo 1 zo0), some (ji 0), some (ji 0), none]) (pc' := 4) rfl (Nat.le_of_ble_eq_true rfl) rfl rfl ?_
  exact W
theorem wp_Model_clashes_4 {n : Nat} {σ : jS} {Q : Int → jS → Prop} {zo0 : Int} {zx1 : Int} {zx2 : Int} (W : 0 ≤ zo0 ∧ (if rs σ 1014 zo0 ≤ zx2 then Q zx1 σ else J n c_Model_clashes (some .int) 14 [some (jo 1 zo0), some (ji zx1), some (ji zx2), some (ji 0)] [] σ (qI Q))) : J n c_Model_clashes (some .int) 4 [some (jo 1 zo0), some (ji zx1), some (ji zx2), none] [] σ (qI Q) := by
  refine J_iload_n (pc' := 5) rfl rfl rfl ?_
  obtain ⟨zg1, W⟩ := W
  refine J_aload_no (pc' := 6) rfl rfl zg1 rfl ?_
  refine J_getI (G := 1014) (pc' := 9) rfl rfl (Nat.le_of_ble_eq_true rfl) rfl zg1 rfl ?_
  refine J_icmp (P := rs σ 1014 zo0 ≤ zx2) (t := 81) (f := 12) rfl rfl rfl jc_ge W (fun W => ?_) (fun W => ?_)
  · refine J_iload_n (pc' := 82) rfl rfl rfl ?_
    exact J_iret rfl rfl ⟨_, rfl, W⟩
  · refine J_iconst (pc' := 13) rfl (i32_d rfl) rfl ?_
    refine J_istore_n (L' := [some (jo 1 zo0), some (ji zx1), some (ji zx2), some (ji 0)]) (pc' := 14) rfl (Nat.le_of_ble_eq_true rfl) rfl rfl ?_
    exact W
theorem wp_Model_clashes_14 {n : Nat} {σ : jS} {Q : Int → jS → Prop} {zo0 : Int} {zx1 : Int} {zx2 : Int} {zx3 : Int} (W : (if zx2 ≤ zx3 then i32 (zx2 + 1) ∧ J n c_Model_clashes (some .int) 4 [some (jo 1 zo0), some (ji zx1), some (ji (zx2 + 1)), none] [] σ (qI Q) else 0 ≤ zo0 ∧ 0 ≤ rl σ 1009 zo0 ∧ 0 ≤ zx2 ∧ zx2 < rl σ 1009 zo0 ∧ 0 ≤ zx3 ∧ zx3 < rl σ 1009 zo0 ∧ (if ¬ ra σ 1009 zo0 zx2 = ra σ 1009 zo0 zx3 then i32 (zx3 + 1) ∧ J n c_Model_clashes (some .int) 14 [some (jo 1 zo0), some (ji zx1), some (ji zx2), some (ji (zx3 + 1))] [] σ (qI Q) else 1 ≤ n ∧ TrI (n - 1) i_Model_has [ji (rs σ 1015 zo0), ji zx2] σ (fun zr11 zs10 => (if ¬ zr11 = 0 then i32 (zx3 + 1) ∧ J n c_Model_clashes (some .int) 14 [some (jo 1 zo0), some (ji zx1), some (ji zx2), some (ji (zx3 + 1))] [] zs10 (qI Q) else TrI (n - 1) i_Model_has [ji (rs zs10 1015 zo0), ji zx3] zs10 (fun zr14 zs13 => (if ¬ zr14 = 0 then i32 (zx3 + 1) ∧ J n c_Model_clashes (some .int) 14 [some (jo 1 zo0), some (ji zx1), some (ji zx2), some (ji (zx3 + 1))] [] zs13 (qI Q) else TrI (n - 1) i_Model_special [jo 1 zo0, ji zx2, ji zx3] zs13 (fun zr17 zs16 => (if zr17 ≤ 2 then i32 (zx3 + 1) ∧ J n c_Model_clashes (some .int) 14 [some (jo 1 zo0), some (ji zx1), some (ji zx2), some (ji (zx3 + 1))] [] zs16 (qI Q) else i32 (zx1 + 1) ∧ i32 (zx3 + 1) ∧ J n c_Model_clashes (some .int) 14 [some (jo 1 zo0), some (ji (zx1 + 1)), some (ji zx2), some (ji (zx3 + 1))] [] zs16 (qI Q)))))))))) : J n c_Model_clashes (some .int) 14 [some (jo 1 zo0), some (ji zx1), some (ji zx2), some (ji zx3)] [] σ (qI Q) := by
  refine J_iload_n (pc' := 15) rfl rfl rfl ?_
  refine J_iload_n (pc' := 16) rfl rfl rfl ?_
  refine J_icmp (P := zx2 ≤ zx3) (t := 75) (f := 19) rfl rfl rfl jc_ge W (fun W => ?_) (fun W => ?_)
  · obtain ⟨zg1, W⟩ := W
    refine J_iinc (L' := [some (jo 1 zo0), some (ji zx1), some (ji (zx2 + 1)), some (ji zx3)]) (pc' := 78) rfl rfl zg1 rfl rfl ?_
    refine J_goto (pc' := 4) rfl rfl ?_
    refine J_weak (L' := [some (jo 1 zo0), some (ji zx1), some (ji (zx2 + 1)), none]) (And.intro rfl (And.intro rfl (And.intro rfl trivial))) ?_
    exact W
  · obtain ⟨zg2, W⟩ := W
    refine J_aload_no (pc' := 20) rfl rfl zg2 rfl ?_
    obtain ⟨zg3, W⟩ := W
    refine J_getA (G := 1009) (pc' := 23) rfl rfl (Nat.le_of_ble_eq_true rfl) rfl zg2 zg3 rfl ?_
    refine J_iload_n (pc' := 24) rfl rfl rfl ?_
    obtain ⟨zg4, W⟩ := W
    obtain ⟨zg5, W⟩ := W
    refine J_iald (pc' := 25) rfl rfl zg4 zg5 rfl ?_
    refine J_aload_no (pc' := 26) rfl rfl zg2 rfl ?_
    refine J_getA (G := 1009) (pc' := 29) rfl rfl (Nat.le_of_ble_eq_true rfl) rfl zg2 zg3 rfl ?_
    refine J_iload_n (pc' := 30) rfl rfl rfl ?_
    obtain ⟨zg6, W⟩ := W
    obtain ⟨zg7, W⟩ := W
    refine J_iald (pc' := 31) rfl rfl zg6 zg7 rfl ?_
    refine J_icmp (P := ¬ ra σ 1009 zo0 zx2 = ra σ 1009 zo0 zx3) (t := 69) (f := 34) rfl rfl rfl jc_ne W (fun W => ?_) (fun W => ?_)
    · obtain ⟨zg8, W⟩ := W
      refine J_iinc (L' := [some (jo 1 zo0), some (ji zx1), some (ji zx2), some (ji (zx3 + 1))]) (pc' := 72) rfl rfl zg8 rfl rfl ?_
      refine J_goto (pc' := 14) rfl rfl ?_
      exact W
    · refine J_aload_no (pc' := 35) rfl rfl zg2 rfl ?_
      refine J_getI (G := 1015) (pc' := 38) rfl rfl (Nat.le_of_ble_eq_true rfl) rfl zg2 rfl ?_
      refine J_iload_n (pc' := 39) rfl rfl rfl ?_
      obtain ⟨zg9, W⟩ := W
      refine J_callI (as := [ji (rs σ 1015 zo0), ji zx2]) (rest := []) (pc' := 42) rfl rfl ax_Z_1 rfl rfl (Or.inl rfl) (Nat.le_of_ble_eq_true rfl) (Nat.le_of_ble_eq_true rfl) (Nat.le_of_ble_eq_true rfl) zg9 trivial trivial rfl W (fun zr11 zs10 W => ?_)
      refine J_if (P := ¬ zr11 = 0) (t := 69) (f := 45) rfl rfl rfl jc_ne W (fun W => ?_) (fun W => ?_)
      · obtain ⟨zg12, W⟩ := W
        refine J_iinc (L' := [some (jo 1 zo0), some (ji zx1), some (ji zx2), some (ji (zx3 + 1))]) (pc' := 72) rfl rfl zg12 rfl rfl ?_
        refine J_goto (pc' := 14) rfl rfl ?_
        exact W
      · refine J_aload_no (pc' := 46) rfl rfl zg2 rfl ?_
        refine J_getI (G := 1015) (pc' := 49) rfl rfl (Nat.le_of_ble_eq_true rfl) rfl zg2 rfl ?_
        refine J_iload_n (pc' := 50) rfl rfl rfl ?_
        refine J_callI (as := [ji (rs zs10 1015 zo0), ji zx3]) (rest := []) (pc' := 53) rfl rfl ax_Z_1 rfl rfl (Or.inl rfl) (Nat.le_of_ble_eq_true rfl) (Nat.le_of_ble_eq_true rfl) (Nat.le_of_ble_eq_true rfl) zg9 trivial trivial rfl W (fun zr14 zs13 W => ?_)
        refine J_if (P := ¬ zr14 = 0) (t := 69) (f := 56) rfl rfl rfl jc_ne W (fun W => ?_) (fun W => ?_)
        · obtain ⟨zg15, W⟩ := W
          refine J_iinc (L' := [some (jo 1 zo0), some (ji zx1), some (ji zx2), some (ji (zx3 + 1))]) (pc' := 72) rfl rfl zg15 rfl rfl ?_
          refine J_goto (pc' := 14) rfl rfl ?_
          exact W
        · refine J_aload_no (pc' := 57) rfl rfl zg2 rfl ?_
          refine J_iload_n (pc' := 58) rfl rfl rfl ?_
          refine J_iload_n (pc' := 59) rfl rfl rfl ?_
          refine J_callI (as := [jo 1 zo0, ji zx2, ji zx3]) (rest := []) (pc' := 62) rfl rfl ax_Z_37 rfl rfl (Or.inr (Or.inr ⟨_, _, rfl, zg2⟩)) (Nat.le_of_ble_eq_true rfl) (Nat.le_of_ble_eq_true rfl) (Nat.le_of_ble_eq_true rfl) zg9 trivial trivial rfl W (fun zr17 zs16 W => ?_)
          refine J_iconst (pc' := 63) rfl (i32_d rfl) rfl ?_
          refine J_icmp (P := zr17 ≤ 2) (t := 69) (f := 66) rfl rfl rfl jc_le W (fun W => ?_) (fun W => ?_)
          · obtain ⟨zg18, W⟩ := W
            refine J_iinc (L' := [some (jo 1 zo0), some (ji zx1), some (ji zx2), some (ji (zx3 + 1))]) (pc' := 72) rfl rfl zg18 rfl rfl ?_
            refine J_goto (pc' := 14) rfl rfl ?_
            exact W
          · obtain ⟨zg19, W⟩ := W
            refine J_iinc (L' := [some (jo 1 zo0), some (ji (zx1 + 1)), some (ji zx2), some (ji zx3)]) (pc' := 69) rfl rfl zg19 rfl rfl ?_
            obtain ⟨zg20, W⟩ := W
            refine J_iinc (L' := [some (jo 1 zo0), some (ji (zx1 + 1)), some (ji zx2), some (ji (zx3 + 1))]) (pc' := 72) rfl rfl zg20 rfl rfl ?_
            refine J_goto (pc' := 14) rfl rfl ?_
            exact W
theorem wp_Model_beginHeap {n : Nat} {σ : jS} {Q : jS → Prop} {zo0 : Int} (W : 0 ≤ zo0 ∧ (∀ zs2, zs2 = ws σ 1033 zo0 0 → (∀ zs3, zs3 = ws zs2 1034 zo0 0 → (∀ zs4, zs4 = ws zs3 1035 zo0 0 → Q zs4)))) : TrV n i_Model_beginHeap [jo 1 zo0] σ Q := by
  refine Tr_of ax_Z_39 ?_
  show J n c_Model_beginHeap none 0 [some (jo 1 zo0)] [] σ (qV Q)
  obtain ⟨zg1, W⟩ := W
  refine J_aload_no (pc' := 1) rfl rfl zg1 rfl ?_
  refine J_iconst (pc' := 2) rfl (i32_d rfl) rfl ?_
  refine J_putI (G := 1033) (pc' := 5) rfl rfl (Nat.le_of_ble_eq_true rfl) rfl rfl zg1 rfl (fun zs2 ezs2 => ?_)
  replace W := W zs2 ezs2
  refine J_aload_no (pc' := 6) rfl rfl zg1 rfl ?_
  refine J_iconst (pc' := 7) rfl (i32_d rfl) rfl ?_
  refine J_putI (G := 1034) (pc' := 10) rfl rfl (Nat.le_of_ble_eq_true rfl) rfl rfl zg1 rfl (fun zs3 ezs3 => ?_)
  replace W := W zs3 ezs3
  refine J_aload_no (pc' := 11) rfl rfl zg1 rfl ?_
  refine J_iconst (pc' := 12) rfl (i32_d rfl) rfl ?_
  refine J_putI (G := 1035) (pc' := 15) rfl rfl (Nat.le_of_ble_eq_true rfl) rfl rfl zg1 rfl (fun zs4 ezs4 => ?_)
  replace W := W zs4 ezs4
  exact J_vret rfl rfl ⟨rfl, W⟩
theorem wp_Model_unknown {n : Nat} {σ : jS} {Q : Int → jS → Prop} {zo0 : Int} (W : 0 ≤ zo0 ∧ 0 ≤ rl σ 1028 zo0 ∧ 0 ≤ rs σ 1033 zo0 ∧ rs σ 1033 zo0 < rl σ 1028 zo0 ∧ (∀ zs3, zs3 = wa σ 1028 zo0 (rs σ 1033 zo0) (-1) → 0 ≤ rl zs3 1030 zo0 ∧ 0 ≤ rs zs3 1033 zo0 ∧ rs zs3 1033 zo0 < rl zs3 1030 zo0 ∧ (∀ zs7, zs7 = wa zs3 1030 zo0 (rs zs3 1033 zo0) (-1) → i32 ((rs zs7 1033 zo0) + 1) ∧ (∀ zs11, zs11 = ws zs7 1033 zo0 ((rs zs7 1033 zo0) + 1) → i32 ((rs zs11 1033 zo0) - 1) ∧ Q ((rs zs11 1033 zo0) - 1) zs11)))) : TrI n i_Model_unknown [jo 1 zo0] σ Q := by
  refine Tr_of ax_Z_40 ?_
  show J n c_Model_unknown (some .int) 0 [some (jo 1 zo0)] [] σ (qI Q)
  obtain ⟨zg1, W⟩ := W
  refine J_aload_no (pc' := 1) rfl rfl zg1 rfl ?_
  obtain ⟨zg2, W⟩ := W
  refine J_getA (G := 1028) (pc' := 4) rfl rfl (Nat.le_of_ble_eq_true rfl) rfl zg1 zg2 rfl ?_
  refine J_aload_no (pc' := 5) rfl rfl zg1 rfl ?_
  refine J_getI (G := 1033) (pc' := 8) rfl rfl (Nat.le_of_ble_eq_true rfl) rfl zg1 rfl ?_
  refine J_iconst (pc' := 9) rfl (i32_d rfl) rfl ?_
  obtain ⟨zg4, W⟩ := W
  obtain ⟨zg5, W⟩ := W
  refine J_iast (pc' := 10) rfl rfl (by decide) zg4 zg5 rfl (fun zs3 ezs3 => ?_)
  replace W := W zs3 ezs3
  refine J_aload_no (pc' := 11) rfl rfl zg1 rfl ?_
  obtain ⟨zg6, W⟩ := W
  refine J_getA (G := 1030) (pc' := 14) rfl rfl (Nat.le_of_ble_eq_true rfl) rfl zg1 zg6 rfl ?_
  refine J_aload_no (pc' := 15) rfl rfl zg1 rfl ?_
  refine J_getI (G := 1033) (pc' := 18) rfl rfl (Nat.le_of_ble_eq_true rfl) rfl zg1 rfl ?_
  refine J_iconst (pc' := 19) rfl (i32_d rfl) rfl ?_
  obtain ⟨zg8, W⟩ := W
  obtain ⟨zg9, W⟩ := W
  refine J_iast (pc' := 20) rfl rfl (by decide) zg8 zg9 rfl (fun zs7 ezs7 => ?_)
  replace W := W zs7 ezs7
  refine J_aload_no (pc' := 21) rfl rfl zg1 rfl ?_
  refine J_dup (pc' := 22) rfl rfl rfl ?_
  refine J_getI (G := 1033) (pc' := 25) rfl rfl (Nat.le_of_ble_eq_true rfl) rfl zg1 rfl ?_
  refine J_iconst (pc' := 26) rfl (i32_d rfl) rfl ?_
  obtain ⟨zg10, W⟩ := W
  refine J_iadd (pc' := 27) rfl zg10 rfl ?_
  refine J_putI (G := 1033) (pc' := 30) rfl rfl (Nat.le_of_ble_eq_true rfl) rfl rfl zg1 rfl (fun zs11 ezs11 => ?_)
  replace W := W zs11 ezs11
  refine J_aload_no (pc' := 31) rfl rfl zg1 rfl ?_
  refine J_getI (G := 1033) (pc' := 34) rfl rfl (Nat.le_of_ble_eq_true rfl) rfl zg1 rfl ?_
  refine J_iconst (pc' := 35) rfl (i32_d rfl) rfl ?_
  obtain ⟨zg12, W⟩ := W
  refine J_isub (pc' := 36) rfl zg12 rfl ?_
  exact J_iret rfl rfl ⟨_, rfl, W⟩
theorem wp_Model_newUnknowns {n : Nat} {σ : jS} {Q : jS → Prop} {zo0 : Int} (W : J n c_Model_newUnknowns none 2 [some (jo 1 zo0), some (ji 0)] [] σ (qV Q)) : TrV n i_Model_newUnknowns [jo 1 zo0] σ Q := by
  refine Tr_of ax_Z_41 ?_
  show J n c_Model_newUnknowns none 0 [some (jo 1 zo0), none] [] σ (qV Q)
  refine J_iconst (pc' := 1) rfl (i32_d rfl) rfl ?_
  refine J_istore_n (L' := [some (jo 1 zo0), some (ji 0)]) (pc' := 2) rfl (Nat.le_of_ble_eq_true rfl) rfl rfl ?_
  exact W
theorem wp_Model_newUnknowns_2 {n : Nat} {σ : jS} {Q : jS → Prop} {zo0 : Int} {zx1 : Int} (W : (if 26 ≤ zx1 then Q σ else 0 ≤ zo0 ∧ 0 ≤ rl σ 1036 zo0 ∧ 0 ≤ zx1 ∧ zx1 < rl σ 1036 zo0 ∧ (∀ zs3, zs3 = wa σ 1036 zo0 zx1 (-1) → i32 (zx1 + 1) ∧ J n c_Model_newUnknowns none 2 [some (jo 1 zo0), some (ji (zx1 + 1))] [] zs3 (qV Q)))) : J n c_Model_newUnknowns none 2 [some (jo 1 zo0), some (ji zx1)] [] σ (qV Q) := by
  refine J_iload_n (pc' := 3) rfl rfl rfl ?_
  refine J_bipush (pc' := 5) rfl (by decide) (by decide) rfl ?_
  refine J_icmp (P := 26 ≤ zx1) (t := 21) (f := 8) rfl rfl rfl jc_ge W (fun W => ?_) (fun W => ?_)
  · exact J_vret rfl rfl ⟨rfl, W⟩
  · obtain ⟨zg1, W⟩ := W
    refine J_aload_no (pc' := 9) rfl rfl zg1 rfl ?_
    obtain ⟨zg2, W⟩ := W
    refine J_getA (G := 1036) (pc' := 12) rfl rfl (Nat.le_of_ble_eq_true rfl) rfl zg1 zg2 rfl ?_
    refine J_iload_n (pc' := 13) rfl rfl rfl ?_
    refine J_iconst (pc' := 14) rfl (i32_d rfl) rfl ?_
    obtain ⟨zg4, W⟩ := W
    obtain ⟨zg5, W⟩ := W
    refine J_iast (pc' := 15) rfl rfl (by decide) zg4 zg5 rfl (fun zs3 ezs3 => ?_)
    replace W := W zs3 ezs3
    obtain ⟨zg6, W⟩ := W
    refine J_iinc (L' := [some (jo 1 zo0), some (ji (zx1 + 1))]) (pc' := 18) rfl rfl zg6 rfl rfl ?_
    refine J_goto (pc' := 2) rfl rfl ?_
    exact W
set_option maxRecDepth 16000 in
theorem wp_Model_layRow {n : Nat} {σ : jS} {Q : Int → jS → Prop} {zo0 : Int} {zF1 : Nat} {zp1 : Int} {zx2 : Int} {zx3 : Int} (W : 0 ≤ zo0 ∧ (∀ zs2, zs2 = ws σ 1038 zo0 0 → i32 (zx2 + zx3) ∧ i32 ((zx2 + zx3) - 1) ∧ J n c_Model_layRow (some .int) 12 [some (jo 1 zo0), some (ja zF1 zp1), some (ji zx2), none, some (ji ((zx2 + zx3) - 1)), none, none] [] zs2 (qI Q))) : TrI n i_Model_layRow [jo 1 zo0, ja zF1 zp1, ji zx2, ji zx3] σ Q := by
  refine Tr_of ax_Z_42 ?_
  show J n c_Model_layRow (some .int) 0 [some (jo 1 zo0), some (ja zF1 zp1), some (ji zx2), some (ji zx3), none, none, none] [] σ (qI Q)
  obtain ⟨zg1, W⟩ := W
  refine J_aload_no (pc' := 1) rfl rfl zg1 rfl ?_
  refine J_iconst (pc' := 2) rfl (i32_d rfl) rfl ?_
  refine J_putI (G := 1038) (pc' := 5) rfl rfl (Nat.le_of_ble_eq_true rfl) rfl rfl zg1 rfl (fun zs2 ezs2 => ?_)
  replace W := W zs2 ezs2
  refine J_iload_n (pc' := 6) rfl rfl rfl ?_
  refine J_iload_n (pc' := 7) rfl rfl rfl ?_
  obtain ⟨zg3, W⟩ := W
  refine J_iadd (pc' := 8) rfl zg3 rfl ?_
  refine J_iconst (pc' := 9) rfl (i32_d rfl) rfl ?_
  obtain ⟨zg4, W⟩ := W
  refine J_isub (pc' := 10) rfl zg4 rfl ?_
  refine J_istore (L' := [some (jo 1 zo0), some (ja zF1 zp1), some (ji zx2), some (ji zx3), some (ji ((zx2 + zx3) - 1)), none, none]) (pc' := 12) rfl (Nat.le_of_ble_eq_true rfl) rfl rfl ?_
  refine J_weak (L' := [some (jo 1 zo0), some (ja zF1 zp1), some (ji zx2), none, some (ji ((zx2 + zx3) - 1)), none, none]) (And.intro rfl (And.intro rfl (And.intro rfl (And.intro rfl trivial)))) ?_
  exact W
set_option maxRecDepth 16000 in
theorem wp_Model_layRow_12 {n : Nat} {σ : jS} {Q : Int → jS → Prop} {zo0 : Int} {zF1 : Nat} {zp1 : Int} {zx2 : Int} {zx4 : Int} (W : (if zx4 < zx2 then 0 ≤ zo0 ∧ 0 ≤ rl σ 1037 zo0 ∧ 0 < rl σ 1037 zo0 ∧ Q (ra σ 1037 zo0 0) σ else jt zF1 = 0 ∧ 0 ≤ zx4 ∧ zx4 < rl σ zF1 zp1 ∧ (if 0 ≤ ra σ zF1 zp1 zx4 then 0 ≤ zo0 ∧ 0 ≤ rl σ 1028 zo0 ∧ 0 ≤ rs σ 1033 zo0 ∧ rs σ 1033 zo0 < rl σ 1028 zo0 ∧ (∀ zs9, zs9 = wa σ 1028 zo0 (rs σ 1033 zo0) (ra σ zF1 zp1 zx4) → 0 ≤ rl zs9 1029 zo0 ∧ 0 ≤ rs zs9 1033 zo0 ∧ rs zs9 1033 zo0 < rl zs9 1029 zo0 ∧ (∀ zs13, zs13 = wa zs9 1029 zo0 (rs zs9 1033 zo0) (rs zs9 1034 zo0) → J n c_Model_layRow (some .int) 113 [some (jo 1 zo0), some (ja zF1 zp1), some (ji zx2), none, some (ji zx4), some (ji (ra σ zF1 zp1 zx4)), some (ji 0)] [] zs13 (qI Q))) else i32 ((-1) - (ra σ zF1 zp1 zx4)) ∧ 0 ≤ zo0 ∧ 0 ≤ rl σ 1036 zo0 ∧ 0 ≤ (-1) - (ra σ zF1 zp1 zx4) ∧ (-1) - (ra σ zF1 zp1 zx4) < rl σ 1036 zo0 ∧ (if ¬ ra σ 1036 zo0 ((-1) - (ra σ zF1 zp1 zx4)) = (-1) then J n c_Model_layRow (some .int) 57 [some (jo 1 zo0), some (ja zF1 zp1), some (ji zx2), none, some (ji zx4), none, some (ji ((-1) - (ra σ zF1 zp1 zx4)))] [] σ (qI Q) else 1 ≤ n ∧ jmv zF1 = false ∧ TrI (n - 1) i_Model_unknown [jo 1 zo0] σ (fun zr24 zs23 => 0 ≤ (-1) - (ra σ zF1 zp1 zx4) ∧ (-1) - (ra σ zF1 zp1 zx4) < rl zs23 1036 zo0 ∧ (∀ zs25, zs25 = wa zs23 1036 zo0 ((-1) - (ra σ zF1 zp1 zx4)) zr24 → J n c_Model_layRow (some .int) 57 [some (jo 1 zo0), some (ja zF1 zp1), some (ji zx2), none, some (ji zx4), none, some (ji ((-1) - (ra σ zF1 zp1 zx4)))] [] zs25 (qI Q))))))) : J n c_Model_layRow (some .int) 12 [some (jo 1 zo0), some (ja zF1 zp1), some (ji zx2), none, some (ji zx4), none, none] [] σ (qI Q) := by
  refine J_iload (pc' := 14) rfl rfl rfl ?_
  refine J_iload_n (pc' := 15) rfl rfl rfl ?_
  refine J_icmp (P := zx4 < zx2) (t := 205) (f := 18) rfl rfl rfl jc_lt W (fun W => ?_) (fun W => ?_)
  · obtain ⟨zg1, W⟩ := W
    refine J_aload_no (pc' := 206) rfl rfl zg1 rfl ?_
    obtain ⟨zg2, W⟩ := W
    refine J_getA (G := 1037) (pc' := 209) rfl rfl (Nat.le_of_ble_eq_true rfl) rfl zg1 zg2 rfl ?_
    refine J_iconst (pc' := 210) rfl (i32_d rfl) rfl ?_
    obtain ⟨zg3, W⟩ := W
    refine J_iald (pc' := 211) rfl rfl (by decide) zg3 rfl ?_
    exact J_iret rfl rfl ⟨_, rfl, W⟩
  · refine J_aload_na (pc' := 19) rfl rfl rfl ?_
    refine J_iload (pc' := 21) rfl rfl rfl ?_
    obtain ⟨zg4, W⟩ := W
    obtain ⟨zg5, W⟩ := W
    obtain ⟨zg6, W⟩ := W
    refine J_iald (pc' := 22) rfl zg4 zg5 zg6 rfl ?_
    refine J_istore (L' := [some (jo 1 zo0), some (ja zF1 zp1), some (ji zx2), none, some (ji zx4), some (ji (ra σ zF1 zp1 zx4)), none]) (pc' := 24) rfl (Nat.le_of_ble_eq_true rfl) rfl rfl ?_
    refine J_iload (pc' := 26) rfl rfl rfl ?_
    refine J_if (P := 0 ≤ ra σ zF1 zp1 zx4) (t := 86) (f := 29) rfl rfl rfl jc_ge W (fun W => ?_) (fun W => ?_)
    · obtain ⟨zg7, W⟩ := W
      refine J_aload_no (pc' := 87) rfl rfl zg7 rfl ?_
      obtain ⟨zg8, W⟩ := W
      refine J_getA (G := 1028) (pc' := 90) rfl rfl (Nat.le_of_ble_eq_true rfl) rfl zg7 zg8 rfl ?_
      refine J_aload_no (pc' := 91) rfl rfl zg7 rfl ?_
      refine J_getI (G := 1033) (pc' := 94) rfl rfl (Nat.le_of_ble_eq_true rfl) rfl zg7 rfl ?_
      refine J_iload (pc' := 96) rfl rfl rfl ?_
      obtain ⟨zg10, W⟩ := W
      obtain ⟨zg11, W⟩ := W
      refine J_iast (pc' := 97) rfl rfl (by decide) zg10 zg11 rfl (fun zs9 ezs9 => ?_)
      replace W := W zs9 ezs9
      refine J_aload_no (pc' := 98) rfl rfl zg7 rfl ?_
      obtain ⟨zg12, W⟩ := W
      refine J_getA (G := 1029) (pc' := 101) rfl rfl (Nat.le_of_ble_eq_true rfl) rfl zg7 zg12 rfl ?_
      refine J_aload_no (pc' := 102) rfl rfl zg7 rfl ?_
      refine J_getI (G := 1033) (pc' := 105) rfl rfl (Nat.le_of_ble_eq_true rfl) rfl zg7 rfl ?_
      refine J_aload_no (pc' := 106) rfl rfl zg7 rfl ?_
      refine J_getI (G := 1034) (pc' := 109) rfl rfl (Nat.le_of_ble_eq_true rfl) rfl zg7 rfl ?_
      obtain ⟨zg14, W⟩ := W
      obtain ⟨zg15, W⟩ := W
      refine J_iast (pc' := 110) rfl rfl (by decide) zg14 zg15 rfl (fun zs13 ezs13 => ?_)
      replace W := W zs13 ezs13
      refine J_iconst (pc' := 111) rfl (i32_d rfl) rfl ?_
      refine J_istore (L' := [some (jo 1 zo0), some (ja zF1 zp1), some (ji zx2), none, some (ji zx4), some (ji (ra σ zF1 zp1 zx4)), some (ji 0)]) (pc' := 113) rfl (Nat.le_of_ble_eq_true rfl) rfl rfl ?_
      exact W
    · refine J_iconst (pc' := 30) rfl (i32_d rfl) rfl ?_
      refine J_iload (pc' := 32) rfl rfl rfl ?_
      obtain ⟨zg16, W⟩ := W
      refine J_isub (pc' := 33) rfl zg16 rfl ?_
      refine J_istore (L' := [some (jo 1 zo0), some (ja zF1 zp1), some (ji zx2), none, some (ji zx4), some (ji (ra σ zF1 zp1 zx4)), some (ji ((-1) - (ra σ zF1 zp1 zx4)))]) (pc' := 35) rfl (Nat.le_of_ble_eq_true rfl) rfl rfl ?_
      obtain ⟨zg17, W⟩ := W
      refine J_aload_no (pc' := 36) rfl rfl zg17 rfl ?_
      obtain ⟨zg18, W⟩ := W
      refine J_getA (G := 1036) (pc' := 39) rfl rfl (Nat.le_of_ble_eq_true rfl) rfl zg17 zg18 rfl ?_
      refine J_iload (pc' := 41) rfl rfl rfl ?_
      obtain ⟨zg19, W⟩ := W
      obtain ⟨zg20, W⟩ := W
      refine J_iald (pc' := 42) rfl rfl zg19 zg20 rfl ?_
      refine J_iconst (pc' := 43) rfl (i32_d rfl) rfl ?_
      refine J_icmp (P := ¬ ra σ 1036 zo0 ((-1) - (ra σ zF1 zp1 zx4)) = (-1)) (t := 57) (f := 46) rfl rfl rfl jc_ne W (fun W => ?_) (fun W => ?_)
      · refine J_weak (L' := [some (jo 1 zo0), some (ja zF1 zp1), some (ji zx2), none, some (ji zx4), none, some (ji ((-1) - (ra σ zF1 zp1 zx4)))]) (And.intro rfl (And.intro rfl (And.intro rfl (And.intro rfl (And.intro rfl trivial))))) ?_
        exact W
      · refine J_aload_no (pc' := 47) rfl rfl zg17 rfl ?_
        refine J_getA (G := 1036) (pc' := 50) rfl rfl (Nat.le_of_ble_eq_true rfl) rfl zg17 zg18 rfl ?_
        refine J_iload (pc' := 52) rfl rfl rfl ?_
        refine J_aload_no (pc' := 53) rfl rfl zg17 rfl ?_
        obtain ⟨zg21, W⟩ := W
        refine J_weak (L' := [some (jo 1 zo0), some (ja zF1 zp1), some (ji zx2), none, some (ji zx4), none, some (ji ((-1) - (ra σ zF1 zp1 zx4)))]) (And.intro rfl (And.intro rfl (And.intro rfl (And.intro rfl (And.intro rfl trivial))))) ?_
        obtain ⟨zg22, W⟩ := W
        refine J_callI (as := [jo 1 zo0]) (rest := [ji ((-1) - (ra σ zF1 zp1 zx4)), ja 1036 zo0]) (pc' := 56) rfl rfl ax_Z_40 rfl rfl (Or.inr (Or.inr ⟨_, _, rfl, zg17⟩)) (Nat.le_of_ble_eq_true rfl) (Nat.le_of_ble_eq_true rfl) (Nat.le_of_ble_eq_true rfl) zg21 (And.intro zg22 trivial) (And.intro rfl trivial) rfl W (fun zr24 zs23 W => ?_)
        obtain ⟨zg26, W⟩ := W
        obtain ⟨zg27, W⟩ := W
        refine J_iast (pc' := 57) rfl rfl (by decide) zg26 zg27 rfl (fun zs25 ezs25 => ?_)
        replace W := W zs25 ezs25
        exact W
set_option maxRecDepth 16000 in
theorem wp_Model_layRow_57 {n : Nat} {σ : jS} {Q : Int → jS → Prop} {zo0 : Int} {zF1 : Nat} {zp1 : Int} {zx2 : Int} {zx4 : Int} {zx6 : Int} (W : 0 ≤ zo0 ∧ 0 ≤ rl σ 1037 zo0 ∧ 0 ≤ rl σ 1036 zo0 ∧ 0 ≤ zx6 ∧ zx6 < rl σ 1036 zo0 ∧ 0 ≤ rs σ 1038 zo0 ∧ rs σ 1038 zo0 < rl σ 1037 zo0 ∧ (∀ zs6, zs6 = wa σ 1037 zo0 (rs σ 1038 zo0) (ra σ 1036 zo0 zx6) → i32 ((rs zs6 1038 zo0) + 1) ∧ (∀ zs10, zs10 = ws zs6 1038 zo0 ((rs zs6 1038 zo0) + 1) → i32 (zx4 + (-1)) ∧ J n c_Model_layRow (some .int) 12 [some (jo 1 zo0), some (ja zF1 zp1), some (ji zx2), none, some (ji (zx4 + (-1))), none, none] [] zs10 (qI Q)))) : J n c_Model_layRow (some .int) 57 [some (jo 1 zo0), some (ja zF1 zp1), some (ji zx2), none, some (ji zx4), none, some (ji zx6)] [] σ (qI Q) := by
  obtain ⟨zg1, W⟩ := W
  refine J_aload_no (pc' := 58) rfl rfl zg1 rfl ?_
  obtain ⟨zg2, W⟩ := W
  refine J_getA (G := 1037) (pc' := 61) rfl rfl (Nat.le_of_ble_eq_true rfl) rfl zg1 zg2 rfl ?_
  refine J_aload_no (pc' := 62) rfl rfl zg1 rfl ?_
  refine J_getI (G := 1038) (pc' := 65) rfl rfl (Nat.le_of_ble_eq_true rfl) rfl zg1 rfl ?_
  refine J_aload_no (pc' := 66) rfl rfl zg1 rfl ?_
  obtain ⟨zg3, W⟩ := W
  refine J_getA (G := 1036) (pc' := 69) rfl rfl (Nat.le_of_ble_eq_true rfl) rfl zg1 zg3 rfl ?_
  refine J_iload (pc' := 71) rfl rfl rfl ?_
  obtain ⟨zg4, W⟩ := W
  obtain ⟨zg5, W⟩ := W
  refine J_iald (pc' := 72) rfl rfl zg4 zg5 rfl ?_
  obtain ⟨zg7, W⟩ := W
  obtain ⟨zg8, W⟩ := W
  refine J_iast (pc' := 73) rfl rfl (by decide) zg7 zg8 rfl (fun zs6 ezs6 => ?_)
  replace W := W zs6 ezs6
  refine J_aload_no (pc' := 74) rfl rfl zg1 rfl ?_
  refine J_dup (pc' := 75) rfl rfl rfl ?_
  refine J_getI (G := 1038) (pc' := 78) rfl rfl (Nat.le_of_ble_eq_true rfl) rfl zg1 rfl ?_
  refine J_iconst (pc' := 79) rfl (i32_d rfl) rfl ?_
  obtain ⟨zg9, W⟩ := W
  refine J_iadd (pc' := 80) rfl zg9 rfl ?_
  refine J_putI (G := 1038) (pc' := 83) rfl rfl (Nat.le_of_ble_eq_true rfl) rfl rfl zg1 rfl (fun zs10 ezs10 => ?_)
  replace W := W zs10 ezs10
  refine J_goto (pc' := 199) rfl rfl ?_
  obtain ⟨zg11, W⟩ := W
  refine J_iinc (L' := [some (jo 1 zo0), some (ja zF1 zp1), some (ji zx2), none, some (ji (zx4 + (-1))), none, some (ji zx6)]) (pc' := 202) rfl rfl zg11 rfl rfl ?_
  refine J_goto (pc' := 12) rfl rfl ?_
  refine J_weak (L' := [some (jo 1 zo0), some (ja zF1 zp1), some (ji zx2), none, some (ji (zx4 + (-1))), none, none]) (And.intro rfl (And.intro rfl (And.intro rfl (And.intro rfl trivial)))) ?_
  exact W
set_option maxRecDepth 16000 in
theorem wp_Model_layRow_113 {n : Nat} {σ : jS} {Q : Int → jS → Prop} {zo0 : Int} {zF1 : Nat} {zp1 : Int} {zx2 : Int} {zx4 : Int} {zx5 : Int} {zx6 : Int} (W : 0 ≤ zx5 ∧ (if zx5 % 4 ≤ zx6 then 0 ≤ zo0 ∧ 0 ≤ rl σ 1037 zo0 ∧ 0 ≤ rs σ 1038 zo0 ∧ rs σ 1038 zo0 < rl σ 1037 zo0 ∧ (∀ zs4, zs4 = wa σ 1037 zo0 (rs σ 1038 zo0) (rs σ 1033 zo0) → i32 ((rs zs4 1038 zo0) + 1) ∧ (∀ zs8, zs8 = ws zs4 1038 zo0 ((rs zs4 1038 zo0) + 1) → i32 ((rs zs8 1033 zo0) + 1) ∧ (∀ zs10, zs10 = ws zs8 1033 zo0 ((rs zs8 1033 zo0) + 1) → i32 (zx4 + (-1)) ∧ J n c_Model_layRow (some .int) 12 [some (jo 1 zo0), some (ja zF1 zp1), some (ji zx2), none, some (ji (zx4 + (-1))), none, none] [] zs10 (qI Q)))) else 0 ≤ zo0 ∧ i32 ((rs σ 1038 zo0) - 1) ∧ (∀ zs14, zs14 = ws σ 1038 zo0 ((rs σ 1038 zo0) - 1) → 0 ≤ rl zs14 1031 zo0 ∧ 0 ≤ rl zs14 1037 zo0 ∧ 0 ≤ rs zs14 1038 zo0 ∧ rs zs14 1038 zo0 < rl zs14 1037 zo0 ∧ 0 ≤ rs zs14 1034 zo0 ∧ rs zs14 1034 zo0 < rl zs14 1031 zo0 ∧ (∀ zs19, zs19 = wa zs14 1031 zo0 (rs zs14 1034 zo0) (ra zs14 1037 zo0 (rs zs14 1038 zo0)) → i32 ((rs zs19 1034 zo0) + 1) ∧ (∀ zs23, zs23 = ws zs19 1034 zo0 ((rs zs19 1034 zo0) + 1) → i32 (zx6 + 1) ∧ J n c_Model_layRow (some .int) 113 [some (jo 1 zo0), some (ja zF1 zp1), some (ji zx2), none, some (ji zx4), some (ji zx5), some (ji (zx6 + 1))] [] zs23 (qI Q)))))) : J n c_Model_layRow (some .int) 113 [some (jo 1 zo0), some (ja zF1 zp1), some (ji zx2), none, some (ji zx4), some (ji zx5), some (ji zx6)] [] σ (qI Q) := by
  refine J_iload (pc' := 115) rfl rfl rfl ?_
  refine J_iload (pc' := 117) rfl rfl rfl ?_
  refine J_iconst (pc' := 118) rfl (i32_d rfl) rfl ?_
  obtain ⟨zg1, W⟩ := W
  refine J_irem (pc' := 119) rfl zg1 (by decide) rfl ?_
  refine J_icmp (P := zx5 % 4 ≤ zx6) (t := 166) (f := 122) rfl rfl rfl jc_ge W (fun W => ?_) (fun W => ?_)
  · obtain ⟨zg2, W⟩ := W
    refine J_aload_no (pc' := 167) rfl rfl zg2 rfl ?_
    obtain ⟨zg3, W⟩ := W
    refine J_getA (G := 1037) (pc' := 170) rfl rfl (Nat.le_of_ble_eq_true rfl) rfl zg2 zg3 rfl ?_
    refine J_aload_no (pc' := 171) rfl rfl zg2 rfl ?_
    refine J_getI (G := 1038) (pc' := 174) rfl rfl (Nat.le_of_ble_eq_true rfl) rfl zg2 rfl ?_
    refine J_aload_no (pc' := 175) rfl rfl zg2 rfl ?_
    refine J_getI (G := 1033) (pc' := 178) rfl rfl (Nat.le_of_ble_eq_true rfl) rfl zg2 rfl ?_
    obtain ⟨zg5, W⟩ := W
    obtain ⟨zg6, W⟩ := W
    refine J_iast (pc' := 179) rfl rfl (by decide) zg5 zg6 rfl (fun zs4 ezs4 => ?_)
    replace W := W zs4 ezs4
    refine J_aload_no (pc' := 180) rfl rfl zg2 rfl ?_
    refine J_dup (pc' := 181) rfl rfl rfl ?_
    refine J_getI (G := 1038) (pc' := 184) rfl rfl (Nat.le_of_ble_eq_true rfl) rfl zg2 rfl ?_
    refine J_iconst (pc' := 185) rfl (i32_d rfl) rfl ?_
    obtain ⟨zg7, W⟩ := W
    refine J_iadd (pc' := 186) rfl zg7 rfl ?_
    refine J_putI (G := 1038) (pc' := 189) rfl rfl (Nat.le_of_ble_eq_true rfl) rfl rfl zg2 rfl (fun zs8 ezs8 => ?_)
    replace W := W zs8 ezs8
    refine J_aload_no (pc' := 190) rfl rfl zg2 rfl ?_
    refine J_dup (pc' := 191) rfl rfl rfl ?_
    refine J_getI (G := 1033) (pc' := 194) rfl rfl (Nat.le_of_ble_eq_true rfl) rfl zg2 rfl ?_
    refine J_iconst (pc' := 195) rfl (i32_d rfl) rfl ?_
    obtain ⟨zg9, W⟩ := W
    refine J_iadd (pc' := 196) rfl zg9 rfl ?_
    refine J_putI (G := 1033) (pc' := 199) rfl rfl (Nat.le_of_ble_eq_true rfl) rfl rfl zg2 rfl (fun zs10 ezs10 => ?_)
    replace W := W zs10 ezs10
    obtain ⟨zg11, W⟩ := W
    refine J_iinc (L' := [some (jo 1 zo0), some (ja zF1 zp1), some (ji zx2), none, some (ji (zx4 + (-1))), some (ji zx5), some (ji zx6)]) (pc' := 202) rfl rfl zg11 rfl rfl ?_
    refine J_goto (pc' := 12) rfl rfl ?_
    refine J_weak (L' := [some (jo 1 zo0), some (ja zF1 zp1), some (ji zx2), none, some (ji (zx4 + (-1))), none, none]) (And.intro rfl (And.intro rfl (And.intro rfl (And.intro rfl trivial)))) ?_
    exact W
  · obtain ⟨zg12, W⟩ := W
    refine J_aload_no (pc' := 123) rfl rfl zg12 rfl ?_
    refine J_dup (pc' := 124) rfl rfl rfl ?_
    refine J_getI (G := 1038) (pc' := 127) rfl rfl (Nat.le_of_ble_eq_true rfl) rfl zg12 rfl ?_
    refine J_iconst (pc' := 128) rfl (i32_d rfl) rfl ?_
    obtain ⟨zg13, W⟩ := W
    refine J_isub (pc' := 129) rfl zg13 rfl ?_
    refine J_putI (G := 1038) (pc' := 132) rfl rfl (Nat.le_of_ble_eq_true rfl) rfl rfl zg12 rfl (fun zs14 ezs14 => ?_)
    replace W := W zs14 ezs14
    refine J_aload_no (pc' := 133) rfl rfl zg12 rfl ?_
    obtain ⟨zg15, W⟩ := W
    refine J_getA (G := 1031) (pc' := 136) rfl rfl (Nat.le_of_ble_eq_true rfl) rfl zg12 zg15 rfl ?_
    refine J_aload_no (pc' := 137) rfl rfl zg12 rfl ?_
    refine J_getI (G := 1034) (pc' := 140) rfl rfl (Nat.le_of_ble_eq_true rfl) rfl zg12 rfl ?_
    refine J_aload_no (pc' := 141) rfl rfl zg12 rfl ?_
    obtain ⟨zg16, W⟩ := W
    refine J_getA (G := 1037) (pc' := 144) rfl rfl (Nat.le_of_ble_eq_true rfl) rfl zg12 zg16 rfl ?_
    refine J_aload_no (pc' := 145) rfl rfl zg12 rfl ?_
    refine J_getI (G := 1038) (pc' := 148) rfl rfl (Nat.le_of_ble_eq_true rfl) rfl zg12 rfl ?_
    obtain ⟨zg17, W⟩ := W
    obtain ⟨zg18, W⟩ := W
    refine J_iald (pc' := 149) rfl rfl zg17 zg18 rfl ?_
    obtain ⟨zg20, W⟩ := W
    obtain ⟨zg21, W⟩ := W
    refine J_iast (pc' := 150) rfl rfl (by decide) zg20 zg21 rfl (fun zs19 ezs19 => ?_)
    replace W := W zs19 ezs19
    refine J_aload_no (pc' := 151) rfl rfl zg12 rfl ?_
    refine J_dup (pc' := 152) rfl rfl rfl ?_
    refine J_getI (G := 1034) (pc' := 155) rfl rfl (Nat.le_of_ble_eq_true rfl) rfl zg12 rfl ?_
    refine J_iconst (pc' := 156) rfl (i32_d rfl) rfl ?_
    obtain ⟨zg22, W⟩ := W
    refine J_iadd (pc' := 157) rfl zg22 rfl ?_
    refine J_putI (G := 1034) (pc' := 160) rfl rfl (Nat.le_of_ble_eq_true rfl) rfl rfl zg12 rfl (fun zs23 ezs23 => ?_)
    replace W := W zs23 ezs23
    obtain ⟨zg24, W⟩ := W
    refine J_iinc (L' := [some (jo 1 zo0), some (ja zF1 zp1), some (ji zx2), none, some (ji zx4), some (ji zx5), some (ji (zx6 + 1))]) (pc' := 163) rfl rfl zg24 rfl rfl ?_
    refine J_goto (pc' := 113) rfl rfl ?_
    exact W
theorem wp_Model_layGiven {n : Nat} {σ : jS} {Q : Int → jS → Prop} {zo0 : Int} {zx1 : Int} {zx2 : Int} (W : (if ¬ zx2 = 0 then J n c_Model_layGiven (some .int) 8 [some (jo 1 zo0), some (ji zx1), some (ji zx2)] [] σ (qI Q) else 0 ≤ zo0 ∧ 1 ≤ n ∧ TrV (n - 1) i_Model_newUnknowns [jo 1 zo0] σ (fun zs3 => J n c_Model_layGiven (some .int) 8 [some (jo 1 zo0), some (ji zx1), some (ji zx2)] [] zs3 (qI Q)))) : TrI n i_Model_layGiven [jo 1 zo0, ji zx1, ji zx2] σ Q := by
  refine Tr_of ax_Z_43 ?_
  show J n c_Model_layGiven (some .int) 0 [some (jo 1 zo0), some (ji zx1), some (ji zx2)] [] σ (qI Q)
  refine J_iload_n (pc' := 1) rfl rfl rfl ?_
  refine J_if (P := ¬ zx2 = 0) (t := 8) (f := 4) rfl rfl rfl jc_ne W (fun W => ?_) (fun W => ?_)
  · exact W
  · obtain ⟨zg1, W⟩ := W
    refine J_aload_no (pc' := 5) rfl rfl zg1 rfl ?_
    obtain ⟨zg2, W⟩ := W
    refine J_callV (as := [jo 1 zo0]) (rest := []) (pc' := 8) rfl rfl ax_Z_41 rfl rfl (Or.inr (Or.inr ⟨_, _, rfl, zg1⟩)) (Nat.le_of_ble_eq_true rfl) (Nat.le_of_ble_eq_true rfl) (Nat.le_of_ble_eq_true rfl) zg2 trivial trivial rfl W (fun zs3 W => ?_)
    exact W
theorem wp_Model_layGiven_8 {n : Nat} {σ : jS} {Q : Int → jS → Prop} {zo0 : Int} {zx1 : Int} {zx2 : Int} (W : 0 ≤ zo0 ∧ 0 ≤ rl σ 1011 zo0 ∧ i32 (5 * zx1) ∧ i32 ((5 * zx1) + zx2) ∧ i32 (12 * ((5 * zx1) + zx2)) ∧ 0 ≤ rl σ 1012 zo0 ∧ 0 ≤ (5 * zx1) + zx2 ∧ (5 * zx1) + zx2 < rl σ 1012 zo0 ∧ 1 ≤ n ∧ TrI (n - 1) i_Model_layRow [jo 1 zo0, ja 1011 zo0, ji (12 * ((5 * zx1) + zx2)), ji (ra σ 1012 zo0 ((5 * zx1) + zx2))] σ (fun zr11 zs10 => Q zr11 zs10)) : J n c_Model_layGiven (some .int) 8 [some (jo 1 zo0), some (ji zx1), some (ji zx2)] [] σ (qI Q) := by
  obtain ⟨zg1, W⟩ := W
  refine J_aload_no (pc' := 9) rfl rfl zg1 rfl ?_
  refine J_aload_no (pc' := 10) rfl rfl zg1 rfl ?_
  obtain ⟨zg2, W⟩ := W
  refine J_getA (G := 1011) (pc' := 13) rfl rfl (Nat.le_of_ble_eq_true rfl) rfl zg1 zg2 rfl ?_
  refine J_bipush (pc' := 15) rfl (by decide) (by decide) rfl ?_
  refine J_iconst (pc' := 16) rfl (i32_d rfl) rfl ?_
  refine J_iload_n (pc' := 17) rfl rfl rfl ?_
  obtain ⟨zg3, W⟩ := W
  refine J_imul (pc' := 18) rfl zg3 rfl ?_
  refine J_iload_n (pc' := 19) rfl rfl rfl ?_
  obtain ⟨zg4, W⟩ := W
  refine J_iadd (pc' := 20) rfl zg4 rfl ?_
  obtain ⟨zg5, W⟩ := W
  refine J_imul (pc' := 21) rfl zg5 rfl ?_
  refine J_aload_no (pc' := 22) rfl rfl zg1 rfl ?_
  obtain ⟨zg6, W⟩ := W
  refine J_getA (G := 1012) (pc' := 25) rfl rfl (Nat.le_of_ble_eq_true rfl) rfl zg1 zg6 rfl ?_
  refine J_iconst (pc' := 26) rfl (i32_d rfl) rfl ?_
  refine J_iload_n (pc' := 27) rfl rfl rfl ?_
  refine J_imul (pc' := 28) rfl zg3 rfl ?_
  refine J_iload_n (pc' := 29) rfl rfl rfl ?_
  refine J_iadd (pc' := 30) rfl zg4 rfl ?_
  obtain ⟨zg7, W⟩ := W
  obtain ⟨zg8, W⟩ := W
  refine J_iald (pc' := 31) rfl rfl zg7 zg8 rfl ?_
  obtain ⟨zg9, W⟩ := W
  refine J_weak (L' := [none, none, none]) trivial ?_
  refine J_callI (as := [jo 1 zo0, ja 1011 zo0, ji (12 * ((5 * zx1) + zx2)), ji (ra σ 1012 zo0 ((5 * zx1) + zx2))]) (rest := []) (pc' := 34) rfl rfl ax_Z_42 rfl rfl (Or.inr (Or.inr ⟨_, _, rfl, zg1⟩)) (Nat.le_of_ble_eq_true rfl) (Nat.le_of_ble_eq_true rfl) (Nat.le_of_ble_eq_true rfl) zg9 trivial trivial rfl W (fun zr11 zs10 W => ?_)
  exact J_iret rfl rfl ⟨_, rfl, W⟩
theorem wp_Model_seen {n : Nat} {σ : jS} {Q : Int → jS → Prop} {zo0 : Int} {zx1 : Int} (W : J n c_Model_seen (some .int) 2 [some (jo 1 zo0), none, some (ji zx1)] [] σ (qI Q)) : TrI n i_Model_seen [jo 1 zo0, ji zx1] σ Q := by
  refine Tr_of ax_Z_44 ?_
  show J n c_Model_seen (some .int) 0 [some (jo 1 zo0), some (ji zx1), none] [] σ (qI Q)
  refine J_iload_n (pc' := 1) rfl rfl rfl ?_
  refine J_istore_n (L' := [some (jo 1 zo0), some (ji zx1), some (ji zx1)]) (pc' := 2) rfl (Nat.le_of_ble_eq_true rfl) rfl rfl ?_
  refine J_weak (L' := [some (jo 1 zo0), none, some (ji zx1)]) (And.intro rfl (And.intro rfl trivial)) ?_
  exact W
theorem wp_Model_seen_2 {n : Nat} {σ : jS} {Q : Int → jS → Prop} {zo0 : Int} {zx2 : Int} (W : 0 ≤ zo0 ∧ 0 ≤ rl σ 1028 zo0 ∧ 0 ≤ zx2 ∧ zx2 < rl σ 1028 zo0 ∧ (if ¬ ra σ 1028 zo0 zx2 = (-1) then Q zx2 σ else 0 ≤ rl σ 1030 zo0 ∧ zx2 < rl σ 1030 zo0 ∧ (if ra σ 1030 zo0 zx2 = (-1) then Q zx2 σ else J n c_Model_seen (some .int) 2 [some (jo 1 zo0), none, some (ji (ra σ 1030 zo0 zx2))] [] σ (qI Q)))) : J n c_Model_seen (some .int) 2 [some (jo 1 zo0), none, some (ji zx2)] [] σ (qI Q) := by
  obtain ⟨zg1, W⟩ := W
  refine J_aload_no (pc' := 3) rfl rfl zg1 rfl ?_
  obtain ⟨zg2, W⟩ := W
  refine J_getA (G := 1028) (pc' := 6) rfl rfl (Nat.le_of_ble_eq_true rfl) rfl zg1 zg2 rfl ?_
  refine J_iload_n (pc' := 7) rfl rfl rfl ?_
  obtain ⟨zg3, W⟩ := W
  obtain ⟨zg4, W⟩ := W
  refine J_iald (pc' := 8) rfl rfl zg3 zg4 rfl ?_
  refine J_iconst (pc' := 9) rfl (i32_d rfl) rfl ?_
  refine J_icmp (P := ¬ ra σ 1028 zo0 zx2 = (-1)) (t := 32) (f := 12) rfl rfl rfl jc_ne W (fun W => ?_) (fun W => ?_)
  · refine J_iload_n (pc' := 33) rfl rfl rfl ?_
    exact J_iret rfl rfl ⟨_, rfl, W⟩
  · refine J_aload_no (pc' := 13) rfl rfl zg1 rfl ?_
    obtain ⟨zg5, W⟩ := W
    refine J_getA (G := 1030) (pc' := 16) rfl rfl (Nat.le_of_ble_eq_true rfl) rfl zg1 zg5 rfl ?_
    refine J_iload_n (pc' := 17) rfl rfl rfl ?_
    obtain ⟨zg6, W⟩ := W
    refine J_iald (pc' := 18) rfl rfl zg3 zg6 rfl ?_
    refine J_iconst (pc' := 19) rfl (i32_d rfl) rfl ?_
    refine J_icmp (P := ra σ 1030 zo0 zx2 = (-1)) (t := 32) (f := 22) rfl rfl rfl jc_eq W (fun W => ?_) (fun W => ?_)
    · refine J_iload_n (pc' := 33) rfl rfl rfl ?_
      exact J_iret rfl rfl ⟨_, rfl, W⟩
    · refine J_aload_no (pc' := 23) rfl rfl zg1 rfl ?_
      refine J_getA (G := 1030) (pc' := 26) rfl rfl (Nat.le_of_ble_eq_true rfl) rfl zg1 zg5 rfl ?_
      refine J_iload_n (pc' := 27) rfl rfl rfl ?_
      refine J_iald (pc' := 28) rfl rfl zg3 zg6 rfl ?_
      refine J_istore_n (L' := [some (jo 1 zo0), none, some (ji (ra σ 1030 zo0 zx2))]) (pc' := 29) rfl (Nat.le_of_ble_eq_true rfl) rfl rfl ?_
      refine J_goto (pc' := 2) rfl rfl ?_
      exact W
theorem wp_Model_tie {n : Nat} {σ : jS} {Q : jS → Prop} {zo0 : Int} {zx1 : Int} {zx2 : Int} (W : 0 ≤ zo0 ∧ 0 ≤ rl σ 1030 zo0 ∧ 0 ≤ zx1 ∧ zx1 < rl σ 1030 zo0 ∧ (∀ zs3, zs3 = wa σ 1030 zo0 zx1 zx2 → 0 ≤ rl zs3 1032 zo0 ∧ 0 ≤ rs zs3 1035 zo0 ∧ rs zs3 1035 zo0 < rl zs3 1032 zo0 ∧ (∀ zs7, zs7 = wa zs3 1032 zo0 (rs zs3 1035 zo0) zx1 → i32 ((rs zs7 1035 zo0) + 1) ∧ (∀ zs11, zs11 = ws zs7 1035 zo0 ((rs zs7 1035 zo0) + 1) → Q zs11)))) : TrV n i_Model_tie [jo 1 zo0, ji zx1, ji zx2] σ Q := by
  refine Tr_of ax_Z_45 ?_
  show J n c_Model_tie none 0 [some (jo 1 zo0), some (ji zx1), some (ji zx2)] [] σ (qV Q)
  obtain ⟨zg1, W⟩ := W
  refine J_aload_no (pc' := 1) rfl rfl zg1 rfl ?_
  obtain ⟨zg2, W⟩ := W
  refine J_getA (G := 1030) (pc' := 4) rfl rfl (Nat.le_of_ble_eq_true rfl) rfl zg1 zg2 rfl ?_
  refine J_iload_n (pc' := 5) rfl rfl rfl ?_
  refine J_iload_n (pc' := 6) rfl rfl rfl ?_
  obtain ⟨zg4, W⟩ := W
  obtain ⟨zg5, W⟩ := W
  refine J_iast (pc' := 7) rfl rfl (by decide) zg4 zg5 rfl (fun zs3 ezs3 => ?_)
  replace W := W zs3 ezs3
  refine J_aload_no (pc' := 8) rfl rfl zg1 rfl ?_
  obtain ⟨zg6, W⟩ := W
  refine J_getA (G := 1032) (pc' := 11) rfl rfl (Nat.le_of_ble_eq_true rfl) rfl zg1 zg6 rfl ?_
  refine J_aload_no (pc' := 12) rfl rfl zg1 rfl ?_
  refine J_getI (G := 1035) (pc' := 15) rfl rfl (Nat.le_of_ble_eq_true rfl) rfl zg1 rfl ?_
  refine J_iload_n (pc' := 16) rfl rfl rfl ?_
  obtain ⟨zg8, W⟩ := W
  obtain ⟨zg9, W⟩ := W
  refine J_iast (pc' := 17) rfl rfl (by decide) zg8 zg9 rfl (fun zs7 ezs7 => ?_)
  replace W := W zs7 ezs7
  refine J_aload_no (pc' := 18) rfl rfl zg1 rfl ?_
  refine J_dup (pc' := 19) rfl rfl rfl ?_
  refine J_getI (G := 1035) (pc' := 22) rfl rfl (Nat.le_of_ble_eq_true rfl) rfl zg1 rfl ?_
  refine J_iconst (pc' := 23) rfl (i32_d rfl) rfl ?_
  obtain ⟨zg10, W⟩ := W
  refine J_iadd (pc' := 24) rfl zg10 rfl ?_
  refine J_putI (G := 1035) (pc' := 27) rfl rfl (Nat.le_of_ble_eq_true rfl) rfl rfl zg1 rfl (fun zs11 ezs11 => ?_)
  replace W := W zs11 ezs11
  exact J_vret rfl rfl ⟨rfl, W⟩
theorem wp_Model_untie {n : Nat} {σ : jS} {Q : jS → Prop} {zo0 : Int} {zx1 : Int} (W : J n c_Model_untie none 0 [some (jo 1 zo0), some (ji zx1)] [] σ (qV Q)) : TrV n i_Model_untie [jo 1 zo0, ji zx1] σ Q := by
  refine Tr_of ax_Z_46 ?_
  show J n c_Model_untie none 0 [some (jo 1 zo0), some (ji zx1)] [] σ (qV Q)
  exact W
theorem wp_Model_untie_0 {n : Nat} {σ : jS} {Q : jS → Prop} {zo0 : Int} {zx1 : Int} (W : 0 ≤ zo0 ∧ (if rs σ 1035 zo0 ≤ zx1 then Q σ else i32 ((rs σ 1035 zo0) - 1) ∧ (∀ zs3, zs3 = ws σ 1035 zo0 ((rs σ 1035 zo0) - 1) → 0 ≤ rl zs3 1030 zo0 ∧ 0 ≤ rl zs3 1032 zo0 ∧ 0 ≤ rs zs3 1035 zo0 ∧ rs zs3 1035 zo0 < rl zs3 1032 zo0 ∧ 0 ≤ ra zs3 1032 zo0 (rs zs3 1035 zo0) ∧ ra zs3 1032 zo0 (rs zs3 1035 zo0) < rl zs3 1030 zo0 ∧ (∀ zs8, zs8 = wa zs3 1030 zo0 (ra zs3 1032 zo0 (rs zs3 1035 zo0)) (-1) → J n c_Model_untie none 0 [some (jo 1 zo0), some (ji zx1)] [] zs8 (qV Q))))) : J n c_Model_untie none 0 [some (jo 1 zo0), some (ji zx1)] [] σ (qV Q) := by
  obtain ⟨zg1, W⟩ := W
  refine J_aload_no (pc' := 1) rfl rfl zg1 rfl ?_
  refine J_getI (G := 1035) (pc' := 4) rfl rfl (Nat.le_of_ble_eq_true rfl) rfl zg1 rfl ?_
  refine J_iload_n (pc' := 5) rfl rfl rfl ?_
  refine J_icmp (P := rs σ 1035 zo0 ≤ zx1) (t := 36) (f := 8) rfl rfl rfl jc_le W (fun W => ?_) (fun W => ?_)
  · exact J_vret rfl rfl ⟨rfl, W⟩
  · refine J_aload_no (pc' := 9) rfl rfl zg1 rfl ?_
    refine J_dup (pc' := 10) rfl rfl rfl ?_
    refine J_getI (G := 1035) (pc' := 13) rfl rfl (Nat.le_of_ble_eq_true rfl) rfl zg1 rfl ?_
    refine J_iconst (pc' := 14) rfl (i32_d rfl) rfl ?_
    obtain ⟨zg2, W⟩ := W
    refine J_isub (pc' := 15) rfl zg2 rfl ?_
    refine J_putI (G := 1035) (pc' := 18) rfl rfl (Nat.le_of_ble_eq_true rfl) rfl rfl zg1 rfl (fun zs3 ezs3 => ?_)
    replace W := W zs3 ezs3
    refine J_aload_no (pc' := 19) rfl rfl zg1 rfl ?_
    obtain ⟨zg4, W⟩ := W
    refine J_getA (G := 1030) (pc' := 22) rfl rfl (Nat.le_of_ble_eq_true rfl) rfl zg1 zg4 rfl ?_
    refine J_aload_no (pc' := 23) rfl rfl zg1 rfl ?_
    obtain ⟨zg5, W⟩ := W
    refine J_getA (G := 1032) (pc' := 26) rfl rfl (Nat.le_of_ble_eq_true rfl) rfl zg1 zg5 rfl ?_
    refine J_aload_no (pc' := 27) rfl rfl zg1 rfl ?_
    refine J_getI (G := 1035) (pc' := 30) rfl rfl (Nat.le_of_ble_eq_true rfl) rfl zg1 rfl ?_
    obtain ⟨zg6, W⟩ := W
    obtain ⟨zg7, W⟩ := W
    refine J_iald (pc' := 31) rfl rfl zg6 zg7 rfl ?_
    refine J_iconst (pc' := 32) rfl (i32_d rfl) rfl ?_
    obtain ⟨zg9, W⟩ := W
    obtain ⟨zg10, W⟩ := W
    refine J_iast (pc' := 33) rfl rfl (by decide) zg9 zg10 rfl (fun zs8 ezs8 => ?_)
    replace W := W zs8 ezs8
    refine J_goto (pc' := 0) rfl rfl ?_
    exact W
theorem wp_Model_isWithin {n : Nat} {σ : jS} {Q : Int → jS → Prop} {zo0 : Int} {zx1 : Int} {zx2 : Int} (W : 0 ≤ zo0 ∧ 0 ≤ rl σ 1039 zo0 ∧ 0 < rl σ 1039 zo0 ∧ (∀ zs3, zs3 = wa σ 1039 zo0 0 zx2 → J n c_Model_isWithin (some .boolean) 9 [some (jo 1 zo0), some (ji zx1), none, some (ji 1), none, none] [] zs3 (qI Q))) : TrI n i_Model_isWithin [jo 1 zo0, ji zx1, ji zx2] σ Q := by
  refine Tr_of ax_Z_47 ?_
  show J n c_Model_isWithin (some .boolean) 0 [some (jo 1 zo0), some (ji zx1), some (ji zx2), none, none, none] [] σ (qI Q)
  refine J_iconst (pc' := 1) rfl (i32_d rfl) rfl ?_
  refine J_istore_n (L' := [some (jo 1 zo0), some (ji zx1), some (ji zx2), some (ji 1), none, none]) (pc' := 2) rfl (Nat.le_of_ble_eq_true rfl) rfl rfl ?_
  obtain ⟨zg1, W⟩ := W
  refine J_aload_no (pc' := 3) rfl rfl zg1 rfl ?_
  obtain ⟨zg2, W⟩ := W
  refine J_getA (G := 1039) (pc' := 6) rfl rfl (Nat.le_of_ble_eq_true rfl) rfl zg1 zg2 rfl ?_
  refine J_iconst (pc' := 7) rfl (i32_d rfl) rfl ?_
  refine J_iload_n (pc' := 8) rfl rfl rfl ?_
  obtain ⟨zg4, W⟩ := W
  refine J_iast (pc' := 9) rfl rfl (by decide) (by decide) zg4 rfl (fun zs3 ezs3 => ?_)
  replace W := W zs3 ezs3
  refine J_weak (L' := [some (jo 1 zo0), some (ji zx1), none, some (ji 1), none, none]) (And.intro rfl (And.intro rfl (And.intro rfl trivial))) ?_
  exact W
theorem wp_Model_isWithin_9 {n : Nat} {σ : jS} {Q : Int → jS → Prop} {zo0 : Int} {zx1 : Int} {zx3 : Int} (W : (if zx3 ≤ 0 then Q 0 σ else i32 (zx3 + (-1)) ∧ 0 ≤ zo0 ∧ 0 ≤ rl σ 1039 zo0 ∧ 0 ≤ zx3 + (-1) ∧ zx3 + (-1) < rl σ 1039 zo0 ∧ 1 ≤ n ∧ TrI (n - 1) i_Model_seen [jo 1 zo0, ji (ra σ 1039 zo0 (zx3 + (-1)))] σ (fun zr8 zs7 => (if ¬ zr8 = zx1 then J n c_Model_isWithin (some .boolean) 39 [some (jo 1 zo0), some (ji zx1), none, some (ji (zx3 + (-1))), some (ji zr8), some (ji 0)] [] zs7 (qI Q) else Q 1 zs7)))) : J n c_Model_isWithin (some .boolean) 9 [some (jo 1 zo0), some (ji zx1), none, some (ji zx3), none, none] [] σ (qI Q) := by
  refine J_iload_n (pc' := 10) rfl rfl rfl ?_
  refine J_if (P := zx3 ≤ 0) (t := 87) (f := 13) rfl rfl rfl jc_le W (fun W => ?_) (fun W => ?_)
  · refine J_iconst (pc' := 88) rfl (i32_d rfl) rfl ?_
    exact J_zret rfl rfl (Or.inl rfl) ⟨_, rfl, W⟩
  · obtain ⟨zg1, W⟩ := W
    refine J_iinc (L' := [some (jo 1 zo0), some (ji zx1), none, some (ji (zx3 + (-1))), none, none]) (pc' := 16) rfl rfl zg1 rfl rfl ?_
    obtain ⟨zg2, W⟩ := W
    refine J_aload_no (pc' := 17) rfl rfl zg2 rfl ?_
    refine J_aload_no (pc' := 18) rfl rfl zg2 rfl ?_
    obtain ⟨zg3, W⟩ := W
    refine J_getA (G := 1039) (pc' := 21) rfl rfl (Nat.le_of_ble_eq_true rfl) rfl zg2 zg3 rfl ?_
    refine J_iload_n (pc' := 22) rfl rfl rfl ?_
    obtain ⟨zg4, W⟩ := W
    obtain ⟨zg5, W⟩ := W
    refine J_iald (pc' := 23) rfl rfl zg4 zg5 rfl ?_
    obtain ⟨zg6, W⟩ := W
    refine J_callI (as := [jo 1 zo0, ji (ra σ 1039 zo0 (zx3 + (-1)))]) (rest := []) (pc' := 26) rfl rfl ax_Z_44 rfl rfl (Or.inr (Or.inr ⟨_, _, rfl, zg2⟩)) (Nat.le_of_ble_eq_true rfl) (Nat.le_of_ble_eq_true rfl) (Nat.le_of_ble_eq_true rfl) zg6 trivial trivial rfl W (fun zr8 zs7 W => ?_)
    refine J_istore (L' := [some (jo 1 zo0), some (ji zx1), none, some (ji (zx3 + (-1))), some (ji zr8), none]) (pc' := 28) rfl (Nat.le_of_ble_eq_true rfl) rfl rfl ?_
    refine J_iload (pc' := 30) rfl rfl rfl ?_
    refine J_iload_n (pc' := 31) rfl rfl rfl ?_
    refine J_icmp (P := ¬ zr8 = zx1) (t := 36) (f := 34) rfl rfl rfl jc_ne W (fun W => ?_) (fun W => ?_)
    · refine J_iconst (pc' := 37) rfl (i32_d rfl) rfl ?_
      refine J_istore (L' := [some (jo 1 zo0), some (ji zx1), none, some (ji (zx3 + (-1))), some (ji zr8), some (ji 0)]) (pc' := 39) rfl (Nat.le_of_ble_eq_true rfl) rfl rfl ?_
      exact W
    · refine J_iconst (pc' := 35) rfl (i32_d rfl) rfl ?_
      exact J_zret rfl rfl (Or.inr rfl) ⟨_, rfl, W⟩
theorem wp_Model_isWithin_39 {n : Nat} {σ : jS} {Q : Int → jS → Prop} {zo0 : Int} {zx1 : Int} {zx3 : Int} {zx4 : Int} {zx5 : Int} (W : 0 ≤ zo0 ∧ 0 ≤ rl σ 1028 zo0 ∧ 0 ≤ zx4 ∧ zx4 < rl σ 1028 zo0 ∧ 1 ≤ n ∧ TrI (n - 1) i_Model_partsOf [ji (ra σ 1028 zo0 zx4)] σ (fun zr7 zs6 => (if zr7 ≤ zx5 then J n c_Model_isWithin (some .boolean) 9 [some (jo 1 zo0), some (ji zx1), none, some (ji zx3), none, none] [] zs6 (qI Q) else 0 ≤ rl zs6 1039 zo0 ∧ 0 ≤ rl zs6 1031 zo0 ∧ 0 ≤ rl zs6 1029 zo0 ∧ zx4 < rl zs6 1029 zo0 ∧ i32 ((ra zs6 1029 zo0 zx4) + zx5) ∧ 0 ≤ (ra zs6 1029 zo0 zx4) + zx5 ∧ (ra zs6 1029 zo0 zx4) + zx5 < rl zs6 1031 zo0 ∧ 0 ≤ zx3 ∧ zx3 < rl zs6 1039 zo0 ∧ (∀ zs15, zs15 = wa zs6 1039 zo0 zx3 (ra zs6 1031 zo0 ((ra zs6 1029 zo0 zx4) + zx5)) → i32 (zx3 + 1) ∧ i32 (zx5 + 1) ∧ J n c_Model_isWithin (some .boolean) 39 [some (jo 1 zo0), some (ji zx1), none, some (ji (zx3 + 1)), some (ji zx4), some (ji (zx5 + 1))] [] zs15 (qI Q))))) : J n c_Model_isWithin (some .boolean) 39 [some (jo 1 zo0), some (ji zx1), none, some (ji zx3), some (ji zx4), some (ji zx5)] [] σ (qI Q) := by
  refine J_iload (pc' := 41) rfl rfl rfl ?_
  obtain ⟨zg1, W⟩ := W
  refine J_aload_no (pc' := 42) rfl rfl zg1 rfl ?_
  obtain ⟨zg2, W⟩ := W
  refine J_getA (G := 1028) (pc' := 45) rfl rfl (Nat.le_of_ble_eq_true rfl) rfl zg1 zg2 rfl ?_
  refine J_iload (pc' := 47) rfl rfl rfl ?_
  obtain ⟨zg3, W⟩ := W
  obtain ⟨zg4, W⟩ := W
  refine J_iald (pc' := 48) rfl rfl zg3 zg4 rfl ?_
  obtain ⟨zg5, W⟩ := W
  refine J_callI (as := [ji (ra σ 1028 zo0 zx4)]) (rest := [ji zx5]) (pc' := 51) rfl rfl ax_Z_5 rfl rfl (Or.inl rfl) (Nat.le_of_ble_eq_true rfl) (Nat.le_of_ble_eq_true rfl) (Nat.le_of_ble_eq_true rfl) zg5 trivial trivial rfl W (fun zr7 zs6 W => ?_)
  refine J_icmp (P := zr7 ≤ zx5) (t := 84) (f := 54) rfl rfl rfl jc_ge W (fun W => ?_) (fun W => ?_)
  · refine J_goto (pc' := 9) rfl rfl ?_
    refine J_weak (L' := [some (jo 1 zo0), some (ji zx1), none, some (ji zx3), none, none]) (And.intro rfl (And.intro rfl (And.intro rfl trivial))) ?_
    exact W
  · refine J_aload_no (pc' := 55) rfl rfl zg1 rfl ?_
    obtain ⟨zg8, W⟩ := W
    refine J_getA (G := 1039) (pc' := 58) rfl rfl (Nat.le_of_ble_eq_true rfl) rfl zg1 zg8 rfl ?_
    refine J_iload_n (pc' := 59) rfl rfl rfl ?_
    refine J_aload_no (pc' := 60) rfl rfl zg1 rfl ?_
    obtain ⟨zg9, W⟩ := W
    refine J_getA (G := 1031) (pc' := 63) rfl rfl (Nat.le_of_ble_eq_true rfl) rfl zg1 zg9 rfl ?_
    refine J_aload_no (pc' := 64) rfl rfl zg1 rfl ?_
    obtain ⟨zg10, W⟩ := W
    refine J_getA (G := 1029) (pc' := 67) rfl rfl (Nat.le_of_ble_eq_true rfl) rfl zg1 zg10 rfl ?_
    refine J_iload (pc' := 69) rfl rfl rfl ?_
    obtain ⟨zg11, W⟩ := W
    refine J_iald (pc' := 70) rfl rfl zg3 zg11 rfl ?_
    refine J_iload (pc' := 72) rfl rfl rfl ?_
    obtain ⟨zg12, W⟩ := W
    refine J_iadd (pc' := 73) rfl zg12 rfl ?_
    obtain ⟨zg13, W⟩ := W
    obtain ⟨zg14, W⟩ := W
    refine J_iald (pc' := 74) rfl rfl zg13 zg14 rfl ?_
    obtain ⟨zg16, W⟩ := W
    obtain ⟨zg17, W⟩ := W
    refine J_iast (pc' := 75) rfl rfl (by decide) zg16 zg17 rfl (fun zs15 ezs15 => ?_)
    replace W := W zs15 ezs15
    obtain ⟨zg18, W⟩ := W
    refine J_iinc (L' := [some (jo 1 zo0), some (ji zx1), none, some (ji (zx3 + 1)), some (ji zx4), some (ji zx5)]) (pc' := 78) rfl rfl zg18 rfl rfl ?_
    obtain ⟨zg19, W⟩ := W
    refine J_iinc (L' := [some (jo 1 zo0), some (ji zx1), none, some (ji (zx3 + 1)), some (ji zx4), some (ji (zx5 + 1))]) (pc' := 81) rfl rfl zg19 rfl rfl ?_
    refine J_goto (pc' := 39) rfl rfl ?_
    exact W
set_option maxRecDepth 16000 in
theorem wp_Model_isUnified {n : Nat} {σ : jS} {Q : Int → jS → Prop} {zo0 : Int} {zx1 : Int} {zx2 : Int} (W : 0 ≤ zo0 ∧ 0 ≤ rl σ 1040 zo0 ∧ 0 < rl σ 1040 zo0 ∧ (∀ zs3, zs3 = wa σ 1040 zo0 0 zx1 → 0 ≤ rl zs3 1040 zo0 ∧ 1 < rl zs3 1040 zo0 ∧ (∀ zs6, zs6 = wa zs3 1040 zo0 1 zx2 → J n c_Model_isUnified (some .boolean) 16 [some (jo 1 zo0), none, none, some (ji 2), none, none, none, none] [] zs6 (qI Q)))) : TrI n i_Model_isUnified [jo 1 zo0, ji zx1, ji zx2] σ Q := by
  refine Tr_of ax_Z_48 ?_
  show J n c_Model_isUnified (some .boolean) 0 [some (jo 1 zo0), some (ji zx1), some (ji zx2), none, none, none, none, none] [] σ (qI Q)
  refine J_iconst (pc' := 1) rfl (i32_d rfl) rfl ?_
  refine J_istore_n (L' := [some (jo 1 zo0), some (ji zx1), some (ji zx2), some (ji 2), none, none, none, none]) (pc' := 2) rfl (Nat.le_of_ble_eq_true rfl) rfl rfl ?_
  obtain ⟨zg1, W⟩ := W
  refine J_aload_no (pc' := 3) rfl rfl zg1 rfl ?_
  obtain ⟨zg2, W⟩ := W
  refine J_getA (G := 1040) (pc' := 6) rfl rfl (Nat.le_of_ble_eq_true rfl) rfl zg1 zg2 rfl ?_
  refine J_iconst (pc' := 7) rfl (i32_d rfl) rfl ?_
  refine J_iload_n (pc' := 8) rfl rfl rfl ?_
  obtain ⟨zg4, W⟩ := W
  refine J_iast (pc' := 9) rfl rfl (by decide) (by decide) zg4 rfl (fun zs3 ezs3 => ?_)
  replace W := W zs3 ezs3
  refine J_aload_no (pc' := 10) rfl rfl zg1 rfl ?_
  obtain ⟨zg5, W⟩ := W
  refine J_getA (G := 1040) (pc' := 13) rfl rfl (Nat.le_of_ble_eq_true rfl) rfl zg1 zg5 rfl ?_
  refine J_iconst (pc' := 14) rfl (i32_d rfl) rfl ?_
  refine J_iload_n (pc' := 15) rfl rfl rfl ?_
  obtain ⟨zg7, W⟩ := W
  refine J_iast (pc' := 16) rfl rfl (by decide) (by decide) zg7 rfl (fun zs6 ezs6 => ?_)
  replace W := W zs6 ezs6
  refine J_weak (L' := [some (jo 1 zo0), none, none, some (ji 2), none, none, none, none]) (And.intro rfl (And.intro rfl trivial)) ?_
  exact W
set_option maxRecDepth 16000 in
theorem wp_Model_isUnified_16 {n : Nat} {σ : jS} {Q : Int → jS → Prop} {zo0 : Int} {zx3 : Int} (W : (if zx3 ≤ 0 then Q 1 σ else i32 (zx3 + (-2)) ∧ 0 ≤ zo0 ∧ 0 ≤ rl σ 1040 zo0 ∧ 0 ≤ zx3 + (-2) ∧ zx3 + (-2) < rl σ 1040 zo0 ∧ 1 ≤ n ∧ TrI (n - 1) i_Model_seen [jo 1 zo0, ji (ra σ 1040 zo0 (zx3 + (-2)))] σ (fun zr8 zs7 => 0 ≤ rl zs7 1040 zo0 ∧ i32 ((zx3 + (-2)) + 1) ∧ 0 ≤ (zx3 + (-2)) + 1 ∧ (zx3 + (-2)) + 1 < rl zs7 1040 zo0 ∧ TrI (n - 1) i_Model_seen [jo 1 zo0, ji (ra zs7 1040 zo0 ((zx3 + (-2)) + 1))] zs7 (fun zr14 zs13 => (if ¬ zr8 = zr14 then 0 ≤ rl zs13 1028 zo0 ∧ 0 ≤ zr8 ∧ zr8 < rl zs13 1028 zo0 ∧ (if ra zs13 1028 zo0 zr8 = (-1) then J n c_Model_isUnified (some .boolean) 81 [some (jo 1 zo0), none, none, some (ji (zx3 + (-2))), some (ji zr8), some (ji zr14), none, none] [] zs13 (qI Q) else 0 ≤ zr14 ∧ zr14 < rl zs13 1028 zo0 ∧ (if ¬ ra zs13 1028 zo0 zr14 = (-1) then (if ra zs13 1028 zo0 zr8 = ra zs13 1028 zo0 zr14 then J n c_Model_isUnified (some .boolean) 163 [some (jo 1 zo0), none, none, some (ji (zx3 + (-2))), some (ji zr8), some (ji zr14), some (ji 0), none] [] zs13 (qI Q) else Q 0 zs13) else J n c_Model_isUnified (some .boolean) 81 [some (jo 1 zo0), none, none, some (ji (zx3 + (-2))), some (ji zr8), some (ji zr14), none, none] [] zs13 (qI Q))) else J n c_Model_isUnified (some .boolean) 16 [some (jo 1 zo0), none, none, some (ji (zx3 + (-2))), none, none, none, none] [] zs13 (qI Q)))))) : J n c_Model_isUnified (some .boolean) 16 [some (jo 1 zo0), none, none, some (ji zx3), none, none, none, none] [] σ (qI Q) := by
  refine J_iload_n (pc' := 17) rfl rfl rfl ?_
  refine J_if (P := zx3 ≤ 0) (t := 234) (f := 20) rfl rfl rfl jc_le W (fun W => ?_) (fun W => ?_)
  · refine J_iconst (pc' := 235) rfl (i32_d rfl) rfl ?_
    exact J_zret rfl rfl (Or.inr rfl) ⟨_, rfl, W⟩
  · obtain ⟨zg1, W⟩ := W
    refine J_iinc (L' := [some (jo 1 zo0), none, none, some (ji (zx3 + (-2))), none, none, none, none]) (pc' := 23) rfl rfl zg1 rfl rfl ?_
    obtain ⟨zg2, W⟩ := W
    refine J_aload_no (pc' := 24) rfl rfl zg2 rfl ?_
    refine J_aload_no (pc' := 25) rfl rfl zg2 rfl ?_
    obtain ⟨zg3, W⟩ := W
    refine J_getA (G := 1040) (pc' := 28) rfl rfl (Nat.le_of_ble_eq_true rfl) rfl zg2 zg3 rfl ?_
    refine J_iload_n (pc' := 29) rfl rfl rfl ?_
    obtain ⟨zg4, W⟩ := W
    obtain ⟨zg5, W⟩ := W
    refine J_iald (pc' := 30) rfl rfl zg4 zg5 rfl ?_
    obtain ⟨zg6, W⟩ := W
    refine J_callI (as := [jo 1 zo0, ji (ra σ 1040 zo0 (zx3 + (-2)))]) (rest := []) (pc' := 33) rfl rfl ax_Z_44 rfl rfl (Or.inr (Or.inr ⟨_, _, rfl, zg2⟩)) (Nat.le_of_ble_eq_true rfl) (Nat.le_of_ble_eq_true rfl) (Nat.le_of_ble_eq_true rfl) zg6 trivial trivial rfl W (fun zr8 zs7 W => ?_)
    refine J_istore (L' := [some (jo 1 zo0), none, none, some (ji (zx3 + (-2))), some (ji zr8), none, none, none]) (pc' := 35) rfl (Nat.le_of_ble_eq_true rfl) rfl rfl ?_
    refine J_aload_no (pc' := 36) rfl rfl zg2 rfl ?_
    refine J_aload_no (pc' := 37) rfl rfl zg2 rfl ?_
    obtain ⟨zg9, W⟩ := W
    refine J_getA (G := 1040) (pc' := 40) rfl rfl (Nat.le_of_ble_eq_true rfl) rfl zg2 zg9 rfl ?_
    refine J_iload_n (pc' := 41) rfl rfl rfl ?_
    refine J_iconst (pc' := 42) rfl (i32_d rfl) rfl ?_
    obtain ⟨zg10, W⟩ := W
    refine J_iadd (pc' := 43) rfl zg10 rfl ?_
    obtain ⟨zg11, W⟩ := W
    obtain ⟨zg12, W⟩ := W
    refine J_iald (pc' := 44) rfl rfl zg11 zg12 rfl ?_
    refine J_callI (as := [jo 1 zo0, ji (ra zs7 1040 zo0 ((zx3 + (-2)) + 1))]) (rest := []) (pc' := 47) rfl rfl ax_Z_44 rfl rfl (Or.inr (Or.inr ⟨_, _, rfl, zg2⟩)) (Nat.le_of_ble_eq_true rfl) (Nat.le_of_ble_eq_true rfl) (Nat.le_of_ble_eq_true rfl) zg6 trivial trivial rfl W (fun zr14 zs13 W => ?_)
    refine J_istore (L' := [some (jo 1 zo0), none, none, some (ji (zx3 + (-2))), some (ji zr8), some (ji zr14), none, none]) (pc' := 49) rfl (Nat.le_of_ble_eq_true rfl) rfl rfl ?_
    refine J_iload (pc' := 51) rfl rfl rfl ?_
    refine J_iload (pc' := 53) rfl rfl rfl ?_
    refine J_icmp (P := ¬ zr8 = zr14) (t := 59) (f := 56) rfl rfl rfl jc_ne W (fun W => ?_) (fun W => ?_)
    · refine J_aload_no (pc' := 60) rfl rfl zg2 rfl ?_
      obtain ⟨zg15, W⟩ := W
      refine J_getA (G := 1028) (pc' := 63) rfl rfl (Nat.le_of_ble_eq_true rfl) rfl zg2 zg15 rfl ?_
      refine J_iload (pc' := 65) rfl rfl rfl ?_
      obtain ⟨zg16, W⟩ := W
      obtain ⟨zg17, W⟩ := W
      refine J_iald (pc' := 66) rfl rfl zg16 zg17 rfl ?_
      refine J_iconst (pc' := 67) rfl (i32_d rfl) rfl ?_
      refine J_icmp (P := ra zs13 1028 zo0 zr8 = (-1)) (t := 81) (f := 70) rfl rfl rfl jc_eq W (fun W => ?_) (fun W => ?_)
      · exact W
      · refine J_aload_no (pc' := 71) rfl rfl zg2 rfl ?_
        refine J_getA (G := 1028) (pc' := 74) rfl rfl (Nat.le_of_ble_eq_true rfl) rfl zg2 zg15 rfl ?_
        refine J_iload (pc' := 76) rfl rfl rfl ?_
        obtain ⟨zg18, W⟩ := W
        obtain ⟨zg19, W⟩ := W
        refine J_iald (pc' := 77) rfl rfl zg18 zg19 rfl ?_
        refine J_iconst (pc' := 78) rfl (i32_d rfl) rfl ?_
        refine J_icmp (P := ¬ ra zs13 1028 zo0 zr14 = (-1)) (t := 141) (f := 81) rfl rfl rfl jc_ne W (fun W => ?_) (fun W => ?_)
        · refine J_aload_no (pc' := 142) rfl rfl zg2 rfl ?_
          refine J_getA (G := 1028) (pc' := 145) rfl rfl (Nat.le_of_ble_eq_true rfl) rfl zg2 zg15 rfl ?_
          refine J_iload (pc' := 147) rfl rfl rfl ?_
          refine J_iald (pc' := 148) rfl rfl zg16 zg17 rfl ?_
          refine J_aload_no (pc' := 149) rfl rfl zg2 rfl ?_
          refine J_getA (G := 1028) (pc' := 152) rfl rfl (Nat.le_of_ble_eq_true rfl) rfl zg2 zg15 rfl ?_
          refine J_iload (pc' := 154) rfl rfl rfl ?_
          refine J_iald (pc' := 155) rfl rfl zg18 zg19 rfl ?_
          refine J_icmp (P := ra zs13 1028 zo0 zr8 = ra zs13 1028 zo0 zr14) (t := 160) (f := 158) rfl rfl rfl jc_eq W (fun W => ?_) (fun W => ?_)
          · refine J_iconst (pc' := 161) rfl (i32_d rfl) rfl ?_
            refine J_istore (L' := [some (jo 1 zo0), none, none, some (ji (zx3 + (-2))), some (ji zr8), some (ji zr14), some (ji 0), none]) (pc' := 163) rfl (Nat.le_of_ble_eq_true rfl) rfl rfl ?_
            exact W
          · refine J_iconst (pc' := 159) rfl (i32_d rfl) rfl ?_
            exact J_zret rfl rfl (Or.inl rfl) ⟨_, rfl, W⟩
        · exact W
    · refine J_goto (pc' := 16) rfl rfl ?_
      refine J_weak (L' := [some (jo 1 zo0), none, none, some (ji (zx3 + (-2))), none, none, none, none]) (And.intro rfl (And.intro rfl trivial)) ?_
      exact W
set_option maxRecDepth 16000 in
theorem wp_Model_isUnified_81 {n : Nat} {σ : jS} {Q : Int → jS → Prop} {zo0 : Int} {zx3 : Int} {zx4 : Int} {zx5 : Int} (W : 0 ≤ zo0 ∧ 0 ≤ rl σ 1028 zo0 ∧ 0 ≤ zx4 ∧ zx4 < rl σ 1028 zo0 ∧ (if ¬ ra σ 1028 zo0 zx4 = (-1) then (if ¬ zx5 = zx4 then 1 ≤ n ∧ TrI (n - 1) i_Model_isWithin [jo 1 zo0, ji zx5, ji zx4] σ (fun zr7 zs6 => (if zr7 = 0 then TrV (n - 1) i_Model_tie [jo 1 zo0, ji zx5, ji zx4] zs6 (fun zs8 => J n c_Model_isUnified (some .boolean) 16 [some (jo 1 zo0), none, none, some (ji zx3), none, none, none, none] [] zs8 (qI Q)) else Q 0 zs6)) else 1 ≤ n ∧ TrI (n - 1) i_Model_isWithin [jo 1 zo0, ji zx5, ji zx5] σ (fun zr12 zs11 => (if zr12 = 0 then TrV (n - 1) i_Model_tie [jo 1 zo0, ji zx5, ji zx5] zs11 (fun zs13 => J n c_Model_isUnified (some .boolean) 16 [some (jo 1 zo0), none, none, some (ji zx3), none, none, none, none] [] zs13 (qI Q)) else Q 0 zs11))) else (if ¬ zx4 = zx4 then 1 ≤ n ∧ TrI (n - 1) i_Model_isWithin [jo 1 zo0, ji zx4, ji zx4] σ (fun zr17 zs16 => (if zr17 = 0 then TrV (n - 1) i_Model_tie [jo 1 zo0, ji zx4, ji zx4] zs16 (fun zs18 => J n c_Model_isUnified (some .boolean) 16 [some (jo 1 zo0), none, none, some (ji zx3), none, none, none, none] [] zs18 (qI Q)) else Q 0 zs16)) else 1 ≤ n ∧ TrI (n - 1) i_Model_isWithin [jo 1 zo0, ji zx4, ji zx5] σ (fun zr22 zs21 => (if zr22 = 0 then TrV (n - 1) i_Model_tie [jo 1 zo0, ji zx4, ji zx5] zs21 (fun zs23 => J n c_Model_isUnified (some .boolean) 16 [some (jo 1 zo0), none, none, some (ji zx3), none, none, none, none] [] zs23 (qI Q)) else Q 0 zs21))))) : J n c_Model_isUnified (some .boolean) 81 [some (jo 1 zo0), none, none, some (ji zx3), some (ji zx4), some (ji zx5), none, none] [] σ (qI Q) := by
  obtain ⟨zg1, W⟩ := W
  refine J_aload_no (pc' := 82) rfl rfl zg1 rfl ?_
  obtain ⟨zg2, W⟩ := W
  refine J_getA (G := 1028) (pc' := 85) rfl rfl (Nat.le_of_ble_eq_true rfl) rfl zg1 zg2 rfl ?_
  refine J_iload (pc' := 87) rfl rfl rfl ?_
  obtain ⟨zg3, W⟩ := W
  obtain ⟨zg4, W⟩ := W
  refine J_iald (pc' := 88) rfl rfl zg3 zg4 rfl ?_
  refine J_iconst (pc' := 89) rfl (i32_d rfl) rfl ?_
  refine J_icmp (P := ¬ ra σ 1028 zo0 zx4 = (-1)) (t := 97) (f := 92) rfl rfl rfl jc_ne W (fun W => ?_) (fun W => ?_)
  · refine J_iload (pc' := 99) rfl rfl rfl ?_
    refine J_istore (L' := [some (jo 1 zo0), none, none, some (ji zx3), some (ji zx4), some (ji zx5), some (ji zx5), none]) (pc' := 101) rfl (Nat.le_of_ble_eq_true rfl) rfl rfl ?_
    refine J_iload (pc' := 103) rfl rfl rfl ?_
    refine J_iload (pc' := 105) rfl rfl rfl ?_
    refine J_icmp (P := ¬ zx5 = zx4) (t := 113) (f := 108) rfl rfl rfl jc_ne W (fun W => ?_) (fun W => ?_)
    · refine J_iload (pc' := 115) rfl rfl rfl ?_
      refine J_istore (L' := [some (jo 1 zo0), none, none, some (ji zx3), some (ji zx4), some (ji zx5), some (ji zx5), some (ji zx4)]) (pc' := 117) rfl (Nat.le_of_ble_eq_true rfl) rfl rfl ?_
      refine J_aload_no (pc' := 118) rfl rfl zg1 rfl ?_
      refine J_iload (pc' := 120) rfl rfl rfl ?_
      refine J_iload (pc' := 122) rfl rfl rfl ?_
      obtain ⟨zg5, W⟩ := W
      refine J_weak (L' := [some (jo 1 zo0), none, none, some (ji zx3), none, none, some (ji zx5), some (ji zx4)]) (And.intro rfl (And.intro rfl (And.intro rfl (And.intro rfl trivial)))) ?_
      refine J_callI (as := [jo 1 zo0, ji zx5, ji zx4]) (rest := []) (pc' := 125) rfl rfl ax_Z_47 rfl rfl (Or.inr (Or.inr ⟨_, _, rfl, zg1⟩)) (Nat.le_of_ble_eq_true rfl) (Nat.le_of_ble_eq_true rfl) (Nat.le_of_ble_eq_true rfl) zg5 trivial trivial rfl W (fun zr7 zs6 W => ?_)
      refine J_if (P := zr7 = 0) (t := 130) (f := 128) rfl rfl rfl jc_eq W (fun W => ?_) (fun W => ?_)
      · refine J_aload_no (pc' := 131) rfl rfl zg1 rfl ?_
        refine J_iload (pc' := 133) rfl rfl rfl ?_
        refine J_iload (pc' := 135) rfl rfl rfl ?_
        refine J_weak (L' := [some (jo 1 zo0), none, none, some (ji zx3), none, none, none, none]) (And.intro rfl (And.intro rfl trivial)) ?_
        refine J_callV (as := [jo 1 zo0, ji zx5, ji zx4]) (rest := []) (pc' := 138) rfl rfl ax_Z_45 rfl rfl (Or.inr (Or.inr ⟨_, _, rfl, zg1⟩)) (Nat.le_of_ble_eq_true rfl) (Nat.le_of_ble_eq_true rfl) (Nat.le_of_ble_eq_true rfl) zg5 trivial trivial rfl W (fun zs8 W => ?_)
        refine J_goto (pc' := 16) rfl rfl ?_
        exact W
      · refine J_iconst (pc' := 129) rfl (i32_d rfl) rfl ?_
        exact J_zret rfl rfl (Or.inl rfl) ⟨_, rfl, W⟩
    · refine J_iload (pc' := 110) rfl rfl rfl ?_
      refine J_goto (pc' := 115) rfl rfl ?_
      refine J_istore (L' := [some (jo 1 zo0), none, none, some (ji zx3), some (ji zx4), some (ji zx5), some (ji zx5), some (ji zx5)]) (pc' := 117) rfl (Nat.le_of_ble_eq_true rfl) rfl rfl ?_
      refine J_aload_no (pc' := 118) rfl rfl zg1 rfl ?_
      refine J_iload (pc' := 120) rfl rfl rfl ?_
      refine J_iload (pc' := 122) rfl rfl rfl ?_
      obtain ⟨zg10, W⟩ := W
      refine J_weak (L' := [some (jo 1 zo0), none, none, some (ji zx3), none, none, some (ji zx5), some (ji zx5)]) (And.intro rfl (And.intro rfl (And.intro rfl (And.intro rfl trivial)))) ?_
      refine J_callI (as := [jo 1 zo0, ji zx5, ji zx5]) (rest := []) (pc' := 125) rfl rfl ax_Z_47 rfl rfl (Or.inr (Or.inr ⟨_, _, rfl, zg1⟩)) (Nat.le_of_ble_eq_true rfl) (Nat.le_of_ble_eq_true rfl) (Nat.le_of_ble_eq_true rfl) zg10 trivial trivial rfl W (fun zr12 zs11 W => ?_)
      refine J_if (P := zr12 = 0) (t := 130) (f := 128) rfl rfl rfl jc_eq W (fun W => ?_) (fun W => ?_)
      · refine J_aload_no (pc' := 131) rfl rfl zg1 rfl ?_
        refine J_iload (pc' := 133) rfl rfl rfl ?_
        refine J_iload (pc' := 135) rfl rfl rfl ?_
        refine J_weak (L' := [some (jo 1 zo0), none, none, some (ji zx3), none, none, none, none]) (And.intro rfl (And.intro rfl trivial)) ?_
        refine J_callV (as := [jo 1 zo0, ji zx5, ji zx5]) (rest := []) (pc' := 138) rfl rfl ax_Z_45 rfl rfl (Or.inr (Or.inr ⟨_, _, rfl, zg1⟩)) (Nat.le_of_ble_eq_true rfl) (Nat.le_of_ble_eq_true rfl) (Nat.le_of_ble_eq_true rfl) zg10 trivial trivial rfl W (fun zs13 W => ?_)
        refine J_goto (pc' := 16) rfl rfl ?_
        exact W
      · refine J_iconst (pc' := 129) rfl (i32_d rfl) rfl ?_
        exact J_zret rfl rfl (Or.inl rfl) ⟨_, rfl, W⟩
  · refine J_iload (pc' := 94) rfl rfl rfl ?_
    refine J_goto (pc' := 99) rfl rfl ?_
    refine J_istore (L' := [some (jo 1 zo0), none, none, some (ji zx3), some (ji zx4), some (ji zx5), some (ji zx4), none]) (pc' := 101) rfl (Nat.le_of_ble_eq_true rfl) rfl rfl ?_
    refine J_iload (pc' := 103) rfl rfl rfl ?_
    refine J_iload (pc' := 105) rfl rfl rfl ?_
    refine J_icmp (P := ¬ zx4 = zx4) (t := 113) (f := 108) rfl rfl rfl jc_ne W (fun W => ?_) (fun W => ?_)
    · refine J_iload (pc' := 115) rfl rfl rfl ?_
      refine J_istore (L' := [some (jo 1 zo0), none, none, some (ji zx3), some (ji zx4), some (ji zx5), some (ji zx4), some (ji zx4)]) (pc' := 117) rfl (Nat.le_of_ble_eq_true rfl) rfl rfl ?_
      refine J_aload_no (pc' := 118) rfl rfl zg1 rfl ?_
      refine J_iload (pc' := 120) rfl rfl rfl ?_
      refine J_iload (pc' := 122) rfl rfl rfl ?_
      obtain ⟨zg15, W⟩ := W
      refine J_weak (L' := [some (jo 1 zo0), none, none, some (ji zx3), none, none, some (ji zx4), some (ji zx4)]) (And.intro rfl (And.intro rfl (And.intro rfl (And.intro rfl trivial)))) ?_
      refine J_callI (as := [jo 1 zo0, ji zx4, ji zx4]) (rest := []) (pc' := 125) rfl rfl ax_Z_47 rfl rfl (Or.inr (Or.inr ⟨_, _, rfl, zg1⟩)) (Nat.le_of_ble_eq_true rfl) (Nat.le_of_ble_eq_true rfl) (Nat.le_of_ble_eq_true rfl) zg15 trivial trivial rfl W (fun zr17 zs16 W => ?_)
      refine J_if (P := zr17 = 0) (t := 130) (f := 128) rfl rfl rfl jc_eq W (fun W => ?_) (fun W => ?_)
      · refine J_aload_no (pc' := 131) rfl rfl zg1 rfl ?_
        refine J_iload (pc' := 133) rfl rfl rfl ?_
        refine J_iload (pc' := 135) rfl rfl rfl ?_
        refine J_weak (L' := [some (jo 1 zo0), none, none, some (ji zx3), none, none, none, none]) (And.intro rfl (And.intro rfl trivial)) ?_
        refine J_callV (as := [jo 1 zo0, ji zx4, ji zx4]) (rest := []) (pc' := 138) rfl rfl ax_Z_45 rfl rfl (Or.inr (Or.inr ⟨_, _, rfl, zg1⟩)) (Nat.le_of_ble_eq_true rfl) (Nat.le_of_ble_eq_true rfl) (Nat.le_of_ble_eq_true rfl) zg15 trivial trivial rfl W (fun zs18 W => ?_)
        refine J_goto (pc' := 16) rfl rfl ?_
        exact W
      · refine J_iconst (pc' := 129) rfl (i32_d rfl) rfl ?_
        exact J_zret rfl rfl (Or.inl rfl) ⟨_, rfl, W⟩
    · refine J_iload (pc' := 110) rfl rfl rfl ?_
      refine J_goto (pc' := 115) rfl rfl ?_
      refine J_istore (L' := [some (jo 1 zo0), none, none, some (ji zx3), some (ji zx4), some (ji zx5), some (ji zx4), some (ji zx5)]) (pc' := 117) rfl (Nat.le_of_ble_eq_true rfl) rfl rfl ?_
      refine J_aload_no (pc' := 118) rfl rfl zg1 rfl ?_
      refine J_iload (pc' := 120) rfl rfl rfl ?_
      refine J_iload (pc' := 122) rfl rfl rfl ?_
      obtain ⟨zg20, W⟩ := W
      refine J_weak (L' := [some (jo 1 zo0), none, none, some (ji zx3), none, none, some (ji zx4), some (ji zx5)]) (And.intro rfl (And.intro rfl (And.intro rfl (And.intro rfl trivial)))) ?_
      refine J_callI (as := [jo 1 zo0, ji zx4, ji zx5]) (rest := []) (pc' := 125) rfl rfl ax_Z_47 rfl rfl (Or.inr (Or.inr ⟨_, _, rfl, zg1⟩)) (Nat.le_of_ble_eq_true rfl) (Nat.le_of_ble_eq_true rfl) (Nat.le_of_ble_eq_true rfl) zg20 trivial trivial rfl W (fun zr22 zs21 W => ?_)
      refine J_if (P := zr22 = 0) (t := 130) (f := 128) rfl rfl rfl jc_eq W (fun W => ?_) (fun W => ?_)
      · refine J_aload_no (pc' := 131) rfl rfl zg1 rfl ?_
        refine J_iload (pc' := 133) rfl rfl rfl ?_
        refine J_iload (pc' := 135) rfl rfl rfl ?_
        refine J_weak (L' := [some (jo 1 zo0), none, none, some (ji zx3), none, none, none, none]) (And.intro rfl (And.intro rfl trivial)) ?_
        refine J_callV (as := [jo 1 zo0, ji zx4, ji zx5]) (rest := []) (pc' := 138) rfl rfl ax_Z_45 rfl rfl (Or.inr (Or.inr ⟨_, _, rfl, zg1⟩)) (Nat.le_of_ble_eq_true rfl) (Nat.le_of_ble_eq_true rfl) (Nat.le_of_ble_eq_true rfl) zg20 trivial trivial rfl W (fun zs23 W => ?_)
        refine J_goto (pc' := 16) rfl rfl ?_
        exact W
      · refine J_iconst (pc' := 129) rfl (i32_d rfl) rfl ?_
        exact J_zret rfl rfl (Or.inl rfl) ⟨_, rfl, W⟩
set_option maxRecDepth 16000 in
theorem wp_Model_isUnified_163 {n : Nat} {σ : jS} {Q : Int → jS → Prop} {zo0 : Int} {zx3 : Int} {zx4 : Int} {zx5 : Int} {zx6 : Int} (W : 0 ≤ zo0 ∧ 0 ≤ rl σ 1028 zo0 ∧ 0 ≤ zx4 ∧ zx4 < rl σ 1028 zo0 ∧ 1 ≤ n ∧ TrI (n - 1) i_Model_partsOf [ji (ra σ 1028 zo0 zx4)] σ (fun zr7 zs6 => (if zr7 ≤ zx6 then J n c_Model_isUnified (some .boolean) 16 [some (jo 1 zo0), none, none, some (ji zx3), none, none, none, none] [] zs6 (qI Q) else 0 ≤ rl zs6 1040 zo0 ∧ 0 ≤ rl zs6 1031 zo0 ∧ 0 ≤ rl zs6 1029 zo0 ∧ zx4 < rl zs6 1029 zo0 ∧ i32 ((ra zs6 1029 zo0 zx4) + zx6) ∧ 0 ≤ (ra zs6 1029 zo0 zx4) + zx6 ∧ (ra zs6 1029 zo0 zx4) + zx6 < rl zs6 1031 zo0 ∧ 0 ≤ zx3 ∧ zx3 < rl zs6 1040 zo0 ∧ (∀ zs15, zs15 = wa zs6 1040 zo0 zx3 (ra zs6 1031 zo0 ((ra zs6 1029 zo0 zx4) + zx6)) → 0 ≤ rl zs15 1040 zo0 ∧ i32 (zx3 + 1) ∧ 0 ≤ rl zs15 1031 zo0 ∧ 0 ≤ rl zs15 1029 zo0 ∧ 0 ≤ zx5 ∧ zx5 < rl zs15 1029 zo0 ∧ i32 ((ra zs15 1029 zo0 zx5) + zx6) ∧ 0 ≤ (ra zs15 1029 zo0 zx5) + zx6 ∧ (ra zs15 1029 zo0 zx5) + zx6 < rl zs15 1031 zo0 ∧ 0 ≤ zx3 + 1 ∧ zx3 + 1 < rl zs15 1040 zo0 ∧ (∀ zs27, zs27 = wa zs15 1040 zo0 (zx3 + 1) (ra zs15 1031 zo0 ((ra zs15 1029 zo0 zx5) + zx6)) → i32 (zx3 + 2) ∧ i32 (zx6 + 1) ∧ J n c_Model_isUnified (some .boolean) 163 [some (jo 1 zo0), none, none, some (ji (zx3 + 2)), some (ji zx4), some (ji zx5), some (ji (zx6 + 1)), none] [] zs27 (qI Q)))))) : J n c_Model_isUnified (some .boolean) 163 [some (jo 1 zo0), none, none, some (ji zx3), some (ji zx4), some (ji zx5), some (ji zx6), none] [] σ (qI Q) := by
  refine J_iload (pc' := 165) rfl rfl rfl ?_
  obtain ⟨zg1, W⟩ := W
  refine J_aload_no (pc' := 166) rfl rfl zg1 rfl ?_
  obtain ⟨zg2, W⟩ := W
  refine J_getA (G := 1028) (pc' := 169) rfl rfl (Nat.le_of_ble_eq_true rfl) rfl zg1 zg2 rfl ?_
  refine J_iload (pc' := 171) rfl rfl rfl ?_
  obtain ⟨zg3, W⟩ := W
  obtain ⟨zg4, W⟩ := W
  refine J_iald (pc' := 172) rfl rfl zg3 zg4 rfl ?_
  obtain ⟨zg5, W⟩ := W
  refine J_callI (as := [ji (ra σ 1028 zo0 zx4)]) (rest := [ji zx6]) (pc' := 175) rfl rfl ax_Z_5 rfl rfl (Or.inl rfl) (Nat.le_of_ble_eq_true rfl) (Nat.le_of_ble_eq_true rfl) (Nat.le_of_ble_eq_true rfl) zg5 trivial trivial rfl W (fun zr7 zs6 W => ?_)
  refine J_icmp (P := zr7 ≤ zx6) (t := 231) (f := 178) rfl rfl rfl jc_ge W (fun W => ?_) (fun W => ?_)
  · refine J_goto (pc' := 16) rfl rfl ?_
    refine J_weak (L' := [some (jo 1 zo0), none, none, some (ji zx3), none, none, none, none]) (And.intro rfl (And.intro rfl trivial)) ?_
    exact W
  · refine J_aload_no (pc' := 179) rfl rfl zg1 rfl ?_
    obtain ⟨zg8, W⟩ := W
    refine J_getA (G := 1040) (pc' := 182) rfl rfl (Nat.le_of_ble_eq_true rfl) rfl zg1 zg8 rfl ?_
    refine J_iload_n (pc' := 183) rfl rfl rfl ?_
    refine J_aload_no (pc' := 184) rfl rfl zg1 rfl ?_
    obtain ⟨zg9, W⟩ := W
    refine J_getA (G := 1031) (pc' := 187) rfl rfl (Nat.le_of_ble_eq_true rfl) rfl zg1 zg9 rfl ?_
    refine J_aload_no (pc' := 188) rfl rfl zg1 rfl ?_
    obtain ⟨zg10, W⟩ := W
    refine J_getA (G := 1029) (pc' := 191) rfl rfl (Nat.le_of_ble_eq_true rfl) rfl zg1 zg10 rfl ?_
    refine J_iload (pc' := 193) rfl rfl rfl ?_
    obtain ⟨zg11, W⟩ := W
    refine J_iald (pc' := 194) rfl rfl zg3 zg11 rfl ?_
    refine J_iload (pc' := 196) rfl rfl rfl ?_
    obtain ⟨zg12, W⟩ := W
    refine J_iadd (pc' := 197) rfl zg12 rfl ?_
    obtain ⟨zg13, W⟩ := W
    obtain ⟨zg14, W⟩ := W
    refine J_iald (pc' := 198) rfl rfl zg13 zg14 rfl ?_
    obtain ⟨zg16, W⟩ := W
    obtain ⟨zg17, W⟩ := W
    refine J_iast (pc' := 199) rfl rfl (by decide) zg16 zg17 rfl (fun zs15 ezs15 => ?_)
    replace W := W zs15 ezs15
    refine J_aload_no (pc' := 200) rfl rfl zg1 rfl ?_
    obtain ⟨zg18, W⟩ := W
    refine J_getA (G := 1040) (pc' := 203) rfl rfl (Nat.le_of_ble_eq_true rfl) rfl zg1 zg18 rfl ?_
    refine J_iload_n (pc' := 204) rfl rfl rfl ?_
    refine J_iconst (pc' := 205) rfl (i32_d rfl) rfl ?_
    obtain ⟨zg19, W⟩ := W
    refine J_iadd (pc' := 206) rfl zg19 rfl ?_
    refine J_aload_no (pc' := 207) rfl rfl zg1 rfl ?_
    obtain ⟨zg20, W⟩ := W
    refine J_getA (G := 1031) (pc' := 210) rfl rfl (Nat.le_of_ble_eq_true rfl) rfl zg1 zg20 rfl ?_
    refine J_aload_no (pc' := 211) rfl rfl zg1 rfl ?_
    obtain ⟨zg21, W⟩ := W
    refine J_getA (G := 1029) (pc' := 214) rfl rfl (Nat.le_of_ble_eq_true rfl) rfl zg1 zg21 rfl ?_
    refine J_iload (pc' := 216) rfl rfl rfl ?_
    obtain ⟨zg22, W⟩ := W
    obtain ⟨zg23, W⟩ := W
    refine J_iald (pc' := 217) rfl rfl zg22 zg23 rfl ?_
    refine J_iload (pc' := 219) rfl rfl rfl ?_
    obtain ⟨zg24, W⟩ := W
    refine J_iadd (pc' := 220) rfl zg24 rfl ?_
    obtain ⟨zg25, W⟩ := W
    obtain ⟨zg26, W⟩ := W
    refine J_iald (pc' := 221) rfl rfl zg25 zg26 rfl ?_
    obtain ⟨zg28, W⟩ := W
    obtain ⟨zg29, W⟩ := W
    refine J_iast (pc' := 222) rfl rfl (by decide) zg28 zg29 rfl (fun zs27 ezs27 => ?_)
    replace W := W zs27 ezs27
    obtain ⟨zg30, W⟩ := W
    refine J_iinc (L' := [some (jo 1 zo0), none, none, some (ji (zx3 + 2)), some (ji zx4), some (ji zx5), some (ji zx6), none]) (pc' := 225) rfl rfl zg30 rfl rfl ?_
    obtain ⟨zg31, W⟩ := W
    refine J_iinc (L' := [some (jo 1 zo0), none, none, some (ji (zx3 + 2)), some (ji zx4), some (ji zx5), some (ji (zx6 + 1)), none]) (pc' := 228) rfl rfl zg31 rfl rfl ?_
    refine J_goto (pc' := 163) rfl rfl ?_
    exact W
