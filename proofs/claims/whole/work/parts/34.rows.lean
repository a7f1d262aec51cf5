/-! Rows that turn code into formulas (written by genwp.py). -/
theorem wp_Search_remember {n : Nat} {σ : jS} {Q : jS → Prop} {zo0 : Int} {zx1 : Int} {zx2 : Int} {zx3 : Int} (W : 0 ≤ zo0 ∧ 1 ≤ n ∧ 0 ≤ rs σ 7000 zo0 ∧ TrV (n - 1) i_Terms_flatten [jo 9 (rs σ 7000 zo0), ji zx1, jo 0 (rs σ 7008 zo0)] σ (fun zs4 => 0 ≤ rs zs4 7001 zo0 ∧ TrI (n - 1) i_Memory_takes [jo 5 (rs zs4 7001 zo0), ji (rs zs4 7014 zo0), jo 0 (rs zs4 7008 zo0)] zs4 (fun zr8 zs7 => (if ¬ zr8 = 0 then 0 ≤ rs zs7 7001 zo0 ∧ TrV (n - 1) i_Memory_add [jo 5 (rs zs7 7001 zo0), ji (rs zs7 7014 zo0), jo 0 (rs zs7 7008 zo0), ji zx3] zs7 (fun zs10 => (if zx3 ≤ 0 then Q zs10 else 0 ≤ rs zs10 7001 zo0 ∧ TrV (n - 1) i_Search_plant [jo 7 zo0, ji zx2, jo 3 (rs zs10 5003 (rs zs10 7001 zo0))] zs10 (fun zs13 => Q zs13))) else Q zs7)))) : TrV n i_Search_remember [jo 7 zo0, ji zx1, ji zx2, ji zx3] σ Q := by
  refine Tr_of ax_Z_166 ?_
  show J n c_Search_remember none 0 [some (jo 7 zo0), some (ji zx1), some (ji zx2), some (ji zx3)] [] σ (qV Q)
  obtain ⟨zg1, W⟩ := W
  refine J_aload_no (pc' := 1) rfl rfl zg1 rfl ?_
  refine J_getO (G := 7000) (pc' := 4) rfl rfl (Nat.le_of_ble_eq_true rfl) rfl zg1 rfl ?_
  refine J_iload_n (pc' := 5) rfl rfl rfl ?_
  refine J_aload_no (pc' := 6) rfl rfl zg1 rfl ?_
  refine J_getO (G := 7008) (pc' := 9) rfl rfl (Nat.le_of_ble_eq_true rfl) rfl zg1 rfl ?_
  obtain ⟨zg2, W⟩ := W
  obtain ⟨zg3, W⟩ := W
  refine J_weak (L' := [some (jo 7 zo0), none, some (ji zx2), some (ji zx3)]) (And.intro rfl (And.intro rfl (And.intro rfl trivial))) ?_
  refine J_callV (as := [jo 9 (rs σ 7000 zo0), ji zx1, jo 0 (rs σ 7008 zo0)]) (rest := []) (pc' := 12) rfl rfl ax_Z_220 rfl rfl (Or.inr (Or.inr ⟨_, _, rfl, zg3⟩)) (Nat.le_of_ble_eq_true rfl) (Nat.le_of_ble_eq_true rfl) (Nat.le_of_ble_eq_true rfl) zg2 trivial trivial rfl W (fun zs4 W => ?_)
  refine J_aload_no (pc' := 13) rfl rfl zg1 rfl ?_
  refine J_getO (G := 7001) (pc' := 16) rfl rfl (Nat.le_of_ble_eq_true rfl) rfl zg1 rfl ?_
  refine J_aload_no (pc' := 17) rfl rfl zg1 rfl ?_
  refine J_getI (G := 7014) (pc' := 20) rfl rfl (Nat.le_of_ble_eq_true rfl) rfl zg1 rfl ?_
  refine J_aload_no (pc' := 21) rfl rfl zg1 rfl ?_
  refine J_getO (G := 7008) (pc' := 24) rfl rfl (Nat.le_of_ble_eq_true rfl) rfl zg1 rfl ?_
  obtain ⟨zg6, W⟩ := W
  refine J_callI (as := [jo 5 (rs zs4 7001 zo0), ji (rs zs4 7014 zo0), jo 0 (rs zs4 7008 zo0)]) (rest := []) (pc' := 27) rfl rfl ax_Z_146 rfl rfl (Or.inr (Or.inr ⟨_, _, rfl, zg6⟩)) (Nat.le_of_ble_eq_true rfl) (Nat.le_of_ble_eq_true rfl) (Nat.le_of_ble_eq_true rfl) zg2 trivial trivial rfl W (fun zr8 zs7 W => ?_)
  refine J_if (P := ¬ zr8 = 0) (t := 31) (f := 30) rfl rfl rfl jc_ne W (fun W => ?_) (fun W => ?_)
  · refine J_aload_no (pc' := 32) rfl rfl zg1 rfl ?_
    refine J_getO (G := 7001) (pc' := 35) rfl rfl (Nat.le_of_ble_eq_true rfl) rfl zg1 rfl ?_
    refine J_aload_no (pc' := 36) rfl rfl zg1 rfl ?_
    refine J_getI (G := 7014) (pc' := 39) rfl rfl (Nat.le_of_ble_eq_true rfl) rfl zg1 rfl ?_
    refine J_aload_no (pc' := 40) rfl rfl zg1 rfl ?_
    refine J_getO (G := 7008) (pc' := 43) rfl rfl (Nat.le_of_ble_eq_true rfl) rfl zg1 rfl ?_
    refine J_iload_n (pc' := 44) rfl rfl rfl ?_
    obtain ⟨zg9, W⟩ := W
    refine J_callV (as := [jo 5 (rs zs7 7001 zo0), ji (rs zs7 7014 zo0), jo 0 (rs zs7 7008 zo0), ji zx3]) (rest := []) (pc' := 47) rfl rfl ax_Z_147 rfl rfl (Or.inr (Or.inr ⟨_, _, rfl, zg9⟩)) (Nat.le_of_ble_eq_true rfl) (Nat.le_of_ble_eq_true rfl) (Nat.le_of_ble_eq_true rfl) zg2 trivial trivial rfl W (fun zs10 W => ?_)
    refine J_iload_n (pc' := 48) rfl rfl rfl ?_
    refine J_if (P := zx3 ≤ 0) (t := 63) (f := 51) rfl rfl rfl jc_le W (fun W => ?_) (fun W => ?_)
    · exact J_vret rfl rfl ⟨rfl, W⟩
    · refine J_aload_no (pc' := 52) rfl rfl zg1 rfl ?_
      refine J_iload_n (pc' := 53) rfl rfl rfl ?_
      refine J_aload_no (pc' := 54) rfl rfl zg1 rfl ?_
      refine J_getO (G := 7001) (pc' := 57) rfl rfl (Nat.le_of_ble_eq_true rfl) rfl zg1 rfl ?_
      obtain ⟨zg12, W⟩ := W
      refine J_getO (G := 5003) (pc' := 60) rfl rfl (Nat.le_of_ble_eq_true rfl) rfl zg12 rfl ?_
      refine J_weak (L' := [none, none, none, none]) trivial ?_
      refine J_callV (as := [jo 7 zo0, ji zx2, jo 3 (rs zs10 5003 (rs zs10 7001 zo0))]) (rest := []) (pc' := 63) rfl rfl ax_Z_174 rfl rfl (Or.inr (Or.inr ⟨_, _, rfl, zg1⟩)) (Nat.le_of_ble_eq_true rfl) (Nat.le_of_ble_eq_true rfl) (Nat.le_of_ble_eq_true rfl) zg2 trivial trivial rfl W (fun zs13 W => ?_)
      exact J_vret rfl rfl ⟨rfl, W⟩
  · exact J_vret rfl rfl ⟨rfl, W⟩
theorem wp_Search_seek {n : Nat} {σ : jS} {Q : Int → jS → Prop} {zo0 : Int} {zx1 : Int} {zx2 : Int} {zx3 : Int} (W : 0 ≤ zo0 ∧ J n c_Search_seek (some .int) 9 [some (jo 7 zo0), some (ji zx1), some (ji zx2), some (ji zx3), some (ji (rs σ 7014 zo0)), some (ji 0), none] [] σ (qI Q)) : TrI n i_Search_seek [jo 7 zo0, ji zx1, ji zx2, ji zx3] σ Q := by
  refine Tr_of ax_Z_167 ?_
  show J n c_Search_seek (some .int) 0 [some (jo 7 zo0), some (ji zx1), some (ji zx2), some (ji zx3), none, none, none] [] σ (qI Q)
  obtain ⟨zg1, W⟩ := W
  refine J_aload_no (pc' := 1) rfl rfl zg1 rfl ?_
  refine J_getI (G := 7014) (pc' := 4) rfl rfl (Nat.le_of_ble_eq_true rfl) rfl zg1 rfl ?_
  refine J_istore (L' := [some (jo 7 zo0), some (ji zx1), some (ji zx2), some (ji zx3), some (ji (rs σ 7014 zo0)), none, none]) (pc' := 6) rfl (Nat.le_of_ble_eq_true rfl) rfl rfl ?_
  refine J_iconst (pc' := 7) rfl (i32_d rfl) rfl ?_
  refine J_istore (L' := [some (jo 7 zo0), some (ji zx1), some (ji zx2), some (ji zx3), some (ji (rs σ 7014 zo0)), some (ji 0), none]) (pc' := 9) rfl (Nat.le_of_ble_eq_true rfl) rfl rfl ?_
  exact W
theorem wp_Search_seek_9 {n : Nat} {σ : jS} {Q : Int → jS → Prop} {zo0 : Int} {zx1 : Int} {zx2 : Int} {zx3 : Int} {zx4 : Int} {zx5 : Int} (W : (if 5 < zx5 then Q 0 σ else (if zx4 = (-1) then Q 0 σ else 0 ≤ zo0 ∧ 1 ≤ n ∧ 0 ≤ rs σ 7006 zo0 ∧ TrV (n - 1) i_Nodes_set [jo 6 (rs σ 7006 zo0), ji zx3, ji 3, ji zx5] σ (fun zs4 => TrI (n - 1) i_Search_seekAt [jo 7 zo0, ji zx4, ji zx1, ji zx2, ji zx3] zs4 (fun zr7 zs6 => (if ¬ zr7 = 0 then Q zr7 zs6 else (if rs zs6 7017 zo0 = 0 then 0 ≤ rs zs6 7019 zo0 ∧ TrI (n - 1) i_Text_aroundOf [jo 10 (rs zs6 7019 zo0), ji zx4] zs6 (fun zr10 zs9 => i32 (zx5 + 1) ∧ J n c_Search_seek (some .int) 9 [some (jo 7 zo0), some (ji zx1), some (ji zx2), some (ji zx3), some (ji zr10), some (ji (zx5 + 1)), none] [] zs9 (qI Q)) else Q zr7 zs6))))))) : J n c_Search_seek (some .int) 9 [some (jo 7 zo0), some (ji zx1), some (ji zx2), some (ji zx3), some (ji zx4), some (ji zx5), none] [] σ (qI Q) := by
  refine J_iload (pc' := 11) rfl rfl rfl ?_
  refine J_iconst (pc' := 12) rfl (i32_d rfl) rfl ?_
  refine J_icmp (P := 5 < zx5) (t := 75) (f := 15) rfl rfl rfl jc_gt W (fun W => ?_) (fun W => ?_)
  · refine J_iconst (pc' := 76) rfl (i32_d rfl) rfl ?_
    exact J_iret rfl rfl ⟨_, rfl, W⟩
  · refine J_iload (pc' := 17) rfl rfl rfl ?_
    refine J_iconst (pc' := 18) rfl (i32_d rfl) rfl ?_
    refine J_icmp (P := zx4 = (-1)) (t := 75) (f := 21) rfl rfl rfl jc_eq W (fun W => ?_) (fun W => ?_)
    · refine J_iconst (pc' := 76) rfl (i32_d rfl) rfl ?_
      exact J_iret rfl rfl ⟨_, rfl, W⟩
    · obtain ⟨zg1, W⟩ := W
      refine J_aload_no (pc' := 22) rfl rfl zg1 rfl ?_
      refine J_getO (G := 7006) (pc' := 25) rfl rfl (Nat.le_of_ble_eq_true rfl) rfl zg1 rfl ?_
      refine J_iload_n (pc' := 26) rfl rfl rfl ?_
      refine J_iconst (pc' := 27) rfl (i32_d rfl) rfl ?_
      refine J_iload (pc' := 29) rfl rfl rfl ?_
      obtain ⟨zg2, W⟩ := W
      obtain ⟨zg3, W⟩ := W
      refine J_callV (as := [jo 6 (rs σ 7006 zo0), ji zx3, ji 3, ji zx5]) (rest := []) (pc' := 32) rfl rfl ax_Z_153 rfl rfl (Or.inr (Or.inr ⟨_, _, rfl, zg3⟩)) (Nat.le_of_ble_eq_true rfl) (Nat.le_of_ble_eq_true rfl) (Nat.le_of_ble_eq_true rfl) zg2 trivial trivial rfl W (fun zs4 W => ?_)
      refine J_aload_no (pc' := 33) rfl rfl zg1 rfl ?_
      refine J_iload (pc' := 35) rfl rfl rfl ?_
      refine J_iload_n (pc' := 36) rfl rfl rfl ?_
      refine J_iload_n (pc' := 37) rfl rfl rfl ?_
      refine J_iload_n (pc' := 38) rfl rfl rfl ?_
      refine J_callI (as := [jo 7 zo0, ji zx4, ji zx1, ji zx2, ji zx3]) (rest := []) (pc' := 41) rfl rfl ax_Z_168 rfl rfl (Or.inr (Or.inr ⟨_, _, rfl, zg1⟩)) (Nat.le_of_ble_eq_true rfl) (Nat.le_of_ble_eq_true rfl) (Nat.le_of_ble_eq_true rfl) zg2 trivial trivial rfl W (fun zr7 zs6 W => ?_)
      refine J_istore (L' := [some (jo 7 zo0), some (ji zx1), some (ji zx2), some (ji zx3), some (ji zx4), some (ji zx5), some (ji zr7)]) (pc' := 43) rfl (Nat.le_of_ble_eq_true rfl) rfl rfl ?_
      refine J_iload (pc' := 45) rfl rfl rfl ?_
      refine J_if (P := ¬ zr7 = 0) (t := 55) (f := 48) rfl rfl rfl jc_ne W (fun W => ?_) (fun W => ?_)
      · refine J_iload (pc' := 57) rfl rfl rfl ?_
        exact J_iret rfl rfl ⟨_, rfl, W⟩
      · refine J_aload_no (pc' := 49) rfl rfl zg1 rfl ?_
        refine J_getI (G := 7017) (pc' := 52) rfl rfl (Nat.le_of_ble_eq_true rfl) rfl zg1 rfl ?_
        refine J_if (P := rs zs6 7017 zo0 = 0) (t := 58) (f := 55) rfl rfl rfl jc_eq W (fun W => ?_) (fun W => ?_)
        · refine J_aload_no (pc' := 59) rfl rfl zg1 rfl ?_
          refine J_getO (G := 7019) (pc' := 62) rfl rfl (Nat.le_of_ble_eq_true rfl) rfl zg1 rfl ?_
          refine J_iload (pc' := 64) rfl rfl rfl ?_
          obtain ⟨zg8, W⟩ := W
          refine J_weak (L' := [some (jo 7 zo0), some (ji zx1), some (ji zx2), some (ji zx3), none, some (ji zx5), none]) (And.intro rfl (And.intro rfl (And.intro rfl (And.intro rfl (And.intro rfl trivial))))) ?_
          refine J_callI (as := [jo 10 (rs zs6 7019 zo0), ji zx4]) (rest := []) (pc' := 67) rfl rfl ax_Z_228 rfl rfl (Or.inr (Or.inr ⟨_, _, rfl, zg8⟩)) (Nat.le_of_ble_eq_true rfl) (Nat.le_of_ble_eq_true rfl) (Nat.le_of_ble_eq_true rfl) zg2 trivial trivial rfl W (fun zr10 zs9 W => ?_)
          refine J_istore (L' := [some (jo 7 zo0), some (ji zx1), some (ji zx2), some (ji zx3), some (ji zr10), some (ji zx5), none]) (pc' := 69) rfl (Nat.le_of_ble_eq_true rfl) rfl rfl ?_
          obtain ⟨zg11, W⟩ := W
          refine J_iinc (L' := [some (jo 7 zo0), some (ji zx1), some (ji zx2), some (ji zx3), some (ji zr10), some (ji (zx5 + 1)), none]) (pc' := 72) rfl rfl zg11 rfl rfl ?_
          refine J_goto (pc' := 9) rfl rfl ?_
          exact W
        · refine J_iload (pc' := 57) rfl rfl rfl ?_
          exact J_iret rfl rfl ⟨_, rfl, W⟩
theorem wp_Search_seekAt {n : Nat} {σ : jS} {Q : Int → jS → Prop} {zo0 : Int} {zx1 : Int} {zx2 : Int} {zx3 : Int} {zx4 : Int} (W : 0 ≤ zo0 ∧ 1 ≤ n ∧ TrI (n - 1) i_Search_suited [jo 7 zo0, ji zx2, ji zx1] σ (fun zr4 zs3 => TrI (n - 1) i_Integer_bitCount [ji zr4] zs3 (fun zr6 zs5 => 0 ≤ rs zs3 7006 zo0 ∧ TrV (n - 1) i_Nodes_set [jo 6 (rs zs3 7006 zo0), ji zx4, ji 4, ji zr6] zs5 (fun zs8 => 0 ≤ rs zs8 7006 zo0 ∧ TrV (n - 1) i_Nodes_set [jo 6 (rs zs8 7006 zo0), ji zx4, ji 5, ji 0] zs8 (fun zs11 => J n c_Search_seekAt (some .int) 37 [some (jo 7 zo0), none, some (ji zx2), some (ji zx3), some (ji zx4), some (ji zr4), some (ji 0), none, none] [] zs11 (qI Q)))))) : TrI n i_Search_seekAt [jo 7 zo0, ji zx1, ji zx2, ji zx3, ji zx4] σ Q := by
  refine Tr_of ax_Z_168 ?_
  show J n c_Search_seekAt (some .int) 0 [some (jo 7 zo0), some (ji zx1), some (ji zx2), some (ji zx3), some (ji zx4), none, none, none, none] [] σ (qI Q)
  obtain ⟨zg1, W⟩ := W
  refine J_aload_no (pc' := 1) rfl rfl zg1 rfl ?_
  refine J_iload_n (pc' := 2) rfl rfl rfl ?_
  refine J_iload_n (pc' := 3) rfl rfl rfl ?_
  obtain ⟨zg2, W⟩ := W
  refine J_weak (L' := [some (jo 7 zo0), none, some (ji zx2), some (ji zx3), some (ji zx4), none, none, none, none]) (And.intro rfl (And.intro rfl (And.intro rfl (And.intro rfl trivial)))) ?_
  refine J_callI (as := [jo 7 zo0, ji zx2, ji zx1]) (rest := []) (pc' := 6) rfl rfl ax_Z_161 rfl rfl (Or.inr (Or.inr ⟨_, _, rfl, zg1⟩)) (Nat.le_of_ble_eq_true rfl) (Nat.le_of_ble_eq_true rfl) (Nat.le_of_ble_eq_true rfl) zg2 trivial trivial rfl W (fun zr4 zs3 W => ?_)
  refine J_istore (L' := [some (jo 7 zo0), none, some (ji zx2), some (ji zx3), some (ji zx4), some (ji zr4), none, none, none]) (pc' := 8) rfl (Nat.le_of_ble_eq_true rfl) rfl rfl ?_
  refine J_aload_no (pc' := 9) rfl rfl zg1 rfl ?_
  refine J_getO (G := 7006) (pc' := 12) rfl rfl (Nat.le_of_ble_eq_true rfl) rfl zg1 rfl ?_
  refine J_iload (pc' := 14) rfl rfl rfl ?_
  refine J_iconst (pc' := 15) rfl (i32_d rfl) rfl ?_
  refine J_iload (pc' := 17) rfl rfl rfl ?_
  refine J_callI (as := [ji zr4]) (rest := [ji 4, ji zx4, jo 6 (rs zs3 7006 zo0)]) (pc' := 20) rfl rfl ax_Z_111 rfl rfl (Or.inl rfl) (Nat.le_of_ble_eq_true rfl) (Nat.le_of_ble_eq_true rfl) (Nat.le_of_ble_eq_true rfl) zg2 trivial trivial rfl W (fun zr6 zs5 W => ?_)
  obtain ⟨zg7, W⟩ := W
  refine J_callV (as := [jo 6 (rs zs3 7006 zo0), ji zx4, ji 4, ji zr6]) (rest := []) (pc' := 23) rfl rfl ax_Z_153 rfl rfl (Or.inr (Or.inr ⟨_, _, rfl, zg7⟩)) (Nat.le_of_ble_eq_true rfl) (Nat.le_of_ble_eq_true rfl) (Nat.le_of_ble_eq_true rfl) zg2 trivial trivial rfl W (fun zs8 W => ?_)
  refine J_aload_no (pc' := 24) rfl rfl zg1 rfl ?_
  refine J_getO (G := 7006) (pc' := 27) rfl rfl (Nat.le_of_ble_eq_true rfl) rfl zg1 rfl ?_
  refine J_iload (pc' := 29) rfl rfl rfl ?_
  refine J_iconst (pc' := 30) rfl (i32_d rfl) rfl ?_
  refine J_iconst (pc' := 31) rfl (i32_d rfl) rfl ?_
  obtain ⟨zg10, W⟩ := W
  refine J_callV (as := [jo 6 (rs zs8 7006 zo0), ji zx4, ji 5, ji 0]) (rest := []) (pc' := 34) rfl rfl ax_Z_153 rfl rfl (Or.inr (Or.inr ⟨_, _, rfl, zg10⟩)) (Nat.le_of_ble_eq_true rfl) (Nat.le_of_ble_eq_true rfl) (Nat.le_of_ble_eq_true rfl) zg2 trivial trivial rfl W (fun zs11 W => ?_)
  refine J_iconst (pc' := 35) rfl (i32_d rfl) rfl ?_
  refine J_istore (L' := [some (jo 7 zo0), none, some (ji zx2), some (ji zx3), some (ji zx4), some (ji zr4), some (ji 0), none, none]) (pc' := 37) rfl (Nat.le_of_ble_eq_true rfl) rfl rfl ?_
  exact W
theorem wp_Search_seekAt_37 {n : Nat} {σ : jS} {Q : Int → jS → Prop} {zo0 : Int} {zx2 : Int} {zx3 : Int} {zx4 : Int} {zx5 : Int} {zx6 : Int} (W : (if 24 ≤ zx6 then Q 0 σ else (if zx5 = 0 then Q 0 σ else 0 ≤ zo0 ∧ 1 ≤ n ∧ 0 ≤ rs σ 7019 zo0 ∧ TrI (n - 1) i_Text_bestOf [jo 10 (rs σ 7019 zo0), ji zx5] σ (fun zr5 zs4 => TrI (n - 1) i_Search_tryBest [jo 7 zo0, ji zr5, ji zx2, ji zx3, ji zx4] zs4 (fun zr7 zs6 => (if ¬ zr7 = 0 then Q zr7 zs6 else (if rs zs6 7017 zo0 = 0 then i32 (zx6 + 1) ∧ J n c_Search_seekAt (some .int) 37 [some (jo 7 zo0), none, some (ji zx2), some (ji zx3), some (ji zx4), some (ji (bAnd zx5 (bXor zr5 (-1)))), some (ji (zx6 + 1)), none, none] [] zs6 (qI Q) else Q zr7 zs6))))))) : J n c_Search_seekAt (some .int) 37 [some (jo 7 zo0), none, some (ji zx2), some (ji zx3), some (ji zx4), some (ji zx5), some (ji zx6), none, none] [] σ (qI Q) := by
  refine J_iload (pc' := 39) rfl rfl rfl ?_
  refine J_bipush (pc' := 41) rfl (by decide) (by decide) rfl ?_
  refine J_icmp (P := 24 ≤ zx6) (t := 102) (f := 44) rfl rfl rfl jc_ge W (fun W => ?_) (fun W => ?_)
  · refine J_iconst (pc' := 103) rfl (i32_d rfl) rfl ?_
    exact J_iret rfl rfl ⟨_, rfl, W⟩
  · refine J_iload (pc' := 46) rfl rfl rfl ?_
    refine J_if (P := zx5 = 0) (t := 102) (f := 49) rfl rfl rfl jc_eq W (fun W => ?_) (fun W => ?_)
    · refine J_iconst (pc' := 103) rfl (i32_d rfl) rfl ?_
      exact J_iret rfl rfl ⟨_, rfl, W⟩
    · obtain ⟨zg1, W⟩ := W
      refine J_aload_no (pc' := 50) rfl rfl zg1 rfl ?_
      refine J_getO (G := 7019) (pc' := 53) rfl rfl (Nat.le_of_ble_eq_true rfl) rfl zg1 rfl ?_
      refine J_iload (pc' := 55) rfl rfl rfl ?_
      obtain ⟨zg2, W⟩ := W
      obtain ⟨zg3, W⟩ := W
      refine J_callI (as := [jo 10 (rs σ 7019 zo0), ji zx5]) (rest := []) (pc' := 58) rfl rfl ax_Z_239 rfl rfl (Or.inr (Or.inr ⟨_, _, rfl, zg3⟩)) (Nat.le_of_ble_eq_true rfl) (Nat.le_of_ble_eq_true rfl) (Nat.le_of_ble_eq_true rfl) zg2 trivial trivial rfl W (fun zr5 zs4 W => ?_)
      refine J_istore (L' := [some (jo 7 zo0), none, some (ji zx2), some (ji zx3), some (ji zx4), some (ji zx5), some (ji zx6), some (ji zr5), none]) (pc' := 60) rfl (Nat.le_of_ble_eq_true rfl) rfl rfl ?_
      refine J_aload_no (pc' := 61) rfl rfl zg1 rfl ?_
      refine J_iload (pc' := 63) rfl rfl rfl ?_
      refine J_iload_n (pc' := 64) rfl rfl rfl ?_
      refine J_iload_n (pc' := 65) rfl rfl rfl ?_
      refine J_iload (pc' := 67) rfl rfl rfl ?_
      refine J_callI (as := [jo 7 zo0, ji zr5, ji zx2, ji zx3, ji zx4]) (rest := []) (pc' := 70) rfl rfl ax_Z_169 rfl rfl (Or.inr (Or.inr ⟨_, _, rfl, zg1⟩)) (Nat.le_of_ble_eq_true rfl) (Nat.le_of_ble_eq_true rfl) (Nat.le_of_ble_eq_true rfl) zg2 trivial trivial rfl W (fun zr7 zs6 W => ?_)
      refine J_istore (L' := [some (jo 7 zo0), none, some (ji zx2), some (ji zx3), some (ji zx4), some (ji zx5), some (ji zx6), some (ji zr5), some (ji zr7)]) (pc' := 72) rfl (Nat.le_of_ble_eq_true rfl) rfl rfl ?_
      refine J_iload (pc' := 74) rfl rfl rfl ?_
      refine J_if (P := ¬ zr7 = 0) (t := 84) (f := 77) rfl rfl rfl jc_ne W (fun W => ?_) (fun W => ?_)
      · refine J_iload (pc' := 86) rfl rfl rfl ?_
        exact J_iret rfl rfl ⟨_, rfl, W⟩
      · refine J_aload_no (pc' := 78) rfl rfl zg1 rfl ?_
        refine J_getI (G := 7017) (pc' := 81) rfl rfl (Nat.le_of_ble_eq_true rfl) rfl zg1 rfl ?_
        refine J_if (P := rs zs6 7017 zo0 = 0) (t := 87) (f := 84) rfl rfl rfl jc_eq W (fun W => ?_) (fun W => ?_)
        · refine J_iload (pc' := 89) rfl rfl rfl ?_
          refine J_iload (pc' := 91) rfl rfl rfl ?_
          refine J_iconst (pc' := 92) rfl (i32_d rfl) rfl ?_
          refine J_ixor (pc' := 93) rfl rfl ?_
          refine J_iand (pc' := 94) rfl rfl ?_
          refine J_istore (L' := [some (jo 7 zo0), none, some (ji zx2), some (ji zx3), some (ji zx4), some (ji (bAnd zx5 (bXor zr5 (-1)))), some (ji zx6), some (ji zr5), some (ji zr7)]) (pc' := 96) rfl (Nat.le_of_ble_eq_true rfl) rfl rfl ?_
          obtain ⟨zg8, W⟩ := W
          refine J_iinc (L' := [some (jo 7 zo0), none, some (ji zx2), some (ji zx3), some (ji zx4), some (ji (bAnd zx5 (bXor zr5 (-1)))), some (ji (zx6 + 1)), some (ji zr5), some (ji zr7)]) (pc' := 99) rfl rfl zg8 rfl rfl ?_
          refine J_goto (pc' := 37) rfl rfl ?_
          refine J_weak (L' := [some (jo 7 zo0), none, some (ji zx2), some (ji zx3), some (ji zx4), some (ji (bAnd zx5 (bXor zr5 (-1)))), some (ji (zx6 + 1)), none, none]) (And.intro rfl (And.intro rfl (And.intro rfl (And.intro rfl (And.intro rfl (And.intro rfl trivial)))))) ?_
          exact W
        · refine J_iload (pc' := 86) rfl rfl rfl ?_
          exact J_iret rfl rfl ⟨_, rfl, W⟩
set_option maxRecDepth 16000 in
theorem wp_Search_tryBest {n : Nat} {σ : jS} {Q : Int → jS → Prop} {zo0 : Int} {zx1 : Int} {zx2 : Int} {zx3 : Int} {zx4 : Int} (W : 0 ≤ zo0 ∧ 0 ≤ rs σ 7000 zo0 ∧ 0 ≤ rs σ 7006 zo0 ∧ J n c_Search_tryBest (some .int) 48 [some (jo 7 zo0), some (ji zx1), some (ji zx2), some (ji zx3), some (ji zx4), some (ji (rs σ 9001 (rs σ 7000 zo0))), some (ji (rs σ 9002 (rs σ 7000 zo0))), some (ji (rs σ 9000 (rs σ 7000 zo0))), some (ji (rs σ 6000 (rs σ 7006 zo0))), some (ji 0), some (ji (-1)), some (ji (-1)), some (ji 0), none] [] σ (qI Q)) : TrI n i_Search_tryBest [jo 7 zo0, ji zx1, ji zx2, ji zx3, ji zx4] σ Q := by
  refine Tr_of ax_Z_169 ?_
  show J n c_Search_tryBest (some .int) 0 [some (jo 7 zo0), some (ji zx1), some (ji zx2), some (ji zx3), some (ji zx4), none, none, none, none, none, none, none, none, none] [] σ (qI Q)
  obtain ⟨zg1, W⟩ := W
  refine J_aload_no (pc' := 1) rfl rfl zg1 rfl ?_
  refine J_getO (G := 7000) (pc' := 4) rfl rfl (Nat.le_of_ble_eq_true rfl) rfl zg1 rfl ?_
  obtain ⟨zg2, W⟩ := W
  refine J_getI (G := 9001) (pc' := 7) rfl rfl (Nat.le_of_ble_eq_true rfl) rfl zg2 rfl ?_
  refine J_istore (L' := [some (jo 7 zo0), some (ji zx1), some (ji zx2), some (ji zx3), some (ji zx4), some (ji (rs σ 9001 (rs σ 7000 zo0))), none, none, none, none, none, none, none, none]) (pc' := 9) rfl (Nat.le_of_ble_eq_true rfl) rfl rfl ?_
  refine J_aload_no (pc' := 10) rfl rfl zg1 rfl ?_
  refine J_getO (G := 7000) (pc' := 13) rfl rfl (Nat.le_of_ble_eq_true rfl) rfl zg1 rfl ?_
  refine J_getI (G := 9002) (pc' := 16) rfl rfl (Nat.le_of_ble_eq_true rfl) rfl zg2 rfl ?_
  refine J_istore (L' := [some (jo 7 zo0), some (ji zx1), some (ji zx2), some (ji zx3), some (ji zx4), some (ji (rs σ 9001 (rs σ 7000 zo0))), some (ji (rs σ 9002 (rs σ 7000 zo0))), none, none, none, none, none, none, none]) (pc' := 18) rfl (Nat.le_of_ble_eq_true rfl) rfl rfl ?_
  refine J_aload_no (pc' := 19) rfl rfl zg1 rfl ?_
  refine J_getO (G := 7000) (pc' := 22) rfl rfl (Nat.le_of_ble_eq_true rfl) rfl zg1 rfl ?_
  refine J_getI (G := 9000) (pc' := 25) rfl rfl (Nat.le_of_ble_eq_true rfl) rfl zg2 rfl ?_
  refine J_istore (L' := [some (jo 7 zo0), some (ji zx1), some (ji zx2), some (ji zx3), some (ji zx4), some (ji (rs σ 9001 (rs σ 7000 zo0))), some (ji (rs σ 9002 (rs σ 7000 zo0))), some (ji (rs σ 9000 (rs σ 7000 zo0))), none, none, none, none, none, none]) (pc' := 27) rfl (Nat.le_of_ble_eq_true rfl) rfl rfl ?_
  refine J_aload_no (pc' := 28) rfl rfl zg1 rfl ?_
  refine J_getO (G := 7006) (pc' := 31) rfl rfl (Nat.le_of_ble_eq_true rfl) rfl zg1 rfl ?_
  obtain ⟨zg3, W⟩ := W
  refine J_getI (G := 6000) (pc' := 34) rfl rfl (Nat.le_of_ble_eq_true rfl) rfl zg3 rfl ?_
  refine J_istore (L' := [some (jo 7 zo0), some (ji zx1), some (ji zx2), some (ji zx3), some (ji zx4), some (ji (rs σ 9001 (rs σ 7000 zo0))), some (ji (rs σ 9002 (rs σ 7000 zo0))), some (ji (rs σ 9000 (rs σ 7000 zo0))), some (ji (rs σ 6000 (rs σ 7006 zo0))), none, none, none, none, none]) (pc' := 36) rfl (Nat.le_of_ble_eq_true rfl) rfl rfl ?_
  refine J_iconst (pc' := 37) rfl (i32_d rfl) rfl ?_
  refine J_istore (L' := [some (jo 7 zo0), some (ji zx1), some (ji zx2), some (ji zx3), some (ji zx4), some (ji (rs σ 9001 (rs σ 7000 zo0))), some (ji (rs σ 9002 (rs σ 7000 zo0))), some (ji (rs σ 9000 (rs σ 7000 zo0))), some (ji (rs σ 6000 (rs σ 7006 zo0))), some (ji 0), none, none, none, none]) (pc' := 39) rfl (Nat.le_of_ble_eq_true rfl) rfl rfl ?_
  refine J_iconst (pc' := 40) rfl (i32_d rfl) rfl ?_
  refine J_istore (L' := [some (jo 7 zo0), some (ji zx1), some (ji zx2), some (ji zx3), some (ji zx4), some (ji (rs σ 9001 (rs σ 7000 zo0))), some (ji (rs σ 9002 (rs σ 7000 zo0))), some (ji (rs σ 9000 (rs σ 7000 zo0))), some (ji (rs σ 6000 (rs σ 7006 zo0))), some (ji 0), some (ji (-1)), none, none, none]) (pc' := 42) rfl (Nat.le_of_ble_eq_true rfl) rfl rfl ?_
  refine J_iconst (pc' := 43) rfl (i32_d rfl) rfl ?_
  refine J_istore (L' := [some (jo 7 zo0), some (ji zx1), some (ji zx2), some (ji zx3), some (ji zx4), some (ji (rs σ 9001 (rs σ 7000 zo0))), some (ji (rs σ 9002 (rs σ 7000 zo0))), some (ji (rs σ 9000 (rs σ 7000 zo0))), some (ji (rs σ 6000 (rs σ 7006 zo0))), some (ji 0), some (ji (-1)), some (ji (-1)), none, none]) (pc' := 45) rfl (Nat.le_of_ble_eq_true rfl) rfl rfl ?_
  refine J_iconst (pc' := 46) rfl (i32_d rfl) rfl ?_
  refine J_istore (L' := [some (jo 7 zo0), some (ji zx1), some (ji zx2), some (ji zx3), some (ji zx4), some (ji (rs σ 9001 (rs σ 7000 zo0))), some (ji (rs σ 9002 (rs σ 7000 zo0))), some (ji (rs σ 9000 (rs σ 7000 zo0))), some (ji (rs σ 6000 (rs σ 7006 zo0))), some (ji 0), some (ji (-1)), some (ji (-1)), some (ji 0), none]) (pc' := 48) rfl (Nat.le_of_ble_eq_true rfl) rfl rfl ?_
  exact W
set_option maxRecDepth 16000 in
theorem wp_Search_tryBest_48 {n : Nat} {σ : jS} {Q : Int → jS → Prop} {zo0 : Int} {zx1 : Int} {zx2 : Int} {zx3 : Int} {zx4 : Int} {zx5 : Int} {zx6 : Int} {zx7 : Int} {zx8 : Int} {zx9 : Int} {zx10 : Int} {zx11 : Int} {zx12 : Int} (W : 0 ≤ zo0 ∧ 0 ≤ rs σ 7019 zo0 ∧ (if rs σ 10001 (rs σ 7019 zo0) ≤ zx12 then (if zx11 = (-1) then 1 ≤ n ∧ 0 ≤ rs σ 7000 zo0 ∧ TrV (n - 1) i_Terms_putAgain [jo 9 (rs σ 7000 zo0), ji zx6] σ (fun zs5 => 0 ≤ rs zs5 7006 zo0 ∧ TrV (n - 1) i_Nodes_set [jo 6 (rs zs5 7006 zo0), ji zx4, ji 0, ji zx10] zs5 (fun zs8 => Q zx9 zs8)) else 1 ≤ n ∧ TrV (n - 1) i_Search_tellBoth [jo 7 zo0, ji zx10, ji zx11, ji zx2] σ (fun zs11 => Q 0 zs11)) else 1 ≤ n ∧ TrI (n - 1) i_Top_isIn [ji zx1, ji zx12] σ (fun zr15 zs14 => (if ¬ zr15 = 0 then TrI (n - 1) i_Search_isCut [jo 7 zo0, ji zx12, ji zx2, ji zx3] zs14 (fun zr17 zs16 => (if zr17 = 0 then TrI (n - 1) i_Search_tryGiven [jo 7 zo0, ji zx12, ji zx2, ji zx3, ji zx4] zs16 (fun zr19 zs18 => (if rs zs18 7017 zo0 = 0 then (if ¬ zr19 = 0 then (if ¬ zx10 = (-1) then (if ¬ zx11 = (-1) then 0 ≤ rs zs18 7000 zo0 ∧ TrV (n - 1) i_Terms_back [jo 9 (rs zs18 7000 zo0), ji zx5, ji zx7] zs18 (fun zs21 => 0 ≤ rs zs21 7006 zo0 ∧ (∀ zs24, zs24 = ws zs21 6000 (rs zs21 7006 zo0) zx8 → i32 (zx12 + 1) ∧ J n c_Search_tryBest (some .int) 48 [some (jo 7 zo0), some (ji zx1), some (ji zx2), some (ji zx3), some (ji zx4), some (ji zx5), some (ji zx6), some (ji zx7), some (ji zx8), some (ji zx9), some (ji zx10), some (ji zx11), some (ji (zx12 + 1)), none] [] zs24 (qI Q))) else 0 ≤ rs zs18 7000 zo0 ∧ TrV (n - 1) i_Terms_back [jo 9 (rs zs18 7000 zo0), ji zx5, ji zx7] zs18 (fun zs27 => 0 ≤ rs zs27 7006 zo0 ∧ (∀ zs30, zs30 = ws zs27 6000 (rs zs27 7006 zo0) zx8 → i32 (zx12 + 1) ∧ J n c_Search_tryBest (some .int) 48 [some (jo 7 zo0), some (ji zx1), some (ji zx2), some (ji zx3), some (ji zx4), some (ji zx5), some (ji zx6), some (ji zx7), some (ji zx8), some (ji zx9), some (ji zx10), some (ji zx12), some (ji (zx12 + 1)), none] [] zs30 (qI Q)))) else 0 ≤ rs zs18 7000 zo0 ∧ TrV (n - 1) i_Terms_save [jo 9 (rs zs18 7000 zo0), ji zx5] zs18 (fun zs33 => 0 ≤ rs zs33 7000 zo0 ∧ 0 ≤ rs zs33 7006 zo0 ∧ TrV (n - 1) i_Terms_back [jo 9 (rs zs33 7000 zo0), ji zx5, ji (rs zs33 9000 (rs zs33 7000 zo0))] zs33 (fun zs37 => 0 ≤ rs zs37 7006 zo0 ∧ (∀ zs40, zs40 = ws zs37 6000 (rs zs37 7006 zo0) (rs zs33 6000 (rs zs33 7006 zo0)) → i32 (zx12 + 1) ∧ J n c_Search_tryBest (some .int) 48 [some (jo 7 zo0), some (ji zx1), some (ji zx2), some (ji zx3), some (ji zx4), some (ji zx5), some (ji zx6), some (ji (rs zs33 9000 (rs zs33 7000 zo0))), some (ji (rs zs33 6000 (rs zs33 7006 zo0))), some (ji zr19), some (ji zx12), some (ji zx11), some (ji (zx12 + 1)), none] [] zs40 (qI Q))))) else 0 ≤ rs zs18 7006 zo0 ∧ TrI (n - 1) i_Nodes_get [jo 6 (rs zs18 7006 zo0), ji zx4, ji 5] zs18 (fun zr44 zs43 => i32 (zr44 + 1) ∧ 0 ≤ rs zs18 7006 zo0 ∧ TrV (n - 1) i_Nodes_set [jo 6 (rs zs18 7006 zo0), ji zx4, ji 5, ji (zr44 + 1)] zs43 (fun zs47 => 0 ≤ rs zs47 7000 zo0 ∧ TrV (n - 1) i_Terms_back [jo 9 (rs zs47 7000 zo0), ji zx5, ji zx7] zs47 (fun zs50 => 0 ≤ rs zs50 7006 zo0 ∧ (∀ zs53, zs53 = ws zs50 6000 (rs zs50 7006 zo0) zx8 → i32 (zx12 + 1) ∧ J n c_Search_tryBest (some .int) 48 [some (jo 7 zo0), some (ji zx1), some (ji zx2), some (ji zx3), some (ji zx4), some (ji zx5), some (ji zx6), some (ji zx7), some (ji zx8), some (ji zx9), some (ji zx10), some (ji zx11), some (ji (zx12 + 1)), none] [] zs53 (qI Q)))))) else Q 0 zs18)) else (if rs zs16 7017 zo0 = 0 then 0 ≤ rs zs16 7006 zo0 ∧ TrI (n - 1) i_Nodes_get [jo 6 (rs zs16 7006 zo0), ji zx4, ji 5] zs16 (fun zr57 zs56 => i32 (zr57 + 1) ∧ 0 ≤ rs zs16 7006 zo0 ∧ TrV (n - 1) i_Nodes_set [jo 6 (rs zs16 7006 zo0), ji zx4, ji 5, ji (zr57 + 1)] zs56 (fun zs60 => 0 ≤ rs zs60 7000 zo0 ∧ TrV (n - 1) i_Terms_back [jo 9 (rs zs60 7000 zo0), ji zx5, ji zx7] zs60 (fun zs63 => 0 ≤ rs zs63 7006 zo0 ∧ (∀ zs66, zs66 = ws zs63 6000 (rs zs63 7006 zo0) zx8 → i32 (zx12 + 1) ∧ J n c_Search_tryBest (some .int) 48 [some (jo 7 zo0), some (ji zx1), some (ji zx2), some (ji zx3), some (ji zx4), some (ji zx5), some (ji zx6), some (ji zx7), some (ji zx8), some (ji zx9), some (ji zx10), some (ji zx11), some (ji (zx12 + 1)), none] [] zs66 (qI Q))))) else Q 0 zs16))) else i32 (zx12 + 1) ∧ J n c_Search_tryBest (some .int) 48 [some (jo 7 zo0), some (ji zx1), some (ji zx2), some (ji zx3), some (ji zx4), some (ji zx5), some (ji zx6), some (ji zx7), some (ji zx8), some (ji zx9), some (ji zx10), some (ji zx11), some (ji (zx12 + 1)), none] [] zs14 (qI Q))))) : J n c_Search_tryBest (some .int) 48 [some (jo 7 zo0), some (ji zx1), some (ji zx2), some (ji zx3), some (ji zx4), some (ji zx5), some (ji zx6), some (ji zx7), some (ji zx8), some (ji zx9), some (ji zx10), some (ji zx11), some (ji zx12), none] [] σ (qI Q) := by
  refine J_iload (pc' := 50) rfl rfl rfl ?_
  obtain ⟨zg1, W⟩ := W
  refine J_aload_no (pc' := 51) rfl rfl zg1 rfl ?_
  refine J_getO (G := 7019) (pc' := 54) rfl rfl (Nat.le_of_ble_eq_true rfl) rfl zg1 rfl ?_
  obtain ⟨zg2, W⟩ := W
  refine J_getI (G := 10001) (pc' := 57) rfl rfl (Nat.le_of_ble_eq_true rfl) rfl zg2 rfl ?_
  refine J_icmp (P := rs σ 10001 (rs σ 7019 zo0) ≤ zx12) (t := 218) (f := 60) rfl rfl rfl jc_ge W (fun W => ?_) (fun W => ?_)
  · refine J_iload (pc' := 220) rfl rfl rfl ?_
    refine J_iconst (pc' := 221) rfl (i32_d rfl) rfl ?_
    refine J_icmp (P := zx11 = (-1)) (t := 235) (f := 224) rfl rfl rfl jc_eq W (fun W => ?_) (fun W => ?_)
    · refine J_aload_no (pc' := 236) rfl rfl zg1 rfl ?_
      refine J_getO (G := 7000) (pc' := 239) rfl rfl (Nat.le_of_ble_eq_true rfl) rfl zg1 rfl ?_
      refine J_iload (pc' := 241) rfl rfl rfl ?_
      obtain ⟨zg3, W⟩ := W
      obtain ⟨zg4, W⟩ := W
      refine J_weak (L' := [some (jo 7 zo0), none, none, none, some (ji zx4), none, none, none, none, some (ji zx9), some (ji zx10), none, none, none]) (And.intro rfl (And.intro rfl (And.intro rfl (And.intro rfl trivial)))) ?_
      refine J_callV (as := [jo 9 (rs σ 7000 zo0), ji zx6]) (rest := []) (pc' := 244) rfl rfl ax_Z_219 rfl rfl (Or.inr (Or.inr ⟨_, _, rfl, zg4⟩)) (Nat.le_of_ble_eq_true rfl) (Nat.le_of_ble_eq_true rfl) (Nat.le_of_ble_eq_true rfl) zg3 trivial trivial rfl W (fun zs5 W => ?_)
      refine J_aload_no (pc' := 245) rfl rfl zg1 rfl ?_
      refine J_getO (G := 7006) (pc' := 248) rfl rfl (Nat.le_of_ble_eq_true rfl) rfl zg1 rfl ?_
      refine J_iload (pc' := 250) rfl rfl rfl ?_
      refine J_iconst (pc' := 251) rfl (i32_d rfl) rfl ?_
      refine J_iload (pc' := 253) rfl rfl rfl ?_
      obtain ⟨zg7, W⟩ := W
      refine J_weak (L' := [none, none, none, none, none, none, none, none, none, some (ji zx9), none, none, none, none]) (And.intro rfl trivial) ?_
      refine J_callV (as := [jo 6 (rs zs5 7006 zo0), ji zx4, ji 0, ji zx10]) (rest := []) (pc' := 256) rfl rfl ax_Z_153 rfl rfl (Or.inr (Or.inr ⟨_, _, rfl, zg7⟩)) (Nat.le_of_ble_eq_true rfl) (Nat.le_of_ble_eq_true rfl) (Nat.le_of_ble_eq_true rfl) zg3 trivial trivial rfl W (fun zs8 W => ?_)
      refine J_iload (pc' := 258) rfl rfl rfl ?_
      exact J_iret rfl rfl ⟨_, rfl, W⟩
    · refine J_aload_no (pc' := 225) rfl rfl zg1 rfl ?_
      refine J_iload (pc' := 227) rfl rfl rfl ?_
      refine J_iload (pc' := 229) rfl rfl rfl ?_
      refine J_iload_n (pc' := 230) rfl rfl rfl ?_
      obtain ⟨zg10, W⟩ := W
      refine J_weak (L' := [none, none, none, none, none, none, none, none, none, none, none, none, none, none]) trivial ?_
      refine J_callV (as := [jo 7 zo0, ji zx10, ji zx11, ji zx2]) (rest := []) (pc' := 233) rfl rfl ax_Z_170 rfl rfl (Or.inr (Or.inr ⟨_, _, rfl, zg1⟩)) (Nat.le_of_ble_eq_true rfl) (Nat.le_of_ble_eq_true rfl) (Nat.le_of_ble_eq_true rfl) zg10 trivial trivial rfl W (fun zs11 W => ?_)
      refine J_iconst (pc' := 234) rfl (i32_d rfl) rfl ?_
      exact J_iret rfl rfl ⟨_, rfl, W⟩
  · refine J_iload_n (pc' := 61) rfl rfl rfl ?_
    refine J_iload (pc' := 63) rfl rfl rfl ?_
    obtain ⟨zg13, W⟩ := W
    refine J_callI (as := [ji zx1, ji zx12]) (rest := []) (pc' := 66) rfl rfl ax_Z_279 rfl rfl (Or.inr (Or.inl rfl)) (Nat.le_of_ble_eq_true rfl) (Nat.le_of_ble_eq_true rfl) (Nat.le_of_ble_eq_true rfl) zg13 trivial trivial rfl W (fun zr15 zs14 W => ?_)
    refine J_if (P := ¬ zr15 = 0) (t := 72) (f := 69) rfl rfl rfl jc_ne W (fun W => ?_) (fun W => ?_)
    · refine J_aload_no (pc' := 73) rfl rfl zg1 rfl ?_
      refine J_iload (pc' := 75) rfl rfl rfl ?_
      refine J_iload_n (pc' := 76) rfl rfl rfl ?_
      refine J_iload_n (pc' := 77) rfl rfl rfl ?_
      refine J_callI (as := [jo 7 zo0, ji zx12, ji zx2, ji zx3]) (rest := []) (pc' := 80) rfl rfl ax_Z_171 rfl rfl (Or.inr (Or.inr ⟨_, _, rfl, zg1⟩)) (Nat.le_of_ble_eq_true rfl) (Nat.le_of_ble_eq_true rfl) (Nat.le_of_ble_eq_true rfl) zg13 trivial trivial rfl W (fun zr17 zs16 W => ?_)
      refine J_if (P := zr17 = 0) (t := 87) (f := 83) rfl rfl rfl jc_eq W (fun W => ?_) (fun W => ?_)
      · refine J_aload_no (pc' := 88) rfl rfl zg1 rfl ?_
        refine J_iload (pc' := 90) rfl rfl rfl ?_
        refine J_iload_n (pc' := 91) rfl rfl rfl ?_
        refine J_iload_n (pc' := 92) rfl rfl rfl ?_
        refine J_iload (pc' := 94) rfl rfl rfl ?_
        refine J_callI (as := [jo 7 zo0, ji zx12, ji zx2, ji zx3, ji zx4]) (rest := []) (pc' := 97) rfl rfl ax_Z_172 rfl rfl (Or.inr (Or.inr ⟨_, _, rfl, zg1⟩)) (Nat.le_of_ble_eq_true rfl) (Nat.le_of_ble_eq_true rfl) (Nat.le_of_ble_eq_true rfl) zg13 trivial trivial rfl W (fun zr19 zs18 W => ?_)
        refine J_istore (L' := [some (jo 7 zo0), some (ji zx1), some (ji zx2), some (ji zx3), some (ji zx4), some (ji zx5), some (ji zx6), some (ji zx7), some (ji zx8), some (ji zx9), some (ji zx10), some (ji zx11), some (ji zx12), some (ji zr19)]) (pc' := 99) rfl (Nat.le_of_ble_eq_true rfl) rfl rfl ?_
        refine J_aload_no (pc' := 100) rfl rfl zg1 rfl ?_
        refine J_getI (G := 7017) (pc' := 103) rfl rfl (Nat.le_of_ble_eq_true rfl) rfl zg1 rfl ?_
        refine J_if (P := rs zs18 7017 zo0 = 0) (t := 108) (f := 106) rfl rfl rfl jc_eq W (fun W => ?_) (fun W => ?_)
        · refine J_iload (pc' := 110) rfl rfl rfl ?_
          refine J_if (P := ¬ zr19 = 0) (t := 138) (f := 113) rfl rfl rfl jc_ne W (fun W => ?_) (fun W => ?_)
          · refine J_iload (pc' := 140) rfl rfl rfl ?_
            refine J_iconst (pc' := 141) rfl (i32_d rfl) rfl ?_
            refine J_icmp (P := ¬ zx10 = (-1)) (t := 182) (f := 144) rfl rfl rfl jc_ne W (fun W => ?_) (fun W => ?_)
            · refine J_iload (pc' := 184) rfl rfl rfl ?_
              refine J_iconst (pc' := 185) rfl (i32_d rfl) rfl ?_
              refine J_icmp (P := ¬ zx11 = (-1)) (t := 192) (f := 188) rfl rfl rfl jc_ne W (fun W => ?_) (fun W => ?_)
              · refine J_aload_no (pc' := 193) rfl rfl zg1 rfl ?_
                refine J_getO (G := 7000) (pc' := 196) rfl rfl (Nat.le_of_ble_eq_true rfl) rfl zg1 rfl ?_
                refine J_iload (pc' := 198) rfl rfl rfl ?_
                refine J_iload (pc' := 200) rfl rfl rfl ?_
                obtain ⟨zg20, W⟩ := W
                refine J_weak (L' := [some (jo 7 zo0), some (ji zx1), some (ji zx2), some (ji zx3), some (ji zx4), some (ji zx5), some (ji zx6), some (ji zx7), some (ji zx8), some (ji zx9), some (ji zx10), some (ji zx11), some (ji zx12), none]) (And.intro rfl (And.intro rfl (And.intro rfl (And.intro rfl (And.intro rfl (And.intro rfl (And.intro rfl (And.intro rfl (And.intro rfl (And.intro rfl (And.intro rfl (And.intro rfl (And.intro rfl trivial))))))))))))) ?_
                refine J_callV (as := [jo 9 (rs zs18 7000 zo0), ji zx5, ji zx7]) (rest := []) (pc' := 203) rfl rfl ax_Z_217 rfl rfl (Or.inr (Or.inr ⟨_, _, rfl, zg20⟩)) (Nat.le_of_ble_eq_true rfl) (Nat.le_of_ble_eq_true rfl) (Nat.le_of_ble_eq_true rfl) zg13 trivial trivial rfl W (fun zs21 W => ?_)
                refine J_aload_no (pc' := 204) rfl rfl zg1 rfl ?_
                refine J_getO (G := 7006) (pc' := 207) rfl rfl (Nat.le_of_ble_eq_true rfl) rfl zg1 rfl ?_
                refine J_iload (pc' := 209) rfl rfl rfl ?_
                obtain ⟨zg23, W⟩ := W
                refine J_putI (G := 6000) (pc' := 212) rfl rfl (Nat.le_of_ble_eq_true rfl) rfl rfl zg23 rfl (fun zs24 ezs24 => ?_)
                replace W := W zs24 ezs24
                obtain ⟨zg25, W⟩ := W
                refine J_iinc (L' := [some (jo 7 zo0), some (ji zx1), some (ji zx2), some (ji zx3), some (ji zx4), some (ji zx5), some (ji zx6), some (ji zx7), some (ji zx8), some (ji zx9), some (ji zx10), some (ji zx11), some (ji (zx12 + 1)), none]) (pc' := 215) rfl rfl zg25 rfl rfl ?_
                refine J_goto (pc' := 48) rfl rfl ?_
                exact W
              · refine J_iload (pc' := 190) rfl rfl rfl ?_
                refine J_istore (L' := [some (jo 7 zo0), some (ji zx1), some (ji zx2), some (ji zx3), some (ji zx4), some (ji zx5), some (ji zx6), some (ji zx7), some (ji zx8), some (ji zx9), some (ji zx10), some (ji zx12), some (ji zx12), some (ji zr19)]) (pc' := 192) rfl (Nat.le_of_ble_eq_true rfl) rfl rfl ?_
                refine J_aload_no (pc' := 193) rfl rfl zg1 rfl ?_
                refine J_getO (G := 7000) (pc' := 196) rfl rfl (Nat.le_of_ble_eq_true rfl) rfl zg1 rfl ?_
                refine J_iload (pc' := 198) rfl rfl rfl ?_
                refine J_iload (pc' := 200) rfl rfl rfl ?_
                obtain ⟨zg26, W⟩ := W
                refine J_weak (L' := [some (jo 7 zo0), some (ji zx1), some (ji zx2), some (ji zx3), some (ji zx4), some (ji zx5), some (ji zx6), some (ji zx7), some (ji zx8), some (ji zx9), some (ji zx10), some (ji zx12), some (ji zx12), none]) (And.intro rfl (And.intro rfl (And.intro rfl (And.intro rfl (And.intro rfl (And.intro rfl (And.intro rfl (And.intro rfl (And.intro rfl (And.intro rfl (And.intro rfl (And.intro rfl (And.intro rfl trivial))))))))))))) ?_
                refine J_callV (as := [jo 9 (rs zs18 7000 zo0), ji zx5, ji zx7]) (rest := []) (pc' := 203) rfl rfl ax_Z_217 rfl rfl (Or.inr (Or.inr ⟨_, _, rfl, zg26⟩)) (Nat.le_of_ble_eq_true rfl) (Nat.le_of_ble_eq_true rfl) (Nat.le_of_ble_eq_true rfl) zg13 trivial trivial rfl W (fun zs27 W => ?_)
                refine J_aload_no (pc' := 204) rfl rfl zg1 rfl ?_
                refine J_getO (G := 7006) (pc' := 207) rfl rfl (Nat.le_of_ble_eq_true rfl) rfl zg1 rfl ?_
                refine J_iload (pc' := 209) rfl rfl rfl ?_
                obtain ⟨zg29, W⟩ := W
                refine J_putI (G := 6000) (pc' := 212) rfl rfl (Nat.le_of_ble_eq_true rfl) rfl rfl zg29 rfl (fun zs30 ezs30 => ?_)
                replace W := W zs30 ezs30
                obtain ⟨zg31, W⟩ := W
                refine J_iinc (L' := [some (jo 7 zo0), some (ji zx1), some (ji zx2), some (ji zx3), some (ji zx4), some (ji zx5), some (ji zx6), some (ji zx7), some (ji zx8), some (ji zx9), some (ji zx10), some (ji zx12), some (ji (zx12 + 1)), none]) (pc' := 215) rfl rfl zg31 rfl rfl ?_
                refine J_goto (pc' := 48) rfl rfl ?_
                exact W
            · refine J_iload (pc' := 146) rfl rfl rfl ?_
              refine J_istore (L' := [some (jo 7 zo0), some (ji zx1), some (ji zx2), some (ji zx3), some (ji zx4), some (ji zx5), some (ji zx6), some (ji zx7), some (ji zx8), some (ji zx9), some (ji zx12), some (ji zx11), some (ji zx12), some (ji zr19)]) (pc' := 148) rfl (Nat.le_of_ble_eq_true rfl) rfl rfl ?_
              refine J_iload (pc' := 150) rfl rfl rfl ?_
              refine J_istore (L' := [some (jo 7 zo0), some (ji zx1), some (ji zx2), some (ji zx3), some (ji zx4), some (ji zx5), some (ji zx6), some (ji zx7), some (ji zx8), some (ji zr19), some (ji zx12), some (ji zx11), some (ji zx12), some (ji zr19)]) (pc' := 152) rfl (Nat.le_of_ble_eq_true rfl) rfl rfl ?_
              refine J_aload_no (pc' := 153) rfl rfl zg1 rfl ?_
              refine J_getO (G := 7000) (pc' := 156) rfl rfl (Nat.le_of_ble_eq_true rfl) rfl zg1 rfl ?_
              refine J_iload (pc' := 158) rfl rfl rfl ?_
              obtain ⟨zg32, W⟩ := W
              refine J_weak (L' := [some (jo 7 zo0), some (ji zx1), some (ji zx2), some (ji zx3), some (ji zx4), some (ji zx5), some (ji zx6), none, none, some (ji zr19), some (ji zx12), some (ji zx11), some (ji zx12), none]) (And.intro rfl (And.intro rfl (And.intro rfl (And.intro rfl (And.intro rfl (And.intro rfl (And.intro rfl (And.intro rfl (And.intro rfl (And.intro rfl (And.intro rfl trivial))))))))))) ?_
              refine J_callV (as := [jo 9 (rs zs18 7000 zo0), ji zx5]) (rest := []) (pc' := 161) rfl rfl ax_Z_218 rfl rfl (Or.inr (Or.inr ⟨_, _, rfl, zg32⟩)) (Nat.le_of_ble_eq_true rfl) (Nat.le_of_ble_eq_true rfl) (Nat.le_of_ble_eq_true rfl) zg13 trivial trivial rfl W (fun zs33 W => ?_)
              refine J_aload_no (pc' := 162) rfl rfl zg1 rfl ?_
              refine J_getO (G := 7000) (pc' := 165) rfl rfl (Nat.le_of_ble_eq_true rfl) rfl zg1 rfl ?_
              obtain ⟨zg35, W⟩ := W
              refine J_getI (G := 9000) (pc' := 168) rfl rfl (Nat.le_of_ble_eq_true rfl) rfl zg35 rfl ?_
              refine J_istore (L' := [some (jo 7 zo0), some (ji zx1), some (ji zx2), some (ji zx3), some (ji zx4), some (ji zx5), some (ji zx6), some (ji (rs zs33 9000 (rs zs33 7000 zo0))), none, some (ji zr19), some (ji zx12), some (ji zx11), some (ji zx12), none]) (pc' := 170) rfl (Nat.le_of_ble_eq_true rfl) rfl rfl ?_
              refine J_aload_no (pc' := 171) rfl rfl zg1 rfl ?_
              refine J_getO (G := 7006) (pc' := 174) rfl rfl (Nat.le_of_ble_eq_true rfl) rfl zg1 rfl ?_
              obtain ⟨zg36, W⟩ := W
              refine J_getI (G := 6000) (pc' := 177) rfl rfl (Nat.le_of_ble_eq_true rfl) rfl zg36 rfl ?_
              refine J_istore (L' := [some (jo 7 zo0), some (ji zx1), some (ji zx2), some (ji zx3), some (ji zx4), some (ji zx5), some (ji zx6), some (ji (rs zs33 9000 (rs zs33 7000 zo0))), some (ji (rs zs33 6000 (rs zs33 7006 zo0))), some (ji zr19), some (ji zx12), some (ji zx11), some (ji zx12), none]) (pc' := 179) rfl (Nat.le_of_ble_eq_true rfl) rfl rfl ?_
              refine J_goto (pc' := 192) rfl rfl ?_
              refine J_aload_no (pc' := 193) rfl rfl zg1 rfl ?_
              refine J_getO (G := 7000) (pc' := 196) rfl rfl (Nat.le_of_ble_eq_true rfl) rfl zg1 rfl ?_
              refine J_iload (pc' := 198) rfl rfl rfl ?_
              refine J_iload (pc' := 200) rfl rfl rfl ?_
              refine J_callV (as := [jo 9 (rs zs33 7000 zo0), ji zx5, ji (rs zs33 9000 (rs zs33 7000 zo0))]) (rest := []) (pc' := 203) rfl rfl ax_Z_217 rfl rfl (Or.inr (Or.inr ⟨_, _, rfl, zg35⟩)) (Nat.le_of_ble_eq_true rfl) (Nat.le_of_ble_eq_true rfl) (Nat.le_of_ble_eq_true rfl) zg13 trivial trivial rfl W (fun zs37 W => ?_)
              refine J_aload_no (pc' := 204) rfl rfl zg1 rfl ?_
              refine J_getO (G := 7006) (pc' := 207) rfl rfl (Nat.le_of_ble_eq_true rfl) rfl zg1 rfl ?_
              refine J_iload (pc' := 209) rfl rfl rfl ?_
              obtain ⟨zg39, W⟩ := W
              refine J_putI (G := 6000) (pc' := 212) rfl rfl (Nat.le_of_ble_eq_true rfl) rfl rfl zg39 rfl (fun zs40 ezs40 => ?_)
              replace W := W zs40 ezs40
              obtain ⟨zg41, W⟩ := W
              refine J_iinc (L' := [some (jo 7 zo0), some (ji zx1), some (ji zx2), some (ji zx3), some (ji zx4), some (ji zx5), some (ji zx6), some (ji (rs zs33 9000 (rs zs33 7000 zo0))), some (ji (rs zs33 6000 (rs zs33 7006 zo0))), some (ji zr19), some (ji zx12), some (ji zx11), some (ji (zx12 + 1)), none]) (pc' := 215) rfl rfl zg41 rfl rfl ?_
              refine J_goto (pc' := 48) rfl rfl ?_
              exact W
          · refine J_aload_no (pc' := 114) rfl rfl zg1 rfl ?_
            refine J_getO (G := 7006) (pc' := 117) rfl rfl (Nat.le_of_ble_eq_true rfl) rfl zg1 rfl ?_
            refine J_iload (pc' := 119) rfl rfl rfl ?_
            refine J_iconst (pc' := 120) rfl (i32_d rfl) rfl ?_
            refine J_aload_no (pc' := 121) rfl rfl zg1 rfl ?_
            refine J_getO (G := 7006) (pc' := 124) rfl rfl (Nat.le_of_ble_eq_true rfl) rfl zg1 rfl ?_
            refine J_iload (pc' := 126) rfl rfl rfl ?_
            refine J_iconst (pc' := 127) rfl (i32_d rfl) rfl ?_
            obtain ⟨zg42, W⟩ := W
            refine J_weak (L' := [some (jo 7 zo0), some (ji zx1), some (ji zx2), some (ji zx3), some (ji zx4), some (ji zx5), some (ji zx6), some (ji zx7), some (ji zx8), some (ji zx9), some (ji zx10), some (ji zx11), some (ji zx12), none]) (And.intro rfl (And.intro rfl (And.intro rfl (And.intro rfl (And.intro rfl (And.intro rfl (And.intro rfl (And.intro rfl (And.intro rfl (And.intro rfl (And.intro rfl (And.intro rfl (And.intro rfl trivial))))))))))))) ?_
            refine J_callI (as := [jo 6 (rs zs18 7006 zo0), ji zx4, ji 5]) (rest := [ji 5, ji zx4, jo 6 (rs zs18 7006 zo0)]) (pc' := 130) rfl rfl ax_Z_152 rfl rfl (Or.inr (Or.inr ⟨_, _, rfl, zg42⟩)) (Nat.le_of_ble_eq_true rfl) (Nat.le_of_ble_eq_true rfl) (Nat.le_of_ble_eq_true rfl) zg13 trivial trivial rfl W (fun zr44 zs43 W => ?_)
            refine J_iconst (pc' := 131) rfl (i32_d rfl) rfl ?_
            obtain ⟨zg45, W⟩ := W
            refine J_iadd (pc' := 132) rfl zg45 rfl ?_
            obtain ⟨zg46, W⟩ := W
            refine J_callV (as := [jo 6 (rs zs18 7006 zo0), ji zx4, ji 5, ji (zr44 + 1)]) (rest := []) (pc' := 135) rfl rfl ax_Z_153 rfl rfl (Or.inr (Or.inr ⟨_, _, rfl, zg46⟩)) (Nat.le_of_ble_eq_true rfl) (Nat.le_of_ble_eq_true rfl) (Nat.le_of_ble_eq_true rfl) zg13 trivial trivial rfl W (fun zs47 W => ?_)
            refine J_goto (pc' := 192) rfl rfl ?_
            refine J_aload_no (pc' := 193) rfl rfl zg1 rfl ?_
            refine J_getO (G := 7000) (pc' := 196) rfl rfl (Nat.le_of_ble_eq_true rfl) rfl zg1 rfl ?_
            refine J_iload (pc' := 198) rfl rfl rfl ?_
            refine J_iload (pc' := 200) rfl rfl rfl ?_
            obtain ⟨zg49, W⟩ := W
            refine J_callV (as := [jo 9 (rs zs47 7000 zo0), ji zx5, ji zx7]) (rest := []) (pc' := 203) rfl rfl ax_Z_217 rfl rfl (Or.inr (Or.inr ⟨_, _, rfl, zg49⟩)) (Nat.le_of_ble_eq_true rfl) (Nat.le_of_ble_eq_true rfl) (Nat.le_of_ble_eq_true rfl) zg13 trivial trivial rfl W (fun zs50 W => ?_)
            refine J_aload_no (pc' := 204) rfl rfl zg1 rfl ?_
            refine J_getO (G := 7006) (pc' := 207) rfl rfl (Nat.le_of_ble_eq_true rfl) rfl zg1 rfl ?_
            refine J_iload (pc' := 209) rfl rfl rfl ?_
            obtain ⟨zg52, W⟩ := W
            refine J_putI (G := 6000) (pc' := 212) rfl rfl (Nat.le_of_ble_eq_true rfl) rfl rfl zg52 rfl (fun zs53 ezs53 => ?_)
            replace W := W zs53 ezs53
            obtain ⟨zg54, W⟩ := W
            refine J_iinc (L' := [some (jo 7 zo0), some (ji zx1), some (ji zx2), some (ji zx3), some (ji zx4), some (ji zx5), some (ji zx6), some (ji zx7), some (ji zx8), some (ji zx9), some (ji zx10), some (ji zx11), some (ji (zx12 + 1)), none]) (pc' := 215) rfl rfl zg54 rfl rfl ?_
            refine J_goto (pc' := 48) rfl rfl ?_
            exact W
        · refine J_iconst (pc' := 107) rfl (i32_d rfl) rfl ?_
          exact J_iret rfl rfl ⟨_, rfl, W⟩
      · refine J_iconst (pc' := 84) rfl (i32_d rfl) rfl ?_
        refine J_goto (pc' := 97) rfl rfl ?_
        refine J_istore (L' := [some (jo 7 zo0), some (ji zx1), some (ji zx2), some (ji zx3), some (ji zx4), some (ji zx5), some (ji zx6), some (ji zx7), some (ji zx8), some (ji zx9), some (ji zx10), some (ji zx11), some (ji zx12), some (ji 0)]) (pc' := 99) rfl (Nat.le_of_ble_eq_true rfl) rfl rfl ?_
        refine J_aload_no (pc' := 100) rfl rfl zg1 rfl ?_
        refine J_getI (G := 7017) (pc' := 103) rfl rfl (Nat.le_of_ble_eq_true rfl) rfl zg1 rfl ?_
        refine J_if (P := rs zs16 7017 zo0 = 0) (t := 108) (f := 106) rfl rfl rfl jc_eq W (fun W => ?_) (fun W => ?_)
        · refine J_iload (pc' := 110) rfl rfl rfl ?_
          refine J_if_f (pc' := 113) rfl rfl rfl ?_
          refine J_aload_no (pc' := 114) rfl rfl zg1 rfl ?_
          refine J_getO (G := 7006) (pc' := 117) rfl rfl (Nat.le_of_ble_eq_true rfl) rfl zg1 rfl ?_
          refine J_iload (pc' := 119) rfl rfl rfl ?_
          refine J_iconst (pc' := 120) rfl (i32_d rfl) rfl ?_
          refine J_aload_no (pc' := 121) rfl rfl zg1 rfl ?_
          refine J_getO (G := 7006) (pc' := 124) rfl rfl (Nat.le_of_ble_eq_true rfl) rfl zg1 rfl ?_
          refine J_iload (pc' := 126) rfl rfl rfl ?_
          refine J_iconst (pc' := 127) rfl (i32_d rfl) rfl ?_
          obtain ⟨zg55, W⟩ := W
          refine J_weak (L' := [some (jo 7 zo0), some (ji zx1), some (ji zx2), some (ji zx3), some (ji zx4), some (ji zx5), some (ji zx6), some (ji zx7), some (ji zx8), some (ji zx9), some (ji zx10), some (ji zx11), some (ji zx12), none]) (And.intro rfl (And.intro rfl (And.intro rfl (And.intro rfl (And.intro rfl (And.intro rfl (And.intro rfl (And.intro rfl (And.intro rfl (And.intro rfl (And.intro rfl (And.intro rfl (And.intro rfl trivial))))))))))))) ?_
          refine J_callI (as := [jo 6 (rs zs16 7006 zo0), ji zx4, ji 5]) (rest := [ji 5, ji zx4, jo 6 (rs zs16 7006 zo0)]) (pc' := 130) rfl rfl ax_Z_152 rfl rfl (Or.inr (Or.inr ⟨_, _, rfl, zg55⟩)) (Nat.le_of_ble_eq_true rfl) (Nat.le_of_ble_eq_true rfl) (Nat.le_of_ble_eq_true rfl) zg13 trivial trivial rfl W (fun zr57 zs56 W => ?_)
          refine J_iconst (pc' := 131) rfl (i32_d rfl) rfl ?_
          obtain ⟨zg58, W⟩ := W
          refine J_iadd (pc' := 132) rfl zg58 rfl ?_
          obtain ⟨zg59, W⟩ := W
          refine J_callV (as := [jo 6 (rs zs16 7006 zo0), ji zx4, ji 5, ji (zr57 + 1)]) (rest := []) (pc' := 135) rfl rfl ax_Z_153 rfl rfl (Or.inr (Or.inr ⟨_, _, rfl, zg59⟩)) (Nat.le_of_ble_eq_true rfl) (Nat.le_of_ble_eq_true rfl) (Nat.le_of_ble_eq_true rfl) zg13 trivial trivial rfl W (fun zs60 W => ?_)
          refine J_goto (pc' := 192) rfl rfl ?_
          refine J_aload_no (pc' := 193) rfl rfl zg1 rfl ?_
          refine J_getO (G := 7000) (pc' := 196) rfl rfl (Nat.le_of_ble_eq_true rfl) rfl zg1 rfl ?_
          refine J_iload (pc' := 198) rfl rfl rfl ?_
          refine J_iload (pc' := 200) rfl rfl rfl ?_
          obtain ⟨zg62, W⟩ := W
          refine J_callV (as := [jo 9 (rs zs60 7000 zo0), ji zx5, ji zx7]) (rest := []) (pc' := 203) rfl rfl ax_Z_217 rfl rfl (Or.inr (Or.inr ⟨_, _, rfl, zg62⟩)) (Nat.le_of_ble_eq_true rfl) (Nat.le_of_ble_eq_true rfl) (Nat.le_of_ble_eq_true rfl) zg13 trivial trivial rfl W (fun zs63 W => ?_)
          refine J_aload_no (pc' := 204) rfl rfl zg1 rfl ?_
          refine J_getO (G := 7006) (pc' := 207) rfl rfl (Nat.le_of_ble_eq_true rfl) rfl zg1 rfl ?_
          refine J_iload (pc' := 209) rfl rfl rfl ?_
          obtain ⟨zg65, W⟩ := W
          refine J_putI (G := 6000) (pc' := 212) rfl rfl (Nat.le_of_ble_eq_true rfl) rfl rfl zg65 rfl (fun zs66 ezs66 => ?_)
          replace W := W zs66 ezs66
          obtain ⟨zg67, W⟩ := W
          refine J_iinc (L' := [some (jo 7 zo0), some (ji zx1), some (ji zx2), some (ji zx3), some (ji zx4), some (ji zx5), some (ji zx6), some (ji zx7), some (ji zx8), some (ji zx9), some (ji zx10), some (ji zx11), some (ji (zx12 + 1)), none]) (pc' := 215) rfl rfl zg67 rfl rfl ?_
          refine J_goto (pc' := 48) rfl rfl ?_
          exact W
        · refine J_iconst (pc' := 107) rfl (i32_d rfl) rfl ?_
          exact J_iret rfl rfl ⟨_, rfl, W⟩
    · refine J_goto (pc' := 212) rfl rfl ?_
      obtain ⟨zg68, W⟩ := W
      refine J_iinc (L' := [some (jo 7 zo0), some (ji zx1), some (ji zx2), some (ji zx3), some (ji zx4), some (ji zx5), some (ji zx6), some (ji zx7), some (ji zx8), some (ji zx9), some (ji zx10), some (ji zx11), some (ji (zx12 + 1)), none]) (pc' := 215) rfl rfl zg68 rfl rfl ?_
      refine J_goto (pc' := 48) rfl rfl ?_
      exact W
theorem wp_Search_tellBoth {n : Nat} {σ : jS} {Q : jS → Prop} {zo0 : Int} {zx1 : Int} {zx2 : Int} {zx3 : Int} (W : 0 ≤ zo0 ∧ (∀ zs2, zs2 = ws σ 7017 zo0 2 → (∀ zs3, zs3 = ws zs2 7004 zo0 zx1 → (∀ zs4, zs4 = ws zs3 7005 zo0 zx2 → 1 ≤ n ∧ 0 ≤ rs zs4 7000 zo0 ∧ TrV (n - 1) i_Terms_flatten [jo 9 (rs zs4 7000 zo0), ji zx3, jo 0 (rs zs4 7003 zo0)] zs4 (fun zs7 => Q zs7))))) : TrV n i_Search_tellBoth [jo 7 zo0, ji zx1, ji zx2, ji zx3] σ Q := by
  refine Tr_of ax_Z_170 ?_
  show J n c_Search_tellBoth none 0 [some (jo 7 zo0), some (ji zx1), some (ji zx2), some (ji zx3)] [] σ (qV Q)
  obtain ⟨zg1, W⟩ := W
  refine J_aload_no (pc' := 1) rfl rfl zg1 rfl ?_
  refine J_iconst (pc' := 2) rfl (i32_d rfl) rfl ?_
  refine J_putI (G := 7017) (pc' := 5) rfl rfl (Nat.le_of_ble_eq_true rfl) rfl rfl zg1 rfl (fun zs2 ezs2 => ?_)
  replace W := W zs2 ezs2
  refine J_aload_no (pc' := 6) rfl rfl zg1 rfl ?_
  refine J_iload_n (pc' := 7) rfl rfl rfl ?_
  refine J_putI (G := 7004) (pc' := 10) rfl rfl (Nat.le_of_ble_eq_true rfl) rfl rfl zg1 rfl (fun zs3 ezs3 => ?_)
  replace W := W zs3 ezs3
  refine J_aload_no (pc' := 11) rfl rfl zg1 rfl ?_
  refine J_iload_n (pc' := 12) rfl rfl rfl ?_
  refine J_putI (G := 7005) (pc' := 15) rfl rfl (Nat.le_of_ble_eq_true rfl) rfl rfl zg1 rfl (fun zs4 ezs4 => ?_)
  replace W := W zs4 ezs4
  refine J_aload_no (pc' := 16) rfl rfl zg1 rfl ?_
  refine J_getO (G := 7000) (pc' := 19) rfl rfl (Nat.le_of_ble_eq_true rfl) rfl zg1 rfl ?_
  refine J_iload_n (pc' := 20) rfl rfl rfl ?_
  refine J_aload_no (pc' := 21) rfl rfl zg1 rfl ?_
  refine J_getO (G := 7003) (pc' := 24) rfl rfl (Nat.le_of_ble_eq_true rfl) rfl zg1 rfl ?_
  obtain ⟨zg5, W⟩ := W
  obtain ⟨zg6, W⟩ := W
  refine J_weak (L' := [none, none, none, none]) trivial ?_
  refine J_callV (as := [jo 9 (rs zs4 7000 zo0), ji zx3, jo 0 (rs zs4 7003 zo0)]) (rest := []) (pc' := 27) rfl rfl ax_Z_220 rfl rfl (Or.inr (Or.inr ⟨_, _, rfl, zg6⟩)) (Nat.le_of_ble_eq_true rfl) (Nat.le_of_ble_eq_true rfl) (Nat.le_of_ble_eq_true rfl) zg5 trivial trivial rfl W (fun zs7 W => ?_)
  exact J_vret rfl rfl ⟨rfl, W⟩
theorem wp_Search_isCut {n : Nat} {σ : jS} {Q : Int → jS → Prop} {zo0 : Int} {zx1 : Int} {zx2 : Int} {zx3 : Int} (W : J n c_Search_isCut (some .boolean) 3 [some (jo 7 zo0), some (ji zx1), some (ji zx2), some (ji zx3), some (ji 0)] [] σ (qI Q)) : TrI n i_Search_isCut [jo 7 zo0, ji zx1, ji zx2, ji zx3] σ Q := by
  refine Tr_of ax_Z_171 ?_
  show J n c_Search_isCut (some .boolean) 0 [some (jo 7 zo0), some (ji zx1), some (ji zx2), some (ji zx3), none] [] σ (qI Q)
  refine J_iconst (pc' := 1) rfl (i32_d rfl) rfl ?_
  refine J_istore (L' := [some (jo 7 zo0), some (ji zx1), some (ji zx2), some (ji zx3), some (ji 0)]) (pc' := 3) rfl (Nat.le_of_ble_eq_true rfl) rfl rfl ?_
  exact W
theorem wp_Search_isCut_3 {n : Nat} {σ : jS} {Q : Int → jS → Prop} {zo0 : Int} {zx1 : Int} {zx2 : Int} {zx3 : Int} {zx4 : Int} (W : (if zx3 ≤ zx4 then Q 0 σ else (if 20 ≤ zx4 then Q 0 σ else 0 ≤ zo0 ∧ 0 ≤ rl σ 7010 zo0 ∧ 0 ≤ zx4 ∧ zx4 < rl σ 7010 zo0 ∧ (if ¬ ra σ 7010 zo0 zx4 = zx1 then i32 (zx4 + 1) ∧ J n c_Search_isCut (some .boolean) 3 [some (jo 7 zo0), some (ji zx1), some (ji zx2), some (ji zx3), some (ji (zx4 + 1))] [] σ (qI Q) else 1 ≤ n ∧ 0 ≤ rs σ 7000 zo0 ∧ TrV (n - 1) i_Terms_flatten [jo 9 (rs σ 7000 zo0), ji zx2, jo 0 (rs σ 7008 zo0)] σ (fun zs8 => 0 ≤ rl zs8 7011 zo0 ∧ zx4 < rl zs8 7011 zo0 ∧ 0 ≤ rs zs8 7000 zo0 ∧ TrV (n - 1) i_Terms_flatten [jo 9 (rs zs8 7000 zo0), ji (ra zs8 7011 zo0 zx4), jo 0 (rs zs8 7009 zo0)] zs8 (fun zs13 => 0 ≤ rs zs13 7009 zo0 ∧ 0 ≤ rs zs13 7008 zo0 ∧ (if rs zs13 1 (rs zs13 7008 zo0) < rs zs13 1 (rs zs13 7009 zo0) then i32 (zx4 + 1) ∧ J n c_Search_isCut (some .boolean) 3 [some (jo 7 zo0), some (ji zx1), some (ji zx2), some (ji zx3), some (ji (zx4 + 1))] [] zs13 (qI Q) else TrI (n - 1) i_Flat_cover [jo 0 (rs zs13 7009 zo0)] zs13 (fun zr19 zs18 => 0 ≤ rs zs18 7008 zo0 ∧ TrI (n - 1) i_Flat_cover [jo 0 (rs zs18 7008 zo0)] zs18 (fun zr22 zs21 => (if ¬ zr19 = zr22 then i32 (zx4 + 1) ∧ J n c_Search_isCut (some .boolean) 3 [some (jo 7 zo0), some (ji zx1), some (ji zx2), some (ji zx3), some (ji (zx4 + 1))] [] zs21 (qI Q) else 0 ≤ rl zs21 7002 zo0 ∧ 3 < rl zs21 7002 zo0 ∧ i32 ((ra zs21 7002 zo0 3) + 1) ∧ (∀ zs27, zs27 = wa zs21 7002 zo0 3 ((ra zs21 7002 zo0 3) + 1) → Q 1 zs27))))))))))) : J n c_Search_isCut (some .boolean) 3 [some (jo 7 zo0), some (ji zx1), some (ji zx2), some (ji zx3), some (ji zx4)] [] σ (qI Q) := by
  refine J_iload (pc' := 5) rfl rfl rfl ?_
  refine J_iload_n (pc' := 6) rfl rfl rfl ?_
  refine J_icmp (P := zx3 ≤ zx4) (t := 109) (f := 9) rfl rfl rfl jc_ge W (fun W => ?_) (fun W => ?_)
  · refine J_iconst (pc' := 110) rfl (i32_d rfl) rfl ?_
    exact J_zret rfl rfl (Or.inl rfl) ⟨_, rfl, W⟩
  · refine J_iload (pc' := 11) rfl rfl rfl ?_
    refine J_bipush (pc' := 13) rfl (by decide) (by decide) rfl ?_
    refine J_icmp (P := 20 ≤ zx4) (t := 109) (f := 16) rfl rfl rfl jc_ge W (fun W => ?_) (fun W => ?_)
    · refine J_iconst (pc' := 110) rfl (i32_d rfl) rfl ?_
      exact J_zret rfl rfl (Or.inl rfl) ⟨_, rfl, W⟩
    · obtain ⟨zg1, W⟩ := W
      refine J_aload_no (pc' := 17) rfl rfl zg1 rfl ?_
      obtain ⟨zg2, W⟩ := W
      refine J_getA (G := 7010) (pc' := 20) rfl rfl (Nat.le_of_ble_eq_true rfl) rfl zg1 zg2 rfl ?_
      refine J_iload (pc' := 22) rfl rfl rfl ?_
      obtain ⟨zg3, W⟩ := W
      obtain ⟨zg4, W⟩ := W
      refine J_iald (pc' := 23) rfl rfl zg3 zg4 rfl ?_
      refine J_iload_n (pc' := 24) rfl rfl rfl ?_
      refine J_icmp (P := ¬ ra σ 7010 zo0 zx4 = zx1) (t := 103) (f := 27) rfl rfl rfl jc_ne W (fun W => ?_) (fun W => ?_)
      · obtain ⟨zg5, W⟩ := W
        refine J_iinc (L' := [some (jo 7 zo0), some (ji zx1), some (ji zx2), some (ji zx3), some (ji (zx4 + 1))]) (pc' := 106) rfl rfl zg5 rfl rfl ?_
        refine J_goto (pc' := 3) rfl rfl ?_
        exact W
      · refine J_aload_no (pc' := 28) rfl rfl zg1 rfl ?_
        refine J_getO (G := 7000) (pc' := 31) rfl rfl (Nat.le_of_ble_eq_true rfl) rfl zg1 rfl ?_
        refine J_iload_n (pc' := 32) rfl rfl rfl ?_
        refine J_aload_no (pc' := 33) rfl rfl zg1 rfl ?_
        refine J_getO (G := 7008) (pc' := 36) rfl rfl (Nat.le_of_ble_eq_true rfl) rfl zg1 rfl ?_
        obtain ⟨zg6, W⟩ := W
        obtain ⟨zg7, W⟩ := W
        refine J_callV (as := [jo 9 (rs σ 7000 zo0), ji zx2, jo 0 (rs σ 7008 zo0)]) (rest := []) (pc' := 39) rfl rfl ax_Z_220 rfl rfl (Or.inr (Or.inr ⟨_, _, rfl, zg7⟩)) (Nat.le_of_ble_eq_true rfl) (Nat.le_of_ble_eq_true rfl) (Nat.le_of_ble_eq_true rfl) zg6 trivial trivial rfl W (fun zs8 W => ?_)
        refine J_aload_no (pc' := 40) rfl rfl zg1 rfl ?_
        refine J_getO (G := 7000) (pc' := 43) rfl rfl (Nat.le_of_ble_eq_true rfl) rfl zg1 rfl ?_
        refine J_aload_no (pc' := 44) rfl rfl zg1 rfl ?_
        obtain ⟨zg10, W⟩ := W
        refine J_getA (G := 7011) (pc' := 47) rfl rfl (Nat.le_of_ble_eq_true rfl) rfl zg1 zg10 rfl ?_
        refine J_iload (pc' := 49) rfl rfl rfl ?_
        obtain ⟨zg11, W⟩ := W
        refine J_iald (pc' := 50) rfl rfl zg3 zg11 rfl ?_
        refine J_aload_no (pc' := 51) rfl rfl zg1 rfl ?_
        refine J_getO (G := 7009) (pc' := 54) rfl rfl (Nat.le_of_ble_eq_true rfl) rfl zg1 rfl ?_
        obtain ⟨zg12, W⟩ := W
        refine J_callV (as := [jo 9 (rs zs8 7000 zo0), ji (ra zs8 7011 zo0 zx4), jo 0 (rs zs8 7009 zo0)]) (rest := []) (pc' := 57) rfl rfl ax_Z_220 rfl rfl (Or.inr (Or.inr ⟨_, _, rfl, zg12⟩)) (Nat.le_of_ble_eq_true rfl) (Nat.le_of_ble_eq_true rfl) (Nat.le_of_ble_eq_true rfl) zg6 trivial trivial rfl W (fun zs13 W => ?_)
        refine J_aload_no (pc' := 58) rfl rfl zg1 rfl ?_
        refine J_getO (G := 7009) (pc' := 61) rfl rfl (Nat.le_of_ble_eq_true rfl) rfl zg1 rfl ?_
        obtain ⟨zg15, W⟩ := W
        refine J_getI (G := 1) (pc' := 64) rfl rfl (Nat.le_of_ble_eq_true rfl) rfl zg15 rfl ?_
        refine J_aload_no (pc' := 65) rfl rfl zg1 rfl ?_
        refine J_getO (G := 7008) (pc' := 68) rfl rfl (Nat.le_of_ble_eq_true rfl) rfl zg1 rfl ?_
        obtain ⟨zg16, W⟩ := W
        refine J_getI (G := 1) (pc' := 71) rfl rfl (Nat.le_of_ble_eq_true rfl) rfl zg16 rfl ?_
        refine J_icmp (P := rs zs13 1 (rs zs13 7008 zo0) < rs zs13 1 (rs zs13 7009 zo0)) (t := 103) (f := 74) rfl rfl rfl jc_gt W (fun W => ?_) (fun W => ?_)
        · obtain ⟨zg17, W⟩ := W
          refine J_iinc (L' := [some (jo 7 zo0), some (ji zx1), some (ji zx2), some (ji zx3), some (ji (zx4 + 1))]) (pc' := 106) rfl rfl zg17 rfl rfl ?_
          refine J_goto (pc' := 3) rfl rfl ?_
          exact W
        · refine J_aload_no (pc' := 75) rfl rfl zg1 rfl ?_
          refine J_getO (G := 7009) (pc' := 78) rfl rfl (Nat.le_of_ble_eq_true rfl) rfl zg1 rfl ?_
          refine J_callI (as := [jo 0 (rs zs13 7009 zo0)]) (rest := []) (pc' := 81) rfl rfl ax_Z_125 rfl rfl (Or.inr (Or.inr ⟨_, _, rfl, zg15⟩)) (Nat.le_of_ble_eq_true rfl) (Nat.le_of_ble_eq_true rfl) (Nat.le_of_ble_eq_true rfl) zg6 trivial trivial rfl W (fun zr19 zs18 W => ?_)
          refine J_aload_no (pc' := 82) rfl rfl zg1 rfl ?_
          refine J_getO (G := 7008) (pc' := 85) rfl rfl (Nat.le_of_ble_eq_true rfl) rfl zg1 rfl ?_
          obtain ⟨zg20, W⟩ := W
          refine J_callI (as := [jo 0 (rs zs18 7008 zo0)]) (rest := [ji zr19]) (pc' := 88) rfl rfl ax_Z_125 rfl rfl (Or.inr (Or.inr ⟨_, _, rfl, zg20⟩)) (Nat.le_of_ble_eq_true rfl) (Nat.le_of_ble_eq_true rfl) (Nat.le_of_ble_eq_true rfl) zg6 trivial trivial rfl W (fun zr22 zs21 W => ?_)
          refine J_icmp (P := ¬ zr19 = zr22) (t := 103) (f := 91) rfl rfl rfl jc_ne W (fun W => ?_) (fun W => ?_)
          · obtain ⟨zg23, W⟩ := W
            refine J_iinc (L' := [some (jo 7 zo0), some (ji zx1), some (ji zx2), some (ji zx3), some (ji (zx4 + 1))]) (pc' := 106) rfl rfl zg23 rfl rfl ?_
            refine J_goto (pc' := 3) rfl rfl ?_
            exact W
          · refine J_aload_no (pc' := 92) rfl rfl zg1 rfl ?_
            obtain ⟨zg24, W⟩ := W
            refine J_getA (G := 7002) (pc' := 95) rfl rfl (Nat.le_of_ble_eq_true rfl) rfl zg1 zg24 rfl ?_
            refine J_iconst (pc' := 96) rfl (i32_d rfl) rfl ?_
            refine J_dup2 (pc' := 97) rfl rfl rfl rfl ?_
            obtain ⟨zg25, W⟩ := W
            refine J_iald (pc' := 98) rfl rfl (by decide) zg25 rfl ?_
            refine J_iconst (pc' := 99) rfl (i32_d rfl) rfl ?_
            obtain ⟨zg26, W⟩ := W
            refine J_iadd (pc' := 100) rfl zg26 rfl ?_
            refine J_iast (pc' := 101) rfl rfl (by decide) (by decide) zg25 rfl (fun zs27 ezs27 => ?_)
            replace W := W zs27 ezs27
            refine J_iconst (pc' := 102) rfl (i32_d rfl) rfl ?_
            exact J_zret rfl rfl (Or.inr rfl) ⟨_, rfl, W⟩
theorem wp_Search_tryGiven {n : Nat} {σ : jS} {Q : Int → jS → Prop} {zo0 : Int} {zx1 : Int} {zx2 : Int} {zx3 : Int} {zx4 : Int} (W : 0 ≤ zo0 ∧ 0 ≤ rl σ 7002 zo0 ∧ 4 < rl σ 7002 zo0 ∧ i32 ((ra σ 7002 zo0 4) + 1) ∧ (∀ zs5, zs5 = wa σ 7002 zo0 4 ((ra σ 7002 zo0 4) + 1) → 0 ≤ rl zs5 7010 zo0 ∧ 0 ≤ zx3 ∧ zx3 < rl zs5 7010 zo0 ∧ (∀ zs7, zs7 = wa zs5 7010 zo0 zx3 zx1 → 0 ≤ rl zs7 7011 zo0 ∧ zx3 < rl zs7 7011 zo0 ∧ (∀ zs11, zs11 = wa zs7 7011 zo0 zx3 zx2 → 1 ≤ n ∧ TrI (n - 1) i_Search_buildGiven [jo 7 zo0, ji zx1, ji zx3] zs11 (fun zr15 zs14 => 0 ≤ rs zs11 7000 zo0 ∧ TrI (n - 1) i_Terms_unify [jo 9 (rs zs11 7000 zo0), ji zr15, ji zx2] zs14 (fun zr18 zs17 => (if ¬ zr18 = 0 then J n c_Search_tryGiven (some .int) 49 [some (jo 7 zo0), some (ji zx1), none, some (ji zx3), some (ji zx4), some (ji 1), some (ji 0), none] [] zs17 (qI Q) else Q 0 zs17))))))) : TrI n i_Search_tryGiven [jo 7 zo0, ji zx1, ji zx2, ji zx3, ji zx4] σ Q := by
  refine Tr_of ax_Z_172 ?_
  show J n c_Search_tryGiven (some .int) 0 [some (jo 7 zo0), some (ji zx1), some (ji zx2), some (ji zx3), some (ji zx4), none, none, none] [] σ (qI Q)
  obtain ⟨zg1, W⟩ := W
  refine J_aload_no (pc' := 1) rfl rfl zg1 rfl ?_
  obtain ⟨zg2, W⟩ := W
  refine J_getA (G := 7002) (pc' := 4) rfl rfl (Nat.le_of_ble_eq_true rfl) rfl zg1 zg2 rfl ?_
  refine J_iconst (pc' := 5) rfl (i32_d rfl) rfl ?_
  refine J_dup2 (pc' := 6) rfl rfl rfl rfl ?_
  obtain ⟨zg3, W⟩ := W
  refine J_iald (pc' := 7) rfl rfl (by decide) zg3 rfl ?_
  refine J_iconst (pc' := 8) rfl (i32_d rfl) rfl ?_
  obtain ⟨zg4, W⟩ := W
  refine J_iadd (pc' := 9) rfl zg4 rfl ?_
  refine J_iast (pc' := 10) rfl rfl (by decide) (by decide) zg3 rfl (fun zs5 ezs5 => ?_)
  replace W := W zs5 ezs5
  refine J_aload_no (pc' := 11) rfl rfl zg1 rfl ?_
  obtain ⟨zg6, W⟩ := W
  refine J_getA (G := 7010) (pc' := 14) rfl rfl (Nat.le_of_ble_eq_true rfl) rfl zg1 zg6 rfl ?_
  refine J_iload_n (pc' := 15) rfl rfl rfl ?_
  refine J_iload_n (pc' := 16) rfl rfl rfl ?_
  obtain ⟨zg8, W⟩ := W
  obtain ⟨zg9, W⟩ := W
  refine J_iast (pc' := 17) rfl rfl (by decide) zg8 zg9 rfl (fun zs7 ezs7 => ?_)
  replace W := W zs7 ezs7
  refine J_aload_no (pc' := 18) rfl rfl zg1 rfl ?_
  obtain ⟨zg10, W⟩ := W
  refine J_getA (G := 7011) (pc' := 21) rfl rfl (Nat.le_of_ble_eq_true rfl) rfl zg1 zg10 rfl ?_
  refine J_iload_n (pc' := 22) rfl rfl rfl ?_
  refine J_iload_n (pc' := 23) rfl rfl rfl ?_
  obtain ⟨zg12, W⟩ := W
  refine J_iast (pc' := 24) rfl rfl (by decide) zg8 zg12 rfl (fun zs11 ezs11 => ?_)
  replace W := W zs11 ezs11
  refine J_aload_no (pc' := 25) rfl rfl zg1 rfl ?_
  refine J_getO (G := 7000) (pc' := 28) rfl rfl (Nat.le_of_ble_eq_true rfl) rfl zg1 rfl ?_
  refine J_aload_no (pc' := 29) rfl rfl zg1 rfl ?_
  refine J_iload_n (pc' := 30) rfl rfl rfl ?_
  refine J_iload_n (pc' := 31) rfl rfl rfl ?_
  obtain ⟨zg13, W⟩ := W
  refine J_callI (as := [jo 7 zo0, ji zx1, ji zx3]) (rest := [jo 9 (rs zs11 7000 zo0)]) (pc' := 34) rfl rfl ax_Z_173 rfl rfl (Or.inr (Or.inr ⟨_, _, rfl, zg1⟩)) (Nat.le_of_ble_eq_true rfl) (Nat.le_of_ble_eq_true rfl) (Nat.le_of_ble_eq_true rfl) zg13 trivial trivial rfl W (fun zr15 zs14 W => ?_)
  refine J_iload_n (pc' := 35) rfl rfl rfl ?_
  obtain ⟨zg16, W⟩ := W
  refine J_weak (L' := [some (jo 7 zo0), some (ji zx1), none, some (ji zx3), some (ji zx4), none, none, none]) (And.intro rfl (And.intro rfl (And.intro rfl (And.intro rfl trivial)))) ?_
  refine J_callI (as := [jo 9 (rs zs11 7000 zo0), ji zr15, ji zx2]) (rest := []) (pc' := 38) rfl rfl ax_Z_209 rfl rfl (Or.inr (Or.inr ⟨_, _, rfl, zg16⟩)) (Nat.le_of_ble_eq_true rfl) (Nat.le_of_ble_eq_true rfl) (Nat.le_of_ble_eq_true rfl) zg13 trivial trivial rfl W (fun zr18 zs17 W => ?_)
  refine J_if (P := ¬ zr18 = 0) (t := 43) (f := 41) rfl rfl rfl jc_ne W (fun W => ?_) (fun W => ?_)
  · refine J_iconst (pc' := 44) rfl (i32_d rfl) rfl ?_
    refine J_istore (L' := [some (jo 7 zo0), some (ji zx1), none, some (ji zx3), some (ji zx4), some (ji 1), none, none]) (pc' := 46) rfl (Nat.le_of_ble_eq_true rfl) rfl rfl ?_
    refine J_iconst (pc' := 47) rfl (i32_d rfl) rfl ?_
    refine J_istore (L' := [some (jo 7 zo0), some (ji zx1), none, some (ji zx3), some (ji zx4), some (ji 1), some (ji 0), none]) (pc' := 49) rfl (Nat.le_of_ble_eq_true rfl) rfl rfl ?_
    exact W
  · refine J_iconst (pc' := 42) rfl (i32_d rfl) rfl ?_
    exact J_iret rfl rfl ⟨_, rfl, W⟩
theorem wp_Search_tryGiven_49 {n : Nat} {σ : jS} {Q : Int → jS → Prop} {zo0 : Int} {zx1 : Int} {zx3 : Int} {zx4 : Int} {zx5 : Int} {zx6 : Int} (W : 0 ≤ zo0 ∧ 1 ≤ n ∧ 0 ≤ rs σ 7019 zo0 ∧ TrI (n - 1) i_Text_needsOf [jo 10 (rs σ 7019 zo0), ji zx1] σ (fun zr5 zs4 => (if zr5 ≤ zx6 then (if zx5 ≤ 200 then Q zx5 zs4 else (∀ zs6, zs6 = ws zs4 7017 zo0 6 → Q 0 zs6)) else 0 ≤ rl zs4 7012 zo0 ∧ i32 (zx3 * 4) ∧ i32 ((zx3 * 4) + zx6) ∧ 0 ≤ (zx3 * 4) + zx6 ∧ (zx3 * 4) + zx6 < rl zs4 7012 zo0 ∧ i32 (zx3 + 1) ∧ TrI (n - 1) i_Search_askGoal [jo 7 zo0, ji (ra zs4 7012 zo0 ((zx3 * 4) + zx6)), ji (zx3 + 1), ji zx4, ji zx6] zs4 (fun zr14 zs13 => (if ¬ zr14 = 0 then i32 (zx5 + zr14) ∧ i32 (zx6 + 1) ∧ J n c_Search_tryGiven (some .int) 49 [some (jo 7 zo0), some (ji zx1), none, some (ji zx3), some (ji zx4), some (ji (zx5 + zr14)), some (ji (zx6 + 1)), none] [] zs13 (qI Q) else Q 0 zs13))))) : J n c_Search_tryGiven (some .int) 49 [some (jo 7 zo0), some (ji zx1), none, some (ji zx3), some (ji zx4), some (ji zx5), some (ji zx6), none] [] σ (qI Q) := by
  refine J_iload (pc' := 51) rfl rfl rfl ?_
  obtain ⟨zg1, W⟩ := W
  refine J_aload_no (pc' := 52) rfl rfl zg1 rfl ?_
  refine J_getO (G := 7019) (pc' := 55) rfl rfl (Nat.le_of_ble_eq_true rfl) rfl zg1 rfl ?_
  refine J_iload_n (pc' := 56) rfl rfl rfl ?_
  obtain ⟨zg2, W⟩ := W
  obtain ⟨zg3, W⟩ := W
  refine J_callI (as := [jo 10 (rs σ 7019 zo0), ji zx1]) (rest := [ji zx6]) (pc' := 59) rfl rfl ax_Z_231 rfl rfl (Or.inr (Or.inr ⟨_, _, rfl, zg3⟩)) (Nat.le_of_ble_eq_true rfl) (Nat.le_of_ble_eq_true rfl) (Nat.le_of_ble_eq_true rfl) zg2 trivial trivial rfl W (fun zr5 zs4 W => ?_)
  refine J_icmp (P := zr5 ≤ zx6) (t := 106) (f := 62) rfl rfl rfl jc_ge W (fun W => ?_) (fun W => ?_)
  · refine J_iload (pc' := 108) rfl rfl rfl ?_
    refine J_sipush (pc' := 111) rfl (by decide) (by decide) rfl ?_
    refine J_icmp (P := zx5 ≤ 200) (t := 122) (f := 114) rfl rfl rfl jc_le W (fun W => ?_) (fun W => ?_)
    · refine J_iload (pc' := 124) rfl rfl rfl ?_
      exact J_iret rfl rfl ⟨_, rfl, W⟩
    · refine J_aload_no (pc' := 115) rfl rfl zg1 rfl ?_
      refine J_bipush (pc' := 117) rfl (by decide) (by decide) rfl ?_
      refine J_putI (G := 7017) (pc' := 120) rfl rfl (Nat.le_of_ble_eq_true rfl) rfl rfl zg1 rfl (fun zs6 ezs6 => ?_)
      replace W := W zs6 ezs6
      refine J_iconst (pc' := 121) rfl (i32_d rfl) rfl ?_
      exact J_iret rfl rfl ⟨_, rfl, W⟩
  · refine J_aload_no (pc' := 63) rfl rfl zg1 rfl ?_
    refine J_aload_no (pc' := 64) rfl rfl zg1 rfl ?_
    obtain ⟨zg7, W⟩ := W
    refine J_getA (G := 7012) (pc' := 67) rfl rfl (Nat.le_of_ble_eq_true rfl) rfl zg1 zg7 rfl ?_
    refine J_iload_n (pc' := 68) rfl rfl rfl ?_
    refine J_iconst (pc' := 69) rfl (i32_d rfl) rfl ?_
    obtain ⟨zg8, W⟩ := W
    refine J_imul (pc' := 70) rfl zg8 rfl ?_
    refine J_iload (pc' := 72) rfl rfl rfl ?_
    obtain ⟨zg9, W⟩ := W
    refine J_iadd (pc' := 73) rfl zg9 rfl ?_
    obtain ⟨zg10, W⟩ := W
    obtain ⟨zg11, W⟩ := W
    refine J_iald (pc' := 74) rfl rfl zg10 zg11 rfl ?_
    refine J_iload_n (pc' := 75) rfl rfl rfl ?_
    refine J_iconst (pc' := 76) rfl (i32_d rfl) rfl ?_
    obtain ⟨zg12, W⟩ := W
    refine J_iadd (pc' := 77) rfl zg12 rfl ?_
    refine J_iload (pc' := 79) rfl rfl rfl ?_
    refine J_iload (pc' := 81) rfl rfl rfl ?_
    refine J_callI (as := [jo 7 zo0, ji (ra zs4 7012 zo0 ((zx3 * 4) + zx6)), ji (zx3 + 1), ji zx4, ji zx6]) (rest := []) (pc' := 84) rfl rfl ax_Z_162 rfl rfl (Or.inr (Or.inr ⟨_, _, rfl, zg1⟩)) (Nat.le_of_ble_eq_true rfl) (Nat.le_of_ble_eq_true rfl) (Nat.le_of_ble_eq_true rfl) zg2 trivial trivial rfl W (fun zr14 zs13 W => ?_)
    refine J_istore (L' := [some (jo 7 zo0), some (ji zx1), none, some (ji zx3), some (ji zx4), some (ji zx5), some (ji zx6), some (ji zr14)]) (pc' := 86) rfl (Nat.le_of_ble_eq_true rfl) rfl rfl ?_
    refine J_iload (pc' := 88) rfl rfl rfl ?_
    refine J_if (P := ¬ zr14 = 0) (t := 93) (f := 91) rfl rfl rfl jc_ne W (fun W => ?_) (fun W => ?_)
    · refine J_iload (pc' := 95) rfl rfl rfl ?_
      refine J_iload (pc' := 97) rfl rfl rfl ?_
      obtain ⟨zg15, W⟩ := W
      refine J_iadd (pc' := 98) rfl zg15 rfl ?_
      refine J_istore (L' := [some (jo 7 zo0), some (ji zx1), none, some (ji zx3), some (ji zx4), some (ji (zx5 + zr14)), some (ji zx6), some (ji zr14)]) (pc' := 100) rfl (Nat.le_of_ble_eq_true rfl) rfl rfl ?_
      obtain ⟨zg16, W⟩ := W
      refine J_iinc (L' := [some (jo 7 zo0), some (ji zx1), none, some (ji zx3), some (ji zx4), some (ji (zx5 + zr14)), some (ji (zx6 + 1)), some (ji zr14)]) (pc' := 103) rfl rfl zg16 rfl rfl ?_
      refine J_goto (pc' := 49) rfl rfl ?_
      refine J_weak (L' := [some (jo 7 zo0), some (ji zx1), none, some (ji zx3), some (ji zx4), some (ji (zx5 + zr14)), some (ji (zx6 + 1)), none]) (And.intro rfl (And.intro rfl (And.intro rfl (And.intro rfl (And.intro rfl (And.intro rfl trivial)))))) ?_
      exact W
    · refine J_iconst (pc' := 92) rfl (i32_d rfl) rfl ?_
      exact J_iret rfl rfl ⟨_, rfl, W⟩
theorem wp_Search_buildGiven {n : Nat} {σ : jS} {Q : Int → jS → Prop} {zo0 : Int} {zx1 : Int} {zx2 : Int} (W : 0 ≤ zo0 ∧ 1 ≤ n ∧ 0 ≤ rs σ 7019 zo0 ∧ TrO (n - 1) i_Text_part 0 [jo 10 (rs σ 7019 zo0), ji zx1, ji 0] σ (fun zr5 zs4 => 0 ≤ rs σ 7000 zo0 ∧ TrI (n - 1) i_Terms_build [jo 9 (rs σ 7000 zo0), jo 0 zr5, ji 1] zs4 (fun zr9 zs8 => J n c_Search_buildGiven (some .int) 21 [some (jo 7 zo0), some (ji zx1), some (ji zx2), some (ji zr9), some (ji 0)] [] zs8 (qI Q)))) : TrI n i_Search_buildGiven [jo 7 zo0, ji zx1, ji zx2] σ Q := by
  refine Tr_of ax_Z_173 ?_
  show J n c_Search_buildGiven (some .int) 0 [some (jo 7 zo0), some (ji zx1), some (ji zx2), none, none] [] σ (qI Q)
  obtain ⟨zg1, W⟩ := W
  refine J_aload_no (pc' := 1) rfl rfl zg1 rfl ?_
  refine J_getO (G := 7000) (pc' := 4) rfl rfl (Nat.le_of_ble_eq_true rfl) rfl zg1 rfl ?_
  refine J_aload_no (pc' := 5) rfl rfl zg1 rfl ?_
  refine J_getO (G := 7019) (pc' := 8) rfl rfl (Nat.le_of_ble_eq_true rfl) rfl zg1 rfl ?_
  refine J_iload_n (pc' := 9) rfl rfl rfl ?_
  refine J_iconst (pc' := 10) rfl (i32_d rfl) rfl ?_
  obtain ⟨zg2, W⟩ := W
  obtain ⟨zg3, W⟩ := W
  refine J_callO (as := [jo 10 (rs σ 7019 zo0), ji zx1, ji 0]) (rest := [jo 9 (rs σ 7000 zo0)]) (pc' := 13) rfl rfl ax_Z_230 rfl rfl (Or.inr (Or.inr ⟨_, _, rfl, zg3⟩)) (Nat.le_of_ble_eq_true rfl) (Nat.le_of_ble_eq_true rfl) (Nat.le_of_ble_eq_true rfl) zg2 trivial trivial rfl W (fun zr5 zs4 zh6 W => ?_)
  refine J_iconst (pc' := 14) rfl (i32_d rfl) rfl ?_
  obtain ⟨zg7, W⟩ := W
  refine J_callI (as := [jo 9 (rs σ 7000 zo0), jo 0 zr5, ji 1]) (rest := []) (pc' := 17) rfl rfl ax_Z_203 rfl rfl (Or.inr (Or.inr ⟨_, _, rfl, zg7⟩)) (Nat.le_of_ble_eq_true rfl) (Nat.le_of_ble_eq_true rfl) (Nat.le_of_ble_eq_true rfl) zg2 trivial trivial rfl W (fun zr9 zs8 W => ?_)
  refine J_istore_n (L' := [some (jo 7 zo0), some (ji zx1), some (ji zx2), some (ji zr9), none]) (pc' := 18) rfl (Nat.le_of_ble_eq_true rfl) rfl rfl ?_
  refine J_iconst (pc' := 19) rfl (i32_d rfl) rfl ?_
  refine J_istore (L' := [some (jo 7 zo0), some (ji zx1), some (ji zx2), some (ji zr9), some (ji 0)]) (pc' := 21) rfl (Nat.le_of_ble_eq_true rfl) rfl rfl ?_
  exact W
theorem wp_Search_buildGiven_21 {n : Nat} {σ : jS} {Q : Int → jS → Prop} {zo0 : Int} {zx1 : Int} {zx2 : Int} {zx3 : Int} {zx4 : Int} (W : 0 ≤ zo0 ∧ 1 ≤ n ∧ 0 ≤ rs σ 7019 zo0 ∧ TrI (n - 1) i_Text_needsOf [jo 10 (rs σ 7019 zo0), ji zx1] σ (fun zr5 zs4 => (if zr5 ≤ zx4 then Q zx3 zs4 else 0 ≤ rl zs4 7012 zo0 ∧ i32 (zx2 * 4) ∧ i32 ((zx2 * 4) + zx4) ∧ i32 (zx4 + 1) ∧ 0 ≤ rs zs4 7019 zo0 ∧ TrO (n - 1) i_Text_part 0 [jo 10 (rs zs4 7019 zo0), ji zx1, ji (zx4 + 1)] zs4 (fun zr12 zs11 => 0 ≤ rs zs4 7000 zo0 ∧ TrI (n - 1) i_Terms_build [jo 9 (rs zs4 7000 zo0), jo 0 zr12, ji 0] zs11 (fun zr16 zs15 => 0 ≤ (zx2 * 4) + zx4 ∧ (zx2 * 4) + zx4 < rl zs15 7012 zo0 ∧ (∀ zs17, zs17 = wa zs15 7012 zo0 ((zx2 * 4) + zx4) zr16 → J n c_Search_buildGiven (some .int) 21 [some (jo 7 zo0), some (ji zx1), some (ji zx2), some (ji zx3), some (ji (zx4 + 1))] [] zs17 (qI Q))))))) : J n c_Search_buildGiven (some .int) 21 [some (jo 7 zo0), some (ji zx1), some (ji zx2), some (ji zx3), some (ji zx4)] [] σ (qI Q) := by
  refine J_iload (pc' := 23) rfl rfl rfl ?_
  obtain ⟨zg1, W⟩ := W
  refine J_aload_no (pc' := 24) rfl rfl zg1 rfl ?_
  refine J_getO (G := 7019) (pc' := 27) rfl rfl (Nat.le_of_ble_eq_true rfl) rfl zg1 rfl ?_
  refine J_iload_n (pc' := 28) rfl rfl rfl ?_
  obtain ⟨zg2, W⟩ := W
  obtain ⟨zg3, W⟩ := W
  refine J_callI (as := [jo 10 (rs σ 7019 zo0), ji zx1]) (rest := [ji zx4]) (pc' := 31) rfl rfl ax_Z_231 rfl rfl (Or.inr (Or.inr ⟨_, _, rfl, zg3⟩)) (Nat.le_of_ble_eq_true rfl) (Nat.le_of_ble_eq_true rfl) (Nat.le_of_ble_eq_true rfl) zg2 trivial trivial rfl W (fun zr5 zs4 W => ?_)
  refine J_icmp (P := zr5 ≤ zx4) (t := 71) (f := 34) rfl rfl rfl jc_ge W (fun W => ?_) (fun W => ?_)
  · refine J_iload_n (pc' := 72) rfl rfl rfl ?_
    exact J_iret rfl rfl ⟨_, rfl, W⟩
  · refine J_aload_no (pc' := 35) rfl rfl zg1 rfl ?_
    obtain ⟨zg6, W⟩ := W
    refine J_getA (G := 7012) (pc' := 38) rfl rfl (Nat.le_of_ble_eq_true rfl) rfl zg1 zg6 rfl ?_
    refine J_iload_n (pc' := 39) rfl rfl rfl ?_
    refine J_iconst (pc' := 40) rfl (i32_d rfl) rfl ?_
    obtain ⟨zg7, W⟩ := W
    refine J_imul (pc' := 41) rfl zg7 rfl ?_
    refine J_iload (pc' := 43) rfl rfl rfl ?_
    obtain ⟨zg8, W⟩ := W
    refine J_iadd (pc' := 44) rfl zg8 rfl ?_
    refine J_aload_no (pc' := 45) rfl rfl zg1 rfl ?_
    refine J_getO (G := 7000) (pc' := 48) rfl rfl (Nat.le_of_ble_eq_true rfl) rfl zg1 rfl ?_
    refine J_aload_no (pc' := 49) rfl rfl zg1 rfl ?_
    refine J_getO (G := 7019) (pc' := 52) rfl rfl (Nat.le_of_ble_eq_true rfl) rfl zg1 rfl ?_
    refine J_iload_n (pc' := 53) rfl rfl rfl ?_
    refine J_iload (pc' := 55) rfl rfl rfl ?_
    refine J_iconst (pc' := 56) rfl (i32_d rfl) rfl ?_
    obtain ⟨zg9, W⟩ := W
    refine J_iadd (pc' := 57) rfl zg9 rfl ?_
    obtain ⟨zg10, W⟩ := W
    refine J_callO (as := [jo 10 (rs zs4 7019 zo0), ji zx1, ji (zx4 + 1)]) (rest := [jo 9 (rs zs4 7000 zo0), ji ((zx2 * 4) + zx4), ja 7012 zo0]) (pc' := 60) rfl rfl ax_Z_230 rfl rfl (Or.inr (Or.inr ⟨_, _, rfl, zg10⟩)) (Nat.le_of_ble_eq_true rfl) (Nat.le_of_ble_eq_true rfl) (Nat.le_of_ble_eq_true rfl) zg2 trivial (And.intro rfl trivial) rfl W (fun zr12 zs11 zh13 W => ?_)
    refine J_iconst (pc' := 61) rfl (i32_d rfl) rfl ?_
    obtain ⟨zg14, W⟩ := W
    refine J_callI (as := [jo 9 (rs zs4 7000 zo0), jo 0 zr12, ji 0]) (rest := [ji ((zx2 * 4) + zx4), ja 7012 zo0]) (pc' := 64) rfl rfl ax_Z_203 rfl rfl (Or.inr (Or.inr ⟨_, _, rfl, zg14⟩)) (Nat.le_of_ble_eq_true rfl) (Nat.le_of_ble_eq_true rfl) (Nat.le_of_ble_eq_true rfl) zg2 trivial (And.intro rfl trivial) rfl W (fun zr16 zs15 W => ?_)
    obtain ⟨zg18, W⟩ := W
    obtain ⟨zg19, W⟩ := W
    refine J_iast (pc' := 65) rfl rfl (by decide) zg18 zg19 rfl (fun zs17 ezs17 => ?_)
    replace W := W zs17 ezs17
    refine J_iinc (L' := [some (jo 7 zo0), some (ji zx1), some (ji zx2), some (ji zx3), some (ji (zx4 + 1))]) (pc' := 68) rfl rfl zg9 rfl rfl ?_
    refine J_goto (pc' := 21) rfl rfl ?_
    exact W
set_option maxRecDepth 16000 in
theorem wp_Search_plant {n : Nat} {σ : jS} {Q : jS → Prop} {zo0 : Int} {zx1 : Int} {zo2 : Int} (W : 0 ≤ zo2 ∧ 0 ≤ rs σ 3000 zo2 ∧ J n c_Search_plant none 11 [some (jo 7 zo0), some (ji zx1), some (jo 3 zo2), some (ji (rs σ 6000 (rs σ 3000 zo2))), some (ji zx1), none, none, none, none, none] [] σ (qV Q)) : TrV n i_Search_plant [jo 7 zo0, ji zx1, jo 3 zo2] σ Q := by
  refine Tr_of ax_Z_174 ?_
  show J n c_Search_plant none 0 [some (jo 7 zo0), some (ji zx1), some (jo 3 zo2), none, none, none, none, none, none, none] [] σ (qV Q)
  obtain ⟨zg1, W⟩ := W
  refine J_aload_no (pc' := 1) rfl rfl zg1 rfl ?_
  refine J_getO (G := 3000) (pc' := 4) rfl rfl (Nat.le_of_ble_eq_true rfl) rfl zg1 rfl ?_
  obtain ⟨zg2, W⟩ := W
  refine J_getI (G := 6000) (pc' := 7) rfl rfl (Nat.le_of_ble_eq_true rfl) rfl zg2 rfl ?_
  refine J_istore_n (L' := [some (jo 7 zo0), some (ji zx1), some (jo 3 zo2), some (ji (rs σ 6000 (rs σ 3000 zo2))), none, none, none, none, none, none]) (pc' := 8) rfl (Nat.le_of_ble_eq_true rfl) rfl rfl ?_
  refine J_iload_n (pc' := 9) rfl rfl rfl ?_
  refine J_istore (L' := [some (jo 7 zo0), some (ji zx1), some (jo 3 zo2), some (ji (rs σ 6000 (rs σ 3000 zo2))), some (ji zx1), none, none, none, none, none]) (pc' := 11) rfl (Nat.le_of_ble_eq_true rfl) rfl rfl ?_
  exact W
set_option maxRecDepth 16000 in
theorem wp_Search_plant_11 {n : Nat} {σ : jS} {Q : jS → Prop} {zo0 : Int} {zx1 : Int} {zo2 : Int} {zx3 : Int} {zx4 : Int} (W : 0 ≤ zo0 ∧ 0 ≤ rs σ 7006 zo0 ∧ (if rs σ 6000 (rs σ 7006 zo0) ≤ zx4 then Q σ else (if 200 ≤ zx4 then Q σ else 0 ≤ rl σ 7013 zo0 ∧ 0 ≤ zo2 ∧ 0 ≤ rs σ 3000 zo2 ∧ i32 ((rs σ 6000 (rs σ 3000 zo2)) - zx3) ∧ 0 ≤ zx4 ∧ zx4 < rl σ 7013 zo0 ∧ (∀ zs7, zs7 = wa σ 7013 zo0 zx4 ((rs σ 6000 (rs σ 3000 zo2)) - zx3) → 1 ≤ n ∧ 0 ≤ rs zs7 7006 zo0 ∧ TrI (n - 1) i_Nodes_get [jo 6 (rs zs7 7006 zo0), ji zx4, ji 1] zs7 (fun zr13 zs12 => (if zx4 ≤ zx1 then J n c_Search_plant none 82 [some (jo 7 zo0), some (ji zx1), some (jo 3 zo2), some (ji zx3), some (ji zx4), some (ji zr13), none, none, none, none] [] zs12 (qV Q) else (if zr13 < 0 then J n c_Search_plant none 82 [some (jo 7 zo0), some (ji zx1), some (jo 3 zo2), some (ji zx3), some (ji zx4), some (ji zr13), none, none, none, none] [] zs12 (qV Q) else (if 200 ≤ zr13 then J n c_Search_plant none 82 [some (jo 7 zo0), some (ji zx1), some (jo 3 zo2), some (ji zx3), some (ji zx4), some (ji zr13), none, none, none, none] [] zs12 (qV Q) else 0 ≤ rl zs12 7013 zo0 ∧ 0 ≤ zr13 ∧ zr13 < rl zs12 7013 zo0 ∧ 0 ≤ rs zs12 7006 zo0 ∧ TrI (n - 1) i_Nodes_get [jo 6 (rs zs12 7006 zo0), ji zx4, ji 2] zs12 (fun zr19 zs18 => 0 ≤ rs zs18 7006 zo0 ∧ TrI (n - 1) i_Nodes_get [jo 6 (rs zs18 7006 zo0), ji zx4, ji 7] zs18 (fun zr22 zs21 => (if ¬ zr22 = (-1) then TrV (n - 1) i_Search_plantRemembered [jo 7 zo0, ji zr22, jo 3 zo2, ji zx3, ji (ra zs12 7013 zo0 zr13), ji zr19] zs21 (fun zs23 => i32 (zx4 + 1) ∧ J n c_Search_plant none 11 [some (jo 7 zo0), some (ji zx1), some (jo 3 zo2), some (ji zx3), some (ji (zx4 + 1)), none, none, none, none, none] [] zs23 (qV Q)) else 0 ≤ rs zs21 7006 zo0 ∧ TrI (n - 1) i_Nodes_get [jo 6 (rs zs21 7006 zo0), ji zx4, ji 6] zs21 (fun zr28 zs27 => 0 ≤ rs zs21 7000 zo0 ∧ TrV (n - 1) i_Terms_flatten [jo 9 (rs zs21 7000 zo0), ji zr28, jo 0 (rs zs27 7008 zo0)] zs27 (fun zs30 => TrV (n - 1) i_Forest_add [jo 3 zo2, jo 0 (rs zs30 7008 zo0), jo 6 (rs zs30 7006 zo0), ji zx4, ji (ra zs12 7013 zo0 zr13), ji zr19] zs30 (fun zs32 => i32 (zx4 + 1) ∧ J n c_Search_plant none 11 [some (jo 7 zo0), some (ji zx1), some (jo 3 zo2), some (ji zx3), some (ji (zx4 + 1)), none, none, none, none, none] [] zs32 (qV Q))))))))))))))) : J n c_Search_plant none 11 [some (jo 7 zo0), some (ji zx1), some (jo 3 zo2), some (ji zx3), some (ji zx4), none, none, none, none, none] [] σ (qV Q) := by
  refine J_iload (pc' := 13) rfl rfl rfl ?_
  obtain ⟨zg1, W⟩ := W
  refine J_aload_no (pc' := 14) rfl rfl zg1 rfl ?_
  refine J_getO (G := 7006) (pc' := 17) rfl rfl (Nat.le_of_ble_eq_true rfl) rfl zg1 rfl ?_
  obtain ⟨zg2, W⟩ := W
  refine J_getI (G := 6000) (pc' := 20) rfl rfl (Nat.le_of_ble_eq_true rfl) rfl zg2 rfl ?_
  refine J_icmp (P := rs σ 6000 (rs σ 7006 zo0) ≤ zx4) (t := 204) (f := 23) rfl rfl rfl jc_ge W (fun W => ?_) (fun W => ?_)
  · exact J_vret rfl rfl ⟨rfl, W⟩
  · refine J_iload (pc' := 25) rfl rfl rfl ?_
    refine J_sipush (pc' := 28) rfl (by decide) (by decide) rfl ?_
    refine J_icmp (P := 200 ≤ zx4) (t := 204) (f := 31) rfl rfl rfl jc_ge W (fun W => ?_) (fun W => ?_)
    · exact J_vret rfl rfl ⟨rfl, W⟩
    · refine J_aload_no (pc' := 32) rfl rfl zg1 rfl ?_
      obtain ⟨zg3, W⟩ := W
      refine J_getA (G := 7013) (pc' := 35) rfl rfl (Nat.le_of_ble_eq_true rfl) rfl zg1 zg3 rfl ?_
      refine J_iload (pc' := 37) rfl rfl rfl ?_
      obtain ⟨zg4, W⟩ := W
      refine J_aload_no (pc' := 38) rfl rfl zg4 rfl ?_
      refine J_getO (G := 3000) (pc' := 41) rfl rfl (Nat.le_of_ble_eq_true rfl) rfl zg4 rfl ?_
      obtain ⟨zg5, W⟩ := W
      refine J_getI (G := 6000) (pc' := 44) rfl rfl (Nat.le_of_ble_eq_true rfl) rfl zg5 rfl ?_
      refine J_iload_n (pc' := 45) rfl rfl rfl ?_
      obtain ⟨zg6, W⟩ := W
      refine J_isub (pc' := 46) rfl zg6 rfl ?_
      obtain ⟨zg8, W⟩ := W
      obtain ⟨zg9, W⟩ := W
      refine J_iast (pc' := 47) rfl rfl (by decide) zg8 zg9 rfl (fun zs7 ezs7 => ?_)
      replace W := W zs7 ezs7
      refine J_aload_no (pc' := 48) rfl rfl zg1 rfl ?_
      refine J_getO (G := 7006) (pc' := 51) rfl rfl (Nat.le_of_ble_eq_true rfl) rfl zg1 rfl ?_
      refine J_iload (pc' := 53) rfl rfl rfl ?_
      refine J_iconst (pc' := 54) rfl (i32_d rfl) rfl ?_
      obtain ⟨zg10, W⟩ := W
      obtain ⟨zg11, W⟩ := W
      refine J_callI (as := [jo 6 (rs zs7 7006 zo0), ji zx4, ji 1]) (rest := []) (pc' := 57) rfl rfl ax_Z_152 rfl rfl (Or.inr (Or.inr ⟨_, _, rfl, zg11⟩)) (Nat.le_of_ble_eq_true rfl) (Nat.le_of_ble_eq_true rfl) (Nat.le_of_ble_eq_true rfl) zg10 trivial trivial rfl W (fun zr13 zs12 W => ?_)
      refine J_istore (L' := [some (jo 7 zo0), some (ji zx1), some (jo 3 zo2), some (ji zx3), some (ji zx4), some (ji zr13), none, none, none, none]) (pc' := 59) rfl (Nat.le_of_ble_eq_true rfl) rfl rfl ?_
      refine J_iload (pc' := 61) rfl rfl rfl ?_
      refine J_iload_n (pc' := 62) rfl rfl rfl ?_
      refine J_icmp (P := zx4 ≤ zx1) (t := 82) (f := 65) rfl rfl rfl jc_le W (fun W => ?_) (fun W => ?_)
      · exact W
      · refine J_iload (pc' := 67) rfl rfl rfl ?_
        refine J_if (P := zr13 < 0) (t := 82) (f := 70) rfl rfl rfl jc_lt W (fun W => ?_) (fun W => ?_)
        · exact W
        · refine J_iload (pc' := 72) rfl rfl rfl ?_
          refine J_sipush (pc' := 75) rfl (by decide) (by decide) rfl ?_
          refine J_icmp (P := 200 ≤ zr13) (t := 82) (f := 78) rfl rfl rfl jc_ge W (fun W => ?_) (fun W => ?_)
          · exact W
          · refine J_iconst (pc' := 79) rfl (i32_d rfl) rfl ?_
            refine J_goto (pc' := 83) rfl rfl ?_
            refine J_istore (L' := [some (jo 7 zo0), some (ji zx1), some (jo 3 zo2), some (ji zx3), some (ji zx4), some (ji zr13), some (ji 1), none, none, none]) (pc' := 85) rfl (Nat.le_of_ble_eq_true rfl) rfl rfl ?_
            refine J_iload (pc' := 87) rfl rfl rfl ?_
            refine J_if_f (pc' := 90) rfl rfl rfl ?_
            refine J_aload_no (pc' := 91) rfl rfl zg1 rfl ?_
            obtain ⟨zg14, W⟩ := W
            refine J_getA (G := 7013) (pc' := 94) rfl rfl (Nat.le_of_ble_eq_true rfl) rfl zg1 zg14 rfl ?_
            refine J_iload (pc' := 96) rfl rfl rfl ?_
            obtain ⟨zg15, W⟩ := W
            obtain ⟨zg16, W⟩ := W
            refine J_iald (pc' := 97) rfl rfl zg15 zg16 rfl ?_
            refine J_goto (pc' := 101) rfl rfl ?_
            refine J_istore (L' := [some (jo 7 zo0), some (ji zx1), some (jo 3 zo2), some (ji zx3), some (ji zx4), some (ji zr13), some (ji 1), some (ji (ra zs12 7013 zo0 zr13)), none, none]) (pc' := 103) rfl (Nat.le_of_ble_eq_true rfl) rfl rfl ?_
            refine J_iload (pc' := 105) rfl rfl rfl ?_
            refine J_if_f (pc' := 108) rfl rfl rfl ?_
            refine J_aload_no (pc' := 109) rfl rfl zg1 rfl ?_
            refine J_getO (G := 7006) (pc' := 112) rfl rfl (Nat.le_of_ble_eq_true rfl) rfl zg1 rfl ?_
            refine J_iload (pc' := 114) rfl rfl rfl ?_
            refine J_iconst (pc' := 115) rfl (i32_d rfl) rfl ?_
            obtain ⟨zg17, W⟩ := W
            refine J_weak (L' := [some (jo 7 zo0), some (ji zx1), some (jo 3 zo2), some (ji zx3), some (ji zx4), none, none, some (ji (ra zs12 7013 zo0 zr13)), none, none]) (And.intro rfl (And.intro rfl (And.intro rfl (And.intro rfl (And.intro rfl (And.intro rfl trivial)))))) ?_
            refine J_callI (as := [jo 6 (rs zs12 7006 zo0), ji zx4, ji 2]) (rest := []) (pc' := 118) rfl rfl ax_Z_152 rfl rfl (Or.inr (Or.inr ⟨_, _, rfl, zg17⟩)) (Nat.le_of_ble_eq_true rfl) (Nat.le_of_ble_eq_true rfl) (Nat.le_of_ble_eq_true rfl) zg10 trivial trivial rfl W (fun zr19 zs18 W => ?_)
            refine J_goto (pc' := 122) rfl rfl ?_
            refine J_istore (L' := [some (jo 7 zo0), some (ji zx1), some (jo 3 zo2), some (ji zx3), some (ji zx4), none, none, some (ji (ra zs12 7013 zo0 zr13)), some (ji zr19), none]) (pc' := 124) rfl (Nat.le_of_ble_eq_true rfl) rfl rfl ?_
            refine J_aload_no (pc' := 125) rfl rfl zg1 rfl ?_
            refine J_getO (G := 7006) (pc' := 128) rfl rfl (Nat.le_of_ble_eq_true rfl) rfl zg1 rfl ?_
            refine J_iload (pc' := 130) rfl rfl rfl ?_
            refine J_bipush (pc' := 132) rfl (by decide) (by decide) rfl ?_
            obtain ⟨zg20, W⟩ := W
            refine J_callI (as := [jo 6 (rs zs18 7006 zo0), ji zx4, ji 7]) (rest := []) (pc' := 135) rfl rfl ax_Z_152 rfl rfl (Or.inr (Or.inr ⟨_, _, rfl, zg20⟩)) (Nat.le_of_ble_eq_true rfl) (Nat.le_of_ble_eq_true rfl) (Nat.le_of_ble_eq_true rfl) zg10 trivial trivial rfl W (fun zr22 zs21 W => ?_)
            refine J_istore (L' := [some (jo 7 zo0), some (ji zx1), some (jo 3 zo2), some (ji zx3), some (ji zx4), none, none, some (ji (ra zs12 7013 zo0 zr13)), some (ji zr19), some (ji zr22)]) (pc' := 137) rfl (Nat.le_of_ble_eq_true rfl) rfl rfl ?_
            refine J_iload (pc' := 139) rfl rfl rfl ?_
            refine J_iconst (pc' := 140) rfl (i32_d rfl) rfl ?_
            refine J_icmp (P := ¬ zr22 = (-1)) (t := 186) (f := 143) rfl rfl rfl jc_ne W (fun W => ?_) (fun W => ?_)
            · refine J_aload_no (pc' := 187) rfl rfl zg1 rfl ?_
              refine J_iload (pc' := 189) rfl rfl rfl ?_
              refine J_aload_no (pc' := 190) rfl rfl zg4 rfl ?_
              refine J_iload_n (pc' := 191) rfl rfl rfl ?_
              refine J_iload (pc' := 193) rfl rfl rfl ?_
              refine J_iload (pc' := 195) rfl rfl rfl ?_
              refine J_weak (L' := [some (jo 7 zo0), some (ji zx1), some (jo 3 zo2), some (ji zx3), some (ji zx4), none, none, none, none, none]) (And.intro rfl (And.intro rfl (And.intro rfl (And.intro rfl (And.intro rfl trivial))))) ?_
              refine J_callV (as := [jo 7 zo0, ji zr22, jo 3 zo2, ji zx3, ji (ra zs12 7013 zo0 zr13), ji zr19]) (rest := []) (pc' := 198) rfl rfl ax_Z_175 rfl rfl (Or.inr (Or.inr ⟨_, _, rfl, zg1⟩)) (Nat.le_of_ble_eq_true rfl) (Nat.le_of_ble_eq_true rfl) (Nat.le_of_ble_eq_true rfl) zg10 trivial trivial rfl W (fun zs23 W => ?_)
              obtain ⟨zg25, W⟩ := W
              refine J_iinc (L' := [some (jo 7 zo0), some (ji zx1), some (jo 3 zo2), some (ji zx3), some (ji (zx4 + 1)), none, none, none, none, none]) (pc' := 201) rfl rfl zg25 rfl rfl ?_
              refine J_goto (pc' := 11) rfl rfl ?_
              exact W
            · refine J_aload_no (pc' := 144) rfl rfl zg1 rfl ?_
              refine J_getO (G := 7000) (pc' := 147) rfl rfl (Nat.le_of_ble_eq_true rfl) rfl zg1 rfl ?_
              refine J_aload_no (pc' := 148) rfl rfl zg1 rfl ?_
              refine J_getO (G := 7006) (pc' := 151) rfl rfl (Nat.le_of_ble_eq_true rfl) rfl zg1 rfl ?_
              refine J_iload (pc' := 153) rfl rfl rfl ?_
              refine J_bipush (pc' := 155) rfl (by decide) (by decide) rfl ?_
              obtain ⟨zg26, W⟩ := W
              refine J_weak (L' := [some (jo 7 zo0), some (ji zx1), some (jo 3 zo2), some (ji zx3), some (ji zx4), none, none, some (ji (ra zs12 7013 zo0 zr13)), some (ji zr19), none]) (And.intro rfl (And.intro rfl (And.intro rfl (And.intro rfl (And.intro rfl (And.intro rfl (And.intro rfl trivial))))))) ?_
              refine J_callI (as := [jo 6 (rs zs21 7006 zo0), ji zx4, ji 6]) (rest := [jo 9 (rs zs21 7000 zo0)]) (pc' := 158) rfl rfl ax_Z_152 rfl rfl (Or.inr (Or.inr ⟨_, _, rfl, zg26⟩)) (Nat.le_of_ble_eq_true rfl) (Nat.le_of_ble_eq_true rfl) (Nat.le_of_ble_eq_true rfl) zg10 trivial trivial rfl W (fun zr28 zs27 W => ?_)
              refine J_aload_no (pc' := 159) rfl rfl zg1 rfl ?_
              refine J_getO (G := 7008) (pc' := 162) rfl rfl (Nat.le_of_ble_eq_true rfl) rfl zg1 rfl ?_
              obtain ⟨zg29, W⟩ := W
              refine J_callV (as := [jo 9 (rs zs21 7000 zo0), ji zr28, jo 0 (rs zs27 7008 zo0)]) (rest := []) (pc' := 165) rfl rfl ax_Z_220 rfl rfl (Or.inr (Or.inr ⟨_, _, rfl, zg29⟩)) (Nat.le_of_ble_eq_true rfl) (Nat.le_of_ble_eq_true rfl) (Nat.le_of_ble_eq_true rfl) zg10 trivial trivial rfl W (fun zs30 W => ?_)
              refine J_aload_no (pc' := 166) rfl rfl zg4 rfl ?_
              refine J_aload_no (pc' := 167) rfl rfl zg1 rfl ?_
              refine J_getO (G := 7008) (pc' := 170) rfl rfl (Nat.le_of_ble_eq_true rfl) rfl zg1 rfl ?_
              refine J_aload_no (pc' := 171) rfl rfl zg1 rfl ?_
              refine J_getO (G := 7006) (pc' := 174) rfl rfl (Nat.le_of_ble_eq_true rfl) rfl zg1 rfl ?_
              refine J_iload (pc' := 176) rfl rfl rfl ?_
              refine J_iload (pc' := 178) rfl rfl rfl ?_
              refine J_iload (pc' := 180) rfl rfl rfl ?_
              refine J_weak (L' := [some (jo 7 zo0), some (ji zx1), some (jo 3 zo2), some (ji zx3), some (ji zx4), none, none, none, none, none]) (And.intro rfl (And.intro rfl (And.intro rfl (And.intro rfl (And.intro rfl trivial))))) ?_
              refine J_callV (as := [jo 3 zo2, jo 0 (rs zs30 7008 zo0), jo 6 (rs zs30 7006 zo0), ji zx4, ji (ra zs12 7013 zo0 zr13), ji zr19]) (rest := []) (pc' := 183) rfl rfl ax_Z_134 rfl rfl (Or.inr (Or.inr ⟨_, _, rfl, zg4⟩)) (Nat.le_of_ble_eq_true rfl) (Nat.le_of_ble_eq_true rfl) (Nat.le_of_ble_eq_true rfl) zg10 trivial trivial rfl W (fun zs32 W => ?_)
              refine J_goto (pc' := 198) rfl rfl ?_
              obtain ⟨zg34, W⟩ := W
              refine J_iinc (L' := [some (jo 7 zo0), some (ji zx1), some (jo 3 zo2), some (ji zx3), some (ji (zx4 + 1)), none, none, none, none, none]) (pc' := 201) rfl rfl zg34 rfl rfl ?_
              refine J_goto (pc' := 11) rfl rfl ?_
              exact W
set_option maxRecDepth 16000 in
theorem wp_Search_plant_82 {n : Nat} {σ : jS} {Q : jS → Prop} {zo0 : Int} {zx1 : Int} {zo2 : Int} {zx3 : Int} {zx4 : Int} {zx5 : Int} (W : 0 ≤ zo0 ∧ 1 ≤ n ∧ 0 ≤ rs σ 7006 zo0 ∧ TrI (n - 1) i_Nodes_get [jo 6 (rs σ 7006 zo0), ji zx4, ji 7] σ (fun zr5 zs4 => (if ¬ zr5 = (-1) then 0 ≤ zo2 ∧ TrV (n - 1) i_Search_plantRemembered [jo 7 zo0, ji zr5, jo 3 zo2, ji zx3, ji (-1), ji (-1)] zs4 (fun zs7 => i32 (zx4 + 1) ∧ J n c_Search_plant none 11 [some (jo 7 zo0), some (ji zx1), some (jo 3 zo2), some (ji zx3), some (ji (zx4 + 1)), none, none, none, none, none] [] zs7 (qV Q)) else 0 ≤ rs zs4 7006 zo0 ∧ TrI (n - 1) i_Nodes_get [jo 6 (rs zs4 7006 zo0), ji zx4, ji 6] zs4 (fun zr12 zs11 => 0 ≤ rs zs4 7000 zo0 ∧ TrV (n - 1) i_Terms_flatten [jo 9 (rs zs4 7000 zo0), ji zr12, jo 0 (rs zs11 7008 zo0)] zs11 (fun zs14 => 0 ≤ zo2 ∧ TrV (n - 1) i_Forest_add [jo 3 zo2, jo 0 (rs zs14 7008 zo0), jo 6 (rs zs14 7006 zo0), ji zx4, ji (-1), ji (-1)] zs14 (fun zs17 => i32 (zx4 + 1) ∧ J n c_Search_plant none 11 [some (jo 7 zo0), some (ji zx1), some (jo 3 zo2), some (ji zx3), some (ji (zx4 + 1)), none, none, none, none, none] [] zs17 (qV Q))))))) : J n c_Search_plant none 82 [some (jo 7 zo0), some (ji zx1), some (jo 3 zo2), some (ji zx3), some (ji zx4), some (ji zx5), none, none, none, none] [] σ (qV Q) := by
  refine J_iconst (pc' := 83) rfl (i32_d rfl) rfl ?_
  refine J_istore (L' := [some (jo 7 zo0), some (ji zx1), some (jo 3 zo2), some (ji zx3), some (ji zx4), some (ji zx5), some (ji 0), none, none, none]) (pc' := 85) rfl (Nat.le_of_ble_eq_true rfl) rfl rfl ?_
  refine J_iload (pc' := 87) rfl rfl rfl ?_
  refine J_if_t (pc' := 100) rfl rfl rfl ?_
  refine J_iconst (pc' := 101) rfl (i32_d rfl) rfl ?_
  refine J_istore (L' := [some (jo 7 zo0), some (ji zx1), some (jo 3 zo2), some (ji zx3), some (ji zx4), some (ji zx5), some (ji 0), some (ji (-1)), none, none]) (pc' := 103) rfl (Nat.le_of_ble_eq_true rfl) rfl rfl ?_
  refine J_iload (pc' := 105) rfl rfl rfl ?_
  refine J_if_t (pc' := 121) rfl rfl rfl ?_
  refine J_iconst (pc' := 122) rfl (i32_d rfl) rfl ?_
  refine J_istore (L' := [some (jo 7 zo0), some (ji zx1), some (jo 3 zo2), some (ji zx3), some (ji zx4), some (ji zx5), some (ji 0), some (ji (-1)), some (ji (-1)), none]) (pc' := 124) rfl (Nat.le_of_ble_eq_true rfl) rfl rfl ?_
  obtain ⟨zg1, W⟩ := W
  refine J_aload_no (pc' := 125) rfl rfl zg1 rfl ?_
  refine J_getO (G := 7006) (pc' := 128) rfl rfl (Nat.le_of_ble_eq_true rfl) rfl zg1 rfl ?_
  refine J_iload (pc' := 130) rfl rfl rfl ?_
  refine J_bipush (pc' := 132) rfl (by decide) (by decide) rfl ?_
  obtain ⟨zg2, W⟩ := W
  obtain ⟨zg3, W⟩ := W
  refine J_weak (L' := [some (jo 7 zo0), some (ji zx1), some (jo 3 zo2), some (ji zx3), some (ji zx4), none, none, some (ji (-1)), some (ji (-1)), none]) (And.intro rfl (And.intro rfl (And.intro rfl (And.intro rfl (And.intro rfl (And.intro rfl (And.intro rfl trivial))))))) ?_
  refine J_callI (as := [jo 6 (rs σ 7006 zo0), ji zx4, ji 7]) (rest := []) (pc' := 135) rfl rfl ax_Z_152 rfl rfl (Or.inr (Or.inr ⟨_, _, rfl, zg3⟩)) (Nat.le_of_ble_eq_true rfl) (Nat.le_of_ble_eq_true rfl) (Nat.le_of_ble_eq_true rfl) zg2 trivial trivial rfl W (fun zr5 zs4 W => ?_)
  refine J_istore (L' := [some (jo 7 zo0), some (ji zx1), some (jo 3 zo2), some (ji zx3), some (ji zx4), none, none, some (ji (-1)), some (ji (-1)), some (ji zr5)]) (pc' := 137) rfl (Nat.le_of_ble_eq_true rfl) rfl rfl ?_
  refine J_iload (pc' := 139) rfl rfl rfl ?_
  refine J_iconst (pc' := 140) rfl (i32_d rfl) rfl ?_
  refine J_icmp (P := ¬ zr5 = (-1)) (t := 186) (f := 143) rfl rfl rfl jc_ne W (fun W => ?_) (fun W => ?_)
  · refine J_aload_no (pc' := 187) rfl rfl zg1 rfl ?_
    refine J_iload (pc' := 189) rfl rfl rfl ?_
    obtain ⟨zg6, W⟩ := W
    refine J_aload_no (pc' := 190) rfl rfl zg6 rfl ?_
    refine J_iload_n (pc' := 191) rfl rfl rfl ?_
    refine J_iload (pc' := 193) rfl rfl rfl ?_
    refine J_iload (pc' := 195) rfl rfl rfl ?_
    refine J_weak (L' := [some (jo 7 zo0), some (ji zx1), some (jo 3 zo2), some (ji zx3), some (ji zx4), none, none, none, none, none]) (And.intro rfl (And.intro rfl (And.intro rfl (And.intro rfl (And.intro rfl trivial))))) ?_
    refine J_callV (as := [jo 7 zo0, ji zr5, jo 3 zo2, ji zx3, ji (-1), ji (-1)]) (rest := []) (pc' := 198) rfl rfl ax_Z_175 rfl rfl (Or.inr (Or.inr ⟨_, _, rfl, zg1⟩)) (Nat.le_of_ble_eq_true rfl) (Nat.le_of_ble_eq_true rfl) (Nat.le_of_ble_eq_true rfl) zg2 trivial trivial rfl W (fun zs7 W => ?_)
    obtain ⟨zg9, W⟩ := W
    refine J_iinc (L' := [some (jo 7 zo0), some (ji zx1), some (jo 3 zo2), some (ji zx3), some (ji (zx4 + 1)), none, none, none, none, none]) (pc' := 201) rfl rfl zg9 rfl rfl ?_
    refine J_goto (pc' := 11) rfl rfl ?_
    exact W
  · refine J_aload_no (pc' := 144) rfl rfl zg1 rfl ?_
    refine J_getO (G := 7000) (pc' := 147) rfl rfl (Nat.le_of_ble_eq_true rfl) rfl zg1 rfl ?_
    refine J_aload_no (pc' := 148) rfl rfl zg1 rfl ?_
    refine J_getO (G := 7006) (pc' := 151) rfl rfl (Nat.le_of_ble_eq_true rfl) rfl zg1 rfl ?_
    refine J_iload (pc' := 153) rfl rfl rfl ?_
    refine J_bipush (pc' := 155) rfl (by decide) (by decide) rfl ?_
    obtain ⟨zg10, W⟩ := W
    refine J_weak (L' := [some (jo 7 zo0), some (ji zx1), some (jo 3 zo2), some (ji zx3), some (ji zx4), none, none, some (ji (-1)), some (ji (-1)), none]) (And.intro rfl (And.intro rfl (And.intro rfl (And.intro rfl (And.intro rfl (And.intro rfl (And.intro rfl trivial))))))) ?_
    refine J_callI (as := [jo 6 (rs zs4 7006 zo0), ji zx4, ji 6]) (rest := [jo 9 (rs zs4 7000 zo0)]) (pc' := 158) rfl rfl ax_Z_152 rfl rfl (Or.inr (Or.inr ⟨_, _, rfl, zg10⟩)) (Nat.le_of_ble_eq_true rfl) (Nat.le_of_ble_eq_true rfl) (Nat.le_of_ble_eq_true rfl) zg2 trivial trivial rfl W (fun zr12 zs11 W => ?_)
    refine J_aload_no (pc' := 159) rfl rfl zg1 rfl ?_
    refine J_getO (G := 7008) (pc' := 162) rfl rfl (Nat.le_of_ble_eq_true rfl) rfl zg1 rfl ?_
    obtain ⟨zg13, W⟩ := W
    refine J_callV (as := [jo 9 (rs zs4 7000 zo0), ji zr12, jo 0 (rs zs11 7008 zo0)]) (rest := []) (pc' := 165) rfl rfl ax_Z_220 rfl rfl (Or.inr (Or.inr ⟨_, _, rfl, zg13⟩)) (Nat.le_of_ble_eq_true rfl) (Nat.le_of_ble_eq_true rfl) (Nat.le_of_ble_eq_true rfl) zg2 trivial trivial rfl W (fun zs14 W => ?_)
    obtain ⟨zg16, W⟩ := W
    refine J_aload_no (pc' := 166) rfl rfl zg16 rfl ?_
    refine J_aload_no (pc' := 167) rfl rfl zg1 rfl ?_
    refine J_getO (G := 7008) (pc' := 170) rfl rfl (Nat.le_of_ble_eq_true rfl) rfl zg1 rfl ?_
    refine J_aload_no (pc' := 171) rfl rfl zg1 rfl ?_
    refine J_getO (G := 7006) (pc' := 174) rfl rfl (Nat.le_of_ble_eq_true rfl) rfl zg1 rfl ?_
    refine J_iload (pc' := 176) rfl rfl rfl ?_
    refine J_iload (pc' := 178) rfl rfl rfl ?_
    refine J_iload (pc' := 180) rfl rfl rfl ?_
    refine J_weak (L' := [some (jo 7 zo0), some (ji zx1), some (jo 3 zo2), some (ji zx3), some (ji zx4), none, none, none, none, none]) (And.intro rfl (And.intro rfl (And.intro rfl (And.intro rfl (And.intro rfl trivial))))) ?_
    refine J_callV (as := [jo 3 zo2, jo 0 (rs zs14 7008 zo0), jo 6 (rs zs14 7006 zo0), ji zx4, ji (-1), ji (-1)]) (rest := []) (pc' := 183) rfl rfl ax_Z_134 rfl rfl (Or.inr (Or.inr ⟨_, _, rfl, zg16⟩)) (Nat.le_of_ble_eq_true rfl) (Nat.le_of_ble_eq_true rfl) (Nat.le_of_ble_eq_true rfl) zg2 trivial trivial rfl W (fun zs17 W => ?_)
    refine J_goto (pc' := 198) rfl rfl ?_
    obtain ⟨zg19, W⟩ := W
    refine J_iinc (L' := [some (jo 7 zo0), some (ji zx1), some (jo 3 zo2), some (ji zx3), some (ji (zx4 + 1)), none, none, none, none, none]) (pc' := 201) rfl rfl zg19 rfl rfl ?_
    refine J_goto (pc' := 11) rfl rfl ?_
    exact W
theorem wp_Search_plantRemembered {n : Nat} {σ : jS} {Q : jS → Prop} {zo0 : Int} {zx1 : Int} {zo2 : Int} {zx3 : Int} {zx4 : Int} {zx5 : Int} (W : 0 ≤ zo2 ∧ 0 ≤ rs σ 3000 zo2 ∧ i32 ((rs σ 6000 (rs σ 3000 zo2)) - zx3) ∧ 0 ≤ zo0 ∧ 1 ≤ n ∧ 0 ≤ rs σ 7001 zo0 ∧ TrI (n - 1) i_Memory_fromOf [jo 5 (rs σ 7001 zo0), ji zx1] σ (fun zr8 zs7 => J n c_Search_plantRemembered none 24 [some (jo 7 zo0), some (ji zx1), some (jo 3 zo2), none, some (ji zx4), some (ji zx5), some (ji ((rs σ 6000 (rs σ 3000 zo2)) - zx3)), some (ji zr8), some (ji 0), none, none] [] zs7 (qV Q))) : TrV n i_Search_plantRemembered [jo 7 zo0, ji zx1, jo 3 zo2, ji zx3, ji zx4, ji zx5] σ Q := by
  refine Tr_of ax_Z_175 ?_
  show J n c_Search_plantRemembered none 0 [some (jo 7 zo0), some (ji zx1), some (jo 3 zo2), some (ji zx3), some (ji zx4), some (ji zx5), none, none, none, none, none] [] σ (qV Q)
  obtain ⟨zg1, W⟩ := W
  refine J_aload_no (pc' := 1) rfl rfl zg1 rfl ?_
  refine J_getO (G := 3000) (pc' := 4) rfl rfl (Nat.le_of_ble_eq_true rfl) rfl zg1 rfl ?_
  obtain ⟨zg2, W⟩ := W
  refine J_getI (G := 6000) (pc' := 7) rfl rfl (Nat.le_of_ble_eq_true rfl) rfl zg2 rfl ?_
  refine J_iload_n (pc' := 8) rfl rfl rfl ?_
  obtain ⟨zg3, W⟩ := W
  refine J_isub (pc' := 9) rfl zg3 rfl ?_
  refine J_istore (L' := [some (jo 7 zo0), some (ji zx1), some (jo 3 zo2), some (ji zx3), some (ji zx4), some (ji zx5), some (ji ((rs σ 6000 (rs σ 3000 zo2)) - zx3)), none, none, none, none]) (pc' := 11) rfl (Nat.le_of_ble_eq_true rfl) rfl rfl ?_
  obtain ⟨zg4, W⟩ := W
  refine J_aload_no (pc' := 12) rfl rfl zg4 rfl ?_
  refine J_getO (G := 7001) (pc' := 15) rfl rfl (Nat.le_of_ble_eq_true rfl) rfl zg4 rfl ?_
  refine J_iload_n (pc' := 16) rfl rfl rfl ?_
  obtain ⟨zg5, W⟩ := W
  obtain ⟨zg6, W⟩ := W
  refine J_weak (L' := [some (jo 7 zo0), some (ji zx1), some (jo 3 zo2), none, some (ji zx4), some (ji zx5), some (ji ((rs σ 6000 (rs σ 3000 zo2)) - zx3)), none, none, none, none]) (And.intro rfl (And.intro rfl (And.intro rfl (And.intro rfl (And.intro rfl (And.intro rfl trivial)))))) ?_
  refine J_callI (as := [jo 5 (rs σ 7001 zo0), ji zx1]) (rest := []) (pc' := 19) rfl rfl ax_Z_149 rfl rfl (Or.inr (Or.inr ⟨_, _, rfl, zg6⟩)) (Nat.le_of_ble_eq_true rfl) (Nat.le_of_ble_eq_true rfl) (Nat.le_of_ble_eq_true rfl) zg5 trivial trivial rfl W (fun zr8 zs7 W => ?_)
  refine J_istore (L' := [some (jo 7 zo0), some (ji zx1), some (jo 3 zo2), none, some (ji zx4), some (ji zx5), some (ji ((rs σ 6000 (rs σ 3000 zo2)) - zx3)), some (ji zr8), none, none, none]) (pc' := 21) rfl (Nat.le_of_ble_eq_true rfl) rfl rfl ?_
  refine J_iconst (pc' := 22) rfl (i32_d rfl) rfl ?_
  refine J_istore (L' := [some (jo 7 zo0), some (ji zx1), some (jo 3 zo2), none, some (ji zx4), some (ji zx5), some (ji ((rs σ 6000 (rs σ 3000 zo2)) - zx3)), some (ji zr8), some (ji 0), none, none]) (pc' := 24) rfl (Nat.le_of_ble_eq_true rfl) rfl rfl ?_
  exact W
theorem wp_Search_plantRemembered_24 {n : Nat} {σ : jS} {Q : jS → Prop} {zo0 : Int} {zx1 : Int} {zo2 : Int} {zx4 : Int} {zx5 : Int} {zx6 : Int} {zx7 : Int} {zx8 : Int} (W : 0 ≤ zo0 ∧ 1 ≤ n ∧ 0 ≤ rs σ 7001 zo0 ∧ TrI (n - 1) i_Memory_nodesOf [jo 5 (rs σ 7001 zo0), ji zx1] σ (fun zr5 zs4 => (if zr5 ≤ zx8 then Q zs4 else (if ¬ zx8 = 0 then 0 ≤ rs zs4 7001 zo0 ∧ 0 ≤ rs zs4 5003 (rs zs4 7001 zo0) ∧ i32 (zx7 + zx8) ∧ 0 ≤ rs zs4 3000 (rs zs4 5003 (rs zs4 7001 zo0)) ∧ TrI (n - 1) i_Nodes_get [jo 6 (rs zs4 3000 (rs zs4 5003 (rs zs4 7001 zo0))), ji (zx7 + zx8), ji 1] zs4 (fun zr11 zs10 => i32 (zx6 + zr11) ∧ (if ¬ zx8 = 0 then 0 ≤ rs zs10 7001 zo0 ∧ 0 ≤ rs zs10 5003 (rs zs10 7001 zo0) ∧ 0 ≤ rs zs10 3000 (rs zs10 5003 (rs zs10 7001 zo0)) ∧ TrI (n - 1) i_Nodes_get [jo 6 (rs zs10 3000 (rs zs10 5003 (rs zs10 7001 zo0))), ji (zx7 + zx8), ji 2] zs10 (fun zr17 zs16 => 0 ≤ rs zs16 7001 zo0 ∧ 0 ≤ rs zs16 5003 (rs zs16 7001 zo0) ∧ TrV (n - 1) i_Forest_goalInto [jo 3 (rs zs16 5003 (rs zs16 7001 zo0)), ji (zx7 + zx8), jo 0 (rs zs16 7008 zo0)] zs16 (fun zs20 => 0 ≤ zo2 ∧ 0 ≤ rs zs20 7001 zo0 ∧ 0 ≤ rs zs20 5003 (rs zs20 7001 zo0) ∧ TrV (n - 1) i_Forest_add [jo 3 zo2, jo 0 (rs zs20 7008 zo0), jo 6 (rs zs20 3000 (rs zs20 5003 (rs zs20 7001 zo0))), ji (zx7 + zx8), ji (zx6 + zr11), ji zr17] zs20 (fun zs25 => i32 (zx8 + 1) ∧ J n c_Search_plantRemembered none 24 [some (jo 7 zo0), some (ji zx1), some (jo 3 zo2), none, some (ji zx4), some (ji zx5), some (ji zx6), some (ji zx7), some (ji (zx8 + 1)), none, none] [] zs25 (qV Q)))) else 0 ≤ rs zs10 7001 zo0 ∧ 0 ≤ rs zs10 5003 (rs zs10 7001 zo0) ∧ TrV (n - 1) i_Forest_goalInto [jo 3 (rs zs10 5003 (rs zs10 7001 zo0)), ji (zx7 + zx8), jo 0 (rs zs10 7008 zo0)] zs10 (fun zs30 => 0 ≤ zo2 ∧ 0 ≤ rs zs30 7001 zo0 ∧ 0 ≤ rs zs30 5003 (rs zs30 7001 zo0) ∧ TrV (n - 1) i_Forest_add [jo 3 zo2, jo 0 (rs zs30 7008 zo0), jo 6 (rs zs30 3000 (rs zs30 5003 (rs zs30 7001 zo0))), ji (zx7 + zx8), ji (zx6 + zr11), ji zx5] zs30 (fun zs35 => i32 (zx8 + 1) ∧ J n c_Search_plantRemembered none 24 [some (jo 7 zo0), some (ji zx1), some (jo 3 zo2), none, some (ji zx4), some (ji zx5), some (ji zx6), some (ji zx7), some (ji (zx8 + 1)), none, none] [] zs35 (qV Q))))) else (if ¬ zx8 = 0 then 0 ≤ rs zs4 7001 zo0 ∧ 0 ≤ rs zs4 5003 (rs zs4 7001 zo0) ∧ i32 (zx7 + zx8) ∧ 0 ≤ rs zs4 3000 (rs zs4 5003 (rs zs4 7001 zo0)) ∧ TrI (n - 1) i_Nodes_get [jo 6 (rs zs4 3000 (rs zs4 5003 (rs zs4 7001 zo0))), ji (zx7 + zx8), ji 2] zs4 (fun zr43 zs42 => 0 ≤ rs zs42 7001 zo0 ∧ 0 ≤ rs zs42 5003 (rs zs42 7001 zo0) ∧ TrV (n - 1) i_Forest_goalInto [jo 3 (rs zs42 5003 (rs zs42 7001 zo0)), ji (zx7 + zx8), jo 0 (rs zs42 7008 zo0)] zs42 (fun zs46 => 0 ≤ zo2 ∧ 0 ≤ rs zs46 7001 zo0 ∧ 0 ≤ rs zs46 5003 (rs zs46 7001 zo0) ∧ TrV (n - 1) i_Forest_add [jo 3 zo2, jo 0 (rs zs46 7008 zo0), jo 6 (rs zs46 3000 (rs zs46 5003 (rs zs46 7001 zo0))), ji (zx7 + zx8), ji zx4, ji zr43] zs46 (fun zs51 => i32 (zx8 + 1) ∧ J n c_Search_plantRemembered none 24 [some (jo 7 zo0), some (ji zx1), some (jo 3 zo2), none, some (ji zx4), some (ji zx5), some (ji zx6), some (ji zx7), some (ji (zx8 + 1)), none, none] [] zs51 (qV Q)))) else 0 ≤ rs zs4 7001 zo0 ∧ i32 (zx7 + zx8) ∧ 0 ≤ rs zs4 5003 (rs zs4 7001 zo0) ∧ TrV (n - 1) i_Forest_goalInto [jo 3 (rs zs4 5003 (rs zs4 7001 zo0)), ji (zx7 + zx8), jo 0 (rs zs4 7008 zo0)] zs4 (fun zs57 => 0 ≤ zo2 ∧ 0 ≤ rs zs57 7001 zo0 ∧ 0 ≤ rs zs57 5003 (rs zs57 7001 zo0) ∧ TrV (n - 1) i_Forest_add [jo 3 zo2, jo 0 (rs zs57 7008 zo0), jo 6 (rs zs57 3000 (rs zs57 5003 (rs zs57 7001 zo0))), ji (zx7 + zx8), ji zx4, ji zx5] zs57 (fun zs62 => i32 (zx8 + 1) ∧ J n c_Search_plantRemembered none 24 [some (jo 7 zo0), some (ji zx1), some (jo 3 zo2), none, some (ji zx4), some (ji zx5), some (ji zx6), some (ji zx7), some (ji (zx8 + 1)), none, none] [] zs62 (qV Q)))))))) : J n c_Search_plantRemembered none 24 [some (jo 7 zo0), some (ji zx1), some (jo 3 zo2), none, some (ji zx4), some (ji zx5), some (ji zx6), some (ji zx7), some (ji zx8), none, none] [] σ (qV Q) := by
  refine J_iload (pc' := 26) rfl rfl rfl ?_
  obtain ⟨zg1, W⟩ := W
  refine J_aload_no (pc' := 27) rfl rfl zg1 rfl ?_
  refine J_getO (G := 7001) (pc' := 30) rfl rfl (Nat.le_of_ble_eq_true rfl) rfl zg1 rfl ?_
  refine J_iload_n (pc' := 31) rfl rfl rfl ?_
  obtain ⟨zg2, W⟩ := W
  obtain ⟨zg3, W⟩ := W
  refine J_callI (as := [jo 5 (rs σ 7001 zo0), ji zx1]) (rest := [ji zx8]) (pc' := 34) rfl rfl ax_Z_148 rfl rfl (Or.inr (Or.inr ⟨_, _, rfl, zg3⟩)) (Nat.le_of_ble_eq_true rfl) (Nat.le_of_ble_eq_true rfl) (Nat.le_of_ble_eq_true rfl) zg2 trivial trivial rfl W (fun zr5 zs4 W => ?_)
  refine J_icmp (P := zr5 ≤ zx8) (t := 154) (f := 37) rfl rfl rfl jc_ge W (fun W => ?_) (fun W => ?_)
  · exact J_vret rfl rfl ⟨rfl, W⟩
  · refine J_iload (pc' := 39) rfl rfl rfl ?_
    refine J_if (P := ¬ zx8 = 0) (t := 47) (f := 42) rfl rfl rfl jc_ne W (fun W => ?_) (fun W => ?_)
    · refine J_iload (pc' := 49) rfl rfl rfl ?_
      refine J_aload_no (pc' := 50) rfl rfl zg1 rfl ?_
      refine J_getO (G := 7001) (pc' := 53) rfl rfl (Nat.le_of_ble_eq_true rfl) rfl zg1 rfl ?_
      obtain ⟨zg6, W⟩ := W
      refine J_getO (G := 5003) (pc' := 56) rfl rfl (Nat.le_of_ble_eq_true rfl) rfl zg6 rfl ?_
      obtain ⟨zg7, W⟩ := W
      refine J_getO (G := 3000) (pc' := 59) rfl rfl (Nat.le_of_ble_eq_true rfl) rfl zg7 rfl ?_
      refine J_iload (pc' := 61) rfl rfl rfl ?_
      refine J_iload (pc' := 63) rfl rfl rfl ?_
      obtain ⟨zg8, W⟩ := W
      refine J_iadd (pc' := 64) rfl zg8 rfl ?_
      refine J_iconst (pc' := 65) rfl (i32_d rfl) rfl ?_
      obtain ⟨zg9, W⟩ := W
      refine J_callI (as := [jo 6 (rs zs4 3000 (rs zs4 5003 (rs zs4 7001 zo0))), ji (zx7 + zx8), ji 1]) (rest := [ji zx6]) (pc' := 68) rfl rfl ax_Z_152 rfl rfl (Or.inr (Or.inr ⟨_, _, rfl, zg9⟩)) (Nat.le_of_ble_eq_true rfl) (Nat.le_of_ble_eq_true rfl) (Nat.le_of_ble_eq_true rfl) zg2 trivial trivial rfl W (fun zr11 zs10 W => ?_)
      obtain ⟨zg12, W⟩ := W
      refine J_iadd (pc' := 69) rfl zg12 rfl ?_
      refine J_istore (L' := [some (jo 7 zo0), some (ji zx1), some (jo 3 zo2), none, some (ji zx4), some (ji zx5), some (ji zx6), some (ji zx7), some (ji zx8), some (ji (zx6 + zr11)), none]) (pc' := 71) rfl (Nat.le_of_ble_eq_true rfl) rfl rfl ?_
      refine J_iload (pc' := 73) rfl rfl rfl ?_
      refine J_if (P := ¬ zx8 = 0) (t := 81) (f := 76) rfl rfl rfl jc_ne W (fun W => ?_) (fun W => ?_)
      · refine J_aload_no (pc' := 82) rfl rfl zg1 rfl ?_
        refine J_getO (G := 7001) (pc' := 85) rfl rfl (Nat.le_of_ble_eq_true rfl) rfl zg1 rfl ?_
        obtain ⟨zg13, W⟩ := W
        refine J_getO (G := 5003) (pc' := 88) rfl rfl (Nat.le_of_ble_eq_true rfl) rfl zg13 rfl ?_
        obtain ⟨zg14, W⟩ := W
        refine J_getO (G := 3000) (pc' := 91) rfl rfl (Nat.le_of_ble_eq_true rfl) rfl zg14 rfl ?_
        refine J_iload (pc' := 93) rfl rfl rfl ?_
        refine J_iload (pc' := 95) rfl rfl rfl ?_
        refine J_iadd (pc' := 96) rfl zg8 rfl ?_
        refine J_iconst (pc' := 97) rfl (i32_d rfl) rfl ?_
        obtain ⟨zg15, W⟩ := W
        refine J_callI (as := [jo 6 (rs zs10 3000 (rs zs10 5003 (rs zs10 7001 zo0))), ji (zx7 + zx8), ji 2]) (rest := []) (pc' := 100) rfl rfl ax_Z_152 rfl rfl (Or.inr (Or.inr ⟨_, _, rfl, zg15⟩)) (Nat.le_of_ble_eq_true rfl) (Nat.le_of_ble_eq_true rfl) (Nat.le_of_ble_eq_true rfl) zg2 trivial trivial rfl W (fun zr17 zs16 W => ?_)
        refine J_istore (L' := [some (jo 7 zo0), some (ji zx1), some (jo 3 zo2), none, some (ji zx4), some (ji zx5), some (ji zx6), some (ji zx7), some (ji zx8), some (ji (zx6 + zr11)), some (ji zr17)]) (pc' := 102) rfl (Nat.le_of_ble_eq_true rfl) rfl rfl ?_
        refine J_aload_no (pc' := 103) rfl rfl zg1 rfl ?_
        refine J_getO (G := 7001) (pc' := 106) rfl rfl (Nat.le_of_ble_eq_true rfl) rfl zg1 rfl ?_
        obtain ⟨zg18, W⟩ := W
        refine J_getO (G := 5003) (pc' := 109) rfl rfl (Nat.le_of_ble_eq_true rfl) rfl zg18 rfl ?_
        refine J_iload (pc' := 111) rfl rfl rfl ?_
        refine J_iload (pc' := 113) rfl rfl rfl ?_
        refine J_iadd (pc' := 114) rfl zg8 rfl ?_
        refine J_aload_no (pc' := 115) rfl rfl zg1 rfl ?_
        refine J_getO (G := 7008) (pc' := 118) rfl rfl (Nat.le_of_ble_eq_true rfl) rfl zg1 rfl ?_
        obtain ⟨zg19, W⟩ := W
        refine J_callV (as := [jo 3 (rs zs16 5003 (rs zs16 7001 zo0)), ji (zx7 + zx8), jo 0 (rs zs16 7008 zo0)]) (rest := []) (pc' := 121) rfl rfl ax_Z_136 rfl rfl (Or.inr (Or.inr ⟨_, _, rfl, zg19⟩)) (Nat.le_of_ble_eq_true rfl) (Nat.le_of_ble_eq_true rfl) (Nat.le_of_ble_eq_true rfl) zg2 trivial trivial rfl W (fun zs20 W => ?_)
        obtain ⟨zg22, W⟩ := W
        refine J_aload_no (pc' := 122) rfl rfl zg22 rfl ?_
        refine J_aload_no (pc' := 123) rfl rfl zg1 rfl ?_
        refine J_getO (G := 7008) (pc' := 126) rfl rfl (Nat.le_of_ble_eq_true rfl) rfl zg1 rfl ?_
        refine J_aload_no (pc' := 127) rfl rfl zg1 rfl ?_
        refine J_getO (G := 7001) (pc' := 130) rfl rfl (Nat.le_of_ble_eq_true rfl) rfl zg1 rfl ?_
        obtain ⟨zg23, W⟩ := W
        refine J_getO (G := 5003) (pc' := 133) rfl rfl (Nat.le_of_ble_eq_true rfl) rfl zg23 rfl ?_
        obtain ⟨zg24, W⟩ := W
        refine J_getO (G := 3000) (pc' := 136) rfl rfl (Nat.le_of_ble_eq_true rfl) rfl zg24 rfl ?_
        refine J_iload (pc' := 138) rfl rfl rfl ?_
        refine J_iload (pc' := 140) rfl rfl rfl ?_
        refine J_iadd (pc' := 141) rfl zg8 rfl ?_
        refine J_iload (pc' := 143) rfl rfl rfl ?_
        refine J_iload (pc' := 145) rfl rfl rfl ?_
        refine J_weak (L' := [some (jo 7 zo0), some (ji zx1), some (jo 3 zo2), none, some (ji zx4), some (ji zx5), some (ji zx6), some (ji zx7), some (ji zx8), none, none]) (And.intro rfl (And.intro rfl (And.intro rfl (And.intro rfl (And.intro rfl (And.intro rfl (And.intro rfl (And.intro rfl trivial)))))))) ?_
        refine J_callV (as := [jo 3 zo2, jo 0 (rs zs20 7008 zo0), jo 6 (rs zs20 3000 (rs zs20 5003 (rs zs20 7001 zo0))), ji (zx7 + zx8), ji (zx6 + zr11), ji zr17]) (rest := []) (pc' := 148) rfl rfl ax_Z_134 rfl rfl (Or.inr (Or.inr ⟨_, _, rfl, zg22⟩)) (Nat.le_of_ble_eq_true rfl) (Nat.le_of_ble_eq_true rfl) (Nat.le_of_ble_eq_true rfl) zg2 trivial trivial rfl W (fun zs25 W => ?_)
        obtain ⟨zg27, W⟩ := W
        refine J_iinc (L' := [some (jo 7 zo0), some (ji zx1), some (jo 3 zo2), none, some (ji zx4), some (ji zx5), some (ji zx6), some (ji zx7), some (ji (zx8 + 1)), none, none]) (pc' := 151) rfl rfl zg27 rfl rfl ?_
        refine J_goto (pc' := 24) rfl rfl ?_
        exact W
      · refine J_iload (pc' := 78) rfl rfl rfl ?_
        refine J_goto (pc' := 100) rfl rfl ?_
        refine J_istore (L' := [some (jo 7 zo0), some (ji zx1), some (jo 3 zo2), none, some (ji zx4), some (ji zx5), some (ji zx6), some (ji zx7), some (ji zx8), some (ji (zx6 + zr11)), some (ji zx5)]) (pc' := 102) rfl (Nat.le_of_ble_eq_true rfl) rfl rfl ?_
        refine J_aload_no (pc' := 103) rfl rfl zg1 rfl ?_
        refine J_getO (G := 7001) (pc' := 106) rfl rfl (Nat.le_of_ble_eq_true rfl) rfl zg1 rfl ?_
        obtain ⟨zg28, W⟩ := W
        refine J_getO (G := 5003) (pc' := 109) rfl rfl (Nat.le_of_ble_eq_true rfl) rfl zg28 rfl ?_
        refine J_iload (pc' := 111) rfl rfl rfl ?_
        refine J_iload (pc' := 113) rfl rfl rfl ?_
        refine J_iadd (pc' := 114) rfl zg8 rfl ?_
        refine J_aload_no (pc' := 115) rfl rfl zg1 rfl ?_
        refine J_getO (G := 7008) (pc' := 118) rfl rfl (Nat.le_of_ble_eq_true rfl) rfl zg1 rfl ?_
        obtain ⟨zg29, W⟩ := W
        refine J_callV (as := [jo 3 (rs zs10 5003 (rs zs10 7001 zo0)), ji (zx7 + zx8), jo 0 (rs zs10 7008 zo0)]) (rest := []) (pc' := 121) rfl rfl ax_Z_136 rfl rfl (Or.inr (Or.inr ⟨_, _, rfl, zg29⟩)) (Nat.le_of_ble_eq_true rfl) (Nat.le_of_ble_eq_true rfl) (Nat.le_of_ble_eq_true rfl) zg2 trivial trivial rfl W (fun zs30 W => ?_)
        obtain ⟨zg32, W⟩ := W
        refine J_aload_no (pc' := 122) rfl rfl zg32 rfl ?_
        refine J_aload_no (pc' := 123) rfl rfl zg1 rfl ?_
        refine J_getO (G := 7008) (pc' := 126) rfl rfl (Nat.le_of_ble_eq_true rfl) rfl zg1 rfl ?_
        refine J_aload_no (pc' := 127) rfl rfl zg1 rfl ?_
        refine J_getO (G := 7001) (pc' := 130) rfl rfl (Nat.le_of_ble_eq_true rfl) rfl zg1 rfl ?_
        obtain ⟨zg33, W⟩ := W
        refine J_getO (G := 5003) (pc' := 133) rfl rfl (Nat.le_of_ble_eq_true rfl) rfl zg33 rfl ?_
        obtain ⟨zg34, W⟩ := W
        refine J_getO (G := 3000) (pc' := 136) rfl rfl (Nat.le_of_ble_eq_true rfl) rfl zg34 rfl ?_
        refine J_iload (pc' := 138) rfl rfl rfl ?_
        refine J_iload (pc' := 140) rfl rfl rfl ?_
        refine J_iadd (pc' := 141) rfl zg8 rfl ?_
        refine J_iload (pc' := 143) rfl rfl rfl ?_
        refine J_iload (pc' := 145) rfl rfl rfl ?_
        refine J_weak (L' := [some (jo 7 zo0), some (ji zx1), some (jo 3 zo2), none, some (ji zx4), some (ji zx5), some (ji zx6), some (ji zx7), some (ji zx8), none, none]) (And.intro rfl (And.intro rfl (And.intro rfl (And.intro rfl (And.intro rfl (And.intro rfl (And.intro rfl (And.intro rfl trivial)))))))) ?_
        refine J_callV (as := [jo 3 zo2, jo 0 (rs zs30 7008 zo0), jo 6 (rs zs30 3000 (rs zs30 5003 (rs zs30 7001 zo0))), ji (zx7 + zx8), ji (zx6 + zr11), ji zx5]) (rest := []) (pc' := 148) rfl rfl ax_Z_134 rfl rfl (Or.inr (Or.inr ⟨_, _, rfl, zg32⟩)) (Nat.le_of_ble_eq_true rfl) (Nat.le_of_ble_eq_true rfl) (Nat.le_of_ble_eq_true rfl) zg2 trivial trivial rfl W (fun zs35 W => ?_)
        obtain ⟨zg37, W⟩ := W
        refine J_iinc (L' := [some (jo 7 zo0), some (ji zx1), some (jo 3 zo2), none, some (ji zx4), some (ji zx5), some (ji zx6), some (ji zx7), some (ji (zx8 + 1)), none, none]) (pc' := 151) rfl rfl zg37 rfl rfl ?_
        refine J_goto (pc' := 24) rfl rfl ?_
        exact W
    · refine J_iload (pc' := 44) rfl rfl rfl ?_
      refine J_goto (pc' := 69) rfl rfl ?_
      refine J_istore (L' := [some (jo 7 zo0), some (ji zx1), some (jo 3 zo2), none, some (ji zx4), some (ji zx5), some (ji zx6), some (ji zx7), some (ji zx8), some (ji zx4), none]) (pc' := 71) rfl (Nat.le_of_ble_eq_true rfl) rfl rfl ?_
      refine J_iload (pc' := 73) rfl rfl rfl ?_
      refine J_if (P := ¬ zx8 = 0) (t := 81) (f := 76) rfl rfl rfl jc_ne W (fun W => ?_) (fun W => ?_)
      · refine J_aload_no (pc' := 82) rfl rfl zg1 rfl ?_
        refine J_getO (G := 7001) (pc' := 85) rfl rfl (Nat.le_of_ble_eq_true rfl) rfl zg1 rfl ?_
        obtain ⟨zg38, W⟩ := W
        refine J_getO (G := 5003) (pc' := 88) rfl rfl (Nat.le_of_ble_eq_true rfl) rfl zg38 rfl ?_
        obtain ⟨zg39, W⟩ := W
        refine J_getO (G := 3000) (pc' := 91) rfl rfl (Nat.le_of_ble_eq_true rfl) rfl zg39 rfl ?_
        refine J_iload (pc' := 93) rfl rfl rfl ?_
        refine J_iload (pc' := 95) rfl rfl rfl ?_
        obtain ⟨zg40, W⟩ := W
        refine J_iadd (pc' := 96) rfl zg40 rfl ?_
        refine J_iconst (pc' := 97) rfl (i32_d rfl) rfl ?_
        obtain ⟨zg41, W⟩ := W
        refine J_callI (as := [jo 6 (rs zs4 3000 (rs zs4 5003 (rs zs4 7001 zo0))), ji (zx7 + zx8), ji 2]) (rest := []) (pc' := 100) rfl rfl ax_Z_152 rfl rfl (Or.inr (Or.inr ⟨_, _, rfl, zg41⟩)) (Nat.le_of_ble_eq_true rfl) (Nat.le_of_ble_eq_true rfl) (Nat.le_of_ble_eq_true rfl) zg2 trivial trivial rfl W (fun zr43 zs42 W => ?_)
        refine J_istore (L' := [some (jo 7 zo0), some (ji zx1), some (jo 3 zo2), none, some (ji zx4), some (ji zx5), some (ji zx6), some (ji zx7), some (ji zx8), some (ji zx4), some (ji zr43)]) (pc' := 102) rfl (Nat.le_of_ble_eq_true rfl) rfl rfl ?_
        refine J_aload_no (pc' := 103) rfl rfl zg1 rfl ?_
        refine J_getO (G := 7001) (pc' := 106) rfl rfl (Nat.le_of_ble_eq_true rfl) rfl zg1 rfl ?_
        obtain ⟨zg44, W⟩ := W
        refine J_getO (G := 5003) (pc' := 109) rfl rfl (Nat.le_of_ble_eq_true rfl) rfl zg44 rfl ?_
        refine J_iload (pc' := 111) rfl rfl rfl ?_
        refine J_iload (pc' := 113) rfl rfl rfl ?_
        refine J_iadd (pc' := 114) rfl zg40 rfl ?_
        refine J_aload_no (pc' := 115) rfl rfl zg1 rfl ?_
        refine J_getO (G := 7008) (pc' := 118) rfl rfl (Nat.le_of_ble_eq_true rfl) rfl zg1 rfl ?_
        obtain ⟨zg45, W⟩ := W
        refine J_callV (as := [jo 3 (rs zs42 5003 (rs zs42 7001 zo0)), ji (zx7 + zx8), jo 0 (rs zs42 7008 zo0)]) (rest := []) (pc' := 121) rfl rfl ax_Z_136 rfl rfl (Or.inr (Or.inr ⟨_, _, rfl, zg45⟩)) (Nat.le_of_ble_eq_true rfl) (Nat.le_of_ble_eq_true rfl) (Nat.le_of_ble_eq_true rfl) zg2 trivial trivial rfl W (fun zs46 W => ?_)
        obtain ⟨zg48, W⟩ := W
        refine J_aload_no (pc' := 122) rfl rfl zg48 rfl ?_
        refine J_aload_no (pc' := 123) rfl rfl zg1 rfl ?_
        refine J_getO (G := 7008) (pc' := 126) rfl rfl (Nat.le_of_ble_eq_true rfl) rfl zg1 rfl ?_
        refine J_aload_no (pc' := 127) rfl rfl zg1 rfl ?_
        refine J_getO (G := 7001) (pc' := 130) rfl rfl (Nat.le_of_ble_eq_true rfl) rfl zg1 rfl ?_
        obtain ⟨zg49, W⟩ := W
        refine J_getO (G := 5003) (pc' := 133) rfl rfl (Nat.le_of_ble_eq_true rfl) rfl zg49 rfl ?_
        obtain ⟨zg50, W⟩ := W
        refine J_getO (G := 3000) (pc' := 136) rfl rfl (Nat.le_of_ble_eq_true rfl) rfl zg50 rfl ?_
        refine J_iload (pc' := 138) rfl rfl rfl ?_
        refine J_iload (pc' := 140) rfl rfl rfl ?_
        refine J_iadd (pc' := 141) rfl zg40 rfl ?_
        refine J_iload (pc' := 143) rfl rfl rfl ?_
        refine J_iload (pc' := 145) rfl rfl rfl ?_
        refine J_weak (L' := [some (jo 7 zo0), some (ji zx1), some (jo 3 zo2), none, some (ji zx4), some (ji zx5), some (ji zx6), some (ji zx7), some (ji zx8), none, none]) (And.intro rfl (And.intro rfl (And.intro rfl (And.intro rfl (And.intro rfl (And.intro rfl (And.intro rfl (And.intro rfl trivial)))))))) ?_
        refine J_callV (as := [jo 3 zo2, jo 0 (rs zs46 7008 zo0), jo 6 (rs zs46 3000 (rs zs46 5003 (rs zs46 7001 zo0))), ji (zx7 + zx8), ji zx4, ji zr43]) (rest := []) (pc' := 148) rfl rfl ax_Z_134 rfl rfl (Or.inr (Or.inr ⟨_, _, rfl, zg48⟩)) (Nat.le_of_ble_eq_true rfl) (Nat.le_of_ble_eq_true rfl) (Nat.le_of_ble_eq_true rfl) zg2 trivial trivial rfl W (fun zs51 W => ?_)
        obtain ⟨zg53, W⟩ := W
        refine J_iinc (L' := [some (jo 7 zo0), some (ji zx1), some (jo 3 zo2), none, some (ji zx4), some (ji zx5), some (ji zx6), some (ji zx7), some (ji (zx8 + 1)), none, none]) (pc' := 151) rfl rfl zg53 rfl rfl ?_
        refine J_goto (pc' := 24) rfl rfl ?_
        exact W
      · refine J_iload (pc' := 78) rfl rfl rfl ?_
        refine J_goto (pc' := 100) rfl rfl ?_
        refine J_istore (L' := [some (jo 7 zo0), some (ji zx1), some (jo 3 zo2), none, some (ji zx4), some (ji zx5), some (ji zx6), some (ji zx7), some (ji zx8), some (ji zx4), some (ji zx5)]) (pc' := 102) rfl (Nat.le_of_ble_eq_true rfl) rfl rfl ?_
        refine J_aload_no (pc' := 103) rfl rfl zg1 rfl ?_
        refine J_getO (G := 7001) (pc' := 106) rfl rfl (Nat.le_of_ble_eq_true rfl) rfl zg1 rfl ?_
        obtain ⟨zg54, W⟩ := W
        refine J_getO (G := 5003) (pc' := 109) rfl rfl (Nat.le_of_ble_eq_true rfl) rfl zg54 rfl ?_
        refine J_iload (pc' := 111) rfl rfl rfl ?_
        refine J_iload (pc' := 113) rfl rfl rfl ?_
        obtain ⟨zg55, W⟩ := W
        refine J_iadd (pc' := 114) rfl zg55 rfl ?_
        refine J_aload_no (pc' := 115) rfl rfl zg1 rfl ?_
        refine J_getO (G := 7008) (pc' := 118) rfl rfl (Nat.le_of_ble_eq_true rfl) rfl zg1 rfl ?_
        obtain ⟨zg56, W⟩ := W
        refine J_callV (as := [jo 3 (rs zs4 5003 (rs zs4 7001 zo0)), ji (zx7 + zx8), jo 0 (rs zs4 7008 zo0)]) (rest := []) (pc' := 121) rfl rfl ax_Z_136 rfl rfl (Or.inr (Or.inr ⟨_, _, rfl, zg56⟩)) (Nat.le_of_ble_eq_true rfl) (Nat.le_of_ble_eq_true rfl) (Nat.le_of_ble_eq_true rfl) zg2 trivial trivial rfl W (fun zs57 W => ?_)
        obtain ⟨zg59, W⟩ := W
        refine J_aload_no (pc' := 122) rfl rfl zg59 rfl ?_
        refine J_aload_no (pc' := 123) rfl rfl zg1 rfl ?_
        refine J_getO (G := 7008) (pc' := 126) rfl rfl (Nat.le_of_ble_eq_true rfl) rfl zg1 rfl ?_
        refine J_aload_no (pc' := 127) rfl rfl zg1 rfl ?_
        refine J_getO (G := 7001) (pc' := 130) rfl rfl (Nat.le_of_ble_eq_true rfl) rfl zg1 rfl ?_
        obtain ⟨zg60, W⟩ := W
        refine J_getO (G := 5003) (pc' := 133) rfl rfl (Nat.le_of_ble_eq_true rfl) rfl zg60 rfl ?_
        obtain ⟨zg61, W⟩ := W
        refine J_getO (G := 3000) (pc' := 136) rfl rfl (Nat.le_of_ble_eq_true rfl) rfl zg61 rfl ?_
        refine J_iload (pc' := 138) rfl rfl rfl ?_
        refine J_iload (pc' := 140) rfl rfl rfl ?_
        refine J_iadd (pc' := 141) rfl zg55 rfl ?_
        refine J_iload (pc' := 143) rfl rfl rfl ?_
        refine J_iload (pc' := 145) rfl rfl rfl ?_
        refine J_weak (L' := [some (jo 7 zo0), some (ji zx1), some (jo 3 zo2), none, some (ji zx4), some (ji zx5), some (ji zx6), some (ji zx7), some (ji zx8), none, none]) (And.intro rfl (And.intro rfl (And.intro rfl (And.intro rfl (And.intro rfl (And.intro rfl (And.intro rfl (And.intro rfl trivial)))))))) ?_
        refine J_callV (as := [jo 3 zo2, jo 0 (rs zs57 7008 zo0), jo 6 (rs zs57 3000 (rs zs57 5003 (rs zs57 7001 zo0))), ji (zx7 + zx8), ji zx4, ji zx5]) (rest := []) (pc' := 148) rfl rfl ax_Z_134 rfl rfl (Or.inr (Or.inr ⟨_, _, rfl, zg59⟩)) (Nat.le_of_ble_eq_true rfl) (Nat.le_of_ble_eq_true rfl) (Nat.le_of_ble_eq_true rfl) zg2 trivial trivial rfl W (fun zs62 W => ?_)
        obtain ⟨zg64, W⟩ := W
        refine J_iinc (L' := [some (jo 7 zo0), some (ji zx1), some (jo 3 zo2), none, some (ji zx4), some (ji zx5), some (ji zx6), some (ji zx7), some (ji (zx8 + 1)), none, none]) (pc' := 151) rfl rfl zg64 rfl rfl ?_
        refine J_goto (pc' := 24) rfl rfl ?_
        exact W
theorem wp_Search_join {n : Nat} {σ : jS} {Q : Int → jS → Prop} {zo0 : Int} {zo1 : Int} {zo2 : Int} {zo3 : Int} (W : 0 ≤ zo0 ∧ 1 ≤ n ∧ 0 ≤ rs σ 7000 zo0 ∧ TrV (n - 1) i_Terms_clear [jo 9 (rs σ 7000 zo0)] σ (fun zs4 => 0 ≤ zo1 ∧ 0 ≤ rs zs4 7000 zo0 ∧ TrI (n - 1) i_Terms_build [jo 9 (rs zs4 7000 zo0), jo 0 zo1, ji 1] zs4 (fun zr9 zs8 => 0 ≤ zo2 ∧ 0 ≤ rs zs8 7000 zo0 ∧ TrI (n - 1) i_Terms_build [jo 9 (rs zs8 7000 zo0), jo 0 zo2, ji 0] zs8 (fun zr13 zs12 => 0 ≤ rs zs8 7000 zo0 ∧ TrI (n - 1) i_Terms_unify [jo 9 (rs zs8 7000 zo0), ji zr9, ji zr13] zs12 (fun zr16 zs15 => 0 ≤ zo3 ∧ 0 ≤ rs zs15 7000 zo0 ∧ TrV (n - 1) i_Terms_flatten [jo 9 (rs zs15 7000 zo0), ji zr9, jo 0 zo3] zs15 (fun zs19 => (zr16 = 0 ∨ zr16 = 1) ∧ Q zr16 zs19)))))) : TrI n i_Search_join [jo 7 zo0, jo 0 zo1, jo 0 zo2, jo 0 zo3] σ Q := by
  refine Tr_of ax_Z_176 ?_
  show J n c_Search_join (some .boolean) 0 [some (jo 7 zo0), some (jo 0 zo1), some (jo 0 zo2), some (jo 0 zo3), none, none] [] σ (qI Q)
  obtain ⟨zg1, W⟩ := W
  refine J_aload_no (pc' := 1) rfl rfl zg1 rfl ?_
  refine J_getO (G := 7000) (pc' := 4) rfl rfl (Nat.le_of_ble_eq_true rfl) rfl zg1 rfl ?_
  obtain ⟨zg2, W⟩ := W
  obtain ⟨zg3, W⟩ := W
  refine J_callV (as := [jo 9 (rs σ 7000 zo0)]) (rest := []) (pc' := 7) rfl rfl ax_Z_196 rfl rfl (Or.inr (Or.inr ⟨_, _, rfl, zg3⟩)) (Nat.le_of_ble_eq_true rfl) (Nat.le_of_ble_eq_true rfl) (Nat.le_of_ble_eq_true rfl) zg2 trivial trivial rfl W (fun zs4 W => ?_)
  refine J_aload_no (pc' := 8) rfl rfl zg1 rfl ?_
  refine J_getO (G := 7000) (pc' := 11) rfl rfl (Nat.le_of_ble_eq_true rfl) rfl zg1 rfl ?_
  obtain ⟨zg6, W⟩ := W
  refine J_aload_no (pc' := 12) rfl rfl zg6 rfl ?_
  refine J_iconst (pc' := 13) rfl (i32_d rfl) rfl ?_
  obtain ⟨zg7, W⟩ := W
  refine J_weak (L' := [some (jo 7 zo0), none, some (jo 0 zo2), some (jo 0 zo3), none, none]) (And.intro rfl (And.intro rfl (And.intro rfl trivial))) ?_
  refine J_callI (as := [jo 9 (rs zs4 7000 zo0), jo 0 zo1, ji 1]) (rest := []) (pc' := 16) rfl rfl ax_Z_203 rfl rfl (Or.inr (Or.inr ⟨_, _, rfl, zg7⟩)) (Nat.le_of_ble_eq_true rfl) (Nat.le_of_ble_eq_true rfl) (Nat.le_of_ble_eq_true rfl) zg2 trivial trivial rfl W (fun zr9 zs8 W => ?_)
  refine J_istore (L' := [some (jo 7 zo0), none, some (jo 0 zo2), some (jo 0 zo3), some (ji zr9), none]) (pc' := 18) rfl (Nat.le_of_ble_eq_true rfl) rfl rfl ?_
  refine J_aload_no (pc' := 19) rfl rfl zg1 rfl ?_
  refine J_getO (G := 7000) (pc' := 22) rfl rfl (Nat.le_of_ble_eq_true rfl) rfl zg1 rfl ?_
  refine J_iload (pc' := 24) rfl rfl rfl ?_
  refine J_aload_no (pc' := 25) rfl rfl zg1 rfl ?_
  refine J_getO (G := 7000) (pc' := 28) rfl rfl (Nat.le_of_ble_eq_true rfl) rfl zg1 rfl ?_
  obtain ⟨zg10, W⟩ := W
  refine J_aload_no (pc' := 29) rfl rfl zg10 rfl ?_
  refine J_iconst (pc' := 30) rfl (i32_d rfl) rfl ?_
  obtain ⟨zg11, W⟩ := W
  refine J_weak (L' := [some (jo 7 zo0), none, none, some (jo 0 zo3), some (ji zr9), none]) (And.intro rfl (And.intro rfl (And.intro rfl trivial))) ?_
  refine J_callI (as := [jo 9 (rs zs8 7000 zo0), jo 0 zo2, ji 0]) (rest := [ji zr9, jo 9 (rs zs8 7000 zo0)]) (pc' := 33) rfl rfl ax_Z_203 rfl rfl (Or.inr (Or.inr ⟨_, _, rfl, zg11⟩)) (Nat.le_of_ble_eq_true rfl) (Nat.le_of_ble_eq_true rfl) (Nat.le_of_ble_eq_true rfl) zg2 trivial trivial rfl W (fun zr13 zs12 W => ?_)
  obtain ⟨zg14, W⟩ := W
  refine J_callI (as := [jo 9 (rs zs8 7000 zo0), ji zr9, ji zr13]) (rest := []) (pc' := 36) rfl rfl ax_Z_209 rfl rfl (Or.inr (Or.inr ⟨_, _, rfl, zg14⟩)) (Nat.le_of_ble_eq_true rfl) (Nat.le_of_ble_eq_true rfl) (Nat.le_of_ble_eq_true rfl) zg2 trivial trivial rfl W (fun zr16 zs15 W => ?_)
  refine J_istore (L' := [some (jo 7 zo0), none, none, some (jo 0 zo3), some (ji zr9), some (ji zr16)]) (pc' := 38) rfl (Nat.le_of_ble_eq_true rfl) rfl rfl ?_
  refine J_aload_no (pc' := 39) rfl rfl zg1 rfl ?_
  refine J_getO (G := 7000) (pc' := 42) rfl rfl (Nat.le_of_ble_eq_true rfl) rfl zg1 rfl ?_
  refine J_iload (pc' := 44) rfl rfl rfl ?_
  obtain ⟨zg17, W⟩ := W
  refine J_aload_no (pc' := 45) rfl rfl zg17 rfl ?_
  obtain ⟨zg18, W⟩ := W
  refine J_weak (L' := [none, none, none, none, none, some (ji zr16)]) (And.intro rfl trivial) ?_
  refine J_callV (as := [jo 9 (rs zs15 7000 zo0), ji zr9, jo 0 zo3]) (rest := []) (pc' := 48) rfl rfl ax_Z_220 rfl rfl (Or.inr (Or.inr ⟨_, _, rfl, zg18⟩)) (Nat.le_of_ble_eq_true rfl) (Nat.le_of_ble_eq_true rfl) (Nat.le_of_ble_eq_true rfl) zg2 trivial trivial rfl W (fun zs19 W => ?_)
  refine J_iload (pc' := 50) rfl rfl rfl ?_
  obtain ⟨zg21, W⟩ := W
  exact J_zret rfl rfl zg21 ⟨_, rfl, W⟩
theorem wp_Search_canMeet {n : Nat} {σ : jS} {Q : Int → jS → Prop} {zo0 : Int} {zo1 : Int} {zo2 : Int} (W : 0 ≤ zo0 ∧ 1 ≤ n ∧ 0 ≤ rs σ 7000 zo0 ∧ TrV (n - 1) i_Terms_clear [jo 9 (rs σ 7000 zo0)] σ (fun zs4 => 0 ≤ zo1 ∧ 0 ≤ rs zs4 7000 zo0 ∧ TrI (n - 1) i_Terms_build [jo 9 (rs zs4 7000 zo0), jo 0 zo1, ji 1] zs4 (fun zr9 zs8 => 0 ≤ zo2 ∧ 0 ≤ rs zs8 7000 zo0 ∧ TrI (n - 1) i_Terms_build [jo 9 (rs zs8 7000 zo0), jo 0 zo2, ji 1] zs8 (fun zr13 zs12 => 0 ≤ rs zs8 7000 zo0 ∧ TrI (n - 1) i_Terms_unify [jo 9 (rs zs8 7000 zo0), ji zr9, ji zr13] zs12 (fun zr16 zs15 => (zr16 = 0 ∨ zr16 = 1) ∧ Q zr16 zs15))))) : TrI n i_Search_canMeet [jo 7 zo0, jo 0 zo1, jo 0 zo2] σ Q := by
  refine Tr_of ax_Z_177 ?_
  show J n c_Search_canMeet (some .boolean) 0 [some (jo 7 zo0), some (jo 0 zo1), some (jo 0 zo2), none] [] σ (qI Q)
  obtain ⟨zg1, W⟩ := W
  refine J_aload_no (pc' := 1) rfl rfl zg1 rfl ?_
  refine J_getO (G := 7000) (pc' := 4) rfl rfl (Nat.le_of_ble_eq_true rfl) rfl zg1 rfl ?_
  obtain ⟨zg2, W⟩ := W
  obtain ⟨zg3, W⟩ := W
  refine J_callV (as := [jo 9 (rs σ 7000 zo0)]) (rest := []) (pc' := 7) rfl rfl ax_Z_196 rfl rfl (Or.inr (Or.inr ⟨_, _, rfl, zg3⟩)) (Nat.le_of_ble_eq_true rfl) (Nat.le_of_ble_eq_true rfl) (Nat.le_of_ble_eq_true rfl) zg2 trivial trivial rfl W (fun zs4 W => ?_)
  refine J_aload_no (pc' := 8) rfl rfl zg1 rfl ?_
  refine J_getO (G := 7000) (pc' := 11) rfl rfl (Nat.le_of_ble_eq_true rfl) rfl zg1 rfl ?_
  obtain ⟨zg6, W⟩ := W
  refine J_aload_no (pc' := 12) rfl rfl zg6 rfl ?_
  refine J_iconst (pc' := 13) rfl (i32_d rfl) rfl ?_
  obtain ⟨zg7, W⟩ := W
  refine J_weak (L' := [some (jo 7 zo0), none, some (jo 0 zo2), none]) (And.intro rfl (And.intro rfl trivial)) ?_
  refine J_callI (as := [jo 9 (rs zs4 7000 zo0), jo 0 zo1, ji 1]) (rest := []) (pc' := 16) rfl rfl ax_Z_203 rfl rfl (Or.inr (Or.inr ⟨_, _, rfl, zg7⟩)) (Nat.le_of_ble_eq_true rfl) (Nat.le_of_ble_eq_true rfl) (Nat.le_of_ble_eq_true rfl) zg2 trivial trivial rfl W (fun zr9 zs8 W => ?_)
  refine J_istore_n (L' := [some (jo 7 zo0), none, some (jo 0 zo2), some (ji zr9)]) (pc' := 17) rfl (Nat.le_of_ble_eq_true rfl) rfl rfl ?_
  refine J_aload_no (pc' := 18) rfl rfl zg1 rfl ?_
  refine J_getO (G := 7000) (pc' := 21) rfl rfl (Nat.le_of_ble_eq_true rfl) rfl zg1 rfl ?_
  refine J_iload_n (pc' := 22) rfl rfl rfl ?_
  refine J_aload_no (pc' := 23) rfl rfl zg1 rfl ?_
  refine J_getO (G := 7000) (pc' := 26) rfl rfl (Nat.le_of_ble_eq_true rfl) rfl zg1 rfl ?_
  obtain ⟨zg10, W⟩ := W
  refine J_aload_no (pc' := 27) rfl rfl zg10 rfl ?_
  refine J_iconst (pc' := 28) rfl (i32_d rfl) rfl ?_
  obtain ⟨zg11, W⟩ := W
  refine J_weak (L' := [none, none, none, none]) trivial ?_
  refine J_callI (as := [jo 9 (rs zs8 7000 zo0), jo 0 zo2, ji 1]) (rest := [ji zr9, jo 9 (rs zs8 7000 zo0)]) (pc' := 31) rfl rfl ax_Z_203 rfl rfl (Or.inr (Or.inr ⟨_, _, rfl, zg11⟩)) (Nat.le_of_ble_eq_true rfl) (Nat.le_of_ble_eq_true rfl) (Nat.le_of_ble_eq_true rfl) zg2 trivial trivial rfl W (fun zr13 zs12 W => ?_)
  obtain ⟨zg14, W⟩ := W
  refine J_callI (as := [jo 9 (rs zs8 7000 zo0), ji zr9, ji zr13]) (rest := []) (pc' := 34) rfl rfl ax_Z_209 rfl rfl (Or.inr (Or.inr ⟨_, _, rfl, zg14⟩)) (Nat.le_of_ble_eq_true rfl) (Nat.le_of_ble_eq_true rfl) (Nat.le_of_ble_eq_true rfl) zg2 trivial trivial rfl W (fun zr16 zs15 W => ?_)
  obtain ⟨zg17, W⟩ := W
  exact J_zret rfl rfl zg17 ⟨_, rfl, W⟩
theorem wp_Search_countValues {n : Nat} {σ : jS} {Q : Int → jS → Prop} {zo0 : Int} {zx1 : Int} {zx2 : Int} {zx3 : Int} (W : 0 ≤ zo0 ∧ 1 ≤ n ∧ 0 ≤ rs σ 7007 zo0 ∧ TrV (n - 1) i_Counts_clear [jo 2 (rs σ 7007 zo0)] σ (fun zs4 => TrI (n - 1) i_Search_count [jo 7 zo0, ji zx1, ji zx2, ji (min zx3 3)] zs4 (fun zr7 zs6 => Q zr7 zs6))) : TrI n i_Search_countValues [jo 7 zo0, ji zx1, ji zx2, ji zx3] σ Q := by
  refine Tr_of ax_Z_178 ?_
  show J n c_Search_countValues (some .int) 0 [some (jo 7 zo0), some (ji zx1), some (ji zx2), some (ji zx3)] [] σ (qI Q)
  obtain ⟨zg1, W⟩ := W
  refine J_aload_no (pc' := 1) rfl rfl zg1 rfl ?_
  refine J_getO (G := 7007) (pc' := 4) rfl rfl (Nat.le_of_ble_eq_true rfl) rfl zg1 rfl ?_
  obtain ⟨zg2, W⟩ := W
  obtain ⟨zg3, W⟩ := W
  refine J_callV (as := [jo 2 (rs σ 7007 zo0)]) (rest := []) (pc' := 7) rfl rfl ax_Z_129 rfl rfl (Or.inr (Or.inr ⟨_, _, rfl, zg3⟩)) (Nat.le_of_ble_eq_true rfl) (Nat.le_of_ble_eq_true rfl) (Nat.le_of_ble_eq_true rfl) zg2 trivial trivial rfl W (fun zs4 W => ?_)
  refine J_aload_no (pc' := 8) rfl rfl zg1 rfl ?_
  refine J_iload_n (pc' := 9) rfl rfl rfl ?_
  refine J_iload_n (pc' := 10) rfl rfl rfl ?_
  refine J_iload_n (pc' := 11) rfl rfl rfl ?_
  refine J_iconst (pc' := 12) rfl (i32_d rfl) rfl ?_
  refine J_min (pc' := 15) rfl zg2 (Nat.le_of_ble_eq_true rfl) rfl ?_
  refine J_weak (L' := [none, none, none, none]) trivial ?_
  refine J_callI (as := [jo 7 zo0, ji zx1, ji zx2, ji (min zx3 3)]) (rest := []) (pc' := 18) rfl rfl ax_Z_179 rfl rfl (Or.inr (Or.inr ⟨_, _, rfl, zg1⟩)) (Nat.le_of_ble_eq_true rfl) (Nat.le_of_ble_eq_true rfl) (Nat.le_of_ble_eq_true rfl) zg2 trivial trivial rfl W (fun zr7 zs6 W => ?_)
  exact J_iret rfl rfl ⟨_, rfl, W⟩
theorem wp_Search_count {n : Nat} {σ : jS} {Q : Int → jS → Prop} {zo0 : Int} {zx1 : Int} {zx2 : Int} {zx3 : Int} (W : (if 0 < zx3 then 0 ≤ zo0 ∧ 1 ≤ n ∧ 0 ≤ rs σ 7000 zo0 ∧ TrV (n - 1) i_Terms_flatten [jo 9 (rs σ 7000 zo0), ji zx1, jo 0 (rs σ 7008 zo0)] σ (fun zs4 => 0 ≤ rs zs4 7007 zo0 ∧ TrI (n - 1) i_Counts_find [jo 2 (rs zs4 7007 zo0), jo 0 (rs zs4 7008 zo0), ji zx3] zs4 (fun zr8 zs7 => (if zr8 = (-1) then TrI (n - 1) i_Search_countAnew [jo 7 zo0, ji zx1, ji zx2, ji zx3] zs7 (fun zr10 zs9 => 0 ≤ rs zs9 7000 zo0 ∧ TrV (n - 1) i_Terms_flatten [jo 9 (rs zs9 7000 zo0), ji zx1, jo 0 (rs zs9 7008 zo0)] zs9 (fun zs12 => 0 ≤ rs zs12 7007 zo0 ∧ TrV (n - 1) i_Counts_keep [jo 2 (rs zs12 7007 zo0), jo 0 (rs zs12 7008 zo0), ji zx3, ji zr10] zs12 (fun zs15 => Q zr10 zs15))) else Q zr8 zs7))) else (if 0 ≤ zx3 then 0 ≤ zo0 ∧ 1 ≤ n ∧ TrI (n - 1) i_Search_countAnew [jo 7 zo0, ji zx1, ji zx2, ji 0] σ (fun zr20 zs19 => Q zr20 zs19) else Q 0 σ))) : TrI n i_Search_count [jo 7 zo0, ji zx1, ji zx2, ji zx3] σ Q := by
  refine Tr_of ax_Z_179 ?_
  show J n c_Search_count (some .int) 0 [some (jo 7 zo0), some (ji zx1), some (ji zx2), some (ji zx3), none, none] [] σ (qI Q)
  refine J_iload_n (pc' := 1) rfl rfl rfl ?_
  refine J_if (P := 0 < zx3) (t := 20) (f := 4) rfl rfl rfl jc_gt W (fun W => ?_) (fun W => ?_)
  · obtain ⟨zg1, W⟩ := W
    refine J_aload_no (pc' := 21) rfl rfl zg1 rfl ?_
    refine J_getO (G := 7000) (pc' := 24) rfl rfl (Nat.le_of_ble_eq_true rfl) rfl zg1 rfl ?_
    refine J_iload_n (pc' := 25) rfl rfl rfl ?_
    refine J_aload_no (pc' := 26) rfl rfl zg1 rfl ?_
    refine J_getO (G := 7008) (pc' := 29) rfl rfl (Nat.le_of_ble_eq_true rfl) rfl zg1 rfl ?_
    obtain ⟨zg2, W⟩ := W
    obtain ⟨zg3, W⟩ := W
    refine J_callV (as := [jo 9 (rs σ 7000 zo0), ji zx1, jo 0 (rs σ 7008 zo0)]) (rest := []) (pc' := 32) rfl rfl ax_Z_220 rfl rfl (Or.inr (Or.inr ⟨_, _, rfl, zg3⟩)) (Nat.le_of_ble_eq_true rfl) (Nat.le_of_ble_eq_true rfl) (Nat.le_of_ble_eq_true rfl) zg2 trivial trivial rfl W (fun zs4 W => ?_)
    refine J_aload_no (pc' := 33) rfl rfl zg1 rfl ?_
    refine J_getO (G := 7007) (pc' := 36) rfl rfl (Nat.le_of_ble_eq_true rfl) rfl zg1 rfl ?_
    refine J_aload_no (pc' := 37) rfl rfl zg1 rfl ?_
    refine J_getO (G := 7008) (pc' := 40) rfl rfl (Nat.le_of_ble_eq_true rfl) rfl zg1 rfl ?_
    refine J_iload_n (pc' := 41) rfl rfl rfl ?_
    obtain ⟨zg6, W⟩ := W
    refine J_callI (as := [jo 2 (rs zs4 7007 zo0), jo 0 (rs zs4 7008 zo0), ji zx3]) (rest := []) (pc' := 44) rfl rfl ax_Z_130 rfl rfl (Or.inr (Or.inr ⟨_, _, rfl, zg6⟩)) (Nat.le_of_ble_eq_true rfl) (Nat.le_of_ble_eq_true rfl) (Nat.le_of_ble_eq_true rfl) zg2 trivial trivial rfl W (fun zr8 zs7 W => ?_)
    refine J_istore (L' := [some (jo 7 zo0), some (ji zx1), some (ji zx2), some (ji zx3), some (ji zr8), none]) (pc' := 46) rfl (Nat.le_of_ble_eq_true rfl) rfl rfl ?_
    refine J_iload (pc' := 48) rfl rfl rfl ?_
    refine J_iconst (pc' := 49) rfl (i32_d rfl) rfl ?_
    refine J_icmp (P := zr8 = (-1)) (t := 55) (f := 52) rfl rfl rfl jc_eq W (fun W => ?_) (fun W => ?_)
    · refine J_aload_no (pc' := 56) rfl rfl zg1 rfl ?_
      refine J_iload_n (pc' := 57) rfl rfl rfl ?_
      refine J_iload_n (pc' := 58) rfl rfl rfl ?_
      refine J_iload_n (pc' := 59) rfl rfl rfl ?_
      refine J_weak (L' := [some (jo 7 zo0), some (ji zx1), none, some (ji zx3), none, none]) (And.intro rfl (And.intro rfl (And.intro rfl trivial))) ?_
      refine J_callI (as := [jo 7 zo0, ji zx1, ji zx2, ji zx3]) (rest := []) (pc' := 62) rfl rfl ax_Z_180 rfl rfl (Or.inr (Or.inr ⟨_, _, rfl, zg1⟩)) (Nat.le_of_ble_eq_true rfl) (Nat.le_of_ble_eq_true rfl) (Nat.le_of_ble_eq_true rfl) zg2 trivial trivial rfl W (fun zr10 zs9 W => ?_)
      refine J_istore (L' := [some (jo 7 zo0), some (ji zx1), none, some (ji zx3), none, some (ji zr10)]) (pc' := 64) rfl (Nat.le_of_ble_eq_true rfl) rfl rfl ?_
      refine J_aload_no (pc' := 65) rfl rfl zg1 rfl ?_
      refine J_getO (G := 7000) (pc' := 68) rfl rfl (Nat.le_of_ble_eq_true rfl) rfl zg1 rfl ?_
      refine J_iload_n (pc' := 69) rfl rfl rfl ?_
      refine J_aload_no (pc' := 70) rfl rfl zg1 rfl ?_
      refine J_getO (G := 7008) (pc' := 73) rfl rfl (Nat.le_of_ble_eq_true rfl) rfl zg1 rfl ?_
      obtain ⟨zg11, W⟩ := W
      refine J_weak (L' := [some (jo 7 zo0), none, none, some (ji zx3), none, some (ji zr10)]) (And.intro rfl (And.intro rfl (And.intro rfl trivial))) ?_
      refine J_callV (as := [jo 9 (rs zs9 7000 zo0), ji zx1, jo 0 (rs zs9 7008 zo0)]) (rest := []) (pc' := 76) rfl rfl ax_Z_220 rfl rfl (Or.inr (Or.inr ⟨_, _, rfl, zg11⟩)) (Nat.le_of_ble_eq_true rfl) (Nat.le_of_ble_eq_true rfl) (Nat.le_of_ble_eq_true rfl) zg2 trivial trivial rfl W (fun zs12 W => ?_)
      refine J_aload_no (pc' := 77) rfl rfl zg1 rfl ?_
      refine J_getO (G := 7007) (pc' := 80) rfl rfl (Nat.le_of_ble_eq_true rfl) rfl zg1 rfl ?_
      refine J_aload_no (pc' := 81) rfl rfl zg1 rfl ?_
      refine J_getO (G := 7008) (pc' := 84) rfl rfl (Nat.le_of_ble_eq_true rfl) rfl zg1 rfl ?_
      refine J_iload_n (pc' := 85) rfl rfl rfl ?_
      refine J_iload (pc' := 87) rfl rfl rfl ?_
      obtain ⟨zg14, W⟩ := W
      refine J_weak (L' := [none, none, none, none, none, some (ji zr10)]) (And.intro rfl trivial) ?_
      refine J_callV (as := [jo 2 (rs zs12 7007 zo0), jo 0 (rs zs12 7008 zo0), ji zx3, ji zr10]) (rest := []) (pc' := 90) rfl rfl ax_Z_131 rfl rfl (Or.inr (Or.inr ⟨_, _, rfl, zg14⟩)) (Nat.le_of_ble_eq_true rfl) (Nat.le_of_ble_eq_true rfl) (Nat.le_of_ble_eq_true rfl) zg2 trivial trivial rfl W (fun zs15 W => ?_)
      refine J_iload (pc' := 92) rfl rfl rfl ?_
      exact J_iret rfl rfl ⟨_, rfl, W⟩
    · refine J_iload (pc' := 54) rfl rfl rfl ?_
      exact J_iret rfl rfl ⟨_, rfl, W⟩
  · refine J_iload_n (pc' := 5) rfl rfl rfl ?_
    refine J_if (P := 0 ≤ zx3) (t := 12) (f := 8) rfl rfl rfl jc_ge W (fun W => ?_) (fun W => ?_)
    · obtain ⟨zg17, W⟩ := W
      refine J_aload_no (pc' := 13) rfl rfl zg17 rfl ?_
      refine J_iload_n (pc' := 14) rfl rfl rfl ?_
      refine J_iload_n (pc' := 15) rfl rfl rfl ?_
      refine J_iconst (pc' := 16) rfl (i32_d rfl) rfl ?_
      obtain ⟨zg18, W⟩ := W
      refine J_weak (L' := [none, none, none, none, none, none]) trivial ?_
      refine J_callI (as := [jo 7 zo0, ji zx1, ji zx2, ji 0]) (rest := []) (pc' := 19) rfl rfl ax_Z_180 rfl rfl (Or.inr (Or.inr ⟨_, _, rfl, zg17⟩)) (Nat.le_of_ble_eq_true rfl) (Nat.le_of_ble_eq_true rfl) (Nat.le_of_ble_eq_true rfl) zg18 trivial trivial rfl W (fun zr20 zs19 W => ?_)
      exact J_iret rfl rfl ⟨_, rfl, W⟩
    · refine J_iconst (pc' := 9) rfl (i32_d rfl) rfl ?_
      refine J_goto (pc' := 19) rfl rfl ?_
      exact J_iret rfl rfl ⟨_, rfl, W⟩
theorem wp_Search_countAnew {n : Nat} {σ : jS} {Q : Int → jS → Prop} {zo0 : Int} {zx1 : Int} {zx2 : Int} {zx3 : Int} (W : J n c_Search_countAnew (some .int) 6 [some (jo 7 zo0), some (ji zx1), some (ji zx2), some (ji zx3), some (jl 0), none, some (ji 0)] [] σ (qI Q)) : TrI n i_Search_countAnew [jo 7 zo0, ji zx1, ji zx2, ji zx3] σ Q := by
  refine Tr_of ax_Z_180 ?_
  show J n c_Search_countAnew (some .int) 0 [some (jo 7 zo0), some (ji zx1), some (ji zx2), some (ji zx3), none, none, none] [] σ (qI Q)
  refine J_lconst (m := 0) (pc' := 1) rfl rfl ⟨by decide, by decide⟩ rfl ?_
  refine J_lstore (L' := [some (jo 7 zo0), some (ji zx1), some (ji zx2), some (ji zx3), some (jl 0), none, none]) (pc' := 3) rfl (Nat.le_of_ble_eq_true rfl) rfl rfl ?_
  refine J_iconst (pc' := 4) rfl (i32_d rfl) rfl ?_
  refine J_istore (L' := [some (jo 7 zo0), some (ji zx1), some (ji zx2), some (ji zx3), some (jl 0), none, some (ji 0)]) (pc' := 6) rfl (Nat.le_of_ble_eq_true rfl) rfl rfl ?_
  exact W
theorem wp_Search_countAnew_6 {n : Nat} {σ : jS} {Q : Int → jS → Prop} {zo0 : Int} {zx1 : Int} {zx2 : Int} {zx3 : Int} {zx4 : Int} {zx6 : Int} (W : 0 ≤ zo0 ∧ 0 ≤ rs σ 7019 zo0 ∧ (if rs σ 10001 (rs σ 7019 zo0) ≤ zx6 then 1 ≤ n ∧ i32 (min zx4 1000000) ∧ Q (min zx4 1000000) σ else (if 0 ≤ lcm3 zx4 1000000 then 1 ≤ n ∧ i32 (min zx4 1000000) ∧ Q (min zx4 1000000) σ else 1 ≤ n ∧ TrI (n - 1) i_Top_isIn [ji zx2, ji zx6] σ (fun zr9 zs8 => (if zr9 = 0 then i32 (zx6 + 1) ∧ J n c_Search_countAnew (some .int) 6 [some (jo 7 zo0), some (ji zx1), some (ji zx2), some (ji zx3), some (jl zx4), none, some (ji (zx6 + 1))] [] zs8 (qI Q) else (if 0 < zx3 then TrL (n - 1) i_Search_countBy [jo 7 zo0, ji zx6, ji zx1, ji zx2, ji zx3] zs8 (fun zr12 zs11 => i64 (zx4 + zr12) ∧ i32 (zx6 + 1) ∧ J n c_Search_countAnew (some .int) 6 [some (jo 7 zo0), some (ji zx1), some (ji zx2), some (ji zx3), some (jl (zx4 + zr12)), none, some (ji (zx6 + 1))] [] zs11 (qI Q)) else 0 ≤ rs zs8 7019 zo0 ∧ TrI (n - 1) i_Text_needsOf [jo 10 (rs zs8 7019 zo0), ji zx6] zs8 (fun zr17 zs16 => (if ¬ zr17 = 0 then i32 (zx6 + 1) ∧ J n c_Search_countAnew (some .int) 6 [some (jo 7 zo0), some (ji zx1), some (ji zx2), some (ji zx3), some (jl zx4), none, some (ji (zx6 + 1))] [] zs16 (qI Q) else TrL (n - 1) i_Search_countBy [jo 7 zo0, ji zx6, ji zx1, ji zx2, ji zx3] zs16 (fun zr20 zs19 => i64 (zx4 + zr20) ∧ i32 (zx6 + 1) ∧ J n c_Search_countAnew (some .int) 6 [some (jo 7 zo0), some (ji zx1), some (ji zx2), some (ji zx3), some (jl (zx4 + zr20)), none, some (ji (zx6 + 1))] [] zs19 (qI Q)))))))))) : J n c_Search_countAnew (some .int) 6 [some (jo 7 zo0), some (ji zx1), some (ji zx2), some (ji zx3), some (jl zx4), none, some (ji zx6)] [] σ (qI Q) := by
  refine J_iload (pc' := 8) rfl rfl rfl ?_
  obtain ⟨zg1, W⟩ := W
  refine J_aload_no (pc' := 9) rfl rfl zg1 rfl ?_
  refine J_getO (G := 7019) (pc' := 12) rfl rfl (Nat.le_of_ble_eq_true rfl) rfl zg1 rfl ?_
  obtain ⟨zg2, W⟩ := W
  refine J_getI (G := 10001) (pc' := 15) rfl rfl (Nat.le_of_ble_eq_true rfl) rfl zg2 rfl ?_
  refine J_icmp (P := rs σ 10001 (rs σ 7019 zo0) ≤ zx6) (t := 72) (f := 18) rfl rfl rfl jc_ge W (fun W => ?_) (fun W => ?_)
  · refine J_lload (pc' := 74) rfl rfl rfl ?_
    refine J_ldc2 (pc' := 77) rfl ⟨by decide, by decide⟩ rfl ?_
    obtain ⟨zg3, W⟩ := W
    refine J_minl (pc' := 80) rfl zg3 (Nat.le_of_ble_eq_true rfl) rfl ?_
    obtain ⟨zg4, W⟩ := W
    refine J_l2i (pc' := 81) rfl zg4 rfl ?_
    exact J_iret rfl rfl ⟨_, rfl, W⟩
  · refine J_lload (pc' := 20) rfl rfl rfl ?_
    refine J_ldc2 (pc' := 23) rfl ⟨by decide, by decide⟩ rfl ?_
    refine J_lcmp (pc' := 24) rfl rfl ?_
    refine J_if (P := 0 ≤ lcm3 zx4 1000000) (t := 72) (f := 27) rfl rfl rfl jc_ge W (fun W => ?_) (fun W => ?_)
    · refine J_lload (pc' := 74) rfl rfl rfl ?_
      refine J_ldc2 (pc' := 77) rfl ⟨by decide, by decide⟩ rfl ?_
      obtain ⟨zg5, W⟩ := W
      refine J_minl (pc' := 80) rfl zg5 (Nat.le_of_ble_eq_true rfl) rfl ?_
      obtain ⟨zg6, W⟩ := W
      refine J_l2i (pc' := 81) rfl zg6 rfl ?_
      exact J_iret rfl rfl ⟨_, rfl, W⟩
    · refine J_iload_n (pc' := 28) rfl rfl rfl ?_
      refine J_iload (pc' := 30) rfl rfl rfl ?_
      obtain ⟨zg7, W⟩ := W
      refine J_callI (as := [ji zx2, ji zx6]) (rest := []) (pc' := 33) rfl rfl ax_Z_279 rfl rfl (Or.inr (Or.inl rfl)) (Nat.le_of_ble_eq_true rfl) (Nat.le_of_ble_eq_true rfl) (Nat.le_of_ble_eq_true rfl) zg7 trivial trivial rfl W (fun zr9 zs8 W => ?_)
      refine J_if (P := zr9 = 0) (t := 66) (f := 36) rfl rfl rfl jc_eq W (fun W => ?_) (fun W => ?_)
      · obtain ⟨zg10, W⟩ := W
        refine J_iinc (L' := [some (jo 7 zo0), some (ji zx1), some (ji zx2), some (ji zx3), some (jl zx4), none, some (ji (zx6 + 1))]) (pc' := 69) rfl rfl zg10 rfl rfl ?_
        refine J_goto (pc' := 6) rfl rfl ?_
        exact W
      · refine J_iload_n (pc' := 37) rfl rfl rfl ?_
        refine J_if (P := 0 < zx3) (t := 52) (f := 40) rfl rfl rfl jc_gt W (fun W => ?_) (fun W => ?_)
        · refine J_lload (pc' := 54) rfl rfl rfl ?_
          refine J_aload_no (pc' := 55) rfl rfl zg1 rfl ?_
          refine J_iload (pc' := 57) rfl rfl rfl ?_
          refine J_iload_n (pc' := 58) rfl rfl rfl ?_
          refine J_iload_n (pc' := 59) rfl rfl rfl ?_
          refine J_iload_n (pc' := 60) rfl rfl rfl ?_
          refine J_weak (L' := [some (jo 7 zo0), some (ji zx1), some (ji zx2), some (ji zx3), none, none, some (ji zx6)]) (And.intro rfl (And.intro rfl (And.intro rfl (And.intro rfl (And.intro rfl trivial))))) ?_
          refine J_callL (as := [jo 7 zo0, ji zx6, ji zx1, ji zx2, ji zx3]) (rest := [jl zx4]) (pc' := 63) rfl rfl ax_Z_181 rfl rfl (Or.inr (Or.inr ⟨_, _, rfl, zg1⟩)) (Nat.le_of_ble_eq_true rfl) (Nat.le_of_ble_eq_true rfl) (Nat.le_of_ble_eq_true rfl) zg7 trivial trivial rfl W (fun zr12 zs11 W => ?_)
          obtain ⟨zg13, W⟩ := W
          refine J_ladd (pc' := 64) rfl zg13 rfl ?_
          refine J_lstore (L' := [some (jo 7 zo0), some (ji zx1), some (ji zx2), some (ji zx3), some (jl (zx4 + zr12)), none, some (ji zx6)]) (pc' := 66) rfl (Nat.le_of_ble_eq_true rfl) rfl rfl ?_
          obtain ⟨zg14, W⟩ := W
          refine J_iinc (L' := [some (jo 7 zo0), some (ji zx1), some (ji zx2), some (ji zx3), some (jl (zx4 + zr12)), none, some (ji (zx6 + 1))]) (pc' := 69) rfl rfl zg14 rfl rfl ?_
          refine J_goto (pc' := 6) rfl rfl ?_
          exact W
        · refine J_aload_no (pc' := 41) rfl rfl zg1 rfl ?_
          refine J_getO (G := 7019) (pc' := 44) rfl rfl (Nat.le_of_ble_eq_true rfl) rfl zg1 rfl ?_
          refine J_iload (pc' := 46) rfl rfl rfl ?_
          obtain ⟨zg15, W⟩ := W
          refine J_callI (as := [jo 10 (rs zs8 7019 zo0), ji zx6]) (rest := []) (pc' := 49) rfl rfl ax_Z_231 rfl rfl (Or.inr (Or.inr ⟨_, _, rfl, zg15⟩)) (Nat.le_of_ble_eq_true rfl) (Nat.le_of_ble_eq_true rfl) (Nat.le_of_ble_eq_true rfl) zg7 trivial trivial rfl W (fun zr17 zs16 W => ?_)
          refine J_if (P := ¬ zr17 = 0) (t := 66) (f := 52) rfl rfl rfl jc_ne W (fun W => ?_) (fun W => ?_)
          · obtain ⟨zg18, W⟩ := W
            refine J_iinc (L' := [some (jo 7 zo0), some (ji zx1), some (ji zx2), some (ji zx3), some (jl zx4), none, some (ji (zx6 + 1))]) (pc' := 69) rfl rfl zg18 rfl rfl ?_
            refine J_goto (pc' := 6) rfl rfl ?_
            exact W
          · refine J_lload (pc' := 54) rfl rfl rfl ?_
            refine J_aload_no (pc' := 55) rfl rfl zg1 rfl ?_
            refine J_iload (pc' := 57) rfl rfl rfl ?_
            refine J_iload_n (pc' := 58) rfl rfl rfl ?_
            refine J_iload_n (pc' := 59) rfl rfl rfl ?_
            refine J_iload_n (pc' := 60) rfl rfl rfl ?_
            refine J_weak (L' := [some (jo 7 zo0), some (ji zx1), some (ji zx2), some (ji zx3), none, none, some (ji zx6)]) (And.intro rfl (And.intro rfl (And.intro rfl (And.intro rfl (And.intro rfl trivial))))) ?_
            refine J_callL (as := [jo 7 zo0, ji zx6, ji zx1, ji zx2, ji zx3]) (rest := [jl zx4]) (pc' := 63) rfl rfl ax_Z_181 rfl rfl (Or.inr (Or.inr ⟨_, _, rfl, zg1⟩)) (Nat.le_of_ble_eq_true rfl) (Nat.le_of_ble_eq_true rfl) (Nat.le_of_ble_eq_true rfl) zg7 trivial trivial rfl W (fun zr20 zs19 W => ?_)
            obtain ⟨zg21, W⟩ := W
            refine J_ladd (pc' := 64) rfl zg21 rfl ?_
            refine J_lstore (L' := [some (jo 7 zo0), some (ji zx1), some (ji zx2), some (ji zx3), some (jl (zx4 + zr20)), none, some (ji zx6)]) (pc' := 66) rfl (Nat.le_of_ble_eq_true rfl) rfl rfl ?_
            obtain ⟨zg22, W⟩ := W
            refine J_iinc (L' := [some (jo 7 zo0), some (ji zx1), some (ji zx2), some (ji zx3), some (jl (zx4 + zr20)), none, some (ji (zx6 + 1))]) (pc' := 69) rfl rfl zg22 rfl rfl ?_
            refine J_goto (pc' := 6) rfl rfl ?_
            exact W
theorem wp_Search_countBy {n : Nat} {σ : jS} {Q : Int → jS → Prop} {zo0 : Int} {zx1 : Int} {zx2 : Int} {zx3 : Int} {zx4 : Int} (W : 0 ≤ zo0 ∧ 0 ≤ rs σ 7000 zo0 ∧ 1 ≤ n ∧ TrI (n - 1) i_Search_buildGiven [jo 7 zo0, ji zx1, ji zx4] σ (fun zr5 zs4 => 0 ≤ rs σ 7000 zo0 ∧ TrI (n - 1) i_Terms_unify [jo 9 (rs σ 7000 zo0), ji zr5, ji zx2] zs4 (fun zr8 zs7 => (if zr8 = 0 then J n c_Search_countBy (some .long) 46 [some (jo 7 zo0), some (ji zx1), none, some (ji zx3), some (ji zx4), some (ji (rs σ 9001 (rs σ 7000 zo0))), some (ji (rs σ 9000 (rs σ 7000 zo0))), some (jl 0), none, some (ji 0), none, none] [] zs7 (qL Q) else J n c_Search_countBy (some .long) 46 [some (jo 7 zo0), some (ji zx1), none, some (ji zx3), some (ji zx4), some (ji (rs σ 9001 (rs σ 7000 zo0))), some (ji (rs σ 9000 (rs σ 7000 zo0))), some (jl 1), none, some (ji 0), none, none] [] zs7 (qL Q))))) : TrL n i_Search_countBy [jo 7 zo0, ji zx1, ji zx2, ji zx3, ji zx4] σ Q := by
  refine Tr_of ax_Z_181 ?_
  show J n c_Search_countBy (some .long) 0 [some (jo 7 zo0), some (ji zx1), some (ji zx2), some (ji zx3), some (ji zx4), none, none, none, none, none, none, none] [] σ (qL Q)
  obtain ⟨zg1, W⟩ := W
  refine J_aload_no (pc' := 1) rfl rfl zg1 rfl ?_
  refine J_getO (G := 7000) (pc' := 4) rfl rfl (Nat.le_of_ble_eq_true rfl) rfl zg1 rfl ?_
  obtain ⟨zg2, W⟩ := W
  refine J_getI (G := 9001) (pc' := 7) rfl rfl (Nat.le_of_ble_eq_true rfl) rfl zg2 rfl ?_
  refine J_istore (L' := [some (jo 7 zo0), some (ji zx1), some (ji zx2), some (ji zx3), some (ji zx4), some (ji (rs σ 9001 (rs σ 7000 zo0))), none, none, none, none, none, none]) (pc' := 9) rfl (Nat.le_of_ble_eq_true rfl) rfl rfl ?_
  refine J_aload_no (pc' := 10) rfl rfl zg1 rfl ?_
  refine J_getO (G := 7000) (pc' := 13) rfl rfl (Nat.le_of_ble_eq_true rfl) rfl zg1 rfl ?_
  refine J_getI (G := 9000) (pc' := 16) rfl rfl (Nat.le_of_ble_eq_true rfl) rfl zg2 rfl ?_
  refine J_istore (L' := [some (jo 7 zo0), some (ji zx1), some (ji zx2), some (ji zx3), some (ji zx4), some (ji (rs σ 9001 (rs σ 7000 zo0))), some (ji (rs σ 9000 (rs σ 7000 zo0))), none, none, none, none, none]) (pc' := 18) rfl (Nat.le_of_ble_eq_true rfl) rfl rfl ?_
  refine J_aload_no (pc' := 19) rfl rfl zg1 rfl ?_
  refine J_getO (G := 7000) (pc' := 22) rfl rfl (Nat.le_of_ble_eq_true rfl) rfl zg1 rfl ?_
  refine J_aload_no (pc' := 23) rfl rfl zg1 rfl ?_
  refine J_iload_n (pc' := 24) rfl rfl rfl ?_
  refine J_iload (pc' := 26) rfl rfl rfl ?_
  obtain ⟨zg3, W⟩ := W
  refine J_callI (as := [jo 7 zo0, ji zx1, ji zx4]) (rest := [jo 9 (rs σ 7000 zo0)]) (pc' := 29) rfl rfl ax_Z_173 rfl rfl (Or.inr (Or.inr ⟨_, _, rfl, zg1⟩)) (Nat.le_of_ble_eq_true rfl) (Nat.le_of_ble_eq_true rfl) (Nat.le_of_ble_eq_true rfl) zg3 trivial trivial rfl W (fun zr5 zs4 W => ?_)
  refine J_iload_n (pc' := 30) rfl rfl rfl ?_
  obtain ⟨zg6, W⟩ := W
  refine J_weak (L' := [some (jo 7 zo0), some (ji zx1), none, some (ji zx3), some (ji zx4), some (ji (rs σ 9001 (rs σ 7000 zo0))), some (ji (rs σ 9000 (rs σ 7000 zo0))), none, none, none, none, none]) (And.intro rfl (And.intro rfl (And.intro rfl (And.intro rfl (And.intro rfl (And.intro rfl trivial)))))) ?_
  refine J_callI (as := [jo 9 (rs σ 7000 zo0), ji zr5, ji zx2]) (rest := []) (pc' := 33) rfl rfl ax_Z_209 rfl rfl (Or.inr (Or.inr ⟨_, _, rfl, zg6⟩)) (Nat.le_of_ble_eq_true rfl) (Nat.le_of_ble_eq_true rfl) (Nat.le_of_ble_eq_true rfl) zg3 trivial trivial rfl W (fun zr8 zs7 W => ?_)
  refine J_if (P := zr8 = 0) (t := 40) (f := 36) rfl rfl rfl jc_eq W (fun W => ?_) (fun W => ?_)
  · refine J_lconst (m := 0) (pc' := 41) rfl rfl ⟨by decide, by decide⟩ rfl ?_
    refine J_lstore (L' := [some (jo 7 zo0), some (ji zx1), none, some (ji zx3), some (ji zx4), some (ji (rs σ 9001 (rs σ 7000 zo0))), some (ji (rs σ 9000 (rs σ 7000 zo0))), some (jl 0), none, none, none, none]) (pc' := 43) rfl (Nat.le_of_ble_eq_true rfl) rfl rfl ?_
    refine J_iconst (pc' := 44) rfl (i32_d rfl) rfl ?_
    refine J_istore (L' := [some (jo 7 zo0), some (ji zx1), none, some (ji zx3), some (ji zx4), some (ji (rs σ 9001 (rs σ 7000 zo0))), some (ji (rs σ 9000 (rs σ 7000 zo0))), some (jl 0), none, some (ji 0), none, none]) (pc' := 46) rfl (Nat.le_of_ble_eq_true rfl) rfl rfl ?_
    exact W
  · refine J_lconst (m := 1) (pc' := 37) rfl rfl ⟨by decide, by decide⟩ rfl ?_
    refine J_goto (pc' := 41) rfl rfl ?_
    refine J_lstore (L' := [some (jo 7 zo0), some (ji zx1), none, some (ji zx3), some (ji zx4), some (ji (rs σ 9001 (rs σ 7000 zo0))), some (ji (rs σ 9000 (rs σ 7000 zo0))), some (jl 1), none, none, none, none]) (pc' := 43) rfl (Nat.le_of_ble_eq_true rfl) rfl rfl ?_
    refine J_iconst (pc' := 44) rfl (i32_d rfl) rfl ?_
    refine J_istore (L' := [some (jo 7 zo0), some (ji zx1), none, some (ji zx3), some (ji zx4), some (ji (rs σ 9001 (rs σ 7000 zo0))), some (ji (rs σ 9000 (rs σ 7000 zo0))), some (jl 1), none, some (ji 0), none, none]) (pc' := 46) rfl (Nat.le_of_ble_eq_true rfl) rfl rfl ?_
    exact W
theorem wp_Search_countBy_46 {n : Nat} {σ : jS} {Q : Int → jS → Prop} {zo0 : Int} {zx1 : Int} {zx3 : Int} {zx4 : Int} {zx5 : Int} {zx6 : Int} {zx7 : Int} {zx9 : Int} (W : 0 ≤ zo0 ∧ 1 ≤ n ∧ 0 ≤ rs σ 7019 zo0 ∧ TrI (n - 1) i_Text_needsOf [jo 10 (rs σ 7019 zo0), ji zx1] σ (fun zr5 zs4 => (if zr5 ≤ zx9 then 0 ≤ rs zs4 7000 zo0 ∧ TrV (n - 1) i_Terms_back [jo 9 (rs zs4 7000 zo0), ji zx5, ji zx6] zs4 (fun zs7 => Q zx7 zs7) else (if lcm3 zx7 0 ≤ 0 then 0 ≤ rs zs4 7000 zo0 ∧ TrV (n - 1) i_Terms_back [jo 9 (rs zs4 7000 zo0), ji zx5, ji zx6] zs4 (fun zs10 => Q zx7 zs10) else 0 ≤ rl zs4 7012 zo0 ∧ i32 (zx4 * 4) ∧ i32 ((zx4 * 4) + zx9) ∧ 0 ≤ (zx4 * 4) + zx9 ∧ (zx4 * 4) + zx9 < rl zs4 7012 zo0 ∧ i32 (zx4 - 1) ∧ TrI (n - 1) i_Search_count [jo 7 zo0, ji (ra zs4 7012 zo0 ((zx4 * 4) + zx9)), ji zx3, ji (zx4 - 1)] zs4 (fun zr19 zs18 => i64 (zx7 * zr19) ∧ i32 (zx9 + 1) ∧ J n c_Search_countBy (some .long) 46 [some (jo 7 zo0), some (ji zx1), none, some (ji zx3), some (ji zx4), some (ji zx5), some (ji zx6), some (jl (min (zx7 * zr19) 1000000)), none, some (ji (zx9 + 1)), none, none] [] zs18 (qL Q)))))) : J n c_Search_countBy (some .long) 46 [some (jo 7 zo0), some (ji zx1), none, some (ji zx3), some (ji zx4), some (ji zx5), some (ji zx6), some (jl zx7), none, some (ji zx9), none, none] [] σ (qL Q) := by
  refine J_iload (pc' := 48) rfl rfl rfl ?_
  obtain ⟨zg1, W⟩ := W
  refine J_aload_no (pc' := 49) rfl rfl zg1 rfl ?_
  refine J_getO (G := 7019) (pc' := 52) rfl rfl (Nat.le_of_ble_eq_true rfl) rfl zg1 rfl ?_
  refine J_iload_n (pc' := 53) rfl rfl rfl ?_
  obtain ⟨zg2, W⟩ := W
  obtain ⟨zg3, W⟩ := W
  refine J_callI (as := [jo 10 (rs σ 7019 zo0), ji zx1]) (rest := [ji zx9]) (pc' := 56) rfl rfl ax_Z_231 rfl rfl (Or.inr (Or.inr ⟨_, _, rfl, zg3⟩)) (Nat.le_of_ble_eq_true rfl) (Nat.le_of_ble_eq_true rfl) (Nat.le_of_ble_eq_true rfl) zg2 trivial trivial rfl W (fun zr5 zs4 W => ?_)
  refine J_icmp (P := zr5 ≤ zx9) (t := 109) (f := 59) rfl rfl rfl jc_ge W (fun W => ?_) (fun W => ?_)
  · refine J_aload_no (pc' := 110) rfl rfl zg1 rfl ?_
    refine J_getO (G := 7000) (pc' := 113) rfl rfl (Nat.le_of_ble_eq_true rfl) rfl zg1 rfl ?_
    refine J_iload (pc' := 115) rfl rfl rfl ?_
    refine J_iload (pc' := 117) rfl rfl rfl ?_
    obtain ⟨zg6, W⟩ := W
    refine J_weak (L' := [none, none, none, none, none, none, none, some (jl zx7), none, none, none, none]) (And.intro rfl trivial) ?_
    refine J_callV (as := [jo 9 (rs zs4 7000 zo0), ji zx5, ji zx6]) (rest := []) (pc' := 120) rfl rfl ax_Z_217 rfl rfl (Or.inr (Or.inr ⟨_, _, rfl, zg6⟩)) (Nat.le_of_ble_eq_true rfl) (Nat.le_of_ble_eq_true rfl) (Nat.le_of_ble_eq_true rfl) zg2 trivial trivial rfl W (fun zs7 W => ?_)
    refine J_lload (pc' := 122) rfl rfl rfl ?_
    exact J_lret rfl rfl ⟨_, rfl, W⟩
  · refine J_lload (pc' := 61) rfl rfl rfl ?_
    refine J_lconst (m := 0) (pc' := 62) rfl rfl ⟨by decide, by decide⟩ rfl ?_
    refine J_lcmp (pc' := 63) rfl rfl ?_
    refine J_if (P := lcm3 zx7 0 ≤ 0) (t := 109) (f := 66) rfl rfl rfl jc_le W (fun W => ?_) (fun W => ?_)
    · refine J_aload_no (pc' := 110) rfl rfl zg1 rfl ?_
      refine J_getO (G := 7000) (pc' := 113) rfl rfl (Nat.le_of_ble_eq_true rfl) rfl zg1 rfl ?_
      refine J_iload (pc' := 115) rfl rfl rfl ?_
      refine J_iload (pc' := 117) rfl rfl rfl ?_
      obtain ⟨zg9, W⟩ := W
      refine J_weak (L' := [none, none, none, none, none, none, none, some (jl zx7), none, none, none, none]) (And.intro rfl trivial) ?_
      refine J_callV (as := [jo 9 (rs zs4 7000 zo0), ji zx5, ji zx6]) (rest := []) (pc' := 120) rfl rfl ax_Z_217 rfl rfl (Or.inr (Or.inr ⟨_, _, rfl, zg9⟩)) (Nat.le_of_ble_eq_true rfl) (Nat.le_of_ble_eq_true rfl) (Nat.le_of_ble_eq_true rfl) zg2 trivial trivial rfl W (fun zs10 W => ?_)
      refine J_lload (pc' := 122) rfl rfl rfl ?_
      exact J_lret rfl rfl ⟨_, rfl, W⟩
    · refine J_aload_no (pc' := 67) rfl rfl zg1 rfl ?_
      refine J_aload_no (pc' := 68) rfl rfl zg1 rfl ?_
      obtain ⟨zg12, W⟩ := W
      refine J_getA (G := 7012) (pc' := 71) rfl rfl (Nat.le_of_ble_eq_true rfl) rfl zg1 zg12 rfl ?_
      refine J_iload (pc' := 73) rfl rfl rfl ?_
      refine J_iconst (pc' := 74) rfl (i32_d rfl) rfl ?_
      obtain ⟨zg13, W⟩ := W
      refine J_imul (pc' := 75) rfl zg13 rfl ?_
      refine J_iload (pc' := 77) rfl rfl rfl ?_
      obtain ⟨zg14, W⟩ := W
      refine J_iadd (pc' := 78) rfl zg14 rfl ?_
      obtain ⟨zg15, W⟩ := W
      obtain ⟨zg16, W⟩ := W
      refine J_iald (pc' := 79) rfl rfl zg15 zg16 rfl ?_
      refine J_iload_n (pc' := 80) rfl rfl rfl ?_
      refine J_iload (pc' := 82) rfl rfl rfl ?_
      refine J_iconst (pc' := 83) rfl (i32_d rfl) rfl ?_
      obtain ⟨zg17, W⟩ := W
      refine J_isub (pc' := 84) rfl zg17 rfl ?_
      refine J_callI (as := [jo 7 zo0, ji (ra zs4 7012 zo0 ((zx4 * 4) + zx9)), ji zx3, ji (zx4 - 1)]) (rest := []) (pc' := 87) rfl rfl ax_Z_179 rfl rfl (Or.inr (Or.inr ⟨_, _, rfl, zg1⟩)) (Nat.le_of_ble_eq_true rfl) (Nat.le_of_ble_eq_true rfl) (Nat.le_of_ble_eq_true rfl) zg2 trivial trivial rfl W (fun zr19 zs18 W => ?_)
      refine J_i2l (pc' := 88) rfl rfl ?_
      refine J_lstore (L' := [some (jo 7 zo0), some (ji zx1), none, some (ji zx3), some (ji zx4), some (ji zx5), some (ji zx6), some (jl zx7), none, some (ji zx9), some (jl zr19), none]) (pc' := 90) rfl (Nat.le_of_ble_eq_true rfl) rfl rfl ?_
      refine J_lload (pc' := 92) rfl rfl rfl ?_
      refine J_lload (pc' := 94) rfl rfl rfl ?_
      obtain ⟨zg20, W⟩ := W
      refine J_lmul (pc' := 95) rfl zg20 rfl ?_
      refine J_ldc2 (pc' := 98) rfl ⟨by decide, by decide⟩ rfl ?_
      refine J_minl (pc' := 101) rfl zg2 (Nat.le_of_ble_eq_true rfl) rfl ?_
      refine J_lstore (L' := [some (jo 7 zo0), some (ji zx1), none, some (ji zx3), some (ji zx4), some (ji zx5), some (ji zx6), some (jl (min (zx7 * zr19) 1000000)), none, some (ji zx9), some (jl zr19), none]) (pc' := 103) rfl (Nat.le_of_ble_eq_true rfl) rfl rfl ?_
      obtain ⟨zg21, W⟩ := W
      refine J_iinc (L' := [some (jo 7 zo0), some (ji zx1), none, some (ji zx3), some (ji zx4), some (ji zx5), some (ji zx6), some (jl (min (zx7 * zr19) 1000000)), none, some (ji (zx9 + 1)), some (jl zr19), none]) (pc' := 106) rfl rfl zg21 rfl rfl ?_
      refine J_goto (pc' := 46) rfl rfl ?_
      refine J_weak (L' := [some (jo 7 zo0), some (ji zx1), none, some (ji zx3), some (ji zx4), some (ji zx5), some (ji zx6), some (jl (min (zx7 * zr19) 1000000)), none, some (ji (zx9 + 1)), none, none]) (And.intro rfl (And.intro rfl (And.intro rfl (And.intro rfl (And.intro rfl (And.intro rfl (And.intro rfl (And.intro rfl trivial)))))))) ?_
      exact W
theorem wp_Tape_init {n : Nat} {σ : jS} {Q : jS → Prop} {zo0 : Int} (W : 0 ≤ zo0 ∧ 1 ≤ n ∧ (∀ zs3, zs3 = nA σ 0 800 → rl zs3 8002 zo0 < 0 ∧ (∀ zs4, zs4 = mA zs3 0 8002 zo0 → (∀ zs6, zs6 = nA zs4 0 12 → rl zs6 8003 zo0 < 0 ∧ (∀ zs7, zs7 = mA zs6 0 8003 zo0 → Q zs7))))) : TrV n i_Tape_init [jo 8 zo0] σ Q := by
  refine Tr_of ax_Z_182 ?_
  show J n c_Tape_init none 0 [some (jo 8 zo0)] [] σ (qV Q)
  obtain ⟨zg1, W⟩ := W
  refine J_aload_no (pc' := 1) rfl rfl zg1 rfl ?_
  obtain ⟨zg2, W⟩ := W
  refine J_oinit (pc' := 4) rfl zg1 zg2 (Nat.le_of_ble_eq_true rfl) rfl ?_
  refine J_aload_no (pc' := 5) rfl rfl zg1 rfl ?_
  refine J_sipush (pc' := 8) rfl (by decide) (by decide) rfl ?_
  refine J_newa (pc' := 10) rfl (by decide) (by decide) (by decide) trivial trivial rfl (fun zs3 ezs3 => ?_)
  replace W := W zs3 ezs3
  obtain ⟨zg5, W⟩ := W
  refine J_putT (G := 8002) (t := 0) (pc' := 13) rfl rfl (Nat.le_of_ble_eq_true rfl) rfl rfl rfl zg1 (Or.inr zg5) trivial trivial trivial trivial rfl (fun zs4 ezs4 => ?_)
  replace W := W zs4 ezs4
  refine J_aload_no (pc' := 14) rfl rfl zg1 rfl ?_
  refine J_bipush (pc' := 16) rfl (by decide) (by decide) rfl ?_
  refine J_newa (pc' := 18) rfl (by decide) (by decide) (by decide) trivial trivial rfl (fun zs6 ezs6 => ?_)
  replace W := W zs6 ezs6
  obtain ⟨zg8, W⟩ := W
  refine J_putT (G := 8003) (t := 0) (pc' := 21) rfl rfl (Nat.le_of_ble_eq_true rfl) rfl rfl rfl zg1 (Or.inr zg8) trivial trivial trivial trivial rfl (fun zs7 ezs7 => ?_)
  replace W := W zs7 ezs7
  exact J_vret rfl rfl ⟨rfl, W⟩
theorem wp_Tape_addFour {n : Nat} {σ : jS} {Q : jS → Prop} {zo0 : Int} {zx1 : Int} (W : J n c_Tape_addFour none 3 [some (jo 8 zo0), some (ji zx1), some (ji 24)] [] σ (qV Q)) : TrV n i_Tape_addFour [jo 8 zo0, ji zx1] σ Q := by
  refine Tr_of ax_Z_183 ?_
  show J n c_Tape_addFour none 0 [some (jo 8 zo0), some (ji zx1), none] [] σ (qV Q)
  refine J_bipush (pc' := 2) rfl (by decide) (by decide) rfl ?_
  refine J_istore_n (L' := [some (jo 8 zo0), some (ji zx1), some (ji 24)]) (pc' := 3) rfl (Nat.le_of_ble_eq_true rfl) rfl rfl ?_
  exact W
theorem wp_Tape_addFour_3 {n : Nat} {σ : jS} {Q : jS → Prop} {zo0 : Int} {zx1 : Int} {zx2 : Int} (W : (if zx2 < 0 then Q σ else 0 ≤ zo0 ∧ (if 800 ≤ rs σ 8000 zo0 then i32 (zx2 + (-8)) ∧ J n c_Tape_addFour none 3 [some (jo 8 zo0), some (ji zx1), some (ji (zx2 + (-8)))] [] σ (qV Q) else 0 ≤ rl σ 8002 zo0 ∧ 0 ≤ rs σ 8000 zo0 ∧ rs σ 8000 zo0 < rl σ 8002 zo0 ∧ (∀ zs4, zs4 = wa σ 8002 zo0 (rs σ 8000 zo0) (bAnd (bUsh zx1 zx2) 255) → i32 ((rs zs4 8000 zo0) + 1) ∧ (∀ zs8, zs8 = ws zs4 8000 zo0 ((rs zs4 8000 zo0) + 1) → i32 (zx2 + (-8)) ∧ J n c_Tape_addFour none 3 [some (jo 8 zo0), some (ji zx1), some (ji (zx2 + (-8)))] [] zs8 (qV Q)))))) : J n c_Tape_addFour none 3 [some (jo 8 zo0), some (ji zx1), some (ji zx2)] [] σ (qV Q) := by
  refine J_iload_n (pc' := 4) rfl rfl rfl ?_
  refine J_if (P := zx2 < 0) (t := 49) (f := 7) rfl rfl rfl jc_lt W (fun W => ?_) (fun W => ?_)
  · exact J_vret rfl rfl ⟨rfl, W⟩
  · obtain ⟨zg1, W⟩ := W
    refine J_aload_no (pc' := 8) rfl rfl zg1 rfl ?_
    refine J_getI (G := 8000) (pc' := 11) rfl rfl (Nat.le_of_ble_eq_true rfl) rfl zg1 rfl ?_
    refine J_sipush (pc' := 14) rfl (by decide) (by decide) rfl ?_
    refine J_icmp (P := 800 ≤ rs σ 8000 zo0) (t := 43) (f := 17) rfl rfl rfl jc_ge W (fun W => ?_) (fun W => ?_)
    · obtain ⟨zg2, W⟩ := W
      refine J_iinc (L' := [some (jo 8 zo0), some (ji zx1), some (ji (zx2 + (-8)))]) (pc' := 46) rfl rfl zg2 rfl rfl ?_
      refine J_goto (pc' := 3) rfl rfl ?_
      exact W
    · refine J_aload_no (pc' := 18) rfl rfl zg1 rfl ?_
      obtain ⟨zg3, W⟩ := W
      refine J_getA (G := 8002) (pc' := 21) rfl rfl (Nat.le_of_ble_eq_true rfl) rfl zg1 zg3 rfl ?_
      refine J_aload_no (pc' := 22) rfl rfl zg1 rfl ?_
      refine J_getI (G := 8000) (pc' := 25) rfl rfl (Nat.le_of_ble_eq_true rfl) rfl zg1 rfl ?_
      refine J_iload_n (pc' := 26) rfl rfl rfl ?_
      refine J_iload_n (pc' := 27) rfl rfl rfl ?_
      refine J_iushr (pc' := 28) rfl rfl ?_
      refine J_sipush (pc' := 31) rfl (by decide) (by decide) rfl ?_
      refine J_iand (pc' := 32) rfl rfl ?_
      obtain ⟨zg5, W⟩ := W
      obtain ⟨zg6, W⟩ := W
      refine J_iast (pc' := 33) rfl rfl (by decide) zg5 zg6 rfl (fun zs4 ezs4 => ?_)
      replace W := W zs4 ezs4
      refine J_aload_no (pc' := 34) rfl rfl zg1 rfl ?_
      refine J_dup (pc' := 35) rfl rfl rfl ?_
      refine J_getI (G := 8000) (pc' := 38) rfl rfl (Nat.le_of_ble_eq_true rfl) rfl zg1 rfl ?_
      refine J_iconst (pc' := 39) rfl (i32_d rfl) rfl ?_
      obtain ⟨zg7, W⟩ := W
      refine J_iadd (pc' := 40) rfl zg7 rfl ?_
      refine J_putI (G := 8000) (pc' := 43) rfl rfl (Nat.le_of_ble_eq_true rfl) rfl rfl zg1 rfl (fun zs8 ezs8 => ?_)
      replace W := W zs8 ezs8
      obtain ⟨zg9, W⟩ := W
      refine J_iinc (L' := [some (jo 8 zo0), some (ji zx1), some (ji (zx2 + (-8)))]) (pc' := 46) rfl rfl zg9 rfl rfl ?_
      refine J_goto (pc' := 3) rfl rfl ?_
      exact W
theorem wp_Tape_next {n : Nat} {σ : jS} {Q : Int → jS → Prop} {zo0 : Int} (W : 0 ≤ zo0 ∧ (if rs σ 8001 zo0 < 0 then Q (-1) σ else (if rs σ 8000 zo0 ≤ rs σ 8001 zo0 then Q (-1) σ else (if 800 ≤ rs σ 8001 zo0 then Q (-1) σ else 0 ≤ rl σ 8002 zo0 ∧ 0 ≤ rs σ 8001 zo0 ∧ rs σ 8001 zo0 < rl σ 8002 zo0 ∧ Q (ra σ 8002 zo0 (rs σ 8001 zo0)) σ)))) : TrI n i_Tape_next [jo 8 zo0] σ Q := by
  refine Tr_of ax_Z_184 ?_
  show J n c_Tape_next (some .int) 0 [some (jo 8 zo0)] [] σ (qI Q)
  obtain ⟨zg1, W⟩ := W
  refine J_aload_no (pc' := 1) rfl rfl zg1 rfl ?_
  refine J_getI (G := 8001) (pc' := 4) rfl rfl (Nat.le_of_ble_eq_true rfl) rfl zg1 rfl ?_
  refine J_if (P := rs σ 8001 zo0 < 0) (t := 40) (f := 7) rfl rfl rfl jc_lt W (fun W => ?_) (fun W => ?_)
  · refine J_iconst (pc' := 41) rfl (i32_d rfl) rfl ?_
    exact J_iret rfl rfl ⟨_, rfl, W⟩
  · refine J_aload_no (pc' := 8) rfl rfl zg1 rfl ?_
    refine J_getI (G := 8001) (pc' := 11) rfl rfl (Nat.le_of_ble_eq_true rfl) rfl zg1 rfl ?_
    refine J_aload_no (pc' := 12) rfl rfl zg1 rfl ?_
    refine J_getI (G := 8000) (pc' := 15) rfl rfl (Nat.le_of_ble_eq_true rfl) rfl zg1 rfl ?_
    refine J_icmp (P := rs σ 8000 zo0 ≤ rs σ 8001 zo0) (t := 40) (f := 18) rfl rfl rfl jc_ge W (fun W => ?_) (fun W => ?_)
    · refine J_iconst (pc' := 41) rfl (i32_d rfl) rfl ?_
      exact J_iret rfl rfl ⟨_, rfl, W⟩
    · refine J_aload_no (pc' := 19) rfl rfl zg1 rfl ?_
      refine J_getI (G := 8001) (pc' := 22) rfl rfl (Nat.le_of_ble_eq_true rfl) rfl zg1 rfl ?_
      refine J_sipush (pc' := 25) rfl (by decide) (by decide) rfl ?_
      refine J_icmp (P := 800 ≤ rs σ 8001 zo0) (t := 40) (f := 28) rfl rfl rfl jc_ge W (fun W => ?_) (fun W => ?_)
      · refine J_iconst (pc' := 41) rfl (i32_d rfl) rfl ?_
        exact J_iret rfl rfl ⟨_, rfl, W⟩
      · refine J_aload_no (pc' := 29) rfl rfl zg1 rfl ?_
        obtain ⟨zg2, W⟩ := W
        refine J_getA (G := 8002) (pc' := 32) rfl rfl (Nat.le_of_ble_eq_true rfl) rfl zg1 zg2 rfl ?_
        refine J_aload_no (pc' := 33) rfl rfl zg1 rfl ?_
        refine J_getI (G := 8001) (pc' := 36) rfl rfl (Nat.le_of_ble_eq_true rfl) rfl zg1 rfl ?_
        obtain ⟨zg3, W⟩ := W
        obtain ⟨zg4, W⟩ := W
        refine J_iald (pc' := 37) rfl rfl zg3 zg4 rfl ?_
        refine J_goto (pc' := 41) rfl rfl ?_
        exact J_iret rfl rfl ⟨_, rfl, W⟩
theorem wp_Tape_isNext {n : Nat} {σ : jS} {Q : Int → jS → Prop} {zo0 : Int} {zx1 : Int} (W : 0 ≤ zo0 ∧ 1 ≤ n ∧ TrI (n - 1) i_Tape_next [jo 8 zo0] σ (fun zr4 zs3 => (if ¬ zr4 = zx1 then Q 0 zs3 else Q 1 zs3))) : TrI n i_Tape_isNext [jo 8 zo0, ji zx1] σ Q := by
  refine Tr_of ax_Z_185 ?_
  show J n c_Tape_isNext (some .boolean) 0 [some (jo 8 zo0), some (ji zx1)] [] σ (qI Q)
  obtain ⟨zg1, W⟩ := W
  refine J_aload_no (pc' := 1) rfl rfl zg1 rfl ?_
  obtain ⟨zg2, W⟩ := W
  refine J_weak (L' := [none, some (ji zx1)]) (And.intro rfl trivial) ?_
  refine J_callI (as := [jo 8 zo0]) (rest := []) (pc' := 4) rfl rfl ax_Z_184 rfl rfl (Or.inr (Or.inr ⟨_, _, rfl, zg1⟩)) (Nat.le_of_ble_eq_true rfl) (Nat.le_of_ble_eq_true rfl) (Nat.le_of_ble_eq_true rfl) zg2 trivial trivial rfl W (fun zr4 zs3 W => ?_)
  refine J_iload_n (pc' := 5) rfl rfl rfl ?_
  refine J_icmp (P := ¬ zr4 = zx1) (t := 12) (f := 8) rfl rfl rfl jc_ne W (fun W => ?_) (fun W => ?_)
  · refine J_iconst (pc' := 13) rfl (i32_d rfl) rfl ?_
    exact J_zret rfl rfl (Or.inl rfl) ⟨_, rfl, W⟩
  · refine J_iconst (pc' := 9) rfl (i32_d rfl) rfl ?_
    refine J_goto (pc' := 13) rfl rfl ?_
    exact J_zret rfl rfl (Or.inr rfl) ⟨_, rfl, W⟩
theorem wp_Tape_passed {n : Nat} {σ : jS} {Q : Int → jS → Prop} {zo0 : Int} {zx1 : Int} (W : 0 ≤ zo0 ∧ 1 ≤ n ∧ TrI (n - 1) i_Tape_isNext [jo 8 zo0, ji zx1] σ (fun zr4 zs3 => (if ¬ zr4 = 0 then i32 ((rs zs3 8001 zo0) + 1) ∧ (∀ zs6, zs6 = ws zs3 8001 zo0 ((rs zs3 8001 zo0) + 1) → Q 1 zs6) else Q 0 zs3))) : TrI n i_Tape_passed [jo 8 zo0, ji zx1] σ Q := by
  refine Tr_of ax_Z_186 ?_
  show J n c_Tape_passed (some .boolean) 0 [some (jo 8 zo0), some (ji zx1)] [] σ (qI Q)
  obtain ⟨zg1, W⟩ := W
  refine J_aload_no (pc' := 1) rfl rfl zg1 rfl ?_
  refine J_iload_n (pc' := 2) rfl rfl rfl ?_
  obtain ⟨zg2, W⟩ := W
  refine J_weak (L' := [some (jo 8 zo0), none]) (And.intro rfl trivial) ?_
  refine J_callI (as := [jo 8 zo0, ji zx1]) (rest := []) (pc' := 5) rfl rfl ax_Z_185 rfl rfl (Or.inr (Or.inr ⟨_, _, rfl, zg1⟩)) (Nat.le_of_ble_eq_true rfl) (Nat.le_of_ble_eq_true rfl) (Nat.le_of_ble_eq_true rfl) zg2 trivial trivial rfl W (fun zr4 zs3 W => ?_)
  refine J_if (P := ¬ zr4 = 0) (t := 10) (f := 8) rfl rfl rfl jc_ne W (fun W => ?_) (fun W => ?_)
  · refine J_aload_no (pc' := 11) rfl rfl zg1 rfl ?_
    refine J_dup (pc' := 12) rfl rfl rfl ?_
    refine J_getI (G := 8001) (pc' := 15) rfl rfl (Nat.le_of_ble_eq_true rfl) rfl zg1 rfl ?_
    refine J_iconst (pc' := 16) rfl (i32_d rfl) rfl ?_
    obtain ⟨zg5, W⟩ := W
    refine J_iadd (pc' := 17) rfl zg5 rfl ?_
    refine J_putI (G := 8001) (pc' := 20) rfl rfl (Nat.le_of_ble_eq_true rfl) rfl rfl zg1 rfl (fun zs6 ezs6 => ?_)
    replace W := W zs6 ezs6
    refine J_iconst (pc' := 21) rfl (i32_d rfl) rfl ?_
    exact J_zret rfl rfl (Or.inr rfl) ⟨_, rfl, W⟩
  · refine J_iconst (pc' := 9) rfl (i32_d rfl) rfl ?_
    exact J_zret rfl rfl (Or.inl rfl) ⟨_, rfl, W⟩
theorem wp_Tape_isConNext {n : Nat} {σ : jS} {Q : Int → jS → Prop} {zo0 : Int} (W : 0 ≤ zo0 ∧ 1 ≤ n ∧ TrI (n - 1) i_Tape_next [jo 8 zo0] σ (fun zr4 zs3 => (if zr4 < 65 then Q 0 zs3 else TrI (n - 1) i_Tape_next [jo 8 zo0] zs3 (fun zr6 zs5 => (if 90 < zr6 then Q 0 zs5 else Q 1 zs5))))) : TrI n i_Tape_isConNext [jo 8 zo0] σ Q := by
  refine Tr_of ax_Z_187 ?_
  show J n c_Tape_isConNext (some .boolean) 0 [some (jo 8 zo0)] [] σ (qI Q)
  obtain ⟨zg1, W⟩ := W
  refine J_aload_no (pc' := 1) rfl rfl zg1 rfl ?_
  obtain ⟨zg2, W⟩ := W
  refine J_callI (as := [jo 8 zo0]) (rest := []) (pc' := 4) rfl rfl ax_Z_184 rfl rfl (Or.inr (Or.inr ⟨_, _, rfl, zg1⟩)) (Nat.le_of_ble_eq_true rfl) (Nat.le_of_ble_eq_true rfl) (Nat.le_of_ble_eq_true rfl) zg2 trivial trivial rfl W (fun zr4 zs3 W => ?_)
  refine J_bipush (pc' := 6) rfl (by decide) (by decide) rfl ?_
  refine J_icmp (P := zr4 < 65) (t := 22) (f := 9) rfl rfl rfl jc_lt W (fun W => ?_) (fun W => ?_)
  · refine J_iconst (pc' := 23) rfl (i32_d rfl) rfl ?_
    exact J_zret rfl rfl (Or.inl rfl) ⟨_, rfl, W⟩
  · refine J_aload_no (pc' := 10) rfl rfl zg1 rfl ?_
    refine J_weak (L' := [none]) trivial ?_
    refine J_callI (as := [jo 8 zo0]) (rest := []) (pc' := 13) rfl rfl ax_Z_184 rfl rfl (Or.inr (Or.inr ⟨_, _, rfl, zg1⟩)) (Nat.le_of_ble_eq_true rfl) (Nat.le_of_ble_eq_true rfl) (Nat.le_of_ble_eq_true rfl) zg2 trivial trivial rfl W (fun zr6 zs5 W => ?_)
    refine J_bipush (pc' := 15) rfl (by decide) (by decide) rfl ?_
    refine J_icmp (P := 90 < zr6) (t := 22) (f := 18) rfl rfl rfl jc_gt W (fun W => ?_) (fun W => ?_)
    · refine J_iconst (pc' := 23) rfl (i32_d rfl) rfl ?_
      exact J_zret rfl rfl (Or.inl rfl) ⟨_, rfl, W⟩
    · refine J_iconst (pc' := 19) rfl (i32_d rfl) rfl ?_
      refine J_goto (pc' := 23) rfl rfl ?_
      exact J_zret rfl rfl (Or.inr rfl) ⟨_, rfl, W⟩
theorem wp_Tape_isVarNext {n : Nat} {σ : jS} {Q : Int → jS → Prop} {zo0 : Int} (W : 0 ≤ zo0 ∧ 1 ≤ n ∧ TrI (n - 1) i_Tape_next [jo 8 zo0] σ (fun zr4 zs3 => (if zr4 < 97 then Q 0 zs3 else TrI (n - 1) i_Tape_next [jo 8 zo0] zs3 (fun zr6 zs5 => (if 122 < zr6 then Q 0 zs5 else Q 1 zs5))))) : TrI n i_Tape_isVarNext [jo 8 zo0] σ Q := by
  refine Tr_of ax_Z_188 ?_
  show J n c_Tape_isVarNext (some .boolean) 0 [some (jo 8 zo0)] [] σ (qI Q)
  obtain ⟨zg1, W⟩ := W
  refine J_aload_no (pc' := 1) rfl rfl zg1 rfl ?_
  obtain ⟨zg2, W⟩ := W
  refine J_callI (as := [jo 8 zo0]) (rest := []) (pc' := 4) rfl rfl ax_Z_184 rfl rfl (Or.inr (Or.inr ⟨_, _, rfl, zg1⟩)) (Nat.le_of_ble_eq_true rfl) (Nat.le_of_ble_eq_true rfl) (Nat.le_of_ble_eq_true rfl) zg2 trivial trivial rfl W (fun zr4 zs3 W => ?_)
  refine J_bipush (pc' := 6) rfl (by decide) (by decide) rfl ?_
  refine J_icmp (P := zr4 < 97) (t := 22) (f := 9) rfl rfl rfl jc_lt W (fun W => ?_) (fun W => ?_)
  · refine J_iconst (pc' := 23) rfl (i32_d rfl) rfl ?_
    exact J_zret rfl rfl (Or.inl rfl) ⟨_, rfl, W⟩
  · refine J_aload_no (pc' := 10) rfl rfl zg1 rfl ?_
    refine J_weak (L' := [none]) trivial ?_
    refine J_callI (as := [jo 8 zo0]) (rest := []) (pc' := 13) rfl rfl ax_Z_184 rfl rfl (Or.inr (Or.inr ⟨_, _, rfl, zg1⟩)) (Nat.le_of_ble_eq_true rfl) (Nat.le_of_ble_eq_true rfl) (Nat.le_of_ble_eq_true rfl) zg2 trivial trivial rfl W (fun zr6 zs5 W => ?_)
    refine J_bipush (pc' := 15) rfl (by decide) (by decide) rfl ?_
    refine J_icmp (P := 122 < zr6) (t := 22) (f := 18) rfl rfl rfl jc_gt W (fun W => ?_) (fun W => ?_)
    · refine J_iconst (pc' := 23) rfl (i32_d rfl) rfl ?_
      exact J_zret rfl rfl (Or.inl rfl) ⟨_, rfl, W⟩
    · refine J_iconst (pc' := 19) rfl (i32_d rfl) rfl ?_
      refine J_goto (pc' := 23) rfl rfl ?_
      exact J_zret rfl rfl (Or.inr rfl) ⟨_, rfl, W⟩
theorem wp_Tape_readWhole {n : Nat} {σ : jS} {Q : Int → jS → Prop} {zo0 : Int} {zo1 : Int} (W : 0 ≤ zo0 ∧ (∀ zs2, zs2 = ws σ 8001 zo0 0 → 0 ≤ zo1 ∧ 1 ≤ n ∧ TrI (n - 1) i_Tape_readOne [jo 8 zo0, jo 0 zo1] zs2 (fun zr6 zs5 => (if zr6 = 0 then Q 0 zs5 else (if ¬ rs zs5 8001 zo0 = rs zs5 8000 zo0 then Q 0 zs5 else Q 1 zs5))))) : TrI n i_Tape_readWhole [jo 8 zo0, jo 0 zo1] σ Q := by
  refine Tr_of ax_Z_189 ?_
  show J n c_Tape_readWhole (some .boolean) 0 [some (jo 8 zo0), some (jo 0 zo1)] [] σ (qI Q)
  obtain ⟨zg1, W⟩ := W
  refine J_aload_no (pc' := 1) rfl rfl zg1 rfl ?_
  refine J_iconst (pc' := 2) rfl (i32_d rfl) rfl ?_
  refine J_putI (G := 8001) (pc' := 5) rfl rfl (Nat.le_of_ble_eq_true rfl) rfl rfl zg1 rfl (fun zs2 ezs2 => ?_)
  replace W := W zs2 ezs2
  refine J_aload_no (pc' := 6) rfl rfl zg1 rfl ?_
  obtain ⟨zg3, W⟩ := W
  refine J_aload_no (pc' := 7) rfl rfl zg3 rfl ?_
  obtain ⟨zg4, W⟩ := W
  refine J_weak (L' := [some (jo 8 zo0), none]) (And.intro rfl trivial) ?_
  refine J_callI (as := [jo 8 zo0, jo 0 zo1]) (rest := []) (pc' := 10) rfl rfl ax_Z_190 rfl rfl (Or.inr (Or.inr ⟨_, _, rfl, zg1⟩)) (Nat.le_of_ble_eq_true rfl) (Nat.le_of_ble_eq_true rfl) (Nat.le_of_ble_eq_true rfl) zg4 trivial trivial rfl W (fun zr6 zs5 W => ?_)
  refine J_if (P := zr6 = 0) (t := 28) (f := 13) rfl rfl rfl jc_eq W (fun W => ?_) (fun W => ?_)
  · refine J_iconst (pc' := 29) rfl (i32_d rfl) rfl ?_
    exact J_zret rfl rfl (Or.inl rfl) ⟨_, rfl, W⟩
  · refine J_aload_no (pc' := 14) rfl rfl zg1 rfl ?_
    refine J_getI (G := 8001) (pc' := 17) rfl rfl (Nat.le_of_ble_eq_true rfl) rfl zg1 rfl ?_
    refine J_aload_no (pc' := 18) rfl rfl zg1 rfl ?_
    refine J_getI (G := 8000) (pc' := 21) rfl rfl (Nat.le_of_ble_eq_true rfl) rfl zg1 rfl ?_
    refine J_icmp (P := ¬ rs zs5 8001 zo0 = rs zs5 8000 zo0) (t := 28) (f := 24) rfl rfl rfl jc_ne W (fun W => ?_) (fun W => ?_)
    · refine J_iconst (pc' := 29) rfl (i32_d rfl) rfl ?_
      exact J_zret rfl rfl (Or.inl rfl) ⟨_, rfl, W⟩
    · refine J_iconst (pc' := 25) rfl (i32_d rfl) rfl ?_
      refine J_goto (pc' := 29) rfl rfl ?_
      exact J_zret rfl rfl (Or.inr rfl) ⟨_, rfl, W⟩
theorem wp_Tape_readOne {n : Nat} {σ : jS} {Q : Int → jS → Prop} {zo0 : Int} {zo1 : Int} (W : 0 ≤ zo1 ∧ 1 ≤ n ∧ TrV (n - 1) i_Flat_clear [jo 0 zo1] σ (fun zs3 => J n c_Tape_readOne (some .boolean) 8 [some (jo 8 zo0), some (jo 0 zo1), some (ji 0), some (ji 0), none] [] zs3 (qI Q))) : TrI n i_Tape_readOne [jo 8 zo0, jo 0 zo1] σ Q := by
  refine Tr_of ax_Z_190 ?_
  show J n c_Tape_readOne (some .boolean) 0 [some (jo 8 zo0), some (jo 0 zo1), none, none, none] [] σ (qI Q)
  obtain ⟨zg1, W⟩ := W
  refine J_aload_no (pc' := 1) rfl rfl zg1 rfl ?_
  obtain ⟨zg2, W⟩ := W
  refine J_callV (as := [jo 0 zo1]) (rest := []) (pc' := 4) rfl rfl ax_Z_115 rfl rfl (Or.inr (Or.inr ⟨_, _, rfl, zg1⟩)) (Nat.le_of_ble_eq_true rfl) (Nat.le_of_ble_eq_true rfl) (Nat.le_of_ble_eq_true rfl) zg2 trivial trivial rfl W (fun zs3 W => ?_)
  refine J_iconst (pc' := 5) rfl (i32_d rfl) rfl ?_
  refine J_istore_n (L' := [some (jo 8 zo0), some (jo 0 zo1), some (ji 0), none, none]) (pc' := 6) rfl (Nat.le_of_ble_eq_true rfl) rfl rfl ?_
  refine J_iconst (pc' := 7) rfl (i32_d rfl) rfl ?_
  refine J_istore_n (L' := [some (jo 8 zo0), some (jo 0 zo1), some (ji 0), some (ji 0), none]) (pc' := 8) rfl (Nat.le_of_ble_eq_true rfl) rfl rfl ?_
  exact W
theorem wp_Tape_readOne_8 {n : Nat} {σ : jS} {Q : Int → jS → Prop} {zo0 : Int} {zo1 : Int} {zx2 : Int} {zx3 : Int} (W : (if 12 ≤ zx3 then Q 0 σ else 0 ≤ zo0 ∧ 1 ≤ n ∧ TrI (n - 1) i_Tape_isConNext [jo 8 zo0] σ (fun zr4 zs3 => (if ¬ zr4 = 0 then J n c_Tape_readOne (some .boolean) 30 [some (jo 8 zo0), some (jo 0 zo1), some (ji zx2), some (ji zx3), none] [] zs3 (qI Q) else TrI (n - 1) i_Tape_isVarNext [jo 8 zo0] zs3 (fun zr6 zs5 => (if ¬ zr6 = 0 then J n c_Tape_readOne (some .boolean) 30 [some (jo 8 zo0), some (jo 0 zo1), some (ji zx2), some (ji zx3), none] [] zs5 (qI Q) else Q 0 zs5)))))) : J n c_Tape_readOne (some .boolean) 8 [some (jo 8 zo0), some (jo 0 zo1), some (ji zx2), some (ji zx3), none] [] σ (qI Q) := by
  refine J_iload_n (pc' := 9) rfl rfl rfl ?_
  refine J_bipush (pc' := 11) rfl (by decide) (by decide) rfl ?_
  refine J_icmp (P := 12 ≤ zx3) (t := 153) (f := 14) rfl rfl rfl jc_ge W (fun W => ?_) (fun W => ?_)
  · refine J_iconst (pc' := 154) rfl (i32_d rfl) rfl ?_
    exact J_zret rfl rfl (Or.inl rfl) ⟨_, rfl, W⟩
  · obtain ⟨zg1, W⟩ := W
    refine J_aload_no (pc' := 15) rfl rfl zg1 rfl ?_
    obtain ⟨zg2, W⟩ := W
    refine J_callI (as := [jo 8 zo0]) (rest := []) (pc' := 18) rfl rfl ax_Z_187 rfl rfl (Or.inr (Or.inr ⟨_, _, rfl, zg1⟩)) (Nat.le_of_ble_eq_true rfl) (Nat.le_of_ble_eq_true rfl) (Nat.le_of_ble_eq_true rfl) zg2 trivial trivial rfl W (fun zr4 zs3 W => ?_)
    refine J_if (P := ¬ zr4 = 0) (t := 30) (f := 21) rfl rfl rfl jc_ne W (fun W => ?_) (fun W => ?_)
    · exact W
    · refine J_aload_no (pc' := 22) rfl rfl zg1 rfl ?_
      refine J_callI (as := [jo 8 zo0]) (rest := []) (pc' := 25) rfl rfl ax_Z_188 rfl rfl (Or.inr (Or.inr ⟨_, _, rfl, zg1⟩)) (Nat.le_of_ble_eq_true rfl) (Nat.le_of_ble_eq_true rfl) (Nat.le_of_ble_eq_true rfl) zg2 trivial trivial rfl W (fun zr6 zs5 W => ?_)
      refine J_if (P := ¬ zr6 = 0) (t := 30) (f := 28) rfl rfl rfl jc_ne W (fun W => ?_) (fun W => ?_)
      · exact W
      · refine J_iconst (pc' := 29) rfl (i32_d rfl) rfl ?_
        exact J_zret rfl rfl (Or.inl rfl) ⟨_, rfl, W⟩
theorem wp_Tape_readOne_30 {n : Nat} {σ : jS} {Q : Int → jS → Prop} {zo0 : Int} {zo1 : Int} {zx2 : Int} {zx3 : Int} (W : 0 ≤ zo1 ∧ 0 ≤ zo0 ∧ 1 ≤ n ∧ TrI (n - 1) i_Tape_isConNext [jo 8 zo0] σ (fun zr5 zs4 => (if zr5 = 0 then TrI (n - 1) i_Tape_next [jo 8 zo0] zs4 (fun zr7 zs6 => i32 (104 + zr7) ∧ i32 ((104 + zr7) - 97) ∧ TrV (n - 1) i_Flat_add [jo 0 zo1, ji ((104 + zr7) - 97)] zs6 (fun zs10 => TrI (n - 1) i_Tape_isConNext [jo 8 zo0] zs10 (fun zr13 zs12 => i32 ((rs zs12 8001 zo0) + 1) ∧ (∀ zs15, zs15 = ws zs12 8001 zo0 ((rs zs12 8001 zo0) + 1) → (if zr13 = 0 then TrI (n - 1) i_Tape_close [jo 8 zo0, ji zx2] zs15 (fun zr17 zs16 => J n c_Tape_readOne (some .boolean) 123 [some (jo 8 zo0), some (jo 0 zo1), some (ji zr17), some (ji zx3), none] [] zs16 (qI Q)) else TrI (n - 1) i_Tape_isNext [jo 8 zo0, ji 40] zs15 (fun zr19 zs18 => (if zr19 = 0 then TrI (n - 1) i_Tape_close [jo 8 zo0, ji zx2] zs18 (fun zr21 zs20 => J n c_Tape_readOne (some .boolean) 123 [some (jo 8 zo0), some (jo 0 zo1), some (ji zr21), some (ji zx3), none] [] zs20 (qI Q)) else (if 12 ≤ zx2 then TrI (n - 1) i_Tape_close [jo 8 zo0, ji zx2] zs18 (fun zr23 zs22 => J n c_Tape_readOne (some .boolean) 123 [some (jo 8 zo0), some (jo 0 zo1), some (ji zr23), some (ji zx3), none] [] zs22 (qI Q)) else 0 ≤ rl zs18 8003 zo0 ∧ i32 ((rs zs18 1 zo1) - 1) ∧ 0 ≤ zx2 ∧ zx2 < rl zs18 8003 zo0 ∧ (∀ zs26, zs26 = wa zs18 8003 zo0 zx2 ((rs zs18 1 zo1) - 1) → i32 (zx2 + 1) ∧ J n c_Tape_readOne (some .boolean) 123 [some (jo 8 zo0), some (jo 0 zo1), some (ji (zx2 + 1)), some (ji zx3), none] [] zs26 (qI Q)))))))))) else TrI (n - 1) i_Tape_next [jo 8 zo0] zs4 (fun zr31 zs30 => i32 (zr31 - 65) ∧ i32 ((zr31 - 65) * 4) ∧ TrV (n - 1) i_Flat_add [jo 0 zo1, ji ((zr31 - 65) * 4)] zs30 (fun zs34 => TrI (n - 1) i_Tape_isConNext [jo 8 zo0] zs34 (fun zr37 zs36 => i32 ((rs zs36 8001 zo0) + 1) ∧ (∀ zs39, zs39 = ws zs36 8001 zo0 ((rs zs36 8001 zo0) + 1) → (if zr37 = 0 then TrI (n - 1) i_Tape_close [jo 8 zo0, ji zx2] zs39 (fun zr41 zs40 => J n c_Tape_readOne (some .boolean) 123 [some (jo 8 zo0), some (jo 0 zo1), some (ji zr41), some (ji zx3), none] [] zs40 (qI Q)) else TrI (n - 1) i_Tape_isNext [jo 8 zo0, ji 40] zs39 (fun zr43 zs42 => (if zr43 = 0 then TrI (n - 1) i_Tape_close [jo 8 zo0, ji zx2] zs42 (fun zr45 zs44 => J n c_Tape_readOne (some .boolean) 123 [some (jo 8 zo0), some (jo 0 zo1), some (ji zr45), some (ji zx3), none] [] zs44 (qI Q)) else (if 12 ≤ zx2 then TrI (n - 1) i_Tape_close [jo 8 zo0, ji zx2] zs42 (fun zr47 zs46 => J n c_Tape_readOne (some .boolean) 123 [some (jo 8 zo0), some (jo 0 zo1), some (ji zr47), some (ji zx3), none] [] zs46 (qI Q)) else 0 ≤ rl zs42 8003 zo0 ∧ i32 ((rs zs42 1 zo1) - 1) ∧ 0 ≤ zx2 ∧ zx2 < rl zs42 8003 zo0 ∧ (∀ zs50, zs50 = wa zs42 8003 zo0 zx2 ((rs zs42 1 zo1) - 1) → i32 (zx2 + 1) ∧ J n c_Tape_readOne (some .boolean) 123 [some (jo 8 zo0), some (jo 0 zo1), some (ji (zx2 + 1)), some (ji zx3), none] [] zs50 (qI Q))))))))))))) : J n c_Tape_readOne (some .boolean) 30 [some (jo 8 zo0), some (jo 0 zo1), some (ji zx2), some (ji zx3), none] [] σ (qI Q) := by
  obtain ⟨zg1, W⟩ := W
  refine J_aload_no (pc' := 31) rfl rfl zg1 rfl ?_
  obtain ⟨zg2, W⟩ := W
  refine J_aload_no (pc' := 32) rfl rfl zg2 rfl ?_
  obtain ⟨zg3, W⟩ := W
  refine J_callI (as := [jo 8 zo0]) (rest := [jo 0 zo1]) (pc' := 35) rfl rfl ax_Z_187 rfl rfl (Or.inr (Or.inr ⟨_, _, rfl, zg2⟩)) (Nat.le_of_ble_eq_true rfl) (Nat.le_of_ble_eq_true rfl) (Nat.le_of_ble_eq_true rfl) zg3 trivial trivial rfl W (fun zr5 zs4 W => ?_)
  refine J_if (P := zr5 = 0) (t := 50) (f := 38) rfl rfl rfl jc_eq W (fun W => ?_) (fun W => ?_)
  · refine J_bipush (pc' := 52) rfl (by decide) (by decide) rfl ?_
    refine J_aload_no (pc' := 53) rfl rfl zg2 rfl ?_
    refine J_callI (as := [jo 8 zo0]) (rest := [ji 104, jo 0 zo1]) (pc' := 56) rfl rfl ax_Z_184 rfl rfl (Or.inr (Or.inr ⟨_, _, rfl, zg2⟩)) (Nat.le_of_ble_eq_true rfl) (Nat.le_of_ble_eq_true rfl) (Nat.le_of_ble_eq_true rfl) zg3 trivial trivial rfl W (fun zr7 zs6 W => ?_)
    obtain ⟨zg8, W⟩ := W
    refine J_iadd (pc' := 57) rfl zg8 rfl ?_
    refine J_bipush (pc' := 59) rfl (by decide) (by decide) rfl ?_
    obtain ⟨zg9, W⟩ := W
    refine J_isub (pc' := 60) rfl zg9 rfl ?_
    refine J_callV (as := [jo 0 zo1, ji ((104 + zr7) - 97)]) (rest := []) (pc' := 63) rfl rfl ax_Z_116 rfl rfl (Or.inr (Or.inr ⟨_, _, rfl, zg1⟩)) (Nat.le_of_ble_eq_true rfl) (Nat.le_of_ble_eq_true rfl) (Nat.le_of_ble_eq_true rfl) zg3 trivial trivial rfl W (fun zs10 W => ?_)
    refine J_aload_no (pc' := 64) rfl rfl zg2 rfl ?_
    refine J_callI (as := [jo 8 zo0]) (rest := []) (pc' := 67) rfl rfl ax_Z_187 rfl rfl (Or.inr (Or.inr ⟨_, _, rfl, zg2⟩)) (Nat.le_of_ble_eq_true rfl) (Nat.le_of_ble_eq_true rfl) (Nat.le_of_ble_eq_true rfl) zg3 trivial trivial rfl W (fun zr13 zs12 W => ?_)
    refine J_istore (L' := [some (jo 8 zo0), some (jo 0 zo1), some (ji zx2), some (ji zx3), some (ji zr13)]) (pc' := 69) rfl (Nat.le_of_ble_eq_true rfl) rfl rfl ?_
    refine J_aload_no (pc' := 70) rfl rfl zg2 rfl ?_
    refine J_dup (pc' := 71) rfl rfl rfl ?_
    refine J_getI (G := 8001) (pc' := 74) rfl rfl (Nat.le_of_ble_eq_true rfl) rfl zg2 rfl ?_
    refine J_iconst (pc' := 75) rfl (i32_d rfl) rfl ?_
    obtain ⟨zg14, W⟩ := W
    refine J_iadd (pc' := 76) rfl zg14 rfl ?_
    refine J_putI (G := 8001) (pc' := 79) rfl rfl (Nat.le_of_ble_eq_true rfl) rfl rfl zg2 rfl (fun zs15 ezs15 => ?_)
    replace W := W zs15 ezs15
    refine J_iload (pc' := 81) rfl rfl rfl ?_
    refine J_if (P := zr13 = 0) (t := 117) (f := 84) rfl rfl rfl jc_eq W (fun W => ?_) (fun W => ?_)
    · refine J_aload_no (pc' := 118) rfl rfl zg2 rfl ?_
      refine J_iload_n (pc' := 119) rfl rfl rfl ?_
      refine J_weak (L' := [some (jo 8 zo0), some (jo 0 zo1), none, some (ji zx3), none]) (And.intro rfl (And.intro rfl (And.intro rfl trivial))) ?_
      refine J_callI (as := [jo 8 zo0, ji zx2]) (rest := []) (pc' := 122) rfl rfl ax_Z_191 rfl rfl (Or.inr (Or.inr ⟨_, _, rfl, zg2⟩)) (Nat.le_of_ble_eq_true rfl) (Nat.le_of_ble_eq_true rfl) (Nat.le_of_ble_eq_true rfl) zg3 trivial trivial rfl W (fun zr17 zs16 W => ?_)
      refine J_istore_n (L' := [some (jo 8 zo0), some (jo 0 zo1), some (ji zr17), some (ji zx3), none]) (pc' := 123) rfl (Nat.le_of_ble_eq_true rfl) rfl rfl ?_
      exact W
    · refine J_aload_no (pc' := 85) rfl rfl zg2 rfl ?_
      refine J_bipush (pc' := 87) rfl (by decide) (by decide) rfl ?_
      refine J_weak (L' := [some (jo 8 zo0), some (jo 0 zo1), some (ji zx2), some (ji zx3), none]) (And.intro rfl (And.intro rfl (And.intro rfl (And.intro rfl trivial)))) ?_
      refine J_callI (as := [jo 8 zo0, ji 40]) (rest := []) (pc' := 90) rfl rfl ax_Z_185 rfl rfl (Or.inr (Or.inr ⟨_, _, rfl, zg2⟩)) (Nat.le_of_ble_eq_true rfl) (Nat.le_of_ble_eq_true rfl) (Nat.le_of_ble_eq_true rfl) zg3 trivial trivial rfl W (fun zr19 zs18 W => ?_)
      refine J_if (P := zr19 = 0) (t := 117) (f := 93) rfl rfl rfl jc_eq W (fun W => ?_) (fun W => ?_)
      · refine J_aload_no (pc' := 118) rfl rfl zg2 rfl ?_
        refine J_iload_n (pc' := 119) rfl rfl rfl ?_
        refine J_weak (L' := [some (jo 8 zo0), some (jo 0 zo1), none, some (ji zx3), none]) (And.intro rfl (And.intro rfl (And.intro rfl trivial))) ?_
        refine J_callI (as := [jo 8 zo0, ji zx2]) (rest := []) (pc' := 122) rfl rfl ax_Z_191 rfl rfl (Or.inr (Or.inr ⟨_, _, rfl, zg2⟩)) (Nat.le_of_ble_eq_true rfl) (Nat.le_of_ble_eq_true rfl) (Nat.le_of_ble_eq_true rfl) zg3 trivial trivial rfl W (fun zr21 zs20 W => ?_)
        refine J_istore_n (L' := [some (jo 8 zo0), some (jo 0 zo1), some (ji zr21), some (ji zx3), none]) (pc' := 123) rfl (Nat.le_of_ble_eq_true rfl) rfl rfl ?_
        exact W
      · refine J_iload_n (pc' := 94) rfl rfl rfl ?_
        refine J_bipush (pc' := 96) rfl (by decide) (by decide) rfl ?_
        refine J_icmp (P := 12 ≤ zx2) (t := 117) (f := 99) rfl rfl rfl jc_ge W (fun W => ?_) (fun W => ?_)
        · refine J_aload_no (pc' := 118) rfl rfl zg2 rfl ?_
          refine J_iload_n (pc' := 119) rfl rfl rfl ?_
          refine J_weak (L' := [some (jo 8 zo0), some (jo 0 zo1), none, some (ji zx3), none]) (And.intro rfl (And.intro rfl (And.intro rfl trivial))) ?_
          refine J_callI (as := [jo 8 zo0, ji zx2]) (rest := []) (pc' := 122) rfl rfl ax_Z_191 rfl rfl (Or.inr (Or.inr ⟨_, _, rfl, zg2⟩)) (Nat.le_of_ble_eq_true rfl) (Nat.le_of_ble_eq_true rfl) (Nat.le_of_ble_eq_true rfl) zg3 trivial trivial rfl W (fun zr23 zs22 W => ?_)
          refine J_istore_n (L' := [some (jo 8 zo0), some (jo 0 zo1), some (ji zr23), some (ji zx3), none]) (pc' := 123) rfl (Nat.le_of_ble_eq_true rfl) rfl rfl ?_
          exact W
        · refine J_aload_no (pc' := 100) rfl rfl zg2 rfl ?_
          obtain ⟨zg24, W⟩ := W
          refine J_getA (G := 8003) (pc' := 103) rfl rfl (Nat.le_of_ble_eq_true rfl) rfl zg2 zg24 rfl ?_
          refine J_iload_n (pc' := 104) rfl rfl rfl ?_
          refine J_aload_no (pc' := 105) rfl rfl zg1 rfl ?_
          refine J_getI (G := 1) (pc' := 108) rfl rfl (Nat.le_of_ble_eq_true rfl) rfl zg1 rfl ?_
          refine J_iconst (pc' := 109) rfl (i32_d rfl) rfl ?_
          obtain ⟨zg25, W⟩ := W
          refine J_isub (pc' := 110) rfl zg25 rfl ?_
          obtain ⟨zg27, W⟩ := W
          obtain ⟨zg28, W⟩ := W
          refine J_iast (pc' := 111) rfl rfl (by decide) zg27 zg28 rfl (fun zs26 ezs26 => ?_)
          replace W := W zs26 ezs26
          obtain ⟨zg29, W⟩ := W
          refine J_iinc (L' := [some (jo 8 zo0), some (jo 0 zo1), some (ji (zx2 + 1)), some (ji zx3), none]) (pc' := 114) rfl rfl zg29 rfl rfl ?_
          refine J_goto (pc' := 123) rfl rfl ?_
          exact W
  · refine J_aload_no (pc' := 39) rfl rfl zg2 rfl ?_
    refine J_callI (as := [jo 8 zo0]) (rest := [jo 0 zo1]) (pc' := 42) rfl rfl ax_Z_184 rfl rfl (Or.inr (Or.inr ⟨_, _, rfl, zg2⟩)) (Nat.le_of_ble_eq_true rfl) (Nat.le_of_ble_eq_true rfl) (Nat.le_of_ble_eq_true rfl) zg3 trivial trivial rfl W (fun zr31 zs30 W => ?_)
    refine J_bipush (pc' := 44) rfl (by decide) (by decide) rfl ?_
    obtain ⟨zg32, W⟩ := W
    refine J_isub (pc' := 45) rfl zg32 rfl ?_
    refine J_iconst (pc' := 46) rfl (i32_d rfl) rfl ?_
    obtain ⟨zg33, W⟩ := W
    refine J_imul (pc' := 47) rfl zg33 rfl ?_
    refine J_goto (pc' := 60) rfl rfl ?_
    refine J_callV (as := [jo 0 zo1, ji ((zr31 - 65) * 4)]) (rest := []) (pc' := 63) rfl rfl ax_Z_116 rfl rfl (Or.inr (Or.inr ⟨_, _, rfl, zg1⟩)) (Nat.le_of_ble_eq_true rfl) (Nat.le_of_ble_eq_true rfl) (Nat.le_of_ble_eq_true rfl) zg3 trivial trivial rfl W (fun zs34 W => ?_)
    refine J_aload_no (pc' := 64) rfl rfl zg2 rfl ?_
    refine J_callI (as := [jo 8 zo0]) (rest := []) (pc' := 67) rfl rfl ax_Z_187 rfl rfl (Or.inr (Or.inr ⟨_, _, rfl, zg2⟩)) (Nat.le_of_ble_eq_true rfl) (Nat.le_of_ble_eq_true rfl) (Nat.le_of_ble_eq_true rfl) zg3 trivial trivial rfl W (fun zr37 zs36 W => ?_)
    refine J_istore (L' := [some (jo 8 zo0), some (jo 0 zo1), some (ji zx2), some (ji zx3), some (ji zr37)]) (pc' := 69) rfl (Nat.le_of_ble_eq_true rfl) rfl rfl ?_
    refine J_aload_no (pc' := 70) rfl rfl zg2 rfl ?_
    refine J_dup (pc' := 71) rfl rfl rfl ?_
    refine J_getI (G := 8001) (pc' := 74) rfl rfl (Nat.le_of_ble_eq_true rfl) rfl zg2 rfl ?_
    refine J_iconst (pc' := 75) rfl (i32_d rfl) rfl ?_
    obtain ⟨zg38, W⟩ := W
    refine J_iadd (pc' := 76) rfl zg38 rfl ?_
    refine J_putI (G := 8001) (pc' := 79) rfl rfl (Nat.le_of_ble_eq_true rfl) rfl rfl zg2 rfl (fun zs39 ezs39 => ?_)
    replace W := W zs39 ezs39
    refine J_iload (pc' := 81) rfl rfl rfl ?_
    refine J_if (P := zr37 = 0) (t := 117) (f := 84) rfl rfl rfl jc_eq W (fun W => ?_) (fun W => ?_)
    · refine J_aload_no (pc' := 118) rfl rfl zg2 rfl ?_
      refine J_iload_n (pc' := 119) rfl rfl rfl ?_
      refine J_weak (L' := [some (jo 8 zo0), some (jo 0 zo1), none, some (ji zx3), none]) (And.intro rfl (And.intro rfl (And.intro rfl trivial))) ?_
      refine J_callI (as := [jo 8 zo0, ji zx2]) (rest := []) (pc' := 122) rfl rfl ax_Z_191 rfl rfl (Or.inr (Or.inr ⟨_, _, rfl, zg2⟩)) (Nat.le_of_ble_eq_true rfl) (Nat.le_of_ble_eq_true rfl) (Nat.le_of_ble_eq_true rfl) zg3 trivial trivial rfl W (fun zr41 zs40 W => ?_)
      refine J_istore_n (L' := [some (jo 8 zo0), some (jo 0 zo1), some (ji zr41), some (ji zx3), none]) (pc' := 123) rfl (Nat.le_of_ble_eq_true rfl) rfl rfl ?_
      exact W
    · refine J_aload_no (pc' := 85) rfl rfl zg2 rfl ?_
      refine J_bipush (pc' := 87) rfl (by decide) (by decide) rfl ?_
      refine J_weak (L' := [some (jo 8 zo0), some (jo 0 zo1), some (ji zx2), some (ji zx3), none]) (And.intro rfl (And.intro rfl (And.intro rfl (And.intro rfl trivial)))) ?_
      refine J_callI (as := [jo 8 zo0, ji 40]) (rest := []) (pc' := 90) rfl rfl ax_Z_185 rfl rfl (Or.inr (Or.inr ⟨_, _, rfl, zg2⟩)) (Nat.le_of_ble_eq_true rfl) (Nat.le_of_ble_eq_true rfl) (Nat.le_of_ble_eq_true rfl) zg3 trivial trivial rfl W (fun zr43 zs42 W => ?_)
      refine J_if (P := zr43 = 0) (t := 117) (f := 93) rfl rfl rfl jc_eq W (fun W => ?_) (fun W => ?_)
      · refine J_aload_no (pc' := 118) rfl rfl zg2 rfl ?_
        refine J_iload_n (pc' := 119) rfl rfl rfl ?_
        refine J_weak (L' := [some (jo 8 zo0), some (jo 0 zo1), none, some (ji zx3), none]) (And.intro rfl (And.intro rfl (And.intro rfl trivial))) ?_
        refine J_callI (as := [jo 8 zo0, ji zx2]) (rest := []) (pc' := 122) rfl rfl ax_Z_191 rfl rfl (Or.inr (Or.inr ⟨_, _, rfl, zg2⟩)) (Nat.le_of_ble_eq_true rfl) (Nat.le_of_ble_eq_true rfl) (Nat.le_of_ble_eq_true rfl) zg3 trivial trivial rfl W (fun zr45 zs44 W => ?_)
        refine J_istore_n (L' := [some (jo 8 zo0), some (jo 0 zo1), some (ji zr45), some (ji zx3), none]) (pc' := 123) rfl (Nat.le_of_ble_eq_true rfl) rfl rfl ?_
        exact W
      · refine J_iload_n (pc' := 94) rfl rfl rfl ?_
        refine J_bipush (pc' := 96) rfl (by decide) (by decide) rfl ?_
        refine J_icmp (P := 12 ≤ zx2) (t := 117) (f := 99) rfl rfl rfl jc_ge W (fun W => ?_) (fun W => ?_)
        · refine J_aload_no (pc' := 118) rfl rfl zg2 rfl ?_
          refine J_iload_n (pc' := 119) rfl rfl rfl ?_
          refine J_weak (L' := [some (jo 8 zo0), some (jo 0 zo1), none, some (ji zx3), none]) (And.intro rfl (And.intro rfl (And.intro rfl trivial))) ?_
          refine J_callI (as := [jo 8 zo0, ji zx2]) (rest := []) (pc' := 122) rfl rfl ax_Z_191 rfl rfl (Or.inr (Or.inr ⟨_, _, rfl, zg2⟩)) (Nat.le_of_ble_eq_true rfl) (Nat.le_of_ble_eq_true rfl) (Nat.le_of_ble_eq_true rfl) zg3 trivial trivial rfl W (fun zr47 zs46 W => ?_)
          refine J_istore_n (L' := [some (jo 8 zo0), some (jo 0 zo1), some (ji zr47), some (ji zx3), none]) (pc' := 123) rfl (Nat.le_of_ble_eq_true rfl) rfl rfl ?_
          exact W
        · refine J_aload_no (pc' := 100) rfl rfl zg2 rfl ?_
          obtain ⟨zg48, W⟩ := W
          refine J_getA (G := 8003) (pc' := 103) rfl rfl (Nat.le_of_ble_eq_true rfl) rfl zg2 zg48 rfl ?_
          refine J_iload_n (pc' := 104) rfl rfl rfl ?_
          refine J_aload_no (pc' := 105) rfl rfl zg1 rfl ?_
          refine J_getI (G := 1) (pc' := 108) rfl rfl (Nat.le_of_ble_eq_true rfl) rfl zg1 rfl ?_
          refine J_iconst (pc' := 109) rfl (i32_d rfl) rfl ?_
          obtain ⟨zg49, W⟩ := W
          refine J_isub (pc' := 110) rfl zg49 rfl ?_
          obtain ⟨zg51, W⟩ := W
          obtain ⟨zg52, W⟩ := W
          refine J_iast (pc' := 111) rfl rfl (by decide) zg51 zg52 rfl (fun zs50 ezs50 => ?_)
          replace W := W zs50 ezs50
          obtain ⟨zg53, W⟩ := W
          refine J_iinc (L' := [some (jo 8 zo0), some (jo 0 zo1), some (ji (zx2 + 1)), some (ji zx3), none]) (pc' := 114) rfl rfl zg53 rfl rfl ?_
          refine J_goto (pc' := 123) rfl rfl ?_
          exact W
theorem wp_Tape_readOne_123 {n : Nat} {σ : jS} {Q : Int → jS → Prop} {zo0 : Int} {zo1 : Int} {zx2 : Int} {zx3 : Int} (W : (if ¬ zx2 = 0 then 0 ≤ zo0 ∧ 0 ≤ zo1 ∧ 0 ≤ rl σ 8003 zo0 ∧ i32 (zx2 - 1) ∧ 0 ≤ zx2 - 1 ∧ zx2 - 1 < rl σ 8003 zo0 ∧ 1 ≤ n ∧ TrI (n - 1) i_Tape_nextPart [jo 8 zo0, jo 0 zo1, ji (ra σ 8003 zo0 (zx2 - 1))] σ (fun zr9 zs8 => (if ¬ zr9 = 0 then i32 (zx3 + 1) ∧ J n c_Tape_readOne (some .boolean) 8 [some (jo 8 zo0), some (jo 0 zo1), some (ji zx2), some (ji (zx3 + 1)), none] [] zs8 (qI Q) else Q 0 zs8)) else Q 1 σ)) : J n c_Tape_readOne (some .boolean) 123 [some (jo 8 zo0), some (jo 0 zo1), some (ji zx2), some (ji zx3), none] [] σ (qI Q) := by
  refine J_iload_n (pc' := 124) rfl rfl rfl ?_
  refine J_if (P := ¬ zx2 = 0) (t := 129) (f := 127) rfl rfl rfl jc_ne W (fun W => ?_) (fun W => ?_)
  · obtain ⟨zg1, W⟩ := W
    refine J_aload_no (pc' := 130) rfl rfl zg1 rfl ?_
    obtain ⟨zg2, W⟩ := W
    refine J_aload_no (pc' := 131) rfl rfl zg2 rfl ?_
    refine J_aload_no (pc' := 132) rfl rfl zg1 rfl ?_
    obtain ⟨zg3, W⟩ := W
    refine J_getA (G := 8003) (pc' := 135) rfl rfl (Nat.le_of_ble_eq_true rfl) rfl zg1 zg3 rfl ?_
    refine J_iload_n (pc' := 136) rfl rfl rfl ?_
    refine J_iconst (pc' := 137) rfl (i32_d rfl) rfl ?_
    obtain ⟨zg4, W⟩ := W
    refine J_isub (pc' := 138) rfl zg4 rfl ?_
    obtain ⟨zg5, W⟩ := W
    obtain ⟨zg6, W⟩ := W
    refine J_iald (pc' := 139) rfl rfl zg5 zg6 rfl ?_
    obtain ⟨zg7, W⟩ := W
    refine J_callI (as := [jo 8 zo0, jo 0 zo1, ji (ra σ 8003 zo0 (zx2 - 1))]) (rest := []) (pc' := 142) rfl rfl ax_Z_192 rfl rfl (Or.inr (Or.inr ⟨_, _, rfl, zg1⟩)) (Nat.le_of_ble_eq_true rfl) (Nat.le_of_ble_eq_true rfl) (Nat.le_of_ble_eq_true rfl) zg7 trivial trivial rfl W (fun zr9 zs8 W => ?_)
    refine J_if (P := ¬ zr9 = 0) (t := 147) (f := 145) rfl rfl rfl jc_ne W (fun W => ?_) (fun W => ?_)
    · obtain ⟨zg10, W⟩ := W
      refine J_iinc (L' := [some (jo 8 zo0), some (jo 0 zo1), some (ji zx2), some (ji (zx3 + 1)), none]) (pc' := 150) rfl rfl zg10 rfl rfl ?_
      refine J_goto (pc' := 8) rfl rfl ?_
      exact W
    · refine J_iconst (pc' := 146) rfl (i32_d rfl) rfl ?_
      exact J_zret rfl rfl (Or.inl rfl) ⟨_, rfl, W⟩
  · refine J_iconst (pc' := 128) rfl (i32_d rfl) rfl ?_
    exact J_zret rfl rfl (Or.inr rfl) ⟨_, rfl, W⟩
theorem wp_Tape_close {n : Nat} {σ : jS} {Q : Int → jS → Prop} {zo0 : Int} {zx1 : Int} (W : J n c_Tape_close (some .int) 2 [some (jo 8 zo0), none, some (ji zx1)] [] σ (qI Q)) : TrI n i_Tape_close [jo 8 zo0, ji zx1] σ Q := by
  refine Tr_of ax_Z_191 ?_
  show J n c_Tape_close (some .int) 0 [some (jo 8 zo0), some (ji zx1), none] [] σ (qI Q)
  refine J_iload_n (pc' := 1) rfl rfl rfl ?_
  refine J_istore_n (L' := [some (jo 8 zo0), some (ji zx1), some (ji zx1)]) (pc' := 2) rfl (Nat.le_of_ble_eq_true rfl) rfl rfl ?_
  refine J_weak (L' := [some (jo 8 zo0), none, some (ji zx1)]) (And.intro rfl (And.intro rfl trivial)) ?_
  exact W
theorem wp_Tape_close_2 {n : Nat} {σ : jS} {Q : Int → jS → Prop} {zo0 : Int} {zx2 : Int} (W : (if zx2 ≤ 0 then Q zx2 σ else 0 ≤ zo0 ∧ 1 ≤ n ∧ TrI (n - 1) i_Tape_passed [jo 8 zo0, ji 41] σ (fun zr4 zs3 => (if zr4 = 0 then Q zx2 zs3 else i32 (zx2 + (-1)) ∧ J n c_Tape_close (some .int) 2 [some (jo 8 zo0), none, some (ji (zx2 + (-1)))] [] zs3 (qI Q))))) : J n c_Tape_close (some .int) 2 [some (jo 8 zo0), none, some (ji zx2)] [] σ (qI Q) := by
  refine J_iload_n (pc' := 3) rfl rfl rfl ?_
  refine J_if (P := zx2 ≤ 0) (t := 21) (f := 6) rfl rfl rfl jc_le W (fun W => ?_) (fun W => ?_)
  · refine J_iload_n (pc' := 22) rfl rfl rfl ?_
    exact J_iret rfl rfl ⟨_, rfl, W⟩
  · obtain ⟨zg1, W⟩ := W
    refine J_aload_no (pc' := 7) rfl rfl zg1 rfl ?_
    refine J_bipush (pc' := 9) rfl (by decide) (by decide) rfl ?_
    obtain ⟨zg2, W⟩ := W
    refine J_callI (as := [jo 8 zo0, ji 41]) (rest := []) (pc' := 12) rfl rfl ax_Z_186 rfl rfl (Or.inr (Or.inr ⟨_, _, rfl, zg1⟩)) (Nat.le_of_ble_eq_true rfl) (Nat.le_of_ble_eq_true rfl) (Nat.le_of_ble_eq_true rfl) zg2 trivial trivial rfl W (fun zr4 zs3 W => ?_)
    refine J_if (P := zr4 = 0) (t := 21) (f := 15) rfl rfl rfl jc_eq W (fun W => ?_) (fun W => ?_)
    · refine J_iload_n (pc' := 22) rfl rfl rfl ?_
      exact J_iret rfl rfl ⟨_, rfl, W⟩
    · obtain ⟨zg5, W⟩ := W
      refine J_iinc (L' := [some (jo 8 zo0), none, some (ji (zx2 + (-1)))]) (pc' := 18) rfl rfl zg5 rfl rfl ?_
      refine J_goto (pc' := 2) rfl rfl ?_
      exact W
theorem wp_Tape_nextPart {n : Nat} {σ : jS} {Q : Int → jS → Prop} {zo0 : Int} {zo1 : Int} {zx2 : Int} (W : 0 ≤ zo1 ∧ 1 ≤ n ∧ TrI (n - 1) i_Flat_partsAt [jo 0 zo1, ji zx2] σ (fun zr4 zs3 => (if zr4 = 3 then Q 0 zs3 else 0 ≤ zo0 ∧ (if ¬ zr4 = 0 then TrI (n - 1) i_Tape_passed [jo 8 zo0, ji 44] zs3 (fun zr7 zs6 => (if ¬ zr7 = 0 then TrV (n - 1) i_Flat_addPart [jo 0 zo1, ji zx2] zs6 (fun zs8 => Q 1 zs8) else Q 0 zs6)) else TrI (n - 1) i_Tape_passed [jo 8 zo0, ji 40] zs3 (fun zr11 zs10 => (if ¬ zr11 = 0 then TrV (n - 1) i_Flat_addPart [jo 0 zo1, ji zx2] zs10 (fun zs12 => Q 1 zs12) else Q 0 zs10)))))) : TrI n i_Tape_nextPart [jo 8 zo0, jo 0 zo1, ji zx2] σ Q := by
  refine Tr_of ax_Z_192 ?_
  show J n c_Tape_nextPart (some .boolean) 0 [some (jo 8 zo0), some (jo 0 zo1), some (ji zx2), none] [] σ (qI Q)
  obtain ⟨zg1, W⟩ := W
  refine J_aload_no (pc' := 1) rfl rfl zg1 rfl ?_
  refine J_iload_n (pc' := 2) rfl rfl rfl ?_
  obtain ⟨zg2, W⟩ := W
  refine J_callI (as := [jo 0 zo1, ji zx2]) (rest := []) (pc' := 5) rfl rfl ax_Z_119 rfl rfl (Or.inr (Or.inr ⟨_, _, rfl, zg1⟩)) (Nat.le_of_ble_eq_true rfl) (Nat.le_of_ble_eq_true rfl) (Nat.le_of_ble_eq_true rfl) zg2 trivial trivial rfl W (fun zr4 zs3 W => ?_)
  refine J_istore_n (L' := [some (jo 8 zo0), some (jo 0 zo1), some (ji zx2), some (ji zr4)]) (pc' := 6) rfl (Nat.le_of_ble_eq_true rfl) rfl rfl ?_
  refine J_iload_n (pc' := 7) rfl rfl rfl ?_
  refine J_iconst (pc' := 8) rfl (i32_d rfl) rfl ?_
  refine J_icmp (P := zr4 = 3) (t := 29) (f := 11) rfl rfl rfl jc_eq W (fun W => ?_) (fun W => ?_)
  · refine J_iconst (pc' := 30) rfl (i32_d rfl) rfl ?_
    exact J_zret rfl rfl (Or.inl rfl) ⟨_, rfl, W⟩
  · obtain ⟨zg5, W⟩ := W
    refine J_aload_no (pc' := 12) rfl rfl zg5 rfl ?_
    refine J_iload_n (pc' := 13) rfl rfl rfl ?_
    refine J_if (P := ¬ zr4 = 0) (t := 21) (f := 16) rfl rfl rfl jc_ne W (fun W => ?_) (fun W => ?_)
    · refine J_bipush (pc' := 23) rfl (by decide) (by decide) rfl ?_
      refine J_weak (L' := [none, some (jo 0 zo1), some (ji zx2), none]) (And.intro rfl (And.intro rfl trivial)) ?_
      refine J_callI (as := [jo 8 zo0, ji 44]) (rest := []) (pc' := 26) rfl rfl ax_Z_186 rfl rfl (Or.inr (Or.inr ⟨_, _, rfl, zg5⟩)) (Nat.le_of_ble_eq_true rfl) (Nat.le_of_ble_eq_true rfl) (Nat.le_of_ble_eq_true rfl) zg2 trivial trivial rfl W (fun zr7 zs6 W => ?_)
      refine J_if (P := ¬ zr7 = 0) (t := 31) (f := 29) rfl rfl rfl jc_ne W (fun W => ?_) (fun W => ?_)
      · refine J_aload_no (pc' := 32) rfl rfl zg1 rfl ?_
        refine J_iload_n (pc' := 33) rfl rfl rfl ?_
        refine J_weak (L' := [none, none, none, none]) trivial ?_
        refine J_callV (as := [jo 0 zo1, ji zx2]) (rest := []) (pc' := 36) rfl rfl ax_Z_118 rfl rfl (Or.inr (Or.inr ⟨_, _, rfl, zg1⟩)) (Nat.le_of_ble_eq_true rfl) (Nat.le_of_ble_eq_true rfl) (Nat.le_of_ble_eq_true rfl) zg2 trivial trivial rfl W (fun zs8 W => ?_)
        refine J_iconst (pc' := 37) rfl (i32_d rfl) rfl ?_
        exact J_zret rfl rfl (Or.inr rfl) ⟨_, rfl, W⟩
      · refine J_iconst (pc' := 30) rfl (i32_d rfl) rfl ?_
        exact J_zret rfl rfl (Or.inl rfl) ⟨_, rfl, W⟩
    · refine J_bipush (pc' := 18) rfl (by decide) (by decide) rfl ?_
      refine J_goto (pc' := 23) rfl rfl ?_
      refine J_weak (L' := [none, some (jo 0 zo1), some (ji zx2), none]) (And.intro rfl (And.intro rfl trivial)) ?_
      refine J_callI (as := [jo 8 zo0, ji 40]) (rest := []) (pc' := 26) rfl rfl ax_Z_186 rfl rfl (Or.inr (Or.inr ⟨_, _, rfl, zg5⟩)) (Nat.le_of_ble_eq_true rfl) (Nat.le_of_ble_eq_true rfl) (Nat.le_of_ble_eq_true rfl) zg2 trivial trivial rfl W (fun zr11 zs10 W => ?_)
      refine J_if (P := ¬ zr11 = 0) (t := 31) (f := 29) rfl rfl rfl jc_ne W (fun W => ?_) (fun W => ?_)
      · refine J_aload_no (pc' := 32) rfl rfl zg1 rfl ?_
        refine J_iload_n (pc' := 33) rfl rfl rfl ?_
        refine J_weak (L' := [none, none, none, none]) trivial ?_
        refine J_callV (as := [jo 0 zo1, ji zx2]) (rest := []) (pc' := 36) rfl rfl ax_Z_118 rfl rfl (Or.inr (Or.inr ⟨_, _, rfl, zg1⟩)) (Nat.le_of_ble_eq_true rfl) (Nat.le_of_ble_eq_true rfl) (Nat.le_of_ble_eq_true rfl) zg2 trivial trivial rfl W (fun zs12 W => ?_)
        refine J_iconst (pc' := 37) rfl (i32_d rfl) rfl ?_
        exact J_zret rfl rfl (Or.inr rfl) ⟨_, rfl, W⟩
      · refine J_iconst (pc' := 30) rfl (i32_d rfl) rfl ?_
        exact J_zret rfl rfl (Or.inl rfl) ⟨_, rfl, W⟩
theorem wp_Tape_readText {n : Nat} {σ : jS} {Q : Int → jS → Prop} {zo0 : Int} {zo1 : Int} (W : 0 ≤ zo1 ∧ 1 ≤ n ∧ TrV (n - 1) i_Text_clear [jo 10 zo1] σ (fun zs3 => 0 ≤ zo0 ∧ (∀ zs6, zs6 = ws zs3 8001 zo0 0 → J n c_Tape_readText (some .boolean) 13 [some (jo 8 zo0), some (jo 10 zo1), some (ji (-1)), some (ji 0)] [] zs6 (qI Q)))) : TrI n i_Tape_readText [jo 8 zo0, jo 10 zo1] σ Q := by
  refine Tr_of ax_Z_193 ?_
  show J n c_Tape_readText (some .boolean) 0 [some (jo 8 zo0), some (jo 10 zo1), none, none] [] σ (qI Q)
  obtain ⟨zg1, W⟩ := W
  refine J_aload_no (pc' := 1) rfl rfl zg1 rfl ?_
  obtain ⟨zg2, W⟩ := W
  refine J_callV (as := [jo 10 zo1]) (rest := []) (pc' := 4) rfl rfl ax_Z_223 rfl rfl (Or.inr (Or.inr ⟨_, _, rfl, zg1⟩)) (Nat.le_of_ble_eq_true rfl) (Nat.le_of_ble_eq_true rfl) (Nat.le_of_ble_eq_true rfl) zg2 trivial trivial rfl W (fun zs3 W => ?_)
  obtain ⟨zg5, W⟩ := W
  refine J_aload_no (pc' := 5) rfl rfl zg5 rfl ?_
  refine J_iconst (pc' := 6) rfl (i32_d rfl) rfl ?_
  refine J_putI (G := 8001) (pc' := 9) rfl rfl (Nat.le_of_ble_eq_true rfl) rfl rfl zg5 rfl (fun zs6 ezs6 => ?_)
  replace W := W zs6 ezs6
  refine J_iconst (pc' := 10) rfl (i32_d rfl) rfl ?_
  refine J_istore_n (L' := [some (jo 8 zo0), some (jo 10 zo1), some (ji (-1)), none]) (pc' := 11) rfl (Nat.le_of_ble_eq_true rfl) rfl rfl ?_
  refine J_iconst (pc' := 12) rfl (i32_d rfl) rfl ?_
  refine J_istore_n (L' := [some (jo 8 zo0), some (jo 10 zo1), some (ji (-1)), some (ji 0)]) (pc' := 13) rfl (Nat.le_of_ble_eq_true rfl) rfl rfl ?_
  exact W
theorem wp_Tape_readText_13 {n : Nat} {σ : jS} {Q : Int → jS → Prop} {zo0 : Int} {zo1 : Int} {zx2 : Int} {zx3 : Int} (W : (if 800 ≤ zx3 then Q 0 σ else 0 ≤ zo0 ∧ 1 ≤ n ∧ TrI (n - 1) i_Tape_isNext [jo 8 zo0, ji 123] σ (fun zr4 zs3 => (if zr4 = 0 then (if ¬ zx2 = (-1) then TrI (n - 1) i_Tape_passed [jo 8 zo0, ji 125] zs3 (fun zr6 zs5 => (if zr6 = 0 then 0 ≤ zo1 ∧ TrI (n - 1) i_Tape_readGiven [jo 8 zo0, jo 10 zo1, ji zx2] zs5 (fun zr9 zs8 => (if ¬ zr9 = 0 then i32 (zx3 + 1) ∧ J n c_Tape_readText (some .boolean) 13 [some (jo 8 zo0), some (jo 10 zo1), some (ji zx2), some (ji (zx3 + 1))] [] zs8 (qI Q) else Q 0 zs8)) else 0 ≤ zo1 ∧ TrI (n - 1) i_Text_aroundOf [jo 10 zo1, ji zx2] zs5 (fun zr13 zs12 => (if ¬ zr13 = (-1) then i32 (zx3 + 1) ∧ J n c_Tape_readText (some .boolean) 13 [some (jo 8 zo0), some (jo 10 zo1), some (ji zr13), some (ji (zx3 + 1))] [] zs12 (qI Q) else (if ¬ rs zs12 8001 zo0 = rs zs12 8000 zo0 then Q 0 zs12 else Q 1 zs12))))) else Q 0 zs3) else 0 ≤ zo1 ∧ TrI (n - 1) i_Text_mayOpenIn [jo 10 zo1, ji zx2] zs3 (fun zr17 zs16 => (if ¬ zr17 = 0 then TrI (n - 1) i_Text_open [jo 10 zo1, ji zx2] zs16 (fun zr19 zs18 => i32 ((rs zs18 8001 zo0) + 1) ∧ (∀ zs21, zs21 = ws zs18 8001 zo0 ((rs zs18 8001 zo0) + 1) → i32 (zx3 + 1) ∧ J n c_Tape_readText (some .boolean) 13 [some (jo 8 zo0), some (jo 10 zo1), some (ji zr19), some (ji (zx3 + 1))] [] zs21 (qI Q))) else Q 0 zs16)))))) : J n c_Tape_readText (some .boolean) 13 [some (jo 8 zo0), some (jo 10 zo1), some (ji zx2), some (ji zx3)] [] σ (qI Q) := by
  refine J_iload_n (pc' := 14) rfl rfl rfl ?_
  refine J_sipush (pc' := 17) rfl (by decide) (by decide) rfl ?_
  refine J_icmp (P := 800 ≤ zx3) (t := 119) (f := 20) rfl rfl rfl jc_ge W (fun W => ?_) (fun W => ?_)
  · refine J_iconst (pc' := 120) rfl (i32_d rfl) rfl ?_
    exact J_zret rfl rfl (Or.inl rfl) ⟨_, rfl, W⟩
  · obtain ⟨zg1, W⟩ := W
    refine J_aload_no (pc' := 21) rfl rfl zg1 rfl ?_
    refine J_bipush (pc' := 23) rfl (by decide) (by decide) rfl ?_
    obtain ⟨zg2, W⟩ := W
    refine J_callI (as := [jo 8 zo0, ji 123]) (rest := []) (pc' := 26) rfl rfl ax_Z_185 rfl rfl (Or.inr (Or.inr ⟨_, _, rfl, zg1⟩)) (Nat.le_of_ble_eq_true rfl) (Nat.le_of_ble_eq_true rfl) (Nat.le_of_ble_eq_true rfl) zg2 trivial trivial rfl W (fun zr4 zs3 W => ?_)
    refine J_if (P := zr4 = 0) (t := 58) (f := 29) rfl rfl rfl jc_eq W (fun W => ?_) (fun W => ?_)
    · refine J_iload_n (pc' := 59) rfl rfl rfl ?_
      refine J_iconst (pc' := 60) rfl (i32_d rfl) rfl ?_
      refine J_icmp (P := ¬ zx2 = (-1)) (t := 65) (f := 63) rfl rfl rfl jc_ne W (fun W => ?_) (fun W => ?_)
      · refine J_aload_no (pc' := 66) rfl rfl zg1 rfl ?_
        refine J_bipush (pc' := 68) rfl (by decide) (by decide) rfl ?_
        refine J_callI (as := [jo 8 zo0, ji 125]) (rest := []) (pc' := 71) rfl rfl ax_Z_186 rfl rfl (Or.inr (Or.inr ⟨_, _, rfl, zg1⟩)) (Nat.le_of_ble_eq_true rfl) (Nat.le_of_ble_eq_true rfl) (Nat.le_of_ble_eq_true rfl) zg2 trivial trivial rfl W (fun zr6 zs5 W => ?_)
        refine J_if (P := zr6 = 0) (t := 102) (f := 74) rfl rfl rfl jc_eq W (fun W => ?_) (fun W => ?_)
        · refine J_aload_no (pc' := 103) rfl rfl zg1 rfl ?_
          obtain ⟨zg7, W⟩ := W
          refine J_aload_no (pc' := 104) rfl rfl zg7 rfl ?_
          refine J_iload_n (pc' := 105) rfl rfl rfl ?_
          refine J_callI (as := [jo 8 zo0, jo 10 zo1, ji zx2]) (rest := []) (pc' := 108) rfl rfl ax_Z_194 rfl rfl (Or.inr (Or.inr ⟨_, _, rfl, zg1⟩)) (Nat.le_of_ble_eq_true rfl) (Nat.le_of_ble_eq_true rfl) (Nat.le_of_ble_eq_true rfl) zg2 trivial trivial rfl W (fun zr9 zs8 W => ?_)
          refine J_if (P := ¬ zr9 = 0) (t := 113) (f := 111) rfl rfl rfl jc_ne W (fun W => ?_) (fun W => ?_)
          · obtain ⟨zg10, W⟩ := W
            refine J_iinc (L' := [some (jo 8 zo0), some (jo 10 zo1), some (ji zx2), some (ji (zx3 + 1))]) (pc' := 116) rfl rfl zg10 rfl rfl ?_
            refine J_goto (pc' := 13) rfl rfl ?_
            exact W
          · refine J_iconst (pc' := 112) rfl (i32_d rfl) rfl ?_
            exact J_zret rfl rfl (Or.inl rfl) ⟨_, rfl, W⟩
        · obtain ⟨zg11, W⟩ := W
          refine J_aload_no (pc' := 75) rfl rfl zg11 rfl ?_
          refine J_iload_n (pc' := 76) rfl rfl rfl ?_
          refine J_weak (L' := [some (jo 8 zo0), some (jo 10 zo1), none, some (ji zx3)]) (And.intro rfl (And.intro rfl (And.intro rfl trivial))) ?_
          refine J_callI (as := [jo 10 zo1, ji zx2]) (rest := []) (pc' := 79) rfl rfl ax_Z_228 rfl rfl (Or.inr (Or.inr ⟨_, _, rfl, zg11⟩)) (Nat.le_of_ble_eq_true rfl) (Nat.le_of_ble_eq_true rfl) (Nat.le_of_ble_eq_true rfl) zg2 trivial trivial rfl W (fun zr13 zs12 W => ?_)
          refine J_istore_n (L' := [some (jo 8 zo0), some (jo 10 zo1), some (ji zr13), some (ji zx3)]) (pc' := 80) rfl (Nat.le_of_ble_eq_true rfl) rfl rfl ?_
          refine J_iload_n (pc' := 81) rfl rfl rfl ?_
          refine J_iconst (pc' := 82) rfl (i32_d rfl) rfl ?_
          refine J_icmp (P := ¬ zr13 = (-1)) (t := 113) (f := 85) rfl rfl rfl jc_ne W (fun W => ?_) (fun W => ?_)
          · obtain ⟨zg14, W⟩ := W
            refine J_iinc (L' := [some (jo 8 zo0), some (jo 10 zo1), some (ji zr13), some (ji (zx3 + 1))]) (pc' := 116) rfl rfl zg14 rfl rfl ?_
            refine J_goto (pc' := 13) rfl rfl ?_
            exact W
          · refine J_aload_no (pc' := 86) rfl rfl zg1 rfl ?_
            refine J_getI (G := 8001) (pc' := 89) rfl rfl (Nat.le_of_ble_eq_true rfl) rfl zg1 rfl ?_
            refine J_aload_no (pc' := 90) rfl rfl zg1 rfl ?_
            refine J_getI (G := 8000) (pc' := 93) rfl rfl (Nat.le_of_ble_eq_true rfl) rfl zg1 rfl ?_
            refine J_icmp (P := ¬ rs zs12 8001 zo0 = rs zs12 8000 zo0) (t := 100) (f := 96) rfl rfl rfl jc_ne W (fun W => ?_) (fun W => ?_)
            · refine J_iconst (pc' := 101) rfl (i32_d rfl) rfl ?_
              exact J_zret rfl rfl (Or.inl rfl) ⟨_, rfl, W⟩
            · refine J_iconst (pc' := 97) rfl (i32_d rfl) rfl ?_
              refine J_goto (pc' := 101) rfl rfl ?_
              exact J_zret rfl rfl (Or.inr rfl) ⟨_, rfl, W⟩
      · refine J_iconst (pc' := 64) rfl (i32_d rfl) rfl ?_
        exact J_zret rfl rfl (Or.inl rfl) ⟨_, rfl, W⟩
    · obtain ⟨zg15, W⟩ := W
      refine J_aload_no (pc' := 30) rfl rfl zg15 rfl ?_
      refine J_iload_n (pc' := 31) rfl rfl rfl ?_
      refine J_callI (as := [jo 10 zo1, ji zx2]) (rest := []) (pc' := 34) rfl rfl ax_Z_226 rfl rfl (Or.inr (Or.inr ⟨_, _, rfl, zg15⟩)) (Nat.le_of_ble_eq_true rfl) (Nat.le_of_ble_eq_true rfl) (Nat.le_of_ble_eq_true rfl) zg2 trivial trivial rfl W (fun zr17 zs16 W => ?_)
      refine J_if (P := ¬ zr17 = 0) (t := 39) (f := 37) rfl rfl rfl jc_ne W (fun W => ?_) (fun W => ?_)
      · refine J_aload_no (pc' := 40) rfl rfl zg15 rfl ?_
        refine J_iload_n (pc' := 41) rfl rfl rfl ?_
        refine J_weak (L' := [some (jo 8 zo0), some (jo 10 zo1), none, some (ji zx3)]) (And.intro rfl (And.intro rfl (And.intro rfl trivial))) ?_
        refine J_callI (as := [jo 10 zo1, ji zx2]) (rest := []) (pc' := 44) rfl rfl ax_Z_227 rfl rfl (Or.inr (Or.inr ⟨_, _, rfl, zg15⟩)) (Nat.le_of_ble_eq_true rfl) (Nat.le_of_ble_eq_true rfl) (Nat.le_of_ble_eq_true rfl) zg2 trivial trivial rfl W (fun zr19 zs18 W => ?_)
        refine J_istore_n (L' := [some (jo 8 zo0), some (jo 10 zo1), some (ji zr19), some (ji zx3)]) (pc' := 45) rfl (Nat.le_of_ble_eq_true rfl) rfl rfl ?_
        refine J_aload_no (pc' := 46) rfl rfl zg1 rfl ?_
        refine J_dup (pc' := 47) rfl rfl rfl ?_
        refine J_getI (G := 8001) (pc' := 50) rfl rfl (Nat.le_of_ble_eq_true rfl) rfl zg1 rfl ?_
        refine J_iconst (pc' := 51) rfl (i32_d rfl) rfl ?_
        obtain ⟨zg20, W⟩ := W
        refine J_iadd (pc' := 52) rfl zg20 rfl ?_
        refine J_putI (G := 8001) (pc' := 55) rfl rfl (Nat.le_of_ble_eq_true rfl) rfl rfl zg1 rfl (fun zs21 ezs21 => ?_)
        replace W := W zs21 ezs21
        refine J_goto (pc' := 113) rfl rfl ?_
        obtain ⟨zg22, W⟩ := W
        refine J_iinc (L' := [some (jo 8 zo0), some (jo 10 zo1), some (ji zr19), some (ji (zx3 + 1))]) (pc' := 116) rfl rfl zg22 rfl rfl ?_
        refine J_goto (pc' := 13) rfl rfl ?_
        exact W
      · refine J_iconst (pc' := 38) rfl (i32_d rfl) rfl ?_
        exact J_zret rfl rfl (Or.inl rfl) ⟨_, rfl, W⟩
theorem wp_Tape_readGiven {n : Nat} {σ : jS} {Q : Int → jS → Prop} {zo0 : Int} {zo1 : Int} {zx2 : Int} (W : 0 ≤ zo1 ∧ (if rs σ 10001 zo1 = 24 then Q 0 σ else 0 ≤ zo0 ∧ 1 ≤ n ∧ TrO (n - 1) i_Text_part 0 [jo 10 zo1, ji (rs σ 10001 zo1), ji 0] σ (fun zr5 zs4 => TrI (n - 1) i_Tape_readOne [jo 8 zo0, jo 0 zr5] zs4 (fun zr8 zs7 => (if ¬ zr8 = 0 then TrI (n - 1) i_Tape_passed [jo 8 zo0, ji 60] zs7 (fun zr10 zs9 => (if zr10 = 0 then TrI (n - 1) i_Tape_passed [jo 8 zo0, ji 59] zs9 (fun zr12 zs11 => (if ¬ zr12 = 0 then TrV (n - 1) i_Text_addGiven [jo 10 zo1, ji zx2, ji 0] zs11 (fun zs13 => Q 1 zs13) else Q 0 zs11)) else TrI (n - 1) i_Tape_passed [jo 8 zo0, ji 45] zs9 (fun zr16 zs15 => (if ¬ zr16 = 0 then J n c_Tape_readGiven (some .boolean) 49 [some (jo 8 zo0), some (jo 10 zo1), some (ji zx2), some (ji (rs σ 10001 zo1)), some (ji 0)] [] zs15 (qI Q) else Q 0 zs15)))) else Q 0 zs7))))) : TrI n i_Tape_readGiven [jo 8 zo0, jo 10 zo1, ji zx2] σ Q := by
  refine Tr_of ax_Z_194 ?_
  show J n c_Tape_readGiven (some .boolean) 0 [some (jo 8 zo0), some (jo 10 zo1), some (ji zx2), none, none] [] σ (qI Q)
  obtain ⟨zg1, W⟩ := W
  refine J_aload_no (pc' := 1) rfl rfl zg1 rfl ?_
  refine J_getI (G := 10001) (pc' := 4) rfl rfl (Nat.le_of_ble_eq_true rfl) rfl zg1 rfl ?_
  refine J_istore_n (L' := [some (jo 8 zo0), some (jo 10 zo1), some (ji zx2), some (ji (rs σ 10001 zo1)), none]) (pc' := 5) rfl (Nat.le_of_ble_eq_true rfl) rfl rfl ?_
  refine J_iload_n (pc' := 6) rfl rfl rfl ?_
  refine J_bipush (pc' := 8) rfl (by decide) (by decide) rfl ?_
  refine J_icmp (P := rs σ 10001 zo1 = 24) (t := 24) (f := 11) rfl rfl rfl jc_eq W (fun W => ?_) (fun W => ?_)
  · refine J_iconst (pc' := 25) rfl (i32_d rfl) rfl ?_
    exact J_zret rfl rfl (Or.inl rfl) ⟨_, rfl, W⟩
  · obtain ⟨zg2, W⟩ := W
    refine J_aload_no (pc' := 12) rfl rfl zg2 rfl ?_
    refine J_aload_no (pc' := 13) rfl rfl zg1 rfl ?_
    refine J_iload_n (pc' := 14) rfl rfl rfl ?_
    refine J_iconst (pc' := 15) rfl (i32_d rfl) rfl ?_
    obtain ⟨zg3, W⟩ := W
    refine J_callO (as := [jo 10 zo1, ji (rs σ 10001 zo1), ji 0]) (rest := [jo 8 zo0]) (pc' := 18) rfl rfl ax_Z_230 rfl rfl (Or.inr (Or.inr ⟨_, _, rfl, zg1⟩)) (Nat.le_of_ble_eq_true rfl) (Nat.le_of_ble_eq_true rfl) (Nat.le_of_ble_eq_true rfl) zg3 trivial trivial rfl W (fun zr5 zs4 zh6 W => ?_)
    refine J_callI (as := [jo 8 zo0, jo 0 zr5]) (rest := []) (pc' := 21) rfl rfl ax_Z_190 rfl rfl (Or.inr (Or.inr ⟨_, _, rfl, zg2⟩)) (Nat.le_of_ble_eq_true rfl) (Nat.le_of_ble_eq_true rfl) (Nat.le_of_ble_eq_true rfl) zg3 trivial trivial rfl W (fun zr8 zs7 W => ?_)
    refine J_if (P := ¬ zr8 = 0) (t := 26) (f := 24) rfl rfl rfl jc_ne W (fun W => ?_) (fun W => ?_)
    · refine J_iconst (pc' := 27) rfl (i32_d rfl) rfl ?_
      refine J_istore (L' := [some (jo 8 zo0), some (jo 10 zo1), some (ji zx2), some (ji (rs σ 10001 zo1)), some (ji 0)]) (pc' := 29) rfl (Nat.le_of_ble_eq_true rfl) rfl rfl ?_
      refine J_aload_no (pc' := 30) rfl rfl zg2 rfl ?_
      refine J_bipush (pc' := 32) rfl (by decide) (by decide) rfl ?_
      refine J_callI (as := [jo 8 zo0, ji 60]) (rest := []) (pc' := 35) rfl rfl ax_Z_186 rfl rfl (Or.inr (Or.inr ⟨_, _, rfl, zg2⟩)) (Nat.le_of_ble_eq_true rfl) (Nat.le_of_ble_eq_true rfl) (Nat.le_of_ble_eq_true rfl) zg3 trivial trivial rfl W (fun zr10 zs9 W => ?_)
      refine J_if (P := zr10 = 0) (t := 83) (f := 38) rfl rfl rfl jc_eq W (fun W => ?_) (fun W => ?_)
      · refine J_aload_no (pc' := 84) rfl rfl zg2 rfl ?_
        refine J_bipush (pc' := 86) rfl (by decide) (by decide) rfl ?_
        refine J_weak (L' := [none, some (jo 10 zo1), some (ji zx2), none, some (ji 0)]) (And.intro rfl (And.intro rfl (And.intro rfl trivial))) ?_
        refine J_callI (as := [jo 8 zo0, ji 59]) (rest := []) (pc' := 89) rfl rfl ax_Z_186 rfl rfl (Or.inr (Or.inr ⟨_, _, rfl, zg2⟩)) (Nat.le_of_ble_eq_true rfl) (Nat.le_of_ble_eq_true rfl) (Nat.le_of_ble_eq_true rfl) zg3 trivial trivial rfl W (fun zr12 zs11 W => ?_)
        refine J_if (P := ¬ zr12 = 0) (t := 94) (f := 92) rfl rfl rfl jc_ne W (fun W => ?_) (fun W => ?_)
        · refine J_aload_no (pc' := 95) rfl rfl zg1 rfl ?_
          refine J_iload_n (pc' := 96) rfl rfl rfl ?_
          refine J_iload (pc' := 98) rfl rfl rfl ?_
          refine J_weak (L' := [none, none, none, none, none]) trivial ?_
          refine J_callV (as := [jo 10 zo1, ji zx2, ji 0]) (rest := []) (pc' := 101) rfl rfl ax_Z_229 rfl rfl (Or.inr (Or.inr ⟨_, _, rfl, zg1⟩)) (Nat.le_of_ble_eq_true rfl) (Nat.le_of_ble_eq_true rfl) (Nat.le_of_ble_eq_true rfl) zg3 trivial trivial rfl W (fun zs13 W => ?_)
          refine J_iconst (pc' := 102) rfl (i32_d rfl) rfl ?_
          exact J_zret rfl rfl (Or.inr rfl) ⟨_, rfl, W⟩
        · refine J_iconst (pc' := 93) rfl (i32_d rfl) rfl ?_
          exact J_zret rfl rfl (Or.inl rfl) ⟨_, rfl, W⟩
      · refine J_aload_no (pc' := 39) rfl rfl zg2 rfl ?_
        refine J_bipush (pc' := 41) rfl (by decide) (by decide) rfl ?_
        refine J_callI (as := [jo 8 zo0, ji 45]) (rest := []) (pc' := 44) rfl rfl ax_Z_186 rfl rfl (Or.inr (Or.inr ⟨_, _, rfl, zg2⟩)) (Nat.le_of_ble_eq_true rfl) (Nat.le_of_ble_eq_true rfl) (Nat.le_of_ble_eq_true rfl) zg3 trivial trivial rfl W (fun zr16 zs15 W => ?_)
        refine J_if (P := ¬ zr16 = 0) (t := 49) (f := 47) rfl rfl rfl jc_ne W (fun W => ?_) (fun W => ?_)
        · exact W
        · refine J_iconst (pc' := 48) rfl (i32_d rfl) rfl ?_
          exact J_zret rfl rfl (Or.inl rfl) ⟨_, rfl, W⟩
    · refine J_iconst (pc' := 25) rfl (i32_d rfl) rfl ?_
      exact J_zret rfl rfl (Or.inl rfl) ⟨_, rfl, W⟩
theorem wp_Tape_readGiven_49 {n : Nat} {σ : jS} {Q : Int → jS → Prop} {zo0 : Int} {zo1 : Int} {zx2 : Int} {zx3 : Int} {zx4 : Int} (W : i32 (zx4 + 1) ∧ 0 ≤ zo0 ∧ 0 ≤ zo1 ∧ 1 ≤ n ∧ TrO (n - 1) i_Text_part 0 [jo 10 zo1, ji zx3, ji (zx4 + 1)] σ (fun zr6 zs5 => TrI (n - 1) i_Tape_readOne [jo 8 zo0, jo 0 zr6] zs5 (fun zr9 zs8 => (if ¬ zr9 = 0 then (if 4 ≤ zx4 + 1 then TrI (n - 1) i_Tape_passed [jo 8 zo0, ji 59] zs8 (fun zr11 zs10 => (if ¬ zr11 = 0 then TrV (n - 1) i_Text_addGiven [jo 10 zo1, ji zx2, ji (zx4 + 1)] zs10 (fun zs12 => Q 1 zs12) else Q 0 zs10)) else TrI (n - 1) i_Tape_passed [jo 8 zo0, ji 44] zs8 (fun zr15 zs14 => (if ¬ zr15 = 0 then J n c_Tape_readGiven (some .boolean) 49 [some (jo 8 zo0), some (jo 10 zo1), some (ji zx2), some (ji zx3), some (ji (zx4 + 1))] [] zs14 (qI Q) else TrI (n - 1) i_Tape_passed [jo 8 zo0, ji 59] zs14 (fun zr17 zs16 => (if ¬ zr17 = 0 then TrV (n - 1) i_Text_addGiven [jo 10 zo1, ji zx2, ji (zx4 + 1)] zs16 (fun zs18 => Q 1 zs18) else Q 0 zs16))))) else Q 0 zs8)))) : J n c_Tape_readGiven (some .boolean) 49 [some (jo 8 zo0), some (jo 10 zo1), some (ji zx2), some (ji zx3), some (ji zx4)] [] σ (qI Q) := by
  obtain ⟨zg1, W⟩ := W
  refine J_iinc (L' := [some (jo 8 zo0), some (jo 10 zo1), some (ji zx2), some (ji zx3), some (ji (zx4 + 1))]) (pc' := 52) rfl rfl zg1 rfl rfl ?_
  obtain ⟨zg2, W⟩ := W
  refine J_aload_no (pc' := 53) rfl rfl zg2 rfl ?_
  obtain ⟨zg3, W⟩ := W
  refine J_aload_no (pc' := 54) rfl rfl zg3 rfl ?_
  refine J_iload_n (pc' := 55) rfl rfl rfl ?_
  refine J_iload (pc' := 57) rfl rfl rfl ?_
  obtain ⟨zg4, W⟩ := W
  refine J_callO (as := [jo 10 zo1, ji zx3, ji (zx4 + 1)]) (rest := [jo 8 zo0]) (pc' := 60) rfl rfl ax_Z_230 rfl rfl (Or.inr (Or.inr ⟨_, _, rfl, zg3⟩)) (Nat.le_of_ble_eq_true rfl) (Nat.le_of_ble_eq_true rfl) (Nat.le_of_ble_eq_true rfl) zg4 trivial trivial rfl W (fun zr6 zs5 zh7 W => ?_)
  refine J_callI (as := [jo 8 zo0, jo 0 zr6]) (rest := []) (pc' := 63) rfl rfl ax_Z_190 rfl rfl (Or.inr (Or.inr ⟨_, _, rfl, zg2⟩)) (Nat.le_of_ble_eq_true rfl) (Nat.le_of_ble_eq_true rfl) (Nat.le_of_ble_eq_true rfl) zg4 trivial trivial rfl W (fun zr9 zs8 W => ?_)
  refine J_if (P := ¬ zr9 = 0) (t := 68) (f := 66) rfl rfl rfl jc_ne W (fun W => ?_) (fun W => ?_)
  · refine J_iload (pc' := 70) rfl rfl rfl ?_
    refine J_iconst (pc' := 71) rfl (i32_d rfl) rfl ?_
    refine J_icmp (P := 4 ≤ zx4 + 1) (t := 83) (f := 74) rfl rfl rfl jc_ge W (fun W => ?_) (fun W => ?_)
    · refine J_aload_no (pc' := 84) rfl rfl zg2 rfl ?_
      refine J_bipush (pc' := 86) rfl (by decide) (by decide) rfl ?_
      refine J_weak (L' := [none, some (jo 10 zo1), some (ji zx2), none, some (ji (zx4 + 1))]) (And.intro rfl (And.intro rfl (And.intro rfl trivial))) ?_
      refine J_callI (as := [jo 8 zo0, ji 59]) (rest := []) (pc' := 89) rfl rfl ax_Z_186 rfl rfl (Or.inr (Or.inr ⟨_, _, rfl, zg2⟩)) (Nat.le_of_ble_eq_true rfl) (Nat.le_of_ble_eq_true rfl) (Nat.le_of_ble_eq_true rfl) zg4 trivial trivial rfl W (fun zr11 zs10 W => ?_)
      refine J_if (P := ¬ zr11 = 0) (t := 94) (f := 92) rfl rfl rfl jc_ne W (fun W => ?_) (fun W => ?_)
      · refine J_aload_no (pc' := 95) rfl rfl zg3 rfl ?_
        refine J_iload_n (pc' := 96) rfl rfl rfl ?_
        refine J_iload (pc' := 98) rfl rfl rfl ?_
        refine J_weak (L' := [none, none, none, none, none]) trivial ?_
        refine J_callV (as := [jo 10 zo1, ji zx2, ji (zx4 + 1)]) (rest := []) (pc' := 101) rfl rfl ax_Z_229 rfl rfl (Or.inr (Or.inr ⟨_, _, rfl, zg3⟩)) (Nat.le_of_ble_eq_true rfl) (Nat.le_of_ble_eq_true rfl) (Nat.le_of_ble_eq_true rfl) zg4 trivial trivial rfl W (fun zs12 W => ?_)
        refine J_iconst (pc' := 102) rfl (i32_d rfl) rfl ?_
        exact J_zret rfl rfl (Or.inr rfl) ⟨_, rfl, W⟩
      · refine J_iconst (pc' := 93) rfl (i32_d rfl) rfl ?_
        exact J_zret rfl rfl (Or.inl rfl) ⟨_, rfl, W⟩
    · refine J_aload_no (pc' := 75) rfl rfl zg2 rfl ?_
      refine J_bipush (pc' := 77) rfl (by decide) (by decide) rfl ?_
      refine J_callI (as := [jo 8 zo0, ji 44]) (rest := []) (pc' := 80) rfl rfl ax_Z_186 rfl rfl (Or.inr (Or.inr ⟨_, _, rfl, zg2⟩)) (Nat.le_of_ble_eq_true rfl) (Nat.le_of_ble_eq_true rfl) (Nat.le_of_ble_eq_true rfl) zg4 trivial trivial rfl W (fun zr15 zs14 W => ?_)
      refine J_if (P := ¬ zr15 = 0) (t := 49) (f := 83) rfl rfl rfl jc_ne W (fun W => ?_) (fun W => ?_)
      · exact W
      · refine J_aload_no (pc' := 84) rfl rfl zg2 rfl ?_
        refine J_bipush (pc' := 86) rfl (by decide) (by decide) rfl ?_
        refine J_weak (L' := [none, some (jo 10 zo1), some (ji zx2), none, some (ji (zx4 + 1))]) (And.intro rfl (And.intro rfl (And.intro rfl trivial))) ?_
        refine J_callI (as := [jo 8 zo0, ji 59]) (rest := []) (pc' := 89) rfl rfl ax_Z_186 rfl rfl (Or.inr (Or.inr ⟨_, _, rfl, zg2⟩)) (Nat.le_of_ble_eq_true rfl) (Nat.le_of_ble_eq_true rfl) (Nat.le_of_ble_eq_true rfl) zg4 trivial trivial rfl W (fun zr17 zs16 W => ?_)
        refine J_if (P := ¬ zr17 = 0) (t := 94) (f := 92) rfl rfl rfl jc_ne W (fun W => ?_) (fun W => ?_)
        · refine J_aload_no (pc' := 95) rfl rfl zg3 rfl ?_
          refine J_iload_n (pc' := 96) rfl rfl rfl ?_
          refine J_iload (pc' := 98) rfl rfl rfl ?_
          refine J_weak (L' := [none, none, none, none, none]) trivial ?_
          refine J_callV (as := [jo 10 zo1, ji zx2, ji (zx4 + 1)]) (rest := []) (pc' := 101) rfl rfl ax_Z_229 rfl rfl (Or.inr (Or.inr ⟨_, _, rfl, zg3⟩)) (Nat.le_of_ble_eq_true rfl) (Nat.le_of_ble_eq_true rfl) (Nat.le_of_ble_eq_true rfl) zg4 trivial trivial rfl W (fun zs18 W => ?_)
          refine J_iconst (pc' := 102) rfl (i32_d rfl) rfl ?_
          exact J_zret rfl rfl (Or.inr rfl) ⟨_, rfl, W⟩
        · refine J_iconst (pc' := 93) rfl (i32_d rfl) rfl ?_
          exact J_zret rfl rfl (Or.inl rfl) ⟨_, rfl, W⟩
  · refine J_iconst (pc' := 67) rfl (i32_d rfl) rfl ?_
    exact J_zret rfl rfl (Or.inl rfl) ⟨_, rfl, W⟩
theorem wp_Terms_init {n : Nat} {σ : jS} {Q : jS → Prop} {zo0 : Int} (W : 0 ≤ zo0 ∧ 1 ≤ n ∧ (∀ zs3, zs3 = nA σ 0 256 → (∀ zs4, zs4 = mA zs3 0 9003 zo0 → (∀ zs5, zs5 = nA zs4 0 256 → (∀ zs6, zs6 = mA zs5 0 9004 zo0 → (∀ zs7, zs7 = nA zs6 0 768 → (∀ zs8, zs8 = mA zs7 0 9005 zo0 → (∀ zs9, zs9 = nA zs8 0 256 → (∀ zs10, zs10 = mA zs9 0 9006 zo0 → (∀ zs11, zs11 = nA zs10 0 256 → (∀ zs12, zs12 = mA zs11 0 9007 zo0 → (∀ zs13, zs13 = nA zs12 0 2048 → rl zs13 9008 zo0 < 0 ∧ (∀ zs14, zs14 = mA zs13 0 9008 zo0 → (∀ zs16, zs16 = nA zs14 0 2048 → rl zs16 9009 zo0 < 0 ∧ (∀ zs17, zs17 = mA zs16 0 9009 zo0 → (∀ zs19, zs19 = nA zs17 0 26 → rl zs19 9010 zo0 < 0 ∧ (∀ zs20, zs20 = mA zs19 0 9010 zo0 → (∀ zs22, zs22 = nA zs20 0 100 → rl zs22 9011 zo0 < 0 ∧ (∀ zs23, zs23 = mA zs22 0 9011 zo0 → Q zs23))))))))))))))))))) : TrV n i_Terms_init [jo 9 zo0] σ Q := by
  refine Tr_of ax_Z_195 ?_
  show J n c_Terms_init none 0 [some (jo 9 zo0)] [] σ (qV Q)
  obtain ⟨zg1, W⟩ := W
  refine J_aload_no (pc' := 1) rfl rfl zg1 rfl ?_
  obtain ⟨zg2, W⟩ := W
  refine J_oinit (pc' := 4) rfl zg1 zg2 (Nat.le_of_ble_eq_true rfl) rfl ?_
  refine J_aload_no (pc' := 5) rfl rfl zg1 rfl ?_
  refine J_sipush (pc' := 8) rfl (by decide) (by decide) rfl ?_
  refine J_newa (pc' := 10) rfl (by decide) (by decide) (by decide) trivial trivial rfl (fun zs3 ezs3 => ?_)
  replace W := W zs3 ezs3
  refine J_putT (G := 9003) (t := 0) (pc' := 13) rfl rfl (Nat.le_of_ble_eq_true rfl) rfl rfl rfl zg1 (Or.inl rfl) trivial trivial trivial trivial rfl (fun zs4 ezs4 => ?_)
  replace W := W zs4 ezs4
  refine J_aload_no (pc' := 14) rfl rfl zg1 rfl ?_
  refine J_sipush (pc' := 17) rfl (by decide) (by decide) rfl ?_
  refine J_newa (pc' := 19) rfl (by decide) (by decide) (by decide) trivial trivial rfl (fun zs5 ezs5 => ?_)
  replace W := W zs5 ezs5
  refine J_putT (G := 9004) (t := 0) (pc' := 22) rfl rfl (Nat.le_of_ble_eq_true rfl) rfl rfl rfl zg1 (Or.inl rfl) trivial trivial trivial trivial rfl (fun zs6 ezs6 => ?_)
  replace W := W zs6 ezs6
  refine J_aload_no (pc' := 23) rfl rfl zg1 rfl ?_
  refine J_sipush (pc' := 26) rfl (by decide) (by decide) rfl ?_
  refine J_newa (pc' := 28) rfl (by decide) (by decide) (by decide) trivial trivial rfl (fun zs7 ezs7 => ?_)
  replace W := W zs7 ezs7
  refine J_putT (G := 9005) (t := 0) (pc' := 31) rfl rfl (Nat.le_of_ble_eq_true rfl) rfl rfl rfl zg1 (Or.inl rfl) trivial trivial trivial trivial rfl (fun zs8 ezs8 => ?_)
  replace W := W zs8 ezs8
  refine J_aload_no (pc' := 32) rfl rfl zg1 rfl ?_
  refine J_sipush (pc' := 35) rfl (by decide) (by decide) rfl ?_
  refine J_newa (pc' := 37) rfl (by decide) (by decide) (by decide) trivial trivial rfl (fun zs9 ezs9 => ?_)
  replace W := W zs9 ezs9
  refine J_putT (G := 9006) (t := 0) (pc' := 40) rfl rfl (Nat.le_of_ble_eq_true rfl) rfl rfl rfl zg1 (Or.inl rfl) trivial trivial trivial trivial rfl (fun zs10 ezs10 => ?_)
  replace W := W zs10 ezs10
  refine J_aload_no (pc' := 41) rfl rfl zg1 rfl ?_
  refine J_sipush (pc' := 44) rfl (by decide) (by decide) rfl ?_
  refine J_newa (pc' := 46) rfl (by decide) (by decide) (by decide) trivial trivial rfl (fun zs11 ezs11 => ?_)
  replace W := W zs11 ezs11
  refine J_putT (G := 9007) (t := 0) (pc' := 49) rfl rfl (Nat.le_of_ble_eq_true rfl) rfl rfl rfl zg1 (Or.inl rfl) trivial trivial trivial trivial rfl (fun zs12 ezs12 => ?_)
  replace W := W zs12 ezs12
  refine J_aload_no (pc' := 50) rfl rfl zg1 rfl ?_
  refine J_sipush (pc' := 53) rfl (by decide) (by decide) rfl ?_
  refine J_newa (pc' := 55) rfl (by decide) (by decide) (by decide) trivial trivial rfl (fun zs13 ezs13 => ?_)
  replace W := W zs13 ezs13
  obtain ⟨zg15, W⟩ := W
  refine J_putT (G := 9008) (t := 0) (pc' := 58) rfl rfl (Nat.le_of_ble_eq_true rfl) rfl rfl rfl zg1 (Or.inr zg15) trivial trivial trivial trivial rfl (fun zs14 ezs14 => ?_)
  replace W := W zs14 ezs14
  refine J_aload_no (pc' := 59) rfl rfl zg1 rfl ?_
  refine J_sipush (pc' := 62) rfl (by decide) (by decide) rfl ?_
  refine J_newa (pc' := 64) rfl (by decide) (by decide) (by decide) trivial trivial rfl (fun zs16 ezs16 => ?_)
  replace W := W zs16 ezs16
  obtain ⟨zg18, W⟩ := W
  refine J_putT (G := 9009) (t := 0) (pc' := 67) rfl rfl (Nat.le_of_ble_eq_true rfl) rfl rfl rfl zg1 (Or.inr zg18) trivial trivial trivial trivial rfl (fun zs17 ezs17 => ?_)
  replace W := W zs17 ezs17
  refine J_aload_no (pc' := 68) rfl rfl zg1 rfl ?_
  refine J_bipush (pc' := 70) rfl (by decide) (by decide) rfl ?_
  refine J_newa (pc' := 72) rfl (by decide) (by decide) (by decide) trivial trivial rfl (fun zs19 ezs19 => ?_)
  replace W := W zs19 ezs19
  obtain ⟨zg21, W⟩ := W
  refine J_putT (G := 9010) (t := 0) (pc' := 75) rfl rfl (Nat.le_of_ble_eq_true rfl) rfl rfl rfl zg1 (Or.inr zg21) trivial trivial trivial trivial rfl (fun zs20 ezs20 => ?_)
  replace W := W zs20 ezs20
  refine J_aload_no (pc' := 76) rfl rfl zg1 rfl ?_
  refine J_bipush (pc' := 78) rfl (by decide) (by decide) rfl ?_
  refine J_newa (pc' := 80) rfl (by decide) (by decide) (by decide) trivial trivial rfl (fun zs22 ezs22 => ?_)
  replace W := W zs22 ezs22
  obtain ⟨zg24, W⟩ := W
  refine J_putT (G := 9011) (t := 0) (pc' := 83) rfl rfl (Nat.le_of_ble_eq_true rfl) rfl rfl rfl zg1 (Or.inr zg24) trivial trivial trivial trivial rfl (fun zs23 ezs23 => ?_)
  replace W := W zs23 ezs23
  exact J_vret rfl rfl ⟨rfl, W⟩
theorem wp_Terms_clear {n : Nat} {σ : jS} {Q : jS → Prop} {zo0 : Int} (W : 0 ≤ zo0 ∧ (∀ zs2, zs2 = ws σ 9000 zo0 0 → (∀ zs3, zs3 = ws zs2 9001 zo0 0 → (∀ zs4, zs4 = ws zs3 9002 zo0 0 → Q zs4)))) : TrV n i_Terms_clear [jo 9 zo0] σ Q := by
  refine Tr_of ax_Z_196 ?_
  show J n c_Terms_clear none 0 [some (jo 9 zo0)] [] σ (qV Q)
  obtain ⟨zg1, W⟩ := W
  refine J_aload_no (pc' := 1) rfl rfl zg1 rfl ?_
  refine J_iconst (pc' := 2) rfl (i32_d rfl) rfl ?_
  refine J_putI (G := 9000) (pc' := 5) rfl rfl (Nat.le_of_ble_eq_true rfl) rfl rfl zg1 rfl (fun zs2 ezs2 => ?_)
  replace W := W zs2 ezs2
  refine J_aload_no (pc' := 6) rfl rfl zg1 rfl ?_
  refine J_iconst (pc' := 7) rfl (i32_d rfl) rfl ?_
  refine J_putI (G := 9001) (pc' := 10) rfl rfl (Nat.le_of_ble_eq_true rfl) rfl rfl zg1 rfl (fun zs3 ezs3 => ?_)
  replace W := W zs3 ezs3
  refine J_aload_no (pc' := 11) rfl rfl zg1 rfl ?_
  refine J_iconst (pc' := 12) rfl (i32_d rfl) rfl ?_
  refine J_putI (G := 9002) (pc' := 15) rfl rfl (Nat.le_of_ble_eq_true rfl) rfl rfl zg1 rfl (fun zs4 ezs4 => ?_)
  replace W := W zs4 ezs4
  exact J_vret rfl rfl ⟨rfl, W⟩
theorem wp_Terms_signOf {n : Nat} {σ : jS} {Q : Int → jS → Prop} {zo0 : Int} {zx1 : Int} (W : (if zx1 < 0 then Q (-1) σ else 0 ≤ zo0 ∧ (if rs σ 9000 zo0 ≤ zx1 then Q (-1) σ else 0 ≤ rl σ 9003 zo0 ∧ (if rl σ 9003 zo0 ≤ zx1 then Q (-1) σ else 0 ≤ zx1 ∧ zx1 < rl σ 9003 zo0 ∧ Q (ra σ 9003 zo0 zx1) σ)))) : TrI n i_Terms_signOf [jo 9 zo0, ji zx1] σ Q := by
  refine Tr_of ax_Z_197 ?_
  show J n c_Terms_signOf (some .int) 0 [some (jo 9 zo0), some (ji zx1)] [] σ (qI Q)
  refine J_iload_n (pc' := 1) rfl rfl rfl ?_
  refine J_if (P := zx1 < 0) (t := 30) (f := 4) rfl rfl rfl jc_lt W (fun W => ?_) (fun W => ?_)
  · refine J_iconst (pc' := 31) rfl (i32_d rfl) rfl ?_
    exact J_iret rfl rfl ⟨_, rfl, W⟩
  · refine J_iload_n (pc' := 5) rfl rfl rfl ?_
    obtain ⟨zg1, W⟩ := W
    refine J_aload_no (pc' := 6) rfl rfl zg1 rfl ?_
    refine J_getI (G := 9000) (pc' := 9) rfl rfl (Nat.le_of_ble_eq_true rfl) rfl zg1 rfl ?_
    refine J_icmp (P := rs σ 9000 zo0 ≤ zx1) (t := 30) (f := 12) rfl rfl rfl jc_ge W (fun W => ?_) (fun W => ?_)
    · refine J_iconst (pc' := 31) rfl (i32_d rfl) rfl ?_
      exact J_iret rfl rfl ⟨_, rfl, W⟩
    · refine J_iload_n (pc' := 13) rfl rfl rfl ?_
      refine J_aload_no (pc' := 14) rfl rfl zg1 rfl ?_
      obtain ⟨zg2, W⟩ := W
      refine J_getA (G := 9003) (pc' := 17) rfl rfl (Nat.le_of_ble_eq_true rfl) rfl zg1 zg2 rfl ?_
      refine J_alen (pc' := 18) rfl (by decide) rfl ?_
      refine J_icmp (P := rl σ 9003 zo0 ≤ zx1) (t := 30) (f := 21) rfl rfl rfl jc_ge W (fun W => ?_) (fun W => ?_)
      · refine J_iconst (pc' := 31) rfl (i32_d rfl) rfl ?_
        exact J_iret rfl rfl ⟨_, rfl, W⟩
      · refine J_aload_no (pc' := 22) rfl rfl zg1 rfl ?_
        refine J_getA (G := 9003) (pc' := 25) rfl rfl (Nat.le_of_ble_eq_true rfl) rfl zg1 zg2 rfl ?_
        refine J_iload_n (pc' := 26) rfl rfl rfl ?_
        obtain ⟨zg3, W⟩ := W
        obtain ⟨zg4, W⟩ := W
        refine J_iald (pc' := 27) rfl rfl zg3 zg4 rfl ?_
        refine J_goto (pc' := 31) rfl rfl ?_
        exact J_iret rfl rfl ⟨_, rfl, W⟩
theorem wp_Terms_isUnknown {n : Nat} {σ : jS} {Q : Int → jS → Prop} {zo0 : Int} {zx1 : Int} (W : 0 ≤ zo0 ∧ 1 ≤ n ∧ TrI (n - 1) i_Terms_signOf [jo 9 zo0, ji zx1] σ (fun zr4 zs3 => (if ¬ zr4 = 104 then Q 0 zs3 else Q 1 zs3))) : TrI n i_Terms_isUnknown [jo 9 zo0, ji zx1] σ Q := by
  refine Tr_of ax_Z_198 ?_
  show J n c_Terms_isUnknown (some .boolean) 0 [some (jo 9 zo0), some (ji zx1)] [] σ (qI Q)
  obtain ⟨zg1, W⟩ := W
  refine J_aload_no (pc' := 1) rfl rfl zg1 rfl ?_
  refine J_iload_n (pc' := 2) rfl rfl rfl ?_
  obtain ⟨zg2, W⟩ := W
  refine J_weak (L' := [none, none]) trivial ?_
  refine J_callI (as := [jo 9 zo0, ji zx1]) (rest := []) (pc' := 5) rfl rfl ax_Z_197 rfl rfl (Or.inr (Or.inr ⟨_, _, rfl, zg1⟩)) (Nat.le_of_ble_eq_true rfl) (Nat.le_of_ble_eq_true rfl) (Nat.le_of_ble_eq_true rfl) zg2 trivial trivial rfl W (fun zr4 zs3 W => ?_)
  refine J_bipush (pc' := 7) rfl (by decide) (by decide) rfl ?_
  refine J_icmp (P := ¬ zr4 = 104) (t := 14) (f := 10) rfl rfl rfl jc_ne W (fun W => ?_) (fun W => ?_)
  · refine J_iconst (pc' := 15) rfl (i32_d rfl) rfl ?_
    exact J_zret rfl rfl (Or.inl rfl) ⟨_, rfl, W⟩
  · refine J_iconst (pc' := 11) rfl (i32_d rfl) rfl ?_
    refine J_goto (pc' := 15) rfl rfl ?_
    exact J_zret rfl rfl (Or.inr rfl) ⟨_, rfl, W⟩
theorem wp_Terms_partOf {n : Nat} {σ : jS} {Q : Int → jS → Prop} {zo0 : Int} {zx1 : Int} {zx2 : Int} (W : i32 (zx1 * 3) ∧ i32 ((zx1 * 3) + zx2) ∧ (if zx1 < 0 then Q (-1) σ else 0 ≤ zo0 ∧ (if rs σ 9000 zo0 ≤ zx1 then Q (-1) σ else (if zx2 < 0 then Q (-1) σ else 0 ≤ rl σ 9005 zo0 ∧ (if rl σ 9005 zo0 ≤ (zx1 * 3) + zx2 then Q (-1) σ else 0 ≤ (zx1 * 3) + zx2 ∧ (zx1 * 3) + zx2 < rl σ 9005 zo0 ∧ Q (ra σ 9005 zo0 ((zx1 * 3) + zx2)) σ))))) : TrI n i_Terms_partOf [jo 9 zo0, ji zx1, ji zx2] σ Q := by
  refine Tr_of ax_Z_199 ?_
  show J n c_Terms_partOf (some .int) 0 [some (jo 9 zo0), some (ji zx1), some (ji zx2), none] [] σ (qI Q)
  refine J_iload_n (pc' := 1) rfl rfl rfl ?_
  refine J_iconst (pc' := 2) rfl (i32_d rfl) rfl ?_
  obtain ⟨zg1, W⟩ := W
  refine J_imul (pc' := 3) rfl zg1 rfl ?_
  refine J_iload_n (pc' := 4) rfl rfl rfl ?_
  obtain ⟨zg2, W⟩ := W
  refine J_iadd (pc' := 5) rfl zg2 rfl ?_
  refine J_istore_n (L' := [some (jo 9 zo0), some (ji zx1), some (ji zx2), some (ji ((zx1 * 3) + zx2))]) (pc' := 6) rfl (Nat.le_of_ble_eq_true rfl) rfl rfl ?_
  refine J_iload_n (pc' := 7) rfl rfl rfl ?_
  refine J_if (P := zx1 < 0) (t := 40) (f := 10) rfl rfl rfl jc_lt W (fun W => ?_) (fun W => ?_)
  · refine J_iconst (pc' := 41) rfl (i32_d rfl) rfl ?_
    exact J_iret rfl rfl ⟨_, rfl, W⟩
  · refine J_iload_n (pc' := 11) rfl rfl rfl ?_
    obtain ⟨zg3, W⟩ := W
    refine J_aload_no (pc' := 12) rfl rfl zg3 rfl ?_
    refine J_getI (G := 9000) (pc' := 15) rfl rfl (Nat.le_of_ble_eq_true rfl) rfl zg3 rfl ?_
    refine J_icmp (P := rs σ 9000 zo0 ≤ zx1) (t := 40) (f := 18) rfl rfl rfl jc_ge W (fun W => ?_) (fun W => ?_)
    · refine J_iconst (pc' := 41) rfl (i32_d rfl) rfl ?_
      exact J_iret rfl rfl ⟨_, rfl, W⟩
    · refine J_iload_n (pc' := 19) rfl rfl rfl ?_
      refine J_if (P := zx2 < 0) (t := 40) (f := 22) rfl rfl rfl jc_lt W (fun W => ?_) (fun W => ?_)
      · refine J_iconst (pc' := 41) rfl (i32_d rfl) rfl ?_
        exact J_iret rfl rfl ⟨_, rfl, W⟩
      · refine J_iload_n (pc' := 23) rfl rfl rfl ?_
        refine J_aload_no (pc' := 24) rfl rfl zg3 rfl ?_
        obtain ⟨zg4, W⟩ := W
        refine J_getA (G := 9005) (pc' := 27) rfl rfl (Nat.le_of_ble_eq_true rfl) rfl zg3 zg4 rfl ?_
        refine J_alen (pc' := 28) rfl (by decide) rfl ?_
        refine J_icmp (P := rl σ 9005 zo0 ≤ (zx1 * 3) + zx2) (t := 40) (f := 31) rfl rfl rfl jc_ge W (fun W => ?_) (fun W => ?_)
        · refine J_iconst (pc' := 41) rfl (i32_d rfl) rfl ?_
          exact J_iret rfl rfl ⟨_, rfl, W⟩
        · refine J_aload_no (pc' := 32) rfl rfl zg3 rfl ?_
          refine J_getA (G := 9005) (pc' := 35) rfl rfl (Nat.le_of_ble_eq_true rfl) rfl zg3 zg4 rfl ?_
          refine J_iload_n (pc' := 36) rfl rfl rfl ?_
          obtain ⟨zg5, W⟩ := W
          obtain ⟨zg6, W⟩ := W
          refine J_iald (pc' := 37) rfl rfl zg5 zg6 rfl ?_
          refine J_goto (pc' := 41) rfl rfl ?_
          exact J_iret rfl rfl ⟨_, rfl, W⟩
theorem wp_Terms_setPart {n : Nat} {σ : jS} {Q : jS → Prop} {zo0 : Int} {zx1 : Int} {zx2 : Int} {zx3 : Int} (W : i32 (zx1 * 3) ∧ i32 ((zx1 * 3) + zx2) ∧ (if zx1 < 0 then Q σ else 0 ≤ zo0 ∧ (if rs σ 9000 zo0 ≤ zx1 then Q σ else (if zx2 < 0 then Q σ else 0 ≤ rl σ 9005 zo0 ∧ (if rl σ 9005 zo0 ≤ (zx1 * 3) + zx2 then Q σ else 0 ≤ (zx1 * 3) + zx2 ∧ (zx1 * 3) + zx2 < rl σ 9005 zo0 ∧ (∀ zs5, zs5 = wa σ 9005 zo0 ((zx1 * 3) + zx2) zx3 → Q zs5)))))) : TrV n i_Terms_setPart [jo 9 zo0, ji zx1, ji zx2, ji zx3] σ Q := by
  refine Tr_of ax_Z_200 ?_
  show J n c_Terms_setPart none 0 [some (jo 9 zo0), some (ji zx1), some (ji zx2), some (ji zx3), none] [] σ (qV Q)
  refine J_iload_n (pc' := 1) rfl rfl rfl ?_
  refine J_iconst (pc' := 2) rfl (i32_d rfl) rfl ?_
  obtain ⟨zg1, W⟩ := W
  refine J_imul (pc' := 3) rfl zg1 rfl ?_
  refine J_iload_n (pc' := 4) rfl rfl rfl ?_
  obtain ⟨zg2, W⟩ := W
  refine J_iadd (pc' := 5) rfl zg2 rfl ?_
  refine J_istore (L' := [some (jo 9 zo0), some (ji zx1), some (ji zx2), some (ji zx3), some (ji ((zx1 * 3) + zx2))]) (pc' := 7) rfl (Nat.le_of_ble_eq_true rfl) rfl rfl ?_
  refine J_iload_n (pc' := 8) rfl rfl rfl ?_
  refine J_if (P := zx1 < 0) (t := 41) (f := 11) rfl rfl rfl jc_lt W (fun W => ?_) (fun W => ?_)
  · exact J_vret rfl rfl ⟨rfl, W⟩
  · refine J_iload_n (pc' := 12) rfl rfl rfl ?_
    obtain ⟨zg3, W⟩ := W
    refine J_aload_no (pc' := 13) rfl rfl zg3 rfl ?_
    refine J_getI (G := 9000) (pc' := 16) rfl rfl (Nat.le_of_ble_eq_true rfl) rfl zg3 rfl ?_
    refine J_icmp (P := rs σ 9000 zo0 ≤ zx1) (t := 41) (f := 19) rfl rfl rfl jc_ge W (fun W => ?_) (fun W => ?_)
    · exact J_vret rfl rfl ⟨rfl, W⟩
    · refine J_iload_n (pc' := 20) rfl rfl rfl ?_
      refine J_if (P := zx2 < 0) (t := 41) (f := 23) rfl rfl rfl jc_lt W (fun W => ?_) (fun W => ?_)
      · exact J_vret rfl rfl ⟨rfl, W⟩
      · refine J_iload (pc' := 25) rfl rfl rfl ?_
        refine J_aload_no (pc' := 26) rfl rfl zg3 rfl ?_
        obtain ⟨zg4, W⟩ := W
        refine J_getA (G := 9005) (pc' := 29) rfl rfl (Nat.le_of_ble_eq_true rfl) rfl zg3 zg4 rfl ?_
        refine J_alen (pc' := 30) rfl (by decide) rfl ?_
        refine J_icmp (P := rl σ 9005 zo0 ≤ (zx1 * 3) + zx2) (t := 41) (f := 33) rfl rfl rfl jc_ge W (fun W => ?_) (fun W => ?_)
        · exact J_vret rfl rfl ⟨rfl, W⟩
        · refine J_aload_no (pc' := 34) rfl rfl zg3 rfl ?_
          refine J_getA (G := 9005) (pc' := 37) rfl rfl (Nat.le_of_ble_eq_true rfl) rfl zg3 zg4 rfl ?_
          refine J_iload (pc' := 39) rfl rfl rfl ?_
          refine J_iload_n (pc' := 40) rfl rfl rfl ?_
          obtain ⟨zg6, W⟩ := W
          obtain ⟨zg7, W⟩ := W
          refine J_iast (pc' := 41) rfl rfl (by decide) zg6 zg7 rfl (fun zs5 ezs5 => ?_)
          replace W := W zs5 ezs5
          exact J_vret rfl rfl ⟨rfl, W⟩
theorem wp_Terms_grown {n : Nat} {σ : jS} {Q : Nat → Int → jS → Prop} {zF0 : Nat} {zp0 : Int} {zx1 : Int} (W : jt zF0 ≤ 4 ∧ i32 ((rl σ zF0 zp0) * 2) ∧ (if zx1 < (rl σ zF0 zp0) * 2 then Q zF0 zp0 σ else 1 ≤ n ∧ TrA (n - 1) i_Arrays_copyOf [ja zF0 zp0, ji ((rl σ zF0 zp0) * 2)] σ (fun zF6 zp7 zs4 => Q zF6 zp7 zs4))) : TrA n i_Terms_grown [ja zF0 zp0, ji zx1] σ Q := by
  refine Tr_of ax_Z_201 ?_
  show J n c_Terms_grown (some (.array .int)) 0 [some (ja zF0 zp0), some (ji zx1)] [] σ (qA Q)
  refine J_aload_na (pc' := 1) rfl rfl rfl ?_
  obtain ⟨zg1, W⟩ := W
  refine J_alen (pc' := 2) rfl zg1 rfl ?_
  refine J_iconst (pc' := 3) rfl (i32_d rfl) rfl ?_
  obtain ⟨zg2, W⟩ := W
  refine J_imul (pc' := 4) rfl zg2 rfl ?_
  refine J_iload_n (pc' := 5) rfl rfl rfl ?_
  refine J_icmp (P := zx1 < (rl σ zF0 zp0) * 2) (t := 19) (f := 8) rfl rfl rfl jc_gt W (fun W => ?_) (fun W => ?_)
  · refine J_aload_na (pc' := 20) rfl rfl rfl ?_
    exact J_aret rfl rfl ⟨_, _, rfl, W⟩
  · refine J_aload_na (pc' := 9) rfl rfl rfl ?_
    refine J_aload_na (pc' := 10) rfl rfl rfl ?_
    refine J_alen (pc' := 11) rfl zg1 rfl ?_
    refine J_iconst (pc' := 12) rfl (i32_d rfl) rfl ?_
    refine J_imul (pc' := 13) rfl zg2 rfl ?_
    obtain ⟨zg3, W⟩ := W
    refine J_weak (L' := [none, none]) trivial ?_
    refine J_callA (as := [ja zF0 zp0, ji ((rl σ zF0 zp0) * 2)]) (rest := []) (pc' := 16) rfl rfl ax_Z_113 rfl rfl (Or.inl rfl) (Nat.le_of_ble_eq_true rfl) (Nat.le_of_ble_eq_true rfl) (Nat.le_of_ble_eq_true rfl) zg3 trivial trivial rfl W (fun zF6 zp7 zs4 W => ?_)
    refine J_goto (pc' := 20) rfl rfl ?_
    exact J_aret rfl rfl ⟨_, _, rfl, W⟩
