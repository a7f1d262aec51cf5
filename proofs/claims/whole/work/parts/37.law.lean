/-! Rows that turn code into formulas (written by genwp.py). -/
set_option maxRecDepth 16000 in
theorem wp_law {n : Nat} {σ : jS} {Q : Int → jS → Prop}  (W : rk σ 12 < 2000000 ∧ 0 ≤ rk σ 12 ∧ (∀ zs1, zs1 = nO σ 12 → 1 ≤ n ∧ TrV (n - 1) i_Top_init [jo 12 (rk σ 12)] zs1 (fun zs5 => 0 ≤ rk σ 12 ∧ rk zs5 1 < 2000000 ∧ 0 ≤ rk zs5 1 ∧ (∀ zs8, zs8 = nO zs5 1 → TrV (n - 1) i_Model_init [jo 1 (rk zs5 1)] zs8 (fun zs11 => 0 ≤ rk zs5 1 ∧ J n ax_cL (some .boolean) 18 [some (ja 800000 0), some (jo 12 (rk σ 12)), some (jo 1 (rk zs5 1)), some (ji 0)] [] zs11 (qI Q)))))) : J n ax_cL (some .boolean) 0 [some (ja 800000 0), none, none, none] [] σ (qI Q) := by
  obtain ⟨zg2, W⟩ := W
  obtain ⟨zg3, W⟩ := W
  refine J_new (pc' := 3) rfl zg2 rfl (fun zs1 ezs1 => ?_)
  replace W := W zs1 ezs1
  refine J_dup (pc' := 4) rfl rfl rfl ?_
  obtain ⟨zg4, W⟩ := W
  refine J_callV (as := [jo 12 (rk σ 12)]) (rest := [jo 12 (rk σ 12)]) (pc' := 7) rfl rfl ax_Z_251 rfl rfl (Or.inr (Or.inr ⟨_, _, rfl, zg3⟩)) (Nat.le_of_ble_eq_true rfl) (Nat.le_of_ble_eq_true rfl) (Nat.le_of_ble_eq_true rfl) zg4 (And.intro rfl trivial) trivial rfl W (fun zs5 W => ?_)
  obtain ⟨zg7, W⟩ := W
  refine J_astore_no (L' := [some (ja 800000 0), some (jo 12 (rk σ 12)), none, none]) (pc' := 8) rfl zg7 (Nat.le_of_ble_eq_true rfl) rfl rfl ?_
  obtain ⟨zg9, W⟩ := W
  obtain ⟨zg10, W⟩ := W
  refine J_new (pc' := 11) rfl zg9 rfl (fun zs8 ezs8 => ?_)
  replace W := W zs8 ezs8
  refine J_dup (pc' := 12) rfl rfl rfl ?_
  refine J_callV (as := [jo 1 (rk zs5 1)]) (rest := [jo 1 (rk zs5 1)]) (pc' := 15) rfl rfl ax_Z_51 rfl rfl (Or.inr (Or.inr ⟨_, _, rfl, zg10⟩)) (Nat.le_of_ble_eq_true rfl) (Nat.le_of_ble_eq_true rfl) (Nat.le_of_ble_eq_true rfl) zg4 (And.intro rfl trivial) trivial rfl W (fun zs11 W => ?_)
  obtain ⟨zg13, W⟩ := W
  refine J_astore_no (L' := [some (ja 800000 0), some (jo 12 (rk σ 12)), some (jo 1 (rk zs5 1)), none]) (pc' := 16) rfl zg13 (Nat.le_of_ble_eq_true rfl) rfl rfl ?_
  refine J_iconst (pc' := 17) rfl (i32_d rfl) rfl ?_
  refine J_istore_n (L' := [some (ja 800000 0), some (jo 12 (rk σ 12)), some (jo 1 (rk zs5 1)), some (ji 0)]) (pc' := 18) rfl (Nat.le_of_ble_eq_true rfl) rfl rfl ?_
  exact W
set_option maxRecDepth 16000 in
theorem wp_law_18 {n : Nat} {σ : jS} {Q : Int → jS → Prop} {zo1 : Int} {zo2 : Int} {zx3 : Int} (W : i32 ((rl σ 800000 0) - 6) ∧ (if (rl σ 800000 0) - 6 < zx3 then Q 1 σ else 0 ≤ zx3 ∧ zx3 < rl σ 800000 0 ∧ (if bAnd (ra σ 800000 0 zx3) 31 = 0 then 0 ≤ zo1 ∧ i32 (zx3 + 1) ∧ 0 ≤ zx3 + 1 ∧ zx3 + 1 < rl σ 800000 0 ∧ i32 (zx3 + 2) ∧ 0 ≤ zx3 + 2 ∧ zx3 + 2 < rl σ 800000 0 ∧ i32 (zx3 + 3) ∧ 0 ≤ zx3 + 3 ∧ zx3 + 3 < rl σ 800000 0 ∧ i32 (zx3 + 4) ∧ 0 ≤ zx3 + 4 ∧ zx3 + 4 < rl σ 800000 0 ∧ i32 (zx3 + 5) ∧ 0 ≤ zx3 + 5 ∧ zx3 + 5 < rl σ 800000 0 ∧ 1 ≤ n ∧ TrI (n - 1) i_Top_feed [jo 12 zo1, ji (ra σ 800000 0 (zx3 + 1)), ji (ra σ 800000 0 (zx3 + 2)), ji (ra σ 800000 0 (zx3 + 3)), ji (ra σ 800000 0 (zx3 + 4)), ji (ra σ 800000 0 (zx3 + 5))] σ (fun zr22 zs21 => 0 ≤ zo2 ∧ zx3 + 1 < rl zs21 800000 0 ∧ zx3 + 2 < rl zs21 800000 0 ∧ zx3 + 3 < rl zs21 800000 0 ∧ zx3 + 4 < rl zs21 800000 0 ∧ zx3 + 5 < rl zs21 800000 0 ∧ TrI (n - 1) i_Model_feed [jo 1 zo2, ji (ra zs21 800000 0 (zx3 + 1)), ji (ra zs21 800000 0 (zx3 + 2)), ji (ra zs21 800000 0 (zx3 + 3)), ji (ra zs21 800000 0 (zx3 + 4)), ji (ra zs21 800000 0 (zx3 + 5))] zs21 (fun zr30 zs29 => (if zr22 = zr30 then i32 (zx3 + 6) ∧ J n ax_cL (some .boolean) 18 [some (ja 800000 0), some (jo 12 zo1), some (jo 1 zo2), some (ji (zx3 + 6))] [] zs29 (qI Q) else Q 0 zs29))) else (if bAnd (ra σ 800000 0 zx3) 31 = 1 then 0 ≤ zo1 ∧ i32 (zx3 + 1) ∧ 0 ≤ zx3 + 1 ∧ zx3 + 1 < rl σ 800000 0 ∧ 1 ≤ n ∧ TrI (n - 1) i_Top_end [jo 12 zo1, ji (ra σ 800000 0 (zx3 + 1))] σ (fun zr38 zs37 => 0 ≤ zo2 ∧ zx3 + 1 < rl zs37 800000 0 ∧ TrI (n - 1) i_Model_end [jo 1 zo2, ji (ra zs37 800000 0 (zx3 + 1))] zs37 (fun zr42 zs41 => (if zr38 = zr42 then i32 (zx3 + 6) ∧ J n ax_cL (some .boolean) 18 [some (ja 800000 0), some (jo 12 zo1), some (jo 1 zo2), some (ji (zx3 + 6))] [] zs41 (qI Q) else Q 0 zs41))) else (if bAnd (ra σ 800000 0 zx3) 31 = 2 then 0 ≤ zo1 ∧ 1 ≤ n ∧ TrI (n - 1) i_Top_scopes [jo 12 zo1] σ (fun zr47 zs46 => 0 ≤ zo2 ∧ TrI (n - 1) i_Model_scopes [jo 1 zo2] zs46 (fun zr50 zs49 => (if zr47 = zr50 then i32 (zx3 + 6) ∧ J n ax_cL (some .boolean) 18 [some (ja 800000 0), some (jo 12 zo1), some (jo 1 zo2), some (ji (zx3 + 6))] [] zs49 (qI Q) else Q 0 zs49))) else (if bAnd (ra σ 800000 0 zx3) 31 = 3 then 0 ≤ zo1 ∧ 1 ≤ n ∧ TrI (n - 1) i_Top_fault [jo 12 zo1] σ (fun zr55 zs54 => 0 ≤ zo2 ∧ TrI (n - 1) i_Model_fault [jo 1 zo2] zs54 (fun zr58 zs57 => (if zr55 = zr58 then i32 (zx3 + 6) ∧ J n ax_cL (some .boolean) 18 [some (ja 800000 0), some (jo 12 zo1), some (jo 1 zo2), some (ji (zx3 + 6))] [] zs57 (qI Q) else Q 0 zs57))) else (if bAnd (ra σ 800000 0 zx3) 31 = 4 then 0 ≤ zo1 ∧ i32 (zx3 + 1) ∧ 0 ≤ zx3 + 1 ∧ zx3 + 1 < rl σ 800000 0 ∧ 1 ≤ n ∧ TrI (n - 1) i_Top_is [jo 12 zo1, ji (ra σ 800000 0 (zx3 + 1))] σ (fun zr66 zs65 => 0 ≤ zo2 ∧ zx3 + 1 < rl zs65 800000 0 ∧ TrI (n - 1) i_Model_is [jo 1 zo2, ji (ra zs65 800000 0 (zx3 + 1))] zs65 (fun zr70 zs69 => (if zr66 = zr70 then i32 (zx3 + 6) ∧ J n ax_cL (some .boolean) 18 [some (ja 800000 0), some (jo 12 zo1), some (jo 1 zo2), some (ji (zx3 + 6))] [] zs69 (qI Q) else Q 0 zs69))) else (if bAnd (ra σ 800000 0 zx3) 31 = 5 then 0 ≤ zo1 ∧ i32 (zx3 + 1) ∧ 0 ≤ zx3 + 1 ∧ zx3 + 1 < rl σ 800000 0 ∧ i32 (zx3 + 2) ∧ 0 ≤ zx3 + 2 ∧ zx3 + 2 < rl σ 800000 0 ∧ 1 ≤ n ∧ TrI (n - 1) i_Top_scope [jo 12 zo1, ji (ra σ 800000 0 (zx3 + 1)), ji (ra σ 800000 0 (zx3 + 2))] σ (fun zr81 zs80 => 0 ≤ zo2 ∧ zx3 + 1 < rl zs80 800000 0 ∧ zx3 + 2 < rl zs80 800000 0 ∧ TrI (n - 1) i_Model_scope [jo 1 zo2, ji (ra zs80 800000 0 (zx3 + 1)), ji (ra zs80 800000 0 (zx3 + 2))] zs80 (fun zr86 zs85 => (if zr81 = zr86 then i32 (zx3 + 6) ∧ J n ax_cL (some .boolean) 18 [some (ja 800000 0), some (jo 12 zo1), some (jo 1 zo2), some (ji (zx3 + 6))] [] zs85 (qI Q) else Q 0 zs85))) else (if bAnd (ra σ 800000 0 zx3) 31 = 6 then 0 ≤ zo1 ∧ i32 (zx3 + 1) ∧ 0 ≤ zx3 + 1 ∧ zx3 + 1 < rl σ 800000 0 ∧ i32 (zx3 + 2) ∧ 0 ≤ zx3 + 2 ∧ zx3 + 2 < rl σ 800000 0 ∧ 1 ≤ n ∧ TrI (n - 1) i_Top_given [jo 12 zo1, ji (ra σ 800000 0 (zx3 + 1)), ji (ra σ 800000 0 (zx3 + 2))] σ (fun zr97 zs96 => 0 ≤ zo2 ∧ zx3 + 1 < rl zs96 800000 0 ∧ zx3 + 2 < rl zs96 800000 0 ∧ TrI (n - 1) i_Model_given [jo 1 zo2, ji (ra zs96 800000 0 (zx3 + 1)), ji (ra zs96 800000 0 (zx3 + 2))] zs96 (fun zr102 zs101 => (if zr97 = zr102 then i32 (zx3 + 6) ∧ J n ax_cL (some .boolean) 18 [some (ja 800000 0), some (jo 12 zo1), some (jo 1 zo2), some (ji (zx3 + 6))] [] zs101 (qI Q) else Q 0 zs101))) else (if bAnd (ra σ 800000 0 zx3) 31 = 7 then 0 ≤ zo1 ∧ i32 (zx3 + 1) ∧ 0 ≤ zx3 + 1 ∧ zx3 + 1 < rl σ 800000 0 ∧ i32 (zx3 + 2) ∧ 0 ≤ zx3 + 2 ∧ zx3 + 2 < rl σ 800000 0 ∧ (if ra σ 800000 0 (zx3 + 2) = 0 then 1 ≤ n ∧ TrI (n - 1) i_Top_out [jo 12 zo1, ji (ra σ 800000 0 (zx3 + 1)), ji 0] σ (fun zr113 zs112 => 0 ≤ zo2 ∧ zx3 + 1 < rl zs112 800000 0 ∧ zx3 + 2 < rl zs112 800000 0 ∧ (if ra zs112 800000 0 (zx3 + 2) = 0 then TrI (n - 1) i_Model_out [jo 1 zo2, ji (ra zs112 800000 0 (zx3 + 1)), ji 0] zs112 (fun zr118 zs117 => (if zr113 = zr118 then i32 (zx3 + 6) ∧ J n ax_cL (some .boolean) 18 [some (ja 800000 0), some (jo 12 zo1), some (jo 1 zo2), some (ji (zx3 + 6))] [] zs117 (qI Q) else Q 0 zs117)) else TrI (n - 1) i_Model_out [jo 1 zo2, ji (ra zs112 800000 0 (zx3 + 1)), ji 1] zs112 (fun zr121 zs120 => (if zr113 = zr121 then i32 (zx3 + 6) ∧ J n ax_cL (some .boolean) 18 [some (ja 800000 0), some (jo 12 zo1), some (jo 1 zo2), some (ji (zx3 + 6))] [] zs120 (qI Q) else Q 0 zs120)))) else 1 ≤ n ∧ TrI (n - 1) i_Top_out [jo 12 zo1, ji (ra σ 800000 0 (zx3 + 1)), ji 1] σ (fun zr125 zs124 => 0 ≤ zo2 ∧ zx3 + 1 < rl zs124 800000 0 ∧ zx3 + 2 < rl zs124 800000 0 ∧ (if ra zs124 800000 0 (zx3 + 2) = 0 then TrI (n - 1) i_Model_out [jo 1 zo2, ji (ra zs124 800000 0 (zx3 + 1)), ji 0] zs124 (fun zr130 zs129 => (if zr125 = zr130 then i32 (zx3 + 6) ∧ J n ax_cL (some .boolean) 18 [some (ja 800000 0), some (jo 12 zo1), some (jo 1 zo2), some (ji (zx3 + 6))] [] zs129 (qI Q) else Q 0 zs129)) else TrI (n - 1) i_Model_out [jo 1 zo2, ji (ra zs124 800000 0 (zx3 + 1)), ji 1] zs124 (fun zr133 zs132 => (if zr125 = zr133 then i32 (zx3 + 6) ∧ J n ax_cL (some .boolean) 18 [some (ja 800000 0), some (jo 12 zo1), some (jo 1 zo2), some (ji (zx3 + 6))] [] zs132 (qI Q) else Q 0 zs132))))) else (if bAnd (ra σ 800000 0 zx3) 31 = 8 then 0 ≤ zo1 ∧ i32 (zx3 + 1) ∧ 0 ≤ zx3 + 1 ∧ zx3 + 1 < rl σ 800000 0 ∧ i32 (zx3 + 2) ∧ 0 ≤ zx3 + 2 ∧ zx3 + 2 < rl σ 800000 0 ∧ (if ra σ 800000 0 (zx3 + 2) = 0 then 1 ≤ n ∧ TrI (n - 1) i_Top_shut [jo 12 zo1, ji (ra σ 800000 0 (zx3 + 1)), ji 0] σ (fun zr144 zs143 => 0 ≤ zo2 ∧ zx3 + 1 < rl zs143 800000 0 ∧ zx3 + 2 < rl zs143 800000 0 ∧ (if ra zs143 800000 0 (zx3 + 2) = 0 then TrI (n - 1) i_Model_shut [jo 1 zo2, ji (ra zs143 800000 0 (zx3 + 1)), ji 0] zs143 (fun zr149 zs148 => (if zr144 = zr149 then i32 (zx3 + 6) ∧ J n ax_cL (some .boolean) 18 [some (ja 800000 0), some (jo 12 zo1), some (jo 1 zo2), some (ji (zx3 + 6))] [] zs148 (qI Q) else Q 0 zs148)) else TrI (n - 1) i_Model_shut [jo 1 zo2, ji (ra zs143 800000 0 (zx3 + 1)), ji 1] zs143 (fun zr152 zs151 => (if zr144 = zr152 then i32 (zx3 + 6) ∧ J n ax_cL (some .boolean) 18 [some (ja 800000 0), some (jo 12 zo1), some (jo 1 zo2), some (ji (zx3 + 6))] [] zs151 (qI Q) else Q 0 zs151)))) else 1 ≤ n ∧ TrI (n - 1) i_Top_shut [jo 12 zo1, ji (ra σ 800000 0 (zx3 + 1)), ji 1] σ (fun zr156 zs155 => 0 ≤ zo2 ∧ zx3 + 1 < rl zs155 800000 0 ∧ zx3 + 2 < rl zs155 800000 0 ∧ (if ra zs155 800000 0 (zx3 + 2) = 0 then TrI (n - 1) i_Model_shut [jo 1 zo2, ji (ra zs155 800000 0 (zx3 + 1)), ji 0] zs155 (fun zr161 zs160 => (if zr156 = zr161 then i32 (zx3 + 6) ∧ J n ax_cL (some .boolean) 18 [some (ja 800000 0), some (jo 12 zo1), some (jo 1 zo2), some (ji (zx3 + 6))] [] zs160 (qI Q) else Q 0 zs160)) else TrI (n - 1) i_Model_shut [jo 1 zo2, ji (ra zs155 800000 0 (zx3 + 1)), ji 1] zs155 (fun zr164 zs163 => (if zr156 = zr164 then i32 (zx3 + 6) ∧ J n ax_cL (some .boolean) 18 [some (ja 800000 0), some (jo 12 zo1), some (jo 1 zo2), some (ji (zx3 + 6))] [] zs163 (qI Q) else Q 0 zs163))))) else (if bAnd (ra σ 800000 0 zx3) 31 = 9 then 0 ≤ zo1 ∧ i32 (zx3 + 1) ∧ 0 ≤ zx3 + 1 ∧ zx3 + 1 < rl σ 800000 0 ∧ i32 (zx3 + 2) ∧ 0 ≤ zx3 + 2 ∧ zx3 + 2 < rl σ 800000 0 ∧ 1 ≤ n ∧ TrI (n - 1) i_Top_special [jo 12 zo1, ji (ra σ 800000 0 (zx3 + 1)), ji (ra σ 800000 0 (zx3 + 2))] σ (fun zr175 zs174 => 0 ≤ zo2 ∧ zx3 + 1 < rl zs174 800000 0 ∧ zx3 + 2 < rl zs174 800000 0 ∧ TrI (n - 1) i_Model_special [jo 1 zo2, ji (ra zs174 800000 0 (zx3 + 1)), ji (ra zs174 800000 0 (zx3 + 2))] zs174 (fun zr180 zs179 => (if zr175 = zr180 then i32 (zx3 + 6) ∧ J n ax_cL (some .boolean) 18 [some (ja 800000 0), some (jo 12 zo1), some (jo 1 zo2), some (ji (zx3 + 6))] [] zs179 (qI Q) else Q 0 zs179))) else (if bAnd (ra σ 800000 0 zx3) 31 = 10 then 0 ≤ zo1 ∧ 1 ≤ n ∧ TrI (n - 1) i_Top_clashes [jo 12 zo1] σ (fun zr185 zs184 => 0 ≤ zo2 ∧ TrI (n - 1) i_Model_clashes [jo 1 zo2] zs184 (fun zr188 zs187 => (if zr185 = zr188 then i32 (zx3 + 6) ∧ J n ax_cL (some .boolean) 18 [some (ja 800000 0), some (jo 12 zo1), some (jo 1 zo2), some (ji (zx3 + 6))] [] zs187 (qI Q) else Q 0 zs187))) else (if bAnd (ra σ 800000 0 zx3) 31 = 11 then 0 ≤ zo1 ∧ i32 (zx3 + 1) ∧ 0 ≤ zx3 + 1 ∧ zx3 + 1 < rl σ 800000 0 ∧ 1 ≤ n ∧ TrI (n - 1) i_Top_type [jo 12 zo1, ji (ra σ 800000 0 (zx3 + 1))] σ (fun zr196 zs195 => 0 ≤ zo2 ∧ zx3 + 1 < rl zs195 800000 0 ∧ TrI (n - 1) i_Model_type [jo 1 zo2, ji (ra zs195 800000 0 (zx3 + 1))] zs195 (fun zr200 zs199 => (if zr196 = zr200 then i32 (zx3 + 6) ∧ J n ax_cL (some .boolean) 18 [some (ja 800000 0), some (jo 12 zo1), some (jo 1 zo2), some (ji (zx3 + 6))] [] zs199 (qI Q) else Q 0 zs199))) else (if bAnd (ra σ 800000 0 zx3) 31 = 12 then 0 ≤ zo1 ∧ i32 (zx3 + 1) ∧ 0 ≤ zx3 + 1 ∧ zx3 + 1 < rl σ 800000 0 ∧ i32 (zx3 + 2) ∧ 0 ≤ zx3 + 2 ∧ zx3 + 2 < rl σ 800000 0 ∧ i32 (zx3 + 3) ∧ 0 ≤ zx3 + 3 ∧ zx3 + 3 < rl σ 800000 0 ∧ 1 ≤ n ∧ TrI (n - 1) i_Top_relation [jo 12 zo1, ji (ra σ 800000 0 (zx3 + 1)), ji (ra σ 800000 0 (zx3 + 2)), ji (ra σ 800000 0 (zx3 + 3))] σ (fun zr214 zs213 => 0 ≤ zo2 ∧ zx3 + 1 < rl zs213 800000 0 ∧ zx3 + 2 < rl zs213 800000 0 ∧ zx3 + 3 < rl zs213 800000 0 ∧ TrI (n - 1) i_Model_relation [jo 1 zo2, ji (ra zs213 800000 0 (zx3 + 1)), ji (ra zs213 800000 0 (zx3 + 2)), ji (ra zs213 800000 0 (zx3 + 3))] zs213 (fun zr220 zs219 => (if zr214 = zr220 then i32 (zx3 + 6) ∧ J n ax_cL (some .boolean) 18 [some (ja 800000 0), some (jo 12 zo1), some (jo 1 zo2), some (ji (zx3 + 6))] [] zs219 (qI Q) else Q 0 zs219))) else (if bAnd (ra σ 800000 0 zx3) 31 = 13 then 0 ≤ zo1 ∧ i32 (zx3 + 1) ∧ 0 ≤ zx3 + 1 ∧ zx3 + 1 < rl σ 800000 0 ∧ i32 (zx3 + 2) ∧ 0 ≤ zx3 + 2 ∧ zx3 + 2 < rl σ 800000 0 ∧ 1 ≤ n ∧ TrI (n - 1) i_Top_unified [jo 12 zo1, ji (ra σ 800000 0 (zx3 + 1)), ji (ra σ 800000 0 (zx3 + 2))] σ (fun zr231 zs230 => 0 ≤ zo2 ∧ zx3 + 1 < rl zs230 800000 0 ∧ zx3 + 2 < rl zs230 800000 0 ∧ TrI (n - 1) i_Model_unified [jo 1 zo2, ji (ra zs230 800000 0 (zx3 + 1)), ji (ra zs230 800000 0 (zx3 + 2))] zs230 (fun zr236 zs235 => (if zr231 = zr236 then i32 (zx3 + 6) ∧ J n ax_cL (some .boolean) 18 [some (ja 800000 0), some (jo 12 zo1), some (jo 1 zo2), some (ji (zx3 + 6))] [] zs235 (qI Q) else Q 0 zs235))) else (if bAnd (ra σ 800000 0 zx3) 31 = 14 then 0 ≤ zo1 ∧ i32 (zx3 + 1) ∧ 0 ≤ zx3 + 1 ∧ zx3 + 1 < rl σ 800000 0 ∧ 1 ≤ n ∧ TrI (n - 1) i_Top_ask [jo 12 zo1, ji (ra σ 800000 0 (zx3 + 1))] σ (fun zr244 zs243 => 0 ≤ zo2 ∧ zx3 + 1 < rl zs243 800000 0 ∧ TrI (n - 1) i_Model_ask [jo 1 zo2, ji (ra zs243 800000 0 (zx3 + 1))] zs243 (fun zr248 zs247 => (if zr244 = zr248 then i32 (zx3 + 6) ∧ J n ax_cL (some .boolean) 18 [some (ja 800000 0), some (jo 12 zo1), some (jo 1 zo2), some (ji (zx3 + 6))] [] zs247 (qI Q) else Q 0 zs247))) else (if bAnd (ra σ 800000 0 zx3) 31 = 15 then 0 ≤ zo1 ∧ i32 (zx3 + 1) ∧ 0 ≤ zx3 + 1 ∧ zx3 + 1 < rl σ 800000 0 ∧ 1 ≤ n ∧ TrI (n - 1) i_Top_asked [jo 12 zo1, ji (ra σ 800000 0 (zx3 + 1))] σ (fun zr256 zs255 => 0 ≤ zo2 ∧ zx3 + 1 < rl zs255 800000 0 ∧ TrI (n - 1) i_Model_asked [jo 1 zo2, ji (ra zs255 800000 0 (zx3 + 1))] zs255 (fun zr260 zs259 => (if zr256 = zr260 then i32 (zx3 + 6) ∧ J n ax_cL (some .boolean) 18 [some (ja 800000 0), some (jo 12 zo1), some (jo 1 zo2), some (ji (zx3 + 6))] [] zs259 (qI Q) else Q 0 zs259))) else (if bAnd (ra σ 800000 0 zx3) 31 = 16 then 0 ≤ zo1 ∧ i32 (zx3 + 1) ∧ 0 ≤ zx3 + 1 ∧ zx3 + 1 < rl σ 800000 0 ∧ i32 (zx3 + 2) ∧ 0 ≤ zx3 + 2 ∧ zx3 + 2 < rl σ 800000 0 ∧ 1 ≤ n ∧ TrI (n - 1) i_Top_node [jo 12 zo1, ji (ra σ 800000 0 (zx3 + 1)), ji (ra σ 800000 0 (zx3 + 2))] σ (fun zr271 zs270 => 0 ≤ zo2 ∧ zx3 + 1 < rl zs270 800000 0 ∧ zx3 + 2 < rl zs270 800000 0 ∧ TrI (n - 1) i_Model_node [jo 1 zo2, ji (ra zs270 800000 0 (zx3 + 1)), ji (ra zs270 800000 0 (zx3 + 2))] zs270 (fun zr276 zs275 => (if zr271 = zr276 then i32 (zx3 + 6) ∧ J n ax_cL (some .boolean) 18 [some (ja 800000 0), some (jo 12 zo1), some (jo 1 zo2), some (ji (zx3 + 6))] [] zs275 (qI Q) else Q 0 zs275))) else (if bAnd (ra σ 800000 0 zx3) 31 = 17 then 0 ≤ zo1 ∧ i32 (zx3 + 1) ∧ 0 ≤ zx3 + 1 ∧ zx3 + 1 < rl σ 800000 0 ∧ 1 ≤ n ∧ TrI (n - 1) i_Top_writeGoal [jo 12 zo1, ji (ra σ 800000 0 (zx3 + 1))] σ (fun zr284 zs283 => 0 ≤ zo2 ∧ zx3 + 1 < rl zs283 800000 0 ∧ TrI (n - 1) i_Model_writeGoal [jo 1 zo2, ji (ra zs283 800000 0 (zx3 + 1))] zs283 (fun zr288 zs287 => (if zr284 = zr288 then i32 (zx3 + 6) ∧ J n ax_cL (some .boolean) 18 [some (ja 800000 0), some (jo 12 zo1), some (jo 1 zo2), some (ji (zx3 + 6))] [] zs287 (qI Q) else Q 0 zs287))) else (if bAnd (ra σ 800000 0 zx3) 31 = 18 then 0 ≤ zo1 ∧ 1 ≤ n ∧ TrI (n - 1) i_Top_writeTree [jo 12 zo1] σ (fun zr293 zs292 => 0 ≤ zo2 ∧ TrI (n - 1) i_Model_writeTree [jo 1 zo2] zs292 (fun zr296 zs295 => (if zr293 = zr296 then i32 (zx3 + 6) ∧ J n ax_cL (some .boolean) 18 [some (ja 800000 0), some (jo 12 zo1), some (jo 1 zo2), some (ji (zx3 + 6))] [] zs295 (qI Q) else Q 0 zs295))) else (if bAnd (ra σ 800000 0 zx3) 31 = 19 then 0 ≤ zo1 ∧ 1 ≤ n ∧ TrI (n - 1) i_Top_writeAnswer [jo 12 zo1] σ (fun zr301 zs300 => 0 ≤ zo2 ∧ TrI (n - 1) i_Model_writeAnswer [jo 1 zo2] zs300 (fun zr304 zs303 => (if zr301 = zr304 then i32 (zx3 + 6) ∧ J n ax_cL (some .boolean) 18 [some (ja 800000 0), some (jo 12 zo1), some (jo 1 zo2), some (ji (zx3 + 6))] [] zs303 (qI Q) else Q 0 zs303))) else (if bAnd (ra σ 800000 0 zx3) 31 = 20 then 0 ≤ zo1 ∧ i32 (zx3 + 1) ∧ 0 ≤ zx3 + 1 ∧ zx3 + 1 < rl σ 800000 0 ∧ 1 ≤ n ∧ TrI (n - 1) i_Top_both [jo 12 zo1, ji (ra σ 800000 0 (zx3 + 1))] σ (fun zr312 zs311 => 0 ≤ zo2 ∧ zx3 + 1 < rl zs311 800000 0 ∧ TrI (n - 1) i_Model_both [jo 1 zo2, ji (ra zs311 800000 0 (zx3 + 1))] zs311 (fun zr316 zs315 => (if zr312 = zr316 then i32 (zx3 + 6) ∧ J n ax_cL (some .boolean) 18 [some (ja 800000 0), some (jo 12 zo1), some (jo 1 zo2), some (ji (zx3 + 6))] [] zs315 (qI Q) else Q 0 zs315))) else (if bAnd (ra σ 800000 0 zx3) 31 = 21 then 0 ≤ zo1 ∧ i32 (zx3 + 1) ∧ 0 ≤ zx3 + 1 ∧ zx3 + 1 < rl σ 800000 0 ∧ 1 ≤ n ∧ TrI (n - 1) i_Top_octet [jo 12 zo1, ji (ra σ 800000 0 (zx3 + 1))] σ (fun zr324 zs323 => 0 ≤ zo2 ∧ zx3 + 1 < rl zs323 800000 0 ∧ TrI (n - 1) i_Model_octet [jo 1 zo2, ji (ra zs323 800000 0 (zx3 + 1))] zs323 (fun zr328 zs327 => (if zr324 = zr328 then i32 (zx3 + 6) ∧ J n ax_cL (some .boolean) 18 [some (ja 800000 0), some (jo 12 zo1), some (jo 1 zo2), some (ji (zx3 + 6))] [] zs327 (qI Q) else Q 0 zs327))) else (if bAnd (ra σ 800000 0 zx3) 31 = 22 then 0 ≤ zo1 ∧ i32 (zx3 + 1) ∧ 0 ≤ zx3 + 1 ∧ zx3 + 1 < rl σ 800000 0 ∧ 1 ≤ n ∧ TrI (n - 1) i_Top_without [jo 12 zo1, ji (ra σ 800000 0 (zx3 + 1))] σ (fun zr336 zs335 => 0 ≤ zo2 ∧ zx3 + 1 < rl zs335 800000 0 ∧ TrI (n - 1) i_Model_without [jo 1 zo2, ji (ra zs335 800000 0 (zx3 + 1))] zs335 (fun zr340 zs339 => (if zr336 = zr340 then i32 (zx3 + 6) ∧ J n ax_cL (some .boolean) 18 [some (ja 800000 0), some (jo 12 zo1), some (jo 1 zo2), some (ji (zx3 + 6))] [] zs339 (qI Q) else Q 0 zs339))) else (if bAnd (ra σ 800000 0 zx3) 31 = 23 then 0 ≤ zo1 ∧ 1 ≤ n ∧ TrI (n - 1) i_Top_needed [jo 12 zo1] σ (fun zr345 zs344 => 0 ≤ zo2 ∧ TrI (n - 1) i_Model_needed [jo 1 zo2] zs344 (fun zr348 zs347 => (if zr345 = zr348 then i32 (zx3 + 6) ∧ J n ax_cL (some .boolean) 18 [some (ja 800000 0), some (jo 12 zo1), some (jo 1 zo2), some (ji (zx3 + 6))] [] zs347 (qI Q) else Q 0 zs347))) else (if bAnd (ra σ 800000 0 zx3) 31 = 24 then 0 ≤ zo1 ∧ 1 ≤ n ∧ TrI (n - 1) i_Top_mends [jo 12 zo1] σ (fun zr353 zs352 => 0 ≤ zo2 ∧ TrI (n - 1) i_Model_mends [jo 1 zo2] zs352 (fun zr356 zs355 => (if zr353 = zr356 then i32 (zx3 + 6) ∧ J n ax_cL (some .boolean) 18 [some (ja 800000 0), some (jo 12 zo1), some (jo 1 zo2), some (ji (zx3 + 6))] [] zs355 (qI Q) else Q 0 zs355))) else (if bAnd (ra σ 800000 0 zx3) 31 = 25 then 0 ≤ zo1 ∧ i32 (zx3 + 1) ∧ 0 ≤ zx3 + 1 ∧ zx3 + 1 < rl σ 800000 0 ∧ i32 (zx3 + 2) ∧ 0 ≤ zx3 + 2 ∧ zx3 + 2 < rl σ 800000 0 ∧ i32 (zx3 + 3) ∧ 0 ≤ zx3 + 3 ∧ zx3 + 3 < rl σ 800000 0 ∧ 1 ≤ n ∧ TrI (n - 1) i_Top_candidates [jo 12 zo1, ji (ra σ 800000 0 (zx3 + 1)), ji (ra σ 800000 0 (zx3 + 2)), ji (ra σ 800000 0 (zx3 + 3))] σ (fun zr370 zs369 => 0 ≤ zo2 ∧ zx3 + 1 < rl zs369 800000 0 ∧ zx3 + 2 < rl zs369 800000 0 ∧ zx3 + 3 < rl zs369 800000 0 ∧ TrI (n - 1) i_Model_candidates [jo 1 zo2, ji (ra zs369 800000 0 (zx3 + 1)), ji (ra zs369 800000 0 (zx3 + 2)), ji (ra zs369 800000 0 (zx3 + 3))] zs369 (fun zr376 zs375 => (if zr370 = zr376 then i32 (zx3 + 6) ∧ J n ax_cL (some .boolean) 18 [some (ja 800000 0), some (jo 12 zo1), some (jo 1 zo2), some (ji (zx3 + 6))] [] zs375 (qI Q) else Q 0 zs375))) else (if bAnd (ra σ 800000 0 zx3) 31 = 26 then 0 ≤ zo1 ∧ i32 (zx3 + 1) ∧ 0 ≤ zx3 + 1 ∧ zx3 + 1 < rl σ 800000 0 ∧ i32 (zx3 + 2) ∧ 0 ≤ zx3 + 2 ∧ zx3 + 2 < rl σ 800000 0 ∧ i32 (zx3 + 3) ∧ 0 ≤ zx3 + 3 ∧ zx3 + 3 < rl σ 800000 0 ∧ 1 ≤ n ∧ TrI (n - 1) i_Top_values [jo 12 zo1, ji (ra σ 800000 0 (zx3 + 1)), ji (ra σ 800000 0 (zx3 + 2)), ji (ra σ 800000 0 (zx3 + 3))] σ (fun zr390 zs389 => 0 ≤ zo2 ∧ zx3 + 1 < rl zs389 800000 0 ∧ zx3 + 2 < rl zs389 800000 0 ∧ zx3 + 3 < rl zs389 800000 0 ∧ TrI (n - 1) i_Model_values [jo 1 zo2, ji (ra zs389 800000 0 (zx3 + 1)), ji (ra zs389 800000 0 (zx3 + 2)), ji (ra zs389 800000 0 (zx3 + 3))] zs389 (fun zr396 zs395 => (if zr390 = zr396 then i32 (zx3 + 6) ∧ J n ax_cL (some .boolean) 18 [some (ja 800000 0), some (jo 12 zo1), some (jo 1 zo2), some (ji (zx3 + 6))] [] zs395 (qI Q) else Q 0 zs395))) else i32 (zx3 + 6) ∧ J n ax_cL (some .boolean) 18 [some (ja 800000 0), some (jo 12 zo1), some (jo 1 zo2), some (ji (zx3 + 6))] [] σ (qI Q)))))))))))))))))))))))))))))) : J n ax_cL (some .boolean) 18 [some (ja 800000 0), some (jo 12 zo1), some (jo 1 zo2), some (ji zx3)] [] σ (qI Q) := by
  refine J_iload_n (pc' := 19) rfl rfl rfl ?_
  refine J_aload_na (pc' := 20) rfl rfl rfl ?_
  refine J_alen (pc' := 21) rfl (by decide) rfl ?_
  refine J_bipush (pc' := 23) rfl (by decide) (by decide) rfl ?_
  obtain ⟨zg1, W⟩ := W
  refine J_isub (pc' := 24) rfl zg1 rfl ?_
  refine J_icmp (P := (rl σ 800000 0) - 6 < zx3) (t := 915) (f := 27) rfl rfl rfl jc_gt W (fun W => ?_) (fun W => ?_)
  · refine J_iconst (pc' := 916) rfl (i32_d rfl) rfl ?_
    exact J_zret rfl rfl (Or.inr rfl) ⟨_, rfl, W⟩
  · refine J_aload_na (pc' := 28) rfl rfl rfl ?_
    refine J_iload_n (pc' := 29) rfl rfl rfl ?_
    obtain ⟨zg2, W⟩ := W
    obtain ⟨zg3, W⟩ := W
    refine J_iald (pc' := 30) rfl rfl zg2 zg3 rfl ?_
    refine J_bipush (pc' := 32) rfl (by decide) (by decide) rfl ?_
    refine J_iand (pc' := 33) rfl rfl ?_
    by_cases zc399 : bAnd (ra σ 800000 0 zx3) 31 = 0
    · rw [if_pos zc399] at W
      refine J_swC (pc' := 156) (i := 0) rfl (by omega) (by decide) rfl rfl ?_
      obtain ⟨zg4, W⟩ := W
      refine J_aload_no (pc' := 157) rfl rfl zg4 rfl ?_
      refine J_aload_na (pc' := 158) rfl rfl rfl ?_
      refine J_iload_n (pc' := 159) rfl rfl rfl ?_
      refine J_iconst (pc' := 160) rfl (i32_d rfl) rfl ?_
      obtain ⟨zg5, W⟩ := W
      refine J_iadd (pc' := 161) rfl zg5 rfl ?_
      obtain ⟨zg6, W⟩ := W
      obtain ⟨zg7, W⟩ := W
      refine J_iald (pc' := 162) rfl rfl zg6 zg7 rfl ?_
      refine J_aload_na (pc' := 163) rfl rfl rfl ?_
      refine J_iload_n (pc' := 164) rfl rfl rfl ?_
      refine J_iconst (pc' := 165) rfl (i32_d rfl) rfl ?_
      obtain ⟨zg8, W⟩ := W
      refine J_iadd (pc' := 166) rfl zg8 rfl ?_
      obtain ⟨zg9, W⟩ := W
      obtain ⟨zg10, W⟩ := W
      refine J_iald (pc' := 167) rfl rfl zg9 zg10 rfl ?_
      refine J_aload_na (pc' := 168) rfl rfl rfl ?_
      refine J_iload_n (pc' := 169) rfl rfl rfl ?_
      refine J_iconst (pc' := 170) rfl (i32_d rfl) rfl ?_
      obtain ⟨zg11, W⟩ := W
      refine J_iadd (pc' := 171) rfl zg11 rfl ?_
      obtain ⟨zg12, W⟩ := W
      obtain ⟨zg13, W⟩ := W
      refine J_iald (pc' := 172) rfl rfl zg12 zg13 rfl ?_
      refine J_aload_na (pc' := 173) rfl rfl rfl ?_
      refine J_iload_n (pc' := 174) rfl rfl rfl ?_
      refine J_iconst (pc' := 175) rfl (i32_d rfl) rfl ?_
      obtain ⟨zg14, W⟩ := W
      refine J_iadd (pc' := 176) rfl zg14 rfl ?_
      obtain ⟨zg15, W⟩ := W
      obtain ⟨zg16, W⟩ := W
      refine J_iald (pc' := 177) rfl rfl zg15 zg16 rfl ?_
      refine J_aload_na (pc' := 178) rfl rfl rfl ?_
      refine J_iload_n (pc' := 179) rfl rfl rfl ?_
      refine J_iconst (pc' := 180) rfl (i32_d rfl) rfl ?_
      obtain ⟨zg17, W⟩ := W
      refine J_iadd (pc' := 181) rfl zg17 rfl ?_
      obtain ⟨zg18, W⟩ := W
      obtain ⟨zg19, W⟩ := W
      refine J_iald (pc' := 182) rfl rfl zg18 zg19 rfl ?_
      obtain ⟨zg20, W⟩ := W
      refine J_callI (as := [jo 12 zo1, ji (ra σ 800000 0 (zx3 + 1)), ji (ra σ 800000 0 (zx3 + 2)), ji (ra σ 800000 0 (zx3 + 3)), ji (ra σ 800000 0 (zx3 + 4)), ji (ra σ 800000 0 (zx3 + 5))]) (rest := []) (pc' := 185) rfl rfl ax_Z_252 rfl rfl (Or.inr (Or.inr ⟨_, _, rfl, zg4⟩)) (Nat.le_of_ble_eq_true rfl) (Nat.le_of_ble_eq_true rfl) (Nat.le_of_ble_eq_true rfl) zg20 (And.intro rfl trivial) trivial rfl W (fun zr22 zs21 W => ?_)
      obtain ⟨zg23, W⟩ := W
      refine J_aload_no (pc' := 186) rfl rfl zg23 rfl ?_
      refine J_aload_na (pc' := 187) rfl rfl rfl ?_
      refine J_iload_n (pc' := 188) rfl rfl rfl ?_
      refine J_iconst (pc' := 189) rfl (i32_d rfl) rfl ?_
      refine J_iadd (pc' := 190) rfl zg5 rfl ?_
      obtain ⟨zg24, W⟩ := W
      refine J_iald (pc' := 191) rfl rfl zg6 zg24 rfl ?_
      refine J_aload_na (pc' := 192) rfl rfl rfl ?_
      refine J_iload_n (pc' := 193) rfl rfl rfl ?_
      refine J_iconst (pc' := 194) rfl (i32_d rfl) rfl ?_
      refine J_iadd (pc' := 195) rfl zg8 rfl ?_
      obtain ⟨zg25, W⟩ := W
      refine J_iald (pc' := 196) rfl rfl zg9 zg25 rfl ?_
      refine J_aload_na (pc' := 197) rfl rfl rfl ?_
      refine J_iload_n (pc' := 198) rfl rfl rfl ?_
      refine J_iconst (pc' := 199) rfl (i32_d rfl) rfl ?_
      refine J_iadd (pc' := 200) rfl zg11 rfl ?_
      obtain ⟨zg26, W⟩ := W
      refine J_iald (pc' := 201) rfl rfl zg12 zg26 rfl ?_
      refine J_aload_na (pc' := 202) rfl rfl rfl ?_
      refine J_iload_n (pc' := 203) rfl rfl rfl ?_
      refine J_iconst (pc' := 204) rfl (i32_d rfl) rfl ?_
      refine J_iadd (pc' := 205) rfl zg14 rfl ?_
      obtain ⟨zg27, W⟩ := W
      refine J_iald (pc' := 206) rfl rfl zg15 zg27 rfl ?_
      refine J_aload_na (pc' := 207) rfl rfl rfl ?_
      refine J_iload_n (pc' := 208) rfl rfl rfl ?_
      refine J_iconst (pc' := 209) rfl (i32_d rfl) rfl ?_
      refine J_iadd (pc' := 210) rfl zg17 rfl ?_
      obtain ⟨zg28, W⟩ := W
      refine J_iald (pc' := 211) rfl rfl zg18 zg28 rfl ?_
      refine J_callI (as := [jo 1 zo2, ji (ra zs21 800000 0 (zx3 + 1)), ji (ra zs21 800000 0 (zx3 + 2)), ji (ra zs21 800000 0 (zx3 + 3)), ji (ra zs21 800000 0 (zx3 + 4)), ji (ra zs21 800000 0 (zx3 + 5))]) (rest := [ji zr22]) (pc' := 214) rfl rfl ax_Z_7 rfl rfl (Or.inr (Or.inr ⟨_, _, rfl, zg23⟩)) (Nat.le_of_ble_eq_true rfl) (Nat.le_of_ble_eq_true rfl) (Nat.le_of_ble_eq_true rfl) zg20 (And.intro rfl trivial) trivial rfl W (fun zr30 zs29 W => ?_)
      refine J_icmp (P := zr22 = zr30) (t := 909) (f := 217) rfl rfl rfl jc_eq W (fun W => ?_) (fun W => ?_)
      · obtain ⟨zg31, W⟩ := W
        refine J_iinc (L' := [some (ja 800000 0), some (jo 12 zo1), some (jo 1 zo2), some (ji (zx3 + 6))]) (pc' := 912) rfl rfl zg31 rfl rfl ?_
        refine J_goto (pc' := 18) rfl rfl ?_
        exact W
      · refine J_iconst (pc' := 218) rfl (i32_d rfl) rfl ?_
        exact J_zret rfl rfl (Or.inl rfl) ⟨_, rfl, W⟩
    rw [if_neg zc399] at W
    by_cases zc400 : bAnd (ra σ 800000 0 zx3) 31 = 1
    · rw [if_pos zc400] at W
      refine J_swC (pc' := 219) (i := 1) rfl (by omega) (by decide) rfl rfl ?_
      obtain ⟨zg32, W⟩ := W
      refine J_aload_no (pc' := 220) rfl rfl zg32 rfl ?_
      refine J_aload_na (pc' := 221) rfl rfl rfl ?_
      refine J_iload_n (pc' := 222) rfl rfl rfl ?_
      refine J_iconst (pc' := 223) rfl (i32_d rfl) rfl ?_
      obtain ⟨zg33, W⟩ := W
      refine J_iadd (pc' := 224) rfl zg33 rfl ?_
      obtain ⟨zg34, W⟩ := W
      obtain ⟨zg35, W⟩ := W
      refine J_iald (pc' := 225) rfl rfl zg34 zg35 rfl ?_
      obtain ⟨zg36, W⟩ := W
      refine J_callI (as := [jo 12 zo1, ji (ra σ 800000 0 (zx3 + 1))]) (rest := []) (pc' := 228) rfl rfl ax_Z_253 rfl rfl (Or.inr (Or.inr ⟨_, _, rfl, zg32⟩)) (Nat.le_of_ble_eq_true rfl) (Nat.le_of_ble_eq_true rfl) (Nat.le_of_ble_eq_true rfl) zg36 (And.intro rfl trivial) trivial rfl W (fun zr38 zs37 W => ?_)
      obtain ⟨zg39, W⟩ := W
      refine J_aload_no (pc' := 229) rfl rfl zg39 rfl ?_
      refine J_aload_na (pc' := 230) rfl rfl rfl ?_
      refine J_iload_n (pc' := 231) rfl rfl rfl ?_
      refine J_iconst (pc' := 232) rfl (i32_d rfl) rfl ?_
      refine J_iadd (pc' := 233) rfl zg33 rfl ?_
      obtain ⟨zg40, W⟩ := W
      refine J_iald (pc' := 234) rfl rfl zg34 zg40 rfl ?_
      refine J_callI (as := [jo 1 zo2, ji (ra zs37 800000 0 (zx3 + 1))]) (rest := [ji zr38]) (pc' := 237) rfl rfl ax_Z_8 rfl rfl (Or.inr (Or.inr ⟨_, _, rfl, zg39⟩)) (Nat.le_of_ble_eq_true rfl) (Nat.le_of_ble_eq_true rfl) (Nat.le_of_ble_eq_true rfl) zg36 (And.intro rfl trivial) trivial rfl W (fun zr42 zs41 W => ?_)
      refine J_icmp (P := zr38 = zr42) (t := 909) (f := 240) rfl rfl rfl jc_eq W (fun W => ?_) (fun W => ?_)
      · obtain ⟨zg43, W⟩ := W
        refine J_iinc (L' := [some (ja 800000 0), some (jo 12 zo1), some (jo 1 zo2), some (ji (zx3 + 6))]) (pc' := 912) rfl rfl zg43 rfl rfl ?_
        refine J_goto (pc' := 18) rfl rfl ?_
        exact W
      · refine J_iconst (pc' := 241) rfl (i32_d rfl) rfl ?_
        exact J_zret rfl rfl (Or.inl rfl) ⟨_, rfl, W⟩
    rw [if_neg zc400] at W
    by_cases zc401 : bAnd (ra σ 800000 0 zx3) 31 = 2
    · rw [if_pos zc401] at W
      refine J_swC (pc' := 242) (i := 2) rfl (by omega) (by decide) rfl rfl ?_
      obtain ⟨zg44, W⟩ := W
      refine J_aload_no (pc' := 243) rfl rfl zg44 rfl ?_
      obtain ⟨zg45, W⟩ := W
      refine J_callI (as := [jo 12 zo1]) (rest := []) (pc' := 246) rfl rfl ax_Z_254 rfl rfl (Or.inr (Or.inr ⟨_, _, rfl, zg44⟩)) (Nat.le_of_ble_eq_true rfl) (Nat.le_of_ble_eq_true rfl) (Nat.le_of_ble_eq_true rfl) zg45 (And.intro rfl trivial) trivial rfl W (fun zr47 zs46 W => ?_)
      obtain ⟨zg48, W⟩ := W
      refine J_aload_no (pc' := 247) rfl rfl zg48 rfl ?_
      refine J_callI (as := [jo 1 zo2]) (rest := [ji zr47]) (pc' := 250) rfl rfl ax_Z_22 rfl rfl (Or.inr (Or.inr ⟨_, _, rfl, zg48⟩)) (Nat.le_of_ble_eq_true rfl) (Nat.le_of_ble_eq_true rfl) (Nat.le_of_ble_eq_true rfl) zg45 (And.intro rfl trivial) trivial rfl W (fun zr50 zs49 W => ?_)
      refine J_icmp (P := zr47 = zr50) (t := 909) (f := 253) rfl rfl rfl jc_eq W (fun W => ?_) (fun W => ?_)
      · obtain ⟨zg51, W⟩ := W
        refine J_iinc (L' := [some (ja 800000 0), some (jo 12 zo1), some (jo 1 zo2), some (ji (zx3 + 6))]) (pc' := 912) rfl rfl zg51 rfl rfl ?_
        refine J_goto (pc' := 18) rfl rfl ?_
        exact W
      · refine J_iconst (pc' := 254) rfl (i32_d rfl) rfl ?_
        exact J_zret rfl rfl (Or.inl rfl) ⟨_, rfl, W⟩
    rw [if_neg zc401] at W
    by_cases zc402 : bAnd (ra σ 800000 0 zx3) 31 = 3
    · rw [if_pos zc402] at W
      refine J_swC (pc' := 255) (i := 3) rfl (by omega) (by decide) rfl rfl ?_
      obtain ⟨zg52, W⟩ := W
      refine J_aload_no (pc' := 256) rfl rfl zg52 rfl ?_
      obtain ⟨zg53, W⟩ := W
      refine J_callI (as := [jo 12 zo1]) (rest := []) (pc' := 259) rfl rfl ax_Z_255 rfl rfl (Or.inr (Or.inr ⟨_, _, rfl, zg52⟩)) (Nat.le_of_ble_eq_true rfl) (Nat.le_of_ble_eq_true rfl) (Nat.le_of_ble_eq_true rfl) zg53 (And.intro rfl trivial) trivial rfl W (fun zr55 zs54 W => ?_)
      obtain ⟨zg56, W⟩ := W
      refine J_aload_no (pc' := 260) rfl rfl zg56 rfl ?_
      refine J_callI (as := [jo 1 zo2]) (rest := [ji zr55]) (pc' := 263) rfl rfl ax_Z_23 rfl rfl (Or.inr (Or.inr ⟨_, _, rfl, zg56⟩)) (Nat.le_of_ble_eq_true rfl) (Nat.le_of_ble_eq_true rfl) (Nat.le_of_ble_eq_true rfl) zg53 (And.intro rfl trivial) trivial rfl W (fun zr58 zs57 W => ?_)
      refine J_icmp (P := zr55 = zr58) (t := 909) (f := 266) rfl rfl rfl jc_eq W (fun W => ?_) (fun W => ?_)
      · obtain ⟨zg59, W⟩ := W
        refine J_iinc (L' := [some (ja 800000 0), some (jo 12 zo1), some (jo 1 zo2), some (ji (zx3 + 6))]) (pc' := 912) rfl rfl zg59 rfl rfl ?_
        refine J_goto (pc' := 18) rfl rfl ?_
        exact W
      · refine J_iconst (pc' := 267) rfl (i32_d rfl) rfl ?_
        exact J_zret rfl rfl (Or.inl rfl) ⟨_, rfl, W⟩
    rw [if_neg zc402] at W
    by_cases zc403 : bAnd (ra σ 800000 0 zx3) 31 = 4
    · rw [if_pos zc403] at W
      refine J_swC (pc' := 268) (i := 4) rfl (by omega) (by decide) rfl rfl ?_
      obtain ⟨zg60, W⟩ := W
      refine J_aload_no (pc' := 269) rfl rfl zg60 rfl ?_
      refine J_aload_na (pc' := 270) rfl rfl rfl ?_
      refine J_iload_n (pc' := 271) rfl rfl rfl ?_
      refine J_iconst (pc' := 272) rfl (i32_d rfl) rfl ?_
      obtain ⟨zg61, W⟩ := W
      refine J_iadd (pc' := 273) rfl zg61 rfl ?_
      obtain ⟨zg62, W⟩ := W
      obtain ⟨zg63, W⟩ := W
      refine J_iald (pc' := 274) rfl rfl zg62 zg63 rfl ?_
      obtain ⟨zg64, W⟩ := W
      refine J_callI (as := [jo 12 zo1, ji (ra σ 800000 0 (zx3 + 1))]) (rest := []) (pc' := 277) rfl rfl ax_Z_256 rfl rfl (Or.inr (Or.inr ⟨_, _, rfl, zg60⟩)) (Nat.le_of_ble_eq_true rfl) (Nat.le_of_ble_eq_true rfl) (Nat.le_of_ble_eq_true rfl) zg64 (And.intro rfl trivial) trivial rfl W (fun zr66 zs65 W => ?_)
      obtain ⟨zg67, W⟩ := W
      refine J_aload_no (pc' := 278) rfl rfl zg67 rfl ?_
      refine J_aload_na (pc' := 279) rfl rfl rfl ?_
      refine J_iload_n (pc' := 280) rfl rfl rfl ?_
      refine J_iconst (pc' := 281) rfl (i32_d rfl) rfl ?_
      refine J_iadd (pc' := 282) rfl zg61 rfl ?_
      obtain ⟨zg68, W⟩ := W
      refine J_iald (pc' := 283) rfl rfl zg62 zg68 rfl ?_
      refine J_callI (as := [jo 1 zo2, ji (ra zs65 800000 0 (zx3 + 1))]) (rest := [ji zr66]) (pc' := 286) rfl rfl ax_Z_26 rfl rfl (Or.inr (Or.inr ⟨_, _, rfl, zg67⟩)) (Nat.le_of_ble_eq_true rfl) (Nat.le_of_ble_eq_true rfl) (Nat.le_of_ble_eq_true rfl) zg64 (And.intro rfl trivial) trivial rfl W (fun zr70 zs69 W => ?_)
      refine J_icmp (P := zr66 = zr70) (t := 909) (f := 289) rfl rfl rfl jc_eq W (fun W => ?_) (fun W => ?_)
      · obtain ⟨zg71, W⟩ := W
        refine J_iinc (L' := [some (ja 800000 0), some (jo 12 zo1), some (jo 1 zo2), some (ji (zx3 + 6))]) (pc' := 912) rfl rfl zg71 rfl rfl ?_
        refine J_goto (pc' := 18) rfl rfl ?_
        exact W
      · refine J_iconst (pc' := 290) rfl (i32_d rfl) rfl ?_
        exact J_zret rfl rfl (Or.inl rfl) ⟨_, rfl, W⟩
    rw [if_neg zc403] at W
    by_cases zc404 : bAnd (ra σ 800000 0 zx3) 31 = 5
    · rw [if_pos zc404] at W
      refine J_swC (pc' := 291) (i := 5) rfl (by omega) (by decide) rfl rfl ?_
      obtain ⟨zg72, W⟩ := W
      refine J_aload_no (pc' := 292) rfl rfl zg72 rfl ?_
      refine J_aload_na (pc' := 293) rfl rfl rfl ?_
      refine J_iload_n (pc' := 294) rfl rfl rfl ?_
      refine J_iconst (pc' := 295) rfl (i32_d rfl) rfl ?_
      obtain ⟨zg73, W⟩ := W
      refine J_iadd (pc' := 296) rfl zg73 rfl ?_
      obtain ⟨zg74, W⟩ := W
      obtain ⟨zg75, W⟩ := W
      refine J_iald (pc' := 297) rfl rfl zg74 zg75 rfl ?_
      refine J_aload_na (pc' := 298) rfl rfl rfl ?_
      refine J_iload_n (pc' := 299) rfl rfl rfl ?_
      refine J_iconst (pc' := 300) rfl (i32_d rfl) rfl ?_
      obtain ⟨zg76, W⟩ := W
      refine J_iadd (pc' := 301) rfl zg76 rfl ?_
      obtain ⟨zg77, W⟩ := W
      obtain ⟨zg78, W⟩ := W
      refine J_iald (pc' := 302) rfl rfl zg77 zg78 rfl ?_
      obtain ⟨zg79, W⟩ := W
      refine J_callI (as := [jo 12 zo1, ji (ra σ 800000 0 (zx3 + 1)), ji (ra σ 800000 0 (zx3 + 2))]) (rest := []) (pc' := 305) rfl rfl ax_Z_257 rfl rfl (Or.inr (Or.inr ⟨_, _, rfl, zg72⟩)) (Nat.le_of_ble_eq_true rfl) (Nat.le_of_ble_eq_true rfl) (Nat.le_of_ble_eq_true rfl) zg79 (And.intro rfl trivial) trivial rfl W (fun zr81 zs80 W => ?_)
      obtain ⟨zg82, W⟩ := W
      refine J_aload_no (pc' := 306) rfl rfl zg82 rfl ?_
      refine J_aload_na (pc' := 307) rfl rfl rfl ?_
      refine J_iload_n (pc' := 308) rfl rfl rfl ?_
      refine J_iconst (pc' := 309) rfl (i32_d rfl) rfl ?_
      refine J_iadd (pc' := 310) rfl zg73 rfl ?_
      obtain ⟨zg83, W⟩ := W
      refine J_iald (pc' := 311) rfl rfl zg74 zg83 rfl ?_
      refine J_aload_na (pc' := 312) rfl rfl rfl ?_
      refine J_iload_n (pc' := 313) rfl rfl rfl ?_
      refine J_iconst (pc' := 314) rfl (i32_d rfl) rfl ?_
      refine J_iadd (pc' := 315) rfl zg76 rfl ?_
      obtain ⟨zg84, W⟩ := W
      refine J_iald (pc' := 316) rfl rfl zg77 zg84 rfl ?_
      refine J_callI (as := [jo 1 zo2, ji (ra zs80 800000 0 (zx3 + 1)), ji (ra zs80 800000 0 (zx3 + 2))]) (rest := [ji zr81]) (pc' := 319) rfl rfl ax_Z_28 rfl rfl (Or.inr (Or.inr ⟨_, _, rfl, zg82⟩)) (Nat.le_of_ble_eq_true rfl) (Nat.le_of_ble_eq_true rfl) (Nat.le_of_ble_eq_true rfl) zg79 (And.intro rfl trivial) trivial rfl W (fun zr86 zs85 W => ?_)
      refine J_icmp (P := zr81 = zr86) (t := 909) (f := 322) rfl rfl rfl jc_eq W (fun W => ?_) (fun W => ?_)
      · obtain ⟨zg87, W⟩ := W
        refine J_iinc (L' := [some (ja 800000 0), some (jo 12 zo1), some (jo 1 zo2), some (ji (zx3 + 6))]) (pc' := 912) rfl rfl zg87 rfl rfl ?_
        refine J_goto (pc' := 18) rfl rfl ?_
        exact W
      · refine J_iconst (pc' := 323) rfl (i32_d rfl) rfl ?_
        exact J_zret rfl rfl (Or.inl rfl) ⟨_, rfl, W⟩
    rw [if_neg zc404] at W
    by_cases zc405 : bAnd (ra σ 800000 0 zx3) 31 = 6
    · rw [if_pos zc405] at W
      refine J_swC (pc' := 324) (i := 6) rfl (by omega) (by decide) rfl rfl ?_
      obtain ⟨zg88, W⟩ := W
      refine J_aload_no (pc' := 325) rfl rfl zg88 rfl ?_
      refine J_aload_na (pc' := 326) rfl rfl rfl ?_
      refine J_iload_n (pc' := 327) rfl rfl rfl ?_
      refine J_iconst (pc' := 328) rfl (i32_d rfl) rfl ?_
      obtain ⟨zg89, W⟩ := W
      refine J_iadd (pc' := 329) rfl zg89 rfl ?_
      obtain ⟨zg90, W⟩ := W
      obtain ⟨zg91, W⟩ := W
      refine J_iald (pc' := 330) rfl rfl zg90 zg91 rfl ?_
      refine J_aload_na (pc' := 331) rfl rfl rfl ?_
      refine J_iload_n (pc' := 332) rfl rfl rfl ?_
      refine J_iconst (pc' := 333) rfl (i32_d rfl) rfl ?_
      obtain ⟨zg92, W⟩ := W
      refine J_iadd (pc' := 334) rfl zg92 rfl ?_
      obtain ⟨zg93, W⟩ := W
      obtain ⟨zg94, W⟩ := W
      refine J_iald (pc' := 335) rfl rfl zg93 zg94 rfl ?_
      obtain ⟨zg95, W⟩ := W
      refine J_callI (as := [jo 12 zo1, ji (ra σ 800000 0 (zx3 + 1)), ji (ra σ 800000 0 (zx3 + 2))]) (rest := []) (pc' := 338) rfl rfl ax_Z_258 rfl rfl (Or.inr (Or.inr ⟨_, _, rfl, zg88⟩)) (Nat.le_of_ble_eq_true rfl) (Nat.le_of_ble_eq_true rfl) (Nat.le_of_ble_eq_true rfl) zg95 (And.intro rfl trivial) trivial rfl W (fun zr97 zs96 W => ?_)
      obtain ⟨zg98, W⟩ := W
      refine J_aload_no (pc' := 339) rfl rfl zg98 rfl ?_
      refine J_aload_na (pc' := 340) rfl rfl rfl ?_
      refine J_iload_n (pc' := 341) rfl rfl rfl ?_
      refine J_iconst (pc' := 342) rfl (i32_d rfl) rfl ?_
      refine J_iadd (pc' := 343) rfl zg89 rfl ?_
      obtain ⟨zg99, W⟩ := W
      refine J_iald (pc' := 344) rfl rfl zg90 zg99 rfl ?_
      refine J_aload_na (pc' := 345) rfl rfl rfl ?_
      refine J_iload_n (pc' := 346) rfl rfl rfl ?_
      refine J_iconst (pc' := 347) rfl (i32_d rfl) rfl ?_
      refine J_iadd (pc' := 348) rfl zg92 rfl ?_
      obtain ⟨zg100, W⟩ := W
      refine J_iald (pc' := 349) rfl rfl zg93 zg100 rfl ?_
      refine J_callI (as := [jo 1 zo2, ji (ra zs96 800000 0 (zx3 + 1)), ji (ra zs96 800000 0 (zx3 + 2))]) (rest := [ji zr97]) (pc' := 352) rfl rfl ax_Z_31 rfl rfl (Or.inr (Or.inr ⟨_, _, rfl, zg98⟩)) (Nat.le_of_ble_eq_true rfl) (Nat.le_of_ble_eq_true rfl) (Nat.le_of_ble_eq_true rfl) zg95 (And.intro rfl trivial) trivial rfl W (fun zr102 zs101 W => ?_)
      refine J_icmp (P := zr97 = zr102) (t := 909) (f := 355) rfl rfl rfl jc_eq W (fun W => ?_) (fun W => ?_)
      · obtain ⟨zg103, W⟩ := W
        refine J_iinc (L' := [some (ja 800000 0), some (jo 12 zo1), some (jo 1 zo2), some (ji (zx3 + 6))]) (pc' := 912) rfl rfl zg103 rfl rfl ?_
        refine J_goto (pc' := 18) rfl rfl ?_
        exact W
      · refine J_iconst (pc' := 356) rfl (i32_d rfl) rfl ?_
        exact J_zret rfl rfl (Or.inl rfl) ⟨_, rfl, W⟩
    rw [if_neg zc405] at W
    by_cases zc406 : bAnd (ra σ 800000 0 zx3) 31 = 7
    · rw [if_pos zc406] at W
      refine J_swC (pc' := 357) (i := 7) rfl (by omega) (by decide) rfl rfl ?_
      obtain ⟨zg104, W⟩ := W
      refine J_aload_no (pc' := 358) rfl rfl zg104 rfl ?_
      refine J_aload_na (pc' := 359) rfl rfl rfl ?_
      refine J_iload_n (pc' := 360) rfl rfl rfl ?_
      refine J_iconst (pc' := 361) rfl (i32_d rfl) rfl ?_
      obtain ⟨zg105, W⟩ := W
      refine J_iadd (pc' := 362) rfl zg105 rfl ?_
      obtain ⟨zg106, W⟩ := W
      obtain ⟨zg107, W⟩ := W
      refine J_iald (pc' := 363) rfl rfl zg106 zg107 rfl ?_
      refine J_aload_na (pc' := 364) rfl rfl rfl ?_
      refine J_iload_n (pc' := 365) rfl rfl rfl ?_
      refine J_iconst (pc' := 366) rfl (i32_d rfl) rfl ?_
      obtain ⟨zg108, W⟩ := W
      refine J_iadd (pc' := 367) rfl zg108 rfl ?_
      obtain ⟨zg109, W⟩ := W
      obtain ⟨zg110, W⟩ := W
      refine J_iald (pc' := 368) rfl rfl zg109 zg110 rfl ?_
      refine J_if (P := ra σ 800000 0 (zx3 + 2) = 0) (t := 375) (f := 371) rfl rfl rfl jc_eq W (fun W => ?_) (fun W => ?_)
      · refine J_iconst (pc' := 376) rfl (i32_d rfl) rfl ?_
        obtain ⟨zg111, W⟩ := W
        refine J_callI (as := [jo 12 zo1, ji (ra σ 800000 0 (zx3 + 1)), ji 0]) (rest := []) (pc' := 379) rfl rfl ax_Z_259 rfl rfl (Or.inr (Or.inr ⟨_, _, rfl, zg104⟩)) (Nat.le_of_ble_eq_true rfl) (Nat.le_of_ble_eq_true rfl) (Nat.le_of_ble_eq_true rfl) zg111 (And.intro rfl trivial) trivial rfl W (fun zr113 zs112 W => ?_)
        obtain ⟨zg114, W⟩ := W
        refine J_aload_no (pc' := 380) rfl rfl zg114 rfl ?_
        refine J_aload_na (pc' := 381) rfl rfl rfl ?_
        refine J_iload_n (pc' := 382) rfl rfl rfl ?_
        refine J_iconst (pc' := 383) rfl (i32_d rfl) rfl ?_
        refine J_iadd (pc' := 384) rfl zg105 rfl ?_
        obtain ⟨zg115, W⟩ := W
        refine J_iald (pc' := 385) rfl rfl zg106 zg115 rfl ?_
        refine J_aload_na (pc' := 386) rfl rfl rfl ?_
        refine J_iload_n (pc' := 387) rfl rfl rfl ?_
        refine J_iconst (pc' := 388) rfl (i32_d rfl) rfl ?_
        refine J_iadd (pc' := 389) rfl zg108 rfl ?_
        obtain ⟨zg116, W⟩ := W
        refine J_iald (pc' := 390) rfl rfl zg109 zg116 rfl ?_
        refine J_if (P := ra zs112 800000 0 (zx3 + 2) = 0) (t := 397) (f := 393) rfl rfl rfl jc_eq W (fun W => ?_) (fun W => ?_)
        · refine J_iconst (pc' := 398) rfl (i32_d rfl) rfl ?_
          refine J_callI (as := [jo 1 zo2, ji (ra zs112 800000 0 (zx3 + 1)), ji 0]) (rest := [ji zr113]) (pc' := 401) rfl rfl ax_Z_32 rfl rfl (Or.inr (Or.inr ⟨_, _, rfl, zg114⟩)) (Nat.le_of_ble_eq_true rfl) (Nat.le_of_ble_eq_true rfl) (Nat.le_of_ble_eq_true rfl) zg111 (And.intro rfl trivial) trivial rfl W (fun zr118 zs117 W => ?_)
          refine J_icmp (P := zr113 = zr118) (t := 909) (f := 404) rfl rfl rfl jc_eq W (fun W => ?_) (fun W => ?_)
          · obtain ⟨zg119, W⟩ := W
            refine J_iinc (L' := [some (ja 800000 0), some (jo 12 zo1), some (jo 1 zo2), some (ji (zx3 + 6))]) (pc' := 912) rfl rfl zg119 rfl rfl ?_
            refine J_goto (pc' := 18) rfl rfl ?_
            exact W
          · refine J_iconst (pc' := 405) rfl (i32_d rfl) rfl ?_
            exact J_zret rfl rfl (Or.inl rfl) ⟨_, rfl, W⟩
        · refine J_iconst (pc' := 394) rfl (i32_d rfl) rfl ?_
          refine J_goto (pc' := 398) rfl rfl ?_
          refine J_callI (as := [jo 1 zo2, ji (ra zs112 800000 0 (zx3 + 1)), ji 1]) (rest := [ji zr113]) (pc' := 401) rfl rfl ax_Z_32 rfl rfl (Or.inr (Or.inr ⟨_, _, rfl, zg114⟩)) (Nat.le_of_ble_eq_true rfl) (Nat.le_of_ble_eq_true rfl) (Nat.le_of_ble_eq_true rfl) zg111 (And.intro rfl trivial) trivial rfl W (fun zr121 zs120 W => ?_)
          refine J_icmp (P := zr113 = zr121) (t := 909) (f := 404) rfl rfl rfl jc_eq W (fun W => ?_) (fun W => ?_)
          · obtain ⟨zg122, W⟩ := W
            refine J_iinc (L' := [some (ja 800000 0), some (jo 12 zo1), some (jo 1 zo2), some (ji (zx3 + 6))]) (pc' := 912) rfl rfl zg122 rfl rfl ?_
            refine J_goto (pc' := 18) rfl rfl ?_
            exact W
          · refine J_iconst (pc' := 405) rfl (i32_d rfl) rfl ?_
            exact J_zret rfl rfl (Or.inl rfl) ⟨_, rfl, W⟩
      · refine J_iconst (pc' := 372) rfl (i32_d rfl) rfl ?_
        refine J_goto (pc' := 376) rfl rfl ?_
        obtain ⟨zg123, W⟩ := W
        refine J_callI (as := [jo 12 zo1, ji (ra σ 800000 0 (zx3 + 1)), ji 1]) (rest := []) (pc' := 379) rfl rfl ax_Z_259 rfl rfl (Or.inr (Or.inr ⟨_, _, rfl, zg104⟩)) (Nat.le_of_ble_eq_true rfl) (Nat.le_of_ble_eq_true rfl) (Nat.le_of_ble_eq_true rfl) zg123 (And.intro rfl trivial) trivial rfl W (fun zr125 zs124 W => ?_)
        obtain ⟨zg126, W⟩ := W
        refine J_aload_no (pc' := 380) rfl rfl zg126 rfl ?_
        refine J_aload_na (pc' := 381) rfl rfl rfl ?_
        refine J_iload_n (pc' := 382) rfl rfl rfl ?_
        refine J_iconst (pc' := 383) rfl (i32_d rfl) rfl ?_
        refine J_iadd (pc' := 384) rfl zg105 rfl ?_
        obtain ⟨zg127, W⟩ := W
        refine J_iald (pc' := 385) rfl rfl zg106 zg127 rfl ?_
        refine J_aload_na (pc' := 386) rfl rfl rfl ?_
        refine J_iload_n (pc' := 387) rfl rfl rfl ?_
        refine J_iconst (pc' := 388) rfl (i32_d rfl) rfl ?_
        refine J_iadd (pc' := 389) rfl zg108 rfl ?_
        obtain ⟨zg128, W⟩ := W
        refine J_iald (pc' := 390) rfl rfl zg109 zg128 rfl ?_
        refine J_if (P := ra zs124 800000 0 (zx3 + 2) = 0) (t := 397) (f := 393) rfl rfl rfl jc_eq W (fun W => ?_) (fun W => ?_)
        · refine J_iconst (pc' := 398) rfl (i32_d rfl) rfl ?_
          refine J_callI (as := [jo 1 zo2, ji (ra zs124 800000 0 (zx3 + 1)), ji 0]) (rest := [ji zr125]) (pc' := 401) rfl rfl ax_Z_32 rfl rfl (Or.inr (Or.inr ⟨_, _, rfl, zg126⟩)) (Nat.le_of_ble_eq_true rfl) (Nat.le_of_ble_eq_true rfl) (Nat.le_of_ble_eq_true rfl) zg123 (And.intro rfl trivial) trivial rfl W (fun zr130 zs129 W => ?_)
          refine J_icmp (P := zr125 = zr130) (t := 909) (f := 404) rfl rfl rfl jc_eq W (fun W => ?_) (fun W => ?_)
          · obtain ⟨zg131, W⟩ := W
            refine J_iinc (L' := [some (ja 800000 0), some (jo 12 zo1), some (jo 1 zo2), some (ji (zx3 + 6))]) (pc' := 912) rfl rfl zg131 rfl rfl ?_
            refine J_goto (pc' := 18) rfl rfl ?_
            exact W
          · refine J_iconst (pc' := 405) rfl (i32_d rfl) rfl ?_
            exact J_zret rfl rfl (Or.inl rfl) ⟨_, rfl, W⟩
        · refine J_iconst (pc' := 394) rfl (i32_d rfl) rfl ?_
          refine J_goto (pc' := 398) rfl rfl ?_
          refine J_callI (as := [jo 1 zo2, ji (ra zs124 800000 0 (zx3 + 1)), ji 1]) (rest := [ji zr125]) (pc' := 401) rfl rfl ax_Z_32 rfl rfl (Or.inr (Or.inr ⟨_, _, rfl, zg126⟩)) (Nat.le_of_ble_eq_true rfl) (Nat.le_of_ble_eq_true rfl) (Nat.le_of_ble_eq_true rfl) zg123 (And.intro rfl trivial) trivial rfl W (fun zr133 zs132 W => ?_)
          refine J_icmp (P := zr125 = zr133) (t := 909) (f := 404) rfl rfl rfl jc_eq W (fun W => ?_) (fun W => ?_)
          · obtain ⟨zg134, W⟩ := W
            refine J_iinc (L' := [some (ja 800000 0), some (jo 12 zo1), some (jo 1 zo2), some (ji (zx3 + 6))]) (pc' := 912) rfl rfl zg134 rfl rfl ?_
            refine J_goto (pc' := 18) rfl rfl ?_
            exact W
          · refine J_iconst (pc' := 405) rfl (i32_d rfl) rfl ?_
            exact J_zret rfl rfl (Or.inl rfl) ⟨_, rfl, W⟩
    rw [if_neg zc406] at W
    by_cases zc407 : bAnd (ra σ 800000 0 zx3) 31 = 8
    · rw [if_pos zc407] at W
      refine J_swC (pc' := 406) (i := 8) rfl (by omega) (by decide) rfl rfl ?_
      obtain ⟨zg135, W⟩ := W
      refine J_aload_no (pc' := 407) rfl rfl zg135 rfl ?_
      refine J_aload_na (pc' := 408) rfl rfl rfl ?_
      refine J_iload_n (pc' := 409) rfl rfl rfl ?_
      refine J_iconst (pc' := 410) rfl (i32_d rfl) rfl ?_
      obtain ⟨zg136, W⟩ := W
      refine J_iadd (pc' := 411) rfl zg136 rfl ?_
      obtain ⟨zg137, W⟩ := W
      obtain ⟨zg138, W⟩ := W
      refine J_iald (pc' := 412) rfl rfl zg137 zg138 rfl ?_
      refine J_aload_na (pc' := 413) rfl rfl rfl ?_
      refine J_iload_n (pc' := 414) rfl rfl rfl ?_
      refine J_iconst (pc' := 415) rfl (i32_d rfl) rfl ?_
      obtain ⟨zg139, W⟩ := W
      refine J_iadd (pc' := 416) rfl zg139 rfl ?_
      obtain ⟨zg140, W⟩ := W
      obtain ⟨zg141, W⟩ := W
      refine J_iald (pc' := 417) rfl rfl zg140 zg141 rfl ?_
      refine J_if (P := ra σ 800000 0 (zx3 + 2) = 0) (t := 424) (f := 420) rfl rfl rfl jc_eq W (fun W => ?_) (fun W => ?_)
      · refine J_iconst (pc' := 425) rfl (i32_d rfl) rfl ?_
        obtain ⟨zg142, W⟩ := W
        refine J_callI (as := [jo 12 zo1, ji (ra σ 800000 0 (zx3 + 1)), ji 0]) (rest := []) (pc' := 428) rfl rfl ax_Z_260 rfl rfl (Or.inr (Or.inr ⟨_, _, rfl, zg135⟩)) (Nat.le_of_ble_eq_true rfl) (Nat.le_of_ble_eq_true rfl) (Nat.le_of_ble_eq_true rfl) zg142 (And.intro rfl trivial) trivial rfl W (fun zr144 zs143 W => ?_)
        obtain ⟨zg145, W⟩ := W
        refine J_aload_no (pc' := 429) rfl rfl zg145 rfl ?_
        refine J_aload_na (pc' := 430) rfl rfl rfl ?_
        refine J_iload_n (pc' := 431) rfl rfl rfl ?_
        refine J_iconst (pc' := 432) rfl (i32_d rfl) rfl ?_
        refine J_iadd (pc' := 433) rfl zg136 rfl ?_
        obtain ⟨zg146, W⟩ := W
        refine J_iald (pc' := 434) rfl rfl zg137 zg146 rfl ?_
        refine J_aload_na (pc' := 435) rfl rfl rfl ?_
        refine J_iload_n (pc' := 436) rfl rfl rfl ?_
        refine J_iconst (pc' := 437) rfl (i32_d rfl) rfl ?_
        refine J_iadd (pc' := 438) rfl zg139 rfl ?_
        obtain ⟨zg147, W⟩ := W
        refine J_iald (pc' := 439) rfl rfl zg140 zg147 rfl ?_
        refine J_if (P := ra zs143 800000 0 (zx3 + 2) = 0) (t := 446) (f := 442) rfl rfl rfl jc_eq W (fun W => ?_) (fun W => ?_)
        · refine J_iconst (pc' := 447) rfl (i32_d rfl) rfl ?_
          refine J_callI (as := [jo 1 zo2, ji (ra zs143 800000 0 (zx3 + 1)), ji 0]) (rest := [ji zr144]) (pc' := 450) rfl rfl ax_Z_33 rfl rfl (Or.inr (Or.inr ⟨_, _, rfl, zg145⟩)) (Nat.le_of_ble_eq_true rfl) (Nat.le_of_ble_eq_true rfl) (Nat.le_of_ble_eq_true rfl) zg142 (And.intro rfl trivial) trivial rfl W (fun zr149 zs148 W => ?_)
          refine J_icmp (P := zr144 = zr149) (t := 909) (f := 453) rfl rfl rfl jc_eq W (fun W => ?_) (fun W => ?_)
          · obtain ⟨zg150, W⟩ := W
            refine J_iinc (L' := [some (ja 800000 0), some (jo 12 zo1), some (jo 1 zo2), some (ji (zx3 + 6))]) (pc' := 912) rfl rfl zg150 rfl rfl ?_
            refine J_goto (pc' := 18) rfl rfl ?_
            exact W
          · refine J_iconst (pc' := 454) rfl (i32_d rfl) rfl ?_
            exact J_zret rfl rfl (Or.inl rfl) ⟨_, rfl, W⟩
        · refine J_iconst (pc' := 443) rfl (i32_d rfl) rfl ?_
          refine J_goto (pc' := 447) rfl rfl ?_
          refine J_callI (as := [jo 1 zo2, ji (ra zs143 800000 0 (zx3 + 1)), ji 1]) (rest := [ji zr144]) (pc' := 450) rfl rfl ax_Z_33 rfl rfl (Or.inr (Or.inr ⟨_, _, rfl, zg145⟩)) (Nat.le_of_ble_eq_true rfl) (Nat.le_of_ble_eq_true rfl) (Nat.le_of_ble_eq_true rfl) zg142 (And.intro rfl trivial) trivial rfl W (fun zr152 zs151 W => ?_)
          refine J_icmp (P := zr144 = zr152) (t := 909) (f := 453) rfl rfl rfl jc_eq W (fun W => ?_) (fun W => ?_)
          · obtain ⟨zg153, W⟩ := W
            refine J_iinc (L' := [some (ja 800000 0), some (jo 12 zo1), some (jo 1 zo2), some (ji (zx3 + 6))]) (pc' := 912) rfl rfl zg153 rfl rfl ?_
            refine J_goto (pc' := 18) rfl rfl ?_
            exact W
          · refine J_iconst (pc' := 454) rfl (i32_d rfl) rfl ?_
            exact J_zret rfl rfl (Or.inl rfl) ⟨_, rfl, W⟩
      · refine J_iconst (pc' := 421) rfl (i32_d rfl) rfl ?_
        refine J_goto (pc' := 425) rfl rfl ?_
        obtain ⟨zg154, W⟩ := W
        refine J_callI (as := [jo 12 zo1, ji (ra σ 800000 0 (zx3 + 1)), ji 1]) (rest := []) (pc' := 428) rfl rfl ax_Z_260 rfl rfl (Or.inr (Or.inr ⟨_, _, rfl, zg135⟩)) (Nat.le_of_ble_eq_true rfl) (Nat.le_of_ble_eq_true rfl) (Nat.le_of_ble_eq_true rfl) zg154 (And.intro rfl trivial) trivial rfl W (fun zr156 zs155 W => ?_)
        obtain ⟨zg157, W⟩ := W
        refine J_aload_no (pc' := 429) rfl rfl zg157 rfl ?_
        refine J_aload_na (pc' := 430) rfl rfl rfl ?_
        refine J_iload_n (pc' := 431) rfl rfl rfl ?_
        refine J_iconst (pc' := 432) rfl (i32_d rfl) rfl ?_
        refine J_iadd (pc' := 433) rfl zg136 rfl ?_
        obtain ⟨zg158, W⟩ := W
        refine J_iald (pc' := 434) rfl rfl zg137 zg158 rfl ?_
        refine J_aload_na (pc' := 435) rfl rfl rfl ?_
        refine J_iload_n (pc' := 436) rfl rfl rfl ?_
        refine J_iconst (pc' := 437) rfl (i32_d rfl) rfl ?_
        refine J_iadd (pc' := 438) rfl zg139 rfl ?_
        obtain ⟨zg159, W⟩ := W
        refine J_iald (pc' := 439) rfl rfl zg140 zg159 rfl ?_
        refine J_if (P := ra zs155 800000 0 (zx3 + 2) = 0) (t := 446) (f := 442) rfl rfl rfl jc_eq W (fun W => ?_) (fun W => ?_)
        · refine J_iconst (pc' := 447) rfl (i32_d rfl) rfl ?_
          refine J_callI (as := [jo 1 zo2, ji (ra zs155 800000 0 (zx3 + 1)), ji 0]) (rest := [ji zr156]) (pc' := 450) rfl rfl ax_Z_33 rfl rfl (Or.inr (Or.inr ⟨_, _, rfl, zg157⟩)) (Nat.le_of_ble_eq_true rfl) (Nat.le_of_ble_eq_true rfl) (Nat.le_of_ble_eq_true rfl) zg154 (And.intro rfl trivial) trivial rfl W (fun zr161 zs160 W => ?_)
          refine J_icmp (P := zr156 = zr161) (t := 909) (f := 453) rfl rfl rfl jc_eq W (fun W => ?_) (fun W => ?_)
          · obtain ⟨zg162, W⟩ := W
            refine J_iinc (L' := [some (ja 800000 0), some (jo 12 zo1), some (jo 1 zo2), some (ji (zx3 + 6))]) (pc' := 912) rfl rfl zg162 rfl rfl ?_
            refine J_goto (pc' := 18) rfl rfl ?_
            exact W
          · refine J_iconst (pc' := 454) rfl (i32_d rfl) rfl ?_
            exact J_zret rfl rfl (Or.inl rfl) ⟨_, rfl, W⟩
        · refine J_iconst (pc' := 443) rfl (i32_d rfl) rfl ?_
          refine J_goto (pc' := 447) rfl rfl ?_
          refine J_callI (as := [jo 1 zo2, ji (ra zs155 800000 0 (zx3 + 1)), ji 1]) (rest := [ji zr156]) (pc' := 450) rfl rfl ax_Z_33 rfl rfl (Or.inr (Or.inr ⟨_, _, rfl, zg157⟩)) (Nat.le_of_ble_eq_true rfl) (Nat.le_of_ble_eq_true rfl) (Nat.le_of_ble_eq_true rfl) zg154 (And.intro rfl trivial) trivial rfl W (fun zr164 zs163 W => ?_)
          refine J_icmp (P := zr156 = zr164) (t := 909) (f := 453) rfl rfl rfl jc_eq W (fun W => ?_) (fun W => ?_)
          · obtain ⟨zg165, W⟩ := W
            refine J_iinc (L' := [some (ja 800000 0), some (jo 12 zo1), some (jo 1 zo2), some (ji (zx3 + 6))]) (pc' := 912) rfl rfl zg165 rfl rfl ?_
            refine J_goto (pc' := 18) rfl rfl ?_
            exact W
          · refine J_iconst (pc' := 454) rfl (i32_d rfl) rfl ?_
            exact J_zret rfl rfl (Or.inl rfl) ⟨_, rfl, W⟩
    rw [if_neg zc407] at W
    by_cases zc408 : bAnd (ra σ 800000 0 zx3) 31 = 9
    · rw [if_pos zc408] at W
      refine J_swC (pc' := 455) (i := 9) rfl (by omega) (by decide) rfl rfl ?_
      obtain ⟨zg166, W⟩ := W
      refine J_aload_no (pc' := 456) rfl rfl zg166 rfl ?_
      refine J_aload_na (pc' := 457) rfl rfl rfl ?_
      refine J_iload_n (pc' := 458) rfl rfl rfl ?_
      refine J_iconst (pc' := 459) rfl (i32_d rfl) rfl ?_
      obtain ⟨zg167, W⟩ := W
      refine J_iadd (pc' := 460) rfl zg167 rfl ?_
      obtain ⟨zg168, W⟩ := W
      obtain ⟨zg169, W⟩ := W
      refine J_iald (pc' := 461) rfl rfl zg168 zg169 rfl ?_
      refine J_aload_na (pc' := 462) rfl rfl rfl ?_
      refine J_iload_n (pc' := 463) rfl rfl rfl ?_
      refine J_iconst (pc' := 464) rfl (i32_d rfl) rfl ?_
      obtain ⟨zg170, W⟩ := W
      refine J_iadd (pc' := 465) rfl zg170 rfl ?_
      obtain ⟨zg171, W⟩ := W
      obtain ⟨zg172, W⟩ := W
      refine J_iald (pc' := 466) rfl rfl zg171 zg172 rfl ?_
      obtain ⟨zg173, W⟩ := W
      refine J_callI (as := [jo 12 zo1, ji (ra σ 800000 0 (zx3 + 1)), ji (ra σ 800000 0 (zx3 + 2))]) (rest := []) (pc' := 469) rfl rfl ax_Z_261 rfl rfl (Or.inr (Or.inr ⟨_, _, rfl, zg166⟩)) (Nat.le_of_ble_eq_true rfl) (Nat.le_of_ble_eq_true rfl) (Nat.le_of_ble_eq_true rfl) zg173 (And.intro rfl trivial) trivial rfl W (fun zr175 zs174 W => ?_)
      obtain ⟨zg176, W⟩ := W
      refine J_aload_no (pc' := 470) rfl rfl zg176 rfl ?_
      refine J_aload_na (pc' := 471) rfl rfl rfl ?_
      refine J_iload_n (pc' := 472) rfl rfl rfl ?_
      refine J_iconst (pc' := 473) rfl (i32_d rfl) rfl ?_
      refine J_iadd (pc' := 474) rfl zg167 rfl ?_
      obtain ⟨zg177, W⟩ := W
      refine J_iald (pc' := 475) rfl rfl zg168 zg177 rfl ?_
      refine J_aload_na (pc' := 476) rfl rfl rfl ?_
      refine J_iload_n (pc' := 477) rfl rfl rfl ?_
      refine J_iconst (pc' := 478) rfl (i32_d rfl) rfl ?_
      refine J_iadd (pc' := 479) rfl zg170 rfl ?_
      obtain ⟨zg178, W⟩ := W
      refine J_iald (pc' := 480) rfl rfl zg171 zg178 rfl ?_
      refine J_callI (as := [jo 1 zo2, ji (ra zs174 800000 0 (zx3 + 1)), ji (ra zs174 800000 0 (zx3 + 2))]) (rest := [ji zr175]) (pc' := 483) rfl rfl ax_Z_37 rfl rfl (Or.inr (Or.inr ⟨_, _, rfl, zg176⟩)) (Nat.le_of_ble_eq_true rfl) (Nat.le_of_ble_eq_true rfl) (Nat.le_of_ble_eq_true rfl) zg173 (And.intro rfl trivial) trivial rfl W (fun zr180 zs179 W => ?_)
      refine J_icmp (P := zr175 = zr180) (t := 909) (f := 486) rfl rfl rfl jc_eq W (fun W => ?_) (fun W => ?_)
      · obtain ⟨zg181, W⟩ := W
        refine J_iinc (L' := [some (ja 800000 0), some (jo 12 zo1), some (jo 1 zo2), some (ji (zx3 + 6))]) (pc' := 912) rfl rfl zg181 rfl rfl ?_
        refine J_goto (pc' := 18) rfl rfl ?_
        exact W
      · refine J_iconst (pc' := 487) rfl (i32_d rfl) rfl ?_
        exact J_zret rfl rfl (Or.inl rfl) ⟨_, rfl, W⟩
    rw [if_neg zc408] at W
    by_cases zc409 : bAnd (ra σ 800000 0 zx3) 31 = 10
    · rw [if_pos zc409] at W
      refine J_swC (pc' := 488) (i := 10) rfl (by omega) (by decide) rfl rfl ?_
      obtain ⟨zg182, W⟩ := W
      refine J_aload_no (pc' := 489) rfl rfl zg182 rfl ?_
      obtain ⟨zg183, W⟩ := W
      refine J_callI (as := [jo 12 zo1]) (rest := []) (pc' := 492) rfl rfl ax_Z_262 rfl rfl (Or.inr (Or.inr ⟨_, _, rfl, zg182⟩)) (Nat.le_of_ble_eq_true rfl) (Nat.le_of_ble_eq_true rfl) (Nat.le_of_ble_eq_true rfl) zg183 (And.intro rfl trivial) trivial rfl W (fun zr185 zs184 W => ?_)
      obtain ⟨zg186, W⟩ := W
      refine J_aload_no (pc' := 493) rfl rfl zg186 rfl ?_
      refine J_callI (as := [jo 1 zo2]) (rest := [ji zr185]) (pc' := 496) rfl rfl ax_Z_38 rfl rfl (Or.inr (Or.inr ⟨_, _, rfl, zg186⟩)) (Nat.le_of_ble_eq_true rfl) (Nat.le_of_ble_eq_true rfl) (Nat.le_of_ble_eq_true rfl) zg183 (And.intro rfl trivial) trivial rfl W (fun zr188 zs187 W => ?_)
      refine J_icmp (P := zr185 = zr188) (t := 909) (f := 499) rfl rfl rfl jc_eq W (fun W => ?_) (fun W => ?_)
      · obtain ⟨zg189, W⟩ := W
        refine J_iinc (L' := [some (ja 800000 0), some (jo 12 zo1), some (jo 1 zo2), some (ji (zx3 + 6))]) (pc' := 912) rfl rfl zg189 rfl rfl ?_
        refine J_goto (pc' := 18) rfl rfl ?_
        exact W
      · refine J_iconst (pc' := 500) rfl (i32_d rfl) rfl ?_
        exact J_zret rfl rfl (Or.inl rfl) ⟨_, rfl, W⟩
    rw [if_neg zc409] at W
    by_cases zc410 : bAnd (ra σ 800000 0 zx3) 31 = 11
    · rw [if_pos zc410] at W
      refine J_swC (pc' := 501) (i := 11) rfl (by omega) (by decide) rfl rfl ?_
      obtain ⟨zg190, W⟩ := W
      refine J_aload_no (pc' := 502) rfl rfl zg190 rfl ?_
      refine J_aload_na (pc' := 503) rfl rfl rfl ?_
      refine J_iload_n (pc' := 504) rfl rfl rfl ?_
      refine J_iconst (pc' := 505) rfl (i32_d rfl) rfl ?_
      obtain ⟨zg191, W⟩ := W
      refine J_iadd (pc' := 506) rfl zg191 rfl ?_
      obtain ⟨zg192, W⟩ := W
      obtain ⟨zg193, W⟩ := W
      refine J_iald (pc' := 507) rfl rfl zg192 zg193 rfl ?_
      obtain ⟨zg194, W⟩ := W
      refine J_callI (as := [jo 12 zo1, ji (ra σ 800000 0 (zx3 + 1))]) (rest := []) (pc' := 510) rfl rfl ax_Z_263 rfl rfl (Or.inr (Or.inr ⟨_, _, rfl, zg190⟩)) (Nat.le_of_ble_eq_true rfl) (Nat.le_of_ble_eq_true rfl) (Nat.le_of_ble_eq_true rfl) zg194 (And.intro rfl trivial) trivial rfl W (fun zr196 zs195 W => ?_)
      obtain ⟨zg197, W⟩ := W
      refine J_aload_no (pc' := 511) rfl rfl zg197 rfl ?_
      refine J_aload_na (pc' := 512) rfl rfl rfl ?_
      refine J_iload_n (pc' := 513) rfl rfl rfl ?_
      refine J_iconst (pc' := 514) rfl (i32_d rfl) rfl ?_
      refine J_iadd (pc' := 515) rfl zg191 rfl ?_
      obtain ⟨zg198, W⟩ := W
      refine J_iald (pc' := 516) rfl rfl zg192 zg198 rfl ?_
      refine J_callI (as := [jo 1 zo2, ji (ra zs195 800000 0 (zx3 + 1))]) (rest := [ji zr196]) (pc' := 519) rfl rfl ax_Z_53 rfl rfl (Or.inr (Or.inr ⟨_, _, rfl, zg197⟩)) (Nat.le_of_ble_eq_true rfl) (Nat.le_of_ble_eq_true rfl) (Nat.le_of_ble_eq_true rfl) zg194 (And.intro rfl trivial) trivial rfl W (fun zr200 zs199 W => ?_)
      refine J_icmp (P := zr196 = zr200) (t := 909) (f := 522) rfl rfl rfl jc_eq W (fun W => ?_) (fun W => ?_)
      · obtain ⟨zg201, W⟩ := W
        refine J_iinc (L' := [some (ja 800000 0), some (jo 12 zo1), some (jo 1 zo2), some (ji (zx3 + 6))]) (pc' := 912) rfl rfl zg201 rfl rfl ?_
        refine J_goto (pc' := 18) rfl rfl ?_
        exact W
      · refine J_iconst (pc' := 523) rfl (i32_d rfl) rfl ?_
        exact J_zret rfl rfl (Or.inl rfl) ⟨_, rfl, W⟩
    rw [if_neg zc410] at W
    by_cases zc411 : bAnd (ra σ 800000 0 zx3) 31 = 12
    · rw [if_pos zc411] at W
      refine J_swC (pc' := 524) (i := 12) rfl (by omega) (by decide) rfl rfl ?_
      obtain ⟨zg202, W⟩ := W
      refine J_aload_no (pc' := 525) rfl rfl zg202 rfl ?_
      refine J_aload_na (pc' := 526) rfl rfl rfl ?_
      refine J_iload_n (pc' := 527) rfl rfl rfl ?_
      refine J_iconst (pc' := 528) rfl (i32_d rfl) rfl ?_
      obtain ⟨zg203, W⟩ := W
      refine J_iadd (pc' := 529) rfl zg203 rfl ?_
      obtain ⟨zg204, W⟩ := W
      obtain ⟨zg205, W⟩ := W
      refine J_iald (pc' := 530) rfl rfl zg204 zg205 rfl ?_
      refine J_aload_na (pc' := 531) rfl rfl rfl ?_
      refine J_iload_n (pc' := 532) rfl rfl rfl ?_
      refine J_iconst (pc' := 533) rfl (i32_d rfl) rfl ?_
      obtain ⟨zg206, W⟩ := W
      refine J_iadd (pc' := 534) rfl zg206 rfl ?_
      obtain ⟨zg207, W⟩ := W
      obtain ⟨zg208, W⟩ := W
      refine J_iald (pc' := 535) rfl rfl zg207 zg208 rfl ?_
      refine J_aload_na (pc' := 536) rfl rfl rfl ?_
      refine J_iload_n (pc' := 537) rfl rfl rfl ?_
      refine J_iconst (pc' := 538) rfl (i32_d rfl) rfl ?_
      obtain ⟨zg209, W⟩ := W
      refine J_iadd (pc' := 539) rfl zg209 rfl ?_
      obtain ⟨zg210, W⟩ := W
      obtain ⟨zg211, W⟩ := W
      refine J_iald (pc' := 540) rfl rfl zg210 zg211 rfl ?_
      obtain ⟨zg212, W⟩ := W
      refine J_callI (as := [jo 12 zo1, ji (ra σ 800000 0 (zx3 + 1)), ji (ra σ 800000 0 (zx3 + 2)), ji (ra σ 800000 0 (zx3 + 3))]) (rest := []) (pc' := 543) rfl rfl ax_Z_264 rfl rfl (Or.inr (Or.inr ⟨_, _, rfl, zg202⟩)) (Nat.le_of_ble_eq_true rfl) (Nat.le_of_ble_eq_true rfl) (Nat.le_of_ble_eq_true rfl) zg212 (And.intro rfl trivial) trivial rfl W (fun zr214 zs213 W => ?_)
      obtain ⟨zg215, W⟩ := W
      refine J_aload_no (pc' := 544) rfl rfl zg215 rfl ?_
      refine J_aload_na (pc' := 545) rfl rfl rfl ?_
      refine J_iload_n (pc' := 546) rfl rfl rfl ?_
      refine J_iconst (pc' := 547) rfl (i32_d rfl) rfl ?_
      refine J_iadd (pc' := 548) rfl zg203 rfl ?_
      obtain ⟨zg216, W⟩ := W
      refine J_iald (pc' := 549) rfl rfl zg204 zg216 rfl ?_
      refine J_aload_na (pc' := 550) rfl rfl rfl ?_
      refine J_iload_n (pc' := 551) rfl rfl rfl ?_
      refine J_iconst (pc' := 552) rfl (i32_d rfl) rfl ?_
      refine J_iadd (pc' := 553) rfl zg206 rfl ?_
      obtain ⟨zg217, W⟩ := W
      refine J_iald (pc' := 554) rfl rfl zg207 zg217 rfl ?_
      refine J_aload_na (pc' := 555) rfl rfl rfl ?_
      refine J_iload_n (pc' := 556) rfl rfl rfl ?_
      refine J_iconst (pc' := 557) rfl (i32_d rfl) rfl ?_
      refine J_iadd (pc' := 558) rfl zg209 rfl ?_
      obtain ⟨zg218, W⟩ := W
      refine J_iald (pc' := 559) rfl rfl zg210 zg218 rfl ?_
      refine J_callI (as := [jo 1 zo2, ji (ra zs213 800000 0 (zx3 + 1)), ji (ra zs213 800000 0 (zx3 + 2)), ji (ra zs213 800000 0 (zx3 + 3))]) (rest := [ji zr214]) (pc' := 562) rfl rfl ax_Z_100 rfl rfl (Or.inr (Or.inr ⟨_, _, rfl, zg215⟩)) (Nat.le_of_ble_eq_true rfl) (Nat.le_of_ble_eq_true rfl) (Nat.le_of_ble_eq_true rfl) zg212 (And.intro rfl trivial) trivial rfl W (fun zr220 zs219 W => ?_)
      refine J_icmp (P := zr214 = zr220) (t := 909) (f := 565) rfl rfl rfl jc_eq W (fun W => ?_) (fun W => ?_)
      · obtain ⟨zg221, W⟩ := W
        refine J_iinc (L' := [some (ja 800000 0), some (jo 12 zo1), some (jo 1 zo2), some (ji (zx3 + 6))]) (pc' := 912) rfl rfl zg221 rfl rfl ?_
        refine J_goto (pc' := 18) rfl rfl ?_
        exact W
      · refine J_iconst (pc' := 566) rfl (i32_d rfl) rfl ?_
        exact J_zret rfl rfl (Or.inl rfl) ⟨_, rfl, W⟩
    rw [if_neg zc411] at W
    by_cases zc412 : bAnd (ra σ 800000 0 zx3) 31 = 13
    · rw [if_pos zc412] at W
      refine J_swC (pc' := 567) (i := 13) rfl (by omega) (by decide) rfl rfl ?_
      obtain ⟨zg222, W⟩ := W
      refine J_aload_no (pc' := 568) rfl rfl zg222 rfl ?_
      refine J_aload_na (pc' := 569) rfl rfl rfl ?_
      refine J_iload_n (pc' := 570) rfl rfl rfl ?_
      refine J_iconst (pc' := 571) rfl (i32_d rfl) rfl ?_
      obtain ⟨zg223, W⟩ := W
      refine J_iadd (pc' := 572) rfl zg223 rfl ?_
      obtain ⟨zg224, W⟩ := W
      obtain ⟨zg225, W⟩ := W
      refine J_iald (pc' := 573) rfl rfl zg224 zg225 rfl ?_
      refine J_aload_na (pc' := 574) rfl rfl rfl ?_
      refine J_iload_n (pc' := 575) rfl rfl rfl ?_
      refine J_iconst (pc' := 576) rfl (i32_d rfl) rfl ?_
      obtain ⟨zg226, W⟩ := W
      refine J_iadd (pc' := 577) rfl zg226 rfl ?_
      obtain ⟨zg227, W⟩ := W
      obtain ⟨zg228, W⟩ := W
      refine J_iald (pc' := 578) rfl rfl zg227 zg228 rfl ?_
      obtain ⟨zg229, W⟩ := W
      refine J_callI (as := [jo 12 zo1, ji (ra σ 800000 0 (zx3 + 1)), ji (ra σ 800000 0 (zx3 + 2))]) (rest := []) (pc' := 581) rfl rfl ax_Z_265 rfl rfl (Or.inr (Or.inr ⟨_, _, rfl, zg222⟩)) (Nat.le_of_ble_eq_true rfl) (Nat.le_of_ble_eq_true rfl) (Nat.le_of_ble_eq_true rfl) zg229 (And.intro rfl trivial) trivial rfl W (fun zr231 zs230 W => ?_)
      obtain ⟨zg232, W⟩ := W
      refine J_aload_no (pc' := 582) rfl rfl zg232 rfl ?_
      refine J_aload_na (pc' := 583) rfl rfl rfl ?_
      refine J_iload_n (pc' := 584) rfl rfl rfl ?_
      refine J_iconst (pc' := 585) rfl (i32_d rfl) rfl ?_
      refine J_iadd (pc' := 586) rfl zg223 rfl ?_
      obtain ⟨zg233, W⟩ := W
      refine J_iald (pc' := 587) rfl rfl zg224 zg233 rfl ?_
      refine J_aload_na (pc' := 588) rfl rfl rfl ?_
      refine J_iload_n (pc' := 589) rfl rfl rfl ?_
      refine J_iconst (pc' := 590) rfl (i32_d rfl) rfl ?_
      refine J_iadd (pc' := 591) rfl zg226 rfl ?_
      obtain ⟨zg234, W⟩ := W
      refine J_iald (pc' := 592) rfl rfl zg227 zg234 rfl ?_
      refine J_callI (as := [jo 1 zo2, ji (ra zs230 800000 0 (zx3 + 1)), ji (ra zs230 800000 0 (zx3 + 2))]) (rest := [ji zr231]) (pc' := 595) rfl rfl ax_Z_101 rfl rfl (Or.inr (Or.inr ⟨_, _, rfl, zg232⟩)) (Nat.le_of_ble_eq_true rfl) (Nat.le_of_ble_eq_true rfl) (Nat.le_of_ble_eq_true rfl) zg229 (And.intro rfl trivial) trivial rfl W (fun zr236 zs235 W => ?_)
      refine J_icmp (P := zr231 = zr236) (t := 909) (f := 598) rfl rfl rfl jc_eq W (fun W => ?_) (fun W => ?_)
      · obtain ⟨zg237, W⟩ := W
        refine J_iinc (L' := [some (ja 800000 0), some (jo 12 zo1), some (jo 1 zo2), some (ji (zx3 + 6))]) (pc' := 912) rfl rfl zg237 rfl rfl ?_
        refine J_goto (pc' := 18) rfl rfl ?_
        exact W
      · refine J_iconst (pc' := 599) rfl (i32_d rfl) rfl ?_
        exact J_zret rfl rfl (Or.inl rfl) ⟨_, rfl, W⟩
    rw [if_neg zc412] at W
    by_cases zc413 : bAnd (ra σ 800000 0 zx3) 31 = 14
    · rw [if_pos zc413] at W
      refine J_swC (pc' := 600) (i := 14) rfl (by omega) (by decide) rfl rfl ?_
      obtain ⟨zg238, W⟩ := W
      refine J_aload_no (pc' := 601) rfl rfl zg238 rfl ?_
      refine J_aload_na (pc' := 602) rfl rfl rfl ?_
      refine J_iload_n (pc' := 603) rfl rfl rfl ?_
      refine J_iconst (pc' := 604) rfl (i32_d rfl) rfl ?_
      obtain ⟨zg239, W⟩ := W
      refine J_iadd (pc' := 605) rfl zg239 rfl ?_
      obtain ⟨zg240, W⟩ := W
      obtain ⟨zg241, W⟩ := W
      refine J_iald (pc' := 606) rfl rfl zg240 zg241 rfl ?_
      obtain ⟨zg242, W⟩ := W
      refine J_callI (as := [jo 12 zo1, ji (ra σ 800000 0 (zx3 + 1))]) (rest := []) (pc' := 609) rfl rfl ax_Z_266 rfl rfl (Or.inr (Or.inr ⟨_, _, rfl, zg238⟩)) (Nat.le_of_ble_eq_true rfl) (Nat.le_of_ble_eq_true rfl) (Nat.le_of_ble_eq_true rfl) zg242 (And.intro rfl trivial) trivial rfl W (fun zr244 zs243 W => ?_)
      obtain ⟨zg245, W⟩ := W
      refine J_aload_no (pc' := 610) rfl rfl zg245 rfl ?_
      refine J_aload_na (pc' := 611) rfl rfl rfl ?_
      refine J_iload_n (pc' := 612) rfl rfl rfl ?_
      refine J_iconst (pc' := 613) rfl (i32_d rfl) rfl ?_
      refine J_iadd (pc' := 614) rfl zg239 rfl ?_
      obtain ⟨zg246, W⟩ := W
      refine J_iald (pc' := 615) rfl rfl zg240 zg246 rfl ?_
      refine J_callI (as := [jo 1 zo2, ji (ra zs243 800000 0 (zx3 + 1))]) (rest := [ji zr244]) (pc' := 618) rfl rfl ax_Z_79 rfl rfl (Or.inr (Or.inr ⟨_, _, rfl, zg245⟩)) (Nat.le_of_ble_eq_true rfl) (Nat.le_of_ble_eq_true rfl) (Nat.le_of_ble_eq_true rfl) zg242 (And.intro rfl trivial) trivial rfl W (fun zr248 zs247 W => ?_)
      refine J_icmp (P := zr244 = zr248) (t := 909) (f := 621) rfl rfl rfl jc_eq W (fun W => ?_) (fun W => ?_)
      · obtain ⟨zg249, W⟩ := W
        refine J_iinc (L' := [some (ja 800000 0), some (jo 12 zo1), some (jo 1 zo2), some (ji (zx3 + 6))]) (pc' := 912) rfl rfl zg249 rfl rfl ?_
        refine J_goto (pc' := 18) rfl rfl ?_
        exact W
      · refine J_iconst (pc' := 622) rfl (i32_d rfl) rfl ?_
        exact J_zret rfl rfl (Or.inl rfl) ⟨_, rfl, W⟩
    rw [if_neg zc413] at W
    by_cases zc414 : bAnd (ra σ 800000 0 zx3) 31 = 15
    · rw [if_pos zc414] at W
      refine J_swC (pc' := 623) (i := 15) rfl (by omega) (by decide) rfl rfl ?_
      obtain ⟨zg250, W⟩ := W
      refine J_aload_no (pc' := 624) rfl rfl zg250 rfl ?_
      refine J_aload_na (pc' := 625) rfl rfl rfl ?_
      refine J_iload_n (pc' := 626) rfl rfl rfl ?_
      refine J_iconst (pc' := 627) rfl (i32_d rfl) rfl ?_
      obtain ⟨zg251, W⟩ := W
      refine J_iadd (pc' := 628) rfl zg251 rfl ?_
      obtain ⟨zg252, W⟩ := W
      obtain ⟨zg253, W⟩ := W
      refine J_iald (pc' := 629) rfl rfl zg252 zg253 rfl ?_
      obtain ⟨zg254, W⟩ := W
      refine J_callI (as := [jo 12 zo1, ji (ra σ 800000 0 (zx3 + 1))]) (rest := []) (pc' := 632) rfl rfl ax_Z_267 rfl rfl (Or.inr (Or.inr ⟨_, _, rfl, zg250⟩)) (Nat.le_of_ble_eq_true rfl) (Nat.le_of_ble_eq_true rfl) (Nat.le_of_ble_eq_true rfl) zg254 (And.intro rfl trivial) trivial rfl W (fun zr256 zs255 W => ?_)
      obtain ⟨zg257, W⟩ := W
      refine J_aload_no (pc' := 633) rfl rfl zg257 rfl ?_
      refine J_aload_na (pc' := 634) rfl rfl rfl ?_
      refine J_iload_n (pc' := 635) rfl rfl rfl ?_
      refine J_iconst (pc' := 636) rfl (i32_d rfl) rfl ?_
      refine J_iadd (pc' := 637) rfl zg251 rfl ?_
      obtain ⟨zg258, W⟩ := W
      refine J_iald (pc' := 638) rfl rfl zg252 zg258 rfl ?_
      refine J_callI (as := [jo 1 zo2, ji (ra zs255 800000 0 (zx3 + 1))]) (rest := [ji zr256]) (pc' := 641) rfl rfl ax_Z_80 rfl rfl (Or.inr (Or.inr ⟨_, _, rfl, zg257⟩)) (Nat.le_of_ble_eq_true rfl) (Nat.le_of_ble_eq_true rfl) (Nat.le_of_ble_eq_true rfl) zg254 (And.intro rfl trivial) trivial rfl W (fun zr260 zs259 W => ?_)
      refine J_icmp (P := zr256 = zr260) (t := 909) (f := 644) rfl rfl rfl jc_eq W (fun W => ?_) (fun W => ?_)
      · obtain ⟨zg261, W⟩ := W
        refine J_iinc (L' := [some (ja 800000 0), some (jo 12 zo1), some (jo 1 zo2), some (ji (zx3 + 6))]) (pc' := 912) rfl rfl zg261 rfl rfl ?_
        refine J_goto (pc' := 18) rfl rfl ?_
        exact W
      · refine J_iconst (pc' := 645) rfl (i32_d rfl) rfl ?_
        exact J_zret rfl rfl (Or.inl rfl) ⟨_, rfl, W⟩
    rw [if_neg zc414] at W
    by_cases zc415 : bAnd (ra σ 800000 0 zx3) 31 = 16
    · rw [if_pos zc415] at W
      refine J_swC (pc' := 646) (i := 16) rfl (by omega) (by decide) rfl rfl ?_
      obtain ⟨zg262, W⟩ := W
      refine J_aload_no (pc' := 647) rfl rfl zg262 rfl ?_
      refine J_aload_na (pc' := 648) rfl rfl rfl ?_
      refine J_iload_n (pc' := 649) rfl rfl rfl ?_
      refine J_iconst (pc' := 650) rfl (i32_d rfl) rfl ?_
      obtain ⟨zg263, W⟩ := W
      refine J_iadd (pc' := 651) rfl zg263 rfl ?_
      obtain ⟨zg264, W⟩ := W
      obtain ⟨zg265, W⟩ := W
      refine J_iald (pc' := 652) rfl rfl zg264 zg265 rfl ?_
      refine J_aload_na (pc' := 653) rfl rfl rfl ?_
      refine J_iload_n (pc' := 654) rfl rfl rfl ?_
      refine J_iconst (pc' := 655) rfl (i32_d rfl) rfl ?_
      obtain ⟨zg266, W⟩ := W
      refine J_iadd (pc' := 656) rfl zg266 rfl ?_
      obtain ⟨zg267, W⟩ := W
      obtain ⟨zg268, W⟩ := W
      refine J_iald (pc' := 657) rfl rfl zg267 zg268 rfl ?_
      obtain ⟨zg269, W⟩ := W
      refine J_callI (as := [jo 12 zo1, ji (ra σ 800000 0 (zx3 + 1)), ji (ra σ 800000 0 (zx3 + 2))]) (rest := []) (pc' := 660) rfl rfl ax_Z_268 rfl rfl (Or.inr (Or.inr ⟨_, _, rfl, zg262⟩)) (Nat.le_of_ble_eq_true rfl) (Nat.le_of_ble_eq_true rfl) (Nat.le_of_ble_eq_true rfl) zg269 (And.intro rfl trivial) trivial rfl W (fun zr271 zs270 W => ?_)
      obtain ⟨zg272, W⟩ := W
      refine J_aload_no (pc' := 661) rfl rfl zg272 rfl ?_
      refine J_aload_na (pc' := 662) rfl rfl rfl ?_
      refine J_iload_n (pc' := 663) rfl rfl rfl ?_
      refine J_iconst (pc' := 664) rfl (i32_d rfl) rfl ?_
      refine J_iadd (pc' := 665) rfl zg263 rfl ?_
      obtain ⟨zg273, W⟩ := W
      refine J_iald (pc' := 666) rfl rfl zg264 zg273 rfl ?_
      refine J_aload_na (pc' := 667) rfl rfl rfl ?_
      refine J_iload_n (pc' := 668) rfl rfl rfl ?_
      refine J_iconst (pc' := 669) rfl (i32_d rfl) rfl ?_
      refine J_iadd (pc' := 670) rfl zg266 rfl ?_
      obtain ⟨zg274, W⟩ := W
      refine J_iald (pc' := 671) rfl rfl zg267 zg274 rfl ?_
      refine J_callI (as := [jo 1 zo2, ji (ra zs270 800000 0 (zx3 + 1)), ji (ra zs270 800000 0 (zx3 + 2))]) (rest := [ji zr271]) (pc' := 674) rfl rfl ax_Z_83 rfl rfl (Or.inr (Or.inr ⟨_, _, rfl, zg272⟩)) (Nat.le_of_ble_eq_true rfl) (Nat.le_of_ble_eq_true rfl) (Nat.le_of_ble_eq_true rfl) zg269 (And.intro rfl trivial) trivial rfl W (fun zr276 zs275 W => ?_)
      refine J_icmp (P := zr271 = zr276) (t := 909) (f := 677) rfl rfl rfl jc_eq W (fun W => ?_) (fun W => ?_)
      · obtain ⟨zg277, W⟩ := W
        refine J_iinc (L' := [some (ja 800000 0), some (jo 12 zo1), some (jo 1 zo2), some (ji (zx3 + 6))]) (pc' := 912) rfl rfl zg277 rfl rfl ?_
        refine J_goto (pc' := 18) rfl rfl ?_
        exact W
      · refine J_iconst (pc' := 678) rfl (i32_d rfl) rfl ?_
        exact J_zret rfl rfl (Or.inl rfl) ⟨_, rfl, W⟩
    rw [if_neg zc415] at W
    by_cases zc416 : bAnd (ra σ 800000 0 zx3) 31 = 17
    · rw [if_pos zc416] at W
      refine J_swC (pc' := 679) (i := 17) rfl (by omega) (by decide) rfl rfl ?_
      obtain ⟨zg278, W⟩ := W
      refine J_aload_no (pc' := 680) rfl rfl zg278 rfl ?_
      refine J_aload_na (pc' := 681) rfl rfl rfl ?_
      refine J_iload_n (pc' := 682) rfl rfl rfl ?_
      refine J_iconst (pc' := 683) rfl (i32_d rfl) rfl ?_
      obtain ⟨zg279, W⟩ := W
      refine J_iadd (pc' := 684) rfl zg279 rfl ?_
      obtain ⟨zg280, W⟩ := W
      obtain ⟨zg281, W⟩ := W
      refine J_iald (pc' := 685) rfl rfl zg280 zg281 rfl ?_
      obtain ⟨zg282, W⟩ := W
      refine J_callI (as := [jo 12 zo1, ji (ra σ 800000 0 (zx3 + 1))]) (rest := []) (pc' := 688) rfl rfl ax_Z_269 rfl rfl (Or.inr (Or.inr ⟨_, _, rfl, zg278⟩)) (Nat.le_of_ble_eq_true rfl) (Nat.le_of_ble_eq_true rfl) (Nat.le_of_ble_eq_true rfl) zg282 (And.intro rfl trivial) trivial rfl W (fun zr284 zs283 W => ?_)
      obtain ⟨zg285, W⟩ := W
      refine J_aload_no (pc' := 689) rfl rfl zg285 rfl ?_
      refine J_aload_na (pc' := 690) rfl rfl rfl ?_
      refine J_iload_n (pc' := 691) rfl rfl rfl ?_
      refine J_iconst (pc' := 692) rfl (i32_d rfl) rfl ?_
      refine J_iadd (pc' := 693) rfl zg279 rfl ?_
      obtain ⟨zg286, W⟩ := W
      refine J_iald (pc' := 694) rfl rfl zg280 zg286 rfl ?_
      refine J_callI (as := [jo 1 zo2, ji (ra zs283 800000 0 (zx3 + 1))]) (rest := [ji zr284]) (pc' := 697) rfl rfl ax_Z_88 rfl rfl (Or.inr (Or.inr ⟨_, _, rfl, zg285⟩)) (Nat.le_of_ble_eq_true rfl) (Nat.le_of_ble_eq_true rfl) (Nat.le_of_ble_eq_true rfl) zg282 (And.intro rfl trivial) trivial rfl W (fun zr288 zs287 W => ?_)
      refine J_icmp (P := zr284 = zr288) (t := 909) (f := 700) rfl rfl rfl jc_eq W (fun W => ?_) (fun W => ?_)
      · obtain ⟨zg289, W⟩ := W
        refine J_iinc (L' := [some (ja 800000 0), some (jo 12 zo1), some (jo 1 zo2), some (ji (zx3 + 6))]) (pc' := 912) rfl rfl zg289 rfl rfl ?_
        refine J_goto (pc' := 18) rfl rfl ?_
        exact W
      · refine J_iconst (pc' := 701) rfl (i32_d rfl) rfl ?_
        exact J_zret rfl rfl (Or.inl rfl) ⟨_, rfl, W⟩
    rw [if_neg zc416] at W
    by_cases zc417 : bAnd (ra σ 800000 0 zx3) 31 = 18
    · rw [if_pos zc417] at W
      refine J_swC (pc' := 702) (i := 18) rfl (by omega) (by decide) rfl rfl ?_
      obtain ⟨zg290, W⟩ := W
      refine J_aload_no (pc' := 703) rfl rfl zg290 rfl ?_
      obtain ⟨zg291, W⟩ := W
      refine J_callI (as := [jo 12 zo1]) (rest := []) (pc' := 706) rfl rfl ax_Z_270 rfl rfl (Or.inr (Or.inr ⟨_, _, rfl, zg290⟩)) (Nat.le_of_ble_eq_true rfl) (Nat.le_of_ble_eq_true rfl) (Nat.le_of_ble_eq_true rfl) zg291 (And.intro rfl trivial) trivial rfl W (fun zr293 zs292 W => ?_)
      obtain ⟨zg294, W⟩ := W
      refine J_aload_no (pc' := 707) rfl rfl zg294 rfl ?_
      refine J_callI (as := [jo 1 zo2]) (rest := [ji zr293]) (pc' := 710) rfl rfl ax_Z_90 rfl rfl (Or.inr (Or.inr ⟨_, _, rfl, zg294⟩)) (Nat.le_of_ble_eq_true rfl) (Nat.le_of_ble_eq_true rfl) (Nat.le_of_ble_eq_true rfl) zg291 (And.intro rfl trivial) trivial rfl W (fun zr296 zs295 W => ?_)
      refine J_icmp (P := zr293 = zr296) (t := 909) (f := 713) rfl rfl rfl jc_eq W (fun W => ?_) (fun W => ?_)
      · obtain ⟨zg297, W⟩ := W
        refine J_iinc (L' := [some (ja 800000 0), some (jo 12 zo1), some (jo 1 zo2), some (ji (zx3 + 6))]) (pc' := 912) rfl rfl zg297 rfl rfl ?_
        refine J_goto (pc' := 18) rfl rfl ?_
        exact W
      · refine J_iconst (pc' := 714) rfl (i32_d rfl) rfl ?_
        exact J_zret rfl rfl (Or.inl rfl) ⟨_, rfl, W⟩
    rw [if_neg zc417] at W
    by_cases zc418 : bAnd (ra σ 800000 0 zx3) 31 = 19
    · rw [if_pos zc418] at W
      refine J_swC (pc' := 715) (i := 19) rfl (by omega) (by decide) rfl rfl ?_
      obtain ⟨zg298, W⟩ := W
      refine J_aload_no (pc' := 716) rfl rfl zg298 rfl ?_
      obtain ⟨zg299, W⟩ := W
      refine J_callI (as := [jo 12 zo1]) (rest := []) (pc' := 719) rfl rfl ax_Z_271 rfl rfl (Or.inr (Or.inr ⟨_, _, rfl, zg298⟩)) (Nat.le_of_ble_eq_true rfl) (Nat.le_of_ble_eq_true rfl) (Nat.le_of_ble_eq_true rfl) zg299 (And.intro rfl trivial) trivial rfl W (fun zr301 zs300 W => ?_)
      obtain ⟨zg302, W⟩ := W
      refine J_aload_no (pc' := 720) rfl rfl zg302 rfl ?_
      refine J_callI (as := [jo 1 zo2]) (rest := [ji zr301]) (pc' := 723) rfl rfl ax_Z_89 rfl rfl (Or.inr (Or.inr ⟨_, _, rfl, zg302⟩)) (Nat.le_of_ble_eq_true rfl) (Nat.le_of_ble_eq_true rfl) (Nat.le_of_ble_eq_true rfl) zg299 (And.intro rfl trivial) trivial rfl W (fun zr304 zs303 W => ?_)
      refine J_icmp (P := zr301 = zr304) (t := 909) (f := 726) rfl rfl rfl jc_eq W (fun W => ?_) (fun W => ?_)
      · obtain ⟨zg305, W⟩ := W
        refine J_iinc (L' := [some (ja 800000 0), some (jo 12 zo1), some (jo 1 zo2), some (ji (zx3 + 6))]) (pc' := 912) rfl rfl zg305 rfl rfl ?_
        refine J_goto (pc' := 18) rfl rfl ?_
        exact W
      · refine J_iconst (pc' := 727) rfl (i32_d rfl) rfl ?_
        exact J_zret rfl rfl (Or.inl rfl) ⟨_, rfl, W⟩
    rw [if_neg zc418] at W
    by_cases zc419 : bAnd (ra σ 800000 0 zx3) 31 = 20
    · rw [if_pos zc419] at W
      refine J_swC (pc' := 728) (i := 20) rfl (by omega) (by decide) rfl rfl ?_
      obtain ⟨zg306, W⟩ := W
      refine J_aload_no (pc' := 729) rfl rfl zg306 rfl ?_
      refine J_aload_na (pc' := 730) rfl rfl rfl ?_
      refine J_iload_n (pc' := 731) rfl rfl rfl ?_
      refine J_iconst (pc' := 732) rfl (i32_d rfl) rfl ?_
      obtain ⟨zg307, W⟩ := W
      refine J_iadd (pc' := 733) rfl zg307 rfl ?_
      obtain ⟨zg308, W⟩ := W
      obtain ⟨zg309, W⟩ := W
      refine J_iald (pc' := 734) rfl rfl zg308 zg309 rfl ?_
      obtain ⟨zg310, W⟩ := W
      refine J_callI (as := [jo 12 zo1, ji (ra σ 800000 0 (zx3 + 1))]) (rest := []) (pc' := 737) rfl rfl ax_Z_272 rfl rfl (Or.inr (Or.inr ⟨_, _, rfl, zg306⟩)) (Nat.le_of_ble_eq_true rfl) (Nat.le_of_ble_eq_true rfl) (Nat.le_of_ble_eq_true rfl) zg310 (And.intro rfl trivial) trivial rfl W (fun zr312 zs311 W => ?_)
      obtain ⟨zg313, W⟩ := W
      refine J_aload_no (pc' := 738) rfl rfl zg313 rfl ?_
      refine J_aload_na (pc' := 739) rfl rfl rfl ?_
      refine J_iload_n (pc' := 740) rfl rfl rfl ?_
      refine J_iconst (pc' := 741) rfl (i32_d rfl) rfl ?_
      refine J_iadd (pc' := 742) rfl zg307 rfl ?_
      obtain ⟨zg314, W⟩ := W
      refine J_iald (pc' := 743) rfl rfl zg308 zg314 rfl ?_
      refine J_callI (as := [jo 1 zo2, ji (ra zs311 800000 0 (zx3 + 1))]) (rest := [ji zr312]) (pc' := 746) rfl rfl ax_Z_91 rfl rfl (Or.inr (Or.inr ⟨_, _, rfl, zg313⟩)) (Nat.le_of_ble_eq_true rfl) (Nat.le_of_ble_eq_true rfl) (Nat.le_of_ble_eq_true rfl) zg310 (And.intro rfl trivial) trivial rfl W (fun zr316 zs315 W => ?_)
      refine J_icmp (P := zr312 = zr316) (t := 909) (f := 749) rfl rfl rfl jc_eq W (fun W => ?_) (fun W => ?_)
      · obtain ⟨zg317, W⟩ := W
        refine J_iinc (L' := [some (ja 800000 0), some (jo 12 zo1), some (jo 1 zo2), some (ji (zx3 + 6))]) (pc' := 912) rfl rfl zg317 rfl rfl ?_
        refine J_goto (pc' := 18) rfl rfl ?_
        exact W
      · refine J_iconst (pc' := 750) rfl (i32_d rfl) rfl ?_
        exact J_zret rfl rfl (Or.inl rfl) ⟨_, rfl, W⟩
    rw [if_neg zc419] at W
    by_cases zc420 : bAnd (ra σ 800000 0 zx3) 31 = 21
    · rw [if_pos zc420] at W
      refine J_swC (pc' := 751) (i := 21) rfl (by omega) (by decide) rfl rfl ?_
      obtain ⟨zg318, W⟩ := W
      refine J_aload_no (pc' := 752) rfl rfl zg318 rfl ?_
      refine J_aload_na (pc' := 753) rfl rfl rfl ?_
      refine J_iload_n (pc' := 754) rfl rfl rfl ?_
      refine J_iconst (pc' := 755) rfl (i32_d rfl) rfl ?_
      obtain ⟨zg319, W⟩ := W
      refine J_iadd (pc' := 756) rfl zg319 rfl ?_
      obtain ⟨zg320, W⟩ := W
      obtain ⟨zg321, W⟩ := W
      refine J_iald (pc' := 757) rfl rfl zg320 zg321 rfl ?_
      obtain ⟨zg322, W⟩ := W
      refine J_callI (as := [jo 12 zo1, ji (ra σ 800000 0 (zx3 + 1))]) (rest := []) (pc' := 760) rfl rfl ax_Z_273 rfl rfl (Or.inr (Or.inr ⟨_, _, rfl, zg318⟩)) (Nat.le_of_ble_eq_true rfl) (Nat.le_of_ble_eq_true rfl) (Nat.le_of_ble_eq_true rfl) zg322 (And.intro rfl trivial) trivial rfl W (fun zr324 zs323 W => ?_)
      obtain ⟨zg325, W⟩ := W
      refine J_aload_no (pc' := 761) rfl rfl zg325 rfl ?_
      refine J_aload_na (pc' := 762) rfl rfl rfl ?_
      refine J_iload_n (pc' := 763) rfl rfl rfl ?_
      refine J_iconst (pc' := 764) rfl (i32_d rfl) rfl ?_
      refine J_iadd (pc' := 765) rfl zg319 rfl ?_
      obtain ⟨zg326, W⟩ := W
      refine J_iald (pc' := 766) rfl rfl zg320 zg326 rfl ?_
      refine J_callI (as := [jo 1 zo2, ji (ra zs323 800000 0 (zx3 + 1))]) (rest := [ji zr324]) (pc' := 769) rfl rfl ax_Z_92 rfl rfl (Or.inr (Or.inr ⟨_, _, rfl, zg325⟩)) (Nat.le_of_ble_eq_true rfl) (Nat.le_of_ble_eq_true rfl) (Nat.le_of_ble_eq_true rfl) zg322 (And.intro rfl trivial) trivial rfl W (fun zr328 zs327 W => ?_)
      refine J_icmp (P := zr324 = zr328) (t := 909) (f := 772) rfl rfl rfl jc_eq W (fun W => ?_) (fun W => ?_)
      · obtain ⟨zg329, W⟩ := W
        refine J_iinc (L' := [some (ja 800000 0), some (jo 12 zo1), some (jo 1 zo2), some (ji (zx3 + 6))]) (pc' := 912) rfl rfl zg329 rfl rfl ?_
        refine J_goto (pc' := 18) rfl rfl ?_
        exact W
      · refine J_iconst (pc' := 773) rfl (i32_d rfl) rfl ?_
        exact J_zret rfl rfl (Or.inl rfl) ⟨_, rfl, W⟩
    rw [if_neg zc420] at W
    by_cases zc421 : bAnd (ra σ 800000 0 zx3) 31 = 22
    · rw [if_pos zc421] at W
      refine J_swC (pc' := 774) (i := 22) rfl (by omega) (by decide) rfl rfl ?_
      obtain ⟨zg330, W⟩ := W
      refine J_aload_no (pc' := 775) rfl rfl zg330 rfl ?_
      refine J_aload_na (pc' := 776) rfl rfl rfl ?_
      refine J_iload_n (pc' := 777) rfl rfl rfl ?_
      refine J_iconst (pc' := 778) rfl (i32_d rfl) rfl ?_
      obtain ⟨zg331, W⟩ := W
      refine J_iadd (pc' := 779) rfl zg331 rfl ?_
      obtain ⟨zg332, W⟩ := W
      obtain ⟨zg333, W⟩ := W
      refine J_iald (pc' := 780) rfl rfl zg332 zg333 rfl ?_
      obtain ⟨zg334, W⟩ := W
      refine J_callI (as := [jo 12 zo1, ji (ra σ 800000 0 (zx3 + 1))]) (rest := []) (pc' := 783) rfl rfl ax_Z_274 rfl rfl (Or.inr (Or.inr ⟨_, _, rfl, zg330⟩)) (Nat.le_of_ble_eq_true rfl) (Nat.le_of_ble_eq_true rfl) (Nat.le_of_ble_eq_true rfl) zg334 (And.intro rfl trivial) trivial rfl W (fun zr336 zs335 W => ?_)
      obtain ⟨zg337, W⟩ := W
      refine J_aload_no (pc' := 784) rfl rfl zg337 rfl ?_
      refine J_aload_na (pc' := 785) rfl rfl rfl ?_
      refine J_iload_n (pc' := 786) rfl rfl rfl ?_
      refine J_iconst (pc' := 787) rfl (i32_d rfl) rfl ?_
      refine J_iadd (pc' := 788) rfl zg331 rfl ?_
      obtain ⟨zg338, W⟩ := W
      refine J_iald (pc' := 789) rfl rfl zg332 zg338 rfl ?_
      refine J_callI (as := [jo 1 zo2, ji (ra zs335 800000 0 (zx3 + 1))]) (rest := [ji zr336]) (pc' := 792) rfl rfl ax_Z_94 rfl rfl (Or.inr (Or.inr ⟨_, _, rfl, zg337⟩)) (Nat.le_of_ble_eq_true rfl) (Nat.le_of_ble_eq_true rfl) (Nat.le_of_ble_eq_true rfl) zg334 (And.intro rfl trivial) trivial rfl W (fun zr340 zs339 W => ?_)
      refine J_icmp (P := zr336 = zr340) (t := 909) (f := 795) rfl rfl rfl jc_eq W (fun W => ?_) (fun W => ?_)
      · obtain ⟨zg341, W⟩ := W
        refine J_iinc (L' := [some (ja 800000 0), some (jo 12 zo1), some (jo 1 zo2), some (ji (zx3 + 6))]) (pc' := 912) rfl rfl zg341 rfl rfl ?_
        refine J_goto (pc' := 18) rfl rfl ?_
        exact W
      · refine J_iconst (pc' := 796) rfl (i32_d rfl) rfl ?_
        exact J_zret rfl rfl (Or.inl rfl) ⟨_, rfl, W⟩
    rw [if_neg zc421] at W
    by_cases zc422 : bAnd (ra σ 800000 0 zx3) 31 = 23
    · rw [if_pos zc422] at W
      refine J_swC (pc' := 797) (i := 23) rfl (by omega) (by decide) rfl rfl ?_
      obtain ⟨zg342, W⟩ := W
      refine J_aload_no (pc' := 798) rfl rfl zg342 rfl ?_
      obtain ⟨zg343, W⟩ := W
      refine J_callI (as := [jo 12 zo1]) (rest := []) (pc' := 801) rfl rfl ax_Z_275 rfl rfl (Or.inr (Or.inr ⟨_, _, rfl, zg342⟩)) (Nat.le_of_ble_eq_true rfl) (Nat.le_of_ble_eq_true rfl) (Nat.le_of_ble_eq_true rfl) zg343 (And.intro rfl trivial) trivial rfl W (fun zr345 zs344 W => ?_)
      obtain ⟨zg346, W⟩ := W
      refine J_aload_no (pc' := 802) rfl rfl zg346 rfl ?_
      refine J_callI (as := [jo 1 zo2]) (rest := [ji zr345]) (pc' := 805) rfl rfl ax_Z_95 rfl rfl (Or.inr (Or.inr ⟨_, _, rfl, zg346⟩)) (Nat.le_of_ble_eq_true rfl) (Nat.le_of_ble_eq_true rfl) (Nat.le_of_ble_eq_true rfl) zg343 (And.intro rfl trivial) trivial rfl W (fun zr348 zs347 W => ?_)
      refine J_icmp (P := zr345 = zr348) (t := 909) (f := 808) rfl rfl rfl jc_eq W (fun W => ?_) (fun W => ?_)
      · obtain ⟨zg349, W⟩ := W
        refine J_iinc (L' := [some (ja 800000 0), some (jo 12 zo1), some (jo 1 zo2), some (ji (zx3 + 6))]) (pc' := 912) rfl rfl zg349 rfl rfl ?_
        refine J_goto (pc' := 18) rfl rfl ?_
        exact W
      · refine J_iconst (pc' := 809) rfl (i32_d rfl) rfl ?_
        exact J_zret rfl rfl (Or.inl rfl) ⟨_, rfl, W⟩
    rw [if_neg zc422] at W
    by_cases zc423 : bAnd (ra σ 800000 0 zx3) 31 = 24
    · rw [if_pos zc423] at W
      refine J_swC (pc' := 810) (i := 24) rfl (by omega) (by decide) rfl rfl ?_
      obtain ⟨zg350, W⟩ := W
      refine J_aload_no (pc' := 811) rfl rfl zg350 rfl ?_
      obtain ⟨zg351, W⟩ := W
      refine J_callI (as := [jo 12 zo1]) (rest := []) (pc' := 814) rfl rfl ax_Z_276 rfl rfl (Or.inr (Or.inr ⟨_, _, rfl, zg350⟩)) (Nat.le_of_ble_eq_true rfl) (Nat.le_of_ble_eq_true rfl) (Nat.le_of_ble_eq_true rfl) zg351 (And.intro rfl trivial) trivial rfl W (fun zr353 zs352 W => ?_)
      obtain ⟨zg354, W⟩ := W
      refine J_aload_no (pc' := 815) rfl rfl zg354 rfl ?_
      refine J_callI (as := [jo 1 zo2]) (rest := [ji zr353]) (pc' := 818) rfl rfl ax_Z_96 rfl rfl (Or.inr (Or.inr ⟨_, _, rfl, zg354⟩)) (Nat.le_of_ble_eq_true rfl) (Nat.le_of_ble_eq_true rfl) (Nat.le_of_ble_eq_true rfl) zg351 (And.intro rfl trivial) trivial rfl W (fun zr356 zs355 W => ?_)
      refine J_icmp (P := zr353 = zr356) (t := 909) (f := 821) rfl rfl rfl jc_eq W (fun W => ?_) (fun W => ?_)
      · obtain ⟨zg357, W⟩ := W
        refine J_iinc (L' := [some (ja 800000 0), some (jo 12 zo1), some (jo 1 zo2), some (ji (zx3 + 6))]) (pc' := 912) rfl rfl zg357 rfl rfl ?_
        refine J_goto (pc' := 18) rfl rfl ?_
        exact W
      · refine J_iconst (pc' := 822) rfl (i32_d rfl) rfl ?_
        exact J_zret rfl rfl (Or.inl rfl) ⟨_, rfl, W⟩
    rw [if_neg zc423] at W
    by_cases zc424 : bAnd (ra σ 800000 0 zx3) 31 = 25
    · rw [if_pos zc424] at W
      refine J_swC (pc' := 823) (i := 25) rfl (by omega) (by decide) rfl rfl ?_
      obtain ⟨zg358, W⟩ := W
      refine J_aload_no (pc' := 824) rfl rfl zg358 rfl ?_
      refine J_aload_na (pc' := 825) rfl rfl rfl ?_
      refine J_iload_n (pc' := 826) rfl rfl rfl ?_
      refine J_iconst (pc' := 827) rfl (i32_d rfl) rfl ?_
      obtain ⟨zg359, W⟩ := W
      refine J_iadd (pc' := 828) rfl zg359 rfl ?_
      obtain ⟨zg360, W⟩ := W
      obtain ⟨zg361, W⟩ := W
      refine J_iald (pc' := 829) rfl rfl zg360 zg361 rfl ?_
      refine J_aload_na (pc' := 830) rfl rfl rfl ?_
      refine J_iload_n (pc' := 831) rfl rfl rfl ?_
      refine J_iconst (pc' := 832) rfl (i32_d rfl) rfl ?_
      obtain ⟨zg362, W⟩ := W
      refine J_iadd (pc' := 833) rfl zg362 rfl ?_
      obtain ⟨zg363, W⟩ := W
      obtain ⟨zg364, W⟩ := W
      refine J_iald (pc' := 834) rfl rfl zg363 zg364 rfl ?_
      refine J_aload_na (pc' := 835) rfl rfl rfl ?_
      refine J_iload_n (pc' := 836) rfl rfl rfl ?_
      refine J_iconst (pc' := 837) rfl (i32_d rfl) rfl ?_
      obtain ⟨zg365, W⟩ := W
      refine J_iadd (pc' := 838) rfl zg365 rfl ?_
      obtain ⟨zg366, W⟩ := W
      obtain ⟨zg367, W⟩ := W
      refine J_iald (pc' := 839) rfl rfl zg366 zg367 rfl ?_
      obtain ⟨zg368, W⟩ := W
      refine J_callI (as := [jo 12 zo1, ji (ra σ 800000 0 (zx3 + 1)), ji (ra σ 800000 0 (zx3 + 2)), ji (ra σ 800000 0 (zx3 + 3))]) (rest := []) (pc' := 842) rfl rfl ax_Z_277 rfl rfl (Or.inr (Or.inr ⟨_, _, rfl, zg358⟩)) (Nat.le_of_ble_eq_true rfl) (Nat.le_of_ble_eq_true rfl) (Nat.le_of_ble_eq_true rfl) zg368 (And.intro rfl trivial) trivial rfl W (fun zr370 zs369 W => ?_)
      obtain ⟨zg371, W⟩ := W
      refine J_aload_no (pc' := 843) rfl rfl zg371 rfl ?_
      refine J_aload_na (pc' := 844) rfl rfl rfl ?_
      refine J_iload_n (pc' := 845) rfl rfl rfl ?_
      refine J_iconst (pc' := 846) rfl (i32_d rfl) rfl ?_
      refine J_iadd (pc' := 847) rfl zg359 rfl ?_
      obtain ⟨zg372, W⟩ := W
      refine J_iald (pc' := 848) rfl rfl zg360 zg372 rfl ?_
      refine J_aload_na (pc' := 849) rfl rfl rfl ?_
      refine J_iload_n (pc' := 850) rfl rfl rfl ?_
      refine J_iconst (pc' := 851) rfl (i32_d rfl) rfl ?_
      refine J_iadd (pc' := 852) rfl zg362 rfl ?_
      obtain ⟨zg373, W⟩ := W
      refine J_iald (pc' := 853) rfl rfl zg363 zg373 rfl ?_
      refine J_aload_na (pc' := 854) rfl rfl rfl ?_
      refine J_iload_n (pc' := 855) rfl rfl rfl ?_
      refine J_iconst (pc' := 856) rfl (i32_d rfl) rfl ?_
      refine J_iadd (pc' := 857) rfl zg365 rfl ?_
      obtain ⟨zg374, W⟩ := W
      refine J_iald (pc' := 858) rfl rfl zg366 zg374 rfl ?_
      refine J_callI (as := [jo 1 zo2, ji (ra zs369 800000 0 (zx3 + 1)), ji (ra zs369 800000 0 (zx3 + 2)), ji (ra zs369 800000 0 (zx3 + 3))]) (rest := [ji zr370]) (pc' := 861) rfl rfl ax_Z_102 rfl rfl (Or.inr (Or.inr ⟨_, _, rfl, zg371⟩)) (Nat.le_of_ble_eq_true rfl) (Nat.le_of_ble_eq_true rfl) (Nat.le_of_ble_eq_true rfl) zg368 (And.intro rfl trivial) trivial rfl W (fun zr376 zs375 W => ?_)
      refine J_icmp (P := zr370 = zr376) (t := 909) (f := 864) rfl rfl rfl jc_eq W (fun W => ?_) (fun W => ?_)
      · obtain ⟨zg377, W⟩ := W
        refine J_iinc (L' := [some (ja 800000 0), some (jo 12 zo1), some (jo 1 zo2), some (ji (zx3 + 6))]) (pc' := 912) rfl rfl zg377 rfl rfl ?_
        refine J_goto (pc' := 18) rfl rfl ?_
        exact W
      · refine J_iconst (pc' := 865) rfl (i32_d rfl) rfl ?_
        exact J_zret rfl rfl (Or.inl rfl) ⟨_, rfl, W⟩
    rw [if_neg zc424] at W
    by_cases zc425 : bAnd (ra σ 800000 0 zx3) 31 = 26
    · rw [if_pos zc425] at W
      refine J_swC (pc' := 866) (i := 26) rfl (by omega) (by decide) rfl rfl ?_
      obtain ⟨zg378, W⟩ := W
      refine J_aload_no (pc' := 867) rfl rfl zg378 rfl ?_
      refine J_aload_na (pc' := 868) rfl rfl rfl ?_
      refine J_iload_n (pc' := 869) rfl rfl rfl ?_
      refine J_iconst (pc' := 870) rfl (i32_d rfl) rfl ?_
      obtain ⟨zg379, W⟩ := W
      refine J_iadd (pc' := 871) rfl zg379 rfl ?_
      obtain ⟨zg380, W⟩ := W
      obtain ⟨zg381, W⟩ := W
      refine J_iald (pc' := 872) rfl rfl zg380 zg381 rfl ?_
      refine J_aload_na (pc' := 873) rfl rfl rfl ?_
      refine J_iload_n (pc' := 874) rfl rfl rfl ?_
      refine J_iconst (pc' := 875) rfl (i32_d rfl) rfl ?_
      obtain ⟨zg382, W⟩ := W
      refine J_iadd (pc' := 876) rfl zg382 rfl ?_
      obtain ⟨zg383, W⟩ := W
      obtain ⟨zg384, W⟩ := W
      refine J_iald (pc' := 877) rfl rfl zg383 zg384 rfl ?_
      refine J_aload_na (pc' := 878) rfl rfl rfl ?_
      refine J_iload_n (pc' := 879) rfl rfl rfl ?_
      refine J_iconst (pc' := 880) rfl (i32_d rfl) rfl ?_
      obtain ⟨zg385, W⟩ := W
      refine J_iadd (pc' := 881) rfl zg385 rfl ?_
      obtain ⟨zg386, W⟩ := W
      obtain ⟨zg387, W⟩ := W
      refine J_iald (pc' := 882) rfl rfl zg386 zg387 rfl ?_
      obtain ⟨zg388, W⟩ := W
      refine J_callI (as := [jo 12 zo1, ji (ra σ 800000 0 (zx3 + 1)), ji (ra σ 800000 0 (zx3 + 2)), ji (ra σ 800000 0 (zx3 + 3))]) (rest := []) (pc' := 885) rfl rfl ax_Z_278 rfl rfl (Or.inr (Or.inr ⟨_, _, rfl, zg378⟩)) (Nat.le_of_ble_eq_true rfl) (Nat.le_of_ble_eq_true rfl) (Nat.le_of_ble_eq_true rfl) zg388 (And.intro rfl trivial) trivial rfl W (fun zr390 zs389 W => ?_)
      obtain ⟨zg391, W⟩ := W
      refine J_aload_no (pc' := 886) rfl rfl zg391 rfl ?_
      refine J_aload_na (pc' := 887) rfl rfl rfl ?_
      refine J_iload_n (pc' := 888) rfl rfl rfl ?_
      refine J_iconst (pc' := 889) rfl (i32_d rfl) rfl ?_
      refine J_iadd (pc' := 890) rfl zg379 rfl ?_
      obtain ⟨zg392, W⟩ := W
      refine J_iald (pc' := 891) rfl rfl zg380 zg392 rfl ?_
      refine J_aload_na (pc' := 892) rfl rfl rfl ?_
      refine J_iload_n (pc' := 893) rfl rfl rfl ?_
      refine J_iconst (pc' := 894) rfl (i32_d rfl) rfl ?_
      refine J_iadd (pc' := 895) rfl zg382 rfl ?_
      obtain ⟨zg393, W⟩ := W
      refine J_iald (pc' := 896) rfl rfl zg383 zg393 rfl ?_
      refine J_aload_na (pc' := 897) rfl rfl rfl ?_
      refine J_iload_n (pc' := 898) rfl rfl rfl ?_
      refine J_iconst (pc' := 899) rfl (i32_d rfl) rfl ?_
      refine J_iadd (pc' := 900) rfl zg385 rfl ?_
      obtain ⟨zg394, W⟩ := W
      refine J_iald (pc' := 901) rfl rfl zg386 zg394 rfl ?_
      refine J_callI (as := [jo 1 zo2, ji (ra zs389 800000 0 (zx3 + 1)), ji (ra zs389 800000 0 (zx3 + 2)), ji (ra zs389 800000 0 (zx3 + 3))]) (rest := [ji zr390]) (pc' := 904) rfl rfl ax_Z_110 rfl rfl (Or.inr (Or.inr ⟨_, _, rfl, zg391⟩)) (Nat.le_of_ble_eq_true rfl) (Nat.le_of_ble_eq_true rfl) (Nat.le_of_ble_eq_true rfl) zg388 (And.intro rfl trivial) trivial rfl W (fun zr396 zs395 W => ?_)
      refine J_icmp (P := zr390 = zr396) (t := 909) (f := 907) rfl rfl rfl jc_eq W (fun W => ?_) (fun W => ?_)
      · obtain ⟨zg397, W⟩ := W
        refine J_iinc (L' := [some (ja 800000 0), some (jo 12 zo1), some (jo 1 zo2), some (ji (zx3 + 6))]) (pc' := 912) rfl rfl zg397 rfl rfl ?_
        refine J_goto (pc' := 18) rfl rfl ?_
        exact W
      · refine J_iconst (pc' := 908) rfl (i32_d rfl) rfl ?_
        exact J_zret rfl rfl (Or.inl rfl) ⟨_, rfl, W⟩
    rw [if_neg zc425] at W
    refine J_swD (pc' := 909) rfl (by omega) rfl ?_
    obtain ⟨zg398, W⟩ := W
    refine J_iinc (L' := [some (ja 800000 0), some (jo 12 zo1), some (jo 1 zo2), some (ji (zx3 + 6))]) (pc' := 912) rfl rfl zg398 rfl rfl ?_
    refine J_goto (pc' := 18) rfl rfl ?_
    exact W
