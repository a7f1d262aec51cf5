/-! One step, instruction by instruction. -/
section AXT
variable {p : Program} {l : Launch} {ev : Env} {R : Room} {s : State} {m : MethodId} {args : Array Value} {below : List Frame} {meth : Method} {c : Code} {Q : State → Prop}
variable {o : Nat} {ini : Bool} {bs : ByteArray} {n0 b : Nat} {D : va_G} {cA : Nat → ClassId} {z : ax_E} {h0 h9 h : ax_H} {L : ax_L} {S : List Value} {H : Heap} {locs : List Loc} {ls : Array Slot}
theorem ax_to_ok {pc : Nat} {off : Int} (h : decide (0 ≤ (pc : Int) + off) = true) : (pc : Int) + off = ((ax_to pc off : Nat) : Int) := (Int.toNat_of_nonneg (of_decide_eq_true h)).symm
theorem ax_pt_put1 {i : Nat} {v : Value} {ls' : Array Slot} (P : ax_Pt s c n0 b D cA z h0 L h H locs ls) (hi : i < L.length) (hc : v.category = 1) (h1 : lv_has ls' L.length ((i, ax_v n0 b v) :: (ax_en n0 b L).filter (fun q => !(q.1 == i) && !(q.1 + 1 == i && q.2.category == 2)))) : ax_Pt s c n0 b D cA z h0 (ax_put L i v) h H locs ls' :=
  ⟨P.1, P.2.1, ax_lr.put1 hi hc h1, by rw [ax_put_len]; exact P.2.2.2.1, P.2.2.2.2⟩
theorem ax_pt_put2 {i : Nat} {v : Value} {ls' : Array Slot} (P : ax_Pt s c n0 b D cA z h0 L h H locs ls) (hi : i < L.length) (hc : v.category = 2) (h1 : lv_has ls' L.length ((i, ax_v n0 b v) :: (ax_en n0 b L).filter (fun q => !(q.1 == i) && (!(q.1 == i + 1) && !(q.1 + 1 == i && q.2.category == 2))))) : ax_Pt s c n0 b D cA z h0 (ax_put L i v) h H locs ls' :=
  ⟨P.1, P.2.1, ax_lr.put2 hi hc h1, by rw [ax_put_len]; exact P.2.2.2.1, P.2.2.2.2⟩
theorem ax_lt_of {α : Type} {l : List α} {i : Nat} {x : α} (h : l[i]? = some x) : i < l.length := (List.getElem?_eq_some_iff.mp h).1
theorem ax_cat_v {S : List Value} : ((S.map (ax_v n0 b)).map fun v => v.category).sum = ax_cat S := by
  unfold ax_cat; rw [List.map_map]; congr 1; apply List.map_congr_left; intro v _; exact ax_v_cat n0 b v
theorem ax_link (C : ax_Cx p R s m args meth c o ini bs n0 b D cA z h0 h9) {pc idx len a k cx : Nat} {i : Instr} {y : MethodName} (hf : ax_okM o idx (pc, i, len, a, k, cx) = true) (hk : ∀ r : Nat × Nat × Nat × Nat × Nat × String, ax_MRb r = true → r.2.2.2.1 = k → tables_1[r.2.2.2.2.1]? = some (Cond.methodLink (ax_own r.1) r.2.1 y)) : (Cond.methodLink (ax_own o) idx y).before args s = true := by
  obtain ⟨r, hr, r1, r2, r3, r4, hrb⟩ := ax_okM_use hf
  have h := hk r hrb r4
  rw [r1, r2] at h
  exact C.2.2.2.1 _ (ax_tin h rfl)
theorem ax_MRk {r : Nat × Nat × Nat × Nat × Nat × String} (h : ax_MRb r = true) : (r.2.2.2.1 = 3 → tables_1[r.2.2.2.2.1]? = some (Cond.methodLink (ax_own r.1) r.2.1 objectInit)) ∧ (r.2.2.2.1 = 7 → tables_1[r.2.2.2.2.1]? = some (Cond.methodLink (ax_own r.1) r.2.1 Lib.Math.max.name)) ∧ (r.2.2.2.1 = 8 → tables_1[r.2.2.2.2.1]? = some (Cond.methodLink (ax_own r.1) r.2.1 Lib.Math.min.name)) ∧ (r.2.2.2.1 = 9 → tables_1[r.2.2.2.2.1]? = some (Cond.methodLink (ax_own r.1) r.2.1 Lib.MathLoose.min_long.x)) := by
  obtain ⟨r1, r2, r3, r4, r5, r6⟩ := r
  unfold ax_MRb at h
  dsimp only at h ⊢
  split at h
  case h_2 => cases h
  refine ⟨fun e => ?_, fun e => ?_, fun e => ?_, fun e => ?_⟩ <;> subst e <;> exact of_decide_eq_true h
set_option maxHeartbeats 4000000 in
theorem ax_step_ok (C : ax_Cx p R s m args meth c o ini bs n0 b D cA z h0 h9) {e : ax_En} (hok : ax_ok o ini bs e = true) {pc' : Nat} {L' : ax_L} {S' : List Value} {h' : ax_H} (hst : ax_step e L S h = some (pc', L', S', h')) (h9a : h'.1 ≤ h9.1) (h9b : h'.2.1 ≤ h9.2.1) (hfr : ax_ctl e = 2 ∨ (1 ≤ R.frames ∧ 100 ≤ R.locals ∧ ax_cat S ≤ 20)) (P : ax_Pt s c n0 b D cA z h0 L h H locs ls)
    (kk : ∀ H1 locs1 ls1, ax_Pt s c n0 b D cA z h0 L' h' H1 locs1 ls1 → ax_g p l ev R s m args below meth c Q n0 b h0 pc' S' h' H1 locs1 ls1) : ax_g p l ev R s m args below meth c Q n0 b h0 e.1 S h H locs ls := by
  obtain ⟨pc, ins, len, a, k, cx⟩ := e
  unfold ax_ok at hok
  simp only [Bool.and_eq_true] at hok
  obtain ⟨⟨hd0, hlen⟩, hI⟩ := hok
  have hd : decode bs pc = .ok (ins, len) := of_decide_eq_true hd0
  clear hd0
  obtain ⟨hx, hb, hown, hts, hini, hK, hXX, hsz, hp1, hR1, hR2⟩ := id C
  have P6 := P.2.2.2.2.2.1
  have P7 := P.2.2.2.2.2.2
  have hml : c.maxLocals = ls.size := by rw [P.2.2.2.1]; exact P.2.2.1.1.symm
  cases ins
  case iconst n =>
    have hl1 : len = 1 := eq_of_beq hlen
    subst hl1
    unfold ax_step at hst
    dsimp only at hst
    cases hst
    exact lv_iconst hx hb hd rfl (kk H locs ls P)
  case bipush n =>
    have hl1 : len = 2 := eq_of_beq hlen
    subst hl1
    unfold ax_step at hst
    dsimp only at hst
    cases hst
    exact lv_bipush hx hb hd rfl (kk H locs ls P)
  case sipush n =>
    have hl1 : len = 3 := eq_of_beq hlen
    subst hl1
    unfold ax_step at hst
    dsimp only at hst
    cases hst
    exact lv_sipush hx hb hd rfl (kk H locs ls P)
  case lconst n =>
    have hl1 : len = 1 := eq_of_beq hlen
    subst hl1
    unfold ax_step at hst
    dsimp only at hst
    cases hst
    exact lv_lconst hx hb hd rfl (kk H locs ls P)
  case ldc idx =>
    have hl1 : len = 2 := eq_of_beq hlen
    subst hl1
    unfold ax_step at hst
    dsimp only at hst
    cases hst
    have hI : ax_ok3 ax_KR o idx (pc, .ldc idx, 2, a, k, cx) = true := hI
    unfold ax_ok3 at hI
    split at hI
    case h_2 => cases hI
    rename_i r hr
    simp only [Bool.and_eq_true, beq_iff_eq] at hI
    obtain ⟨⟨f1, f2⟩, f3⟩ := hI
    have hb1 := of_decide_eq_true (ax_row ax_KR_ok hr)
    rw [f1, f2, f3] at hb1
    exact lv_ldc hx hb hown (hts _ (ax_tin hb1 rfl)) hd (kk H locs ls P)
  case ldc_w idx =>
    have hl1 : len = 3 := eq_of_beq hlen
    subst hl1
    unfold ax_step at hst
    dsimp only at hst
    cases hst
    have hI : ax_ok3 ax_KR o idx (pc, .ldc_w idx, 3, a, k, cx) = true := hI
    unfold ax_ok3 at hI
    split at hI
    case h_2 => cases hI
    rename_i r hr
    simp only [Bool.and_eq_true, beq_iff_eq] at hI
    obtain ⟨⟨f1, f2⟩, f3⟩ := hI
    have hb1 := of_decide_eq_true (ax_row ax_KR_ok hr)
    rw [f1, f2, f3] at hb1
    exact lv_ldcw hx hb hown (hts _ (ax_tin hb1 rfl)) hd (kk H locs ls P)
  case ldc2_w idx =>
    have hl1 : len = 3 := eq_of_beq hlen
    subst hl1
    unfold ax_step at hst
    dsimp only at hst
    cases hst
    have hI : ax_ok3 ax_LR o idx (pc, .ldc2_w idx, 3, a, k, cx) = true := hI
    unfold ax_ok3 at hI
    split at hI
    case h_2 => cases hI
    rename_i r hr
    simp only [Bool.and_eq_true, beq_iff_eq] at hI
    obtain ⟨⟨f1, f2⟩, f3⟩ := hI
    have hb1 := of_decide_eq_true (ax_row ax_LR_ok hr)
    rw [f1, f2, f3] at hb1
    exact lv_ldc2 hx hb hown (hts _ (ax_tin hb1 rfl)) hd (kk H locs ls P)
  case iload i =>
    have hl1 : len = 2 := eq_of_beq hlen
    subst hl1
    unfold ax_step at hst
    dsimp only at hst
    unfold ax_ld at hst
    split at hst
    · rename_i v hv
      dsimp only at hst
      split at hst
      · cases hst
        exact lv_iload hx hb hd (P.2.2.1.2.2 _ _ hv) (kk H locs ls P)
      · cases hst
    · cases hst
  case iload_n i =>
    have hl1 : len = 1 := eq_of_beq hlen
    subst hl1
    unfold ax_step at hst
    dsimp only at hst
    unfold ax_ld at hst
    split at hst
    · rename_i v hv
      dsimp only at hst
      split at hst
      · cases hst
        exact lv_iload_n hx hb hd rfl (P.2.2.1.2.2 _ _ hv) (kk H locs ls P)
      · cases hst
    · cases hst
  case lload i =>
    have hl1 : len = 2 := eq_of_beq hlen
    subst hl1
    unfold ax_step at hst
    dsimp only at hst
    unfold ax_ld at hst
    split at hst
    · rename_i v hv
      dsimp only at hst
      split at hst
      · cases hst
        exact lv_lload hx hb hd (P.2.2.1.2.2 _ _ hv) (kk H locs ls P)
      · cases hst
    · cases hst
  case lload_n i =>
    have hl1 : len = 1 := eq_of_beq hlen
    subst hl1
    unfold ax_step at hst
    dsimp only at hst
    unfold ax_ld at hst
    split at hst
    · rename_i v hv
      dsimp only at hst
      split at hst
      · cases hst
        exact lv_lload_n hx hb hd rfl (P.2.2.1.2.2 _ _ hv) (kk H locs ls P)
      · cases hst
    · cases hst
  case aload i =>
    have hl1 : len = 2 := eq_of_beq hlen
    subst hl1
    unfold ax_step at hst
    dsimp only at hst
    unfold ax_ld at hst
    split at hst
    · rename_i v hv
      dsimp only at hst
      split at hst
      · cases hst
        exact lv_aload hx hb hd (P.2.2.1.2.2 _ _ hv) (kk H locs ls P)
      · cases hst
    · cases hst
  case aload_n i =>
    have hl1 : len = 1 := eq_of_beq hlen
    subst hl1
    unfold ax_step at hst
    dsimp only at hst
    unfold ax_ld at hst
    split at hst
    · rename_i v hv
      dsimp only at hst
      split at hst
      · cases hst
        exact lv_aload_n hx hb hd rfl (P.2.2.1.2.2 _ _ hv) (kk H locs ls P)
      · cases hst
    · cases hst
  case istore i =>
    have hl1 : len = 2 := eq_of_beq hlen
    subst hl1
    unfold ax_step at hst
    dsimp only at hst
    split at hst
    · split at hst
      · rename_i hi
        cases hst
        exact lv_istore hx hb hd P.2.2.1.has hi rfl (fun ls1 hl1 => kk H locs ls1 (ax_pt_put1 P hi rfl hl1))
      · cases hst
    · cases hst
  case istore_n i =>
    have hl1 : len = 1 := eq_of_beq hlen
    subst hl1
    unfold ax_step at hst
    dsimp only at hst
    split at hst
    · split at hst
      · rename_i hi
        cases hst
        exact lv_istore_n hx hb hd rfl P.2.2.1.has hi rfl (fun ls1 hl1 => kk H locs ls1 (ax_pt_put1 P hi rfl hl1))
      · cases hst
    · cases hst
  case astore i =>
    have hl1 : len = 2 := eq_of_beq hlen
    subst hl1
    unfold ax_step at hst
    dsimp only at hst
    split at hst
    · split at hst
      · rename_i hi
        cases hst
        exact lv_astore hx hb hd P.2.2.1.has hi rfl (fun ls1 hl1 => kk H locs ls1 (ax_pt_put1 P hi rfl hl1))
      · cases hst
    · cases hst
  case astore_n i =>
    have hl1 : len = 1 := eq_of_beq hlen
    subst hl1
    unfold ax_step at hst
    dsimp only at hst
    split at hst
    · split at hst
      · rename_i hi
        cases hst
        exact lv_astore_n hx hb hd rfl P.2.2.1.has hi rfl (fun ls1 hl1 => kk H locs ls1 (ax_pt_put1 P hi rfl hl1))
      · cases hst
    · cases hst
  case lstore i =>
    have hl1 : len = 2 := eq_of_beq hlen
    subst hl1
    unfold ax_step at hst
    dsimp only at hst
    split at hst
    · split at hst
      · rename_i hi
        cases hst
        exact lv_lstore hx hb hd P.2.2.1.has hi rfl (fun ls1 hl1 => kk H locs ls1 (ax_pt_put2 P (Nat.lt_of_succ_lt hi) rfl hl1))
      · cases hst
    · cases hst
  case lstore_n i =>
    have hl1 : len = 1 := eq_of_beq hlen
    subst hl1
    unfold ax_step at hst
    dsimp only at hst
    split at hst
    · split at hst
      · rename_i hi
        cases hst
        exact lv_lstore_n hx hb hd rfl P.2.2.1.has hi rfl (fun ls1 hl1 => kk H locs ls1 (ax_pt_put2 P (Nat.lt_of_succ_lt hi) rfl hl1))
      · cases hst
    · cases hst
  case iinc i n =>
    have hl1 : len = 3 := eq_of_beq hlen
    subst hl1
    unfold ax_step at hst
    dsimp only at hst
    unfold ax_ld at hst
    split at hst
    · rename_i v hv
      dsimp only at hst
      split at hst
      · cases hst
        obtain ⟨kx, hkx⟩ := List.getElem?_of_mem (ax_en_in (n0 := n0) (b := b) hv)
        exact lv_iinc hx hb hd P.2.2.1.has hkx rfl (ax_lt_of hv) rfl (fun ls1 hl1 => kk H locs ls1 (ax_pt_put1 P (ax_lt_of hv) rfl hl1))
      · cases hst
    · cases hst
  case iadd =>
    have hl1 : len = 1 := eq_of_beq hlen
    subst hl1
    unfold ax_step at hst
    dsimp only at hst
    split at hst
    · cases hst
      exact lv_iadd hx hb hd (kk H locs ls P)
    · cases hst
  case isub =>
    have hl1 : len = 1 := eq_of_beq hlen
    subst hl1
    unfold ax_step at hst
    dsimp only at hst
    split at hst
    · cases hst
      exact lv_isub hx hb hd (kk H locs ls P)
    · cases hst
  case imul =>
    have hl1 : len = 1 := eq_of_beq hlen
    subst hl1
    unfold ax_step at hst
    dsimp only at hst
    split at hst
    · cases hst
      exact lv_imul hx hb hd (kk H locs ls P)
    · cases hst
  case iand =>
    have hl1 : len = 1 := eq_of_beq hlen
    subst hl1
    unfold ax_step at hst
    dsimp only at hst
    split at hst
    · cases hst
      exact lv_iand hx hb hd (kk H locs ls P)
    · cases hst
  case ior =>
    have hl1 : len = 1 := eq_of_beq hlen
    subst hl1
    unfold ax_step at hst
    dsimp only at hst
    split at hst
    · cases hst
      exact lv_ior hx hb hd (kk H locs ls P)
    · cases hst
  case ixor =>
    have hl1 : len = 1 := eq_of_beq hlen
    subst hl1
    unfold ax_step at hst
    dsimp only at hst
    split at hst
    · cases hst
      exact lv_ixor hx hb hd (kk H locs ls P)
    · cases hst
  case ishl =>
    have hl1 : len = 1 := eq_of_beq hlen
    subst hl1
    unfold ax_step at hst
    dsimp only at hst
    split at hst
    · cases hst
      exact lv_ishl hx hb hd (kk H locs ls P)
    · cases hst
  case ishr =>
    have hl1 : len = 1 := eq_of_beq hlen
    subst hl1
    unfold ax_step at hst
    dsimp only at hst
    split at hst
    · cases hst
      exact lv_ishr hx hb hd (kk H locs ls P)
    · cases hst
  case ladd =>
    have hl1 : len = 1 := eq_of_beq hlen
    subst hl1
    unfold ax_step at hst
    dsimp only at hst
    split at hst
    · cases hst
      exact lv_ladd hx hb hd (kk H locs ls P)
    · cases hst
  case lmul =>
    have hl1 : len = 1 := eq_of_beq hlen
    subst hl1
    unfold ax_step at hst
    dsimp only at hst
    split at hst
    · cases hst
      exact lv_lmul hx hb hd (kk H locs ls P)
    · cases hst
  case iushr =>
    have hl1 : len = 1 := eq_of_beq hlen
    subst hl1
    unfold ax_step at hst
    dsimp only at hst
    split at hst
    · cases hst
      exact lv_iushr hx hb hd rfl (kk H locs ls P)
    · cases hst
  case i2l =>
    have hl1 : len = 1 := eq_of_beq hlen
    subst hl1
    unfold ax_step at hst
    dsimp only at hst
    split at hst
    · cases hst
      exact lv_i2l hx hb hd rfl (kk H locs ls P)
    · cases hst
  case l2i =>
    have hl1 : len = 1 := eq_of_beq hlen
    subst hl1
    unfold ax_step at hst
    dsimp only at hst
    split at hst
    · cases hst
      exact lv_l2i hx hb hd rfl (kk H locs ls P)
    · cases hst
  case i2b =>
    have hl1 : len = 1 := eq_of_beq hlen
    subst hl1
    unfold ax_step at hst
    dsimp only at hst
    split at hst
    · cases hst
      exact lv_i2b hx hb hd rfl (kk H locs ls P)
    · cases hst
  case lcmp =>
    have hl1 : len = 1 := eq_of_beq hlen
    subst hl1
    unfold ax_step at hst
    dsimp only at hst
    split at hst
    · cases hst
      exact W.lcmp hx hb hd (kk H locs ls P)
    · cases hst
  case idiv =>
    have hl1 : len = 1 := eq_of_beq hlen
    subst hl1
    unfold ax_step at hst
    dsimp only at hst
    split at hst
    · split at hst
      · cases hst
      · rename_i hne
        cases hst
        exact lv_idiv hx hb hd hne (kk H locs ls P)
    · cases hst
  case irem =>
    have hl1 : len = 1 := eq_of_beq hlen
    subst hl1
    unfold ax_step at hst
    dsimp only at hst
    split at hst
    · split at hst
      · cases hst
      · rename_i hne
        cases hst
        exact lv_irem hx hb hd hne (kk H locs ls P)
    · cases hst
  case dup =>
    have hl1 : len = 1 := eq_of_beq hlen
    subst hl1
    unfold ax_step at hst
    dsimp only at hst
    split at hst
    · split at hst
      · rename_i hv
        cases hst
        exact lv_dup hx hb hd ((ax_v_cat n0 b _).trans hv) (kk H locs ls P)
      · cases hst
    · cases hst
  case pop =>
    have hl1 : len = 1 := eq_of_beq hlen
    subst hl1
    unfold ax_step at hst
    dsimp only at hst
    split at hst
    · split at hst
      · rename_i hv
        cases hst
        exact lv_pop hx hb hd ((ax_v_cat n0 b _).trans hv) (kk H locs ls P)
      · cases hst
    · cases hst
  case dup2 =>
    have hl1 : len = 1 := eq_of_beq hlen
    subst hl1
    unfold ax_step at hst
    dsimp only at hst
    split at hst
    · split at hst
      · rename_i hv
        cases hst
        exact lv_dup2_11 hx hb hd ((ax_v_cat n0 b _).trans hv.1) ((ax_v_cat n0 b _).trans hv.2) (kk H locs ls P)
      · cases hst
    · cases hst
  case ifCond cc off =>
    have hl1 : len = 3 := eq_of_beq hlen
    subst hl1
    unfold ax_step at hst
    dsimp only at hst
    split at hst
    · cases hst
      have kp := fun w => by have t := kk H locs ls P; rw [if_pos w] at t; exact t
      have kn := fun w => by have t := kk H locs ls P; rw [if_neg w] at t; exact t
      cases cc
      · exact lv_if_eq hx hb hd (ax_to_ok hI) (fun w => kp (decide_eq_true w)) (fun w => kn (fun u => w (of_decide_eq_true u)))
      · exact lv_if_ne hx hb hd (ax_to_ok hI) (fun w => kp (decide_eq_true w)) (fun w => kn (fun u => (of_decide_eq_true u) w))
      · exact lv_if_lt hx hb hd (ax_to_ok hI) (fun w => kp (decide_eq_true w)) (fun w => kn (fun u => w (of_decide_eq_true u)))
      · exact lv_if_ge hx hb hd (ax_to_ok hI) (fun w => kp (decide_eq_true w)) (fun w => kn (fun u => w (of_decide_eq_true u)))
      · exact lv_if_gt hx hb hd (ax_to_ok hI) (fun w => kp (decide_eq_true w)) (fun w => kn (fun u => w (of_decide_eq_true u)))
      · exact lv_if_le hx hb hd (ax_to_ok hI) (fun w => kp (decide_eq_true w)) (fun w => kn (fun u => w (of_decide_eq_true u)))
    · cases hst
  case if_icmp cc off =>
    have hl1 : len = 3 := eq_of_beq hlen
    subst hl1
    unfold ax_step at hst
    dsimp only at hst
    split at hst
    · cases hst
      have kp := fun w => by have t := kk H locs ls P; rw [if_pos w] at t; exact t
      have kn := fun w => by have t := kk H locs ls P; rw [if_neg w] at t; exact t
      cases cc
      · exact lv_icmp_eq hx hb hd (ax_to_ok hI) (fun w => kp (decide_eq_true w)) (fun w => kn (fun u => w (of_decide_eq_true u)))
      · exact lv_icmp_ne hx hb hd (ax_to_ok hI) (fun w => kp (decide_eq_true w)) (fun w => kn (fun u => (of_decide_eq_true u) w))
      · exact lv_icmp_lt hx hb hd (ax_to_ok hI) (fun w => kp (decide_eq_true w)) (fun w => kn (fun u => w (of_decide_eq_true u)))
      · exact lv_icmp_ge hx hb hd (ax_to_ok hI) (fun w => kp (decide_eq_true w)) (fun w => kn (fun u => w (of_decide_eq_true u)))
      · exact lv_icmp_gt hx hb hd (ax_to_ok hI) (fun w => kp (decide_eq_true w)) (fun w => kn (fun u => w (of_decide_eq_true u)))
      · exact lv_icmp_le hx hb hd (ax_to_ok hI) (fun w => kp (decide_eq_true w)) (fun w => kn (fun u => w (of_decide_eq_true u)))
    · cases hst
  case goto off =>
    have hl1 : len = 3 := eq_of_beq hlen
    subst hl1
    unfold ax_step at hst
    dsimp only at hst
    cases hst
    exact lv_goto hx hb hd (ax_to_ok hI) (kk H locs ls P)
  case ifnull off =>
    have hl1 : len = 3 := eq_of_beq hlen
    subst hl1
    unfold ax_step at hst
    dsimp only at hst
    split at hst
    · cases hst
      exact lv_ifnullN hx hb hd (ax_to_ok hI) (kk H locs ls P)
    · cases hst
      exact lv_ifnull hx hb hd (kk H locs ls P)
    · cases hst
  case ifnonnull off =>
    have hl1 : len = 3 := eq_of_beq hlen
    subst hl1
    unfold ax_step at hst
    dsimp only at hst
    split at hst
    · cases hst
      exact lv_ifnonnullN hx hb hd (kk H locs ls P)
    · cases hst
      exact lv_ifnonnull hx hb hd (ax_to_ok hI) (kk H locs ls P)
    · cases hst
  case tableswitch d lo hi offs =>
    unfold ax_step at hst
    dsimp only at hst
    have hI1 := (Bool.and_eq_true _ _).mp hI
    split at hst
    · split at hst
      · rename_i hio
        cases hst
        exact lv_tableOut hx hb hd hio (ax_to_ok hI1.1) (kk H locs ls P)
      · rename_i hio
        split at hst
        · rename_i off ho
          cases hst
          exact lv_tableIn hx hb hd (fun q => hio (Or.inl q)) (fun q => hio (Or.inr q)) (by rw [← Array.getElem?_toList]; exact ho) (ax_to_ok (List.all_eq_true.mp hI1.2 off (List.mem_of_getElem? ho))) (kk H locs ls P)
        · cases hst
    · cases hst
  case getfield idx =>
    have hl1 : len = 3 := eq_of_beq hlen
    subst hl1
    unfold ax_step at hst
    dsimp only at hst
    split at hst
    · split at hst
      · rename_i hq
        split at hst
        · rename_i hci
          cases hst
          exact ax_s_get C P hd hI hq hci (kk H locs ls P)
        · cases hst
      · cases hst
    · cases hst
  case putfield idx =>
    have hl1 : len = 3 := eq_of_beq hlen
    subst hl1
    unfold ax_step at hst
    dsimp only at hst
    have hI1 := (Bool.and_eq_true _ _).mp hI
    split at hst
    · split at hst
      · rename_i hq
        split at hst
        · rename_i hci
          obtain ⟨hci, hv⟩ := hci
          subst hci
          cases hst
          refine ax_s_put C P hd hI1.1 (fun r hr hf => ?_) hq rfl hv (fun H1 locs1 P1 => kk H1 locs1 ls P1)
          have h2 := hI1.2
          dsimp only at h2
          rw [hr] at h2
          simp only [hf, Bool.not_true, Bool.false_or, Bool.and_eq_true, beq_iff_eq] at h2
          exact h2
        · cases hst
      · cases hst
    · cases hst
  case arraylength =>
    have hl1 : len = 1 := eq_of_beq hlen
    subst hl1
    unfold ax_step at hst
    dsimp only at hst
    split at hst
    · split at hst
      · rename_i hq
        split at hst
        · rename_i ht
          cases hst
          exact ax_s_alen C P hd hq ht (kk H locs ls P)
        · cases hst
      · cases hst
    · cases hst
  case iaload =>
    have hl1 : len = 1 := eq_of_beq hlen
    subst hl1
    unfold ax_step at hst
    dsimp only at hst
    split at hst
    · split at hst
      · rename_i hq
        split at hst
        · rename_i hc
          cases hst
          exact ax_s_iald C P hd hq hc.1 hc.2 (kk H locs ls P)
        · cases hst
      · cases hst
    · cases hst
  case baload =>
    have hl1 : len = 1 := eq_of_beq hlen
    subst hl1
    unfold ax_step at hst
    dsimp only at hst
    split at hst
    · split at hst
      · rename_i hq
        split at hst
        · rename_i hc
          cases hst
          exact ax_s_bald C P hd hq hc.1 hc.2 (kk H locs ls P)
        · cases hst
      · cases hst
    · cases hst
  case laload =>
    have hl1 : len = 1 := eq_of_beq hlen
    subst hl1
    unfold ax_step at hst
    dsimp only at hst
    split at hst
    · split at hst
      · rename_i hq
        split at hst
        · rename_i hc
          cases hst
          exact ax_s_lald C P hd hq hc.1 hc.2 (kk H locs ls P)
        · cases hst
      · cases hst
    · cases hst
  case aaload =>
    have hl1 : len = 1 := eq_of_beq hlen
    subst hl1
    unfold ax_step at hst
    dsimp only at hst
    split at hst
    · split at hst
      · rename_i hq
        split at hst
        · rename_i hc
          cases hst
          exact ax_s_aald C P hd hq hc.1 hc.2 (kk H locs ls P)
        · cases hst
      · cases hst
    · cases hst
  case iastore =>
    have hl1 : len = 1 := eq_of_beq hlen
    subst hl1
    unfold ax_step at hst
    dsimp only at hst
    split at hst
    · split at hst
      · rename_i hq
        split at hst
        · rename_i hc
          cases hst
          exact ax_s_iast C P hd hq hc.1 hc.2.1 hc.2.2 (fun H1 locs1 P1 => kk H1 locs1 ls P1)
        · cases hst
      · cases hst
    · cases hst
  case bastore =>
    have hl1 : len = 1 := eq_of_beq hlen
    subst hl1
    unfold ax_step at hst
    dsimp only at hst
    split at hst
    · split at hst
      · rename_i hq
        split at hst
        · rename_i hc
          cases hst
          exact ax_s_bast C P hd hq hc.1 hc.2 (fun H1 locs1 P1 => kk H1 locs1 ls P1)
        · cases hst
      · cases hst
    · cases hst
  case lastore =>
    have hl1 : len = 1 := eq_of_beq hlen
    subst hl1
    unfold ax_step at hst
    dsimp only at hst
    split at hst
    · split at hst
      · rename_i hq
        split at hst
        · rename_i hc
          cases hst
          exact ax_s_last C P hd hq hc.1 hc.2 (fun H1 locs1 P1 => kk H1 locs1 ls P1)
        · cases hst
      · cases hst
    · cases hst
  case aastore =>
    have hl1 : len = 1 := eq_of_beq hlen
    subst hl1
    unfold ax_step at hst
    dsimp only at hst
    split at hst
    · split at hst
      · rename_i hq hv
        split at hst
        · rename_i hc
          cases hst
          exact ax_s_aast C P hd hq hv hc.1 hc.2.1 hc.2.2 (fun H1 locs1 P1 => kk H1 locs1 ls P1)
        · cases hst
      · cases hst
    · cases hst
  case newarray at9 =>
    have hl1 : len = 2 := eq_of_beq hlen
    subst hl1
    unfold ax_step at hst
    dsimp only at hst
    split at hst
    · split at hst
      · rename_i hn
        cases hst
        refine ax_s_newa C P hd ?_ hn.1 hn.2 h9a h9b (fun H1 P1 => kk H1 locs ls P1)
        cases at9
        case int => exact Or.inl ⟨rfl, eq_of_beq hI⟩
        case byte => exact Or.inr (Or.inl ⟨rfl, eq_of_beq hI⟩)
        case boolean => exact Or.inr (Or.inr (Or.inl ⟨rfl, eq_of_beq hI⟩))
        case long => exact Or.inr (Or.inr (Or.inr ⟨rfl, eq_of_beq hI⟩))
        all_goals exact absurd hI (by intro w; cases w)
      · cases hst
    · cases hst
  case anewarray idx =>
    have hl1 : len = 3 := eq_of_beq hlen
    subst hl1
    unfold ax_step at hst
    dsimp only at hst
    have hI1 := (Bool.and_eq_true _ _).mp hI
    have ha : a = 0 := eq_of_beq hI1.2
    subst ha
    split at hst
    · split at hst
      · rename_i hn
        cases hst
        exact ax_s_anew C P hd hI1.1 hn.1 hn.2 h9a h9b (fun H1 P1 => kk H1 locs ls P1)
      · cases hst
    · cases hst
  case new idx =>
    have hl1 : len = 3 := eq_of_beq hlen
    subst hl1
    unfold ax_step at hst
    dsimp only at hst
    cases hst
    exact ax_s_new C P hd hI h9a h9b (fun H1 P1 => kk H1 locs ls P1)
  case invokespecial idx =>
    have hl1 : len = 3 := eq_of_beq hlen
    subst hl1
    unfold ax_step at hst
    dsimp only at hst
    have hI1 := (Bool.and_eq_true _ _).mp hI
    split at hst
    · split at hst
      · rename_i hk3
        have hk3 : k = 3 := hk3
        subst hk3
        cases hst
        have hf := hfr.resolve_left (by show ¬ (if (3 : Nat) = 3 then 3 else 1) = 2; decide)
        have hc2 := hf.2.2
        refine W.objInit hx hb hown (ax_link C hI1.1 (fun r hr e => (ax_MRk hr).1 e)) (hts _ ax_oi_inst) (hts _ ax_oi_code) rfl hml.symm rfl hd hf.1 ?_ (kk H locs ls P)
        show 2 * 0 + ((List.map (ax_v n0 b) _).map fun v => v.category).sum + 12 ≤ _
        rw [ax_cat_v]
        unfold ax_cat at hc2 ⊢
        simp only [List.map_cons, List.sum_cons] at hc2
        omega
      · cases hst
    · cases hst
  case invokestatic idx =>
    have hl1 : len = 3 := eq_of_beq hlen
    subst hl1
    unfold ax_step at hst
    dsimp only at hst
    have hI1 := (Bool.and_eq_true _ _).mp hI
    split at hst
    · split at hst
      · cases hst
        have hf := hfr.resolve_left (by show ¬ (if (6 : Nat) ≤ 7 then 3 else 1) = 2; decide)
        have hc2 := hf.2.2
        refine va_mmax hx hb hml hown (ax_link C hI1.1 (fun r hr e => (ax_MRk hr).2.1 e)) (hts _ (ax_tin ax_ma_maxI.1 rfl)) (hts _ ax_mx_ini) (hts _ (ax_tin ax_ma_maxI.2 rfl)) hf.1 ?_ (by omega) (by omega) hd (kk H locs ls P)
        rw [ax_cat_v]
        unfold ax_cat at hc2 ⊢
        simp only [List.map_cons, List.sum_cons] at hc2
        omega
      · cases hst
    · split at hst
      · cases hst
        have hf := hfr.resolve_left (by show ¬ (if (6 : Nat) ≤ 8 then 3 else 1) = 2; decide)
        have hc2 := hf.2.2
        refine va_mmin hx hb hml hown (ax_link C hI1.1 (fun r hr e => (ax_MRk hr).2.2.1 e)) (hts _ (ax_tin ax_ma_minI.1 rfl)) (hts _ ax_mx_ini) (hts _ (ax_tin ax_ma_minI.2 rfl)) hf.1 ?_ (by omega) (by omega) hd (kk H locs ls P)
        rw [ax_cat_v]
        unfold ax_cat at hc2 ⊢
        simp only [List.map_cons, List.sum_cons] at hc2
        omega
      · cases hst
    · split at hst
      · cases hst
        have hf := hfr.resolve_left (by show ¬ (if (6 : Nat) ≤ 9 then 3 else 1) = 2; decide)
        have hc2 := hf.2.2
        refine va_mmin_long hx hb hml hown (ax_link C hI1.1 (fun r hr e => (ax_MRk hr).2.2.2 e)) (hts _ (ax_tin ax_ma_minJ.1 rfl)) (hts _ ax_mx_ini) (hts _ (ax_tin ax_ma_minJ.2 rfl)) hf.1 ?_ (by omega) (by omega) hd (kk H locs ls P)
        rw [ax_cat_v]
        unfold ax_cat at hc2 ⊢
        simp only [List.map_cons, List.sum_cons] at hc2
        omega
      · cases hst
    · split at hst
      · split at hst
        · rename_i hs hdd
          split at hst
          · rename_i hq
            obtain ⟨t1, t2, q1, q2, q3, q4, q5, q6, q7⟩ := hq
            subst t1 t2
            cases hst
            have hf := hfr.resolve_left (by show ¬ (if (6 : Nat) ≤ 6 then 3 else 1) = 2; decide)
            have hc2 := hf.2.2
            refine ax_s_copy C P hd hI1.1 hs hdd q2 q1 q3 q4 q5 q6 q7 hf.1 ?_ (fun H1 locs1 P1 => kk H1 locs1 ls P1)
            unfold ax_cat at hc2 ⊢
            simp only [List.map_cons, List.sum_cons] at hc2
            omega
          · cases hst
        · cases hst
      · cases hst
    · cases hst
  all_goals exact nomatch (show (none : Option (Nat × ax_L × List Value × ax_H)) = some (pc', L', S', h') from hst)
end AXT
