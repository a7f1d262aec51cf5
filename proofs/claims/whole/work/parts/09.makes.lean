/-! What is made; what is copied; the links of calls. -/
theorem ax_v_def (n0 b : Nat) (t : FieldType) : ax_v n0 b (defaultValue t) = defaultValue t := by cases t <;> rfl
theorem ax_row {α : Type} {l : List α} {f : α → Bool} (h : l.all f = true) {i : Nat} {r : α} (hr : l[i]? = some r) : f r = true := List.all_eq_true.mp h r (List.mem_of_getElem? hr)
section AXM
variable {p : Program} {l : Launch} {ev : Env} {R : Room} {s : State} {m : MethodId} {args : Array Value} {below : List Frame} {meth : Method} {c : Code} {Q : State → Prop}
variable {o : Nat} {ini : Bool} {bs : ByteArray} {n0 b : Nat} {D : va_G} {cA : Nat → ClassId} {z : ax_E} {h0 h9 h : ax_H} {L : ax_L} {S : List Value} {H : Heap} {locs : List Loc} {ls : Array Slot} {pc : Nat}
/-- the point behind a cell that is made -/
theorem ax_made {H1 : Heap} {n : Nat} {x : ax_E} (P : ax_Pt s c n0 b D cA z h0 L h H locs ls) (e2 : H1.size = H.size + 1) (e3 : ∀ q : Nat, q < H.size → H1[q]? = H[q]?) (he : va_at D ax_cl (H.size, ax_e n0 b cA x) H1) : ax_Pt s c n0 b D cA z h0 L (ax_new h n x) H1 locs ls := by
  obtain ⟨P1, hS, P3, P4, P5, P6, P7⟩ := P
  have hp := P1.2.1
  refine ⟨P1.new e2 e3 he, ⟨Nat.le_trans hS.1 (by omega), fun q h1 h2 => (e3 q (Nat.lt_of_lt_of_le h1 hS.1)).trans (hS.2.1 q h1 h2), hS.2.2⟩, P3, P4, ?_, Nat.le_trans P6 (Nat.le_succ _), Nat.le_trans P7 (Nat.le_add_right _ _)⟩
  show va_up h.2.2 h.1 x 0 = z
  rw [va_up_ne _ _ (by omega)]
  exact P5
theorem ax_made_ref (P : ax_Pt s c n0 b D cA z h0 L h H locs ls) : ax_am n0 b h.1 = H.size := by
  have h1 := P.1.1
  have h2 := P.1.2.1
  rw [ax_am_pos (by omega)]
  omega
theorem ax_made_g {n : Nat} {x : ax_E} {H1 : Heap} (P : ax_Pt s c n0 b D cA z h0 L h H locs ls) (kk : ax_g p l ev R s m args below meth c Q n0 b h0 pc (.ref h.1 :: S) (ax_new h n x) H1 locs ls) : W p l ev R s m args below meth c H1 locs (h.1 - h0.1 + 1) (h.2.1 - h0.2.1 + n) Q (F0 m pc ls (.ref H.size :: S.map (ax_v n0 b))) := by
  have e1 : (ax_new h n x).1 - h0.1 = h.1 - h0.1 + 1 := by show h.1 + 1 - h0.1 = _; have := P.2.2.2.2.2.1; omega
  have e2 : (ax_new h n x).2.1 - h0.2.1 = h.2.1 - h0.2.1 + n := by show h.2.1 + n - h0.2.1 = _; have := P.2.2.2.2.2.2; omega
  unfold ax_g at kk
  rw [e1, e2] at kk
  rw [← ax_made_ref P]
  exact kk
theorem ax_s_new {idx a k cx : Nat} (C : ax_Cx p R s m args meth c o ini bs n0 b D cA z h0 h9) (P : ax_Pt s c n0 b D cA z h0 L h H locs ls) (hd : decode bs pc = .ok (.new idx, 3)) (hf : ax_ok3 ax_CR o idx (pc, .new idx, 3, a, k, cx) = true) (h9a : h.1 + 1 ≤ h9.1) (h9b : h.2.1 + ax_nf a ≤ h9.2.1)
    (kk : ∀ H1, ax_Pt s c n0 b D cA z h0 L (ax_new h (ax_nf a) (.inr (a, fun j => defaultValue (ax_ty a j)))) H1 locs ls → ax_g p l ev R s m args below meth c Q n0 b h0 (pc + 3) (.ref h.1 :: S) (ax_new h (ax_nf a) (.inr (a, fun j => defaultValue (ax_ty a j)))) H1 locs ls) : ax_g p l ev R s m args below meth c Q n0 b h0 pc S h H locs ls := by
  obtain ⟨hx, hb, hown, hts, hini, hK, -, -, -, hR1, hR2⟩ := id C
  unfold ax_ok3 at hf
  split at hf
  case h_2 => cases hf
  rename_i r hr
  simp only [Bool.and_eq_true, beq_iff_eq] at hf
  obtain ⟨⟨f1, f2⟩, f3⟩ := hf
  have hb1 := ax_row ax_CR_ok hr
  unfold ax_CRb at hb1
  rw [f1, f2, f3] at hb1
  split at hb1
  case h_2 => cases hb1
  rename_i q hc
  simp only [decide_eq_true_eq] at hb1
  obtain ⟨nm, T, N⟩ := q
  obtain ⟨hin, hty, hinst⟩ := ax_cl_F hc
  dsimp only at hin hty hinst hb1
  obtain ⟨how, ho⟩ := ax_cl_own hc
  dsimp only at how
  have hnf : ax_nf a = N := ax_cl_nf hc
  have hKn := hK.1.1 a _ hc
  have P6 := P.2.2.2.2.2.1
  have P7 := P.2.2.2.2.2.2
  refine W.newcK hx hb hown (hts _ (ax_tin hb1 rfl)) (hts _ hinst) (hts _ (by rw [how]; exact ax_ini_in (by omega))) rfl hd (by omega) (by omega) hKn.2.1 rfl fun H1 kC hkC e1 z1 o1 => ?_
  rw [← hnf]
  refine ax_made_g P (kk H1 (ax_made P z1 o1 ?_))
  refine ⟨_, hc, (u_born (ax_ty a) hts hin hKn hkC e1 hty).to fun j hj => ?_⟩
  show defaultValue (ax_ty a j) = vp_V ((List.range (ax_nf a)).map (fun j => ax_v n0 b (defaultValue (ax_ty a j)))) j
  rw [hnf]
  unfold vp_V
  rw [List.getD_eq_getElem?_getD, ax_fs_at hj, ax_v_def]
  rfl
theorem ax_cls_same {t : Nat} {cB : ClassId} (hK : ax_K D cA s) (ht : t < 4) (h : s.vm.findClass ("[" ++ ((ax_tys cA)[t]?.elim FieldType.int (fun q => q.2)).toString) = some cB) : cB = cA t := by
  have h1 := (hK.1.2 t _ (ax_tys_at (by omega))).2
  match t, ht with
  | 0, _ => exact Option.some.inj (h.symm.trans h1)
  | 1, _ => exact Option.some.inj (h.symm.trans h1)
  | 2, _ => exact Option.some.inj (h.symm.trans h1)
  | 3, _ => exact Option.some.inj (h.symm.trans h1)
theorem ax_s_newa {at9 : ArrayType} {n : Int32} {t : Nat} (C : ax_Cx p R s m args meth c o ini bs n0 b D cA z h0 h9) (P : ax_Pt s c n0 b D cA z h0 L h H locs ls) (hd : decode bs pc = .ok (.newarray at9, 2)) (ht : (at9 = .int ∧ t = 0) ∨ (at9 = .byte ∧ t = 1) ∨ (at9 = .boolean ∧ t = 2) ∨ (at9 = .long ∧ t = 3)) (hn : ¬ n < 0) (hN : n.toNatClampNeg ≤ 2000000) (h9a : h.1 + 1 ≤ h9.1) (h9b : h.2.1 + n.toNatClampNeg ≤ h9.2.1)
    (kk : ∀ H1, ax_Pt s c n0 b D cA z h0 L (ax_new h n.toNatClampNeg (.inl (t, n.toNatClampNeg, if t = 3 then .inr (.inl (fun _ => 0)) else .inl (fun _ => 0)))) H1 locs ls → ax_g p l ev R s m args below meth c Q n0 b h0 (pc + 2) (.ref h.1 :: S) (ax_new h n.toNatClampNeg (.inl (t, n.toNatClampNeg, if t = 3 then .inr (.inl (fun _ => 0)) else .inl (fun _ => 0)))) H1 locs ls) : ax_g p l ev R s m args below meth c Q n0 b h0 pc (.int n :: S) h H locs ls := by
  obtain ⟨hx, hb, hown, hts, hini, hK, -, -, -, hR1, hR2⟩ := id C
  have P6 := P.2.2.2.2.2.1
  have P7 := P.2.2.2.2.2.2
  rcases ht with ⟨rfl, rfl⟩ | ⟨rfl, rfl⟩ | ⟨rfl, rfl⟩ | ⟨rfl, rfl⟩
  · refine va_newaK hx hb (atype := .int) (hts _ ax_aw_int) rfl hd rfl hn rfl (by show n.toNatClampNeg * 4 ≤ _; omega) (by omega) (by omega) rfl fun H1 cB e1 z1 o1 hAr hNm => ?_
    refine ax_made_g P (kk H1 (ax_made P z1 o1 ?_))
    have e := ax_cls_same (t := 0) hK (by omega) hNm
    subst e
    exact e1
  · refine va_newaK hx hb (atype := .byte) (hts _ ax_aw_byte) rfl hd rfl hn rfl (by show n.toNatClampNeg * 1 ≤ _; omega) (by omega) (by omega) rfl fun H1 cB e1 z1 o1 hAr hNm => ?_
    refine ax_made_g P (kk H1 (ax_made P z1 o1 ?_))
    have e := ax_cls_same (t := 1) hK (by omega) hNm
    subst e
    exact e1
  · refine va_newaK hx hb (atype := .boolean) (hts _ ax_aw_boolean) rfl hd rfl hn rfl (by show n.toNatClampNeg * 1 ≤ _; omega) (by omega) (by omega) rfl fun H1 cB e1 z1 o1 hAr hNm => ?_
    refine ax_made_g P (kk H1 (ax_made P z1 o1 ?_))
    have e := ax_cls_same (t := 2) hK (by omega) hNm
    subst e
    exact e1
  · refine va_newaK hx hb (atype := .long) (hts _ ax_aw_long) rfl hd rfl hn rfl (by show n.toNatClampNeg * 8 ≤ _; omega) (by omega) (by omega) rfl fun H1 cB e1 z1 o1 hAr hNm => ?_
    refine ax_made_g P (kk H1 (ax_made P z1 o1 ?_))
    have e := ax_cls_same (t := 3) hK (by omega) hNm
    subst e
    exact e1
theorem ax_s_anew {idx k cx : Nat} {n : Int32} (C : ax_Cx p R s m args meth c o ini bs n0 b D cA z h0 h9) (P : ax_Pt s c n0 b D cA z h0 L h H locs ls) (hd : decode bs pc = .ok (.anewarray idx, 3)) (hf : ax_ok3 ax_CR o idx (pc, .anewarray idx, 3, 0, k, cx) = true) (hn : ¬ n < 0) (hN : n.toNatClampNeg ≤ 2000000) (h9a : h.1 + 1 ≤ h9.1) (h9b : h.2.1 + n.toNatClampNeg ≤ h9.2.1)
    (kk : ∀ H1, ax_Pt s c n0 b D cA z h0 L (ax_new h n.toNatClampNeg (.inl (4, n.toNatClampNeg, .inr (.inr (.inr (.inr (fun _ => none))))))) H1 locs ls → ax_g p l ev R s m args below meth c Q n0 b h0 (pc + 3) (.ref h.1 :: S) (ax_new h n.toNatClampNeg (.inl (4, n.toNatClampNeg, .inr (.inr (.inr (.inr (fun _ => none))))))) H1 locs ls) : ax_g p l ev R s m args below meth c Q n0 b h0 pc (.int n :: S) h H locs ls := by
  obtain ⟨hx, hb, hown, hts, hini, hK, -, -, -, hR1, hR2⟩ := id C
  have P6 := P.2.2.2.2.2.1
  have P7 := P.2.2.2.2.2.2
  unfold ax_ok3 at hf
  split at hf
  case h_2 => cases hf
  rename_i r hr
  simp only [Bool.and_eq_true, beq_iff_eq] at hf
  obtain ⟨⟨f1, f2⟩, f3⟩ := hf
  have hb1 := ax_row ax_CR_ok hr
  unfold ax_CRb at hb1
  rw [f1, f2, f3] at hb1
  have hb2 : tables_1[r.2.2.2]? = some (Cond.classLink (ax_own o) idx "GivenSearch$Flat") := of_decide_eq_true hb1
  refine W.anew hx hb hown (hts _ (ax_tin hb2 rfl)) (va_AO.use hK.2.1) rfl hd rfl hn (by omega) (by omega) (by omega) fun cB kA comp f1 f2 f3 f4 => ?_
  generalize hH1 : H.push ({ cls := cB, slots := Array.replicate n.toNatClampNeg .null, vm := .none } : Cell) = H1
  have z1 : H1.size = H.size + 1 := by rw [← hH1, Array.size_push]
  have e1 : H1[H.size]? = some (arrV cB n.toNatClampNeg (fun _ => .null)) := by rw [← hH1, Array.getElem?_push_size, ← arrV_new]
  have o1 : ∀ q : Nat, q < H.size → H1[q]? = H[q]? := fun q hq => by rw [← hH1, Array.getElem?_push, if_neg (Nat.ne_of_lt hq)]
  refine ax_made_g P (kk H1 (ax_made P z1 o1 ?_))
  obtain ⟨kB, comp2, -, -, -, g4⟩ := (hK.1.2 4 _ rfl).2
  have e : cB = cA 4 := Option.some.inj (f1.symm.trans g4)
  subst e
  exact e1
theorem ax_okM_use {idx : Nat} {e : ax_En} (h : ax_okM o idx e = true) : ∃ r ∈ ax_MR, r.1 = o ∧ r.2.1 = idx ∧ r.2.2.1 = e.2.2.2.1 ∧ r.2.2.2.1 = e.2.2.2.2.1 ∧ ax_MRb r = true := by
  unfold ax_okM at h
  split at h
  case h_2 => cases h
  rename_i r hr
  simp only [Bool.and_eq_true, beq_iff_eq] at h
  exact ⟨r, List.mem_of_getElem? hr, h.1.1.1, h.1.1.2, h.1.2, h.2, ax_row ax_MR_ok hr⟩
theorem ax_s_copy {idx a cx : Nat} {n sp dp : Int32} {ks kd ns nd : Nat} {f g : Nat → Int32} (C : ax_Cx p R s m args meth c o ini bs n0 b D cA z h0 h9) (P : ax_Pt s c n0 b D cA z h0 L h H locs ls) (hd : decode bs pc = .ok (.invokestatic idx, 3)) (hf : ax_okM o idx (pc, .invokestatic idx, 3, a, 6, cx) = true)
    (hs : h.2.2 ks = .inl (0, ns, .inl f)) (hdd : h.2.2 kd = .inl (0, nd, .inl g)) (hks : ¬ ks = 0) (hkd : ¬ kd = 0) (h1 : ¬ sp < 0) (h2 : ¬ dp < 0) (h3 : ¬ n < 0) (h4 : sp.toNatClampNeg + n.toNatClampNeg ≤ ns) (h5 : dp.toNatClampNeg + n.toNatClampNeg ≤ nd) (hframes : 1 ≤ R.frames) (hlocals : ax_cat S + 60 ≤ R.locals)
    (kk : ∀ H1 locs1, ax_Pt s c n0 b D cA z h0 L (ax_set h kd (.inl (0, nd, .inl (va_cpy f g sp.toNatClampNeg dp.toNatClampNeg n.toNatClampNeg)))) H1 locs1 ls → ax_g p l ev R s m args below meth c Q n0 b h0 (pc + 3) S (ax_set h kd (.inl (0, nd, .inl (va_cpy f g sp.toNatClampNeg dp.toNatClampNeg n.toNatClampNeg)))) H1 locs1 ls) : ax_g p l ev R s m args below meth c Q n0 b h0 pc (.int n :: .int dp :: .ref kd :: .int sp :: .ref ks :: S) h H locs ls := by
  obtain ⟨hx, hb, hown, hts, hini, hK, -⟩ := id C
  obtain ⟨r, hr, r1, r2, r3, r4, hrb⟩ := ax_okM_use hf
  have hlink : Cond.methodLink (ax_own o) idx arraycopyName ∈ ax_G := by
    unfold ax_MRb at hrb
    rw [r1, r2, r4] at hrb
    dsimp only at hrb
    split at hrb
    · exact ax_tin (of_decide_eq_true hrb) rfl
    · cases hrb
  obtain ⟨-, hc0⟩ := ax_arr P hks hs (by omega)
  obtain ⟨hkl, hc1⟩ := ax_arr P hkd hdd (by omega)
  have hc0 : H[ax_am n0 b ks]? = some (vp_cell (cA 0) (ns, .inl f)) := hc0
  have hc1 : H[ax_am n0 b kd]? = some (vp_cell (cA 0) (nd, .inl g)) := hc1
  have nn : ∀ w : Int32, ¬ w < 0 → w.toInt = (w.toNatClampNeg : Int) := by
    intro w hw
    have hw0 : (0 : Int) ≤ w.toInt := by
      have := Int32.not_lt.mp hw
      simpa using Int32.le_iff_toInt_le.mp this
    show w.toInt = ((w.toInt.toNat : Nat) : Int)
    omega
  intro T hT X
  obtain ⟨-, k0, hk0, cm0, hkk0⟩ := (hK.1.2 0 _ rfl).1 ns (fun j => .int (f j))
  obtain ⟨-, k1, hk1, cm1, hkk1⟩ := (hK.1.2 0 _ rfl).1 nd (fun j => .int (g j))
  have hml : ls.size = c.maxLocals := by rw [P.2.2.2.1]; exact P.2.2.1.1
  obtain ⟨vm', X', step⟩ := X.arraycopy hx hown (hts _ hlink) (hts _ ax_cp_nat) (hts _ ax_cp_sta) (hts _ ax_cp_ini) (src := ax_am n0 b ks) (dst := ax_am n0 b kd) (cs := vp_cell (cA 0) (ns, .inl f)) (cd := vp_cell (cA 0) (nd, .inl g)) (srcPos := sp) (destPos := dp) (n := n) (by rw [hT]; exact hc0) (by rw [hT]; exact hc1)
    (fun _ h => by cases h) (fun _ h => by cases h) (fun h => by cases h) (fun h => by cases h) hk0 hk1 hkk0 hkk1 (by simp [refKind]) h1 h2 h3
    (by rw [nn sp h1, nn n h3]; show ¬ _ > ((arrV (cA 0) ns (fun j => .int (f j))).slots.size : Int); rw [arrV_size]; omega)
    (by rw [nn dp h2, nn n h3]; show ¬ _ > ((arrV (cA 0) nd (fun j => .int (g j))).slots.size : Int); rw [arrV_size]; omega)
    (fun vm₁ _ i hi => by
      have e : (vp_cell (cA 0) (ns, .inl f)).slots.getD (sp.toNatClampNeg + i) .null = .int (f (sp.toNatClampNeg + i)) := by
        show (arrV (cA 0) ns (fun j => .int (f j))).slots.getD _ _ = _
        rw [Array.getD_eq_getD_getElem?, arrV_read _ _ (by omega)]
        rfl
      rw [e]
      exact ⟨rfl, trivial⟩)
    (g := F0 m pc ls (.int n :: .int dp :: .ref (ax_am n0 b kd) :: .int sp :: .ref (ax_am n0 b ks) :: S.map (ax_v n0 b))) rfl hml (rest := S.map (ax_v n0 b)) rfl (by rw [hb]; exact hd) hframes (by
      have e : ((S.map (ax_v n0 b)).map fun v => v.category).sum = ax_cat S := by unfold ax_cat; rw [List.map_map]; congr 1; apply List.map_congr_left; intro v _; exact ax_v_cat n0 b v
      show 2 * 0 + ((S.map (ax_v n0 b)).map fun v => v.category).sum + (nativeFrameWords "java/lang/System" "arraycopy" 5 + 11) ≤ _
      rw [e]
      have : nativeFrameWords "java/lang/System" "arraycopy" 5 + 11 ≤ 60 := by decide
      omega)
  have e1 : copied (vp_cell (cA 0) (ns, .inl f)) (vp_cell (cA 0) (nd, .inl g)) sp dp n = vp_cell (cA 0) (nd, .inl (va_cpy f g sp.toNatClampNeg dp.toNatClampNeg n.toNatClampNeg)) := va_copied (fun z => .int z) (cA 0) (cA 0) f g h4
  rw [e1] at X' step
  have hl : ax_am n0 b kd < H.size := (Array.getElem?_eq_some_iff.mp hc1).1
  have hheap : ((T.setVm vm').setCell (ax_am n0 b kd) (vp_cell (cA 0) (nd, .inl (va_cpy f g sp.toNatClampNeg dp.toNatClampNeg n.toNatClampNeg)))).heap = H.setIfInBounds (ax_am n0 b kd) (vp_cell (cA 0) (nd, .inl (va_cpy f g sp.toNatClampNeg dp.toNatClampNeg n.toNatClampNeg))) := by rw [← hT]; rfl
  have oq : ∀ q : Nat, q ≠ ax_am n0 b kd → (H.setIfInBounds (ax_am n0 b kd) (vp_cell (cA 0) (nd, .inl (va_cpy f g sp.toNatClampNeg dp.toNatClampNeg n.toNatClampNeg))))[q]? = H[q]? := fun q hq => by simp [Array.getElem?_setIfInBounds, Ne.symm hq]
  have hA : ax_A n0 (ax_am n0 b kd) := by rw [ax_am_pos hkd]; show n0 ≤ _; omega
  have P1 : ∀ locs1 : List Loc, (∀ q ∈ locs1, ax_A n0 q.base) → ax_Pt s c n0 b D cA z h0 L (ax_set h kd (.inl (0, nd, .inl (va_cpy f g sp.toNatClampNeg dp.toNatClampNeg n.toNatClampNeg)))) (H.setIfInBounds (ax_am n0 b kd) (vp_cell (cA 0) (nd, .inl (va_cpy f g sp.toNatClampNeg dp.toNatClampNeg n.toNatClampNeg)))) locs1 ls := by
    intro locs1 hlo
    refine ⟨P.1.set hkd hkl (by simp) oq (show (H.setIfInBounds _ _)[_]? = some _ by simp [Array.getElem?_setIfInBounds, hl]; rfl), ⟨by simp; exact P.2.1.1, fun q g1 g2 => ?_, hlo⟩, P.2.2.1, P.2.2.2.1, ?_, P.2.2.2.2.2.1, P.2.2.2.2.2.2⟩
    · rw [oq q (fun e => g2 (by rw [e]; exact hA))]
      exact P.2.1.2.1 q g1 g2
    · show va_up h.2.2 kd _ 0 = z
      rw [va_up_ne _ _ (fun e => hkd e.symm)]
      exact P.2.2.2.2.1
  obtain ⟨t, a1, b1⟩ := kk _ _ (P1 _ (fun q hq => (List.mem_append.mp hq).elim (fun h => P.2.1.2.2 q h) (fun h => by
        obtain ⟨w, -, hw⟩ := List.mem_map.mp h
        rw [← hw]
        exact hA))) _ hheap X'
  exact ⟨t, step t a1, b1⟩
end AXM
