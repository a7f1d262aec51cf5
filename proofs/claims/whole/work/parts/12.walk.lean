/-! Calls, and the whole walk. -/
section AXW
variable {p : Program} {l : Launch} {ev : Env} {R : Room} {s : State} {m : MethodId} {args : Array Value} {below : List Frame} {meth : Method} {c : Code} {Q : State → Prop}
variable {o : Nat} {ini : Bool} {bs : ByteArray} {n0 b : Nat} {D : va_G} {cA : Nat → ClassId} {z : ax_E} {h0 h9 h : ax_H} {L : ax_L} {S : List Value} {H : Heap} {locs : List Loc} {ls : Array Slot} {pc : Nat}
theorem ax_MRc {r : Nat × Nat × Nat × Nat × Nat × String} {mt : ax_Mt} {cd : List ax_En} (h : ax_MRb r = true) (hz : ax_Z[r.2.2.1]? = some (mt, cd)) :
    (r.2.2.2.1 = 0 → tables_1[r.2.2.2.2.1]? = some (Cond.methodLink (ax_own r.1) r.2.1 mt.2.1) ∧ mt.2.2.2.2.2.2.1 = false ∧ lw_tbl[mt.2.2.2.2.2.2.2.2.2]? = some (Cond.selects mt.2.1.cls mt.2.1 mt.2.1)) ∧
    (r.2.2.2.1 = 1 → tables_1[r.2.2.2.2.1]? = some (Cond.methodLink (ax_own r.1) r.2.1 mt.2.1) ∧ mt.2.2.2.2.2.2.1 = true) ∧
    (r.2.2.2.1 = 2 → tables_1[r.2.2.2.2.1]? = some (Cond.methodLink (ax_own r.1) r.2.1 mt.2.1) ∧ mt.2.2.2.2.2.2.1 = false ∧ mt.2.1.name = "<init>" ∧ mt.2.2.2.2.1 = none) ∧
    (r.2.2.2.1 = 4 → mt.2.2.2.2.2.2.1 = false ∧ mt.2.1.name = "<init>" ∧ mt.2.2.2.2.1 = none) ∧
    (r.2.2.2.1 = 5 → mt.2.2.2.2.2.2.1 = true) := by
  obtain ⟨r1, r2, r3, r4, r5, r6⟩ := r
  unfold ax_MRb at h
  dsimp only at h hz ⊢
  rw [hz] at h
  dsimp only at h
  refine ⟨fun e => ?_, fun e => ?_, fun e => ?_, fun e => ?_, fun e => ?_⟩ <;> subst e <;> simp only [Bool.and_eq_true, Bool.not_eq_true', decide_eq_true_eq] at h
  · exact ⟨h.1.1, h.1.2, h.2⟩
  · exact h
  · exact ⟨h.1.1.1, h.1.1.2, h.1.2, h.2⟩
  · exact ⟨h.1.1.2, h.1.2, h.2⟩
  · exact h.2
set_option maxHeartbeats 4000000 in
theorem ax_call_ok {n : Nat} {e : ax_En} {mt : ax_Mt} {cd1 : List ax_En} {as rest : List Value} {r : Option Value} {h1 : ax_H} (hM : ax_Mets l n0 b D cA z n) (C : ax_Cx p R s m args meth c o ini bs n0 b D cA z h0 h9) (hctl : ax_ctl e = 1) (hok : ax_ok o ini bs e = true) (hz : ax_Z[e.2.2.2.1]? = some (mt, cd1))
    (hS : S = as.reverse ++ rest) (hlen : as.length = ax_na mt) (hrc : ax_rc mt e.2.2.2.2.1 as h = true) (hcat : ax_cat rest ≤ 8) (hfr : 1 ≤ R.frames) (hlo : 8 + (mt.2.2.2.1 + 11) ≤ R.locals) (hsl : (ax_sl as).length ≤ mt.2.2.2.1)
    (hrun : ax_run n (R.frames - 1) (R.locals - (8 + (mt.2.2.2.1 + 11))) cd1 mt.2.2.2.2.1 0 (ax_ent mt.2.2.2.1 as) [] h = some (r, h1)) (h9a : h1.1 ≤ h9.1) (h9b : h1.2.1 ≤ h9.2.1) (P : ax_Pt s c n0 b D cA z h0 L h H locs ls)
    (kk : ∀ H1 locs1, ax_Pt s c n0 b D cA z h0 L h1 H1 locs1 ls → ax_g p l ev R s m args below meth c Q n0 b h0 (e.1 + 3) (r.toList ++ rest) h1 H1 locs1 ls) : ax_g p l ev R s m args below meth c Q n0 b h0 e.1 S h H locs ls := by
  obtain ⟨pc, ins, len, a, kd, cx⟩ := e
  unfold ax_ok at hok
  simp only [Bool.and_eq_true] at hok
  obtain ⟨⟨hd0, hlen3⟩, hI⟩ := hok
  have hd : decode bs pc = .ok (ins, len) := of_decide_eq_true hd0
  clear hd0
  dsimp only at hz hrc kk
  have hMet := hM _ mt cd1 hz _ _ as h r h1 hrun hsl
  have hmono := ax_run_mono n hrun
  obtain ⟨hx, hb, hown, hts, hini, hK, hXX, hsz, hp1, hR1, hR2⟩ := id C
  have P6 := P.2.2.2.2.2.1
  have P7 := P.2.2.2.2.2.2
  obtain ⟨u1, u0, u2, u3, u4, u5, u6⟩ := ax_Z_use hz
  have hlsz : ls.size = c.maxLocals := by rw [P.2.2.2.1]; exact P.2.2.1.1
  have hcat2 : ((rest.map (ax_v n0 b)).map fun v => v.category).sum ≤ 8 := by rw [ax_cat_v]; exact hcat
  have hf : h.1 - h0.1 + (h1.1 - h.1) ≤ R.cells ∧ h.2.1 - h0.2.1 + (h1.2.1 - h.2.1) ≤ R.slots := by omega
  have hR : R.frames - 1 + 1 ≤ R.frames ∧ 8 + (mt.2.2.2.1 + 11) + (R.locals - (8 + (mt.2.2.2.1 + 11))) ≤ R.locals := by omega
  have hmap : S.map (ax_v n0 b) = (as.map (ax_v n0 b)).reverse ++ rest.map (ax_v n0 b) := by rw [hS, List.map_append, List.map_reverse]
  have hpre := ax_pre (as := as) C P
  have hrecv : ¬ (kd = 1 ∨ kd = 5) → ∃ q as1, as = .ref q :: as1 ∧ ∃ cellB : Cell, H[ax_am n0 b q]? = some cellB ∧ cellB.vm.isStatics = false ∧ s.vm.findClass mt.2.1.cls = some cellB.cls := by
    intro hkd
    unfold ax_rc at hrc
    rw [if_neg hkd] at hrc
    split at hrc
    · rename_i q as1
      split at hrc
      · rename_i ci f hq
        have hci : ci = mt.1 := of_decide_eq_true hrc
        obtain ⟨-, -, hat⟩ := ax_obj C P hq
        obtain ⟨rc, hcl, -⟩ := id hat
        refine ⟨q, as1, rfl, ?_⟩
        have := va_recv hK.1 (ax_P1 hat) hcl (q0 := 0) rfl
        rw [u1, ← hci, ← (ax_cl_own hcl).1]
        exact this
      · cases hrc
    · cases hrc
  unfold ax_g
  rw [hmap]
  cases ins
  case invokevirtual idx =>
    have hl1 : len = 3 := eq_of_beq hlen3
    subst hl1
    have hI1 := (Bool.and_eq_true _ _).mp hI
    have hk0 : kd = 0 := eq_of_beq hI1.2
    obtain ⟨rr, hrr, r1, r2, r3, r4, hrb⟩ := ax_okM_use hI1.1
    dsimp only at r3 r4
    rw [← r3] at hz
    obtain ⟨w1, w2, w3⟩ := (ax_MRc hrb hz).1 (r4.trans hk0)
    rw [r1, r2] at w1
    rw [r3] at hz
    obtain ⟨q, as1, rfl, hcell⟩ := hrecv (by omega)
    have hn1 : as1.length = mt.2.2.2.2.2.1 := by
      unfold ax_na at hlen
      rw [w2] at hlen
      simp at hlen
      exact hlen
    rw [w2] at u4
    refine ax_after C P hmono (va_runV (As := as1.map (ax_v n0 b)) (rest := rest.map (ax_v n0 b)) ⟨hx, hb, rfl, hown, hts⟩ hMet ⟨ax_callB C hz rfl rfl (hts _ (ax_tin w1 rfl)) hR, hts _ u4, hts _ (ax_Gin (List.mem_of_getElem? w3) rfl)⟩ ⟨ax_blind, hcell, hpre⟩ rfl (by simpa using hn1) hlsz (by simp [ax_v]) (lv_room hcat2) hd hf) kk
  case invokestatic idx =>
    have hl1 : len = 3 := eq_of_beq hlen3
    subst hl1
    have hI1 := (Bool.and_eq_true _ _).mp hI
    have hk6 : ¬ 6 ≤ kd := by
      intro w
      have : ax_ctl (pc, Instr.invokestatic idx, 3, a, kd, cx) = 3 := by show (if 6 ≤ kd then 3 else 1) = 3; rw [if_pos w]
      omega
    obtain ⟨rr, hrr, r1, r2, r3, r4, hrb⟩ := ax_okM_use hI1.1
    dsimp only at r3 r4
    have h15 : kd = 1 ∨ kd = 5 := by
      have h2 := hI1.2
      simp only [Bool.or_eq_true, beq_iff_eq] at h2
      omega
    rw [← r3] at hz
    rcases h15 with hk | hk
    · obtain ⟨w1, w2⟩ := (ax_MRc hrb hz).2.1 (r4.trans hk)
      rw [r1, r2] at w1
      rw [r3] at hz
      rw [w2] at u4
      have hn1 : as.length = mt.2.2.2.2.2.1 := by unfold ax_na at hlen; rw [w2] at hlen; simpa using hlen
      refine ax_after C P hmono (va_runS (As := as.map (ax_v n0 b)) (rest := rest.map (ax_v n0 b)) ⟨hx, hb, rfl, hown, hts⟩ hMet ⟨ax_callB C hz rfl rfl (hts _ (ax_tin w1 rfl)) hR, hts _ u4⟩ ⟨ax_blind, hpre⟩ rfl (by simpa using hn1) hlsz rfl (lv_room hcat2) hd hf) kk
    · have w2 := (ax_MRc hrb hz).2.2.2.2 (r4.trans hk)
      have hnw := hK.2.2 rr hrr (mt, cd1) hz (Or.inr (r4.trans hk))
      rw [r1, r2] at hnw
      rw [r3] at hz
      rw [w2] at u4
      have hn1 : as.length = mt.2.2.2.2.2.1 := by unfold ax_na at hlen; rw [w2] at hlen; simpa using hlen
      refine ax_after C P hmono (va_runSN (As := as.map (ax_v n0 b)) (rest := rest.map (ax_v n0 b)) ⟨hx, hb, rfl, hown, hts⟩ hMet ⟨ax_callN C hz rfl rfl hnw hR, hts _ u4, trivial⟩ ⟨ax_blind, hpre⟩ rfl (by simpa using hn1) hlsz rfl (lv_room hcat2) hd hf) kk
  case invokespecial idx =>
    have hl1 : len = 3 := eq_of_beq hlen3
    subst hl1
    have hI1 := (Bool.and_eq_true _ _).mp hI
    have hk3 : ¬ kd = 3 := by
      intro w
      have : ax_ctl (pc, Instr.invokespecial idx, 3, a, kd, cx) = 3 := by show (if kd = 3 then 3 else 1) = 3; rw [if_pos w]
      omega
    obtain ⟨rr, hrr, r1, r2, r3, r4, hrb⟩ := ax_okM_use hI1.1
    dsimp only at r3 r4
    have h15 : kd = 2 ∨ kd = 4 := by
      have h2 := hI1.2
      simp only [Bool.or_eq_true, beq_iff_eq] at h2
      omega
    obtain ⟨q, as1, rfl, hcell⟩ := hrecv (by omega)
    rw [← r3] at hz
    rcases h15 with hk | hk
    · obtain ⟨w1, w2, w3, w4⟩ := (ax_MRc hrb hz).2.2.1 (r4.trans hk)
      rw [r1, r2] at w1
      rw [r3] at hz
      rw [w2] at u4
      have hn1 : as1.length = mt.2.2.2.2.2.1 := by
        unfold ax_na at hlen
        rw [w2] at hlen
        simp at hlen
        exact hlen
      have cb := ax_callB C hz (rm := { frames := R.frames - 1, cells := h1.1 - h.1, slots := h1.2.1 - h.2.1, locals := R.locals - (8 + (mt.2.2.2.1 + 11)) }) rfl rfl (hts _ (ax_tin w1 rfl)) hR
      rw [w4] at cb
      refine ax_after C P hmono (va_runI (As := as1.map (ax_v n0 b)) (rest := rest.map (ax_v n0 b)) ⟨hx, hb, rfl, hown, hts⟩ hMet ⟨cb, w3, hts _ u4⟩ ⟨ax_blind, hpre⟩ rfl (by simpa using hn1) hlsz (by simp [ax_v]) (lv_room hcat2) hd hf) kk
    · obtain ⟨w2, w3, w4⟩ := (ax_MRc hrb hz).2.2.2.1 (r4.trans hk)
      have hnw := hK.2.2 rr hrr (mt, cd1) hz (Or.inl (r4.trans hk))
      rw [r1, r2] at hnw
      rw [r3] at hz
      rw [w2] at u4
      have hn1 : as1.length = mt.2.2.2.2.2.1 := by
        unfold ax_na at hlen
        rw [w2] at hlen
        simp at hlen
        exact hlen
      have cb := ax_callN C hz (rm := { frames := R.frames - 1, cells := h1.1 - h.1, slots := h1.2.1 - h.2.1, locals := R.locals - (8 + (mt.2.2.2.1 + 11)) }) rfl rfl hnw hR
      rw [w4] at cb
      refine ax_after C P hmono (va_runIN (As := as1.map (ax_v n0 b)) (rest := rest.map (ax_v n0 b)) ⟨hx, hb, rfl, hown, hts⟩ hMet ⟨cb, w3, hts _ u4⟩ ⟨ax_blind, hpre⟩ rfl (by simpa using hn1) hlsz (by simp [ax_v]) (lv_room hcat2) hd hf) kk
  all_goals first
    | exact nomatch (show (2 : Nat) = 1 from hctl)
    | exact nomatch (show (0 : Nat) = 1 from hctl)
end AXW
