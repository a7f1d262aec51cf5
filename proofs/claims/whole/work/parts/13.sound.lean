/-! Every method whose run ends has its contract. -/
theorem ax_fd_use : ∀ {cd : List ax_En} {pc : Nat} {e : ax_En}, ax_fd cd pc = some e → e ∈ cd ∧ e.1 = pc := by
  intro cd
  induction cd with
  | nil => intro pc e h; cases h
  | cons a cd ih =>
    intro pc e h
    unfold ax_fd at h
    split at h
    · rename_i q
      cases h
      exact ⟨List.mem_cons_self, q⟩
    · exact ⟨List.mem_cons_of_mem _ (ih h).1, (ih h).2⟩
theorem ax_sl_at (n0 b : Nat) : ∀ (as : List Value), (lg_sl (as.map (ax_v n0 b))).length = (ax_sl as).length ∧ ∀ (i : Nat) (v : Value), (ax_sl as)[i]? = some (some v) → (lg_sl (as.map (ax_v n0 b)))[i]? = some (.val (ax_v n0 b v)) := by
  intro as
  induction as with
  | nil => exact ⟨rfl, fun i v h => by simp [ax_sl] at h⟩
  | cons a as ih =>
    have e1 : lg_sl ((a :: as).map (ax_v n0 b)) = (if a.category = 2 then [.val (ax_v n0 b a), .second] else [.val (ax_v n0 b a)]) ++ lg_sl (as.map (ax_v n0 b)) := by
      simp only [lg_sl, List.map_cons, List.flatMap_cons, ax_v_cat]
    rw [e1]
    unfold ax_sl
    by_cases hc : a.category = 2
    · rw [if_pos hc, if_pos hc]
      refine ⟨by simp [ih.1], fun i v h => ?_⟩
      match i, h with
      | 0, h => simp at h; subst h; rfl
      | 1, h => simp at h
      | i + 2, h => exact ih.2 i v (by simpa using h)
    · rw [if_neg hc, if_neg hc]
      refine ⟨by simp [ih.1], fun i v h => ?_⟩
      match i, h with
      | 0, h => simp at h; subst h; rfl
      | i + 1, h => exact ih.2 i v (by simpa using h)
theorem ax_ent_len {n : Nat} {as : List Value} (h : (ax_sl as).length ≤ n) : (ax_ent n as).length = n := by
  unfold ax_ent
  simp
  omega
theorem ax_ent_lr {n0 b n : Nat} {as : List Value} (h : (ax_sl as).length ≤ n) : ax_lr n0 b ((lg_sl (as.map (ax_v n0 b)) ++ List.replicate (n - (lg_sl (as.map (ax_v n0 b))).length) Slot.unset).toArray) (ax_ent n as) := by
  obtain ⟨h1, h2⟩ := ax_sl_at n0 b as
  have h3 := lv_entry (as.map (ax_v n0 b)) (n := n) (by omega)
  refine ⟨by rw [h3.1, ax_ent_len h], h3.2.1, fun i v hi => ?_⟩
  unfold ax_ent at hi
  rw [List.getElem?_append] at hi
  split at hi
  · rename_i hl
    show (lg_sl (as.map (ax_v n0 b)) ++ List.replicate (n - (lg_sl (as.map (ax_v n0 b))).length) Slot.unset).toArray[i]? = _
    rw [List.getElem?_toArray, List.getElem?_append_left (by omega)]
    exact h2 i v hi
  · rw [List.getElem?_replicate] at hi
    split at hi <;> simp at hi
section AXV
variable {p : Program} {l : Launch} {ev : Env} {R : Room} {s : State} {m : MethodId} {args : Array Value} {below : List Frame} {meth : Method} {c : Code} {Q : State → Prop}
variable {o : Nat} {ini : Bool} {bs : ByteArray} {n0 b : Nat} {D : va_G} {cA : Nat → ClassId} {z : ax_E} {h0 : ax_H}
theorem ax_walk : ∀ (n : Nat), (∀ k, k < n → ax_Mets l n0 b D cA z k) → ∀ {cd : List ax_En} {rt : Option FieldType} {pc : Nat} {L : ax_L} {S : List Value} {h : ax_H} {r : Option Value} {h' : ax_H} {H : Heap} {locs : List Loc} {ls : Array Slot}, ax_run n R.frames R.locals cd rt pc L S h = some (r, h') → cd.all (ax_ok o ini bs) = true → ax_Cx p R s m args meth c o ini bs n0 b D cA z h0 h' → ax_Pt s c n0 b D cA z h0 L h H locs ls →
    (∀ (e : ax_En) (S1 : List Value) (L1 : ax_L) (H1 : Heap) (locs1 : List Loc) (ls1 : Array Slot), ax_ctl e = 0 → ax_ok o ini bs e = true → ax_ret rt e S1 h' = some (r, h') → ax_Pt s c n0 b D cA z h0 L1 h' H1 locs1 ls1 → ax_g p l ev R s m args below meth c Q n0 b h0 e.1 S1 h' H1 locs1 ls1) → ax_g p l ev R s m args below meth c Q n0 b h0 pc S h H locs ls := by
  intro n
  induction n with
  | zero => intro hM cd rt pc L S h r h' H locs ls hr; cases hr
  | succ n ih =>
    intro hM cd rt pc L S h r h' H locs ls hr hcd C P kk
    have hM' : ∀ k, k < n → ax_Mets l n0 b D cA z k := fun k hk => hM k (Nat.lt_succ_of_lt hk)
    unfold ax_run at hr
    split at hr
    · cases hr
    · rename_i e he
      obtain ⟨hmem, rfl⟩ := ax_fd_use he
      have hok := List.all_eq_true.mp hcd e hmem
      split at hr
      · rename_i hc
        have hh := ax_ret_heap hr
        subst hh
        exact kk e S L H locs ls hc hok hr P
      · rename_i hc
        split at hr
        · rename_i mt cd1 hz
          split at hr
          · rename_i hq
            obtain ⟨q1, q2, q3, q4, q5, q6⟩ := hq
            split at hr
            · rename_i r1 h1 hrun
              have m1 := ax_run_mono n hr
              have hS : S = (S.take (ax_na mt)).reverse.reverse ++ S.drop (ax_na mt) := by rw [List.reverse_reverse, List.take_append_drop]
              exact ax_call_ok (hM n (by omega)) C hc hok hz hS (by rw [List.length_reverse]; exact q1) q2 q3 q4 q5 q6 hrun m1.1 m1.2 P (fun H1 locs1 P1 => ih hM' hr hcd C P1 kk)
            · cases hr
          · cases hr
        · cases hr
      · rename_i hc
        split at hr
        · rename_i q hq
          have m1 := ax_run_mono n hr
          exact ax_step_ok C hok (pc' := q.1) (L' := q.2.1) (S' := q.2.2.1) (h' := q.2.2.2) hq m1.1 m1.2 (Or.inl hc) P (fun H1 locs1 ls1 P1 => ih hM' hr hcd C P1 kk)
        · cases hr
      · split at hr
        · rename_i hf
          split at hr
          · rename_i q hq
            have m1 := ax_run_mono n hr
            exact ax_step_ok C hok (pc' := q.1) (L' := q.2.1) (S' := q.2.2.1) (h' := q.2.2.2) hq m1.1 m1.2 (Or.inr hf) P (fun H1 locs1 ls1 P1 => ih hM' hr hcd C P1 kk)
          · cases hr
        · cases hr
/-- a return of a method -/
theorem ax_leave {rt : Option FieldType} {e : ax_En} {S1 : List Value} {L1 : ax_L} {h' : ax_H} {r : Option Value} {H1 : Heap} {locs1 : List Loc} {ls1 : Array Slot} (C : ax_Cx p R s m args meth c o ini bs n0 b D cA z h0 h') (hlocks : meth.locks = false) (hr : meth.sig.returnType = rt) (hok : ax_ok o ini bs e = true) (hret : ax_ret rt e S1 h' = some (r, h')) (P : ax_Pt s c n0 b D cA z h0 L1 h' H1 locs1 ls1) :
    ax_g p l ev R s m args below meth c (MQ below (ax_Qc n0 b D cA z r h') args s (h'.1 - h0.1) (h'.2.1 - h0.2.1) (ax_A n0)) n0 b h0 e.1 S1 h' H1 locs1 ls1 := by
  obtain ⟨pc, ins, len, a, k, cx⟩ := e
  unfold ax_ok at hok
  simp only [Bool.and_eq_true] at hok
  obtain ⟨⟨hd0, hlen⟩, -⟩ := hok
  have hd : decode bs pc = .ok (ins, len) := of_decide_eq_true hd0
  clear hd0
  obtain ⟨hx, hb, -⟩ := id C
  have hB : ∀ t : State, t.heap = H1 → ax_Bp n0 b D cA z h' t := fun t ht => ⟨by rw [ht]; exact P.1, P.2.2.2.2.1⟩
  unfold ax_ret at hret
  dsimp only at hret
  split at hret
  · have hl1 : len = 1 := eq_of_beq hlen
    subst hl1
    split at hret
    · rename_i hq
      cases hret
      have hn : ∃ ty, rt = some ty ∧ ∀ v : Int32, (rt = some .int ∨ (rt = some .boolean ∧ (v = 0 ∨ v = 1))) → narrow ty (.int v) = .int v := by
        rcases hq with q | ⟨q, -⟩
        · exact ⟨_, q, fun v _ => rfl⟩
        · refine ⟨_, q, fun v w => ?_⟩
          rcases w with w | ⟨-, w⟩
          · rw [q] at w; cases w
          · rcases w with rfl | rfl <;> rfl
      obtain ⟨ty, h1, h2⟩ := hn
      exact W.zret hx hb (hr.trans h1) (h2 _ hq) (fun t ht hW => ⟨⟨_, (), rfl, rfl, hB t ht⟩, P.2.1.F ht⟩) P.2.1.2.2 hd hlocks
    · cases hret
  · have hl1 : len = 1 := eq_of_beq hlen
    subst hl1
    split at hret
    · rename_i hq
      cases hret
      exact W.lret hx hb (hr.trans hq) (fun t ht hW => ⟨⟨_, (), rfl, rfl, hB t ht⟩, P.2.1.F ht⟩) P.2.1.2.2 hd hlocks
    · cases hret
  · have hl1 : len = 1 := eq_of_beq hlen
    subst hl1
    split at hret
    · cases hret
      exact W.aret hx hb hr (Or.inr ⟨_, rfl⟩) (Or.inr ⟨_, rfl⟩) (fun t ht hW => ⟨⟨(), _, rfl, trivial, rfl, hB t ht⟩, P.2.1.F ht⟩) P.2.1.2.2 hd hlocks
    · cases hret
      exact W.aret hx hb hr (Or.inl ⟨_, rfl⟩) (Or.inr ⟨_, rfl⟩) (fun t ht hW => ⟨⟨(), _, rfl, trivial, rfl, hB t ht⟩, P.2.1.F ht⟩) P.2.1.2.2 hd hlocks
    · cases hret
  · have hl1 : len = 1 := eq_of_beq hlen
    subst hl1
    split at hret
    · rename_i hq
      cases hret
      exact W.vret hx hb (hr.trans hq) (fun t ht hW => ⟨⟨(), rfl, trivial, hB t ht⟩, P.2.1.F ht⟩) P.2.1.2.2 hd hlocks
    · cases hret
  · cases hret
end AXV
theorem ax_Mets_all (l : Launch) (n0 b : Nat) (D : va_G) (cA : Nat → ClassId) (z : ax_E) : ∀ n : Nat, ax_Mets l n0 b D cA z n := by
  intro n
  induction n using Nat.strongRecOn with
  | _ n ih =>
    intro i mt cd hz fr lo as h r h' hrun hsl
    obtain ⟨u1, u0, u2, u3, u4, u5, u6⟩ := ax_Z_use hz
    refine Met.ofW (cc := mt.2.2.1) (maxL := mt.2.2.2.1) (ret := mt.2.2.2.2.1) u2 rfl ?_
    intro p e s m args below meth c s₁ B hml hv
    obtain ⟨rfl, ⟨hW, hz0⟩, hK, hX⟩ := hv
    have hts := atoms_spec (ws := ax_Ws mt) B.pre
    have C : ax_Cx p (headSpec (ax_Ws mt) ({ frames := fr, cells := h'.1 - h.1, slots := h'.2.1 - h.2.1, locals := lo })).room s m (as.map (ax_v n0 b)).toArray meth c mt.1 (mt.2.1.name == "<init>") mt.2.2.1 n0 b D cA z h h' :=
      ⟨B.exec, B.bytes, by rw [← u1]; exact findClass_of_methodNamed B.named, fun w hw => hts w (List.mem_cons_of_mem _ hw), fun q => (name_of_methodNamed B.named B.method).1.trans (eq_of_beq q), hK, hX, hW.1, hW.2.1, Nat.le_refl _, Nat.le_refl _⟩
    rw [lg_entry_eq]
    have P : ax_Pt s c n0 b D cA z h (ax_ent mt.2.2.2.1 as) h s.heap [] ((lg_sl (as.map (ax_v n0 b)) ++ List.replicate (mt.2.2.2.1 - (lg_sl (as.map (ax_v n0 b))).length) Slot.unset).toArray) :=
      ⟨hW, va_S.rf, ax_ent_lr hsl, by rw [ax_ent_len hsl]; exact hml, hz0, Nat.le_refl _, Nat.le_refl _⟩
    have G := ax_walk (p := p) (l := l) (ev := e) (below := below) (Q := MQ below (ax_Qc n0 b D cA z r h') (as.map (ax_v n0 b)).toArray s (h'.1 - h.1) (h'.2.1 - h.2.1) (ax_A n0)) n ih hrun u6 C P (fun e1 S1 L1 H1 locs1 ls1 hc hok hret P1 => ax_leave C B.notSynchronized B.returns hok hret P1)
    unfold ax_g at G
    simp only [Nat.sub_self] at G
    exact G
