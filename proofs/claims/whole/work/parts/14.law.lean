-- ===== end of PART A; then your names; then what follows =====
/-! THE CLAIM OUT OF ONE WALK OF THE LAW'S BODY. Your part is whole_start (and what it stands on); all else here is the same for every law, but numbers. -/
def R_law : String := "GivenSearchLaw"
def lw_P (b : Addr) (xs : List Int32) (args : Array Value) (s : State) : Prop := args = #[.ref b] ∧ s.IntsAt b xs ∧ xs.length ≤ 3072 ∧ (Jvm.Cond.and given_1 narrow_1).before args s = true
def lw_Q (_ : Array Value) (s : State) (o : Outcome) (t : State) : Prop := o = .returned (some (.int 1)) ∧ Framed s o t [] 600000 7302250
def lw_Z (below : List Frame) (a : Array Value) (s : State) : State → Prop := fun t => ∃ o, t.status = .running ∧ Ended t below o ∧ lw_Q a s o t
/-- the law's own end, with 1 on the stack, nothing written that was there before, its room as the claim has it -/
theorem lw_ret {p : Program} {l : Launch} {e : Env} {s : State} {m : MethodId} {below : List Frame} {meth : Method} {c : Code} {b : Nat} (hx : p.tables.exec = Jvm.exec) (hb : c.code = code) (hr : meth.sig.returnType = ret) (hlocks : meth.locks = false) {pc : Nat} {H : Heap} {ls : Array Slot} (hdg : decode code pc = .ok (.ireturn, 1)) : W p l e room_1 s m #[Value.ref b] below meth c H [] 600000 7302250 (lw_Z below #[Value.ref b] s) (F0 m pc ls [.int 1]) := by
  intro T hT X
  obtain ⟨fs, hret, hrun, hended, hW, hframe⟩ := X.leave (v := some (.int 1)) (hlocks := hlocks) (fun h => by rw [hr] at h; cases h)
  have hmeth' : T.vm.method? m = some meth := X.method'
  refine ⟨T.setFrames fs, ?_, .returned (some (.int 1)), hrun, hended, rfl, ⟨_, rfl⟩, hW, hframe⟩
  jvm_step X.here [X.here.top, hx, hb, hdg, hmeth', hr, ret, narrow_b1]
  (try refine ⟨rfl, ?_⟩); (try refine ⟨rfl, ?_⟩)
  first | (intro acts; rw [hret _ acts rfl rfl rfl]) | rw [hret _ _ rfl rfl rfl]
  exact Steps.refl _
/-- what holds at the law's entry: the machine, the code, the tables' words (any of lw_tbl by 'hts w (by decide +kernel)'), the script of L ints xs at the cell b, what the Statement gives of the start (any of its parts by flat_of_before) -/
def lw_At (p : Program) (s : State) (m : MethodId) (meth : Method) (c : Code) (b L : Nat) (xs : Nat → Int32) : Prop :=
  p.tables.exec = Jvm.exec ∧ c.code = code ∧ meth.sig.returnType = ret ∧ c.maxLocals = 4 ∧ s.vm.findClass R_law = some m.cls ∧ (∀ w ∈ lw_tbl, w.before #[Value.ref b] s = true) ∧ va_X b L xs s s.heap ∧ b < s.heap.size ∧ meth.locks = false ∧ (Jvm.Cond.and given_1 narrow_1).before #[Value.ref b] s = true

def ax_h0 (L : Nat) (xs : Nat → Int32) : ax_H := (1, 0, fun k => if k = 0 then .inl (0, L, .inl xs) else ax_no)
theorem ax_arrCls {ws : List Cond} {s : State} {args : Array Value} {ty : FieldType} (h : (Cond.arrayClass ty).before args s = true) (hty : ∀ C, ty ≠ .object C) : ∃ cB : ClassId, ArrOfT s cB ty ∧ va_RA s cB ty := by
  obtain ⟨cB, k, comp, h1, h2, h3⟩ := Cond.arrayClass_spec h
  refine ⟨cB, fun n z => ⟨(fun k h => (by cases h)), k, h2, comp, h3⟩, ?_⟩
  cases ty with
  | object C => exact absurd rfl (hty C)
  | _ => exact h1
theorem ax_arrObj {s : State} {args : Array Value} {C : String} (h : (Cond.arrayOver (.object C)).before args s = true) : ∃ cB : ClassId, ArrOfT s cB (.object C) ∧ va_RA s cB (.object C) := by
  obtain ⟨comp, cB, k, h1, h2, h3, h4, h5⟩ := Cond.arrayOver_spec h
  exact ⟨cB, fun n z => ⟨(fun k h => (by cases h)), k, h3, comp, h4⟩, k, comp, h3, h4, h1, h5⟩
theorem ax_start_K {s : State} {args : Array Value} (hts : ∀ w ∈ lw_tbl, w.before args s = true) : ∃ (D : va_G) (cA : Nat → ClassId), ax_K D cA s := by
  have hG : ∀ w ∈ ax_G, w.before args s = true := fun w hw => hts w (List.mem_filter.mp hw).1
  have hk : ∀ ci : Nat, ∃ (cC : ClassId) (iS : Nat → Nat), ∀ q : vw_C, ax_cl[ci]? = some q → u_Kn s q.1 q.2.1 q.2.2 cC iS := by
    intro ci
    cases h : ax_cl[ci]? with
    | none => exact ⟨0, fun _ => 0, fun q hq => by cases hq⟩
    | some q =>
      obtain ⟨hin, hty, hinst⟩ := ax_cl_F h
      obtain ⟨cC, iS, hh⟩ := u_known (C := q.1) (T := q.2.1) (N := q.2.2) (n := q.2.2) hG hin (hG _ hinst)
      exact ⟨cC, iS, fun q' hq' => by cases hq'; exact hh⟩
  obtain ⟨c0, h0⟩ := ax_arrCls (ws := ax_G) (hG _ ax_aw_int) (fun C h => by cases h)
  obtain ⟨c1, h1⟩ := ax_arrCls (ws := ax_G) (hG _ ax_aw_byte) (fun C h => by cases h)
  obtain ⟨c2, h2⟩ := ax_arrCls (ws := ax_G) (hG _ ax_aw_boolean) (fun C h => by cases h)
  obtain ⟨c3, h3⟩ := ax_arrCls (ws := ax_G) (hG _ ax_aw_long) (fun C h => by cases h)
  obtain ⟨c4, h4⟩ := ax_arrObj (hts _ ax_ao)
  refine ⟨(fun ci => Classical.choose (hk ci), fun ci => Classical.choose (Classical.choose_spec (hk ci))), fun t => if t = 0 then c0 else if t = 1 then c1 else if t = 2 then c2 else if t = 3 then c3 else c4, ⟨fun ci q hq => Classical.choose_spec (Classical.choose_spec (hk ci)) q hq, fun k q hq => ?_⟩, va_AO.of (va_AO.of (hts _ ax_ao)), fun r hr z hz hkind => ?_⟩
  · match k, hq with
    | 0, hq => cases hq; exact h0
    | 1, hq => cases hq; exact h1
    | 2, hq => cases hq; exact h2
    | 3, hq => cases hq; exact h3
    | 4, hq => cases hq; exact h4
    | k + 5, hq => simp [ax_tys] at hq
  · obtain ⟨r1, r2, r3, r4, r5, r6⟩ := r
    have hb := List.all_eq_true.mp ax_MR_ok _ hr
    unfold ax_MRb at hb
    dsimp only at hb hz hkind ⊢
    rw [hz] at hb
    obtain ⟨mt, cd⟩ := z
    dsimp only at hb ⊢
    rcases hkind with rfl | rfl <;> simp only [Bool.and_eq_true, decide_eq_true_eq] at hb
    · exact va_Nw.of rfl (hts _ (List.mem_append_right _ (List.mem_of_getElem? hb.1.1.1)))
    · exact va_Nw.of rfl (hts _ (List.mem_append_right _ (List.mem_of_getElem? hb.1)))
/-- the law out of its run in the machine -/
theorem ax_law {p : Program} {e : Env} {s : State} {m : MethodId} {below : List Frame} {meth : Method} {c : Code} (l : Launch) {b L : Nat} {xs : Nat → Int32} (C0 : lw_At p s m meth c b L xs) {n : Nat} {h' : ax_H} (hrun : ax_run n room_1.frames room_1.locals ax_cL (some .boolean) 0 (ax_ent 4 [.ref 0]) [] (ax_h0 L xs) = some (some (.int 1), h')) (hc : h'.1 ≤ 600000 + 1) (hs : h'.2.1 ≤ 7302250) : W p l e room_1 s m #[Value.ref b] below meth c s.heap [] 0 0 (lw_Z below #[Value.ref b] s) (entryFrame m ([Value.ref b] : List Value).toArray 4) := by
  obtain ⟨hx, hb, hr, hml, hown, hts, hX, hbl, hlocks, hgv⟩ := id C0
  obtain ⟨D, cA, hK⟩ := ax_start_K hts
  have hG : ∀ w ∈ ax_G, w.before #[Value.ref b] s = true := fun w hw => hts w (List.mem_filter.mp hw).1
  have C : ax_Cx p room_1 s m #[Value.ref b] meth c 16 false code s.heap.size b D cA (.inl (0, L, .inl xs)) (ax_h0 L xs) h' :=
    ⟨hx, hb, hown, hG, (fun q => by cases q), hK, (fun _ => ⟨rfl, hbl, xs, rfl, hX⟩), rfl, Nat.le_refl _, (by show h'.1 - 1 ≤ 600000; omega), (by show h'.2.1 - 0 ≤ 7302250; omega)⟩
  have hsl : (ax_sl [Value.ref 0]).length ≤ 4 := by decide
  have hlr := ax_ent_lr (n0 := s.heap.size) (b := b) hsl
  rw [lg_entry_eq]
  have P : ax_Pt s c s.heap.size b D cA (.inl (0, L, .inl xs)) (ax_h0 L xs) (ax_ent 4 [.ref 0]) (ax_h0 L xs) s.heap [] ((lg_sl ([Value.ref 0].map (ax_v s.heap.size b)) ++ List.replicate (4 - (lg_sl ([Value.ref 0].map (ax_v s.heap.size b))).length) Slot.unset).toArray) := by
    refine ⟨⟨rfl, Nat.le_refl _, fun k h1 h2 => ?_, fun k hk => ?_⟩, va_S.rf, hlr, by rw [ax_ent_len hsl]; exact hml, rfl, Nat.le_refl _, Nat.le_refl _⟩
    · have : k < 1 := h2
      omega
    · show (if k = 0 then _ else ax_no) = ax_no
      have : 1 ≤ k := hk
      rw [if_neg (by omega)]
  have G := ax_walk (p := p) (l := l) (ev := e) (R := room_1) (below := below) (Q := lw_Z below #[Value.ref b] s) n (fun k _ => ax_Mets_all l s.heap.size b D cA _ k) hrun ax_cL_ok C P (fun e1 S1 L1 H1 locs1 ls1 hc1 hok hret P1 => by
    obtain ⟨pc, ins, len, a, k, cx⟩ := e1
    unfold ax_ok at hok
    simp only [Bool.and_eq_true] at hok
    obtain ⟨⟨hd0, hlen⟩, -⟩ := hok
    have hd : decode code pc = .ok (ins, len) := of_decide_eq_true hd0
    unfold ax_ret at hret
    dsimp only at hret
    split at hret
    · have hl1 : len = 1 := eq_of_beq hlen
      subst hl1
      split at hret
      · cases hret
        refine va_forget P1.2.1.2.2 ?_
        refine W.widen (k := 600000) (n := 7302250) (by show h'.1 - 1 ≤ _; omega) (by show h'.2.1 - 0 ≤ _; omega) ?_
        exact lw_ret hx hb hr hlocks hd
      · cases hret
    all_goals first
      | (cases hret; done)
      | (split at hret <;> cases hret))
  unfold ax_g at G
  simp only [Nat.sub_self] at G
  exact G
