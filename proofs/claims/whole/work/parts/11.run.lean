/-! A run of the machine of 03 is a run of the JVM: contracts of all methods at once. -/
set_option maxHeartbeats 2000000 in
theorem ax_step_mono {e : ax_En} {L : ax_L} {S : List Value} {h : ax_H} {pc' : Nat} {L' : ax_L} {S' : List Value} {h' : ax_H} (hst : ax_step e L S h = some (pc', L', S', h')) : h.1 ≤ h'.1 ∧ h.2.1 ≤ h'.2.1 := by
  obtain ⟨pc, ins, len, a, k, cx⟩ := e
  cases ins
  all_goals first
    | exact nomatch (show (none : Option (Nat × ax_L × List Value × ax_H)) = some (pc', L', S', h') from hst)
    | (unfold ax_step at hst
       dsimp only [ax_ld] at hst
       repeat' (first | (cases hst; done) | (cases hst; first | exact ⟨Nat.le_refl _, Nat.le_refl _⟩ | exact ⟨Nat.le_succ _, Nat.le_add_right _ _⟩) | split at hst))
theorem ax_ret_heap {rt : Option FieldType} {e : ax_En} {S : List Value} {h : ax_H} {r : Option Value} {h' : ax_H} (hr : ax_ret rt e S h = some (r, h')) : h' = h := by
  unfold ax_ret at hr
  repeat' (first | (cases hr; done) | (cases hr; rfl) | split at hr)
theorem ax_run_mono : ∀ (n : Nat) {fr lo : Nat} {cd : List ax_En} {rt : Option FieldType} {pc : Nat} {L : ax_L} {S : List Value} {h : ax_H} {r : Option Value} {h' : ax_H}, ax_run n fr lo cd rt pc L S h = some (r, h') → h.1 ≤ h'.1 ∧ h.2.1 ≤ h'.2.1 := by
  intro n
  induction n with
  | zero => intro fr lo cd rt pc L S h r h' hr; cases hr
  | succ n ih =>
    intro fr lo cd rt pc L S h r h' hr
    unfold ax_run at hr
    split at hr
    · cases hr
    · split at hr
      · rw [ax_ret_heap hr]
        exact ⟨Nat.le_refl _, Nat.le_refl _⟩
      · split at hr
        · split at hr
          · split at hr
            · rename_i q1
              have a1 := ih q1
              have a2 := ih hr
              exact ⟨Nat.le_trans a1.1 a2.1, Nat.le_trans a1.2 a2.2⟩
            · cases hr
          · cases hr
        · cases hr
      · split at hr
        · rename_i q hq
          have a1 := ax_step_mono (pc' := q.1) (L' := q.2.1) (S' := q.2.2.1) (h' := q.2.2.2) hq
          have a2 := ih hr
          exact ⟨Nat.le_trans a1.1 a2.1, Nat.le_trans a1.2 a2.2⟩
        · cases hr
      · split at hr
        · split at hr
          · rename_i q hq
            have a1 := ax_step_mono (pc' := q.1) (L' := q.2.1) (S' := q.2.2.1) (h' := q.2.2.2) hq
            have a2 := ih hr
            exact ⟨Nat.le_trans a1.1 a2.1, Nat.le_trans a1.2 a2.2⟩
          · cases hr
        · cases hr
def ax_Bp (n0 b : Nat) (D : va_G) (cA : Nat → ClassId) (z : ax_E) (h : ax_H) (t : State) : Prop := ax_W n0 b D cA h t.heap ∧ h.2.2 0 = z
def ax_Pc (n0 b : Nat) (D : va_G) (cA : Nat → ClassId) (z : ax_E) (as : List Value) (h : ax_H) : Array Value → State → Prop :=
  va_Pc (as.map (ax_v n0 b)) (fun U => ax_Bp n0 b D cA z h U ∧ ax_K D cA U ∧ ax_X n0 b z U U.heap)
def ax_Qc (n0 b : Nat) (D : va_G) (cA : Nat → ClassId) (z : ax_E) (r : Option Value) (h : ax_H) : Array Value → State → Outcome → State → Prop := match r with
  | none => va_Qv (fun _ : Unit => True) (fun _ t => ax_Bp n0 b D cA z h t) (ax_A n0)
  | some (.int x) => va_Qi (fun y (_ : Unit) => y = x) (fun _ t => ax_Bp n0 b D cA z h t) (ax_A n0)
  | some (.long x) => va_Ql (fun y (_ : Unit) => y = x) (fun _ t => ax_Bp n0 b D cA z h t) (ax_A n0)
  | some (.ref k) => va_Qr (fun _ : Unit => True) (fun _ a t => a = ax_am n0 b k ∧ ax_Bp n0 b D cA z h t) (ax_A n0)
  | _ => fun _ _ _ _ => False
def ax_Ws (mt : ax_Mt) : List Cond := Cond.code mt.2.1 mt.2.2.1 mt.2.2.2.1 mt.2.2.2.2.1 :: ax_G
/-- every method whose run in the machine comes to an end within n: its contract -/
def ax_Mets (l : Launch) (n0 b : Nat) (D : va_G) (cA : Nat → ClassId) (z : ax_E) (n : Nat) : Prop :=
  ∀ (i : Nat) (mt : ax_Mt) (cd : List ax_En), ax_Z[i]? = some (mt, cd) → ∀ (fr lo : Nat) (as : List Value) (h : ax_H) (r : Option Value) (h' : ax_H), ax_run n fr lo cd mt.2.2.2.2.1 0 (ax_ent mt.2.2.2.1 as) [] h = some (r, h') → (ax_sl as).length ≤ mt.2.2.2.1 →
    Met l mt.2.1 (ax_Ws mt) ({ frames := fr, cells := h'.1 - h.1, slots := h'.2.1 - h.2.1, locals := lo }) (ax_Pc n0 b D cA z as h) (ax_Qc n0 b D cA z r h') (h'.1 - h.1) (h'.2.1 - h.2.1) (ax_A n0)
theorem ax_good {w : Cond} (h : w ∈ ax_G) : (w.onTables && w.keeps) = true ∨ ∃ ty, w = .arrayClass ty := good_of_word (List.mem_filter.mp h).2
section AXR
variable {p : Program} {l : Launch} {ev : Env} {R : Room} {s : State} {m : MethodId} {args : Array Value} {below : List Frame} {meth : Method} {c : Code} {Q : State → Prop}
variable {o : Nat} {ini : Bool} {bs : ByteArray} {n0 b : Nat} {D : va_G} {cA : Nat → ClassId} {z : ax_E} {h0 h9 h : ax_H} {L : ax_L} {S : List Value} {H : Heap} {locs : List Loc} {ls : Array Slot} {pc : Nat}
/-- behind a call -/
theorem ax_after {r : Option Value} {h1 : ax_H} {rest : List Value} {st0 : List Value} {av : Array Value} (C : ax_Cx p R s m args meth c o ini bs n0 b D cA z h0 h9) (P : ax_Pt s c n0 b D cA z h0 L h H locs ls) (hm : h.1 ≤ h1.1 ∧ h.2.1 ≤ h1.2.1)
    (hr : va_Run p l ev R s m args below meth c H locs (h.1 - h0.1) (h.2.1 - h0.2.1) (h1.1 - h.1) (h1.2.1 - h.2.1) (F0 m pc ls st0) (rest.map (ax_v n0 b)) (ax_Qc n0 b D cA z r h1 av) (ax_A n0))
    (kk : ∀ H1 locs1, ax_Pt s c n0 b D cA z h0 L h1 H1 locs1 ls → ax_g p l ev R s m args below meth c Q n0 b h0 (pc + 3) (r.toList ++ rest) h1 H1 locs1 ls) : W p l ev R s m args below meth c H locs (h.1 - h0.1) (h.2.1 - h0.2.1) Q (F0 m pc ls st0) := by
  have P6 := P.2.2.2.2.2.1
  have P7 := P.2.2.2.2.2.2
  have e1 : h1.1 - h0.1 = h.1 - h0.1 + (h1.1 - h.1) := by omega
  have e2 : h1.2.1 - h0.2.1 = h.2.1 - h0.2.1 + (h1.2.1 - h.2.1) := by omega
  have pt : ∀ (t : State) (H1 : Heap) (locs1 : List Loc), t.heap = H1 → ax_Bp n0 b D cA z h1 t → va_S (ax_A n0) s.heap H1 locs1 → ax_Pt s c n0 b D cA z h0 L h1 H1 locs1 ls := by
    intro t H1 locs1 ht hB hS
    refine ⟨by rw [← ht]; exact hB.1, hS, P.2.2.1, P.2.2.2.1, hB.2, Nat.le_trans P6 hm.1, Nat.le_trans P7 hm.2⟩
  unfold ax_g at kk
  rw [e1, e2] at kk
  cases r with
  | none => exact va_callv (a := av) hr P.2.1 (fun q _ h => h) (fun q h => h) (fun u t H1 locs1 ht hvm hp hB hz hk hS => kk H1 locs1 (pt t H1 locs1 ht hB hS))
  | some v =>
    cases v with
    | int x => exact va_calli (a := av) hr P.2.1 (fun q _ h => h) (fun q h => h) (fun y u t H1 locs1 ht hvm hp hB hz hk hS => by subst hp; exact kk H1 locs1 (pt t H1 locs1 ht hB hS))
    | long x => exact va_calll (a := av) hr P.2.1 (fun q _ h => h) (fun q h => h) (fun y u t H1 locs1 ht hvm hp hB hz hk hS => by subst hp; exact kk H1 locs1 (pt t H1 locs1 ht hB hS))
    | ref k => exact va_callr (a := av) hr P.2.1 (fun q _ h => h) (fun q h => h) (fun u ra t H1 locs1 ht hvm hp hB hz hk hS => by obtain ⟨e, hB⟩ := hB; subst e; exact kk H1 locs1 (pt t H1 locs1 ht hB hS))
    | float x => intro T hT X; obtain ⟨_, _, _, _, _, _, _, _, _, _, h9, _⟩ := hr T hT X; exact h9.elim
    | double x => intro T hT X; obtain ⟨_, _, _, _, _, _, _, _, _, _, h9, _⟩ := hr T hT X; exact h9.elim
    | null => intro T hT X; obtain ⟨_, _, _, _, _, _, _, _, _, _, h9, _⟩ := hr T hT X; exact h9.elim
    | retAddr x => intro T hT X; obtain ⟨_, _, _, _, _, _, _, _, _, _, h9, _⟩ := hr T hT X; exact h9.elim
theorem ax_blind {as : List Value} : FrameBlind (ax_Pc n0 b D cA z as h) := by
  intro a U g mk q
  obtain ⟨q0, qB, qK, qX⟩ := q
  exact ⟨q0, qB, qK.calling g mk a, qX.moved (u := U) (U := U.calling g mk a) (Vm.Alike.refl U.vm) (fun _ => rfl)⟩
theorem ax_pre {as : List Value} (C : ax_Cx p R s m args meth c o ini bs n0 b D cA z h0 h9) (P : ax_Pt s c n0 b D cA z h0 L h H locs ls) : ∀ U : State, U.heap = H → s.WarmedH U.vm → ax_Pc n0 b D cA z as h (as.map (ax_v n0 b)).toArray U := by
  intro U hU hW
  obtain ⟨hx, hb, hown, hts, hini, hK, hXX, hsz, hp1, hR1, hR2⟩ := id C
  refine ⟨rfl, ⟨by rw [hU]; exact P.1, P.2.2.2.2.1⟩, hK.warm hW, hXX.moved hW.alike (fun hb0 => ?_)⟩
  rw [hU]
  exact P.2.1.2.1 b (by omega) (Nat.not_le.mpr hb0)
theorem ax_ini_any (o : Nat) : Cond.initialized (ax_own o) ∈ ax_G := by
  by_cases h : o < 17
  · exact ax_ini_in h
  · obtain ⟨k, rfl⟩ : ∃ k, o = k + 16 := ⟨o - 16, by omega⟩
    exact ax_ini_in (o := 16) (by omega)
theorem ax_Z_use {i : Nat} {mt : ax_Mt} {cd : List ax_En} (hz : ax_Z[i]? = some (mt, cd)) : mt.2.1.cls = ax_own mt.1 ∧ (Cond.initialized mt.2.1.cls ∈ ax_G) ∧ plainName mt.2.1.cls = true ∧ Cond.code mt.2.1 mt.2.2.1 mt.2.2.2.1 mt.2.2.2.2.1 ∈ ax_G ∧ ((if mt.2.2.2.2.2.2.1 then Cond.static mt.2.1 else Cond.instanceMethod mt.2.1) ∈ ax_G) ∧ (mt.2.1.cls ≠ "java/lang/invoke/MethodHandle" ∧ mt.2.1.cls ≠ "java/lang/invoke/VarHandle" ∧ (parseMethodDescriptor mt.2.1.desc).map (fun d => d.parameters.length) = some mt.2.2.2.2.2.1) ∧ ax_okm mt cd = true := by
  obtain ⟨ha, hb, hc⟩ := ax_Z_ok _ (List.mem_of_getElem? hz)
  dsimp only at ha hb hc
  unfold ax_Mb at hb
  simp only [Bool.and_eq_true, decide_eq_true_eq] at hb
  obtain ⟨⟨⟨b1, b2⟩, b3⟩, b4⟩ := hb
  refine ⟨b1, by rw [b1]; exact ax_ini_any _, b2, ax_tin hc rfl, ax_tin b3 ?_, b4, ha⟩
  split <;> rfl
theorem ax_GoodWs {i : Nat} {mt : ax_Mt} {cd : List ax_En} (hz : ax_Z[i]? = some (mt, cd)) : GoodIn ax_G (ax_Ws mt) := by
  intro w hw
  rcases List.mem_cons.mp hw with rfl | hw
  · exact ⟨(ax_Z_use hz).2.2.2.1, ax_good (ax_Z_use hz).2.2.2.1⟩
  · exact ⟨hw, ax_good hw⟩
theorem ax_callB {i : Nat} {mt : ax_Mt} {cd : List ax_En} {own : String} {idx : Nat} {rm : Room} {mc ms : Nat} (C : ax_Cx p R s m args meth c o ini bs n0 b D cA z h0 h9) (hz : ax_Z[i]? = some (mt, cd)) (hrc : rm.cells = mc) (hrs : rm.slots = ms) (hl : (Cond.methodLink own idx mt.2.1).before args s = true) (hR : rm.frames + 1 ≤ R.frames ∧ 8 + (mt.2.2.2.1 + 11) + rm.locals ≤ R.locals) :
    CallB R s args own idx mt.2.1 mt.2.2.1 mt.2.2.2.1 mt.2.2.2.2.1 (ax_Ws mt) rm mc ms mt.2.2.2.2.2.1 := by
  obtain ⟨b1, b0, b2, hc, b3, b4, ha⟩ := ax_Z_use hz
  exact callB_of _ C.2.2.2.1 (ax_GoodWs hz) rfl hrc hrs (C.2.2.2.1 _ b0) hl b4 hR
theorem ax_callN {i : Nat} {mt : ax_Mt} {cd : List ax_En} {own host : String} {idx : Nat} {rm : Room} {mc ms : Nat} (C : ax_Cx p R s m args meth c o ini bs n0 b D cA z h0 h9) (hz : ax_Z[i]? = some (mt, cd)) (hrc : rm.cells = mc) (hrs : rm.slots = ms) (hl : va_Nw (.methodLinkNest own idx mt.2.1 host) s) (hR : rm.frames + 1 ≤ R.frames ∧ 8 + (mt.2.2.2.1 + 11) + rm.locals ≤ R.locals) :
    va_CN R s args own idx mt.2.1 host mt.2.2.1 mt.2.2.2.1 mt.2.2.2.2.1 (ax_Ws mt) rm mc ms mt.2.2.2.2.2.1 := by
  obtain ⟨b1, b0, b2, hc, b3, b4, ha⟩ := ax_Z_use hz
  exact va_cnB _ C.2.2.2.1 (ax_GoodWs hz) rfl hrc hrs hl (C.2.2.2.1 _ b0) b4 hR
end AXR
