/-! One step of the machine of 03 is a step of the JVM. -/
def ax_Cx (p : Program) (R : Room) (s : State) (m : MethodId) (args : Array Value) (meth : Method) (c : Code) (o : Nat) (ini : Bool) (bs : ByteArray) (n0 b : Nat) (D : va_G) (cA : Nat → ClassId) (z : ax_E) (h0 h9 : ax_H) : Prop :=
  p.tables.exec = Jvm.exec ∧ c.code = bs ∧ s.vm.findClass (ax_own o) = some m.cls ∧ (∀ w ∈ ax_G, w.before args s = true) ∧ (ini = true → meth.name = "<init>") ∧ ax_K D cA s ∧ ax_X n0 b z s s.heap ∧ s.heap.size + 1 = n0 + h0.1 ∧ 1 ≤ h0.1 ∧ h9.1 - h0.1 ≤ R.cells ∧ h9.2.1 - h0.2.1 ≤ R.slots
def ax_Pt (s : State) (c : Code) (n0 b : Nat) (D : va_G) (cA : Nat → ClassId) (z : ax_E) (h0 : ax_H) (L : ax_L) (h : ax_H) (H : Heap) (locs : List Loc) (ls : Array Slot) : Prop :=
  ax_W n0 b D cA h H ∧ va_S (ax_A n0) s.heap H locs ∧ ax_lr n0 b ls L ∧ c.maxLocals = L.length ∧ h.2.2 0 = z ∧ h0.1 ≤ h.1 ∧ h0.2.1 ≤ h.2.1
theorem ax_fit_ok {n0 b : Nat} {ty : FieldType} {v : Value} (h : ax_fit ty v = true) : narrow ty (ax_v n0 b v) = ax_v n0 b v ∧ fits ty (ax_v n0 b v) = true := by
  cases ty <;> cases v <;> first
    | exact ⟨rfl, rfl⟩
    | (exact absurd h (by intro q; cases q))
    | (simp only [ax_fit, Bool.or_eq_true, decide_eq_true_eq] at h
       rcases h with rfl | rfl <;> exact ⟨rfl, rfl⟩)
section AXS
variable {p : Program} {l : Launch} {ev : Env} {R : Room} {s : State} {m : MethodId} {args : Array Value} {below : List Frame} {meth : Method} {c : Code} {Q : State → Prop}
variable {o : Nat} {ini : Bool} {bs : ByteArray} {n0 b : Nat} {D : va_G} {cA : Nat → ClassId} {z : ax_E} {h0 h9 h : ax_H} {L : ax_L} {S : List Value} {H : Heap} {locs : List Loc} {ls : Array Slot} {pc : Nat}
/-- the JVM at a point of the machine: cells and slots by the machine's own count -/
def ax_g (p : Program) (l : Launch) (ev : Env) (R : Room) (s : State) (m : MethodId) (args : Array Value) (below : List Frame) (meth : Method) (c : Code) (Q : State → Prop) (n0 b : Nat) (h0 : ax_H) (pc : Nat) (S : List Value) (h : ax_H) (H : Heap) (locs : List Loc) (ls : Array Slot) : Prop :=
  W p l ev R s m args below meth c H locs (h.1 - h0.1) (h.2.1 - h0.2.1) Q (F0 m pc ls (S.map (ax_v n0 b)))
theorem ax_obj {q : Nat} {ci : Nat} {f : Nat → Value} (C : ax_Cx p R s m args meth c o ini bs n0 b D cA z h0 h9) (P : ax_Pt s c n0 b D cA z h0 L h H locs ls) (hq : h.2.2 q = .inr (ci, f)) : ¬ q = 0 ∧ q < h.1 ∧ va_at D ax_cl (ax_am n0 b q, .inr (ci, (List.range (ax_nf ci)).map (fun j => ax_v n0 b (f j)))) H := by
  have hq0 : ¬ q = 0 := by
    intro e
    subst e
    have hX := C.2.2.2.2.2.2.1
    rw [← P.2.2.2.2.1, hq] at hX
    exact hX
  obtain ⟨h1, h2⟩ := P.1.cell hq0 (by rw [hq]; intro e; cases e)
  rw [hq] at h1
  exact ⟨hq0, h2, h1⟩
theorem ax_arr {q t n : Nat} {a : (Nat → Int32) ⊕ (Nat → Int64) ⊕ (Nat → UInt32) ⊕ (Nat → UInt64) ⊕ (Nat → Option Nat)} (P : ax_Pt s c n0 b D cA z h0 L h H locs ls) (hq0 : ¬ q = 0) (hq : h.2.2 q = .inl (t, n, a)) (ht : t ≤ 4) : q < h.1 ∧ va_at D ax_cl (ax_am n0 b q, .inl (cA t, ax_ar n0 b (n, a))) H := by
  obtain ⟨h1, h2⟩ := P.1.cell hq0 (by rw [hq]; intro e; cases e; omega)
  rw [hq] at h1
  exact ⟨h2, h1⟩
theorem ax_s_get {q ci idx k cx a : Nat} {f : Nat → Value} (C : ax_Cx p R s m args meth c o ini bs n0 b D cA z h0 h9) (P : ax_Pt s c n0 b D cA z h0 L h H locs ls) (hd : decode bs pc = .ok (.getfield idx, 3)) (hf : ax_okF o idx (pc, .getfield idx, 3, a, k, cx) = true) (hq : h.2.2 q = .inr (ci, f)) (hci : ci = a)
    (kk : ax_g p l ev R s m args below meth c Q n0 b h0 (pc + 3) (f k :: S) h H locs ls) : ax_g p l ev R s m args below meth c Q n0 b h0 pc (.ref q :: S) h H locs ls := by
  obtain ⟨hx, hb, hown, hts, -, hK, -⟩ := id C
  obtain ⟨-, -, hat⟩ := ax_obj C P hq
  obtain ⟨⟨nm, T, N⟩, hc, hk, hl, hT⟩ := ax_FR_use hf
  dsimp only at hc hk hl hT
  subst hci
  rw [ax_cl_nf hc] at hat
  exact va_get hx hb hts (ax_cl_F hc).1 hown hK.1 (ax_P1 hat) 0 rfl hc k hk (hts _ hl) (fun x hx => by rw [hT] at hx; exact hx) (ax_fs_at hk) hd kk
theorem ax_s_put {q ci idx k cx a : Nat} {f : Nat → Value} {v : Value} (C : ax_Cx p R s m args meth c o ini bs n0 b D cA z h0 h9) (P : ax_Pt s c n0 b D cA z h0 L h H locs ls) (hd : decode bs pc = .ok (.putfield idx, 3)) (hf : ax_okF o idx (pc, .putfield idx, 3, a, k, cx) = true)
    (hfin : ∀ r : vw_C, ax_cl[a]? = some r → (r.2.1 k).2.2.2 = true → ini = true ∧ r.1 = ax_own o) (hq : h.2.2 q = .inr (ci, f)) (hci : ci = a) (hv : ax_fit (ax_ty ci k) v = true)
    (kk : ∀ H1 locs1, ax_Pt s c n0 b D cA z h0 L (ax_set h q (.inr (ci, va_up f k v))) H1 locs1 ls → ax_g p l ev R s m args below meth c Q n0 b h0 (pc + 3) S (ax_set h q (.inr (ci, va_up f k v))) H1 locs1 ls) : ax_g p l ev R s m args below meth c Q n0 b h0 pc (v :: .ref q :: S) h H locs ls := by
  obtain ⟨hx, hb, hown, hts, hini, hK, -⟩ := id C
  obtain ⟨hq0, hql, hat⟩ := ax_obj C P hq
  obtain ⟨⟨nm, T, N⟩, hc, hk, hl, hT⟩ := ax_FR_use hf
  dsimp only at hc hk hl hT
  subst hci
  have hfin' := hfin _ hc
  dsimp only at hfin'
  obtain ⟨hin, hty, -⟩ := ax_cl_F hc
  dsimp only at hin hty
  have hnm := ax_cl_nmF hc
  have hap := va_apart (own := ax_own o) hts hin (ax_ty ci) hty hnm hK.1 hc
  rw [ax_cl_nf hc] at hat
  have hfit := ax_fit_ok (n0 := n0) (b := b) hv
  obtain ⟨r, h1, cell, q1, q2, q3, q4⟩ := id hat
  have hr : r = (nm, T, N) := Option.some.inj (h1.symm.trans hc)
  subst hr
  obtain ⟨hS, hfc, kC, hkC, hkind⟩ := hK.1.1 ci _ hc
  obtain ⟨cf, kf, fi, fd, hi, hsl⟩ := hS k hk
  have hlay := hts _ (hin _ (u_in_lay hk))
  have hst := (u_facts hfc hkC (u_lays hts hin hk) hi).1
  have hsame : ∀ x, s.fieldFound? (T k).1 (T k).2.1 (T k).2.2.1 = some x → s.fieldFound? nm (T k).2.1 (T k).2.2.1 = some x := fun x hx => by rw [hT] at hx; exact hx
  have hlen : k < ((List.range N).map (fun j => ax_v n0 b (f j))).length := by simpa using hk
  have fin : ∀ H1 : Heap, H1[ax_am n0 b q]? = some (cell.setSlot (D.2 ci k) (ax_v n0 b v)) → H1.size = H.size → (∀ j, j ≠ ax_am n0 b q → H1[j]? = H[j]?) → ax_Pt s c n0 b D cA z h0 L (ax_set h q (.inr (ci, va_up f k v))) H1 (locs ++ [⟨ax_am n0 b q, D.2 ci k⟩]) ls := by
    intro H1 e1 e2 e3
    refine ⟨P.1.set hq0 hql e2 e3 ?_, P.2.1.put e2 e3 (by rw [ax_am_pos hq0]; show n0 ≤ _; omega), P.2.2.1, P.2.2.2.1, ?_, P.2.2.2.2.2.1, P.2.2.2.2.2.2⟩
    · show va_at D ax_cl (ax_am n0 b q, .inr (ci, (List.range (ax_nf ci)).map (fun j => ax_v n0 b (va_up f k v j)))) H1
      rw [ax_cl_nf hc, ax_fs_set hk]
      exact ⟨_, hc, t_OB.to (V := updV (vp_V _) k (ax_v n0 b v)) ⟨_, e1, q2, q3, t_set q4 hap hk _⟩ (fun j _ => vp_updV_set hlen _ j)⟩
    · show va_up h.2.2 q _ 0 = z
      rw [va_up_ne _ _ (fun e => hq0 e.symm)]
      exact P.2.2.2.2.1
  unfold u_lay at hlay
  by_cases hfl : (T k).2.2.2 = true
  · rw [if_pos hfl] at hlay
    obtain ⟨hi1, hown2⟩ := hfin' hfl
    have hcf : m.cls = cf := by
      obtain ⟨_, _, c', _, _, _, -, -, hf', -, -, -, hown3, -⟩ := Cond.laysFinal_spec hlay
      have e1 : c' = cf := by have := hi.symm.trans hf'; simp at this; exact this.1.symm
      rw [hT, hown2] at hown3
      rw [← e1]; exact Option.some.inj (hown.symm.trans hown3)
    have h6 := u_fits hfc hkC hkind (Or.inr hlay) hi (hty k hk) hfit.1 hfit.2
    refine W.putFinK hx hb hown (hts _ hl) (hsame _ hi) hst hcf (hini hi1) (by rw [q2]; exact h6) q1 q3 (by rw [hsl]; exact k2_hasslot (q4 k hk)) rfl rfl hd fun H' e1 e2 e3 => ?_
    rw [hsl] at e1 ⊢
    exact kk H' _ (fin H' e1 e2 e3)
  · rw [if_neg hfl] at hlay
    have h6 := u_store hfc hkC hkind hlay hi (hty k hk) hfit.1 hfit.2
    refine W.putK hx hb (f := fd) ⟨hown, hts _ hl, ⟨_, _, _, hsame _ hi⟩, hst⟩ (by rw [q2]; exact h6) q1 q3 (by rw [hsl]; exact k2_hasslot (q4 k hk)) rfl rfl hd fun H' e1 e2 e3 => ?_
    rw [hsl] at e1 ⊢
    exact kk H' _ (fin H' e1 e2 e3)
/-- what a store into an array leaves -/
theorem ax_stored {q t n : Nat} {a a' : (Nat → Int32) ⊕ (Nat → Int64) ⊕ (Nat → UInt32) ⊕ (Nat → UInt64) ⊕ (Nat → Option Nat)} {j : Nat} {H1 : Heap} (P : ax_Pt s c n0 b D cA z h0 L h H locs ls) (hq0 : ¬ q = 0) (hq : h.2.2 q = .inl (t, n, a)) (ht : t ≤ 4) (e1 : H1[ax_am n0 b q]? = some (vp_cell (cA t) (ax_ar n0 b (n, a')))) (e2 : H1.size = H.size) (e3 : ∀ j, j ≠ ax_am n0 b q → H1[j]? = H[j]?) : ax_Pt s c n0 b D cA z h0 L (ax_set h q (.inl (t, n, a'))) H1 (locs ++ [⟨ax_am n0 b q, j⟩]) ls := by
  obtain ⟨hl, -⟩ := ax_arr P hq0 hq ht
  refine ⟨P.1.set hq0 hl e2 e3 e1, P.2.1.put e2 e3 (by rw [ax_am_pos hq0]; show n0 ≤ _; omega), P.2.2.1, P.2.2.2.1, ?_, P.2.2.2.2.2.1, P.2.2.2.2.2.2⟩
  show va_up h.2.2 q _ 0 = z
  rw [va_up_ne _ _ (fun e => hq0 e.symm)]
  exact P.2.2.2.2.1
theorem ax_scr {q t n : Nat} {a : (Nat → Int32) ⊕ (Nat → Int64) ⊕ (Nat → UInt32) ⊕ (Nat → UInt64) ⊕ (Nat → Option Nat)} (C : ax_Cx p R s m args meth c o ini bs n0 b D cA z h0 h9) (P : ax_Pt s c n0 b D cA z h0 L h H locs ls) (hq0 : q = 0) (hq : h.2.2 q = .inl (t, n, a)) (ht : t ≤ 4) : t = 0 ∧ ax_am n0 b q = b ∧ b < s.heap.size ∧ ¬ ax_A n0 b ∧ ∃ xs : Nat → Int32, a = .inl xs ∧ va_X b n xs s s.heap := by
  subst hq0
  have hX := C.2.2.2.2.2.2.1
  rw [← P.2.2.2.2.1, hq] at hX
  obtain ⟨h1, h2, xs, h3, h4⟩ := hX ht
  have h5 := C.2.2.2.2.2.2.2.1
  have h6 := C.2.2.2.2.2.2.2.2.1
  exact ⟨h1, rfl, by omega, Nat.not_le.mpr h2, xs, h3, h4⟩
theorem ax_s_iald {q t n : Nat} {f : Nat → Int32} {i : Int32} (C : ax_Cx p R s m args meth c o ini bs n0 b D cA z h0 h9) (P : ax_Pt s c n0 b D cA z h0 L h H locs ls) (hd : decode bs pc = .ok (.iaload, 1)) (hq : h.2.2 q = .inl (t, n, .inl f)) (ht : t = 0) (hi : ax_ix i n = true)
    (kk : ax_g p l ev R s m args below meth c Q n0 b h0 (pc + 1) (.int (f i.toNatClampNeg) :: S) h H locs ls) : ax_g p l ev R s m args below meth c Q n0 b h0 pc (.int i :: .ref q :: S) h H locs ls := by
  obtain ⟨hx, hb, hown, hts, hini, hK, -⟩ := id C
  by_cases hq0 : q = 0
  · obtain ⟨-, h1, h2, h3, xs, h4, h5⟩ := ax_scr C P hq0 hq (by omega)
    cases h4
    show W _ _ _ _ _ _ _ _ _ _ _ _ _ _ _ (F0 m pc ls (.int i :: .ref (ax_am n0 b q) :: S.map (ax_v n0 b)))
    rw [h1]
    exact va_sld hx hb h5 h2 h3 P.2.1 (ax_ix_use hi) hd kk
  · obtain ⟨-, hat⟩ := ax_arr P hq0 hq (by omega)
    subst ht
    exact va_iald hx hb hK.1 (ax_P1 hat) 0 0 rfl rfl (ax_ix_use hi) hd kk
theorem ax_s_alen {q t n : Nat} {a : (Nat → Int32) ⊕ (Nat → Int64) ⊕ (Nat → UInt32) ⊕ (Nat → UInt64) ⊕ (Nat → Option Nat)} (C : ax_Cx p R s m args meth c o ini bs n0 b D cA z h0 h9) (P : ax_Pt s c n0 b D cA z h0 L h H locs ls) (hd : decode bs pc = .ok (.arraylength, 1)) (hq : h.2.2 q = .inl (t, n, a)) (ht : t ≤ 4)
    (kk : ax_g p l ev R s m args below meth c Q n0 b h0 (pc + 1) (.int (Int32.ofNat n) :: S) h H locs ls) : ax_g p l ev R s m args below meth c Q n0 b h0 pc (.ref q :: S) h H locs ls := by
  obtain ⟨hx, hb, hown, hts, hini, hK, -⟩ := id C
  by_cases hq0 : q = 0
  · obtain ⟨-, h1, h2, h3, xs, h4, h5⟩ := ax_scr C P hq0 hq ht
    show W _ _ _ _ _ _ _ _ _ _ _ _ _ _ _ (F0 m pc ls (.ref (ax_am n0 b q) :: S.map (ax_v n0 b)))
    rw [h1]
    exact va_slen hx hb h5 h2 h3 P.2.1 hd kk
  · obtain ⟨-, hat⟩ := ax_arr P hq0 hq ht
    exact va_alen hx hb hK.1 (ax_P1 hat) 0 t rfl (ax_tys_at ht) rfl hd kk
theorem ax_s_iast {q t n : Nat} {f : Nat → Int32} {i x : Int32} (C : ax_Cx p R s m args meth c o ini bs n0 b D cA z h0 h9) (P : ax_Pt s c n0 b D cA z h0 L h H locs ls) (hd : decode bs pc = .ok (.iastore, 1)) (hq : h.2.2 q = .inl (t, n, .inl f)) (ht : t = 0) (hi : ax_ix i n = true) (hq0 : ¬ q = 0)
    (kk : ∀ H1 locs1, ax_Pt s c n0 b D cA z h0 L (ax_set h q (.inl (t, n, .inl (upd f i.toNatClampNeg x)))) H1 locs1 ls → ax_g p l ev R s m args below meth c Q n0 b h0 (pc + 1) S (ax_set h q (.inl (t, n, .inl (upd f i.toNatClampNeg x)))) H1 locs1 ls) : ax_g p l ev R s m args below meth c Q n0 b h0 pc (.int x :: .int i :: .ref q :: S) h H locs ls := by
  obtain ⟨hx, hb, hown, hts, hini, hK, -⟩ := id C
  obtain ⟨-, hat⟩ := ax_arr P hq0 hq (by omega)
  subst ht
  refine W.iast hx hb hat ((hK.1.2 0 _ rfl).1 n (fun j => .int (f j))) (fun q => by cases q) (by show ¬ (i < 0 ∨ (arrV _ _ _).slots.size ≤ _); rw [arrV_size]; exact ax_ix_use hi) rfl rfl hd fun H1 e1 e2 e3 => ?_
  refine kk H1 _ (ax_stored P hq0 hq (by omega) ?_ e2 e3)
  rw [e1]
  exact congrArg some (ax_st_i _ _ _ _ _)
theorem ax_s_bald {q t n : Nat} {f : Nat → Int32} {i : Int32} (C : ax_Cx p R s m args meth c o ini bs n0 b D cA z h0 h9) (P : ax_Pt s c n0 b D cA z h0 L h H locs ls) (hd : decode bs pc = .ok (.baload, 1)) (hq : h.2.2 q = .inl (t, n, .inl f)) (ht : t = 1 ∨ t = 2) (hi : ax_ix i n = true)
    (kk : ax_g p l ev R s m args below meth c Q n0 b h0 (pc + 1) (.int (f i.toNatClampNeg) :: S) h H locs ls) : ax_g p l ev R s m args below meth c Q n0 b h0 pc (.int i :: .ref q :: S) h H locs ls := by
  obtain ⟨hx, hb, hown, hts, hini, hK, -⟩ := id C
  have hq0 : ¬ q = 0 := fun e => by
    have := (ax_scr C P e hq (by omega)).1
    omega
  obtain ⟨-, hat⟩ := ax_arr P hq0 hq (by omega)
  rcases ht with rfl | rfl
  · exact va_bald hx hb hK.1 (ax_P1 hat) 0 1 rfl rfl (ax_ix_use hi) hd kk
  · exact va_zald hx hb hK.1 (ax_P1 hat) 0 2 rfl rfl (ax_ix_use hi) hd kk
theorem ax_s_bast {q t n : Nat} {f : Nat → Int32} {i x : Int32} (C : ax_Cx p R s m args meth c o ini bs n0 b D cA z h0 h9) (P : ax_Pt s c n0 b D cA z h0 L h H locs ls) (hd : decode bs pc = .ok (.bastore, 1)) (hq : h.2.2 q = .inl (t, n, .inl f)) (ht : t = 1 ∨ t = 2) (hi : ax_ix i n = true)
    (kk : ∀ H1 locs1, ax_Pt s c n0 b D cA z h0 L (ax_set h q (.inl (t, n, .inl (upd f i.toNatClampNeg (vp_nar (if t = 1 then .byte else .boolean) x))))) H1 locs1 ls → ax_g p l ev R s m args below meth c Q n0 b h0 (pc + 1) S (ax_set h q (.inl (t, n, .inl (upd f i.toNatClampNeg (vp_nar (if t = 1 then .byte else .boolean) x))))) H1 locs1 ls) : ax_g p l ev R s m args below meth c Q n0 b h0 pc (.int x :: .int i :: .ref q :: S) h H locs ls := by
  obtain ⟨hx, hb, hown, hts, hini, hK, -⟩ := id C
  have hq0 : ¬ q = 0 := fun e => by
    have := (ax_scr C P e hq (by omega)).1
    omega
  obtain ⟨-, hat⟩ := ax_arr P hq0 hq (by omega)
  rcases ht with rfl | rfl
  · refine W.bast hx hb hat ((hK.1.2 1 _ rfl).1 n (fun j => .int (f j))) (fun q => by cases q) (by show ¬ (i < 0 ∨ (arrV _ _ _).slots.size ≤ _); rw [arrV_size]; exact ax_ix_use hi) rfl rfl hd fun H1 e1 e2 e3 => ?_
    refine kk H1 _ (ax_stored P hq0 hq (by omega) ?_ e2 e3)
    rw [e1]
    exact congrArg some (ax_st_i _ _ _ _ _)
  · refine W.zast hx hb hat ((hK.1.2 2 _ rfl).1 n (fun j => .int (f j))) (fun q => by cases q) (by show ¬ (i < 0 ∨ (arrV _ _ _).slots.size ≤ _); rw [arrV_size]; exact ax_ix_use hi) rfl rfl hd fun H1 e1 e2 e3 => ?_
    refine kk H1 _ (ax_stored P hq0 hq (by omega) ?_ e2 e3)
    rw [e1]
    exact congrArg some (ax_st_i _ _ _ _ _)
theorem ax_s_lald {q t n : Nat} {f : Nat → Int64} {i : Int32} (C : ax_Cx p R s m args meth c o ini bs n0 b D cA z h0 h9) (P : ax_Pt s c n0 b D cA z h0 L h H locs ls) (hd : decode bs pc = .ok (.laload, 1)) (hq : h.2.2 q = .inl (t, n, .inr (.inl f))) (ht : t = 3) (hi : ax_ix i n = true)
    (kk : ax_g p l ev R s m args below meth c Q n0 b h0 (pc + 1) (.long (f i.toNatClampNeg) :: S) h H locs ls) : ax_g p l ev R s m args below meth c Q n0 b h0 pc (.int i :: .ref q :: S) h H locs ls := by
  obtain ⟨hx, hb, hown, hts, hini, hK, -⟩ := id C
  have hq0 : ¬ q = 0 := fun e => by
    have := (ax_scr C P e hq (by omega)).1
    omega
  obtain ⟨-, hat⟩ := ax_arr P hq0 hq (by omega)
  subst ht
  exact va_lald hx hb hK.1 (ax_P1 hat) 0 3 rfl rfl (ax_ix_use hi) hd kk
theorem ax_s_last {q t n : Nat} {f : Nat → Int64} {i : Int32} {x : Int64} (C : ax_Cx p R s m args meth c o ini bs n0 b D cA z h0 h9) (P : ax_Pt s c n0 b D cA z h0 L h H locs ls) (hd : decode bs pc = .ok (.lastore, 1)) (hq : h.2.2 q = .inl (t, n, .inr (.inl f))) (ht : t = 3) (hi : ax_ix i n = true)
    (kk : ∀ H1 locs1, ax_Pt s c n0 b D cA z h0 L (ax_set h q (.inl (t, n, .inr (.inl (vp_updL f i.toNatClampNeg x))))) H1 locs1 ls → ax_g p l ev R s m args below meth c Q n0 b h0 (pc + 1) S (ax_set h q (.inl (t, n, .inr (.inl (vp_updL f i.toNatClampNeg x))))) H1 locs1 ls) : ax_g p l ev R s m args below meth c Q n0 b h0 pc (.long x :: .int i :: .ref q :: S) h H locs ls := by
  obtain ⟨hx, hb, hown, hts, hini, hK, -⟩ := id C
  have hq0 : ¬ q = 0 := fun e => by
    have := (ax_scr C P e hq (by omega)).1
    omega
  obtain ⟨-, hat⟩ := ax_arr P hq0 hq (by omega)
  subst ht
  refine W.last hx hb hat ((hK.1.2 3 _ rfl).1 n (fun j => .long (f j))) (fun q => by cases q) (by show ¬ (i < 0 ∨ (arrV _ _ _).slots.size ≤ _); rw [arrV_size]; exact ax_ix_use hi) rfl rfl hd fun H1 e1 e2 e3 => ?_
  refine kk H1 _ (ax_stored P hq0 hq (by omega) ?_ e2 e3)
  rw [e1]
  exact congrArg some (ax_st_l _ _ _ _ _)
theorem ax_s_aald {q t n : Nat} {f : Nat → Option Nat} {i : Int32} (C : ax_Cx p R s m args meth c o ini bs n0 b D cA z h0 h9) (P : ax_Pt s c n0 b D cA z h0 L h H locs ls) (hd : decode bs pc = .ok (.aaload, 1)) (hq : h.2.2 q = .inl (t, n, .inr (.inr (.inr (.inr f))))) (ht : t = 4) (hi : ax_ix i n = true)
    (kk : ax_g p l ev R s m args below meth c Q n0 b h0 (pc + 1) (ax_rf (f i.toNatClampNeg) :: S) h H locs ls) : ax_g p l ev R s m args below meth c Q n0 b h0 pc (.int i :: .ref q :: S) h H locs ls := by
  obtain ⟨hx, hb, hown, hts, hini, hK, -⟩ := id C
  have hq0 : ¬ q = 0 := fun e => by
    have := (ax_scr C P e hq (by omega)).1
    omega
  obtain ⟨-, hat⟩ := ax_arr P hq0 hq (by omega)
  subst ht
  refine va_aldq hx hb hK.1 (ax_P1 hat) 0 4 rfl rfl (ax_ix_use hi) hd ?_
  have e : va_rf ((f i.toNatClampNeg).map (ax_am n0 b)) = ax_v n0 b (ax_rf (f i.toNatClampNeg)) := by
    cases f i.toNatClampNeg <;> rfl
  show W _ _ _ _ _ _ _ _ _ _ _ _ _ _ _ (F0 m (pc + 1) ls (va_rf ((f i.toNatClampNeg).map (ax_am n0 b)) :: S.map (ax_v n0 b)))
  rw [e]
  exact kk
theorem ax_s_aast {q t n v ci : Nat} {f : Nat → Option Nat} {fv : Nat → Value} {i : Int32} (C : ax_Cx p R s m args meth c o ini bs n0 b D cA z h0 h9) (P : ax_Pt s c n0 b D cA z h0 L h H locs ls) (hd : decode bs pc = .ok (.aastore, 1)) (hq : h.2.2 q = .inl (t, n, .inr (.inr (.inr (.inr f))))) (hv : h.2.2 v = .inr (ci, fv)) (ht : t = 4) (hci : ci = 0) (hi : ax_ix i n = true)
    (kk : ∀ H1 locs1, ax_Pt s c n0 b D cA z h0 L (ax_set h q (.inl (t, n, .inr (.inr (.inr (.inr (va_up f i.toNatClampNeg (some v)))))))) H1 locs1 ls → ax_g p l ev R s m args below meth c Q n0 b h0 (pc + 1) S (ax_set h q (.inl (t, n, .inr (.inr (.inr (.inr (va_up f i.toNatClampNeg (some v)))))))) H1 locs1 ls) : ax_g p l ev R s m args below meth c Q n0 b h0 pc (.ref v :: .int i :: .ref q :: S) h H locs ls := by
  obtain ⟨hx, hb, hown, hts, hini, hK, -⟩ := id C
  have hq0 : ¬ q = 0 := fun e => by
    have := (ax_scr C P e hq (by omega)).1
    omega
  obtain ⟨-, hat⟩ := ax_arr P hq0 hq (by omega)
  obtain ⟨-, -, hav⟩ := ax_obj C P hv
  subst ht hci
  obtain ⟨r', hr', cellV, g1, g2, g3, -⟩ := id hav
  cases hr'
  have hcls := (hK.1.1 0 _ rfl).2
  obtain ⟨kA, comp, k1, k2, k3, -⟩ := (hK.1.2 4 _ rfl).2
  have hcomp : comp = D.1 0 := Option.some.inj (k3.symm.trans hcls.1)
  subst hcomp
  obtain ⟨kC, hkC, -⟩ := hcls.2
  have hiu := ax_ix_use hi
  refine W.aast hx hb hat (fun q h => by cases h) (fun h => by cases h) k1 k2 rfl hkC ⟨fun q => hiu (Or.inl q), by show _ < (arrV _ _ _).slots.size; rw [arrV_size]; exact Nat.not_le.mp fun q => hiu (Or.inr q)⟩ g1 (fun q h => by rw [g3] at h; cases h) (by rw [g2]; exact hkC) (by rw [g2]; exact va_assign hcls) rfl rfl hd fun H1 e1 e2 e3 => ?_
  refine kk H1 _ (ax_stored P hq0 hq (by omega) ?_ e2 e3)
  rw [e1]
  refine congrArg some ((ax_st_q _ _ _ _ _).trans ?_)
  show vp_cell (cA 4) (n, _) = vp_cell (cA 4) (n, _)
  congr 6
  funext j
  by_cases hj : j = i.toNatClampNeg
  · subst hj; simp [va_up]
  · simp [va_up, hj]
end AXS
