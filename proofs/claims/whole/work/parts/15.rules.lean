/-! Runs of the machine, row by row. -/
def ax_R (fr lo : Nat) (cd : List ax_En) (rt : Option FieldType) (pc : Nat) (L : ax_L) (S : List Value) (h : ax_H) (r : Option Value) (h' : ax_H) : Prop := ∃ n, ax_run n fr lo cd rt pc L S h = some (r, h')
theorem ax_run_up : ∀ (n : Nat) {fr lo fr' lo' : Nat} {cd : List ax_En} {rt : Option FieldType} {pc : Nat} {L : ax_L} {S : List Value} {h : ax_H} {q : Option Value × ax_H}, ax_run n fr lo cd rt pc L S h = some q → fr ≤ fr' → lo ≤ lo' → ∀ n', n ≤ n' → ax_run n' fr' lo' cd rt pc L S h = some q := by
  intro n
  induction n with
  | zero => intro fr lo fr' lo' cd rt pc L S h q hr; cases hr
  | succ n ih =>
    intro fr lo fr' lo' cd rt pc L S h q hr hf hl n' hn
    obtain ⟨k, rfl⟩ : ∃ k, n' = k + 1 := ⟨n' - 1, by omega⟩
    have hk : n ≤ k := by omega
    unfold ax_run at hr ⊢
    cases he : ax_fd cd pc with
    | none => rw [he] at hr; cases hr
    | some e =>
      rw [he] at hr
      dsimp only at hr ⊢
      split at hr
      · rename_i hc; exact hr
      · rename_i hc
        cases hz : ax_Z[e.2.2.2.1]? with
        | none => rw [hz] at hr; cases hr
        | some z =>
          obtain ⟨mt, cd1⟩ := z
          rw [hz] at hr
          dsimp only at hr ⊢
          split at hr
          · rename_i hq
            rw [if_pos ⟨hq.1, hq.2.1, hq.2.2.1, Nat.le_trans hq.2.2.2.1 hf, Nat.le_trans hq.2.2.2.2.1 hl, hq.2.2.2.2.2⟩]
            split at hr
            · rename_i r h1 hrun
              rw [ih hrun (by omega) (by omega) k hk]
              exact ih hr hf hl k hk
            · cases hr
          · cases hr
      · rename_i hc
        split at hr
        · rename_i q1 hq
          exact ih hr hf hl k hk
        · cases hr
      · split at hr
        · rename_i hq
          rw [if_pos ⟨Nat.le_trans hq.1 hf, Nat.le_trans hq.2.1 hl, hq.2.2⟩]
          split at hr
          · exact ih hr hf hl k hk
          · cases hr
        · cases hr
section RR
variable {fr lo : Nat} {cd : List ax_En} {rt : Option FieldType} {pc pc' : Nat} {L L' : ax_L} {S S' : List Value} {h h1 : ax_H} {r : Option Value} {h' : ax_H} {a b c : Nat}
theorem ax_R.up {fr' lo' : Nat} (k : ax_R fr lo cd rt pc L S h r h') (hf : fr ≤ fr') (hl : lo ≤ lo') : ax_R fr' lo' cd rt pc L S h r h' := by
  obtain ⟨n, hn⟩ := k
  exact ⟨n, ax_run_up n hn hf hl n (Nat.le_refl _)⟩
/-- a step -/
theorem r_s {e : ax_En} (hf : ax_fd cd pc = some e) (hc : ax_ctl e = 2) (hs : ax_step e L S h = some (pc', L', S', h1)) (k : ax_R fr lo cd rt pc' L' S' h1 r h') : ax_R fr lo cd rt pc L S h r h' := by
  obtain ⟨n, hn⟩ := k
  refine ⟨n + 1, ?_⟩
  unfold ax_run
  rw [hf]
  try dsimp only
  rw [hc]
  try dsimp only
  rw [hs]
  exact hn
theorem r_w {e : ax_En} (hf : ax_fd cd pc = some e) (hc : ax_ctl e = 3) (hr : 1 ≤ fr ∧ 100 ≤ lo ∧ ax_cat S ≤ 20) (hs : ax_step e L S h = some (pc', L', S', h1)) (k : ax_R fr lo cd rt pc' L' S' h1 r h') : ax_R fr lo cd rt pc L S h r h' := by
  obtain ⟨n, hn⟩ := k
  refine ⟨n + 1, ?_⟩
  unfold ax_run
  rw [hf]
  try dsimp only
  rw [hc]
  try dsimp only
  rw [if_pos hr, hs]
  exact hn
theorem r_ret {e : ax_En} (hf : ax_fd cd pc = some e) (hc : ax_ctl e = 0) (hs : ax_ret rt e S h = some (r, h')) : ax_R fr lo cd rt pc L S h r h' := by
  refine ⟨1, ?_⟩
  unfold ax_run
  rw [hf]
  try dsimp only
  rw [hc]
  exact hs
/-- a call -/
theorem r_call {e : ax_En} {mt : ax_Mt} {cd1 : List ax_En} {as rest : List Value} {fr0 lo0 : Nat} {rc : Option Value} (hf : ax_fd cd pc = some e) (hc : ax_ctl e = 1) (hz : ax_Z[e.2.2.2.1]? = some (mt, cd1)) (hS : S = as.reverse ++ rest) (hlen : as.length = ax_na mt) (hrc : ax_rc mt e.2.2.2.2.1 as h = true) (hcat : ax_cat rest ≤ 8) (hsl : (ax_sl as).length ≤ mt.2.2.2.1)
    (hfr : fr0 + 1 ≤ fr) (hlo : lo0 + (8 + (mt.2.2.2.1 + 11)) ≤ lo) (hcal : ax_R fr0 lo0 cd1 mt.2.2.2.2.1 0 (ax_ent mt.2.2.2.1 as) [] h rc h1) (k : ax_R fr lo cd rt (pc + 3) L (rc.toList ++ rest) h1 r h') : ax_R fr lo cd rt pc L S h r h' := by
  obtain ⟨n, hn⟩ := hcal
  obtain ⟨n2, hn2⟩ := k
  have e1 : S.take (ax_na mt) = as.reverse := by rw [hS, List.take_append_of_le_length (by simp; omega), List.take_of_length_le (by simp; omega)]
  have e2 : S.drop (ax_na mt) = rest := by rw [hS, List.drop_append_of_le_length (by simp; omega), List.drop_of_length_le (by simp; omega)]; rfl
  refine ⟨max n n2 + 1, ?_⟩
  unfold ax_run
  rw [hf]
  try dsimp only
  rw [hc]
  try dsimp only
  rw [hz]
  try dsimp only
  rw [e1, e2, List.reverse_reverse, if_pos ⟨by simp [hlen], hrc, hcat, by omega, by omega, hsl⟩]
  rw [ax_run_up n hn (show fr0 ≤ fr - 1 by omega) (show lo0 ≤ lo - (8 + (mt.2.2.2.1 + 11)) by omega) (max n n2) (Nat.le_max_left _ _)]
  exact ax_run_up n2 hn2 (Nat.le_refl _) (Nat.le_refl _) _ (Nat.le_max_right _ _)
/-- branches -/
theorem r_if {cc : Jvm.ClassFile.Cond} {off : Int} {x : Int32} {t f : Nat} {P : Prop} [Decidable P] (hf : ax_fd cd pc = some (pc, .ifCond cc off, 3, a, b, c)) (ht : ax_to pc off = t) (hn : pc + 3 = f) (hp : ax_cnd cc x 0 = decide P) (kt : P → ax_R fr lo cd rt t L S h r h') (kf : ¬ P → ax_R fr lo cd rt f L S h r h') : ax_R fr lo cd rt pc L (.int x :: S) h r h' := by
  by_cases q : P
  · refine r_s hf rfl (show ax_step _ _ _ _ = some (t, L, S, h) from ?_) (kt q)
    show some (if ax_cnd cc x 0 = true then ax_to pc off else pc + 3, L, S, h) = _
    rw [hp, if_pos (decide_eq_true q), ht]
  · refine r_s hf rfl (show ax_step _ _ _ _ = some (f, L, S, h) from ?_) (kf q)
    show some (if ax_cnd cc x 0 = true then ax_to pc off else pc + 3, L, S, h) = _
    rw [hp, if_neg (fun w => q (of_decide_eq_true w)), hn]
theorem r_icmp {cc : Jvm.ClassFile.Cond} {off : Int} {x y : Int32} {t f : Nat} {P : Prop} [Decidable P] (hf : ax_fd cd pc = some (pc, .if_icmp cc off, 3, a, b, c)) (ht : ax_to pc off = t) (hn : pc + 3 = f) (hp : ax_cnd cc x y = decide P) (kt : P → ax_R fr lo cd rt t L S h r h') (kf : ¬ P → ax_R fr lo cd rt f L S h r h') : ax_R fr lo cd rt pc L (.int y :: .int x :: S) h r h' := by
  by_cases q : P
  · refine r_s hf rfl (show ax_step _ _ _ _ = some (t, L, S, h) from ?_) (kt q)
    show some (if ax_cnd cc x y = true then ax_to pc off else pc + 3, L, S, h) = _
    rw [hp, if_pos (decide_eq_true q), ht]
  · refine r_s hf rfl (show ax_step _ _ _ _ = some (f, L, S, h) from ?_) (kf q)
    show some (if ax_cnd cc x y = true then ax_to pc off else pc + 3, L, S, h) = _
    rw [hp, if_neg (fun w => q (of_decide_eq_true w)), hn]
/-- cells -/
theorem r_get {idx q ci k : Nat} {f : Nat → Value} {v : Value} (hf : ax_fd cd pc = some (pc, .getfield idx, 3, ci, k, c)) (hq : h.2.2 q = .inr (ci, f)) (hv : f k = v) (hn : pc + 3 = pc') (kk : ax_R fr lo cd rt pc' L (v :: S) h r h') : ax_R fr lo cd rt pc L (.ref q :: S) h r h' := by
  refine r_s hf rfl ?_ kk
  show (match h.2.2 q with
      | .inr (ci', f) => if ci' = ci then some (pc + 3, L, f k :: S, h) else none
      | _ => none) = _
  rw [hq]
  try dsimp only
  rw [if_pos rfl, hv, hn]
theorem r_put {idx q ci k : Nat} {f : Nat → Value} {v : Value} (hf : ax_fd cd pc = some (pc, .putfield idx, 3, ci, k, c)) (hq : h.2.2 q = .inr (ci, f)) (hv : ax_fit (ax_ty ci k) v = true) (hn : pc + 3 = pc') (hh : ax_set h q (.inr (ci, va_up f k v)) = h1) (kk : ax_R fr lo cd rt pc' L S h1 r h') : ax_R fr lo cd rt pc L (v :: .ref q :: S) h r h' := by
  refine r_s hf rfl ?_ kk
  show (match h.2.2 q with
      | .inr (ci', f) => if ci' = ci ∧ ax_fit (ax_ty ci' k) v = true then some (pc + 3, L, S, ax_set h q (.inr (ci', va_up f k v))) else none
      | _ => none) = _
  rw [hq]
  try dsimp only
  rw [if_pos ⟨rfl, hv⟩, hh, hn]
theorem r_alen {q t n : Nat} {x : (Nat → Int32) ⊕ (Nat → Int64) ⊕ (Nat → UInt32) ⊕ (Nat → UInt64) ⊕ (Nat → Option Nat)} (hf : ax_fd cd pc = some (pc, .arraylength, 1, a, b, c)) (hq : h.2.2 q = .inl (t, n, x)) (ht : t ≤ 4) (hn : pc + 1 = pc') (kk : ax_R fr lo cd rt pc' L (.int (nI n) :: S) h r h') : ax_R fr lo cd rt pc L (.ref q :: S) h r h' := by
  refine r_s hf rfl ?_ kk
  show (match h.2.2 q with
      | .inl (t, n, _) => if t ≤ 4 then some (pc + 1, L, Value.int (Int32.ofNat n) :: S, h) else none
      | _ => none) = _
  rw [hq]
  try dsimp only
  rw [if_pos ht, hn]
  rfl
theorem r_iald {q n : Nat} {f : Nat → Int32} {i : Int32} {v : Int32} (hf : ax_fd cd pc = some (pc, .iaload, 1, a, b, c)) (hq : h.2.2 q = .inl (0, n, .inl f)) (hi : ax_ix i n = true) (hv : f i.toNatClampNeg = v) (hn : pc + 1 = pc') (kk : ax_R fr lo cd rt pc' L (.int v :: S) h r h') : ax_R fr lo cd rt pc L (.int i :: .ref q :: S) h r h' := by
  refine r_s hf rfl ?_ kk
  show (match h.2.2 q with
      | .inl (t, n, .inl f) => if t = 0 ∧ ax_ix i n = true then some (pc + 1, L, Value.int (f i.toNatClampNeg) :: S, h) else none
      | _ => none) = _
  rw [hq]
  try dsimp only
  rw [if_pos ⟨rfl, hi⟩, hv, hn]
theorem r_bald {q t n : Nat} {f : Nat → Int32} {i : Int32} {v : Int32} (hf : ax_fd cd pc = some (pc, .baload, 1, a, b, c)) (hq : h.2.2 q = .inl (t, n, .inl f)) (ht : t = 1 ∨ t = 2) (hi : ax_ix i n = true) (hv : f i.toNatClampNeg = v) (hn : pc + 1 = pc') (kk : ax_R fr lo cd rt pc' L (.int v :: S) h r h') : ax_R fr lo cd rt pc L (.int i :: .ref q :: S) h r h' := by
  refine r_s hf rfl ?_ kk
  show (match h.2.2 q with
      | .inl (t, n, .inl f) => if (t = 1 ∨ t = 2) ∧ ax_ix i n = true then some (pc + 1, L, Value.int (f i.toNatClampNeg) :: S, h) else none
      | _ => none) = _
  rw [hq]
  try dsimp only
  rw [if_pos ⟨ht, hi⟩, hv, hn]
theorem r_iast {q n : Nat} {f : Nat → Int32} {i x : Int32} (hf : ax_fd cd pc = some (pc, .iastore, 1, a, b, c)) (hq : h.2.2 q = .inl (0, n, .inl f)) (hi : ax_ix i n = true) (hq0 : ¬ q = 0) (hn : pc + 1 = pc') (hh : ax_set h q (.inl (0, n, .inl (upd f i.toNatClampNeg x))) = h1) (kk : ax_R fr lo cd rt pc' L S h1 r h') : ax_R fr lo cd rt pc L (.int x :: .int i :: .ref q :: S) h r h' := by
  refine r_s hf rfl ?_ kk
  show (match h.2.2 q with
      | .inl (t, n, .inl f) => if t = 0 ∧ ax_ix i n = true ∧ ¬ q = 0 then some (pc + 1, L, S, ax_set h q (.inl (t, n, .inl (upd f i.toNatClampNeg x)))) else none
      | _ => none) = _
  rw [hq]
  try dsimp only
  rw [if_pos ⟨rfl, hi, hq0⟩, hh, hn]
theorem r_bast {q t n : Nat} {f : Nat → Int32} {i x : Int32} (hf : ax_fd cd pc = some (pc, .bastore, 1, a, b, c)) (hq : h.2.2 q = .inl (t, n, .inl f)) (ht : t = 1 ∨ t = 2) (hi : ax_ix i n = true) (hn : pc + 1 = pc') (hh : ax_set h q (.inl (t, n, .inl (upd f i.toNatClampNeg (vp_nar (if t = 1 then .byte else .boolean) x)))) = h1) (kk : ax_R fr lo cd rt pc' L S h1 r h') : ax_R fr lo cd rt pc L (.int x :: .int i :: .ref q :: S) h r h' := by
  refine r_s hf rfl ?_ kk
  show (match h.2.2 q with
      | .inl (t, n, .inl f) => if (t = 1 ∨ t = 2) ∧ ax_ix i n = true then some (pc + 1, L, S, ax_set h q (.inl (t, n, .inl (upd f i.toNatClampNeg (vp_nar (if t = 1 then .byte else .boolean) x))))) else none
      | _ => none) = _
  rw [hq]
  try dsimp only
  rw [if_pos ⟨ht, hi⟩, hh, hn]
theorem r_lald {q n : Nat} {f : Nat → Int64} {i : Int32} {v : Int64} (hf : ax_fd cd pc = some (pc, .laload, 1, a, b, c)) (hq : h.2.2 q = .inl (3, n, .inr (.inl f))) (hi : ax_ix i n = true) (hv : f i.toNatClampNeg = v) (hn : pc + 1 = pc') (kk : ax_R fr lo cd rt pc' L (.long v :: S) h r h') : ax_R fr lo cd rt pc L (.int i :: .ref q :: S) h r h' := by
  refine r_s hf rfl ?_ kk
  show (match h.2.2 q with
      | .inl (t, n, .inr (.inl f)) => if t = 3 ∧ ax_ix i n = true then some (pc + 1, L, Value.long (f i.toNatClampNeg) :: S, h) else none
      | _ => none) = _
  rw [hq]
  try dsimp only
  rw [if_pos ⟨rfl, hi⟩, hv, hn]
theorem r_last {q n : Nat} {f : Nat → Int64} {i : Int32} {x : Int64} (hf : ax_fd cd pc = some (pc, .lastore, 1, a, b, c)) (hq : h.2.2 q = .inl (3, n, .inr (.inl f))) (hi : ax_ix i n = true) (hn : pc + 1 = pc') (hh : ax_set h q (.inl (3, n, .inr (.inl (vp_updL f i.toNatClampNeg x)))) = h1) (kk : ax_R fr lo cd rt pc' L S h1 r h') : ax_R fr lo cd rt pc L (.long x :: .int i :: .ref q :: S) h r h' := by
  refine r_s hf rfl ?_ kk
  show (match h.2.2 q with
      | .inl (t, n, .inr (.inl f)) => if t = 3 ∧ ax_ix i n = true then some (pc + 1, L, S, ax_set h q (.inl (t, n, .inr (.inl (vp_updL f i.toNatClampNeg x))))) else none
      | _ => none) = _
  rw [hq]
  try dsimp only
  rw [if_pos ⟨rfl, hi⟩, hh, hn]
theorem r_div {x y : Int32} (hf : ax_fd cd pc = some (pc, .idiv, 1, a, b, c)) (hy : ¬ y = 0) (hn : pc + 1 = pc') (kk : ax_R fr lo cd rt pc' L (.int (x / y) :: S) h r h') : ax_R fr lo cd rt pc L (.int y :: .int x :: S) h r h' := by
  refine r_s hf rfl ?_ kk
  show (if y = 0 then none else some (pc + 1, L, .int (x / y) :: S, h)) = _
  rw [if_neg hy, hn]
theorem r_rem {x y : Int32} (hf : ax_fd cd pc = some (pc, .irem, 1, a, b, c)) (hy : ¬ y = 0) (hn : pc + 1 = pc') (kk : ax_R fr lo cd rt pc' L (.int (x - x / y * y) :: S) h r h') : ax_R fr lo cd rt pc L (.int y :: .int x :: S) h r h' := by
  refine r_s hf rfl ?_ kk
  show (if y = 0 then none else some (pc + 1, L, .int (x - x / y * y) :: S, h)) = _
  rw [if_neg hy, hn]
end RR
