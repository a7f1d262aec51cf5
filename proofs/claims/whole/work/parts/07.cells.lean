/-! What the tables say, in the form in which the rows of the kit ask for it; cells read and written. -/
theorem ax_FR_use {o idx : Nat} {e : ax_En} (h : ax_okF o idx e = true) : ∃ q : vw_C, ax_cl[e.2.2.2.1]? = some q ∧ e.2.2.2.2.1 < q.2.2 ∧ Cond.fieldLink (ax_own o) idx q.1 (q.2.1 e.2.2.2.2.1).2.1 (q.2.1 e.2.2.2.2.1).2.2.1 ∈ ax_G ∧ (q.2.1 e.2.2.2.2.1).1 = q.1 := by
  unfold ax_okF at h
  split at h
  · rename_i r hr
    simp only [Bool.and_eq_true, beq_iff_eq] at h
    obtain ⟨⟨⟨h1, h2⟩, h3⟩, h4⟩ := h
    have hb : ax_FRb r = true := List.all_eq_true.mp ax_FR_ok r (List.mem_of_getElem? hr)
    unfold ax_FRb at hb
    rw [h3, h4, h1, h2] at hb
    split at hb
    · rename_i q hq
      simp only [Bool.and_eq_true, decide_eq_true_eq] at hb
      exact ⟨q, hq, hb.1.1, ax_tin hb.1.2 rfl, hb.2⟩
    · cases hb
  · cases h
theorem ax_lp_use {ci : Nat} {C : String} {T : u_T} {N : Nat} {lp : List (Nat × Nat)} (h : lp.all (ax_lpb ci C T) = true) (hm : lp.map (fun z => z.1) = List.range N) : ∀ k, k < N → u_lay C T k ∈ ax_G ∧ parseFieldDescriptor (T k).2.2.1 = some (ax_ty ci k) := by
  intro k hk
  have h1 : k ∈ lp.map (fun z => z.1) := by rw [hm]; exact List.mem_range.mpr hk
  obtain ⟨z, hz, rfl⟩ := List.mem_map.mp h1
  have h2 := List.all_eq_true.mp h z hz
  unfold ax_lpb at h2
  simp only [Bool.and_eq_true, decide_eq_true_eq] at h2
  refine ⟨ax_tin h2.1 ?_, h2.2⟩
  unfold u_lay
  split <;> rfl
theorem ax_cl_use1 {ci : Nat} {C : String} {T : u_T} {N : Nat} {lp : List (Nat × Nat)} {i : Nat} (h : lp.all (ax_lpb ci C T) = true) (hi : tables_1[i]? = some (Cond.instantiable C N) ∧ lp.map (fun z => z.1) = List.range N) : (∀ w ∈ u_ws C T N, w ∈ ax_G) ∧ (∀ k, k < N → parseFieldDescriptor (T k).2.2.1 = some (ax_ty ci k)) ∧ Cond.instantiable C N ∈ ax_G := by
  refine ⟨fun w hw => ?_, fun k hk => (ax_lp_use h hi.2 k hk).2, ax_tin hi.1 rfl⟩
  obtain ⟨k, hk, rfl⟩ := List.mem_map.mp hw
  exact (ax_lp_use h hi.2 k (List.mem_range.mp hk)).1
def ax_cF (ci : Nat) (q : vw_C) : Prop := (∀ w ∈ u_ws q.1 q.2.1 q.2.2, w ∈ ax_G) ∧ (∀ k, k < q.2.2 → parseFieldDescriptor (q.2.1 k).2.2.1 = some (ax_ty ci k)) ∧ Cond.instantiable q.1 q.2.2 ∈ ax_G
theorem ax_cl_F {ci : Nat} {q : vw_C} (h : ax_cl[ci]? = some q) : ax_cF ci q := by
  match ci, h with
  | 0, h => cases h; exact ax_cl_use1 ax_lk0 ax_li0
  | 1, h => cases h; exact ax_cl_use1 ax_lk1 ax_li1
  | 2, h => cases h; exact ax_cl_use1 ax_lk2 ax_li2
  | 3, h => cases h; exact ax_cl_use1 ax_lk3 ax_li3
  | 4, h => cases h; exact ax_cl_use1 ax_lk4 ax_li4
  | 5, h => cases h; exact ax_cl_use1 ax_lk5 ax_li5
  | 6, h => cases h; exact ax_cl_use1 ax_lk6 ax_li6
  | 7, h => cases h; exact ax_cl_use1 ax_lk7 ax_li7
  | 8, h => cases h; exact ax_cl_use1 ax_lk8 ax_li8
  | 9, h => cases h; exact ax_cl_use1 ax_lk9 ax_li9
  | 10, h => cases h; exact ax_cl_use1 ax_lk10 ax_li10
  | 11, h => cases h; exact ax_cl_use1 ax_lk11 ax_li11
  | 12, h => cases h; exact ax_cl_use1 ax_lk12 ax_li12
  | ci + 13, h => exact absurd h (by simp [ax_cl])
theorem ax_cl_nf {ci : Nat} {q : vw_C} (h : ax_cl[ci]? = some q) : ax_nf ci = q.2.2 := by unfold ax_nf; rw [h]
theorem ax_cl_nmF {ci : Nat} {q : vw_C} (h : ax_cl[ci]? = some q) : ∀ a, a < q.2.2 → ∀ b, b < q.2.2 → a ≠ b → (q.2.1 a).2.1 ≠ (q.2.1 b).2.1 := by
  have h1 := List.all_eq_true.mp ax_cl_nm q (List.mem_of_getElem? h)
  have h2 : ((List.range q.2.2).map (fun k => (q.2.1 k).2.1)).Nodup := by simpa using h1
  have h3 := List.pairwise_iff_getElem.mp h2
  have lt : ∀ a b, a < q.2.2 → b < q.2.2 → a < b → (q.2.1 a).2.1 ≠ (q.2.1 b).2.1 := by
    intro a b ha hb hab
    have := h3 a b (by simpa using ha) (by simpa using hb) hab
    simpa using this
  intro a ha b hb hne
  rcases Nat.lt_or_gt_of_ne hne with q1 | q1
  · exact lt a b ha hb q1
  · exact fun e => lt b a hb ha q1 e.symm
theorem ax_ini_in {o : Nat} (h : o < 17) : Cond.initialized (ax_own o) ∈ ax_G := by
  have h1 := List.all_eq_true.mp ax_ip_ok o (List.mem_range.mpr h)
  simp only [decide_eq_true_eq] at h1
  obtain ⟨i, -, hi⟩ := Option.bind_eq_some_iff.mp h1
  exact ax_tin hi rfl
theorem ax_cl_own {ci : Nat} {q : vw_C} (h : ax_cl[ci]? = some q) : q.1 = ax_own ci ∧ ci < 13 := by
  match ci, h with
  | 0, h => cases h; exact ⟨rfl, by omega⟩
  | 1, h => cases h; exact ⟨rfl, by omega⟩
  | 2, h => cases h; exact ⟨rfl, by omega⟩
  | 3, h => cases h; exact ⟨rfl, by omega⟩
  | 4, h => cases h; exact ⟨rfl, by omega⟩
  | 5, h => cases h; exact ⟨rfl, by omega⟩
  | 6, h => cases h; exact ⟨rfl, by omega⟩
  | 7, h => cases h; exact ⟨rfl, by omega⟩
  | 8, h => cases h; exact ⟨rfl, by omega⟩
  | 9, h => cases h; exact ⟨rfl, by omega⟩
  | 10, h => cases h; exact ⟨rfl, by omega⟩
  | 11, h => cases h; exact ⟨rfl, by omega⟩
  | 12, h => cases h; exact ⟨rfl, by omega⟩
  | ci + 13, h => exact absurd h (by simp [ax_cl])
/-! the heap -/
theorem ax_am_pos {n0 b k : Nat} (h : ¬ k = 0) : ax_am n0 b k = n0 + (k - 1) := by unfold ax_am; rw [if_neg h]
theorem ax_W.cell {n0 b : Nat} {D : va_G} {cA : Nat → ClassId} {h : ax_H} {H : Heap} (hW : ax_W n0 b D cA h H) {k : Nat} (h0 : ¬ k = 0) (hk : h.2.2 k ≠ ax_no) : va_at D ax_cl (ax_am n0 b k, ax_e n0 b cA (h.2.2 k)) H ∧ k < h.1 := by
  have hl : k < h.1 := Nat.lt_of_not_le fun q => hk (hW.2.2.2 k q)
  rw [ax_am_pos h0]
  exact ⟨hW.2.2.1 k (by omega) hl, hl⟩
theorem ax_W.set {n0 b : Nat} {D : va_G} {cA : Nat → ClassId} {h : ax_H} {H H1 : Heap} (hW : ax_W n0 b D cA h H) {k : Nat} {x : ax_E} (h0 : ¬ k = 0) (hl : k < h.1) (z : H1.size = H.size) (oq : ∀ q : Nat, q ≠ ax_am n0 b k → H1[q]? = H[q]?) (he : va_at D ax_cl (ax_am n0 b k, ax_e n0 b cA x) H1) : ax_W n0 b D cA (ax_set h k x) H1 := by
  obtain ⟨h1, h2, h3, h4⟩ := hW
  rw [ax_am_pos h0] at oq he
  refine ⟨by rw [z]; exact h1, h2, fun j hj1 hj2 => ?_, fun j hj => ?_⟩
  · show va_at D ax_cl (n0 + (j - 1), ax_e n0 b cA (va_up h.2.2 k x j)) H1
    by_cases e : j = k
    · subst e
      rw [va_up_self]
      exact he
    · rw [va_up_ne _ _ e]
      exact (h3 j hj1 hj2).kept (oq _ (by show n0 + (j - 1) ≠ n0 + (k - 1); omega))
  · have e : j ≠ k := fun q => by subst q; exact absurd hl (Nat.not_lt.mpr hj)
    show va_up h.2.2 k x j = ax_no
    rw [va_up_ne _ _ e]
    exact h4 j hj
theorem ax_W.new {n0 b : Nat} {D : va_G} {cA : Nat → ClassId} {h : ax_H} {H H1 : Heap} (hW : ax_W n0 b D cA h H) {n : Nat} {x : ax_E} (z : H1.size = H.size + 1) (oq : ∀ q : Nat, q < H.size → H1[q]? = H[q]?) (he : va_at D ax_cl (H.size, ax_e n0 b cA x) H1) : ax_W n0 b D cA (ax_new h n x) H1 := by
  obtain ⟨h1, h2, h3, h4⟩ := hW
  refine ⟨by show H1.size + 1 = n0 + (h.1 + 1); omega, by show 1 ≤ h.1 + 1; omega, fun j hj1 hj2 => ?_, fun j hj => ?_⟩
  · show va_at D ax_cl (n0 + (j - 1), ax_e n0 b cA (va_up h.2.2 h.1 x j)) H1
    by_cases e : j = h.1
    · subst e
      rw [va_up_self, show n0 + (h.1 - 1) = H.size by omega]
      exact he
    · have hj3 : j < h.1 := by have : j < h.1 + 1 := hj2; omega
      rw [va_up_ne _ _ e]
      exact (h3 j hj1 hj3).kept (oq _ (by show n0 + (j - 1) < H.size; omega))
  · have hj3 : h.1 + 1 ≤ j := hj
    show va_up h.2.2 h.1 x j = ax_no
    rw [va_up_ne _ _ (by omega)]
    exact h4 j (by omega)
theorem ax_P1 {D : va_G} {cl : List vw_C} {q : Nat × va_E} {H : Heap} (h : va_at D cl q H) : va_P D cl [q] H := by
  intro k x hx
  cases k with
  | zero => cases hx; exact h
  | succ k => simp at hx
theorem ax_fs_at {n0 b N k : Nat} {f : Nat → Value} (hk : k < N) : ((List.range N).map (fun j => ax_v n0 b (f j)))[k]? = some (ax_v n0 b (f k)) := by
  rw [List.getElem?_map, List.getElem?_range hk]; rfl
theorem ax_fs_set {n0 b N k : Nat} {f : Nat → Value} {v : Value} (hk : k < N) : (List.range N).map (fun j => ax_v n0 b (va_up f k v j)) = ((List.range N).map (fun j => ax_v n0 b (f j))).set k (ax_v n0 b v) := by
  apply List.ext_getElem?
  intro j
  rw [List.getElem?_set]
  by_cases hj : j < N
  · rw [List.getElem?_map, List.getElem?_range hj]
    by_cases e : k = j
    · subst e
      simp [va_up_self, hj]
    · simp [va_up_ne _ _ (Ne.symm e), e, hj]
  · rw [List.getElem?_eq_none (by simpa using hj)]
    by_cases e : k = j
    · omega
    · rw [if_neg e, List.getElem?_eq_none (by simpa using hj)]
theorem ax_st_i (cA : ClassId) (n j : Nat) (f : Nat → Int32) (x : Int32) : (vp_cell cA (n, .inl f)).setSlot j (.int x) = vp_cell cA (n, .inl (upd f j x)) := by
  rw [vp_cell_i, vp_cell_i, arrV_store]
  congr 1
  funext q
  by_cases hq : q = j
  · subst hq; simp [updV, upd]
  · simp [updV, upd, hq]
theorem ax_st_l (cA : ClassId) (n j : Nat) (f : Nat → Int64) (x : Int64) : (vp_cell cA (n, .inr (.inl f))).setSlot j (.long x) = vp_cell cA (n, .inr (.inl (vp_updL f j x))) := by
  rw [vp_cell_l, vp_cell_l, arrV_store]
  congr 1
  funext q
  by_cases hq : q = j
  · subst hq; simp [updV, vp_updL]
  · simp [updV, vp_updL, hq]
theorem ax_st_q (cA : ClassId) (n j : Nat) (f : Nat → Option Nat) (x : Nat) : (vp_cell cA (n, .inr (.inr (.inr (.inr f))))).setSlot j (.ref x) = vp_cell cA (n, .inr (.inr (.inr (.inr (va_up f j (some x)))))) := by
  rw [vp_cell_q, vp_cell_q, arrV_store]
  congr 1
  funext q
  by_cases hq : q = j
  · subst hq; simp [updV, va_up, va_rf]
  · simp [updV, va_up, hq]
theorem ax_ix_use {i : Int32} {n : Nat} (h : ax_ix i n = true) : vp_in i n := by
  unfold ax_ix at h
  simp only [Bool.and_eq_true, decide_eq_true_eq] at h
  exact fun q => q.elim h.1 (fun q => absurd h.2 (Nat.not_lt.mpr q))
theorem ax_tys_at {cA : Nat → ClassId} {t : Nat} (h : t ≤ 4) : (ax_tys cA)[t]? = some (cA t, (ax_tys cA)[t]?.elim .int (fun q => q.2)) := by
  match t, h with
  | 0, _ => rfl
  | 1, _ => rfl
  | 2, _ => rfl
  | 3, _ => rfl
  | 4, _ => rfl
  | t + 5, h => omega
