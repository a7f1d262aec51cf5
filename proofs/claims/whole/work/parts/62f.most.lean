/-! How many steps: places, values in their order, sums told by values. -/
theorem sm_add {α : Type} {f f' : α → Nat} : ∀ {l : List α}, (l.map (fun a => f a + f' a)).sum = (l.map f).sum + (l.map f').sum := by
  intro l
  induction l with
  | nil => rfl
  | cons a l ih =>
    rw [List.map_cons, List.map_cons, List.map_cons, List.sum_cons, List.sum_cons, List.sum_cons, ih]
    omega
theorem sm_0 {α : Type} {f : α → Nat} : ∀ {l : List α}, (∀ a, a ∈ l → f a = 0) → (l.map f).sum = 0 := by
  intro l
  induction l with
  | nil => intro _; rfl
  | cons a l ih =>
    intro h
    rw [List.map_cons, List.sum_cons, h a List.mem_cons_self, ih (fun b hb => h b (List.mem_cons_of_mem _ hb))]
theorem sm_cg {α : Type} {f f' : α → Nat} {l : List α} (h : ∀ a, a ∈ l → f a = f' a) : (l.map f).sum = (l.map f').sum := by
  rw [List.map_congr_left h]
theorem sm_mul {α : Type} {q : α → Bool} {z : Nat} : ∀ {l : List α}, (l.map (fun a => if q a = true then z else 0)).sum = (l.map (fun a => if q a = true then 1 else 0)).sum * z := by
  intro l
  induction l with
  | nil => exact (Nat.zero_mul _).symm
  | cons a l ih =>
    rw [List.map_cons, List.map_cons, List.sum_cons, List.sum_cons, ih, Nat.add_mul]
    by_cases h : q a = true
    · rw [if_pos h, if_pos h, Nat.one_mul]
    · rw [if_neg h, if_neg h, Nat.zero_mul]
theorem sm_fil {α : Type} {q : α → Bool} {f : α → Nat} : ∀ {l : List α}, ((l.filter q).map f).sum = (l.map (fun a => if q a = true then f a else 0)).sum := by
  intro l
  induction l with
  | nil => rfl
  | cons a l ih =>
    rw [List.filter_cons, List.map_cons, List.sum_cons]
    by_cases h : q a = true
    · rw [if_pos h, if_pos h, List.map_cons, List.sum_cons, ih]
    · rw [if_neg h, if_neg h, ih]
      omega
theorem sm_one {k : List Int} {z : Nat} : ∀ {R : List (List Int)}, R.Nodup → (R.map (fun p => if k = p then z else 0)).sum ≤ z := by
  intro R
  induction R with
  | nil => intro _; exact Nat.zero_le _
  | cons p R ih =>
    intro h
    obtain ⟨h1, h2⟩ := List.nodup_cons.mp h
    rw [List.map_cons, List.sum_cons]
    by_cases q : k = p
    · rw [if_pos q, sm_0 (fun a ha => if_neg (fun w => h1 (by rw [← q, w]; exact ha)))]
      exact Nat.le_refl _
    · rw [if_neg q]
      have := ih h2
      omega
theorem sm_mem {k : List Int} {z : Nat} : ∀ {R : List (List Int)}, k ∈ R → z ≤ (R.map (fun p => if k = p then z else 0)).sum := by
  intro R
  induction R with
  | nil => intro h; cases h
  | cons p R ih =>
    intro h
    rw [List.map_cons, List.sum_cons]
    by_cases q : k = p
    · rw [if_pos q]; omega
    · have := ih ((List.mem_cons.mp h).resolve_left q)
      omega
theorem grp_le {α : Type} {κ : α → List Int} {G : α → Nat} {R : List (List Int)} (hR : R.Nodup) : ∀ {l : List α}, (R.map (fun p => (l.map (fun a => if κ a = p then G a else 0)).sum)).sum ≤ (l.map G).sum := by
  intro l
  induction l with
  | nil => exact Nat.le_of_eq (sm_0 (fun _ _ => rfl))
  | cons a l ih =>
    have e : (R.map (fun p => ((a :: l).map (fun a => if κ a = p then G a else 0)).sum)) = R.map (fun p => (if κ a = p then G a else 0) + (l.map (fun a => if κ a = p then G a else 0)).sum) := List.map_congr_left (fun p _ => by rw [List.map_cons, List.sum_cons])
    rw [e, sm_add, List.map_cons, List.sum_cons]
    exact Nat.add_le_add (sm_one hR) ih
theorem grp_ge {α : Type} {κ : α → List Int} {G : α → Nat} {R : List (List Int)} : ∀ {l : List α}, (∀ a, a ∈ l → ¬ G a = 0 → κ a ∈ R) → (l.map G).sum ≤ (R.map (fun p => (l.map (fun a => if κ a = p then G a else 0)).sum)).sum := by
  intro l
  induction l with
  | nil => intro _; exact Nat.zero_le _
  | cons a l ih =>
    intro h
    have e : (R.map (fun p => ((a :: l).map (fun a => if κ a = p then G a else 0)).sum)) = R.map (fun p => (if κ a = p then G a else 0) + (l.map (fun a => if κ a = p then G a else 0)).sum) := List.map_congr_left (fun p _ => by rw [List.map_cons, List.sum_cons])
    rw [e, sm_add, List.map_cons, List.sum_cons]
    refine Nat.add_le_add ?_ (ih (fun b hb => h b (List.mem_cons_of_mem _ hb)))
    by_cases q : G a = 0
    · rw [q]; exact Nat.zero_le _
    · exact sm_mem (h a List.mem_cons_self q)
theorem rg3 {F : Nat → Nat} {m : Nat} (h : m ≤ 3) : ((List.range' 0 m).map F).sum = (([0, 1, 2] : List Nat).map (fun i => if i < m then F i else 0)).sum := by
  match m, h with
  | 0, _ => rfl
  | 1, _ => rfl
  | 2, _ => rfl
  | 3, _ => rfl
/-- put in by length -/
def insV (v : List Int) : List (List Int) → List (List Int)
  | [] => [v]
  | a :: l => if v.length ≤ a.length then v :: a :: l else a :: insV v l
def mkV : List (List Int) → List (List Int)
  | [] => []
  | v :: l => if v ∈ mkV l then mkV l else insV v (mkV l)
theorem insV_mem {v x : List Int} : ∀ {l : List (List Int)}, x ∈ insV v l ↔ x = v ∨ x ∈ l := by
  intro l
  induction l with
  | nil => exact List.mem_cons
  | cons a l ih =>
    unfold insV
    by_cases h : v.length ≤ a.length
    · rw [if_pos h]; exact List.mem_cons
    · rw [if_neg h, List.mem_cons, ih, List.mem_cons]
      exact ⟨fun w => w.elim (fun w => Or.inr (Or.inl w)) (fun w => w.elim Or.inl (fun w => Or.inr (Or.inr w))), fun w => w.elim (fun w => Or.inr (Or.inl w)) (fun w => w.elim Or.inl (fun w => Or.inr (Or.inr w)))⟩
def srt : List (List Int) → Prop
  | [] => True
  | v :: l => (∀ a, a ∈ l → v.length ≤ a.length ∧ ¬ a = v) ∧ srt l
theorem insV_srt {v : List Int} : ∀ {l : List (List Int)}, srt l → ¬ v ∈ l → srt (insV v l) := by
  intro l
  induction l with
  | nil => intro _ _; exact ⟨fun a ha => (by cases ha), trivial⟩
  | cons a l ih =>
    intro h hv
    obtain ⟨h1, h2⟩ := h
    unfold insV
    by_cases q : v.length ≤ a.length
    · rw [if_pos q]
      refine ⟨fun b hb => ?_, h1, h2⟩
      rcases List.mem_cons.mp hb with w | w
      · rw [w]
        exact ⟨q, fun w2 => hv (by rw [← w2]; exact List.mem_cons_self)⟩
      · exact ⟨Nat.le_trans q (h1 b w).1, fun w2 => hv (by rw [← w2]; exact List.mem_cons_of_mem _ w)⟩
    · rw [if_neg q]
      refine ⟨fun b hb => ?_, ih h2 (fun w => hv (List.mem_cons_of_mem _ w))⟩
      rcases insV_mem.mp hb with w | w
      · rw [w]
        exact ⟨by omega, fun w2 => hv (by rw [w2]; exact List.mem_cons_self)⟩
      · exact h1 b w
theorem mkV_ok : ∀ {l : List (List Int)}, srt (mkV l) ∧ ∀ x, x ∈ mkV l ↔ x ∈ l := by
  intro l
  induction l with
  | nil => exact ⟨trivial, fun x => Iff.rfl⟩
  | cons v l ih =>
    obtain ⟨i1, i2⟩ := ih
    unfold mkV
    by_cases q : v ∈ mkV l
    · rw [if_pos q]
      refine ⟨i1, fun x => ?_⟩
      rw [List.mem_cons, i2]
      exact ⟨Or.inr, fun w => w.elim (fun w => by rw [w]; exact (i2 v).mp q) (fun w => w)⟩
    · rw [if_neg q]
      refine ⟨insV_srt i1 q, fun x => ?_⟩
      rw [insV_mem, i2, List.mem_cons]
theorem srt_nd : ∀ {l : List (List Int)}, srt l → l.Nodup := by
  intro l
  induction l with
  | nil => intro _; exact List.nodup_nil
  | cons v l ih =>
    rintro ⟨h1, h2⟩
    exact List.nodup_cons.mpr ⟨fun w => (h1 v w).2 rfl, ih h2⟩
def chP (g : zH) (N : Int) (β : List (Int × Int)) (f : Int → Nat) (n : Int) : Nat := ((List.range' 0 (pN (gh g n))).map (fun i => f (sv g N β (gp g n i)))).sum
section ZMq
variable {g : zH} {N : Int} {β βe : List (Int × Int)} {x y u t : Int}
/-- the places of a node -/
theorem pos_ex (hz : zok g N) (hb : bok g N β) (ha : acy g N β) : ∀ x, 0 ≤ x → x < N → ∃ Rs : List Int, sv g N β x ∈ Rs ∧ sml g N β Rs ∧ Rs.length = (ex g N β x).length ∧ (∀ m, m ∈ Rs → svd g β m) ∧ ∀ f : Int → Nat, (Rs.map f).sum = f (sv g N β x) + (Rs.map (chP g N β f)).sum := by
  refine zind hz hb ha (fun n h0 h1 hu hf => ?_) (fun n h0 h1 hu hf b0 b1 ih => ?_) (fun n h0 h1 hu ih => ?_)
  · rw [sv_id hz hb ha h0 h1 (fun _ => hf), ex_un hz hb ha h0 h1 hu hf]
    refine ⟨[n], List.mem_cons_self, fun m hm => ?_, rfl, fun m hm => ?_, fun f => ?_⟩
    · have : m = n := by simpa using hm
      rw [this]
      exact ⟨h0, h1, fun k hk => by rw [hu] at hk; exact absurd hk (Nat.not_lt_zero k)⟩
    · have : m = n := by simpa using hm
      rw [this]
      exact fun _ => hf
    · have e : chP g N β f n = 0 := by
        unfold chP
        rw [hu]
        rfl
      show f n + 0 = f n + (chP g N β f n + 0)
      rw [e]
  · rw [sv_bd hz hb ha hf, ex_bd hz hb ha hf]; exact ih
  · rw [sv_id hz hb ha h0 h1 (fun q => absurd q hu)]
    have key : ∀ j, j ≤ pN (gh g n) → ∃ Rs : List Int, (∀ k, k < j → sv g N β (gp g n k) ∈ Rs) ∧ sml g N β Rs ∧ Rs.length = ((List.range' 0 j).map (fun k => (ex g N β (gp g n k)).length)).sum ∧ (∀ m, m ∈ Rs → svd g β m) ∧ ∀ f : Int → Nat, (Rs.map f).sum = ((List.range' 0 j).map (fun i => f (sv g N β (gp g n i)))).sum + (Rs.map (chP g N β f)).sum := by
      intro j
      induction j with
      | zero => intro _; exact ⟨[], fun k hk => absurd hk (Nat.not_lt_zero k), fun m hm => (by cases hm), rfl, fun m hm => (by cases hm), fun f => rfl⟩
      | succ j ihj =>
        intro hj
        obtain ⟨Rs, r1, r2, r3, r4, r5⟩ := ihj (by omega)
        have p := (hz n h0 h1).2 j (by omega)
        obtain ⟨Rt, s1, s2, s3, s4, s5⟩ := ih j (by omega) p.1 (by omega)
        refine ⟨Rs ++ Rt, fun k hk => ?_, sml_app r2 s2, ?_, fun m hm => ?_, fun f => ?_⟩
        · by_cases q : k = j
          · rw [q]; exact List.mem_append_right _ s1
          · exact List.mem_append_left _ (r1 k (by omega))
        · rw [List.length_append, List.range'_concat, List.map_append, List.sum_append, r3, s3]
          simp
        · rcases List.mem_append.mp hm with w | w
          · exact r4 m w
          · exact s4 m w
        · rw [List.map_append, List.map_append, List.sum_append, List.sum_append, List.range'_concat, List.map_append, List.sum_append, r5 f, s5 f]
          simp
          omega
    obtain ⟨Rs, r1, r2, r3, r4, r5⟩ := key (pN (gh g n)) (Nat.le_refl _)
    refine ⟨n :: Rs, List.mem_cons_self, fun m hm => ?_, ?_, fun m hm => ?_, fun f => ?_⟩
    · rcases List.mem_cons.mp hm with w | w
      · rw [w]
        exact ⟨h0, h1, fun k hk => List.mem_cons_of_mem _ (r1 k hk)⟩
      · obtain ⟨m0, m1, m2⟩ := r2 m w
        exact ⟨m0, m1, fun k hk => List.mem_cons_of_mem _ (m2 k hk)⟩
    · rw [List.length_cons, ex_clen hz hb ha h0 h1 hu, r3]
    · rcases List.mem_cons.mp hm with w | w
      · rw [w]; exact fun q => absurd q hu
      · exact r4 m w
    · rw [List.map_cons, List.map_cons, List.sum_cons, List.sum_cons, r5 f]
      rfl
end ZMq
