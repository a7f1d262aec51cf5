/-! The plan's rows; what lies among what a goal comes to. -/
def arI (i : zI) : Nat := match i with
  | .inl r => r.2.2.2.2.2.1.toNat
  | .inr _ => 0
def rdA : List Nat → Nat → Option (List Nat)
  | l, 0 => some l
  | [], _ + 1 => none
  | a :: l, k + 1 => rdA l (k + a)
/-- a row of the plan is a node of a tree, at its place -/
def rowI (σ : jS) (r : Int) (i : zI) (u : Int × Int) : Prop := ra σ 6001 1 (r * 8 + 1) = u.1 ∧ ra σ 6001 1 (r * 8 + 2) = u.2 ∧ match i with
  | .inl z => ra σ 6001 1 (r * 8 + 0) = z.1 ∧ ra σ 6001 1 (r * 8 + 3) = z.2.1 ∧ ra σ 6001 1 (r * 8 + 4) = z.2.2.1 ∧ ra σ 6001 1 (r * 8 + 5) = z.2.2.2.1 ∧ ra σ 6001 1 (r * 8 + 6) = z.2.2.2.2.2.2.1 ∧ ra σ 6001 1 (r * 8 + 7) = -1
  | .inr m => ra σ 6001 1 (r * 8 + 7) = (m : Nat)
def planS (σ : jS) : Int → List (Int × Int) → List zI → Prop
  | _, _, [] => True
  | p, st, i :: t => rowI σ p i (st.headD (-1, -1)) ∧ planS σ (p + 1) ((List.range (arI i)).map (fun k : Nat => (p, (k : Int))) ++ st.tail) t
theorem planS_app {σ : jS} {st2 : List (Int × Int)} {t2 : List zI} : ∀ {t1 : List zI} {p : Int} {st1 : List (Int × Int)}, rdA (t1.map arI) st1.length = some [] → (planS σ p (st1 ++ st2) (t1 ++ t2) ↔ planS σ p st1 t1 ∧ planS σ (p + (t1.length : Nat)) st2 t2) := by
  intro t1
  induction t1 with
  | nil =>
    intro p st1 h
    cases st1 with
    | nil =>
      show planS σ p st2 t2 ↔ True ∧ planS σ (p + ((0 : Nat) : Int)) st2 t2
      rw [show p + ((0 : Nat) : Int) = p by omega]
      exact ⟨fun q => ⟨trivial, q⟩, fun q => q.2⟩
    | cons u st1 => cases h
  | cons i t1 ih =>
    intro p st1 h
    cases st1 with
    | nil => cases h
    | cons u st1 =>
      have h2 : rdA (t1.map arI) (((List.range (arI i)).map (fun k : Nat => (p, (k : Int))) ++ st1).length) = some [] := by
        have : ((List.range (arI i)).map (fun k : Nat => (p, (k : Int))) ++ st1).length = st1.length + arI i := by simp; omega
        rw [this]
        exact h
      have := ih (p := p + 1) h2
      show rowI σ p i u ∧ planS σ (p + 1) ((List.range (arI i)).map (fun k : Nat => (p, (k : Int))) ++ (st1 ++ st2)) (t1 ++ t2) ↔ (rowI σ p i u ∧ planS σ (p + 1) ((List.range (arI i)).map (fun k : Nat => (p, (k : Int))) ++ st1) t1) ∧ planS σ (p + ((t1.length + 1 : Nat) : Int)) st2 t2
      rw [← List.append_assoc, this, show p + 1 + ((t1.length : Nat) : Int) = p + ((t1.length + 1 : Nat) : Int) by omega]
      exact ⟨fun q => ⟨⟨q.1, q.2.1⟩, q.2.2⟩, fun q => ⟨q.1.1, q.1.2, q.2⟩⟩
theorem planS_cong {σ σ' : jS} : ∀ {t : List zI} {p : Int} {st : List (Int × Int)}, (∀ i, p * 8 ≤ i → i < (p + (t.length : Nat)) * 8 → ra σ' 6001 1 i = ra σ 6001 1 i) → planS σ p st t → planS σ' p st t := by
  intro t
  induction t with
  | nil => intro p st _ _; trivial
  | cons i t ih =>
    intro p st h hp
    rw [List.length_cons] at h
    obtain ⟨h1, h2⟩ := hp
    refine ⟨?_, ih (fun j j0 j1 => h j (by omega) (by omega)) h2⟩
    have e : ∀ c : Int, 0 ≤ c → c < 8 → ra σ' 6001 1 (p * 8 + c) = ra σ 6001 1 (p * 8 + c) := fun c c0 c1 => h _ (by omega) (by omega)
    unfold rowI at h1 ⊢
    rw [e 1 (by omega) (by omega), e 2 (by omega) (by omega), e 0 (by omega) (by omega), e 3 (by omega) (by omega), e 4 (by omega) (by omega), e 5 (by omega) (by omega), e 6 (by omega) (by omega), e 7 (by omega) (by omega)]
    exact h1
theorem rdA_app : ∀ {l : List Nat} {k : Nat} {m : List Nat}, rdA l k = some [] → ∀ j, rdA (l ++ m) (k + j) = rdA m j := by
  intro l
  induction l with
  | nil =>
    intro k m h j
    cases k with
    | zero => rw [Nat.zero_add]; rfl
    | succ k => cases h
  | cons a l ih =>
    intro k m h j
    cases k with
    | zero => cases h
    | succ k =>
      have h' : rdA l (k + a) = some [] := h
      have := ih (m := m) h' j
      rw [show k + 1 + j = (k + j) + 1 by omega]
      show rdA (l ++ m) (k + j + a) = _
      rw [show k + j + a = k + a + j by omega]
      exact this
section ZPl
variable {g g' : zH} {N N' : Int} {β new : List (Int × Int)} {x y u t : Int} {K : Int → Prop}
/-- new nodes, and what stands below the letters of a goal -/
def kx (g : zH) (N : Int) (β : List (Int × Int)) (x : Int) : Int → Prop := fun m => N ≤ m ∨ ∀ v, v < 0 → v ∈ ex g N β m → v ∈ ex g N β x
theorem kx_clo (hz : zok g N) (hb : bok g N β) (ha : acy g N β) : eclo g N β (kx g N β x) := fun m hm m0 m1 => by
  have hm := hm.resolve_left (by omega)
  refine ⟨fun k hk => Or.inr (fun v hv hvm => ?_), fun hbm => Or.inr (fun v hv hvm => ?_)⟩
  · have hu : ¬ gh g m = -1 := fun q => by
      rw [q] at hk
      exact absurd hk (Nat.not_lt_zero k)
    exact hm v hv ((ex_cmem hz hb ha m0 m1 hu hv).mpr ⟨k, hk, hvm⟩)
  · rw [← ex_bd hz hb ha hbm] at hvm
    exact hm v hv hvm
/-- more nodes, out of new ones alone -/
theorem eclo_ext (h : eclo g N β K) (hK : ∀ m, N ≤ m → K m) (ha : agr g g' N) (hf : ∀ m, N ≤ m → m < N' → ∀ k, k < pN (gh g' m) → N ≤ gp g' m k) (hb : bok g N β) : eclo g' N' β K := fun m hm m0 m1 => by
  by_cases q : m < N
  · obtain ⟨c1, c2⟩ := h m hm m0 q
    refine ⟨fun k hk => ?_, c2⟩
    rw [(ha m m0 q).2 k]
    exact c1 k (by rw [← (ha m m0 q).1]; exact hk)
  · refine ⟨fun k hk => hK _ (hf m (by omega) m1 k hk), fun w => ?_⟩
    have := bok_at hb w
    omega
/-- how many are tied, at the most -/
theorem new_len (hz : zok g N) (hb : bok g N β) (ha : acy g N β) (hag : agr g g' N) (hN : N ≤ N') (h0 : 0 ≤ N) (x0 : 0 ≤ x) (x1 : x < N) (hb2 : bok g' N' (new ++ β)) (hK : ∀ p, p ∈ new → kx g N β x p.1) : (new.length : Int) ≤ (ex g N β x).length + ((zu g' N' : Int) - zu g N) := by
  -- those that are tied
  have hnd : ∀ (A : List (Int × Int)), bok g' N' (A ++ β) → (A.map (fun p => p.1)).Nodup ∧ ∀ p, p ∈ A → 0 ≤ p.1 ∧ p.1 < N' ∧ gh g' p.1 = -1 ∧ bl β p.1 = -1 := by
    intro A
    induction A with
    | nil => intro _; exact ⟨List.nodup_nil, fun p hp => by cases hp⟩
    | cons p A ih =>
      obtain ⟨u, t⟩ := p
      rintro ⟨⟨a1, a2, a3, a4, a5, a6⟩, hbA⟩
      obtain ⟨i1, i2⟩ := ih hbA
      have hne : ∀ p, p ∈ A → ¬ p.1 = u := fun p hp e => by
        have hm : (u, p.2) ∈ A ++ β := List.mem_append_left _ (by rw [← e]; exact hp)
        have h1 := bl_mem hbA hm
        have h2 := bok_snd hbA _ hm
        dsimp only at h2
        omega
      have hbu : bl β u = -1 := by
        have : ∀ (A : List (Int × Int)), (∀ p, p ∈ A → ¬ p.1 = u) → bl (A ++ β) u = bl β u := by
          intro A
          induction A with
          | nil => intro _; rfl
          | cons p A ihA =>
            obtain ⟨u', t'⟩ := p
            intro hA
            rw [List.cons_append, bl_cons_ne (fun q => hA (u', t') List.mem_cons_self q.symm)]
            exact ihA (fun p hp => hA p (List.mem_cons_of_mem _ hp))
        rw [← this A hne]; exact a6
      refine ⟨?_, fun p hp => ?_⟩
      · rw [List.map_cons, List.nodup_cons]
        refine ⟨fun w => ?_, i1⟩
        obtain ⟨p, hp, e⟩ := List.mem_map.mp w
        exact hne p hp e
      · rcases List.mem_cons.mp hp with e | e
        · rw [e]; exact ⟨a1, a2, a3, hbu⟩
        · exact i2 p e
  obtain ⟨n1, n2⟩ := hnd new hb2
  have hsub : ∀ a, a ∈ new.map (fun p => p.1) → a ∈ (ex g N β x).map (fun v => -1 - v) ++ ((zrg N').filter (fun m => decide (N ≤ m ∧ gh g' m = -1))) := by
    intro a h
    obtain ⟨p, hp, e⟩ := List.mem_map.mp h
    obtain ⟨c1, c2, c3, c4⟩ := n2 p hp
    rw [← e]
    rcases hK p hp with w | w
    · exact List.mem_append_right _ (List.mem_filter.mpr ⟨mem_zrg c1 c2, decide_eq_true ⟨w, c3⟩⟩)
    · by_cases q : N ≤ p.1
      · exact List.mem_append_right _ (List.mem_filter.mpr ⟨mem_zrg c1 c2, decide_eq_true ⟨q, c3⟩⟩)
      · have hg : gh g p.1 = -1 := by rw [← (hag p.1 c1 (by omega)).1]; exact c3
        have := w (-1 - p.1) (by omega) (by rw [ex_un hz hb ha c1 (by omega) hg c4]; exact List.mem_cons_self)
        exact List.mem_append_left _ (List.mem_map.mpr ⟨_, this, by omega⟩)
  have hle := nodup_le n1 hsub
  rw [List.length_map, List.length_append, List.length_map] at hle
  have hz2 : (zu g' N' : Int) = zu g N + ((zrg N').filter (fun m => decide (N ≤ m ∧ gh g' m = -1))).length := by
    have key : ∀ (j : Nat), zu g' (N + (j : Nat)) = zu g' N + ((zrg (N + (j : Nat))).filter (fun m => decide (N ≤ m ∧ gh g' m = -1))).length := by
      intro j
      induction j with
      | zero =>
        have : (zrg (N + ((0 : Nat) : Int))).filter (fun m => decide (N ≤ m ∧ gh g' m = -1)) = [] := List.filter_eq_nil_iff.mpr (fun m hm => by
          have := mem_zrg_iff.mp hm
          intro w
          have := (of_decide_eq_true w).1
          omega)
        rw [this, show N + ((0 : Nat) : Int) = N by omega]
        rfl
      | succ j ih =>
        rw [show N + ((j + 1 : Nat) : Int) = N + (j : Nat) + 1 by omega, zrg_s (by omega), List.filter_append, List.length_append]
        have h1 : zu g' (N + (j : Nat) + 1) = zu g' (N + (j : Nat)) + (if gh g' (N + (j : Nat)) = -1 then 1 else 0) := by
          unfold zu
          rw [zrg_s (by omega), cnt_app]
          congr 1
          unfold cnt
          by_cases e : gh g' (N + (j : Nat)) = -1
          · rw [if_pos e, if_pos (decide_eq_true e)]; rfl
          · rw [if_neg e, if_neg (fun q => e (of_decide_eq_true q))]; rfl
        rw [h1, ih]
        by_cases e : gh g' (N + (j : Nat)) = -1
        · rw [if_pos e, List.filter_cons_of_pos (p := fun m => decide (N ≤ m ∧ gh g' m = -1)) (a := N + (j : Nat)) (l := []) (decide_eq_true (⟨by omega, e⟩ : N ≤ N + (j : Nat) ∧ gh g' (N + (j : Nat)) = -1))]
          simp
          omega
        · rw [if_neg e, List.filter_cons_of_neg (p := fun m => decide (N ≤ m ∧ gh g' m = -1)) (a := N + (j : Nat)) (l := []) (fun q => e (of_decide_eq_true q).2)]
          simp
    obtain ⟨j, hj⟩ := Int.eq_ofNat_of_zero_le (show 0 ≤ N' - N by omega)
    have := key j
    rw [show N + ((j : Nat) : Int) = N' by omega, zu_cong hag] at this
    omega
  omega
end ZPl
