/-! A tree that is told: who stands above whom, how deep. -/
def upsW : Int → List (Int × Int) → List zN → List (Int × Int)
  | _, _, [] => []
  | p, st, z :: t => st.headD (-1, -1) :: upsW (p + 1) ((List.range z.2.2.2.2.2.1.toNat).map (fun k : Nat => (p, (k : Int))) ++ st.tail) t
theorem upsW_len : ∀ {t : List zN} {p : Int} {st : List (Int × Int)}, (upsW p st t).length = t.length := by
  intro t
  induction t with
  | nil => intro p st; rfl
  | cons z t ih => intro p st; show (upsW _ _ t).length + 1 = t.length + 1; rw [ih]
theorem treeW_ups {σ : jS} {nb fb base : Int} : ∀ {t : List zN} {p : Int} {st : List (Int × Int)}, treeW σ nb fb base p st t → ∀ i : Nat, (h : i < t.length) → forN σ nb fb (base + (p + ((i : Nat) : Int))) t[i] ((upsW p st t).getD i (-1, -1)) := by
  intro t
  induction t with
  | nil => intro p st _ i h; exact absurd h (by simp)
  | cons z t ih =>
    intro p st h i hi
    obtain ⟨h1, h2⟩ := h
    cases i with
    | zero =>
      rw [show p + ((0 : Nat) : Int) = p by omega]
      exact h1
    | succ i =>
      have := ih h2 i (by rw [List.length_cons] at hi; omega)
      rw [show p + 1 + ((i : Nat) : Int) = p + ((i + 1 : Nat) : Int) by omega] at this
      exact this
theorem upsW_rng : ∀ {t : List zN} {p : Int} {st : List (Int × Int)}, 0 ≤ p → rdA (t.map arZ) st.length = some [] → (∀ u, u ∈ st → 0 ≤ u.1 ∧ u.1 < p) → ∀ i : Nat, i < t.length → 0 ≤ ((upsW p st t).getD i (-1, -1)).1 ∧ ((upsW p st t).getD i (-1, -1)).1 < p + ((i : Nat) : Int) := by
  intro t
  induction t with
  | nil => intro p st _ _ _ i h; exact absurd h (by simp)
  | cons z t ih =>
    intro p st p0 hw hst i hi
    cases st with
    | nil => cases hw
    | cons u st =>
      have hw2 : rdA (t.map arZ) (st.length + arZ z) = some [] := hw
      cases i with
      | zero =>
        have := hst u List.mem_cons_self
        show 0 ≤ u.1 ∧ u.1 < p + ((0 : Nat) : Int)
        omega
      | succ i =>
        have := ih (p := p + 1) (st := (List.range z.2.2.2.2.2.1.toNat).map (fun k : Nat => (p, (k : Int))) ++ st) (by omega) (by
          rw [List.length_append, List.length_map, List.length_range, Nat.add_comm]
          exact hw2) (fun v hv => by
          rcases List.mem_append.mp hv with w | w
          · obtain ⟨k, -, e⟩ := List.mem_map.mp w
            rw [← e]
            show 0 ≤ p ∧ p < p + 1
            omega
          · have := hst v (List.mem_cons_of_mem _ w)
            omega) i (by rw [List.length_cons] at hi; omega)
        show 0 ≤ ((upsW (p + 1) ((List.range z.2.2.2.2.2.1.toNat).map (fun k : Nat => (p, (k : Int))) ++ st) t).getD i (-1, -1)).1 ∧ ((upsW (p + 1) ((List.range z.2.2.2.2.2.1.toNat).map (fun k : Nat => (p, (k : Int))) ++ st) t).getD i (-1, -1)).1 < p + ((i + 1 : Nat) : Int)
        omega
/-- who stands above: the row, the need -/
def upT (W : List zN) (k : Int) : Int := ((upsW 0 [(-1, -1)] W).getD k.toNat (-1, -1)).1
def ndT (W : List zN) (k : Int) : Int := ((upsW 0 [(-1, -1)] W).getD k.toNat (-1, -1)).2
/-- a tree, as a whole -/
def trK (W : List zN) : Prop := rdA (W.map arZ) 1 = some [] ∧ W.length ≤ 200 ∧ ∀ z, z ∈ W → 0 ≤ z.1 ∧ z.1 < 24 ∧ 0 ≤ z.2.2.2.2.2.1 ∧ z.2.2.2.2.2.1 ≤ 4
theorem upT_0 {W : List zN} (h : rdA (W.map arZ) 1 = some []) : upT W 0 = -1 := by
  cases W with
  | nil => cases h
  | cons z t => rfl
theorem upT_rng {W : List zN} (h : rdA (W.map arZ) 1 = some []) {k : Int} (k0 : 0 ≤ k) (k1 : k < ((W.length : Nat) : Int)) : (k = 0 ∧ upT W k = -1) ∨ (1 ≤ k ∧ 0 ≤ upT W k ∧ upT W k < k) := by
  by_cases q : k = 0
  · subst q; exact Or.inl ⟨rfl, upT_0 h⟩
  · refine Or.inr ⟨by omega, ?_⟩
    cases W with
    | nil => cases h
    | cons z t =>
      have hw2 : rdA (t.map arZ) (0 + arZ z) = some [] := h
      rw [List.length_cons] at k1
      have := upsW_rng (t := t) (p := 1) (st := (List.range z.2.2.2.2.2.1.toNat).map (fun k : Nat => ((0 : Int), (k : Int))) ++ []) (by omega) (by
        rw [List.length_append, List.length_map, List.length_range, List.length_nil, Nat.add_comm]
        exact hw2) (fun v hv => by
        rcases List.mem_append.mp hv with w | w
        · obtain ⟨k, -, e⟩ := List.mem_map.mp w
          rw [← e]
          show (0 : Int) ≤ 0 ∧ (0 : Int) < 1
          omega
        · cases w) (k - 1).toNat (by omega)
      have e : upT (z :: t) k = ((upsW 1 ((List.range z.2.2.2.2.2.1.toNat).map (fun k : Nat => ((0 : Int), (k : Int))) ++ []) t).getD (k - 1).toNat (-1, -1)).1 := by
        unfold upT
        rw [show k.toNat = (k - 1).toNat + 1 by omega]
        rfl
      rw [e]
      omega
/-- how many steps up -/
def cuT (f : Int → Int) : Nat → Int → Int
  | 0, _ => 0
  | n + 1, a => if a = -1 then 0 else cuT f n (f a) + 1
theorem cuT_st {f : Int → Int} {L : Int} (hf : ∀ k, 0 ≤ k → k < L → f k = -1 ∨ (0 ≤ f k ∧ f k < k)) : ∀ (n m : Nat) (a : Int), (a = -1 ∨ (0 ≤ a ∧ a < L ∧ a < ((n : Nat) : Int))) → n ≤ m → cuT f m a = cuT f n a := by
  intro n
  induction n with
  | zero =>
    intro m a ha _
    have : a = -1 := by omega
    subst this
    cases m with
    | zero => rfl
    | succ m => exact if_pos rfl
  | succ n ih =>
    intro m a ha hnm
    cases m with
    | zero => omega
    | succ m =>
      show (if a = -1 then 0 else cuT f m (f a) + 1) = (if a = -1 then 0 else cuT f n (f a) + 1)
      by_cases q : a = -1
      · rw [if_pos q, if_pos q]
      · rw [if_neg q, if_neg q]
        obtain ⟨h0, h1, h2⟩ := ha.resolve_left q
        rw [ih m (f a) (by rcases hf a h0 h1 with w | w <;> omega) (by omega)]
/-- how deep a node stands -/
def dpW (W : List zN) (k : Int) : Int := cuT (upT W) 200 (upT W k)
theorem cuT_rng (f : Int → Int) : ∀ (n : Nat) (a : Int), 0 ≤ cuT f n a ∧ cuT f n a ≤ ((n : Nat) : Int) := by
  intro n
  induction n with
  | zero => intro a; exact ⟨Int.le_refl _, Int.le_refl _⟩
  | succ n ih =>
    intro a
    have := ih (f a)
    show 0 ≤ (if a = -1 then 0 else cuT f n (f a) + 1) ∧ (if a = -1 then 0 else cuT f n (f a) + 1) ≤ _
    split <;> omega
theorem dpW_s {W : List zN} (h : rdA (W.map arZ) 1 = some []) (hl : W.length ≤ 200) {k : Int} (k0 : 0 ≤ k) (k1 : k < ((W.length : Nat) : Int)) : dpW W k = if upT W k = -1 then 0 else dpW W (upT W k) + 1 := by
  have hf : ∀ k, 0 ≤ k → k < ((W.length : Nat) : Int) → upT W k = -1 ∨ (0 ≤ upT W k ∧ upT W k < k) := fun k k0 k1 => by
    rcases upT_rng h k0 k1 with w | w
    · exact Or.inl w.2
    · exact Or.inr w.2
  unfold dpW
  by_cases q : upT W k = -1
  · rw [if_pos q, q]
    exact if_pos rfl
  · rw [if_neg q]
    show (if upT W k = -1 then 0 else cuT (upT W) 199 (upT W (upT W k)) + 1) = _
    rw [if_neg q]
    have a := (hf k k0 k1).resolve_left q
    rw [cuT_st hf 199 200 (upT W (upT W k)) (by rcases hf _ a.1 (by omega) with w | w <;> omega) (by omega)]
def mxZ (f : Int → Int) : Nat → Int
  | 0 => 0
  | n + 1 => max (mxZ f n) (f ((n : Nat) : Int))
def orZ (f : Int → Int) : Nat → Int
  | 0 => 0
  | n + 1 => bOr (orZ f n) (bShl 1 (f ((n : Nat) : Int)))
theorem orZ_bse {f : Int → Int} : ∀ {n : Nat}, (∀ k : Nat, k < n → 0 ≤ f ((k : Nat) : Int) ∧ f ((k : Nat) : Int) < 24) → bse (orZ f n) (fun v => ∃ k : Nat, k < n ∧ f ((k : Nat) : Int) = v) := by
  intro n
  induction n with
  | zero => intro _; exact bse_0 (fun k w => by obtain ⟨j, hj, -⟩ := w; omega)
  | succ n ih =>
    intro h
    have hn := h n (by omega)
    refine bse_iff (bse_or1 (ih (fun k hk => h k (by omega))) hn.1 (by omega)) (fun v v0 v1 => ?_)
    constructor
    · rintro (⟨k, hk, e⟩ | e)
      · exact ⟨k, by omega, e⟩
      · exact ⟨n, by omega, e.symm⟩
    · rintro ⟨k, hk, e⟩
      by_cases q : k = n
      · subst q; exact Or.inr e.symm
      · exact Or.inl ⟨k, by omega, e⟩
def gvW (W : List zN) (k : Int) : Int := (W.getD k.toNat (0, 0, 0, 0, 0, 0, 0, none)).1
/-- what asked tells, by numbers -/
def tlW (e : Int) (s : zS) (W : List zN) : List Int := [e, sA s, sMt s, sC s, sTr s, ((W.length : Nat) : Int), mxZ (dpW W) W.length, sD s, tbn 32 (orZ (gvW W) W.length)]
theorem gvW_rng {W : List zN} (h : ∀ z, z ∈ W → 0 ≤ z.1 ∧ z.1 < 24 ∧ 0 ≤ z.2.2.2.2.2.1 ∧ z.2.2.2.2.2.1 ≤ 4) : ∀ k : Nat, k < W.length → 0 ≤ gvW W ((k : Nat) : Int) ∧ gvW W ((k : Nat) : Int) < 24 := fun k hk => by
  have := h (W.getD k (0, 0, 0, 0, 0, 0, 0, none)) (gd_mem hk)
  unfold gvW
  rw [Int.toNat_natCast]
  exact ⟨this.1, this.2.1⟩
/-- the class: the tree that is told -/
def cTr (σ : jS) (W : List zN) : Prop := rs σ 6000 2 = ((W.length : Nat) : Int) ∧ treeW σ 2 1 0 0 [(-1, -1)] W ∧ fok 2 1 σ
section ZTr
variable {n : Nat} {σ0 σ σ1 : jS} {W : List zN}
theorem c_tget {Q : Int → jS → Prop} {k : Int} {c : Nat} (h : cTr σ W) (k0 : 0 ≤ k) (k1 : k < ((W.length : Nat) : Int)) (hc : c < 8) (hq : Q (ra σ 6001 2 (k * 8 + ((c : Nat) : Int))) σ) : TrI n i_Nodes_get [jo 6 2, ji k, ji ((c : Nat) : Int)] σ Q := by
  obtain ⟨h1, h2, f1, f2, f3, f4⟩ := h
  exact c_nget (by omega) k0 (by omega) hc f2 (by unfold gr3 at f3; omega) hq
theorem cTr_at (h : cTr σ W) {k : Int} (k0 : 0 ≤ k) (k1 : k < ((W.length : Nat) : Int)) : forN σ 2 1 k (W.getD k.toNat (0, 0, 0, 0, 0, 0, 0, none)) (upT W k, ndT W k) := by
  have := treeW_ups h.2.1 k.toNat (by omega)
  rw [show (0 : Int) + (0 + ((k.toNat : Nat) : Int)) = k by omega] at this
  rw [List.getD_eq_getElem?_getD, List.getElem?_eq_getElem (show k.toNat < W.length by omega)]
  show forN σ 2 1 k W[k.toNat] (upT W k, ndT W k)
  exact this
theorem c_deepOf {Q : Int → jS → Prop} {k : Int} (hn : 2 ≤ n) (hC : cC σ) (h : cTr σ W) (hw : trK W) (k0 : 0 ≤ k) (k1 : k < ((W.length : Nat) : Int)) (hq : Q (dpW W k) σ) : TrI n i_Forest_deepOf [jo 3 1, ji k] σ Q := by
  have t30 := cC_at hC 3000 1 2 (by decide)
  have hl := hw.2.1
  have hf : ∀ k, 0 ≤ k → k < ((W.length : Nat) : Int) → upT W k = -1 ∨ (0 ≤ upT W k ∧ upT W k < k) := fun k k0 k1 => by
    rcases upT_rng hw.1 k0 k1 with w | w
    · exact Or.inl w.2
    · exact Or.inr w.2
  have loop : ∀ (m : Nat) (c a i : Int), i + ((m : Nat) : Int) = 200 → 0 ≤ i → 0 ≤ c → c ≤ i → (a = -1 ∨ (0 ≤ a ∧ a < ((W.length : Nat) : Int))) → c + cuT (upT W) m a = dpW W k → J n c_Forest_deepOf (some .int) 15 [some (jo 3 1), none, some (ji c), some (ji a), some (ji i)] [] σ (qI Q) := by
    intro m
    induction m with
    | zero =>
      intro c a i hi i0 c0 c1 ha hR
      have hR : c + 0 = dpW W k := hR
      refine wp_Forest_deepOf_15 ?_
      rw [if_pos (by omega), show c = dpW W k by omega]
      exact hq
    | succ m ih =>
      intro c a i hi i0 c0 c1 ha hR
      have hR : c + (if a = -1 then 0 else cuT (upT W) m (upT W a) + 1) = dpW W k := hR
      refine wp_Forest_deepOf_15 ?_
      rw [if_neg (by omega)]
      by_cases q : a = -1
      · rw [if_pos q] at hR ⊢
        rw [show c = dpW W k by omega]
        exact hq
      · rw [if_neg q] at hR ⊢
        obtain ⟨a0, a1⟩ := ha.resolve_left q
        have hN := cTr_at h a0 a1
        rw [t30]
        refine ⟨⟨by omega, by omega⟩, by omega, by omega, by omega, c_tget (c := 1) h a0 a1 (by omega) ?_⟩
        rw [show a * 8 + ((1 : Nat) : Int) = a * 8 + 1 by omega, hN.2.2.1]
        refine ⟨⟨by omega, by omega⟩, ih (c + 1) (upT W a) (i + 1) (by omega) (by omega) (by omega) (by omega) ?_ (by omega)⟩
        rcases hf a a0 a1 with w | w <;> omega
  have hN := cTr_at h k0 k1
  refine wp_Forest_deepOf ⟨by omega, by omega, by omega, ?_⟩
  rw [t30]
  refine c_tget (c := 1) h k0 k1 (by omega) ?_
  rw [show k * 8 + ((1 : Nat) : Int) = k * 8 + 1 by omega, hN.2.2.1]
  refine loop 200 0 (upT W k) 0 (by omega) (by omega) (by omega) (by omega) ?_ (by unfold dpW; omega)
  rcases hf k k0 k1 with w | w <;> omega
theorem mxZ_rng {f : Int → Int} {b : Int} (hb : 0 ≤ b) : ∀ {n : Nat}, (∀ k : Nat, k < n → f ((k : Nat) : Int) ≤ b) → 0 ≤ mxZ f n ∧ mxZ f n ≤ b := by
  intro n
  induction n with
  | zero => intro _; exact ⟨Int.le_refl _, hb⟩
  | succ n ih =>
    intro h
    have a := ih (fun k hk => h k (by omega))
    have c := h n (by omega)
    show 0 ≤ max (mxZ f n) (f _) ∧ max (mxZ f n) (f _) ≤ b
    omega
theorem c_deepest {Q : Int → jS → Prop} (hn : 3 ≤ n) (hC : cC σ) (h : cTr σ W) (hw : W = [] ∨ trK W) (hq : Q (mxZ (dpW W) W.length) σ) : TrI n i_Forest_deepest [jo 3 1] σ Q := by
  have t30 := cC_at hC 3000 1 2 (by decide)
  have hl : W.length ≤ 200 := by
    rcases hw with w | w
    · rw [w]; decide
    · exact w.2.1
  have loop : ∀ (d i : Nat), i + d = W.length → J n c_Forest_deepest (some .int) 4 [some (jo 3 1), some (ji (mxZ (dpW W) i)), some (ji ((i : Nat) : Int))] [] σ (qI Q) := by
    intro d
    induction d with
    | zero =>
      intro i hi
      refine wp_Forest_deepest_4 ⟨by omega, by omega, ?_⟩
      rw [t30, h.1, if_pos (by omega), show i = W.length by omega]
      exact hq
    | succ d ih =>
      intro i hi
      refine wp_Forest_deepest_4 ⟨by omega, by omega, ?_⟩
      rw [t30, h.1, if_neg (by omega)]
      have hw2 : trK W := hw.resolve_left (fun e => by rw [e] at hi; simp at hi)
      refine ⟨by omega, c_deepOf (by omega) hC h hw2 (by omega) (by omega) ⟨⟨by omega, by omega⟩, ?_⟩⟩
      exact ih (i + 1) (by omega)
  exact wp_Forest_deepest (loop W.length 0 (by omega))
theorem c_unlike {Q : Int → jS → Prop} (hn : 1 ≤ n) (hC : cC σ) (h : cTr σ W) (hw : W = [] ∨ trK W) (hq : Q (tbn 32 (orZ (gvW W) W.length)) σ) : TrI n i_Forest_unlikeGivens [jo 3 1] σ Q := by
  have t30 := cC_at hC 3000 1 2 (by decide)
  have hl : W.length ≤ 200 ∧ ∀ z, z ∈ W → 0 ≤ z.1 ∧ z.1 < 24 ∧ 0 ≤ z.2.2.2.2.2.1 ∧ z.2.2.2.2.2.1 ≤ 4 := by
    rcases hw with w | w
    · rw [w]; exact ⟨by decide, fun z hz => by cases hz⟩
    · exact w.2
  have hg := gvW_rng hl.2
  have loop : ∀ (d i : Nat), i + d = W.length → J n c_Forest_unlikeGivens (some .int) 4 [some (jo 3 1), some (ji (orZ (gvW W) i)), some (ji ((i : Nat) : Int))] [] σ (qI Q) := by
    intro d
    induction d with
    | zero =>
      intro i hi
      refine wp_Forest_unlikeGivens_4 ⟨by omega, by omega, ?_⟩
      rw [t30, h.1, if_pos (by omega)]
      have hb := orZ_bse (f := gvW W) (n := i) (fun k hk => hg k (by omega))
      have hp := bse_pos hb (fun w => by obtain ⟨k, hk, e⟩ := w; have := hg k (by omega); omega)
      refine ⟨by omega, t_bitCount hb.1 hp.1 ?_⟩
      rw [show i = W.length by omega]
      exact hq
    | succ d ih =>
      intro i hi
      refine wp_Forest_unlikeGivens_4 ⟨by omega, by omega, ?_⟩
      rw [t30, h.1, if_neg (by omega)]
      have hN := cTr_at h (k := ((i : Nat) : Int)) (by omega) (by omega)
      refine ⟨by omega, c_tget (c := 0) h (by omega) (by omega) (by omega) ⟨⟨by omega, by omega⟩, ?_⟩⟩
      rw [show ((i : Nat) : Int) * 8 + ((0 : Nat) : Int) = ((i : Nat) : Int) * 8 + 0 by omega, hN.2.1]
      exact ih (i + 1) (by omega)
  exact wp_Forest_unlikeGivens (loop W.length 0 (by omega))
end ZTr
