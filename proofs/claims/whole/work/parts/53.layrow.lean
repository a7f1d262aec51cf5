/-! The reference lays a row of things. -/
def lF : List (Nat × Int) := [(1028, 0), (1029, 0), (1030, 0), (1031, 0), (1033, 0), (1034, 0), (1036, 0), (1037, 0), (1038, 0)]
def mV (σ : jS) (vs : Int → Int) : Prop := ∀ v, 0 ≤ v → v < 26 → ra σ 1036 0 v = vs v
/-- where the parts of older nodes lie is as it was -/
def kpp (σ σ' : jS) (N : Int) : Prop := ∀ m, 0 ≤ m → m < N → ra σ' 1029 0 m = ra σ 1029 0 m
theorem kpp.rf (σ : jS) (N : Int) : kpp σ σ N := fun _ _ _ => rfl
theorem kpp.tr {σ σ1 σ2 : jS} {N N1 : Int} (h : kpp σ σ1 N) (h' : kpp σ1 σ2 N1) (hN : N ≤ N1) : kpp σ σ2 N := fun m m0 m1 => (h' m m0 (by omega)).trans (h m m0 m1)
theorem kpp.of {σ σ1 : jS} {l : List (Nat × Int)} {N : Int} (h : sq l σ σ1) (hl : (l.contains (1029, 0)) = false) : kpp σ σ1 N := fun m _ _ => h.nra 1029 0 m hl
theorem stk_get {f : Int → Int} : ∀ {P : List Int}, stk f P → ∀ i, i < P.length → f ((P.length : Nat) - 1 - (i : Nat)) = P.getD i 0 := by
  intro P
  induction P with
  | nil => intro _ i hi; exact absurd hi (Nat.not_lt_zero i)
  | cons a P ih =>
    intro h i hi
    cases i with
    | zero =>
      rw [List.length_cons, show ((P.length + 1 : Nat) : Int) - 1 - ((0 : Nat) : Int) = (P.length : Nat) by omega]
      exact h.1
    | succ i =>
      rw [List.length_cons] at hi
      have := ih h.2 i (by omega)
      rw [List.length_cons, show ((P.length + 1 : Nat) : Int) - 1 - ((i + 1 : Nat) : Int) = (P.length : Nat) - 1 - (i : Nat) by omega, this]
      rfl
theorem stk_cong {f f' : Int → Int} : ∀ {P : List Int}, (∀ i, 0 ≤ i → i < (P.length : Nat) → f' i = f i) → stk f P → stk f' P := by
  intro P
  induction P with
  | nil => intro _ _; trivial
  | cons a P ih =>
    intro h ht
    refine ⟨?_, ih (fun i i0 i1 => h i i0 (by rw [List.length_cons]; omega)) ht.2⟩
    rw [h _ (by omega) (by rw [List.length_cons]; omega)]
    exact ht.1
theorem stk_drop {f : Int → Int} : ∀ {P : List Int} (k : Nat), stk f P → stk f (P.drop k) := by
  intro P
  induction P with
  | nil => intro k _; rw [List.drop_nil]; trivial
  | cons a P ih =>
    intro k h
    cases k with
    | zero => exact h
    | succ k => exact ih k h.2
section ZE
variable {n : Nat} {σ : jS} {g : zH} {N : Int} {β : List (Int × Int)} {x u t : Int} {vs : Int → Int}
theorem mT_unk (h : mT σ g N β) {σ1 : jS} (hN : N + 1 ≤ 40000) (hz : zu g N + 1 ≤ 20000) (e1 : sq [(1028, 0), (1030, 0), (1033, 0)] σ σ1) (e2 : rs σ1 1033 0 = N + 1) (e3 : ra σ1 1028 0 = upI (ra σ 1028 0) N (-1)) (e4 : ra σ1 1030 0 = upI (ra σ 1030 0) N (-1)) : mT σ1 (gset g N (-1) []) (N + 1) β := by
  obtain ⟨h1, h2, h3, h4, h5, h6, h7, h8, h9, h10, h11, h12, h13⟩ := h
  have hb2 : bok (gset g N (-1) []) (N + 1) β := by
    clear h11 h12 h13
    induction β with
    | nil => trivial
    | cons a β ih =>
      obtain ⟨u, t⟩ := a
      obtain ⟨⟨a1, a2, a3, a4, a5, a6⟩, h3⟩ := h3
      exact ⟨⟨a1, by omega, by rw [gh_old (by omega)]; exact a3, a4, by omega, a6⟩, ih h3⟩
  have hblN : bl β N = -1 := by
    by_cases q : bl β N = -1
    · exact q
    · have := bok_at h3 q
      omega
  unfold mT
  rw [e3, e4, e2, e1.nraf 1029 0 (by decide), e1.nraf 1031 0 (by decide), e1.nraf 1032 0 (by decide), e1.nrs 1034 0 (by decide), e1.nrs 1035 0 (by decide)]
  refine ⟨h1.sq e1, zok_set h2 (Or.inl rfl) (fun k hk => absurd hk (Nat.not_lt_zero k)), hb2, rfl, by omega, hN, by rw [zu_set h5, if_pos rfl]; exact hz, fun m m0 m1 => ?_, h9, fun m m0 m1 k hk => ?_, fun m m0 m1 hm => ?_, h12, h13⟩
  · unfold upI
    by_cases q : m = N
    · rw [if_pos q, q, gh_new]
    · rw [if_neg q, gh_old q]; exact h8 m m0 (by omega)
  · by_cases q : m = N
    · rw [q, gh_new] at hk
      exact absurd hk (Nat.not_lt_zero k)
    · rw [gh_old q] at hk
      rw [gp_old q]
      exact h10 m m0 (by omega) k hk
  · unfold upI
    by_cases q : m = N
    · rw [if_pos q, q, hblN]
    · rw [gh_old q] at hm
      rw [if_neg q]
      exact h11 m m0 (by omega) hm
theorem t_unknown {Q : Int → jS → Prop} (h : mT σ g N β) (hN : N + 1 ≤ 40000) (hz : zu g N + 1 ≤ 20000) (hq : ∀ σ1, mT σ1 (gset g N (-1) []) (N + 1) β → sq [(1028, 0), (1030, 0), (1033, 0)] σ σ1 → Q N σ1) : TrI n i_Model_unknown [jo 1 0] σ Q := by
  have h0 := h
  obtain ⟨h1, h2, h3, h4, h5, h6, h7, h8, h9, h10, h11, h12, h13⟩ := h
  have l28 := mln_at h1 1028 40000 (by decide)
  have l30 := mln_at h1 1030 40000 (by decide)
  refine wp_Model_unknown ⟨by omega, by omega, by omega, by omega, fun s1 e1 => ?_⟩
  have f1 : sq [(1028, 0), (1030, 0), (1033, 0)] σ s1 := by rw [e1]; exact (sq.rf _ σ).pwa 1028 0 _ _ (by decide)
  rw [f1.nrl 1030 0, show rs s1 1033 0 = rs σ 1033 0 by rw [e1]; rfl]
  refine ⟨by omega, by omega, by omega, fun s2 e2 => ?_⟩
  have f2 : sq [(1028, 0), (1030, 0), (1033, 0)] σ s2 := by rw [e2]; exact f1.pwa 1030 0 _ _ (by decide)
  rw [show rs s2 1033 0 = N by rw [e2, e1]; exact h4]
  refine ⟨⟨by omega, by omega⟩, fun s3 e3 => ?_⟩
  have f3 : sq [(1028, 0), (1030, 0), (1033, 0)] σ s3 := by rw [e3]; exact f2.pws 1033 0 _ (by decide)
  have r3 : rs s3 1033 0 = N + 1 := by rw [e3, rs_ws, if_pos ⟨rfl, rfl⟩]
  rw [r3, show N + 1 - 1 = N by omega]
  refine ⟨⟨by omega, by omega⟩, hq s3 (mT_unk h0 hN hz f3 r3 ?_ ?_) f3⟩
  · rw [e3, e2, e1, ← h4]; rfl
  · rw [e3, e2, e1, ← h4]; rfl
/-- a CON whose parts have been taken from the pile -/
theorem mT_con (h : mT σ g N β) {σ1 : jS} {ps : List Int} (ht : 0 ≤ t ∧ t < 104) (hN : N + 1 ≤ 40000) (hps : ∀ k, k < pN t → 0 ≤ ps.getD k 0 ∧ ps.getD k 0 < N) (hp : rs σ 1034 0 + (pN t : Nat) ≤ 40000) (e1 : sq [(1028, 0), (1029, 0), (1031, 0), (1033, 0), (1034, 0), (1037, 0), (1038, 0)] σ σ1) (e2 : rs σ1 1033 0 = N + 1) (e3 : ra σ1 1028 0 = upI (ra σ 1028 0) N t) (e4 : ra σ1 1029 0 = upI (ra σ 1029 0) N (rs σ 1034 0)) (e5 : rs σ1 1034 0 = rs σ 1034 0 + (pN t : Nat)) (e6 : ∀ i, i < rs σ 1034 0 → ra σ1 1031 0 i = ra σ 1031 0 i) (e7 : ∀ k : Nat, k < pN t → ra σ1 1031 0 (rs σ 1034 0 + k) = ps.getD k 0) : mT σ1 (gset g N t ps) (N + 1) β := by
  obtain ⟨h1, h2, h3, h4, h5, h6, h7, h8, h9, h10, h11, h12, h13⟩ := h
  have hb2 : bok (gset g N t ps) (N + 1) β := by
    clear h11 h12 h13
    induction β with
    | nil => trivial
    | cons a β ih =>
      obtain ⟨u, s⟩ := a
      obtain ⟨⟨a1, a2, a3, a4, a5, a6⟩, h3⟩ := h3
      exact ⟨⟨a1, by omega, by rw [gh_old (by omega)]; exact a3, a4, by omega, a6⟩, ih h3⟩
  unfold mT
  rw [e3, e4, e2, e5, e1.nraf 1030 0 (by decide), e1.nraf 1032 0 (by decide), e1.nrs 1035 0 (by decide)]
  refine ⟨h1.sq e1, zok_set h2 (Or.inr ht) hps, hb2, rfl, by omega, hN, by rw [zu_set h5, if_neg (by omega)]; exact h7, fun m m0 m1 => ?_, ⟨by omega, by omega⟩, fun m m0 m1 k hk => ?_, fun m m0 m1 hm => ?_, h12, h13⟩
  · unfold upI
    by_cases q : m = N
    · rw [if_pos q, q, gh_new]
    · rw [if_neg q, gh_old q]; exact h8 m m0 (by omega)
  · unfold upI
    by_cases q : m = N
    · rw [if_pos q, q, gp_new]
      rw [q, gh_new] at hk
      exact ⟨h9.1, by omega, e7 k hk⟩
    · rw [gh_old q] at hk
      rw [if_neg q, gp_old q]
      obtain ⟨c1, c2, c3⟩ := h10 m m0 (by omega) k hk
      refine ⟨c1, by omega, ?_⟩
      rw [e6 _ c2]
      exact c3
  · by_cases q : m = N
    · rw [q, gh_new] at hm; omega
    · rw [gh_old q] at hm
      exact h11 m m0 (by omega) hm
end ZE
