/-! A node is kept: the reference. -/
/-- rows told for those that have none -/
def kpn (f : Int → List Int) (i : zI) : zI := match i with
  | .inl (a, b, c, d, e, u, y, none) => .inl (a, b, c, d, e, u, y, some (f y))
  | i => i
theorem kepI_kpn (s : zS) (i : zI) : kepI s i = kpn (rowE (hG s) (hN s) (hE s)) i := by
  rcases i with ⟨a, b, c, d, e, u, y, _ | r⟩ | m <;> rfl
def kqF : List (Nat × Int) := [(1039, 0), (1041, 0), (1042, 0), (1043, 0), (1044, 0), (1045, 0), (1052, 0), (1053, 0), (1054, 0), (1055, 0), (1056, 0), (1057, 0), (1058, 0), (1059, 0), (1060, 0), (1061, 0), (1062, 0), (1063, 0), (1064, 0), (1065, 0)]
/-- a live node, and what it is kept as -/
def kOK (L : Int) (f : Int → List Int) (σ0 σ : jS) (y to : Int) : Prop := (0 ≤ to ∧ to < rs σ 1063 0) ∧ ra σ 1059 0 to = ra σ0 1059 0 y ∧ ∀ t, nRs L σ0 [y] t → nRs 8200 σ [to] (t.map (kpn f))
def kwK (m p : Int) (σ σ' : jS) : Prop := sq kqF σ σ' ∧ (∀ F, F ∈ ndc → ∀ i : Int, ¬ i = m → ra σ' F 0 i = ra σ F 0 i) ∧ (∀ i : Int, (i < 4 * m ∨ 4 * m + 4 ≤ i) → ra σ' 1058 0 i = ra σ 1058 0 i) ∧ ∀ i : Int, i < p → ra σ' 1062 0 i = ra σ 1062 0 i
section ZWa
variable {n : Nat} {σ0 σ σ1 σ2 : jS} {L m p : Int} {f : Int → List Int} {φ : Int → Int} {g : zH} {N : Int} {β : List (Int × Int)}
theorem nRs_kept (hk : kcl σ) (h8 : rs σ 1063 0 ≤ 8200) : ∀ {t : List zI} {ns : List Int}, nRs L σ ns t → (∀ n, n ∈ ns → n < rs σ 1063 0) → nRs 8200 σ ns t ∧ t.map (kpn f) = t := by
  intro t
  induction t with
  | nil =>
    intro ns h _
    cases ns with
    | nil => exact ⟨trivial, rfl⟩
    | cons n ns => exact False.elim h
  | cons y t ih =>
    intro ns h hn
    cases ns with
    | nil => exact False.elim h
    | cons n ns =>
      have hn0 := hn n List.mem_cons_self
      have hns : ∀ n, n ∈ ns → n < rs σ 1063 0 := fun n hh => hn n (List.mem_cons_of_mem _ hh)
      rcases y with ⟨a, b, c, d, e, u, w, r⟩ | m
      · obtain ⟨c1, c2⟩ := h
        obtain ⟨d1, d2, d3, d4, d5, d6, d7, d8, d9, d10⟩ := c1
        cases r with
        | none =>
          have := d10.1
          exact absurd this.1 (by omega)
        | some r =>
          have d7' : ra σ 1057 0 n = u := d7
          have d8' : 0 ≤ u ∧ u ≤ 4 := d8
          obtain ⟨e1, e2⟩ := ih (ns := kidL σ n u.toNat ++ ns) c2 (fun k hk2 => by
            rcases List.mem_append.mp hk2 with w2 | w2
            · unfold kidL at w2
              obtain ⟨j, j1, j2⟩ := List.mem_map.mp w2
              have := List.mem_range.mp j1
              rw [← j2]
              exact (hk n d1 hn0).2 _ (by omega) (by omega)
            · exact hns k w2)
          refine ⟨⟨⟨d1, d2, d3, d4, d5, d6, d7, d8, d9, d10⟩, e1⟩, ?_⟩
          rw [List.map_cons, e2]
          rfl
      · obtain ⟨c1, c2⟩ := h
        obtain ⟨e1, e2⟩ := ih c2 hns
        refine ⟨⟨c1, e1⟩, ?_⟩
        rw [List.map_cons, e2]
        rfl
theorem kOK.K {y to : Int} (h : kOK L f σ0 σ y to) (e : ndK 8200 σ σ1) : kOK L f σ0 σ1 y to := by
  obtain ⟨⟨h1, h2⟩, h3, h4⟩ := h
  refine ⟨⟨h1, by have := e.1; omega⟩, ?_, fun t ht => nRs_K e (h4 t ht)⟩
  rw [e.2.2.2.1 1059 (by decide) to (Or.inl h2)]
  exact h3
theorem nRs_maps : ∀ {ys : List Int} {t : List zI}, nRs L σ0 ys t → (∀ y, y ∈ ys → ∀ t, nRs L σ0 [y] t → nRs 8200 σ [φ y] (t.map (kpn f))) → nRs 8200 σ (ys.map φ) (t.map (kpn f)) := by
  intro ys
  induction ys with
  | nil =>
    intro t h _
    cases t with
    | nil => trivial
    | cons y t => exact False.elim (by cases y <;> exact h)
  | cons y ys ih =>
    intro t h hy
    obtain ⟨t1, t2, e, h1, h2⟩ := nRs_split (n1 := [y]) h
    rw [e, List.map_append, List.map_cons]
    exact nRs_app (n1 := [φ y]) (hy y List.mem_cons_self t1 h1) (ih h2 (fun y' hy' => hy y' (List.mem_cons_of_mem _ hy')))
theorem sumA_maps : ∀ {ys : List Int}, (∀ y, y ∈ ys → ra σ 1059 0 (φ y) = ra σ0 1059 0 y) → sumA σ (ys.map φ) = sumA σ0 ys := by
  intro ys
  induction ys with
  | nil => intro _; rfl
  | cons y ys ih =>
    intro h
    rw [List.map_cons, sumA_cons, sumA_cons, ih (fun y' hy' => h y' (List.mem_cons_of_mem _ hy')), h y List.mem_cons_self]
theorem kwK.tr (h : kwK m p σ σ1) (h' : kwK m p σ1 σ2) : kwK m p σ σ2 := ⟨h.1.tr h'.1, fun F hF i hi => (h'.2.1 F hF i hi).trans (h.2.1 F hF i hi), fun i hi => (h'.2.2.1 i hi).trans (h.2.2.1 i hi), fun i hi => (h'.2.2.2 i hi).trans (h.2.2.2 i hi)⟩
theorem nwK.kw (h : nwK m σ σ1) : kwK m p σ σ1 := ⟨h.1.mo (by decide), h.2.1, h.2.2, fun i _ => h.1.nra 1062 0 i (by decide)⟩
theorem sq.kw {l : List (Nat × Int)} (e : sq l σ σ1) (hl : (l.all (fun q => kqF.contains q) && ([(1052, 0), (1053, 0), (1054, 0), (1055, 0), (1056, 0), (1057, 0), (1058, 0), (1059, 0), (1060, 0), (1061, 0), (1062, 0)] : List (Nat × Int)).all (fun q => !l.contains q)) = true) : kwK m p σ σ1 := by
  rw [Bool.and_eq_true] at hl
  have hm : ∀ q, q ∈ ([(1052, 0), (1053, 0), (1054, 0), (1055, 0), (1056, 0), (1057, 0), (1058, 0), (1059, 0), (1060, 0), (1061, 0), (1062, 0)] : List (Nat × Int)) → l.contains q = false := fun q hq => by
    have := List.all_eq_true.mp hl.2 q hq
    simpa using this
  have hn : ∀ F, F ∈ ndc → ((F, 0) : Nat × Int) ∈ ([(1052, 0), (1053, 0), (1054, 0), (1055, 0), (1056, 0), (1057, 0), (1058, 0), (1059, 0), (1060, 0), (1061, 0), (1062, 0)] : List (Nat × Int)) := by decide
  exact ⟨e.mo hl.1, fun F hF i _ => e.nra F 0 i (hm _ (hn F hF)), fun i _ => e.nra 1058 0 i (hm _ (by decide)), fun i _ => e.nra 1062 0 i (hm _ (by decide))⟩
theorem kwK.ndK (h : kwK (rs σ 1063 0) (rs σ 1065 0) σ σ1) (h8 : rs σ 1063 0 < 8200) (h63 : rs σ 1063 0 ≤ rs σ1 1063 0) (h65 : rs σ 1065 0 ≤ rs σ1 1065 0) : ndK 8420 σ σ1 := by
  obtain ⟨e, h1, h2, h3⟩ := h
  exact ⟨h63, h65, by rw [e.nrs 1070 0 (by decide)]; exact Int.le_refl _, fun F hF i hi => h1 F hF i (by omega), fun i k hi k0 k1 => h2 _ (by omega), h3, fun j _ => ⟨e.nra 1066 0 j (by decide), e.nra 1067 0 j (by decide), e.nra 1069 0 j (by decide), fun q _ => e.nra 1068 0 _ (by decide)⟩⟩
set_option maxRecDepth 8000 in
theorem t_keepOne {Q : Int → jS → Prop} {x : Int} (hn : 2 ≤ n) (hH : mT σ g N β) (ha : acy g N β) (e0 : ndK 8420 σ0 σ) (hk0 : kcl σ0) (hk : kcl σ) (h80 : rs σ0 1063 0 ≤ 8200) (h00 : 0 ≤ rs σ 1063 0) (h8 : rs σ 1063 0 < 8200) (p0 : 0 ≤ rs σ 1065 0) (p1 : rs σ 1065 0 ≤ 100 * rs σ 1063 0) (x0 : 8200 ≤ x) (x1 : x < L) (hL : L ≤ 8420) (hb : 0 ≤ ra σ0 1057 0 x ∧ ra σ0 1057 0 x ≤ 4) (hy : 0 ≤ ra σ0 1060 0 x ∧ ra σ0 1060 0 x < N) (hf : f (ra σ0 1060 0 x) = cno [] (ex g N β (ra σ0 1060 0 x))) (hkd : ∀ j : Int, 0 ≤ j → j < ra σ0 1057 0 x → 0 ≤ ra σ0 1058 0 (4 * x + j) ∧ (ra σ0 1058 0 (4 * x + j) < rs σ0 1063 0 ∨ (8200 ≤ ra σ0 1058 0 (4 * x + j) ∧ ra σ0 1058 0 (4 * x + j) < L ∧ kOK L f σ0 σ (ra σ0 1058 0 (4 * x + j)) (ra σ 1109 0 (ra σ0 1058 0 (4 * x + j) - 8200)))))
    (hq : ∀ σ', sq kqF σ σ' → ndK 8420 σ σ' → rs σ' 1063 0 = rs σ 1063 0 + 1 → rs σ' 1064 0 = rs σ 1064 0 → kcl σ' → (0 ≤ rs σ' 1065 0 ∧ rs σ' 1065 0 ≤ 100 * rs σ' 1063 0) → kOK L f σ0 σ' x (rs σ 1063 0) → Q (rs σ 1063 0) σ') : TrI n i_Model_keepOne [jo 1 0, ji x] σ Q := by
  have hm := hH.1
  generalize hme : rs σ 1063 0 = m at *
  generalize hpe : rs σ 1065 0 = p at *
  have l52 := mln_at hm 1052 8420 (by decide)
  have l53 := mln_at hm 1053 8420 (by decide)
  have l54 := mln_at hm 1054 8420 (by decide)
  have l55 := mln_at hm 1055 8420 (by decide)
  have l56 := mln_at hm 1056 8420 (by decide)
  have l57 := mln_at hm 1057 8420 (by decide)
  have l58 := mln_at hm 1058 33680 (by decide)
  have l59 := mln_at hm 1059 8420 (by decide)
  have l60 := mln_at hm 1060 8420 (by decide)
  have l61 := mln_at hm 1061 8420 (by decide)
  have l62 := mln_at hm 1062 820000 (by decide)
  have l41 := mln_at hm 1041 101 (by decide)
  have l09 := mln_at hm 1109 220 (by decide)
  have hxm : ¬ x = m := by omega
  have E : ∀ F, F ∈ ndc → ra σ F 0 x = ra σ0 F 0 x := fun F hF => e0.2.2.2.1 F hF x (Or.inr ⟨x0, by omega⟩)
  have E8 : ∀ j : Int, 0 ≤ j → j < 4 → ra σ 1058 0 (4 * x + j) = ra σ0 1058 0 (4 * x + j) := fun j j0 j1 => e0.2.2.2.2.1 x j (Or.inr ⟨x0, by omega⟩) j0 j1
  obtain ⟨kN, hkN⟩ := Int.eq_ofNat_of_zero_le hb.1
  let φ : Int → Int := fun k => if 8200 ≤ k then ra σ 1109 0 (k - 8200) else k
  have h63 : rs σ0 1063 0 ≤ m := by have := e0.1; omega
  have loop : ∀ (s3 : jS), sq [(1063, 0)] σ s3 → rs s3 1063 0 = m + 1 → ∀ (d j : Nat) (σ1 : jS), j + d = kN → nwK m s3 σ1 → (ra σ1 1052 0 m = ra σ0 1052 0 x ∧ ra σ1 1053 0 m = ra σ0 1053 0 x ∧ ra σ1 1054 0 m = ra σ0 1054 0 x ∧ ra σ1 1055 0 m = ra σ0 1055 0 x ∧ ra σ1 1056 0 m = ra σ0 1056 0 x ∧ ra σ1 1057 0 m = ra σ0 1057 0 x ∧ ra σ1 1059 0 m = ra σ0 1059 0 x ∧ rs σ1 1064 0 = rs σ 1064 0) → (∀ i : Nat, i < j → ra σ1 1058 0 (4 * m + (i : Nat)) = φ (ra σ0 1058 0 (4 * x + (i : Nat)))) → J n c_Model_keepOne (some .int) 101 [some (jo 1 0), some (ji x), some (ji m), some (ji ((j : Nat) : Int)), none] [] σ1 (qI Q) := by
    intro s3 g3 r3 d
    induction d with
    | zero =>
      intro j σ1 hj hw hv hkk
      obtain ⟨v1, v2, v3, v4, v5, v6, v7, v8⟩ := hv
      have e1 := hw.1
      have E1 : ∀ F, F ∈ ndc → ra σ1 F 0 x = ra σ0 F 0 x := fun F hF => by
        rw [hw.2.1 F hF x hxm, ← E F hF]
        have : ∀ F, F ∈ ndc → ([(1063, 0)] : List (Nat × Int)).contains (F, 0) = false := by decide
        exact g3.nra F 0 x (this F hF)
      have G1 : sq ((1063, 0) :: nwF) σ σ1 := (g3.mo (by decide)).tr (e1.mo (by decide))
      have H1 : mT σ1 g N β := hH.sq G1 (by decide)
      refine wp_Model_keepOne_101 ⟨by omega, by rw [G1.nrl 1057 0, l57]; omega, by omega, by rw [G1.nrl 1057 0, l57]; omega, ?_⟩
      rw [E1 1057 (by decide), if_pos (by omega), G1.nrl 1061 0, G1.nrl 1060 0, l61, l60, E1 1060 (by decide)]
      refine ⟨by omega, by omega, by omega, by omega, t_layOut (by omega) H1 ha hy.1 hy.2 (fun s9 f9 hl => ?_)⟩
      have G9 : sq (oF ++ ((1063, 0) :: nwF)) σ s9 := (G1.mo (by decide)).tr (f9.mo (by decide))
      rw [G9.nrl 1061 0, l61]
      refine ⟨by omega, by omega, fun s11 e11 => ?_⟩
      have w11 : nwK m s9 s11 := by rw [e11]; exact (nwK.rf m s9).pwa (by decide) _
      have q11 : sq [(1061, 0)] s9 s11 := by rw [e11]; exact (sq.rf _ s9).pwa 1061 0 _ _ (by decide)
      have r11 := wa_at s9 1061 m (if (ex g N β (ra σ0 1060 0 x)).length ≤ 100 then (((ex g N β (ra σ0 1060 0 x)).length : Nat) : Int) else 101)
      rw [← e11] at r11
      clear e11
      have p11 : rs s11 1065 0 = p := by rw [q11.nrs 1065 0 (by decide), G9.nrs 1065 0 (by decide), hpe]
      rw [q11.nrl 1060 0, G9.nrl 1060 0, l60, p11]
      refine ⟨by omega, by omega, fun s15 e15 => ?_⟩
      have w15 : nwK m s9 s15 := by rw [e15]; exact w11.pwa (by decide) _
      have q15 : sq [(1060, 0)] s11 s15 := by rw [e15]; exact (sq.rf _ s11).pwa 1060 0 _ _ (by decide)
      have r15 : ra s15 1060 0 m = p := by rw [e15]; exact wa_at _ _ _ _
      clear e15
      have r15' := r11
      rw [← q15.nra 1061 0 m (by decide)] at r15'
      have K15 : kwK m p σ s15 := ((g3.kw (by decide)).tr hw.kw).tr ((f9.kw (by decide)).tr w15.kw)
      have q9 : sq [(1060, 0), (1061, 0)] s9 s15 := (q11.mo (by decide)).tr (q15.mo (by decide))
      have G15 : sq (oF ++ ((1063, 0) :: nwF)) σ s15 := (G9.mo (by decide)).tr (q9.mo (by decide))
      have c63 : rs s15 1063 0 = m + 1 := by rw [q9.nrs 1063 0 (by decide), f9.nrs 1063 0 (by decide), e1.nrs 1063 0 (by decide)]; exact r3
      have c64 : rs s15 1064 0 = rs σ 1064 0 := by rw [q9.nrs 1064 0 (by decide), f9.nrs 1064 0 (by decide)]; exact v8
      have c65 : rs s15 1065 0 = p := by rw [q15.nrs 1065 0 (by decide)]; exact p11
      have c43 : rs s15 1043 0 = ((((ex g N β (ra σ0 1060 0 x)).take 100).length : Nat) : Int) := by rw [q9.nrs 1043 0 (by decide)]; exact hl.1
      have hfl : (f (ra σ0 1060 0 x)).length = (ex g N β (ra σ0 1060 0 x)).length := by rw [hf, cno_len]
      -- how it ends
      have fin : ∀ σ', kwK m p σ σ' → sq [(1062, 0), (1065, 0)] s15 σ' → p ≤ rs σ' 1065 0 → rs σ' 1065 0 ≤ 100 * (m + 1) → ((f (ra σ0 1060 0 x)).length ≤ 100 → p + (((f (ra σ0 1060 0 x)).length : Nat) : Int) ≤ rs σ' 1065 0 ∧ ∀ i : Nat, i < (f (ra σ0 1060 0 x)).length → ra σ' 1062 0 (p + ((i : Nat) : Int)) = (f (ra σ0 1060 0 x)).getD i 0) → Q m σ' := by
        intro σ' hw' q' u1 u2 u3
        have d63 : rs σ' 1063 0 = m + 1 := by rw [q'.nrs 1063 0 (by decide)]; exact c63
        have hnd : ndK 8420 σ σ' := by
          have hw2 := hw'
          rw [← hme, ← hpe] at hw2
          exact hw2.ndK (by omega) (by omega) (by omega)
        have Z : ∀ F, ([(1060, 0), (1061, 0), (1062, 0), (1065, 0)] : List (Nat × Int)).contains (F, 0) = false → oF.contains (F, 0) = false → ra σ' F 0 = ra σ1 F 0 := fun F h1 h2 => by
          have q2 : sq [(1060, 0), (1061, 0), (1062, 0), (1065, 0)] s9 σ' := (q9.mo (by decide)).tr (q'.mo (by decide))
          rw [q2.nraf F 0 h1, f9.nraf F 0 h2]
        have hkids : ∀ k : Nat, ((k : Nat) : Int) = ra σ0 1057 0 x → kidL σ' m k = (kidL σ0 x k).map φ := fun k hk2 => by
          unfold kidL
          rw [List.map_map]
          refine List.map_congr_left (fun i hi => ?_)
          have := List.mem_range.mp hi
          rw [Z 1058 (by decide) (by decide)]
          exact hkk i (by omega)
        have hmemk : ∀ k : Nat, ((k : Nat) : Int) = ra σ0 1057 0 x → ∀ y, y ∈ kidL σ0 x k → ∃ j : Int, 0 ≤ j ∧ j < ra σ0 1057 0 x ∧ y = ra σ0 1058 0 (4 * x + j) := fun k hk2 y hy2 => by
          unfold kidL at hy2
          obtain ⟨i, i1, i2⟩ := List.mem_map.mp hy2
          have := List.mem_range.mp i1
          exact ⟨((i : Nat) : Int), by omega, by omega, i2.symm⟩
        have hphi : ∀ j : Int, 0 ≤ j → j < ra σ0 1057 0 x → φ (ra σ0 1058 0 (4 * x + j)) < m ∧ ra σ' 1059 0 (φ (ra σ0 1058 0 (4 * x + j))) = ra σ0 1059 0 (ra σ0 1058 0 (4 * x + j)) ∧ ∀ t, nRs L σ0 [ra σ0 1058 0 (4 * x + j)] t → nRs 8200 σ' [φ (ra σ0 1058 0 (4 * x + j))] (t.map (kpn f)) := fun j j0 j1 => by
          obtain ⟨y0, hc⟩ := hkd j j0 j1
          generalize ra σ0 1058 0 (4 * x + j) = y at y0 hc
          have n01 : ndK 8420 σ0 σ' := e0.tr hnd
          rcases hc with w | ⟨w1, w2, w3⟩
          · have ep : φ y = y := by show (if 8200 ≤ y then _ else y) = y; rw [if_neg (by omega)]
            rw [ep]
            refine ⟨by omega, n01.2.2.2.1 1059 (by decide) y (Or.inl w), fun t ht => ?_⟩
            obtain ⟨a1, a2⟩ := nRs_kept (f := f) hk0 h80 ht (fun n hn2 => by
              rw [List.mem_singleton] at hn2
              rw [hn2]; exact w)
            rw [a2]
            exact nRs_K (n01.mo (by decide)) a1
          · have ep : φ y = ra σ 1109 0 (y - 8200) := by show (if 8200 ≤ y then _ else y) = _; rw [if_pos w1]
            rw [ep]
            have w4 := w3.K (hnd.mo (by decide))
            exact ⟨by have := w3.1.2; omega, w4.2.1, w4.2.2⟩
        refine hq σ' hw'.1 hnd d63 (by rw [q'.nrs 1064 0 (by decide)]; exact c64) (fun a a0 a1 => ?_) ⟨by omega, by rw [d63]; exact u2⟩ ⟨⟨by omega, by omega⟩, ?_, fun t ht => ?_⟩
        · rw [d63] at a1 ⊢
          by_cases qa : a = m
          · subst qa
            rw [Z 1057 (by decide) (by decide), v6]
            refine ⟨hb.2, fun j j0 j1 => ?_⟩
            obtain ⟨i, hi⟩ := Int.eq_ofNat_of_zero_le j0
            subst hi
            rw [Z 1058 (by decide) (by decide), hkk i (by omega)]
            have := (hphi ((i : Nat) : Int) j0 j1).1
            omega
          · obtain ⟨b1, b2⟩ := hk a a0 (by omega)
            rw [hw'.2.1 1057 (by decide) a qa]
            refine ⟨b1, fun j j0 j1 => ?_⟩
            rw [hw'.2.2.1 _ (by omega)]
            have := b2 j j0 j1
            omega
        · rw [Z 1059 (by decide) (by decide)]; exact v7
        · cases t with
          | nil => exact False.elim ht
          | cons z t =>
            rcases z with ⟨a1, a2, a3, a4, a5, a6, a7, r⟩ | b
            · obtain ⟨c1, c2⟩ := ht
              obtain ⟨d1, d2, d3, d4, d5, d6, d7, d8, d9, d10⟩ := c1
              cases r with
              | some r => exact absurd d10.1 (by omega)
              | none =>
                dsimp only at d2 d3 d4 d5 d6 d7 d8 d9 d10
                have ekN : a6.toNat = kN := by omega
                rw [ekN] at d9
                have c2' : nRs L σ0 (kidL σ0 x kN) t := by
                  have := c2
                  dsimp only at this
                  rw [ekN, List.append_nil] at this
                  exact this
                have d10' : ra σ0 1060 0 x = a7 := d10.2.1
                have hkid2 := hkids kN (by omega)
                have z60 : ra σ' 1060 0 m = p := by rw [q'.nra 1060 0 _ (by decide)]; exact r15
                have z61 : ra σ' 1061 0 m = if (f (ra σ0 1060 0 x)).length ≤ 100 then (((f (ra σ0 1060 0 x)).length : Nat) : Int) else 101 := by rw [q'.nra 1061 0 _ (by decide), r15', hfl]
                show nN 8200 σ' m (a1, a2, a3, a4, a5, a6, a7, some (f a7)) ∧ nRs 8200 σ' (kidL σ' m a6.toNat ++ []) (t.map (kpn f))
                rw [← d10', ekN, List.append_nil, hkid2]
                refine ⟨⟨by omega, ?_, ?_, ?_, ?_, ?_, ?_, d8, ?_, ?_, z61, fun hlen => ?_⟩, nRs_maps c2' (fun y hy2 => ?_)⟩
                · rw [Z 1052 (by decide) (by decide), v1]; exact d2
                · rw [Z 1053 (by decide) (by decide), v2]; exact d3
                · rw [Z 1054 (by decide) (by decide), v3]; exact d4
                · rw [Z 1055 (by decide) (by decide), v4]; exact d5
                · rw [Z 1056 (by decide) (by decide), v5]; exact d6
                · rw [Z 1057 (by decide) (by decide), v6]; exact d7
                · show ra σ' 1059 0 m = 1 + sumA σ' (kidL σ' m a6.toNat)
                  rw [ekN, hkid2, Z 1059 (by decide) (by decide), v7, d9, sumA_maps (σ0 := σ0) (fun y hy2 => ?_)]
                  obtain ⟨j, j0, j1, j2⟩ := hmemk kN (by omega) y hy2
                  rw [j2]
                  exact (hphi j j0 j1).2.1
                · show m < rs σ' 1063 0
                  omega
                · rw [z60]
                  exact ⟨p0, (u3 hlen).1, (u3 hlen).2⟩
                · obtain ⟨j, j0, j1, j2⟩ := hmemk kN (by omega) y hy2
                  rw [j2]
                  exact (hphi j j0 j1).2.2
            · obtain ⟨c1, -⟩ := ht
              exact absurd c1.2.1 (by omega)
      rw [G15.nrl 1061 0, l61, r15']
      refine ⟨by omega, by omega, ?_⟩
      by_cases q : (ex g N β (ra σ0 1060 0 x)).length ≤ 100
      · rw [if_pos q, if_pos (by omega), G15.nrl 1041 0, G15.nrl 1062 0, l41, l62, c43, c65]
        have hta : (ex g N β (ra σ0 1060 0 x)).take 100 = ex g N β (ra σ0 1060 0 x) := List.take_of_length_le q
        rw [hta]
        refine ⟨by omega, by omega, t_copy rfl rfl (by decide) (by decide) (by omega) (by rw [G15.nrl 1041 0, l41]; omega) p0 (by rw [G15.nrl 1062 0, l62]; omega) (by rw [G15.nrl 1041 0, l41]; omega) (by rw [G15.nrl 1062 0, l62]; omega) (fun s21 f21 r21 => ?_)⟩
        rw [f21.nrs 1065 0 (by decide), f21.nrs 1043 0 (by decide), c65, c43, hta]
        refine ⟨⟨by omega, by omega⟩, fun s24 e24 => ?_⟩
        have f24 : sq [(1065, 0)] s21 s24 := by rw [e24]; exact (sq.rf _ s21).pws 1065 0 _ (by decide)
        have r24 : rs s24 1065 0 = p + (((ex g N β (ra σ0 1060 0 x)).length : Nat) : Int) := by rw [e24, rs_ws, if_pos ⟨rfl, rfl⟩]
        clear e24
        have K21 : kwK m p s15 s21 := ⟨f21.mo (by decide), fun F hF i _ => f21.nra F 0 i (by
          have : ∀ F, F ∈ ndc → ([(1062, 0)] : List (Nat × Int)).contains (F, 0) = false := by decide
          exact this F hF), fun i _ => f21.nra 1058 0 i (by decide), fun i hi => by rw [r21 i, if_neg (by omega)]⟩
        refine fin s24 ((K15.tr K21).tr (f24.kw (by decide))) ((f21.mo (by decide)).tr (f24.mo (by decide))) (by omega) (by omega) (fun _ => ⟨by omega, fun i hi => ?_⟩)
        rw [f24.nra 1062 0 _ (by decide), r21, if_pos (by omega), show (0 : Int) + (p + ((i : Nat) : Int) - p) = ((i : Nat) : Int) by omega, q9.nra 1041 0 _ (by decide), hl.2.1 i (by rw [hta]; omega), hta, hf]
      · rw [if_neg q, if_neg (by omega)]
        exact fin s15 K15 (sq.rf _ s15) (by omega) (by omega) (fun w => absurd w (by omega))
    | succ d ih =>
      intro j σ1 hj hw hv hkk
      have e1 := hw.1
      have E1 : ∀ F, F ∈ ndc → ra σ1 F 0 x = ra σ0 F 0 x := fun F hF => by
        rw [hw.2.1 F hF x hxm, ← E F hF]
        have : ∀ F, F ∈ ndc → ([(1063, 0)] : List (Nat × Int)).contains (F, 0) = false := by decide
        exact g3.nra F 0 x (this F hF)
      have G1 : sq ((1063, 0) :: nwF) σ σ1 := (g3.mo (by decide)).tr (e1.mo (by decide))
      have Ek : ra σ1 1058 0 (4 * x + ((j : Nat) : Int)) = ra σ0 1058 0 (4 * x + ((j : Nat) : Int)) := by
        rw [hw.2.2 _ (by omega), g3.nra 1058 0 _ (by decide)]
        exact E8 _ (by omega) (by omega)
      obtain ⟨y0, hc⟩ := hkd ((j : Nat) : Int) (by omega) (by omega)
      have step : ∀ v σ', v = φ (ra σ0 1058 0 (4 * x + ((j : Nat) : Int))) → σ' = wa σ1 1058 0 (4 * m + ((j : Nat) : Int)) v → J n c_Model_keepOne (some .int) 101 [some (jo 1 0), some (ji x), some (ji m), some (ji ((j : Nat) + 1)), none] [] σ' (qI Q) := fun v σ' hvv e' => by
        have w' : nwK m s3 σ' := by rw [e']; exact hw.pwk (by omega) (by omega) _
        have g' : sq [(1058, 0)] σ1 σ' := by rw [e']; exact (sq.rf _ σ1).pwa 1058 0 _ _ (by decide)
        have r' : ∀ i : Int, ra σ' 1058 0 i = if i = 4 * m + ((j : Nat) : Int) then v else ra σ1 1058 0 i := fun i => by
          rw [e']
          unfold wa
          rw [raf_wA, if_pos ⟨rfl, rfl⟩]
          rfl
        clear e'
        obtain ⟨v1, v2, v3, v4, v5, v6, v7, v8⟩ := hv
        have := ih (j + 1) σ' (by omega) w' ⟨by rw [g'.nra 1052 0 _ (by decide)]; exact v1, by rw [g'.nra 1053 0 _ (by decide)]; exact v2, by rw [g'.nra 1054 0 _ (by decide)]; exact v3, by rw [g'.nra 1055 0 _ (by decide)]; exact v4, by rw [g'.nra 1056 0 _ (by decide)]; exact v5, by rw [g'.nra 1057 0 _ (by decide)]; exact v6, by rw [g'.nra 1059 0 _ (by decide)]; exact v7, by rw [g'.nrs 1064 0 (by decide)]; exact v8⟩ (fun i hi => by
          rw [r']
          by_cases qi : i = j
          · subst qi; rw [if_pos rfl, hvv]
          · rw [if_neg (by omega)]; exact hkk i (by omega))
        rw [show ((j : Nat) : Int) + 1 = ((j + 1 : Nat) : Int) by omega]
        exact this
      refine wp_Model_keepOne_101 ⟨by omega, by rw [G1.nrl 1057 0, l57]; omega, by omega, by rw [G1.nrl 1057 0, l57]; omega, ?_⟩
      rw [E1 1057 (by decide), if_neg (by omega), G1.nrl 1058 0, l58, Ek]
      refine ⟨by omega, ⟨by omega, by omega⟩, ⟨by omega, by omega⟩, by omega, by omega, ⟨by omega, by omega⟩, ⟨by omega, by omega⟩, ?_⟩
      by_cases qk : 8200 ≤ ra σ0 1058 0 (4 * x + ((j : Nat) : Int))
      · rw [if_pos qk, G1.nrl 1109 0, l09, G1.nra 1109 0 _ (by decide)]
        have : ra σ0 1058 0 (4 * x + ((j : Nat) : Int)) < L := by omega
        refine ⟨by omega, ⟨by omega, by omega⟩, by omega, by omega, by omega, by omega, fun s36 e36 => ⟨⟨by omega, by omega⟩, step _ s36 ?_ e36⟩⟩
        show _ = if 8200 ≤ _ then _ else _
        rw [if_pos qk]
      · rw [if_neg qk]
        refine ⟨by omega, by omega, fun s40 e40 => ⟨⟨by omega, by omega⟩, step _ s40 ?_ e40⟩⟩
        show _ = if 8200 ≤ _ then _ else _
        rw [if_neg qk]
  refine wp_Model_keepOne ⟨by omega, by rw [hme]; exact ⟨by omega, by omega⟩, fun s3 e3 => ?_⟩
  rw [hme] at e3 ⊢
  have g3 : sq [(1063, 0)] σ s3 := by rw [e3]; exact (sq.rf _ σ).pws 1063 0 _ (by decide)
  have r3 : rs s3 1063 0 = m + 1 := by rw [e3, rs_ws, if_pos ⟨rfl, rfl⟩]
  clear e3
  have E3 : ∀ F, F ∈ ndc → ra s3 F 0 x = ra σ0 F 0 x := fun F hF => by
    rw [← E F hF]
    have : ∀ F, F ∈ ndc → ([(1063, 0)] : List (Nat × Int)).contains (F, 0) = false := by decide
    exact g3.nra F 0 x (this F hF)
  have w3 := nwK.rf m s3
  rw [g3.nrl 1052 0, l52, E3 1052 (by decide)]
  refine ⟨by omega, by omega, by omega, by omega, by omega, fun s7 e7 => ?_⟩
  have w7 : nwK m s3 s7 := by rw [e7]; exact w3.pwa (by decide) _
  have r7 : ra s7 1052 0 m = ra σ0 1052 0 x := by rw [e7]; exact wa_at _ _ _ _
  have g7 : sq [(1052, 0)] s3 s7 := by rw [e7]; exact (sq.rf _ s3).pwa 1052 0 _ _ (by decide)
  clear e7
  rw [w7.1.nrl 1053 0, g3.nrl 1053 0, l53, w7.2.1 1053 (by decide) x hxm, E3 1053 (by decide)]
  refine ⟨by omega, by omega, by omega, by omega, fun s12 e12 => ?_⟩
  have w12 : nwK m s3 s12 := by rw [e12]; exact w7.pwa (by decide) _
  have q12 : sq [(1053, 0)] s7 s12 := by rw [e12]; exact (sq.rf _ s7).pwa 1053 0 _ _ (by decide)
  have r12 : ra s12 1053 0 m = ra σ0 1053 0 x := by rw [e12]; exact wa_at _ _ _ _
  clear e12
  rw [w12.1.nrl 1054 0, g3.nrl 1054 0, l54, w12.2.1 1054 (by decide) x hxm, E3 1054 (by decide)]
  refine ⟨by omega, by omega, by omega, by omega, fun s17 e17 => ?_⟩
  have w17 : nwK m s3 s17 := by rw [e17]; exact w12.pwa (by decide) _
  have q17 : sq [(1054, 0)] s12 s17 := by rw [e17]; exact (sq.rf _ s12).pwa 1054 0 _ _ (by decide)
  have r17 : ra s17 1054 0 m = ra σ0 1054 0 x := by rw [e17]; exact wa_at _ _ _ _
  clear e17
  rw [w17.1.nrl 1055 0, g3.nrl 1055 0, l55, w17.2.1 1055 (by decide) x hxm, E3 1055 (by decide)]
  refine ⟨by omega, by omega, by omega, by omega, fun s22 e22 => ?_⟩
  have w22 : nwK m s3 s22 := by rw [e22]; exact w17.pwa (by decide) _
  have q22 : sq [(1055, 0)] s17 s22 := by rw [e22]; exact (sq.rf _ s17).pwa 1055 0 _ _ (by decide)
  have r22 : ra s22 1055 0 m = ra σ0 1055 0 x := by rw [e22]; exact wa_at _ _ _ _
  clear e22
  rw [w22.1.nrl 1056 0, g3.nrl 1056 0, l56, w22.2.1 1056 (by decide) x hxm, E3 1056 (by decide)]
  refine ⟨by omega, by omega, by omega, by omega, fun s27 e27 => ?_⟩
  have w27 : nwK m s3 s27 := by rw [e27]; exact w22.pwa (by decide) _
  have q27 : sq [(1056, 0)] s22 s27 := by rw [e27]; exact (sq.rf _ s22).pwa 1056 0 _ _ (by decide)
  have r27 : ra s27 1056 0 m = ra σ0 1056 0 x := by rw [e27]; exact wa_at _ _ _ _
  clear e27
  rw [w27.1.nrl 1057 0, g3.nrl 1057 0, l57, w27.2.1 1057 (by decide) x hxm, E3 1057 (by decide)]
  refine ⟨by omega, by omega, by omega, by omega, fun s32 e32 => ?_⟩
  have w32 : nwK m s3 s32 := by rw [e32]; exact w27.pwa (by decide) _
  have q32 : sq [(1057, 0)] s27 s32 := by rw [e32]; exact (sq.rf _ s27).pwa 1057 0 _ _ (by decide)
  have r32 : ra s32 1057 0 m = ra σ0 1057 0 x := by rw [e32]; exact wa_at _ _ _ _
  clear e32
  rw [w32.1.nrl 1059 0, g3.nrl 1059 0, l59, w32.2.1 1059 (by decide) x hxm, E3 1059 (by decide)]
  refine ⟨by omega, by omega, by omega, by omega, fun s37 e37 => ?_⟩
  have w37 : nwK m s3 s37 := by rw [e37]; exact w32.pwa (by decide) _
  have q37 : sq [(1059, 0)] s32 s37 := by rw [e37]; exact (sq.rf _ s32).pwa 1059 0 _ _ (by decide)
  have r37 : ra s37 1059 0 m = ra σ0 1059 0 x := by rw [e37]; exact wa_at _ _ _ _
  have q7 : sq [(1052, 0), (1053, 0), (1054, 0), (1055, 0), (1056, 0), (1057, 0), (1059, 0)] s7 s37 := (((((q12.mo (by decide)).tr (q17.mo (by decide))).tr (q22.mo (by decide))).tr (q27.mo (by decide))).tr (q32.mo (by decide))).tr (q37.mo (by decide))
  clear e37
  refine loop s3 g3 r3 kN 0 s37 (by omega) w37 ⟨?_, ?_, ?_, ?_, ?_, ?_, r37, ?_⟩ (fun i hi => absurd hi (by omega))
  · rw [q37.nra 1052 0 _ (by decide), q32.nra 1052 0 _ (by decide), q27.nra 1052 0 _ (by decide), q22.nra 1052 0 _ (by decide), q17.nra 1052 0 _ (by decide), q12.nra 1052 0 _ (by decide)]; exact r7
  · rw [q37.nra 1053 0 _ (by decide), q32.nra 1053 0 _ (by decide), q27.nra 1053 0 _ (by decide), q22.nra 1053 0 _ (by decide), q17.nra 1053 0 _ (by decide)]; exact r12
  · rw [q37.nra 1054 0 _ (by decide), q32.nra 1054 0 _ (by decide), q27.nra 1054 0 _ (by decide), q22.nra 1054 0 _ (by decide)]; exact r17
  · rw [q37.nra 1055 0 _ (by decide), q32.nra 1055 0 _ (by decide), q27.nra 1055 0 _ (by decide)]; exact r22
  · rw [q37.nra 1056 0 _ (by decide), q32.nra 1056 0 _ (by decide)]; exact r27
  · rw [q37.nra 1057 0 _ (by decide)]; exact r32
  · have qx : sq [(1052, 0), (1053, 0), (1054, 0), (1055, 0), (1056, 0), (1057, 0), (1059, 0)] s3 s37 := (g7.mo (by decide)).tr q7
    rw [qx.nrs 1064 0 (by decide), g3.nrs 1064 0 (by decide)]
end ZWa
