/-! A goal is remembered: the reference. -/
theorem nRs_exp2 {M : zM} {σ : jS} {L : Int} (h : ∀ m : Nat, ¬ memT M m = [] → nRs 8200 σ [ra σ 1069 0 ((m : Nat) : Int)] ((memT M m).map Sum.inl)) (hL : 8200 ≤ L) : ∀ {t : List zI} {ns : List Int}, nRs L σ ns t → (∀ m : Nat, .inr m ∈ t → ¬ memT M m = []) → nRs L σ ns ((expT M t).map Sum.inl) := by
  intro t
  induction t with
  | nil =>
    intro ns h _
    exact h
  | cons y t ih =>
    intro ns hh hi
    have hi2 : ∀ m : Nat, .inr m ∈ t → ¬ memT M m = [] := fun m hm => hi m (List.mem_cons_of_mem _ hm)
    cases ns with
    | nil => exact False.elim hh
    | cons n ns =>
      cases y with
      | inl z =>
        obtain ⟨c1, c2⟩ := hh
        rw [expT_inl, List.map_cons]
        exact ⟨c1, ih c2 hi2⟩
      | inr m =>
        obtain ⟨c1, c2⟩ := hh
        have h2 := h m (hi m List.mem_cons_self)
        rw [expT_inr, List.map_append, c1.2.2.2]
        exact nRs_app (n1 := [_]) (nRs_mo hL h2) (ih c2 hi2)
theorem kpn_inr {f : Int → List Int} {t : List zI} {m : Nat} : .inr m ∈ t.map (kpn f) ↔ .inr m ∈ t := by
  rw [List.mem_map]
  refine ⟨fun ⟨i, h1, h2⟩ => ?_, fun h => ⟨.inr m, h, rfl⟩⟩
  rcases i with ⟨a, b, c, d, e, u, y, _ | r⟩ | j
  · cases h2
  · cases h2
  · have : j = m := Sum.inr.inj h2
    rw [← this]; exact h1
theorem kpn_len {f : Int → List Int} {M : zM} : ∀ {t : List zI}, (expT M (t.map (kpn f))).length = (expT M t).length := by
  intro t
  induction t with
  | nil => rfl
  | cons y t ih =>
    rcases y with ⟨a, b, c, d, e, u, y, _ | r⟩ | j
    · rw [List.map_cons]
      show (expT M (.inl (a, b, c, d, e, u, y, some (f y)) :: t.map (kpn f))).length = _
      rw [expT_inl, expT_inl, List.length_cons, List.length_cons, ih]
    · rw [List.map_cons]
      show (expT M (.inl (a, b, c, d, e, u, y, some r) :: t.map (kpn f))).length = _
      rw [expT_inl, expT_inl, List.length_cons, List.length_cons, ih]
    · rw [List.map_cons]
      show (expT M (.inr j :: t.map (kpn f))).length = _
      rw [expT_inr, expT_inr, List.length_append, List.length_append, ih]
/-- nodes stay, and what is remembered below m -/
def mmK (m : Int) (σ σ' : jS) : Prop := rs σ 1063 0 ≤ rs σ' 1063 0 ∧ rs σ 1065 0 ≤ rs σ' 1065 0 ∧ (∀ F, F ∈ ndc → ∀ n : Int, n < rs σ 1063 0 ∨ (8200 ≤ n ∧ n < 8420) → ra σ' F 0 n = ra σ F 0 n) ∧ (∀ n k : Int, n < rs σ 1063 0 ∨ (8200 ≤ n ∧ n < 8420) → 0 ≤ k → k < 4 → ra σ' 1058 0 (4 * n + k) = ra σ 1058 0 (4 * n + k)) ∧ (∀ i : Int, i < rs σ 1065 0 → ra σ' 1062 0 i = ra σ 1062 0 i) ∧ ∀ j : Int, j < m → ra σ' 1066 0 j = ra σ 1066 0 j ∧ ra σ' 1067 0 j = ra σ 1067 0 j ∧ ra σ' 1069 0 j = ra σ 1069 0 j ∧ ∀ p : Int, p < 100 → ra σ' 1068 0 (100 * j + p) = ra σ 1068 0 (100 * j + p)
def rmQ : List (Nat × Int) := [(1066, 0), (1067, 0), (1068, 0), (1069, 0), (1070, 0), (1102, 0), (1109, 0), (1110, 0), (1039, 0), (1041, 0), (1042, 0), (1043, 0), (1044, 0), (1045, 0), (1052, 0), (1053, 0), (1054, 0), (1055, 0), (1056, 0), (1057, 0), (1058, 0), (1059, 0), (1060, 0), (1061, 0), (1062, 0), (1063, 0), (1064, 0), (1065, 0)]
section ZYa
variable {n : Nat} {σ0 σ σ1 σ2 : jS} {L N x m : Int} {f : Int → List Int} {g : zH} {β : List (Int × Int)} {M : zM}
theorem mmK.tr (h : mmK m σ σ1) (h' : mmK m σ1 σ2) : mmK m σ σ2 := by
  obtain ⟨a1, a2, a4, a5, a6, a7⟩ := h
  obtain ⟨b1, b2, b4, b5, b6, b7⟩ := h'
  refine ⟨by omega, by omega, fun F hF n hn => (b4 F hF n (by omega)).trans (a4 F hF n hn), fun n k hn k0 k1 => (b5 n k (by omega) k0 k1).trans (a5 n k hn k0 k1), fun i hi => (b6 i (by omega)).trans (a6 i hi), fun j hj => ?_⟩
  obtain ⟨c1, c2, c3, c4⟩ := a7 j hj
  obtain ⟨d1, d2, d3, d4⟩ := b7 j hj
  exact ⟨d1.trans c1, d2.trans c2, d3.trans c3, fun p hp => (d4 p hp).trans (c4 p hp)⟩
theorem ndK.mm (h : ndK 8420 σ σ1) (hm : m ≤ rs σ 1070 0) : mmK m σ σ1 := ⟨h.1, h.2.1, h.2.2.2.1, h.2.2.2.2.1, h.2.2.2.2.2.1, fun j hj => h.2.2.2.2.2.2 j (by omega)⟩
theorem mmK.nd (h : mmK m σ σ1) (hm : rs σ 1070 0 ≤ m) (hm2 : rs σ 1070 0 ≤ rs σ1 1070 0) : ndK 8420 σ σ1 := ⟨h.1, h.2.1, hm2, h.2.2.1, h.2.2.2.1, h.2.2.2.2.1, fun j hj => h.2.2.2.2.2 j (by omega)⟩
theorem mmK.of {l : List (Nat × Int)} (e : sq l σ σ1) (hl : (([(1052, 0), (1053, 0), (1054, 0), (1055, 0), (1056, 0), (1057, 0), (1058, 0), (1059, 0), (1060, 0), (1061, 0), (1062, 0), (1063, 0), (1065, 0)] : List (Nat × Int)).all (fun p => !l.contains p)) = true) (h : ∀ j : Int, j < m → ra σ1 1066 0 j = ra σ 1066 0 j ∧ ra σ1 1067 0 j = ra σ 1067 0 j ∧ ra σ1 1069 0 j = ra σ 1069 0 j ∧ ∀ p : Int, p < 100 → ra σ1 1068 0 (100 * j + p) = ra σ 1068 0 (100 * j + p)) : mmK m σ σ1 := by
  have hm : ∀ p, p ∈ ([(1052, 0), (1053, 0), (1054, 0), (1055, 0), (1056, 0), (1057, 0), (1058, 0), (1059, 0), (1060, 0), (1061, 0), (1062, 0), (1063, 0), (1065, 0)] : List (Nat × Int)) → l.contains p = false := fun p hp => by
    have := List.all_eq_true.mp hl p hp
    simpa using this
  have hn : ∀ F, F ∈ ndc → ((F, 0) : Nat × Int) ∈ ([(1052, 0), (1053, 0), (1054, 0), (1055, 0), (1056, 0), (1057, 0), (1058, 0), (1059, 0), (1060, 0), (1061, 0), (1062, 0), (1063, 0), (1065, 0)] : List (Nat × Int)) := by decide
  exact ⟨by rw [e.nrs 1063 0 (hm _ (by decide))]; exact Int.le_refl _, by rw [e.nrs 1065 0 (hm _ (by decide))]; exact Int.le_refl _, fun F hF n _ => e.nra F 0 n (hm _ (hn F hF)), fun n k _ _ _ => e.nra 1058 0 _ (hm _ (by decide)), fun i _ => e.nra 1062 0 i (hm _ (by decide)), h⟩
/-- a row's place at m is written -/
theorem mmK.at1 {F : Nat} {v : Int} (hF : F = 1066 ∨ F = 1067 ∨ F = 1069) (e : sq [(F, 0)] σ σ1) (e1 : σ1 = wa σ F 0 m v) : mmK m σ σ1 := by
  have hr : ∀ G : Nat, ∀ j : Int, j < m → ra σ1 G 0 j = ra σ G 0 j := fun G j hj => by
    rw [e1]
    unfold wa
    rw [raf_wA]
    by_cases q : G = F ∧ (0 : Int) = 0
    · rw [if_pos q]
      unfold upI
      rw [if_neg (by omega), ← q.1]
    · rw [if_neg q]
  refine mmK.of e (by rcases hF with w | w | w <;> rw [w] <;> decide) (fun j hj => ⟨hr _ j hj, hr _ j hj, hr _ j hj, fun p _ => e.nra 1068 0 _ (by rcases hF with w | w | w <;> rw [w] <;> decide)⟩)
/-- what is remembered, with one more -/
theorem mMem.more {sc : Int} {r : List Int} {T : List zN} {L : Int} (h : mMem σ M) (h40 : M.length < 40) (e : ndK L σ σ1) (hL : 8200 ≤ L) (h70 : rs σ1 1070 0 = rs σ 1070 0 + 1) (h63 : rs σ1 1063 0 ≤ rs σ 1063 0 + 200) (h65 : rs σ1 1065 0 ≤ 100 * rs σ1 1063 0) (hk : kcl σ1) (h66 : ra σ1 1066 0 ((M.length : Nat) : Int) = sc) (h67 : ra σ1 1067 0 ((M.length : Nat) : Int) = ((r.length : Nat) : Int)) (hr : r.length ≤ 100) (h68 : ∀ p : Nat, p < r.length → ra σ1 1068 0 (100 * ((M.length : Nat) : Int) + ((p : Nat) : Int)) = r.getD p 0) (hT : T.length ≤ 200) (hn : if T = [] then ra σ1 1069 0 ((M.length : Nat) : Int) = -1 else nRs 8200 σ1 [ra σ1 1069 0 ((M.length : Nat) : Int)] (T.map Sum.inl)) : mMem σ1 (M ++ [(sc, r, T)]) := by
  obtain ⟨h1, h2, h3, ⟨h4, h4b⟩, h5, h6, h7⟩ := h
  have hl : (M ++ [(sc, r, T)]).length = M.length + 1 := by simp
  refine ⟨by rw [hl, h70, h1]; omega, by omega, fun j hj => ?_, ⟨by have := e.1; omega, by rw [hl]; omega⟩, by have := e.2.1; omega, h65, hk⟩
  by_cases q : j < M.length
  · rw [List.getElem_append_left q]
    obtain ⟨c1, c2, c3, c4, c5, c6⟩ := h3 j q
    obtain ⟨d1, d2, d3, d4⟩ := e.2.2.2.2.2.2 ((j : Nat) : Int) (by omega)
    rw [d1, d2, d3]
    refine ⟨c1, c2, c3, fun p hp => ?_, c5, ?_⟩
    · rw [d4 _ (by omega)]
      exact c4 p hp
    · by_cases q : (M[j]).2.2 = []
      · rw [if_pos q] at c6 ⊢
        exact c6
      · rw [if_neg q] at c6 ⊢
        exact nRs_K (e.mo hL) c6
  · have ej : j = M.length := by omega
    subst ej
    have eg : (M ++ [(sc, r, T)])[M.length] = (sc, r, T) := by simp
    rw [eg]
    exact ⟨h66, h67, hr, h68, hT, hn⟩
set_option maxRecDepth 8000 in
theorem t_remember {Q : jS → Prop} {fr sc node : Int} {tr : Option (List zI)} (hn : 4 ≤ n) (f0 : 0 ≤ fr) (f1 : fr < 21) (hH : mT σ g N β) (ha : acy g N β) (hf : ∀ y, 0 ≤ y → y < N → f y = cno [] (ex g N β y)) (hM : mMem σ M) (h40 : M.length < 40) (hsc : rs σ 1108 0 = sc) (hx : ra σ 1071 0 fr = x) (x0 : 0 ≤ x) (x1 : x < N) (hxl : (ex g N β x).length ≤ 100) (hL0 : 8200 ≤ rs σ 1064 0) (hL : rs σ 1064 0 ≤ 8400) (hno : tr = none → node = -1) (hso : ∀ t, tr = some t → (0 ≤ node ∧ nRs (rs σ 1064 0) σ [node] t) ∧ (∀ z : zN, .inl z ∈ t → 0 ≤ nGl z ∧ nGl z < N) ∧ (∀ m : Nat, .inr m ∈ t → ¬ memT M m = []) ∧ (expT M t).length ≤ 200)
    (hq : ∀ σ', sq rmQ σ σ' → ndK 8420 σ σ' → rs σ' 1064 0 = rs σ 1064 0 → mMem σ' (M ++ [(sc, cno [] (ex g N β x), (match tr with | none => [] | some t => expT M (t.map (kpn f))))]) → (tr = none → rs σ' 1102 0 = -1) → (∀ t, tr = some t → 0 ≤ rs σ' 1102 0 ∧ nRs (rs σ' 1064 0) σ' [rs σ' 1102 0] (t.map (kpn f))) → Q σ') : TrV n i_Model_remember [jo 1 0, ji fr, ji node] σ Q := by
  have hm := hH.1
  have hM0 := hM
  obtain ⟨m1, m2, m3, ⟨m4, m4b⟩, m5, m6, m7⟩ := hM
  have l66 := mln_at hm 1066 40 (by decide)
  have l67 := mln_at hm 1067 40 (by decide)
  have l68 := mln_at hm 1068 4000 (by decide)
  have l69 := mln_at hm 1069 40 (by decide)
  have l71 := mln_at hm 1071 21 (by decide)
  have l41 := mln_at hm 1041 101 (by decide)
  refine wp_Model_remember ⟨by omega, ⟨by omega, by omega⟩, fun s3 e3 => ?_⟩
  rw [m1]
  generalize hme : ((M.length : Nat) : Int) = m at *
  have f3 : sq [(1070, 0)] σ s3 := by rw [e3]; exact (sq.rf _ σ).pws 1070 0 _ (by decide)
  have r3 : rs s3 1070 0 = m + 1 := by rw [e3, rs_ws, if_pos ⟨rfl, rfl⟩, m1]
  clear e3
  have K3 : mmK m σ s3 := mmK.of f3 (by decide) (fun j _ => ⟨f3.nra 1066 0 j (by decide), f3.nra 1067 0 j (by decide), f3.nra 1069 0 j (by decide), fun p _ => f3.nra 1068 0 _ (by decide)⟩)
  rw [f3.nrl 1066 0, l66, f3.nrs 1108 0 (by decide), hsc]
  refine ⟨by omega, by omega, by omega, fun s5 e5 => ?_⟩
  have g5 : sq [(1066, 0)] s3 s5 := by rw [e5]; exact (sq.rf _ s3).pwa 1066 0 _ _ (by decide)
  have r5 : ra s5 1066 0 m = sc := by rw [e5]; exact wa_at _ _ _ _
  have K5 : mmK m σ s5 := K3.tr (mmK.at1 (Or.inl rfl) g5 e5)
  clear e5
  have f5 : sq [(1066, 0), (1070, 0)] σ s5 := (f3.mo (by decide)).tr (g5.mo (by decide))
  rw [f5.nrl 1067 0, f5.nrl 1071 0, l67, l71, f5.nra 1071 0 _ (by decide), hx]
  refine ⟨by omega, by omega, by omega, by omega, by omega, t_layOut (by omega) (hH.sq f5 (by decide)) ha x0 x1 (fun s13 f13 hl => ?_)⟩
  have hta : (ex g N β x).take 100 = ex g N β x := List.take_of_length_le hxl
  rw [hta] at hl
  rw [f13.nrl 1067 0, f5.nrl 1067 0, l67, if_pos hxl]
  refine ⟨by omega, by omega, fun s15 e15 => ?_⟩
  have g15 : sq [(1067, 0)] s13 s15 := by rw [e15]; exact (sq.rf _ s13).pwa 1067 0 _ _ (by decide)
  have r15 : ra s15 1067 0 m = (((ex g N β x).length : Nat) : Int) := by rw [e15]; exact wa_at _ _ _ _
  have K13 : mmK m s5 s13 := mmK.of f13 (by decide) (fun j _ => ⟨f13.nra 1066 0 j (by decide), f13.nra 1067 0 j (by decide), f13.nra 1069 0 j (by decide), fun p _ => f13.nra 1068 0 _ (by decide)⟩)
  have K15 : mmK m σ s15 := (K5.tr K13).tr (mmK.at1 (Or.inr (Or.inl rfl)) g15 e15)
  clear e15
  have f15 : sq ((1066, 0) :: (1067, 0) :: (1070, 0) :: oF) σ s15 := ((f5.mo (by decide)).tr (f13.mo (by decide))).tr (g15.mo (by decide))
  rw [f15.nrl 1041 0, f15.nrl 1068 0, l41, l68, g15.nrs 1043 0 (by decide), hl.1]
  refine ⟨by omega, by omega, ⟨by omega, by omega⟩, t_copy rfl rfl (by decide) (by decide) (by omega) (by rw [f15.nrl 1041 0, l41]; omega) (by omega) (by rw [f15.nrl 1068 0, l68]; omega) (by rw [f15.nrl 1041 0, l41]; omega) (by rw [f15.nrl 1068 0, l68]; omega) (fun s21 g21 r21 => ?_)⟩
  have K21 : mmK m σ s21 := K15.tr (mmK.of g21 (by decide) (fun j hj => ⟨g21.nra 1066 0 j (by decide), g21.nra 1067 0 j (by decide), g21.nra 1069 0 j (by decide), fun p hp => by rw [r21, if_neg (by omega)]⟩))
  have f21 : sq ((1066, 0) :: (1067, 0) :: (1068, 0) :: (1070, 0) :: oF) σ s21 := (f15.mo (by decide)).tr (g21.mo (by decide))
  have v66 : ra s21 1066 0 m = sc := by rw [g21.nra 1066 0 _ (by decide), g15.nra 1066 0 _ (by decide), f13.nra 1066 0 _ (by decide)]; exact r5
  have v67 : ra s21 1067 0 m = (((cno [] (ex g N β x)).length : Nat) : Int) := by rw [g21.nra 1067 0 _ (by decide), r15, cno_len]
  have v68 : ∀ p : Nat, p < (cno [] (ex g N β x)).length → ra s21 1068 0 (100 * m + ((p : Nat) : Int)) = (cno [] (ex g N β x)).getD p 0 := fun p hp => by
    rw [cno_len] at hp
    rw [r21, if_pos (by omega), show (0 : Int) + (100 * m + ((p : Nat) : Int) - 100 * m) = ((p : Nat) : Int) by omega, g15.nra 1041 0 _ (by decide)]
    exact hl.2.1 p (by omega)
  have v70 : rs s21 1070 0 = m + 1 := by rw [g21.nrs 1070 0 (by decide), g15.nrs 1070 0 (by decide), f13.nrs 1070 0 (by decide), g5.nrs 1070 0 (by decide)]; exact r3
  have v64 : rs s21 1064 0 = rs σ 1064 0 := f21.nrs 1064 0 (by decide)
  have v63 : rs s21 1063 0 = rs σ 1063 0 := f21.nrs 1063 0 (by decide)
  have v65 : rs s21 1065 0 = rs σ 1065 0 := f21.nrs 1065 0 (by decide)
  have k21 : kcl s21 := m7.sq f21 (by decide)
  have N21 : ndK 8420 σ s21 := K21.nd (by omega) (by omega)
  have H21 : mT s21 g N β := hH.sq f21 (by decide)
  have hcl : (cno [] (ex g N β x)).length ≤ 100 := by rw [cno_len]; exact hxl
  have memK : ∀ σ', ndK 8420 σ σ' → ∀ j : Nat, ¬ memT M j = [] → nRs 8200 σ' [ra σ' 1069 0 ((j : Nat) : Int)] ((memT M j).map Sum.inl) := fun σ' e j hj => by
    obtain ⟨a1, a2, a3⟩ := mMem_root hM0 hj
    rw [(e.2.2.2.2.2.2 ((j : Nat) : Int) (by omega)).2.2.1]
    exact nRs_K (e.mo (by decide)) a2
  -- how it ends
  have fin : ∀ (to : Int) (s s26 s32 : jS), mmK m σ s → sq rmQ σ s → (ra s 1066 0 m = sc ∧ ra s 1067 0 m = (((cno [] (ex g N β x)).length : Nat) : Int) ∧ (∀ p : Nat, p < (cno [] (ex g N β x)).length → ra s 1068 0 (100 * m + ((p : Nat) : Int)) = (cno [] (ex g N β x)).getD p 0) ∧ rs s 1070 0 = m + 1 ∧ rs s 1064 0 = rs σ 1064 0) → rs s 1063 0 ≤ rs σ 1063 0 + 200 → rs s 1065 0 ≤ 100 * rs s 1063 0 → kcl s → s26 = wa s 1069 0 m to → s32 = ws s26 1102 0 (ra s26 1069 0 m) → (tr = none → to = -1) → (∀ t, tr = some t → 0 ≤ to ∧ nRs 8200 s [to] (t.map (kpn f))) → Q s32 := by
    intro to s s26 s32 Ks fs hv u63 u65 hks e26 e32 hn1 hs1
    obtain ⟨w66, w67, w68, w70, w64⟩ := hv
    have g26 : sq [(1069, 0)] s s26 := by rw [e26]; exact (sq.rf _ s).pwa 1069 0 _ _ (by decide)
    have r26 : ra s26 1069 0 m = to := by rw [e26]; exact wa_at _ _ _ _
    have K26 : mmK m σ s26 := Ks.tr (mmK.at1 (Or.inr (Or.inr rfl)) g26 e26)
    clear e26
    have g32 : sq [(1102, 0)] s26 s32 := by rw [e32]; exact (sq.rf _ s26).pws 1102 0 _ (by decide)
    have r32 : rs s32 1102 0 = to := by rw [e32, rs_ws, if_pos ⟨rfl, rfl⟩, r26]
    clear e32
    have g6 : sq [(1069, 0), (1102, 0)] s s32 := (g26.mo (by decide)).tr (g32.mo (by decide))
    have K32 : mmK m σ s32 := K26.tr (mmK.of g32 (by decide) (fun j _ => ⟨g32.nra 1066 0 j (by decide), g32.nra 1067 0 j (by decide), g32.nra 1069 0 j (by decide), fun p _ => g32.nra 1068 0 _ (by decide)⟩))
    have c70 : rs s32 1070 0 = m + 1 := by rw [g6.nrs 1070 0 (by decide)]; exact w70
    have c64 : rs s32 1064 0 = rs σ 1064 0 := by rw [g6.nrs 1064 0 (by decide)]; exact w64
    have N32 : ndK 8420 σ s32 := K32.nd (by omega) (by omega)
    have c69 : ra s32 1069 0 m = to := by rw [g32.nra 1069 0 _ (by decide)]; exact r26
    -- nodes stay from s on
    have hs2 : ∀ t, tr = some t → 0 ≤ to ∧ nRs 8200 s32 [to] (t.map (kpn f)) := fun t ht => by
      obtain ⟨a1, a2⟩ := hs1 t ht
      refine ⟨a1, ?_⟩
      -- the remembered ones that are in it lie below m
      have hin : ∀ j : Nat, .inr j ∈ t.map (kpn f) → ((j : Nat) : Int) < m := fun j hj => by
        have := (hso t ht).2.2.1 j (kpn_inr.mp hj)
        have := (mMem_root hM0 this).1
        omega
      revert a2 hin
      generalize t.map (kpn f) = tt
      generalize [to] = ns
      intro a2 hin
      induction tt generalizing ns with
      | nil =>
        cases ns with
        | nil => trivial
        | cons n ns => exact False.elim a2
      | cons y tt ih =>
        cases ns with
        | nil => exact False.elim a2
        | cons n ns =>
          cases y with
          | inl z =>
            obtain ⟨c1, c2⟩ := a2
            obtain ⟨d1, d2, d3, d4, d5, d6, d7, d8, d9, d10⟩ := c1
            have ek : kidL s32 n z.2.2.2.2.2.1.toNat = kidL s n z.2.2.2.2.2.1.toNat := by
              unfold kidL
              exact List.map_congr_left (fun j _ => g6.nra 1058 0 _ (by decide))
            have es : sumA s32 (kidL s n z.2.2.2.2.2.1.toNat) = sumA s (kidL s n z.2.2.2.2.2.1.toNat) := by
              unfold sumA
              congr 1
              exact List.map_congr_left (fun j _ => g6.nra 1059 0 _ (by decide))
            refine ⟨⟨d1, by rw [g6.nra 1052 0 _ (by decide)]; exact d2, by rw [g6.nra 1053 0 _ (by decide)]; exact d3, by rw [g6.nra 1054 0 _ (by decide)]; exact d4, by rw [g6.nra 1055 0 _ (by decide)]; exact d5, by rw [g6.nra 1056 0 _ (by decide)]; exact d6, by rw [g6.nra 1057 0 _ (by decide)]; exact d7, d8, by rw [ek, es, g6.nra 1059 0 _ (by decide)]; exact d9, ?_⟩, ?_⟩
            · cases hz : z.2.2.2.2.2.2.2 with
              | none =>
                rw [hz] at d10
                exact absurd d10.1 (by omega)
              | some r =>
                rw [hz] at d10
                obtain ⟨b1, b2, b3⟩ := d10
                refine ⟨by rw [g6.nrs 1063 0 (by decide)]; exact b1, by rw [g6.nra 1061 0 _ (by decide)]; exact b2, fun hr => ?_⟩
                rw [g6.nra 1060 0 _ (by decide), g6.nrs 1065 0 (by decide), g6.nraf 1062 0 (by decide)]
                exact b3 hr
            · rw [ek]
              exact ih _ c2 (fun j hj => hin j (List.mem_cons_of_mem _ hj))
          | inr j =>
            obtain ⟨⟨b1, b2, b3, b4⟩, c2⟩ := a2
            have hj := hin j List.mem_cons_self
            refine ⟨⟨b1, by rw [g6.nrs 1063 0 (by decide)]; exact b2, by rw [g6.nrs 1070 0 (by decide)]; exact b3, ?_⟩, ih _ c2 (fun j hj => hin j (List.mem_cons_of_mem _ hj))⟩
            rw [b4, g32.nra 1069 0 _ (by decide)]
            have e1 := (K26.2.2.2.2.2 ((j : Nat) : Int) hj).2.2.1
            have e2 := (Ks.2.2.2.2.2 ((j : Nat) : Int) hj).2.2.1
            rw [e1, e2]
    refine hq s32 (fs.tr (g6.mo (by decide))) N32 c64 ?_ (fun hn2 => by rw [r32]; exact hn1 hn2) (fun t ht => by rw [r32]; exact ⟨(hs2 t ht).1, nRs_mo (by omega) (hs2 t ht).2⟩)
    refine hM0.more h40 N32 (by omega) (by omega) (by rw [g6.nrs 1063 0 (by decide)]; exact u63) (by rw [g6.nrs 1065 0 (by decide), g6.nrs 1063 0 (by decide)]; exact u65) (hks.sq g6 (by decide)) ?_ ?_ hcl ?_ ?_ ?_
    · rw [hme, g6.nra 1066 0 _ (by decide)]; exact w66
    · rw [hme, g6.nra 1067 0 _ (by decide)]; exact w67
    · rw [hme, g6.nraf 1068 0 (by decide)]; exact w68
    · cases tr with
      | none => exact Nat.zero_le _
      | some t =>
        show (expT M (t.map (kpn f))).length ≤ 200
        rw [kpn_len]
        exact (hso t rfl).2.2.2
    · rw [hme, c69]
      cases tr with
      | none => rw [if_pos rfl]; exact hn1 rfl
      | some t =>
        obtain ⟨a1, a2⟩ := hs2 t rfl
        have hx2 := nRs_exp2 (memK s32 N32) (Int.le_refl _) a2 (fun j hj => (hso t rfl).2.2.1 j (kpn_inr.mp hj))
        rw [if_neg (fun w => ?_)]
        · exact hx2
        · have w2 : expT M (t.map (kpn f)) = [] := w
          rw [w2] at hx2
          exact hx2
  have f21' : sq rmQ σ s21 := f21.mo (by decide)
  rw [f21.nrl 1069 0, l69]
  refine ⟨by omega, ?_⟩
  by_cases q8 : 8200 ≤ node
  · rw [if_pos q8]
    cases ht : tr with
    | none => have := hno ht; omega
    | some t =>
      obtain ⟨⟨a0, a1⟩, a2, a3, a4⟩ := hso t ht
      have a1' : nRs (rs s21 1064 0) s21 [node] t := by rw [v64]; exact nRs_K (N21.mo (by omega)) a1
      have hst := nRs_stys a1 node (List.mem_singleton.mpr rfl)
      refine t_keep (f := f) (by omega) H21 ha hf k21 (by omega) (by omega) (by omega) (by omega) (by omega) q8 (by omega) ⟨t, a1', a2⟩ (fun to s24 hI hok => ?_)
      obtain ⟨h1, h2, h3, h4, h5, h6, h7⟩ := hI
      have hcn := cnP_le (ra s24 1109 0) (rs s21 1064 0 - 8200).toNat
      rw [h1.nrl 1069 0, f21.nrl 1069 0, l69]
      refine ⟨by omega, by omega, fun s26 e26 => ?_⟩
      have g26 : sq [(1069, 0)] s24 s26 := by rw [e26]; exact (sq.rf _ s24).pwa 1069 0 _ _ (by decide)
      rw [g26.nrl 1069 0, h1.nrl 1069 0, f21.nrl 1069 0, l69]
      refine ⟨by omega, by omega, by omega, fun s32 e32 => ?_⟩
      refine fin to s24 s26 s32 (K21.tr (h2.mm (by omega))) (f21'.tr (h1.mo (by decide))) ⟨?_, ?_, ?_, ?_, ?_⟩ (by omega) h4.2 h3 e26 e32 (fun w => (by rw [ht] at w; cases w)) (fun t' ht' => ?_)
      · rw [h1.nra 1066 0 _ (by decide)]; exact v66
      · rw [h1.nra 1067 0 _ (by decide)]; exact v67
      · rw [h1.nraf 1068 0 (by decide)]; exact v68
      · rw [h1.nrs 1070 0 (by decide)]; exact v70
      · rw [h6]; exact v64
      · rw [ht] at ht'
        cases ht'
        exact ⟨hok.1.1, hok.2.2 t a1'⟩
  · rw [if_neg q8]
    refine ⟨by omega, by omega, fun s33 e33 => ?_⟩
    have g33 : sq [(1069, 0)] s21 s33 := by rw [e33]; exact (sq.rf _ s21).pwa 1069 0 _ _ (by decide)
    rw [g33.nrl 1069 0, f21.nrl 1069 0, l69]
    refine ⟨by omega, by omega, by omega, fun s39 e39 => ?_⟩
    refine fin node s21 s33 s39 K21 f21' ⟨v66, v67, v68, v70, v64⟩ (by omega) (by omega) k21 e33 e39 hno (fun t ht => ?_)
    obtain ⟨⟨a0, a1⟩, a2, a3, a4⟩ := hso t ht
    have hst := nRs_stys a1
    obtain ⟨b1, b2⟩ := nRs_kept (f := f) m7 (by omega) a1 (fun k hk => by
      have := hst k hk
      rw [List.mem_singleton] at hk
      omega)
    rw [b2]
    exact ⟨a0, nRs_K (N21.mo (by decide)) b1⟩
end ZYa
